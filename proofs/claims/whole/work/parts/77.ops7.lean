/-! PURE: which bale had best be spared, given -/
def chL (cond : Nat → Bool) (rk td : Nat → Int) (acc : Option (Int32 × Int × Int)) (b : Nat) : Nat → Option (Int32 × Int × Int)
  | 0 => acc
  | m + 1 => chL cond rk td (if cond b = true then offR acc (In b, rk b, td b) else acc) (b + 1) m
def scP (a : Nat) : Prop := dyP 100 a ∨ a = 7
theorem fp_sc {σ σ' : Sg} (h : fp scP σ σ') : fp gaP σ σ' := fp_wk h fun a ha => by unfold scP dyP plP at ha; unfold gaP plP; omega
theorem Rc_sc {σ σ' : Sg} {S : Rw} (hS : OkR S) (h : Rc σ 81 S) (hf : fp scP σ σ') : Rc σ' 81 S := Rc_c hS h fun a ha => hf a (by unfold coP at ha; unfold scP dyP plP; omega)
theorem Rl_sc {σ σ' : Sg} {S : Rw} (hS : OkR S) (h : Rl σ S) (hf : fp scP σ σ') : Rl σ' S := Rl_c hS h fun a h1 h2 h3 => hf a (by unfold scP dyP plP; omega)
/-- a bale gone, or of another farm: thought -/
def goneS (S : Rw) (b : Nat) : Rw := upd S (7 + 6 * b + 2) (In 36)
def farmS (S : Rw) (b : Nat) : Rw := upd S (7 + 6 * b + 1) (In 1)
theorem gone_k {S : Rw} {b : Nat} (hS : Ok S) (hb : b < nb S) : Kp S (goneS S b) := by
  have h12 := hS.1.1.2
  exact Kp_of hS (ok_gone hS.1 hb) (nb_upd (by omega)) (eqT_upd _ _ (by omega) (by omega))
theorem farm_k {S : Rw} {b : Nat} (hS : Ok S) (hb : b < nb S) : Kp S (farmS S b) := by
  have h12 := hS.1.1.2
  exact Kp_of hS (ok_upd hS.1 hb (Or.inr (Or.inl ⟨rfl, by omega⟩))) (nb_upd (by omega)) (eqT_upd _ _ (by omega) (by omega))
theorem c66 {σ : Sg} {b : Nat} {S : Rw} (hS : Ok S) (hc : Rc σ 81 S) (hb : b < nb S) : ∃ σ', J66 (In b) σ = some σ' ∧ Rc σ' 100 (goneS S b) ∧ fp (dyP 100) σ σ' := by
  obtain ⟨σ1, a1, a2, a3⟩ := c49 (o := 100) (r := 81) hS.1 (by omega) hc
  obtain ⟨σ2, b1, b2, b3⟩ := c8 (o := 100) (v := 36) hS.1 a2 hb (by omega) (Or.inl rfl)
  unfold J66
  rw [a1, Option.bind_some, show J8 100 (In b) 36 σ1 = _ from b1, Option.bind_some]
  exact ⟨σ2, rfl, b2, fp_tr (fp_co100 a3) (fp_wk b3 fun a ha => by unfold boP at ha; unfold dyP; omega)⟩
theorem c66f {σ : Sg} {b : Nat} {S : Rw} (hS : Ok S) (hc : Rc σ 81 S) (hb : b < nb S) : ∃ σ', J49 100 81 σ = some σ' ∧ Rc (hy_up σ' (107 + b) 1 1) 100 (farmS S b) ∧ fp (dyP 100) σ (hy_up σ' (107 + b) 1 1) := by
  have h12 := hS.1.1.2
  obtain ⟨σ1, a1, a2, a3⟩ := c49 (o := 100) (r := 81) hS.1 (by omega) hc
  exact ⟨σ1, a1, Rc_fld hS.1 a2 hb (w := 1) (by omega) (by omega) _, fp_tr (fp_co100 a3) (fp_up _ _ _ _ (by unfold dyP; omega))⟩
theorem z_abs {a : Int} (h1 : -2147483648 < a) (h2 : a < 2147483648) : (if 0 ≤ Zn a then Zn a else 0 - Zn a) = Zn (if 0 ≤ a then a else -a) := by
  by_cases h : 0 ≤ a
  · rw [if_pos h, if_pos (show (0 : Int32) ≤ Zn a by show Zn 0 ≤ Zn a; rw [z_le (by omega) (by omega) (by omega) (by omega)]; exact h)]
  · rw [if_neg h, if_neg (show ¬ (0 : Int32) ≤ Zn a by show ¬ Zn 0 ≤ Zn a; rw [z_le (by omega) (by omega) (by omega) (by omega)]; exact h), show (0 : Int32) = Zn 0 from rfl, z_sub]
    congr 1
    omega
theorem m144z {a : Int} (h1 : -2147483648 < a) (h2 : a < 2147483648) (σ : Sg) : J144 (Zn a) 0 σ = some (Zn (if 0 ≤ a then a else -a), σ) := by
  rw [← z_abs h1 h2]
  unfold J144
  rw [Int32.sub_zero]
  split <;> rfl
def abZ (a : Int) : Int := if 0 ≤ a then a else -a
/-- the reference's best so far -/
def rpM (g : Int → Int) (acc : Option (Int32 × Int × Int)) (x3 x4 : Int32) : Prop := match acc with
  | none => x3 = -1
  | some a => x3 = a.1 ∧ (∃ b, b < 12 ∧ a.1 = In b) ∧ x4 = Zn a.2.2 ∧ a.2.1 = g a.2.2 ∧ -12096 ≤ a.2.2 ∧ a.2.2 ≤ 12096
theorem rpM_end {g : Int → Int} {acc : Option (Int32 × Int × Int)} {x3 x4 : Int32} (h : rpM g acc x3 x4) (w : Int32) (σ : Sg) : (if 0 ≤ x3 then (if w = 0 then some (x3, σ) else some (x4, σ)) else some (-1000000005, σ)) = some (tlR w acc, σ) := by
  cases acc with
  | none =>
    rw [show x3 = -1 from h, if_neg (by decide)]
    rfl
  | some a =>
    obtain ⟨h1, ⟨b, hb, h2⟩, h3, h4, h5⟩ := h
    rw [h1, h3, h2, if_pos (show (0 : Int32) ≤ In b by show In 0 ≤ In b; rw [n_le (by omega) (by omega)]; omega)]
    unfold tlR
    dsimp only
    rw [h2]
    split <;> rfl
def spC (S : Rw) (b : Nat) : Bool := decide (bf S b 2 < 36)
def spL (S : Rw) (n b : Nat) : Int := ldS (dyN n (goneS S b)) (bf S b 1)
def spR (S : Rw) (n b : Nat) : Int := id (spL S n b)
theorem sp_bd {S : Rw} {n b : Nat} (hS : Ok S) (hb : b < nb S) : -12096 ≤ spL S n b ∧ spL S n b ≤ 12096 := ldS_bd (dyN_k (gone_k hS hb).1).1.1 _
theorem sp_c {S : Rw} (hS : Ok S) {n : Nat} (hn : n < 3000) (w : Int32) : ∀ (m b f : Nat) (acc : Option (Int32 × Int × Int)) (σ : Sg), Rc σ 81 S → Rl σ S → chR σ 7 acc → b + m = nb S → m < f → ∃ σ', J65_3 f (In n) w (In b) σ = some (tlR w (chL (spC S) (spR S n) (spL S n) acc b m), σ') ∧ fp scP σ σ' := by
  have h12 := hS.1.1.2
  intro m
  induction m with
  | zero =>
    intro b f acc σ hc hl hch hb hf
    obtain ⟨f, rfl⟩ : ∃ g, f = g + 1 := ⟨f - 1, by omega⟩
    unfold J65_3
    rw [hc.1.1, hS.1.1.1, i_le (by omega) (by omega), if_pos (by omega), c47 hch w, Option.bind_some]
    exact ⟨σ, rfl, fp_rf _ _⟩
  | succ m ih =>
    intro b f acc σ hc hl hch hb hf
    obtain ⟨f, rfl⟩ : ∃ g, f = g + 1 := ⟨f - 1, by omega⟩
    have hbn : b < nb S := by omega
    obtain ⟨-, ⟨f1, f2⟩, -, -⟩ := hS.1.2.1 b hbn
    have hk := gone_k hS hbn
    have hD := Kp_tr hk (dyN_k (n := n) hk.1)
    have hbd := sp_bd (n := n) hS hbn
    have hs : chL (spC S) (spR S n) (spL S n) acc b (m + 1) = chL (spC S) (spR S n) (spL S n) (if spC S b = true then offR acc (In b, spR S n b, spL S n b) else acc) (b + 1) m := rfl
    unfold J65_3 J65_4
    rw [hc.1.1, hS.1.1.1, i_le (by omega) (by omega), if_neg (by omega), c9 hS.1 hc hbn, Option.bind_some, i_b2, n_p1, hs]
    dsimp only
    by_cases h1 : ¬(bf S b 2 < 36)
    · rw [if_neg h1]
      rw [if_neg (show ¬ spC S b = true by unfold spC; simp [h1])]
      exact ih (b + 1) f acc σ hc hl hch (by omega) (by omega)
    replace h1 := Classical.not_not.mp h1
    rw [if_pos h1]
    rw [if_pos (show spC S b = true by unfold spC; simp [h1])]
    obtain ⟨σ1, a1, a2, a3⟩ := c66 hS hc hbn
    rw [a1, Option.bind_some]
    obtain ⟨σ2, b1, b2, b3⟩ := c58 (o := 100) (n := n) hk.1 (by omega) hn a2 (eqT_Rl hk.2.2 (Rl_dy (by omega) hS.1 hl a3))
    have f2' := fp_tr a3 b3
    rw [b1, Option.bind_some, if_pos (ib_n (by omega) (by omega)), n_ix (by omega), show σ2 (88 + b) = σ (88 + b) from f2' _ (by unfold dyP plP; omega), rc81 hc hbn (by omega), f1]
    obtain ⟨σ3, d1, d2, d3⟩ := c45 (o := 100) (fm := bf S b 1) (by omega) hD.1 b2 (eqT_Rl hD.2.2 (Rl_dy (by omega) hS.1 hl f2')) f2
    have f3 := fp_tr f2' (fp_va100 d2)
    rw [d1, Option.bind_some]
    dsimp only
    obtain ⟨σ4, e1, e2, e3⟩ := c46 (c := In b) (r := spR S n b) (t := spL S n b) (chR_c hch (f3 7 (by unfold dyP plP; omega))) (In_no (by omega)) (by unfold spR; exact (by have := hbd.1; show _ ≤ spL S n b; omega)) (by unfold spR; exact (by have := hbd.2; show spL S n b < _; omega))
    have f4 : fp scP σ σ4 := fp_tr (fp_wk f3 fun a ha => Or.inl ha) (fp_wk e3 fun a ha => Or.inr ha)
    rw [show J46 7 (In b) (Zn (ldS (dyN n (goneS S b)) (bf S b 1))) (Zn (ldS (dyN n (goneS S b)) (bf S b 1))) σ3 = _ from e1, Option.bind_some]
    obtain ⟨σ5, r1, r2⟩ := ih (b + 1) f _ σ4 (Rc_sc hS.1 hc f4) (Rl_sc hS.1 hl f4) e2 (by omega) (by omega)
    exact ⟨σ5, r1, fp_tr f4 r2⟩
theorem sp_m {S : Rw} (hS : Ok S) {n : Nat} (hn : n < 3000) (w : Int32) : ∀ (m b f : Nat) (acc : Option (Int32 × Int × Int)) (x3 x4 : Int32) (τ : Sg), τ 139 = S → (∀ k, k < 79 → τ 144 k = S k) → rpM id acc x3 x4 → b + m = nb S → m < f → ∃ τ', J179_3 f (In n) w x3 x4 (In b) τ = some (tlR w (chL (spC S) (spR S n) (spL S n) acc b m), τ') ∧ fr gaL τ τ' := by
  have h12 := hS.1.1.2
  intro m
  induction m with
  | zero =>
    intro b f acc x3 x4 τ hs h4 hr hb hf
    obtain ⟨f, rfl⟩ : ∃ g, f = g + 1 := ⟨f - 1, by omega⟩
    unfold J179_3
    rw [hs, hS.1.1.1, i_le (by omega) (by omega), if_pos (by omega), rpM_end hr w τ]
    exact ⟨τ, rfl, fr_rf _ _⟩
  | succ m ih =>
    intro b f acc x3 x4 τ hs h4 hr hb hf
    obtain ⟨f, rfl⟩ : ∃ g, f = g + 1 := ⟨f - 1, by omega⟩
    have hbn : b < nb S := by omega
    obtain ⟨-, ⟨f1, f2⟩, -, -⟩ := hS.1.2.1 b hbn
    have hk := gone_k hS hbn
    have hD := Kp_tr hk (dyN_k (n := n) hk.1)
    have hbd := sp_bd (n := n) hS hbn
    have hs' : chL (spC S) (spR S n) (spL S n) acc b (m + 1) = chL (spC S) (spR S n) (spL S n) (if spC S b = true then offR acc (In b, spR S n b, spL S n b) else acc) (b + 1) m := rfl
    have skip : spC S b = false → ∃ τ', J179_5 (J179_3 f) (In n) w x3 x4 (In b) τ = some (tlR w (chL (spC S) (spR S n) (spL S n) acc b (m + 1)), τ') ∧ fr gaL τ τ' := by
      intro hcb
      unfold J179_5
      rw [n_p1, hs', hcb, if_neg (by decide)]
      exact ih (b + 1) f acc x3 x4 τ hs h4 hr (by omega) (by omega)
    unfold J179_3
    rw [hs, hS.1.1.1, i_le (by omega) (by omega), if_neg (by omega), m162 (by rw [hs]; exact hS.1) (by rw [hs]; exact hbn), Option.bind_some, i_b2, hs]
    dsimp only
    by_cases h1 : ¬(bf S b 2 < 36)
    · rw [if_neg h1]
      exact skip (by unfold spC; simp [h1])
    replace h1 := Classical.not_not.mp h1
    rw [if_pos h1, show J128 (In b) 1 τ = _ from m128 (w := 1) (by omega) τ, Option.bind_some, hs, f1]
    dsimp only
    have hcb : spC S b = true := by
      unfold spC
      simp [h1]
    rw [show J130 (In b) 2 36 τ = _ from m130 (w := 2) (by omega) 36 τ, Option.bind_some, hs]
    obtain ⟨τ1, a1, a2, a3⟩ := m169 (n := n) hn (σ := wr τ (goneS S b)) (wr_at _ _) hk.1
    rw [show J169 (In n) (wr τ (upd S (7 + 6 * b + 2) 36)) = _ from a1, Option.bind_some]
    obtain ⟨τ2, b1, b2⟩ := m161 (fm := bf S b 1) a2 hD.1 f2
    rw [b1, Option.bind_some]
    dsimp only
    have f02 : fr (139 :: gaL) τ τ2 := fr_tr (fr_tr (fr_wr _ _ (by simp)) (fr_wk a3 fun a ha => by simp [dyL] at ha; simp [gaL]; omega)) (fr_wk b2 (by simp [gaL]))
    have h144 : ∀ k, k < 79 → τ2 144 k = S k := fun k hk' => by
      rw [fr_row b2 (by omega) (by simp), fr_row a3 (by omega) (by simp [dyL]), wr_ne _ _ (by omega)]
      exact h4 k hk'
    have h139 : τ2 139 = dyN n (goneS S b) := (fr_row b2 (by omega) (by simp)).trans a2
    rw [m176b h144 (by rw [h139]; exact hD.2.2), Option.bind_some]
    have fb := fr_back hs f02
    have h144b : ∀ k, k < 79 → wr τ2 S 144 k = S k := fun k hk' => by rw [wr_ne _ _ (by omega)]; exact h144 k hk'
    -- taken or kept
    have go : ∀ (acc' : Option (Int32 × Int × Int)) (y3 y4 : Int32), rpM id acc' y3 y4 → offR acc (In b, spR S n b, spL S n b) = acc' → ∃ τ', J179_3 f (In n) w y3 y4 (In (b + 1)) (wr τ2 S) = some (tlR w (chL (spC S) (spR S n) (spL S n) acc b (m + 1)), τ') ∧ fr gaL τ τ' := by
      intro acc' y3 y4 q1 q2
      obtain ⟨τ', r1, r2⟩ := ih (b + 1) f acc' y3 y4 (wr τ2 S) (wr_at _ _) h144b q1 (by omega) (by omega)
      rw [hs', hcb, if_pos rfl, q2]
      exact ⟨τ', r1, fr_tr fb r2⟩
    have new : rpM id (some (In b, spR S n b, spL S n b)) (In b) (Zn (spL S n b)) := ⟨rfl, ⟨b, by omega, rfl⟩, rfl, rfl, hbd.1, hbd.2⟩
    unfold J179_4 J179_5
    rw [n_p1]
    cases acc with
    | none =>
      rw [if_pos (show x3 < 0 by rw [show x3 = -1 from hr]; decide)]
      exact go _ _ _ new rfl
    | some a =>
      obtain ⟨r1, ⟨b', hb', r2⟩, r3, r4, r5, r6⟩ := hr
      rw [if_neg (show ¬ x3 < 0 by rw [r1, r2]; show ¬ In b' < In 0; rw [n_lt (by omega) (by omega)]; omega)]
      have hbd' : -12096 ≤ ldS (dyN n (goneS S b)) (bf S b 1) ∧ ldS (dyN n (goneS S b)) (bf S b 1) ≤ 12096 := hbd
      rw [r3, ite_c (z_le (by omega) (by omega) (by omega) (by omega))]
      have hr4 : a.2.1 = a.2.2 := r4
      have hrr : spR S n b = ldS (dyN n (goneS S b)) (bf S b 1) := rfl
      by_cases h7 : spR S n b < a.2.1
      · rw [if_neg (by omega)]
        exact go _ _ _ new (by unfold offR; dsimp only; rw [if_pos h7])
      · rw [if_pos (by omega)]
        refine go (some a) _ _ ⟨r1, ⟨b', hb', r2⟩, ?_, r4, r5, r6⟩ (by unfold offR; dsimp only; rw [if_neg h7])
        first | rfl | exact r3
def giC (S : Rw) (b : Nat) : Bool := decide (bf S b 2 < 36) && decide (bf S b 1 = 0)
def giL (S : Rw) (n b : Nat) : Int := ldS (dyN n (farmS S b)) 0
def giR (S : Rw) (n b : Nat) : Int := abZ (giL S n b)
theorem gi_bd {S : Rw} {n b : Nat} (hS : Ok S) (hb : b < nb S) : -12096 ≤ giL S n b ∧ giL S n b ≤ 12096 := ldS_bd (dyN_k (farm_k hS hb).1).1.1 _
theorem gi_c {S : Rw} (hS : Ok S) {n : Nat} (hn : n < 3000) (w : Int32) : ∀ (m b f : Nat) (acc : Option (Int32 × Int × Int)) (σ : Sg), Rc σ 81 S → Rl σ S → chR σ 7 acc → b + m = nb S → m < f → ∃ σ', J67_3 f (In n) w (In b) σ = some (tlR w (chL (giC S) (giR S n) (giL S n) acc b m), σ') ∧ fp scP σ σ' := by
  have h12 := hS.1.1.2
  intro m
  induction m with
  | zero =>
    intro b f acc σ hc hl hch hb hf
    obtain ⟨f, rfl⟩ : ∃ g, f = g + 1 := ⟨f - 1, by omega⟩
    unfold J67_3
    rw [hc.1.1, hS.1.1.1, i_le (by omega) (by omega), if_pos (by omega), c47 hch w, Option.bind_some]
    exact ⟨σ, rfl, fp_rf _ _⟩
  | succ m ih =>
    intro b f acc σ hc hl hch hb hf
    obtain ⟨f, rfl⟩ : ∃ g, f = g + 1 := ⟨f - 1, by omega⟩
    have hbn : b < nb S := by omega
    obtain ⟨-, ⟨f1, f2⟩, -, -⟩ := hS.1.2.1 b hbn
    have hk := farm_k hS hbn
    have hD := Kp_tr hk (dyN_k (n := n) hk.1)
    have hbd := gi_bd (n := n) hS hbn
    have hs : chL (giC S) (giR S n) (giL S n) acc b (m + 1) = chL (giC S) (giR S n) (giL S n) (if giC S b = true then offR acc (In b, giR S n b, giL S n b) else acc) (b + 1) m := rfl
    unfold J67_3 J67_4
    rw [hc.1.1, hS.1.1.1, i_le (by omega) (by omega), if_neg (by omega), show J41 81 (In b) 0 σ = _ from c41 (fm := 0) hS.1 hc hbn (by omega), Option.bind_some, i_bb, n_p1, hs]
    dsimp only
    by_cases h1 : ¬(giC S b = true)
    · rw [if_neg (show ¬ (decide (bf S b 2 < 36) && decide (bf S b 1 = 0)) = true from h1)]
      rw [if_neg h1]
      exact ih (b + 1) f acc σ hc hl hch (by omega) (by omega)
    replace h1 := Classical.not_not.mp h1
    rw [if_pos (show (decide (bf S b 2 < 36) && decide (bf S b 1 = 0)) = true from h1)]
    rw [if_pos h1]
    obtain ⟨σ1, a1, a2, a3⟩ := c66f hS hc hbn
    rw [a1, Option.bind_some, if_pos (ib_n (by omega) (by omega)), n_ix (by omega)]
    obtain ⟨σ2, b1, b2, b3⟩ := c58 (o := 100) (n := n) hk.1 (by omega) hn a2 (eqT_Rl hk.2.2 (Rl_dy (by omega) hS.1 hl a3))
    have f2' := fp_tr a3 b3
    rw [b1, Option.bind_some]
    obtain ⟨σ3, d1, d2, d3⟩ := c45 (o := 100) (fm := 0) (by omega) hD.1 b2 (eqT_Rl hD.2.2 (Rl_dy (by omega) hS.1 hl f2')) (by omega)
    have f3 := fp_tr f2' (fp_va100 d2)
    rw [show J45 100 0 σ2 = _ from d1, Option.bind_some]
    dsimp only
    have hbd' : -12096 ≤ ldS (dyN n (farmS S b)) 0 ∧ ldS (dyN n (farmS S b)) 0 ≤ 12096 := hbd
    rw [z_abs (by omega) (by omega)]
    obtain ⟨σ4, e1, e2, e3⟩ := c46 (c := In b) (r := giR S n b) (t := giL S n b) (chR_c hch (f3 7 (by unfold dyP plP; omega))) (In_no (by omega)) (by unfold giR abZ; split <;> omega) (by unfold giR abZ; split <;> omega)
    have f4 : fp scP σ σ4 := fp_tr (fp_wk f3 fun a ha => Or.inl ha) (fp_wk e3 fun a ha => Or.inr ha)
    rw [show J46 7 (In b) (Zn (if 0 ≤ ldS (dyN n (farmS S b)) 0 then ldS (dyN n (farmS S b)) 0 else -ldS (dyN n (farmS S b)) 0)) (Zn (ldS (dyN n (farmS S b)) 0)) σ3 = _ from e1, Option.bind_some]
    obtain ⟨σ5, r1, r2⟩ := ih (b + 1) f _ σ4 (Rc_sc hS.1 hc f4) (Rl_sc hS.1 hl f4) e2 (by omega) (by omega)
    exact ⟨σ5, r1, fp_tr f4 r2⟩
theorem gi_m {S : Rw} (hS : Ok S) {n : Nat} (hn : n < 3000) (w : Int32) : ∀ (m b f : Nat) (acc : Option (Int32 × Int × Int)) (x3 x4 : Int32) (τ : Sg), τ 139 = S → (∀ k, k < 79 → τ 144 k = S k) → rpM abZ acc x3 x4 → b + m = nb S → m < f → ∃ τ', J180_3 f (In n) w x3 x4 (In b) τ = some (tlR w (chL (giC S) (giR S n) (giL S n) acc b m), τ') ∧ fr gaL τ τ' := by
  have h12 := hS.1.1.2
  intro m
  induction m with
  | zero =>
    intro b f acc x3 x4 τ hs h4 hr hb hf
    obtain ⟨f, rfl⟩ : ∃ g, f = g + 1 := ⟨f - 1, by omega⟩
    unfold J180_3
    rw [hs, hS.1.1.1, i_le (by omega) (by omega), if_pos (by omega), rpM_end hr w τ]
    exact ⟨τ, rfl, fr_rf _ _⟩
  | succ m ih =>
    intro b f acc x3 x4 τ hs h4 hr hb hf
    obtain ⟨f, rfl⟩ : ∃ g, f = g + 1 := ⟨f - 1, by omega⟩
    have hbn : b < nb S := by omega
    obtain ⟨-, ⟨f1, f2⟩, -, -⟩ := hS.1.2.1 b hbn
    have hk := farm_k hS hbn
    have hD := Kp_tr hk (dyN_k (n := n) hk.1)
    have hbd := gi_bd (n := n) hS hbn
    have hs' : chL (giC S) (giR S n) (giL S n) acc b (m + 1) = chL (giC S) (giR S n) (giL S n) (if giC S b = true then offR acc (In b, giR S n b, giL S n b) else acc) (b + 1) m := rfl
    have skip : giC S b = false → ∃ τ', J180_5 (J180_3 f) (In n) w x3 x4 (In b) τ = some (tlR w (chL (giC S) (giR S n) (giL S n) acc b (m + 1)), τ') ∧ fr gaL τ τ' := by
      intro hcb
      unfold J180_5
      rw [n_p1, hs', hcb, if_neg (by decide)]
      exact ih (b + 1) f acc x3 x4 τ hs h4 hr (by omega) (by omega)
    unfold J180_3
    rw [hs, hS.1.1.1, i_le (by omega) (by omega), if_neg (by omega), m162 (by rw [hs]; exact hS.1) (by rw [hs]; exact hbn), Option.bind_some, i_b2, hs]
    dsimp only
    by_cases h1 : ¬(bf S b 2 < 36)
    · rw [if_neg h1]
      exact skip (by unfold giC; simp [h1])
    replace h1 := Classical.not_not.mp h1
    rw [if_pos h1, show J128 (In b) 1 τ = _ from m128 (w := 1) (by omega) τ, Option.bind_some, hs, f1]
    dsimp only
    rw [i_e0 (by omega)]
    by_cases h2 : ¬(bf S b 1 = 0)
    · rw [if_neg h2]
      exact skip (by unfold giC; simp [h2])
    replace h2 := Classical.not_not.mp h2
    rw [if_pos h2]
    have hcb : giC S b = true := by
      unfold giC
      simp [h1, h2]
    rw [show J130 (In b) 1 1 τ = _ from m130 (w := 1) (by omega) 1 τ, Option.bind_some, hs]
    obtain ⟨τ1, a1, a2, a3⟩ := m169 (n := n) hn (σ := wr τ (farmS S b)) (wr_at _ _) hk.1
    rw [show J169 (In n) (wr τ (upd S (7 + 6 * b + 1) 1)) = _ from a1, Option.bind_some]
    obtain ⟨τ2, b1, b2⟩ := m161 (fm := 0) a2 hD.1 (by omega)
    rw [show J161 0 τ1 = _ from b1, Option.bind_some]
    dsimp only
    have f02 : fr (139 :: gaL) τ τ2 := fr_tr (fr_tr (fr_wr _ _ (by simp)) (fr_wk a3 fun a ha => by simp [dyL] at ha; simp [gaL]; omega)) (fr_wk b2 (by simp [gaL]))
    have h144 : ∀ k, k < 79 → τ2 144 k = S k := fun k hk' => by
      rw [fr_row b2 (by omega) (by simp), fr_row a3 (by omega) (by simp [dyL]), wr_ne _ _ (by omega)]
      exact h4 k hk'
    have h139 : τ2 139 = dyN n (farmS S b) := (fr_row b2 (by omega) (by simp)).trans a2
    rw [m176b h144 (by rw [h139]; exact hD.2.2), Option.bind_some]
    have fb := fr_back hs f02
    have h144b : ∀ k, k < 79 → wr τ2 S 144 k = S k := fun k hk' => by rw [wr_ne _ _ (by omega)]; exact h144 k hk'
    -- taken or kept
    have go : ∀ (acc' : Option (Int32 × Int × Int)) (y3 y4 : Int32), rpM abZ acc' y3 y4 → offR acc (In b, giR S n b, giL S n b) = acc' → ∃ τ', J180_3 f (In n) w y3 y4 (In (b + 1)) (wr τ2 S) = some (tlR w (chL (giC S) (giR S n) (giL S n) acc b (m + 1)), τ') ∧ fr gaL τ τ' := by
      intro acc' y3 y4 q1 q2
      obtain ⟨τ', r1, r2⟩ := ih (b + 1) f acc' y3 y4 (wr τ2 S) (wr_at _ _) h144b q1 (by omega) (by omega)
      rw [hs', hcb, if_pos rfl, q2]
      exact ⟨τ', r1, fr_tr fb r2⟩
    have new : rpM abZ (some (In b, giR S n b, giL S n b)) (In b) (Zn (giL S n b)) := ⟨rfl, ⟨b, by omega, rfl⟩, rfl, rfl, hbd.1, hbd.2⟩
    unfold J180_4 J180_5
    rw [n_p1]
    cases acc with
    | none =>
      rw [if_pos (show x3 < 0 by rw [show x3 = -1 from hr]; decide)]
      exact go _ _ _ new rfl
    | some a =>
      obtain ⟨r1, ⟨b', hb', r2⟩, r3, r4, r5, r6⟩ := hr
      rw [if_neg (show ¬ x3 < 0 by rw [r1, r2]; show ¬ In b' < In 0; rw [n_lt (by omega) (by omega)]; omega)]
      have hbd' : -12096 ≤ ldS (dyN n (farmS S b)) 0 ∧ ldS (dyN n (farmS S b)) 0 ≤ 12096 := hbd
      rw [m144z (by omega) (by omega), Option.bind_some]
      dsimp only
      rw [r3, m144z (by omega) (by omega), Option.bind_some]
      dsimp only
      rw [ite_c (z_le (by split <;> omega) (by split <;> omega) (by split <;> omega) (by split <;> omega))]
      have hr4 : a.2.1 = (if 0 ≤ a.2.2 then a.2.2 else -a.2.2) := r4
      have hrr : giR S n b = (if 0 ≤ ldS (dyN n (farmS S b)) 0 then ldS (dyN n (farmS S b)) 0 else -ldS (dyN n (farmS S b)) 0) := rfl
      rw [← hr4, ← hrr]
      by_cases h7 : giR S n b < a.2.1
      · rw [if_neg (by omega)]
        exact go _ _ _ new (by unfold offR; dsimp only; rw [if_pos h7])
      · rw [if_pos (by omega)]
        refine go (some a) _ _ ⟨r1, ⟨b', hb', r2⟩, ?_, r4, r5, r6⟩ (by unfold offR; dsimp only; rw [if_neg h7])
        first | rfl | exact r3
theorem op_spared (x y : Int32) : Op (J65 x y) (J179 x y) := by
  intro σ h
  obtain ⟨hS, hdy, hc, hl, hi⟩ := h.1
  have h12 := hS.1.1.2
  have bad : ∀ r, J65 x y σ = some (r, σ) → J179 x y σ = some (r, σ) → ∃ r σ1 σ2, J65 x y σ = some (r, σ1) ∧ J179 x y σ1 = some (r, σ2) ∧ Iv σ2 ∧ σ1 2000 = σ 2000 ∧ σ2 2000 = σ 2000 := fun r e1 e2 => Op_ga h e1 e2 (fp_rf _ _) (fr_rf _ _)
  by_cases h1 : ¬(1 ≤ x ∧ x ≤ 12)
  · apply bad (-1000000001)
    · unfold J65
      rw [c3, Option.bind_some, i_b2, if_neg h1]
    · unfold J179
      rw [m125, Option.bind_some, i_b2, if_neg h1]
  replace h1 := Classical.not_not.mp h1
  by_cases h2 : ¬(0 ≤ y ∧ y ≤ 1)
  · apply bad (-1000000001)
    · unfold J65
      rw [c3, Option.bind_some, i_b2, if_pos h1, c3, Option.bind_some, i_b2, if_neg h2]
    · unfold J179
      rw [m125, Option.bind_some, i_b2, if_pos h1, m125, Option.bind_some, i_b2, if_neg h2]
  replace h2 := Classical.not_not.mp h2
  obtain ⟨n, hn1, hn, rfl⟩ := bd_l (n := 12) (by omega) h1.1 h1.2
  have f0 : fp scP σ (hy_up σ 7 0 (-1000000005)) := fp_up _ _ _ _ (Or.inr rfl)
  obtain ⟨σ1, a1, a2⟩ := sp_c (n := n) hS (by omega) y (nb (σ 139)) 0 hy_fu none (hy_up σ 7 0 (-1000000005)) (Rc_sc hS.1 hc f0) (Rl_sc hS.1 hl f0) (by show hy_up σ 7 0 (-1000000005) 7 0 = _; rw [up_same, upd_at]) (by omega) (by unfold hy_fu; omega)
  have f1 := fp_tr f0 a2
  have h139 : σ1 139 = σ 139 := f1 139 (by unfold scP dyP plP; omega)
  obtain ⟨τ, r1, r2⟩ := sp_m (n := n) hS (by omega) y (nb (σ 139)) 0 hy_fu none (-1) 0 (sr σ1 144 (fun k => if k < 79 then σ1 139 k else σ1 144 k)) (by rw [sr_ne _ _ (by omega)]; exact h139) (fun k hk => by rw [sr_at, if_pos hk, h139]) rfl (by omega) (by unfold hy_fu; omega)
  refine Op_ga h (r := tlR y (chL (spC (σ 139)) (spR (σ 139) n) (spL (σ 139) n) none 0 (nb (σ 139)))) (σ1 := σ1) (σ2 := τ) ?_ ?_ (fp_sc f1) (fr_tr (fr_sr _ _ (by simp [gaL]) (by omega)) r2)
  · unfold J65 J44
    rw [c3, Option.bind_some, i_b2, if_pos h1, c3, Option.bind_some, i_b2, if_pos h2]
    dsimp only
    rw [Option.bind_some]
    exact a1
  · unfold J179
    rw [m125, Option.bind_some, i_b2, if_pos h1, m125, Option.bind_some, i_b2, if_pos h2]
    dsimp only
    rw [m174, Option.bind_some]
    exact r1
theorem op_given (x y : Int32) : Op (J67 x y) (J180 x y) := by
  intro σ h
  obtain ⟨hS, hdy, hc, hl, hi⟩ := h.1
  have h12 := hS.1.1.2
  have bad : ∀ r, J67 x y σ = some (r, σ) → J180 x y σ = some (r, σ) → ∃ r σ1 σ2, J67 x y σ = some (r, σ1) ∧ J180 x y σ1 = some (r, σ2) ∧ Iv σ2 ∧ σ1 2000 = σ 2000 ∧ σ2 2000 = σ 2000 := fun r e1 e2 => Op_ga h e1 e2 (fp_rf _ _) (fr_rf _ _)
  by_cases h1 : ¬(1 ≤ x ∧ x ≤ 12)
  · apply bad (-1000000001)
    · unfold J67
      rw [c3, Option.bind_some, i_b2, if_neg h1]
    · unfold J180
      rw [m125, Option.bind_some, i_b2, if_neg h1]
  replace h1 := Classical.not_not.mp h1
  by_cases h2 : ¬(0 ≤ y ∧ y ≤ 1)
  · apply bad (-1000000001)
    · unfold J67
      rw [c3, Option.bind_some, i_b2, if_pos h1, c3, Option.bind_some, i_b2, if_neg h2]
    · unfold J180
      rw [m125, Option.bind_some, i_b2, if_pos h1, m125, Option.bind_some, i_b2, if_neg h2]
  replace h2 := Classical.not_not.mp h2
  obtain ⟨n, hn1, hn, rfl⟩ := bd_l (n := 12) (by omega) h1.1 h1.2
  have f0 : fp scP σ (hy_up σ 7 0 (-1000000005)) := fp_up _ _ _ _ (Or.inr rfl)
  obtain ⟨σ1, a1, a2⟩ := gi_c (n := n) hS (by omega) y (nb (σ 139)) 0 hy_fu none (hy_up σ 7 0 (-1000000005)) (Rc_sc hS.1 hc f0) (Rl_sc hS.1 hl f0) (by show hy_up σ 7 0 (-1000000005) 7 0 = _; rw [up_same, upd_at]) (by omega) (by unfold hy_fu; omega)
  have f1 := fp_tr f0 a2
  have h139 : σ1 139 = σ 139 := f1 139 (by unfold scP dyP plP; omega)
  obtain ⟨τ, r1, r2⟩ := gi_m (n := n) hS (by omega) y (nb (σ 139)) 0 hy_fu none (-1) 0 (sr σ1 144 (fun k => if k < 79 then σ1 139 k else σ1 144 k)) (by rw [sr_ne _ _ (by omega)]; exact h139) (fun k hk => by rw [sr_at, if_pos hk, h139]) rfl (by omega) (by unfold hy_fu; omega)
  refine Op_ga h (r := tlR y (chL (giC (σ 139)) (giR (σ 139) n) (giL (σ 139) n) none 0 (nb (σ 139)))) (σ1 := σ1) (σ2 := τ) ?_ ?_ (fp_sc f1) (fr_tr (fr_sr _ _ (by simp [gaL]) (by omega)) r2)
  · unfold J67 J44
    rw [c3, Option.bind_some, i_b2, if_pos h1, c3, Option.bind_some, i_b2, if_pos h2]
    dsimp only
    rw [Option.bind_some]
    exact a1
  · unfold J180
    rw [m125, Option.bind_some, i_b2, if_pos h1, m125, Option.bind_some, i_b2, if_pos h2]
    dsimp only
    rw [m174, Option.bind_some]
    exact r1
