/-! PURE: storms -/
abbrev Ln (n : Int) : Int64 := Int64.ofInt n
theorem l_ti {a : Int} (h1 : -9223372036854775808 ≤ a) (h2 : a < 9223372036854775808) : (Ln a).toInt = a := by
  show (Int64.ofInt a).toInt = a
  rw [Int64.toInt_ofInt, Int.bmod_eq_of_le (by simp; omega) (by simp; omega)]
theorem l_of {a : Int} (h1 : -2147483648 ≤ a) (h2 : a < 2147483648) : (Zn a).toInt64 = Ln a := by
  rw [← Int64.ofInt_int32ToInt, z_ti h1 h2]
theorem l_add (a b : Int) : Ln a + Ln b = Ln (a + b) := (Int64.ofInt_add a b).symm
theorem l_sub (a b : Int) : Ln a - Ln b = Ln (a - b) := (Int64.ofInt_sub a b).symm
theorem l_neg (a : Int) : -Ln a = Ln (-a) := (Int64.ofInt_neg a).symm
theorem l_cmp {a b : Int} (h1 : -2147483648 ≤ a) (h2 : a < 2147483648) (h3 : -2147483648 ≤ b) (h4 : b < 2147483648) : (0 ≤ lg_cmp (Ln a) (Ln b)) = (b ≤ a) := by
  unfold lg_cmp
  by_cases h : b < a
  · rw [if_pos (show Ln a > Ln b by show Ln b < Ln a; rw [Int64.lt_iff_toInt_lt, l_ti (by omega) (by omega), l_ti (by omega) (by omega)]; exact h)]
    exact propext ⟨fun _ => by omega, fun _ => by decide⟩
  · rw [if_neg (show ¬ Ln a > Ln b by show ¬ Ln b < Ln a; rw [Int64.lt_iff_toInt_lt, l_ti (by omega) (by omega), l_ti (by omega) (by omega)]; exact h)]
    by_cases he : a = b
    · rw [if_pos (by rw [he])]
      exact propext ⟨fun _ => by omega, fun _ => by decide⟩
    · rw [if_neg (fun z => he (by
        have := congrArg Int64.toInt z
        rw [l_ti (by omega) (by omega), l_ti (by omega) (by omega)] at this
        exact this))]
      exact propext ⟨fun z => absurd z (by decide), fun _ => by omega⟩
/-- how far from what a sheet says -/
def df1 (S : Rw) (C : Nat → Int32) (k : Nat) : Int := if C k = -1000000005 then 0 else abZ ((if k < nb S then (bf S k 2 : Int) else 0) - (C k).toInt)
def dfL (S : Rw) (C : Nat → Int32) (k : Nat) : Nat → Int
  | 0 => 0
  | m + 1 => df1 S C k + dfL S C (k + 1) m
theorem df1_bd {S : Rw} {C : Nat → Int32} {k : Nat} (hS : OkR S) (hC : clOk (C k)) : 0 ≤ df1 S C k ∧ df1 S C k ≤ 100035 := by
  unfold df1
  rcases hC with h | ⟨z, z1, z2, h⟩
  · rw [if_pos h]
    omega
  · by_cases hN : C k = -1000000005
    · rw [if_pos hN]
      omega
    · rw [if_neg hN, h, z_ti (by omega) (by omega)]
      have hp : 0 ≤ (if k < nb S then (bf S k 2 : Int) else 0) ∧ (if k < nb S then (bf S k 2 : Int) else 0) ≤ 36 := by
        by_cases hk : k < nb S
        · obtain ⟨-, -, ⟨p1, p2⟩, -⟩ := hS.2.1 k hk
          rw [if_pos hk]
          omega
        · rw [if_neg hk]
          omega
      generalize (if k < nb S then (bf S k 2 : Int) else 0) = u at hp
      unfold abZ
      split <;> omega
theorem dfL_bd {S : Rw} {C : Nat → Int32} (hS : OkR S) (hC : ∀ k, k < 24 → clOk (C k)) : ∀ {m k : Nat}, k + m ≤ 24 → 0 ≤ dfL S C k m ∧ dfL S C k m ≤ 100035 * m := by
  intro m
  induction m with
  | zero => intro k _; exact ⟨Int.le_refl _, by show (0 : Int) ≤ 100035 * ((0 : Nat) : Int); omega⟩
  | succ m ih =>
    intro k hk
    have h1 := df1_bd (k := k) hS (hC k (by omega))
    have h2 := ih (k := k + 1) (by omega)
    show 0 ≤ df1 S C k + dfL S C (k + 1) m ∧ df1 S C k + dfL S C (k + 1) m ≤ 100035 * ((m + 1 : Nat) : Int)
    omega
theorem c71_loop {σ : Sg} {r n : Nat} {C : Nat → Int32} {S : Rw} (hS : OkR S) (hc : Rc σ 100 S) (h2 : σ r 2 = In n) (hn : n ≤ 24) (hC : ∀ k, k < 24 → σ (r + 1) k = C k ∧ clOk (C k)) : ∀ (m k f : Nat) (a : Int), k + m = n → m < f → J71_1 f 100 r (Zn a) (In k) σ = some (Zn (a + dfL S C k m), σ) := by
  have h12 := hS.1.2
  intro m
  induction m with
  | zero =>
    intro k f a hk hf
    obtain ⟨f, rfl⟩ : ∃ g, f = g + 1 := ⟨f - 1, by omega⟩
    unfold J71_1
    rw [h2, i_le (by omega) (by omega), if_pos (by omega)]
    show _ = some (Zn (a + 0), σ)
    rw [Int.add_zero]
  | succ m ih =>
    intro k f a hk hf
    obtain ⟨f, rfl⟩ : ∃ g, f = g + 1 := ⟨f - 1, by omega⟩
    obtain ⟨q1, q2⟩ := hC k (by omega)
    have hs : dfL S C k (m + 1) = df1 S C k + dfL S C (k + 1) m := rfl
    unfold J71_1 J71_3 J71_4
    rw [h2, i_le (by omega) (by omega), if_neg (by omega), c72 h2 hn (by omega), Option.bind_some, i_bb, n_p1]
    dsimp only
    rw [c11, Option.bind_some, hc.1.1, hS.1.1, i_b2, i_in (by omega) (by omega), if_pos (ib_n (show k < 2147483648 by omega) (show (k : Int) < 24 by omega)), if_pos (ib_n (show k < 2147483648 by omega) (show (k : Int) < 24 by omega)), n_ix (by omega), q1, decide_eq_true (show k < n by omega), Bool.true_and, hs]
    dsimp only
    by_cases h3 : C k = -1000000005
    · have e0 : df1 S C k = 0 := if_pos h3
      rw [if_neg (by simp [h3]), ih (k + 1) f a (by omega) (by omega), e0, Int.zero_add]
    · rw [if_pos (by simp [h3])]
      obtain ⟨z, z1, z2, hz⟩ : ∃ z : Int, -99999 ≤ z ∧ z ≤ 99999 ∧ C k = Zn z := by
        rcases q2 with q | q
        · exact absurd q h3
        · exact q
      have e0 : df1 S C k = abZ ((if k < nb S then (bf S k 2 : Int) else 0) - z) := by
        unfold df1
        rw [if_neg h3, hz, z_ti (by omega) (by omega)]
      by_cases h4 : k < nb S
      · obtain ⟨-, -, ⟨p1, p2⟩, -⟩ := hS.2.1 k h4
        have e9 : σ (100 + 7 + k) 2 - σ (r + 1) k = Zn ((bf S k 2 : Int) - z) := by
          rw [hc.2.1 k h4 2 (by omega), p1, q1, hz, n_z, z_sub]
        rw [if_pos h4, if_pos (ib_n (by omega) (by omega))]
        simp only [e9]
        rw [z_abs (by omega) (by omega), z_add, ih (k + 1) f _ (by omega) (by omega), e0, if_pos h4, Int.add_assoc]
        rfl
      · have e9 : (0 : Int32) - σ (r + 1) k = Zn (0 - z) := by
          rw [q1, hz, show (0 : Int32) = Zn 0 from rfl, z_sub]
        rw [if_neg h4]
        simp only [e9]
        rw [z_abs (by omega) (by omega), z_add, ih (k + 1) f _ (by omega) (by omega), e0, if_neg h4, Int.add_assoc]
        rfl
theorem m183_loop {τ : Sg} {s n : Nat} {C : Nat → Int32} (hS : OkR (τ 139)) (hs4 : s < 4) (h2 : τ 154 s = In n) (hn : n ≤ 24) (hC : ∀ k, k < 24 → τ 155 (24 * s + k) = C k ∧ clOk (C k)) : ∀ (m k f : Nat) (a : Int), k + m = n → m < f → J183_1 f (In s) (Ln a) (In k) τ = some (Ln (a + dfL (τ 139) C k m), τ) := by
  have h12 := hS.1.2
  intro m
  induction m with
  | zero =>
    intro k f a hk hf
    obtain ⟨f, rfl⟩ : ∃ g, f = g + 1 := ⟨f - 1, by omega⟩
    unfold J183_1
    rw [if_pos (ib_n (by omega) (by omega)), n_ix (by omega), h2, i_le (by omega) (by omega), if_pos (by omega)]
    show _ = some (Ln (a + 0), τ)
    rw [Int.add_zero]
  | succ m ih =>
    intro k f a hk hf
    obtain ⟨f, rfl⟩ : ∃ g, f = g + 1 := ⟨f - 1, by omega⟩
    obtain ⟨q1, q2⟩ := hC k (by omega)
    have hs : dfL (τ 139) C k (m + 1) = df1 (τ 139) C k + dfL (τ 139) C (k + 1) m := rfl
    have nx : ∀ y : Int, y = df1 (τ 139) C k → J183_6 (J183_1 f) (Ln y) (Ln a) (In s) (In k) (C k) τ = some (Ln (a + dfL (τ 139) C k (m + 1)), τ) := by
      intro y hy
      unfold J183_6
      rw [l_add, n_p1, ih (k + 1) f _ (by omega) (by omega), hy, Int.add_assoc]
      rfl
    have key : ∀ (u : Int), -1 < u → u ≤ 36 → u = (if k < nb (τ 139) then (bf (τ 139) k 2 : Int) else 0) → J183_3 (J183_1 f) (Zn u) ((C k).toInt64) (In s) (Ln a) (In k) (C k) τ = some (Ln (a + dfL (τ 139) C k (m + 1)), τ) := by
      intro u hu1 hu2 hu
      unfold J183_3
      by_cases h3 : C k = -1000000005
      · rw [if_pos h3]
        exact nx 0 (by unfold df1; rw [if_pos h3])
      · rw [if_neg h3]
        obtain ⟨z, z1, z2, hz⟩ : ∃ z : Int, -99999 ≤ z ∧ z ≤ 99999 ∧ C k = Zn z := by
          rcases q2 with q | q
          · exact absurd q h3
          · exact q
        have e0 : df1 (τ 139) C k = abZ (u - z) := by
          unfold df1
          rw [if_neg h3, hz, z_ti (by omega) (by omega), ← hu]
        have ez : (C k).toInt64 = Ln z := by
          rw [hz]
          exact l_of (by omega) (by omega)
        rw [ez, l_of (by omega) (by omega), l_sub, l_neg, show (0 : Int64) = Ln 0 from rfl, ite_c (l_cmp (by omega) (by omega) (by omega) (by omega))]
        by_cases h5 : 0 ≤ z - u
        · rw [if_pos h5]
          exact nx _ (by rw [e0]; unfold abZ; split <;> omega)
        · rw [if_neg h5]
          exact nx _ (by rw [e0]; unfold abZ; split <;> omega)
    unfold J183_1
    rw [if_pos (ib_n (by omega) (by omega)), n_ix (by omega), h2, i_le (by omega) (by omega), if_neg (by omega), i24, if_pos (ib_n (by omega) (by omega)), n_ix (by omega), q1, m132, Option.bind_some, i_b2, hS.1.1, i_in (by omega) (by omega)]
    dsimp only
    by_cases h4 : k < nb (τ 139)
    · obtain ⟨-, -, ⟨p1, p2⟩, -⟩ := hS.2.1 k h4
      rw [if_pos h4, show J128 (In k) 2 τ = _ from m128 (w := 2) (by omega) τ, Option.bind_some, p1]
      dsimp only
      rw [n_z (bf (τ 139) k 2)]
      exact key _ (by omega) (by omega) (by rw [if_pos h4])
    · rw [if_neg h4]
      exact key 0 (by omega) (by omega) (by rw [if_neg h4])
def stC (S : Rw) (b : Nat) : Bool := decide (bf S b 2 < 36)
def stL (C : Nat → Int32) (q : Nat) (S : Rw) (n b : Nat) : Int := dfL (dyN n (goneS S b)) C 0 q
theorem st_bd {C : Nat → Int32} {q : Nat} (hq : q ≤ 24) (hC : ∀ k, k < 24 → clOk (C k)) {S : Rw} {n b : Nat} (hS : Ok S) (hb : b < nb S) : 0 ≤ stL C q S n b ∧ stL C q S n b ≤ 2400840 := by
  have := dfL_bd (dyN_k (n := n) (gone_k hS hb).1).1.1 hC (m := q) (k := 0) (by omega)
  unfold stL
  omega
theorem st_c {S : Rw} (hS : Ok S) {C : Nat → Int32} {q s : Nat} (hs : s < 4) (hq : q ≤ 24) (hC : ∀ k, k < 24 → clOk (C k)) {n : Nat} (hn : n < 3000) (w : Int32) : ∀ (m b f : Nat) (acc : Option (Int32 × Int × Int)) (σ : Sg), Rc σ 81 S → Rl σ S → chR σ 7 acc → σ (53 + 2 * s) 2 = In q → (∀ k, k < 24 → σ (54 + 2 * s) k = C k) → b + m = nb S → m < f → ∃ σ', J68_4 f (In s) (In n) w (In b) σ = some (tlR w (chL (stC S) (stL C q S n) (stL C q S n) acc b m), σ') ∧ fp scP σ σ' := by
  have h12 := hS.1.1.2
  intro m
  induction m with
  | zero =>
    intro b f acc σ hc hl hch h2 h3 hb hf
    obtain ⟨f, rfl⟩ : ∃ g, f = g + 1 := ⟨f - 1, by omega⟩
    unfold J68_4
    rw [hc.1.1, hS.1.1.1, i_le (by omega) (by omega), if_pos (by omega), c47 hch w, Option.bind_some]
    exact ⟨σ, rfl, fp_rf _ _⟩
  | succ m ih =>
    intro b f acc σ hc hl hch h2 h3 hb hf
    obtain ⟨f, rfl⟩ : ∃ g, f = g + 1 := ⟨f - 1, by omega⟩
    have hbn : b < nb S := by omega
    have hk := gone_k hS hbn
    have hD := Kp_tr hk (dyN_k (n := n) hk.1)
    have hbd := st_bd (n := n) hq hC hS hbn
    have hs' : chL (stC S) (stL C q S n) (stL C q S n) acc b (m + 1) = chL (stC S) (stL C q S n) (stL C q S n) (if stC S b = true then offR acc (In b, stL C q S n b, stL C q S n b) else acc) (b + 1) m := rfl
    unfold J68_4 J68_5
    rw [hc.1.1, hS.1.1.1, i_le (by omega) (by omega), if_neg (by omega), c9 hS.1 hc hbn, Option.bind_some, i_b2, n_p1, hs']
    dsimp only
    by_cases h1 : ¬(bf S b 2 < 36)
    · rw [if_neg h1, if_neg (show ¬ stC S b = true by unfold stC; simp [h1])]
      exact ih (b + 1) f acc σ hc hl hch h2 h3 (by omega) (by omega)
    replace h1 := Classical.not_not.mp h1
    rw [if_pos h1, if_pos (show stC S b = true by unfold stC; simp [h1])]
    obtain ⟨σ1, a1, a2, a3⟩ := c66 hS hc hbn
    rw [a1, Option.bind_some]
    obtain ⟨σ2, b1, b2, b3⟩ := c58 (o := 100) (n := n) hk.1 (by omega) hn a2 (eqT_Rl hk.2.2 (Rl_dy (by omega) hS.1 hl a3))
    have f2' := fp_tr a3 b3
    have e53 : σ2 (53 + 2 * s) = σ (53 + 2 * s) := f2' _ (by unfold dyP plP; omega)
    have e54 : σ2 (54 + 2 * s) = σ (54 + 2 * s) := f2' _ (by unfold dyP plP; omega)
    rw [b1, Option.bind_some, if_pos (ib_n (by omega) (by omega)), n_ix (by omega)]
    have d1 := c71_loop (r := 53 + 2 * s) (n := q) (C := C) hD.1.1 b2 (by rw [e53]; exact h2) hq (fun k hk => ⟨by rw [show 53 + 2 * s + 1 = 54 + 2 * s by omega, e54]; exact h3 k hk, hC k hk⟩) q 0 hy_fu 0 (by omega) (by unfold hy_fu; omega)
    rw [Int.zero_add] at d1
    unfold J71
    rw [show J71_1 hy_fu 100 (53 + 2 * s) 0 0 σ2 = _ from d1, Option.bind_some]
    dsimp only
    obtain ⟨σ4, e1, e2, e3⟩ := c46 (c := In b) (r := stL C q S n b) (t := stL C q S n b) (chR_c hch (f2' 7 (by unfold dyP plP; omega))) (In_no (by omega)) (by omega) (by omega)
    have f4 : fp scP σ σ4 := fp_tr (fp_wk f2' fun a ha => Or.inl ha) (fp_wk e3 fun a ha => Or.inr ha)
    rw [show J46 7 (In b) (Zn (dfL (dyN n (goneS S b)) C 0 q)) (Zn (dfL (dyN n (goneS S b)) C 0 q)) σ2 = _ from e1, Option.bind_some]
    obtain ⟨σ5, r1, r2⟩ := ih (b + 1) f _ σ4 (Rc_sc hS.1 hc f4) (Rl_sc hS.1 hl f4) e2 (by rw [f4 _ (by unfold scP dyP plP; omega)]; exact h2) (fun k hk => by rw [f4 _ (by unfold scP dyP plP; omega)]; exact h3 k hk) (by omega) (by omega)
    exact ⟨σ5, r1, fp_tr f4 r2⟩
def rpL (acc : Option (Int32 × Int × Int)) (x4 : Int32) (x5 : Int64) : Prop := match acc with
  | none => x4 = -1
  | some a => x4 = a.1 ∧ (∃ b, b < 12 ∧ a.1 = In b) ∧ x5 = Ln a.2.2 ∧ a.2.1 = a.2.2 ∧ 0 ≤ a.2.2 ∧ a.2.2 ≤ 2400840
theorem st_m {S : Rw} (hS : Ok S) {C : Nat → Int32} {q s : Nat} (hs4 : s < 4) (hq : q ≤ 24) (hC : ∀ k, k < 24 → clOk (C k)) {n : Nat} (hn : n < 3000) (w : Int32) : ∀ (m b f : Nat) (acc : Option (Int32 × Int × Int)) (x4 : Int32) (x5 : Int64) (τ : Sg), τ 139 = S → (∀ k, k < 79 → τ 144 k = S k) → τ 154 s = In q → (∀ k, k < 24 → τ 155 (24 * s + k) = C k) → rpL acc x4 x5 → b + m = nb S → m < f → ∃ τ', J181_4 f (In s) (In n) w x4 x5 (In b) τ = some (tlR w (chL (stC S) (stL C q S n) (stL C q S n) acc b m), τ') ∧ fr gaL τ τ' := by
  have h12 := hS.1.1.2
  intro m
  induction m with
  | zero =>
    intro b f acc x4 x5 τ hs h4 h54 h55 hr hb hf
    obtain ⟨f, rfl⟩ : ∃ g, f = g + 1 := ⟨f - 1, by omega⟩
    unfold J181_4
    rw [hs, hS.1.1.1, i_le (by omega) (by omega), if_pos (by omega)]
    refine ⟨τ, ?_, fr_rf _ _⟩
    cases acc with
    | none =>
      rw [show x4 = -1 from hr, if_neg (by decide)]
      rfl
    | some a =>
      obtain ⟨q1, ⟨b', hb', q2⟩, q3, q4, q5, q6⟩ := hr
      rw [q1, q3, q2, if_pos (show (0 : Int32) ≤ In b' by show In 0 ≤ In b'; rw [n_le (by omega) (by omega)]; omega), Int64.toInt32_ofInt]
      show _ = some (tlR w (some a), τ)
      unfold tlR
      dsimp only
      rw [q2]
      split <;> rfl
  | succ m ih =>
    intro b f acc x4 x5 τ hs h4 h54 h55 hr hb hf
    obtain ⟨f, rfl⟩ : ∃ g, f = g + 1 := ⟨f - 1, by omega⟩
    have hbn : b < nb S := by omega
    have hk := gone_k hS hbn
    have hD := Kp_tr hk (dyN_k (n := n) hk.1)
    have hbd := st_bd (n := n) hq hC hS hbn
    have hs' : chL (stC S) (stL C q S n) (stL C q S n) acc b (m + 1) = chL (stC S) (stL C q S n) (stL C q S n) (if stC S b = true then offR acc (In b, stL C q S n b, stL C q S n b) else acc) (b + 1) m := rfl
    unfold J181_4
    rw [hs, hS.1.1.1, i_le (by omega) (by omega), if_neg (by omega), m162 (by rw [hs]; exact hS.1) (by rw [hs]; exact hbn), Option.bind_some, i_b2, hs]
    dsimp only
    by_cases h1 : ¬(bf S b 2 < 36)
    · unfold J181_6
      rw [if_neg h1, n_p1, hs', if_neg (show ¬ stC S b = true by unfold stC; simp [h1])]
      exact ih (b + 1) f acc x4 x5 τ hs h4 h54 h55 hr (by omega) (by omega)
    replace h1 := Classical.not_not.mp h1
    have hcb : stC S b = true := by
      unfold stC
      simp [h1]
    rw [if_pos h1, show J130 (In b) 2 36 τ = _ from m130 (w := 2) (by omega) 36 τ, Option.bind_some, hs]
    obtain ⟨τ1, a1, a2, a3⟩ := m169 (n := n) hn (σ := wr τ (goneS S b)) (wr_at _ _) hk.1
    rw [show J169 (In n) (wr τ (upd S (7 + 6 * b + 2) 36)) = _ from a1, Option.bind_some]
    have f01 : fr (139 :: gaL) τ τ1 := fr_tr (fr_wr _ _ (by simp)) (fr_wk a3 fun a ha => by simp [dyL] at ha; simp [gaL]; omega)
    have e154 : τ1 154 = τ 154 := fr_row f01 (by omega) (by simp [gaL])
    have e155 : τ1 155 = τ 155 := fr_row f01 (by omega) (by simp [gaL])
    have b1 := m183_loop (τ := τ1) (C := C) (by rw [a2]; exact hD.1.1) hs4 (by rw [e154]; exact h54) hq (fun k hk => ⟨by rw [e155]; exact h55 k hk, hC k hk⟩) q 0 hy_fu 0 (by omega) (by unfold hy_fu; omega)
    rw [Int.zero_add, a2] at b1
    unfold J183
    rw [show J183_1 hy_fu (In s) 0 0 τ1 = _ from b1, Option.bind_some]
    dsimp only
    have h144 : ∀ k, k < 79 → τ1 144 k = S k := fun k hk' => by
      rw [fr_row a3 (by omega) (by simp [dyL]), wr_ne _ _ (by omega)]
      exact h4 k hk'
    rw [m176b h144 (by rw [a2]; exact hD.2.2), Option.bind_some]
    have fb := fr_back hs f01
    have g : ∀ a, a ≠ 138 → a ≠ 139 → a ∉ gaL → wr τ1 S a = τ a := fun a z1 z2 z3 => fr_row fb z1 z3
    have go : ∀ (acc' : Option (Int32 × Int × Int)) (y3 : Int32) (y4 : Int64), rpL acc' y3 y4 → offR acc (In b, stL C q S n b, stL C q S n b) = acc' → ∃ τ', J181_4 f (In s) (In n) w y3 y4 (In (b + 1)) (wr τ1 S) = some (tlR w (chL (stC S) (stL C q S n) (stL C q S n) acc b (m + 1)), τ') ∧ fr gaL τ τ' := by
      intro acc' y3 y4 q1 q2
      obtain ⟨τ', r1, r2⟩ := ih (b + 1) f acc' y3 y4 (wr τ1 S) (wr_at _ _) (fun k hk' => by rw [wr_ne _ _ (by omega)]; exact h144 k hk') (by rw [g 154 (by omega) (by omega) (by simp [gaL])]; exact h54) (fun k hk' => by rw [g 155 (by omega) (by omega) (by simp [gaL])]; exact h55 k hk') q1 (by omega) (by omega)
      rw [hs', hcb, if_pos rfl, q2]
      exact ⟨τ', r1, fr_tr fb r2⟩
    have new : rpL (some (In b, stL C q S n b, stL C q S n b)) (In b) (Ln (stL C q S n b)) := ⟨rfl, ⟨b, by omega, rfl⟩, rfl, rfl, hbd.1, hbd.2⟩
    unfold J181_5 J181_6
    rw [n_p1]
    cases acc with
    | none =>
      rw [if_pos (show x4 < 0 by rw [show x4 = -1 from hr]; decide)]
      exact go _ _ _ new rfl
    | some a =>
      obtain ⟨r1, ⟨b', hb', r2⟩, r3, r4, r5, r6⟩ := hr
      have hbd' : 0 ≤ dfL (dyN n (goneS S b)) C 0 q ∧ dfL (dyN n (goneS S b)) C 0 q ≤ 2400840 := hbd
      rw [if_neg (show ¬ x4 < 0 by rw [r1, r2]; show ¬ In b' < In 0; rw [n_lt (by omega) (by omega)]; omega), r3, ite_c (l_cmp (by omega) (by omega) (by omega) (by omega))]
      have hrr : stL C q S n b = dfL (dyN n (goneS S b)) C 0 q := rfl
      by_cases h7 : stL C q S n b < a.2.1
      · rw [if_neg (by omega)]
        exact go _ _ _ new (by unfold offR; dsimp only; rw [if_pos h7])
      · rw [if_pos (by omega)]
        exact go (some a) _ _ ⟨r1, ⟨b', hb', r2⟩, rfl, r4, r5, r6⟩ (by unfold offR; dsimp only; rw [if_neg h7])
theorem op_storm (x y z : Int32) : Op (J68 x y z) (J181 x y z) := by
  intro σ h
  obtain ⟨hS, hdy, hc, hl, hi⟩ := h.1
  have h12 := hS.1.1.2
  have bad : ∀ r, J68 x y z σ = some (r, σ) → J181 x y z σ = some (r, σ) → ∃ r σ1 σ2, J68 x y z σ = some (r, σ1) ∧ J181 x y z σ1 = some (r, σ2) ∧ Iv σ2 ∧ σ1 2000 = σ 2000 ∧ σ2 2000 = σ 2000 := fun r e1 e2 => Op_ga h e1 e2 (fp_rf _ _) (fr_rf _ _)
  by_cases h1 : ¬(0 ≤ x ∧ x ≤ 3)
  · apply bad (-1000000001)
    · unfold J68
      rw [c69, Option.bind_some, i_b2, if_neg h1]
    · unfold J181
      rw [m182, Option.bind_some, i_b2, if_neg h1]
  replace h1 := Classical.not_not.mp h1
  by_cases h2 : ¬(0 ≤ y ∧ y ≤ 12)
  · apply bad (-1000000001)
    · unfold J68
      rw [c69, Option.bind_some, i_b2, if_pos h1, c3, Option.bind_some, i_b2, if_neg h2]
    · unfold J181
      rw [m182, Option.bind_some, i_b2, if_pos h1, m125, Option.bind_some, i_b2, if_neg h2]
  replace h2 := Classical.not_not.mp h2
  by_cases h3 : ¬(0 ≤ z ∧ z ≤ 1)
  · apply bad (-1000000001)
    · unfold J68
      rw [c69, Option.bind_some, i_b2, if_pos h1, c3, Option.bind_some, i_b2, if_pos h2, c3, Option.bind_some, i_b2, if_neg h3]
    · unfold J181
      rw [m182, Option.bind_some, i_b2, if_pos h1, m125, Option.bind_some, i_b2, if_pos h2, m125, Option.bind_some, i_b2, if_neg h3]
  replace h3 := Classical.not_not.mp h3
  obtain ⟨s, hs, rfl⟩ := n_rngI (n := 3) (by omega) h1.1 h1.2
  obtain ⟨n, hn, rfl⟩ := n_rngI (n := 12) (by omega) h2.1 h2.2
  obtain ⟨d1, d2, ⟨q, hq, d3, d4⟩, d5⟩ := h.2.2.2.1 s (by omega)
  obtain ⟨s1, s2⟩ := sort_c d2
  by_cases h4 : σ 153 s = -1
  · apply bad (-1000000011)
    · unfold J68
      rw [c69, Option.bind_some, i_b2, if_pos h1, c3, Option.bind_some, i_b2, if_pos h2, c3, Option.bind_some, i_b2, if_pos h3]
      dsimp only
      rw [if_pos (ib_n (by omega) (by omega)), n_ix (by omega), c70, Option.bind_some, i_b2, d1, if_pos h4]
    · unfold J181
      rw [m182, Option.bind_some, i_b2, if_pos h1, m125, Option.bind_some, i_b2, if_pos h2, m125, Option.bind_some, i_b2, if_pos h3]
      dsimp only
      rw [if_pos (ib_n (by omega) (by omega)), n_ix (by omega), if_neg (s1.mp h4)]
  have h0 : 0 ≤ σ 153 s := Classical.not_not.mp fun q => h4 (s1.mpr q)
  have f0 : fp scP σ (hy_up σ 7 0 (-1000000005)) := fp_up _ _ _ _ (Or.inr rfl)
  have hC : ∀ k, k < 24 → clOk (σ 155 (24 * s + k)) := fun k hk => (d5 k hk).2
  obtain ⟨σ1, a1, a2⟩ := st_c (C := fun k => σ 155 (24 * s + k)) (q := q) (s := s) (n := n) hS (by omega) hq hC (by omega) z (nb (σ 139)) 0 hy_fu none (hy_up σ 7 0 (-1000000005)) (Rc_sc hS.1 hc f0) (Rl_sc hS.1 hl f0) (by show hy_up σ 7 0 (-1000000005) 7 0 = _; rw [up_same, upd_at]) (by rw [up_ne _ _ _ (by omega)]; exact d3) (fun k hk => by rw [up_ne _ _ _ (by omega)]; exact (d5 k hk).1) (by omega) (by unfold hy_fu; omega)
  have f1 := fp_tr f0 a2
  have h139 : σ1 139 = σ 139 := f1 139 (by unfold scP dyP plP; omega)
  obtain ⟨τ, r1, r2⟩ := st_m (C := fun k => σ 155 (24 * s + k)) (q := q) (s := s) (n := n) hS (by omega) hq hC (by omega) z (nb (σ 139)) 0 hy_fu none (-1) 0 (sr σ1 144 (fun k => if k < 79 then σ1 139 k else σ1 144 k)) (by rw [sr_ne _ _ (by omega)]; exact h139) (fun k hk => by rw [sr_at, if_pos hk, h139]) (by rw [sr_ne _ _ (by omega), f1 154 (by unfold scP dyP plP; omega)]; exact d4) (fun k hk => by rw [sr_ne _ _ (by omega), f1 155 (by unfold scP dyP plP; omega)]) rfl (by omega) (by unfold hy_fu; omega)
  refine Op_ga h (r := tlR z (chL (stC (σ 139)) (stL (fun k => σ 155 (24 * s + k)) q (σ 139) n) (stL (fun k => σ 155 (24 * s + k)) q (σ 139) n) none 0 (nb (σ 139)))) (σ1 := σ1) (σ2 := τ) ?_ ?_ (fp_sc f1) (fr_tr (fr_sr _ _ (by simp [gaL]) (by omega)) r2)
  · unfold J68 J44
    rw [c69, Option.bind_some, i_b2, if_pos h1, c3, Option.bind_some, i_b2, if_pos h2, c3, Option.bind_some, i_b2, if_pos h3]
    dsimp only
    rw [if_pos (ib_n (by omega) (by omega)), n_ix (by omega), c70, Option.bind_some, i_b2, d1, if_neg h4, Option.bind_some]
    exact a1
  · unfold J181
    rw [m182, Option.bind_some, i_b2, if_pos h1, m125, Option.bind_some, i_b2, if_pos h2, m125, Option.bind_some, i_b2, if_pos h3]
    dsimp only
    rw [if_pos (ib_n (by omega) (by omega)), n_ix (by omega), if_pos (show 0 ≤ σ1 153 s by rw [f1 153 (by unfold scP dyP plP; omega)]; exact h0), m174, Option.bind_some]
    exact r1
