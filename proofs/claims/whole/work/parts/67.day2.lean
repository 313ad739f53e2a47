/-! PURE: a day of the class -/
def dyP (o a : Nat) : Prop := (o ≤ a ∧ a ≤ o + 18) ∨ plP a
theorem up_up (σ : Sg) (a k : Nat) (v w : Int32) : hy_up (hy_up σ a k v) a k w = hy_up σ a k w := by
  funext b j
  by_cases h : b = a
  · subst h
    rw [up_same, up_same, up_same]
    by_cases h2 : j = k
    · subst h2
      rw [upd_at, upd_at]
    · rw [upd_ne _ _ h2, upd_ne _ _ h2, upd_ne _ _ h2]
  · rw [up_ne _ _ _ h, up_ne _ _ _ h, up_ne _ _ _ h]
theorem upd_self {S : Rw} {k : Nat} {v : Int32} (h : S k = v) : upd S k v = S := by
  funext j
  by_cases e : j = k
  · subst e
    rw [upd_at, h]
  · rw [upd_ne _ _ e]
theorem Rl_dy {σ σ' : Sg} {o : Nat} {S : Rw} (ho : 81 ≤ o) (hS : OkR S) (h : Rl σ S) (hf : fp (dyP o) σ σ') : Rl σ' S := Rl_c hS h fun a h1 h2 h3 => hf a (by unfold dyP plP; omega)
theorem Rc_dy {σ σ' : Sg} {o o' : Nat} {S : Rw} (ho : 81 ≤ o) (ho' : 81 ≤ o') (hd : o + 18 < o' ∨ o' + 18 < o) (hS : OkR S) (h : Rc σ o S) (hf : fp (dyP o') σ σ') : Rc σ' o S := Rc_c hS h fun a ha => hf a (by unfold coP at ha; unfold dyP plP; omega)
/-- one of the class's own numbers -/
theorem Rc_rul {σ : Sg} {o s k : Nat} {S : Rw} (hS : OkR S) (hc : Rc σ o S) (v : Int32) (h : s = 8 ∧ k = 3 ∨ s = 9 ∧ k = 4 ∨ s = 10 ∧ k = 5 ∨ s = 11 ∧ k = 2 ∨ s = 12 ∧ k = 0) : Rc (hy_up σ o s v) o (upd S k v) := by
  have h12 := hS.1.2
  obtain ⟨⟨a1, a2, a3, a4, a5, a6, a7⟩, h2, h3, h4⟩ := hc
  have hk : k ≠ 1 ∧ k ≠ 6 ∧ k < 7 := by omega
  have hn : nb (upd S k v) = nb S := nb_upd (Ne.symm hk.1)
  have e : ∀ a, a ≠ o → hy_up σ o s v a = σ a := fun a ha => up_ne _ _ _ ha
  have q : ∀ s' k', (s' = s ↔ k' = k) → σ o s' = S k' → hy_up σ o s v o s' = upd S k v k' := by
    intro s' k' h1 h2
    rw [up_same]
    by_cases hh : s' = s
    · have := h1.mp hh
      subst hh
      subst this
      rw [upd_at, upd_at]
    · rw [upd_ne _ _ hh, upd_ne _ _ (fun z => hh (h1.mpr z))]
      exact h2
  refine ⟨⟨q 7 1 (by omega) a1, q 8 3 (by omega) a2, q 9 4 (by omega) a3, q 10 5 (by omega) a4, q 11 2 (by omega) a5, q 12 0 (by omega) a6, q 13 6 (by omega) a7⟩, fun c hc x hx => ?_, fun p hp => ?_, ?_⟩
  · rw [hn] at hc
    rw [e _ (by omega), upd_ne _ _ (by omega)]
    exact h2 c hc x hx
  · rw [e _ (by omega), hd_c hn fun c _ => bf_upd (by omega)]
    exact h3 p hp
  · rw [e _ (by omega)]
    exact eqT_Rc (eqT_upd S v hk.2.1 (by omega)) h4
theorem c51 {S : Rw} {σ : Sg} (hS : Ok S) {o fm : Nat} (ho : 81 ≤ o) (hf1 : fm ≤ 1) (hc : Rc σ o S) (hl : Rl σ S) : ∃ σ', J51 o (In fm) σ = some σ' ∧ Rc σ' o (bm1 S fm) ∧ fp (dyP o) σ σ' := by
  have h12 := hS.1.1.2
  obtain ⟨σ1, q1, q2, q3⟩ := c43 hS ho hf1 hc hl
  have hc1 : Rc σ1 o S := Rc_c hS.1 hc fun a ha => q3 a (by unfold coP at ha; unfold beP plP; omega)
  have f1 : fp (dyP o) σ σ1 := fp_wk q3 fun a h => by unfold beP plP at h; unfold dyP plP; omega
  unfold J51 bm1
  rw [q1, Option.bind_some]
  cases e : bestS S fm with
  | none =>
    rw [e] at q2
    rw [if_pos (show σ1 (o + 6) 0 = -1000000005 from q2)]
    exact ⟨σ1, rfl, hc1, f1⟩
  | some a =>
    rw [e] at q2
    obtain ⟨z1, z2, z3⟩ := best_x e
    obtain ⟨x1, x2, x3, x4⟩ := cand_x z2
    have hw : σ1 (o + 6) 0 = In (mv a.1) := q2.1
    have hmv := mv_lt (k := a.1) (by omega)
    rw [hw, if_neg (In_no (by omega)), mv_d (by omega), mv_r (by omega)]
    obtain ⟨σ2, r1, r2, r3⟩ := c36 (b := a.1 / 36) (p := a.1 % 36) ho hS.1 hc1 (by omega) (by omega) x4
    rw [r1, Option.bind_some]
    exact ⟨σ2, rfl, r2, fp_tr f1 (fp_wk r3 fun a h => by unfold boP at h; unfold dyP; omega)⟩
theorem c33 {S : Rw} {σ : Sg} {o : Nat} (hS : OkR S) (hc : Rc σ o S) : ∃ σ', J33 o σ = some (In (drN S), σ') ∧ Rc σ' o (drS S) ∧ fp (dyP o) σ σ' := by
  unfold J33
  rw [dr_sh, up_same, upd_at, hc.1.2.2.2.2.2.1]
  exact ⟨_, rfl, Rc_rul hS hc _ (by omega), fp_up _ _ _ _ (by unfold dyP; omega)⟩
theorem c17 {σ : Sg} {o b : Nat} {S : Rw} (hS : OkR S) (hc : Rc σ o S) (hb : b < nb S) : J17 (o + 7 + b) σ = some (In (etK (bf S b 0)), σ) := by
  obtain ⟨⟨k1, k2⟩, -, -, -⟩ := hS.2.1 b hb
  unfold J17
  rw [hc.2.1 b hb 0 (by omega), k1]
  generalize bf S b 0 = k at k2
  match k, k2 with
  | 0, _ => rfl
  | 1, _ => rfl
  | 2, _ => rfl
  | 3, _ => rfl
  | 4, _ => rfl
  | 5, _ => rfl
  | n + 6, h => omega
theorem c59 {S : Rw} {σ : Sg} {o : Nat} (hS : Ok S) (ho : 81 ≤ o) (hc : Rc σ o S) : ∃ σ', J59 o σ = some σ' ∧ Rc σ' o (gzS S) ∧ fp (dyP o) σ σ' := by
  have h12 := hS.1.1.2
  have h1 := drS_k hS
  have h2 := Kp_tr h1 (drS_k h1.1)
  obtain ⟨r1, r2⟩ := hS.1.2.2.2.2.2.2.1
  have hN := drN_lt S
  have hN2 := drN_lt (drS S)
  obtain ⟨σ1, q1, q2, q3⟩ := c33 hS.1 hc
  have e5 : σ1 o 10 = In (hy_ix (S 5)) := by
    rw [q2.1.2.2.2.1, show drS S 5 = S 5 from upd_ne _ _ (by omega)]
    exact r1
  unfold J59 gzS
  rw [q1, Option.bind_some]
  dsimp only
  rw [show (100 : Int32) = In 100 from rfl, n_rem (by omega) (by omega)]
  simp only [e5]
  rw [i_lt (by omega) (by omega)]
  by_cases hr : drN S % 100 < hy_ix (S 5)
  · rw [if_pos hr, if_pos hr]
    obtain ⟨σ2, p1, p2, p3⟩ := c33 h1.1.1 q2
    rw [p1, Option.bind_some]
    dsimp only
    rw [show (36 : Int32) = In 36 from rfl, n_rem (by omega) (by omega), if_pos (ib_n (by omega) (by omega)), n_ix (by omega)]
    simp only [p2.2.2.1 _ (show drN (drS S) % 36 < 36 by omega), oN_e (hd_bd h2.1.1)]
    cases e : hd (drS (drS S)) (drN (drS S) % 36) with
    | none =>
      rw [if_pos rfl]
      exact ⟨σ2, rfl, p2, fp_tr q3 p3⟩
    | some b =>
      obtain ⟨hb, hbp⟩ := hd_some e
      have hn2 := h2.2.1
      obtain ⟨-, -, -, ⟨y1, y2, y3⟩⟩ := h2.1.1.2.1 b hb
      have h6 := etK_le (bf (drS (drS S)) b 0)
      rw [if_neg (fun z => by cases z), show oI (-1000000005) (some b) = In b from rfl, if_pos (ib_n (by omega) (by omega)), n_ix (by omega), c17 h2.1.1 p2 hb, Option.bind_some]
      dsimp only
      rw [up_up, p2.2.1 b hb 3 (by omega), y1]
      unfold grS
      have hup : ∀ x : Int32, hy_up σ2 (o + 7 + b) 3 x (o + 7 + b) 3 = x := fun x => by rw [up_same, upd_at]
      simp only [hup]
      by_cases hh : etK (bf (drS (drS S)) b 0) < bf (drS (drS S)) b 3
      · rw [if_pos hh, n_sub (by omega), if_pos (show (1 : Int32) ≤ In (bf (drS (drS S)) b 3 - etK (bf (drS (drS S)) b 0)) by show In 1 ≤ _; rw [n_le (by omega) (by omega)]; omega)]
        exact ⟨_, rfl, Rc_fld h2.1.1 p2 hb (by omega) (by omega) _, fp_tr (fp_tr q3 p3) (fp_up _ _ _ _ (by unfold dyP; omega))⟩
      · have hn := n_neg1 (h := bf (drS (drS S)) b 3) (e := etK (bf (drS (drS S)) b 0)) (by omega) (by omega)
        rw [if_neg hh, if_neg hn]
        have o1 : OkR (upd (drS (drS S)) (7 + 6 * b + 3) (In 1)) := ok_upd h2.1.1 hb (Or.inr (Or.inr ⟨rfl, by omega, by omega⟩))
        have n1 : nb (upd (drS (drS S)) (7 + 6 * b + 3) (In 1)) = nb (drS (drS S)) := nb_upd (by omega)
        obtain ⟨σ3, t1, t2, t3⟩ := c8 (v := 36) o1 (Rc_fld h2.1.1 p2 hb (w := 3) (by omega) (by omega) (In 1)) (b := b) (by omega) (by omega) (Or.inl rfl)
        rw [show J8 o (In b) (In 36) (hy_up σ2 (o + 7 + b) 3 1) = some σ3 from t1, Option.bind_some]
        exact ⟨σ3, rfl, t2, fp_tr (fp_tr (fp_tr q3 p3) (fp_up _ _ _ _ (by unfold dyP; omega))) (fp_wk t3 fun a h => by unfold boP at h; unfold dyP; omega)⟩
  · rw [if_neg hr, if_neg hr]
    exact ⟨σ1, rfl, q2, q3⟩
theorem c61 {S : Rw} {σ : Sg} {o b : Nat} (hS : OkR S) (hc : Rc σ o S) (hb : b < nb S) (hon : bf S b 2 < 36) : ∃ σ', J61 (o + 7 + b) σ = some σ' ∧ Rc σ' o (rnB S b) ∧ fp (dyP o) σ σ' := by
  have h12 := hS.1.2
  obtain ⟨-, -, -, ⟨y1, y2, y3⟩⟩ := hS.2.1 b hb
  have hup : ∀ x : Int32, hy_up σ (o + 7 + b) 3 x (o + 7 + b) 3 = x := fun x => by rw [up_same, upd_at]
  unfold J61 rnB
  rw [if_pos hon, up_up]
  simp only [hc.2.1 b hb 3 (by omega), hup]
  rw [y1, show In (bf S b 3) - 1 = In (bf S b 3 - 1) from n_sub (b := 1) (by omega)]
  by_cases h : 1 < bf S b 3
  · rw [if_pos h, if_pos (show (1 : Int32) ≤ In (bf S b 3 - 1) by show In 1 ≤ In (bf S b 3 - 1); rw [n_le (by omega) (by omega)]; omega)]
    exact ⟨_, rfl, Rc_fld hS hc hb (by omega) (by omega) _, fp_up _ _ _ _ (by unfold dyP; omega)⟩
  · rw [if_neg h, if_neg (show ¬ (1 : Int32) ≤ In (bf S b 3 - 1) by show ¬ In 1 ≤ In (bf S b 3 - 1); rw [n_le (by omega) (by omega)]; omega)]
    have e1 : bf S b 3 = 1 := by omega
    have s1 := Rc_fld hS hc hb (w := 3) (by omega) (by omega) 1
    rw [upd_self (by rw [y1, e1]; rfl)] at s1
    exact ⟨_, rfl, Rc_fld hS s1 hb (w := 0) (by omega) (by omega) 5, fp_tr (fp_up _ _ _ _ (by unfold dyP; omega)) (fp_up _ _ _ _ (by unfold dyP; omega))⟩
theorem c60_loop {o : Nat} : ∀ (m i f : Nat) (S : Rw) (σ : Sg), OkR S → Rc σ o S → i + m = nb S → m < f → ∃ σ', J60_2 f o (In i) σ = some σ' ∧ Rc σ' o (rnL S i m) ∧ fp (dyP o) σ σ' := by
  intro m
  induction m with
  | zero =>
    intro i f S σ hS hc hi hf
    obtain ⟨f, rfl⟩ : ∃ g, f = g + 1 := ⟨f - 1, by omega⟩
    have h12 := hS.1.2
    unfold J60_2
    rw [hc.1.1, hS.1.1, i_le (by omega) (by omega), if_pos (by omega)]
    exact ⟨σ, rfl, hc, fp_rf _ _⟩
  | succ m ih =>
    intro i f S σ hS hc hi hf
    obtain ⟨f, rfl⟩ : ∃ g, f = g + 1 := ⟨f - 1, by omega⟩
    have h12 := hS.1.2
    have hb : i < nb S := by omega
    unfold J60_2 J60_3
    rw [hc.1.1, hS.1.1, i_le (by omega) (by omega), if_neg (by omega), c9 hS hc hb, Option.bind_some, i_b2, n_p1]
    dsimp only
    by_cases hon : bf S i 2 < 36
    · rw [if_pos hon, if_pos (ib_n (by omega) (by omega)), n_ix (by omega)]
      obtain ⟨σ1, q1, q2, q3⟩ := c61 hS hc hb hon
      rw [q1, Option.bind_some]
      obtain ⟨σ2, r1, r2, r3⟩ := ih (i + 1) f (rnB S i) σ1 (rnB_ok hS hb) q2 (by rw [rnB_nb]; omega) (by omega)
      exact ⟨σ2, r1, r2, fp_tr q3 r3⟩
    · rw [if_neg hon]
      obtain ⟨σ2, r1, r2, r3⟩ := ih (i + 1) f S σ hS hc (by omega) (by omega)
      refine ⟨σ2, r1, ?_, r3⟩
      show Rc σ2 o (rnL (rnB S i) (i + 1) m)
      rw [show rnB S i = S by unfold rnB; rw [if_neg hon]]
      exact r2
theorem c60 {S : Rw} {σ : Sg} {o : Nat} (hS : Ok S) (ho : 81 ≤ o) (hc : Rc σ o S) : ∃ σ', J60 o σ = some σ' ∧ Rc σ' o (raS S) ∧ fp (dyP o) σ σ' := by
  have h12 := hS.1.1.2
  have h1 := drS_k hS
  obtain ⟨r1, r2⟩ := hS.1.2.2.2.2.2.1
  have hN := drN_lt S
  obtain ⟨σ1, q1, q2, q3⟩ := c33 hS.1 hc
  have e5 : σ1 o 9 = In (hy_ix (S 4)) := by
    rw [q2.1.2.2.1, show drS S 4 = S 4 from upd_ne _ _ (by omega)]
    exact r1
  unfold J60 raS
  rw [q1, Option.bind_some]
  dsimp only
  rw [show (100 : Int32) = In 100 from rfl, n_rem (by omega) (by omega)]
  simp only [e5]
  rw [i_lt (by omega) (by omega)]
  by_cases hr : drN S % 100 < hy_ix (S 4)
  · rw [if_pos hr, if_pos hr]
    have h12' := h1.1.1.1.2
    obtain ⟨σ2, r1, r2, r3⟩ := c60_loop (nb (drS S)) 0 hy_fu (drS S) σ1 h1.1.1 q2 (by omega) (by unfold hy_fu; omega)
    exact ⟨σ2, r1, r2, fp_tr q3 r3⟩
  · rw [if_neg hr, if_neg hr]
    exact ⟨σ1, rfl, q2, q3⟩
theorem c38 {S : Rw} {σ : Sg} {o : Nat} (hS : OkR S) (hc : Rc σ o S) : ∃ σ', J38 o σ = some σ' ∧ Rc σ' o (trS S) ∧ fp (dyP o) σ σ' := by
  unfold J38 trS
  rw [hc.1.2.1]
  exact ⟨_, rfl, Rc_rul hS hc _ (by omega), fp_up _ _ _ _ (by unfold dyP; omega)⟩
theorem c58_loop {o n : Nat} (ho : 81 ≤ o) (hn : n < 2147483648) : ∀ (m i f : Nat) (S : Rw) (σ : Sg), Ok S → Rc σ o S → Rl σ S → i + m = n → m < f → ∃ σ', J58_1 f o (In n) (In i) σ = some σ' ∧ Rc σ' o (dyN m S) ∧ fp (dyP o) σ σ' := by
  intro m
  induction m with
  | zero =>
    intro i f S σ hS hc hl hi hf
    obtain ⟨f, rfl⟩ : ∃ g, f = g + 1 := ⟨f - 1, by omega⟩
    unfold J58_1
    rw [i_le (by omega) (by omega), if_pos (by omega)]
    exact ⟨σ, rfl, hc, fp_rf _ _⟩
  | succ m ih =>
    intro i f S σ hS hc hl hi hf
    obtain ⟨f, rfl⟩ : ∃ g, f = g + 1 := ⟨f - 1, by omega⟩
    obtain ⟨r1, r2⟩ := hS.1.2.2.2.2.1
    have k1 := bm1_k (f := hy_ix (S 3)) hS
    have k2 := Kp_tr k1 (trS_k k1.1)
    have k3 := Kp_tr k2 (gzS_k k2.1)
    have k4 := Kp_tr k3 (raS_k k3.1)
    have k5 := dyS_k hS
    unfold J58_1
    rw [i_le (by omega) (by omega), if_neg (by omega), hc.1.2.1, r1]
    obtain ⟨σ1, a1, a2, a3⟩ := c51 hS ho r2 hc hl
    rw [a1, Option.bind_some]
    obtain ⟨σ2, b1, b2, b3⟩ := c38 k1.1.1 a2
    rw [b1, Option.bind_some]
    obtain ⟨σ3, d1, d2, d3⟩ := c59 k2.1 ho b2
    rw [d1, Option.bind_some]
    obtain ⟨σ4, e1, e2, e3⟩ := c60 k3.1 ho d2
    rw [e1, Option.bind_some, e2.1.2.2.2.2.1, n_p1]
    have g2 : Rc (hy_up σ4 o 11 (raS (gzS (trS (bm1 S (hy_ix (S 3))))) 2 + 1)) o (dyS S) := Rc_rul k4.1.1 e2 _ (by omega)
    have g3 : fp (dyP o) σ (hy_up σ4 o 11 (raS (gzS (trS (bm1 S (hy_ix (S 3))))) 2 + 1)) := fp_tr (fp_tr (fp_tr (fp_tr a3 b3) d3) e3) (fp_up _ _ _ _ (by unfold dyP; omega))
    obtain ⟨σ', t1, t2, t3⟩ := ih (i + 1) f (dyS S) _ k5.1 g2 (eqT_Rl k5.2.2 (Rl_dy ho hS.1 hl g3)) (by omega) (by omega)
    exact ⟨σ', t1, t2, fp_tr g3 t3⟩
theorem c58 {S : Rw} {σ : Sg} {o n : Nat} (hS : Ok S) (ho : 81 ≤ o) (hn : n < 3000) (hc : Rc σ o S) (hl : Rl σ S) : ∃ σ', J58 o (In n) σ = some σ' ∧ Rc σ' o (dyN n S) ∧ fp (dyP o) σ σ' := c58_loop ho (by omega) n 0 hy_fu S σ hS hc hl (by omega) (by unfold hy_fu; omega)
