/-! PURE: sheets -/
theorem Iv_parts {σ τ : Sg} (h : Iv σ) (P : Nat → Prop) (hP : ∀ a, P a → (53 ≤ a ∧ a ≤ 80) ∨ (153 ≤ a ∧ a ≤ 160)) (h1 : ∀ a, ¬ P a → τ a = σ a) (hd : Iv_d τ) (he : Iv_e τ) : Iv τ := by
  have g : ∀ a, ¬ ((53 ≤ a ∧ a ≤ 80) ∨ (153 ≤ a ∧ a ≤ 160)) → τ a = σ a := fun a ha => h1 a fun z => ha (hP a z)
  refine ⟨Iv_a_c h.1 (g 139 (by omega)) (g 140 (by omega)) (by rw [g 0 (by omega)]) (by rw [g 138 (by omega)]) (fun a q1 q2 => g a (by omega)) fun a q1 q2 => g a (by omega), ?_, ?_, hd, he, ?_⟩
  · exact Iv_b_c h.2.1 (g 2 (by omega)) (g 3 (by omega)) (g 145 (by omega)) (by rw [g 138 (by omega)])
  · exact Iv_c_c h.2.2.1 (g 146 (by omega)) (g 147 (by omega)) fun a q1 q2 => g a (by omega)
  · exact Iv_f_c h.2.2.2.2.2 (by rw [g 0 (by omega)]) (g 10 (by omega)) (by rw [g 138 (by omega)]) (g 161 (by omega))
theorem c69 (x : Int32) (σ : Sg) : J69 x σ = some (b2 (0 ≤ x ∧ x ≤ 3), σ) := by
  unfold J69
  rw [c3, Option.bind_some]
  simp only [b2_01, if_true]
theorem m182 (x : Int32) (σ : Sg) : J182 x σ = some (b2 (0 ≤ x ∧ x ≤ 3), σ) := by
  unfold J182
  rw [m125, Option.bind_some]
  simp only [b2_01, if_true]
theorem c70 {σ : Sg} {o : Nat} : J70 o σ = some (b2 (σ o 1 = -1), σ) := by
  unfold J70 b2
  split <;> rfl
theorem c73 {σ : Sg} {o n : Nat} (x : Int32) (h : σ o 2 = In n) : J73 o x σ = some (b2 (0 ≤ x ∧ x ≤ In n - 1), σ) := by
  unfold J73
  rw [c3, Option.bind_some, h]
  simp only [b2_01, if_true]
theorem c72 {σ : Sg} {o n k : Nat} (h : σ o 2 = In n) (hn : n ≤ 24) (hk : k < 2147483648) : J72 o (In k) σ = some (bb (decide (k < n) && decide (σ (o + 1) k ≠ -1000000005)), σ) := by
  unfold J72
  rw [c73 _ h, Option.bind_some, i_b2]
  dsimp only
  by_cases h1 : k < n
  · have h2 : 0 ≤ In k ∧ In k ≤ In n - 1 := by
      rw [n_s1 (by omega)]
      exact ⟨show In 0 ≤ In k by rw [n_le (by omega) (by omega)]; omega, by rw [n_le (by omega) (by omega)]; omega⟩
    rw [if_pos h2, if_pos (ib_n (by omega) (by omega)), n_ix hk, decide_eq_true h1, Bool.true_and]
    by_cases h3 : σ (o + 1) k = -1000000005
    · rw [if_pos h3]
      simp [h3, bb]
    · rw [if_neg h3]
      simp [h3, bb]
  · have h2 : ¬ (0 ≤ In k ∧ In k ≤ In n - 1) := by
      rintro ⟨z1, z2⟩
      obtain ⟨b, hb, e⟩ := n_rng (n := n) (by omega) z1 z2
      rw [n_eq hk (by omega)] at e
      omega
    rw [if_neg h2, decide_eq_false h1]
    rfl
theorem c105_loop {o : Nat} : ∀ (m i f : Nat) (σ : Sg), i + m = 24 → m < f → J105_1 f o (In i) σ = some (sr σ (o + 1) (fun k => if i ≤ k ∧ k < 24 then 0 else σ (o + 1) k)) := by
  intro m
  induction m with
  | zero =>
    intro i f σ hi hf
    obtain ⟨f, rfl⟩ : ∃ g, f = g + 1 := ⟨f - 1, by omega⟩
    unfold J105_1
    rw [show (24 : Int32) = In 24 from rfl, i_le (by omega) (by omega), if_pos (by omega)]
    congr 1
    funext a k
    by_cases h : a = o + 1
    · subst h
      rw [sr_at, if_neg (by omega)]
    · rw [sr_ne _ _ h]
  | succ m ih =>
    intro i f σ hi hf
    obtain ⟨f, rfl⟩ : ∃ g, f = g + 1 := ⟨f - 1, by omega⟩
    unfold J105_1
    rw [show (24 : Int32) = In 24 from rfl, i_le (by omega) (by omega), if_neg (by omega), if_pos (ib_n (by omega) (by omega)), n_ix (by omega), n_p1, ih (i + 1) f _ (by omega) (by omega)]
    congr 1
    funext a k
    by_cases h : a = o + 1
    · subst h
      rw [sr_at, sr_at, up_same]
      by_cases h1 : i + 1 ≤ k ∧ k < 24
      · rw [if_pos h1, if_pos (by omega)]
      · rw [if_neg h1]
        by_cases h2 : k = i
        · subst h2
          rw [upd_at, if_pos (by omega)]
        · rw [upd_ne _ _ h2, if_neg (by omega)]
    · rw [sr_ne _ _ h, sr_ne _ _ h, up_ne _ _ _ h]
theorem m202_loop {s : Nat} (hs : s < 4) : ∀ (m i f : Nat) (σ : Sg), i + m = 24 → m < f → J202_6 f (In s) (In i) σ = some (σ 154 s, sr σ 155 (fun k => if 24 * s + i ≤ k ∧ k < 24 * s + 24 then 0 else σ 155 k)) := by
  intro m
  induction m with
  | zero =>
    intro i f σ hi hf
    obtain ⟨f, rfl⟩ : ∃ g, f = g + 1 := ⟨f - 1, by omega⟩
    unfold J202_6
    rw [show (24 : Int32) = In 24 from rfl, i_le (by omega) (by omega), if_pos (by omega), if_pos (ib_n (by omega) (by omega)), n_ix (by omega)]
    congr 2
    funext a k
    by_cases h : a = 155
    · subst h
      rw [sr_at, if_neg (by omega)]
    · rw [sr_ne _ _ h]
  | succ m ih =>
    intro i f σ hi hf
    obtain ⟨f, rfl⟩ : ∃ g, f = g + 1 := ⟨f - 1, by omega⟩
    unfold J202_6
    rw [show (24 : Int32) = In 24 from rfl, i_le (by omega) (by omega), if_neg (by omega), n_mul, n_add, if_pos (ib_n (by omega) (by omega)), n_ix (by omega), n_p1, ih (i + 1) f _ (by omega) (by omega), up_ne _ _ _ (by omega)]
    congr 2
    funext a k
    by_cases h : a = 155
    · subst h
      rw [sr_at, sr_at, up_same]
      by_cases h1 : 24 * s + (i + 1) ≤ k ∧ k < 24 * s + 24
      · rw [if_pos h1, if_pos (by omega)]
      · rw [if_neg h1]
        by_cases h2 : k = 24 * s + i
        · subst h2
          rw [upd_at, if_pos (by omega)]
        · rw [upd_ne _ _ h2, if_neg (by omega)]
    · rw [sr_ne _ _ h, sr_ne _ _ h, up_ne _ _ _ h]
def shP (s a : Nat) : Prop := a = 53 + 2 * s ∨ a = 54 + 2 * s ∨ (153 ≤ a ∧ a ≤ 155)
/-- a sheet becomes another -/
theorem Iv_sh {σ τ : Sg} {s : Nat} (h : Iv σ) (hs : s < 4) (h1 : ∀ a, ¬ shP s a → τ a = σ a) (h2 : ∀ s', s' < 4 → s' ≠ s → τ 153 s' = σ 153 s' ∧ τ 154 s' = σ 154 s' ∧ ∀ k, k < 24 → τ 155 (24 * s' + k) = σ 155 (24 * s' + k)) (h3 : τ (53 + 2 * s) 1 = τ 153 s ∧ (τ 153 s = -1 ∨ τ 153 s = 0 ∨ τ 153 s = 1) ∧ (∃ n, n ≤ 24 ∧ τ (53 + 2 * s) 2 = In n ∧ τ 154 s = In n) ∧ ∀ k, k < 24 → τ (54 + 2 * s) k = τ 155 (24 * s + k) ∧ clOk (τ 155 (24 * s + k))) : Iv τ := by
  refine Iv_parts h (shP s) (fun a ha => by unfold shP at ha; omega) h1 (fun s' hs' => ?_) (Iv_e_c h.2.2.2.2.1 (fun a q1 q2 => h1 a (by unfold shP; omega)) fun a q1 q2 => h1 a (by unfold shP; omega))
  by_cases e : s' = s
  · subst e
    exact h3
  · obtain ⟨z1, z2, z3⟩ := h2 s' hs' e
    rw [h1 (53 + 2 * s') (by unfold shP; omega), h1 (54 + 2 * s') (by unfold shP; omega), z1, z2]
    obtain ⟨d1, d2, d3, d4⟩ := h.2.2.2.1 s' hs'
    exact ⟨d1, d2, d3, fun k hk => by rw [z3 k hk]; exact d4 k hk⟩
theorem m1_ne0 : ¬ (0 : Int32) ≤ -1 := by decide
theorem op_sheet (x y z : Int32) : Op (J104 x y z) (J202 x y z) := by
  intro σ h
  obtain ⟨hS, hdy, hc, hl, hi⟩ := h.1
  have h12 := hS.1.1.2
  have bad : ∀ r, J104 x y z σ = some (r, σ) → J202 x y z σ = some (r, σ) → ∃ r σ1 σ2, J104 x y z σ = some (r, σ1) ∧ J202 x y z σ1 = some (r, σ2) ∧ Iv σ2 ∧ σ1 2000 = σ 2000 ∧ σ2 2000 = σ 2000 := fun r e1 e2 => Op_ga h e1 e2 (fp_rf _ _) (fr_rf _ _)
  by_cases h1 : ¬(0 ≤ x ∧ x ≤ 3)
  · apply bad (-1000000001)
    · unfold J104
      rw [c69, Option.bind_some, i_b2, if_neg h1]
    · unfold J202
      rw [m182, Option.bind_some, i_b2, if_neg h1]
  replace h1 := Classical.not_not.mp h1
  by_cases h2 : ¬(-1 ≤ y ∧ y ≤ 1)
  · apply bad (-1000000001)
    · unfold J104
      rw [c69, Option.bind_some, i_b2, if_pos h1, c3, Option.bind_some, i_b2, if_neg h2]
    · unfold J202
      rw [m182, Option.bind_some, i_b2, if_pos h1, m125, Option.bind_some, i_b2, if_neg h2]
  replace h2 := Classical.not_not.mp h2
  obtain ⟨s, hs, rfl⟩ := n_rngI (n := 3) (by omega) h1.1 h1.2
  have new : ∀ (n : Nat) (r : Int32), n ≤ 24 → r = In n → J104 (In s) y z σ = (J105 (53 + 2 * s) y (In n) σ).bind (fun σ4 => some (r, σ4)) → (∀ τ : Sg, J202 (In s) y z τ = J202_5 (In n) (In s) (In s) (hy_up τ 153 s y)) → ∃ r σ1 σ2, J104 (In s) y z σ = some (r, σ1) ∧ J202 (In s) y z σ1 = some (r, σ2) ∧ Iv σ2 ∧ σ1 2000 = σ 2000 ∧ σ2 2000 = σ 2000 := by
    intro n r hn hr e1 e2
    generalize hA : hy_up (hy_up σ (53 + 2 * s) 1 y) (53 + 2 * s) 2 (In n) = A
    have eA : J105 (53 + 2 * s) y (In n) σ = some (sr A (54 + 2 * s) (fun k => if 0 ≤ k ∧ k < 24 then 0 else A (54 + 2 * s) k)) := by
      unfold J105
      rw [hA, show J105_1 hy_fu (53 + 2 * s) 0 A = _ from c105_loop 24 0 hy_fu A (by omega) (by unfold hy_fu; omega), show 53 + 2 * s + 1 = 54 + 2 * s by omega]
    generalize hB : sr A (54 + 2 * s) (fun k => if 0 ≤ k ∧ k < 24 then 0 else A (54 + 2 * s) k) = B at eA
    generalize hC : hy_up (hy_up B 153 s y) 154 s (In n) = C
    have eC : J202_5 (In n) (In s) (In s) (hy_up B 153 s y) = some (In n, sr C 155 (fun k => if 24 * s + 0 ≤ k ∧ k < 24 * s + 24 then 0 else C 155 k)) := by
      unfold J202_5
      rw [if_pos (ib_n (by omega) (by omega)), n_ix (by omega), hC, show J202_6 hy_fu (In s) 0 C = _ from m202_loop (show s < 4 by omega) 24 0 hy_fu C (by omega) (by unfold hy_fu; omega)]
      rw [show C 154 s = In n by rw [← hC, up_same, upd_at]]
    generalize hD : sr C 155 (fun k => if 24 * s + 0 ≤ k ∧ k < 24 * s + 24 then 0 else C 155 k) = D at eC
    have gB : ∀ a, a ≠ 53 + 2 * s → a ≠ 54 + 2 * s → B a = σ a := by
      intro a q1 q2
      rw [← hB, sr_ne _ _ q2, ← hA, up_ne _ _ _ q1, up_ne _ _ _ q1]
    have gC : ∀ a, a ≠ 153 → a ≠ 154 → C a = B a := by
      intro a q1 q2
      rw [← hC, up_ne _ _ _ q2, up_ne _ _ _ q1]
    have gD : ∀ a, a ≠ 155 → D a = C a := by
      intro a q1
      rw [← hD, sr_ne _ _ q1]
    have d153 : D 153 = upd (σ 153) s y := by
      rw [gD _ (by omega), ← hC, up_ne _ _ _ (by omega), up_same, gB _ (by omega) (by omega)]
    have d154 : D 154 = upd (σ 154) s (In n) := by
      rw [gD _ (by omega), ← hC, up_same, up_ne _ _ _ (by omega), gB _ (by omega) (by omega)]
    have d155 : ∀ k, D 155 k = if 24 * s + 0 ≤ k ∧ k < 24 * s + 24 then 0 else σ 155 k := by
      intro k
      rw [← hD, sr_at, gC _ (by omega) (by omega), gB _ (by omega) (by omega)]
    have dA : D (53 + 2 * s) = upd (upd (σ (53 + 2 * s)) 1 y) 2 (In n) := by
      rw [gD _ (by omega), gC _ (by omega) (by omega), ← hB, sr_ne _ _ (by omega), ← hA, up_same, up_same]
    have dB : ∀ k, k < 24 → D (54 + 2 * s) k = 0 := by
      intro k hk
      rw [gD _ (by omega), gC _ (by omega) (by omega), ← hB, sr_at, if_pos ⟨Nat.zero_le _, hk⟩]
    refine ⟨r, B, D, by rw [e1, eA]; rfl, by rw [e2, eC, hr], ?_, gB 2000 (by omega) (by omega), by rw [gD _ (by omega), gC _ (by omega) (by omega)]; exact gB 2000 (by omega) (by omega)⟩
    refine Iv_sh (s := s) h (by omega) (fun a ha => ?_) (fun s' hs' hne => ⟨?_, ?_, fun k hk => ?_⟩) ⟨?_, ?_, ⟨n, hn, ?_, ?_⟩, fun k hk => ⟨?_, ?_⟩⟩
    · unfold shP at ha
      rw [gD _ (by omega), gC _ (by omega) (by omega), gB _ (by omega) (by omega)]
    · rw [d153, upd_ne _ _ hne]
    · rw [d154, upd_ne _ _ hne]
    · rw [d155, if_neg (by omega)]
    · rw [dA, d153, upd_at, upd_ne _ _ (by omega), upd_at]
    · rw [d153, upd_at]
      have : y.toInt = -1 ∨ y.toInt = 0 ∨ y.toInt = 1 := by
        obtain ⟨z1, z2⟩ := h2
        rw [Int32.le_iff_toInt_le] at z1 z2
        have e1 : (1 : Int32).toInt = 1 := rfl
        have e2 : (-1 : Int32).toInt = -1 := rfl
        omega
      have hz := z_of y
      rcases this with e | e | e
      · exact Or.inl (by rw [hz, e]; rfl)
      · exact Or.inr (Or.inl (by rw [hz, e]; rfl))
      · exact Or.inr (Or.inr (by rw [hz, e]; rfl))
    · rw [dA, upd_at]
    · rw [d154, upd_at]
    · rw [dB k hk, d155, if_pos (by omega)]
    · rw [d155, if_pos (by omega)]
      exact Or.inr ⟨0, by omega, by omega, rfl⟩
  by_cases h3 : y = -1
  · subst h3
    apply new 0 0 (by omega) rfl
    · unfold J104
      rw [c69, Option.bind_some, i_b2, if_pos h1, c3, Option.bind_some, i_b2, if_pos h2]
      dsimp only
      rw [if_pos rfl, if_pos (ib_n (by omega) (by omega)), n_ix (by omega)]
      rfl
    · intro τ
      unfold J202 J202_2 J202_3
      rw [m182, Option.bind_some, i_b2, if_pos h1, m125, Option.bind_some, i_b2, if_pos h2]
      dsimp only
      rw [if_pos (by decide), if_pos (by decide), if_pos (ib_n (by omega) (by omega)), n_ix (by omega), if_neg (by decide)]
      rfl
  have y0 : 0 ≤ y := by
    obtain ⟨z1, z2⟩ := h2
    rw [Int32.le_iff_toInt_le] at z1 z2 ⊢
    have e1 : (0 : Int32).toInt = 0 := rfl
    have e2 : (-1 : Int32).toInt = -1 := rfl
    have : y.toInt ≠ -1 := fun e => h3 (by rw [z_of y, e]; rfl)
    omega
  have yn : ¬ y < 0 := Int32.not_lt.mpr y0
  by_cases h4 : ¬(z ≤ 24)
  · apply bad (-1000000001)
    · unfold J104
      rw [c69, Option.bind_some, i_b2, if_pos h1, c3, Option.bind_some, i_b2, if_pos h2]
      dsimp only
      rw [if_neg h3, if_neg h4]
    · unfold J202
      rw [m182, Option.bind_some, i_b2, if_pos h1, m125, Option.bind_some, i_b2, if_pos h2]
      dsimp only
      rw [if_neg yn, if_neg h4]
  replace h4 := Classical.not_not.mp h4
  by_cases h5 : ¬(0 ≤ z)
  · apply bad (-1000000014)
    · unfold J104
      rw [c69, Option.bind_some, i_b2, if_pos h1, c3, Option.bind_some, i_b2, if_pos h2]
      dsimp only
      rw [if_neg h3, if_pos h4, if_neg h5]
    · unfold J202 J202_2
      rw [m182, Option.bind_some, i_b2, if_pos h1, m125, Option.bind_some, i_b2, if_pos h2]
      dsimp only
      rw [if_neg yn, if_pos h4, if_neg yn, if_neg h5]
  replace h5 := Classical.not_not.mp h5
  obtain ⟨n, hn, rfl⟩ := n_rngI (n := 24) (by omega) h5 h4
  apply new n (In n) hn rfl
  · unfold J104
    rw [c69, Option.bind_some, i_b2, if_pos h1, c3, Option.bind_some, i_b2, if_pos h2]
    dsimp only
    rw [if_neg h3, if_pos h4, if_pos h5, if_pos (ib_n (by omega) (by omega)), n_ix (by omega)]
  · intro τ
    unfold J202 J202_2 J202_3
    rw [m182, Option.bind_some, i_b2, if_pos h1, m125, Option.bind_some, i_b2, if_pos h2]
    dsimp only
    rw [if_neg yn, if_pos h4, if_neg yn, if_pos h5, if_pos (ib_n (by omega) (by omega)), n_ix (by omega), if_pos y0]
theorem sort_c {x : Int32} (h : x = -1 ∨ x = 0 ∨ x = 1) : (x = -1 ↔ ¬ 0 ≤ x) ∧ (x = -1 ↔ x < 0) := by
  rcases h with e | e | e <;> subst e <;> decide
theorem sh_16 (v : Int32) : clOk (v.toInt16.toInt32) := by
  refine Or.inr ⟨v.toInt16.toInt, ?_, ?_, ?_⟩
  · have := Int16.le_toInt v.toInt16
    omega
  · have := Int16.toInt_lt v.toInt16
    omega
  · rw [z_of (v.toInt16.toInt32), Int16.toInt_toInt32]
theorem op_mark (x y z : Int32) : Op (J106 x y z) (J203 x y z) := by
  intro σ h
  obtain ⟨hS, hdy, hc, hl, hi⟩ := h.1
  have h12 := hS.1.1.2
  have bad : ∀ r, J106 x y z σ = some (r, σ) → J203 x y z σ = some (r, σ) → ∃ r σ1 σ2, J106 x y z σ = some (r, σ1) ∧ J203 x y z σ1 = some (r, σ2) ∧ Iv σ2 ∧ σ1 2000 = σ 2000 ∧ σ2 2000 = σ 2000 := fun r e1 e2 => Op_ga h e1 e2 (fp_rf _ _) (fr_rf _ _)
  by_cases h1 : ¬(0 ≤ x ∧ x ≤ 3)
  · apply bad (-1000000001)
    · unfold J106
      rw [c69, Option.bind_some, i_b2, if_neg h1]
    · unfold J203
      rw [m182, Option.bind_some, i_b2, if_neg h1]
  replace h1 := Classical.not_not.mp h1
  obtain ⟨s, hs, rfl⟩ := n_rngI (n := 3) (by omega) h1.1 h1.2
  obtain ⟨d1, d2, ⟨n, hn, d3, d4⟩, d5⟩ := h.2.2.2.1 s (by omega)
  obtain ⟨s1, s2⟩ := sort_c d2
  by_cases h2 : σ 153 s = -1
  · apply bad (-1000000011)
    · unfold J106
      rw [c69, Option.bind_some, i_b2, if_pos h1]
      dsimp only
      rw [if_pos (ib_n (by omega) (by omega)), n_ix (by omega), c70, Option.bind_some, i_b2, d1, if_pos h2]
    · unfold J203
      rw [m182, Option.bind_some, i_b2, if_pos h1]
      dsimp only
      rw [if_pos (ib_n (by omega) (by omega)), n_ix (by omega), if_neg (s1.mp h2)]
  have h0 : 0 ≤ σ 153 s := Classical.not_not.mp fun q => h2 (s1.mpr q)
  by_cases h3 : ¬(0 ≤ y ∧ y ≤ In n - 1)
  · apply bad (-1000000013)
    · unfold J106
      rw [c69, Option.bind_some, i_b2, if_pos h1]
      dsimp only
      rw [if_pos (ib_n (by omega) (by omega)), n_ix (by omega), c70, Option.bind_some, i_b2, d1, if_neg h2, c73 _ d3, Option.bind_some, i_b2, if_neg h3]
    · unfold J203
      rw [m182, Option.bind_some, i_b2, if_pos h1]
      dsimp only
      rw [if_pos (ib_n (by omega) (by omega)), n_ix (by omega), if_pos h0, if_pos (ib_n (by omega) (by omega)), d4, m125, Option.bind_some, i_b2, if_neg h3]
  replace h3 := Classical.not_not.mp h3
  obtain ⟨p, hp, rfl⟩ := n_rng (n := n) (by omega) h3.1 h3.2
  have i5 : (24 : Int32) * In s + In p = In (24 * s + p) := by
    rw [show (24 : Int32) = In 24 from rfl, n_mul, n_add]
  have eC : J106 (In s) (In p) z σ = if σ 153 s = 0 then (if z = -1000000005 then some (-1000000012, σ) else some (1, hy_up σ (54 + 2 * s) p (z.toInt16.toInt32))) else (if z = -1000000005 then some (1, hy_up σ (54 + 2 * s) p z) else if -99999 ≤ z ∧ z ≤ 99999 then some (1, hy_up σ (54 + 2 * s) p z) else some (-1000000001, σ)) := by
    unfold J106 J106_6
    rw [c69, Option.bind_some, i_b2, if_pos h1]
    dsimp only
    rw [if_pos (ib_n (by omega) (by omega)), n_ix (by omega), c70, Option.bind_some, i_b2, d1, if_neg h2, c73 _ d3, Option.bind_some, i_b2, if_pos h3]
    dsimp only
    rw [if_pos (ib_n (by omega) (by omega)), if_pos (ib_n (by omega) (by omega)), n_ix (by omega), c3, Option.bind_some, i_b2, show 53 + 2 * s + 1 = 54 + 2 * s by omega]
    simp only [d1]
    rw [if_pos (ib_n (show p < 2147483648 by omega) (by omega))]
  have eR : ∀ τ : Sg, τ 153 = σ 153 → τ 154 = σ 154 → J203 (In s) (In p) z τ = if σ 153 s = 0 then (if z = -1000000005 then some (-1000000012, τ) else some (1, hy_up τ 155 (24 * s + p) (z.toInt16.toInt32))) else (if z = -1000000005 then some (1, hy_up τ 155 (24 * s + p) z) else if -99999 ≤ z ∧ z ≤ 99999 then some (1, hy_up τ 155 (24 * s + p) z) else some (-1000000001, τ)) := by
    intro τ t1 t2
    have e7 : ∀ v : Int32, J203_7 v (In (24 * s + p)) τ = some (1, hy_up τ 155 (24 * s + p) v) := by
      intro v
      unfold J203_7
      rw [if_pos (ib_n (by omega) (by omega)), n_ix (by omega)]
    have e5 : J203_5 (In s) (In p) z τ = if σ 153 s = 0 then some (1, hy_up τ 155 (24 * s + p) (z.toInt16.toInt32)) else some (1, hy_up τ 155 (24 * s + p) z) := by
      unfold J203_5
      rw [if_pos (ib_n (by omega) (by omega)), n_ix (by omega), i5, e7, e7, t1]
    have e4 : J203_4 (In s) (In p) z τ = if σ 153 s = 1 then (if z = -1000000005 then J203_5 (In s) (In p) z τ else if -99999 ≤ z ∧ z ≤ 99999 then J203_5 (In s) (In p) z τ else some (-1000000001, τ)) else J203_5 (In s) (In p) z τ := by
      unfold J203_4
      rw [if_pos (ib_n (by omega) (by omega)), n_ix (by omega), m125, Option.bind_some, i_b2, t1]
    unfold J203
    rw [m182, Option.bind_some, i_b2, if_pos h1]
    dsimp only
    rw [if_pos (ib_n (by omega) (by omega)), n_ix (by omega)]
    simp only [t1]
    rw [if_pos h0, if_pos (ib_n (by omega) (by omega)), t2, d4, m125, Option.bind_some, i_b2, if_pos h3]
    dsimp only
    rw [if_pos (ib_n (by omega) (by omega))]
    simp only [t1]
    rw [e4, e5]
    rcases d2 with e | e | e
    · exact absurd e h2
    · rw [if_pos e, if_pos e, if_pos e, if_neg (show ¬ σ 153 s = 1 by rw [e]; decide)]
    · have : ¬ σ 153 s = 0 := by rw [e]; decide
      rw [if_neg this, if_neg this, if_neg this, if_pos e]
  have good : ∀ v : Int32, clOk v → J106 (In s) (In p) z σ = some (1, hy_up σ (54 + 2 * s) p v) → (∀ τ : Sg, τ 153 = σ 153 → τ 154 = σ 154 → J203 (In s) (In p) z τ = some (1, hy_up τ 155 (24 * s + p) v)) → ∃ r σ1 σ2, J106 (In s) (In p) z σ = some (r, σ1) ∧ J203 (In s) (In p) z σ1 = some (r, σ2) ∧ Iv σ2 ∧ σ1 2000 = σ 2000 ∧ σ2 2000 = σ 2000 := by
    intro v hv e1 e2
    refine ⟨1, _, _, e1, e2 _ (up_ne _ _ _ (by omega)) (up_ne _ _ _ (by omega)), ?_, up_ne _ _ _ (by omega), by rw [up_ne _ _ _ (by omega), up_ne _ _ _ (by omega)]⟩
    refine Iv_sh (s := s) h (by omega) (fun a ha => ?_) (fun s' hs' hne => ⟨?_, ?_, fun k hk => ?_⟩) ⟨?_, ?_, ⟨n, hn, ?_, ?_⟩, fun k hk => ?_⟩
    · unfold shP at ha
      rw [up_ne _ _ _ (by omega), up_ne _ _ _ (by omega)]
    · rw [up_ne _ _ _ (by omega), up_ne _ _ _ (by omega)]
    · rw [up_ne _ _ _ (by omega), up_ne _ _ _ (by omega)]
    · rw [up_same, upd_ne _ _ (by omega), up_ne _ _ _ (by omega)]
    · rw [up_ne _ _ _ (by omega), up_ne _ _ _ (by omega), up_ne _ _ _ (by omega), up_ne _ _ _ (by omega)]
      exact d1
    · rw [up_ne _ _ _ (by omega), up_ne _ _ _ (by omega)]
      exact d2
    · rw [up_ne _ _ _ (by omega), up_ne _ _ _ (by omega)]
      exact d3
    · rw [up_ne _ _ _ (by omega), up_ne _ _ _ (by omega)]
      exact d4
    · rw [up_ne _ _ _ (by omega), up_same, up_same, up_ne _ _ _ (by omega)]
      by_cases hkp : k = p
      · subst hkp
        rw [upd_at, upd_at]
        exact ⟨rfl, hv⟩
      · rw [upd_ne _ _ hkp, upd_ne _ _ (by omega)]
        exact d5 k hk
  rcases d2 with e | e | e
  · exact absurd e h2
  · by_cases h4 : z = -1000000005
    · exact bad (-1000000012) (by rw [eC, if_pos e, if_pos h4]) (by rw [eR σ rfl rfl, if_pos e, if_pos h4])
    · exact good _ (sh_16 z) (by rw [eC, if_pos e, if_neg h4]) (fun τ t1 t2 => by rw [eR τ t1 t2, if_pos e, if_neg h4])
  · have e0 : ¬ σ 153 s = 0 := by rw [e]; decide
    by_cases h4 : z = -1000000005
    · exact good z (Or.inl h4) (by rw [eC, if_neg e0, if_pos h4]) (fun τ t1 t2 => by rw [eR τ t1 t2, if_neg e0, if_pos h4])
    by_cases h5 : -99999 ≤ z ∧ z ≤ 99999
    · refine good z (Or.inr ⟨z.toInt, ?_, ?_, z_of z⟩) (by rw [eC, if_neg e0, if_neg h4, if_pos h5]) (fun τ t1 t2 => by rw [eR τ t1 t2, if_neg e0, if_neg h4, if_pos h5])
      · have := h5.1
        rw [Int32.le_iff_toInt_le] at this
        exact this
      · have := h5.2
        rw [Int32.le_iff_toInt_le] at this
        exact this
    · exact bad (-1000000001) (by rw [eC, if_neg e0, if_neg h4, if_neg h5]) (by rw [eR σ rfl rfl, if_neg e0, if_neg h4, if_neg h5])
