/-! PURE: count, behind, ends, keep, back -/
theorem op_count (x : Int32) : Op (J123 x) (J217 x) := by
  intro σ h
  obtain ⟨hS, hdy, hc, hl, hi⟩ := h.1
  have h12 := hS.1.1.2
  have bad : ∀ r, J123 x σ = some (r, σ) → J217 x σ = some (r, σ) → ∃ r σ1 σ2, J123 x σ = some (r, σ1) ∧ J217 x σ1 = some (r, σ2) ∧ Iv σ2 ∧ σ1 2000 = σ 2000 ∧ σ2 2000 = σ 2000 := fun r e1 e2 => Op_ga h e1 e2 (fp_rf _ _) (fr_rf _ _)
  obtain ⟨n, hn, b1, b2', b3⟩ := h.2.1
  obtain ⟨w, hw, f1, f2, f3⟩ := h.2.2.2.2.2
  by_cases h9 : ¬(0 ≤ x ∧ x ≤ 9)
  · apply bad (-1000000001)
    · unfold J123
      have n0 : ¬ x = 0 := fun e => h9 (by rw [e]; decide)
      have n1 : ¬ x = 1 := fun e => h9 (by rw [e]; decide)
      have n2 : ¬ x = 2 := fun e => h9 (by rw [e]; decide)
      have n3 : ¬ x = 3 := fun e => h9 (by rw [e]; decide)
      have n4 : ¬ x = 4 := fun e => h9 (by rw [e]; decide)
      have n5 : ¬ x = 5 := fun e => h9 (by rw [e]; decide)
      have n6 : ¬ x = 6 := fun e => h9 (by rw [e]; decide)
      have n7 : ¬ x = 7 := fun e => h9 (by rw [e]; decide)
      have n8 : ¬ x = 8 := fun e => h9 (by rw [e]; decide)
      have n9 : ¬ x = 9 := fun e => h9 (by rw [e]; decide)
      simp only [hy_sw, if_neg n0, if_neg n1, if_neg n2, if_neg n3, if_neg n4, if_neg n5, if_neg n6, if_neg n7, if_neg n8, if_neg n9]
    · unfold J217
      have n0 : ¬ x = 0 := fun e => h9 (by rw [e]; decide)
      have n1 : ¬ x = 1 := fun e => h9 (by rw [e]; decide)
      have n2 : ¬ x = 2 := fun e => h9 (by rw [e]; decide)
      have n3 : ¬ x = 3 := fun e => h9 (by rw [e]; decide)
      have n4 : ¬ x = 4 := fun e => h9 (by rw [e]; decide)
      have n5 : ¬ x = 5 := fun e => h9 (by rw [e]; decide)
      have n6 : ¬ x = 6 := fun e => h9 (by rw [e]; decide)
      have n7 : ¬ x = 7 := fun e => h9 (by rw [e]; decide)
      have n8 : ¬ x = 8 := fun e => h9 (by rw [e]; decide)
      have n9 : ¬ x = 9 := fun e => h9 (by rw [e]; decide)
      simp only [hy_sw, if_neg n0, if_neg n1, if_neg n2, if_neg n3, if_neg n4, if_neg n5, if_neg n6, if_neg n7, if_neg n8, if_neg n9]
  replace h9 := Classical.not_not.mp h9
  obtain ⟨k, hk, rfl⟩ := n_rngI (n := 9) (by omega) h9.1 h9.2
  match k, hk with
  | 0, _ =>
    apply bad (σ 139 1)
    · show some (σ 81 7, σ) = _
      rw [hc.1.1]
    · rfl
  | 1, _ =>
    apply bad (σ 139 2)
    · show some (σ 81 11, σ) = _
      rw [hc.1.2.2.2.2.1]
    · rfl
  | 2, _ =>
    apply bad (σ 139 3)
    · show some (σ 81 8, σ) = _
      rw [hc.1.2.1]
    · rfl
  | 3, _ =>
    apply bad (σ 139 4)
    · show some (σ 81 9, σ) = _
      rw [hc.1.2.2.1]
    · rfl
  | 4, _ =>
    apply bad (σ 139 5)
    · show some (σ 81 10, σ) = _
      rw [hc.1.2.2.2.1]
    · rfl
  | 5, _ =>
    apply bad (In (mnOn (σ 139)))
    · show (J56 81 σ).bind _ = _
      rw [c56 hS.1 hc]
      rfl
    · show (J168 σ).bind _ = _
      rw [m168 hS.1]
      rfl
  | 6, _ =>
    apply bad (σ 139 6)
    · show some (σ 81 13, σ) = _
      rw [hc.1.2.2.2.2.2.2]
    · rfl
  | 7, _ =>
    apply bad (In w)
    · show some (σ 0 10, σ) = _
      rw [f1]
    · show some (σ 138 35, σ) = _
      rw [f2]
  | 8, _ =>
    apply bad (In n)
    · show some (σ 2 2, σ) = _
      rw [b1]
    · show some (σ 138 9, σ) = _
      rw [b2']
  | 9, _ =>
    apply bad (σ 139 0)
    · show some (σ 81 12, σ) = _
      rw [hc.1.2.2.2.2.2.1]
    · rfl
  | n + 10, h => omega
/-- what is only thought: the reference puts its row back -/
def thL1 : List Nat := [139, 142, 144, 151, 152, 10006]
theorem m176b {σ : Sg} {S : Rw} (h1 : ∀ k, k < 79 → σ 144 k = S k) (h2 : eqT S (σ 139)) : J176 σ = some (wr σ S) := by
  rw [m176]
  have : (fun k => if k < 79 then σ 144 k else σ 139 k) = S := by
    funext k
    by_cases h : k < 79
    · rw [if_pos h, h1 k h]
    · rw [if_neg h, h2.2 k (by omega)]
  rw [this]
theorem fr_back {σ σ' : Sg} {S : Rw} (hs : σ 139 = S) (h : fr (139 :: gaL) σ σ') : fr gaL σ (wr σ' S) := by
  intro a k hk
  by_cases ha : a = 139
  · subst ha
    rw [wr_at, hs]
  · rw [wr_ne _ _ ha]
    exact h a k (by
      intro z
      rcases List.mem_cons.mp z with z | z
      · unfold fk at z
        split at z
        · omega
        · exact ha z
      · exact hk z)
theorem fp_100 {σ σ' : Sg} (h : fp (dyP 100) σ σ') : fp gaP σ σ' := fp_wk h fun a ha => by unfold dyP plP at ha; unfold gaP plP; omega
theorem fp_co100 {σ σ' : Sg} (h : fp (coP 100) σ σ') : fp (dyP 100) σ σ' := fp_wk h fun a ha => by unfold coP at ha; unfold dyP; omega
theorem fp_va100 {σ σ' : Sg} (h : fp (vaP 100) σ σ') : fp (dyP 100) σ σ' := fp_wk h fun a ha => by unfold vaP plP at ha; unfold dyP plP; omega
theorem op_behind (x y : Int32) : Op (J62 x y) (J173 x y) := by
  intro σ h
  obtain ⟨hS, hdy, hc, hl, hi⟩ := h.1
  have h12 := hS.1.1.2
  have bad : ∀ r, J62 x y σ = some (r, σ) → J173 x y σ = some (r, σ) → ∃ r σ1 σ2, J62 x y σ = some (r, σ1) ∧ J173 x y σ1 = some (r, σ2) ∧ Iv σ2 ∧ σ1 2000 = σ 2000 ∧ σ2 2000 = σ 2000 := fun r e1 e2 => Op_ga h e1 e2 (fp_rf _ _) (fr_rf _ _)
  by_cases h1 : ¬(0 ≤ x ∧ x ≤ 40)
  · apply bad (-1000000001)
    · unfold J62
      rw [c3, Option.bind_some, i_b2, if_neg h1]
    · unfold J173
      rw [m125, Option.bind_some, i_b2, if_neg h1]
  replace h1 := Classical.not_not.mp h1
  obtain ⟨n, hn, rfl⟩ := n_rngI (n := 40) (by omega) h1.1 h1.2
  have e37 : (3 : Int32) + σ 81 7 - 1 = In (2 + nb (σ 139)) := by
    rw [hc.1.1, hS.1.1.1, show (3 : Int32) = In 3 from rfl, n_add, n_s1 (by omega)]
    congr 1
    omega
  by_cases h2 : ¬(0 ≤ y ∧ y ≤ In (2 + nb (σ 139)))
  · apply bad (-1000000001)
    · unfold J62
      rw [c3, Option.bind_some, i_b2, if_pos h1]
      dsimp only
      rw [e37, c3, Option.bind_some, i_b2, if_neg h2]
    · unfold J173
      rw [m125, Option.bind_some, i_b2, if_pos h1]
      dsimp only
      by_cases q1 : y < 0
      · rw [if_pos q1]
      · have q0 : 0 ≤ y := Int32.not_lt.mp q1
        have q2 : ¬ y ≤ 2 := fun z => h2 ⟨q0, by
          have e : (2 : Int32) ≤ In (2 + nb (σ 139)) := by
            rw [show (2 : Int32) = In 2 from rfl, n_le (by omega) (by omega)]
            omega
          rw [Int32.le_iff_toInt_le] at z e ⊢
          omega⟩
        have q3 : ¬ (0 ≤ y - 3 ∧ y - 3 ≤ σ 139 1 - 1) := by
          rintro ⟨z1, z2⟩
          obtain ⟨b, hb, e⟩ := n_rng (n := nb (σ 139)) (by omega) z1 (by rw [← hS.1.1.1]; exact z2)
          have hy : y = In (b + 3) := by
            rw [← n_add, ← e, show In 3 = (3 : Int32) from rfl, Int32.sub_add_cancel]
          exact h2 ⟨q0, by rw [hy, n_le (by omega) (by omega)]; omega⟩
        rw [if_neg q1, if_neg q2, m132, Option.bind_some, i_b2, if_neg q3]
  replace h2 := Classical.not_not.mp h2
  obtain ⟨w, hw, rfl⟩ := n_rngI (n := 2 + nb (σ 139)) (by omega) h2.1 h2.2
  have hD := dyN_k (n := n) hS
  -- the class
  obtain ⟨σ1, a1, a2, a3⟩ := c49 (o := 100) (r := 81) hS.1 (by omega) hc
  have hl1 := Rl_dy (o := 100) (by omega) hS.1 hl (fp_co100 a3)
  obtain ⟨σ2, b1, b2, b3⟩ := c58 (o := 100) (n := n) hS (by omega) (by omega) a2 hl1
  have f2 : fp (dyP 100) σ σ2 := fp_tr (fp_co100 a3) b3
  have hl2 := eqT_Rl hD.2.2 (Rl_dy (o := 100) (by omega) hS.1 hl f2)
  have eC : J62 (In n) (In w) σ = hy_sw (In w) [(0, (J45 100 0 σ2).bind fun p5 => some (p5.1, p5.2)), (1, (J56 100 σ2).bind fun p6 => some (p6.1, p6.2)), (2, (J63 100 σ2).bind fun p7 => some (p7.1, p7.2))] (if hy_ib (In w - 3) 12 then some (σ2 (107 + hy_ix (In w - 3)) 2, σ2) else none) := by
    unfold J62
    rw [c3, Option.bind_some, i_b2, if_pos h1]
    dsimp only
    rw [e37, c3, Option.bind_some, i_b2, if_pos h2]
    dsimp only
    rw [a1, Option.bind_some, b1, Option.bind_some]
  -- the reference
  have eR : ∀ τ : Sg, τ 139 = σ 139 → ∃ τ3, τ3 139 = dyN n (σ 139) ∧ fr thL1 τ τ3 ∧ (∀ k, k < 79 → τ3 144 k = σ 139 k) ∧ J173 (In n) (In w) τ = if In w = 0 then ((J161 0 τ3).bind fun p7 => J173_6 p7.1 p7.2) else (if In w = 1 then ((J168 τ3).bind fun p6 => J173_6 p6.1 p6.2) else (if In w = 2 then ((J175 τ3).bind fun p5 => J173_6 p5.1 p5.2) else ((J128 (In w - 3) 2 τ3).bind fun p4 => J173_6 p4.1 p4.2))) := by
    intro τ hτ
    obtain ⟨τ3, r1, r2, r3⟩ := m169 (n := n) (by omega) (σ := sr τ 144 (fun k => if k < 79 then τ 139 k else τ 144 k)) (S := σ 139) (by rw [sr_ne _ _ (by omega)]; exact hτ) hS
    refine ⟨τ3, r2, fr_tr (fr_sr _ _ (by simp [thL1]) (by omega)) (fr_wk r3 fun a ha => by simp [dyL] at ha; simp [thL1]; omega), fun k hk => ?_, ?_⟩
    · rw [fr_row r3 (by omega) (by simp [dyL]), sr_at, if_pos hk, hτ]
    · have go : J173_2 (In n) (In w) τ = if In w = 0 then ((J161 0 τ3).bind fun p7 => J173_6 p7.1 p7.2) else (if In w = 1 then ((J168 τ3).bind fun p6 => J173_6 p6.1 p6.2) else (if In w = 2 then ((J175 τ3).bind fun p5 => J173_6 p5.1 p5.2) else ((J128 (In w - 3) 2 τ3).bind fun p4 => J173_6 p4.1 p4.2))) := by
        unfold J173_2
        rw [m174, Option.bind_some, r1, Option.bind_some]
      unfold J173
      rw [m125, Option.bind_some, i_b2, if_pos h1]
      dsimp only
      rw [if_neg (show ¬ In w < (0 : Int32) by show ¬ In w < In 0; rw [n_lt (by omega) (by omega)]; omega), go]
      by_cases hw2 : w ≤ 2
      · rw [if_pos (show In w ≤ (2 : Int32) by show In w ≤ In 2; rw [n_le (by omega) (by omega)]; exact hw2)]
      · have e3 : In w - 3 = In (w - 3) := n_sub (b := 3) (by omega)
        have q3 : 0 ≤ In w - 3 ∧ In w - 3 ≤ τ 139 1 - 1 := by
          rw [e3, hτ, hS.1.1.1, n_s1 (by omega)]
          exact ⟨show In 0 ≤ _ by rw [n_le (by omega) (by omega)]; omega, by rw [n_le (by omega) (by omega)]; omega⟩
        rw [if_neg (show ¬ In w ≤ (2 : Int32) by show ¬ In w ≤ In 2; rw [n_le (by omega) (by omega)]; exact hw2), m132, Option.bind_some, i_b2, if_pos q3, go]
  have fin : ∀ (v : Int32) (τ τ3 : Sg), fp gaP σ τ → τ 139 = σ 139 → (∀ k, k < 79 → τ3 144 k = σ 139 k) → eqT (σ 139) (τ3 139) → fr (139 :: gaL) τ τ3 → J62 (In n) (In w) σ = some (v, τ) → J173 (In n) (In w) τ = J173_6 v τ3 → ∃ r σ1 σ2, J62 (In n) (In w) σ = some (r, σ1) ∧ J173 (In n) (In w) σ1 = some (r, σ2) ∧ Iv σ2 ∧ σ1 2000 = σ 2000 ∧ σ2 2000 = σ 2000 := by
    intro v τ τ3 q1 q2 q3 q4 q5 q6 q7
    refine Op_ga h (r := v) (σ1 := τ) (σ2 := wr τ3 (σ 139)) q6 ?_ q1 (fr_back q2 q5)
    rw [q7]
    unfold J173_6
    rw [m176b q3 q4, Option.bind_some]
  have thw : ∀ a ∈ thL1, a ∈ 139 :: gaL := by simp [thL1, gaL]
  by_cases w0 : w = 0
  · subst w0
    obtain ⟨σ3, g1, g2, g3⟩ := c45 (o := 100) (fm := 0) (by omega) hD.1 b2 hl2 (by omega)
    have f3 : fp gaP σ σ3 := fp_100 (fp_tr f2 (fp_va100 g2))
    have h139 : σ3 139 = σ 139 := f3 139 (by unfold gaP plP; omega)
    obtain ⟨τ3, t1, t2, t3, t4⟩ := eR σ3 h139
    obtain ⟨τ4, s1, s2⟩ := m161 (fm := 0) t1 hD.1 (by omega)
    have t144 : τ4 144 = τ3 144 := fr_row s2 (by omega) (by simp)
    have t139 : τ4 139 = τ3 139 := fr_row s2 (by omega) (by simp)
    refine fin (Zn (ldS (dyN n (σ 139)) 0)) σ3 τ4 f3 h139 (fun k hk => by rw [t144]; exact t3 k hk) (by rw [t139, t1]; exact hD.2.2) (fr_tr (fr_wk t2 thw) (fr_wk s2 (by simp [gaL]))) ?_ ?_
    · rw [eC]
      show (J45 100 0 σ2).bind _ = _
      rw [show J45 100 0 σ2 = _ from g1]
      rfl
    · rw [t4, if_pos (show In 0 = 0 from rfl), show J161 0 τ3 = _ from s1, Option.bind_some]
  by_cases w1 : w = 1
  · subst w1
    obtain ⟨τ3, t1, t2, t3, t4⟩ := eR σ2 (f2 139 (by unfold dyP plP; omega))
    refine fin (In (mnOn (dyN n (σ 139)))) σ2 τ3 (fp_100 f2) (f2 139 (by unfold dyP plP; omega)) t3 (by rw [t1]; exact hD.2.2) (fr_wk t2 thw) ?_ ?_
    · rw [eC]
      show (J56 100 σ2).bind _ = _
      rw [c56 hD.1.1 b2]
      rfl
    · rw [t4, if_neg (by decide), if_pos (show In 1 = 1 from rfl), m168 (by rw [t1]; exact hD.1.1), t1, Option.bind_some]
  by_cases w2 : w = 2
  · subst w2
    obtain ⟨τ3, t1, t2, t3, t4⟩ := eR σ2 (f2 139 (by unfold dyP plP; omega))
    refine fin (In (hyOn (dyN n (σ 139)))) σ2 τ3 (fp_100 f2) (f2 139 (by unfold dyP plP; omega)) t3 (by rw [t1]; exact hD.2.2) (fr_wk t2 thw) ?_ ?_
    · rw [eC]
      show (J63 100 σ2).bind _ = _
      rw [c63 hD.1.1 b2]
      rfl
    · rw [t4, if_neg (by decide), if_neg (by decide), if_pos (show In 2 = 2 from rfl), m175 (by rw [t1]; exact hD.1.1), t1, Option.bind_some]
  have e3 : In w - 3 = In (w - 3) := n_sub (b := 3) (by omega)
  have m0 : ¬ In w = 0 := fun z => w0 (by rwa [n_e0 (by omega)] at z)
  have m1 : ¬ In w = 1 := fun z => w1 (by rwa [n_e1 (by omega)] at z)
  have m2 : ¬ In w = 2 := fun z => w2 (by rwa [show (2 : Int32) = In 2 from rfl, n_eq (by omega) (by omega)] at z)
  obtain ⟨τ3, t1, t2, t3, t4⟩ := eR σ2 (f2 139 (by unfold dyP plP; omega))
  refine fin (dyN n (σ 139) (7 + 6 * (w - 3) + 2)) σ2 τ3 (fp_100 f2) (f2 139 (by unfold dyP plP; omega)) t3 (by rw [t1]; exact hD.2.2) (fr_wk t2 thw) ?_ ?_
  · rw [eC]
    simp only [hy_sw, if_neg m0, if_neg m1, if_neg m2]
    rw [e3, if_pos (ib_n (by omega) (by omega)), n_ix (by omega), rc100 b2 (by rw [hD.2.1]; omega) (by omega)]
  · rw [t4, if_neg m0, if_neg m1, if_neg m2, e3, show J128 (In (w - 3)) 2 τ3 = _ from m128 (w := 2) (by omega) τ3, Option.bind_some, t1]
