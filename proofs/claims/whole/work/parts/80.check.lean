/-! PURE: numbers that wait; days told -/
theorem Iv_a_e {σ τ : Sg} (h : Iv_a σ) (h1 : eqR (σ 139) (τ 139)) (h2 : τ 140 = σ 140) (h3 : τ 0 5 = σ 0 5) (h4 : τ 138 3 = σ 138 3) (h5 : ∀ a, coP 81 a ∨ coP 119 a → τ a = σ a) (h6 : ∀ a, 11 ≤ a → a < 53 → a % 3 ≠ 1 → τ a = σ a) : Iv_a τ := by
  obtain ⟨a1, a2, a3, a4, a5, a6⟩ := h
  have hT := eqR_Ok h1 a1
  have hN := eqR_N h1 a1
  refine ⟨hT, eqR_day h1 a2, Rc_c hT.1 (eqR_Rc h1 a1.1 a3) fun a ha => h5 a (Or.inl ha), Rl_c hT.1 (eqR_Rl h1 a1 a4) h6, by rw [h3, h4]; exact a5, ?_⟩
  rw [h3, h2]
  rcases a6 with a6 | ⟨p1, p2, p3, p4, p5, p6⟩
  · exact Or.inl a6
  · refine Or.inr ⟨p1, p2, p3, Rc_c p2.1 p4 fun a ha => h5 a (Or.inr ha), by rw [eqR_nt h1]; exact p5, fun t ht => ?_⟩
    obtain ⟨t1, t2, t3⟩ := p6 t ht
    obtain ⟨n1, n2, n3⟩ := hN t (by omega)
    obtain ⟨l1, l2⟩ := eqN_l hN (show t < nt (σ 139) by omega)
    rw [n1, n2, l1]
    exact ⟨t1, t2, fun k hk => by rw [n3 k hk]; exact t3 k hk⟩
theorem eqR_rf (S : Rw) : eqR S S := fun _ _ => rfl
theorem Iv_a_c {σ τ : Sg} (h : Iv_a σ) (h1 : τ 139 = σ 139) (h2 : τ 140 = σ 140) (h3 : τ 0 5 = σ 0 5) (h4 : τ 138 3 = σ 138 3) (h5 : ∀ a, 81 ≤ a → a < 138 → τ a = σ a) (h6 : ∀ a, 11 ≤ a → a < 53 → τ a = σ a) : Iv_a τ :=
  Iv_a_e h (by rw [h1]; exact eqR_rf _) h2 h3 h4 (fun a ha => h5 a (by unfold coP at ha; omega) (by unfold coP at ha; omega)) fun a q1 q2 _ => h6 a q1 q2
theorem Iv_ck {σ τ : Sg} (h : Iv σ) (h1 : ∀ a, a < 3000 → a ≠ 0 → a ≠ 138 → a ≠ 139 → a ≠ 141 → a ≠ 142 → a ≠ 143 → a ≠ 144 → a ≠ 151 → a ≠ 152 → ¬ gaP a → τ a = σ a) (h2 : ∀ k, k ≠ 10 → τ 0 k = σ 0 k) (h3 : τ 0 10 = 0) (h4 : ∀ k, k ≠ 6 → k ≠ 35 → τ 138 k = σ 138 k) (h5 : τ 138 35 = 0) (h6 : eqR (σ 139) (τ 139)) : Iv τ := by
  obtain ⟨a, b, c, d, e, f⟩ := h
  have g : ∀ a, a ≠ 0 → a < 138 → ¬ gaP a → τ a = σ a := fun a q1 q2 q3 => h1 a (by omega) q1 (by omega) (by omega) (by omega) (by omega) (by omega) (by omega) (by omega) (by omega) q3
  have gr : ∀ a, a < 3000 → 145 ≤ a → a ≠ 151 → a ≠ 152 → τ a = σ a := fun a q0 q1 q2 q3 => h1 a q0 (by omega) (by omega) (by omega) (by omega) (by omega) (by omega) (by omega) q2 q3 (by unfold gaP plP; omega)
  refine ⟨Iv_a_e a h6 (h1 140 (by omega) (by omega) (by omega) (by omega) (by omega) (by omega) (by omega) (by omega) (by omega) (by omega) (by unfold gaP plP; omega)) (h2 5 (by omega)) (h4 3 (by omega) (by omega)) (fun a ha => g a (by unfold coP at ha; omega) (by unfold coP at ha; omega) (by unfold coP at ha; unfold gaP plP; omega)) fun a q1 q2 q3 => g a (by omega) (by omega) (by unfold gaP plP; omega), ?_, ?_, ?_, ?_, ?_⟩
  · exact Iv_b_c b (g 2 (by omega) (by omega) (by unfold gaP plP; omega)) (g 3 (by omega) (by omega) (by unfold gaP plP; omega)) (gr 145 (by omega) (by omega) (by omega) (by omega)) (h4 9 (by omega) (by omega))
  · exact Iv_c_c c (gr 146 (by omega) (by omega) (by omega) (by omega)) (gr 147 (by omega) (by omega) (by omega) (by omega)) fun a q1 q2 => gr a (by omega) (by omega) (by omega) (by omega)
  · exact Iv_d_c d (fun a q1 q2 => g a (by omega) (by omega) (by unfold gaP plP; omega)) fun a q1 q2 => gr a (by omega) (by omega) (by omega) (by omega)
  · exact Iv_e_c e (fun a q1 q2 => g a (by omega) (by omega) (by unfold gaP plP; omega)) fun a q1 q2 => gr a (by omega) (by omega) (by omega) (by omega)
  · exact ⟨0, by omega, h3, h5, fun k hk => by omega⟩
/-- days told, checked -/
def ckL (S : Rw) (n : Nat) (W : Nat → Int32) (d : Nat) : Nat → Int32
  | 0 => if 2 * d = n then 0 else In (1 + 2 * d)
  | m + 1 => if n ≤ 2 * d then In (1 + 2 * d) else if W (2 * d) = Zn (ldS (dyS S) 0) then (if n ≤ 2 * d + 1 then In (1 + (2 * d + 1)) else if W (2 * d + 1) = In (hyOn (dyS S)) then ckL (dyS S) n W (d + 1) m else In (1 + (2 * d + 1))) else In (1 + 2 * d)
theorem c120 {σ : Sg} {r n : Nat} (hr : r < 2147483648) (hn : n ≤ 60) (v : Int32) : J120 (In r) (In n) v σ = some (if n ≤ r then 0 else if σ 10 r = v then 1 else 0, σ) := by
  unfold J120
  rw [i_le (by omega) (by omega)]
  by_cases h : n ≤ r
  · rw [if_pos h, if_pos h]
  · rw [if_neg h, if_neg h, if_pos (ib_n (by omega) (by omega)), n_ix (by omega)]
    split <;> rfl
theorem c119_loop {n dd : Nat} (hn : n ≤ 60) (hdd : dd ≤ 30) {W : Nat → Int32} : ∀ (m d f : Nat) (S : Rw) (σ : Sg), Ok S → Rc σ 100 S → Rl σ S → (∀ k, k < n → σ 10 k = W k) → d + m = dd → m < f → ∃ σ', J119_3 f (In n) (In dd) (In (2 * d)) (In d) σ = some (ckL S n W d m, σ') ∧ fp (dyP 100) σ σ' := by
  intro m
  induction m with
  | zero =>
    intro d f S σ hS hc hl hw hd hf
    obtain ⟨f, rfl⟩ : ∃ g, f = g + 1 := ⟨f - 1, by omega⟩
    unfold J119_3
    rw [i_le (by omega) (by omega), if_pos (by omega), i_eq (by omega) (by omega), show (1 : Int32) = In 1 from rfl, n_add]
    refine ⟨σ, ?_, fp_rf _ _⟩
    unfold ckL
    split <;> rfl
  | succ m ih =>
    intro d f S σ hS hc hl hw hd hf
    obtain ⟨f, rfl⟩ : ∃ g, f = g + 1 := ⟨f - 1, by omega⟩
    obtain ⟨σ1, a1, a2, a3⟩ := c58 (o := 100) (n := 1) hS (by omega) (by omega) hc hl
    have hD := dyS_k hS
    have a2' : Rc σ1 100 (dyS S) := a2
    obtain ⟨σ2, b1, b2, b3⟩ := c45 (o := 100) (fm := 0) (by omega) hD.1 a2' (eqT_Rl hD.2.2 (Rl_dy (by omega) hS.1 hl a3)) (by omega)
    have f2 := fp_tr a3 (fp_va100 b2)
    have hc2 := Rc_va (by omega) hD.1.1 a2' b2
    have h10 : σ2 10 = σ 10 := f2 10 (by unfold dyP plP; omega)
    have hs : ckL S n W d (m + 1) = if n ≤ 2 * d then In (1 + 2 * d) else if W (2 * d) = Zn (ldS (dyS S) 0) then (if n ≤ 2 * d + 1 then In (1 + (2 * d + 1)) else if W (2 * d + 1) = In (hyOn (dyS S)) then ckL (dyS S) n W (d + 1) m else In (1 + (2 * d + 1))) else In (1 + 2 * d) := rfl
    unfold J119_3
    rw [i_le (by omega) (by omega), if_neg (by omega), show J58 100 1 σ = _ from a1, Option.bind_some, show J45 100 0 σ1 = _ from b1, Option.bind_some]
    dsimp only
    rw [c120 (by omega) hn, Option.bind_some, h10, hs]
    dsimp only
    by_cases h1 : n ≤ 2 * d
    · rw [if_pos h1, if_pos h1, if_pos rfl, show (1 : Int32) = In 1 from rfl, n_add]
      exact ⟨σ2, rfl, f2⟩
    rw [if_neg h1, if_neg h1, hw _ (by omega)]
    by_cases h2 : ¬(W (2 * d) = Zn (ldS (dyS S) 0))
    · rw [if_neg h2, if_neg h2, if_pos rfl, show (1 : Int32) = In 1 from rfl, n_add]
      exact ⟨σ2, rfl, f2⟩
    replace h2 := Classical.not_not.mp h2
    rw [if_pos h2, if_pos h2, if_neg (show ¬ (1 : Int32) = 0 by decide), c63 hD.1.1 hc2, Option.bind_some]
    dsimp only
    rw [n_p1, c120 (by omega) hn, Option.bind_some, h10]
    dsimp only
    by_cases h3 : n ≤ 2 * d + 1
    · rw [if_pos h3, if_pos h3, if_pos rfl, show (1 : Int32) = In 1 from rfl, n_add]
      exact ⟨σ2, rfl, f2⟩
    rw [if_neg h3, if_neg h3, hw _ (by omega)]
    by_cases h4 : ¬(W (2 * d + 1) = In (hyOn (dyS S)))
    · rw [if_neg h4, if_neg h4, if_pos rfl, show (1 : Int32) = In 1 from rfl, n_add]
      exact ⟨σ2, rfl, f2⟩
    replace h4 := Classical.not_not.mp h4
    rw [if_pos h4, if_pos h4, if_neg (show ¬ (1 : Int32) = 0 by decide), n_p1, n_p1, show 2 * d + 1 + 1 = 2 * (d + 1) by omega]
    obtain ⟨σ3, r1, r2⟩ := ih (d + 1) f (dyS S) σ2 hD.1 hc2 (eqT_Rl hD.2.2 (Rl_dy (by omega) hS.1 hl f2)) (fun k hk => by rw [h10]; exact hw k hk) (by omega) (by omega)
    exact ⟨σ3, r1, fp_tr f2 r2⟩
def ckF : List Nat := [139, 142, 151, 152, 10006]
/-- the reference's row is as it was, as far as it is read -/
theorem m213_8 {τ : Sg} {S0 : Rw} {n dd r : Nat} (h141 : ∀ k, k < 1451 → τ 141 k = S0 k) (hr : r < 2147483648) (hn : n < 2147483648) (hdd : dd < 2147483648) : ∃ τ', J213_8 (In n) (In dd) (In r) τ = some (if r = n then (if r = dd then 0 else In (1 + r)) else In (1 + r), τ') ∧ eqR S0 (τ' 139) ∧ fr ckF τ τ' := by
  unfold J213_8 J213_9
  rw [m214 (by omega), Option.bind_some, i_eq (by omega) (by omega), i_eq (by omega) (by omega), show (1 : Int32) = In 1 from rfl, n_add]
  refine ⟨_, by split; split <;> rfl; rfl, ?_, fr_sr _ _ (by simp [ckF]) (by omega)⟩
  rw [sr_at]
  intro k hk
  exact (if_pos hk).trans (h141 k hk)
theorem m213_loop {n dd : Nat} (hn : n ≤ 60) (hdd : dd ≤ 30) {W : Nat → Int32} {S0 : Rw} : ∀ (m d f : Nat) (S : Rw) (τ : Sg), Ok S → τ 139 = S → (∀ k, k < 1451 → τ 141 k = S0 k) → (∀ k, k < n → τ 161 k = W k) → d + m = dd → m + 1 < f → ∃ τ', J213_3 f (In n) (In (2 * dd)) (In (2 * d)) (In d) τ = some (ckL S n W d m, τ') ∧ eqR S0 (τ' 139) ∧ fr ckF τ τ' := by
  intro m
  induction m with
  | zero =>
    intro d f S τ hS hs h1 hw hd hf
    obtain ⟨f, rfl⟩ : ∃ g, f = g + 1 := ⟨f - 1, by omega⟩
    unfold J213_3
    rw [show (2 : Int32) * In d = In (2 * d) from n_mul 2 d, i_le (by omega) (by omega), if_pos (by omega)]
    obtain ⟨τ', r1, r2, r3⟩ := m213_8 (n := n) (dd := 2 * dd) (r := 2 * d) h1 (by omega) (by omega) (by omega)
    refine ⟨τ', ?_, r2, r3⟩
    rw [r1, if_pos (show 2 * d = 2 * dd by omega)]
    rfl
  | succ m ih =>
    intro d f S τ hS hs h1 hw hd hf
    obtain ⟨f, rfl⟩ : ∃ g, f = g + 2 := ⟨f - 2, by omega⟩
    obtain ⟨τ1, a1, a2, a3⟩ := m170 hs hS
    have hD := dyS_k hS
    have hs' : ckL S n W d (m + 1) = if n ≤ 2 * d then In (1 + 2 * d) else if W (2 * d) = Zn (ldS (dyS S) 0) then (if n ≤ 2 * d + 1 then In (1 + (2 * d + 1)) else if W (2 * d + 1) = In (hyOn (dyS S)) then ckL (dyS S) n W (d + 1) m else In (1 + (2 * d + 1))) else In (1 + 2 * d) := rfl
    -- stopped at r, told so a turn later
    have stop : ∀ (r : Nat) (τ2 : Sg), fr ckF τ τ2 → r < 2 * (d + 1) → ∃ τ', J213_3 (f + 1) (In n) (In (2 * dd)) (In r) (In (d + 1)) τ2 = some (In (1 + r), τ') ∧ eqR S0 (τ' 139) ∧ fr ckF τ τ' := by
      intro r τ2 f2 hr
      obtain ⟨τ', r1, r2, r3⟩ := m213_8 (τ := τ2) (S0 := S0) (n := n) (dd := 2 * dd) (r := r) (fun k hk => by rw [fr_row f2 (by omega) (by simp [ckF])]; exact h1 k hk) (by omega) (by omega) (by omega)
      refine ⟨τ', ?_, r2, fr_tr f2 r3⟩
      unfold J213_3
      rw [show (2 : Int32) * In (d + 1) = In (2 * (d + 1)) from n_mul 2 _, i_le (by omega) (by omega), i_eq (by omega) (by omega), if_neg (show ¬ r = 2 * (d + 1) by omega), r1, if_neg (show ¬ r = 2 * dd by omega)]
      split <;> split <;> rfl
    have fa : fr ckF τ τ1 := fr_wk a3 fun a ha => ha
    have e20 : ∀ (x : Nat), In x + 0 = In x := fun x => Int32.add_zero _
    rw [hs']
    unfold J213_3
    rw [show (2 : Int32) * In d = In (2 * d) from n_mul 2 d, i_le (by omega) (by omega), if_neg (by omega), if_pos rfl, a1, Option.bind_some, i_le (by omega) (by omega)]
    -- what J213_5 makes of 0 and of 1
    have stay : ∀ (τ2 : Sg), fr ckF τ τ2 → ∃ τ', J213_4 (J213_3 (f + 1)) (In (2 * d)) (In n) (In (2 * dd)) (In d) τ2 = some (In (1 + 2 * d), τ') ∧ eqR S0 (τ' 139) ∧ fr ckF τ τ' := by
      intro τ2 f2
      unfold J213_4 J213_5
      rw [e20, show (2 : Int32) * In d = In (2 * d) from n_mul 2 d, n_p1, i_eq (by omega) (by omega), if_neg (by omega)]
      unfold J213_6 J213_7
      rw [e20, n_p1]
      exact stop (2 * d) τ2 f2 (by omega)
    by_cases h2 : n ≤ 2 * d
    · rw [if_pos h2, if_pos h2]
      exact stay τ1 fa
    rw [if_neg h2, if_neg h2, if_pos (ib_n (by omega) (by omega)), n_ix (by omega)]
    obtain ⟨τ2, b1, b2⟩ := m161 (fm := 0) a2 hD.1 (by omega)
    have fb : fr ckF τ τ2 := fr_tr fa (fr_wk b2 fun a ha => by simp at ha; simp [ckF]; omega)
    have b139 : τ2 139 = dyS S := (fr_row b2 (by omega) (by simp)).trans a2
    have t161 : ∀ τ3 : Sg, fr ckF τ τ3 → τ3 161 = τ 161 := fun τ3 h => fr_row h (by omega) (by simp [ckF])
    rw [show J161 0 τ1 = _ from b1, Option.bind_some, t161 τ1 fa, hw _ (by omega)]
    dsimp only
    by_cases h3 : ¬(W (2 * d) = Zn (ldS (dyS S) 0))
    · rw [if_neg h3, if_neg h3]
      exact stay τ2 fb
    replace h3 := Classical.not_not.mp h3
    rw [if_pos h3, if_pos h3]
    unfold J213_5
    rw [n_p1, show (2 : Int32) * In d = In (2 * d) from n_mul 2 d, n_p1, if_pos rfl, i_le (by omega) (by omega)]
    have stay1 : ∃ τ', J213_6 (J213_3 (f + 1)) (In (2 * d + 1)) (In n) (In (2 * dd)) (In d) τ2 = some (In (1 + (2 * d + 1)), τ') ∧ eqR S0 (τ' 139) ∧ fr ckF τ τ' := by
      unfold J213_6 J213_7
      rw [e20, n_p1]
      exact stop (2 * d + 1) τ2 fb (by omega)
    by_cases h4 : n ≤ 2 * d + 1
    · rw [if_pos h4, if_pos h4]
      exact stay1
    rw [if_neg h4, if_neg h4, if_pos (ib_n (by omega) (by omega)), n_ix (by omega), m175 (by rw [b139]; exact hD.1.1), Option.bind_some, t161 τ2 fb, hw _ (by omega), b139]
    dsimp only
    by_cases h5 : ¬(W (2 * d + 1) = In (hyOn (dyS S)))
    · rw [if_neg h5, if_neg h5]
      exact stay1
    replace h5 := Classical.not_not.mp h5
    rw [if_pos h5, if_pos h5]
    unfold J213_7
    rw [n_p1, n_p1, show 2 * d + 1 + 1 = 2 * (d + 1) by omega]
    obtain ⟨τ3, r1, r2, r3⟩ := ih (d + 1) (f + 1) (dyS S) τ2 hD.1 b139 (fun k hk => by rw [fr_row fb (by omega) (by simp [ckF])]; exact h1 k hk) (fun k hk => by rw [t161 τ2 fb]; exact hw k hk) (by omega) (by omega)
    exact ⟨τ3, r1, r2, fr_tr fb r3⟩
theorem op_check (x : Int32) : Op (J119 x) (J213 x) := by
  intro σ h
  obtain ⟨hS, hdy, hc, hl, h5, hi⟩ := h.1
  obtain ⟨w, hw, f1, f2, f3⟩ := h.2.2.2.2.2
  have h12 := hS.1.1.2
  have b0 : hy_up (hy_up σ 0 10 0) 138 35 0 139 = σ 139 := by rw [up_ne _ _ _ (by omega), up_ne _ _ _ (by omega)]
  have bad : ∀ r, J119 x σ = some (r, hy_up σ 0 10 0) → J213 x (hy_up σ 0 10 0) = some (r, hy_up (hy_up σ 0 10 0) 138 35 0) → ∃ r σ1 σ2, J119 x σ = some (r, σ1) ∧ J213 x σ1 = some (r, σ2) ∧ Iv σ2 ∧ σ1 2000 = σ 2000 ∧ σ2 2000 = σ 2000 := fun r e1 e2 => ⟨r, _, _, e1, e2, Iv_ck h (fun a _ q1 q2 q3 _ _ _ _ _ _ _ => by rw [up_ne _ _ _ q2, up_ne _ _ _ q1]) (fun k hk => by rw [up_ne _ _ _ (by omega), up_same, upd_ne _ _ hk]) (by rw [up_ne _ _ _ (by omega), up_same, upd_at]) (fun k _ hk => by rw [up_same, upd_ne _ _ hk, up_ne _ _ _ (by omega)]) (by rw [up_same, upd_at]) (by rw [b0]; exact eqR_rf _), by rw [up_ne _ _ _ (by omega)], by rw [up_ne _ _ _ (by omega), up_ne _ _ _ (by omega)]⟩
  by_cases h1 : ¬(1 ≤ x ∧ x ≤ 30)
  · apply bad (-1000000001)
    · unfold J119
      rw [c3, Option.bind_some, i_b2, if_neg h1]
    · unfold J213
      rw [m125, Option.bind_some, i_b2, if_neg h1]
  replace h1 := Classical.not_not.mp h1
  have e05 : hy_up σ 0 10 0 0 5 = σ 0 5 := by rw [up_same, upd_ne _ _ (by omega)]
  have e1383 : ∀ τ : Sg, hy_up τ 138 35 0 138 3 = τ 138 3 := fun τ => by rw [up_same, upd_ne _ _ (by omega)]
  rcases hi with hi | ⟨hi, hU, hdU, hcU, hn, hq⟩
  · apply bad (-1000000002)
    · unfold J119
      rw [c3, Option.bind_some, i_b2, if_pos h1]
      dsimp only
      rw [if_pos (show hy_up σ 0 10 0 0 5 = 0 by rw [e05]; exact hi)]
    · unfold J213
      rw [m125, Option.bind_some, i_b2, if_pos h1]
      dsimp only
      rw [if_pos (show hy_up (hy_up σ 0 10 0) 138 35 0 138 3 = 0 by rw [e1383, up_ne _ _ _ (show 138 ≠ 0 by omega), ← h5]; exact hi)]
  obtain ⟨n, hn1, hn30, rfl⟩ := bd_l (n := 30) (by omega) h1.1 h1.2
  have hne : ¬ σ 0 5 = 0 := by
    rw [hi]
    decide
  obtain ⟨d1, d2⟩ := hdU
  generalize hk : min n (9999 - hy_ix (σ 140 2)) = dd
  -- the class
  have hcU0 : Rc (hy_up σ 0 10 0) 119 (σ 140) := Rc_c hU.1 hcU fun a ha => up_ne _ _ _ (by unfold coP at ha; omega)
  obtain ⟨σ1, a1, a2, a3⟩ := c49 (o := 100) (r := 119) hU.1 (by omega) hcU0
  have fa : fp (dyP 100) (hy_up σ 0 10 0) σ1 := fp_co100 a3
  have hlU : Rl σ (σ 140) := eqN_Rl hq hn rfl hl
  have hl0 : Rl (hy_up σ 0 10 0) (σ 140) := Rl_c hU.1 hlU fun a q1 q2 q3 => up_ne _ _ _ (by omega)
  obtain ⟨σ2, b1, b2⟩ := c119_loop (n := w) (dd := dd) (W := fun k => σ 161 k) hw (by omega) dd 0 hy_fu (σ 140) σ1 hU a2 (Rl_dy (by omega) hU.1 hl0 fa) (fun k hk => by rw [fa 10 (by unfold dyP plP; omega), up_ne _ _ _ (by omega)]; exact f3 k hk) (by omega) (by unfold hy_fu; omega)
  have fb := fp_tr fa b2
  have g : ∀ a, a ≠ 0 → ¬ dyP 100 a → σ2 a = σ a := fun a q1 q2 => (fb a q2).trans (up_ne _ _ _ q1)
  have g0 : σ2 0 = hy_up σ 0 10 0 0 := fb 0 (by unfold dyP plP; omega)
  -- the reference
  have t0 : ∀ a, a ≠ 138 → hy_up σ2 138 35 0 a = σ2 a := fun a ha => up_ne _ _ _ ha
  generalize hτ : sr (sr (hy_up σ2 138 35 0) 141 (fun k => if k < 1451 then σ 139 k else σ 141 k)) 139 (fun k => if k < 1451 then σ 140 k else σ 139 k) = τ
  have t139 : τ 139 = fun k => if k < 1451 then σ 140 k else σ 139 k := by
    subst hτ
    rw [sr_at]
  have t141 : ∀ k, k < 1451 → τ 141 k = σ 139 k := by
    intro k hk
    subst hτ
    rw [sr_ne _ _ (by omega), sr_at, if_pos hk]
  have toth : ∀ a, a ≠ 139 → a ≠ 141 → τ a = hy_up σ2 138 35 0 a := by
    intro a q1 q2
    subst hτ
    rw [sr_ne _ _ q1, sr_ne _ _ q2]
  have hT : eqR (σ 140) (τ 139) := by
    rw [t139]
    intro k hk
    exact if_pos hk
  have hTO := eqR_Ok hT hU
  obtain ⟨τ', r1, r2, r3⟩ := m213_loop (n := w) (dd := dd) (W := fun k => σ 161 k) (S0 := σ 139) hw (by omega) dd 0 hy_fu (τ 139) τ hTO rfl t141 (fun k hk => by rw [toth 161 (by omega) (by omega), t0 161 (by omega), g 161 (by omega) (by unfold dyP plP; omega)]) (by omega) (by unfold hy_fu; omega)
  -- the two say the same of the image's row
  have hsame : ckL (τ 139) w (fun k => σ 161 k) 0 dd = ckL (σ 140) w (fun k => σ 161 k) 0 dd := by
    have hcT : Rc σ1 100 (τ 139) := eqR_Rc hT hU.1 a2
    have hlT : Rl σ1 (τ 139) := eqR_Rl hT hU (Rl_dy (by omega) hU.1 hl0 fa)
    obtain ⟨σ3, y1, y2⟩ := c119_loop (n := w) (dd := dd) (W := fun k => σ 161 k) hw (by omega) dd 0 hy_fu (τ 139) σ1 hTO hcT hlT (fun k hk => by rw [fa 10 (by unfold dyP plP; omega), up_ne _ _ _ (by omega)]; exact f3 k hk) (by omega) (by unfold hy_fu; omega)
    rw [b1] at y1
    exact (congrArg Prod.fst (Option.some.inj y1)).symm
  refine ⟨ckL (σ 140) w (fun k => σ 161 k) 0 dd, σ2, τ', ?_, ?_, ?_, ?_, ?_⟩
  · unfold J119
    rw [c3, Option.bind_some, i_b2, if_pos h1]
    dsimp only
    rw [if_neg (show ¬ hy_up σ 0 10 0 0 5 = 0 by rw [e05]; exact hne), a1, Option.bind_some]
    have e1 : (9999 : Int32) - σ1 119 11 = In (9999 - hy_ix (σ 140 2)) := by
      rw [fa 119 (by unfold dyP plP; omega), hcU0.1.2.2.2.2.1, d1, n_ix (by omega)]
      exact n_sub (a := 9999) (by omega)
    simp only [e1]
    rw [f1]
    have e2 : (if In (9999 - hy_ix (σ 140 2)) < In n then In (9999 - hy_ix (σ 140 2)) else In n) = In dd := by
      rw [i_lt (by omega) (by omega)]
      split
      · rw [← hk, Nat.min_eq_right (by omega)]
      · rw [← hk, Nat.min_eq_left (by omega)]
    rw [e2]
    exact b1
  · unfold J213
    rw [m125, Option.bind_some, i_b2, if_pos h1]
    dsimp only
    rw [if_neg (show ¬ hy_up σ2 138 35 0 138 3 = 0 by rw [e1383, g 138 (by omega) (by unfold dyP plP; omega), ← h5]; exact hne), m214 (by omega), Option.bind_some, m214 (by omega), Option.bind_some]
    have z139 : hy_up σ2 138 35 0 139 = σ 139 := by rw [t0 139 (by omega), g 139 (by omega) (by unfold dyP plP; omega)]
    have z140 : hy_up σ2 138 35 0 140 = σ 140 := by rw [t0 140 (by omega), g 140 (by omega) (by unfold dyP plP; omega)]
    have z141 : hy_up σ2 138 35 0 141 = σ 141 := by rw [t0 141 (by omega), g 141 (by omega) (by unfold dyP plP; omega)]
    rw [z139, z141, sr_ne _ _ (show (140 : Nat) ≠ 141 by omega), sr_ne _ _ (show (139 : Nat) ≠ 141 by omega), z140, z139, hτ, m137, Option.bind_some]
    dsimp only
    have e1 : (9999 : Int32) - τ 139 2 = In (9999 - hy_ix (σ 140 2)) := by
      rw [hT 2 (by omega), d1, n_ix (by omega)]
      exact n_sub (a := 9999) (by omega)
    have e2 : (if (0 : Int32) ≤ In (9999 - hy_ix (σ 140 2)) then (if In (9999 - hy_ix (σ 140 2)) ≤ In n then In (9999 - hy_ix (σ 140 2)) else In n) else 0) = In dd := by
      rw [if_pos (show (0 : Int32) ≤ In (9999 - hy_ix (σ 140 2)) by show In 0 ≤ In (9999 - hy_ix (σ 140 2)); rw [n_le (by omega) (by omega)]; omega), i_le (by omega) (by omega)]
      split
      · rw [← hk, Nat.min_eq_right (by omega)]
      · rw [← hk, Nat.min_eq_left (by omega)]
    simp only [e1]
    rw [e2, show (2 : Int32) * In dd = In (2 * dd) from n_mul 2 dd, g 138 (by omega) (by unfold dyP plP; omega), f2, ← hsame]
    exact r1
  · have q : ∀ a, a < 3000 → a ≠ 138 → a ≠ 139 → a ≠ 141 → a ≠ 142 → a ≠ 151 → a ≠ 152 → τ' a = σ2 a := fun a q0 q1 q2 q3 q4 q5 q6 => by
      rw [fr_row r3 q1 (by simp [ckF]; omega), toth a q2 q3, t0 a q1]
    have q138 : ∀ k, k ≠ 6 → τ' 138 k = hy_up σ2 138 35 0 138 k := fun k hk => by rw [fr_slot r3 (by simp [ckF]; omega), toth 138 (by omega) (by omega)]
    refine Iv_ck h (fun a p0 p1 p2 p3 p4 p5 p6 p7 p8 p9 p10 => ?_) (fun k hk => ?_) ?_ (fun k k6 k35 => ?_) ?_ r2
    · rw [q a p0 p2 p3 p4 p5 p8 p9]
      exact g a p1 (by unfold gaP plP at p10; unfold dyP plP; omega)
    · rw [q 0 (by omega) (by omega) (by omega) (by omega) (by omega) (by omega) (by omega), g0, up_same, upd_ne _ _ hk]
    · rw [q 0 (by omega) (by omega) (by omega) (by omega) (by omega) (by omega) (by omega), g0, up_same, upd_at]
    · rw [q138 k k6, up_same, upd_ne _ _ k35, g 138 (by omega) (by unfold dyP plP; omega)]
    · rw [q138 35 (by omega), up_same, upd_at]
  · exact g 2000 (by omega) (by unfold dyP plP; omega)
  · rw [fr_row r3 (by omega) (by simp [ckF]), toth 2000 (by omega) (by omega), t0 2000 (by omega)]
    exact g 2000 (by omega) (by unfold dyP plP; omega)
