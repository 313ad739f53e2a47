/-! PURE: ends, keep, back -/
def ovB (S : Rw) : Bool := decide (mnF S 0 = 0) || decide (mnF S 1 = 0)
theorem ov_or (a c : Nat) : In ((if a = 0 then 0 else 1) + (if c = 0 then 0 else 2)) ||| 0 = In ((if a = 0 then 0 else 1) + (if c = 0 then 0 else 2)) ∧ In ((if a = 0 then 0 else 1) + (if c = 0 then 0 else 2)) ||| ((1 : Int32) <<< (In 0 &&& 31)) = In ((if a + 1 = 0 then 0 else 1) + (if c = 0 then 0 else 2)) ∧ In ((if a = 0 then 0 else 1) + (if c = 0 then 0 else 2)) ||| ((1 : Int32) <<< (In 1 &&& 31)) = In ((if a = 0 then 0 else 1) + (if c + 1 = 0 then 0 else 2)) := by
  rw [if_neg (show ¬ a + 1 = 0 by omega), if_neg (show ¬ c + 1 = 0 by omega)]
  by_cases h1 : a = 0
  · by_cases h2 : c = 0
    · rw [if_pos h1, if_pos h2]
      decide
    · rw [if_pos h1, if_neg h2]
      decide
  · by_cases h2 : c = 0
    · rw [if_neg h1, if_pos h2]
      decide
    · rw [if_neg h1, if_neg h2]
      decide
theorem m178_loop {σ : Sg} (hS : OkR (σ 139)) : ∀ (m i f a c : Nat), i + m = nb (σ 139) → m < f → J178_1 f (In ((if a = 0 then 0 else 1) + (if c = 0 then 0 else 2))) (In i) σ = some (bb (decide (a + smN (fun b => if bf (σ 139) b 2 < 36 ∧ bf (σ 139) b 1 = 0 then 1 else 0) i m = 0) || decide (c + smN (fun b => if bf (σ 139) b 2 < 36 ∧ bf (σ 139) b 1 = 1 then 1 else 0) i m = 0)), σ) := by
  have h12 := hS.1.2
  intro m
  induction m with
  | zero =>
    intro i f a c hi hf
    obtain ⟨f, rfl⟩ : ∃ g, f = g + 1 := ⟨f - 1, by omega⟩
    unfold J178_1
    rw [hS.1.1, i_le (by omega) (by omega), if_pos (by omega)]
    show _ = some (bb (decide (a + 0 = 0) || decide (c + 0 = 0)), σ)
    rw [Nat.add_zero, Nat.add_zero]
    by_cases h1 : a = 0
    · by_cases h2 : c = 0
      · rw [if_pos h1, if_pos h2, if_neg (by decide), decide_eq_true h1]
        rfl
      · rw [if_pos h1, if_neg h2, if_neg (by decide), decide_eq_true h1]
        rfl
    · by_cases h2 : c = 0
      · rw [if_neg h1, if_pos h2, if_neg (by decide), decide_eq_true h2, Bool.or_true]
        rfl
      · rw [if_neg h1, if_neg h2, if_pos (by decide), decide_eq_false h1, decide_eq_false h2]
        rfl
  | succ m ih =>
    intro i f a c hi hf
    obtain ⟨f, rfl⟩ : ∃ g, f = g + 1 := ⟨f - 1, by omega⟩
    have hb : i < nb (σ 139) := by omega
    obtain ⟨-, ⟨f1, f2⟩, -, -⟩ := hS.2.1 i hb
    obtain ⟨o1, o2, o3⟩ := ov_or a c
    unfold J178_1 J178_3
    rw [hS.1.1, i_le (by omega) (by omega), if_neg (by omega), m162 hS hb, Option.bind_some, i_b2, show J128 (In i) 1 σ = _ from m128 (w := 1) (by omega) σ, Option.bind_some, n_p1, o1, smN_s, smN_s, f1]
    dsimp only
    by_cases h1 : bf (σ 139) i 2 < 36
    · rw [if_pos h1]
      have h01 : bf (σ 139) i 1 = 0 ∨ bf (σ 139) i 1 = 1 := by omega
      rcases h01 with h0 | h0
      · rw [h0, o2, ih (i + 1) f (a + 1) c (by omega) (by omega), if_pos ⟨h1, rfl⟩, if_neg (fun z => by omega), Nat.zero_add, Nat.add_assoc]
      · rw [h0, o3, ih (i + 1) f a (c + 1) (by omega) (by omega), if_neg (fun z => absurd z.2 (by decide)), if_pos ⟨h1, rfl⟩, Nat.zero_add, Nat.add_assoc]
    · rw [if_neg h1, ih (i + 1) f a c (by omega) (by omega), if_neg (fun z => h1 z.1), if_neg (fun z => h1 z.1), Nat.zero_add, Nat.zero_add]
theorem m178 {σ : Sg} (hS : OkR (σ 139)) : J178 σ = some (bb (ovB (σ 139)), σ) := by
  have h12 := hS.1.2
  have := m178_loop hS (nb (σ 139)) 0 hy_fu 0 0 (by omega) (by unfold hy_fu; omega)
  rw [Nat.zero_add, Nat.zero_add] at this
  exact this
/-- behind how many days a farm has none -/
def enL (S : Rw) (d : Nat) : Nat → Int32
  | 0 => -1000000005
  | m + 1 => if ovB S = true then In d else enL (dyS S) (d + 1) m
theorem c64_loop : ∀ (m d f : Nat) (S : Rw) (σ : Sg), Ok S → Rc σ 100 S → Rl σ S → d + m = 101 → m < f → ∃ σ', J64_1 f (In d) σ = some (enL S d m, σ') ∧ fp (dyP 100) σ σ' := by
  intro m
  induction m with
  | zero =>
    intro d f S σ hS hc hl hd hf
    obtain ⟨f, rfl⟩ : ∃ g, f = g + 1 := ⟨f - 1, by omega⟩
    unfold J64_1
    rw [show (100 : Int32) = In 100 from rfl, i_lt (by omega) (by omega), if_pos (by omega)]
    exact ⟨σ, rfl, fp_rf _ _⟩
  | succ m ih =>
    intro d f S σ hS hc hl hd hf
    obtain ⟨f, rfl⟩ : ∃ g, f = g + 1 := ⟨f - 1, by omega⟩
    have h12 := hS.1.1.2
    have hm : ∀ g, mnF S g < 2147483648 := fun g => by
      have := smN_le (f := fun b => if bf S b 2 < 36 ∧ bf S b 1 = g then 1 else 0) (c := 1) (m := nb S) (i := 0) fun b _ _ => by
        split <;> omega
      unfold mnF
      omega
    unfold J64_1
    rw [show (100 : Int32) = In 100 from rfl, i_lt (by omega) (by omega), if_neg (by omega), show J57 100 0 σ = _ from c57 (fm := 0) hS.1 hc (by omega), Option.bind_some, i_e0 (hm 0)]
    dsimp only
    rw [show J57 100 1 σ = _ from c57 (fm := 1) hS.1 hc (by omega), Option.bind_some, i_e0 (hm 1)]
    dsimp only
    show ∃ σ', _ = some (if ovB S = true then In d else enL (dyS S) (d + 1) m, σ') ∧ _
    unfold ovB
    by_cases h0 : mnF S 0 = 0
    · rw [if_pos h0, decide_eq_true h0, Bool.true_or, if_pos rfl]
      exact ⟨σ, rfl, fp_rf _ _⟩
    · rw [if_neg h0, decide_eq_false h0, Bool.false_or]
      by_cases h1 : mnF S 1 = 0
      · rw [if_pos h1, decide_eq_true h1, if_pos rfl]
        exact ⟨σ, rfl, fp_rf _ _⟩
      · obtain ⟨σ1, q1, q2, q3⟩ := c58 (o := 100) (n := 1) hS (by omega) (by omega) hc hl
        have hD := dyS_k hS
        rw [if_neg h1, decide_eq_false h1, if_neg (by decide), show J58 100 1 σ = _ from q1, Option.bind_some, n_p1]
        obtain ⟨σ2, r1, r2⟩ := ih (d + 1) f (dyS S) σ1 hD.1 q2 (eqT_Rl hD.2.2 (Rl_dy (by omega) hS.1 hl q3)) (by omega) (by omega)
        exact ⟨σ2, r1, fp_tr q3 r2⟩
theorem m177_loop {S0 : Rw} : ∀ (m d f : Nat) (S : Rw) (τ : Sg), Ok S → τ 139 = S → eqT S0 S → (∀ k, k < 79 → τ 144 k = S0 k) → d + m = 101 → m < f → ∃ τ', J177_1 f (In d) τ = some (enL S d m, wr τ' S0) ∧ fr (139 :: gaL) τ τ' := by
  intro m
  induction m with
  | zero =>
    intro d f S τ hS hs hq h4 hd hf
    obtain ⟨f, rfl⟩ : ∃ g, f = g + 1 := ⟨f - 1, by omega⟩
    unfold J177_1 J177_2
    rw [show (100 : Int32) = In 100 from rfl, i_lt (by omega) (by omega), if_pos (by omega), m176b h4 (by rw [hs]; exact hq), Option.bind_some, i_le (by omega) (by omega), if_neg (by omega)]
    exact ⟨τ, rfl, fr_rf _ _⟩
  | succ m ih =>
    intro d f S τ hS hs hq h4 hd hf
    obtain ⟨f, rfl⟩ : ∃ g, f = g + 1 := ⟨f - 1, by omega⟩
    unfold J177_1
    rw [show (100 : Int32) = In 100 from rfl, i_lt (by omega) (by omega), if_neg (by omega), m178 (by rw [hs]; exact hS.1), Option.bind_some, i_bb, hs]
    dsimp only
    show ∃ τ', _ = some (if ovB S = true then In d else enL (dyS S) (d + 1) m, wr τ' S0) ∧ _
    by_cases h0 : ovB S = true
    · rw [if_pos h0, if_pos h0]
      unfold J177_2
      rw [m176b h4 (by rw [hs]; exact hq), Option.bind_some, show (100 : Int32) = In 100 from rfl, i_le (by omega) (by omega), if_pos (by omega)]
      exact ⟨τ, rfl, fr_rf _ _⟩
    · have hD := dyS_k hS
      obtain ⟨τ1, q1, q2, q3⟩ := m170 hs hS
      rw [if_neg h0, if_neg h0, q1, Option.bind_some, n_p1]
      obtain ⟨τ2, r1, r2⟩ := ih (d + 1) f (dyS S) τ1 hD.1 q2 (eqT_tr hq hD.2.2) (fun k hk => by rw [fr_row q3 (by omega) (by simp [dyL])]; exact h4 k hk) (by omega) (by omega)
      exact ⟨τ2, r1, fr_tr (fr_wk q3 fun a ha => by simp [dyL] at ha; simp [gaL]; omega) r2⟩
theorem op_ends : Op (J64) (J177) := by
  intro σ h
  obtain ⟨hS, hdy, hc, hl, hi⟩ := h.1
  have h12 := hS.1.1.2
  have bad : ∀ r, J64 σ = some (r, σ) → J177 σ = some (r, σ) → ∃ r σ1 σ2, J64 σ = some (r, σ1) ∧ J177 σ1 = some (r, σ2) ∧ Iv σ2 ∧ σ1 2000 = σ 2000 ∧ σ2 2000 = σ 2000 := fun r e1 e2 => Op_ga h e1 e2 (fp_rf _ _) (fr_rf _ _)
  obtain ⟨σ1, a1, a2, a3⟩ := c49 (o := 100) (r := 81) hS.1 (by omega) hc
  have hl1 := Rl_dy (o := 100) (by omega) hS.1 hl (fp_co100 a3)
  obtain ⟨σ2, b1, b2⟩ := c64_loop 101 0 hy_fu (σ 139) σ1 hS a2 hl1 (by omega) (by unfold hy_fu; omega)
  have f2 : fp (dyP 100) σ σ2 := fp_tr (fp_co100 a3) b2
  have h139 : σ2 139 = σ 139 := f2 139 (by unfold dyP plP; omega)
  obtain ⟨τ, r1, r2⟩ := m177_loop (S0 := σ 139) 101 0 hy_fu (σ 139) (sr σ2 144 (fun k => if k < 79 then σ2 139 k else σ2 144 k)) hS (by rw [sr_ne _ _ (by omega)]; exact h139) (eqT_rf _) (fun k hk => by rw [sr_at, if_pos hk, h139]) (by omega) (by unfold hy_fu; omega)
  refine Op_ga h (r := enL (σ 139) 0 101) (σ1 := σ2) (σ2 := wr τ (σ 139)) ?_ ?_ (fp_100 f2) (fr_back h139 (fr_tr (fr_sr _ _ (by simp [gaL]) (by omega)) r2))
  · unfold J64
    rw [a1, Option.bind_some]
    exact b1
  · unfold J177
    rw [m174, Option.bind_some]
    exact r1
theorem eqR_day {S T : Rw} (h : eqR S T) (hd : DayOk S) : DayOk T := by
  unfold DayOk
  rw [h 2 (by omega)]
  exact hd
theorem op_keep : Op J121 J215 := by
  intro σ h
  obtain ⟨⟨hS, hdy, hc, hl, h5, hi⟩, b, c, d, e, f⟩ := h
  obtain ⟨σ1, a1, a2, a3⟩ := c49 (o := 119) (r := 81) hS.1 (by omega) hc
  have hU : eqR (σ 139) (fun k => if k < 1451 then σ 139 k else σ 140 k) := fun k hk => if_pos hk
  have e1 : ∀ a, ¬ coP 119 a → σ1 a = σ a := a3
  have h139 : σ1 139 = σ 139 := e1 139 (by unfold coP; omega)
  have h140 : σ1 140 = σ 140 := e1 140 (by unfold coP; omega)
  generalize hτ : hy_up (sr (hy_up σ1 0 5 1) 140 (fun k => if k < 1451 then σ 139 k else σ 140 k)) 138 3 1 = τ
  have t : ∀ a, a ≠ 0 → a ≠ 138 → a ≠ 140 → τ a = σ1 a := by
    intro a q1 q2 q3
    subst hτ
    rw [up_ne _ _ _ q2, sr_ne _ _ q3, up_ne _ _ _ q1]
  have t0 : ∀ k, k ≠ 5 → τ 0 k = σ 0 k := by
    intro k hk
    subst hτ
    rw [up_ne _ _ _ (by omega), sr_ne _ _ (by omega), up_same, upd_ne _ _ hk, e1 0 (by unfold coP; omega)]
  have t5 : τ 0 5 = 1 := by
    subst hτ
    rw [up_ne _ _ _ (by omega), sr_ne _ _ (by omega), up_same, upd_at]
  have t138 : ∀ k, k ≠ 3 → τ 138 k = σ 138 k := by
    intro k hk
    subst hτ
    rw [up_same, upd_ne _ _ hk, sr_ne _ _ (by omega), up_ne _ _ _ (by omega), e1 138 (by unfold coP; omega)]
  have t3 : τ 138 3 = 1 := by
    subst hτ
    rw [up_same, upd_at]
  have t140 : τ 140 = fun k => if k < 1451 then σ 139 k else σ 140 k := by
    subst hτ
    rw [up_ne _ _ _ (by omega), sr_at]
  have tc : ∀ a, a ≠ 0 → a < 138 → ¬ coP 119 a → τ a = σ a := fun a q1 q2 q3 => (t a q1 (by omega) (by omega)).trans (e1 a q3)
  have t139 : τ 139 = σ 139 := (t 139 (by omega) (by omega) (by omega)).trans h139
  refine ⟨σ 139 1, hy_up σ1 0 5 1, τ, ?_, ?_, ⟨⟨by rw [t139]; exact hS, by rw [t139]; exact hdy, by rw [t139]; exact Rc_c hS.1 hc fun a ha => tc a (by unfold coP at ha; omega) (by unfold coP at ha; omega) (by unfold coP at ha ⊢; omega), by rw [t139]; exact Rl_c hS.1 hl fun a q1 q2 q3 => tc a (by omega) (by omega) (by unfold coP; omega), by rw [t5, t3], Or.inr ⟨t5, ?_⟩⟩, ?_, ?_, ?_, ?_, ?_⟩, ?_, ?_⟩
  · unfold J121
    rw [a1, Option.bind_some, up_ne _ _ _ (show 119 ≠ 0 by omega), a2.1.1]
  · unfold J215
    rw [m214 (by omega), Option.bind_some, up_ne _ _ _ (show 139 ≠ 0 by omega), up_ne _ _ _ (show 140 ≠ 0 by omega), h139, h140, hτ, t139]
  · rw [t140, t139]
    refine ⟨eqR_Ok hU hS, eqR_day hU hdy, eqR_Rc hU hS.1 (Rc_c hS.1 a2 fun a ha => t a (by unfold coP at ha; omega) (by unfold coP at ha; omega) (by unfold coP at ha; omega)), by rw [eqR_nt hU]; exact Nat.le_refl _, by rw [eqR_nt hU]; exact eqR_N hU hS⟩
  · exact Iv_b_c b (tc 2 (by omega) (by omega) (by unfold coP; omega)) (tc 3 (by omega) (by omega) (by unfold coP; omega)) ((t 145 (by omega) (by omega) (by omega)).trans (e1 145 (by unfold coP; omega))) (t138 9 (by omega))
  · exact Iv_c_c c ((t 146 (by omega) (by omega) (by omega)).trans (e1 146 (by unfold coP; omega))) ((t 147 (by omega) (by omega) (by omega)).trans (e1 147 (by unfold coP; omega))) fun a q1 q2 => (t a (by omega) (by omega) (by omega)).trans (e1 a (by unfold coP; omega))
  · exact Iv_d_c d (fun a q1 q2 => tc a (by omega) (by omega) (by unfold coP; omega)) fun a q1 q2 => (t a (by omega) (by omega) (by omega)).trans (e1 a (by unfold coP; omega))
  · exact Iv_e_c e (fun a q1 q2 => tc a (by omega) (by omega) (by unfold coP; omega)) fun a q1 q2 => (t a (by omega) (by omega) (by omega)).trans (e1 a (by unfold coP; omega))
  · exact Iv_f_c f (t0 10 (by omega)) (tc 10 (by omega) (by omega) (by unfold coP; omega)) (t138 35 (by omega)) ((t 161 (by omega) (by omega) (by omega)).trans (e1 161 (by unfold coP; omega)))
  · rw [up_ne _ _ _ (by omega)]
    exact e1 2000 (by unfold coP; omega)
  · exact (t 2000 (by omega) (by omega) (by omega)).trans (e1 2000 (by unfold coP; omega))
theorem op_back : Op J122 J216 := by
  intro σ h
  have h0 := h
  obtain ⟨⟨hS, hdy, hc, hl, h5, hi⟩, b, c, d, e, f⟩ := h
  rcases hi with hi | ⟨hi, hU, hdU, hcU, hn, hq⟩
  · refine Op_ga h0 (r := -1000000002) (σ1 := σ) (σ2 := σ) ?_ ?_ (fp_rf _ _) (fr_rf _ _)
    · unfold J122
      rw [if_pos hi]
    · unfold J216
      rw [← h5, if_pos hi]
  have hne : ¬ σ 0 5 = 0 := by
    rw [hi]
    decide
  obtain ⟨σ1, a1, a2, a3⟩ := c49 (o := 81) (r := 119) hU.1 (by omega) hcU
  have e1 : ∀ a, ¬ coP 81 a → σ1 a = σ a := a3
  have h139 : σ1 139 = σ 139 := e1 139 (by unfold coP; omega)
  have h140 : σ1 140 = σ 140 := e1 140 (by unfold coP; omega)
  have hT : eqR (σ 140) (fun k => if k < 1451 then σ 140 k else σ 139 k) := fun k hk => if_pos hk
  generalize hTT : (fun k => if k < 1451 then σ 140 k else σ 139 k) = T at hT
  have t : ∀ a, a ≠ 139 → ¬ coP 81 a → wr σ1 T a = σ a := fun a q1 q2 => (wr_ne _ _ q1).trans (e1 a q2)
  have hTO := eqR_Ok hT hU
  have hlU : Rl σ (σ 140) := eqN_Rl hq hn rfl hl
  refine ⟨σ 140 1, σ1, wr σ1 T, ?_, ?_, ⟨⟨by rw [wr_at]; exact hTO, by rw [wr_at]; exact eqR_day hT hdU, by rw [wr_at]; exact Rc_c hTO.1 (eqR_Rc hT hU.1 a2) fun a ha => wr_ne _ _ (by unfold coP at ha; omega), by rw [wr_at]; exact Rl_c hTO.1 (eqR_Rl hT hU hlU) fun a q1 q2 q3 => t a (by omega) (by unfold coP; omega), by rw [t 0 (by omega) (by unfold coP; omega), t 138 (by omega) (by unfold coP; omega)]; exact h5, Or.inr ?_⟩, ?_, ?_, ?_, ?_, ?_⟩, ?_, ?_⟩
  · unfold J122
    rw [if_neg hne, a1, Option.bind_some, a2.1.1]
  · unfold J216
    rw [e1 138 (by unfold coP; omega), ← h5, if_neg hne, m214 (by omega), Option.bind_some, h139, h140, hTT, sr_wr, wr_at, hT 1 (by omega)]
  · rw [wr_at, t 0 (by omega) (by unfold coP; omega), t 140 (by omega) (by unfold coP; omega)]
    refine ⟨hi, hU, hdU, Rc_c hU.1 hcU fun a ha => t a (by unfold coP at ha; omega) (by unfold coP at ha ⊢; omega), by rw [eqR_nt hT]; exact Nat.le_refl _, fun k hk => ?_⟩
    obtain ⟨q1, q2, q3⟩ := eqR_N hT hU k hk
    obtain ⟨l1, l2⟩ := eqN_l (eqR_N hT hU) hk
    rw [l1]
    exact ⟨q1.symm, q2.symm, fun j hj => (q3 j hj).symm⟩
  · exact Iv_b_c b (t 2 (by omega) (by unfold coP; omega)) (t 3 (by omega) (by unfold coP; omega)) (t 145 (by omega) (by unfold coP; omega)) (by rw [t 138 (by omega) (by unfold coP; omega)])
  · exact Iv_c_c c (t 146 (by omega) (by unfold coP; omega)) (t 147 (by omega) (by unfold coP; omega)) fun a q1 q2 => t a (by omega) (by unfold coP; omega)
  · exact Iv_d_c d (fun a q1 q2 => t a (by omega) (by unfold coP; omega)) fun a q1 q2 => t a (by omega) (by unfold coP; omega)
  · exact Iv_e_c e (fun a q1 q2 => t a (by omega) (by unfold coP; omega)) fun a q1 q2 => t a (by omega) (by unfold coP; omega)
  · exact Iv_f_c f (by rw [t 0 (by omega) (by unfold coP; omega)]) (t 10 (by omega) (by unfold coP; omega)) (by rw [t 138 (by omega) (by unfold coP; omega)]) (t 161 (by omega) (by unfold coP; omega))
  · exact e1 2000 (by unfold coP; omega)
  · exact t 2000 (by omega) (by unfold coP; omega)
