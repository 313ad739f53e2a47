/-! PURE: rule, move, threats, keep, back, days -/
theorem op_rule (x v : Int32) : Op (J30 x v) (J151 x v) := by
  intro σ h
  obtain ⟨hS, hdy, hc, hl, hi⟩ := h.1
  have h12 := hS.1.1.2
  have bad : ∀ r, J30 x v σ = some (r, σ) → J151 x v σ = some (r, σ) → ∃ r σ1 σ2, J30 x v σ = some (r, σ1) ∧ J151 x v σ1 = some (r, σ2) ∧ Iv σ2 ∧ σ1 2000 = σ 2000 ∧ σ2 2000 = σ 2000 := fun r e1 e2 => Op_ga h e1 e2 (fp_rf _ _) (fr_rf _ _)
  by_cases h1 : ¬(0 ≤ x ∧ x ≤ 2)
  · apply bad (-1000000001)
    · have n0 : ¬ x = 0 := fun e => h1 (by rw [e]; decide)
      have n1 : ¬ x = 1 := fun e => h1 (by rw [e]; decide)
      have n2 : ¬ x = 2 := fun e => h1 (by rw [e]; decide)
      unfold J30 J30_2
      rw [if_neg n0, c3, Option.bind_some, i_b2]
      dsimp only
      simp only [hy_sw, if_neg n0, if_neg n1, if_neg n2]
      split <;> rfl
    · unfold J151
      rw [m125, Option.bind_some, i_b2, if_neg h1]
  replace h1 := Classical.not_not.mp h1
  obtain ⟨w, hw, rfl⟩ := n_rngI (n := 2) (by omega) h1.1 h1.2
  have e149 : ∀ (k : Nat), k < 7 → ∀ τ : Sg, τ 139 = σ 139 → ∀ y : Int32, y = In k → J149 y v τ = some (σ 139 k, wr τ (upd (σ 139) k v)) := by
    intro k hk τ hτ y hy
    subst hy
    rw [m149 (by omega), hτ]
  match w, hw with
  | 0, _ =>
    by_cases h3 : ¬(0 ≤ v ∧ v ≤ 1)
    · apply bad (-1000000001)
      · unfold J30 J30_2
        rw [if_pos (show In 0 = 0 from rfl), c3, Option.bind_some, i_b2, if_neg h3]
      · unfold J151 J151_2
        rw [m125, Option.bind_some, i_b2, if_pos h1]
        dsimp only
        rw [if_pos (show In 0 = 0 from rfl), m125, Option.bind_some, i_b2, if_neg h3]
    replace h3 := Classical.not_not.mp h3
    obtain ⟨f, hf, rfl⟩ := n_rngI (n := 1) (by omega) h3.1 h3.2
    refine iv_bo h (r := σ 139 3) (σ1 := hy_up σ 81 8 (In f)) ?_ (fp_up _ _ _ _ (by unfold boQ dyP; omega)) ?_ (ok_rul (n := f) hS.1 (Or.inr ⟨rfl, Or.inl ⟨rfl, hf⟩⟩)) (eqT_upd _ _ (by omega) (by omega)) (DayOk_upd hdy (by omega)) (Rc_rul hS.1 hc _ (by omega))
    · unfold J30 J30_2
      rw [if_pos (show In 0 = 0 from rfl), c3, Option.bind_some, i_b2, if_pos h3]
      show some (σ 81 8, hy_up σ 81 8 (In f)) = _
      rw [hc.1.2.1]
    · have h139 : hy_up σ 81 8 (In f) 139 = σ 139 := up_ne _ _ _ (by omega)
      unfold J151 J151_2
      rw [m125, Option.bind_some, i_b2, if_pos h1]
      dsimp only
      rw [if_pos (show In 0 = 0 from rfl), m125, Option.bind_some, i_b2, if_pos h3]
      dsimp only
      rw [e149 3 (by omega) _ h139 (3 + In 0) rfl, Option.bind_some]
  | 1, _ =>
    by_cases h3 : ¬(0 ≤ v ∧ v ≤ 100)
    · apply bad (-1000000001)
      · unfold J30 J30_2
        rw [if_neg (show ¬ In 1 = 0 by decide), c3, Option.bind_some, i_b2, if_neg h3]
      · unfold J151 J151_2
        rw [m125, Option.bind_some, i_b2, if_pos h1]
        dsimp only
        rw [if_neg (show ¬ In 1 = 0 by decide), m125, Option.bind_some, i_b2, if_neg h3]
    replace h3 := Classical.not_not.mp h3
    obtain ⟨f, hf, rfl⟩ := n_rngI (n := 100) (by omega) h3.1 h3.2
    refine iv_bo h (r := σ 139 4) (σ1 := hy_up σ 81 9 (In f)) ?_ (fp_up _ _ _ _ (by unfold boQ dyP; omega)) ?_ (ok_rul (n := f) hS.1 (Or.inr ⟨rfl, Or.inr ⟨Or.inl rfl, hf⟩⟩)) (eqT_upd _ _ (by omega) (by omega)) (DayOk_upd hdy (by omega)) (Rc_rul hS.1 hc _ (by omega))
    · unfold J30 J30_2
      rw [if_neg (show ¬ In 1 = 0 by decide), c3, Option.bind_some, i_b2, if_pos h3]
      show some (σ 81 9, hy_up σ 81 9 (In f)) = _
      rw [hc.1.2.2.1]
    · have h139 : hy_up σ 81 9 (In f) 139 = σ 139 := up_ne _ _ _ (by omega)
      unfold J151 J151_2
      rw [m125, Option.bind_some, i_b2, if_pos h1]
      dsimp only
      rw [if_neg (show ¬ In 1 = 0 by decide), m125, Option.bind_some, i_b2, if_pos h3]
      dsimp only
      rw [e149 4 (by omega) _ h139 (3 + In 1) rfl, Option.bind_some]
  | 2, _ =>
    by_cases h3 : ¬(0 ≤ v ∧ v ≤ 100)
    · apply bad (-1000000001)
      · unfold J30 J30_2
        rw [if_neg (show ¬ In 2 = 0 by decide), c3, Option.bind_some, i_b2, if_neg h3]
      · unfold J151 J151_2
        rw [m125, Option.bind_some, i_b2, if_pos h1]
        dsimp only
        rw [if_neg (show ¬ In 2 = 0 by decide), m125, Option.bind_some, i_b2, if_neg h3]
    replace h3 := Classical.not_not.mp h3
    obtain ⟨f, hf, rfl⟩ := n_rngI (n := 100) (by omega) h3.1 h3.2
    refine iv_bo h (r := σ 139 5) (σ1 := hy_up σ 81 10 (In f)) ?_ (fp_up _ _ _ _ (by unfold boQ dyP; omega)) ?_ (ok_rul (n := f) hS.1 (Or.inr ⟨rfl, Or.inr ⟨Or.inr rfl, hf⟩⟩)) (eqT_upd _ _ (by omega) (by omega)) (DayOk_upd hdy (by omega)) (Rc_rul hS.1 hc _ (by omega))
    · unfold J30 J30_2
      rw [if_neg (show ¬ In 2 = 0 by decide), c3, Option.bind_some, i_b2, if_pos h3]
      show some (σ 81 10, hy_up σ 81 10 (In f)) = _
      rw [hc.1.2.2.2.1]
    · have h139 : hy_up σ 81 10 (In f) 139 = σ 139 := up_ne _ _ _ (by omega)
      unfold J151 J151_2
      rw [m125, Option.bind_some, i_b2, if_pos h1]
      dsimp only
      rw [if_neg (show ¬ In 2 = 0 by decide), m125, Option.bind_some, i_b2, if_pos h3]
      dsimp only
      rw [e149 5 (by omega) _ h139 (3 + In 2) rfl, Option.bind_some]
  | n + 3, h => omega
theorem mkS_tr {S : Rw} {b p : Nat} (v : Int32) : mkS (upd S 3 v) b p = upd (mkS S b p) 3 v := by
  have hh : hd (upd S 3 v) p = hd S p := hd_c (nb_upd (by omega)) fun b _ => bf_upd (by omega)
  unfold mkS
  rw [hh]
  cases e : hd S p with
  | none =>
    unfold mkA
    simp (disch := omega) only [upd_ne]
    rw [upd_comm _ _ _ (show 3 ≠ 7 + 6 * b + 2 by omega), upd_comm _ _ _ (show 3 ≠ 7 + 6 * b + 4 by omega)]
  | some t =>
    dsimp only
    unfold mkC mkB mkA
    have e4 : upd (upd S 3 v) (7 + 6 * b + 2) (In p) = upd (upd S (7 + 6 * b + 2) (In p)) 3 v := upd_comm _ _ _ (by omega)
    rw [e4, upd_ne S v (show 7 + 6 * b + 4 ≠ 3 by omega), upd_comm _ _ _ (show 3 ≠ 7 + 6 * b + 4 by omega)]
    generalize upd (upd S (7 + 6 * b + 2) (In p)) (7 + 6 * b + 4) (S (7 + 6 * b + 4) + 1) = A
    rw [upd_ne A v (show 7 + 6 * b + 5 ≠ 3 by omega), upd_comm _ _ _ (show 3 ≠ 7 + 6 * t + 2 by omega), upd_comm _ _ _ (show 3 ≠ 7 + 6 * b + 5 by omega)]
    generalize upd (upd A (7 + 6 * t + 2) 36) (7 + 6 * b + 5) (A (7 + 6 * b + 5) + 1) = B
    rw [upd_ne B v (show 7 + 6 * b + 3 ≠ 3 by omega), upd_ne B v (show 7 + 6 * t + 3 ≠ 3 by omega), upd_comm _ _ _ (show 3 ≠ 7 + 6 * b + 3 by omega)]
theorem op_move (x y : Int32) : Op (J35 x y) (J155 x y) := by
  intro σ h
  obtain ⟨hS, hdy, hc, hl, hi⟩ := h.1
  have h12 := hS.1.1.2
  have bad : ∀ r, J35 x y σ = some (r, σ) → J155 x y σ = some (r, σ) → ∃ r σ1 σ2, J35 x y σ = some (r, σ1) ∧ J155 x y σ1 = some (r, σ2) ∧ Iv σ2 ∧ σ1 2000 = σ 2000 ∧ σ2 2000 = σ 2000 := fun r e1 e2 => Op_ga h e1 e2 (fp_rf _ _) (fr_rf _ _)
  by_cases h1 : ¬(0 ≤ x ∧ x ≤ σ 139 1 - 1)
  · apply bad (-1000000001)
    · unfold J35
      rw [c11, Option.bind_some, hc.1.1, i_b2, if_neg h1]
    · unfold J155
      rw [m132, Option.bind_some, i_b2, if_neg h1]
  replace h1 := Classical.not_not.mp h1
  by_cases h2 : ¬(0 ≤ y ∧ y ≤ 35)
  · apply bad (-1000000001)
    · unfold J35
      rw [c11, Option.bind_some, hc.1.1, i_b2, if_pos h1, c5, Option.bind_some, i_b2, if_neg h2]
    · unfold J155
      rw [m132, Option.bind_some, i_b2, if_pos h1, m126, Option.bind_some, i_b2, if_neg h2]
  replace h2 := Classical.not_not.mp h2
  obtain ⟨b, hb, rfl⟩ := n_rng (n := nb (σ 139)) (by omega) h1.1 (by rw [← hS.1.1.1]; exact h1.2)
  obtain ⟨p, hp, rfl⟩ := n_rngI (n := 35) (by omega) h2.1 h2.2
  obtain ⟨⟨k1, k2⟩, ⟨f1, f2⟩, ⟨p1, p2⟩, ⟨y1, y2, y3⟩⟩ := hS.1.2.1 b hb
  obtain ⟨t1, t2⟩ := hS.1.2.2.2.2.1
  have eC : J35 (In b) (In p) σ = if bf (σ 139) b 1 = hy_ix (σ 139 3) then (if mvB (σ 139) b p = true then (J36 81 (In b) (In p) σ).bind (fun p4 => (J38 81 p4.2).bind fun σ5 => some (p4.1, σ5)) else some (-1000000002, σ)) else some (-1000000002, σ) := by
    unfold J35
    rw [c11, Option.bind_some, hc.1.1, i_b2, if_pos h1, c5, Option.bind_some, i_b2, if_pos h2]
    dsimp only
    rw [if_pos (ib_n (by omega) (by omega)), n_ix (by omega), c21 hS.1 hc hb (by omega), Option.bind_some, i_bb]
    simp only [rc81 hc hb (show 1 < 6 by omega), hc.1.2.1, f1]
    rw [t1, i_eq (by omega) (by omega), n_ix (by omega)]
  have eR : ∀ τ : Sg, τ 139 = σ 139 → J155 (In b) (In p) τ = if bf (σ 139) b 1 = hy_ix (σ 139 3) then (if mvB (σ 139) b p = true then (J156 (In b) (In p) (wr τ (trS (σ 139)))).bind (fun p5 => (J141 p5.1 p5.2).bind fun p6 => some (p6.1, p6.2)) else some (-1000000002, τ)) else some (-1000000002, τ) := by
    intro τ hτ
    unfold J155
    rw [m132, Option.bind_some, i_b2, hτ, if_pos h1, m126, Option.bind_some, i_b2, if_pos h2]
    dsimp only
    rw [show J128 (In b) 1 τ = _ from m128 (w := 1) (by omega) τ, Option.bind_some]
    dsimp only
    rw [m143 (by rw [hτ]; exact hS.1) (by rw [hτ]; exact hb) (by omega), Option.bind_some, i_bb]
    dsimp only
    rw [up_wr]
    simp only [hτ]
    rw [ite_c (show (σ 139 (7 + 6 * b + 1) = σ 139 3) = (bf (σ 139) b 1 = hy_ix (σ 139 3)) by rw [f1, t1, n_ix (by omega)]; exact n_eq (by omega) (by omega))]
    rfl
  by_cases h3 : ¬(bf (σ 139) b 1 = hy_ix (σ 139 3))
  · exact bad (-1000000002) (by rw [eC, if_neg h3]) (by rw [eR σ rfl, if_neg h3])
  replace h3 := Classical.not_not.mp h3
  by_cases h4 : ¬(mvB (σ 139) b p = true)
  · exact bad (-1000000002) (by rw [eC, if_pos h3, if_neg h4]) (by rw [eR σ rfl, if_pos h3, if_neg h4])
  replace h4 := Classical.not_not.mp h4
  have hcd : cand (σ 139) (bf (σ 139) b 1) (36 * b + p) = true := by
    unfold cand
    rw [show (36 * b + p) / 36 = b by omega, show (36 * b + p) % 36 = p by omega, h4]
    simp
  obtain ⟨-, -, -, x4⟩ := cand_x hcd
  rw [show (36 * b + p) / 36 = b by omega, show (36 * b + p) % 36 = p by omega] at x4
  obtain ⟨σ1, q1, q2, q3⟩ := c36 (o := 81) (by omega) hS.1 hc hb (show p < 36 by omega) x4
  have hT := mk_Ok hS hb (show p < 36 by omega) x4
  obtain ⟨σ2, r1, r2, r3⟩ := c38 hT.1 q2
  have hk := trS_k hT
  have htr := trS_k hS
  have f12 : fp boQ σ σ2 := fp_tr (fp_wk q3 fun a ha => by unfold boP at ha; unfold boQ dyP; omega) (fp_wk r3 fun a ha => Or.inl ha)
  have h139 : σ2 139 = σ 139 := f12 139 (by unfold boQ dyP gaP plP; omega)
  have hhd : hd (trS (σ 139)) p = hd (σ 139) p := hd_c (nb_upd (by omega)) fun b _ => bf_upd (by omega)
  have e3 : mkS (trS (σ 139)) b p = trS (mkS (σ 139) b p) := by
    unfold trS
    rw [mkS_tr, mkS_out (by omega) (hd_lt12 hS.1) (by omega)]
  refine iv_bo h (r := oI (-1000000005) (hd (σ 139) p)) (σ1 := σ2) ?_ f12 ?_ hk.1.1 (eqT_tr (mkS_eqT hS.1 hb) hk.2.2) ?_ r2
  · rw [eC, if_pos h3, if_pos h4, q1, Option.bind_some]
    dsimp only
    rw [r1]
    rfl
  · rw [eR σ2 h139, if_pos h3, if_pos h4, m156 (by rw [wr_at]; exact htr.1.1) (by rw [wr_at, htr.2.1]; exact hb) (by omega), Option.bind_some, wr_at, wr_wr, hhd, e3]
    dsimp only
    rw [m141o (hd_bd hS.1), Option.bind_some]
  · unfold DayOk trS
    rw [upd_ne _ _ (by omega), mkS_out (by omega) (hd_lt12 hS.1) (by omega)]
    exact hdy
/-- bales that could be taken, as a set -/
def thA (S : Rw) (b : Nat) (i : Nat) : Nat → Bool
  | 0 => false
  | m + 1 => mvB S i (bf S b 2) || thA S b (i + 1) m
def thB (S : Rw) (f b : Nat) : Bool := (decide (bf S b 2 < 36) && decide (bf S b 1 = f)) && thA S b 0 (nb S)
def thL (S : Rw) (f : Nat) (acc : Int32) (b : Nat) : Nat → Int32
  | 0 => acc
  | m + 1 => thL S f (if thB S f b = true then acc ||| ((1 : Int32) <<< (In b &&& 31)) else acc) (b + 1) m
theorem c53_loop {σ : Sg} {b : Nat} {S : Rw} (hS : OkR S) (hc : Rc σ 81 S) (hb : b < nb S) (hon : bf S b 2 < 36) : ∀ (m i f : Nat), i + m = nb S → m < f → J53_1 f 81 (In b) (In i) σ = some (bb (thA S b i m), σ) := by
  have h12 := hS.1.2
  obtain ⟨-, -, ⟨p1, p2⟩, -⟩ := hS.2.1 b hb
  intro m
  induction m with
  | zero =>
    intro i f hi hf
    obtain ⟨f, rfl⟩ : ∃ g, f = g + 1 := ⟨f - 1, by omega⟩
    unfold J53_1
    rw [hc.1.1, hS.1.1, i_le (by omega) (by omega), if_pos (by omega)]
    rfl
  | succ m ih =>
    intro i f hi hf
    obtain ⟨f, rfl⟩ : ∃ g, f = g + 1 := ⟨f - 1, by omega⟩
    unfold J53_1
    rw [hc.1.1, hS.1.1, i_le (by omega) (by omega), if_neg (by omega), if_pos (ib_n (by omega) (by omega)), n_ix (by omega), hc.2.1 b hb 2 (by omega), p1, c21 hS hc (by omega) hon, Option.bind_some, i_bb, n_p1, ih (i + 1) f (by omega) (by omega)]
    show _ = some (bb (mvB S i (bf S b 2) || thA S b (i + 1) m), σ)
    by_cases h : mvB S i (bf S b 2) = true
    · rw [if_pos h, h]
      rfl
    · rw [if_neg h, Bool.eq_false_iff.mpr h, Bool.false_or]
theorem c52_loop {σ : Sg} {fm : Nat} {S : Rw} (hS : OkR S) (hc : Rc σ 81 S) (hf1 : fm ≤ 1) : ∀ (m i f : Nat) (acc : Int32), i + m = nb S → m < f → J52_2 f (In fm) acc (In i) σ = some (thL S fm acc i m, σ) := by
  have h12 := hS.1.2
  intro m
  induction m with
  | zero =>
    intro i f acc hi hf
    obtain ⟨f, rfl⟩ : ∃ g, f = g + 1 := ⟨f - 1, by omega⟩
    unfold J52_2
    rw [hc.1.1, hS.1.1, i_le (by omega) (by omega), if_pos (by omega)]
    rfl
  | succ m ih =>
    intro i f acc hi hf
    obtain ⟨f, rfl⟩ : ∃ g, f = g + 1 := ⟨f - 1, by omega⟩
    unfold J52_2 J52_3
    rw [hc.1.1, hS.1.1, i_le (by omega) (by omega), if_neg (by omega), c41 hS hc (by omega) hf1, Option.bind_some, i_bb, n_p1]
    dsimp only
    show _ = some (thL S fm (if thB S fm i = true then acc ||| ((1 : Int32) <<< (In i &&& 31)) else acc) (i + 1) m, σ)
    unfold thB
    by_cases h1 : (decide (bf S i 2 < 36) && decide (bf S i 1 = fm)) = true
    · have hon : bf S i 2 < 36 := by
        simp only [Bool.and_eq_true, decide_eq_true_eq] at h1
        exact h1.1
      rw [if_pos h1]
      unfold J53
      rw [show J53_1 hy_fu 81 (In i) 0 σ = _ from c53_loop hS hc (by omega) hon (nb S) 0 hy_fu (by omega) (by unfold hy_fu; omega), Option.bind_some, i_bb]
      dsimp only
      rw [h1, Bool.true_and, ih (i + 1) f _ (by omega) (by omega), ih (i + 1) f _ (by omega) (by omega)]
      split <;> rfl
    · rw [if_neg h1, Bool.eq_false_iff.mpr h1, Bool.false_and, if_neg (by decide), ih (i + 1) f _ (by omega) (by omega)]
theorem th_or (x y : Int32) : (x ||| y) ||| y = x ||| y := by
  rw [Int32.or_assoc, Int32.or_self]
theorem mv_other {S : Rw} {b i f : Nat} (hS : OkR S) (hb : b < nb S) (hon : bf S b 2 < 36) (hf : bf S b 1 = f) (h : mvB S i (bf S b 2) = true) : bf S i 1 ≠ f := by
  unfold mvB frB at h
  rw [hd_is hS hon hb rfl] at h
  simp only [Bool.and_eq_true, decide_eq_true_eq] at h
  intro e
  exact h.2.2.1 (by rw [hf, e])
theorem m165_in {σ : Sg} {fm b : Nat} (k2 : Int32 → Int32 → Int32 → Sg → Option (Int32 × Sg)) (hS : OkR (σ 139)) (hb : b < nb (σ 139)) (hf1 : fm ≤ 1) : ∀ (m i f : Nat) (acc : Int32), i + m = nb (σ 139) → m < f → J165_3 k2 f (In fm) acc (In b) (In i) σ = k2 (In fm) (if ((decide (bf (σ 139) b 2 < 36) && decide (bf (σ 139) b 1 = fm)) && thA (σ 139) b i m) = true then acc ||| ((1 : Int32) <<< (In b &&& 31)) else acc) (In (b + 1)) σ := by
  have h12 := hS.1.2
  obtain ⟨-, ⟨f1, f2⟩, ⟨p1, p2⟩, -⟩ := hS.2.1 b hb
  intro m
  induction m with
  | zero =>
    intro i f acc hi hf
    obtain ⟨f, rfl⟩ : ∃ g, f = g + 1 := ⟨f - 1, by omega⟩
    unfold J165_3
    rw [hS.1.1, i_le (by omega) (by omega), if_pos (by omega), n_p1]
    unfold thA
    rw [Bool.and_false, if_neg (by decide)]
  | succ m ih =>
    intro i f acc hi hf
    obtain ⟨f, rfl⟩ : ∃ g, f = g + 1 := ⟨f - 1, by omega⟩
    have hi2 : i < nb (σ 139) := by omega
    obtain ⟨-, ⟨g1, g2⟩, -, -⟩ := hS.2.1 i hi2
    have skip : J165_4 k2 (J165_3 k2 f) (In fm) acc (In b) (In i) σ = J165_3 k2 f (In fm) acc (In b) (In (i + 1)) σ := by
      unfold J165_4 J165_5 J165_7
      rw [if_pos rfl, Int32.or_zero, n_p1]
    have take : J165_5 k2 (J165_3 k2 f) 1 (In fm) acc (In b) (In i) σ = J165_3 k2 f (In fm) (acc ||| ((1 : Int32) <<< (In b &&& 31))) (In b) (In (i + 1)) σ := by
      unfold J165_5 J165_7
      rw [if_neg (by decide), n_p1]
    have hs : thA (σ 139) b i (m + 1) = (mvB (σ 139) i (bf (σ 139) b 2) || thA (σ 139) b (i + 1) m) := rfl
    unfold J165_3
    rw [hS.1.1, i_le (by omega) (by omega), if_neg (by omega), show J128 (In b) 1 σ = _ from m128 (w := 1) (by omega) σ, Option.bind_some, f1]
    dsimp only
    rw [i_eq (by omega) (by omega), m162 hS hb, Option.bind_some, i_b2]
    dsimp only
    rw [show J128 (In i) 1 σ = _ from m128 (w := 1) (by omega) σ, Option.bind_some, g1]
    dsimp only
    rw [i_eq (by omega) (by omega), show J128 (In b) 2 σ = _ from m128 (w := 2) (by omega) σ, Option.bind_some, p1]
    dsimp only
    rw [skip]
    by_cases h1 : bf (σ 139) b 1 = fm
    · by_cases h2 : bf (σ 139) b 2 < 36
      · rw [if_pos h1, if_pos h2, m143 hS hi2 h2, Option.bind_some, i_bb, skip, take, hs]
        by_cases h3 : mvB (σ 139) i (bf (σ 139) b 2) = true
        · have h4 := mv_other hS hb h2 h1 h3
          rw [if_neg h4, if_pos h3, ih (i + 1) f _ (by omega) (by omega), h3, Bool.true_or, Bool.and_true, decide_eq_true h2, decide_eq_true h1]
          simp only [Bool.true_and, if_true]
          by_cases h5 : thA (σ 139) b (i + 1) m = true
          · rw [if_pos h5, th_or]
          · rw [if_neg h5]
        · rw [if_neg h3, ih (i + 1) f _ (by omega) (by omega), Bool.eq_false_iff.mpr h3, Bool.false_or]
          split <;> rfl
      · rw [if_pos h1, if_neg h2, ih (i + 1) f _ (by omega) (by omega), decide_eq_false h2]
        simp
    · rw [if_neg h1, ih (i + 1) f _ (by omega) (by omega), decide_eq_false h1]
      simp
theorem m165_out {σ : Sg} {fm : Nat} (hS : OkR (σ 139)) (hf1 : fm ≤ 1) : ∀ (m b f : Nat) (acc : Int32), b + m = nb (σ 139) → m < f → J165_2 f (In fm) acc (In b) σ = some (thL (σ 139) fm acc b m, σ) := by
  have h12 := hS.1.2
  intro m
  induction m with
  | zero =>
    intro i f acc hi hf
    obtain ⟨f, rfl⟩ : ∃ g, f = g + 1 := ⟨f - 1, by omega⟩
    unfold J165_2
    rw [hS.1.1, i_le (by omega) (by omega), if_pos (by omega)]
    rfl
  | succ m ih =>
    intro i f acc hi hf
    obtain ⟨f, rfl⟩ : ∃ g, f = g + 1 := ⟨f - 1, by omega⟩
    unfold J165_2
    rw [hS.1.1, i_le (by omega) (by omega), if_neg (by omega), show (0 : Int32) = In 0 from rfl, m165_in _ hS (by omega) hf1 (nb (σ 139)) 0 hy_fu acc (by omega) (by unfold hy_fu; omega), ih (i + 1) f _ (by omega) (by omega)]
    rfl
theorem op_threats (x : Int32) : Op (J52 x) (J165 x) := by
  intro σ h
  obtain ⟨hS, hdy, hc, hl, hi⟩ := h.1
  have h12 := hS.1.1.2
  have bad : ∀ r, J52 x σ = some (r, σ) → J165 x σ = some (r, σ) → ∃ r σ1 σ2, J52 x σ = some (r, σ1) ∧ J165 x σ1 = some (r, σ2) ∧ Iv σ2 ∧ σ1 2000 = σ 2000 ∧ σ2 2000 = σ 2000 := fun r e1 e2 => Op_ga h e1 e2 (fp_rf _ _) (fr_rf _ _)
  by_cases h1 : ¬(0 ≤ x ∧ x ≤ 1)
  · apply bad (-1000000001)
    · unfold J52
      rw [c4, Option.bind_some, i_b2, if_neg h1]
    · unfold J165
      rw [m125, Option.bind_some, i_b2, if_neg h1]
  replace h1 := Classical.not_not.mp h1
  obtain ⟨f, hf, rfl⟩ := n_rngI (n := 1) (by omega) h1.1 h1.2
  apply bad (thL (σ 139) f 0 0 (nb (σ 139)))
  · unfold J52
    rw [c4, Option.bind_some, i_b2, if_pos h1]
    exact c52_loop hS.1 hc hf (nb (σ 139)) 0 hy_fu 0 (by omega) (by unfold hy_fu; omega)
  · unfold J165
    rw [m125, Option.bind_some, i_b2, if_pos h1]
    exact m165_out hS.1 hf (nb (σ 139)) 0 hy_fu 0 (by omega) (by unfold hy_fu; omega)
