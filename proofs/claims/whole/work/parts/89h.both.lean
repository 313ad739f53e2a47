/-! PURE: a text, from its key to its end, on both sides -/
def txL : List Nat := 10009 :: 10015 :: loL
theorem pB_0 {T : Nat → Nat} {n : Nat} : pB T n (sK T n 0) = false := by
  have hb := wL_bd (f := kB T n) (m := n - 0) (p := 0)
  unfold pB
  by_cases h : 1 ≤ sK T n 0
  · have h1 := hb.2.2.1 (sK T n 0 - 1) (by omega) (by show sK T n 0 - 1 < sK T n 0; omega)
    have h2 := of_decide_eq_true h1
    rw [w_no h2.2 (by omega) (by omega), Bool.and_false]
  · rw [decide_eq_false h, Bool.false_and]
theorem j80_0 (σ : Sg) : J80_1 σ = some (σ 2 3, hy_up σ 2 2 0) := by
  unfold J80_1 J80_2
  rw [if_pos rfl, up_same, upd_ne _ _ (by omega)]
theorem j188_0 (τ : Sg) : J188_1 τ = some (-100 - τ 138 11, hy_up τ 138 9 0) := by
  unfold J188_1 J188_2
  rw [if_pos rfl, up_same, upd_ne _ _ (by omega)]
theorem fu_ge : 4000 ≤ hy_fu := by unfold hy_fu; omega
theorem both {T : Nat → Nat} {n : Nat} {σ τ : Sg} (hT : Tp T n σ) (hS : Sx σ) (hR : Tr T n τ) (hK : Kx τ) :
    (∃ p σ' τ', p ≤ n ∧ J80 σ = some (In p, σ') ∧ J188 τ = some (-100 - In p, τ') ∧ fp clP σ σ' ∧ σ' 2 2 = 0 ∧ fr txL τ τ' ∧ τ' 138 9 = 0)
    ∨ (∃ key a E σ' τ', key < 3 ∧ EK key E ∧ E.length ≤ 96 ∧ J80 σ = some (-1000000005, σ') ∧ fp clP σ σ' ∧ σ' 2 2 = 0 ∧ (σ' 4 2 = In E.length ∧ σ' 4 3 = In key ∧ σ' 4 4 = In a ∧ Pl (σ' 5) (E.map cvt)) ∧ J188 τ = J188_2 1 τ' ∧ fr txL τ τ' ∧ (τ' 138 15 = In key ∧ τ' 138 19 = In E.length ∧ Pl (τ' 148) E ∧ τ' 138 20 = In a)) := by
  have hn := hT.1
  have hfu := fu_ge
  obtain ⟨q1, q2⟩ := sK_bd (T := T) (n := n) (q := 0) (by omega)
  -- the class, up to the key
  generalize hA : hy_up (hy_up (hy_up σ 4 4 0) 4 2 0) 2 3 (In (sK T n 0)) = A
  have fA : fp clP σ A := by
    rw [← hA]
    exact fp_tr (fp_up _ _ _ _ (Or.inr (Or.inl rfl))) (fp_tr (fp_up _ _ _ _ (Or.inr (Or.inl rfl))) (fp_up _ _ _ _ (Or.inl rfl)))
  have t0 : Tp T n (hy_up (hy_up σ 4 4 0) 4 2 0) := ⟨hn, by rw [up_ne _ _ _ (by omega), up_ne _ _ _ (by omega)]; exact hT.2.1, fun j hj => by rw [up_ne _ _ _ (by omega), up_ne _ _ _ (by omega)]; exact hT.2.2 j hj⟩
  have tA : Tp T n A := by
    rw [← hA]
    exact ⟨hn, by rw [up_same, upd_ne _ _ (by omega)]; exact t0.2.1, fun j hj => by rw [up_ne _ _ _ (by omega)]; exact t0.2.2 j hj⟩
  have a23 : A 2 3 = In (sK T n 0) := by rw [← hA, up_same, upd_at]
  have a42 : A 4 2 = 0 := by rw [← hA, up_ne _ _ _ (by omega), up_same, upd_at]
  have a44 : A 4 4 = 0 := by rw [← hA, up_ne _ _ _ (by omega), up_same, upd_ne _ _ (by omega), up_same, upd_at]
  have sA : Sx A := Sx_fp hS fA
  have e80 : J80 σ = (J84 A).bind fun p3 => if p3.1 = 0 then (J80_1 p3.2) else ((JR 200 0 (In 0) (In 0) (In (cnN [])) p3.2).bind fun p4 => if p4.1 = 0 then (J80_1 p4.2) else (if (p4.2 2 3) = (p4.2 2 2) then (J80_2 (1 : Int32) p4.2) else (J80_1 p4.2))) := by
    unfold J80 J81
    have e82 : J82 0 (hy_up (hy_up σ 4 4 0) 4 2 0) = some A := by
      rw [← hA]
      exact c82 (p := 0) t0 (by omega)
    rw [Option.bind_some, e82, Option.bind_some]
    rfl
  -- the reference, up to the key
  generalize hB0 : hy_up (hy_up τ 138 10 0) 138 14 (-1) = B0
  have fB0 : fr goL τ B0 := by
    rw [← hB0]
    exact fr_tr (fr_up _ _ _ _ (by decide)) (fr_up _ _ _ _ (by decide))
  have g0 : GO T n B0 0 := by
    refine ⟨by rw [← hB0, up_same, upd_ne _ _ (by omega), up_same, upd_at]; rfl, by omega, Or.inr ⟨?_, Or.inl (by rw [← hB0, up_same, upd_at])⟩⟩
    unfold pB
    rw [decide_eq_false (by omega), Bool.false_and]
  obtain ⟨B, eB, kB', fB⟩ := m189 (Tr_fr hR fB0 (by decide) (by decide)) g0
  have fTB : fr goL τ B := fr_tr fB0 fB
  have rB : Tr T n B := Tr_fr hR fTB (by decide) (by decide)
  have xB : Kx B := by
    unfold Kx
    rw [fr_row (a := 146) fTB (by decide) (by decide), fr_row (a := 147) fTB (by decide) (by decide)]
    exact hK
  have e192 := m192 rB kB' xB pB_0
  have e188 : J188 τ = (J192 B).bind fun p2 => if p2.1 = 0 then (J188_1 p2.2) else ((J193 p2.2).bind fun p3 => if p3.1 = 0 then (J188_1 p3.2) else (J188_2 (1 : Int32) p3.2)) := by
    unfold J188
    rw [hB0, eB, Option.bind_some]
  have h84 := c84 tA sA a23 q2 a42 a44
  rw [e80, e188]
  cases hk : kO T n (sK T n 0) with
  | none =>
    rw [hk] at h84 e192
    refine Or.inl ⟨sK T n 0, hy_up A 2 2 0, hy_up B 138 9 0, q2, ?_, ?_, fp_tr fA (fp_up _ _ _ _ (Or.inl rfl)), by rw [up_same, upd_at], fr_tr (fr_wk fTB (by decide)) (fr_up _ _ _ _ (by decide)), by rw [up_same, upd_at]⟩
    · rw [h84, Option.bind_some]
      dsimp only
      rw [if_pos rfl, j80_0, a23]
    · rw [e192, Option.bind_some]
      dsimp only
      rw [if_pos rfl, j188_0, kB'.1]
  | some key =>
    rw [hk] at h84 e192
    obtain ⟨k3, kk⟩ := kO_lt hk
    obtain ⟨hl, hp0⟩ := kw_l q2 k3 kk
    have hw : wB T n (sK T n 0) = true := by
      unfold wB
      rw [hl, Bool.true_or]
    obtain ⟨w1, w2, w3, w4, w5⟩ := wE_bd (T := T) q2
    obtain ⟨q3, q4⟩ := sK_bd (T := T) w2
    obtain ⟨A2, e84, cA2, fA2⟩ := h84
    have f15 : fr [10015] B (hy_up B 138 15 (In key)) := fr_up _ _ _ _ (by decide)
    obtain ⟨B2, eB2, kB2, fB2⟩ := m189 (Tr_fr rB f15 (by decide) (by decide)) (GO_fr (GO_w kB' hw) f15 (by decide) (by decide))
    have e192 : J192 B = (J189 (hy_up B 138 15 (In key))).bind fun σ1 => some ((1 : Int32), σ1) := e192
    rw [eB2] at e192
    have e192 : J192 B = some (1, B2) := e192
    have fTB2 : fr [10010, 10011, 10012, 10013, 10014, 10015] τ B2 := fr_tr (fr_wk fTB (by decide)) (fr_tr (fr_wk f15 (by decide)) (fr_wk fB2 (by decide)))
    generalize hG : hy_up (hy_up (hy_up (hy_up B2 138 19 (0 : Int32)) 138 20 (0 : Int32)) 138 22 (0 : Int32)) 150 0 (0 : Int32) = G
    have fG : fr [10019, 10020, 10022, 150] B2 G := by
      rw [← hG]
      exact fr_tr (fr_up _ _ _ _ (by decide)) (fr_tr (fr_up _ _ _ _ (by decide)) (fr_tr (fr_up _ _ _ _ (by decide)) (fr_up _ _ _ _ (by decide))))
    have fTG : fr txL τ G := fr_tr (fr_wk fTB2 (by decide)) (fr_wk fG (by decide))
    have rG : RS T n key G (sK T n (wE T n (sK T n 0))) [] [] 0 := by
      refine ⟨Tr_fr (Tr_fr hR fTB2 (by decide) (by decide)) fG (by decide) (by decide), TK_fr kB2 fG (by decide), ?_, ⟨?_, trivial, ?_, trivial⟩, ?_⟩
      · rw [fr_slot (k := 15) fG (by decide), fr_slot (k := 15) fB2 (by decide), up_same, upd_at]
      · rw [← hG, up_ne _ _ _ (by omega), up_same, upd_ne _ _ (by omega), up_same, upd_ne _ _ (by omega), up_same, upd_at]
        rfl
      · rw [← hG, up_ne _ _ _ (by omega), up_same, upd_at]
        rfl
      · rw [← hG, up_ne _ _ _ (by omega), up_same, upd_ne _ _ (by omega), up_same, upd_at]
        rfl
    have e193 : J193 B2 = J193_1 hy_fu (In 0) (In (cnN [])) 1 G := by
      unfold J193
      rw [hG]
      rfl
    rw [e84, e192, Option.bind_some, Option.bind_some]
    dsimp only
    rw [if_neg (show ¬ (1 : Int32) = 0 by decide), if_neg (show ¬ (1 : Int32) = 0 by decide), e193]
    rcases (rdOK (T := T) (n := n) k3 200 200 (Nat.le_refl _)).1 0 0 (sK T n (wE T n (sK T n 0))) 0 false A2 G [] [] [] (by omega) (by decide) (by omega) (by decide) cA2 rG (Nat.zero_le _) (Nat.zero_le _) trivial (by rw [← hG, up_same, upd_at]; rfl) (fun _ => rfl) with ⟨p', σ', τ', E, C', W', a', d, e1, ⟨g1, g2, g3, g4, g5, g6, g7⟩, ⟨v1, v2, ⟨t', v3, v4, v5⟩, v6⟩⟩ | ⟨p', σ', τ', e1, h1, h2, h3, h4, h5, h6, h7, h8⟩
    · rw [e1, Option.bind_some]
      dsimp only
      rw [if_neg (show ¬ (1 : Int32) = 0 by decide)]
      have hlen := stl_len 1 W' C'
      rw [v1] at hlen
      have hlen : (E ++ []).length + 0 = C'.length + W'.length := hlen
      rw [List.append_nil] at hlen g1 v1
      obtain ⟨f, hf⟩ : ∃ f, hy_fu = f + 1 + d := ⟨hy_fu - d - 1, by omega⟩
      by_cases hp : p' = n
      · obtain ⟨τ2, y1, y2, y3⟩ := sE (o := 0) g5 (by omega) (by omega) hp (In (cnN W'))
        have hs0 : stl 0 C' W' = (E, []) := by
          rw [← stl_mono (show 0 ≤ 1 by omega) W' C', v1]
          exact stl_n 0 _
        rw [hs0] at y2
        refine Or.inr ⟨key, a', E, hy_up σ' 2 2 0, τ2, k3, g7, by omega, ?_, fp_tr fA (fp_tr fA2 (fp_tr g2 (fp_up _ _ _ _ (Or.inl rfl)))), by rw [up_same, upd_at], ⟨?_, ?_, ?_, ?_⟩, ?_, fr_tr fTG (fr_tr (fr_wk g6 (by decide)) (fr_wk y3 (by decide))), ⟨?_, y2.1, y2.2.1, ?_⟩⟩
        · rw [if_pos (by rw [g1.2.2.1, g1.1.2.1, hp])]
          unfold J80_2
          rw [if_neg (by decide)]
        · rw [up_ne _ _ _ (by omega)]
          exact g1.2.2.2.1
        · rw [up_ne _ _ _ (by omega)]
          exact g1.2.2.2.2.1
        · rw [up_ne _ _ _ (by omega)]
          exact g1.2.2.2.2.2.1
        · rw [up_ne _ _ _ (by omega)]
          exact g1.2.2.2.2.2.2
        · rw [hf, g4, y1]
          rfl
        · rw [fr_slot (k := 15) y3 (by decide)]
          exact g5.2.2.1
        · rw [fr_slot (k := 20) y3 (by decide)]
          exact g5.2.2.2.2
      · obtain ⟨τ2, y1, y2, y3⟩ := stopL (o := 0) g5 (by omega) (by omega) v4 v3 (fun _ _ => rfl) (fun z => absurd z hp) (In (cnN W'))
        refine Or.inl ⟨p', hy_up σ' 2 2 0, hy_up τ2 138 9 0, by omega, ?_, ?_, fp_tr fA (fp_tr fA2 (fp_tr g2 (fp_up _ _ _ _ (Or.inl rfl)))), by rw [up_same, upd_at], fr_tr fTG (fr_tr (fr_wk g6 (by decide)) (fr_tr (fr_wk y3 (by decide)) (fr_up _ _ _ _ (by decide)))), by rw [up_same, upd_at]⟩
        · rw [if_neg (by rw [g1.2.2.1, g1.1.2.1, n_eq (by omega) (by omega)]; exact hp), j80_0, g1.2.2.1]
        · rw [hf, g4, y1, Option.bind_some]
          dsimp only
          rw [if_pos rfl, j188_0, y2]
    · refine Or.inl ⟨p', hy_up σ' 2 2 0, hy_up τ' 138 9 0, h7, ?_, ?_, fp_tr fA (fp_tr fA2 (fp_tr h4 (fp_up _ _ _ _ (Or.inl rfl)))), by rw [up_same, upd_at], fr_tr fTG (fr_tr (fr_wk h8 (by decide)) (fr_up _ _ _ _ (by decide))), by rw [up_same, upd_at]⟩
      · rw [e1, Option.bind_some]
        dsimp only
        rw [if_pos rfl, j80_0, h3]
      · rw [h5 hy_fu (by omega), Option.bind_some]
        dsimp only
        rw [if_pos rfl, j188_0, h6]
