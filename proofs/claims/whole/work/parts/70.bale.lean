/-! PURE: one more bale -/
theorem cm_at (S : Rw) (k f p y : Int32) : cmS S k f p y 1 = S 1 + 1 ∧ cmS S k f p y (7 + 6 * nb S + 0) = k ∧ cmS S k f p y (7 + 6 * nb S + 1) = f ∧ cmS S k f p y (7 + 6 * nb S + 2) = p ∧ cmS S k f p y (7 + 6 * nb S + 3) = y ∧ cmS S k f p y (7 + 6 * nb S + 4) = 0 ∧ cmS S k f p y (7 + 6 * nb S + 5) = 0 := by
  unfold cmS
  simp (disch := omega) only [upd_ne, upd_at]
  exact ⟨trivial, trivial, trivial, trivial, trivial, trivial, trivial⟩
theorem cm_ne (S : Rw) (k f p y : Int32) {j : Nat} (h1 : j ≠ 1) (h2 : j < 7 + 6 * nb S ∨ 7 + 6 * nb S + 6 ≤ j) : cmS S k f p y j = S j := by
  unfold cmS
  simp (disch := omega) only [upd_ne]
theorem cm_nb {S : Rw} (hS : OkR S) (k f p y : Int32) : nb (cmS S k f p y) = nb S + 1 := by
  have h12 := hS.1.2
  unfold nb
  rw [(cm_at S k f p y).1, hS.1.1, n_p1, n_ix (by omega), n_ix (by omega)]
theorem cm_eqT {S : Rw} (h : nb S < 12) (k f p y : Int32) : eqT S (cmS S k f p y) := ⟨cm_ne S k f p y (by omega) (by omega), fun j hj => cm_ne S k f p y (by omega) (by omega)⟩
theorem cm_bf {S : Rw} (k f p y : Int32) {b w : Nat} (hb : b < nb S) (hw : w < 6) : bf (cmS S k f p y) b w = bf S b w := by
  unfold bf
  rw [cm_ne S k f p y (by omega) (by omega)]
theorem cm_ok {S : Rw} {k f p y : Nat} (hS : OkR S) (hn : nb S < 12) (hk : k ≤ 5) (hf : f ≤ 1) (hp : p < 36) (hy : 1 ≤ y ∧ y ≤ 99) (hfree : hd S p = none) : OkR (cmS S (In k) (In f) (In p) (In y)) := by
  obtain ⟨c1, c2, c3, c4, c5, c6, c7⟩ := cm_at S (In k) (In f) (In p) (In y)
  have hnb := cm_nb hS (In k) (In f) (In p) (In y)
  have hfr := hd_none hfree
  obtain ⟨⟨a1, a2⟩, a3, a4, a5, a6, a7, a8, a9⟩ := hS
  have b0 : bf (cmS S (In k) (In f) (In p) (In y)) (nb S) 0 = k := by unfold bf; rw [c2, n_ix (by omega)]
  have b1 : bf (cmS S (In k) (In f) (In p) (In y)) (nb S) 1 = f := by unfold bf; rw [c3, n_ix (by omega)]
  have b2 : bf (cmS S (In k) (In f) (In p) (In y)) (nb S) 2 = p := by unfold bf; rw [c4, n_ix (by omega)]
  have b3 : bf (cmS S (In k) (In f) (In p) (In y)) (nb S) 3 = y := by unfold bf; rw [c5, n_ix (by omega)]
  refine ⟨⟨by rw [hnb, c1, a1, n_p1], by omega⟩, fun c hc => ?_, fun c d q1 q2 q3 => ?_, ⟨rfl, rfl⟩, by rw [cm_ne S _ _ _ _ (by omega) (by omega)]; exact a6, by rw [cm_ne S _ _ _ _ (by omega) (by omega)]; exact a7, by rw [cm_ne S _ _ _ _ (by omega) (by omega)]; exact a8, by rw [cm_ne S _ _ _ _ (by omega) (by omega)]; exact a9⟩
  · rw [hnb] at hc
    by_cases hcn : c = nb S
    · subst hcn
      unfold OkB
      rw [b0, b1, b2, b3, c2, c3, c4, c5]
      exact ⟨⟨rfl, hk⟩, ⟨rfl, hf⟩, ⟨rfl, by omega⟩, rfl, hy⟩
    · have hB := a3 c (by omega)
      unfold OkB at hB ⊢
      rw [cm_bf _ _ _ _ (by omega) (by omega), cm_bf _ _ _ _ (by omega) (by omega), cm_bf _ _ _ _ (by omega) (by omega), cm_bf _ _ _ _ (by omega) (by omega), cm_ne S _ _ _ _ (show 7 + 6 * c + 0 ≠ 1 by omega) (by omega), cm_ne S _ _ _ _ (show 7 + 6 * c + 1 ≠ 1 by omega) (by omega), cm_ne S _ _ _ _ (show 7 + 6 * c + 2 ≠ 1 by omega) (by omega), cm_ne S _ _ _ _ (show 7 + 6 * c + 3 ≠ 1 by omega) (by omega)]
      exact hB
  · rw [hnb] at q2
    have hcb : bf (cmS S (In k) (In f) (In p) (In y)) c 2 = bf S c 2 := cm_bf _ _ _ _ (by omega) (by omega)
    rw [hcb] at q3 ⊢
    by_cases hdn : d = nb S
    · subst hdn
      rw [b2] at q3
      exact absurd q3 (hfr c (by omega))
    · rw [cm_bf _ _ _ _ (by omega) (by omega)] at q3
      exact a4 c d q1 (by omega) q3
theorem cm_hd {S : Rw} {k f p y : Nat} (hS : OkR S) (hn : nb S < 12) (hk : k ≤ 5) (hf : f ≤ 1) (hp : p < 36) (hy : 1 ≤ y ∧ y ≤ 99) (hfree : hd S p = none) {q : Nat} (hq : q < 36) : hd (cmS S (In k) (In f) (In p) (In y)) q = if q = p then some (nb S) else hd S q := by
  have hT := cm_ok hS hn hk hf hp hy hfree
  have hnb := cm_nb hS (In k) (In f) (In p) (In y)
  have b2 : bf (cmS S (In k) (In f) (In p) (In y)) (nb S) 2 = p := by unfold bf; rw [(cm_at S _ _ _ _).2.2.2.1, n_ix (by omega)]
  by_cases h : q = p
  · subst h
    rw [if_pos rfl]
    exact hd_is hT hq (by omega) b2
  · rw [if_neg h]
    cases e : hd S q with
    | some c =>
      obtain ⟨h1, h2⟩ := hd_some e
      exact hd_is hT hq (by omega) (by rw [cm_bf _ _ _ _ h1 (by omega)]; exact h2)
    | none =>
      cases e' : hd (cmS S (In k) (In f) (In p) (In y)) q with
      | none => rfl
      | some c =>
        obtain ⟨h1, h2⟩ := hd_some e'
        rw [hnb] at h1
        by_cases hcn : c = nb S
        · subst hcn
          omega
        · rw [cm_bf _ _ _ _ (by omega) (by omega)] at h2
          exact absurd h2 (hd_none e c (by omega))
theorem c7 {σ : Sg} {o k f p y : Nat} {S : Rw} (hS : OkR S) (hc : Rc σ o S) (hn : nb S < 12) (hk : k ≤ 5) (hf : f ≤ 1) (hp : p < 36) (hy : 1 ≤ y ∧ y ≤ 99) (hfree : hd S p = none) : ∃ σ', J7 o (In k) (In f) (In p) (In y) σ = some (In (nb S), σ') ∧ Rc σ' o (cmS S (In k) (In f) (In p) (In y)) ∧ fp (fun a => a = o ∨ boP o a) σ σ' := by
  obtain ⟨x1, x2, x3, x4, x5, x6, x7⟩ := cm_at S (In k) (In f) (In p) (In y)
  have hnb := cm_nb hS (In k) (In f) (In p) (In y)
  have hhd := fun q hq => cm_hd hS hn hk hf hp hy hfree (q := q) hq
  have hne := fun j h1 h2 => cm_ne S (In k) (In f) (In p) (In y) (j := j) h1 h2
  have hT := cm_eqT hn (In k) (In f) (In p) (In y)
  generalize cmS S (In k) (In f) (In p) (In y) = T at *
  obtain ⟨⟨a1, a2, a3, a4, a5, a6, a7⟩, h2, h3, h4⟩ := hc
  unfold J7
  rw [a1, hS.1.1, if_pos (ib_n (by omega) (by omega)), n_ix (by omega)]
  generalize hτ : hy_up (hy_up (hy_up (hy_up (hy_up (hy_up σ (o + 7 + nb S) 0 (In k)) (o + 7 + nb S) 1 (In f)) (o + 7 + nb S) 3 (In y)) (o + 7 + nb S) 4 0) (o + 7 + nb S) 5 0) (o + 7 + nb S) 2 36 = τ
  have t1 : ∀ a, a ≠ o + 7 + nb S → τ a = σ a := by
    intro a ha
    subst hτ
    simp (disch := omega) only [up_ne]
  have t2 : τ (o + 7 + nb S) 2 = 36 := by
    subst hτ
    rw [up_same, upd_at]
  have t3 : τ (o + 7 + nb S) 0 = In k ∧ τ (o + 7 + nb S) 1 = In f ∧ τ (o + 7 + nb S) 3 = In y ∧ τ (o + 7 + nb S) 4 = 0 ∧ τ (o + 7 + nb S) 5 = 0 := by
    subst hτ
    simp (disch := omega) only [up_same, upd_ne, upd_at]
    exact ⟨trivial, trivial, trivial, trivial, trivial⟩
  have e9 : J9 o (In (nb S)) τ = some (0, τ) := by
    unfold J9
    rw [if_pos (ib_n (by omega) (by omega)), n_ix (by omega), t2, show J5 36 τ = some (b2 (36 < 36), τ) from c5n (v := 36) (by omega) τ, Option.bind_some]
    rfl
  unfold J8
  rw [e9, Option.bind_some, if_pos rfl]
  unfold J8_1
  dsimp only
  rw [if_pos (ib_n (by omega) (by omega)), n_ix (by omega), c5n (by omega), Option.bind_some, i_b2, if_pos hp, if_pos (ib_n (by omega) (by omega)), n_ix (by omega), Option.bind_some]
  dsimp only
  have e7 : hy_up (hy_up τ (o + 7 + nb S) 2 (In p)) (o + 2) p (In (nb S)) o 7 = In (nb S) := by
    simp (disch := omega) only [up_ne]
    rw [t1 _ (by omega), a1]
    exact hS.1.1
  rw [e7, n_p1]
  refine ⟨_, rfl, ⟨?_, fun b hb w hw => ?_, fun q hq => ?_, fun q hq => ?_⟩, fun a ha => ?_⟩
  · simp (disch := omega) only [up_same, up_ne, upd_ne, upd_at]
    rw [t1 o (by omega), x1, hS.1.1, n_p1, hne 2 (by omega) (by omega), hne 3 (by omega) (by omega), hne 4 (by omega) (by omega), hne 5 (by omega) (by omega), hne 6 (by omega) (by omega), hne 0 (by omega) (by omega)]
    exact ⟨rfl, a2, a3, a4, a5, a6, a7⟩
  · rw [hnb] at hb
    by_cases hbn : b = nb S
    · subst hbn
      simp (disch := omega) only [up_ne]
      rw [up_same]
      match w, hw with
      | 0, _ => rw [upd_ne _ _ (by omega), t3.1, x2]
      | 1, _ => rw [upd_ne _ _ (by omega), t3.2.1, x3]
      | 2, _ => rw [upd_at, x4]
      | 3, _ => rw [upd_ne _ _ (by omega), t3.2.2.1, x5]
      | 4, _ => rw [upd_ne _ _ (by omega), t3.2.2.2.1, x6]
      | 5, _ => rw [upd_ne _ _ (by omega), t3.2.2.2.2, x7]
      | n + 6, h => omega
    · simp (disch := omega) only [up_ne]
      rw [t1 _ (by omega), hne _ (by omega) (by omega)]
      exact h2 b (by omega) w hw
  · rw [hhd q hq]
    simp (disch := omega) only [up_ne]
    rw [up_same]
    by_cases h : q = p
    · subst h
      rw [upd_at, if_pos rfl]
      rfl
    · rw [upd_ne _ _ h, if_neg h, up_ne _ _ _ (by omega), t1 _ (by omega)]
      exact h3 q hq
  · simp (disch := omega) only [up_ne]
    rw [t1 _ (by omega), eqT_ct hT]
    exact h4 q hq
  · unfold boP at ha
    simp (disch := omega) only [up_ne]
    rw [t1 _ (by omega)]
theorem cm_k {S : Rw} {k f p y : Nat} (hS : Ok S) (hn : nb S < 12) (hk : k ≤ 5) (hf : f ≤ 1) (hp : p < 36) (hy : 1 ≤ y ∧ y ≤ 99) (hfree : hd S p = none) : Ok (cmS S (In k) (In f) (In p) (In y)) ∧ eqT S (cmS S (In k) (In f) (In p) (In y)) :=
  ⟨⟨cm_ok hS.1 hn hk hf hp hy hfree, eqT_Ok (cm_eqT hn _ _ _ _) hS.2⟩, cm_eqT hn _ _ _ _⟩
theorem bd_l {x : Int32} {n : Nat} (hn : n < 2147483648) (h1 : 1 ≤ x) (h2 : x ≤ In n) : ∃ b, 1 ≤ b ∧ b ≤ n ∧ x = In b := by
  have h0 : (0 : Int32) ≤ x := by
    rw [Int32.le_iff_toInt_le] at h1 ⊢
    have e0 : (0 : Int32).toInt = 0 := rfl
    have e1 : (1 : Int32).toInt = 1 := rfl
    omega
  obtain ⟨b, hb, rfl⟩ := n_rngI hn h0 h2
  refine ⟨b, ?_, hb, rfl⟩
  rwa [show (1 : Int32) = In 1 from rfl, n_le (by omega) (by omega)] at h1
theorem op_bale (x k2 k3 k4 : Int32) : Op (J1 x k2 k3 k4) (J124 x k2 k3 k4) := by
  intro σ h
  obtain ⟨hS, hdy, hc, hl, hi⟩ := h.1
  have h12 := hS.1.1.2
  have bad : ∀ r, J1 x k2 k3 k4 σ = some (r, σ) → J124 x k2 k3 k4 σ = some (r, σ) → ∃ r σ1 σ2, J1 x k2 k3 k4 σ = some (r, σ1) ∧ J124 x k2 k3 k4 σ1 = some (r, σ2) ∧ Iv σ2 ∧ σ1 2000 = σ 2000 ∧ σ2 2000 = σ 2000 := fun r e1 e2 => Op_ga h e1 e2 (fp_rf _ _) (fr_rf _ _)
  by_cases h1 : ¬(0 ≤ x ∧ x ≤ 5)
  · apply bad (-1000000001)
    · unfold J1
      rw [c2, Option.bind_some, i_b2, if_neg h1]
    · unfold J124
      rw [m125, Option.bind_some, i_b2, if_neg h1]
  replace h1 := Classical.not_not.mp h1
  by_cases h2 : ¬(0 ≤ k2 ∧ k2 ≤ 1)
  · apply bad (-1000000001)
    · unfold J1
      rw [c2, Option.bind_some, i_b2, if_pos h1, c4, Option.bind_some, i_b2, if_neg h2]
    · unfold J124
      rw [m125, Option.bind_some, i_b2, if_pos h1, m125, Option.bind_some, i_b2, if_neg h2]
  replace h2 := Classical.not_not.mp h2
  by_cases h3 : ¬(0 ≤ k3 ∧ k3 ≤ 35)
  · apply bad (-1000000001)
    · unfold J1
      rw [c2, Option.bind_some, i_b2, if_pos h1, c4, Option.bind_some, i_b2, if_pos h2, c5, Option.bind_some, i_b2, if_neg h3]
    · unfold J124
      rw [m125, Option.bind_some, i_b2, if_pos h1, m125, Option.bind_some, i_b2, if_pos h2, m126, Option.bind_some, i_b2, if_neg h3]
  replace h3 := Classical.not_not.mp h3
  by_cases h4 : ¬(1 ≤ k4 ∧ k4 ≤ 99)
  · apply bad (-1000000001)
    · unfold J1
      rw [c2, Option.bind_some, i_b2, if_pos h1, c4, Option.bind_some, i_b2, if_pos h2, c5, Option.bind_some, i_b2, if_pos h3, c6, Option.bind_some, i_b2, if_neg h4]
    · unfold J124
      rw [m125, Option.bind_some, i_b2, if_pos h1, m125, Option.bind_some, i_b2, if_pos h2, m126, Option.bind_some, i_b2, if_pos h3, m125, Option.bind_some, i_b2, if_neg h4]
  replace h4 := Classical.not_not.mp h4
  obtain ⟨k, hk, rfl⟩ := n_rngI (n := 5) (by omega) h1.1 h1.2
  obtain ⟨f, hf, rfl⟩ := n_rngI (n := 1) (by omega) h2.1 h2.2
  obtain ⟨p, hp, rfl⟩ := n_rngI (n := 35) (by omega) h3.1 h3.2
  obtain ⟨y, hy1, hy2, rfl⟩ := bd_l (n := 99) (by omega) h4.1 h4.2
  have eC : J1 (In k) (In f) (In p) (In y) σ = if hd (σ 139) p = none then (if nb (σ 139) < 12 then ((J7 81 (In k) (In f) (In p) (In y) σ).bind fun p5 => some (p5.1, p5.2)) else some (-1000000003, σ)) else some (-1000000002, σ) := by
    unfold J1
    rw [c2, Option.bind_some, i_b2, if_pos h1, c4, Option.bind_some, i_b2, if_pos h2, c5, Option.bind_some, i_b2, if_pos h3, c6, Option.bind_some, i_b2, if_pos h4]
    dsimp only
    rw [if_pos (ib_n (by omega) (by omega)), n_ix (by omega)]
    simp only [show σ 83 p = oI (-1000000005) (hd (σ 139) p) from hc.2.2.1 p (by omega), oN_e (hd_bd hS.1), hc.1.1, hS.1.1.1]
    rw [show (12 : Int32) = In 12 from rfl, i_lt (by omega) (by omega)]
  have eR : ∀ τ : Sg, τ 139 = σ 139 → J124 (In k) (In f) (In p) (In y) τ = if hd (σ 139) p = none then (if nb (σ 139) = 12 then some (-1000000003, τ) else (J129 (In k) (In f) (In p) (In y) τ).bind fun p6 => some (p6.1, p6.2)) else some (-1000000002, τ) := by
    intro τ hτ
    unfold J124
    rw [m125, Option.bind_some, i_b2, if_pos h1, m125, Option.bind_some, i_b2, if_pos h2, m126, Option.bind_some, i_b2, if_pos h3, m125, Option.bind_some, i_b2, if_pos h4]
    dsimp only
    rw [m127 (by rw [hτ]; exact hS.1) (by omega), Option.bind_some, hτ]
    simp only [oI_lt (hd_bd hS.1)]
    rw [hτ, hS.1.1.1, show (12 : Int32) = In 12 from rfl, i_eq (by omega) (by omega)]
  by_cases e1 : ¬(hd (σ 139) p = none)
  · exact bad (-1000000002) (by rw [eC, if_neg e1]) (by rw [eR σ rfl, if_neg e1])
  replace e1 := Classical.not_not.mp e1
  by_cases e2 : ¬(nb (σ 139) < 12)
  · exact bad (-1000000003) (by rw [eC, if_pos e1, if_neg e2]) (by rw [eR σ rfl, if_pos e1, if_pos (by omega)])
  replace e2 := Classical.not_not.mp e2
  obtain ⟨σ1, q1, q2, q3⟩ := c7 (o := 81) hS.1 hc e2 hk hf (show p < 36 by omega) ⟨hy1, hy2⟩ e1
  have h139 : σ1 139 = σ 139 := q3 139 (by unfold boP; omega)
  obtain ⟨hT, hq⟩ := cm_k hS e2 hk hf (show p < 36 by omega) ⟨hy1, hy2⟩ e1
  refine Op_bo h (r := In (nb (σ 139))) (σ1 := σ1) (σ2 := wr σ1 (cmS (σ 139) (In k) (In f) (In p) (In y))) ?_ ?_ (fp_wk q3 fun a ha => by unfold boP at ha; unfold boQ dyP; omega) (fr_wr _ _ (by simp [boL])) (wr_at _ _) hT hq ?_ q2
  · rw [eC, if_pos e1, if_pos e2, q1]
    rfl
  · rw [eR σ1 h139, if_pos e1, if_neg (by omega), m129 (by rw [h139]; exact hS.1), h139]
    rfl
  · unfold DayOk
    rw [cm_ne _ _ _ _ _ (by omega) (by omega)]
    exact hdy
