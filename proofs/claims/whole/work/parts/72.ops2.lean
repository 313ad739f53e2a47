/-! PURE: more operations -/
theorem op_told (x y : Int32) : Op (J10 x y) (J131 x y) := by
  intro σ h
  obtain ⟨hS, hdy, hc, hl, hi⟩ := h.1
  have h12 := hS.1.1.2
  have bad : ∀ r, J10 x y σ = some (r, σ) → J131 x y σ = some (r, σ) → ∃ r σ1 σ2, J10 x y σ = some (r, σ1) ∧ J131 x y σ1 = some (r, σ2) ∧ Iv σ2 ∧ σ1 2000 = σ 2000 ∧ σ2 2000 = σ 2000 := fun r e1 e2 => Op_ga h e1 e2 (fp_rf _ _) (fr_rf _ _)
  by_cases h1 : ¬(0 ≤ x ∧ x ≤ σ 139 1 - 1)
  · apply bad (-1000000001)
    · unfold J10
      rw [c11, Option.bind_some, hc.1.1, i_b2, if_neg h1]
    · unfold J131
      rw [m132, Option.bind_some, i_b2, if_neg h1]
  replace h1 := Classical.not_not.mp h1
  obtain ⟨b, hb, rfl⟩ := n_rng (n := nb (σ 139)) (by omega) h1.1 (by rw [← hS.1.1.1]; exact h1.2)
  obtain ⟨⟨k1, k2⟩, -, ⟨p1, p2⟩, ⟨y1, y2, y3⟩⟩ := hS.1.2.1 b hb
  by_cases h2 : ¬(0 ≤ y ∧ y ≤ 8)
  · apply bad (-1000000001)
    · unfold J10
      rw [c11, Option.bind_some, hc.1.1, i_b2, if_pos h1]
      dsimp only
      rw [if_pos (ib_n (by omega) (by omega))]
      simp only [hy_sw]
      rw [if_neg (fun e => h2 (by rw [e]; decide)), if_neg (fun e => h2 (by rw [e]; decide)), if_neg (fun e => h2 (by rw [e]; decide)), if_neg (fun e => h2 (by rw [e]; decide)), if_neg (fun e => h2 (by rw [e]; decide)), if_neg (fun e => h2 (by rw [e]; decide)), if_neg (fun e => h2 (by rw [e]; decide)), if_neg (fun e => h2 (by rw [e]; decide)), if_neg (fun e => h2 (by rw [e]; decide))]
    · unfold J131
      rw [m132, Option.bind_some, i_b2, if_pos h1, m125, Option.bind_some, i_b2, if_neg h2]
  replace h2 := Classical.not_not.mp h2
  obtain ⟨w, hw, rfl⟩ := n_rngI (n := 8) (by omega) h2.1 h2.2
  have eC : J10 (In b) (In w) σ = hy_sw (In w) [(0, some (σ (88 + b) 0, σ)), (1, some (σ (88 + b) 1, σ)), (2, some (σ (88 + b) 2, σ)), (3, some (σ (88 + b) 3, σ)), (4, some (σ (88 + b) 4, σ)), (5, some (σ (88 + b) 5, σ)), (6, (J12 81 (σ (88 + b) 0) (σ (88 + b) 3) (σ (88 + b) 2) (σ (88 + b) 4) σ).bind fun p2 => some (p2.1, p2.2)), (7, (J17 (88 + b) σ).bind fun p3 => some (p3.1, p3.2)), (8, (J18 (88 + b) σ).bind fun p4 => some (p4.1, p4.2))] (some (-1000000001, σ)) := by
    unfold J10
    rw [c11, Option.bind_some, hc.1.1, i_b2, if_pos h1]
    dsimp only
    rw [if_pos (ib_n (by omega) (by omega)), n_ix (by omega)]
  have eR : ∀ τ : Sg, τ 139 = σ 139 → J131 (In b) (In w) τ = if 6 ≤ w then (if w = 6 then ((J133 (In b) τ).bind fun p5 => some (p5.1, p5.2)) else (if w = 7 then ((J138 (In b) τ).bind fun p4 => some (p4.1, p4.2)) else ((J139 (In b) τ).bind fun p3 => some (p3.1, p3.2)))) else some (σ 139 (7 + 6 * b + w), τ) := by
    intro τ hτ
    unfold J131
    rw [m132, Option.bind_some, i_b2, hτ, if_pos h1, m125, Option.bind_some, i_b2, if_pos h2]
    dsimp only
    rw [show (6 : Int32) = In 6 from rfl, show (7 : Int32) = In 7 from rfl, i_le (by omega) (by omega), i_eq (by omega) (by omega), i_eq (by omega) (by omega)]
    by_cases h6 : 6 ≤ w
    · rw [if_pos h6, if_pos h6]
    · rw [if_neg h6, if_neg h6, m128 (by omega), Option.bind_some, hτ]
  match w, hw with
  | 0, _ =>
    apply bad (σ 139 (7 + 6 * b + 0))
    · rw [eC, ← rc81 hc hb (by omega)]
      rfl
    · rw [eR σ rfl]
      rfl
  | 1, _ =>
    apply bad (σ 139 (7 + 6 * b + 1))
    · rw [eC, ← rc81 hc hb (by omega)]
      rfl
    · rw [eR σ rfl]
      rfl
  | 2, _ =>
    apply bad (σ 139 (7 + 6 * b + 2))
    · rw [eC, ← rc81 hc hb (by omega)]
      rfl
    · rw [eR σ rfl]
      rfl
  | 3, _ =>
    apply bad (σ 139 (7 + 6 * b + 3))
    · rw [eC, ← rc81 hc hb (by omega)]
      rfl
    · rw [eR σ rfl]
      rfl
  | 4, _ =>
    apply bad (σ 139 (7 + 6 * b + 4))
    · rw [eC, ← rc81 hc hb (by omega)]
      rfl
    · rw [eR σ rfl]
      rfl
  | 5, _ =>
    apply bad (σ 139 (7 + 6 * b + 5))
    · rw [eC, ← rc81 hc hb (by omega)]
      rfl
    · rw [eR σ rfl]
      rfl
  | 6, _ =>
    obtain ⟨σ1, q1, q2⟩ := c12 (o := 81) (k := bf (σ 139) b 0) (h := bf (σ 139) b 3) (p := bf (σ 139) b 2) (σ 139 (7 + 6 * b + 4)) hS (hc.2.2.2 0 (by omega)) hl k2 y3
    have h139 : σ1 139 = σ 139 := q2 139 (by unfold plP; omega)
    obtain ⟨σ2, r1, r2⟩ := m133 (σ := σ1) (b := b) (by rw [h139]; exact hS) (by rw [h139]; exact hb)
    refine Op_ga h (r := In (vl (σ 139) b)) (σ1 := σ1) (σ2 := σ2) ?_ ?_ (fp_wk q2 fun a ha => by unfold gaP; exact Or.inr (Or.inr (Or.inr ha))) (fr_wk r2 fun a ha => by simp at ha; simp [gaL]; omega)
    · rw [eC]
      show (J12 81 (σ (88 + b) 0) (σ (88 + b) 3) (σ (88 + b) 2) (σ (88 + b) 4) σ).bind _ = _
      rw [rc81 hc hb (w := 0) (by omega), rc81 hc hb (w := 3) (by omega), rc81 hc hb (w := 2) (by omega), rc81 hc hb (w := 4) (by omega), k1, p1, y1, q1]
      rfl
    · rw [eR σ1 h139, if_pos (by omega), if_pos rfl, r1, h139]
      rfl
  | 7, _ =>
    apply bad (In (etK (bf (σ 139) b 0)))
    · rw [eC]
      show (J17 (88 + b) σ).bind _ = _
      rw [show J17 (88 + b) σ = _ from c17 hS.1 hc hb]
      rfl
    · rw [eR σ rfl, if_pos (by omega), if_neg (by omega), if_pos rfl, m138 hS.1 hb]
      rfl
  | 8, _ =>
    apply bad (wrK (bf (σ 139) b 0) (σ 139 (7 + 6 * b + 3)))
    · rw [eC]
      show (J18 (88 + b) σ).bind _ = _
      rw [c18 (by rw [rc81 hc hb (by omega), k1]) k2, rc81 hc hb (by omega)]
      rfl
    · rw [eR σ rfl, if_pos (by omega), if_neg (by omega), if_neg (by omega), m139 hS.1 hb]
      rfl
  | n + 9, h => omega
theorem n_bv (b w : Nat) : ((7 : Int32) + ((6 : Int32) * In b)) + In w = In (7 + 6 * b + w) := n_bw b w
theorem iv_bo {jc jr : Sg → Option (Int32 × Sg)} {σ σ1 : Sg} {r : Int32} {T : Rw} (h : Iv σ) (e1 : jc σ = some (r, σ1)) (f1 : fp boQ σ σ1) (e2 : jr σ1 = some (r, wr σ1 T)) (hT : OkR T) (hq : eqT (σ 139) T) (hdy : DayOk T) (hc : Rc σ1 81 T) : ∃ r σ1 σ2, jc σ = some (r, σ1) ∧ jr σ1 = some (r, σ2) ∧ Iv σ2 ∧ σ1 2000 = σ 2000 ∧ σ2 2000 = σ 2000 :=
  Op_bo h e1 e2 f1 (fr_wr _ _ (by simp [boL])) (wr_at _ _) ⟨hT, eqT_Ok hq h.1.1.2⟩ hq hdy hc
theorem op_set (x y z : Int32) : Op (J26 x y z) (J150 x y z) := by
  intro σ h
  obtain ⟨hS, hdy, hc, hl, hi⟩ := h.1
  have h12 := hS.1.1.2
  have bad : ∀ r, J26 x y z σ = some (r, σ) → J150 x y z σ = some (r, σ) → ∃ r σ1 σ2, J26 x y z σ = some (r, σ1) ∧ J150 x y z σ1 = some (r, σ2) ∧ Iv σ2 ∧ σ1 2000 = σ 2000 ∧ σ2 2000 = σ 2000 := fun r e1 e2 => Op_ga h e1 e2 (fp_rf _ _) (fr_rf _ _)
  by_cases h1 : ¬(0 ≤ x ∧ x ≤ σ 139 1 - 1)
  · apply bad (-1000000001)
    · unfold J26
      rw [c11, Option.bind_some, hc.1.1, i_b2, if_neg h1]
    · unfold J150
      rw [m132, Option.bind_some, i_b2, if_neg h1]
  replace h1 := Classical.not_not.mp h1
  obtain ⟨b, hb, rfl⟩ := n_rng (n := nb (σ 139)) (by omega) h1.1 (by rw [← hS.1.1.1]; exact h1.2)
  obtain ⟨⟨k1, k2⟩, ⟨f1, f2⟩, ⟨p1, p2⟩, ⟨y1, y2, y3⟩⟩ := hS.1.2.1 b hb
  by_cases h2 : ¬(1 ≤ y ∧ y ≤ 3)
  · apply bad (-1000000001)
    · unfold J26
      rw [c11, Option.bind_some, hc.1.1, i_b2, if_pos h1]
      dsimp only
      simp only [hy_sw]
      rw [if_neg (fun e => h2 (by rw [e]; decide)), if_neg (fun e => h2 (by rw [e]; decide)), if_neg (fun e => h2 (by rw [e]; decide))]
    · unfold J150
      rw [m132, Option.bind_some, i_b2, if_pos h1, m125, Option.bind_some, i_b2, if_neg h2]
  replace h2 := Classical.not_not.mp h2
  obtain ⟨w, hw1, hw, rfl⟩ := bd_l (n := 3) (by omega) h2.1 h2.2
  have eC : J26 (In b) (In w) z σ = hy_sw (In w) [(1, (J27 (88 + b) z σ).bind fun p2 => some (p2.1, p2.2)), (2, (J28 (In b) z σ).bind fun p3 => some (p3.1, p3.2)), (3, (J29 (88 + b) z σ).bind fun p4 => some (p4.1, p4.2))] (some (-1000000001, σ)) := by
    unfold J26
    rw [c11, Option.bind_some, hc.1.1, i_b2, if_pos h1]
    dsimp only
    rw [if_pos (ib_n (by omega) (by omega)), if_pos (ib_n (by omega) (by omega)), n_ix (by omega)]
  have eR : ∀ τ : Sg, τ 139 = σ 139 → J150 (In b) (In w) z τ = J150_2 (if w = 3 then 1 else 0) z (In b) (In w) z τ := by
    intro τ hτ
    unfold J150
    rw [m132, Option.bind_some, i_b2, hτ, if_pos h1, m125, Option.bind_some, i_b2, if_pos h2]
    dsimp only
    rw [show (3 : Int32) = In 3 from rfl, i_eq (by omega) (by omega)]
    split <;> rfl
  have e8 : ∀ (w : Nat), w < 6 → ∀ (v : Int32) (τ : Sg), τ 139 = σ 139 → J150_8 (In b) (In w) v τ = some (σ 139 (7 + 6 * b + w), wr τ (upd (σ 139) (7 + 6 * b + w) v)) := by
    intro w hw v τ hτ
    unfold J150_8
    rw [n_bw, m149 (by omega), Option.bind_some, hτ]
  match w, hw1, hw with
  | 0, h, _ => omega
  | 1, _, _ =>
    by_cases h3 : ¬(0 ≤ z ∧ z ≤ 1)
    · apply bad (-1000000001)
      · rw [eC]
        show (J27 (88 + b) z σ).bind _ = _
        unfold J27
        rw [c4, Option.bind_some, i_b2, if_neg h3]
        rfl
      · rw [eR σ rfl]
        show J150_5 1 0 z (In b) (In 1) z σ = _
        unfold J150_5
        rw [m125, Option.bind_some, i_b2, if_neg h3]
    replace h3 := Classical.not_not.mp h3
    obtain ⟨f, hf, rfl⟩ := n_rngI (n := 1) (by omega) h3.1 h3.2
    refine iv_bo h (r := σ 139 (7 + 6 * b + 1)) (σ1 := hy_up σ (81 + 7 + b) 1 (In f)) ?_ (fp_bo (by omega)) ?_ (ok_upd hS.1 hb (Or.inr (Or.inl ⟨rfl, hf⟩))) (eqT_upd _ _ (by omega) (by omega)) (DayOk_upd hdy (by omega)) (Rc_fld hS.1 hc hb (by omega) (by omega) _)
    · rw [eC]
      show (J27 (88 + b) (In f) σ).bind _ = _
      unfold J27
      rw [c4, Option.bind_some, i_b2, if_pos h3]
      show some (σ (88 + b) 1, hy_up σ (88 + b) 1 (In f)) = _
      rw [rc81 hc hb (by omega)]
    · have h139 : hy_up σ (81 + 7 + b) 1 (In f) 139 = σ 139 := up_ne _ _ _ (by omega)
      rw [eR _ h139]
      show J150_5 1 0 (In f) (In b) (In 1) (In f) _ = _
      unfold J150_5
      rw [m125, Option.bind_some, i_b2, if_pos h3]
      dsimp only
      rw [if_neg (show ¬ In 1 = 2 by decide)]
      exact e8 1 (by omega) _ _ h139
  | 2, _, _ =>
    by_cases h3 : ¬(0 ≤ z ∧ z ≤ 36)
    · apply bad (-1000000001)
      · rw [eC]
        show (J28 (In b) z σ).bind _ = _
        have h4 : ¬ (0 ≤ z ∧ z ≤ 35) := fun q => h3 ⟨q.1, by
          have := q.2
          rw [Int32.le_iff_toInt_le] at this ⊢
          have e1 : (35 : Int32).toInt = 35 := rfl
          have e2 : (36 : Int32).toInt = 36 := rfl
          omega⟩
        unfold J28
        rw [c5, Option.bind_some, i_b2, if_neg h4, if_neg (fun e => h3 (by rw [e]; decide))]
        rfl
      · rw [eR σ rfl]
        show J150_5 36 0 z (In b) (In 2) z σ = _
        unfold J150_5
        rw [m125, Option.bind_some, i_b2, if_neg h3]
    replace h3 := Classical.not_not.mp h3
    obtain ⟨p, hp, rfl⟩ := n_rngI (n := 36) (by omega) h3.1 h3.2
    have eC2 : J26 (In b) (In 2) (In p) σ = if p < 36 then (if hd (σ 139) p = none then J28_2 (In b) (In p) σ else if hd (σ 139) p = some b then J28_2 (In b) (In p) σ else some (-1000000002, σ)) else J28_2 (In b) (In p) σ := by
      rw [eC]
      show (J28 (In b) (In p) σ).bind (fun p3 => some (p3.1, p3.2)) = _
      have e0 : ∀ q : Option (Int32 × Sg), q.bind (fun p3 => some (p3.1, p3.2)) = q := fun q => by cases q <;> rfl
      rw [e0]
      have e1 : J28_1 (In b) (In p) σ = if p < 36 then (if hd (σ 139) p = none then J28_2 (In b) (In p) σ else if hd (σ 139) p = some b then J28_2 (In b) (In p) σ else some (-1000000002, σ)) else J28_2 (In b) (In p) σ := by
        unfold J28_1
        rw [c5n (by omega), Option.bind_some, i_b2]
        dsimp only
        by_cases h4 : p < 36
        · rw [if_pos h4, if_pos h4, if_pos (ib_n (by omega) (by omega)), if_pos (ib_n (by omega) (by omega)), n_ix (by omega)]
          simp only [show σ 83 p = oI (-1000000005) (hd (σ 139) p) from hc.2.2.1 p (by omega), oN_e (hd_bd hS.1)]
          cases e : hd (σ 139) p with
          | none => rw [if_pos rfl, if_pos rfl]
          | some t =>
            have ht := (hd_some e).1
            rw [if_neg (fun q => by cases q)]
            show (if In t = In b then _ else _) = _
            rw [i_eq (by omega) (by omega)]
            by_cases htb : t = b
            · rw [if_pos htb, if_neg (fun q => by cases q), if_pos (by rw [htb])]
            · rw [if_neg htb, if_neg (fun q => by cases q), if_neg (fun q => htb (by cases q; rfl))]
        · rw [if_neg h4, if_neg h4]
      unfold J28
      rw [c5n (by omega), Option.bind_some, i_b2]
      dsimp only
      rw [e1, show (36 : Int32) = In 36 from rfl, i_eq (by omega) (by omega)]
      by_cases h4 : p < 36
      · rw [if_pos h4]
      · rw [if_neg h4, if_pos (show p = 36 by omega)]
    have eR2 : ∀ τ : Sg, τ 139 = σ 139 → J150 (In b) (In 2) (In p) τ = if p < 36 then (if hd (σ 139) p = none then J150_8 (In b) (In 2) (In p) τ else if hd (σ 139) p = some b then J150_8 (In b) (In 2) (In p) τ else some (-1000000002, τ)) else J150_8 (In b) (In 2) (In p) τ := by
      intro τ hτ
      rw [eR τ hτ]
      show J150_5 36 0 (In p) (In b) (In 2) (In p) τ = _
      unfold J150_5
      rw [m125, Option.bind_some, i_b2, if_pos h3]
      dsimp only
      rw [if_pos (show In 2 = 2 from rfl), show (36 : Int32) = In 36 from rfl, i_le (by omega) (by omega)]
      by_cases h4 : p < 36
      · rw [if_neg (by omega), if_pos h4, m127 (by rw [hτ]; exact hS.1) (by omega), Option.bind_some, hτ]
        simp only [oI_lt (hd_bd hS.1)]
        rw [m127 (by rw [hτ]; exact hS.1) (by omega), Option.bind_some, hτ]
        dsimp only
        cases e : hd (σ 139) p with
        | none => rw [if_pos rfl, if_pos rfl]
        | some t =>
          have ht := (hd_some e).1
          rw [if_neg (fun q => by cases q)]
          show (if In t = In b then _ else _) = _
          rw [i_eq (by omega) (by omega)]
          by_cases htb : t = b
          · rw [if_pos htb, if_neg (fun q => by cases q), if_pos (by rw [htb])]
          · rw [if_neg htb, if_neg (fun q => by cases q), if_neg (fun q => htb (by cases q; rfl))]
      · rw [if_pos (by omega), if_neg h4]
    have good : (p = 36 ∨ ∀ c, c < nb (σ 139) → c ≠ b → bf (σ 139) c 2 ≠ p) → J26 (In b) (In 2) (In p) σ = J28_2 (In b) (In p) σ → (∀ τ : Sg, τ 139 = σ 139 → J150 (In b) (In 2) (In p) τ = J150_8 (In b) (In 2) (In p) τ) → ∃ r σ1 σ2, J26 (In b) (In 2) (In p) σ = some (r, σ1) ∧ J150 (In b) (In 2) (In p) σ1 = some (r, σ2) ∧ Iv σ2 ∧ σ1 2000 = σ 2000 ∧ σ2 2000 = σ 2000 := by
      intro hfree e1 e2
      obtain ⟨σ1, q1, q2, q3⟩ := c8 (o := 81) (v := p) hS.1 hc hb hp hfree
      have h139 : σ1 139 = σ 139 := q3 139 (by unfold boP; omega)
      refine iv_bo h (r := σ 139 (7 + 6 * b + 2)) (σ1 := σ1) ?_ (fp_wk q3 fun a ha => by unfold boP at ha; unfold boQ dyP; omega) ?_ (ok_place hS.1 hb hp hfree) (eqT_upd _ _ (by omega) (by omega)) (DayOk_upd hdy (by omega)) q2
      · rw [e1]
        unfold J28_2
        rw [if_pos (ib_n (by omega) (by omega)), q1, Option.bind_some, n_ix (by omega), rc81 hc hb (by omega)]
      · rw [e2 _ h139]
        exact e8 2 (by omega) _ _ h139
    by_cases h4 : ¬(p < 36)
    · exact good (Or.inl (by omega)) (by rw [eC2, if_neg h4]) (fun τ hτ => by rw [eR2 τ hτ, if_neg h4])
    replace h4 := Classical.not_not.mp h4
    cases e : hd (σ 139) p with
    | none =>
      exact good (Or.inr fun c hc' _ => hd_none e c hc') (by rw [eC2, if_pos h4, e, if_pos rfl]) (fun τ hτ => by rw [eR2 τ hτ, if_pos h4, e, if_pos rfl])
    | some t =>
      by_cases htb : t = b
      · subst htb
        exact good (Or.inr fun c hc' hct q => by
          have := hd_is hS.1 h4 hc' q
          rw [e] at this
          cases this
          exact hct rfl) (by rw [eC2, if_pos h4, e, if_neg (fun q => by cases q), if_pos rfl]) (fun τ hτ => by rw [eR2 τ hτ, if_pos h4, e, if_neg (fun q => by cases q), if_pos rfl])
      · exact bad (-1000000002) (by rw [eC2, if_pos h4, e, if_neg (fun q => by cases q), if_neg (fun q => htb (by cases q; rfl))]) (by rw [eR2 σ rfl, if_pos h4, e, if_neg (fun q => by cases q), if_neg (fun q => htb (by cases q; rfl))])
  | 3, _, _ =>
    by_cases h3 : ¬(1 ≤ z ∧ z ≤ 99)
    · apply bad (-1000000001)
      · rw [eC]
        show (J29 (88 + b) z σ).bind _ = _
        unfold J29
        rw [c6, Option.bind_some, i_b2, if_neg h3]
        rfl
      · rw [eR σ rfl]
        show J150_5 99 1 z (In b) (In 3) z σ = _
        unfold J150_5
        rw [m125, Option.bind_some, i_b2, if_neg h3]
    replace h3 := Classical.not_not.mp h3
    obtain ⟨f, hf1, hf, rfl⟩ := bd_l (n := 99) (by omega) h3.1 h3.2
    refine iv_bo h (r := σ 139 (7 + 6 * b + 3)) (σ1 := hy_up σ (81 + 7 + b) 3 (In f)) ?_ (fp_bo (by omega)) ?_ (ok_upd hS.1 hb (Or.inr (Or.inr ⟨rfl, hf1, hf⟩))) (eqT_upd _ _ (by omega) (by omega)) (DayOk_upd hdy (by omega)) (Rc_fld hS.1 hc hb (by omega) (by omega) _)
    · rw [eC]
      show (J29 (88 + b) (In f) σ).bind _ = _
      unfold J29
      rw [c6, Option.bind_some, i_b2, if_pos h3]
      show some (σ (88 + b) 3, hy_up σ (88 + b) 3 (In f)) = _
      rw [rc81 hc hb (by omega)]
    · have h139 : hy_up σ (81 + 7 + b) 3 (In f) 139 = σ 139 := up_ne _ _ _ (by omega)
      rw [eR _ h139]
      show J150_5 99 1 (In f) (In b) (In 3) (In f) _ = _
      unfold J150_5
      rw [m125, Option.bind_some, i_b2, if_pos h3]
      dsimp only
      rw [if_neg (show ¬ In 3 = 2 by decide)]
      exact e8 3 (by omega) _ _ h139
  | n + 4, _, h => omega
