/-! PURE: texts told, fee, fine, days, keep, back -/
theorem exL_cg {c fc fc' : Nat → Int32} : ∀ {m k : Nat} {l : List Int32}, dpL c l.length k m ≠ none → (∀ j, k ≤ j → j < k + m → ∀ n, n ≤ 2 → c j = In (10000 + n) → fc n = fc' n) → exL c fc l k m = exL c fc' l k m := by
  intro m
  induction m with
  | zero => intro k l _ _; rfl
  | succ m ih =>
    intro k l hd h
    cases e : dpS (c k) l.length with
    | none =>
      unfold dpL at hd
      rw [e] at hd
      exact absurd rfl hd
    | some d' =>
    have hd2 : dpL c d' (k + 1) m ≠ none := by
      unfold dpL at hd
      rw [e] at hd
      exact hd
    have hx : exS (c k) fc l = exS (c k) fc' l := by
      rcases dpS_c e with ⟨n, q1, q2, q3⟩ | ⟨n, q1, q2, q3⟩ | ⟨q1, q2, q3⟩ | ⟨q1, q2, q3⟩
      · rw [q2]
        unfold exS
        rw [if_pos (show In n < (10000 : Int32) by show In n < In 10000; rw [n_lt (by omega) (by omega)]; omega), if_pos (show In n < (10000 : Int32) by show In n < In 10000; rw [n_lt (by omega) (by omega)]; omega)]
      · have := h k (Nat.le_refl _) (by omega) n q1 q2
        rw [q2]
        unfold exS
        rw [show (10000 : Int32) = In 10000 from rfl, n_sub (by omega), n_ix (by omega), show 10000 + n - 10000 = n by omega, this]
      · rw [q1]
        rfl
      · have hneg : ¬ 0 ≤ c k := by
          rcases q1 with q | q | q | q | q | q | q | q | q <;> rw [q] <;> decide
        unfold exS
        rw [if_neg hneg, if_neg hneg]
    show exL c fc (exS (c k) fc l) (k + 1) m = exL c fc' (exS (c k) fc' l) (k + 1) m
    rw [← hx]
    exact ih (by rw [exS_len e]; exact hd2) fun j h1 h2 => h j (by omega) (by omega)
theorem txV_cg {S : Rw} {t : Nat} {fc fc' : Nat → Int32} (hS : OkT S) (ht : t < nt S) (h : ∀ n, n < nmK (tkey S t) → fc n = fc' n) : txV S t fc = txV S t fc' := by
  obtain ⟨q1, q2⟩ := hS.2 t ht
  unfold txV
  rw [exL_cg (fc' := fc') (by
    show dpL (tcode S t) 0 0 (tlen S t) ≠ none
    rw [q1]
    exact fun z => by cases z) fun j _ hj n hn e => h n (q2 j (by omega) n hn e)]
theorem m135' {σ : Sg} {t : Nat} {fc : Nat → Int32} (hS : Ok (σ 139)) (ht : t < nt (σ 139)) (h : ∀ n, n < nmK (tkey (σ 139) t) → σ 152 n = fc n) : ∃ σ', J135 (In t) σ = some (txV (σ 139) t fc, σ') ∧ fr [151] σ σ' := by
  obtain ⟨σ', q1, q2⟩ := m135 (fc := σ 152) hS ht fun i _ => rfl
  rw [txV_cg hS.2 ht h] at q1
  exact ⟨σ', q1, q2⟩
theorem rk81 {σ : Sg} {S : Rw} (hc : Rc σ 81 S) {k : Nat} (hk : k < 3) : σ 84 k = oI (-1000000005) (ct S k) := hc.2.2.2 k hk
theorem op_fee : Op (J74) (J184) := by
  intro σ h
  obtain ⟨hS, hdy, hc, hl, hi⟩ := h.1
  have h12 := hS.1.1.2
  have bad : ∀ r, J74 σ = some (r, σ) → J184 σ = some (r, σ) → ∃ r σ1 σ2, J74 σ = some (r, σ1) ∧ J184 σ1 = some (r, σ2) ∧ Iv σ2 ∧ σ1 2000 = σ 2000 ∧ σ2 2000 = σ 2000 := fun r e1 e2 => Op_ga h e1 e2 (fp_rf _ _) (fr_rf _ _)
  have eR0 : ∀ τ : Sg, τ 139 = σ 139 → J134 1 τ = some (oI (-1) (ct (σ 139) 1), τ) := fun τ hτ => by
    rw [show J134 1 τ = _ from m134 (key := 1) (by rw [hτ]; exact hS.1) (by rw [hτ]; exact hS.2.1) (by omega), hτ]
  cases e : ct (σ 139) 1 with
  | none =>
    refine Op_ga h (r := σ 139 2) (σ1 := σ) (σ2 := hy_up (hy_up σ 152 0 (σ 139 2)) 152 1 (σ 139 3)) ?_ ?_ (fp_rf _ _) (fr_tr (fr_up _ _ _ _ (by simp [fk, gaL])) (fr_up _ _ _ _ (by simp [fk, gaL])))
    · unfold J74
      rw [rk81 hc (by omega), e, c13, Option.bind_some, i_b2, if_neg oN_no]
      show some (σ 81 11, σ) = _
      rw [hc.1.2.2.2.2.1]
    · unfold J184
      rw [eR0 σ rfl, Option.bind_some, e]
      dsimp only
      rw [if_neg (show ¬ (0 : Int32) ≤ oI (-1) none by decide)]
      simp (disch := omega) only [up_ne]
  | some t =>
    obtain ⟨ht, hk⟩ := ct_lt e
    have h14 := nt_le hS.1
    obtain ⟨σ1, q1, q2⟩ := c14 (t := t) (fc := fc3 (σ 139 2) (σ 139 3) 0) (x1 := σ 139 2) (x2 := σ 139 3) (x3 := 0) hS hl ht rfl rfl rfl
    have h139 : σ1 139 = σ 139 := q2 139 (by unfold plP; omega)
    generalize hT : hy_up (hy_up σ1 152 0 (σ 139 2)) 152 1 (σ 139 3) = τ
    have hτ : τ 139 = σ 139 := by
      subst hT
      simp (disch := omega) only [up_ne]
      exact h139
    have hf : fr [152] σ1 τ := by
      subst hT
      exact fr_tr (fr_up _ _ _ _ (by simp [fk])) (fr_up _ _ _ _ (by simp [fk]))
    obtain ⟨σ2, r1, r2⟩ := m135' (σ := τ) (t := t) (fc := fc3 (σ 139 2) (σ 139 3) 0) (by rw [hτ]; exact hS) (by rw [hτ]; exact ht) (fun n hn => by
      rw [hτ, hk] at hn
      have : n = 0 ∨ n = 1 := by
        unfold nmK at hn
        rw [if_neg (by omega)] at hn
        omega
      subst hT
      rcases this with z | z <;> subst z <;> rfl)
    refine Op_ga h (r := txV (σ 139) t (fc3 (σ 139 2) (σ 139 3) 0)) (σ1 := σ1) (σ2 := σ2) ?_ ?_ (fp_wk q2 fun a ha => by unfold gaP; exact Or.inr (Or.inr (Or.inr ha))) (fr_tr (fr_wk hf (by simp [gaL])) (fr_wk r2 (by simp [gaL])))
    · unfold J74
      rw [rk81 hc (by omega), e, c13, Option.bind_some, i_b2, if_pos (oN_yes (by omega)), show oI (-1000000005) (some t) = In t from rfl, if_pos (ib_n (by omega) (by omega)), n_ix (by omega)]
      dsimp only
      rw [hc.1.2.2.2.2.1, hc.1.2.1, q1, Option.bind_some]
    · unfold J184
      rw [eR0 σ1 h139, Option.bind_some, e]
      dsimp only
      rw [show oI (-1) (some t) = In t from rfl, if_pos (show (0 : Int32) ≤ In t by show In 0 ≤ In t; rw [n_le (by omega) (by omega)]; omega)]
      rw [show hy_up σ1 152 0 (σ1 139 2) 139 = σ1 139 from up_ne _ _ _ (by omega), h139, hT, r1, Option.bind_some, hτ]
theorem op_fine (x : Int32) : Op (J75 x) (J185 x) := by
  intro σ h
  obtain ⟨hS, hdy, hc, hl, hi⟩ := h.1
  have h12 := hS.1.1.2
  have bad : ∀ r, J75 x σ = some (r, σ) → J185 x σ = some (r, σ) → ∃ r σ1 σ2, J75 x σ = some (r, σ1) ∧ J185 x σ1 = some (r, σ2) ∧ Iv σ2 ∧ σ1 2000 = σ 2000 ∧ σ2 2000 = σ 2000 := fun r e1 e2 => Op_ga h e1 e2 (fp_rf _ _) (fr_rf _ _)
  by_cases h1 : ¬(0 ≤ x ∧ x ≤ σ 139 1 - 1)
  · apply bad (-1000000001)
    · unfold J75
      rw [c11, Option.bind_some, hc.1.1, i_b2, if_neg h1]
    · unfold J185
      rw [m132, Option.bind_some, i_b2, if_neg h1]
  replace h1 := Classical.not_not.mp h1
  obtain ⟨b, hb, rfl⟩ := n_rng (n := nb (σ 139)) (by omega) h1.1 (by rw [← hS.1.1.1]; exact h1.2)
  obtain ⟨⟨k1, k2⟩, ⟨f1, f2⟩, ⟨p1, p2⟩, ⟨y1, y2, y3⟩⟩ := hS.1.2.1 b hb
  have eR0 : ∀ τ : Sg, τ 139 = σ 139 → J134 2 τ = some (oI (-1) (ct (σ 139) 2), τ) := fun τ hτ => by
    rw [show J134 2 τ = _ from m134 (key := 2) (by rw [hτ]; exact hS.1) (by rw [hτ]; exact hS.2.1) (by omega), hτ]
  have z3 : ∀ σ : Sg, J128 (In b) 3 σ = some (σ 139 (7 + 6 * b + 3), σ) := fun σ => m128 (w := 3) (by omega) σ
  have z4 : ∀ σ : Sg, J128 (In b) 4 σ = some (σ 139 (7 + 6 * b + 4), σ) := fun σ => m128 (w := 4) (by omega) σ
  have eR : ∀ τ : Sg, τ 139 = σ 139 → J185 (In b) τ = if 0 ≤ oI (-1) (ct (σ 139) 2) then ((J135 (oI (-1) (ct (σ 139) 2)) (hy_up (hy_up τ 152 0 (σ 139 (7 + 6 * b + 4))) 152 1 (σ 139 (7 + 6 * b + 3)))).bind fun p5 => some (p5.1, p5.2)) else some (σ 139 (7 + 6 * b + 4), hy_up (hy_up τ 152 0 (σ 139 (7 + 6 * b + 4))) 152 1 (σ 139 (7 + 6 * b + 3))) := by
    intro τ hτ
    unfold J185
    rw [m132, Option.bind_some, i_b2, hτ, if_pos h1, eR0 τ hτ, Option.bind_some]
    dsimp only
    rw [z4, Option.bind_some]
    dsimp only
    rw [z3, Option.bind_some]
    dsimp only
    simp (disch := omega) only [up_ne, hτ]
    rw [z4, Option.bind_some]
    dsimp only
    simp (disch := omega) only [up_ne, hτ]
  have eC : J75 (In b) σ = if 0 ≤ oI (-1000000005) (ct (σ 139) 2) ∧ oI (-1000000005) (ct (σ 139) 2) ≤ 13 then (if hy_ib (oI (-1000000005) (ct (σ 139) 2)) 14 then (J14 (11 + 3 * hy_ix (oI (-1000000005) (ct (σ 139) 2))) (σ 139 (7 + 6 * b + 4)) (σ 139 (7 + 6 * b + 3)) 0 σ).bind (fun p3 => some (p3.1, p3.2)) else none) else some (σ 139 (7 + 6 * b + 4), σ) := by
    unfold J75
    rw [c11, Option.bind_some, hc.1.1, i_b2, if_pos h1]
    dsimp only
    rw [if_pos (ib_n (by omega) (by omega)), n_ix (by omega)]
    simp only [rk81 hc (show 2 < 3 by omega), c13, Option.bind_some, i_b2, rc81 hc hb (show 3 < 6 by omega), rc81 hc hb (show 4 < 6 by omega)]
  cases e : ct (σ 139) 2 with
  | none =>
    refine Op_ga h (r := σ 139 (7 + 6 * b + 4)) (σ1 := σ) (σ2 := hy_up (hy_up σ 152 0 (σ 139 (7 + 6 * b + 4))) 152 1 (σ 139 (7 + 6 * b + 3))) ?_ ?_ (fp_rf _ _) (fr_tr (fr_up _ _ _ _ (by simp [fk, gaL])) (fr_up _ _ _ _ (by simp [fk, gaL])))
    · rw [eC, e, if_neg oN_no]
    · rw [eR σ rfl, e, if_neg (show ¬ (0 : Int32) ≤ oI (-1) none by decide)]
  | some t =>
    obtain ⟨ht, hk⟩ := ct_lt e
    have h14 := nt_le hS.1
    obtain ⟨σ1, q1, q2⟩ := c14 (t := t) (fc := fc3 (σ 139 (7 + 6 * b + 4)) (σ 139 (7 + 6 * b + 3)) 0) (x1 := σ 139 (7 + 6 * b + 4)) (x2 := σ 139 (7 + 6 * b + 3)) (x3 := 0) hS hl ht rfl rfl rfl
    have h139 : σ1 139 = σ 139 := q2 139 (by unfold plP; omega)
    have hx := eR σ1 h139
    generalize hT : hy_up (hy_up σ1 152 0 (σ 139 (7 + 6 * b + 4))) 152 1 (σ 139 (7 + 6 * b + 3)) = τ at hx
    have hτ : τ 139 = σ 139 := by
      subst hT
      simp (disch := omega) only [up_ne]
      exact h139
    have hf : fr [152] σ1 τ := by
      subst hT
      exact fr_tr (fr_up _ _ _ _ (by simp [fk])) (fr_up _ _ _ _ (by simp [fk]))
    obtain ⟨σ2, r1, r2⟩ := m135' (σ := τ) (t := t) (fc := fc3 (σ 139 (7 + 6 * b + 4)) (σ 139 (7 + 6 * b + 3)) 0) (by rw [hτ]; exact hS) (by rw [hτ]; exact ht) (fun n hn => by
      rw [hτ, hk] at hn
      have : n = 0 ∨ n = 1 := by
        unfold nmK at hn
        rw [if_neg (by omega)] at hn
        omega
      subst hT
      rcases this with z | z <;> subst z <;> rfl)
    refine Op_ga h (r := txV (σ 139) t (fc3 (σ 139 (7 + 6 * b + 4)) (σ 139 (7 + 6 * b + 3)) 0)) (σ1 := σ1) (σ2 := σ2) ?_ ?_ (fp_wk q2 fun a ha => by unfold gaP; exact Or.inr (Or.inr (Or.inr ha))) (fr_tr (fr_wk hf (by simp [gaL])) (fr_wk r2 (by simp [gaL])))
    · rw [eC, e, if_pos (oN_yes (by omega)), show oI (-1000000005) (some t) = In t from rfl, if_pos (ib_n (by omega) (by omega)), n_ix (by omega), q1, Option.bind_some]
    · rw [hx, e, show oI (-1) (some t) = In t from rfl, if_pos (show (0 : Int32) ≤ In t by show In 0 ≤ In t; rw [n_le (by omega) (by omega)]; omega), r1, Option.bind_some, hτ]
theorem op_textTold (x y : Int32) : Op (J102 x y) (J200 x y) := by
  intro σ h
  obtain ⟨hS, hdy, hc, hl, hi⟩ := h.1
  have h12 := hS.1.1.2
  have bad : ∀ r, J102 x y σ = some (r, σ) → J200 x y σ = some (r, σ) → ∃ r σ1 σ2, J102 x y σ = some (r, σ1) ∧ J200 x y σ1 = some (r, σ2) ∧ Iv σ2 ∧ σ1 2000 = σ 2000 ∧ σ2 2000 = σ 2000 := fun r e1 e2 => Op_ga h e1 e2 (fp_rf _ _) (fr_rf _ _)
  by_cases h1 : ¬(0 ≤ x ∧ x ≤ σ 139 6 - 1)
  · apply bad (-1000000001)
    · unfold J102
      rw [c3, Option.bind_some, hc.1.2.2.2.2.2.2, i_b2, if_neg h1]
    · unfold J200
      rw [m125, Option.bind_some, i_b2, if_neg h1]
  replace h1 := Classical.not_not.mp h1
  by_cases h2 : ¬(0 ≤ y ∧ y ≤ 1)
  · apply bad (-1000000001)
    · unfold J102
      rw [c3, Option.bind_some, hc.1.2.2.2.2.2.2, i_b2, if_pos h1, c3, Option.bind_some, i_b2, if_neg h2]
    · unfold J200
      rw [m125, Option.bind_some, i_b2, if_pos h1, m125, Option.bind_some, i_b2, if_neg h2]
  replace h2 := Classical.not_not.mp h2
  have h6 : σ 139 6 = In (nt (σ 139)) := hS.1.2.2.2.2.2.2.2.1
  have h14 := nt_le hS.1
  obtain ⟨t, ht, rfl⟩ := n_rng (n := nt (σ 139)) (by omega) h1.1 (by rw [← h6]; exact h1.2)
  obtain ⟨q1, q2, q3, q4⟩ := hl t ht
  obtain ⟨e1, e2, e3⟩ := hS.2.1 t ht
  apply bad (if y = 0 then In (tkey (σ 139) t) else σ 139 (80 + 2 * t))
  · unfold J102
    rw [c3, Option.bind_some, hc.1.2.2.2.2.2.2, i_b2, if_pos h1, c3, Option.bind_some, i_b2, if_pos h2]
    dsimp only
    rw [if_pos (ib_n (by omega) (by omega)), if_pos (ib_n (by omega) (by omega)), n_ix (by omega), q2, q3]
    split <;> rfl
  · have i1 : (79 : Int32) + ((2 : Int32) * In t) = In (79 + 2 * t) := by
      rw [show (79 : Int32) = In 79 from rfl, show (2 : Int32) = In 2 from rfl, n_mul, n_add]
    unfold J200
    rw [m125, Option.bind_some, i_b2, if_pos h1, m125, Option.bind_some, i_b2, if_pos h2]
    dsimp only
    rw [i1, n_p1, if_pos (ib_n (by omega) (by omega)), if_pos (ib_n (by omega) (by omega)), n_ix (by omega), n_ix (by omega), e1, show (1000 : Int32) = In 1000 from rfl, n_div (by omega) (by omega), show 79 + 2 * t + 1 = 80 + 2 * t by omega]
    unfold tkey
    split <;> rfl
theorem op_why (x : Int32) : Op (J103 x) (J201 x) := by
  intro σ h
  obtain ⟨hS, hdy, hc, hl, hi⟩ := h.1
  have h12 := hS.1.1.2
  have bad : ∀ r, J103 x σ = some (r, σ) → J201 x σ = some (r, σ) → ∃ r σ1 σ2, J103 x σ = some (r, σ1) ∧ J201 x σ1 = some (r, σ2) ∧ Iv σ2 ∧ σ1 2000 = σ 2000 ∧ σ2 2000 = σ 2000 := fun r e1 e2 => Op_ga h e1 e2 (fp_rf _ _) (fr_rf _ _)
  by_cases h1 : ¬(0 ≤ x ∧ x ≤ 2)
  · apply bad (-1000000001)
    · unfold J103
      rw [c3, Option.bind_some, i_b2, if_neg h1]
    · unfold J201
      rw [m125, Option.bind_some, i_b2, if_neg h1]
  replace h1 := Classical.not_not.mp h1
  obtain ⟨k, hk, rfl⟩ := n_rngI (n := 2) (by omega) h1.1 h1.2
  have h14 := nt_le hS.1
  apply bad (oI (-1000000005) (ct (σ 139) k))
  · unfold J103
    rw [c3, Option.bind_some, i_b2, if_pos h1]
    dsimp only
    rw [if_pos (ib_n (by omega) (by omega)), n_ix (by omega), rk81 hc (by omega)]
  · unfold J201
    rw [m125, Option.bind_some, i_b2, if_pos h1]
    dsimp only
    rw [m134 hS.1 hS.2.1 (by omega), Option.bind_some]
    dsimp only
    cases e : ct (σ 139) k with
    | none => rfl
    | some t =>
      have := (ct_lt e).1
      rw [show oI (-1) (some t) = In t from rfl, if_pos (show (0 : Int32) ≤ In t by show In 0 ≤ In t; rw [n_le (by omega) (by omega)]; omega)]
      rfl
theorem rnL_out {k : Nat} (hk : k < 7) : ∀ {m i : Nat} {S : Rw}, rnL S i m k = S k := by
  intro m
  induction m with
  | zero => intro i S; rfl
  | succ m ih =>
    intro i S
    show rnL (rnB S i) (i + 1) m k = S k
    rw [ih]
    unfold rnB
    split
    · split
      · exact upd_ne _ _ (by omega)
      · exact upd_ne _ _ (by omega)
    · rfl
theorem dyS_2 {S : Rw} (h : Ok S) : dyS S 2 = S 2 + 1 := by
  have h12 := h.1.1.2
  have e1 : bm1 S (hy_ix (S 3)) 2 = S 2 := by
    unfold bm1
    cases e : bestS S (hy_ix (S 3)) with
    | none => rfl
    | some a =>
      obtain ⟨h1, h2, h3⟩ := best_x e
      exact mkS_out (by omega) (hd_lt12 h.1) (by omega)
  have e2 : ∀ U : Rw, trS U 2 = U 2 := fun U => upd_ne _ _ (by omega)
  have e3 : ∀ U : Rw, gzS U 2 = U 2 := by
    intro U
    have d : drS (drS U) 2 = U 2 := by
      unfold drS
      rw [upd_ne _ _ (by omega), upd_ne _ _ (by omega)]
    unfold gzS
    split
    · cases hd (drS (drS U)) (drN (drS U) % 36) with
      | none => exact d
      | some b =>
        show grS (drS (drS U)) b 2 = _
        unfold grS
        split
        · rw [upd_ne _ _ (by omega)]
          exact d
        · rw [upd_ne _ _ (by omega), upd_ne _ _ (by omega)]
          exact d
    · exact upd_ne _ _ (by omega)
  have e4 : ∀ U : Rw, raS U 2 = U 2 := by
    intro U
    unfold raS
    split
    · unfold rnS
      rw [rnL_out (by omega)]
      exact upd_ne _ _ (by omega)
    · exact upd_ne _ _ (by omega)
  unfold dyS dpp
  rw [upd_at, e4, e3, e2, e1]
theorem dyN_2 : ∀ {n : Nat} {S : Rw}, Ok S → dyN n S 2 = S 2 + In n := by
  intro n
  induction n with
  | zero =>
    intro S h
    show S 2 = S 2 + In 0
    rw [show In 0 = (0 : Int32) from rfl, Int32.add_zero]
  | succ n ih =>
    intro S h
    show dyN n (dyS S) 2 = _
    rw [ih (dyS_k h).1, dyS_2 h, Int32.add_assoc, show (1 : Int32) = In 1 from rfl, n_add, Nat.add_comm]
theorem dyN_day {n : Nat} {S : Rw} (h : Ok S) (hd : DayOk S) (hn : hy_ix (S 2) + n ≤ 9999) : DayOk (dyN n S) := by
  unfold DayOk
  rw [dyN_2 h, hd.1, n_add, n_ix (by omega)]
  exact ⟨rfl, hn⟩
theorem mnOn_le {S : Rw} (hS : OkR S) : mnOn S ≤ 12 := by
  have h12 := hS.1.2
  have := smN_le (f := fun b => if bf S b 2 < 36 then 1 else 0) (c := 1) (m := nb S) (i := 0) fun b _ _ => by
    split <;> omega
  unfold mnOn
  omega
theorem op_days (x : Int32) : Op (J55 x) (J167 x) := by
  intro σ h
  obtain ⟨hS, hdy, hc, hl, hi⟩ := h.1
  have h12 := hS.1.1.2
  have bad : ∀ r, J55 x σ = some (r, σ) → J167 x σ = some (r, σ) → ∃ r σ1 σ2, J55 x σ = some (r, σ1) ∧ J167 x σ1 = some (r, σ2) ∧ Iv σ2 ∧ σ1 2000 = σ 2000 ∧ σ2 2000 = σ 2000 := fun r e1 e2 => Op_ga h e1 e2 (fp_rf _ _) (fr_rf _ _)
  by_cases h1 : ¬(1 ≤ x ∧ x ≤ 40)
  · apply bad (-1000000001)
    · unfold J55
      rw [c3, Option.bind_some, i_b2, if_neg h1]
    · unfold J167
      rw [m125, Option.bind_some, i_b2, if_neg h1]
  replace h1 := Classical.not_not.mp h1
  obtain ⟨n, hn1, hn, rfl⟩ := bd_l (n := 40) (by omega) h1.1 h1.2
  obtain ⟨d1, d2⟩ := hdy
  generalize hk : min n (9999 - hy_ix (σ 139 2)) = k
  have hk3 : k ≤ 40 := by omega
  obtain ⟨σ1, q1, q2, q3⟩ := c58 (o := 81) (n := k) hS (by omega) (by omega) hc hl
  have h139 : σ1 139 = σ 139 := q3 139 (by unfold dyP plP; omega)
  obtain ⟨σ2, r1, r2, r3⟩ := m169 (n := k) (by omega) h139 hS
  have hD := dyN_k (n := k) hS
  have e9 : (9999 : Int32) - σ 139 2 = In (9999 - hy_ix (σ 139 2)) := by
    rw [d1, show (9999 : Int32) = In 9999 from rfl, n_sub (by omega), n_ix (by omega)]
  refine Op_bo h (r := In (mnOn (σ 139)) - In (mnOn (dyN k (σ 139)))) (σ1 := σ1) (σ2 := σ2) ?_ ?_ (fp_wk q3 fun a ha => Or.inl ha) (fr_wk r3 fun a ha => by simp [dyL] at ha; simp [boL]; omega) r2 hD.1 hD.2.2 (dyN_day hS ⟨d1, d2⟩ (by omega)) q2
  · unfold J55
    rw [c3, Option.bind_some, i_b2, if_pos h1]
    dsimp only
    rw [c56 hS.1 hc, Option.bind_some]
    dsimp only
    simp only [hc.1.2.2.2.2.1, e9]
    rw [i_lt (by omega) (by omega)]
    have : (if 9999 - hy_ix (σ 139 2) < n then In (9999 - hy_ix (σ 139 2)) else In n) = In k := by
      split
      · rw [← hk, Nat.min_eq_right (by omega)]
      · rw [← hk, Nat.min_eq_left (by omega)]
    rw [this, q1, Option.bind_some, c56 hD.1.1 q2, Option.bind_some]
  · unfold J167
    rw [m125, Option.bind_some, i_b2, if_pos h1]
    dsimp only
    rw [m168 (by rw [h139]; exact hS.1), Option.bind_some, h139]
    dsimp only
    rw [m137, Option.bind_some, h139, e9]
    dsimp only
    have : (if (0 : Int32) ≤ In (9999 - hy_ix (σ 139 2)) then (if In (9999 - hy_ix (σ 139 2)) ≤ In n then In (9999 - hy_ix (σ 139 2)) else In n) else 0) = In k := by
      rw [if_pos (show (0 : Int32) ≤ In (9999 - hy_ix (σ 139 2)) by show In 0 ≤ In (9999 - hy_ix (σ 139 2)); rw [n_le (by omega) (by omega)]; omega), i_le (by omega) (by omega)]
      split
      · rw [← hk, Nat.min_eq_right (by omega)]
      · rw [← hk, Nat.min_eq_left (by omega)]
    rw [this, r1, Option.bind_some, m168 (by rw [r2]; exact hD.1.1), Option.bind_some, r2]
