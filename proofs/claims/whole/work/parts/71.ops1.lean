/-! PURE: small operations -/
theorem rc81 {σ : Sg} {S : Rw} (hc : Rc σ 81 S) {b w : Nat} (hb : b < nb S) (hw : w < 6) : σ (88 + b) w = S (7 + 6 * b + w) := hc.2.1 b hb w hw
theorem rc100 {σ : Sg} {S : Rw} (hc : Rc σ 100 S) {b w : Nat} (hb : b < nb S) (hw : w < 6) : σ (107 + b) w = S (7 + 6 * b + w) := hc.2.1 b hb w hw
def unB (kd k : Nat) : Bool := decide (k = 0) || (decide (k = kd) || ((decide (k = 1) && decide (kd = 3)) || (decide (k = 2) && decide (kd = 4))))
theorem n_el {n : Nat} (h : n < 2147483648) (k : Nat) (hk : k < 2147483648) : (In n = In k) = (n = k) := n_eq h hk
theorem c24 {σ : Sg} {o kd k : Nat} (hk : σ o 0 = In kd) (h1 : kd ≤ 5) (h2 : k ≤ 5) : J24 o (In k) σ = some (bb (unB kd k), σ) := by
  unfold J24 J24_1 unB
  rw [hk]
  simp only [show (In k = 0) = (k = 0) from n_eq (b := 0) (by omega) (by omega), show (In k = In kd) = (k = kd) from n_eq (by omega) (by omega), show (In k = 1) = (k = 1) from n_eq (b := 1) (by omega) (by omega), show (In kd = 3) = (kd = 3) from n_eq (b := 3) (by omega) (by omega), show (In k = 2) = (k = 2) from n_eq (b := 2) (by omega) (by omega), show (In kd = 4) = (kd = 4) from n_eq (b := 4) (by omega) (by omega)]
  by_cases e1 : k = 0
  · simp [e1, bb]
  by_cases e2 : k = kd
  · simp [e2, bb]
  by_cases e3 : k = 1
  · by_cases e4 : kd = 3
    · simp [e3, e4, bb]
    · have e5 : ¬ 1 = kd := fun z => e2 (by omega)
      simp [e3, e4, e5, bb]
  by_cases e4 : k = 2
  · by_cases e5 : kd = 4
    · simp [e4, e5, bb]
    · have e6 : ¬ 2 = kd := fun z => e2 (by omega)
      simp [e4, e5, e6, bb]
  · simp [e1, e2, e3, e4, bb]
theorem m147 {σ : Sg} {kd k : Nat} (h1 : kd ≤ 5) (h2 : k ≤ 5) : J147 (In kd) (In k) σ = some (bb (unB kd k), σ) := by
  unfold J147 J147_1 unB
  simp only [show (In k = 0) = (k = 0) from n_eq (b := 0) (by omega) (by omega), show (In kd = In k) = (kd = k) from n_eq (by omega) (by omega), show (In k = 1) = (k = 1) from n_eq (b := 1) (by omega) (by omega), show (In kd = 3) = (kd = 3) from n_eq (b := 3) (by omega) (by omega), show (In k = 2) = (k = 2) from n_eq (b := 2) (by omega) (by omega), show (In kd = 4) = (kd = 4) from n_eq (b := 4) (by omega) (by omega)]
  by_cases e1 : k = 0
  · simp [e1, bb]
  by_cases e2 : kd = k
  · simp [e2, bb]
  have e2' : ¬ k = kd := fun z => e2 z.symm
  by_cases e3 : k = 1
  · by_cases e4 : kd = 3
    · simp [e3, e4, bb]
    · have e5 : ¬ 1 = kd := fun z => e2 (by omega)
      have e6 : ¬ kd = 1 := fun z => e2 (by omega)
      simp [e3, e4, e5, e6, bb]
  by_cases e4 : k = 2
  · by_cases e5 : kd = 4
    · simp [e4, e5, bb]
    · have e6 : ¬ 2 = kd := fun z => e2 (by omega)
      have e7 : ¬ kd = 2 := fun z => e2 (by omega)
      simp [e4, e5, e6, e7, bb]
  · simp [e1, e2, e2', e3, e4, bb]
theorem wrK_4 (h : Int32) : 99 - h - 7 = 92 - h := by
  rw [Int32.sub_sub, Int32.add_comm, ← Int32.sub_sub]
  rfl
theorem c18 {σ : Sg} {o k : Nat} (hk : σ o 0 = In k) (h5 : k ≤ 5) : J18 o σ = some (wrK k (σ o 3), σ) := by
  unfold J18 wrK
  rw [hk, wrK_4]
  match k, h5 with
  | 0, _ => rfl
  | 1, _ => rfl
  | 2, _ => rfl
  | 3, _ => rfl
  | 4, _ => rfl
  | 5, _ => rfl
  | n + 6, h => omega
theorem m139 {σ : Sg} {b : Nat} (hS : OkR (σ 139)) (hb : b < nb (σ 139)) : J139 (In b) σ = some (wrK (bf (σ 139) b 0) (σ 139 (7 + 6 * b + 3)), σ) := by
  have h12 := hS.1.2
  obtain ⟨⟨k1, k2⟩, -, -, -⟩ := hS.2.1 b hb
  unfold J139 wrK
  rw [show J128 (In b) 3 σ = _ from m128 (w := 3) (by omega) σ, Option.bind_some]
  dsimp only
  rw [show J128 (In b) 0 σ = _ from m128 (w := 0) (by omega) σ, Option.bind_some, k1]
  dsimp only
  generalize bf (σ 139) b 0 = k at k2
  match k, k2 with
  | 0, _ => rfl
  | 1, _ => rfl
  | 2, _ => rfl
  | 3, _ => rfl
  | 4, _ => rfl
  | 5, _ => rfl
  | n + 6, h => omega
theorem op_at (x : Int32) : Op (J19 x) (J140 x) := by
  intro σ h
  obtain ⟨hS, hdy, hc, hl, hi⟩ := h.1
  have h12 := hS.1.1.2
  have bad : ∀ r, J19 x σ = some (r, σ) → J140 x σ = some (r, σ) → ∃ r σ1 σ2, J19 x σ = some (r, σ1) ∧ J140 x σ1 = some (r, σ2) ∧ Iv σ2 ∧ σ1 2000 = σ 2000 ∧ σ2 2000 = σ 2000 := fun r e1 e2 => Op_ga h e1 e2 (fp_rf _ _) (fr_rf _ _)
  by_cases h1 : ¬(0 ≤ x ∧ x ≤ 35)
  · apply bad (-1000000001)
    · unfold J19
      rw [c5, Option.bind_some, i_b2, if_neg h1]
    · unfold J140
      rw [m126, Option.bind_some, i_b2, if_neg h1]
  replace h1 := Classical.not_not.mp h1
  obtain ⟨p, hp, rfl⟩ := n_rngI (n := 35) (by omega) h1.1 h1.2
  apply bad (oI (-1000000005) (hd (σ 139) p))
  · unfold J19
    rw [c5, Option.bind_some, i_b2, if_pos h1]
    dsimp only
    rw [if_pos (ib_n (by omega) (by omega)), n_ix (by omega), show σ 83 p = _ from hc.2.2.1 p (by omega)]
  · rw [m140 hS.1, if_pos h1, n_ix (by omega)]
theorem op_goes (x y : Int32) : Op (J20 x y) (J142 x y) := by
  intro σ h
  obtain ⟨hS, hdy, hc, hl, hi⟩ := h.1
  have h12 := hS.1.1.2
  have bad : ∀ r, J20 x y σ = some (r, σ) → J142 x y σ = some (r, σ) → ∃ r σ1 σ2, J20 x y σ = some (r, σ1) ∧ J142 x y σ1 = some (r, σ2) ∧ Iv σ2 ∧ σ1 2000 = σ 2000 ∧ σ2 2000 = σ 2000 := fun r e1 e2 => Op_ga h e1 e2 (fp_rf _ _) (fr_rf _ _)
  by_cases h1 : ¬(0 ≤ x ∧ x ≤ σ 139 1 - 1)
  · apply bad (-1000000001)
    · unfold J20
      rw [c11, Option.bind_some, hc.1.1, i_b2, if_neg h1]
    · unfold J142
      rw [m132, Option.bind_some, i_b2, if_neg h1]
  replace h1 := Classical.not_not.mp h1
  by_cases h2 : ¬(0 ≤ y ∧ y ≤ 35)
  · apply bad (-1000000001)
    · unfold J20
      rw [c11, Option.bind_some, hc.1.1, i_b2, if_pos h1, c5, Option.bind_some, i_b2, if_neg h2]
    · unfold J142
      rw [m132, Option.bind_some, i_b2, if_pos h1, m126, Option.bind_some, i_b2, if_neg h2]
  replace h2 := Classical.not_not.mp h2
  obtain ⟨b, hb, rfl⟩ := n_rng (n := nb (σ 139)) (by omega) h1.1 (by rw [← hS.1.1.1]; exact h1.2)
  obtain ⟨p, hp, rfl⟩ := n_rngI (n := 35) (by omega) h2.1 h2.2
  apply bad (bb (mvB (σ 139) b p))
  · unfold J20
    rw [c11, Option.bind_some, hc.1.1, i_b2, if_pos h1, c5, Option.bind_some, i_b2, if_pos h2]
    dsimp only
    rw [c21 hS.1 hc hb (by omega), Option.bind_some, i_bb]
    cases mvB (σ 139) b p <;> rfl
  · unfold J142
    rw [m132, Option.bind_some, i_b2, if_pos h1, m126, Option.bind_some, i_b2, if_pos h2]
    dsimp only
    rw [m143 hS.1 hb (by omega), Option.bind_some, i_bb]
    cases mvB (σ 139) b p <;> rfl
theorem op_as (x y : Int32) : Op (J23 x y) (J146 x y) := by
  intro σ h
  obtain ⟨hS, hdy, hc, hl, hi⟩ := h.1
  have h12 := hS.1.1.2
  have bad : ∀ r, J23 x y σ = some (r, σ) → J146 x y σ = some (r, σ) → ∃ r σ1 σ2, J23 x y σ = some (r, σ1) ∧ J146 x y σ1 = some (r, σ2) ∧ Iv σ2 ∧ σ1 2000 = σ 2000 ∧ σ2 2000 = σ 2000 := fun r e1 e2 => Op_ga h e1 e2 (fp_rf _ _) (fr_rf _ _)
  by_cases h1 : ¬(0 ≤ x ∧ x ≤ σ 139 1 - 1)
  · apply bad (-1000000001)
    · unfold J23
      rw [c11, Option.bind_some, hc.1.1, i_b2, if_neg h1]
    · unfold J146
      rw [m132, Option.bind_some, i_b2, if_neg h1]
  replace h1 := Classical.not_not.mp h1
  by_cases h2 : ¬(0 ≤ y ∧ y ≤ 5)
  · apply bad (-1000000001)
    · unfold J23
      rw [c11, Option.bind_some, hc.1.1, i_b2, if_pos h1, c2, Option.bind_some, i_b2, if_neg h2]
    · unfold J146
      rw [m132, Option.bind_some, i_b2, if_pos h1, m125, Option.bind_some, i_b2, if_neg h2]
  replace h2 := Classical.not_not.mp h2
  obtain ⟨b, hb, rfl⟩ := n_rng (n := nb (σ 139)) (by omega) h1.1 (by rw [← hS.1.1.1]; exact h1.2)
  obtain ⟨k, hk, rfl⟩ := n_rngI (n := 5) (by omega) h2.1 h2.2
  obtain ⟨⟨k1, k2⟩, -, -, -⟩ := hS.1.2.1 b hb
  apply bad (if unB (bf (σ 139) b 0) k = true then σ 139 (7 + 6 * b + 3) else -1000000012)
  · unfold J23
    rw [c11, Option.bind_some, hc.1.1, i_b2, if_pos h1, c2, Option.bind_some, i_b2, if_pos h2]
    dsimp only
    rw [if_pos (ib_n (by omega) (by omega)), n_ix (by omega), c24 (by rw [rc81 hc hb (by omega), k1]) k2 hk, Option.bind_some, i_bb]
    dsimp only
    rw [rc81 hc hb (by omega)]
    split <;> rfl
  · unfold J146
    rw [m132, Option.bind_some, i_b2, if_pos h1, m125, Option.bind_some, i_b2, if_pos h2]
    dsimp only
    rw [show J128 (In b) 0 σ = _ from m128 (w := 0) (by omega) σ, Option.bind_some, k1]
    dsimp only
    rw [m147 k2 hk, Option.bind_some, i_bb]
    dsimp only
    rw [show J128 (In b) 3 σ = _ from m128 (w := 3) (by omega) σ, Option.bind_some]
    split <;> rfl
theorem DayOk_upd {S : Rw} {k : Nat} {v : Int32} (h : DayOk S) (hk : 2 ≠ k) : DayOk (upd S k v) := by
  unfold DayOk
  rw [upd_ne _ _ hk]
  exact h
theorem n_b7 (b : Nat) : (7 : Int32) + ((6 : Int32) * In b) = In (7 + 6 * b + 0) := by
  rw [show (7 : Int32) = In 7 from rfl, show (6 : Int32) = In 6 from rfl, n_mul, n_add]
  rfl
theorem fp_bo {σ : Sg} {b k : Nat} {v : Int32} (hb : b < 12) : fp boQ σ (hy_up σ (81 + 7 + b) k v) := fp_up _ _ _ _ (by unfold boQ dyP; omega)
theorem op_turns (x y : Int32) : Op (J25 x y) (J148 x y) := by
  intro σ h
  obtain ⟨hS, hdy, hc, hl, hi⟩ := h.1
  have h12 := hS.1.1.2
  have bad : ∀ r, J25 x y σ = some (r, σ) → J148 x y σ = some (r, σ) → ∃ r σ1 σ2, J25 x y σ = some (r, σ1) ∧ J148 x y σ1 = some (r, σ2) ∧ Iv σ2 ∧ σ1 2000 = σ 2000 ∧ σ2 2000 = σ 2000 := fun r e1 e2 => Op_ga h e1 e2 (fp_rf _ _) (fr_rf _ _)
  by_cases h1 : ¬(0 ≤ x ∧ x ≤ σ 139 1 - 1)
  · apply bad (-1000000001)
    · unfold J25
      rw [c11, Option.bind_some, hc.1.1, i_b2, if_neg h1]
    · unfold J148
      rw [m132, Option.bind_some, i_b2, if_neg h1]
  replace h1 := Classical.not_not.mp h1
  by_cases h2 : ¬(0 ≤ y ∧ y ≤ 5)
  · apply bad (-1000000001)
    · unfold J25
      rw [c11, Option.bind_some, hc.1.1, i_b2, if_pos h1, c2, Option.bind_some, i_b2, if_neg h2]
    · unfold J148
      rw [m132, Option.bind_some, i_b2, if_pos h1, m125, Option.bind_some, i_b2, if_neg h2]
  replace h2 := Classical.not_not.mp h2
  obtain ⟨b, hb, rfl⟩ := n_rng (n := nb (σ 139)) (by omega) h1.1 (by rw [← hS.1.1.1]; exact h1.2)
  obtain ⟨k, hk, rfl⟩ := n_rngI (n := 5) (by omega) h2.1 h2.2
  refine Op_bo h (r := σ 139 (7 + 6 * b + 0)) (σ1 := hy_up σ (81 + 7 + b) 0 (In k)) (T := upd (σ 139) (7 + 6 * b + 0) (In k)) (σ2 := wr (hy_up σ (81 + 7 + b) 0 (In k)) (upd (σ 139) (7 + 6 * b + 0) (In k))) ?_ ?_ (fp_bo (by omega)) (fr_wr _ _ (by simp [boL])) (wr_at _ _) ⟨ok_upd hS.1 hb (Or.inl ⟨rfl, hk⟩), eqT_Ok (eqT_upd _ _ (by omega) (by omega)) hS.2⟩ (eqT_upd _ _ (by omega) (by omega)) (DayOk_upd hdy (by omega)) (Rc_fld hS.1 hc hb (by omega) (by omega) _)
  · unfold J25
    rw [c11, Option.bind_some, hc.1.1, i_b2, if_pos h1, c2, Option.bind_some, i_b2, if_pos h2]
    dsimp only
    rw [if_pos (ib_n (by omega) (by omega)), n_ix (by omega), if_pos (ib_n (by omega) (by omega)), rc81 hc hb (by omega)]
  · have h139 : hy_up σ (81 + 7 + b) 0 (In k) 139 = σ 139 := up_ne _ _ _ (by omega)
    unfold J148
    rw [m132, Option.bind_some, i_b2, h139, if_pos h1, m125, Option.bind_some, i_b2, if_pos h2]
    dsimp only
    rw [n_b7, m149 (by omega), Option.bind_some, h139]
theorem op_seed (x : Int32) : Op (J34 x) (J154 x) := by
  intro σ h
  obtain ⟨hS, hdy, hc, hl, hi⟩ := h.1
  have h12 := hS.1.1.2
  have bad : ∀ r, J34 x σ = some (r, σ) → J154 x σ = some (r, σ) → ∃ r σ1 σ2, J34 x σ = some (r, σ1) ∧ J154 x σ1 = some (r, σ2) ∧ Iv σ2 ∧ σ1 2000 = σ 2000 ∧ σ2 2000 = σ 2000 := fun r e1 e2 => Op_ga h e1 e2 (fp_rf _ _) (fr_rf _ _)
  refine Op_bo h (r := σ 139 0) (σ1 := hy_up σ 81 12 x) (T := upd (σ 139) 0 x) (σ2 := wr (hy_up σ 81 12 x) (upd (σ 139) 0 x)) ?_ ?_ (fp_up _ _ _ _ (by unfold boQ dyP; omega)) (fr_wr _ _ (by simp [boL])) (wr_at _ _) ⟨ok_free hS.1 (Or.inl rfl), eqT_Ok (eqT_upd _ _ (by omega) (by omega)) hS.2⟩ (eqT_upd _ _ (by omega) (by omega)) (DayOk_upd hdy (by omega)) (Rc_rul hS.1 hc _ (by omega))
  · unfold J34
    rw [hc.1.2.2.2.2.2.1]
  · have h139 : hy_up σ 81 12 x 139 = σ 139 := up_ne _ _ _ (by omega)
    unfold J154
    rw [show J149 0 x _ = _ from m149 (k := 0) (by omega) _ _, Option.bind_some, h139]
theorem op_moves (x : Int32) : Op (J39 x) (J157 x) := by
  intro σ h
  obtain ⟨hS, hdy, hc, hl, hi⟩ := h.1
  have h12 := hS.1.1.2
  have bad : ∀ r, J39 x σ = some (r, σ) → J157 x σ = some (r, σ) → ∃ r σ1 σ2, J39 x σ = some (r, σ1) ∧ J157 x σ1 = some (r, σ2) ∧ Iv σ2 ∧ σ1 2000 = σ 2000 ∧ σ2 2000 = σ 2000 := fun r e1 e2 => Op_ga h e1 e2 (fp_rf _ _) (fr_rf _ _)
  by_cases h1 : ¬(0 ≤ x ∧ x ≤ 1)
  · apply bad (-1000000001)
    · unfold J39
      rw [c4, Option.bind_some, i_b2, if_neg h1]
    · unfold J157
      rw [m125, Option.bind_some, i_b2, if_neg h1]
  replace h1 := Classical.not_not.mp h1
  obtain ⟨f, hf, rfl⟩ := n_rngI (n := 1) (by omega) h1.1 h1.2
  refine Op_ga h (r := In (mvs (σ 139) f).length) (σ1 := flS σ 81 0 (mvs (σ 139) f)) (σ2 := flS σ 81 0 (mvs (σ 139) f)) ?_ ?_ (fun a ha => flS_ne _ _ _ _ _ (by unfold gaP at ha; omega)) (fr_rf _ _)
  · unfold J39
    rw [c4, Option.bind_some, i_b2, if_pos h1]
    dsimp only
    rw [c40 hS.1 hc hf, Option.bind_some]
  · have h139 : flS σ 81 0 (mvs (σ 139) f) 139 = σ 139 := flS_ne _ _ _ _ _ (by omega)
    unfold J157
    rw [m125, Option.bind_some, i_b2, if_pos h1]
    dsimp only
    rw [show J157_2 hy_fu (In f) 0 0 _ = _ from m157_loop (a := 0) (by rw [h139]; exact hS.1) hf (36 * nb (σ 139)) 0 hy_fu (by rw [h139]; omega) (by unfold hy_fu; omega), h139, Nat.zero_add]
    rfl
theorem op_lead (x : Int32) : Op (J54 x) (J166 x) := by
  intro σ h
  obtain ⟨hS, hdy, hc, hl, hi⟩ := h.1
  have h12 := hS.1.1.2
  have bad : ∀ r, J54 x σ = some (r, σ) → J166 x σ = some (r, σ) → ∃ r σ1 σ2, J54 x σ = some (r, σ1) ∧ J166 x σ1 = some (r, σ2) ∧ Iv σ2 ∧ σ1 2000 = σ 2000 ∧ σ2 2000 = σ 2000 := fun r e1 e2 => Op_ga h e1 e2 (fp_rf _ _) (fr_rf _ _)
  by_cases h1 : ¬(0 ≤ x ∧ x ≤ 1)
  · apply bad (-1000000001)
    · unfold J54
      rw [c4, Option.bind_some, i_b2, if_neg h1]
    · unfold J166
      rw [m125, Option.bind_some, i_b2, if_neg h1]
  replace h1 := Classical.not_not.mp h1
  obtain ⟨f, hf, rfl⟩ := n_rngI (n := 1) (by omega) h1.1 h1.2
  obtain ⟨σ1, q1, q2, q3⟩ := c45 (o := 81) (by omega) hS hc hl hf
  have h139 : σ1 139 = σ 139 := q2 139 (by unfold vaP plP; omega)
  obtain ⟨σ2, r1, r2⟩ := m161 h139 hS hf
  refine Op_ga h (r := Zn (ldS (σ 139) f)) (σ1 := σ1) (σ2 := σ2) ?_ ?_ (fp_wk q2 fun a ha => by unfold vaP plP at ha; unfold gaP plP; omega) (fr_wk r2 fun a ha => by simp at ha; simp [gaL]; omega)
  · unfold J54
    rw [c4, Option.bind_some, i_b2, if_pos h1]
    dsimp only
    rw [q1, Option.bind_some]
  · unfold J166
    rw [m125, Option.bind_some, i_b2, if_pos h1]
    dsimp only
    rw [r1, Option.bind_some]
