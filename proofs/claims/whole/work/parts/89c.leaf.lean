/-! PURE: parts of a text, on both sides -/
def aP (T : Nat → Nat) (n key p : Nat) : Option Int32 := if pB T n p = true then none else if dB T n p = true then (if wE T n p - p ≤ 4 then some (In (nV T p 0 (wE T n p - p))) else none) else if lB T n p = true then (if wE T n p - p = 1 then (nmO key (T p)).map fun j => In (10000 + j) else none) else none
theorem dB_nv {T : Nat → Nat} {n p : Nat} (hp : p ≤ n) (hd : dB T n p = true) : p < wE T n p ∧ wE T n p ≤ n ∧ (∀ k, p ≤ k → k < wE T n p → 48 ≤ T k ∧ T k ≤ 57) := by
  obtain ⟨w1, w2, w3, w4, w5⟩ := wE_bd (T := T) hp
  have hw : wB T n p = true := by
    unfold wB
    rw [hd, Bool.or_true]
  have hl : ¬ lB T n p = true := fun z => by
    rw [l_d z] at hd
    exact Bool.noConfusion hd
  refine ⟨w3 hw, w2, fun k h1 h2 => ?_⟩
  have e : wE T n p = wL (dB T n) p (n - p) := if_neg hl
  have := (wL_bd (f := dB T n) (m := n - p) (p := p)).2.2.1 k h1 (by rw [← e]; exact h2)
  have := of_decide_eq_true this
  exact ⟨this.2.1, this.2.2⟩
theorem c97 {T : Nat → Nat} {n key p a : Nat} {σ : Sg} {D : List Int32} (h : CS T n key σ p D a) (hl : D.length < 96) {v : Int32} {w : Int32} (hv : w = cvt v) : ∃ σ', ((J93 4 w σ).bind fun σ1 => some (hy_up σ1 4 4 ((σ1 4 4) + (1 : Int32)))) = some σ' ∧ CS T n key σ' p (v :: D) (a + 1) ∧ fp clP σ σ' := by
  subst hv
  obtain ⟨σ1, e1, k1, f1⟩ := c93s h hl v
  obtain ⟨σ2, e2, k2, f2⟩ := c97s k1
  rw [e1, Option.bind_some, e2]
  exact ⟨σ2, rfl, k2, fp_tr f1 f2⟩
theorem nv_small {T : Nat → Nat} {n p : Nat} (hp : p ≤ n) (hd : dB T n p = true) (h4 : wE T n p - p ≤ 4) : nV T p 0 (wE T n p - p) < 10000 := by
  obtain ⟨d1, d2, d3⟩ := dB_nv hp hd
  have h1 := nV_lt (T := T) (m := wE T n p - p) (i := p) (v := 0) fun k q1 q2 => (d3 k q1 (by omega)).2
  have h2 : 10 ^ (wE T n p - p) ≤ 10 ^ 4 := Nat.pow_le_pow_right (by omega) h4
  omega
theorem c96 {T : Nat → Nat} {n key p a : Nat} {σ : Sg} {D : List Int32} (h : CS T n key σ p D a) (hp : p ≤ n) (hl : D.length < 96) (hd : dB T n p = true) : if wE T n p - p ≤ 4 then ∃ σ', J96 σ = some (1, σ') ∧ CS T n key σ' (sK T n (wE T n p)) (In (nV T p 0 (wE T n p - p)) :: D) (a + 1) ∧ fp clP σ σ' else J96 σ = some (0, σ) := by
  have hn := h.1.1
  obtain ⟨d1, d2, d3⟩ := dB_nv hp hd
  unfold J96
  rw [c86 h.1 hp h.2.2.1, Option.bind_some]
  dsimp only
  have e4 : (In (wE T n p) - σ 2 3 ≤ 4) = (wE T n p - p ≤ 4) := by
    rw [h.2.2.1, n_sub (by omega), show (4 : Int32) = In 4 from rfl, n_le (by omega) (by omega)]
  rw [ite_c e4]
  by_cases h4 : wE T n p - p ≤ 4
  · have e96 := c96_loop h d2 (wE T n p - p) p 0 hy_fu (by omega) (fun k q1 q2 => (d3 k q1 q2).1) (by unfold hy_fu; omega)
    obtain ⟨σ1, e1, k1, f1⟩ := c97 h hl (v := In (nV T p 0 (wE T n p - p))) (cvt_n (nv_small hp hd h4)).symm
    obtain ⟨σ2, e2, k2, f2⟩ := c82s k1 d2
    rw [if_pos h4, if_pos h4, h.2.2.1, show (0 : Int32) = In 0 from rfl, e96]
    unfold J97
    rw [e1, Option.bind_some, e2]
    exact ⟨σ2, rfl, k2, fp_tr f1 f2⟩
  · rw [if_neg h4, if_neg h4]
theorem c98_3 {T : Nat → Nat} {n key p a e : Nat} {σ : Sg} {D : List Int32} (h : CS T n key σ p D a) (hk : key < 3) (hp : p < n) (hl : D.length < 96) (h1 : p ≤ e) (h2 : e ≤ n) : match (if e - p = 1 then (nmO key (T p)).map fun j => In (10000 + j) else none) with
    | some v => ∃ σ', J98_3 (1003 + key) (In e) σ = some (1, σ') ∧ CS T n key σ' (sK T n e) (v :: D) (a + 1) ∧ fp clP σ σ'
    | none => J98_3 (1003 + key) (In e) σ = some (0, σ) := by
  have hn := h.1.1
  have hb := (h.1.2.2 p (by omega)).2
  have e1 : J98_3 (1003 + key) (In e) σ = if e - p = 1 then (if 0 ≤ oI (-1) (nmO key (T p)) then ((J99 4 (oI (-1) (nmO key (T p))) σ).bind fun σ3 => (J82 (In e) σ3).bind fun σ4 => some ((1 : Int32), σ4)) else (some ((0 : Int32), σ))) else some (0, σ) := by
    unfold J98_3
    rw [h.2.2.1, c83 h.1 (by omega), Option.bind_some]
    dsimp only
    rw [show bY T n p = In (T p) from if_pos hp, (ch_f hb).1, c225 h.2.1 hk hb, Option.bind_some]
    dsimp only
    rw [ite_c (show (In e - σ 2 3 = 1) = (e - p = 1) by rw [h.2.2.1, n_sub h1, show (1 : Int32) = In 1 from rfl, n_eq (by omega) (by omega)])]
  by_cases h3 : e - p = 1
  · rw [if_pos h3]
    rw [if_pos h3] at e1
    cases hm : nmO key (T p) with
    | none =>
      rw [hm, if_neg (by decide)] at e1
      exact e1
    | some j =>
      have hj := nmO_lt hm
      have hj2 : j ≤ 2 := by
        unfold nmK at hj
        split at hj <;> omega
      rw [hm, show oI (-1) (some j) = In j from rfl, if_pos (show (0 : Int32) ≤ In j by show In 0 ≤ In j; rw [n_le (by omega) (by omega)]; omega)] at e1
      obtain ⟨σ1, q1, k1, f1⟩ := c97 h hl (v := In (10000 + j)) (w := (-1 : Int32) - In j) (cvt_f hj2).symm
      obtain ⟨σ2, q2, k2, f2⟩ := c82s k1 h2
      unfold J99 at e1
      rw [q1, Option.bind_some, q2] at e1
      exact ⟨σ2, e1, k2, fp_tr f1 f2⟩
  · rw [if_neg h3]
    rw [if_neg h3] at e1
    exact e1
theorem c98 {T : Nat → Nat} {n key p a : Nat} {σ : Sg} {D : List Int32} (h : CS T n key σ p D a) (hk : key < 3) (hp : p < n) (hl : D.length < 96) : match (if wE T n p - p = 1 then (nmO key (T p)).map fun j => In (10000 + j) else none) with
    | some v => ∃ σ', J98 σ = some (1, σ') ∧ CS T n key σ' (sK T n (wE T n p)) (v :: D) (a + 1) ∧ fp clP σ σ'
    | none => J98 σ = some (0, σ) := by
  obtain ⟨w1, w2, w3, w4, w5⟩ := wE_bd (T := T) (n := n) (p := p) (by omega)
  have e : J98 σ = J98_3 (1003 + key) (In (wE T n p)) σ := by
    unfold J98
    rw [c86 h.1 (by omega) h.2.2.1, Option.bind_some]
    dsimp only
    simp only [h.2.2.2.2.1]
    match key, hk with
    | 0, _ => rfl
    | 1, _ => rfl
    | 2, _ => rfl
    | k + 3, z => omega
  rw [e]
  exact c98_3 h hk hp hl w1 w2
theorem c83m {T : Nat → Nat} {n p : Nat} {σ : Sg} (h : Tp T n σ) (hp : p < 2147483648) : ∃ x, J83 (In p - 1) σ = some (x, σ) ∧ J95 x σ = some (bb (pB T n p), σ) := by
  by_cases h1 : 1 ≤ p
  · refine ⟨bY T n (p - 1), ?_, ?_⟩
    · rw [n_s1 h1]
      exact c83 h (by omega)
    · unfold J95 pB wB
      rw [c87 h, Option.bind_some]
      dsimp only
      rw [decide_eq_true h1, Bool.true_and]
      cases hl : lB T n (p - 1)
      · rw [if_pos (by decide), c88 h, Option.bind_some]
        dsimp only
        cases hd : dB T n (p - 1)
        · rfl
        · rfl
      · rfl
  · have : p = 0 := by omega
    subst this
    refine ⟨-1000000005, ?_, ?_⟩
    · unfold J83
      rw [if_pos (by decide)]
    · unfold pB
      rw [decide_eq_false (by omega), Bool.false_and]
      rfl
theorem c90 {T : Nat → Nat} {n key p a : Nat} {rc : Nat → Int32 → Int32 → Int32 → Sg → Option (Int32 × Sg)} {x y : Int32} {σ : Sg} {D : List Int32} (h : CS T n key σ p D a) (hk : key < 3) (hp : p ≤ n) (hl : p < n → D.length < 96) (h33 : p < n → T p ≠ 33 ∧ T p ≠ 40) : match aP T n key p with
    | some v => ∃ σ', J90 rc x y σ = some (1, σ') ∧ CS T n key σ' (sK T n (wE T n p)) (v :: D) (a + 1) ∧ fp clP σ σ'
    | none => J90 rc x y σ = some (0, σ) := by
  have hn := h.1.1
  obtain ⟨z, z1, z2⟩ := c83m (p := p) h.1 (by omega)
  have hbn : bY T n p ≠ 33 ∧ bY T n p ≠ 40 := by
    unfold bY
    by_cases hq : p < n
    · have := (h.1.2.2 p (by omega)).2
      rw [if_pos hq, show (33 : Int32) = In 33 from rfl, show (40 : Int32) = In 40 from rfl]
      refine ⟨fun w => ?_, fun w => ?_⟩
      · rw [n_eq (by omega) (by omega)] at w
        exact (h33 hq).1 w
      · rw [n_eq (by omega) (by omega)] at w
        exact (h33 hq).2 w
    · rw [if_neg hq]
      decide
  have e : J90 rc x y σ = if pB T n p = true then some (0, σ) else if dB T n p = true then ((J96 σ).bind fun p8 => if p8.1 = 0 ∨ p8.1 = 1 then some (p8.1, p8.2) else none) else if lB T n p = true then ((J98 σ).bind fun p6 => if p6.1 = 0 then (some ((0 : Int32), p6.2)) else (some ((1 : Int32), p6.2))) else some (0, σ) := by
    unfold J90
    rw [h.2.2.1, c83 h.1 (by omega), Option.bind_some]
    dsimp only
    rw [if_neg hbn.1, if_neg hbn.2, h.2.2.1, z1, Option.bind_some]
    dsimp only
    rw [z2, Option.bind_some]
    dsimp only
    cases hB : pB T n p
    · rw [if_pos (by decide), if_neg (by decide), c88 h.1, Option.bind_some]
      dsimp only
      cases hD : dB T n p
      · rw [if_pos (by decide), if_neg (by decide), c87 h.1, Option.bind_some]
        dsimp only
        cases hL : lB T n p
        · rfl
        · rfl
      · rfl
    · rfl
  rw [e]
  unfold aP
  by_cases hB : pB T n p = true
  · rw [if_pos hB, if_pos hB]
  · rw [if_neg hB, if_neg hB]
    by_cases hD : dB T n p = true
    · rw [if_pos hD, if_pos hD]
      have := c96 h hp (hl (of_decide_eq_true hD).1) hD
      by_cases h4 : wE T n p - p ≤ 4
      · rw [if_pos h4] at this
        rw [if_pos h4]
        obtain ⟨σ', q1, q2, q3⟩ := this
        refine ⟨σ', ?_, q2, q3⟩
        rw [q1]
        rfl
      · rw [if_neg h4] at this
        rw [if_neg h4, this]
        rfl
    · rw [if_neg hD, if_neg hD]
      by_cases hL : lB T n p = true
      · rw [if_pos hL, if_pos hL]
        have hpn : p < n := (of_decide_eq_true hL).1
        have := c98 h hk hpn (hl hpn)
        revert this
        cases (if wE T n p - p = 1 then (nmO key (T p)).map fun j => In (10000 + j) else none) with
        | none =>
          intro this
          have this : J98 σ = some (0, σ) := this
          show ((J98 σ).bind _) = _
          rw [this]
          rfl
        | some v =>
          intro this
          obtain ⟨σ', q1, q2, q3⟩ := this
          refine ⟨σ', ?_, q2, q3⟩
          rw [q1]
          rfl
      · rw [if_neg hL, if_neg hL]
/-- the reference inside a text -/
def RS (T : Nat → Nat) (n key : Nat) (τ : Sg) (p : Nat) (C W : List Int32) (a : Nat) : Prop := Tr T n τ ∧ TK T n τ p ∧ τ 138 15 = In key ∧ CW τ C W ∧ τ 138 20 = In a
def rsL : List Nat := [148, 149, 10010, 10011, 10012, 10013, 10014, 10019, 10020, 10022]
theorem m189s {T : Nat → Nat} {n key q a : Nat} {C W : List Int32} {τ : Sg} (h : Tr T n τ) (hg : GO T n τ q) (hk : τ 138 15 = In key) (hc : CW τ C W) (ha : τ 138 20 = In a) : ∃ τ', J189 τ = some τ' ∧ RS T n key τ' (sK T n q) C W a ∧ fr rsL τ τ' := by
  obtain ⟨τ', e, t, f⟩ := m189 h hg
  refine ⟨τ', e, ⟨Tr_fr h f (by decide) (by decide), t, ?_, ?_, ?_⟩, fr_wk f (by decide)⟩
  · rw [fr_slot (k := 15) f (by decide)]
    exact hk
  · unfold CW
    rw [fr_slot (k := 19) f (by decide), fr_slot (k := 22) f (by decide), fr_row (a := 148) f (by decide) (by decide), fr_row (a := 149) f (by decide) (by decide)]
    exact hc
  · rw [fr_slot (k := 20) f (by decide)]
    exact ha
theorem m194_5 {T : Nat → Nat} {n key p a : Nat} {C W : List Int32} {τ : Sg} (h : RS T n key τ p C W a) (hl : C.length + W.length < 96) (hw : wB T n p = true) (v : Int32) : ∃ τ', J194_5 v (τ 138 19) τ = some (1, τ') ∧ RS T n key τ' (sK T n (wE T n p)) (stl 6 (v :: C) W).1 (stl 6 (v :: C) W).2 (a + 1) ∧ fr rsL τ τ' := by
  obtain ⟨h1, h2, h3, ⟨h4, h5, h6, h7⟩, h8⟩ := h
  unfold J194_5
  rw [h4, if_pos (ib_n (by omega) (by omega)), n_ix (by omega)]
  generalize hA : hy_up τ 148 C.length v = A
  have a9 : A 138 = τ 138 := by rw [← hA, up_ne _ _ _ (by omega)]
  rw [a9, h4, n_p1]
  generalize hB : hy_up A 138 19 (In (C.length + 1)) = B
  have b20 : B 138 20 = In a := by rw [← hB, up_same, upd_ne _ _ (by omega), a9, h8]
  rw [b20, n_p1]
  generalize hE : hy_up B 138 20 (In (a + 1)) = E
  have f1 : fr rsL τ E := by
    rw [← hE, ← hB, ← hA]
    exact fr_tr (fr_up _ 148 _ _ (by show 148 ∈ _; decide)) (fr_tr (fr_up _ _ _ _ (by decide)) (fr_up _ _ _ _ (by decide)))
  have cE : CW E (v :: C) W := by
    refine ⟨?_, ?_, ?_, ?_⟩
    · rw [← hE, up_same, upd_ne _ _ (by omega), ← hB, up_same, upd_at]
      rfl
    · rw [← hE, up_ne _ _ _ (by omega), ← hB, up_ne _ _ _ (by omega), ← hA, up_same]
      exact Pl_push v h5 rfl
    · rw [← hE, up_same, upd_ne _ _ (by omega), ← hB, up_same, upd_ne _ _ (by omega), a9]
      exact h6
    · rw [← hE, up_ne _ _ _ (by omega), ← hB, up_ne _ _ _ (by omega), ← hA, up_ne _ _ _ (by omega)]
      exact h7
  obtain ⟨F, eF, cF, fF⟩ := m196 (r := 6) (by omega) cE (by show C.length + 1 + W.length ≤ 96; omega)
  have fEF : fr cwL E F := fF
  rw [show (6 : Int32) = In 6 from rfl, eF, Option.bind_some]
  have fT : fr [148, 10019, 10020, 10022] τ F := by
    refine fr_tr ?_ (fr_wk fF (by decide))
    rw [← hE, ← hB, ← hA]
    exact fr_tr (fr_up _ 148 _ _ (by show 148 ∈ _; decide)) (fr_tr (fr_up _ _ _ _ (by decide)) (fr_up _ _ _ _ (by decide)))
  obtain ⟨G, eG, rG, fG⟩ := m189s (Tr_fr h1 fT (by decide) (by decide)) (GO_fr (GO_w h2 hw) fT (by decide) (by decide)) (key := key) (by rw [fr_slot (k := 15) fT (by decide)]; exact h3) cF (a := a + 1) (by rw [fr_slot (k := 20) fF (by decide), ← hE, up_same, upd_at])
  rw [eG]
  exact ⟨G, rfl, rG, fr_tr f1 (fr_tr (fr_wk fF (by decide)) fG)⟩
