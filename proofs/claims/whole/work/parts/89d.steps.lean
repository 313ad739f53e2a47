/-! PURE: the steps of the reference's reading -/
theorem TK_w {T : Nat → Nat} {n p : Nat} {τ : Sg} (h : TK T n τ p) (hw : wB T n p = true) : τ 138 12 = 1 ∨ τ 138 12 = 2 ∨ τ 138 12 = 4 := by
  by_cases hl : lB T n p = true
  · rw [(h.2.2.2.1 hl).1]
    by_cases z : pB T n p = true
    · rw [if_pos z]; exact Or.inr (Or.inr rfl)
    · rw [if_neg z]; exact Or.inl rfl
  · have hd : dB T n p = true := by
      unfold wB at hw
      rw [Bool.eq_false_iff.mpr hl, Bool.false_or] at hw
      exact hw
    rw [(h.2.2.2.2.1 hd).1]
    by_cases z : pB T n p = true ∨ 4 < wE T n p - p
    · rw [if_pos z]; exact Or.inr (Or.inr rfl)
    · rw [if_neg z]; exact Or.inr (Or.inl rfl)
theorem TK_w3 {T : Nat → Nat} {n p : Nat} {τ : Sg} (h : TK T n τ p) (hw : wB T n p = true) : τ 138 12 ≠ 3 ∧ τ 138 12 ≠ 0 := by
  rcases TK_w h hw with z | z | z <;> rw [z] <;> decide
theorem TK_s {T : Nat → Nat} {n p : Nat} {τ : Sg} (h : TK T n τ p) (hp : p < n) (hw : wB T n p = false) : τ 138 12 = 3 ∧ τ 138 13 = In (T p) := ⟨(h.2.2.2.2.2 hp hw).1, (h.2.2.2.2.2 hp hw).2.1⟩
theorem m194_no {τ : Sg} (h1 : τ 138 12 ≠ 1) (h2 : τ 138 12 ≠ 2) : J194 τ = some (0, τ) := by
  unfold J194 J194_1 J194_2
  rw [if_neg h1, if_neg h2, if_pos rfl]
theorem m194a {T : Nat → Nat} {n key p : Nat} {τ : Sg} (hT : Tr T n τ) (h : TK T n τ p) (hk : key < 3) (h15 : τ 138 15 = In key) : match aP T n key p with
    | some v => wB T n p = true ∧ J194 τ = J194_5 v (τ 138 19) τ
    | none => J194 τ = some (0, τ) := by
  have hn := hT.1
  have hpn := h.2.1
  obtain ⟨w1, w2, w3, w4, w5⟩ := wE_bd (T := T) hpn
  unfold aP
  by_cases hB : pB T n p = true
  · rw [if_pos hB]
    by_cases hl : lB T n p = true
    · have := (h.2.2.2.1 hl).1
      rw [if_pos hB] at this
      exact m194_no (by rw [this]; decide) (by rw [this]; decide)
    · by_cases hd : dB T n p = true
      · have := (h.2.2.2.2.1 hd).1
        rw [if_pos (Or.inl hB)] at this
        exact m194_no (by rw [this]; decide) (by rw [this]; decide)
      · have hw : wB T n p = false := by
          unfold wB
          rw [Bool.eq_false_iff.mpr hl, Bool.eq_false_iff.mpr hd]
          rfl
        by_cases hq : p < n
        · have := (TK_s h hq hw).1
          exact m194_no (by rw [this]; decide) (by rw [this]; decide)
        · have := h.2.2.1 (by omega)
          exact m194_no (by rw [this]; decide) (by rw [this]; decide)
  · rw [if_neg hB]
    by_cases hd : dB T n p = true
    · rw [if_pos hd]
      obtain ⟨t1, t2, t3, t4⟩ := h.2.2.2.2.1 hd
      by_cases h4 : wE T n p - p ≤ 4
      · rw [if_pos h4]
        rw [if_neg (show ¬ (pB T n p = true ∨ 4 < wE T n p - p) by intro z; rcases z with z | z; exact hB z; omega)] at t1
        refine ⟨by unfold wB; rw [hd, Bool.or_true], ?_⟩
        unfold J194 J194_1 J194_2 J194_3
        rw [if_neg (by rw [t1]; decide), if_pos t1, if_pos t1, t2 h4]
      · rw [if_neg h4]
        rw [if_pos (Or.inr (by omega))] at t1
        exact m194_no (by rw [t1]; decide) (by rw [t1]; decide)
    · rw [if_neg hd]
      by_cases hl : lB T n p = true
      · rw [if_pos hl]
        obtain ⟨t1, t2, t3, t4⟩ := h.2.2.2.1 hl
        rw [if_neg hB] at t1
        have hq : p < n := (of_decide_eq_true hl).1
        have hb := (hT.2.2 p (by omega)).2
        have n2 : τ 138 12 ≠ 2 := by rw [t1]; decide
        have e5 : J195 (τ 138 13) τ = some (oI (-1) (nmO key (T p)), τ) := by
          rw [t2]
          exact m195 hk hb h15
        have e : J194 τ = if wE T n p - p = 1 then (if oI (-1) (nmO key (T p)) < 0 then some (0, τ) else J194_5 (10000 + oI (-1) (nmO key (T p))) (τ 138 19) τ) else some (0, τ) := by
          unfold J194 J194_1 J194_2 J194_3
          rw [if_pos t1, ite_c (show (τ 138 10 - τ 138 11 = 1) = (wE T n p - p = 1) by rw [t3, h.1, n_sub w1, show (1 : Int32) = In 1 from rfl, n_eq (by omega) (by omega)]), e5, Option.bind_some]
          dsimp only
          simp only [if_neg n2, if_pos (rfl : (0 : Int32) = 0), if_neg (show ¬ (1 : Int32) = 0 by decide), e5, Option.bind_some, if_true]
        rw [e]
        by_cases h3 : wE T n p - p = 1
        · rw [if_pos h3, if_pos h3]
          cases hm : nmO key (T p) with
          | none =>
            show (if (-1 : Int32) < 0 then _ else _) = _
            rw [if_pos (by decide)]
          | some j =>
            have hj := nmO_lt hm
            have hj2 : j ≤ 2 := by
              unfold nmK at hj
              split at hj <;> omega
            refine ⟨by unfold wB; rw [hl, Bool.true_or], ?_⟩
            show (if In j < 0 then _ else J194_5 (In 10000 + In j) _ _) = _
            rw [if_neg (show ¬ In j < (0 : Int32) by show ¬ In j < In 0; rw [n_lt (by omega) (by omega)]; omega), n_add]
        · rw [if_neg h3, if_neg h3]
      · rw [if_neg hl]
        have hw : wB T n p = false := by
          unfold wB
          rw [Bool.eq_false_iff.mpr hl, Bool.eq_false_iff.mpr hd]
          rfl
        by_cases hq : p < n
        · have := (TK_s h hq hw).1
          exact m194_no (by rw [this]; decide) (by rw [this]; decide)
        · have := h.2.2.1 (by omega)
          exact m194_no (by rw [this]; decide) (by rw [this]; decide)
theorem j_1 (f : Nat) (x1 x2 : Int32) (τ : Sg) : J193_1 (f + 1) x1 x2 1 τ = J193_2 (J193_1 f) x1 x2 1 τ := by
  conv => lhs; unfold J193_1
  rw [if_neg (by decide)]
theorem j_0 (f : Nat) (x1 x2 : Int32) {τ : Sg} (h : τ 138 12 ≠ 0) : J193_1 (f + 1) x1 x2 0 τ = J193_2 (J193_1 f) x1 x2 0 τ := by
  conv => lhs; unfold J193_1
  rw [if_pos rfl, if_neg h]
theorem j_4 (k1 : Int32 → Int32 → Int32 → Sg → Option (Int32 × Sg)) {x1 x2 : Int32} {τ : Sg} (h33 : τ 138 12 = 3 → τ 138 13 = 33 → 8 ≤ x2) (h40 : τ 138 12 = 3 → τ 138 13 = 40 → 8 ≤ x1) : J193_2 k1 x1 x2 1 τ = J193_4 k1 x1 1 τ := by
  have e3 : J193_3 k1 x1 1 τ = J193_4 k1 x1 1 τ := by
    unfold J193_3
    by_cases a : τ 138 12 = 3
    · rw [if_pos a]
      by_cases b : τ 138 13 = 40
      · rw [if_pos b, if_pos (h40 a b)]
      · rw [if_neg b]
    · rw [if_neg a]
  unfold J193_2
  rw [if_neg (by decide), e3]
  by_cases a : τ 138 12 = 3
  · rw [if_pos a]
    by_cases b : τ 138 13 = 33
    · rw [if_pos b, if_pos (h33 a b)]
    · rw [if_neg b]
  · rw [if_neg a]
theorem j_8 (k1 : Int32 → Int32 → Int32 → Sg → Option (Int32 × Sg)) {x1 x2 : Int32} {τ : Sg} (h : τ 138 12 = 3 → τ 138 13 = 41 → x1 ≤ 0) : J193_2 k1 x1 x2 0 τ = J193_8 k1 x1 x2 τ := by
  unfold J193_2
  rw [if_pos rfl]
  by_cases a : τ 138 12 = 3
  · rw [if_pos a]
    by_cases b : τ 138 13 = 41
    · rw [if_pos b, if_pos (h a b)]
    · rw [if_neg b]
  · rw [if_neg a]
def loL : List Nat := 150 :: rsL
theorem push {C W : List Int32} {τ : Sg} (h : CW τ C W) (hl : W.length < 96) (s : Int32) : ∃ B, hy_up (hy_up τ 149 (hy_ix (τ 138 22)) s) 138 22 (((hy_up τ 149 (hy_ix (τ 138 22)) s) 138 22) + 1) = B ∧ CW B C (s :: W) ∧ fr [149, 10022] τ B ∧ hy_ib (τ 138 22) 96 := by
  obtain ⟨h4, h5, h6, h7⟩ := h
  rw [h6, n_ix (by omega), up_ne _ _ _ (by omega), h6, n_p1]
  refine ⟨_, rfl, ⟨?_, ?_, ?_, ?_⟩, fr_tr (fr_up _ 149 _ _ (by show 149 ∈ _; decide)) (fr_up _ _ _ _ (by decide)), ib_n (by omega) (by omega)⟩
  · rw [up_same, upd_ne _ _ (by omega), up_ne _ _ _ (by omega)]
    exact h4
  · rw [up_ne _ _ _ (by omega), up_ne _ _ _ (by omega)]
    exact h5
  · rw [up_same, upd_at]
    rfl
  · rw [up_ne _ _ _ (by omega), up_same]
    exact Pl_push s h7 rfl
/-- a number or a name -/
theorem sP {T : Nat → Nat} {n key p a o : Nat} {C W : List Int32} {τ : Sg} (h : RS T n key τ p C W a) (hk : key < 3) (hl : C.length + W.length < 96) {v : Int32} (hv : aP T n key p = some v) (x2 : Int32) : ∃ τ', (∀ f : Nat, J193_1 (f + 1) (In o) x2 1 τ = J193_1 f (In o) (In (cnN (stl 6 (v :: C) W).2)) 0 τ') ∧ RS T n key τ' (sK T n (wE T n p)) (stl 6 (v :: C) W).1 (stl 6 (v :: C) W).2 (a + 1) ∧ fr rsL τ τ' := by
  have h0 := m194a h.1 h.2.1 hk h.2.2.1
  rw [hv] at h0
  obtain ⟨hw, e⟩ := h0
  obtain ⟨τ', e5, r, fr'⟩ := m194_5 h hl hw v
  have n3 := (TK_w3 h.2.1 hw).1
  refine ⟨τ', fun f => ?_, r, fr'⟩
  rw [j_1, j_4 _ (fun z => absurd z n3) (fun z => absurd z n3)]
  unfold J193_4 J193_6
  rw [e, e5, Option.bind_some]
  dsimp only
  rw [if_neg (by decide), m198 r.2.2.2.1 (by have := stl_le 6 W (v :: C); omega)]
  rfl
theorem sPn {T : Nat → Nat} {n key p a o c : Nat} {C W : List Int32} {τ : Sg} (h : RS T n key τ p C W a) (hk : key < 3) (ho : o ≤ 96) (hc : c ≤ 96) (hv : aP T n key p = none) (h33 : p < n → T p = 33 → 8 ≤ c) (h40 : p < n → T p = 40 → 8 ≤ o) (f : Nat) : J193_1 (f + 1) (In o) (In c) 1 τ = some (0, τ) := by
  have h0 := m194a h.1 h.2.1 hk h.2.2.1
  rw [hv] at h0
  have hn := h.1.1
  have key3 : τ 138 12 = 3 → p < n ∧ τ 138 13 = In (T p) := by
    intro z
    by_cases hw : wB T n p = true
    · exact absurd z (TK_w3 h.2.1 hw).1
    · by_cases hq : p < n
      · exact ⟨hq, (TK_s h.2.1 hq (Bool.eq_false_iff.mpr hw)).2⟩
      · have := h.2.1.2.2.1 (by have := h.2.1.2.1; omega)
        rw [this] at z
        exact absurd z (by decide)
  rw [j_1, j_4]
  · unfold J193_4
    rw [h0]
    rfl
  · intro z y
    obtain ⟨q1, q2⟩ := key3 z
    have hb := (h.1.2.2 p (by omega)).2
    rw [q2, show (33 : Int32) = In 33 from rfl, n_eq (by omega) (by omega)] at y
    show In 8 ≤ In c
    rw [n_le (by omega) (by omega)]
    exact h33 q1 y
  · intro z y
    obtain ⟨q1, q2⟩ := key3 z
    have hb := (h.1.2.2 p (by omega)).2
    rw [q2, show (40 : Int32) = In 40 from rfl, n_eq (by omega) (by omega)] at y
    show In 8 ≤ In o
    rw [n_le (by omega) (by omega)]
    exact h40 q1 y
theorem w_no {T : Nat → Nat} {n p b : Nat} (h : T p = b) (h1 : ¬ (97 ≤ b ∧ b ≤ 122)) (h2 : ¬ (48 ≤ b ∧ b ≤ 57)) : wB T n p = false := by
  subst h
  unfold wB lB dB
  rw [decide_eq_false (fun z => h1 z.2), decide_eq_false (fun z => h2 z.2)]
  rfl
/-- a not -/
theorem sN {T : Nat → Nat} {n key p a o c : Nat} {C W : List Int32} {τ : Sg} (h : RS T n key τ p C W a) (hl : C.length + W.length < 96) (hp : p < n) (hT : T p = 33) (hc : c < 8) : ∃ τ', (∀ f : Nat, J193_1 (f + 1) (In o) (In c) 1 τ = J193_1 f (In o) (In (cnN (-10 :: W))) 1 τ') ∧ RS T n key τ' (sK T n (p + 1)) C (-10 :: W) a ∧ fr rsL τ τ' := by
  have hw : wB T n p = false := w_no hT (by omega) (by omega)
  obtain ⟨h1, h2, h3, h4, h5⟩ := h
  obtain ⟨k1, k2⟩ := TK_s h2 hp hw
  obtain ⟨B, eB, cB, fB, iB⟩ := push h4 (by omega) (-10)
  obtain ⟨τ', e9, r9, f9⟩ := m189s (Tr_fr h1 fB (by decide) (by decide)) (GO_fr (GO_s h2 hp hw) fB (by decide) (by decide)) (key := key) (by rw [fr_slot (k := 15) fB (by decide)]; exact h3) cB (a := a) (by rw [fr_slot (k := 20) fB (by decide)]; exact h5)
  refine ⟨τ', fun f => ?_, r9, fr_tr (fr_wk fB (by decide)) f9⟩
  rw [j_1]
  unfold J193_2
  rw [if_neg (by decide), if_pos k1, if_pos (by rw [k2, hT]; rfl), if_neg (show ¬ (8 : Int32) ≤ In c by show ¬ In 8 ≤ In c; rw [n_le (by omega) (by omega)]; omega), if_pos iB, eB, e9, Option.bind_some]
  unfold J193_6
  rw [m198 r9.2.2.2.1 (by show W.length + 1 ≤ 96; omega)]
  rfl
/-- an opening -/
theorem sO {T : Nat → Nat} {n key p a o c : Nat} {C W : List Int32} {τ : Sg} (h : RS T n key τ p C W a) (hl : C.length + W.length < 96) (hp : p < n) (hT : T p = 40) (ho : o < 8) : ∃ τ', (∀ f : Nat, J193_1 (f + 1) (In o) (In c) 1 τ = J193_1 f (In (o + 1)) (In (cnN (-11 :: W))) 1 τ') ∧ RS T n key τ' (sK T n (p + 1)) C (-11 :: W) a ∧ fr loL τ τ' ∧ τ' 150 (o + 1) = 0 ∧ ∀ j, j ≠ o + 1 → τ' 150 j = τ 150 j := by
  have hw : wB T n p = false := w_no hT (by omega) (by omega)
  obtain ⟨h1, h2, h3, h4, h5⟩ := h
  obtain ⟨k1, k2⟩ := TK_s h2 hp hw
  obtain ⟨B, eB, cB, fB, iB⟩ := push h4 (by omega) (-11)
  have fE : fr [149, 10022, 150] τ (hy_up B 150 (o + 1) 0) := fr_tr (fr_wk fB (by decide)) (fr_up _ 150 _ _ (by show 150 ∈ _; decide))
  have cE : CW (hy_up B 150 (o + 1) 0) C (-11 :: W) := by
    unfold CW
    rw [up_ne _ _ _ (by omega), up_ne _ _ _ (by omega), up_ne _ _ _ (by omega)]
    exact cB
  obtain ⟨τ', e9, r9, f9⟩ := m189s (Tr_fr h1 fE (by decide) (by decide)) (GO_fr (GO_s h2 hp hw) fE (by decide) (by decide)) (key := key) (by rw [fr_slot (k := 15) fE (by decide)]; exact h3) cE (a := a) (by rw [fr_slot (k := 20) fE (by decide)]; exact h5)
  have r150 : τ' 150 = upd (τ 150) (o + 1) 0 := by
    rw [fr_row (a := 150) f9 (by decide) (by decide), up_same, fr_row (a := 150) fB (by decide) (by decide)]
  refine ⟨τ', fun f => ?_, r9, fr_tr (fr_wk fE (by decide)) (fr_wk f9 (by decide)), by rw [r150, upd_at], fun j hj => by rw [r150, upd_ne _ _ hj]⟩
  rw [j_1]
  unfold J193_2
  rw [if_neg (by decide), if_pos k1, if_neg (by rw [k2, hT]; decide)]
  unfold J193_3
  rw [if_pos k1, if_pos (by rw [k2, hT]; rfl), if_neg (show ¬ (8 : Int32) ≤ In o by show ¬ In 8 ≤ In o; rw [n_le (by omega) (by omega)]; omega), if_pos iB, n_p1, if_pos (ib_n (by omega) (by omega)), n_ix (by omega), eB, e9, Option.bind_some]
  unfold J193_6
  rw [m198 r9.2.2.2.1 (by show W.length + 1 ≤ 96; omega)]
  rfl
/-- a closing -/
theorem sC {T : Nat → Nat} {n key p a o : Nat} {C W C1 W1 : List Int32} {τ : Sg} (h : RS T n key τ p C W a) (hl : C.length + W.length < 96) (hp : p < n) (hT : T p = 41) (ho : 1 ≤ o) (ho8 : o ≤ 8) (hs : stl 0 C W = (C1, -11 :: W1)) (x2 : Int32) : ∃ τ', (∀ f : Nat, J193_1 (f + 1) (In o) x2 0 τ = J193_1 f (In (o - 1)) (In (cnN (stl 6 C1 W1).2)) 0 τ') ∧ RS T n key τ' (sK T n (p + 1)) (stl 6 C1 W1).1 (stl 6 C1 W1).2 a ∧ fr rsL τ τ' := by
  have hw : wB T n p = false := w_no hT (by omega) (by omega)
  obtain ⟨h1, h2, h3, h4, h5⟩ := h
  obtain ⟨k1, k2⟩ := TK_s h2 hp hw
  obtain ⟨A, eA, cA, fA⟩ := m196 (r := 0) (by omega) h4 (by omega)
  rw [hs] at cA
  have hlen := stl_len 0 W C
  rw [hs] at hlen
  have hlen : C1.length + (W1.length + 1) = C.length + W.length := hlen
  have e22 : A 138 22 - 1 = In W1.length := by
    rw [cA.2.2.1]
    show In (W1.length + 1) - In 1 = _
    rw [n_sub (by omega)]
    rfl
  have cB : CW (hy_up A 138 22 (A 138 22 - 1)) C1 W1 := by
    refine ⟨?_, ?_, ?_, ?_⟩
    · rw [up_same, upd_ne _ _ (by omega)]
      exact cA.1
    · rw [up_ne _ _ _ (by omega)]
      exact cA.2.1
    · rw [up_same, upd_at, e22]
    · rw [up_ne _ _ _ (by omega)]
      exact cA.2.2.2.2
  have fB : fr cwL τ (hy_up A 138 22 (A 138 22 - 1)) := fr_tr fA (fr_up _ _ _ _ (by decide))
  obtain ⟨D, eD, cD, fD⟩ := m196 (r := 6) (by omega) cB (by omega)
  have fT := fr_tr fB fD
  have hle := stl_le 6 W1 C1
  obtain ⟨τ', e9, r9, f9⟩ := m189s (Tr_fr h1 fT (by decide) (by decide)) (GO_fr (GO_s h2 hp hw) fT (by decide) (by decide)) (key := key) (by rw [fr_slot (k := 15) fT (by decide)]; exact h3) cD (a := a) (by rw [fr_slot (k := 20) fT (by decide)]; exact h5)
  refine ⟨τ', fun f => ?_, r9, fr_tr (fr_wk fT (by decide)) f9⟩
  rw [j_0 _ _ _ (by rw [k1]; decide)]
  unfold J193_2
  rw [if_pos rfl, if_pos k1, if_pos (by rw [k2, hT]; rfl), if_neg (show ¬ In o ≤ (0 : Int32) by show ¬ In o ≤ In 0; rw [n_le (by omega) (by omega)]; omega), show (0 : Int32) = In 0 from rfl, eA, Option.bind_some, show (6 : Int32) = In 6 from rfl, eD, Option.bind_some, m198 cD (by omega), Option.bind_some]
  dsimp only
  rw [e9, Option.bind_some, show In o + -1 = In (o - 1) from ((Int32.sub_eq_add_neg (In o) 1).symm).trans (n_s1 ho)]
/-- the end -/
theorem sE {T : Nat → Nat} {n key p a o : Nat} {C W : List Int32} {τ : Sg} (h : RS T n key τ p C W a) (hl : C.length + W.length ≤ 96) (ho : o ≤ 8) (hp : p = n) (x2 : Int32) : ∃ τ', (∀ f : Nat, J193_1 (f + 1) (In o) x2 0 τ = some (if o = 0 then 1 else 0, τ')) ∧ CW τ' (stl 0 C W).1 (stl 0 C W).2 ∧ fr cwL τ τ' := by
  obtain ⟨h1, h2, h3, h4, h5⟩ := h
  obtain ⟨A, eA, cA, fA⟩ := m196 (r := 0) (by omega) h4 (by omega)
  refine ⟨A, fun f => ?_, cA, fA⟩
  conv => lhs; unfold J193_1
  rw [if_pos rfl, if_pos (h2.2.2.1 hp), show (0 : Int32) = In 0 from rfl, eA, Option.bind_some, i_eq (by omega) (by omega)]
  by_cases z : o = 0
  · rw [if_pos z, if_pos z]
  · rw [if_neg z, if_neg z]
/-- nothing that goes on -/
theorem sX {T : Nat → Nat} {n key p a o : Nat} {C W : List Int32} {τ : Sg} (h : RS T n key τ p C W a) (ho : o ≤ 8) (hp : p < n) (h7 : lvN (T p) = 7) (h41 : T p = 41 → o = 0) (x2 : Int32) (f : Nat) : J193_1 (f + 1) (In o) x2 0 τ = some (0, τ) := by
  obtain ⟨h1, h2, h3, h4, h5⟩ := h
  have hn := h1.1
  have hb := (h1.2.2 p (by omega)).2
  have e9 : τ 138 12 ≠ 0 ∧ J199 τ = some (0, τ) ∧ (τ 138 12 = 3 → τ 138 13 = In (T p)) := by
    by_cases hw : wB T n p = true
    · obtain ⟨z1, z2⟩ := TK_w3 h2 hw
      refine ⟨z2, ?_, fun z => absurd z z1⟩
      unfold J199
      rw [if_neg z1]
    · obtain ⟨k1, k2⟩ := TK_s h2 hp (Bool.eq_false_iff.mpr hw)
      refine ⟨by rw [k1]; decide, ?_, fun _ => k2⟩
      rw [m199 hb k1 k2, (sg_f hb).1.mp h7]
  rw [j_0 _ _ _ e9.1, j_8]
  · unfold J193_8
    rw [e9.2.1]
    rfl
  · intro z y
    rw [e9.2.2 z, show (41 : Int32) = In 41 from rfl, n_eq (by omega) (by omega)] at y
    rw [h41 y]
    decide
theorem sg_rk {b : Nat} (hb : b < 256) (h : lvN b ≠ 7) : rk (sgB b) = lvN b + 1 := ((sg_f hb).2 h).2.1
theorem j_10 (k1 : Int32 → Int32 → Int32 → Sg → Option (Int32 × Sg)) {o l : Nat} {x2 s : Int32} {t : Bool} {τ : Sg} (ho : o ≤ 8) (hl : l ≤ 4) (hs : rk s = l + 1) (ht : τ 150 o = bb t) (h2 : l = 2 → t = false) : J193_10 k1 (In o) x2 s τ = J193_13 k1 (bb (if l = 2 then true else if l < 2 then false else t)) (In o) (In o) x2 s τ := by
  unfold J193_10
  rw [m197, Option.bind_some]
  dsimp only
  rw [m197, Option.bind_some]
  dsimp only
  rw [hs, show (3 : Int32) = In 3 from rfl, i_eq (by omega) (by omega), i_le (by omega) (by omega), if_pos (show hy_ib (In o) 10 from ib_n (by omega) (by omega)), n_ix (by omega), ite_c (show (τ 150 o = 0) = (bb t = 0) by rw [ht])]
  unfold J193_11 J193_12
  by_cases z : l = 2
  · rw [if_pos (by omega), if_pos z]
    rfl
  · rw [if_neg (by omega), if_neg z]
    by_cases y : l < 2
    · rw [if_pos (by omega), if_pos y]
      rfl
    · rw [if_neg (by omega), if_neg y]
      cases t
      · rfl
      · rfl
/-- a sign -/
theorem sS {T : Nat → Nat} {n key p a o : Nat} {C W : List Int32} {τ : Sg} {t : Bool} (h : RS T n key τ p C W a) (hl : C.length + W.length < 96) (hp : p < n) (h7 : lvN (T p) ≠ 7) (ho : o ≤ 8) (ht : τ 150 o = bb t) (h2 : lvN (T p) = 2 → t = false) (x2 : Int32) : ∃ τ', (∀ f : Nat, J193_1 (f + 1) (In o) x2 0 τ = J193_1 f (In o) x2 1 τ') ∧ RS T n key τ' (sK T n (p + 1)) (stl (lvN (T p) + 1) C W).1 (sgB (T p) :: (stl (lvN (T p) + 1) C W).2) a ∧ fr loL τ τ' ∧ τ' 150 o = bb (if lvN (T p) = 2 then true else if lvN (T p) < 2 then false else t) ∧ ∀ j, j ≠ o → τ' 150 j = τ 150 j := by
  obtain ⟨h1, h2', h3, h4, h5⟩ := h
  have hn := h1.1
  have hb := (h1.2.2 p (by omega)).2
  obtain ⟨g1, g2, g3, g4, g5, g6, g7, g8⟩ := (sg_f hb).2 h7
  have hw : wB T n p = false := w_no rfl g6 g7
  obtain ⟨k1, k2⟩ := TK_s h2' hp hw
  generalize hv : (if lvN (T p) = 2 then true else if lvN (T p) < 2 then false else t) = t'
  have i10 : hy_ib (In o) 10 := ib_n (by omega) (by omega)
  have cA : CW (hy_up τ 150 o (bb t')) C W := by
    unfold CW
    rw [up_ne _ _ _ (by omega), up_ne _ _ _ (by omega), up_ne _ _ _ (by omega)]
    exact h4
  obtain ⟨D, eD, cD, fD⟩ := m196 (r := lvN (T p) + 1) (by omega) cA (by omega)
  have hlen := stl_len (lvN (T p) + 1) W C
  obtain ⟨B, eB, cB, fB, iB⟩ := push cD (by omega) (sgB (T p))
  have fT : fr [150, 148, 149, 10019, 10022] τ B := fr_tr (fr_up _ 150 _ _ (by show 150 ∈ _; decide)) (fr_tr (fr_wk fD (by decide)) (fr_wk fB (by decide)))
  obtain ⟨τ', e9, r9, f9⟩ := m189s (Tr_fr h1 fT (by decide) (by decide)) (GO_fr (GO_s h2' hp hw) fT (by decide) (by decide)) (key := key) (by rw [fr_slot (k := 15) fT (by decide)]; exact h3) cB (a := a) (by rw [fr_slot (k := 20) fT (by decide)]; exact h5)
  have r150 : τ' 150 = upd (τ 150) o (bb t') := by
    rw [fr_row (a := 150) f9 (by decide) (by decide), fr_row (a := 150) fB (by decide) (by decide), fr_row (a := 150) fD (by decide) (by decide), up_same]
  refine ⟨τ', fun f => ?_, r9, fr_tr (fr_wk fT (by decide)) (fr_wk f9 (by decide)), by rw [r150, upd_at], fun j hj => by rw [r150, upd_ne _ _ hj]⟩
  have e13 : J193_13 (J193_1 f) (bb t') (In o) (In o) x2 (sgB (T p)) τ = J193_1 f (In o) x2 1 τ' := by
    unfold J193_13
    rw [if_pos (show bb t' = 0 ∨ bb t' = 1 by cases t'; exact Or.inl rfl; exact Or.inr rfl), if_pos i10, n_ix (by omega), m197, Option.bind_some]
    dsimp only
    rw [g2, eD, Option.bind_some]
    rw [if_pos iB, eB, e9]
    rfl
  rw [← e13, ← hv, ← j_10 _ ho g1 g2 ht h2, j_0 _ _ _ (by rw [k1]; decide), j_8]
  · unfold J193_8
    rw [m199 hb k1 k2, Option.bind_some]
    dsimp only
    rw [if_neg (fun z => h7 ((sg_f hb).1.mpr z)), m197, Option.bind_some]
    dsimp only
    rw [g2, show (3 : Int32) = In 3 from rfl, i_eq (by omega) (by omega), if_pos i10, n_ix (by omega)]
    by_cases z : lvN (T p) = 2
    · rw [if_pos (by omega), if_pos (by rw [ht, h2 z]; rfl)]
    · rw [if_neg (by omega)]
  · intro z y
    rw [k2, show (41 : Int32) = In 41 from rfl, n_eq (by omega) (by omega)] at y
    exact absurd y g8
/-- a second comparison -/
theorem sS2 {T : Nat → Nat} {n key p a o : Nat} {C W : List Int32} {τ : Sg} (h : RS T n key τ p C W a) (hp : p < n) (h2 : lvN (T p) = 2) (ho : o ≤ 8) (ht : τ 150 o = bb true) (x2 : Int32) (f : Nat) : J193_1 (f + 1) (In o) x2 0 τ = some (0, τ) := by
  obtain ⟨h1, h2', h3, h4, h5⟩ := h
  have hn := h1.1
  have hb := (h1.2.2 p (by omega)).2
  have h7 : lvN (T p) ≠ 7 := by omega
  obtain ⟨g1, g2, g3, g4, g5, g6, g7, g8⟩ := (sg_f hb).2 h7
  have hw : wB T n p = false := w_no rfl g6 g7
  obtain ⟨k1, k2⟩ := TK_s h2' hp hw
  rw [j_0 _ _ _ (by rw [k1]; decide), j_8]
  · unfold J193_8
    rw [m199 hb k1 k2, Option.bind_some]
    dsimp only
    rw [if_neg (fun z => h7 ((sg_f hb).1.mpr z)), m197, Option.bind_some]
    dsimp only
    rw [g2, show (3 : Int32) = In 3 from rfl, i_eq (by omega) (by omega), if_pos (show hy_ib (In o) 10 from ib_n (by omega) (by omega)), n_ix (by omega), if_pos (by omega), if_neg (by rw [ht]; decide)]
  · intro z y
    rw [k2, show (41 : Int32) = In 41 from rfl, n_eq (by omega) (by omega)] at y
    exact absurd y g8
