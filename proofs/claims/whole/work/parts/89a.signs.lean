/-! PURE: signs, ranks, what waits -/
def rk (s : Int32) : Nat := if s = -1 then 1 else if s = -2 then 2 else if s < -5 then (if s < -7 then (if s < -9 then 6 else 5) else 4) else 3
theorem m197 (s : Int32) (σ : Sg) : J197 s σ = some (In (rk s), σ) := by
  unfold J197 rk
  by_cases h1 : s = -1
  · rw [if_pos h1, if_pos h1]
    rfl
  rw [if_neg h1, if_neg h1]
  by_cases h2 : s = -2
  · rw [if_pos h2, if_pos h2]
    rfl
  rw [if_neg h2, if_neg h2]
  by_cases h3 : s < -5
  · rw [if_pos h3, if_pos h3]
    by_cases h4 : s < -7
    · rw [if_pos h4, if_pos h4]
      by_cases h5 : s < -9
      · rw [if_pos h5, if_pos h5]
        rfl
      · rw [if_neg h5, if_neg h5]
        rfl
    · rw [if_neg h4, if_neg h4]
      rfl
  · rw [if_neg h3, if_neg h3]
    rfl
theorem rk_le (s : Int32) : rk s ≤ 6 := by
  unfold rk
  split
  · omega
  · split
    · omega
    · split
      · split
        · split <;> omega
        · omega
      · omega
/-- what waits comes to the code, as long as its rank is so high -/
def stl (r : Nat) : List Int32 → List Int32 → List Int32 × List Int32
  | C, [] => (C, [])
  | C, w :: W => if w = -11 then (C, w :: W) else if r ≤ rk w then stl r (w :: C) W else (C, w :: W)
theorem stl_n (r : Nat) (C : List Int32) : stl r C [] = (C, []) := by
  unfold stl
  rfl
theorem stl_c (r : Nat) (C : List Int32) (w : Int32) (W : List Int32) : stl r C (w :: W) = if w = -11 then (C, w :: W) else if r ≤ rk w then stl r (w :: C) W else (C, w :: W) := by
  conv => lhs; unfold stl
theorem stl_len (r : Nat) : ∀ (W C : List Int32), (stl r C W).1.length + (stl r C W).2.length = C.length + W.length := by
  intro W
  induction W with
  | nil => intro C; rw [stl_n]
  | cons w W ih =>
    intro C
    rw [stl_c]
    by_cases h1 : w = -11
    · rw [if_pos h1]
    · rw [if_neg h1]
      by_cases h2 : r ≤ rk w
      · rw [if_pos h2, ih]
        simp
        omega
      · rw [if_neg h2]
theorem stl_le (r : Nat) : ∀ (W C : List Int32), (stl r C W).2.length ≤ W.length := by
  intro W
  induction W with
  | nil => intro C; rw [stl_n]; exact Nat.le_refl _
  | cons w W ih =>
    intro C
    rw [stl_c]
    by_cases h1 : w = -11
    · rw [if_pos h1]
      exact Nat.le_refl _
    · rw [if_neg h1]
      by_cases h2 : r ≤ rk w
      · rw [if_pos h2]
        have := ih (w :: C)
        simp
        omega
      · rw [if_neg h2]
        exact Nat.le_refl _
/-- the lower bound's work goes on behind the higher's -/
theorem stl_mono {r r' : Nat} (h : r ≤ r') : ∀ (W C : List Int32), stl r (stl r' C W).1 (stl r' C W).2 = stl r C W := by
  intro W
  induction W with
  | nil => intro C; rw [stl_n]
  | cons w W ih =>
    intro C
    rw [stl_c r' C w W]
    by_cases h1 : w = -11
    · rw [if_pos h1]
    · rw [if_neg h1]
      by_cases h2 : r' ≤ rk w
      · rw [if_pos h2, ih, stl_c r C w W, if_neg h1, if_pos (by omega)]
      · rw [if_neg h2]
/-- the stack's top is lower -/
def topOK (l : Nat) : List Int32 → Prop
  | [] => True
  | w :: _ => w = -11 ∨ rk w ≤ l
theorem stl_top {l r : Nat} (h : l < r) {C W : List Int32} (ht : topOK l W) : stl r C W = (C, W) := by
  cases W with
  | nil => exact stl_n _ _
  | cons w W =>
    rw [stl_c]
    by_cases h1 : w = -11
    · rw [if_pos h1]
    · rw [if_neg h1]
      rcases ht with z | z
      · exact absurd z h1
      · rw [if_neg (by omega)]
theorem topOK_up {l l' : Nat} (h : l ≤ l') {W : List Int32} (ht : topOK l W) : topOK l' W := by
  cases W with
  | nil => trivial
  | cons w W =>
    rcases ht with z | z
    · exact Or.inl z
    · exact Or.inr (by omega)
/-- how many nots wait -/
def cnN (W : List Int32) : Nat := W.foldr (fun w a => (if w = -10 then 1 else 0) + a) 0
theorem cnN_c (w : Int32) (W : List Int32) : cnN (w :: W) = (if w = -10 then 1 else 0) + cnN W := rfl
def cwL : List Nat := [148, 10019, 10022]
/-- code and stack as the reference keeps them -/
def CW (τ : Sg) (C W : List Int32) : Prop := τ 138 19 = In C.length ∧ Pl (τ 148) C ∧ τ 138 22 = In W.length ∧ Pl (τ 149) W
theorem m196_loop {r : Nat} (hr : r ≤ 7) : ∀ (W C : List Int32) (f : Nat) (τ : Sg), CW τ C W → C.length + W.length ≤ 96 → W.length < f → ∃ τ', J196_0 f (In r) τ = some τ' ∧ CW τ' (stl r C W).1 (stl r C W).2 ∧ fr cwL τ τ' := by
  intro W
  induction W with
  | nil =>
    intro C f τ h hl hf
    obtain ⟨f, rfl⟩ : ∃ g, f = g + 1 := ⟨f - 1, by simp at hf; omega⟩
    have h22 : τ 138 22 = In 0 := h.2.2.1
    unfold J196_0
    rw [h22, if_pos (by decide), stl_n]
    exact ⟨τ, rfl, h, fr_rf _ _⟩
  | cons w W ih =>
    intro C f τ h hl hf
    obtain ⟨f, rfl⟩ : ∃ g, f = g + 1 := ⟨f - 1, by simp at hf; omega⟩
    obtain ⟨h19, hC, h22, hW⟩ := h
    rw [List.length_cons] at hl hf h22
    have hw : τ 149 W.length = w := hW.1
    have hrk := rk_le w
    unfold J196_0
    rw [h22, if_neg (show ¬ In (W.length + 1) ≤ (0 : Int32) by show ¬ In (W.length + 1) ≤ In 0; rw [n_le (by omega) (by omega)]; omega), n_s1 (by omega), show W.length + 1 - 1 = W.length by omega, if_pos (ib_n (by omega) (by omega)), if_pos (ib_n (by omega) (by omega)), n_ix (by omega), hw, stl_c]
    by_cases h1 : w = -11
    · rw [if_pos h1, if_pos h1]
      exact ⟨τ, rfl, ⟨h19, hC, h22, hW⟩, fr_rf _ _⟩
    rw [if_neg h1, if_neg h1, m197, Option.bind_some]
    dsimp only
    rw [i_lt (by omega) (by omega)]
    by_cases h2 : ¬(r ≤ rk w)
    · rw [if_pos (by omega), if_neg h2]
      exact ⟨τ, rfl, ⟨h19, hC, h22, hW⟩, fr_rf _ _⟩
    replace h2 := Classical.not_not.mp h2
    rw [if_neg (by omega), if_pos h2]
    simp only [h22]
    rw [n_s1 (by omega), show W.length + 1 - 1 = W.length by omega]
    generalize hA : hy_up τ 138 22 (In W.length) = A
    have a22 : A 138 22 = In W.length := by rw [← hA, up_same, upd_at]
    have a19 : A 138 19 = In C.length := by rw [← hA, up_same, upd_ne _ _ (by omega)]; exact h19
    have a149 : A 149 = τ 149 := by rw [← hA, up_ne _ _ _ (by omega)]
    have a148 : A 148 = τ 148 := by rw [← hA, up_ne _ _ _ (by omega)]
    rw [a22, a19, if_pos (ib_n (by omega) (by omega)), if_pos (ib_n (by omega) (by omega)), n_ix (by omega), n_ix (by omega), a149, hw]
    generalize hB : hy_up A 148 C.length w = B
    have b19 : B 138 19 = In C.length := by rw [← hB, up_ne _ _ _ (by omega)]; exact a19
    rw [b19, n_p1]
    have hCW : CW (hy_up B 138 19 (In (C.length + 1))) (w :: C) W := by
      refine ⟨by rw [up_same, upd_at]; rfl, ?_, ?_, ?_⟩
      · rw [up_ne _ _ _ (by omega), ← hB, up_same, a148]
        exact Pl_push w hC rfl
      · rw [up_same, upd_ne _ _ (by omega), ← hB, up_ne _ _ _ (by omega)]
        exact a22
      · rw [up_ne _ _ _ (by omega), ← hB, up_ne _ _ _ (by omega), a149]
        exact hW.2
    have hf3 : fr cwL τ (hy_up B 138 19 (In (C.length + 1))) := by
      rw [← hB, ← hA]
      exact fr_tr (fr_tr (fr_up _ _ _ _ (by simp [fk, cwL])) (fr_up _ _ _ _ (by simp [fk, cwL]))) (fr_up _ _ _ _ (by simp [fk, cwL]))
    obtain ⟨τ', r1, r2, r3⟩ := ih (w :: C) f _ hCW (by rw [List.length_cons]; omega) (by omega)
    exact ⟨τ', r1, r2, fr_tr hf3 r3⟩
theorem m196 {r : Nat} {C W : List Int32} {τ : Sg} (hr : r ≤ 7) (h : CW τ C W) (hl : C.length + W.length ≤ 96) : ∃ τ', J196 (In r) τ = some τ' ∧ CW τ' (stl r C W).1 (stl r C W).2 ∧ fr cwL τ τ' := m196_loop hr W C hy_fu τ h hl (by unfold hy_fu; omega)
/-- nots open, counted -/
theorem m198_loop {W0 : List Int32} : ∀ (f : Nat) (W : List Int32) (i a : Nat) (τ : Sg), τ 138 22 = In W0.length → W0.length ≤ 96 → (∀ j, j < W.length → τ 149 (i + j) = W.getD j 0) → i + W.length = W0.length → W.length < f → J198_1 f (In a) (In i) τ = some (In (a + cnN W), τ) := by
  intro f
  induction f with
  | zero => intro W i a τ _ _ _ _ h; omega
  | succ f ih =>
    intro W i a τ h22 hl hj hi hf
    unfold J198_1
    rw [h22, i_le (by omega) (by omega)]
    cases W with
    | nil =>
      rw [if_pos (by simp at hi; omega)]
      rfl
    | cons w W =>
      rw [List.length_cons] at hi hf
      have hw : τ 149 i = w := hj 0 (by simp)
      have nx : ∀ c : Nat, J198_3 (J198_1 f) (In c) (In a) (In i) τ = some (In (a + c + cnN W), τ) := by
        intro c
        unfold J198_3
        rw [n_add, n_p1]
        exact ih W (i + 1) (a + c) τ h22 hl (fun j hj' => by rw [show i + 1 + j = i + (j + 1) by omega, hj (j + 1) (by simpa using hj')]; rfl) (by omega) (by omega)
      rw [if_neg (by omega), if_pos (ib_n (by omega) (by omega)), n_ix (by omega), hw, cnN_c]
      by_cases h1 : w = -10
      · rw [if_pos h1, if_pos h1, ← Nat.add_assoc]
        exact nx 1
      · rw [if_neg h1, if_neg h1, Nat.zero_add]
        exact nx 0
theorem cnN_app (A B : List Int32) : cnN (A ++ B) = cnN A + cnN B := by
  induction A with
  | nil => simp [cnN]
  | cons a A ih => rw [List.cons_append, cnN_c, cnN_c, ih, Nat.add_assoc]
theorem cnN_rev (W : List Int32) : cnN W.reverse = cnN W := by
  induction W with
  | nil => rfl
  | cons w W ih => rw [List.reverse_cons, cnN_app, ih, cnN_c, cnN_c]; show _ = _; rw [Nat.add_comm]; rfl
theorem Pl_rev {P : Rw} : ∀ {W : List Int32}, Pl P W → ∀ j, j < W.length → P j = W.reverse.getD j 0 := by
  intro W
  induction W with
  | nil => intro _ j h; simp at h
  | cons w W ih =>
    intro h j hj
    rw [List.length_cons] at hj
    rw [List.reverse_cons]
    by_cases e : j = W.length
    · subst e
      rw [h.1]
      simp
    · rw [ih h.2 j (by omega)]
      simp [List.getD, List.getElem?_append, show j < W.length by omega]
theorem m198 {C W : List Int32} {τ : Sg} (h : CW τ C W) (hl : W.length ≤ 96) : J198 τ = some (In (cnN W), τ) := by
  have := m198_loop (W0 := W) hy_fu W.reverse 0 0 τ h.2.2.1 hl (fun j hj => by rw [Nat.zero_add]; exact Pl_rev h.2.2.2 j (by simpa using hj)) (by simp) (by simp; unfold hy_fu; omega)
  rw [cnN_rev, Nat.zero_add] at this
  exact this
/-- signs -/
def sgB (b : Nat) : Int32 := if b = 38 then -2 else if b = 42 then -8 else if b = 43 then -6 else if b = 45 then -7 else if b = 47 then -9 else if b = 60 then -3 else if b = 61 then -4 else if b = 62 then -5 else if b = 124 then -1 else 0
def lvN (b : Nat) : Nat := if b = 38 then 1 else if b = 42 then 4 else if b = 43 then 3 else if b = 45 then 3 else if b = 47 then 4 else if b = 60 then 2 else if b = 61 then 2 else if b = 62 then 2 else if b = 124 then 0 else 7
def lvP (T : Nat → Nat) (n p : Nat) : Nat := if p < n then lvN (T p) else 7
theorem sg_all : ((List.range 256).all fun b => (lvN b == 7) == (sgB b == 0) && ((lvN b == 7) || (decide (lvN b ≤ 4) && decide (rk (sgB b) = lvN b + 1) && decide (cvt (sgB b) = -In b) && decide (sgB b < 0) && decide (-9 ≤ sgB b) && !(decide (97 ≤ b ∧ b ≤ 122) || decide (48 ≤ b ∧ b ≤ 57)) && decide (b ≠ 33) && decide (b ≠ 40) && decide (b ≠ 41)))) = true := by decide +kernel
theorem sg_f {b : Nat} (hb : b < 256) : (lvN b = 7 ↔ sgB b = 0) ∧ (lvN b ≠ 7 → lvN b ≤ 4 ∧ rk (sgB b) = lvN b + 1 ∧ cvt (sgB b) = -In b ∧ sgB b < 0 ∧ -9 ≤ sgB b ∧ ¬ (97 ≤ b ∧ b ≤ 122) ∧ ¬ (48 ≤ b ∧ b ≤ 57) ∧ b ≠ 41) := by
  have h := sg_all
  rw [List.all_eq_true] at h
  have h := h b (List.mem_range.mpr hb)
  simp only [Bool.and_eq_true, Bool.or_eq_true, decide_eq_true_eq, beq_iff_eq, Bool.not_eq_true', Bool.or_eq_false_iff, decide_eq_false_iff_not] at h
  obtain ⟨h1, h2⟩ := h
  refine ⟨?_, fun h7 => ?_⟩
  · by_cases e : lvN b = 7
    · rw [e] at h1
      simp at h1
      exact ⟨fun _ => h1, fun _ => e⟩
    · have : (lvN b == 7) = false := by simp [e]
      rw [this] at h1
      have h3 : ¬ sgB b = 0 := by
        intro z
        rw [z] at h1
        simp at h1
      exact ⟨fun z => absurd z e, fun z => absurd z h3⟩
  · rcases h2 with h2 | h2
    · exact absurd h2 h7
    · obtain ⟨⟨⟨⟨⟨⟨⟨⟨q1, q2⟩, q3⟩, q4⟩, q5⟩, q6, q7⟩, q8⟩, q9⟩, q10⟩ := h2
      exact ⟨q1, q2, q3, q4, q5, q6, q7, q10⟩
theorem m199 {τ : Sg} {b : Nat} (hb : b < 256) (h12 : τ 138 12 = 3) (h13 : τ 138 13 = In b) : J199 τ = some (sgB b, τ) := by
  have e : ∀ k, k < 256 → (In b = In k) = (b = k) := fun k hk => n_eq (by omega) (by omega)
  unfold J199 sgB
  rw [h12, if_pos rfl, h13]
  simp only [hy_sw]
  rw [show (38 : Int32) = In 38 from rfl, show (42 : Int32) = In 42 from rfl, show (43 : Int32) = In 43 from rfl, show (45 : Int32) = In 45 from rfl, show (47 : Int32) = In 47 from rfl, show (60 : Int32) = In 60 from rfl, show (61 : Int32) = In 61 from rfl, show (62 : Int32) = In 62 from rfl, show (124 : Int32) = In 124 from rfl]
  simp only [e 38 (by omega), e 42 (by omega), e 43 (by omega), e 45 (by omega), e 47 (by omega), e 60 (by omega), e 61 (by omega), e 62 (by omega), e 124 (by omega)]
  by_cases c1 : b = 38
  · simp [c1]
  by_cases c2 : b = 42
  · simp [c2]
  by_cases c3 : b = 43
  · simp [c3]
  by_cases c4 : b = 45
  · simp [c4]
  by_cases c5 : b = 47
  · simp [c5]
  by_cases c6 : b = 60
  · simp [c6]
  by_cases c7 : b = 61
  · simp [c7]
  by_cases c8 : b = 62
  · simp [c8]
  by_cases c9 : b = 124
  · simp [c9]
  · simp [c1, c2, c3, c4, c5, c6, c7, c8, c9]
theorem c100 {T : Nat → Nat} {n p : Nat} {σ : Sg} (h : Tp T n σ) : J100 (bY T n p) σ = some (if lvP T n p = 7 then -1 else In (lvP T n p), σ) := by
  unfold bY lvP
  by_cases hp : p < n
  · have hb := (h.2.2 p (by have := h.1; omega)).2
    rw [if_pos hp, if_pos hp]
    generalize T p = b at hb
    have e : ∀ k, k < 256 → (In b = In k) = (b = k) := fun k hk => n_eq (by omega) (by omega)
    unfold J100 lvN
    simp only [hy_sw]
    rw [show (38 : Int32) = In 38 from rfl, show (42 : Int32) = In 42 from rfl, show (43 : Int32) = In 43 from rfl, show (45 : Int32) = In 45 from rfl, show (47 : Int32) = In 47 from rfl, show (60 : Int32) = In 60 from rfl, show (61 : Int32) = In 61 from rfl, show (62 : Int32) = In 62 from rfl, show (124 : Int32) = In 124 from rfl]
    simp only [e 38 (by omega), e 42 (by omega), e 43 (by omega), e 45 (by omega), e 47 (by omega), e 60 (by omega), e 61 (by omega), e 62 (by omega), e 124 (by omega)]
    by_cases c1 : b = 38
    · simp [c1] <;> try rfl
    by_cases c2 : b = 42
    · simp [c2] <;> try rfl
    by_cases c3 : b = 43
    · simp [c3] <;> try rfl
    by_cases c4 : b = 45
    · simp [c4] <;> try rfl
    by_cases c5 : b = 47
    · simp [c5] <;> try rfl
    by_cases c6 : b = 60
    · simp [c6] <;> try rfl
    by_cases c7 : b = 61
    · simp [c7] <;> try rfl
    by_cases c8 : b = 62
    · simp [c8] <;> try rfl
    by_cases c9 : b = 124
    · simp [c9] <;> try rfl
    · simp [c1, c2, c3, c4, c5, c6, c7, c8, c9]
  · rw [if_neg hp, if_neg hp]
    rfl
