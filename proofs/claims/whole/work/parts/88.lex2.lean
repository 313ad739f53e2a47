/-! PURE: the reference's next word or sign -/
def goL : List Nat := [10010, 10011, 10012, 10013, 10014]
theorem Tr_up {T : Nat → Nat} {n : Nat} {τ : Sg} (h : Tr T n τ) {k : Nat} (hk : k ≠ 9) (v : Int32) : Tr T n (hy_up τ 138 k v) :=
  ⟨h.1, by rw [up_same, upd_ne _ _ (Ne.symm hk)]; exact h.2.1, fun j hj => by rw [up_ne _ _ _ (by omega)]; exact h.2.2 j hj⟩
theorem Tr_fr {T : Nat → Nat} {n : Nat} {τ τ' : Sg} {L : List Nat} (h : Tr T n τ) (hf : fr L τ τ') (h1 : 145 ∉ L) (h2 : 10009 ∉ L) : Tr T n τ' :=
  ⟨h.1, by rw [fr_slot hf h2]; exact h.2.1, fun j hj => by rw [fr_row hf (by omega) h1]; exact h.2.2 j hj⟩
theorem fr_g {τ : Sg} {k : Nat} {v : Int32} (h : 10 ≤ k ∧ k ≤ 14) : fr goL τ (hy_up τ 138 k v) := fr_up _ _ _ _ (by
  have : k = 10 ∨ k = 11 ∨ k = 12 ∨ k = 13 ∨ k = 14 := by omega
  rcases this with e | e | e | e | e <;> subst e <;> simp [fk, goL])
theorem m189_5 {T : Nat → Nat} {n p : Nat} (x1 : Int32) (hp : p < n) : ∀ (m q f : Nat) (τ : Sg), Tr T n τ → τ 138 10 = In q → τ 138 11 = In p → q + m = n → m < f →
    ∃ τ', J189_5 f x1 τ = some τ' ∧ τ' 138 10 = In (wL (lB T n) q m) ∧ τ' 138 11 = In p ∧ τ' 138 12 = (if x1 = 0 then 1 else 4) ∧ τ' 138 13 = In (T p) ∧ τ' 138 14 = In (wL (lB T n) q m) ∧ fr goL τ τ' := by
  have fin : ∀ (q : Nat) (τ : Sg), Tr T n τ → τ 138 10 = In q → τ 138 11 = In p → ∃ τ', (if x1 = 0 then J189_8 1 τ else J189_8 4 τ) = some τ' ∧ τ' 138 10 = In q ∧ τ' 138 11 = In p ∧ τ' 138 12 = (if x1 = 0 then 1 else 4) ∧ τ' 138 13 = In (T p) ∧ τ' 138 14 = In q ∧ fr goL τ τ' := by
    intro q τ h h10 h11
    have hn := h.1
    have e8 : ∀ x : Int32, ∃ τ', J189_8 x τ = some τ' ∧ τ' 138 10 = In q ∧ τ' 138 11 = In p ∧ τ' 138 12 = x ∧ τ' 138 13 = In (T p) ∧ τ' 138 14 = In q ∧ fr goL τ τ' := by
      intro x
      have t1 : hy_up τ 138 12 x 138 11 = In p := by rw [up_same, upd_ne _ _ (by omega)]; exact h11
      have t2 : hy_up τ 138 12 x 145 p = In (T p) := by rw [up_ne _ _ _ (by omega)]; exact (h.2.2 p (by omega)).1
      unfold J189_8
      rw [t1, if_pos (ib_n (by omega) (by omega)), n_ix (by omega), t2]
      refine ⟨_, rfl, ?_, ?_, ?_, ?_, ?_, fr_tr (fr_tr (fr_g (by omega)) (fr_g (by omega))) (fr_g (by omega))⟩
      · simp (disch := omega) only [up_same, upd_ne]
        exact h10
      · simp (disch := omega) only [up_same, upd_ne]
        exact h11
      · simp (disch := omega) only [up_same, upd_ne, upd_at]
      · simp (disch := omega) only [up_same, upd_ne, upd_at]
      · simp (disch := omega) only [up_same, upd_ne, upd_at]
        exact h10
    by_cases hx : x1 = 0
    · rw [if_pos hx, if_pos hx]
      exact e8 1
    · rw [if_neg hx, if_neg hx]
      exact e8 4
  intro m
  induction m with
  | zero =>
    intro q f τ h h10 h11 hq hf
    obtain ⟨f, rfl⟩ : ∃ g, f = g + 1 := ⟨f - 1, by omega⟩
    have hn := h.1
    have hl : lB T n q = false := decide_eq_false (by omega)
    unfold J189_5
    rw [h10, m190 h (by omega), Option.bind_some, i_bb, hl, if_neg (by decide)]
    exact fin q τ h h10 h11
  | succ m ih =>
    intro q f τ h h10 h11 hq hf
    obtain ⟨f, rfl⟩ : ∃ g, f = g + 1 := ⟨f - 1, by omega⟩
    have hn := h.1
    unfold J189_5
    rw [h10, m190 h (by omega), Option.bind_some, i_bb, wL_s]
    dsimp only
    by_cases hl : lB T n q = true
    · rw [if_pos hl, if_pos hl, h10, n_p1]
      obtain ⟨τ', r1, r2, r3, r4, r5, r6, r7⟩ := ih (q + 1) f (hy_up τ 138 10 (In (q + 1))) (Tr_up h (by omega) _) (by rw [up_same, upd_at]) (by rw [up_same, upd_ne _ _ (by omega)]; exact h11) (by omega) (by omega)
      exact ⟨τ', r1, r2, r3, r4, r5, r6, fr_tr (fr_g (by omega)) r7⟩
    · rw [if_neg hl, if_neg hl]
      exact fin q τ h h10 h11
theorem nV_s (T : Nat → Nat) (p v m : Nat) : nV T p v (m + 1) = nV T (p + 1) (10 * v + (T p - 48)) m := rfl
theorem m189_10 {T : Nat → Nat} {n p : Nat} (x1 : Int32) : ∀ (m q v f : Nat) (τ : Sg), Tr T n τ → τ 138 10 = In q → τ 138 11 = In p → p ≤ q → τ 138 13 = In v → q + m = n → m < f →
    ∃ τ', J189_10 f x1 τ = some τ' ∧ τ' 138 10 = In (wL (dB T n) q m) ∧ τ' 138 11 = In p ∧ τ' 138 12 = (if x1 = 0 ∧ wL (dB T n) q m - p ≤ 4 then 2 else 4) ∧ (wL (dB T n) q m - p ≤ 4 → τ' 138 13 = In (nV T q v (wL (dB T n) q m - q))) ∧ τ' 138 14 = In (wL (dB T n) q m) ∧ fr goL τ τ' := by
  have fin : ∀ (q v : Nat) (τ : Sg), Tr T n τ → τ 138 10 = In q → τ 138 11 = In p → p ≤ q → q ≤ n → τ 138 13 = In v → ∃ τ', (if x1 = 0 then (if (τ 138 10) - (τ 138 11) ≤ 4 then J189_16 2 τ else J189_14 τ) else J189_14 τ) = some τ' ∧ τ' 138 10 = In q ∧ τ' 138 11 = In p ∧ τ' 138 12 = (if x1 = 0 ∧ q - p ≤ 4 then 2 else 4) ∧ (q - p ≤ 4 → τ' 138 13 = In (nV T q v (q - q))) ∧ τ' 138 14 = In q ∧ fr goL τ τ' := by
    intro q v τ h h10 h11 hpq hqn h13
    have hn := h.1
    have e16 : ∀ x : Int32, ∃ τ', J189_16 x τ = some τ' ∧ τ' 138 10 = In q ∧ τ' 138 11 = In p ∧ τ' 138 12 = x ∧ (q - p ≤ 4 → τ' 138 13 = In (nV T q v (q - q))) ∧ τ' 138 14 = In q ∧ fr goL τ τ' := by
      intro x
      unfold J189_16
      refine ⟨_, rfl, ?_, ?_, ?_, fun _ => ?_, ?_, fr_tr (fr_g (by omega)) (fr_g (by omega))⟩
      · simp (disch := omega) only [up_same, upd_ne]
        exact h10
      · simp (disch := omega) only [up_same, upd_ne]
        exact h11
      · simp (disch := omega) only [up_same, upd_ne, upd_at]
      · simp (disch := omega) only [up_same, upd_ne]
        rw [Nat.sub_self]
        exact h13
      · simp (disch := omega) only [up_same, upd_ne, upd_at]
        exact h10
    unfold J189_14
    rw [h10, h11, n_sub hpq, show (4 : Int32) = In 4 from rfl, i_le (by omega) (by omega)]
    by_cases hx : x1 = 0
    · rw [if_pos hx]
      by_cases h4 : q - p ≤ 4
      · rw [if_pos h4, if_pos ⟨hx, h4⟩]
        exact e16 2
      · rw [if_neg h4, if_neg (fun z => h4 z.2)]
        exact e16 4
    · rw [if_neg hx, if_neg (fun z => hx z.1)]
      exact e16 4
  intro m
  induction m with
  | zero =>
    intro q v f τ h h10 h11 hpq h13 hq hf
    obtain ⟨f, rfl⟩ : ∃ g, f = g + 1 := ⟨f - 1, by omega⟩
    have hn := h.1
    have hl : dB T n q = false := decide_eq_false (by omega)
    have ft := fin q v τ h h10 h11 hpq (by omega) h13
    unfold J189_10
    rw [h10, m191 h (by omega), Option.bind_some, i_bb, hl, if_neg (by decide)]
    dsimp only
    exact ft
  | succ m ih =>
    intro q v f τ h h10 h11 hpq h13 hq hf
    obtain ⟨f, rfl⟩ : ∃ g, f = g + 1 := ⟨f - 1, by omega⟩
    have hn := h.1
    have ft := fin q v τ h h10 h11 hpq (by omega) h13
    unfold J189_10
    rw [h10, m191 h (by omega), Option.bind_some, i_bb, wL_s]
    dsimp only
    by_cases hl : dB T n q = true
    · rw [if_pos hl, if_pos hl]
      simp only [h11, h10, h13]
      rw [n_sub hpq, show (4 : Int32) = In 4 from rfl, i_le (by omega) (by omega), if_pos (ib_n (by omega) (by omega)), n_ix (by omega), (h.2.2 q (by omega)).1]
      have hT : 48 ≤ T q := by
        unfold dB at hl
        rw [decide_eq_true_eq] at hl
        exact hl.2.1
      obtain ⟨a1, a2, a3, a4⟩ := wL_bd (f := dB T n) (m := m) (p := q + 1)
      have e12 : ∀ (x : Nat), J189_12 (J189_10 f) (In x) x1 τ = J189_10 f x1 (hy_up (hy_up τ 138 13 (In x)) 138 10 (In (q + 1))) := by
        intro x
        unfold J189_12
        rw [show hy_up τ 138 13 (In x) 138 10 = In q by rw [up_same, upd_ne _ _ (by omega)]; exact h10, n_p1]
      have nx : ∀ x : Nat, (q - p < 4 → x = 10 * v + (T q - 48)) → ∃ τ', J189_12 (J189_10 f) (In x) x1 τ = some τ' ∧ τ' 138 10 = In (wL (dB T n) (q + 1) m) ∧ τ' 138 11 = In p ∧ τ' 138 12 = (if x1 = 0 ∧ wL (dB T n) (q + 1) m - p ≤ 4 then 2 else 4) ∧ (wL (dB T n) (q + 1) m - p ≤ 4 → τ' 138 13 = In (nV T q v (wL (dB T n) (q + 1) m - q))) ∧ τ' 138 14 = In (wL (dB T n) (q + 1) m) ∧ fr goL τ τ' := by
        intro x hx
        obtain ⟨τ', r1, r2, r3, r4, r5, r6, r7⟩ := ih (q + 1) x f (hy_up (hy_up τ 138 13 (In x)) 138 10 (In (q + 1))) (Tr_up (Tr_up h (by omega) _) (by omega) _) (by rw [up_same, upd_at]) (by simp (disch := omega) only [up_same, upd_ne]; exact h11) (by omega) (by simp (disch := omega) only [up_same, upd_ne, upd_at]) (by omega) (by omega)
        refine ⟨τ', by rw [e12]; exact r1, r2, r3, r4, fun h4 => ?_, r6, fr_tr (fr_tr (fr_g (by omega)) (fr_g (by omega))) r7⟩
        rw [r5 h4, hx (by omega), show wL (dB T n) (q + 1) m - q = (wL (dB T n) (q + 1) m - (q + 1)) + 1 by omega, nV_s]
      by_cases h4 : 4 ≤ q - p
      · rw [if_pos h4]
        exact nx v fun z => by omega
      · rw [if_neg h4, show (10 : Int32) = In 10 from rfl, n_mul, n_add, show (48 : Int32) = In 48 from rfl, n_sub (by omega)]
        exact nx (10 * v + T q - 48) fun _ => by omega
    · rw [if_neg hl, if_neg hl]
      exact ft
theorem m189_0 {T : Nat → Nat} {n : Nat} : ∀ (m q f : Nat) (τ : Sg), Tr T n τ → τ 138 10 = In q → q + m = n → m < f → J189_0 f τ = J189_1 (hy_up τ 138 10 (In (wL (kB T n) q m))) := by
  have self : ∀ (q : Nat) (τ : Sg), τ 138 10 = In q → hy_up τ 138 10 (In q) = τ := by
    intro q τ h
    funext a k
    by_cases e : a = 138
    · subst e
      rw [up_same, upd_self h]
    · rw [up_ne _ _ _ e]
  intro m
  induction m with
  | zero =>
    intro q f τ h h10 hq hf
    obtain ⟨f, rfl⟩ : ∃ g, f = g + 1 := ⟨f - 1, by omega⟩
    have hn := h.1
    unfold J189_0
    rw [h.2.1, h10, i_le (by omega) (by omega), if_pos (by omega)]
    show J189_1 τ = J189_1 (hy_up τ 138 10 (In q))
    rw [self q τ h10]
  | succ m ih =>
    intro q f τ h h10 hq hf
    obtain ⟨f, rfl⟩ : ∃ g, f = g + 1 := ⟨f - 1, by omega⟩
    have hn := h.1
    obtain ⟨t1, t2⟩ := h.2.2 q (by omega)
    unfold J189_0
    rw [h.2.1, h10, i_le (by omega) (by omega), if_neg (by omega), if_pos (ib_n (by omega) (by omega)), n_ix (by omega), t1, show (32 : Int32) = In 32 from rfl, i_eq (by omega) (by omega), wL_s, n_p1]
    by_cases hb : T q = 32
    · have hk : kB T n q = true := decide_eq_true ⟨by omega, hb⟩
      rw [if_pos hb, if_pos hk, ih (q + 1) f _ (Tr_up h (by omega) _) (by rw [up_same, upd_at]) (by omega) (by omega), up_up]
    · have hk : ¬ kB T n q = true := by
        unfold kB
        rw [decide_eq_true_eq]
        exact fun z => hb z.2
      rw [if_neg hb, if_neg hk, self q τ h10]
/-- what the reference knows at the word or sign at p -/
def TK (T : Nat → Nat) (n : Nat) (τ : Sg) (p : Nat) : Prop := τ 138 11 = In p ∧ p ≤ n ∧ (p = n → τ 138 12 = 0) ∧
  (lB T n p = true → τ 138 12 = (if pB T n p = true then 4 else 1) ∧ τ 138 13 = In (T p) ∧ τ 138 10 = In (wE T n p) ∧ τ 138 14 = In (wE T n p)) ∧
  (dB T n p = true → τ 138 12 = (if pB T n p = true ∨ 4 < wE T n p - p then 4 else 2) ∧ (wE T n p - p ≤ 4 → τ 138 13 = In (nV T p 0 (wE T n p - p))) ∧ τ 138 10 = In (wE T n p) ∧ τ 138 14 = In (wE T n p)) ∧
  (p < n → wB T n p = false → τ 138 12 = 3 ∧ τ 138 13 = In (T p) ∧ τ 138 10 = In (p + 1) ∧ (τ 138 14 = -1 ∨ ∃ e, e ≤ p ∧ τ 138 14 = In e))
/-- ahead of a step -/
def GO (T : Nat → Nat) (n : Nat) (τ : Sg) (q : Nat) : Prop := τ 138 10 = In q ∧ q ≤ n ∧ ((τ 138 14 = In q ∧ pB T n q = true) ∨ (pB T n q = false ∧ (τ 138 14 = -1 ∨ ∃ e, e < q ∧ τ 138 14 = In e)))
theorem m189 {T : Nat → Nat} {n q : Nat} {τ : Sg} (h : Tr T n τ) (hg : GO T n τ q) : ∃ τ', J189 τ = some τ' ∧ TK T n τ' (sK T n q) ∧ fr goL τ τ' := by
  obtain ⟨h10, hqn, hen⟩ := hg
  have hn := h.1
  obtain ⟨k1, k2, k3, k4⟩ := wL_bd (f := kB T n) (m := n - q) (p := q)
  unfold J189 sK
  rw [m189_0 (n - q) q hy_fu τ h h10 (by omega) (by unfold hy_fu; omega)]
  generalize hp : wL (kB T n) q (n - q) = p at k1 k2 k3 k4
  have hpn : p ≤ n := by omega
  generalize hA : hy_up (hy_up τ 138 10 (In p)) 138 11 (In p) = A
  have hTA : Tr T n A := by rw [← hA]; exact Tr_up (Tr_up h (by omega) _) (by omega) _
  have a10 : A 138 10 = In p := by rw [← hA]; simp (disch := omega) only [up_same, upd_ne, upd_at]
  have a11 : A 138 11 = In p := by rw [← hA]; simp (disch := omega) only [up_same, upd_ne, upd_at]
  have a14 : A 138 14 = τ 138 14 := by rw [← hA]; simp (disch := omega) only [up_same, upd_ne, upd_at]
  have fA : fr goL τ A := by rw [← hA]; exact fr_tr (fr_g (by omega)) (fr_g (by omega))
  -- the word ahead ends right here, or not
  have hcl : (In p = τ 138 14) = (pB T n p = true) := by
    have hbl : q < p → pB T n p = false := by
      intro hlt
      have := k3 (p - 1) (by omega) (by omega)
      unfold kB at this
      rw [decide_eq_true_eq] at this
      unfold pB wB lB dB
      rw [decide_eq_false (show ¬ (p - 1 < n ∧ 97 ≤ T (p - 1) ∧ T (p - 1) ≤ 122) by omega), decide_eq_false (show ¬ (p - 1 < n ∧ 48 ≤ T (p - 1) ∧ T (p - 1) ≤ 57) by omega), Bool.or_false, Bool.and_false]
    rcases hen with ⟨e1, e2⟩ | ⟨e1, e2⟩
    · rw [e1, n_eq (by omega) (by omega)]
      by_cases hqp : p = q
      · rw [hqp, e2]
        exact propext ⟨fun _ => rfl, fun _ => rfl⟩
      · rw [hbl (by omega)]
        exact propext ⟨fun z => absurd z hqp, fun z => by cases z⟩
    · have hpf : pB T n p = false := by
        by_cases hqp : p = q
        · rw [hqp]; exact e1
        · exact hbl (by omega)
      rw [hpf]
      refine propext ⟨fun z => ?_, fun z => by cases z⟩
      rcases e2 with e2 | ⟨e, he, e2⟩
      · rw [e2] at z
        have := congrArg Int32.toInt z
        rw [n_ti (by omega), show (-1 : Int32).toInt = -1 from rfl] at this
        omega
      · rw [e2, n_eq (by omega) (by omega)] at z
        omega
  have e1 : J189_1 (hy_up τ 138 10 (In p)) = if pB T n p = true then J189_3 1 A else J189_3 0 A := by
    unfold J189_1
    rw [show hy_up τ 138 10 (In p) 138 10 = In p by rw [up_same, upd_at], hA, a11, a14, ite_c hcl]
  rw [e1]
  have fin : ∀ x : Int32, x = (if pB T n p = true then 1 else 0) → ∃ τ', J189_3 x A = some τ' ∧ TK T n τ' p ∧ fr goL τ τ' := by
    intro x hx
    have hx0 : (x = 0) = ¬ (pB T n p = true) := by
      rw [hx]
      by_cases hb : pB T n p = true
      · rw [if_pos hb]
        exact propext ⟨fun z => absurd z (by decide), fun z => absurd hb z⟩
      · rw [if_neg hb]
        exact propext ⟨fun _ => hb, fun _ => rfl⟩
    unfold J189_3
    rw [a11, hTA.2.1, i_eq (by omega) (by omega)]
    by_cases hpe : p = n
    · rw [if_pos hpe]
      refine ⟨_, rfl, ⟨by rw [up_same, upd_ne _ _ (by omega)]; exact a11, hpn, fun _ => by rw [up_same, upd_at], fun z => ?_, fun z => ?_, fun z => by omega⟩, fr_tr fA (fr_g (by omega))⟩
      · unfold lB at z
        rw [decide_eq_true_eq] at z
        omega
      · unfold dB at z
        rw [decide_eq_true_eq] at z
        omega
    · rw [if_neg hpe, m190 hTA (by omega), Option.bind_some, i_bb]
      dsimp only
      rw [a11, m191 hTA (by omega), Option.bind_some, i_bb]
      dsimp only
      by_cases hl : lB T n p = true
      · have hwe : wE T n p = wL (lB T n) p (n - p) := if_pos hl
        rw [if_pos hl]
        obtain ⟨τ', r1, r2, r3, r4, r5, r6, r7⟩ := m189_5 (T := T) (n := n) (p := p) x (by omega) (n - p) p hy_fu A hTA a10 a11 (by omega) (by unfold hy_fu; omega)
        refine ⟨τ', r1, ⟨r3, hpn, fun z => absurd z hpe, fun _ => ⟨?_, r5, by rw [hwe]; exact r2, by rw [hwe]; exact r6⟩, fun z => ?_, fun _ z => ?_⟩, fr_tr fA r7⟩
        · rw [r4]
          by_cases hb : pB T n p = true
          · rw [if_pos hb, if_neg (by rw [hx0]; exact fun z => z hb)]
          · rw [if_neg hb, if_pos (by rw [hx0]; exact hb)]
        · rw [l_d hl] at z
          cases z
        · unfold wB at z
          rw [hl] at z
          cases z
      · rw [if_neg hl]
        have hwe : wE T n p = wL (dB T n) p (n - p) := if_neg hl
        by_cases hd : dB T n p = true
        · rw [if_pos hd]
          obtain ⟨τ', r1, r2, r3, r4, r5, r6, r7⟩ := m189_10 (T := T) (n := n) (p := p) x (n - p) p 0 hy_fu (hy_up A 138 13 0) (Tr_up hTA (by omega) _) (by rw [up_same, upd_ne _ _ (by omega)]; exact a10) (by rw [up_same, upd_ne _ _ (by omega)]; exact a11) (Nat.le_refl _) (by rw [up_same, upd_at]; rfl) (by omega) (by unfold hy_fu; omega)
          refine ⟨τ', r1, ⟨r3, hpn, fun z => absurd z hpe, fun z => absurd z hl, fun _ => ⟨?_, by rw [hwe]; exact r5, by rw [hwe]; exact r2, by rw [hwe]; exact r6⟩, fun _ z => ?_⟩, fr_tr (fr_tr fA (fr_g (by omega))) r7⟩
          · rw [r4, hwe]
            by_cases hb : pB T n p = true
            · rw [if_pos (Or.inl hb), if_neg (by rw [hx0]; exact fun z => z.1 hb)]
            · by_cases h4 : wL (dB T n) p (n - p) - p ≤ 4
              · rw [if_neg (show ¬ (pB T n p = true ∨ 4 < wL (dB T n) p (n - p) - p) from fun z => z.elim hb fun q => by omega), if_pos ⟨by rw [hx0]; exact hb, h4⟩]
              · rw [if_pos (Or.inr (by omega)), if_neg (fun z => h4 z.2)]
          · unfold wB at z
            rw [hd, Bool.or_true] at z
            cases z
        · rw [if_neg hd]
          have t11 : hy_up A 138 12 3 138 11 = In p := by rw [up_same, upd_ne _ _ (by omega)]; exact a11
          have t145 : hy_up A 138 12 3 145 p = In (T p) := by rw [up_ne _ _ _ (by omega)]; exact (hTA.2.2 p (by omega)).1
          have t10 : ∀ v, hy_up (hy_up A 138 12 3) 138 13 v 138 10 = In p := fun v => by simp (disch := omega) only [up_same, upd_ne]; exact a10
          rw [t11, if_pos (ib_n (by omega) (by omega)), n_ix (by omega), t145, t10, n_p1]
          refine ⟨_, rfl, ⟨by simp (disch := omega) only [up_same, upd_ne]; exact a11, hpn, fun z => absurd z hpe, fun z => absurd z hl, fun z => absurd z hd, fun _ _ => ⟨by simp (disch := omega) only [up_same, upd_ne, upd_at], by simp (disch := omega) only [up_same, upd_ne, upd_at], by rw [up_same, upd_at], ?_⟩⟩, fr_tr (fr_tr (fr_tr fA (fr_g (by omega))) (fr_g (by omega))) (fr_g (by omega))⟩
          simp (disch := omega) only [up_same, upd_ne]
          rw [a14]
          rcases hen with ⟨e1, e2⟩ | ⟨e1, e2⟩
          · exact Or.inr ⟨q, k1, e1⟩
          · rcases e2 with e2 | ⟨e, he, e2⟩
            · exact Or.inl e2
            · exact Or.inr ⟨e, by omega, e2⟩
  by_cases hb : pB T n p = true
  · rw [if_pos hb]
    exact fin 1 (by rw [if_pos hb])
  · rw [if_neg hb]
    exact fin 0 (by rw [if_neg hb])
/-- behind a word, and behind a sign, a step may be made -/
theorem GO_w {T : Nat → Nat} {n p : Nat} {τ : Sg} (h : TK T n τ p) (hw : wB T n p = true) : GO T n τ (wE T n p) := by
  obtain ⟨w1, w2, w3, w4, w5⟩ := wE_bd (T := T) h.2.1
  refine ⟨?_, w2, Or.inl ⟨?_, w4 hw⟩⟩
  · by_cases hl : lB T n p = true
    · exact (h.2.2.2.1 hl).2.2.1
    · have hd : dB T n p = true := by
        unfold wB at hw
        rw [Bool.eq_false_iff.mpr hl, Bool.false_or] at hw
        exact hw
      exact (h.2.2.2.2.1 hd).2.2.1
  · by_cases hl : lB T n p = true
    · exact (h.2.2.2.1 hl).2.2.2
    · have hd : dB T n p = true := by
        unfold wB at hw
        rw [Bool.eq_false_iff.mpr hl, Bool.false_or] at hw
        exact hw
      exact (h.2.2.2.2.1 hd).2.2.2
theorem GO_s {T : Nat → Nat} {n p : Nat} {τ : Sg} (h : TK T n τ p) (hp : p < n) (hw : wB T n p = false) : GO T n τ (p + 1) := by
  obtain ⟨s1, s2, s3, s4⟩ := h.2.2.2.2.2 hp hw
  refine ⟨s3, hp, Or.inr ⟨?_, ?_⟩⟩
  · unfold pB
    rw [show p + 1 - 1 = p by omega, hw, Bool.and_false]
  · rcases s4 with s4 | ⟨e, he, s4⟩
    · exact Or.inl s4
    · exact Or.inr ⟨e, by omega, s4⟩
theorem GO_fr {T : Nat → Nat} {n q : Nat} {τ τ' : Sg} {L : List Nat} (h : GO T n τ q) (hf : fr L τ τ') (h1 : 10010 ∉ L) (h2 : 10014 ∉ L) : GO T n τ' q := by
  unfold GO
  rw [fr_slot (k := 10) hf h1, fr_slot (k := 14) hf h2]
  exact h
theorem TK_fr {T : Nat → Nat} {n p : Nat} {τ τ' : Sg} {L : List Nat} (h : TK T n τ p) (hf : fr L τ τ') (h1 : 10010 ∉ L ∧ 10011 ∉ L ∧ 10012 ∉ L ∧ 10013 ∉ L ∧ 10014 ∉ L) : TK T n τ' p := by
  unfold TK
  rw [fr_slot (k := 10) hf h1.1, fr_slot (k := 11) hf h1.2.1, fr_slot (k := 12) hf h1.2.2.1, fr_slot (k := 13) hf h1.2.2.2.1, fr_slot (k := 14) hf h1.2.2.2.2]
  exact h
