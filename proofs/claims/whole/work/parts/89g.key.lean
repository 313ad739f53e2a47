/-! PURE: the key of a text -/
def kyN (i : Nat) : Nat := [3, 3, 4].getD i 0
def kyC (i j : Nat) : Nat := ([[104, 97, 121], [102, 101, 101], [102, 105, 110, 101]].getD i []).getD j 0
def kaN (i : Nat) : Nat := [0, 3, 6, 10].getD i 0
theorem ky_all : ∀ i, i < 3 → (3 ≤ kyN i ∧ kyN i ≤ 4) ∧ hy_SLn.getD i 0 = kyN i ∧ kaN i + kyN i = kaN (i + 1) ∧ kaN (i + 1) ≤ 10 ∧ ∀ j, j < kyN i → (97 ≤ kyC i j ∧ kyC i j ≤ 122) ∧ (hy_SBl.getD i []).getD j 0 = In (kyC i j) ∧ kyL.getD (kaN i + j) 0 = In (kyC i j) ∧ ((In (kyC i j) &&& 255).toUInt32 % 65536).toInt32 = In (kyC i j) ∧ ((In (kyC i j)).toUInt32 % 65536).toInt32 = In (kyC i j) := by decide +kernel
theorem ka_all : ∀ i, i < 4 → kaL.getD i 0 = In (kaN i) := by decide +kernel
def mB (T : Nat → Nat) (p i j : Nat) : Nat → Bool
  | 0 => true
  | m + 1 => decide (T (p + j) = kyC i j) && mB T p i (j + 1) m
def kw (T : Nat → Nat) (n p i : Nat) : Bool := decide (wE T n p - p = kyN i) && mB T p i 0 (kyN i)
def kO (T : Nat → Nat) (n p : Nat) : Option Nat := if kw T n p 0 = true then some 0 else if kw T n p 1 = true then some 1 else if kw T n p 2 = true then some 2 else none
theorem c220 {σ : Sg} {i j : Nat} (h : Sx σ) (hi : i < 3) (hj : j < kyN i) : J220 (1000 + i) (In j) σ = some (In (kyC i j), σ) := by
  obtain ⟨h1, h2, h3⟩ := h i (by omega)
  obtain ⟨k1, k2, k3, k4, k5⟩ := ky_all i hi
  obtain ⟨y1, y2, y3, y4, y5⟩ := k5 j hj
  have e21 : J221 (1000 + i) σ = some (1, σ) := by
    unfold J221
    rw [if_neg (by decide), h3, if_pos rfl]
  have ed : hy_dl σ (1010 + i) = In (kyN i) := by
    unfold hy_dl
    rw [h2, k2]
  have ev : σ (1010 + i) j = In (kyC i j) := by
    rw [h1 j (by omega), y2]
  unfold J220
  rw [e21, Option.bind_some]
  dsimp only
  rw [if_neg (by decide), show 1000 + i + 10 = 1010 + i by omega]
  unfold J222 J223 J224
  rw [ed, if_neg (show ¬ In j < (0 : Int32) by show ¬ In j < In 0; rw [n_lt (by omega) (by omega)]; omega), if_pos (show In j < In (kyN i) by rw [n_lt (by omega) (by omega)]; exact hj), Option.bind_some, Option.bind_some]
  dsimp only
  have ex : (((σ (1010 + i) j &&& 255).toUInt32 % 65536).toInt32.toUInt32 % 65536).toInt32 = ((σ (1010 + i) j &&& 255).toUInt32 % 65536).toInt32 := by rw [ev, y4, y5]
  rw [ed, n_ti (by omega), if_pos (ib_n (by omega) (by omega)), n_ix (by omega), if_pos ex, Option.bind_some]
  dsimp only
  rw [if_pos ex, ev, y4]
theorem c85_loop {T : Nat → Nat} {n p i : Nat} {σ : Sg} (hT : Tp T n σ) (h : Sx σ) (hi : i < 3) (h3 : σ 2 3 = In p) (hp : p + kyN i ≤ n) : ∀ (m j f : Nat), j + m = kyN i → m < f → J85_2 f (1000 + i) (In j) σ = some (bb (mB T p i j m), σ) := by
  obtain ⟨k1, k2, k3, k4, k5⟩ := ky_all i hi
  have hn := hT.1
  intro m
  induction m with
  | zero =>
    intro j f hj hf
    obtain ⟨f, rfl⟩ : ∃ g, f = g + 1 := ⟨f - 1, by omega⟩
    unfold J85_2
    rw [c218 h (by omega), k2, Option.bind_some]
    dsimp only
    rw [if_pos (show In (kyN i) ≤ In j by rw [n_le (by omega) (by omega)]; omega)]
    rfl
  | succ m ih =>
    intro j f hj hf
    obtain ⟨f, rfl⟩ : ∃ g, f = g + 1 := ⟨f - 1, by omega⟩
    unfold J85_2
    rw [c218 h (by omega), k2, Option.bind_some]
    dsimp only
    rw [if_neg (show ¬ In (kyN i) ≤ In j by rw [n_le (by omega) (by omega)]; omega), h3, n_add, c83 hT (by omega), Option.bind_some]
    dsimp only
    rw [c220 h hi (by omega), Option.bind_some]
    dsimp only
    have hb := (hT.2.2 (p + j) (by omega)).2
    have hy := (k5 j (by omega)).1
    rw [show bY T n (p + j) = In (T (p + j)) from if_pos (by omega), n_p1, ih (j + 1) f (by omega) (by omega), i_eq (by omega) (by omega)]
    show _ = some (bb (decide (T (p + j) = kyC i j) && mB T p i (j + 1) m), σ)
    by_cases z : T (p + j) = kyC i j
    · rw [if_pos z, decide_eq_true z, Bool.true_and]
    · rw [if_neg z, decide_eq_false z]
      rfl
theorem c85 {T : Nat → Nat} {n p i : Nat} {σ : Sg} (hT : Tp T n σ) (h : Sx σ) (hi : i < 3) (h3 : σ 2 3 = In p) (hp : p ≤ n) : J85 (1000 + i) σ = some (bb (kw T n p i), σ) := by
  obtain ⟨k1, k2, k3, k4, k5⟩ := ky_all i hi
  have hn := hT.1
  obtain ⟨w1, w2, w3, w4, w5⟩ := wE_bd (T := T) hp
  unfold J85
  rw [c86 hT hp h3, Option.bind_some]
  dsimp only
  rw [c218 h (by omega), k2, Option.bind_some]
  dsimp only
  rw [ite_c (show (In (wE T n p) - σ 2 3 = In (kyN i)) = (wE T n p - p = kyN i) by rw [h3, n_sub w1, n_eq (by omega) (by omega)])]
  unfold kw
  by_cases z : wE T n p - p = kyN i
  · rw [if_pos z, decide_eq_true z, Bool.true_and]
    exact c85_loop hT h hi h3 (by omega) (kyN i) 0 hy_fu (by omega) (by unfold hy_fu; omega)
  · rw [if_neg z, decide_eq_false z]
    rfl
theorem kO_lt {T : Nat → Nat} {n p k : Nat} (h : kO T n p = some k) : k < 3 ∧ kw T n p k = true := by
  unfold kO at h
  split at h
  · rename_i z
    cases h
    exact ⟨by omega, z⟩
  · split at h
    · rename_i z
      cases h
      exact ⟨by omega, z⟩
    · split at h
      · rename_i z
        cases h
        exact ⟨by omega, z⟩
      · cases h
theorem kw_l {T : Nat → Nat} {n p i : Nat} (hp : p ≤ n) (hi : i < 3) (h : kw T n p i = true) : lB T n p = true ∧ p < n := by
  obtain ⟨k1, k2, k3, k4, k5⟩ := ky_all i hi
  obtain ⟨w1, w2, w3, w4, w5⟩ := wE_bd (T := T) hp
  unfold kw at h
  rw [Bool.and_eq_true] at h
  have h1 := of_decide_eq_true h.1
  obtain ⟨m, hm⟩ : ∃ m, kyN i = m + 1 := ⟨kyN i - 1, by omega⟩
  have h2 := h.2
  rw [hm] at h2
  have h2 : (decide (T (p + 0) = kyC i 0) && mB T p i (0 + 1) m) = true := h2
  rw [Bool.and_eq_true] at h2
  have h3 := of_decide_eq_true h2.1
  have h4 := (k5 0 (by omega)).1
  refine ⟨decide_eq_true ⟨by omega, ?_⟩, by omega⟩
  have : p + 0 = p := rfl
  rw [this] at h3
  omega
/-- the class reads the key -/
theorem c84 {T : Nat → Nat} {n p : Nat} {σ : Sg} (hT : Tp T n σ) (h : Sx σ) (h3 : σ 2 3 = In p) (hp : p ≤ n) (h42 : σ 4 2 = 0) (h44 : σ 4 4 = 0) : match kO T n p with
    | some k => ∃ σ', J84 σ = some (1, σ') ∧ CS T n k σ' (sK T n (wE T n p)) [] 0 ∧ fp clP σ σ'
    | none => J84 σ = some (0, σ) := by
  obtain ⟨w1, w2, w3, w4, w5⟩ := wE_bd (T := T) hp
  have e : J84 σ = J84_4 (match kO T n p with
    | some k => In k
    | none => -1000000005) σ := by
    unfold J84 kO
    have e0 : J85 1000 σ = some (bb (kw T n p 0), σ) := c85 (i := 0) hT h (by omega) h3 hp
    have e1 : J85 1001 σ = some (bb (kw T n p 1), σ) := c85 (i := 1) hT h (by omega) h3 hp
    have e2 : J85 1002 σ = some (bb (kw T n p 2), σ) := c85 (i := 2) hT h (by omega) h3 hp
    rw [e0, Option.bind_some]
    dsimp only
    cases kw T n p 0
    · rw [if_pos (by decide), e1, Option.bind_some]
      dsimp only
      cases kw T n p 1
      · rw [if_pos (by decide), e2, Option.bind_some]
        dsimp only
        cases kw T n p 2
        · rfl
        · rfl
      · rfl
    · rfl
  rw [e]
  cases hk : kO T n p with
  | none =>
    show J84_4 (-1000000005) σ = _
    unfold J84_4
    rw [if_pos rfl]
  | some k =>
    obtain ⟨k3, _⟩ := kO_lt hk
    have f1 : fp clP σ (hy_up σ 4 3 (In k)) := fp_up _ _ _ _ (Or.inr (Or.inl rfl))
    have hA : CS T n k (hy_up σ 4 3 (In k)) p [] 0 := by
      refine ⟨⟨hT.1, by rw [up_ne _ _ _ (by omega)]; exact hT.2.1, fun j hj => by rw [up_ne _ _ _ (by omega)]; exact hT.2.2 j hj⟩, Sx_fp h f1, by rw [up_ne _ _ _ (by omega)]; exact h3, by rw [up_same, upd_ne _ _ (by omega)]; exact h42, by rw [up_same, upd_at], by rw [up_same, upd_ne _ _ (by omega)]; exact h44, trivial⟩
    obtain ⟨σ', e82, k2, f2⟩ := c82s hA (q := wE T n p) w2
    refine ⟨σ', ?_, k2, fp_tr f1 f2⟩
    show J84_4 (In k) σ = _
    unfold J84_4
    rw [if_neg (show ¬ In k = -1000000005 by intro z; have := congrArg Int32.toInt z; rw [n_ti (by omega)] at this; have q : (-1000000005 : Int32).toInt = -1000000005 := (by decide); omega), c86 hA.1 hp hA.2.2.1, Option.bind_some]
    dsimp only
    rw [e82]
    rfl
def Kx (τ : Sg) : Prop := (∀ j, j < 10 → τ 146 j = kyL.getD j 0) ∧ (∀ j, j < 4 → τ 147 j = kaL.getD j 0)
theorem m192_5 {T : Nat → Nat} {n p i : Nat} {τ : Sg} (k2 : Int32 → Sg → Option (Int32 × Sg)) (hT : Tr T n τ) (h : Kx τ) (hi : i < 3) (h11 : τ 138 11 = In p) (hp : p + kyN i ≤ n) : ∀ (m j f : Nat) (b : Bool), j + m = kyN i → m < f → J192_5 k2 f (In i) (In (kyN i)) (bb b) (In j) τ = J192_8 k2 (In i) (In (kyN i)) (bb (b && mB T p i j m)) τ := by
  obtain ⟨q1, q2, q3, q4, q5⟩ := ky_all i hi
  have hn := hT.1
  intro m
  induction m with
  | zero =>
    intro j f b hj hf
    obtain ⟨f, rfl⟩ : ∃ g, f = g + 1 := ⟨f - 1, by omega⟩
    unfold J192_5
    rw [if_pos (show In (kyN i) ≤ In j by rw [n_le (by omega) (by omega)]; omega)]
    show _ = J192_8 k2 _ _ (bb (b && true)) τ
    rw [Bool.and_true]
  | succ m ih =>
    intro j f b hj hf
    obtain ⟨f, rfl⟩ : ∃ g, f = g + 1 := ⟨f - 1, by omega⟩
    unfold J192_5
    rw [if_neg (show ¬ In (kyN i) ≤ In j by rw [n_le (by omega) (by omega)]; omega)]
    cases b
    · rw [if_pos (by decide)]
      rfl
    · obtain ⟨y1, y2, y3, y4, y5⟩ := q5 j (by omega)
      have hb := (hT.2.2 (p + j) (by omega)).2
      have ea : τ 147 (hy_ix (In i)) = In (kaN i) := by
        rw [n_ix (by omega), h.2 i (by omega), ka_all i (by omega)]
      rw [if_neg (by decide), h11, n_add, if_pos (show hy_ib (In (p + j)) 96 from ib_n (by omega) (by omega)), if_pos (show hy_ib (In i) 4 from ib_n (by omega) (by omega)), ea, n_add, if_pos (show hy_ib (In (kaN i + j)) 10 from ib_n (by omega) (by omega)), n_ix (by omega), n_ix (by omega), ite_c (show (τ 145 (p + j) = τ 146 (kaN i + j)) = (T (p + j) = kyC i j) by rw [(hT.2.2 (p + j) (by omega)).1, h.1 _ (by omega), y3, n_eq (by omega) (by omega)])]
      unfold J192_7
      rw [n_p1]
      show _ = J192_8 k2 _ _ (bb (true && (decide (T (p + j) = kyC i j) && mB T p i (j + 1) m))) τ
      rw [Bool.true_and]
      by_cases z : T (p + j) = kyC i j
      · rw [if_pos z, decide_eq_true z, Bool.true_and]
        exact (ih (j + 1) f true (by omega) (by omega)).trans (by rw [Bool.true_and])
      · rw [if_neg z, decide_eq_false z, Bool.false_and]
        exact (ih (j + 1) f false (by omega) (by omega)).trans (by rw [Bool.false_and])
theorem m192_2 {T : Nat → Nat} {n p i : Nat} {τ : Sg} (hT : Tr T n τ) (h : Kx τ) (hi : i < 3) (h11 : τ 138 11 = In p) (h10 : τ 138 10 = In (wE T n p)) (hp : p ≤ n) (f : Nat) : J192_2 (f + 1) (In i) τ = if kw T n p i = true then ((J189 (hy_up τ 138 15 (In i))).bind fun σ1 => some ((1 : Int32), σ1)) else J192_2 f (In (i + 1)) τ := by
  obtain ⟨q1, q2, q3, q4, q5⟩ := ky_all i hi
  have hn := hT.1
  obtain ⟨w1, w2, w3, w4, w5⟩ := wE_bd (T := T) hp
  have ea : τ 147 i = In (kaN i) := by rw [h.2 i (by omega), ka_all i (by omega)]
  have eb : τ 147 (i + 1) = In (kaN (i + 1)) := by rw [h.2 (i + 1) (by omega), ka_all (i + 1) (by omega)]
  conv => lhs; unfold J192_2
  rw [if_neg (show ¬ (3 : Int32) ≤ In i by show ¬ In 3 ≤ In i; rw [n_le (by omega) (by omega)]; omega), n_p1, if_pos (show hy_ib (In (i + 1)) 4 from ib_n (by omega) (by omega)), if_pos (show hy_ib (In i) 4 from ib_n (by omega) (by omega)), n_ix (by omega), n_ix (by omega), ea, eb, h10, h11, n_sub w1, n_sub (by omega), show kaN (i + 1) - kaN i = kyN i by omega, i_eq (by omega) (by omega)]
  unfold kw J192_4
  by_cases z : kyN i = wE T n p - p
  · rw [if_pos z, decide_eq_true z.symm, Bool.true_and]
    refine (m192_5 (T := T) (n := n) (p := p) (J192_2 f) hT h hi h11 (by omega) (kyN i) 0 hy_fu true (by omega) (by unfold hy_fu; omega)).trans ?_
    rw [Bool.true_and]
    unfold J192_8
    rw [n_p1]
    cases mB T p i 0 (kyN i)
    · rw [if_pos (by decide), if_neg (by decide)]
    · rw [if_neg (by decide), if_pos rfl]
  · rw [if_neg z, decide_eq_false (fun y => z y.symm), Bool.false_and, if_neg (by decide)]
    rw [show hy_fu = 3999 + 1 from rfl]
    unfold J192_5
    rw [if_neg (show ¬ In (kyN i) ≤ (0 : Int32) by show ¬ In (kyN i) ≤ In 0; rw [n_le (by omega) (by omega)]; omega), if_pos rfl]
    unfold J192_8
    rw [if_pos rfl, n_p1]
/-- the reference reads the key -/
theorem m192 {T : Nat → Nat} {n p : Nat} {τ : Sg} (hT : Tr T n τ) (hK : TK T n τ p) (h : Kx τ) (hB : pB T n p = false) : J192 τ = match kO T n p with
    | some k => (J189 (hy_up τ 138 15 (In k))).bind fun σ1 => some ((1 : Int32), σ1)
    | none => some (0, τ) := by
  have hp := hK.2.1
  by_cases hl : lB T n p = true
  · obtain ⟨t1, t2, t3, t4⟩ := hK.2.2.2.1 hl
    rw [if_neg (by rw [hB]; decide)] at t1
    unfold J192 kO
    rw [if_pos t1, show hy_fu = 3996 + 1 + 1 + 1 + 1 from rfl]
    show J192_2 _ (In 0) τ = _
    rw [m192_2 hT h (by omega) hK.1 t3 hp, m192_2 hT h (by omega) hK.1 t3 hp, m192_2 hT h (by omega) hK.1 t3 hp]
    by_cases z0 : kw T n p 0 = true
    · rw [if_pos z0, if_pos z0]
    · rw [if_neg z0, if_neg z0]
      by_cases z1 : kw T n p (0 + 1) = true
      · rw [if_pos z1, if_pos z1]
      · rw [if_neg z1, if_neg z1]
        by_cases z2 : kw T n p (0 + 1 + 1) = true
        · rw [if_pos z2, if_pos z2]
        · rw [if_neg z2, if_neg z2]
          rfl
  · have hk : kO T n p = none := by
      cases hz : kO T n p with
      | none => rfl
      | some k =>
        obtain ⟨a, b⟩ := kO_lt hz
        exact absurd (kw_l hp a b).1 hl
    rw [hk]
    have : τ 138 12 ≠ 1 := by
      by_cases hd : dB T n p = true
      · rw [(hK.2.2.2.2.1 hd).1]
        split <;> decide
      · have hw : wB T n p = false := by
          unfold wB
          rw [Bool.eq_false_iff.mpr hl, Bool.eq_false_iff.mpr hd]
          rfl
        by_cases hq : p < n
        · rw [(TK_s hK hq hw).1]
          decide
        · rw [hK.2.2.1 (by omega)]
          decide
    unfold J192
    rw [if_neg this]
