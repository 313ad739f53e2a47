/-! PURE: sheets copied -/
theorem c110 {σ : Sg} {o : Nat} (x y : Int32) : J110 o x y σ = some (b2 (0 ≤ x ∧ 0 ≤ y ∧ x ≤ σ o 2 - y), σ) := by
  unfold J110 b2
  simp only [← Int32.not_le]
  by_cases h1 : (0 : Int32) ≤ x
  · by_cases h2 : (0 : Int32) ≤ y
    · by_cases h3 : x ≤ σ o 2 - y
      · simp [h1, h2, h3]
      · simp [h1, h2, h3]
    · simp [h1, h2]
  · simp [h1]
theorem m206_10 {y b c : Nat} (hy : y < 4) (hc : b + c ≤ 24) : ∀ (m i f : Nat) (τ : Sg), i + m = c → m < f → J206_10 f (In y) (In b) (In c) (In i) τ = some (In c, sr τ 155 (fun j => if 24 * y + b + i ≤ j ∧ j < 24 * y + b + c then τ 160 (j - (24 * y + b)) else τ 155 j)) := by
  intro m
  induction m with
  | zero =>
    intro i f τ hi hf
    obtain ⟨f, rfl⟩ : ∃ g, f = g + 1 := ⟨f - 1, by omega⟩
    unfold J206_10
    rw [i_le (by omega) (by omega), if_pos (by omega)]
    congr 2
    funext a j
    by_cases h : a = 155
    · subst h
      rw [sr_at, if_neg (by omega)]
    · rw [sr_ne _ _ h]
  | succ m ih =>
    intro i f τ hi hf
    obtain ⟨f, rfl⟩ : ∃ g, f = g + 1 := ⟨f - 1, by omega⟩
    unfold J206_10
    rw [i_le (by omega) (by omega), if_neg (by omega), i24, n_add, if_pos (ib_n (by omega) (by omega)), if_pos (ib_n (by omega) (by omega)), n_ix (by omega), n_ix (by omega), n_p1, ih (i + 1) f _ (by omega) (by omega)]
    congr 2
    funext a j
    by_cases h : a = 155
    · subst h
      rw [sr_at, sr_at, up_same, up_ne _ _ _ (by omega)]
      by_cases h1 : 24 * y + b + (i + 1) ≤ j ∧ j < 24 * y + b + c
      · rw [if_pos h1, if_pos (by omega)]
      · rw [if_neg h1]
        by_cases h2 : j = 24 * y + b + i
        · subst h2
          rw [upd_at, if_pos (by omega), show 24 * y + b + i - (24 * y + b) = i by omega]
        · rw [upd_ne _ _ h2, if_neg (by omega)]
    · rw [sr_ne _ _ h, sr_ne _ _ h, up_ne _ _ _ h]
theorem m206_8 {x a y b c : Nat} (hx : x < 4) (hac : a + c ≤ 24) (hc : c ≤ 24) : ∀ (m i f : Nat) (τ : Sg), i + m = c → m < f → J206_8 f (In x) (In a) (In y) (In b) (In c) (In i) τ = J206_10 hy_fu (In y) (In b) (In c) 0 (sr τ 160 (fun j => if i ≤ j ∧ j < c then τ 155 (24 * x + a + j) else τ 160 j)) := by
  intro m
  induction m with
  | zero =>
    intro i f τ hi hf
    obtain ⟨f, rfl⟩ : ∃ g, f = g + 1 := ⟨f - 1, by omega⟩
    unfold J206_8
    rw [i_le (by omega) (by omega), if_pos (by omega)]
    congr 1
    funext a' j
    by_cases h : a' = 160
    · subst h
      rw [sr_at, if_neg (by omega)]
    · rw [sr_ne _ _ h]
  | succ m ih =>
    intro i f τ hi hf
    obtain ⟨f, rfl⟩ : ∃ g, f = g + 1 := ⟨f - 1, by omega⟩
    unfold J206_8
    rw [i_le (by omega) (by omega), if_neg (by omega), i24, n_add, if_pos (ib_n (by omega) (by omega)), if_pos (ib_n (by omega) (by omega)), n_ix (by omega), n_ix (by omega), n_p1, ih (i + 1) f _ (by omega) (by omega)]
    congr 1
    funext a' j
    by_cases h : a' = 160
    · subst h
      rw [sr_at, sr_at, up_same, up_ne _ _ _ (by omega)]
      by_cases h1 : i + 1 ≤ j ∧ j < c
      · rw [if_pos h1, if_pos (by omega)]
      · rw [if_neg h1]
        by_cases h2 : j = i
        · subst h2
          rw [upd_at, if_pos (by omega)]
        · rw [upd_ne _ _ h2, if_neg (by omega)]
    · rw [sr_ne _ _ h, sr_ne _ _ h, up_ne _ _ _ h]
theorem op_copy (x p y q m : Int32) : Op (J109 x p y q m) (J206 x p y q m) := by
  intro σ h
  obtain ⟨hS, hdy, hc, hl, hi⟩ := h.1
  have h12 := hS.1.1.2
  have bad : ∀ r, J109 x p y q m σ = some (r, σ) → J206 x p y q m σ = some (r, σ) → ∃ r σ1 σ2, J109 x p y q m σ = some (r, σ1) ∧ J206 x p y q m σ1 = some (r, σ2) ∧ Iv σ2 ∧ σ1 2000 = σ 2000 ∧ σ2 2000 = σ 2000 := fun r e1 e2 => Op_ga h e1 e2 (fp_rf _ _) (fr_rf _ _)
  by_cases h1 : ¬(0 ≤ x ∧ x ≤ 3)
  · apply bad (-1000000001)
    · unfold J109
      rw [c69, Option.bind_some, i_b2, if_neg h1]
    · unfold J206
      rw [m182, Option.bind_some, i_b2, if_neg h1]
  replace h1 := Classical.not_not.mp h1
  by_cases h2 : ¬(0 ≤ y ∧ y ≤ 3)
  · apply bad (-1000000001)
    · unfold J109
      rw [c69, Option.bind_some, i_b2, if_pos h1, c69, Option.bind_some, i_b2, if_neg h2]
    · unfold J206
      rw [m182, Option.bind_some, i_b2, if_pos h1, m182, Option.bind_some, i_b2, if_neg h2]
  replace h2 := Classical.not_not.mp h2
  obtain ⟨s, hs, rfl⟩ := n_rngI (n := 3) (by omega) h1.1 h1.2
  obtain ⟨t, ht, rfl⟩ := n_rngI (n := 3) (by omega) h2.1 h2.2
  obtain ⟨d1, d2, ⟨n1, hn1, d3, d4⟩, d5⟩ := h.2.2.2.1 s (by omega)
  obtain ⟨g1, g2, ⟨n2, hn2, g3, g4⟩, g5⟩ := h.2.2.2.1 t (by omega)
  obtain ⟨s1, s2⟩ := sort_c d2
  obtain ⟨u1, u2⟩ := sort_c g2
  have eC : J109 (In s) p (In t) q m σ = if σ 153 s = -1 then some (-1000000011, σ) else if σ 153 t = -1 then some (-1000000011, σ) else if σ 153 s = σ 153 t then (if 0 ≤ p ∧ 0 ≤ m ∧ p ≤ In n1 - m then (if 0 ≤ q ∧ 0 ≤ m ∧ q ≤ In n2 - m then (if hy_cpOK p q m 24 24 then some (m, hy_cpS σ (54 + 2 * s) (54 + 2 * t) p q m) else none) else some (-1000000013, σ)) else some (-1000000013, σ)) else some (-1000000012, σ) := by
    unfold J109
    rw [c69, Option.bind_some, i_b2, if_pos h1, c69, Option.bind_some, i_b2, if_pos h2]
    dsimp only
    rw [if_pos (ib_n (by omega) (by omega)), if_pos (ib_n (by omega) (by omega)), n_ix (by omega), n_ix (by omega), c70, Option.bind_some, i_b2, d1]
    dsimp only
    rw [c70, Option.bind_some, i_b2, g1]
    dsimp only
    rw [c110, Option.bind_some, i_b2, d3]
    dsimp only
    rw [c110, Option.bind_some, i_b2, g3, show 53 + 2 * s + 1 = 54 + 2 * s by omega, show 53 + 2 * t + 1 = 54 + 2 * t by omega]
    simp only [d1, g1]
  have eR : ∀ τ : Sg, τ 153 = σ 153 → τ 154 = σ 154 → J206 (In s) p (In t) q m τ = if σ 153 s = -1 then some (-1000000011, τ) else if σ 153 t = -1 then some (-1000000011, τ) else if σ 153 s = σ 153 t then (if (0 ≤ p ∧ 0 ≤ m ∧ p ≤ In n1 - m) ∧ (0 ≤ q ∧ 0 ≤ m ∧ q ≤ In n2 - m) then J206_8 hy_fu (In s) p (In t) q m 0 τ else some (-1000000013, τ)) else some (-1000000012, τ) := by
    intro τ t1 t2
    unfold J206
    rw [m182, Option.bind_some, i_b2, if_pos h1, m182, Option.bind_some, i_b2, if_pos h2]
    dsimp only
    rw [if_pos (ib_n (by omega) (by omega)), n_ix (by omega), n_ix (by omega)]
    simp only [t1, t2, d4, g4]
    by_cases k1 : σ 153 s = -1
    · rw [if_pos k1, if_pos (s2.mp k1)]
    rw [if_neg k1, if_neg (fun z => k1 (s2.mpr z)), if_pos (ib_n (by omega) (by omega))]
    by_cases k2 : σ 153 t = -1
    · rw [if_pos k2, if_neg (u1.mp k2)]
    rw [if_neg k2, if_pos (Classical.not_not.mp fun z => k2 (u1.mpr z)), if_pos (ib_n (by omega) (by omega)), if_pos (ib_n (by omega) (by omega))]
    by_cases k3 : ¬(σ 153 s = σ 153 t)
    · rw [if_neg k3, if_neg k3]
    replace k3 := Classical.not_not.mp k3
    rw [if_pos k3, if_pos k3, if_pos (ib_n (by omega) (by omega)), if_pos (ib_n (by omega) (by omega))]
    simp only [← Int32.not_le]
    by_cases a1 : ¬((0 : Int32) ≤ p)
    · rw [if_pos a1, if_neg (fun z => a1 z.1.1)]
    replace a1 := Classical.not_not.mp a1
    by_cases a2 : ¬((0 : Int32) ≤ q)
    · rw [if_neg (fun z => z a1), if_pos a2, if_neg (fun z => a2 z.2.1)]
    replace a2 := Classical.not_not.mp a2
    by_cases a3 : ¬((0 : Int32) ≤ m)
    · rw [if_neg (fun z => z a1), if_neg (fun z => z a2), if_pos a3, if_neg (fun z => a3 z.1.2.1)]
    replace a3 := Classical.not_not.mp a3
    by_cases a4 : ¬(p ≤ In n1 - m)
    · rw [if_neg (fun z => z a1), if_neg (fun z => z a2), if_neg (fun z => z a3), if_pos a4, if_neg (fun z => a4 z.1.2.2)]
    replace a4 := Classical.not_not.mp a4
    rw [if_neg (fun z => z a1), if_neg (fun z => z a2), if_neg (fun z => z a3), if_neg (fun z => z a4)]
    by_cases a5 : q ≤ In n2 - m
    · rw [if_pos a5, if_pos ⟨⟨a1, a3, a4⟩, a2, a3, a5⟩]
    · rw [if_neg a5, if_neg (fun z => a5 z.2.2.2)]
  by_cases k1 : σ 153 s = -1
  · exact bad (-1000000011) (by rw [eC, if_pos k1]) (by rw [eR σ rfl rfl, if_pos k1])
  by_cases k2 : σ 153 t = -1
  · exact bad (-1000000011) (by rw [eC, if_neg k1, if_pos k2]) (by rw [eR σ rfl rfl, if_neg k1, if_pos k2])
  by_cases k3 : ¬(σ 153 s = σ 153 t)
  · exact bad (-1000000012) (by rw [eC, if_neg k1, if_neg k2, if_neg k3]) (by rw [eR σ rfl rfl, if_neg k1, if_neg k2, if_neg k3])
  replace k3 := Classical.not_not.mp k3
  by_cases k4 : ¬(0 ≤ p ∧ 0 ≤ m ∧ p ≤ In n1 - m)
  · exact bad (-1000000013) (by rw [eC, if_neg k1, if_neg k2, if_pos k3, if_neg k4]) (by rw [eR σ rfl rfl, if_neg k1, if_neg k2, if_pos k3, if_neg (fun z => k4 z.1)])
  replace k4 := Classical.not_not.mp k4
  by_cases k5 : ¬(0 ≤ q ∧ 0 ≤ m ∧ q ≤ In n2 - m)
  · exact bad (-1000000013) (by rw [eC, if_neg k1, if_neg k2, if_pos k3, if_pos k4, if_neg k5]) (by rw [eR σ rfl rfl, if_neg k1, if_neg k2, if_pos k3, if_neg (fun z => k5 z.2)])
  replace k5 := Classical.not_not.mp k5
  have nat : ∀ (u v : Int32) (n : Nat), n ≤ 24 → 0 ≤ u → 0 ≤ v → u ≤ In n - v → ∃ a c, u = In a ∧ v = In c ∧ a + c ≤ n := by
    intro u v n hn hu hv huv
    have iu := n_of (show 0 ≤ u.toInt from by have := hu; rw [Int32.le_iff_toInt_le] at this; exact this)
    have iv := n_of (show 0 ≤ v.toInt from by have := hv; rw [Int32.le_iff_toInt_le] at this; exact this)
    have bu : hy_ix u < 2147483648 := by
      have : hy_ix u = u.toInt.toNat := rfl
      have := Int32.toInt_lt u
      omega
    have bv : hy_ix v < 2147483648 := by
      have : hy_ix v = v.toInt.toNat := rfl
      have := Int32.toInt_lt v
      omega
    refine ⟨hy_ix u, hy_ix v, iu, iv, ?_⟩
    rw [iu, iv, n_z, n_z, n_z, z_sub, z_le (by omega) (by omega) (by omega) (by omega)] at huv
    omega
  obtain ⟨a, c, rfl, rfl, hac⟩ := nat p m n1 hn1 k4.1 k4.2.1 k4.2.2
  obtain ⟨b, c', rfl, hc', hbc⟩ := nat q (In c) n2 hn2 k5.1 k5.2.1 k5.2.2
  have hcc : c' < 2147483648 := by omega
  have hcc2 : c = c' := by rwa [n_eq (by omega) hcc] at hc'
  subst hcc2
  have hok : hy_cpOK (In a) (In b) (In c) 24 24 := by
    unfold hy_cpOK
    rw [n_ti (by omega), n_ti (by omega), n_ti (by omega)]
    omega
  generalize hA : hy_cpS σ (54 + 2 * s) (54 + 2 * t) (In a) (In b) (In c) = A
  have gA : ∀ z, z ≠ 54 + 2 * t → A z = σ z := fun z hz => by rw [← hA, cps_ne _ _ _ _ hz]
  have A54 : ∀ j, A (54 + 2 * t) j = if b ≤ j ∧ j < b + c then σ (54 + 2 * s) (a + (j - b)) else σ (54 + 2 * t) j := by
    intro j
    rw [← hA]
    unfold hy_cpS
    rw [if_pos rfl]
    unfold va_cpy
    rw [n_ix (by omega), n_ix (by omega), n_ix (by omega)]
  have e8 := m206_8 (x := s) (a := a) (y := t) (b := b) (c := c) (by omega) (by omega) (by omega) c 0 hy_fu A (by omega) (by unfold hy_fu; omega)
  have e10 := m206_10 (y := t) (b := b) (c := c) (by omega) (by omega) c 0 hy_fu (sr A 160 (fun j => if 0 ≤ j ∧ j < c then A 155 (24 * s + a + j) else A 160 j)) (by omega) (by unfold hy_fu; omega)
  generalize hB : sr A 160 (fun j => if 0 ≤ j ∧ j < c then A 155 (24 * s + a + j) else A 160 j) = B at e8 e10
  generalize hD : sr B 155 (fun j => if 24 * t + b + 0 ≤ j ∧ j < 24 * t + b + c then B 160 (j - (24 * t + b)) else B 155 j) = D at e10
  have gD : ∀ z, z ≠ 155 → z ≠ 160 → D z = A z := fun z q1 q2 => by rw [← hD, sr_ne _ _ q1, ← hB, sr_ne _ _ q2]
  have D155 : ∀ j, D 155 j = if 24 * t + b ≤ j ∧ j < 24 * t + b + c then σ 155 (24 * s + a + (j - (24 * t + b))) else σ 155 j := by
    intro j
    rw [← hD, sr_at, ← hB, sr_at, sr_ne _ _ (by omega), gA _ (by omega)]
    by_cases hj : 24 * t + b ≤ j ∧ j < 24 * t + b + c
    · rw [if_pos hj, if_pos (by omega), if_pos (by omega)]
    · rw [if_neg hj, if_neg (by omega)]
  refine ⟨In c, A, D, ?_, ?_, ?_, gA _ (by omega), by rw [gD _ (by omega) (by omega)]; exact gA _ (by omega)⟩
  · rw [eC, if_neg k1, if_neg k2, if_pos k3, if_pos k4, if_pos k5, if_pos hok, hA]
  · rw [eR A (gA _ (by omega)) (gA _ (by omega)), if_neg k1, if_neg k2, if_pos k3, if_pos ⟨k4, k5⟩, show J206_8 hy_fu (In s) (In a) (In t) (In b) (In c) 0 A = _ from e8]
    exact e10
  · refine Iv_parts h (fun z => z = 54 + 2 * t ∨ z = 155 ∨ z = 160) (fun z hz => by omega) (fun z hz => by rw [gD _ (by omega) (by omega)]; exact gA _ (by omega)) (fun k hk => ?_) (Iv_e_c h.2.2.2.2.1 (fun z q1 q2 => by rw [gD _ (by omega) (by omega)]; exact gA _ (by omega)) fun z q1 q2 => by rw [gD _ (by omega) (by omega)]; exact gA _ (by omega))
    obtain ⟨y1, y2, y3, y4⟩ := h.2.2.2.1 k hk
    have z53 : D (53 + 2 * k) = σ (53 + 2 * k) := by rw [gD _ (by omega) (by omega)]; exact gA _ (by omega)
    have z153 : D 153 = σ 153 := by rw [gD _ (by omega) (by omega)]; exact gA _ (by omega)
    have z154 : D 154 = σ 154 := by rw [gD _ (by omega) (by omega)]; exact gA _ (by omega)
    rw [z53, z153, z154]
    refine ⟨y1, y2, y3, fun j hj => ?_⟩
    rw [D155]
    by_cases hkt : k = t
    · subst hkt
      rw [gD _ (by omega) (by omega), A54]
      by_cases hjb : b ≤ j ∧ j < b + c
      · rw [if_pos hjb, if_pos (by omega), show 24 * s + a + (24 * k + j - (24 * k + b)) = 24 * s + (a + (j - b)) by omega]
        exact d5 (a + (j - b)) (by omega)
      · rw [if_neg hjb, if_neg (by omega)]
        exact y4 j hj
    · rw [gD _ (by omega) (by omega), gA _ (by omega), if_neg (by omega)]
      exact y4 j hj
