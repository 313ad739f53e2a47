/-! PURE: slots; sheets copied -/
theorem c112 (x : Int32) (σ : Sg) : J112 x σ = some (b2 (0 ≤ x ∧ x ≤ 4), σ) := by
  unfold J112
  rw [c3, Option.bind_some]
  simp only [b2_01, if_true]
theorem m208 (x : Int32) (σ : Sg) : J208 x σ = some (b2 (0 ≤ x ∧ x ≤ 4), σ) := by
  unfold J208
  rw [m125, Option.bind_some]
  simp only [b2_01, if_true]
theorem c115 {σ : Sg} {a : Nat} (t : Int32) : J115 a t σ = some (if σ a 2 = 0 then -1000000011 else if σ a 2 = t then -1000000005 else -1000000012, σ) := by
  unfold J115
  split
  · rfl
  · split <;> rfl
theorem op_ask (x y : Int32) : Op (J114 x y) (J209 x y) := by
  intro σ h
  obtain ⟨hS, hdy, hc, hl, hi⟩ := h.1
  have h12 := hS.1.1.2
  have bad : ∀ r, J114 x y σ = some (r, σ) → J209 x y σ = some (r, σ) → ∃ r σ1 σ2, J114 x y σ = some (r, σ1) ∧ J209 x y σ1 = some (r, σ2) ∧ Iv σ2 ∧ σ1 2000 = σ 2000 ∧ σ2 2000 = σ 2000 := fun r e1 e2 => Op_ga h e1 e2 (fp_rf _ _) (fr_rf _ _)
  by_cases h1 : ¬(0 ≤ x ∧ x ≤ 4)
  · apply bad (-1000000001)
    · unfold J114
      rw [c112, Option.bind_some, i_b2, if_neg h1]
    · unfold J209
      rw [m208, Option.bind_some, i_b2, if_neg h1]
  replace h1 := Classical.not_not.mp h1
  by_cases h2 : ¬(0 ≤ y ∧ y ≤ 5)
  · apply bad (-1000000001)
    · unfold J114
      rw [c112, Option.bind_some, i_b2, if_pos h1, c2, Option.bind_some, i_b2, if_neg h2]
    · unfold J209
      rw [m208, Option.bind_some, i_b2, if_pos h1, m125, Option.bind_some, i_b2, if_neg h2]
  replace h2 := Classical.not_not.mp h2
  obtain ⟨s, hs, rfl⟩ := n_rngI (n := 4) (by omega) h1.1 h1.2
  obtain ⟨k, hk, rfl⟩ := n_rngI (n := 5) (by omega) h2.1 h2.2
  obtain ⟨e2, e3⟩ := h.2.2.2.2.1 s (by omega)
  have eC : ∀ v : Int32, J115 (61 + 4 * s) 1 σ = some (v, σ) → J114 (In s) (In k) σ = if v = -1000000005 then ((J24 (62 + 4 * s) (In k) σ).bind fun p4 => if p4.1 = 0 then some (-1000000012, p4.2) else ((J18 (62 + 4 * s) p4.2).bind fun p5 => some (p5.1, p5.2))) else some (v, σ) := by
    intro v hv
    unfold J114
    rw [c112, Option.bind_some, i_b2, if_pos h1, c2, Option.bind_some, i_b2, if_pos h2]
    dsimp only
    rw [if_pos (ib_n (by omega) (by omega)), n_ix (by omega), hv, Option.bind_some, show 61 + 4 * s + 1 = 62 + 4 * s by omega]
    dsimp only
    rw [if_pos (ib_n (by omega) (by omega))]
  have eR : J209 (In s) (In k) σ = if σ 156 s = 0 then some (-1000000011, σ) else if σ 156 s = 1 then (if hy_ib (In s) 5 then (J147 (σ 157 s) (In k) σ).bind (fun p3 => if p3.1 = 0 then some (-1000000012, p3.2) else (if hy_ib (In s) 5 then some (p3.2 158 s, p3.2) else none)) else none) else some (-1000000012, σ) := by
    unfold J209
    rw [m208, Option.bind_some, i_b2, if_pos h1, m125, Option.bind_some, i_b2, if_pos h2]
    dsimp only
    rw [if_pos (ib_n (by omega) (by omega)), n_ix (by omega)]
    by_cases q0 : σ 156 s = 0
    · rw [if_pos q0, if_pos q0]
    · rw [if_neg q0, if_neg q0, if_pos (ib_n (by omega) (by omega))]
  rcases e3 with q | ⟨q, kd, hk5, z1, z2, z3⟩ | ⟨q, -⟩ | ⟨q, -⟩
  · exact bad (-1000000011) (by rw [eC (-1000000011) (by rw [c115, e2, q]; rfl), if_neg (by decide)]) (by rw [eR, if_pos q])
  · have q0 : ¬ σ 156 s = 0 := by rw [q]; decide
    apply bad (if unB kd k = true then wrK kd (σ (62 + 4 * s) 3) else -1000000012)
    · rw [eC (-1000000005) (by rw [c115, e2, q]; rfl), if_pos rfl, c24 z1 hk5 hk, Option.bind_some, i_bb]
      dsimp only
      rw [c18 z1 hk5, Option.bind_some]
      split <;> rfl
    · rw [eR, if_neg q0, if_pos q, if_pos (ib_n (by omega) (by omega)), z2, m147 hk5 hk, Option.bind_some, i_bb]
      dsimp only
      rw [if_pos (ib_n (by omega) (by omega)), z3]
      split <;> rfl
  · have q0 : ¬ σ 156 s = 0 := by rw [q]; decide
    have q1 : ¬ σ 156 s = 1 := by rw [q]; decide
    exact bad (-1000000012) (by rw [eC (-1000000012) (by rw [c115, e2, q]; rfl), if_neg (by decide)]) (by rw [eR, if_neg q0, if_neg q1])
  · have q0 : ¬ σ 156 s = 0 := by rw [q]; decide
    have q1 : ¬ σ 156 s = 1 := by rw [q]; decide
    exact bad (-1000000012) (by rw [eC (-1000000012) (by rw [c115, e2, q]; rfl), if_neg (by decide)]) (by rw [eR, if_neg q0, if_neg q1])
theorem op_item (x y : Int32) : Op (J116 x y) (J210 x y) := by
  intro σ h
  obtain ⟨hS, hdy, hc, hl, hi⟩ := h.1
  have h12 := hS.1.1.2
  have bad : ∀ r, J116 x y σ = some (r, σ) → J210 x y σ = some (r, σ) → ∃ r σ1 σ2, J116 x y σ = some (r, σ1) ∧ J210 x y σ1 = some (r, σ2) ∧ Iv σ2 ∧ σ1 2000 = σ 2000 ∧ σ2 2000 = σ 2000 := fun r e1 e2 => Op_ga h e1 e2 (fp_rf _ _) (fr_rf _ _)
  by_cases h1 : ¬(0 ≤ x ∧ x ≤ 4)
  · apply bad (-1000000001)
    · unfold J116
      rw [c112, Option.bind_some, i_b2, if_neg h1]
    · unfold J210
      rw [m208, Option.bind_some, i_b2, if_neg h1]
  replace h1 := Classical.not_not.mp h1
  obtain ⟨s, hs, rfl⟩ := n_rngI (n := 4) (by omega) h1.1 h1.2
  obtain ⟨e2, e3⟩ := h.2.2.2.2.1 s (by omega)
  have eC : ∀ v : Int32, J115 (61 + 4 * s) 2 σ = some (v, σ) → v ≠ -1000000005 → J116 (In s) y σ = some (v, σ) := by
    intro v hv hne
    unfold J116
    rw [c112, Option.bind_some, i_b2, if_pos h1]
    dsimp only
    rw [if_pos (ib_n (by omega) (by omega)), n_ix (by omega), hv, Option.bind_some]
    dsimp only
    rw [if_neg hne]
  have eR : ∀ t : Int32, σ 156 s = t → t ≠ 0 → t ≠ 2 → J210 (In s) y σ = some (-1000000012, σ) := by
    intro t ht t0 t2
    unfold J210
    rw [m208, Option.bind_some, i_b2, if_pos h1]
    dsimp only
    rw [if_pos (ib_n (by omega) (by omega)), n_ix (by omega), if_neg (show ¬ σ 156 s = 0 by rw [ht]; exact t0), if_pos (ib_n (by omega) (by omega)), if_neg (show ¬ σ 156 s = 2 by rw [ht]; exact t2)]
  rcases e3 with q | ⟨q, -⟩ | ⟨q, n, hn, z1, z2, z3⟩ | ⟨q, -⟩
  · apply bad (-1000000011)
    · exact eC _ (by rw [c115, e2, q]; rfl) (by decide)
    · unfold J210
      rw [m208, Option.bind_some, i_b2, if_pos h1]
      dsimp only
      rw [if_pos (ib_n (by omega) (by omega)), n_ix (by omega), if_pos q]
  · exact bad (-1000000012) (eC _ (by rw [c115, e2, q]; rfl) (by decide)) (eR 1 q (by decide) (by decide))
  · have q0 : ¬ σ 156 s = 0 := by rw [q]; decide
    have eC2 : J116 (In s) y σ = if 0 ≤ y ∧ y ≤ In n - 1 then ((J72 (63 + 4 * s) y σ).bind fun p4 => if p4.1 = 0 then some (-1000000012, p4.2) else (if hy_ib y 24 then some (p4.2 (63 + 4 * s + 1) (hy_ix y), p4.2) else none)) else some (-1000000013, σ) := by
      unfold J116
      rw [c112, Option.bind_some, i_b2, if_pos h1]
      dsimp only
      rw [if_pos (ib_n (by omega) (by omega)), n_ix (by omega), show J115 (61 + 4 * s) 2 σ = some (-1000000005, σ) by rw [c115, e2, q]; rfl, Option.bind_some, show 61 + 4 * s + 2 = 63 + 4 * s by omega]
      dsimp only
      rw [if_pos rfl, if_pos (ib_n (by omega) (by omega)), c73 _ z1, Option.bind_some, i_b2]
    have eR2 : J210 (In s) y σ = if 0 ≤ y ∧ y ≤ In n - 1 then (if hy_ib (24 * In s + y) 120 then (if σ 159 (hy_ix (24 * In s + y)) = -1000000005 then some (-1000000012, σ) else some (σ 159 (hy_ix (24 * In s + y)), σ)) else none) else some (-1000000013, σ) := by
      unfold J210
      rw [m208, Option.bind_some, i_b2, if_pos h1]
      dsimp only
      rw [if_pos (ib_n (by omega) (by omega)), n_ix (by omega), if_neg q0, if_pos (ib_n (by omega) (by omega)), if_pos q, if_pos (ib_n (by omega) (by omega)), z2, m125, Option.bind_some, i_b2]
    by_cases h3 : ¬(0 ≤ y ∧ y ≤ In n - 1)
    · exact bad (-1000000013) (by rw [eC2, if_neg h3]) (by rw [eR2, if_neg h3])
    replace h3 := Classical.not_not.mp h3
    obtain ⟨p, hp, rfl⟩ := n_rng (n := n) (by omega) h3.1 h3.2
    apply bad (if σ 159 (24 * s + p) = -1000000005 then -1000000012 else σ 159 (24 * s + p))
    · rw [eC2, if_pos h3, c72 z1 hn (by omega), Option.bind_some, i_bb]
      dsimp only
      rw [if_pos (ib_n (by omega) (by omega)), n_ix (by omega), show 63 + 4 * s + 1 = 64 + 4 * s by omega, z3 p (by omega), decide_eq_true hp, Bool.true_and]
      by_cases q9 : σ 159 (24 * s + p) = -1000000005
      · rw [if_pos q9, if_neg (by simp [q9])]
      · rw [if_neg q9, if_pos (by simp [q9])]
    · rw [eR2, if_pos h3, i24, if_pos (ib_n (by omega) (by omega)), n_ix (by omega)]
      split <;> rfl
  · exact bad (-1000000012) (eC _ (by rw [c115, e2, q]; rfl) (by decide)) (eR 3 q (by decide) (by decide))
theorem rem_m1 (x : Int32) : hy_rem x (-1) = 0 := by
  have hd : x / -1 = -x := by
    apply Int32.toInt_inj.mp
    rw [Int32.toInt_div, show (-1 : Int32).toInt = -1 from rfl, Int.tdiv_neg, Int.tdiv_one, Int32.toInt_neg]
  unfold hy_rem
  rw [hd, Int32.mul_neg, Int32.mul_one, Int32.neg_neg, Int32.sub_self]
theorem op_rest (x y : Int32) : Op (J117 x y) (J211 x y) := by
  intro σ h
  obtain ⟨hS, hdy, hc, hl, hi⟩ := h.1
  have h12 := hS.1.1.2
  have bad : ∀ r, J117 x y σ = some (r, σ) → J211 x y σ = some (r, σ) → ∃ r σ1 σ2, J117 x y σ = some (r, σ1) ∧ J211 x y σ1 = some (r, σ2) ∧ Iv σ2 ∧ σ1 2000 = σ 2000 ∧ σ2 2000 = σ 2000 := fun r e1 e2 => Op_ga h e1 e2 (fp_rf _ _) (fr_rf _ _)
  by_cases h1 : ¬(0 ≤ x ∧ x ≤ 4)
  · apply bad (-1000000001)
    · unfold J117
      rw [c112, Option.bind_some, i_b2, if_neg h1]
    · unfold J211
      rw [m208, Option.bind_some, i_b2, if_neg h1]
  replace h1 := Classical.not_not.mp h1
  obtain ⟨s, hs, rfl⟩ := n_rngI (n := 4) (by omega) h1.1 h1.2
  obtain ⟨e2, e3⟩ := h.2.2.2.2.1 s (by omega)
  have eC : ∀ v : Int32, J115 (61 + 4 * s) 3 σ = some (v, σ) → v ≠ -1000000005 → J117 (In s) y σ = some (v, σ) := by
    intro v hv hne
    unfold J117
    rw [c112, Option.bind_some, i_b2, if_pos h1]
    dsimp only
    rw [if_pos (ib_n (by omega) (by omega)), n_ix (by omega), hv, Option.bind_some]
    dsimp only
    rw [if_neg hne]
  have eR : ∀ t : Int32, σ 156 s = t → t ≠ 0 → t ≠ 3 → J211 (In s) y σ = some (-1000000012, σ) := by
    intro t ht t0 t2
    unfold J211
    rw [m208, Option.bind_some, i_b2, if_pos h1]
    dsimp only
    rw [if_pos (ib_n (by omega) (by omega)), n_ix (by omega), if_neg (show ¬ σ 156 s = 0 by rw [ht]; exact t0), if_pos (ib_n (by omega) (by omega)), if_neg (show ¬ σ 156 s = 3 by rw [ht]; exact t2)]
  rcases e3 with q | ⟨q, -⟩ | ⟨q, -⟩ | ⟨q, z1⟩
  · apply bad (-1000000011)
    · exact eC _ (by rw [c115, e2, q]; rfl) (by decide)
    · unfold J211
      rw [m208, Option.bind_some, i_b2, if_pos h1]
      dsimp only
      rw [if_pos (ib_n (by omega) (by omega)), n_ix (by omega), if_pos q]
  · exact bad (-1000000012) (eC _ (by rw [c115, e2, q]; rfl) (by decide)) (eR 1 q (by decide) (by decide))
  · exact bad (-1000000012) (eC _ (by rw [c115, e2, q]; rfl) (by decide)) (eR 2 q (by decide) (by decide))
  · have q0 : ¬ σ 156 s = 0 := by rw [q]; decide
    apply bad (if y = 0 then -1000000002 else hy_rem (σ 157 s) y)
    · unfold J117
      rw [c112, Option.bind_some, i_b2, if_pos h1]
      dsimp only
      rw [if_pos (ib_n (by omega) (by omega)), n_ix (by omega), show J115 (61 + 4 * s) 3 σ = some (-1000000005, σ) by rw [c115, e2, q]; rfl, Option.bind_some]
      dsimp only
      rw [if_pos rfl, if_pos (ib_n (by omega) (by omega)), z1]
      by_cases y0 : y = 0
      · rw [if_pos y0, if_pos y0]
      · rw [if_neg y0, if_neg y0, if_neg y0]
    · unfold J211
      rw [m208, Option.bind_some, i_b2, if_pos h1]
      dsimp only
      rw [if_pos (ib_n (by omega) (by omega)), n_ix (by omega), if_neg q0, if_pos (ib_n (by omega) (by omega)), if_pos q, if_pos (ib_n (by omega) (by omega))]
      by_cases y0 : y = 0
      · rw [if_pos y0, if_pos y0]
      · rw [if_neg y0, if_neg y0, if_neg y0]
        by_cases y1 : y = -1
        · rw [if_pos y1, y1, rem_m1]
        · rw [if_neg y1]
theorem Iv_sl {σ τ : Sg} {i : Nat} (h : Iv σ) (hi : i < 5) (h1 : ∀ a, ¬ ((61 + 4 * i ≤ a ∧ a ≤ 64 + 4 * i) ∨ (156 ≤ a ∧ a ≤ 159)) → τ a = σ a) (h2 : ∀ j, j < 5 → j ≠ i → τ 156 j = σ 156 j ∧ τ 157 j = σ 157 j ∧ τ 158 j = σ 158 j ∧ ∀ k, k < 24 → τ 159 (24 * j + k) = σ 159 (24 * j + k)) (h3 : τ (61 + 4 * i) 2 = τ 156 i ∧ (τ 156 i = 0 ∨ (τ 156 i = 1 ∧ ∃ k, k ≤ 5 ∧ τ (62 + 4 * i) 0 = In k ∧ τ 157 i = In k ∧ τ 158 i = wrK k (τ (62 + 4 * i) 3)) ∨ (τ 156 i = 2 ∧ ∃ n, n ≤ 24 ∧ τ (63 + 4 * i) 2 = In n ∧ τ 157 i = In n ∧ ∀ k, k < 24 → τ (64 + 4 * i) k = τ 159 (24 * i + k)) ∨ (τ 156 i = 3 ∧ τ (61 + 4 * i) 3 = τ 157 i))) : Iv τ := by
  refine Iv_parts h (fun a => (61 + 4 * i ≤ a ∧ a ≤ 64 + 4 * i) ∨ (156 ≤ a ∧ a ≤ 159)) (fun a ha => by omega) h1 (Iv_d_c h.2.2.2.1 (fun a q1 q2 => h1 a (by omega)) fun a q1 q2 => h1 a (by omega)) (fun j hj => ?_)
  by_cases e : j = i
  · subst e
    exact h3
  · obtain ⟨z1, z2, z3, z4⟩ := h2 j hj e
    rw [h1 (61 + 4 * j) (by omega), h1 (62 + 4 * j) (by omega), h1 (63 + 4 * j) (by omega), h1 (64 + 4 * j) (by omega), z1, z2, z3]
    obtain ⟨d1, d2⟩ := h.2.2.2.2.1 j hj
    refine ⟨d1, ?_⟩
    rcases d2 with d | d | ⟨d, n, hn, y1, y2, y3⟩ | d
    · exact Or.inl d
    · exact Or.inr (Or.inl d)
    · exact Or.inr (Or.inr (Or.inl ⟨d, n, hn, y1, y2, fun k hk => by rw [z4 k hk]; exact y3 k hk⟩))
    · exact Or.inr (Or.inr (Or.inr d))
theorem m207_n {τ : Sg} {x1 x2 x3 x4 : Int32} (h : x2 ≠ 2) : J207_10 hy_fu x1 x2 x3 x4 0 τ = some (x4, τ) := by
  unfold hy_fu J207_10
  rw [if_neg (by decide), if_neg h]
theorem m207_loop {s k : Nat} (hs : s < 5) (hk : k < 4) (x4 : Int32) : ∀ (m i f : Nat) (τ : Sg), i + m = 24 → m < f → J207_10 f (In s) 2 (In k) x4 (In i) τ = some (x4, sr τ 159 (fun j => if 24 * s + i ≤ j ∧ j < 24 * s + 24 then τ 155 (24 * k + (j - 24 * s)) else τ 159 j)) := by
  intro m
  induction m with
  | zero =>
    intro i f τ hi hf
    obtain ⟨f, rfl⟩ : ∃ g, f = g + 1 := ⟨f - 1, by omega⟩
    unfold J207_10
    rw [show (24 : Int32) = In 24 from rfl, i_le (by omega) (by omega), if_pos (by omega)]
    congr 2
    funext a j
    by_cases h : a = 159
    · subst h
      rw [sr_at, if_neg (by omega)]
    · rw [sr_ne _ _ h]
  | succ m ih =>
    intro i f τ hi hf
    obtain ⟨f, rfl⟩ : ∃ g, f = g + 1 := ⟨f - 1, by omega⟩
    unfold J207_10
    rw [i24, i24, if_neg (show ¬ (24 : Int32) ≤ In i by show ¬ In 24 ≤ In i; rw [n_le (by omega) (by omega)]; omega), if_pos rfl, if_pos (ib_n (by omega) (by omega)), if_pos (ib_n (by omega) (by omega)), n_ix (by omega), n_ix (by omega), n_p1, ih (i + 1) f _ (by omega) (by omega)]
    congr 2
    funext a j
    by_cases h : a = 159
    · subst h
      rw [sr_at, sr_at, up_same, up_ne _ _ _ (by omega)]
      by_cases h1 : 24 * s + (i + 1) ≤ j ∧ j < 24 * s + 24
      · rw [if_pos h1, if_pos (by omega)]
      · rw [if_neg h1]
        by_cases h2 : j = 24 * s + i
        · subst h2
          rw [upd_at, if_pos (by omega), show 24 * s + i - 24 * s = i by omega]
        · rw [upd_ne _ _ h2, if_neg (by omega)]
    · rw [sr_ne _ _ h, sr_ne _ _ h, up_ne _ _ _ h]
theorem op_lay (x y z : Int32) : Op (J111 x y z) (J207 x y z) := by
  intro σ h
  obtain ⟨hS, hdy, hc, hl, hi⟩ := h.1
  have h12 := hS.1.1.2
  have bad : ∀ r, J111 x y z σ = some (r, σ) → J207 x y z σ = some (r, σ) → ∃ r σ1 σ2, J111 x y z σ = some (r, σ1) ∧ J207 x y z σ1 = some (r, σ2) ∧ Iv σ2 ∧ σ1 2000 = σ 2000 ∧ σ2 2000 = σ 2000 := fun r e1 e2 => Op_ga h e1 e2 (fp_rf _ _) (fr_rf _ _)
  by_cases h1 : ¬(0 ≤ x ∧ x ≤ 4)
  · apply bad (-1000000001)
    · unfold J111
      rw [c112, Option.bind_some, i_b2, if_neg h1]
    · unfold J207
      rw [m208, Option.bind_some, i_b2, if_neg h1]
  replace h1 := Classical.not_not.mp h1
  by_cases h2 : ¬(0 ≤ y ∧ y ≤ 3)
  · apply bad (-1000000001)
    · unfold J111
      rw [c112, Option.bind_some, i_b2, if_pos h1, c3, Option.bind_some, i_b2, if_neg h2]
    · unfold J207
      rw [m208, Option.bind_some, i_b2, if_pos h1, m125, Option.bind_some, i_b2, if_neg h2]
  replace h2 := Classical.not_not.mp h2
  obtain ⟨i, hi, rfl⟩ := n_rngI (n := 4) (by omega) h1.1 h1.2
  obtain ⟨w, hw, rfl⟩ := n_rngI (n := 3) (by omega) h2.1 h2.2
  obtain ⟨e2, e3⟩ := h.2.2.2.2.1 i (by omega)
  have bads : ∀ r, J111 (In i) (In w) z σ = some (r, σ) → J207 (In i) (In w) z σ = some (r, σ) → ∃ r σ1 σ2, J111 (In i) (In w) z σ = some (r, σ1) ∧ J207 (In i) (In w) z σ1 = some (r, σ2) ∧ Iv σ2 ∧ σ1 2000 = σ 2000 ∧ σ2 2000 = σ 2000 := bad
  have eC0 : J111 (In i) (In w) z σ = if In w = 1 then (if 0 ≤ z ∧ z ≤ σ 139 1 - 1 then (if hy_ib z 12 then (J50 (62 + 4 * i) (88 + hy_ix z) σ).bind (fun σ11 => J111_4 (In w) z (61 + 4 * i) σ11) else none) else some (-1000000001, σ)) else J111_4 (In w) z (61 + 4 * i) σ := by
    unfold J111
    rw [c112, Option.bind_some, i_b2, if_pos h1, c3, Option.bind_some, i_b2, if_pos h2]
    dsimp only
    rw [if_pos (ib_n (by omega) (by omega)), n_ix (by omega), c11, Option.bind_some, hc.1.1, i_b2, show 61 + 4 * i + 1 = 62 + 4 * i by omega]
  have eR0 : ∀ τ : Sg, τ 139 = σ 139 → J207 (In i) (In w) z τ = if In w = 1 then (if 0 ≤ z ∧ z ≤ σ 139 1 - 1 then J207_1 (In i) (In w) z τ else some (-1000000001, τ)) else J207_1 (In i) (In w) z τ := by
    intro τ hτ
    unfold J207
    rw [m208, Option.bind_some, i_b2, if_pos h1, m125, Option.bind_some, i_b2, if_pos h2]
    dsimp only
    rw [m132, Option.bind_some, hτ, i_b2]
  match w, hw with
  | 0, _ =>
    refine ⟨σ 156 i, hy_up σ (61 + 4 * i) 2 0, hy_up (hy_up (hy_up (hy_up σ (61 + 4 * i) 2 0) 156 i 0) 157 i z) 158 i 0, ?_, ?_, ?_, up_ne _ _ _ (by omega), ?_⟩
    · rw [eC0, if_neg (by decide)]
      unfold J111_4 J111_7 J111_8
      rw [if_neg (by decide), if_neg (by decide), e2]
      rfl
    · rw [eR0 _ (up_ne _ _ _ (by omega)), if_neg (by decide)]
      unfold J207_1 J207_3 J207_4 J207_7 J207_9
      rw [if_neg (by decide), if_neg (by decide), if_pos (ib_n (by omega) (by omega)), if_pos (ib_n (by omega) (by omega)), if_neg (by decide), if_neg (by decide), if_pos (ib_n (by omega) (by omega)), if_neg (by decide), if_pos (ib_n (by omega) (by omega)), n_ix (by omega), m207_n (by decide), up_ne _ _ _ (show (156 : Nat) ≠ 61 + 4 * i by omega)]
      rfl
    · refine Iv_sl (i := i) h (by omega) (fun a ha => ?_) (fun j hj hji => ⟨?_, ?_, ?_, fun k hk => ?_⟩) ⟨?_, Or.inl ?_⟩
      · rw [up_ne _ _ _ (by omega), up_ne _ _ _ (by omega), up_ne _ _ _ (by omega), up_ne _ _ _ (by omega)]
      · rw [up_ne _ _ _ (by omega), up_ne _ _ _ (by omega), up_same, upd_ne _ _ hji, up_ne _ _ _ (by omega)]
      · rw [up_ne _ _ _ (by omega), up_same, upd_ne _ _ hji, up_ne _ _ _ (by omega), up_ne _ _ _ (by omega)]
      · rw [up_same, upd_ne _ _ hji, up_ne _ _ _ (by omega), up_ne _ _ _ (by omega), up_ne _ _ _ (by omega)]
      · rw [up_ne _ _ _ (by omega), up_ne _ _ _ (by omega), up_ne _ _ _ (by omega), up_ne _ _ _ (by omega)]
      · simp (disch := omega) only [up_ne, up_same, upd_at]
      · simp (disch := omega) only [up_ne, up_same, upd_at]
    · simp (disch := omega) only [up_ne]
  | 1, _ =>
    by_cases h3 : ¬(0 ≤ z ∧ z ≤ σ 139 1 - 1)
    · exact bads (-1000000001) (by rw [eC0, if_pos (show In 1 = 1 from rfl), if_neg h3]) (by rw [eR0 σ rfl, if_pos (show In 1 = 1 from rfl), if_neg h3])
    replace h3 := Classical.not_not.mp h3
    obtain ⟨b, hb, rfl⟩ := n_rng (n := nb (σ 139)) (by omega) h3.1 (by rw [← hS.1.1.1]; exact h3.2)
    obtain ⟨⟨k1, k2⟩, -, -, -⟩ := hS.1.2.1 b hb
    obtain ⟨σ1, a1, a2, a3⟩ := c50 σ (a := 62 + 4 * i) (b := 88 + b) (by omega)
    have g : ∀ a, a ≠ 62 + 4 * i → σ1 a = σ a := fun a ha => a3 a ha
    refine ⟨σ 156 i, hy_up σ1 (61 + 4 * i) 2 1, hy_up (hy_up (hy_up (hy_up σ1 (61 + 4 * i) 2 1) 156 i 1) 157 i (In (bf (σ 139) b 0))) 158 i (wrK (bf (σ 139) b 0) (σ 139 (7 + 6 * b + 3))), ?_, ?_, ?_, ?_, ?_⟩
    · rw [eC0, if_pos (show In 1 = 1 from rfl), if_pos h3, if_pos (ib_n (by omega) (by omega)), n_ix (by omega), a1, Option.bind_some]
      unfold J111_4 J111_7 J111_8
      rw [if_neg (by decide), if_neg (by decide), g _ (by omega), e2]
      rfl
    · have t139 : hy_up σ1 (61 + 4 * i) 2 1 139 = σ 139 := by rw [up_ne _ _ _ (by omega), g _ (by omega)]
      have t156 : hy_up σ1 (61 + 4 * i) 2 1 156 = σ 156 := by rw [up_ne _ _ _ (by omega), g _ (by omega)]
      rw [eR0 _ t139, if_pos (show In 1 = 1 from rfl), if_pos h3]
      unfold J207_1 J207_3 J207_4
      rw [if_neg (by decide), if_neg (by decide), if_pos (ib_n (by omega) (by omega)), if_pos (ib_n (by omega) (by omega)), if_pos (show In 1 = 1 from rfl), n_ix (by omega), t156]
      generalize hA : hy_up (hy_up σ1 (61 + 4 * i) 2 1) 156 i (In 1) = A
      have A139 : A 139 = σ 139 := by rw [← hA, up_ne _ _ _ (by omega)]; exact t139
      rw [show J128 (In b) 0 A = _ from m128 (w := 0) (by omega) A, Option.bind_some, A139, k1]
      dsimp only
      unfold J207_7
      rw [if_pos (ib_n (by omega) (by omega)), if_pos (show In 1 = 1 from rfl), n_ix (by omega)]
      have B139 : hy_up A 157 i (In (bf (σ 139) b 0)) 139 = σ 139 := by rw [up_ne _ _ _ (by omega)]; exact A139
      rw [m139 (by rw [B139]; exact hS.1) (by rw [B139]; exact hb), Option.bind_some, B139]
      dsimp only
      unfold J207_9
      rw [if_pos (ib_n (by omega) (by omega)), n_ix (by omega), m207_n (by decide), ← hA]
    · refine Iv_sl (i := i) h (by omega) (fun a ha => ?_) (fun j hj hji => ⟨?_, ?_, ?_, fun k hk => ?_⟩) ⟨?_, Or.inr (Or.inl ⟨?_, bf (σ 139) b 0, k2, ?_, ?_, ?_⟩)⟩
      · rw [up_ne _ _ _ (by omega), up_ne _ _ _ (by omega), up_ne _ _ _ (by omega), up_ne _ _ _ (by omega), g _ (by omega)]
      · rw [up_ne _ _ _ (by omega), up_ne _ _ _ (by omega), up_same, upd_ne _ _ hji, up_ne _ _ _ (by omega), g _ (by omega)]
      · rw [up_ne _ _ _ (by omega), up_same, upd_ne _ _ hji, up_ne _ _ _ (by omega), up_ne _ _ _ (by omega), g _ (by omega)]
      · rw [up_same, upd_ne _ _ hji, up_ne _ _ _ (by omega), up_ne _ _ _ (by omega), up_ne _ _ _ (by omega), g _ (by omega)]
      · rw [up_ne _ _ _ (by omega), up_ne _ _ _ (by omega), up_ne _ _ _ (by omega), up_ne _ _ _ (by omega), g _ (by omega)]
      · simp (disch := omega) only [up_ne, up_same, upd_at]
      · simp (disch := omega) only [up_ne, up_same, upd_at]
      · simp (disch := omega) only [up_ne]
        rw [a2 0 (by omega), rc81 hc hb (by omega), k1]
      · simp (disch := omega) only [up_ne, up_same, upd_at]
      · simp (disch := omega) only [up_ne, up_same, upd_at]
        rw [a2 3 (by omega), rc81 hc hb (by omega)]
    · rw [up_ne _ _ _ (by omega), g _ (by omega)]
    · simp (disch := omega) only [up_ne]
      exact g _ (by omega)
  | 2, _ =>
    by_cases h3 : ¬(0 ≤ z ∧ z ≤ 3)
    · apply bads (-1000000001)
      · rw [eC0, if_neg (by decide)]
        unfold J111_4
        rw [if_pos (show In 2 = 2 from rfl), c69, Option.bind_some, i_b2, if_neg h3]
      · rw [eR0 σ rfl, if_neg (by decide)]
        unfold J207_1
        rw [if_pos (show In 2 = 2 from rfl), m182, Option.bind_some, i_b2, if_neg h3]
    replace h3 := Classical.not_not.mp h3
    obtain ⟨k, hk, rfl⟩ := n_rngI (n := 3) (by omega) h3.1 h3.2
    obtain ⟨d1, d2, ⟨n, hn, d3, d4⟩, d5⟩ := h.2.2.2.1 k (by omega)
    obtain ⟨s1, s2⟩ := sort_c d2
    by_cases h4 : σ 153 k = -1
    · apply bads (-1000000011)
      · rw [eC0, if_neg (by decide)]
        unfold J111_4
        rw [if_pos (show In 2 = 2 from rfl), c69, Option.bind_some, i_b2, if_pos h3]
        dsimp only
        rw [if_pos (ib_n (by omega) (by omega)), n_ix (by omega), c70, Option.bind_some, i_b2, d1, if_pos h4]
      · rw [eR0 σ rfl, if_neg (by decide)]
        unfold J207_1 J207_3
        rw [if_pos (show In 2 = 2 from rfl), m182, Option.bind_some, i_b2, if_pos h3]
        dsimp only
        rw [if_pos (show In 2 = 2 from rfl), if_pos (ib_n (by omega) (by omega)), n_ix (by omega), if_neg (s1.mp h4)]
    have h0 : 0 ≤ σ 153 k := Classical.not_not.mp fun q => h4 (s1.mpr q)
    -- the class: the sheet's row comes to the slot's
    have e113 : ∃ σ1, J113 (63 + 4 * i) (53 + 2 * k) σ = some σ1 ∧ σ1 (63 + 4 * i) 2 = In n ∧ (∀ j, j < 24 → σ1 (64 + 4 * i) j = σ 155 (24 * k + j)) ∧ (∀ a, a ≠ 63 + 4 * i → a ≠ 64 + 4 * i → σ1 a = σ a) := by
      unfold J113
      rw [if_pos (by decide), show 53 + 2 * k + 1 = 54 + 2 * k by omega, show 63 + 4 * i + 1 = 64 + 4 * i by omega]
      refine ⟨_, rfl, ?_, fun j hj => ?_, fun a q1 q2 => ?_⟩
      · rw [up_same, upd_at, up_ne _ _ _ (by omega), cps_ne _ _ _ _ (by omega)]
        exact d3
      · rw [up_ne _ _ _ (by omega), up_ne _ _ _ (by omega), show (24 : Int32) = In 24 from rfl, cps_at _ _ _ (by omega) hj]
        exact (d5 j hj).1
      · rw [up_ne _ _ _ q1, up_ne _ _ _ q1, cps_ne _ _ _ _ q2]
    obtain ⟨σ1, a1, a2, a3, a4⟩ := e113
    generalize hB : hy_up (hy_up (hy_up (hy_up σ1 (61 + 4 * i) 2 2) 156 i 2) 157 i (In n)) 158 i 0 = B
    have gB : ∀ a, a ≠ 61 + 4 * i → a ≠ 63 + 4 * i → a ≠ 64 + 4 * i → ¬ (156 ≤ a ∧ a ≤ 158) → B a = σ a := by
      intro a q1 q2 q3 q4
      rw [← hB, up_ne _ _ _ (by omega), up_ne _ _ _ (by omega), up_ne _ _ _ (by omega), up_ne _ _ _ q1, a4 a q2 q3]
    generalize hD : sr B 159 (fun j => if 24 * i + 0 ≤ j ∧ j < 24 * i + 24 then B 155 (24 * k + (j - 24 * i)) else B 159 j) = D
    have gD : ∀ a, a ≠ 159 → D a = B a := fun a ha => by rw [← hD, sr_ne _ _ ha]
    have D159 : ∀ j, D 159 j = if 24 * i + 0 ≤ j ∧ j < 24 * i + 24 then σ 155 (24 * k + (j - 24 * i)) else σ 159 j := by
      intro j
      rw [← hD, sr_at, gB 155 (by omega) (by omega) (by omega) (by omega), gB 159 (by omega) (by omega) (by omega) (by omega)]
    refine ⟨σ 156 i, hy_up σ1 (61 + 4 * i) 2 2, D, ?_, ?_, ?_, ?_, ?_⟩
    · rw [eC0, if_neg (by decide)]
      unfold J111_4
      rw [if_pos (show In 2 = 2 from rfl), c69, Option.bind_some, i_b2, if_pos h3]
      dsimp only
      rw [if_pos (ib_n (by omega) (by omega)), n_ix (by omega), c70, Option.bind_some, i_b2, d1, if_neg h4, show 61 + 4 * i + 2 = 63 + 4 * i by omega, if_pos (ib_n (by omega) (by omega)), a1, Option.bind_some]
      unfold J111_7 J111_8
      rw [if_neg (by decide), a4 _ (by omega) (by omega), e2]
      rfl
    · have t139 : hy_up σ1 (61 + 4 * i) 2 2 139 = σ 139 := by rw [up_ne _ _ _ (by omega), a4 _ (by omega) (by omega)]
      have t153 : hy_up σ1 (61 + 4 * i) 2 2 153 = σ 153 := by rw [up_ne _ _ _ (by omega), a4 _ (by omega) (by omega)]
      have t154 : hy_up σ1 (61 + 4 * i) 2 2 154 = σ 154 := by rw [up_ne _ _ _ (by omega), a4 _ (by omega) (by omega)]
      have t156 : hy_up σ1 (61 + 4 * i) 2 2 156 = σ 156 := by rw [up_ne _ _ _ (by omega), a4 _ (by omega) (by omega)]
      rw [eR0 _ t139, if_neg (by decide)]
      unfold J207_1 J207_3
      rw [if_pos (show In 2 = 2 from rfl), m182, Option.bind_some, i_b2, if_pos h3]
      dsimp only
      rw [if_pos (show In 2 = 2 from rfl), if_pos (ib_n (by omega) (by omega)), n_ix (by omega), if_pos (show 0 ≤ hy_up σ1 (61 + 4 * i) 2 2 153 k by rw [t153]; exact h0)]
      unfold J207_4
      rw [if_pos (ib_n (by omega) (by omega)), if_pos (ib_n (by omega) (by omega)), if_neg (by decide), if_pos (show In 2 = 2 from rfl), if_pos (ib_n (by omega) (by omega)), n_ix (by omega), n_ix (by omega), t156, up_ne _ _ _ (show (154 : Nat) ≠ 156 by omega), t154, d4]
      unfold J207_7 J207_9
      rw [if_pos (ib_n (by omega) (by omega)), if_neg (by decide), if_pos (ib_n (by omega) (by omega)), n_ix (by omega), show hy_up (hy_up (hy_up (hy_up σ1 (61 + 4 * i) 2 2) 156 i (In 2)) 157 i (In n)) 158 i 0 = B from hB, show J207_10 hy_fu (In i) (In 2) (In k) (σ 156 i) 0 B = _ from m207_loop (by omega) (by omega) _ 24 0 hy_fu B (by omega) (by unfold hy_fu; omega), hD]
    · refine Iv_sl (i := i) h (by omega) (fun a ha => ?_) (fun j hj hji => ⟨?_, ?_, ?_, fun k' hk' => ?_⟩) ⟨?_, Or.inr (Or.inr (Or.inl ⟨?_, n, hn, ?_, ?_, fun k' hk' => ?_⟩))⟩
      · rw [gD _ (by omega), gB _ (by omega) (by omega) (by omega) (by omega)]
      · rw [gD _ (by omega), ← hB, up_ne _ _ _ (by omega), up_ne _ _ _ (by omega), up_same, upd_ne _ _ hji, up_ne _ _ _ (by omega), a4 _ (by omega) (by omega)]
      · rw [gD _ (by omega), ← hB, up_ne _ _ _ (by omega), up_same, upd_ne _ _ hji, up_ne _ _ _ (by omega), up_ne _ _ _ (by omega), a4 _ (by omega) (by omega)]
      · rw [gD _ (by omega), ← hB, up_same, upd_ne _ _ hji, up_ne _ _ _ (by omega), up_ne _ _ _ (by omega), up_ne _ _ _ (by omega), a4 _ (by omega) (by omega)]
      · rw [D159, if_neg (by omega)]
      · rw [gD _ (by omega), gD _ (by omega), ← hB]
        simp (disch := omega) only [up_ne, up_same, upd_at]
      · rw [gD _ (by omega), ← hB]
        simp (disch := omega) only [up_ne, up_same, upd_at]
      · rw [gD _ (by omega), ← hB]
        simp (disch := omega) only [up_ne]
        exact a2
      · rw [gD _ (by omega), ← hB]
        simp (disch := omega) only [up_ne, up_same, upd_at]
      · rw [gD _ (by omega), D159, if_pos (by omega), show 24 * i + k' - 24 * i = k' by omega, ← hB]
        simp (disch := omega) only [up_ne]
        exact a3 k' hk'
    · rw [up_ne _ _ _ (by omega), a4 _ (by omega) (by omega)]
    · rw [gD _ (by omega), gB _ (by omega) (by omega) (by omega) (by omega)]
  | 3, _ =>
    refine ⟨σ 156 i, hy_up (hy_up σ (61 + 4 * i) 3 z) (61 + 4 * i) 2 3, hy_up (hy_up (hy_up (hy_up (hy_up σ (61 + 4 * i) 3 z) (61 + 4 * i) 2 3) 156 i 3) 157 i z) 158 i 0, ?_, ?_, ?_, ?_, ?_⟩
    · rw [eC0, if_neg (by decide)]
      unfold J111_4 J111_7 J111_8
      rw [if_neg (by decide), if_pos (show In 3 = 3 from rfl), up_same, upd_ne _ _ (by omega), e2]
      rfl
    · rw [eR0 _ (by rw [up_ne _ _ _ (by omega), up_ne _ _ _ (by omega)]), if_neg (by decide)]
      unfold J207_1 J207_3 J207_4 J207_7 J207_9
      rw [if_neg (by decide), if_neg (by decide), if_pos (ib_n (by omega) (by omega)), if_pos (ib_n (by omega) (by omega)), if_neg (by decide), if_neg (by decide), if_pos (ib_n (by omega) (by omega)), if_neg (by decide), if_pos (ib_n (by omega) (by omega)), n_ix (by omega), m207_n (by decide), up_ne _ _ _ (show (156 : Nat) ≠ 61 + 4 * i by omega), up_ne _ _ _ (show (156 : Nat) ≠ 61 + 4 * i by omega)]
      rfl
    · refine Iv_sl (i := i) h (by omega) (fun a ha => ?_) (fun j hj hji => ⟨?_, ?_, ?_, fun k hk => ?_⟩) ⟨?_, Or.inr (Or.inr (Or.inr ⟨?_, ?_⟩))⟩
      · rw [up_ne _ _ _ (by omega), up_ne _ _ _ (by omega), up_ne _ _ _ (by omega), up_ne _ _ _ (by omega), up_ne _ _ _ (by omega)]
      · rw [up_ne _ _ _ (by omega), up_ne _ _ _ (by omega), up_same, upd_ne _ _ hji, up_ne _ _ _ (by omega), up_ne _ _ _ (by omega)]
      · rw [up_ne _ _ _ (by omega), up_same, upd_ne _ _ hji, up_ne _ _ _ (by omega), up_ne _ _ _ (by omega), up_ne _ _ _ (by omega)]
      · rw [up_same, upd_ne _ _ hji, up_ne _ _ _ (by omega), up_ne _ _ _ (by omega), up_ne _ _ _ (by omega), up_ne _ _ _ (by omega)]
      · rw [up_ne _ _ _ (by omega), up_ne _ _ _ (by omega), up_ne _ _ _ (by omega), up_ne _ _ _ (by omega), up_ne _ _ _ (by omega)]
      · simp (disch := omega) only [up_ne, up_same, upd_at]
      · simp (disch := omega) only [up_ne, up_same, upd_at]
      · simp (disch := omega) only [up_ne, up_same, upd_at, upd_ne]
    · rw [up_ne _ _ _ (by omega), up_ne _ _ _ (by omega)]
    · simp (disch := omega) only [up_ne]
  | n + 4, h => omega
