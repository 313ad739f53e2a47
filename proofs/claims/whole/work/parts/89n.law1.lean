/-! PURE: the law answers 1 -/
theorem hw_ev {L : Nat} {xs : Nat → Int32} {a : Nat} (h : a < 162) (k : Nat) : hw_σ L xs a k = ev a k := by
  unfold hw_σ hw_σ0
  rw [if_pos h]
  rfl
theorem Iv_0 (L : Nat) (xs : Nat → Int32) : Iv (hw_σ L xs) := by
  have v : ∀ a, a < 162 → ∀ k, hw_σ L xs a k = ev a k := fun a h k => hw_ev h k
  generalize hσ : hw_σ L xs = σ at v
  obtain ⟨c1, c2, c3, c4, c5, c6, c7, c8, c9⟩ := ev_c0
  obtain ⟨d1, d2, d3, d4, d5, d6, d7, d8⟩ := ev_c1
  obtain ⟨f1, f2, f3, f4, f5, f6⟩ := ev_c4
  have hnb : nb (σ 139) = 0 := by
    unfold nb
    rw [v 139 (by omega), c2]
    rfl
  have hnt : nt (σ 139) = 0 := by
    unfold nt
    rw [v 139 (by omega), c7]
    rfl
  refine ⟨⟨⟨⟨⟨?_, ?_⟩, ?_, ?_, ⟨rfl, rfl⟩, ?_, ?_, ?_, ?_⟩, ?_, ?_⟩, ?_, ?_, ?_, ?_, ?_⟩, ⟨0, by omega, ?_, ?_, fun k hk => ?_⟩, ⟨fun j hj => ?_, fun j hj => ?_, fun i hi => ?_⟩, fun s hs => ?_, fun i hi => ?_, ⟨0, by omega, ?_, ?_, fun k hk => absurd hk (Nat.not_lt_zero k)⟩⟩
  · rw [hnb, v 139 (by omega), c2]
    rfl
  · rw [hnb]
    omega
  · intro b hb
    rw [hnb] at hb
    exact absurd hb (Nat.not_lt_zero b)
  · intro b c _ hc
    rw [hnb] at hc
    exact absurd hc (Nat.not_lt_zero c)
  · rw [v 139 (by omega)]
    exact ⟨d3, d4⟩
  · rw [v 139 (by omega)]
    exact ⟨d5, d6⟩
  · rw [v 139 (by omega)]
    exact ⟨d7, d8⟩
  · rw [v 139 (by omega), c7]
    exact ⟨rfl, by decide⟩
  · intro t ht
    rw [hnt] at ht
    exact absurd ht (Nat.not_lt_zero t)
  · intro t ht
    rw [hnt] at ht
    exact absurd ht (Nat.not_lt_zero t)
  · unfold DayOk
    rw [v 139 (by omega)]
    exact ⟨d1, d2⟩
  · refine ⟨⟨?_, ?_, ?_, ?_, ?_, ?_, ?_⟩, fun b hb w hw => ?_, fun p hp => ?_, fun k hk => ?_⟩
    · rw [v 81 (by omega), v 139 (by omega), c8, c2]
    · rw [v 81 (by omega), v 139 (by omega), c4]
    · rw [v 81 (by omega), v 139 (by omega), c5]
    · rw [v 81 (by omega), v 139 (by omega), c6]
    · rw [v 81 (by omega), v 139 (by omega), c3]
    · rw [v 81 (by omega), v 139 (by omega), c1]
    · rw [v 81 (by omega), v 139 (by omega), c9, c7]
    · rw [hnb] at hb
      exact absurd hb (Nat.not_lt_zero b)
    · unfold hd
      rw [hnb]
      show σ 83 p = _
      rw [v 83 (by omega), ev_c2 p hp]
      rfl
    · unfold ct
      rw [hnt]
      show σ 84 k = _
      rw [v 84 (by omega), ev_c3 k hk]
      rfl
  · intro t ht
    rw [hnt] at ht
    exact absurd ht (Nat.not_lt_zero t)
  · rw [v 0 (by omega), v 138 (by omega)]
    exact f1
  · rw [v 0 (by omega)]
    exact Or.inl f2
  · rw [v 2 (by omega), f3]
    rfl
  · rw [v 138 (by omega), f4]
    rfl
  · rw [v 3 (by omega), v 145 (by omega)]
    obtain ⟨q1, q2⟩ := ev_c5 k hk
    exact ⟨q1, 0, by omega, q2⟩
  · rw [v 146 (by omega)]
    exact ev_c6 j hj
  · rw [v 147 (by omega)]
    exact ev_c7 j hj
  · rw [← hσ]
    unfold hw_σ hw_σ0
    refine ⟨fun j hj => ?_, ?_, ?_⟩
    · rw [if_neg (by omega), if_neg (by omega), if_pos (by omega), show 1010 + i - 1010 = i by omega]
      have : ∀ i, i < 6 → hy_SLn.getD i 0 ≤ 4 := by decide
      have := this i hi
      rw [if_neg (by omega)]
    · rw [if_neg (by omega), if_neg (by omega), if_pos (by omega), show 1010 + i - 1010 = i by omega, if_pos rfl]
    · rw [if_neg (by omega), if_neg (by omega), if_neg (by omega)]
  · obtain ⟨q1, q2, q3, q4, q5⟩ := ev_c8 s hs
    rw [v (53 + 2 * s) (by omega), v (53 + 2 * s) (by omega), v 153 (by omega), v 154 (by omega)]
    refine ⟨q1, Or.inl q2, ⟨0, by omega, q3, q4⟩, fun k hk => ?_⟩
    obtain ⟨r1, r2⟩ := q5 k hk
    rw [v (54 + 2 * s) (by omega), v 155 (by omega)]
    refine ⟨r1, ?_⟩
    rcases r2 with r2 | r2
    · exact Or.inl r2
    · exact Or.inr ⟨0, by omega, by omega, by rw [r2]; rfl⟩
  · obtain ⟨q1, q2⟩ := ev_c9 i hi
    rw [v (61 + 4 * i) (by omega), v 156 (by omega)]
    exact ⟨q1, Or.inl q2⟩
  · rw [v 0 (by omega), f5]
    rfl
  · rw [v 138 (by omega), f6]
    rfl
theorem law_1 {L : Nat} (hL : L ≤ 3072) (xs : Nat → Int32) : ∃ s, J0_1 hy_fu 0 (hw_σ L xs) = some (1, s) := by
  refine law_go (L := L) hL (X := hw_σ L xs 2000) ?_ 600 0 hy_fu (hw_σ L xs) (by omega) (by unfold hy_fu; omega) (by omega) (Iv_0 L xs) rfl
  unfold hw_σ hw_σ0
  rw [if_neg (by omega), if_pos rfl, if_pos rfl]
