/-! PURE: the law's start, and the law -/
def ev (a k : Nat) : Int32 := hz_io ((hz_h2.getD a (0, [])).2.getD k (.int 0))
theorem ev_c0 : (ev 139 0 = ev 81 12 ∧ ev 139 1 = 0 ∧ ev 139 2 = ev 81 11 ∧ ev 139 3 = ev 81 8 ∧ ev 139 4 = ev 81 9 ∧ ev 139 5 = ev 81 10 ∧ ev 139 6 = 0 ∧ ev 81 7 = 0 ∧ ev 81 13 = 0) := by decide +kernel
theorem ev_c1 : ev 139 2 = In (hy_ix (ev 139 2)) ∧ hy_ix (ev 139 2) ≤ 9999 ∧ ev 139 3 = In (hy_ix (ev 139 3)) ∧ hy_ix (ev 139 3) ≤ 1 ∧ ev 139 4 = In (hy_ix (ev 139 4)) ∧ hy_ix (ev 139 4) ≤ 100 ∧ ev 139 5 = In (hy_ix (ev 139 5)) ∧ hy_ix (ev 139 5) ≤ 100 := by decide +kernel
theorem ev_c2 : ∀ p, p < 36 → ev 83 p = -1000000005 := by decide +kernel
theorem ev_c3 : ∀ k, k < 3 → ev 84 k = -1000000005 := by decide +kernel
theorem ev_c4 : ev 0 5 = ev 138 3 ∧ ev 0 5 = 0 ∧ ev 2 2 = 0 ∧ ev 138 9 = 0 ∧ ev 0 10 = 0 ∧ ev 138 35 = 0 := by decide +kernel
theorem ev_c5 : ∀ k, k < 96 → ev 3 k = ev 145 k ∧ ev 145 k = 0 := by decide +kernel
theorem ev_c6 : ∀ j, j < 10 → ev 146 j = kyL.getD j 0 := by decide +kernel
theorem ev_c7 : ∀ j, j < 4 → ev 147 j = kaL.getD j 0 := by decide +kernel
theorem ev_c8 : ∀ s, s < 4 → ev (53 + 2 * s) 1 = ev 153 s ∧ ev 153 s = -1 ∧ ev (53 + 2 * s) 2 = 0 ∧ ev 154 s = 0 ∧ ∀ k, k < 24 → ev (54 + 2 * s) k = ev 155 (24 * s + k) ∧ (ev 155 (24 * s + k) = -1000000005 ∨ ev 155 (24 * s + k) = 0) := by decide +kernel
theorem ev_c9 : ∀ i, i < 5 → ev (61 + 4 * i) 2 = ev 156 i ∧ ev 156 i = 0 := by decide +kernel
