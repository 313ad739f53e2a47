/-! THE LAW'S ENTRY: from the start to the loop, and from the loop's answer to the end -/
theorem hw_d0 : decode code 0 = .ok (.new 7, 3) ∧ decode code 3 = .ok (.dup, 1) ∧ decode code 4 = .ok (.invokespecial 9, 3) ∧ decode code 7 = .ok (.astore_n 1, 1) := by decide +kernel
theorem hw_d1 : decode code 8 = .ok (.new 10, 3) ∧ decode code 11 = .ok (.dup, 1) ∧ decode code 12 = .ok (.invokespecial 12, 3) ∧ decode code 15 = .ok (.astore_n 2, 1) := by decide +kernel
theorem hw_d2 : decode code 16 = .ok (.iconst 0, 1) ∧ decode code 17 = .ok (.istore_n 3, 1) := by decide +kernel
theorem hw_q : ((0, 7, 1, 77) : Nat × Nat × Nat × Nat) ∈ hz_CL ∧ ((0, 10, 9, 981) : Nat × Nat × Nat × Nat) ∈ hz_CL ∧ ((0, 9, 16, 79) : Nat × Nat × Nat × Nat) ∈ hz_ML ∧ ((0, 12, 18, 983) : Nat × Nat × Nat × Nat) ∈ hz_ML := by decide +kernel
theorem hw_n : hz_na 8 = 1 ∧ hz_na 9 = 1 ∧ hz_mx 8 ≤ 45 ∧ hz_mx 9 ≤ 45 ∧ hz_mx 8 = 2 ∧ hz_mx 9 = 1 ∧ hy_N 1 ≤ 40 ∧ hy_N 9 ≤ 40 := by decide +kernel
theorem hw_run1 : hz_run 200 9 8 0 ([Value.ref 0] ++ List.replicate (hz_mx 8 - [Value.ref 0].length) .null) [] [(1, hz_def 1)] = some hz_h1 := by
  have h := hz_runs1
  rw [hw_n.2.2.2.2.1]
  obtain ⟨v, hv⟩ := Option.isSome_iff_exists.mp h
  have e : hz_h1 = v := by unfold hz_h1; rw [hv]; rfl
  rw [e]
  exact hv
theorem hw_run2 : hz_run 200 9 9 0 ([Value.ref 138] ++ List.replicate (hz_mx 9 - [Value.ref 138].length) .null) [] (hz_h1 ++ [(9, hz_def 9)]) = some hz_h2 := by
  have h := hw_runs2
  rw [hw_n.2.2.2.2.2.1]
  obtain ⟨v, hv⟩ := Option.isSome_iff_exists.mp h
  have e : hz_h2 = v := by unfold hz_h2; rw [hv]; rfl
  rw [e]
  exact hv
theorem hw_szs : hz_sz hz_h1 ≤ 100000 ∧ hz_sz hz_h2 ≤ 100000 := by decide +kernel
def hw_lv0 : List Vl := [(.ref 2000, 30), (.ref 0, 1), (.ref 138, 9), (.int 0, 0)]
theorem hw_mx0 : hy_mx 0 = 4 ∧ (hy_blk 0 1).1 = 18 ∧ hy_own 0 = 0 ∧ hy_cn 0 = "HayBoardLaw" := by decide +kernel
theorem hw_mz (l : Launch) (G : hy_G) : hz_Mt l G 9 (7 + 1) [.ref 0] [(1, hz_def 1)] hz_h1 ∧ hz_Mt l G 9 (8 + 1) [.ref 138] (hz_h1 ++ [(9, hz_def 9)]) hz_h2 := by
  refine ⟨hz_met (hz_sound l G 200) (by omega) (by omega) ?_ rfl hw_run1 (hz_pc0 8 (by omega)), hz_met (hz_sound l G 200) (by omega) (by omega) ?_ rfl hw_run2 (hz_pc0 9 (by omega))⟩
  · rw [hw_n.2.2.2.2.1]; exact Nat.le_succ 1
  · rw [hw_n.2.2.2.2.2.1]; exact Nat.le_refl 1
