/-! PURE: the law, turn by turn -/
theorem fin_c {L i : Nat} (hL : L ≤ 3072) (hi : 6 * i ≤ 4000) : (In L - 6 < In (6 * i)) = (L < 6 * i + 6) := by
  by_cases h : L < 6
  · have h0 : ∀ k, k < 6 → (In k - 6).toInt < 0 := by decide +kernel
    have := h0 L h
    apply propext
    rw [Int32.lt_iff_toInt_lt, n_ti (by omega)]
    omega
  · rw [show (6 : Int32) = In 6 from rfl, n_sub (by omega), n_lt (by omega) (by omega)]
    apply propext
    omega
theorem law_go {L : Nat} (hL : L ≤ 3072) {X : Rw} (hX : X 5000 = In L) : ∀ (m i f : Nat) (σ : Sg), L < 6 * (i + m) + 6 → m < f → 6 * i ≤ L + 6 → Iv σ → σ 2000 = X → Gd (J0_1 f (In (6 * i)) σ) := by
  have hdl : ∀ τ : Sg, τ 2000 = X → hy_dl τ 2000 = In L := fun τ q => by
    unfold hy_dl
    rw [q, hX]
  intro m
  induction m with
  | zero =>
    intro i f σ h1 h2 h3 h hq
    obtain ⟨f, rfl⟩ : ∃ g, f = g + 1 := ⟨f - 1, by omega⟩
    unfold J0_1
    rw [hdl σ hq, if_pos (show In L - 6 < In (6 * i) by rw [fin_c hL (by omega)]; omega)]
    exact ⟨σ, rfl⟩
  | succ m ih =>
    intro i f σ h1 h2 h3 h hq
    obtain ⟨f, rfl⟩ : ∃ g, f = g + 1 := ⟨f - 1, by omega⟩
    by_cases hd : L < 6 * i + 6
    · unfold J0_1
      rw [hdl σ hq, if_pos (show In L - 6 < In (6 * i) by rw [fin_c hL (by omega)]; exact hd)]
      exact ⟨σ, rfl⟩
    · have B : Bd (In (6 * i)) σ := by
        intro τ hτ
        have e := hdl τ (hτ.trans hq)
        have k : ∀ c, c ≤ 5 → hy_ib (In (6 * i) + In c) (hy_dl τ 2000).toInt := by
          intro c hc
          rw [e, n_ti (by omega), n_add]
          exact ib_n (by omega) (by omega)
        exact ⟨k 1 (by omega), k 2 (by omega), k 3 (by omega), k 4 (by omega), k 5 (by omega)⟩
      have R : ∀ τ, Iv τ → τ 2000 = σ 2000 → Gd (J0_44 (J0_1 f) (In (6 * i)) τ) := by
        intro τ hτ q
        unfold J0_44
        rw [show (6 : Int32) = In 6 from rfl, n_add, show 6 * i + 6 = 6 * (i + 1) by omega]
        exact ih (i + 1) f τ (by omega) (by omega) (by omega) hτ (q.trans hq)
      have b0 : hy_ib (In (6 * i)) (hy_dl σ 2000).toInt := by
        rw [hdl σ hq, n_ti (by omega)]
        exact ib_n (by omega) (by omega)
      have nf : ¬ (hy_dl σ 2000 - (6 : Int32) < In (6 * i)) := by
        rw [hdl σ hq, fin_c hL (by omega)]
        omega
      unfold J0_1
      rw [if_neg nf, if_pos b0]
      refine sw_all (P := Gd) _ _ _ ?_ (R σ h rfl)
      exact List.forall_mem_cons.mpr ⟨tc_0 h B R, List.forall_mem_cons.mpr ⟨tc_1 h B R, List.forall_mem_cons.mpr ⟨tc_2 h B R, List.forall_mem_cons.mpr ⟨tc_3 h B R, List.forall_mem_cons.mpr ⟨tc_4 h B R, List.forall_mem_cons.mpr ⟨tc_5 h B R, List.forall_mem_cons.mpr ⟨tc_6 h B R, List.forall_mem_cons.mpr ⟨tc_7 h B R, List.forall_mem_cons.mpr ⟨tc_8 h B R, List.forall_mem_cons.mpr ⟨tc_9 h B R, List.forall_mem_cons.mpr ⟨tc_10 h B R, List.forall_mem_cons.mpr ⟨tc_11 h B R, List.forall_mem_cons.mpr ⟨tc_12 h B R, List.forall_mem_cons.mpr ⟨tc_13 h B R, List.forall_mem_cons.mpr ⟨tc_14 h B R, List.forall_mem_cons.mpr ⟨tc_15 h B R, List.forall_mem_cons.mpr ⟨tc_16 h B R, List.forall_mem_cons.mpr ⟨tc_17 h B R, List.forall_mem_cons.mpr ⟨tc_18 h B R, List.forall_mem_cons.mpr ⟨tc_19 h B R, List.forall_mem_cons.mpr ⟨tc_20 h B R, List.forall_mem_cons.mpr ⟨tc_21 h B R, List.forall_mem_cons.mpr ⟨tc_22 h B R, List.forall_mem_cons.mpr ⟨tc_23 h B R, List.forall_mem_cons.mpr ⟨tc_24 h B R, List.forall_mem_cons.mpr ⟨tc_25 h B R, List.forall_mem_cons.mpr ⟨tc_26 h B R, List.forall_mem_cons.mpr ⟨tc_27 h B R, List.forall_mem_cons.mpr ⟨tc_28 h B R, List.forall_mem_cons.mpr ⟨tc_29 h B R, List.forall_mem_cons.mpr ⟨tc_30 h B R, List.forall_mem_cons.mpr ⟨tc_31 h B R, List.forall_mem_cons.mpr ⟨tc_32 h B R, List.forall_mem_cons.mpr ⟨tc_33 h B R, List.forall_mem_cons.mpr ⟨tc_34 h B R, List.forall_mem_cons.mpr ⟨tc_35 h B R, List.forall_mem_cons.mpr ⟨tc_36 h B R, List.forall_mem_cons.mpr ⟨tc_37 h B R, List.forall_mem_cons.mpr ⟨tc_38 h B R, List.forall_mem_cons.mpr ⟨tc_39 h B R, List.forall_mem_cons.mpr ⟨tc_40 h B R, List.forall_mem_cons.mpr ⟨tc_41 h B R, fun _ hq => absurd hq List.not_mem_nil⟩⟩⟩⟩⟩⟩⟩⟩⟩⟩⟩⟩⟩⟩⟩⟩⟩⟩⟩⟩⟩⟩⟩⟩⟩⟩⟩⟩⟩⟩⟩⟩⟩⟩⟩⟩⟩⟩⟩⟩⟩⟩
