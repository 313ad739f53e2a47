theorem hy_cb_24 : hy_chkB 24 = true := by decide +kernel
theorem hy_cb_25 : hy_chkB 25 = true := by decide +kernel
theorem hy_cb_26 : hy_chkB 26 = true := by decide +kernel
theorem hy_cb_27 : hy_chkB 27 = true := by decide +kernel
theorem hy_cb_28 : hy_chkB 28 = true := by decide +kernel
theorem hy_cb_29 : hy_chkB 29 = true := by decide +kernel
theorem hy_cb_30 : hy_chkB 30 = true := by decide +kernel
theorem hy_cb_31 : hy_chkB 31 = true := by decide +kernel
theorem hy_cb_32 : hy_chkB 32 = true := by decide +kernel
theorem hy_cb_33 : hy_chkB 33 = true := by decide +kernel
theorem hy_cb_34 : hy_chkB 34 = true := by decide +kernel
theorem hy_cb_35 : hy_chkB 35 = true := by decide +kernel
theorem hy_cb_36 : hy_chkB 36 = true := by decide +kernel
theorem hy_cb_37 : hy_chkB 37 = true := by decide +kernel
theorem hy_cb_38 : hy_chkB 38 = true := by decide +kernel
theorem hy_cb_39 : hy_chkB 39 = true := by decide +kernel
theorem hy_cb_40 : hy_chkB 40 = true := by decide +kernel
theorem hy_cb_41 : hy_chkB 41 = true := by decide +kernel
theorem hy_cb_42 : hy_chkB 42 = true := by decide +kernel
theorem hy_cb_43 : hy_chkB 43 = true := by decide +kernel
theorem hy_cb_44 : hy_chkB 44 = true := by decide +kernel
theorem hy_cb_45 : hy_chkB 45 = true := by decide +kernel
theorem hy_cl_all : ∀ b, hy_chkB b = true := by
  intro b
  rcases Nat.lt_or_ge b 24 with h | h
  · rcases Nat.lt_or_ge b 12 with h1 | h1
    · have := hy_cl_0 b h1
      rwa [Nat.zero_add] at this
    · have := hy_cl_1 (b - 12) (by omega)
      rwa [show 12 + (b - 12) = b by omega] at this
  · rcases Nat.lt_or_ge b 46 with h1 | h1
    · match b, h, h1 with
      | 24, _, _ => exact hy_cb_24
      | 25, _, _ => exact hy_cb_25
      | 26, _, _ => exact hy_cb_26
      | 27, _, _ => exact hy_cb_27
      | 28, _, _ => exact hy_cb_28
      | 29, _, _ => exact hy_cb_29
      | 30, _, _ => exact hy_cb_30
      | 31, _, _ => exact hy_cb_31
      | 32, _, _ => exact hy_cb_32
      | 33, _, _ => exact hy_cb_33
      | 34, _, _ => exact hy_cb_34
      | 35, _, _ => exact hy_cb_35
      | 36, _, _ => exact hy_cb_36
      | 37, _, _ => exact hy_cb_37
      | 38, _, _ => exact hy_cb_38
      | 39, _, _ => exact hy_cb_39
      | 40, _, _ => exact hy_cb_40
      | 41, _, _ => exact hy_cb_41
      | 42, _, _ => exact hy_cb_42
      | 43, _, _ => exact hy_cb_43
      | 44, _, _ => exact hy_cb_44
      | 45, _, _ => exact hy_cb_45
      | k + 46, _, h1 => exact absurd h1 (by omega)
    · unfold hy_chkB hy_blk
      rw [List.getD_eq_getElem?_getD, List.getElem?_eq_none (by rw [show (hy_K.getD 0 []).length = 46 from rfl]; exact h1)]
      rfl
theorem hy_ck_all : ∀ y, 0 < y → y < 230 → hy_chkM y = true := by
  intro y h0 h
  have e : 10 * (y / 10) + y % 10 = y := Nat.div_add_mod y 10
  have hq : y / 10 < 23 := by omega
  have hr : y % 10 < 10 := Nat.mod_lt _ (by decide)
  by_cases h9 : y < 10
  · have := hy_ck_0 (y - 1) (by omega)
    rwa [show 1 + (y - 1) = y by omega] at this
  · rw [← e]
    generalize hg : y / 10 = q at *
    match q, hq with
    | 0, _ => omega
    | 1, _ => exact hy_ck_1 _ hr
    | 2, _ => exact hy_ck_2 _ hr
    | 3, _ => exact hy_ck_3 _ hr
    | 4, _ => exact hy_ck_4 _ hr
    | 5, _ => exact hy_ck_5 _ hr
    | 6, _ => exact hy_ck_6 _ hr
    | 7, _ => exact hy_ck_7 _ hr
    | 8, _ => exact hy_ck_8 _ hr
    | 9, _ => exact hy_ck_9 _ hr
    | 10, _ => exact hy_ck_10 _ hr
    | 11, _ => exact hy_ck_11 _ hr
    | 12, _ => exact hy_ck_12 _ hr
    | 13, _ => exact hy_ck_13 _ hr
    | 14, _ => exact hy_ck_14 _ hr
    | 15, _ => exact hy_ck_15 _ hr
    | 16, _ => exact hy_ck_16 _ hr
    | 17, _ => exact hy_ck_17 _ hr
    | 18, _ => exact hy_ck_18 _ hr
    | 19, _ => exact hy_ck_19 _ hr
    | 20, _ => exact hy_ck_20 _ hr
    | 21, _ => exact hy_ck_21 _ hr
    | 22, _ => exact hy_ck_22 _ hr
    | _ + 23, hq => omega
theorem hy_chkAll : ∀ y b, y < 230 → hy_chk y (hy_blk y b).1 (hy_blk y b).2 = true := by
  intro y b hy
  by_cases h0 : y = 0
  · subst h0; exact hy_cl_all b
  · have h1 := hy_ck_all y (by omega) hy
    unfold hy_chkM at h1
    unfold hy_blk
    rcases Nat.lt_or_ge b (hy_K.getD y []).length with h | h
    · rw [List.getD_eq_getElem?_getD, List.getElem?_eq_getElem h]
      exact List.all_eq_true.mp h1 _ (List.getElem_mem h)
    · rw [List.getD_eq_getElem?_getD, List.getElem?_eq_none h]
      rfl
theorem hy_pc0 : ∀ y, y < 230 → (hy_blk y 0).1 = 0 := by decide +kernel
theorem hy_sound (l : Launch) (G : hy_G) (n : Nat) : hy_Snd l G n := hy_snd hy_chkAll hy_pc0 l G n
