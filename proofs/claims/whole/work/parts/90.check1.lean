/-! every block of the abstract code is what the bytes are (kernel) -/
theorem hy_ck_0 : ∀ j, j < 9 → hy_chkM (1 + j) = true := by decide +kernel
theorem hy_ck_1 : ∀ j, j < 10 → hy_chkM (10 + j) = true := by decide +kernel
theorem hy_ck_2 : ∀ j, j < 10 → hy_chkM (20 + j) = true := by decide +kernel
theorem hy_ck_3 : ∀ j, j < 10 → hy_chkM (30 + j) = true := by decide +kernel
theorem hy_ck_4 : ∀ j, j < 10 → hy_chkM (40 + j) = true := by decide +kernel
theorem hy_ck_5 : ∀ j, j < 10 → hy_chkM (50 + j) = true := by decide +kernel
theorem hy_ck_6 : ∀ j, j < 10 → hy_chkM (60 + j) = true := by decide +kernel
theorem hy_ck_7 : ∀ j, j < 10 → hy_chkM (70 + j) = true := by decide +kernel
theorem hy_ck_8 : ∀ j, j < 10 → hy_chkM (80 + j) = true := by decide +kernel
theorem hy_ck_9 : ∀ j, j < 10 → hy_chkM (90 + j) = true := by decide +kernel
theorem hy_ck_10 : ∀ j, j < 10 → hy_chkM (100 + j) = true := by decide +kernel
theorem hy_ck_11 : ∀ j, j < 10 → hy_chkM (110 + j) = true := by decide +kernel
theorem hy_ck_12 : ∀ j, j < 10 → hy_chkM (120 + j) = true := by decide +kernel
theorem hy_ck_13 : ∀ j, j < 10 → hy_chkM (130 + j) = true := by decide +kernel
theorem hy_ck_14 : ∀ j, j < 10 → hy_chkM (140 + j) = true := by decide +kernel
theorem hy_ck_15 : ∀ j, j < 10 → hy_chkM (150 + j) = true := by decide +kernel
theorem hy_ck_16 : ∀ j, j < 10 → hy_chkM (160 + j) = true := by decide +kernel
theorem hy_ck_17 : ∀ j, j < 10 → hy_chkM (170 + j) = true := by decide +kernel
theorem hy_ck_18 : ∀ j, j < 10 → hy_chkM (180 + j) = true := by decide +kernel
theorem hy_ck_19 : ∀ j, j < 10 → hy_chkM (190 + j) = true := by decide +kernel
theorem hy_ck_20 : ∀ j, j < 10 → hy_chkM (200 + j) = true := by decide +kernel
theorem hy_ck_21 : ∀ j, j < 10 → hy_chkM (210 + j) = true := by decide +kernel
theorem hy_ck_22 : ∀ j, j < 10 → hy_chkM (220 + j) = true := by decide +kernel
def hy_chkB (b : Nat) : Bool := hy_chk 0 (hy_blk 0 b).1 (hy_blk 0 b).2
theorem hy_cl_0 : ∀ j, j < 12 → hy_chkB (0 + j) = true := by decide +kernel
theorem hy_cl_1 : ∀ j, j < 12 → hy_chkB (12 + j) = true := by decide +kernel
