/-! small facts for part 14; written by wip/gen/gen2.py -/
theorem hy_lm1000000014 : Int32.ofInt (-1000000014) = (-1000000014) := by decide
theorem hy_lm1000000013 : Int32.ofInt (-1000000013) = (-1000000013) := by decide
theorem hy_lm1000000012 : Int32.ofInt (-1000000012) = (-1000000012) := by decide
theorem hy_lm1000000011 : Int32.ofInt (-1000000011) = (-1000000011) := by decide
theorem hy_lm1000000005 : Int32.ofInt (-1000000005) = (-1000000005) := by decide
theorem hy_lm1000000003 : Int32.ofInt (-1000000003) = (-1000000003) := by decide
theorem hy_lm1000000002 : Int32.ofInt (-1000000002) = (-1000000002) := by decide
theorem hy_lm1000000001 : Int32.ofInt (-1000000001) = (-1000000001) := by decide
theorem hy_lm99999 : Int32.ofInt (-99999) = (-99999) := by decide
theorem hy_lm100 : Int32.ofInt (-100) = (-100) := by decide
theorem hy_lm33 : Int32.ofInt (-33) = (-33) := by decide
theorem hy_lm11 : Int32.ofInt (-11) = (-11) := by decide
theorem hy_lm10 : Int32.ofInt (-10) = (-10) := by decide
theorem hy_lm9 : Int32.ofInt (-9) = (-9) := by decide
theorem hy_lm8 : Int32.ofInt (-8) = (-8) := by decide
theorem hy_lm7 : Int32.ofInt (-7) = (-7) := by decide
theorem hy_lm6 : Int32.ofInt (-6) = (-6) := by decide
theorem hy_lm5 : Int32.ofInt (-5) = (-5) := by decide
theorem hy_lm4 : Int32.ofInt (-4) = (-4) := by decide
theorem hy_lm3 : Int32.ofInt (-3) = (-3) := by decide
theorem hy_lm2 : Int32.ofInt (-2) = (-2) := by decide
theorem hy_lm1 : Int32.ofInt (-1) = (-1) := by decide
theorem hy_l0 : Int32.ofInt (0) = 0 := by decide
theorem hy_l1 : Int32.ofInt (1) = 1 := by decide
theorem hy_l2 : Int32.ofInt (2) = 2 := by decide
theorem hy_l3 : Int32.ofInt (3) = 3 := by decide
theorem hy_l4 : Int32.ofInt (4) = 4 := by decide
theorem hy_l5 : Int32.ofInt (5) = 5 := by decide
theorem hy_l6 : Int32.ofInt (6) = 6 := by decide
theorem hy_l7 : Int32.ofInt (7) = 7 := by decide
theorem hy_l8 : Int32.ofInt (8) = 8 := by decide
theorem hy_l9 : Int32.ofInt (9) = 9 := by decide
theorem hy_l10 : Int32.ofInt (10) = 10 := by decide
theorem hy_l11 : Int32.ofInt (11) = 11 := by decide
theorem hy_l12 : Int32.ofInt (12) = 12 := by decide
theorem hy_l13 : Int32.ofInt (13) = 13 := by decide
theorem hy_l14 : Int32.ofInt (14) = 14 := by decide
theorem hy_l15 : Int32.ofInt (15) = 15 := by decide
theorem hy_l16 : Int32.ofInt (16) = 16 := by decide
theorem hy_l17 : Int32.ofInt (17) = 17 := by decide
theorem hy_l18 : Int32.ofInt (18) = 18 := by decide
theorem hy_l19 : Int32.ofInt (19) = 19 := by decide
theorem hy_l20 : Int32.ofInt (20) = 20 := by decide
theorem hy_l21 : Int32.ofInt (21) = 21 := by decide
theorem hy_l22 : Int32.ofInt (22) = 22 := by decide
theorem hy_l23 : Int32.ofInt (23) = 23 := by decide
theorem hy_l24 : Int32.ofInt (24) = 24 := by decide
theorem hy_l25 : Int32.ofInt (25) = 25 := by decide
theorem hy_l26 : Int32.ofInt (26) = 26 := by decide
theorem hy_l27 : Int32.ofInt (27) = 27 := by decide
theorem hy_l28 : Int32.ofInt (28) = 28 := by decide
theorem hy_l29 : Int32.ofInt (29) = 29 := by decide
theorem hy_l30 : Int32.ofInt (30) = 30 := by decide
theorem hy_l31 : Int32.ofInt (31) = 31 := by decide
theorem hy_l32 : Int32.ofInt (32) = 32 := by decide
theorem hy_l33 : Int32.ofInt (33) = 33 := by decide
theorem hy_l34 : Int32.ofInt (34) = 34 := by decide
theorem hy_l35 : Int32.ofInt (35) = 35 := by decide
theorem hy_l36 : Int32.ofInt (36) = 36 := by decide
theorem hy_l37 : Int32.ofInt (37) = 37 := by decide
theorem hy_l38 : Int32.ofInt (38) = 38 := by decide
theorem hy_l39 : Int32.ofInt (39) = 39 := by decide
theorem hy_l40 : Int32.ofInt (40) = 40 := by decide
theorem hy_l41 : Int32.ofInt (41) = 41 := by decide
theorem hy_l42 : Int32.ofInt (42) = 42 := by decide
theorem hy_l43 : Int32.ofInt (43) = 43 := by decide
theorem hy_l45 : Int32.ofInt (45) = 45 := by decide
theorem hy_l47 : Int32.ofInt (47) = 47 := by decide
theorem hy_l48 : Int32.ofInt (48) = 48 := by decide
theorem hy_l57 : Int32.ofInt (57) = 57 := by decide
theorem hy_l60 : Int32.ofInt (60) = 60 := by decide
theorem hy_l61 : Int32.ofInt (61) = 61 := by decide
theorem hy_l62 : Int32.ofInt (62) = 62 := by decide
theorem hy_l63 : Int32.ofInt (63) = 63 := by decide
theorem hy_l72 : Int32.ofInt (72) = 72 := by decide
theorem hy_l79 : Int32.ofInt (79) = 79 := by decide
theorem hy_l92 : Int32.ofInt (92) = 92 := by decide
theorem hy_l96 : Int32.ofInt (96) = 96 := by decide
theorem hy_l97 : Int32.ofInt (97) = 97 := by decide
theorem hy_l99 : Int32.ofInt (99) = 99 := by decide
theorem hy_l100 : Int32.ofInt (100) = 100 := by decide
theorem hy_l104 : Int32.ofInt (104) = 104 := by decide
theorem hy_l107 : Int32.ofInt (107) = 107 := by decide
theorem hy_l112 : Int32.ofInt (112) = 112 := by decide
theorem hy_l116 : Int32.ofInt (116) = 116 := by decide
theorem hy_l119 : Int32.ofInt (119) = 119 := by decide
theorem hy_l122 : Int32.ofInt (122) = 122 := by decide
theorem hy_l124 : Int32.ofInt (124) = 124 := by decide
theorem hy_l255 : Int32.ofInt (255) = 255 := by decide
theorem hy_l999 : Int32.ofInt (999) = 999 := by decide
theorem hy_l1000 : Int32.ofInt (1000) = 1000 := by decide
theorem hy_l1451 : Int32.ofInt (1451) = 1451 := by decide
theorem hy_l9999 : Int32.ofInt (9999) = 9999 := by decide
theorem hy_l10000 : Int32.ofInt (10000) = 10000 := by decide
theorem hy_l12345 : Int32.ofInt (12345) = 12345 := by decide
theorem hy_l99999 : Int32.ofInt (99999) = 99999 := by decide
theorem hy_l1103515245 : Int32.ofInt (1103515245) = 1103515245 := by decide
theorem hy_nz2 : ¬ (2 : Int32) = 0 := by decide
theorem hy_nz4 : ¬ (4 : Int32) = 0 := by decide
theorem hy_nz6 : ¬ (6 : Int32) = 0 := by decide
theorem hy_nz36 : ¬ (36 : Int32) = 0 := by decide
theorem hy_nz60 : ¬ (60 : Int32) = 0 := by decide
theorem hy_nz100 : ¬ (100 : Int32) = 0 := by decide
theorem hy_nz1000 : ¬ (1000 : Int32) = 0 := by decide
theorem hy_fr64 : hy_fr 64 = some (10, 1) := by decide +kernel
theorem hy_fr65 : hy_fr 65 = some (2, 2) := by decide +kernel
theorem hy_fr66 : hy_fr 66 = some (7, 81) := by decide +kernel
theorem hy_fr67 : hy_fr 67 = some (7, 100) := by decide +kernel
theorem hy_fr68 : hy_fr 68 = some (7, 119) := by decide +kernel
theorem hy_fr69 : hy_fr 69 = none := by decide +kernel
theorem hy_fr70 : hy_fr 70 = some (4, 7) := by decide +kernel
theorem hy_fr71 : hy_fr 71 = some (11, 8) := by decide +kernel
theorem hy_fr72 : hy_fr 72 = some (12, 9) := by decide +kernel
theorem hy_fr73 : hy_fr 73 = some (20, 10) := by decide +kernel
theorem hy_fr74 : hy_fr 74 = none := by decide +kernel
theorem hy_fr128 : hy_fr 128 = some (14, 1) := by decide +kernel
theorem hy_fr129 : hy_fr 129 = some (3, 2) := by decide +kernel
theorem hy_fr130 : hy_fr 130 = none := by decide +kernel
theorem hy_fr131 : hy_fr 131 = none := by decide +kernel
theorem hy_fr192 : hy_fr 192 = some (14, 1) := by decide +kernel
theorem hy_fr193 : hy_fr 193 = some (14, 2) := by decide +kernel
theorem hy_fr194 : hy_fr 194 = none := by decide +kernel
theorem hy_fr195 : hy_fr 195 = none := by decide +kernel
theorem hy_fr196 : hy_fr 196 = none := by decide +kernel
theorem hy_fr256 : hy_fr 256 = none := by decide +kernel
theorem hy_fr257 : hy_fr 257 = none := by decide +kernel
theorem hy_fr258 : hy_fr 258 = none := by decide +kernel
theorem hy_fr320 : hy_fr 320 = some (15, 1) := by decide +kernel
theorem hy_fr321 : hy_fr 321 = none := by decide +kernel
theorem hy_fr322 : hy_fr 322 = none := by decide +kernel
theorem hy_fr384 : hy_fr 384 = some (8, 1) := by decide +kernel
theorem hy_fr385 : hy_fr 385 = some (5, 2) := by decide +kernel
theorem hy_fr386 : hy_fr 386 = none := by decide +kernel
theorem hy_fr387 : hy_fr 387 = none := by decide +kernel
theorem hy_fr448 : hy_fr 448 = some (10, 1001) := by decide +kernel
theorem hy_fr449 : hy_fr 449 = some (13, 1) := by decide +kernel
theorem hy_fr450 : hy_fr 450 = some (16, 2) := by decide +kernel
theorem hy_fr451 : hy_fr 451 = some (17, 3) := by decide +kernel
theorem hy_fr452 : hy_fr 452 = some (18, 4) := by decide +kernel
theorem hy_fr453 : hy_fr 453 = some (19, 5) := by decide +kernel
theorem hy_fr454 : hy_fr 454 = some (4, 6) := by decide +kernel
theorem hy_fr455 : hy_fr 455 = none := by decide +kernel
theorem hy_fr456 : hy_fr 456 = none := by decide +kernel
theorem hy_fr457 : hy_fr 457 = none := by decide +kernel
theorem hy_fr458 : hy_fr 458 = none := by decide +kernel
theorem hy_fr459 : hy_fr 459 = none := by decide +kernel
theorem hy_fr460 : hy_fr 460 = none := by decide +kernel
theorem hy_fr461 : hy_fr 461 = none := by decide +kernel
theorem hy_fr512 : hy_fr 512 = none := by decide +kernel
theorem hy_fr513 : hy_fr 513 = none := by decide +kernel
theorem hy_fr514 : hy_fr 514 = none := by decide +kernel
theorem hy_fr515 : hy_fr 515 = none := by decide +kernel
theorem hy_fr516 : hy_fr 516 = none := by decide +kernel
theorem hy_fr517 : hy_fr 517 = none := by decide +kernel
theorem hy_fr576 : hy_fr 576 = some (21, 1) := by decide +kernel
theorem hy_fr577 : hy_fr 577 = some (21, 2) := by decide +kernel
theorem hy_fr578 : hy_fr 578 = some (21, 3) := by decide +kernel
theorem hy_fr579 : hy_fr 579 = none := by decide +kernel
theorem hy_fr580 : hy_fr 580 = some (22, 4) := by decide +kernel
theorem hy_fr581 : hy_fr 581 = some (22, 5) := by decide +kernel
theorem hy_fr582 : hy_fr 582 = none := by decide +kernel
theorem hy_fr583 : hy_fr 583 = some (23, 6) := by decide +kernel
theorem hy_fr584 : hy_fr 584 = some (14, 7) := by decide +kernel
theorem hy_fr585 : hy_fr 585 = none := by decide +kernel
theorem hy_fr586 : hy_fr 586 = none := by decide +kernel
theorem hy_fr587 : hy_fr 587 = none := by decide +kernel
theorem hy_fr588 : hy_fr 588 = none := by decide +kernel
theorem hy_fr589 : hy_fr 589 = none := by decide +kernel
theorem hy_fr590 : hy_fr 590 = none := by decide +kernel
theorem hy_fr591 : hy_fr 591 = none := by decide +kernel
theorem hy_fr592 : hy_fr 592 = some (27, 8) := by decide +kernel
theorem hy_fr593 : hy_fr 593 = some (24, 9) := by decide +kernel
theorem hy_fr594 : hy_fr 594 = some (14, 10) := by decide +kernel
theorem hy_fr595 : hy_fr 595 = none := by decide +kernel
theorem hy_fr596 : hy_fr 596 = none := by decide +kernel
theorem hy_fr597 : hy_fr 597 = some (14, 11) := by decide +kernel
theorem hy_fr598 : hy_fr 598 = none := by decide +kernel
theorem hy_fr599 : hy_fr 599 = some (28, 12) := by decide +kernel
theorem hy_fr600 : hy_fr 600 = some (14, 13) := by decide +kernel
theorem hy_fr601 : hy_fr 601 = some (24, 14) := by decide +kernel
theorem hy_fr602 : hy_fr 602 = some (24, 15) := by decide +kernel
theorem hy_fr603 : hy_fr 603 = some (24, 16) := by decide +kernel
theorem hy_fr604 : hy_fr 604 = some (14, 17) := by decide +kernel
theorem hy_fr605 : hy_fr 605 = some (25, 18) := by decide +kernel
theorem hy_fr606 : hy_fr 606 = some (25, 19) := by decide +kernel
theorem hy_fr607 : hy_fr 607 = some (25, 20) := by decide +kernel
theorem hy_fr608 : hy_fr 608 = some (26, 21) := by decide +kernel
theorem hy_fr609 : hy_fr 609 = some (15, 22) := by decide +kernel
theorem hy_fr610 : hy_fr 610 = some (20, 23) := by decide +kernel
theorem hy_fr611 : hy_fr 611 = none := by decide +kernel
theorem hy_fr1984 : hy_fr 1984 = some (32, 10) := by decide +kernel
theorem hy_fr1985 : hy_fr 1985 = none := by decide +kernel
theorem hy_al14 : hy_al 14 = some (0, 96) := by decide +kernel
theorem hy_al15 : hy_al 15 = some (0, 24) := by decide +kernel
theorem hy_al16 : hy_al 16 = some (0, 36) := by decide +kernel
theorem hy_al17 : hy_al 17 = some (0, 3) := by decide +kernel
theorem hy_al18 : hy_al 18 = some (0, 432) := by decide +kernel
theorem hy_al19 : hy_al 19 = some (0, 12) := by decide +kernel
theorem hy_al20 : hy_al 20 = some (0, 60) := by decide +kernel
theorem hy_al21 : hy_al 21 = some (0, 1451) := by decide +kernel
theorem hy_al22 : hy_al 22 = some (0, 72) := by decide +kernel
theorem hy_al23 : hy_al 23 = some (0, 79) := by decide +kernel
theorem hy_al24 : hy_al 24 = some (0, 4) := by decide +kernel
theorem hy_al25 : hy_al 25 = some (0, 5) := by decide +kernel
theorem hy_al26 : hy_al 26 = some (0, 120) := by decide +kernel
theorem hy_al27 : hy_al 27 = some (1, 10) := by decide +kernel
theorem hy_al28 : hy_al 28 = some (2, 10) := by decide +kernel
theorem hy_ra10 : hy_ra 10 = some (14, 3, 10, 3) := by decide +kernel
theorem hy_ra11 : hy_ra 11 = some (4, 5, 45, 2) := by decide +kernel
theorem hy_ra12 : hy_ra 12 = some (5, 6, 52, 4) := by decide +kernel
theorem hy_ra13 : hy_ra 13 = some (12, 8, 6, 1) := by decide +kernel
theorem hy_ib_0_3 : hy_ib 0 3 := by decide +kernel
theorem hy_ib_0_4 : hy_ib 0 4 := by decide +kernel
theorem hy_ib_0_10 : hy_ib 0 10 := by decide +kernel
theorem hy_ib_0_96 : hy_ib 0 96 := by decide +kernel
theorem hy_ib_0_1451 : hy_ib 0 1451 := by decide +kernel
theorem hy_ib_1_3 : hy_ib 1 3 := by decide +kernel
theorem hy_ib_1_4 : hy_ib 1 4 := by decide +kernel
theorem hy_ib_1_1451 : hy_ib 1 1451 := by decide +kernel
theorem hy_ib_2_3 : hy_ib 2 3 := by decide +kernel
theorem hy_ib_2_4 : hy_ib 2 4 := by decide +kernel
theorem hy_ib_2_1451 : hy_ib 2 1451 := by decide +kernel
theorem hy_ib_3_1451 : hy_ib 3 1451 := by decide +kernel
theorem hy_ib_4_1451 : hy_ib 4 1451 := by decide +kernel
theorem hy_ib_5_1451 : hy_ib 5 1451 := by decide +kernel
theorem hy_ib_6_1451 : hy_ib 6 1451 := by decide +kernel
theorem hy_ix0 : hy_ix 0 = 0 := by decide +kernel
theorem hy_ix1 : hy_ix 1 = 1 := by decide +kernel
theorem hy_ix2 : hy_ix 2 = 2 := by decide +kernel
theorem hy_ix3 : hy_ix 3 = 3 := by decide +kernel
theorem hy_ix4 : hy_ix 4 = 4 := by decide +kernel
theorem hy_ix5 : hy_ix 5 = 5 := by decide +kernel
theorem hy_ix6 : hy_ix 6 = 6 := by decide +kernel
theorem hy_01_0 : (0 : Int32) = 0 ∨ (0 : Int32) = 1 := Or.inl rfl
theorem hy_01_1 : (1 : Int32) = 0 ∨ (1 : Int32) = 1 := Or.inr rfl
theorem hy_adc (a x : Nat) : a + 6 + 1 * x = a + 6 + x := by rw [Nat.one_mul]
theorem hy_na0 : hy_na 0 = 1 := by decide +kernel
theorem hy_ow0 : hy_own 0 = 0 := by decide +kernel
theorem hy_rt0 : hy_rt 0 = 1 := by decide +kernel
theorem hy_E0_1 : (hy_blk 0 1).2 = hy_B0_1 := rfl
theorem hy_E0_2 : (hy_blk 0 2).2 = hy_B0_2 := rfl
theorem hy_E0_3 : (hy_blk 0 3).2 = hy_B0_3 := rfl
theorem hy_E0_4 : (hy_blk 0 4).2 = hy_B0_4 := rfl
theorem hy_E0_5 : (hy_blk 0 5).2 = hy_B0_5 := rfl
theorem hy_E0_6 : (hy_blk 0 6).2 = hy_B0_6 := rfl
theorem hy_E0_7 : (hy_blk 0 7).2 = hy_B0_7 := rfl
theorem hy_E0_8 : (hy_blk 0 8).2 = hy_B0_8 := rfl
theorem hy_E0_9 : (hy_blk 0 9).2 = hy_B0_9 := rfl
theorem hy_E0_10 : (hy_blk 0 10).2 = hy_B0_10 := rfl
theorem hy_E0_11 : (hy_blk 0 11).2 = hy_B0_11 := rfl
theorem hy_E0_12 : (hy_blk 0 12).2 = hy_B0_12 := rfl
theorem hy_E0_13 : (hy_blk 0 13).2 = hy_B0_13 := rfl
theorem hy_E0_14 : (hy_blk 0 14).2 = hy_B0_14 := rfl
theorem hy_E0_15 : (hy_blk 0 15).2 = hy_B0_15 := rfl
theorem hy_E0_16 : (hy_blk 0 16).2 = hy_B0_16 := rfl
theorem hy_E0_17 : (hy_blk 0 17).2 = hy_B0_17 := rfl
theorem hy_E0_18 : (hy_blk 0 18).2 = hy_B0_18 := rfl
theorem hy_E0_19 : (hy_blk 0 19).2 = hy_B0_19 := rfl
theorem hy_E0_20 : (hy_blk 0 20).2 = hy_B0_20 := rfl
theorem hy_E0_21 : (hy_blk 0 21).2 = hy_B0_21 := rfl
theorem hy_E0_22 : (hy_blk 0 22).2 = hy_B0_22 := rfl
theorem hy_E0_23 : (hy_blk 0 23).2 = hy_B0_23 := rfl
theorem hy_E0_24 : (hy_blk 0 24).2 = hy_B0_24 := rfl
theorem hy_E0_25 : (hy_blk 0 25).2 = hy_B0_25 := rfl
theorem hy_E0_26 : (hy_blk 0 26).2 = hy_B0_26 := rfl
theorem hy_E0_27 : (hy_blk 0 27).2 = hy_B0_27 := rfl
theorem hy_E0_28 : (hy_blk 0 28).2 = hy_B0_28 := rfl
theorem hy_E0_29 : (hy_blk 0 29).2 = hy_B0_29 := rfl
theorem hy_E0_30 : (hy_blk 0 30).2 = hy_B0_30 := rfl
theorem hy_E0_31 : (hy_blk 0 31).2 = hy_B0_31 := rfl
theorem hy_E0_32 : (hy_blk 0 32).2 = hy_B0_32 := rfl
theorem hy_E0_33 : (hy_blk 0 33).2 = hy_B0_33 := rfl
theorem hy_E0_34 : (hy_blk 0 34).2 = hy_B0_34 := rfl
theorem hy_E0_35 : (hy_blk 0 35).2 = hy_B0_35 := rfl
theorem hy_E0_36 : (hy_blk 0 36).2 = hy_B0_36 := rfl
theorem hy_E0_37 : (hy_blk 0 37).2 = hy_B0_37 := rfl
theorem hy_E0_38 : (hy_blk 0 38).2 = hy_B0_38 := rfl
theorem hy_E0_39 : (hy_blk 0 39).2 = hy_B0_39 := rfl
theorem hy_E0_40 : (hy_blk 0 40).2 = hy_B0_40 := rfl
theorem hy_E0_41 : (hy_blk 0 41).2 = hy_B0_41 := rfl
theorem hy_E0_42 : (hy_blk 0 42).2 = hy_B0_42 := rfl
theorem hy_E0_43 : (hy_blk 0 43).2 = hy_B0_43 := rfl
theorem hy_E0_44 : (hy_blk 0 44).2 = hy_B0_44 := rfl
theorem hy_E0_45 : (hy_blk 0 45).2 = hy_B0_45 := rfl
theorem hy_na1 : hy_na 1 = 5 := by decide +kernel
theorem hy_ow1 : hy_own 1 = 1 := by decide +kernel
theorem hy_rt1 : hy_rt 1 = 0 := by decide +kernel
theorem hy_E1_0 : (hy_blk 1 0).2 = hy_B1_0 := rfl
theorem hy_E1_1 : (hy_blk 1 1).2 = hy_B1_1 := rfl
theorem hy_E1_2 : (hy_blk 1 2).2 = hy_B1_2 := rfl
theorem hy_E1_3 : (hy_blk 1 3).2 = hy_B1_3 := rfl
theorem hy_E1_4 : (hy_blk 1 4).2 = hy_B1_4 := rfl
theorem hy_na2 : hy_na 2 = 1 := by decide +kernel
theorem hy_ow2 : hy_own 2 = 1 := by decide +kernel
theorem hy_rt2 : hy_rt 2 = 1 := by decide +kernel
theorem hy_E2_0 : (hy_blk 2 0).2 = hy_B2_0 := rfl
theorem hy_na3 : hy_na 3 = 3 := by decide +kernel
theorem hy_ow3 : hy_own 3 = 1 := by decide +kernel
theorem hy_rt3 : hy_rt 3 = 1 := by decide +kernel
theorem hy_E3_0 : (hy_blk 3 0).2 = hy_B3_0 := rfl
theorem hy_E3_1 : (hy_blk 3 1).2 = hy_B3_1 := rfl
theorem hy_E3_2 : (hy_blk 3 2).2 = hy_B3_2 := rfl
theorem hy_na4 : hy_na 4 = 1 := by decide +kernel
theorem hy_ow4 : hy_own 4 = 1 := by decide +kernel
theorem hy_rt4 : hy_rt 4 = 1 := by decide +kernel
theorem hy_E4_0 : (hy_blk 4 0).2 = hy_B4_0 := rfl
theorem hy_na5 : hy_na 5 = 1 := by decide +kernel
theorem hy_ow5 : hy_own 5 = 1 := by decide +kernel
theorem hy_rt5 : hy_rt 5 = 1 := by decide +kernel
theorem hy_E5_0 : (hy_blk 5 0).2 = hy_B5_0 := rfl
theorem hy_E5_1 : (hy_blk 5 1).2 = hy_B5_1 := rfl
theorem hy_E5_2 : (hy_blk 5 2).2 = hy_B5_2 := rfl
theorem hy_na6 : hy_na 6 = 1 := by decide +kernel
theorem hy_ow6 : hy_own 6 = 1 := by decide +kernel
theorem hy_rt6 : hy_rt 6 = 1 := by decide +kernel
theorem hy_E6_0 : (hy_blk 6 0).2 = hy_B6_0 := rfl
theorem hy_na7 : hy_na 7 = 5 := by decide +kernel
theorem hy_ow7 : hy_own 7 = 7 := by decide +kernel
theorem hy_rt7 : hy_rt 7 = 0 := by decide +kernel
theorem hy_E7_0 : (hy_blk 7 0).2 = hy_B7_0 := rfl
theorem hy_na8 : hy_na 8 = 3 := by decide +kernel
theorem hy_ow8 : hy_own 8 = 7 := by decide +kernel
theorem hy_rt8 : hy_rt 8 = 0 := by decide +kernel
theorem hy_E8_0 : (hy_blk 8 0).2 = hy_B8_0 := rfl
theorem hy_E8_1 : (hy_blk 8 1).2 = hy_B8_1 := rfl
theorem hy_E8_2 : (hy_blk 8 2).2 = hy_B8_2 := rfl
theorem hy_na9 : hy_na 9 = 2 := by decide +kernel
theorem hy_ow9 : hy_own 9 = 7 := by decide +kernel
theorem hy_rt9 : hy_rt 9 = 1 := by decide +kernel
theorem hy_E9_0 : (hy_blk 9 0).2 = hy_B9_0 := rfl
theorem hy_na10 : hy_na 10 = 3 := by decide +kernel
theorem hy_ow10 : hy_own 10 = 1 := by decide +kernel
theorem hy_rt10 : hy_rt 10 = 0 := by decide +kernel
theorem hy_E10_0 : (hy_blk 10 0).2 = hy_B10_0 := rfl
theorem hy_E10_1 : (hy_blk 10 1).2 = hy_B10_1 := rfl
theorem hy_E10_2 : (hy_blk 10 2).2 = hy_B10_2 := rfl
theorem hy_E10_3 : (hy_blk 10 3).2 = hy_B10_3 := rfl
theorem hy_E10_4 : (hy_blk 10 4).2 = hy_B10_4 := rfl
theorem hy_E10_5 : (hy_blk 10 5).2 = hy_B10_5 := rfl
theorem hy_E10_6 : (hy_blk 10 6).2 = hy_B10_6 := rfl
theorem hy_E10_7 : (hy_blk 10 7).2 = hy_B10_7 := rfl
theorem hy_E10_8 : (hy_blk 10 8).2 = hy_B10_8 := rfl
theorem hy_E10_9 : (hy_blk 10 9).2 = hy_B10_9 := rfl
theorem hy_E10_10 : (hy_blk 10 10).2 = hy_B10_10 := rfl
theorem hy_E10_11 : (hy_blk 10 11).2 = hy_B10_11 := rfl
theorem hy_na11 : hy_na 11 = 2 := by decide +kernel
theorem hy_ow11 : hy_own 11 = 7 := by decide +kernel
theorem hy_rt11 : hy_rt 11 = 1 := by decide +kernel
theorem hy_E11_0 : (hy_blk 11 0).2 = hy_B11_0 := rfl
theorem hy_na12 : hy_na 12 = 5 := by decide +kernel
theorem hy_ow12 : hy_own 12 = 7 := by decide +kernel
theorem hy_rt12 : hy_rt 12 = 0 := by decide +kernel
theorem hy_E12_0 : (hy_blk 12 0).2 = hy_B12_0 := rfl
theorem hy_E12_1 : (hy_blk 12 1).2 = hy_B12_1 := rfl
theorem hy_E12_2 : (hy_blk 12 2).2 = hy_B12_2 := rfl
theorem hy_E12_3 : (hy_blk 12 3).2 = hy_B12_3 := rfl
theorem hy_E12_4 : (hy_blk 12 4).2 = hy_B12_4 := rfl
theorem hy_E12_5 : (hy_blk 12 5).2 = hy_B12_5 := rfl
theorem hy_E12_6 : (hy_blk 12 6).2 = hy_B12_6 := rfl
theorem hy_E12_7 : (hy_blk 12 7).2 = hy_B12_7 := rfl
theorem hy_E12_8 : (hy_blk 12 8).2 = hy_B12_8 := rfl
theorem hy_na13 : hy_na 13 = 1 := by decide +kernel
theorem hy_ow13 : hy_own 13 = 1 := by decide +kernel
theorem hy_rt13 : hy_rt 13 = 1 := by decide +kernel
theorem hy_E13_0 : (hy_blk 13 0).2 = hy_B13_0 := rfl
theorem hy_na14 : hy_na 14 = 4 := by decide +kernel
theorem hy_ow14 : hy_own 14 = 3 := by decide +kernel
theorem hy_rt14 : hy_rt 14 = 0 := by decide +kernel
theorem hy_E14_0 : (hy_blk 14 0).2 = hy_B14_0 := rfl
theorem hy_E14_1 : (hy_blk 14 1).2 = hy_B14_1 := rfl
theorem hy_E14_2 : (hy_blk 14 2).2 = hy_B14_2 := rfl
theorem hy_E14_3 : (hy_blk 14 3).2 = hy_B14_3 := rfl
theorem hy_E14_4 : (hy_blk 14 4).2 = hy_B14_4 := rfl
theorem hy_E14_5 : (hy_blk 14 5).2 = hy_B14_5 := rfl
theorem hy_E14_6 : (hy_blk 14 6).2 = hy_B14_6 := rfl
theorem hy_E14_7 : (hy_blk 14 7).2 = hy_B14_7 := rfl
theorem hy_E14_8 : (hy_blk 14 8).2 = hy_B14_8 := rfl
theorem hy_E14_9 : (hy_blk 14 9).2 = hy_B14_9 := rfl
theorem hy_E14_10 : (hy_blk 14 10).2 = hy_B14_10 := rfl
theorem hy_E14_11 : (hy_blk 14 11).2 = hy_B14_11 := rfl
theorem hy_na15 : hy_na 15 = 3 := by decide +kernel
theorem hy_ow15 : hy_own 15 = 3 := by decide +kernel
theorem hy_rt15 : hy_rt 15 = 0 := by decide +kernel
theorem hy_E15_0 : (hy_blk 15 0).2 = hy_B15_0 := rfl
theorem hy_E15_1 : (hy_blk 15 1).2 = hy_B15_1 := rfl
theorem hy_E15_2 : (hy_blk 15 2).2 = hy_B15_2 := rfl
theorem hy_E15_3 : (hy_blk 15 3).2 = hy_B15_3 := rfl
theorem hy_E15_4 : (hy_blk 15 4).2 = hy_B15_4 := rfl
theorem hy_E15_5 : (hy_blk 15 5).2 = hy_B15_5 := rfl
theorem hy_E15_6 : (hy_blk 15 6).2 = hy_B15_6 := rfl
theorem hy_E15_7 : (hy_blk 15 7).2 = hy_B15_7 := rfl
theorem hy_E15_8 : (hy_blk 15 8).2 = hy_B15_8 := rfl
theorem hy_E15_9 : (hy_blk 15 9).2 = hy_B15_9 := rfl
theorem hy_E15_10 : (hy_blk 15 10).2 = hy_B15_10 := rfl
theorem hy_E15_11 : (hy_blk 15 11).2 = hy_B15_11 := rfl
theorem hy_E15_12 : (hy_blk 15 12).2 = hy_B15_12 := rfl
theorem hy_E15_13 : (hy_blk 15 13).2 = hy_B15_13 := rfl
theorem hy_E15_14 : (hy_blk 15 14).2 = hy_B15_14 := rfl
theorem hy_E15_15 : (hy_blk 15 15).2 = hy_B15_15 := rfl
theorem hy_E15_16 : (hy_blk 15 16).2 = hy_B15_16 := rfl
theorem hy_E15_17 : (hy_blk 15 17).2 = hy_B15_17 := rfl
theorem hy_E15_18 : (hy_blk 15 18).2 = hy_B15_18 := rfl
theorem hy_E15_19 : (hy_blk 15 19).2 = hy_B15_19 := rfl
theorem hy_E15_20 : (hy_blk 15 20).2 = hy_B15_20 := rfl
theorem hy_E15_21 : (hy_blk 15 21).2 = hy_B15_21 := rfl
theorem hy_E15_22 : (hy_blk 15 22).2 = hy_B15_22 := rfl
theorem hy_na16 : hy_na 16 = 3 := by decide +kernel
theorem hy_ow16 : hy_own 16 = 1 := by decide +kernel
theorem hy_rt16 : hy_rt 16 = 0 := by decide +kernel
theorem hy_E16_0 : (hy_blk 16 0).2 = hy_B16_0 := rfl
theorem hy_na17 : hy_na 17 = 1 := by decide +kernel
theorem hy_ow17 : hy_own 17 = 8 := by decide +kernel
theorem hy_rt17 : hy_rt 17 = 0 := by decide +kernel
theorem hy_E17_0 : (hy_blk 17 0).2 = hy_B17_0 := rfl
theorem hy_E17_1 : (hy_blk 17 1).2 = hy_B17_1 := rfl
theorem hy_E17_2 : (hy_blk 17 2).2 = hy_B17_2 := rfl
theorem hy_E17_3 : (hy_blk 17 3).2 = hy_B17_3 := rfl
theorem hy_E17_4 : (hy_blk 17 4).2 = hy_B17_4 := rfl
theorem hy_na18 : hy_na 18 = 1 := by decide +kernel
theorem hy_ow18 : hy_own 18 = 8 := by decide +kernel
theorem hy_rt18 : hy_rt 18 = 0 := by decide +kernel
theorem hy_E18_0 : (hy_blk 18 0).2 = hy_B18_0 := rfl
theorem hy_E18_1 : (hy_blk 18 1).2 = hy_B18_1 := rfl
theorem hy_E18_2 : (hy_blk 18 2).2 = hy_B18_2 := rfl
theorem hy_E18_3 : (hy_blk 18 3).2 = hy_B18_3 := rfl
theorem hy_E18_4 : (hy_blk 18 4).2 = hy_B18_4 := rfl
theorem hy_E18_5 : (hy_blk 18 5).2 = hy_B18_5 := rfl
theorem hy_E18_6 : (hy_blk 18 6).2 = hy_B18_6 := rfl
theorem hy_na19 : hy_na 19 = 2 := by decide +kernel
theorem hy_ow19 : hy_own 19 = 1 := by decide +kernel
theorem hy_rt19 : hy_rt 19 = 0 := by decide +kernel
theorem hy_E19_0 : (hy_blk 19 0).2 = hy_B19_0 := rfl
theorem hy_E19_1 : (hy_blk 19 1).2 = hy_B19_1 := rfl
theorem hy_E19_2 : (hy_blk 19 2).2 = hy_B19_2 := rfl
theorem hy_na20 : hy_na 20 = 3 := by decide +kernel
theorem hy_ow20 : hy_own 20 = 1 := by decide +kernel
theorem hy_rt20 : hy_rt 20 = 0 := by decide +kernel
theorem hy_E20_0 : (hy_blk 20 0).2 = hy_B20_0 := rfl
theorem hy_E20_1 : (hy_blk 20 1).2 = hy_B20_1 := rfl
theorem hy_E20_2 : (hy_blk 20 2).2 = hy_B20_2 := rfl
theorem hy_E20_3 : (hy_blk 20 3).2 = hy_B20_3 := rfl
theorem hy_E20_4 : (hy_blk 20 4).2 = hy_B20_4 := rfl
theorem hy_na21 : hy_na 21 = 3 := by decide +kernel
theorem hy_ow21 : hy_own 21 = 7 := by decide +kernel
theorem hy_rt21 : hy_rt 21 = 1 := by decide +kernel
theorem hy_E21_0 : (hy_blk 21 0).2 = hy_B21_0 := rfl
theorem hy_E21_1 : (hy_blk 21 1).2 = hy_B21_1 := rfl
theorem hy_E21_2 : (hy_blk 21 2).2 = hy_B21_2 := rfl
theorem hy_E21_3 : (hy_blk 21 3).2 = hy_B21_3 := rfl
theorem hy_E21_4 : (hy_blk 21 4).2 = hy_B21_4 := rfl
theorem hy_E21_5 : (hy_blk 21 5).2 = hy_B21_5 := rfl
theorem hy_E21_6 : (hy_blk 21 6).2 = hy_B21_6 := rfl
theorem hy_E21_7 : (hy_blk 21 7).2 = hy_B21_7 := rfl
theorem hy_E21_8 : (hy_blk 21 8).2 = hy_B21_8 := rfl
theorem hy_E21_9 : (hy_blk 21 9).2 = hy_B21_9 := rfl
theorem hy_E21_10 : (hy_blk 21 10).2 = hy_B21_10 := rfl
theorem hy_E21_11 : (hy_blk 21 11).2 = hy_B21_11 := rfl
theorem hy_E21_12 : (hy_blk 21 12).2 = hy_B21_12 := rfl
theorem hy_E21_13 : (hy_blk 21 13).2 = hy_B21_13 := rfl
theorem hy_E21_14 : (hy_blk 21 14).2 = hy_B21_14 := rfl
theorem hy_E21_15 : (hy_blk 21 15).2 = hy_B21_15 := rfl
theorem hy_E21_16 : (hy_blk 21 16).2 = hy_B21_16 := rfl
theorem hy_E21_17 : (hy_blk 21 17).2 = hy_B21_17 := rfl
theorem hy_E21_18 : (hy_blk 21 18).2 = hy_B21_18 := rfl
theorem hy_E21_19 : (hy_blk 21 19).2 = hy_B21_19 := rfl
theorem hy_E21_20 : (hy_blk 21 20).2 = hy_B21_20 := rfl
theorem hy_E21_21 : (hy_blk 21 21).2 = hy_B21_21 := rfl
theorem hy_E21_22 : (hy_blk 21 22).2 = hy_B21_22 := rfl
theorem hy_na22 : hy_na 22 = 4 := by decide +kernel
theorem hy_ow22 : hy_own 22 = 7 := by decide +kernel
theorem hy_rt22 : hy_rt 22 = 1 := by decide +kernel
theorem hy_E22_0 : (hy_blk 22 0).2 = hy_B22_0 := rfl
theorem hy_E22_1 : (hy_blk 22 1).2 = hy_B22_1 := rfl
theorem hy_E22_2 : (hy_blk 22 2).2 = hy_B22_2 := rfl
theorem hy_E22_3 : (hy_blk 22 3).2 = hy_B22_3 := rfl
theorem hy_E22_4 : (hy_blk 22 4).2 = hy_B22_4 := rfl
theorem hy_E22_5 : (hy_blk 22 5).2 = hy_B22_5 := rfl
theorem hy_na23 : hy_na 23 = 3 := by decide +kernel
theorem hy_ow23 : hy_own 23 = 1 := by decide +kernel
theorem hy_rt23 : hy_rt 23 = 0 := by decide +kernel
theorem hy_E23_0 : (hy_blk 23 0).2 = hy_B23_0 := rfl
theorem hy_E23_1 : (hy_blk 23 1).2 = hy_B23_1 := rfl
theorem hy_E23_2 : (hy_blk 23 2).2 = hy_B23_2 := rfl
theorem hy_E23_3 : (hy_blk 23 3).2 = hy_B23_3 := rfl
theorem hy_E23_4 : (hy_blk 23 4).2 = hy_B23_4 := rfl
theorem hy_na24 : hy_na 24 = 2 := by decide +kernel
theorem hy_ow24 : hy_own 24 = 8 := by decide +kernel
theorem hy_rt24 : hy_rt 24 = 1 := by decide +kernel
theorem hy_E24_0 : (hy_blk 24 0).2 = hy_B24_0 := rfl
theorem hy_E24_1 : (hy_blk 24 1).2 = hy_B24_1 := rfl
theorem hy_E24_2 : (hy_blk 24 2).2 = hy_B24_2 := rfl
theorem hy_E24_3 : (hy_blk 24 3).2 = hy_B24_3 := rfl
theorem hy_E24_4 : (hy_blk 24 4).2 = hy_B24_4 := rfl
theorem hy_na25 : hy_na 25 = 3 := by decide +kernel
theorem hy_ow25 : hy_own 25 = 1 := by decide +kernel
theorem hy_rt25 : hy_rt 25 = 0 := by decide +kernel
theorem hy_E25_0 : (hy_blk 25 0).2 = hy_B25_0 := rfl
theorem hy_E25_1 : (hy_blk 25 1).2 = hy_B25_1 := rfl
theorem hy_E25_2 : (hy_blk 25 2).2 = hy_B25_2 := rfl
theorem hy_na26 : hy_na 26 = 4 := by decide +kernel
theorem hy_ow26 : hy_own 26 = 1 := by decide +kernel
theorem hy_rt26 : hy_rt 26 = 0 := by decide +kernel
theorem hy_E26_0 : (hy_blk 26 0).2 = hy_B26_0 := rfl
theorem hy_E26_1 : (hy_blk 26 1).2 = hy_B26_1 := rfl
theorem hy_E26_2 : (hy_blk 26 2).2 = hy_B26_2 := rfl
theorem hy_E26_3 : (hy_blk 26 3).2 = hy_B26_3 := rfl
theorem hy_E26_4 : (hy_blk 26 4).2 = hy_B26_4 := rfl
theorem hy_E26_5 : (hy_blk 26 5).2 = hy_B26_5 := rfl
theorem hy_na27 : hy_na 27 = 2 := by decide +kernel
theorem hy_ow27 : hy_own 27 = 1 := by decide +kernel
theorem hy_rt27 : hy_rt 27 = 0 := by decide +kernel
theorem hy_E27_0 : (hy_blk 27 0).2 = hy_B27_0 := rfl
theorem hy_E27_1 : (hy_blk 27 1).2 = hy_B27_1 := rfl
theorem hy_na28 : hy_na 28 = 3 := by decide +kernel
theorem hy_ow28 : hy_own 28 = 1 := by decide +kernel
theorem hy_rt28 : hy_rt 28 = 0 := by decide +kernel
theorem hy_E28_0 : (hy_blk 28 0).2 = hy_B28_0 := rfl
theorem hy_E28_1 : (hy_blk 28 1).2 = hy_B28_1 := rfl
theorem hy_E28_2 : (hy_blk 28 2).2 = hy_B28_2 := rfl
theorem hy_na29 : hy_na 29 = 2 := by decide +kernel
theorem hy_ow29 : hy_own 29 = 1 := by decide +kernel
theorem hy_rt29 : hy_rt 29 = 0 := by decide +kernel
theorem hy_E29_0 : (hy_blk 29 0).2 = hy_B29_0 := rfl
theorem hy_E29_1 : (hy_blk 29 1).2 = hy_B29_1 := rfl
theorem hy_na30 : hy_na 30 = 3 := by decide +kernel
theorem hy_ow30 : hy_own 30 = 1 := by decide +kernel
theorem hy_rt30 : hy_rt 30 = 0 := by decide +kernel
theorem hy_E30_0 : (hy_blk 30 0).2 = hy_B30_0 := rfl
theorem hy_E30_1 : (hy_blk 30 1).2 = hy_B30_1 := rfl
theorem hy_E30_2 : (hy_blk 30 2).2 = hy_B30_2 := rfl
theorem hy_E30_3 : (hy_blk 30 3).2 = hy_B30_3 := rfl
theorem hy_E30_4 : (hy_blk 30 4).2 = hy_B30_4 := rfl
theorem hy_E30_5 : (hy_blk 30 5).2 = hy_B30_5 := rfl
theorem hy_E30_6 : (hy_blk 30 6).2 = hy_B30_6 := rfl
theorem hy_E30_7 : (hy_blk 30 7).2 = hy_B30_7 := rfl
theorem hy_na31 : hy_na 31 = 2 := by decide +kernel
theorem hy_ow31 : hy_own 31 = 1 := by decide +kernel
theorem hy_rt31 : hy_rt 31 = 0 := by decide +kernel
theorem hy_E31_0 : (hy_blk 31 0).2 = hy_B31_0 := rfl
theorem hy_E31_1 : (hy_blk 31 1).2 = hy_B31_1 := rfl
theorem hy_E31_2 : (hy_blk 31 2).2 = hy_B31_2 := rfl
theorem hy_E31_3 : (hy_blk 31 3).2 = hy_B31_3 := rfl
theorem hy_na32 : hy_na 32 = 1 := by decide +kernel
theorem hy_ow32 : hy_own 32 = 7 := by decide +kernel
theorem hy_rt32 : hy_rt 32 = 0 := by decide +kernel
theorem hy_E32_0 : (hy_blk 32 0).2 = hy_B32_0 := rfl
theorem hy_E32_1 : (hy_blk 32 1).2 = hy_B32_1 := rfl
theorem hy_E32_2 : (hy_blk 32 2).2 = hy_B32_2 := rfl
theorem hy_na33 : hy_na 33 = 1 := by decide +kernel
theorem hy_ow33 : hy_own 33 = 7 := by decide +kernel
theorem hy_rt33 : hy_rt 33 = 0 := by decide +kernel
theorem hy_E33_0 : (hy_blk 33 0).2 = hy_B33_0 := rfl
theorem hy_na34 : hy_na 34 = 2 := by decide +kernel
theorem hy_ow34 : hy_own 34 = 1 := by decide +kernel
theorem hy_rt34 : hy_rt 34 = 0 := by decide +kernel
theorem hy_E34_0 : (hy_blk 34 0).2 = hy_B34_0 := rfl
theorem hy_na35 : hy_na 35 = 3 := by decide +kernel
theorem hy_ow35 : hy_own 35 = 1 := by decide +kernel
theorem hy_rt35 : hy_rt 35 = 0 := by decide +kernel
theorem hy_E35_0 : (hy_blk 35 0).2 = hy_B35_0 := rfl
theorem hy_E35_1 : (hy_blk 35 1).2 = hy_B35_1 := rfl
theorem hy_E35_2 : (hy_blk 35 2).2 = hy_B35_2 := rfl
theorem hy_E35_3 : (hy_blk 35 3).2 = hy_B35_3 := rfl
theorem hy_E35_4 : (hy_blk 35 4).2 = hy_B35_4 := rfl
theorem hy_na36 : hy_na 36 = 3 := by decide +kernel
theorem hy_ow36 : hy_own 36 = 7 := by decide +kernel
theorem hy_rt36 : hy_rt 36 = 0 := by decide +kernel
theorem hy_E36_0 : (hy_blk 36 0).2 = hy_B36_0 := rfl
theorem hy_E36_1 : (hy_blk 36 1).2 = hy_B36_1 := rfl
theorem hy_na37 : hy_na 37 = 2 := by decide +kernel
theorem hy_ow37 : hy_own 37 = 8 := by decide +kernel
theorem hy_rt37 : hy_rt 37 = 0 := by decide +kernel
theorem hy_E37_0 : (hy_blk 37 0).2 = hy_B37_0 := rfl
theorem hy_na38 : hy_na 38 = 1 := by decide +kernel
theorem hy_ow38 : hy_own 38 = 7 := by decide +kernel
theorem hy_rt38 : hy_rt 38 = 0 := by decide +kernel
theorem hy_E38_0 : (hy_blk 38 0).2 = hy_B38_0 := rfl
theorem hy_na39 : hy_na 39 = 2 := by decide +kernel
theorem hy_ow39 : hy_own 39 = 1 := by decide +kernel
theorem hy_rt39 : hy_rt 39 = 0 := by decide +kernel
theorem hy_E39_0 : (hy_blk 39 0).2 = hy_B39_0 := rfl
theorem hy_E39_1 : (hy_blk 39 1).2 = hy_B39_1 := rfl
theorem hy_E39_2 : (hy_blk 39 2).2 = hy_B39_2 := rfl
theorem hy_na40 : hy_na 40 = 2 := by decide +kernel
theorem hy_ow40 : hy_own 40 = 7 := by decide +kernel
theorem hy_rt40 : hy_rt 40 = 0 := by decide +kernel
theorem hy_E40_0 : (hy_blk 40 0).2 = hy_B40_0 := rfl
theorem hy_E40_1 : (hy_blk 40 1).2 = hy_B40_1 := rfl
theorem hy_E40_2 : (hy_blk 40 2).2 = hy_B40_2 := rfl
theorem hy_E40_3 : (hy_blk 40 3).2 = hy_B40_3 := rfl
theorem hy_E40_4 : (hy_blk 40 4).2 = hy_B40_4 := rfl
theorem hy_E40_5 : (hy_blk 40 5).2 = hy_B40_5 := rfl
theorem hy_na41 : hy_na 41 = 3 := by decide +kernel
theorem hy_ow41 : hy_own 41 = 7 := by decide +kernel
theorem hy_rt41 : hy_rt 41 = 1 := by decide +kernel
theorem hy_E41_0 : (hy_blk 41 0).2 = hy_B41_0 := rfl
theorem hy_E41_1 : (hy_blk 41 1).2 = hy_B41_1 := rfl
theorem hy_E41_2 : (hy_blk 41 2).2 = hy_B41_2 := rfl
theorem hy_na42 : hy_na 42 = 4 := by decide +kernel
theorem hy_ow42 : hy_own 42 = 1 := by decide +kernel
theorem hy_rt42 : hy_rt 42 = 0 := by decide +kernel
theorem hy_E42_0 : (hy_blk 42 0).2 = hy_B42_0 := rfl
theorem hy_E42_1 : (hy_blk 42 1).2 = hy_B42_1 := rfl
theorem hy_E42_2 : (hy_blk 42 2).2 = hy_B42_2 := rfl
theorem hy_E42_3 : (hy_blk 42 3).2 = hy_B42_3 := rfl
theorem hy_na43 : hy_na 43 = 2 := by decide +kernel
theorem hy_ow43 : hy_own 43 = 7 := by decide +kernel
theorem hy_rt43 : hy_rt 43 = 0 := by decide +kernel
theorem hy_E43_0 : (hy_blk 43 0).2 = hy_B43_0 := rfl
theorem hy_E43_1 : (hy_blk 43 1).2 = hy_B43_1 := rfl
theorem hy_E43_2 : (hy_blk 43 2).2 = hy_B43_2 := rfl
theorem hy_E43_3 : (hy_blk 43 3).2 = hy_B43_3 := rfl
theorem hy_E43_4 : (hy_blk 43 4).2 = hy_B43_4 := rfl
theorem hy_E43_5 : (hy_blk 43 5).2 = hy_B43_5 := rfl
theorem hy_na44 : hy_na 44 = 1 := by decide +kernel
theorem hy_ow44 : hy_own 44 = 4 := by decide +kernel
theorem hy_rt44 : hy_rt 44 = 0 := by decide +kernel
theorem hy_E44_0 : (hy_blk 44 0).2 = hy_B44_0 := rfl
theorem hy_na45 : hy_na 45 = 2 := by decide +kernel
theorem hy_ow45 : hy_own 45 = 7 := by decide +kernel
theorem hy_rt45 : hy_rt 45 = 0 := by decide +kernel
theorem hy_E45_0 : (hy_blk 45 0).2 = hy_B45_0 := rfl
theorem hy_E45_1 : (hy_blk 45 1).2 = hy_B45_1 := rfl
theorem hy_E45_2 : (hy_blk 45 2).2 = hy_B45_2 := rfl
theorem hy_E45_3 : (hy_blk 45 3).2 = hy_B45_3 := rfl
theorem hy_E45_4 : (hy_blk 45 4).2 = hy_B45_4 := rfl
theorem hy_E45_5 : (hy_blk 45 5).2 = hy_B45_5 := rfl
theorem hy_na46 : hy_na 46 = 4 := by decide +kernel
theorem hy_ow46 : hy_own 46 = 4 := by decide +kernel
theorem hy_rt46 : hy_rt 46 = 0 := by decide +kernel
theorem hy_E46_0 : (hy_blk 46 0).2 = hy_B46_0 := rfl
theorem hy_E46_1 : (hy_blk 46 1).2 = hy_B46_1 := rfl
theorem hy_E46_2 : (hy_blk 46 2).2 = hy_B46_2 := rfl
theorem hy_na47 : hy_na 47 = 2 := by decide +kernel
theorem hy_ow47 : hy_own 47 = 4 := by decide +kernel
theorem hy_rt47 : hy_rt 47 = 0 := by decide +kernel
theorem hy_E47_0 : (hy_blk 47 0).2 = hy_B47_0 := rfl
theorem hy_E47_1 : (hy_blk 47 1).2 = hy_B47_1 := rfl
theorem hy_E47_2 : (hy_blk 47 2).2 = hy_B47_2 := rfl
theorem hy_E47_3 : (hy_blk 47 3).2 = hy_B47_3 := rfl
theorem hy_na48 : hy_na 48 = 2 := by decide +kernel
theorem hy_ow48 : hy_own 48 = 1 := by decide +kernel
theorem hy_rt48 : hy_rt 48 = 0 := by decide +kernel
theorem hy_E48_0 : (hy_blk 48 0).2 = hy_B48_0 := rfl
theorem hy_E48_1 : (hy_blk 48 1).2 = hy_B48_1 := rfl
theorem hy_E48_2 : (hy_blk 48 2).2 = hy_B48_2 := rfl
theorem hy_na49 : hy_na 49 = 2 := by decide +kernel
theorem hy_ow49 : hy_own 49 = 7 := by decide +kernel
theorem hy_rt49 : hy_rt 49 = 0 := by decide +kernel
theorem hy_E49_0 : (hy_blk 49 0).2 = hy_B49_0 := rfl
theorem hy_E49_1 : (hy_blk 49 1).2 = hy_B49_1 := rfl
theorem hy_E49_2 : (hy_blk 49 2).2 = hy_B49_2 := rfl
theorem hy_na50 : hy_na 50 = 2 := by decide +kernel
theorem hy_ow50 : hy_own 50 = 8 := by decide +kernel
theorem hy_rt50 : hy_rt 50 = 0 := by decide +kernel
theorem hy_E50_0 : (hy_blk 50 0).2 = hy_B50_0 := rfl
theorem hy_na51 : hy_na 51 = 2 := by decide +kernel
theorem hy_ow51 : hy_own 51 = 7 := by decide +kernel
theorem hy_rt51 : hy_rt 51 = 0 := by decide +kernel
theorem hy_E51_0 : (hy_blk 51 0).2 = hy_B51_0 := rfl
theorem hy_E51_1 : (hy_blk 51 1).2 = hy_B51_1 := rfl
theorem hy_na52 : hy_na 52 = 2 := by decide +kernel
theorem hy_ow52 : hy_own 52 = 1 := by decide +kernel
theorem hy_rt52 : hy_rt 52 = 0 := by decide +kernel
theorem hy_E52_0 : (hy_blk 52 0).2 = hy_B52_0 := rfl
theorem hy_E52_1 : (hy_blk 52 1).2 = hy_B52_1 := rfl
theorem hy_E52_2 : (hy_blk 52 2).2 = hy_B52_2 := rfl
theorem hy_E52_3 : (hy_blk 52 3).2 = hy_B52_3 := rfl
theorem hy_E52_4 : (hy_blk 52 4).2 = hy_B52_4 := rfl
theorem hy_na53 : hy_na 53 = 2 := by decide +kernel
theorem hy_ow53 : hy_own 53 = 7 := by decide +kernel
theorem hy_rt53 : hy_rt 53 = 1 := by decide +kernel
theorem hy_E53_0 : (hy_blk 53 0).2 = hy_B53_0 := rfl
theorem hy_E53_1 : (hy_blk 53 1).2 = hy_B53_1 := rfl
theorem hy_E53_2 : (hy_blk 53 2).2 = hy_B53_2 := rfl
theorem hy_E53_3 : (hy_blk 53 3).2 = hy_B53_3 := rfl
theorem hy_na54 : hy_na 54 = 2 := by decide +kernel
theorem hy_ow54 : hy_own 54 = 1 := by decide +kernel
theorem hy_rt54 : hy_rt 54 = 0 := by decide +kernel
theorem hy_E54_0 : (hy_blk 54 0).2 = hy_B54_0 := rfl
theorem hy_E54_1 : (hy_blk 54 1).2 = hy_B54_1 := rfl
theorem hy_E54_2 : (hy_blk 54 2).2 = hy_B54_2 := rfl
theorem hy_na55 : hy_na 55 = 2 := by decide +kernel
theorem hy_ow55 : hy_own 55 = 1 := by decide +kernel
theorem hy_rt55 : hy_rt 55 = 0 := by decide +kernel
theorem hy_E55_0 : (hy_blk 55 0).2 = hy_B55_0 := rfl
theorem hy_E55_1 : (hy_blk 55 1).2 = hy_B55_1 := rfl
theorem hy_na56 : hy_na 56 = 1 := by decide +kernel
theorem hy_ow56 : hy_own 56 = 7 := by decide +kernel
theorem hy_rt56 : hy_rt 56 = 0 := by decide +kernel
theorem hy_E56_0 : (hy_blk 56 0).2 = hy_B56_0 := rfl
theorem hy_na57 : hy_na 57 = 2 := by decide +kernel
theorem hy_ow57 : hy_own 57 = 7 := by decide +kernel
theorem hy_rt57 : hy_rt 57 = 0 := by decide +kernel
theorem hy_E57_0 : (hy_blk 57 0).2 = hy_B57_0 := rfl
theorem hy_E57_1 : (hy_blk 57 1).2 = hy_B57_1 := rfl
theorem hy_E57_2 : (hy_blk 57 2).2 = hy_B57_2 := rfl
theorem hy_E57_3 : (hy_blk 57 3).2 = hy_B57_3 := rfl
theorem hy_na58 : hy_na 58 = 2 := by decide +kernel
theorem hy_ow58 : hy_own 58 = 7 := by decide +kernel
theorem hy_rt58 : hy_rt 58 = 0 := by decide +kernel
theorem hy_E58_0 : (hy_blk 58 0).2 = hy_B58_0 := rfl
theorem hy_E58_1 : (hy_blk 58 1).2 = hy_B58_1 := rfl
theorem hy_E58_2 : (hy_blk 58 2).2 = hy_B58_2 := rfl
theorem hy_na59 : hy_na 59 = 1 := by decide +kernel
theorem hy_ow59 : hy_own 59 = 7 := by decide +kernel
theorem hy_rt59 : hy_rt 59 = 0 := by decide +kernel
theorem hy_E59_0 : (hy_blk 59 0).2 = hy_B59_0 := rfl
theorem hy_E59_1 : (hy_blk 59 1).2 = hy_B59_1 := rfl
theorem hy_E59_2 : (hy_blk 59 2).2 = hy_B59_2 := rfl
theorem hy_E59_3 : (hy_blk 59 3).2 = hy_B59_3 := rfl
theorem hy_na60 : hy_na 60 = 1 := by decide +kernel
theorem hy_ow60 : hy_own 60 = 7 := by decide +kernel
theorem hy_rt60 : hy_rt 60 = 0 := by decide +kernel
theorem hy_E60_0 : (hy_blk 60 0).2 = hy_B60_0 := rfl
theorem hy_E60_1 : (hy_blk 60 1).2 = hy_B60_1 := rfl
theorem hy_E60_2 : (hy_blk 60 2).2 = hy_B60_2 := rfl
theorem hy_E60_3 : (hy_blk 60 3).2 = hy_B60_3 := rfl
theorem hy_E60_4 : (hy_blk 60 4).2 = hy_B60_4 := rfl
theorem hy_na61 : hy_na 61 = 1 := by decide +kernel
theorem hy_ow61 : hy_own 61 = 8 := by decide +kernel
theorem hy_rt61 : hy_rt 61 = 0 := by decide +kernel
theorem hy_E61_0 : (hy_blk 61 0).2 = hy_B61_0 := rfl
theorem hy_E61_1 : (hy_blk 61 1).2 = hy_B61_1 := rfl
theorem hy_na62 : hy_na 62 = 3 := by decide +kernel
theorem hy_ow62 : hy_own 62 = 1 := by decide +kernel
theorem hy_rt62 : hy_rt 62 = 0 := by decide +kernel
theorem hy_E62_0 : (hy_blk 62 0).2 = hy_B62_0 := rfl
theorem hy_E62_1 : (hy_blk 62 1).2 = hy_B62_1 := rfl
theorem hy_E62_2 : (hy_blk 62 2).2 = hy_B62_2 := rfl
theorem hy_E62_3 : (hy_blk 62 3).2 = hy_B62_3 := rfl
theorem hy_E62_4 : (hy_blk 62 4).2 = hy_B62_4 := rfl
theorem hy_E62_5 : (hy_blk 62 5).2 = hy_B62_5 := rfl
theorem hy_E62_6 : (hy_blk 62 6).2 = hy_B62_6 := rfl
theorem hy_na63 : hy_na 63 = 1 := by decide +kernel
theorem hy_ow63 : hy_own 63 = 7 := by decide +kernel
theorem hy_rt63 : hy_rt 63 = 0 := by decide +kernel
theorem hy_E63_0 : (hy_blk 63 0).2 = hy_B63_0 := rfl
theorem hy_E63_1 : (hy_blk 63 1).2 = hy_B63_1 := rfl
theorem hy_E63_2 : (hy_blk 63 2).2 = hy_B63_2 := rfl
theorem hy_E63_3 : (hy_blk 63 3).2 = hy_B63_3 := rfl
theorem hy_na64 : hy_na 64 = 1 := by decide +kernel
theorem hy_ow64 : hy_own 64 = 1 := by decide +kernel
theorem hy_rt64 : hy_rt 64 = 0 := by decide +kernel
theorem hy_E64_0 : (hy_blk 64 0).2 = hy_B64_0 := rfl
theorem hy_E64_1 : (hy_blk 64 1).2 = hy_B64_1 := rfl
theorem hy_E64_2 : (hy_blk 64 2).2 = hy_B64_2 := rfl
theorem hy_E64_3 : (hy_blk 64 3).2 = hy_B64_3 := rfl
theorem hy_E64_4 : (hy_blk 64 4).2 = hy_B64_4 := rfl
theorem hy_na65 : hy_na 65 = 3 := by decide +kernel
theorem hy_ow65 : hy_own 65 = 1 := by decide +kernel
theorem hy_rt65 : hy_rt 65 = 0 := by decide +kernel
theorem hy_E65_0 : (hy_blk 65 0).2 = hy_B65_0 := rfl
theorem hy_E65_1 : (hy_blk 65 1).2 = hy_B65_1 := rfl
theorem hy_E65_2 : (hy_blk 65 2).2 = hy_B65_2 := rfl
theorem hy_E65_3 : (hy_blk 65 3).2 = hy_B65_3 := rfl
theorem hy_E65_4 : (hy_blk 65 4).2 = hy_B65_4 := rfl
theorem hy_E65_5 : (hy_blk 65 5).2 = hy_B65_5 := rfl
theorem hy_na66 : hy_na 66 = 2 := by decide +kernel
theorem hy_ow66 : hy_own 66 = 1 := by decide +kernel
theorem hy_rt66 : hy_rt 66 = 0 := by decide +kernel
theorem hy_E66_0 : (hy_blk 66 0).2 = hy_B66_0 := rfl
theorem hy_na67 : hy_na 67 = 3 := by decide +kernel
theorem hy_ow67 : hy_own 67 = 1 := by decide +kernel
theorem hy_rt67 : hy_rt 67 = 0 := by decide +kernel
theorem hy_E67_0 : (hy_blk 67 0).2 = hy_B67_0 := rfl
theorem hy_E67_1 : (hy_blk 67 1).2 = hy_B67_1 := rfl
theorem hy_E67_2 : (hy_blk 67 2).2 = hy_B67_2 := rfl
theorem hy_E67_3 : (hy_blk 67 3).2 = hy_B67_3 := rfl
theorem hy_E67_4 : (hy_blk 67 4).2 = hy_B67_4 := rfl
theorem hy_E67_5 : (hy_blk 67 5).2 = hy_B67_5 := rfl
theorem hy_na68 : hy_na 68 = 4 := by decide +kernel
theorem hy_ow68 : hy_own 68 = 1 := by decide +kernel
theorem hy_rt68 : hy_rt 68 = 0 := by decide +kernel
theorem hy_E68_0 : (hy_blk 68 0).2 = hy_B68_0 := rfl
theorem hy_E68_1 : (hy_blk 68 1).2 = hy_B68_1 := rfl
theorem hy_E68_2 : (hy_blk 68 2).2 = hy_B68_2 := rfl
theorem hy_E68_3 : (hy_blk 68 3).2 = hy_B68_3 := rfl
theorem hy_E68_4 : (hy_blk 68 4).2 = hy_B68_4 := rfl
theorem hy_E68_5 : (hy_blk 68 5).2 = hy_B68_5 := rfl
theorem hy_E68_6 : (hy_blk 68 6).2 = hy_B68_6 := rfl
theorem hy_na69 : hy_na 69 = 1 := by decide +kernel
theorem hy_ow69 : hy_own 69 = 1 := by decide +kernel
theorem hy_rt69 : hy_rt 69 = 1 := by decide +kernel
theorem hy_E69_0 : (hy_blk 69 0).2 = hy_B69_0 := rfl
theorem hy_na70 : hy_na 70 = 1 := by decide +kernel
theorem hy_ow70 : hy_own 70 = 5 := by decide +kernel
theorem hy_rt70 : hy_rt 70 = 1 := by decide +kernel
theorem hy_E70_0 : (hy_blk 70 0).2 = hy_B70_0 := rfl
theorem hy_E70_1 : (hy_blk 70 1).2 = hy_B70_1 := rfl
theorem hy_E70_2 : (hy_blk 70 2).2 = hy_B70_2 := rfl
theorem hy_na71 : hy_na 71 = 2 := by decide +kernel
theorem hy_ow71 : hy_own 71 = 7 := by decide +kernel
theorem hy_rt71 : hy_rt 71 = 0 := by decide +kernel
theorem hy_E71_0 : (hy_blk 71 0).2 = hy_B71_0 := rfl
theorem hy_E71_1 : (hy_blk 71 1).2 = hy_B71_1 := rfl
theorem hy_E71_2 : (hy_blk 71 2).2 = hy_B71_2 := rfl
theorem hy_E71_3 : (hy_blk 71 3).2 = hy_B71_3 := rfl
theorem hy_E71_4 : (hy_blk 71 4).2 = hy_B71_4 := rfl
theorem hy_E71_5 : (hy_blk 71 5).2 = hy_B71_5 := rfl
theorem hy_na72 : hy_na 72 = 2 := by decide +kernel
theorem hy_ow72 : hy_own 72 = 5 := by decide +kernel
theorem hy_rt72 : hy_rt 72 = 1 := by decide +kernel
theorem hy_E72_0 : (hy_blk 72 0).2 = hy_B72_0 := rfl
theorem hy_E72_1 : (hy_blk 72 1).2 = hy_B72_1 := rfl
theorem hy_E72_2 : (hy_blk 72 2).2 = hy_B72_2 := rfl
theorem hy_na73 : hy_na 73 = 2 := by decide +kernel
theorem hy_ow73 : hy_own 73 = 5 := by decide +kernel
theorem hy_rt73 : hy_rt 73 = 1 := by decide +kernel
theorem hy_E73_0 : (hy_blk 73 0).2 = hy_B73_0 := rfl
theorem hy_na74 : hy_na 74 = 1 := by decide +kernel
theorem hy_ow74 : hy_own 74 = 1 := by decide +kernel
theorem hy_rt74 : hy_rt 74 = 0 := by decide +kernel
theorem hy_E74_0 : (hy_blk 74 0).2 = hy_B74_0 := rfl
theorem hy_E74_1 : (hy_blk 74 1).2 = hy_B74_1 := rfl
theorem hy_E74_2 : (hy_blk 74 2).2 = hy_B74_2 := rfl
theorem hy_na75 : hy_na 75 = 2 := by decide +kernel
theorem hy_ow75 : hy_own 75 = 1 := by decide +kernel
theorem hy_rt75 : hy_rt 75 = 0 := by decide +kernel
theorem hy_E75_0 : (hy_blk 75 0).2 = hy_B75_0 := rfl
theorem hy_E75_1 : (hy_blk 75 1).2 = hy_B75_1 := rfl
theorem hy_E75_2 : (hy_blk 75 2).2 = hy_B75_2 := rfl
theorem hy_E75_3 : (hy_blk 75 3).2 = hy_B75_3 := rfl
theorem hy_na76 : hy_na 76 = 4 := by decide +kernel
theorem hy_ow76 : hy_own 76 = 1 := by decide +kernel
theorem hy_rt76 : hy_rt 76 = 0 := by decide +kernel
theorem hy_E76_0 : (hy_blk 76 0).2 = hy_B76_0 := rfl
theorem hy_E76_1 : (hy_blk 76 1).2 = hy_B76_1 := rfl
theorem hy_na77 : hy_na 77 = 2 := by decide +kernel
theorem hy_ow77 : hy_own 77 = 2 := by decide +kernel
theorem hy_rt77 : hy_rt 77 = 0 := by decide +kernel
theorem hy_E77_0 : (hy_blk 77 0).2 = hy_B77_0 := rfl
theorem hy_E77_1 : (hy_blk 77 1).2 = hy_B77_1 := rfl
theorem hy_E77_2 : (hy_blk 77 2).2 = hy_B77_2 := rfl
theorem hy_na78 : hy_na 78 = 2 := by decide +kernel
theorem hy_ow78 : hy_own 78 = 1 := by decide +kernel
theorem hy_rt78 : hy_rt 78 = 0 := by decide +kernel
theorem hy_E78_0 : (hy_blk 78 0).2 = hy_B78_0 := rfl
theorem hy_E78_1 : (hy_blk 78 1).2 = hy_B78_1 := rfl
theorem hy_na79 : hy_na 79 = 1 := by decide +kernel
theorem hy_ow79 : hy_own 79 = 1 := by decide +kernel
theorem hy_rt79 : hy_rt 79 = 0 := by decide +kernel
theorem hy_E79_0 : (hy_blk 79 0).2 = hy_B79_0 := rfl
theorem hy_E79_1 : (hy_blk 79 1).2 = hy_B79_1 := rfl
theorem hy_E79_2 : (hy_blk 79 2).2 = hy_B79_2 := rfl
theorem hy_na80 : hy_na 80 = 1 := by decide +kernel
theorem hy_ow80 : hy_own 80 = 2 := by decide +kernel
theorem hy_rt80 : hy_rt 80 = 0 := by decide +kernel
theorem hy_E80_0 : (hy_blk 80 0).2 = hy_B80_0 := rfl
theorem hy_E80_1 : (hy_blk 80 1).2 = hy_B80_1 := rfl
theorem hy_E80_2 : (hy_blk 80 2).2 = hy_B80_2 := rfl
theorem hy_E80_3 : (hy_blk 80 3).2 = hy_B80_3 := rfl
theorem hy_E80_4 : (hy_blk 80 4).2 = hy_B80_4 := rfl
theorem hy_na81 : hy_na 81 = 1 := by decide +kernel
theorem hy_ow81 : hy_own 81 = 3 := by decide +kernel
theorem hy_rt81 : hy_rt 81 = 0 := by decide +kernel
theorem hy_E81_0 : (hy_blk 81 0).2 = hy_B81_0 := rfl
theorem hy_na82 : hy_na 82 = 2 := by decide +kernel
theorem hy_ow82 : hy_own 82 = 2 := by decide +kernel
theorem hy_rt82 : hy_rt 82 = 0 := by decide +kernel
theorem hy_E82_0 : (hy_blk 82 0).2 = hy_B82_0 := rfl
theorem hy_E82_1 : (hy_blk 82 1).2 = hy_B82_1 := rfl
theorem hy_E82_2 : (hy_blk 82 2).2 = hy_B82_2 := rfl
theorem hy_na83 : hy_na 83 = 2 := by decide +kernel
theorem hy_ow83 : hy_own 83 = 2 := by decide +kernel
theorem hy_rt83 : hy_rt 83 = 0 := by decide +kernel
theorem hy_E83_0 : (hy_blk 83 0).2 = hy_B83_0 := rfl
theorem hy_E83_1 : (hy_blk 83 1).2 = hy_B83_1 := rfl
theorem hy_E83_2 : (hy_blk 83 2).2 = hy_B83_2 := rfl
theorem hy_na84 : hy_na 84 = 1 := by decide +kernel
theorem hy_ow84 : hy_own 84 = 2 := by decide +kernel
theorem hy_rt84 : hy_rt 84 = 1 := by decide +kernel
theorem hy_E84_0 : (hy_blk 84 0).2 = hy_B84_0 := rfl
theorem hy_E84_1 : (hy_blk 84 1).2 = hy_B84_1 := rfl
theorem hy_E84_2 : (hy_blk 84 2).2 = hy_B84_2 := rfl
theorem hy_E84_3 : (hy_blk 84 3).2 = hy_B84_3 := rfl
theorem hy_E84_4 : (hy_blk 84 4).2 = hy_B84_4 := rfl
theorem hy_E84_5 : (hy_blk 84 5).2 = hy_B84_5 := rfl
theorem hy_na85 : hy_na 85 = 2 := by decide +kernel
theorem hy_ow85 : hy_own 85 = 2 := by decide +kernel
theorem hy_rt85 : hy_rt 85 = 1 := by decide +kernel
theorem hy_E85_0 : (hy_blk 85 0).2 = hy_B85_0 := rfl
theorem hy_E85_1 : (hy_blk 85 1).2 = hy_B85_1 := rfl
theorem hy_E85_2 : (hy_blk 85 2).2 = hy_B85_2 := rfl
theorem hy_E85_3 : (hy_blk 85 3).2 = hy_B85_3 := rfl
theorem hy_E85_4 : (hy_blk 85 4).2 = hy_B85_4 := rfl
theorem hy_na86 : hy_na 86 = 1 := by decide +kernel
theorem hy_ow86 : hy_own 86 = 2 := by decide +kernel
theorem hy_rt86 : hy_rt 86 = 0 := by decide +kernel
theorem hy_E86_0 : (hy_blk 86 0).2 = hy_B86_0 := rfl
theorem hy_E86_1 : (hy_blk 86 1).2 = hy_B86_1 := rfl
theorem hy_E86_2 : (hy_blk 86 2).2 = hy_B86_2 := rfl
theorem hy_E86_3 : (hy_blk 86 3).2 = hy_B86_3 := rfl
theorem hy_E86_4 : (hy_blk 86 4).2 = hy_B86_4 := rfl
theorem hy_na87 : hy_na 87 = 1 := by decide +kernel
theorem hy_ow87 : hy_own 87 = 2 := by decide +kernel
theorem hy_rt87 : hy_rt 87 = 1 := by decide +kernel
theorem hy_E87_0 : (hy_blk 87 0).2 = hy_B87_0 := rfl
theorem hy_E87_1 : (hy_blk 87 1).2 = hy_B87_1 := rfl
theorem hy_E87_2 : (hy_blk 87 2).2 = hy_B87_2 := rfl
theorem hy_na88 : hy_na 88 = 1 := by decide +kernel
theorem hy_ow88 : hy_own 88 = 2 := by decide +kernel
theorem hy_rt88 : hy_rt 88 = 1 := by decide +kernel
theorem hy_E88_0 : (hy_blk 88 0).2 = hy_B88_0 := rfl
theorem hy_E88_1 : (hy_blk 88 1).2 = hy_B88_1 := rfl
theorem hy_E88_2 : (hy_blk 88 2).2 = hy_B88_2 := rfl
theorem hy_na89 : hy_na 89 = 4 := by decide +kernel
theorem hy_ow89 : hy_own 89 = 2 := by decide +kernel
theorem hy_rt89 : hy_rt 89 = 1 := by decide +kernel
theorem hy_E89_0 : (hy_blk 89 0).2 = hy_B89_0 := rfl
theorem hy_E89_1 : (hy_blk 89 1).2 = hy_B89_1 := rfl
theorem hy_E89_2 : (hy_blk 89 2).2 = hy_B89_2 := rfl
theorem hy_E89_3 : (hy_blk 89 3).2 = hy_B89_3 := rfl
theorem hy_E89_4 : (hy_blk 89 4).2 = hy_B89_4 := rfl
theorem hy_E89_5 : (hy_blk 89 5).2 = hy_B89_5 := rfl
theorem hy_E89_6 : (hy_blk 89 6).2 = hy_B89_6 := rfl
theorem hy_E89_7 : (hy_blk 89 7).2 = hy_B89_7 := rfl
theorem hy_na90 : hy_na 90 = 3 := by decide +kernel
theorem hy_ow90 : hy_own 90 = 2 := by decide +kernel
theorem hy_rt90 : hy_rt 90 = 1 := by decide +kernel
theorem hy_E90_0 : (hy_blk 90 0).2 = hy_B90_0 := rfl
theorem hy_E90_1 : (hy_blk 90 1).2 = hy_B90_1 := rfl
theorem hy_E90_2 : (hy_blk 90 2).2 = hy_B90_2 := rfl
theorem hy_E90_3 : (hy_blk 90 3).2 = hy_B90_3 := rfl
theorem hy_E90_4 : (hy_blk 90 4).2 = hy_B90_4 := rfl
theorem hy_E90_5 : (hy_blk 90 5).2 = hy_B90_5 := rfl
theorem hy_E90_6 : (hy_blk 90 6).2 = hy_B90_6 := rfl
theorem hy_E90_7 : (hy_blk 90 7).2 = hy_B90_7 := rfl
theorem hy_E90_8 : (hy_blk 90 8).2 = hy_B90_8 := rfl
theorem hy_E90_9 : (hy_blk 90 9).2 = hy_B90_9 := rfl
theorem hy_E90_10 : (hy_blk 90 10).2 = hy_B90_10 := rfl
theorem hy_na91 : hy_na 91 = 3 := by decide +kernel
theorem hy_ow91 : hy_own 91 = 2 := by decide +kernel
theorem hy_rt91 : hy_rt 91 = 1 := by decide +kernel
theorem hy_E91_0 : (hy_blk 91 0).2 = hy_B91_0 := rfl
theorem hy_E91_1 : (hy_blk 91 1).2 = hy_B91_1 := rfl
theorem hy_na92 : hy_na 92 = 2 := by decide +kernel
theorem hy_ow92 : hy_own 92 = 3 := by decide +kernel
theorem hy_rt92 : hy_rt 92 = 0 := by decide +kernel
theorem hy_E92_0 : (hy_blk 92 0).2 = hy_B92_0 := rfl
theorem hy_na93 : hy_na 93 = 2 := by decide +kernel
theorem hy_ow93 : hy_own 93 = 3 := by decide +kernel
theorem hy_rt93 : hy_rt 93 = 0 := by decide +kernel
theorem hy_E93_0 : (hy_blk 93 0).2 = hy_B93_0 := rfl
theorem hy_E93_1 : (hy_blk 93 1).2 = hy_B93_1 := rfl
theorem hy_na94 : hy_na 94 = 3 := by decide +kernel
theorem hy_ow94 : hy_own 94 = 2 := by decide +kernel
theorem hy_rt94 : hy_rt 94 = 1 := by decide +kernel
theorem hy_E94_0 : (hy_blk 94 0).2 = hy_B94_0 := rfl
theorem hy_E94_1 : (hy_blk 94 1).2 = hy_B94_1 := rfl
theorem hy_E94_2 : (hy_blk 94 2).2 = hy_B94_2 := rfl
theorem hy_na95 : hy_na 95 = 1 := by decide +kernel
theorem hy_ow95 : hy_own 95 = 2 := by decide +kernel
theorem hy_rt95 : hy_rt 95 = 1 := by decide +kernel
theorem hy_E95_0 : (hy_blk 95 0).2 = hy_B95_0 := rfl
theorem hy_E95_1 : (hy_blk 95 1).2 = hy_B95_1 := rfl
theorem hy_E95_2 : (hy_blk 95 2).2 = hy_B95_2 := rfl
theorem hy_E95_3 : (hy_blk 95 3).2 = hy_B95_3 := rfl
theorem hy_na96 : hy_na 96 = 1 := by decide +kernel
theorem hy_ow96 : hy_own 96 = 2 := by decide +kernel
theorem hy_rt96 : hy_rt 96 = 1 := by decide +kernel
theorem hy_E96_0 : (hy_blk 96 0).2 = hy_B96_0 := rfl
theorem hy_E96_1 : (hy_blk 96 1).2 = hy_B96_1 := rfl
theorem hy_E96_2 : (hy_blk 96 2).2 = hy_B96_2 := rfl
theorem hy_E96_3 : (hy_blk 96 3).2 = hy_B96_3 := rfl
theorem hy_na97 : hy_na 97 = 2 := by decide +kernel
theorem hy_ow97 : hy_own 97 = 3 := by decide +kernel
theorem hy_rt97 : hy_rt 97 = 0 := by decide +kernel
theorem hy_E97_0 : (hy_blk 97 0).2 = hy_B97_0 := rfl
theorem hy_na98 : hy_na 98 = 1 := by decide +kernel
theorem hy_ow98 : hy_own 98 = 2 := by decide +kernel
theorem hy_rt98 : hy_rt 98 = 1 := by decide +kernel
theorem hy_E98_0 : (hy_blk 98 0).2 = hy_B98_0 := rfl
theorem hy_E98_1 : (hy_blk 98 1).2 = hy_B98_1 := rfl
theorem hy_E98_2 : (hy_blk 98 2).2 = hy_B98_2 := rfl
theorem hy_E98_3 : (hy_blk 98 3).2 = hy_B98_3 := rfl
theorem hy_E98_4 : (hy_blk 98 4).2 = hy_B98_4 := rfl
theorem hy_E98_5 : (hy_blk 98 5).2 = hy_B98_5 := rfl
theorem hy_na99 : hy_na 99 = 2 := by decide +kernel
theorem hy_ow99 : hy_own 99 = 3 := by decide +kernel
theorem hy_rt99 : hy_rt 99 = 0 := by decide +kernel
theorem hy_E99_0 : (hy_blk 99 0).2 = hy_B99_0 := rfl
theorem hy_na100 : hy_na 100 = 1 := by decide +kernel
theorem hy_ow100 : hy_own 100 = 2 := by decide +kernel
theorem hy_rt100 : hy_rt 100 = 0 := by decide +kernel
theorem hy_E100_0 : (hy_blk 100 0).2 = hy_B100_0 := rfl
theorem hy_E100_1 : (hy_blk 100 1).2 = hy_B100_1 := rfl
theorem hy_E100_2 : (hy_blk 100 2).2 = hy_B100_2 := rfl
theorem hy_E100_3 : (hy_blk 100 3).2 = hy_B100_3 := rfl
theorem hy_E100_4 : (hy_blk 100 4).2 = hy_B100_4 := rfl
theorem hy_E100_5 : (hy_blk 100 5).2 = hy_B100_5 := rfl
theorem hy_E100_6 : (hy_blk 100 6).2 = hy_B100_6 := rfl
theorem hy_na101 : hy_na 101 = 2 := by decide +kernel
theorem hy_ow101 : hy_own 101 = 3 := by decide +kernel
theorem hy_rt101 : hy_rt 101 = 0 := by decide +kernel
theorem hy_E101_0 : (hy_blk 101 0).2 = hy_B101_0 := rfl
theorem hy_na102 : hy_na 102 = 3 := by decide +kernel
theorem hy_ow102 : hy_own 102 = 1 := by decide +kernel
theorem hy_rt102 : hy_rt 102 = 0 := by decide +kernel
theorem hy_E102_0 : (hy_blk 102 0).2 = hy_B102_0 := rfl
theorem hy_E102_1 : (hy_blk 102 1).2 = hy_B102_1 := rfl
theorem hy_E102_2 : (hy_blk 102 2).2 = hy_B102_2 := rfl
theorem hy_E102_3 : (hy_blk 102 3).2 = hy_B102_3 := rfl
theorem hy_E102_4 : (hy_blk 102 4).2 = hy_B102_4 := rfl
theorem hy_na103 : hy_na 103 = 2 := by decide +kernel
theorem hy_ow103 : hy_own 103 = 1 := by decide +kernel
theorem hy_rt103 : hy_rt 103 = 0 := by decide +kernel
theorem hy_E103_0 : (hy_blk 103 0).2 = hy_B103_0 := rfl
theorem hy_E103_1 : (hy_blk 103 1).2 = hy_B103_1 := rfl
theorem hy_E103_2 : (hy_blk 103 2).2 = hy_B103_2 := rfl
theorem hy_na104 : hy_na 104 = 4 := by decide +kernel
theorem hy_ow104 : hy_own 104 = 1 := by decide +kernel
theorem hy_rt104 : hy_rt 104 = 0 := by decide +kernel
theorem hy_E104_0 : (hy_blk 104 0).2 = hy_B104_0 := rfl
theorem hy_E104_1 : (hy_blk 104 1).2 = hy_B104_1 := rfl
theorem hy_E104_2 : (hy_blk 104 2).2 = hy_B104_2 := rfl
theorem hy_E104_3 : (hy_blk 104 3).2 = hy_B104_3 := rfl
theorem hy_E104_4 : (hy_blk 104 4).2 = hy_B104_4 := rfl
theorem hy_E104_5 : (hy_blk 104 5).2 = hy_B104_5 := rfl
theorem hy_na105 : hy_na 105 = 3 := by decide +kernel
theorem hy_ow105 : hy_own 105 = 5 := by decide +kernel
theorem hy_rt105 : hy_rt 105 = 0 := by decide +kernel
theorem hy_E105_0 : (hy_blk 105 0).2 = hy_B105_0 := rfl
theorem hy_E105_1 : (hy_blk 105 1).2 = hy_B105_1 := rfl
theorem hy_E105_2 : (hy_blk 105 2).2 = hy_B105_2 := rfl
theorem hy_na106 : hy_na 106 = 4 := by decide +kernel
theorem hy_ow106 : hy_own 106 = 1 := by decide +kernel
theorem hy_rt106 : hy_rt 106 = 0 := by decide +kernel
theorem hy_E106_0 : (hy_blk 106 0).2 = hy_B106_0 := rfl
theorem hy_E106_1 : (hy_blk 106 1).2 = hy_B106_1 := rfl
theorem hy_E106_2 : (hy_blk 106 2).2 = hy_B106_2 := rfl
theorem hy_E106_3 : (hy_blk 106 3).2 = hy_B106_3 := rfl
theorem hy_E106_4 : (hy_blk 106 4).2 = hy_B106_4 := rfl
theorem hy_E106_5 : (hy_blk 106 5).2 = hy_B106_5 := rfl
theorem hy_E106_6 : (hy_blk 106 6).2 = hy_B106_6 := rfl
theorem hy_na107 : hy_na 107 = 2 := by decide +kernel
theorem hy_ow107 : hy_own 107 = 1 := by decide +kernel
theorem hy_rt107 : hy_rt 107 = 0 := by decide +kernel
theorem hy_E107_0 : (hy_blk 107 0).2 = hy_B107_0 := rfl
theorem hy_E107_1 : (hy_blk 107 1).2 = hy_B107_1 := rfl
theorem hy_E107_2 : (hy_blk 107 2).2 = hy_B107_2 := rfl
theorem hy_E107_3 : (hy_blk 107 3).2 = hy_B107_3 := rfl
theorem hy_E107_4 : (hy_blk 107 4).2 = hy_B107_4 := rfl
theorem hy_E107_5 : (hy_blk 107 5).2 = hy_B107_5 := rfl
theorem hy_E107_6 : (hy_blk 107 6).2 = hy_B107_6 := rfl
theorem hy_na108 : hy_na 108 = 2 := by decide +kernel
theorem hy_ow108 : hy_own 108 = 1 := by decide +kernel
theorem hy_rt108 : hy_rt 108 = 0 := by decide +kernel
theorem hy_E108_0 : (hy_blk 108 0).2 = hy_B108_0 := rfl
theorem hy_E108_1 : (hy_blk 108 1).2 = hy_B108_1 := rfl
theorem hy_E108_2 : (hy_blk 108 2).2 = hy_B108_2 := rfl
theorem hy_E108_3 : (hy_blk 108 3).2 = hy_B108_3 := rfl
theorem hy_E108_4 : (hy_blk 108 4).2 = hy_B108_4 := rfl
theorem hy_E108_5 : (hy_blk 108 5).2 = hy_B108_5 := rfl
theorem hy_E108_6 : (hy_blk 108 6).2 = hy_B108_6 := rfl
theorem hy_na109 : hy_na 109 = 6 := by decide +kernel
theorem hy_ow109 : hy_own 109 = 1 := by decide +kernel
theorem hy_rt109 : hy_rt 109 = 0 := by decide +kernel
theorem hy_E109_0 : (hy_blk 109 0).2 = hy_B109_0 := rfl
theorem hy_E109_1 : (hy_blk 109 1).2 = hy_B109_1 := rfl
theorem hy_E109_2 : (hy_blk 109 2).2 = hy_B109_2 := rfl
theorem hy_E109_3 : (hy_blk 109 3).2 = hy_B109_3 := rfl
theorem hy_E109_4 : (hy_blk 109 4).2 = hy_B109_4 := rfl
theorem hy_E109_5 : (hy_blk 109 5).2 = hy_B109_5 := rfl
theorem hy_E109_6 : (hy_blk 109 6).2 = hy_B109_6 := rfl
theorem hy_E109_7 : (hy_blk 109 7).2 = hy_B109_7 := rfl
theorem hy_na110 : hy_na 110 = 3 := by decide +kernel
theorem hy_ow110 : hy_own 110 = 5 := by decide +kernel
theorem hy_rt110 : hy_rt 110 = 1 := by decide +kernel
theorem hy_E110_0 : (hy_blk 110 0).2 = hy_B110_0 := rfl
theorem hy_E110_1 : (hy_blk 110 1).2 = hy_B110_1 := rfl
theorem hy_E110_2 : (hy_blk 110 2).2 = hy_B110_2 := rfl
theorem hy_na111 : hy_na 111 = 4 := by decide +kernel
theorem hy_ow111 : hy_own 111 = 1 := by decide +kernel
theorem hy_rt111 : hy_rt 111 = 0 := by decide +kernel
theorem hy_E111_0 : (hy_blk 111 0).2 = hy_B111_0 := rfl
theorem hy_E111_1 : (hy_blk 111 1).2 = hy_B111_1 := rfl
theorem hy_E111_2 : (hy_blk 111 2).2 = hy_B111_2 := rfl
theorem hy_E111_3 : (hy_blk 111 3).2 = hy_B111_3 := rfl
theorem hy_E111_4 : (hy_blk 111 4).2 = hy_B111_4 := rfl
theorem hy_E111_5 : (hy_blk 111 5).2 = hy_B111_5 := rfl
theorem hy_E111_6 : (hy_blk 111 6).2 = hy_B111_6 := rfl
theorem hy_E111_7 : (hy_blk 111 7).2 = hy_B111_7 := rfl
theorem hy_E111_8 : (hy_blk 111 8).2 = hy_B111_8 := rfl
theorem hy_na112 : hy_na 112 = 1 := by decide +kernel
theorem hy_ow112 : hy_own 112 = 1 := by decide +kernel
theorem hy_rt112 : hy_rt 112 = 1 := by decide +kernel
theorem hy_E112_0 : (hy_blk 112 0).2 = hy_B112_0 := rfl
theorem hy_na113 : hy_na 113 = 2 := by decide +kernel
theorem hy_ow113 : hy_own 113 = 5 := by decide +kernel
theorem hy_rt113 : hy_rt 113 = 0 := by decide +kernel
theorem hy_E113_0 : (hy_blk 113 0).2 = hy_B113_0 := rfl
theorem hy_na114 : hy_na 114 = 3 := by decide +kernel
theorem hy_ow114 : hy_own 114 = 1 := by decide +kernel
theorem hy_rt114 : hy_rt 114 = 0 := by decide +kernel
theorem hy_E114_0 : (hy_blk 114 0).2 = hy_B114_0 := rfl
theorem hy_E114_1 : (hy_blk 114 1).2 = hy_B114_1 := rfl
theorem hy_E114_2 : (hy_blk 114 2).2 = hy_B114_2 := rfl
theorem hy_E114_3 : (hy_blk 114 3).2 = hy_B114_3 := rfl
theorem hy_E114_4 : (hy_blk 114 4).2 = hy_B114_4 := rfl
theorem hy_E114_5 : (hy_blk 114 5).2 = hy_B114_5 := rfl
theorem hy_na115 : hy_na 115 = 2 := by decide +kernel
theorem hy_ow115 : hy_own 115 = 1 := by decide +kernel
theorem hy_rt115 : hy_rt 115 = 0 := by decide +kernel
theorem hy_E115_0 : (hy_blk 115 0).2 = hy_B115_0 := rfl
theorem hy_E115_1 : (hy_blk 115 1).2 = hy_B115_1 := rfl
theorem hy_E115_2 : (hy_blk 115 2).2 = hy_B115_2 := rfl
theorem hy_E115_3 : (hy_blk 115 3).2 = hy_B115_3 := rfl
theorem hy_na116 : hy_na 116 = 3 := by decide +kernel
theorem hy_ow116 : hy_own 116 = 1 := by decide +kernel
theorem hy_rt116 : hy_rt 116 = 0 := by decide +kernel
theorem hy_E116_0 : (hy_blk 116 0).2 = hy_B116_0 := rfl
theorem hy_E116_1 : (hy_blk 116 1).2 = hy_B116_1 := rfl
theorem hy_E116_2 : (hy_blk 116 2).2 = hy_B116_2 := rfl
theorem hy_E116_3 : (hy_blk 116 3).2 = hy_B116_3 := rfl
theorem hy_E116_4 : (hy_blk 116 4).2 = hy_B116_4 := rfl
theorem hy_E116_5 : (hy_blk 116 5).2 = hy_B116_5 := rfl
theorem hy_na117 : hy_na 117 = 3 := by decide +kernel
theorem hy_ow117 : hy_own 117 = 1 := by decide +kernel
theorem hy_rt117 : hy_rt 117 = 0 := by decide +kernel
theorem hy_E117_0 : (hy_blk 117 0).2 = hy_B117_0 := rfl
theorem hy_E117_1 : (hy_blk 117 1).2 = hy_B117_1 := rfl
theorem hy_E117_2 : (hy_blk 117 2).2 = hy_B117_2 := rfl
theorem hy_E117_3 : (hy_blk 117 3).2 = hy_B117_3 := rfl
theorem hy_E117_4 : (hy_blk 117 4).2 = hy_B117_4 := rfl
theorem hy_na118 : hy_na 118 = 2 := by decide +kernel
theorem hy_ow118 : hy_own 118 = 1 := by decide +kernel
theorem hy_rt118 : hy_rt 118 = 0 := by decide +kernel
theorem hy_E118_0 : (hy_blk 118 0).2 = hy_B118_0 := rfl
theorem hy_E118_1 : (hy_blk 118 1).2 = hy_B118_1 := rfl
theorem hy_na119 : hy_na 119 = 2 := by decide +kernel
theorem hy_ow119 : hy_own 119 = 1 := by decide +kernel
theorem hy_rt119 : hy_rt 119 = 0 := by decide +kernel
theorem hy_E119_0 : (hy_blk 119 0).2 = hy_B119_0 := rfl
theorem hy_E119_1 : (hy_blk 119 1).2 = hy_B119_1 := rfl
theorem hy_E119_2 : (hy_blk 119 2).2 = hy_B119_2 := rfl
theorem hy_E119_3 : (hy_blk 119 3).2 = hy_B119_3 := rfl
theorem hy_E119_4 : (hy_blk 119 4).2 = hy_B119_4 := rfl
theorem hy_E119_5 : (hy_blk 119 5).2 = hy_B119_5 := rfl
theorem hy_E119_6 : (hy_blk 119 6).2 = hy_B119_6 := rfl
theorem hy_E119_7 : (hy_blk 119 7).2 = hy_B119_7 := rfl
theorem hy_E119_8 : (hy_blk 119 8).2 = hy_B119_8 := rfl
theorem hy_na120 : hy_na 120 = 4 := by decide +kernel
theorem hy_ow120 : hy_own 120 = 1 := by decide +kernel
theorem hy_rt120 : hy_rt 120 = 1 := by decide +kernel
theorem hy_E120_0 : (hy_blk 120 0).2 = hy_B120_0 := rfl
theorem hy_E120_1 : (hy_blk 120 1).2 = hy_B120_1 := rfl
theorem hy_E120_2 : (hy_blk 120 2).2 = hy_B120_2 := rfl
theorem hy_na121 : hy_na 121 = 1 := by decide +kernel
theorem hy_ow121 : hy_own 121 = 1 := by decide +kernel
theorem hy_rt121 : hy_rt 121 = 0 := by decide +kernel
theorem hy_E121_0 : (hy_blk 121 0).2 = hy_B121_0 := rfl
theorem hy_na122 : hy_na 122 = 1 := by decide +kernel
theorem hy_ow122 : hy_own 122 = 1 := by decide +kernel
theorem hy_rt122 : hy_rt 122 = 0 := by decide +kernel
theorem hy_E122_0 : (hy_blk 122 0).2 = hy_B122_0 := rfl
theorem hy_E122_1 : (hy_blk 122 1).2 = hy_B122_1 := rfl
theorem hy_na123 : hy_na 123 = 2 := by decide +kernel
theorem hy_ow123 : hy_own 123 = 1 := by decide +kernel
theorem hy_rt123 : hy_rt 123 = 0 := by decide +kernel
theorem hy_E123_0 : (hy_blk 123 0).2 = hy_B123_0 := rfl
theorem hy_E123_1 : (hy_blk 123 1).2 = hy_B123_1 := rfl
theorem hy_E123_2 : (hy_blk 123 2).2 = hy_B123_2 := rfl
theorem hy_E123_3 : (hy_blk 123 3).2 = hy_B123_3 := rfl
theorem hy_E123_4 : (hy_blk 123 4).2 = hy_B123_4 := rfl
theorem hy_E123_5 : (hy_blk 123 5).2 = hy_B123_5 := rfl
theorem hy_E123_6 : (hy_blk 123 6).2 = hy_B123_6 := rfl
theorem hy_E123_7 : (hy_blk 123 7).2 = hy_B123_7 := rfl
theorem hy_E123_8 : (hy_blk 123 8).2 = hy_B123_8 := rfl
theorem hy_E123_9 : (hy_blk 123 9).2 = hy_B123_9 := rfl
theorem hy_E123_10 : (hy_blk 123 10).2 = hy_B123_10 := rfl
theorem hy_E123_11 : (hy_blk 123 11).2 = hy_B123_11 := rfl
theorem hy_na124 : hy_na 124 = 5 := by decide +kernel
theorem hy_ow124 : hy_own 124 = 9 := by decide +kernel
theorem hy_rt124 : hy_rt 124 = 0 := by decide +kernel
theorem hy_E124_0 : (hy_blk 124 0).2 = hy_B124_0 := rfl
theorem hy_E124_1 : (hy_blk 124 1).2 = hy_B124_1 := rfl
theorem hy_E124_2 : (hy_blk 124 2).2 = hy_B124_2 := rfl
theorem hy_E124_3 : (hy_blk 124 3).2 = hy_B124_3 := rfl
theorem hy_E124_4 : (hy_blk 124 4).2 = hy_B124_4 := rfl
theorem hy_E124_5 : (hy_blk 124 5).2 = hy_B124_5 := rfl
theorem hy_na125 : hy_na 125 = 3 := by decide +kernel
theorem hy_ow125 : hy_own 125 = 9 := by decide +kernel
theorem hy_rt125 : hy_rt 125 = 1 := by decide +kernel
theorem hy_E125_0 : (hy_blk 125 0).2 = hy_B125_0 := rfl
theorem hy_E125_1 : (hy_blk 125 1).2 = hy_B125_1 := rfl
theorem hy_E125_2 : (hy_blk 125 2).2 = hy_B125_2 := rfl
theorem hy_na126 : hy_na 126 = 1 := by decide +kernel
theorem hy_ow126 : hy_own 126 = 9 := by decide +kernel
theorem hy_rt126 : hy_rt 126 = 1 := by decide +kernel
theorem hy_E126_0 : (hy_blk 126 0).2 = hy_B126_0 := rfl
theorem hy_na127 : hy_na 127 = 2 := by decide +kernel
theorem hy_ow127 : hy_own 127 = 9 := by decide +kernel
theorem hy_rt127 : hy_rt 127 = 0 := by decide +kernel
theorem hy_E127_0 : (hy_blk 127 0).2 = hy_B127_0 := rfl
theorem hy_E127_1 : (hy_blk 127 1).2 = hy_B127_1 := rfl
theorem hy_E127_2 : (hy_blk 127 2).2 = hy_B127_2 := rfl
theorem hy_E127_3 : (hy_blk 127 3).2 = hy_B127_3 := rfl
theorem hy_E127_4 : (hy_blk 127 4).2 = hy_B127_4 := rfl
theorem hy_na128 : hy_na 128 = 3 := by decide +kernel
theorem hy_ow128 : hy_own 128 = 9 := by decide +kernel
theorem hy_rt128 : hy_rt 128 = 0 := by decide +kernel
theorem hy_E128_0 : (hy_blk 128 0).2 = hy_B128_0 := rfl
theorem hy_na129 : hy_na 129 = 5 := by decide +kernel
theorem hy_ow129 : hy_own 129 = 9 := by decide +kernel
theorem hy_rt129 : hy_rt 129 = 0 := by decide +kernel
theorem hy_E129_0 : (hy_blk 129 0).2 = hy_B129_0 := rfl
theorem hy_na130 : hy_na 130 = 4 := by decide +kernel
theorem hy_ow130 : hy_own 130 = 9 := by decide +kernel
theorem hy_rt130 : hy_rt 130 = 0 := by decide +kernel
theorem hy_E130_0 : (hy_blk 130 0).2 = hy_B130_0 := rfl
theorem hy_na131 : hy_na 131 = 3 := by decide +kernel
theorem hy_ow131 : hy_own 131 = 9 := by decide +kernel
theorem hy_rt131 : hy_rt 131 = 0 := by decide +kernel
theorem hy_E131_0 : (hy_blk 131 0).2 = hy_B131_0 := rfl
theorem hy_E131_1 : (hy_blk 131 1).2 = hy_B131_1 := rfl
theorem hy_E131_2 : (hy_blk 131 2).2 = hy_B131_2 := rfl
theorem hy_E131_3 : (hy_blk 131 3).2 = hy_B131_3 := rfl
theorem hy_E131_4 : (hy_blk 131 4).2 = hy_B131_4 := rfl
theorem hy_E131_5 : (hy_blk 131 5).2 = hy_B131_5 := rfl
theorem hy_E131_6 : (hy_blk 131 6).2 = hy_B131_6 := rfl
theorem hy_na132 : hy_na 132 = 2 := by decide +kernel
theorem hy_ow132 : hy_own 132 = 9 := by decide +kernel
theorem hy_rt132 : hy_rt 132 = 1 := by decide +kernel
theorem hy_E132_0 : (hy_blk 132 0).2 = hy_B132_0 := rfl
theorem hy_na133 : hy_na 133 = 2 := by decide +kernel
theorem hy_ow133 : hy_own 133 = 9 := by decide +kernel
theorem hy_rt133 : hy_rt 133 = 0 := by decide +kernel
theorem hy_E133_0 : (hy_blk 133 0).2 = hy_B133_0 := rfl
theorem hy_E133_1 : (hy_blk 133 1).2 = hy_B133_1 := rfl
theorem hy_E133_2 : (hy_blk 133 2).2 = hy_B133_2 := rfl
theorem hy_E133_3 : (hy_blk 133 3).2 = hy_B133_3 := rfl
theorem hy_E133_4 : (hy_blk 133 4).2 = hy_B133_4 := rfl
theorem hy_E133_5 : (hy_blk 133 5).2 = hy_B133_5 := rfl
theorem hy_E133_6 : (hy_blk 133 6).2 = hy_B133_6 := rfl
theorem hy_E133_7 : (hy_blk 133 7).2 = hy_B133_7 := rfl
theorem hy_E133_8 : (hy_blk 133 8).2 = hy_B133_8 := rfl
theorem hy_na134 : hy_na 134 = 2 := by decide +kernel
theorem hy_ow134 : hy_own 134 = 9 := by decide +kernel
theorem hy_rt134 : hy_rt 134 = 0 := by decide +kernel
theorem hy_E134_0 : (hy_blk 134 0).2 = hy_B134_0 := rfl
theorem hy_E134_1 : (hy_blk 134 1).2 = hy_B134_1 := rfl
theorem hy_E134_2 : (hy_blk 134 2).2 = hy_B134_2 := rfl
theorem hy_E134_3 : (hy_blk 134 3).2 = hy_B134_3 := rfl
theorem hy_na135 : hy_na 135 = 2 := by decide +kernel
theorem hy_ow135 : hy_own 135 = 9 := by decide +kernel
theorem hy_rt135 : hy_rt 135 = 0 := by decide +kernel
theorem hy_E135_0 : (hy_blk 135 0).2 = hy_B135_0 := rfl
theorem hy_E135_1 : (hy_blk 135 1).2 = hy_B135_1 := rfl
theorem hy_E135_2 : (hy_blk 135 2).2 = hy_B135_2 := rfl
theorem hy_E135_3 : (hy_blk 135 3).2 = hy_B135_3 := rfl
theorem hy_E135_4 : (hy_blk 135 4).2 = hy_B135_4 := rfl
theorem hy_E135_5 : (hy_blk 135 5).2 = hy_B135_5 := rfl
theorem hy_E135_6 : (hy_blk 135 6).2 = hy_B135_6 := rfl
theorem hy_E135_7 : (hy_blk 135 7).2 = hy_B135_7 := rfl
theorem hy_E135_8 : (hy_blk 135 8).2 = hy_B135_8 := rfl
theorem hy_E135_9 : (hy_blk 135 9).2 = hy_B135_9 := rfl
theorem hy_na136 : hy_na 136 = 3 := by decide +kernel
theorem hy_ow136 : hy_own 136 = 9 := by decide +kernel
theorem hy_rt136 : hy_rt 136 = 0 := by decide +kernel
theorem hy_E136_0 : (hy_blk 136 0).2 = hy_B136_0 := rfl
theorem hy_E136_1 : (hy_blk 136 1).2 = hy_B136_1 := rfl
theorem hy_E136_2 : (hy_blk 136 2).2 = hy_B136_2 := rfl
theorem hy_E136_3 : (hy_blk 136 3).2 = hy_B136_3 := rfl
theorem hy_E136_4 : (hy_blk 136 4).2 = hy_B136_4 := rfl
theorem hy_E136_5 : (hy_blk 136 5).2 = hy_B136_5 := rfl
theorem hy_E136_6 : (hy_blk 136 6).2 = hy_B136_6 := rfl
theorem hy_E136_7 : (hy_blk 136 7).2 = hy_B136_7 := rfl
theorem hy_E136_8 : (hy_blk 136 8).2 = hy_B136_8 := rfl
theorem hy_E136_9 : (hy_blk 136 9).2 = hy_B136_9 := rfl
theorem hy_E136_10 : (hy_blk 136 10).2 = hy_B136_10 := rfl
theorem hy_E136_11 : (hy_blk 136 11).2 = hy_B136_11 := rfl
theorem hy_E136_12 : (hy_blk 136 12).2 = hy_B136_12 := rfl
theorem hy_E136_13 : (hy_blk 136 13).2 = hy_B136_13 := rfl
theorem hy_E136_14 : (hy_blk 136 14).2 = hy_B136_14 := rfl
theorem hy_E136_15 : (hy_blk 136 15).2 = hy_B136_15 := rfl
theorem hy_E136_16 : (hy_blk 136 16).2 = hy_B136_16 := rfl
theorem hy_E136_17 : (hy_blk 136 17).2 = hy_B136_17 := rfl
theorem hy_E136_18 : (hy_blk 136 18).2 = hy_B136_18 := rfl
theorem hy_E136_19 : (hy_blk 136 19).2 = hy_B136_19 := rfl
theorem hy_E136_20 : (hy_blk 136 20).2 = hy_B136_20 := rfl
theorem hy_E136_21 : (hy_blk 136 21).2 = hy_B136_21 := rfl
theorem hy_E136_22 : (hy_blk 136 22).2 = hy_B136_22 := rfl
theorem hy_na137 : hy_na 137 = 3 := by decide +kernel
theorem hy_ow137 : hy_own 137 = 9 := by decide +kernel
theorem hy_rt137 : hy_rt 137 = 0 := by decide +kernel
theorem hy_E137_0 : (hy_blk 137 0).2 = hy_B137_0 := rfl
theorem hy_E137_1 : (hy_blk 137 1).2 = hy_B137_1 := rfl
theorem hy_E137_2 : (hy_blk 137 2).2 = hy_B137_2 := rfl
theorem hy_E137_3 : (hy_blk 137 3).2 = hy_B137_3 := rfl
theorem hy_na138 : hy_na 138 = 2 := by decide +kernel
theorem hy_ow138 : hy_own 138 = 9 := by decide +kernel
theorem hy_rt138 : hy_rt 138 = 0 := by decide +kernel
theorem hy_E138_0 : (hy_blk 138 0).2 = hy_B138_0 := rfl
theorem hy_E138_1 : (hy_blk 138 1).2 = hy_B138_1 := rfl
theorem hy_E138_2 : (hy_blk 138 2).2 = hy_B138_2 := rfl
theorem hy_E138_3 : (hy_blk 138 3).2 = hy_B138_3 := rfl
theorem hy_E138_4 : (hy_blk 138 4).2 = hy_B138_4 := rfl
theorem hy_na139 : hy_na 139 = 2 := by decide +kernel
theorem hy_ow139 : hy_own 139 = 9 := by decide +kernel
theorem hy_rt139 : hy_rt 139 = 0 := by decide +kernel
theorem hy_E139_0 : (hy_blk 139 0).2 = hy_B139_0 := rfl
theorem hy_E139_1 : (hy_blk 139 1).2 = hy_B139_1 := rfl
theorem hy_E139_2 : (hy_blk 139 2).2 = hy_B139_2 := rfl
theorem hy_E139_3 : (hy_blk 139 3).2 = hy_B139_3 := rfl
theorem hy_E139_4 : (hy_blk 139 4).2 = hy_B139_4 := rfl
theorem hy_E139_5 : (hy_blk 139 5).2 = hy_B139_5 := rfl
theorem hy_E139_6 : (hy_blk 139 6).2 = hy_B139_6 := rfl
theorem hy_na140 : hy_na 140 = 2 := by decide +kernel
theorem hy_ow140 : hy_own 140 = 9 := by decide +kernel
theorem hy_rt140 : hy_rt 140 = 0 := by decide +kernel
theorem hy_E140_0 : (hy_blk 140 0).2 = hy_B140_0 := rfl
theorem hy_E140_1 : (hy_blk 140 1).2 = hy_B140_1 := rfl
theorem hy_E140_2 : (hy_blk 140 2).2 = hy_B140_2 := rfl
theorem hy_na141 : hy_na 141 = 1 := by decide +kernel
theorem hy_ow141 : hy_own 141 = 9 := by decide +kernel
theorem hy_rt141 : hy_rt 141 = 0 := by decide +kernel
theorem hy_E141_0 : (hy_blk 141 0).2 = hy_B141_0 := rfl
theorem hy_E141_1 : (hy_blk 141 1).2 = hy_B141_1 := rfl
theorem hy_E141_2 : (hy_blk 141 2).2 = hy_B141_2 := rfl
theorem hy_na142 : hy_na 142 = 3 := by decide +kernel
theorem hy_ow142 : hy_own 142 = 9 := by decide +kernel
theorem hy_rt142 : hy_rt 142 = 0 := by decide +kernel
theorem hy_E142_0 : (hy_blk 142 0).2 = hy_B142_0 := rfl
theorem hy_E142_1 : (hy_blk 142 1).2 = hy_B142_1 := rfl
theorem hy_E142_2 : (hy_blk 142 2).2 = hy_B142_2 := rfl
theorem hy_E142_3 : (hy_blk 142 3).2 = hy_B142_3 := rfl
theorem hy_E142_4 : (hy_blk 142 4).2 = hy_B142_4 := rfl
theorem hy_na143 : hy_na 143 = 3 := by decide +kernel
theorem hy_ow143 : hy_own 143 = 9 := by decide +kernel
theorem hy_rt143 : hy_rt 143 = 1 := by decide +kernel
theorem hy_E143_0 : (hy_blk 143 0).2 = hy_B143_0 := rfl
theorem hy_E143_1 : (hy_blk 143 1).2 = hy_B143_1 := rfl
theorem hy_E143_2 : (hy_blk 143 2).2 = hy_B143_2 := rfl
theorem hy_E143_3 : (hy_blk 143 3).2 = hy_B143_3 := rfl
theorem hy_E143_4 : (hy_blk 143 4).2 = hy_B143_4 := rfl
theorem hy_E143_5 : (hy_blk 143 5).2 = hy_B143_5 := rfl
theorem hy_E143_6 : (hy_blk 143 6).2 = hy_B143_6 := rfl
theorem hy_E143_7 : (hy_blk 143 7).2 = hy_B143_7 := rfl
theorem hy_E143_8 : (hy_blk 143 8).2 = hy_B143_8 := rfl
theorem hy_E143_9 : (hy_blk 143 9).2 = hy_B143_9 := rfl
theorem hy_E143_10 : (hy_blk 143 10).2 = hy_B143_10 := rfl
theorem hy_E143_11 : (hy_blk 143 11).2 = hy_B143_11 := rfl
theorem hy_E143_12 : (hy_blk 143 12).2 = hy_B143_12 := rfl
theorem hy_E143_13 : (hy_blk 143 13).2 = hy_B143_13 := rfl
theorem hy_E143_14 : (hy_blk 143 14).2 = hy_B143_14 := rfl
theorem hy_E143_15 : (hy_blk 143 15).2 = hy_B143_15 := rfl
theorem hy_E143_16 : (hy_blk 143 16).2 = hy_B143_16 := rfl
theorem hy_E143_17 : (hy_blk 143 17).2 = hy_B143_17 := rfl
theorem hy_E143_18 : (hy_blk 143 18).2 = hy_B143_18 := rfl
theorem hy_E143_19 : (hy_blk 143 19).2 = hy_B143_19 := rfl
theorem hy_E143_20 : (hy_blk 143 20).2 = hy_B143_20 := rfl
theorem hy_E143_21 : (hy_blk 143 21).2 = hy_B143_21 := rfl
theorem hy_E143_22 : (hy_blk 143 22).2 = hy_B143_22 := rfl
theorem hy_na144 : hy_na 144 = 2 := by decide +kernel
theorem hy_ow144 : hy_own 144 = 9 := by decide +kernel
theorem hy_rt144 : hy_rt 144 = 0 := by decide +kernel
theorem hy_E144_0 : (hy_blk 144 0).2 = hy_B144_0 := rfl
theorem hy_E144_1 : (hy_blk 144 1).2 = hy_B144_1 := rfl
theorem hy_E144_2 : (hy_blk 144 2).2 = hy_B144_2 := rfl
theorem hy_na145 : hy_na 145 = 3 := by decide +kernel
theorem hy_ow145 : hy_own 145 = 9 := by decide +kernel
theorem hy_rt145 : hy_rt 145 = 1 := by decide +kernel
theorem hy_E145_0 : (hy_blk 145 0).2 = hy_B145_0 := rfl
theorem hy_E145_1 : (hy_blk 145 1).2 = hy_B145_1 := rfl
theorem hy_E145_2 : (hy_blk 145 2).2 = hy_B145_2 := rfl
theorem hy_E145_3 : (hy_blk 145 3).2 = hy_B145_3 := rfl
theorem hy_E145_4 : (hy_blk 145 4).2 = hy_B145_4 := rfl
theorem hy_E145_5 : (hy_blk 145 5).2 = hy_B145_5 := rfl
theorem hy_E145_6 : (hy_blk 145 6).2 = hy_B145_6 := rfl
theorem hy_E145_7 : (hy_blk 145 7).2 = hy_B145_7 := rfl
theorem hy_E145_8 : (hy_blk 145 8).2 = hy_B145_8 := rfl
theorem hy_na146 : hy_na 146 = 3 := by decide +kernel
theorem hy_ow146 : hy_own 146 = 9 := by decide +kernel
theorem hy_rt146 : hy_rt 146 = 0 := by decide +kernel
theorem hy_E146_0 : (hy_blk 146 0).2 = hy_B146_0 := rfl
theorem hy_E146_1 : (hy_blk 146 1).2 = hy_B146_1 := rfl
theorem hy_E146_2 : (hy_blk 146 2).2 = hy_B146_2 := rfl
theorem hy_E146_3 : (hy_blk 146 3).2 = hy_B146_3 := rfl
theorem hy_E146_4 : (hy_blk 146 4).2 = hy_B146_4 := rfl
theorem hy_na147 : hy_na 147 = 2 := by decide +kernel
theorem hy_ow147 : hy_own 147 = 9 := by decide +kernel
theorem hy_rt147 : hy_rt 147 = 1 := by decide +kernel
theorem hy_E147_0 : (hy_blk 147 0).2 = hy_B147_0 := rfl
theorem hy_E147_1 : (hy_blk 147 1).2 = hy_B147_1 := rfl
theorem hy_E147_2 : (hy_blk 147 2).2 = hy_B147_2 := rfl
theorem hy_E147_3 : (hy_blk 147 3).2 = hy_B147_3 := rfl
theorem hy_E147_4 : (hy_blk 147 4).2 = hy_B147_4 := rfl
theorem hy_na148 : hy_na 148 = 3 := by decide +kernel
theorem hy_ow148 : hy_own 148 = 9 := by decide +kernel
theorem hy_rt148 : hy_rt 148 = 0 := by decide +kernel
theorem hy_E148_0 : (hy_blk 148 0).2 = hy_B148_0 := rfl
theorem hy_E148_1 : (hy_blk 148 1).2 = hy_B148_1 := rfl
theorem hy_E148_2 : (hy_blk 148 2).2 = hy_B148_2 := rfl
theorem hy_na149 : hy_na 149 = 3 := by decide +kernel
theorem hy_ow149 : hy_own 149 = 9 := by decide +kernel
theorem hy_rt149 : hy_rt 149 = 0 := by decide +kernel
theorem hy_E149_0 : (hy_blk 149 0).2 = hy_B149_0 := rfl
theorem hy_na150 : hy_na 150 = 4 := by decide +kernel
theorem hy_ow150 : hy_own 150 = 9 := by decide +kernel
theorem hy_rt150 : hy_rt 150 = 0 := by decide +kernel
theorem hy_E150_0 : (hy_blk 150 0).2 = hy_B150_0 := rfl
theorem hy_E150_1 : (hy_blk 150 1).2 = hy_B150_1 := rfl
theorem hy_E150_2 : (hy_blk 150 2).2 = hy_B150_2 := rfl
theorem hy_E150_3 : (hy_blk 150 3).2 = hy_B150_3 := rfl
theorem hy_E150_4 : (hy_blk 150 4).2 = hy_B150_4 := rfl
theorem hy_E150_5 : (hy_blk 150 5).2 = hy_B150_5 := rfl
theorem hy_E150_6 : (hy_blk 150 6).2 = hy_B150_6 := rfl
theorem hy_E150_7 : (hy_blk 150 7).2 = hy_B150_7 := rfl
theorem hy_E150_8 : (hy_blk 150 8).2 = hy_B150_8 := rfl
theorem hy_na151 : hy_na 151 = 3 := by decide +kernel
theorem hy_ow151 : hy_own 151 = 9 := by decide +kernel
theorem hy_rt151 : hy_rt 151 = 0 := by decide +kernel
theorem hy_E151_0 : (hy_blk 151 0).2 = hy_B151_0 := rfl
theorem hy_E151_1 : (hy_blk 151 1).2 = hy_B151_1 := rfl
theorem hy_E151_2 : (hy_blk 151 2).2 = hy_B151_2 := rfl
theorem hy_E151_3 : (hy_blk 151 3).2 = hy_B151_3 := rfl
theorem hy_E151_4 : (hy_blk 151 4).2 = hy_B151_4 := rfl
theorem hy_na152 : hy_na 152 = 2 := by decide +kernel
theorem hy_ow152 : hy_own 152 = 9 := by decide +kernel
theorem hy_rt152 : hy_rt 152 = 0 := by decide +kernel
theorem hy_E152_0 : (hy_blk 152 0).2 = hy_B152_0 := rfl
theorem hy_E152_1 : (hy_blk 152 1).2 = hy_B152_1 := rfl
theorem hy_E152_2 : (hy_blk 152 2).2 = hy_B152_2 := rfl
theorem hy_E152_3 : (hy_blk 152 3).2 = hy_B152_3 := rfl
theorem hy_E152_4 : (hy_blk 152 4).2 = hy_B152_4 := rfl
theorem hy_E152_5 : (hy_blk 152 5).2 = hy_B152_5 := rfl
theorem hy_na153 : hy_na 153 = 1 := by decide +kernel
theorem hy_ow153 : hy_own 153 = 9 := by decide +kernel
theorem hy_rt153 : hy_rt 153 = 0 := by decide +kernel
theorem hy_E153_0 : (hy_blk 153 0).2 = hy_B153_0 := rfl
theorem hy_na154 : hy_na 154 = 2 := by decide +kernel
theorem hy_ow154 : hy_own 154 = 9 := by decide +kernel
theorem hy_rt154 : hy_rt 154 = 0 := by decide +kernel
theorem hy_E154_0 : (hy_blk 154 0).2 = hy_B154_0 := rfl
theorem hy_na155 : hy_na 155 = 3 := by decide +kernel
theorem hy_ow155 : hy_own 155 = 9 := by decide +kernel
theorem hy_rt155 : hy_rt 155 = 0 := by decide +kernel
theorem hy_E155_0 : (hy_blk 155 0).2 = hy_B155_0 := rfl
theorem hy_E155_1 : (hy_blk 155 1).2 = hy_B155_1 := rfl
theorem hy_E155_2 : (hy_blk 155 2).2 = hy_B155_2 := rfl
theorem hy_E155_3 : (hy_blk 155 3).2 = hy_B155_3 := rfl
theorem hy_E155_4 : (hy_blk 155 4).2 = hy_B155_4 := rfl
theorem hy_na156 : hy_na 156 = 3 := by decide +kernel
theorem hy_ow156 : hy_own 156 = 9 := by decide +kernel
theorem hy_rt156 : hy_rt 156 = 0 := by decide +kernel
theorem hy_E156_0 : (hy_blk 156 0).2 = hy_B156_0 := rfl
theorem hy_E156_1 : (hy_blk 156 1).2 = hy_B156_1 := rfl
theorem hy_na157 : hy_na 157 = 2 := by decide +kernel
theorem hy_ow157 : hy_own 157 = 9 := by decide +kernel
theorem hy_rt157 : hy_rt 157 = 0 := by decide +kernel
theorem hy_E157_0 : (hy_blk 157 0).2 = hy_B157_0 := rfl
theorem hy_E157_1 : (hy_blk 157 1).2 = hy_B157_1 := rfl
theorem hy_E157_2 : (hy_blk 157 2).2 = hy_B157_2 := rfl
theorem hy_E157_3 : (hy_blk 157 3).2 = hy_B157_3 := rfl
theorem hy_E157_4 : (hy_blk 157 4).2 = hy_B157_4 := rfl
theorem hy_E157_5 : (hy_blk 157 5).2 = hy_B157_5 := rfl
theorem hy_na158 : hy_na 158 = 4 := by decide +kernel
theorem hy_ow158 : hy_own 158 = 9 := by decide +kernel
theorem hy_rt158 : hy_rt 158 = 0 := by decide +kernel
theorem hy_E158_0 : (hy_blk 158 0).2 = hy_B158_0 := rfl
theorem hy_E158_1 : (hy_blk 158 1).2 = hy_B158_1 := rfl
theorem hy_E158_2 : (hy_blk 158 2).2 = hy_B158_2 := rfl
theorem hy_E158_3 : (hy_blk 158 3).2 = hy_B158_3 := rfl
theorem hy_E158_4 : (hy_blk 158 4).2 = hy_B158_4 := rfl
theorem hy_E158_5 : (hy_blk 158 5).2 = hy_B158_5 := rfl
theorem hy_E158_6 : (hy_blk 158 6).2 = hy_B158_6 := rfl
theorem hy_E158_7 : (hy_blk 158 7).2 = hy_B158_7 := rfl
theorem hy_na159 : hy_na 159 = 3 := by decide +kernel
theorem hy_ow159 : hy_own 159 = 9 := by decide +kernel
theorem hy_rt159 : hy_rt 159 = 0 := by decide +kernel
theorem hy_E159_0 : (hy_blk 159 0).2 = hy_B159_0 := rfl
theorem hy_E159_1 : (hy_blk 159 1).2 = hy_B159_1 := rfl
theorem hy_E159_2 : (hy_blk 159 2).2 = hy_B159_2 := rfl
theorem hy_E159_3 : (hy_blk 159 3).2 = hy_B159_3 := rfl
theorem hy_E159_4 : (hy_blk 159 4).2 = hy_B159_4 := rfl
theorem hy_na160 : hy_na 160 = 2 := by decide +kernel
theorem hy_ow160 : hy_own 160 = 9 := by decide +kernel
theorem hy_rt160 : hy_rt 160 = 0 := by decide +kernel
theorem hy_E160_0 : (hy_blk 160 0).2 = hy_B160_0 := rfl
theorem hy_E160_1 : (hy_blk 160 1).2 = hy_B160_1 := rfl
theorem hy_E160_2 : (hy_blk 160 2).2 = hy_B160_2 := rfl
theorem hy_na161 : hy_na 161 = 2 := by decide +kernel
theorem hy_ow161 : hy_own 161 = 9 := by decide +kernel
theorem hy_rt161 : hy_rt 161 = 0 := by decide +kernel
theorem hy_E161_0 : (hy_blk 161 0).2 = hy_B161_0 := rfl
theorem hy_E161_1 : (hy_blk 161 1).2 = hy_B161_1 := rfl
theorem hy_E161_2 : (hy_blk 161 2).2 = hy_B161_2 := rfl
theorem hy_E161_3 : (hy_blk 161 3).2 = hy_B161_3 := rfl
theorem hy_E161_4 : (hy_blk 161 4).2 = hy_B161_4 := rfl
theorem hy_E161_5 : (hy_blk 161 5).2 = hy_B161_5 := rfl
theorem hy_E161_6 : (hy_blk 161 6).2 = hy_B161_6 := rfl
theorem hy_na162 : hy_na 162 = 2 := by decide +kernel
theorem hy_ow162 : hy_own 162 = 9 := by decide +kernel
theorem hy_rt162 : hy_rt 162 = 1 := by decide +kernel
theorem hy_E162_0 : (hy_blk 162 0).2 = hy_B162_0 := rfl
theorem hy_E162_1 : (hy_blk 162 1).2 = hy_B162_1 := rfl
theorem hy_E162_2 : (hy_blk 162 2).2 = hy_B162_2 := rfl
theorem hy_na163 : hy_na 163 = 2 := by decide +kernel
theorem hy_ow163 : hy_own 163 = 9 := by decide +kernel
theorem hy_rt163 : hy_rt 163 = 0 := by decide +kernel
theorem hy_E163_0 : (hy_blk 163 0).2 = hy_B163_0 := rfl
theorem hy_E163_1 : (hy_blk 163 1).2 = hy_B163_1 := rfl
theorem hy_E163_2 : (hy_blk 163 2).2 = hy_B163_2 := rfl
theorem hy_na164 : hy_na 164 = 2 := by decide +kernel
theorem hy_ow164 : hy_own 164 = 9 := by decide +kernel
theorem hy_rt164 : hy_rt 164 = 0 := by decide +kernel
theorem hy_E164_0 : (hy_blk 164 0).2 = hy_B164_0 := rfl
theorem hy_E164_1 : (hy_blk 164 1).2 = hy_B164_1 := rfl
theorem hy_E164_2 : (hy_blk 164 2).2 = hy_B164_2 := rfl
theorem hy_E164_3 : (hy_blk 164 3).2 = hy_B164_3 := rfl
theorem hy_E164_4 : (hy_blk 164 4).2 = hy_B164_4 := rfl
theorem hy_E164_5 : (hy_blk 164 5).2 = hy_B164_5 := rfl
theorem hy_na165 : hy_na 165 = 2 := by decide +kernel
theorem hy_ow165 : hy_own 165 = 9 := by decide +kernel
theorem hy_rt165 : hy_rt 165 = 0 := by decide +kernel
theorem hy_E165_0 : (hy_blk 165 0).2 = hy_B165_0 := rfl
theorem hy_E165_1 : (hy_blk 165 1).2 = hy_B165_1 := rfl
theorem hy_E165_2 : (hy_blk 165 2).2 = hy_B165_2 := rfl
theorem hy_E165_3 : (hy_blk 165 3).2 = hy_B165_3 := rfl
theorem hy_E165_4 : (hy_blk 165 4).2 = hy_B165_4 := rfl
theorem hy_E165_5 : (hy_blk 165 5).2 = hy_B165_5 := rfl
theorem hy_E165_6 : (hy_blk 165 6).2 = hy_B165_6 := rfl
theorem hy_E165_7 : (hy_blk 165 7).2 = hy_B165_7 := rfl
theorem hy_E165_8 : (hy_blk 165 8).2 = hy_B165_8 := rfl
theorem hy_E165_9 : (hy_blk 165 9).2 = hy_B165_9 := rfl
theorem hy_na166 : hy_na 166 = 2 := by decide +kernel
theorem hy_ow166 : hy_own 166 = 9 := by decide +kernel
theorem hy_rt166 : hy_rt 166 = 0 := by decide +kernel
theorem hy_E166_0 : (hy_blk 166 0).2 = hy_B166_0 := rfl
theorem hy_E166_1 : (hy_blk 166 1).2 = hy_B166_1 := rfl
theorem hy_E166_2 : (hy_blk 166 2).2 = hy_B166_2 := rfl
theorem hy_na167 : hy_na 167 = 2 := by decide +kernel
theorem hy_ow167 : hy_own 167 = 9 := by decide +kernel
theorem hy_rt167 : hy_rt 167 = 0 := by decide +kernel
theorem hy_E167_0 : (hy_blk 167 0).2 = hy_B167_0 := rfl
theorem hy_E167_1 : (hy_blk 167 1).2 = hy_B167_1 := rfl
theorem hy_na168 : hy_na 168 = 1 := by decide +kernel
theorem hy_ow168 : hy_own 168 = 9 := by decide +kernel
theorem hy_rt168 : hy_rt 168 = 0 := by decide +kernel
theorem hy_E168_0 : (hy_blk 168 0).2 = hy_B168_0 := rfl
theorem hy_E168_1 : (hy_blk 168 1).2 = hy_B168_1 := rfl
theorem hy_E168_2 : (hy_blk 168 2).2 = hy_B168_2 := rfl
theorem hy_E168_3 : (hy_blk 168 3).2 = hy_B168_3 := rfl
theorem hy_E168_4 : (hy_blk 168 4).2 = hy_B168_4 := rfl
theorem hy_na169 : hy_na 169 = 2 := by decide +kernel
theorem hy_ow169 : hy_own 169 = 9 := by decide +kernel
theorem hy_rt169 : hy_rt 169 = 0 := by decide +kernel
theorem hy_E169_0 : (hy_blk 169 0).2 = hy_B169_0 := rfl
theorem hy_E169_1 : (hy_blk 169 1).2 = hy_B169_1 := rfl
theorem hy_E169_2 : (hy_blk 169 2).2 = hy_B169_2 := rfl
theorem hy_na170 : hy_na 170 = 1 := by decide +kernel
theorem hy_ow170 : hy_own 170 = 9 := by decide +kernel
theorem hy_rt170 : hy_rt 170 = 0 := by decide +kernel
theorem hy_E170_0 : (hy_blk 170 0).2 = hy_B170_0 := rfl
theorem hy_E170_1 : (hy_blk 170 1).2 = hy_B170_1 := rfl
theorem hy_E170_2 : (hy_blk 170 2).2 = hy_B170_2 := rfl
theorem hy_E170_3 : (hy_blk 170 3).2 = hy_B170_3 := rfl
theorem hy_na171 : hy_na 171 = 2 := by decide +kernel
theorem hy_ow171 : hy_own 171 = 9 := by decide +kernel
theorem hy_rt171 : hy_rt 171 = 0 := by decide +kernel
theorem hy_E171_0 : (hy_blk 171 0).2 = hy_B171_0 := rfl
theorem hy_E171_1 : (hy_blk 171 1).2 = hy_B171_1 := rfl
theorem hy_na172 : hy_na 172 = 1 := by decide +kernel
theorem hy_ow172 : hy_own 172 = 9 := by decide +kernel
theorem hy_rt172 : hy_rt 172 = 0 := by decide +kernel
theorem hy_E172_0 : (hy_blk 172 0).2 = hy_B172_0 := rfl
theorem hy_E172_1 : (hy_blk 172 1).2 = hy_B172_1 := rfl
theorem hy_E172_2 : (hy_blk 172 2).2 = hy_B172_2 := rfl
theorem hy_E172_3 : (hy_blk 172 3).2 = hy_B172_3 := rfl
theorem hy_E172_4 : (hy_blk 172 4).2 = hy_B172_4 := rfl
theorem hy_na173 : hy_na 173 = 3 := by decide +kernel
theorem hy_ow173 : hy_own 173 = 9 := by decide +kernel
theorem hy_rt173 : hy_rt 173 = 0 := by decide +kernel
theorem hy_E173_0 : (hy_blk 173 0).2 = hy_B173_0 := rfl
theorem hy_E173_1 : (hy_blk 173 1).2 = hy_B173_1 := rfl
theorem hy_E173_2 : (hy_blk 173 2).2 = hy_B173_2 := rfl
theorem hy_E173_3 : (hy_blk 173 3).2 = hy_B173_3 := rfl
theorem hy_E173_4 : (hy_blk 173 4).2 = hy_B173_4 := rfl
theorem hy_E173_5 : (hy_blk 173 5).2 = hy_B173_5 := rfl
theorem hy_E173_6 : (hy_blk 173 6).2 = hy_B173_6 := rfl
theorem hy_na174 : hy_na 174 = 1 := by decide +kernel
theorem hy_ow174 : hy_own 174 = 9 := by decide +kernel
theorem hy_rt174 : hy_rt 174 = 0 := by decide +kernel
theorem hy_E174_0 : (hy_blk 174 0).2 = hy_B174_0 := rfl
theorem hy_E174_1 : (hy_blk 174 1).2 = hy_B174_1 := rfl
theorem hy_E174_2 : (hy_blk 174 2).2 = hy_B174_2 := rfl
theorem hy_na175 : hy_na 175 = 1 := by decide +kernel
theorem hy_ow175 : hy_own 175 = 9 := by decide +kernel
theorem hy_rt175 : hy_rt 175 = 0 := by decide +kernel
theorem hy_E175_0 : (hy_blk 175 0).2 = hy_B175_0 := rfl
theorem hy_E175_1 : (hy_blk 175 1).2 = hy_B175_1 := rfl
theorem hy_E175_2 : (hy_blk 175 2).2 = hy_B175_2 := rfl
theorem hy_E175_3 : (hy_blk 175 3).2 = hy_B175_3 := rfl
theorem hy_E175_4 : (hy_blk 175 4).2 = hy_B175_4 := rfl
theorem hy_na176 : hy_na 176 = 1 := by decide +kernel
theorem hy_ow176 : hy_own 176 = 9 := by decide +kernel
theorem hy_rt176 : hy_rt 176 = 0 := by decide +kernel
theorem hy_E176_0 : (hy_blk 176 0).2 = hy_B176_0 := rfl
theorem hy_E176_1 : (hy_blk 176 1).2 = hy_B176_1 := rfl
theorem hy_E176_2 : (hy_blk 176 2).2 = hy_B176_2 := rfl
theorem hy_na177 : hy_na 177 = 1 := by decide +kernel
theorem hy_ow177 : hy_own 177 = 9 := by decide +kernel
theorem hy_rt177 : hy_rt 177 = 0 := by decide +kernel
theorem hy_E177_0 : (hy_blk 177 0).2 = hy_B177_0 := rfl
theorem hy_E177_1 : (hy_blk 177 1).2 = hy_B177_1 := rfl
theorem hy_E177_2 : (hy_blk 177 2).2 = hy_B177_2 := rfl
theorem hy_E177_3 : (hy_blk 177 3).2 = hy_B177_3 := rfl
theorem hy_E177_4 : (hy_blk 177 4).2 = hy_B177_4 := rfl
theorem hy_na178 : hy_na 178 = 1 := by decide +kernel
theorem hy_ow178 : hy_own 178 = 9 := by decide +kernel
theorem hy_rt178 : hy_rt 178 = 1 := by decide +kernel
theorem hy_E178_0 : (hy_blk 178 0).2 = hy_B178_0 := rfl
theorem hy_E178_1 : (hy_blk 178 1).2 = hy_B178_1 := rfl
theorem hy_E178_2 : (hy_blk 178 2).2 = hy_B178_2 := rfl
theorem hy_E178_3 : (hy_blk 178 3).2 = hy_B178_3 := rfl
theorem hy_E178_4 : (hy_blk 178 4).2 = hy_B178_4 := rfl
theorem hy_E178_5 : (hy_blk 178 5).2 = hy_B178_5 := rfl
theorem hy_E178_6 : (hy_blk 178 6).2 = hy_B178_6 := rfl
theorem hy_na179 : hy_na 179 = 3 := by decide +kernel
theorem hy_ow179 : hy_own 179 = 9 := by decide +kernel
theorem hy_rt179 : hy_rt 179 = 0 := by decide +kernel
theorem hy_E179_0 : (hy_blk 179 0).2 = hy_B179_0 := rfl
theorem hy_E179_1 : (hy_blk 179 1).2 = hy_B179_1 := rfl
theorem hy_E179_2 : (hy_blk 179 2).2 = hy_B179_2 := rfl
theorem hy_E179_3 : (hy_blk 179 3).2 = hy_B179_3 := rfl
theorem hy_E179_4 : (hy_blk 179 4).2 = hy_B179_4 := rfl
theorem hy_E179_5 : (hy_blk 179 5).2 = hy_B179_5 := rfl
theorem hy_E179_6 : (hy_blk 179 6).2 = hy_B179_6 := rfl
theorem hy_E179_7 : (hy_blk 179 7).2 = hy_B179_7 := rfl
theorem hy_E179_8 : (hy_blk 179 8).2 = hy_B179_8 := rfl
theorem hy_E179_9 : (hy_blk 179 9).2 = hy_B179_9 := rfl
theorem hy_na180 : hy_na 180 = 3 := by decide +kernel
theorem hy_ow180 : hy_own 180 = 9 := by decide +kernel
theorem hy_rt180 : hy_rt 180 = 0 := by decide +kernel
theorem hy_E180_0 : (hy_blk 180 0).2 = hy_B180_0 := rfl
theorem hy_E180_1 : (hy_blk 180 1).2 = hy_B180_1 := rfl
theorem hy_E180_2 : (hy_blk 180 2).2 = hy_B180_2 := rfl
theorem hy_E180_3 : (hy_blk 180 3).2 = hy_B180_3 := rfl
theorem hy_E180_4 : (hy_blk 180 4).2 = hy_B180_4 := rfl
theorem hy_E180_5 : (hy_blk 180 5).2 = hy_B180_5 := rfl
theorem hy_E180_6 : (hy_blk 180 6).2 = hy_B180_6 := rfl
theorem hy_E180_7 : (hy_blk 180 7).2 = hy_B180_7 := rfl
theorem hy_E180_8 : (hy_blk 180 8).2 = hy_B180_8 := rfl
theorem hy_E180_9 : (hy_blk 180 9).2 = hy_B180_9 := rfl
theorem hy_na181 : hy_na 181 = 4 := by decide +kernel
theorem hy_ow181 : hy_own 181 = 9 := by decide +kernel
theorem hy_rt181 : hy_rt 181 = 0 := by decide +kernel
theorem hy_E181_0 : (hy_blk 181 0).2 = hy_B181_0 := rfl
theorem hy_E181_1 : (hy_blk 181 1).2 = hy_B181_1 := rfl
theorem hy_E181_2 : (hy_blk 181 2).2 = hy_B181_2 := rfl
theorem hy_E181_3 : (hy_blk 181 3).2 = hy_B181_3 := rfl
theorem hy_E181_4 : (hy_blk 181 4).2 = hy_B181_4 := rfl
theorem hy_E181_5 : (hy_blk 181 5).2 = hy_B181_5 := rfl
theorem hy_E181_6 : (hy_blk 181 6).2 = hy_B181_6 := rfl
theorem hy_E181_7 : (hy_blk 181 7).2 = hy_B181_7 := rfl
theorem hy_E181_8 : (hy_blk 181 8).2 = hy_B181_8 := rfl
theorem hy_E181_9 : (hy_blk 181 9).2 = hy_B181_9 := rfl
theorem hy_E181_10 : (hy_blk 181 10).2 = hy_B181_10 := rfl
theorem hy_na182 : hy_na 182 = 1 := by decide +kernel
theorem hy_ow182 : hy_own 182 = 9 := by decide +kernel
theorem hy_rt182 : hy_rt 182 = 1 := by decide +kernel
theorem hy_E182_0 : (hy_blk 182 0).2 = hy_B182_0 := rfl
theorem hy_na183 : hy_na 183 = 2 := by decide +kernel
theorem hy_ow183 : hy_own 183 = 9 := by decide +kernel
theorem hy_rt183 : hy_rt 183 = 0 := by decide +kernel
theorem hy_E183_0 : (hy_blk 183 0).2 = hy_B183_0 := rfl
theorem hy_E183_1 : (hy_blk 183 1).2 = hy_B183_1 := rfl
theorem hy_E183_2 : (hy_blk 183 2).2 = hy_B183_2 := rfl
theorem hy_E183_3 : (hy_blk 183 3).2 = hy_B183_3 := rfl
theorem hy_E183_4 : (hy_blk 183 4).2 = hy_B183_4 := rfl
theorem hy_E183_5 : (hy_blk 183 5).2 = hy_B183_5 := rfl
theorem hy_E183_6 : (hy_blk 183 6).2 = hy_B183_6 := rfl
theorem hy_E183_7 : (hy_blk 183 7).2 = hy_B183_7 := rfl
theorem hy_na184 : hy_na 184 = 1 := by decide +kernel
theorem hy_ow184 : hy_own 184 = 9 := by decide +kernel
theorem hy_rt184 : hy_rt 184 = 0 := by decide +kernel
theorem hy_E184_0 : (hy_blk 184 0).2 = hy_B184_0 := rfl
theorem hy_E184_1 : (hy_blk 184 1).2 = hy_B184_1 := rfl
theorem hy_E184_2 : (hy_blk 184 2).2 = hy_B184_2 := rfl
theorem hy_na185 : hy_na 185 = 2 := by decide +kernel
theorem hy_ow185 : hy_own 185 = 9 := by decide +kernel
theorem hy_rt185 : hy_rt 185 = 0 := by decide +kernel
theorem hy_E185_0 : (hy_blk 185 0).2 = hy_B185_0 := rfl
theorem hy_E185_1 : (hy_blk 185 1).2 = hy_B185_1 := rfl
theorem hy_E185_2 : (hy_blk 185 2).2 = hy_B185_2 := rfl
theorem hy_E185_3 : (hy_blk 185 3).2 = hy_B185_3 := rfl
theorem hy_na186 : hy_na 186 = 4 := by decide +kernel
theorem hy_ow186 : hy_own 186 = 9 := by decide +kernel
theorem hy_rt186 : hy_rt 186 = 0 := by decide +kernel
theorem hy_E186_0 : (hy_blk 186 0).2 = hy_B186_0 := rfl
theorem hy_E186_1 : (hy_blk 186 1).2 = hy_B186_1 := rfl
theorem hy_E186_2 : (hy_blk 186 2).2 = hy_B186_2 := rfl
theorem hy_E186_3 : (hy_blk 186 3).2 = hy_B186_3 := rfl
theorem hy_E186_4 : (hy_blk 186 4).2 = hy_B186_4 := rfl
theorem hy_E186_5 : (hy_blk 186 5).2 = hy_B186_5 := rfl
theorem hy_E186_6 : (hy_blk 186 6).2 = hy_B186_6 := rfl
theorem hy_na187 : hy_na 187 = 2 := by decide +kernel
theorem hy_ow187 : hy_own 187 = 9 := by decide +kernel
theorem hy_rt187 : hy_rt 187 = 0 := by decide +kernel
theorem hy_E187_0 : (hy_blk 187 0).2 = hy_B187_0 := rfl
theorem hy_E187_1 : (hy_blk 187 1).2 = hy_B187_1 := rfl
theorem hy_na188 : hy_na 188 = 1 := by decide +kernel
theorem hy_ow188 : hy_own 188 = 9 := by decide +kernel
theorem hy_rt188 : hy_rt 188 = 0 := by decide +kernel
theorem hy_E188_0 : (hy_blk 188 0).2 = hy_B188_0 := rfl
theorem hy_E188_1 : (hy_blk 188 1).2 = hy_B188_1 := rfl
theorem hy_E188_2 : (hy_blk 188 2).2 = hy_B188_2 := rfl
theorem hy_E188_3 : (hy_blk 188 3).2 = hy_B188_3 := rfl
theorem hy_E188_4 : (hy_blk 188 4).2 = hy_B188_4 := rfl
theorem hy_E188_5 : (hy_blk 188 5).2 = hy_B188_5 := rfl
theorem hy_E188_6 : (hy_blk 188 6).2 = hy_B188_6 := rfl
theorem hy_na189 : hy_na 189 = 1 := by decide +kernel
theorem hy_ow189 : hy_own 189 = 9 := by decide +kernel
theorem hy_rt189 : hy_rt 189 = 0 := by decide +kernel
theorem hy_E189_0 : (hy_blk 189 0).2 = hy_B189_0 := rfl
theorem hy_E189_1 : (hy_blk 189 1).2 = hy_B189_1 := rfl
theorem hy_E189_2 : (hy_blk 189 2).2 = hy_B189_2 := rfl
theorem hy_E189_3 : (hy_blk 189 3).2 = hy_B189_3 := rfl
theorem hy_E189_4 : (hy_blk 189 4).2 = hy_B189_4 := rfl
theorem hy_E189_5 : (hy_blk 189 5).2 = hy_B189_5 := rfl
theorem hy_E189_6 : (hy_blk 189 6).2 = hy_B189_6 := rfl
theorem hy_E189_7 : (hy_blk 189 7).2 = hy_B189_7 := rfl
theorem hy_E189_8 : (hy_blk 189 8).2 = hy_B189_8 := rfl
theorem hy_E189_9 : (hy_blk 189 9).2 = hy_B189_9 := rfl
theorem hy_E189_10 : (hy_blk 189 10).2 = hy_B189_10 := rfl
theorem hy_E189_11 : (hy_blk 189 11).2 = hy_B189_11 := rfl
theorem hy_E189_12 : (hy_blk 189 12).2 = hy_B189_12 := rfl
theorem hy_E189_13 : (hy_blk 189 13).2 = hy_B189_13 := rfl
theorem hy_E189_14 : (hy_blk 189 14).2 = hy_B189_14 := rfl
theorem hy_E189_15 : (hy_blk 189 15).2 = hy_B189_15 := rfl
theorem hy_E189_16 : (hy_blk 189 16).2 = hy_B189_16 := rfl
theorem hy_E189_17 : (hy_blk 189 17).2 = hy_B189_17 := rfl
theorem hy_E189_18 : (hy_blk 189 18).2 = hy_B189_18 := rfl
theorem hy_na190 : hy_na 190 = 2 := by decide +kernel
theorem hy_ow190 : hy_own 190 = 9 := by decide +kernel
theorem hy_rt190 : hy_rt 190 = 1 := by decide +kernel
theorem hy_E190_0 : (hy_blk 190 0).2 = hy_B190_0 := rfl
theorem hy_E190_1 : (hy_blk 190 1).2 = hy_B190_1 := rfl
theorem hy_E190_2 : (hy_blk 190 2).2 = hy_B190_2 := rfl
theorem hy_na191 : hy_na 191 = 2 := by decide +kernel
theorem hy_ow191 : hy_own 191 = 9 := by decide +kernel
theorem hy_rt191 : hy_rt 191 = 1 := by decide +kernel
theorem hy_E191_0 : (hy_blk 191 0).2 = hy_B191_0 := rfl
theorem hy_E191_1 : (hy_blk 191 1).2 = hy_B191_1 := rfl
theorem hy_E191_2 : (hy_blk 191 2).2 = hy_B191_2 := rfl
theorem hy_na192 : hy_na 192 = 1 := by decide +kernel
theorem hy_ow192 : hy_own 192 = 9 := by decide +kernel
theorem hy_rt192 : hy_rt 192 = 1 := by decide +kernel
theorem hy_E192_0 : (hy_blk 192 0).2 = hy_B192_0 := rfl
theorem hy_E192_1 : (hy_blk 192 1).2 = hy_B192_1 := rfl
theorem hy_E192_2 : (hy_blk 192 2).2 = hy_B192_2 := rfl
theorem hy_E192_3 : (hy_blk 192 3).2 = hy_B192_3 := rfl
theorem hy_E192_4 : (hy_blk 192 4).2 = hy_B192_4 := rfl
theorem hy_E192_5 : (hy_blk 192 5).2 = hy_B192_5 := rfl
theorem hy_E192_6 : (hy_blk 192 6).2 = hy_B192_6 := rfl
theorem hy_E192_7 : (hy_blk 192 7).2 = hy_B192_7 := rfl
theorem hy_E192_8 : (hy_blk 192 8).2 = hy_B192_8 := rfl
theorem hy_E192_9 : (hy_blk 192 9).2 = hy_B192_9 := rfl
theorem hy_E192_10 : (hy_blk 192 10).2 = hy_B192_10 := rfl
theorem hy_na193 : hy_na 193 = 1 := by decide +kernel
theorem hy_ow193 : hy_own 193 = 9 := by decide +kernel
theorem hy_rt193 : hy_rt 193 = 1 := by decide +kernel
theorem hy_E193_0 : (hy_blk 193 0).2 = hy_B193_0 := rfl
theorem hy_E193_1 : (hy_blk 193 1).2 = hy_B193_1 := rfl
theorem hy_E193_2 : (hy_blk 193 2).2 = hy_B193_2 := rfl
theorem hy_E193_3 : (hy_blk 193 3).2 = hy_B193_3 := rfl
theorem hy_E193_4 : (hy_blk 193 4).2 = hy_B193_4 := rfl
theorem hy_E193_5 : (hy_blk 193 5).2 = hy_B193_5 := rfl
theorem hy_E193_6 : (hy_blk 193 6).2 = hy_B193_6 := rfl
theorem hy_E193_7 : (hy_blk 193 7).2 = hy_B193_7 := rfl
theorem hy_E193_8 : (hy_blk 193 8).2 = hy_B193_8 := rfl
theorem hy_E193_9 : (hy_blk 193 9).2 = hy_B193_9 := rfl
theorem hy_E193_10 : (hy_blk 193 10).2 = hy_B193_10 := rfl
theorem hy_E193_11 : (hy_blk 193 11).2 = hy_B193_11 := rfl
theorem hy_E193_12 : (hy_blk 193 12).2 = hy_B193_12 := rfl
theorem hy_E193_13 : (hy_blk 193 13).2 = hy_B193_13 := rfl
theorem hy_E193_14 : (hy_blk 193 14).2 = hy_B193_14 := rfl
theorem hy_E193_15 : (hy_blk 193 15).2 = hy_B193_15 := rfl
theorem hy_E193_16 : (hy_blk 193 16).2 = hy_B193_16 := rfl
theorem hy_na194 : hy_na 194 = 1 := by decide +kernel
theorem hy_ow194 : hy_own 194 = 9 := by decide +kernel
theorem hy_rt194 : hy_rt 194 = 1 := by decide +kernel
theorem hy_E194_0 : (hy_blk 194 0).2 = hy_B194_0 := rfl
theorem hy_E194_1 : (hy_blk 194 1).2 = hy_B194_1 := rfl
theorem hy_E194_2 : (hy_blk 194 2).2 = hy_B194_2 := rfl
theorem hy_E194_3 : (hy_blk 194 3).2 = hy_B194_3 := rfl
theorem hy_E194_4 : (hy_blk 194 4).2 = hy_B194_4 := rfl
theorem hy_E194_5 : (hy_blk 194 5).2 = hy_B194_5 := rfl
theorem hy_na195 : hy_na 195 = 2 := by decide +kernel
theorem hy_ow195 : hy_own 195 = 9 := by decide +kernel
theorem hy_rt195 : hy_rt 195 = 0 := by decide +kernel
theorem hy_E195_0 : (hy_blk 195 0).2 = hy_B195_0 := rfl
theorem hy_E195_1 : (hy_blk 195 1).2 = hy_B195_1 := rfl
theorem hy_E195_2 : (hy_blk 195 2).2 = hy_B195_2 := rfl
theorem hy_E195_3 : (hy_blk 195 3).2 = hy_B195_3 := rfl
theorem hy_E195_4 : (hy_blk 195 4).2 = hy_B195_4 := rfl
theorem hy_E195_5 : (hy_blk 195 5).2 = hy_B195_5 := rfl
theorem hy_E195_6 : (hy_blk 195 6).2 = hy_B195_6 := rfl
theorem hy_E195_7 : (hy_blk 195 7).2 = hy_B195_7 := rfl
theorem hy_E195_8 : (hy_blk 195 8).2 = hy_B195_8 := rfl
theorem hy_E195_9 : (hy_blk 195 9).2 = hy_B195_9 := rfl
theorem hy_E195_10 : (hy_blk 195 10).2 = hy_B195_10 := rfl
theorem hy_E195_11 : (hy_blk 195 11).2 = hy_B195_11 := rfl
theorem hy_E195_12 : (hy_blk 195 12).2 = hy_B195_12 := rfl
theorem hy_E195_13 : (hy_blk 195 13).2 = hy_B195_13 := rfl
theorem hy_na196 : hy_na 196 = 2 := by decide +kernel
theorem hy_ow196 : hy_own 196 = 9 := by decide +kernel
theorem hy_rt196 : hy_rt 196 = 0 := by decide +kernel
theorem hy_E196_0 : (hy_blk 196 0).2 = hy_B196_0 := rfl
theorem hy_E196_1 : (hy_blk 196 1).2 = hy_B196_1 := rfl
theorem hy_na197 : hy_na 197 = 1 := by decide +kernel
theorem hy_ow197 : hy_own 197 = 9 := by decide +kernel
theorem hy_rt197 : hy_rt 197 = 0 := by decide +kernel
theorem hy_E197_0 : (hy_blk 197 0).2 = hy_B197_0 := rfl
theorem hy_E197_1 : (hy_blk 197 1).2 = hy_B197_1 := rfl
theorem hy_E197_2 : (hy_blk 197 2).2 = hy_B197_2 := rfl
theorem hy_E197_3 : (hy_blk 197 3).2 = hy_B197_3 := rfl
theorem hy_E197_4 : (hy_blk 197 4).2 = hy_B197_4 := rfl
theorem hy_E197_5 : (hy_blk 197 5).2 = hy_B197_5 := rfl
theorem hy_E197_6 : (hy_blk 197 6).2 = hy_B197_6 := rfl
theorem hy_na198 : hy_na 198 = 1 := by decide +kernel
theorem hy_ow198 : hy_own 198 = 9 := by decide +kernel
theorem hy_rt198 : hy_rt 198 = 0 := by decide +kernel
theorem hy_E198_0 : (hy_blk 198 0).2 = hy_B198_0 := rfl
theorem hy_E198_1 : (hy_blk 198 1).2 = hy_B198_1 := rfl
theorem hy_E198_2 : (hy_blk 198 2).2 = hy_B198_2 := rfl
theorem hy_E198_3 : (hy_blk 198 3).2 = hy_B198_3 := rfl
theorem hy_E198_4 : (hy_blk 198 4).2 = hy_B198_4 := rfl
theorem hy_na199 : hy_na 199 = 1 := by decide +kernel
theorem hy_ow199 : hy_own 199 = 9 := by decide +kernel
theorem hy_rt199 : hy_rt 199 = 0 := by decide +kernel
theorem hy_E199_0 : (hy_blk 199 0).2 = hy_B199_0 := rfl
theorem hy_E199_1 : (hy_blk 199 1).2 = hy_B199_1 := rfl
theorem hy_E199_2 : (hy_blk 199 2).2 = hy_B199_2 := rfl
theorem hy_E199_3 : (hy_blk 199 3).2 = hy_B199_3 := rfl
theorem hy_E199_4 : (hy_blk 199 4).2 = hy_B199_4 := rfl
theorem hy_E199_5 : (hy_blk 199 5).2 = hy_B199_5 := rfl
theorem hy_E199_6 : (hy_blk 199 6).2 = hy_B199_6 := rfl
theorem hy_E199_7 : (hy_blk 199 7).2 = hy_B199_7 := rfl
theorem hy_E199_8 : (hy_blk 199 8).2 = hy_B199_8 := rfl
theorem hy_E199_9 : (hy_blk 199 9).2 = hy_B199_9 := rfl
theorem hy_E199_10 : (hy_blk 199 10).2 = hy_B199_10 := rfl
theorem hy_E199_11 : (hy_blk 199 11).2 = hy_B199_11 := rfl
theorem hy_na200 : hy_na 200 = 3 := by decide +kernel
theorem hy_ow200 : hy_own 200 = 9 := by decide +kernel
theorem hy_rt200 : hy_rt 200 = 0 := by decide +kernel
theorem hy_E200_0 : (hy_blk 200 0).2 = hy_B200_0 := rfl
theorem hy_E200_1 : (hy_blk 200 1).2 = hy_B200_1 := rfl
theorem hy_E200_2 : (hy_blk 200 2).2 = hy_B200_2 := rfl
theorem hy_E200_3 : (hy_blk 200 3).2 = hy_B200_3 := rfl
theorem hy_E200_4 : (hy_blk 200 4).2 = hy_B200_4 := rfl
theorem hy_na201 : hy_na 201 = 2 := by decide +kernel
theorem hy_ow201 : hy_own 201 = 9 := by decide +kernel
theorem hy_rt201 : hy_rt 201 = 0 := by decide +kernel
theorem hy_E201_0 : (hy_blk 201 0).2 = hy_B201_0 := rfl
theorem hy_E201_1 : (hy_blk 201 1).2 = hy_B201_1 := rfl
theorem hy_E201_2 : (hy_blk 201 2).2 = hy_B201_2 := rfl
theorem hy_E201_3 : (hy_blk 201 3).2 = hy_B201_3 := rfl
theorem hy_na202 : hy_na 202 = 4 := by decide +kernel
theorem hy_ow202 : hy_own 202 = 9 := by decide +kernel
theorem hy_rt202 : hy_rt 202 = 0 := by decide +kernel
theorem hy_E202_0 : (hy_blk 202 0).2 = hy_B202_0 := rfl
theorem hy_E202_1 : (hy_blk 202 1).2 = hy_B202_1 := rfl
theorem hy_E202_2 : (hy_blk 202 2).2 = hy_B202_2 := rfl
theorem hy_E202_3 : (hy_blk 202 3).2 = hy_B202_3 := rfl
theorem hy_E202_4 : (hy_blk 202 4).2 = hy_B202_4 := rfl
theorem hy_E202_5 : (hy_blk 202 5).2 = hy_B202_5 := rfl
theorem hy_E202_6 : (hy_blk 202 6).2 = hy_B202_6 := rfl
theorem hy_E202_7 : (hy_blk 202 7).2 = hy_B202_7 := rfl
theorem hy_na203 : hy_na 203 = 4 := by decide +kernel
theorem hy_ow203 : hy_own 203 = 9 := by decide +kernel
theorem hy_rt203 : hy_rt 203 = 0 := by decide +kernel
theorem hy_E203_0 : (hy_blk 203 0).2 = hy_B203_0 := rfl
theorem hy_E203_1 : (hy_blk 203 1).2 = hy_B203_1 := rfl
theorem hy_E203_2 : (hy_blk 203 2).2 = hy_B203_2 := rfl
theorem hy_E203_3 : (hy_blk 203 3).2 = hy_B203_3 := rfl
theorem hy_E203_4 : (hy_blk 203 4).2 = hy_B203_4 := rfl
theorem hy_E203_5 : (hy_blk 203 5).2 = hy_B203_5 := rfl
theorem hy_E203_6 : (hy_blk 203 6).2 = hy_B203_6 := rfl
theorem hy_E203_7 : (hy_blk 203 7).2 = hy_B203_7 := rfl
theorem hy_na204 : hy_na 204 = 2 := by decide +kernel
theorem hy_ow204 : hy_own 204 = 9 := by decide +kernel
theorem hy_rt204 : hy_rt 204 = 0 := by decide +kernel
theorem hy_E204_0 : (hy_blk 204 0).2 = hy_B204_0 := rfl
theorem hy_E204_1 : (hy_blk 204 1).2 = hy_B204_1 := rfl
theorem hy_E204_2 : (hy_blk 204 2).2 = hy_B204_2 := rfl
theorem hy_E204_3 : (hy_blk 204 3).2 = hy_B204_3 := rfl
theorem hy_E204_4 : (hy_blk 204 4).2 = hy_B204_4 := rfl
theorem hy_E204_5 : (hy_blk 204 5).2 = hy_B204_5 := rfl
theorem hy_E204_6 : (hy_blk 204 6).2 = hy_B204_6 := rfl
theorem hy_E204_7 : (hy_blk 204 7).2 = hy_B204_7 := rfl
theorem hy_E204_8 : (hy_blk 204 8).2 = hy_B204_8 := rfl
theorem hy_na205 : hy_na 205 = 2 := by decide +kernel
theorem hy_ow205 : hy_own 205 = 9 := by decide +kernel
theorem hy_rt205 : hy_rt 205 = 0 := by decide +kernel
theorem hy_E205_0 : (hy_blk 205 0).2 = hy_B205_0 := rfl
theorem hy_E205_1 : (hy_blk 205 1).2 = hy_B205_1 := rfl
theorem hy_E205_2 : (hy_blk 205 2).2 = hy_B205_2 := rfl
theorem hy_E205_3 : (hy_blk 205 3).2 = hy_B205_3 := rfl
theorem hy_E205_4 : (hy_blk 205 4).2 = hy_B205_4 := rfl
theorem hy_E205_5 : (hy_blk 205 5).2 = hy_B205_5 := rfl
theorem hy_E205_6 : (hy_blk 205 6).2 = hy_B205_6 := rfl
theorem hy_na206 : hy_na 206 = 6 := by decide +kernel
theorem hy_ow206 : hy_own 206 = 9 := by decide +kernel
theorem hy_rt206 : hy_rt 206 = 0 := by decide +kernel
theorem hy_E206_0 : (hy_blk 206 0).2 = hy_B206_0 := rfl
theorem hy_E206_1 : (hy_blk 206 1).2 = hy_B206_1 := rfl
theorem hy_E206_2 : (hy_blk 206 2).2 = hy_B206_2 := rfl
theorem hy_E206_3 : (hy_blk 206 3).2 = hy_B206_3 := rfl
theorem hy_E206_4 : (hy_blk 206 4).2 = hy_B206_4 := rfl
theorem hy_E206_5 : (hy_blk 206 5).2 = hy_B206_5 := rfl
theorem hy_E206_6 : (hy_blk 206 6).2 = hy_B206_6 := rfl
theorem hy_E206_7 : (hy_blk 206 7).2 = hy_B206_7 := rfl
theorem hy_E206_8 : (hy_blk 206 8).2 = hy_B206_8 := rfl
theorem hy_E206_9 : (hy_blk 206 9).2 = hy_B206_9 := rfl
theorem hy_E206_10 : (hy_blk 206 10).2 = hy_B206_10 := rfl
theorem hy_E206_11 : (hy_blk 206 11).2 = hy_B206_11 := rfl
theorem hy_na207 : hy_na 207 = 4 := by decide +kernel
theorem hy_ow207 : hy_own 207 = 9 := by decide +kernel
theorem hy_rt207 : hy_rt 207 = 0 := by decide +kernel
theorem hy_E207_0 : (hy_blk 207 0).2 = hy_B207_0 := rfl
theorem hy_E207_1 : (hy_blk 207 1).2 = hy_B207_1 := rfl
theorem hy_E207_2 : (hy_blk 207 2).2 = hy_B207_2 := rfl
theorem hy_E207_3 : (hy_blk 207 3).2 = hy_B207_3 := rfl
theorem hy_E207_4 : (hy_blk 207 4).2 = hy_B207_4 := rfl
theorem hy_E207_5 : (hy_blk 207 5).2 = hy_B207_5 := rfl
theorem hy_E207_6 : (hy_blk 207 6).2 = hy_B207_6 := rfl
theorem hy_E207_7 : (hy_blk 207 7).2 = hy_B207_7 := rfl
theorem hy_E207_8 : (hy_blk 207 8).2 = hy_B207_8 := rfl
theorem hy_E207_9 : (hy_blk 207 9).2 = hy_B207_9 := rfl
theorem hy_E207_10 : (hy_blk 207 10).2 = hy_B207_10 := rfl
theorem hy_E207_11 : (hy_blk 207 11).2 = hy_B207_11 := rfl
theorem hy_na208 : hy_na 208 = 1 := by decide +kernel
theorem hy_ow208 : hy_own 208 = 9 := by decide +kernel
theorem hy_rt208 : hy_rt 208 = 1 := by decide +kernel
theorem hy_E208_0 : (hy_blk 208 0).2 = hy_B208_0 := rfl
theorem hy_na209 : hy_na 209 = 3 := by decide +kernel
theorem hy_ow209 : hy_own 209 = 9 := by decide +kernel
theorem hy_rt209 : hy_rt 209 = 0 := by decide +kernel
theorem hy_E209_0 : (hy_blk 209 0).2 = hy_B209_0 := rfl
theorem hy_E209_1 : (hy_blk 209 1).2 = hy_B209_1 := rfl
theorem hy_E209_2 : (hy_blk 209 2).2 = hy_B209_2 := rfl
theorem hy_E209_3 : (hy_blk 209 3).2 = hy_B209_3 := rfl
theorem hy_E209_4 : (hy_blk 209 4).2 = hy_B209_4 := rfl
theorem hy_E209_5 : (hy_blk 209 5).2 = hy_B209_5 := rfl
theorem hy_na210 : hy_na 210 = 3 := by decide +kernel
theorem hy_ow210 : hy_own 210 = 9 := by decide +kernel
theorem hy_rt210 : hy_rt 210 = 0 := by decide +kernel
theorem hy_E210_0 : (hy_blk 210 0).2 = hy_B210_0 := rfl
theorem hy_E210_1 : (hy_blk 210 1).2 = hy_B210_1 := rfl
theorem hy_E210_2 : (hy_blk 210 2).2 = hy_B210_2 := rfl
theorem hy_E210_3 : (hy_blk 210 3).2 = hy_B210_3 := rfl
theorem hy_E210_4 : (hy_blk 210 4).2 = hy_B210_4 := rfl
theorem hy_E210_5 : (hy_blk 210 5).2 = hy_B210_5 := rfl
theorem hy_E210_6 : (hy_blk 210 6).2 = hy_B210_6 := rfl
theorem hy_na211 : hy_na 211 = 3 := by decide +kernel
theorem hy_ow211 : hy_own 211 = 9 := by decide +kernel
theorem hy_rt211 : hy_rt 211 = 0 := by decide +kernel
theorem hy_E211_0 : (hy_blk 211 0).2 = hy_B211_0 := rfl
theorem hy_E211_1 : (hy_blk 211 1).2 = hy_B211_1 := rfl
theorem hy_E211_2 : (hy_blk 211 2).2 = hy_B211_2 := rfl
theorem hy_E211_3 : (hy_blk 211 3).2 = hy_B211_3 := rfl
theorem hy_E211_4 : (hy_blk 211 4).2 = hy_B211_4 := rfl
theorem hy_E211_5 : (hy_blk 211 5).2 = hy_B211_5 := rfl
theorem hy_E211_6 : (hy_blk 211 6).2 = hy_B211_6 := rfl
theorem hy_na212 : hy_na 212 = 2 := by decide +kernel
theorem hy_ow212 : hy_own 212 = 9 := by decide +kernel
theorem hy_rt212 : hy_rt 212 = 0 := by decide +kernel
theorem hy_E212_0 : (hy_blk 212 0).2 = hy_B212_0 := rfl
theorem hy_E212_1 : (hy_blk 212 1).2 = hy_B212_1 := rfl
theorem hy_na213 : hy_na 213 = 2 := by decide +kernel
theorem hy_ow213 : hy_own 213 = 9 := by decide +kernel
theorem hy_rt213 : hy_rt 213 = 0 := by decide +kernel
theorem hy_E213_0 : (hy_blk 213 0).2 = hy_B213_0 := rfl
theorem hy_E213_1 : (hy_blk 213 1).2 = hy_B213_1 := rfl
theorem hy_E213_2 : (hy_blk 213 2).2 = hy_B213_2 := rfl
theorem hy_E213_3 : (hy_blk 213 3).2 = hy_B213_3 := rfl
theorem hy_E213_4 : (hy_blk 213 4).2 = hy_B213_4 := rfl
theorem hy_E213_5 : (hy_blk 213 5).2 = hy_B213_5 := rfl
theorem hy_E213_6 : (hy_blk 213 6).2 = hy_B213_6 := rfl
theorem hy_E213_7 : (hy_blk 213 7).2 = hy_B213_7 := rfl
theorem hy_E213_8 : (hy_blk 213 8).2 = hy_B213_8 := rfl
theorem hy_E213_9 : (hy_blk 213 9).2 = hy_B213_9 := rfl
theorem hy_E213_10 : (hy_blk 213 10).2 = hy_B213_10 := rfl
theorem hy_na214 : hy_na 214 = 2 := by decide +kernel
theorem hy_ow214 : hy_own 214 = 9 := by decide +kernel
theorem hy_rt214 : hy_rt 214 = 0 := by decide +kernel
theorem hy_E214_0 : (hy_blk 214 0).2 = hy_B214_0 := rfl
theorem hy_E214_1 : (hy_blk 214 1).2 = hy_B214_1 := rfl
theorem hy_E214_2 : (hy_blk 214 2).2 = hy_B214_2 := rfl
theorem hy_na215 : hy_na 215 = 1 := by decide +kernel
theorem hy_ow215 : hy_own 215 = 9 := by decide +kernel
theorem hy_rt215 : hy_rt 215 = 0 := by decide +kernel
theorem hy_E215_0 : (hy_blk 215 0).2 = hy_B215_0 := rfl
theorem hy_na216 : hy_na 216 = 1 := by decide +kernel
theorem hy_ow216 : hy_own 216 = 9 := by decide +kernel
theorem hy_rt216 : hy_rt 216 = 0 := by decide +kernel
theorem hy_E216_0 : (hy_blk 216 0).2 = hy_B216_0 := rfl
theorem hy_E216_1 : (hy_blk 216 1).2 = hy_B216_1 := rfl
theorem hy_na217 : hy_na 217 = 2 := by decide +kernel
theorem hy_ow217 : hy_own 217 = 9 := by decide +kernel
theorem hy_rt217 : hy_rt 217 = 0 := by decide +kernel
theorem hy_E217_0 : (hy_blk 217 0).2 = hy_B217_0 := rfl
theorem hy_E217_1 : (hy_blk 217 1).2 = hy_B217_1 := rfl
theorem hy_E217_2 : (hy_blk 217 2).2 = hy_B217_2 := rfl
theorem hy_E217_3 : (hy_blk 217 3).2 = hy_B217_3 := rfl
theorem hy_E217_4 : (hy_blk 217 4).2 = hy_B217_4 := rfl
theorem hy_E217_5 : (hy_blk 217 5).2 = hy_B217_5 := rfl
theorem hy_E217_6 : (hy_blk 217 6).2 = hy_B217_6 := rfl
theorem hy_E217_7 : (hy_blk 217 7).2 = hy_B217_7 := rfl
theorem hy_E217_8 : (hy_blk 217 8).2 = hy_B217_8 := rfl
theorem hy_E217_9 : (hy_blk 217 9).2 = hy_B217_9 := rfl
theorem hy_na218 : hy_na 218 = 1 := by decide +kernel
theorem hy_ow218 : hy_own 218 = 10 := by decide +kernel
theorem hy_rt218 : hy_rt 218 = 0 := by decide +kernel
theorem hy_E218_0 : (hy_blk 218 0).2 = hy_B218_0 := rfl
theorem hy_na219 : hy_na 219 = 1 := by decide +kernel
theorem hy_ow219 : hy_own 219 = 10 := by decide +kernel
theorem hy_rt219 : hy_rt 219 = 2 := by decide +kernel
theorem hy_E219_0 : (hy_blk 219 0).2 = hy_B219_0 := rfl
theorem hy_E219_1 : (hy_blk 219 1).2 = hy_B219_1 := rfl
theorem hy_E219_2 : (hy_blk 219 2).2 = hy_B219_2 := rfl
theorem hy_na220 : hy_na 220 = 2 := by decide +kernel
theorem hy_ow220 : hy_own 220 = 10 := by decide +kernel
theorem hy_rt220 : hy_rt 220 = 3 := by decide +kernel
theorem hy_E220_0 : (hy_blk 220 0).2 = hy_B220_0 := rfl
theorem hy_E220_1 : (hy_blk 220 1).2 = hy_B220_1 := rfl
theorem hy_na221 : hy_na 221 = 1 := by decide +kernel
theorem hy_ow221 : hy_own 221 = 10 := by decide +kernel
theorem hy_rt221 : hy_rt 221 = 1 := by decide +kernel
theorem hy_E221_0 : (hy_blk 221 0).2 = hy_B221_0 := rfl
theorem hy_E221_1 : (hy_blk 221 1).2 = hy_B221_1 := rfl
theorem hy_E221_2 : (hy_blk 221 2).2 = hy_B221_2 := rfl
theorem hy_na222 : hy_na 222 = 2 := by decide +kernel
theorem hy_ow222 : hy_own 222 = 11 := by decide +kernel
theorem hy_rt222 : hy_rt 222 = 3 := by decide +kernel
theorem hy_E222_0 : (hy_blk 222 0).2 = hy_B222_0 := rfl
theorem hy_na223 : hy_na 223 = 2 := by decide +kernel
theorem hy_ow223 : hy_own 223 = 10 := by decide +kernel
theorem hy_rt223 : hy_rt 223 = 0 := by decide +kernel
theorem hy_E223_0 : (hy_blk 223 0).2 = hy_B223_0 := rfl
theorem hy_na224 : hy_na 224 = 3 := by decide +kernel
theorem hy_ow224 : hy_own 224 = 12 := by decide +kernel
theorem hy_rt224 : hy_rt 224 = 0 := by decide +kernel
theorem hy_E224_0 : (hy_blk 224 0).2 = hy_B224_0 := rfl
theorem hy_E224_1 : (hy_blk 224 1).2 = hy_B224_1 := rfl
theorem hy_E224_2 : (hy_blk 224 2).2 = hy_B224_2 := rfl
theorem hy_na225 : hy_na 225 = 2 := by decide +kernel
theorem hy_ow225 : hy_own 225 = 10 := by decide +kernel
theorem hy_rt225 : hy_rt 225 = 0 := by decide +kernel
theorem hy_E225_0 : (hy_blk 225 0).2 = hy_B225_0 := rfl
theorem hy_na226 : hy_na 226 = 3 := by decide +kernel
theorem hy_ow226 : hy_own 226 = 10 := by decide +kernel
theorem hy_rt226 : hy_rt 226 = 0 := by decide +kernel
theorem hy_E226_0 : (hy_blk 226 0).2 = hy_B226_0 := rfl
theorem hy_E226_1 : (hy_blk 226 1).2 = hy_B226_1 := rfl
theorem hy_E226_2 : (hy_blk 226 2).2 = hy_B226_2 := rfl
theorem hy_na227 : hy_na 227 = 4 := by decide +kernel
theorem hy_ow227 : hy_own 227 = 11 := by decide +kernel
theorem hy_rt227 : hy_rt 227 = 0 := by decide +kernel
theorem hy_E227_0 : (hy_blk 227 0).2 = hy_B227_0 := rfl
theorem hy_E227_1 : (hy_blk 227 1).2 = hy_B227_1 := rfl
theorem hy_E227_2 : (hy_blk 227 2).2 = hy_B227_2 := rfl
theorem hy_na228 : hy_na 228 = 1 := by decide +kernel
theorem hy_ow228 : hy_own 228 = 11 := by decide +kernel
theorem hy_rt228 : hy_rt 228 = 1 := by decide +kernel
theorem hy_E228_0 : (hy_blk 228 0).2 = hy_B228_0 := rfl
theorem hy_E228_1 : (hy_blk 228 1).2 = hy_B228_1 := rfl
theorem hy_E228_2 : (hy_blk 228 2).2 = hy_B228_2 := rfl
theorem hy_na229 : hy_na 229 = 4 := by decide +kernel
theorem hy_ow229 : hy_own 229 = 11 := by decide +kernel
theorem hy_rt229 : hy_rt 229 = 0 := by decide +kernel
theorem hy_E229_0 : (hy_blk 229 0).2 = hy_B229_0 := rfl
theorem hy_E229_1 : (hy_blk 229 1).2 = hy_B229_1 := rfl
theorem hy_E229_2 : (hy_blk 229 2).2 = hy_B229_2 := rfl
theorem hy_E229_3 : (hy_blk 229 3).2 = hy_B229_3 := rfl
