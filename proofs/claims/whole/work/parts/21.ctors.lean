/-! MACHINE 2: the constructors, tables and abstract code; written by wip/gen/gen21.py -/
def hz_M : List (MethodName × Nat × Nat × Nat) := [(⟨"", "", ""⟩, 0, 0, 0), (⟨"HayBoard$Choice", "<init>", "()V"⟩, 1, 1, 4), (⟨"HayBoard$Law", "<init>", "()V"⟩, 1, 1, 3), (⟨"HayBoard$Bale", "<init>", "()V"⟩, 1, 1, 8), (⟨"HayBoard$Sheet", "<init>", "()V"⟩, 1, 1, 5), (⟨"HayBoard$Tape", "<init>", "()V"⟩, 1, 1, 2), (⟨"HayBoard$Slot", "<init>", "()V"⟩, 1, 1, 6), (⟨"HayBoard$Common", "<init>", "([LHayBoard$Law;)V"⟩, 3, 2, 7), (⟨"HayBoard", "<init>", "()V"⟩, 2, 1, 1), (⟨"HayBoardModel", "<init>", "()V"⟩, 1, 1, 9)]
def hz_m (y : Nat) : MethodName × Nat × Nat × Nat := hz_M.getD y (⟨"", "", ""⟩, 0, 0, 0)
/-- places: code, initialized, instanceMethod, instantiable -/
def hz_P : List (Nat × Nat × Nat × Nat) := [(0, 0, 0, 0), (138, 64, 137, 135), (97, 63, 96, 94), (186, 67, 185, 183), (160, 65, 159, 157), (91, 62, 90, 88), (180, 66, 179, 177), (241, 68, 240, 238), (81, 61, 80, 78), (985, 69, 984, 982)]
def hz_b (y : Nat) : ByteArray := match lw_tbl[(hz_P.getD y (0, 0, 0, 0)).1]? with
  | some (.code _ b _ _) => b
  | _ => ⟨#[]⟩
def hz_cdOK (y : Nat) : Bool := match lw_tbl[(hz_P.getD y (0, 0, 0, 0)).1]? with
  | some (.code n _ mx rt) => decide (n = (hz_m y).1 ∧ mx = (hz_m y).2.1 ∧ rt = none)
  | _ => false
def hz_one (y : Nat) : Bool := let q := hz_P.getD y (0, 0, 0, 0)
  hy_wAt q.2.1 (.initialized (hz_m y).1.cls) && hy_wAt q.2.2.1 (.instanceMethod (hz_m y).1) && hy_wAt q.2.2.2 (.instantiable (hz_m y).1.cls (hy_N (hz_m y).2.2.2)) && decide (hy_cn (hz_m y).2.2.2 = (hz_m y).1.cls) && decide ((hz_m y).1.name = "<init>") &&
  plainName (hz_m y).1.cls && decide ((hz_m y).1.cls ≠ "java/lang/invoke/MethodHandle" ∧ (hz_m y).1.cls ≠ "java/lang/invoke/VarHandle") && decide ((parseMethodDescriptor (hz_m y).1.desc).map (fun d => d.parameters.length) = some ((hz_m y).2.2.1 - 1))
theorem hz_cdOK_all : (List.range 10).all (fun y => Nat.beq y 0 || hz_cdOK y) = true := by decide +kernel
theorem hz_one_all : (List.range 10).all (fun y => Nat.beq y 0 || hz_one y) = true := by decide +kernel
def hz_KI : List Nat := [0, 8, 5, 2, 1, 4, 6, 7, 3, 9]
def hz_ML : List (Nat × Nat × Nat × Nat) := [(0, 9, 16, 79), (1, 17, 11, 89), (2, 17, 5, 95), (1, 24, 3, 136), (1, 45, 5, 156), (1, 46, 9, 158), (1, 47, 13, 178), (6, 11, 7, 184), (6, 20, 9, 220), (1, 50, 14, 239), (7, 32, 3, 246), (7, 45, 7, 247), (0, 12, 18, 983)]
def hz_CL : List (Nat × Nat × Nat × Nat) := [(0, 7, 1, 77), (1, 9, 3, 85), (1, 15, 2, 87), (2, 15, 3, 93), (1, 22, 4, 134), (1, 29, 5, 152), (1, 35, 6, 154), (6, 9, 8, 182), (6, 18, 5, 219), (1, 48, 7, 237), (7, 9, 8, 243), (7, 30, 4, 245), (0, 10, 9, 981)]
def hz_OL : List (Nat × Nat × Nat × Nat) := [(1, 1, 0, 82), (2, 3, 0, 92), (3, 3, 0, 98), (4, 3, 0, 139), (5, 3, 0, 161), (6, 3, 0, 181), (8, 3, 0, 187), (7, 3, 0, 242), (9, 1, 0, 986)]
theorem hz_ml_ok : hz_ML.all (fun q => hy_wM q.2.2.2 (bif Nat.beq (q.2.2.1 % 2) 1 then .methodLinkNest (hy_cn q.1) q.2.1 (hz_m (q.2.2.1 / 2)).1 "HayBoard" else .methodLink (hy_cn q.1) q.2.1 (hz_m (q.2.2.1 / 2)).1) && (Nat.beq (q.2.2.1 % 2) 1 || hy_wAt q.2.2.2 (.methodLink (hy_cn q.1) q.2.1 (hz_m (q.2.2.1 / 2)).1))) = true := by decide +kernel
theorem hz_cl_ok : hz_CL.all (fun q => hy_wAt q.2.2.2 (.classLink (hy_cn q.1) q.2.1 (hy_cn q.2.2.1))) = true := by decide +kernel
theorem hz_ol_ok : hz_OL.all (fun q => hy_wAt q.2.2.2 (.methodLink (hy_cn q.1) q.2.1 objectInit)) = true := by decide +kernel
theorem hz_obj : (hy_wAt 83 (.instanceMethod objectInit) && hy_wAt 84 (.code objectInit ⟨#[0xb1]⟩ 1 none)) = true := by decide +kernel
theorem hz_arr : (hy_wAt 118 (.arrayClass .int) && hy_wAt 1096 (.arrayClass .char) && hy_wAt 1097 (.arrayClass .boolean)) = true := by decide +kernel
def hz_RC : List String := ["HayBoard$Law", "HayBoard$Sheet", "HayBoard$Slot", "HayBoard$Bale"]
theorem hz_over : (hy_wM 86 (.arrayOver (.object "HayBoard$Law")) && hy_wM 153 (.arrayOver (.object "HayBoard$Sheet")) && hy_wM 155 (.arrayOver (.object "HayBoard$Slot")) && hy_wM 244 (.arrayOver (.object "HayBoard$Bale"))) = true := by decide +kernel
def hz_B1_0 : List Instr := [.aload 0, .invokespecial 0, .aload 0, .bipush (-1000000005), .putfield 256, .return_]
def hz_K1 : List (Nat × List Instr) := [(0, hz_B1_0)]
def hz_B2_0 : List Instr := [.aload 0, .invokespecial 0, .aload 0, .bipush 96, .newarray .int, .putfield 192, .aload 0, .bipush 96, .newarray .int, .putfield 193, .return_]
def hz_K2 : List (Nat × List Instr) := [(0, hz_B2_0)]
def hz_B3_0 : List Instr := [.aload 0, .invokespecial 0, .aload 0, .bipush 36, .putfield 514, .aload 0, .bipush 1, .putfield 515, .return_]
def hz_K3 : List (Nat × List Instr) := [(0, hz_B3_0)]
def hz_B4_0 : List Instr := [.aload 0, .invokespecial 0, .aload 0, .bipush 24, .newarray .int, .putfield 320, .aload 0, .bipush (-1), .putfield 321, .return_]
def hz_K4 : List (Nat × List Instr) := [(0, hz_B4_0)]
def hz_B5_0 : List Instr := [.aload 0, .invokespecial 0, .aload 0, .bipush 96, .newarray .int, .putfield 128, .aload 0, .new 3, .dup, .invokespecial 2, .putfield 129, .return_]
def hz_K5 : List (Nat × List Instr) := [(0, hz_B5_0)]
def hz_B6_0 : List Instr := [.aload 0, .invokespecial 0, .aload 0, .new 8, .dup, .invokespecial 3, .putfield 384, .aload 0, .new 5, .dup, .invokespecial 4, .putfield 385, .aload 0, .bipush 0, .putfield 386, .return_]
def hz_K6 : List (Nat × List Instr) := [(0, hz_B6_0)]
def hz_B7_0 : List Instr := [.aload 0, .invokespecial 0, .aload 0, .bipush 12, .anewarray 13, .putfield 449, .aload 0, .bipush 36, .newarray .int, .putfield 450, .aload 0, .bipush 3, .newarray .int, .putfield 451, .aload 0, .bipush 432, .newarray .int, .putfield 452, .aload 0, .bipush 12, .newarray .int, .putfield 453, .aload 0, .new 4, .dup, .invokespecial 1, .putfield 454, .aload 0, .bipush 1, .putfield 460, .aload 0, .aload 1, .putfield 448, .bipush 0, .istore 2, .goto_w 1]
def hz_B7_1 : List Instr := [.iload 2, .bipush 12, .if_icmp .ge 2, .aload 0, .getfield 449, .iload 2, .new 8, .dup, .invokespecial 3, .aastore, .iinc 2 1, .goto 1]
def hz_B7_2 : List Instr := [.bipush 0, .istore 2, .goto_w 3]
def hz_B7_3 : List Instr := [.iload 2, .bipush 36, .if_icmp .ge 4, .aload 0, .getfield 450, .iload 2, .bipush (-1000000005), .iastore, .iinc 2 1, .goto 3]
def hz_B7_4 : List Instr := [.bipush 0, .istore 2, .goto_w 5]
def hz_B7_5 : List Instr := [.iload 2, .bipush 3, .if_icmp .ge 6, .aload 0, .getfield 451, .iload 2, .bipush (-1000000005), .iastore, .iinc 2 1, .goto 5]
def hz_B7_6 : List Instr := [.return_]
def hz_K7 : List (Nat × List Instr) := [(0, hz_B7_0), (68, hz_B7_1), (93, hz_B7_2), (95, hz_B7_3), (115, hz_B7_4), (117, hz_B7_5), (136, hz_B7_6)]
def hz_B8_0 : List Instr := [.aload 0, .invokespecial 0, .aload 0, .bipush 14, .anewarray 10, .putfield 64, .aload 0, .new 2, .dup, .invokespecial 5, .putfield 65, .aload 0, .new 4, .dup, .invokespecial 1, .putfield 70, .aload 0, .bipush 4, .anewarray 11, .putfield 71, .aload 0, .bipush 5, .anewarray 12, .putfield 72, .aload 0, .bipush 60, .newarray .int, .putfield 73, .bipush 0, .istore 1, .goto_w 1]
def hz_B8_1 : List Instr := [.iload 1, .bipush 14, .if_icmp .ge 2, .aload 0, .getfield 64, .iload 1, .new 3, .dup, .invokespecial 2, .aastore, .iinc 1 1, .goto 1]
def hz_B8_2 : List Instr := [.bipush 0, .istore 1, .goto_w 3]
def hz_B8_3 : List Instr := [.iload 1, .bipush 4, .if_icmp .ge 4, .aload 0, .getfield 71, .iload 1, .new 5, .dup, .invokespecial 4, .aastore, .iinc 1 1, .goto 3]
def hz_B8_4 : List Instr := [.bipush 0, .istore 1, .goto_w 5]
def hz_B8_5 : List Instr := [.iload 1, .bipush 5, .if_icmp .ge 6, .aload 0, .getfield 72, .iload 1, .new 6, .dup, .invokespecial 6, .aastore, .iinc 1 1, .goto 5]
def hz_B8_6 : List Instr := [.aload 0, .new 7, .dup, .aload 0, .getfield 64, .invokespecial 7, .putfield 66, .aload 0, .new 7, .dup, .aload 0, .getfield 64, .invokespecial 7, .putfield 67, .aload 0, .new 7, .dup, .aload 0, .getfield 64, .invokespecial 7, .putfield 68, .return_]
def hz_K8 : List (Nat × List Instr) := [(0, hz_B8_0), (61, hz_B8_1), (86, hz_B8_2), (88, hz_B8_3), (112, hz_B8_4), (114, hz_B8_5), (138, hz_B8_6)]
def hz_B9_0 : List Instr := [.aload 0, .invokespecial 0, .aload 0, .bipush 1451, .newarray .int, .putfield 576, .aload 0, .bipush 1451, .newarray .int, .putfield 577, .aload 0, .bipush 1451, .newarray .int, .putfield 578, .aload 0, .bipush 72, .newarray .int, .putfield 580, .aload 0, .bipush 72, .newarray .int, .putfield 581, .aload 0, .bipush 79, .newarray .int, .putfield 583, .aload 0, .bipush 96, .newarray .int, .putfield 584, .aload 0, .bipush 10, .newarray .char, .dup, .bipush 0, .bipush 104, .castore, .dup, .bipush 1, .bipush 97, .castore, .dup, .bipush 2, .bipush 121, .castore, .dup, .bipush 3, .bipush 102, .castore, .dup, .bipush 4, .bipush 101, .castore, .dup, .bipush 5, .bipush 101, .castore, .dup, .bipush 6, .bipush 102, .castore, .dup, .bipush 7, .bipush 105, .castore, .dup, .bipush 8, .bipush 110, .castore, .dup, .bipush 9, .bipush 101, .castore, .putfield 592, .aload 0, .bipush 4, .newarray .int, .dup, .bipush 0, .bipush 0, .iastore, .dup, .bipush 1, .bipush 3, .iastore, .dup, .bipush 2, .bipush 6, .iastore, .dup, .bipush 3, .bipush 10, .iastore, .putfield 593, .aload 0, .bipush 96, .newarray .int, .putfield 594, .aload 0, .bipush 96, .newarray .int, .putfield 597, .aload 0, .bipush 10, .newarray .boolean, .putfield 599, .aload 0, .bipush 96, .newarray .int, .putfield 600, .aload 0, .bipush 4, .newarray .int, .putfield 601, .aload 0, .bipush 4, .newarray .int, .dup, .bipush 0, .bipush (-1), .iastore, .dup, .bipush 1, .bipush (-1), .iastore, .dup, .bipush 2, .bipush (-1), .iastore, .dup, .bipush 3, .bipush (-1), .iastore, .putfield 602, .aload 0, .bipush 4, .newarray .int, .putfield 603, .aload 0, .bipush 96, .newarray .int, .putfield 604, .aload 0, .bipush 5, .newarray .int, .putfield 605, .aload 0, .bipush 5, .newarray .int, .putfield 606, .aload 0, .bipush 5, .newarray .int, .putfield 607, .aload 0, .bipush 120, .newarray .int, .putfield 608, .aload 0, .bipush 24, .newarray .int, .putfield 609, .aload 0, .bipush 60, .newarray .int, .putfield 610, .aload 0, .getfield 576, .bipush 0, .bipush 1, .iastore, .return_]
def hz_K9 : List (Nat × List Instr) := [(0, hz_B9_0)]
def hz_K : List (List (Nat × List Instr)) := [[], hz_K1, hz_K2, hz_K3, hz_K4, hz_K5, hz_K6, hz_K7, hz_K8, hz_K9]
def hz_CT : List (Nat × Nat × Int × Nat) := [(4, 9, (-1000000005), 140), (7, 46, (-1000000005), 248), (1, 76, (-1000000001), 357), (1, 80, (-1000000005), 358), (1, 81, (-1000000002), 359), (1, 86, (-1000000003), 360), (1, 135, (-1000000012), 443), (7, 124, 1103515245, 479), (1, 255, (-1000000011), 647), (5, 36, (-1000000005), 661), (2, 44, (-1000000005), 705), (1, 296, (-1000000014), 901), (1, 298, (-1000000013), 907), (1, 305, (-99999), 908), (1, 306, 99999, 909), (9, 98, (-1000000001), 1108), (9, 103, (-1000000002), 1117), (9, 104, (-1000000003), 1118), (9, 81, (-1000000005), 1168), (9, 147, (-1000000012), 1191), (9, 151, 1103515245, 1216), (9, 215, (-1000000011), 1332), (9, 286, (-1000000014), 1412), (9, 287, (-1000000013), 1417), (9, 288, (-99999), 1418), (9, 289, 99999, 1419)]
