/-! THE LAW'S ENTRY: the whole -/
theorem hw_h0 {G : hy_G} {H : Heap} (h : hy_base G = H.size) : hz_HR G [] H := ⟨fun k q hq => by simp [hz_wl] at hq, ⟨fun i j p q hp => by simp [hz_wl] at hp, fun k q hq => by simp [hz_wl] at hq⟩, by rw [h]; rfl⟩
theorem hw_l8 : 19 + hz_mx (7 + 1) + 64 * 9 ≤ room_1.locals := by decide +kernel
theorem hw_l9 : 19 + hz_mx (8 + 1) + 64 * 9 ≤ room_1.locals := by decide +kernel
theorem hw_enter {p : Program} {e : Env} {s : State} {m : MethodId} {below : List Frame} {meth : Method} {c : Code} (l : Launch) {b L : Nat} {xs : Nat → Int32} {Q : State → Prop} (hL : L ≤ 3072) (hx : p.tables.exec = Jvm.exec) (hb : c.code = code) (hml : c.maxLocals = 4) (hown : s.vm.findClass "HayBoardLaw" = some m.cls) (hts : ∀ w ∈ lw_tbl, w.before #[Value.ref b] s = true) (hX : va_X b L xs s s.heap) (hbl : b < s.heap.size)
    (hgv : (Jvm.Cond.and given_1 narrow_1).before #[Value.ref b] s = true) (hsnd : ∀ (G : hy_G) (n : Nat), hy_Snd l G n) {n d : Nat} {σ' : Sg} (hd : d ≤ 1000) (hrun : hy_run n d 0 1 hw_lv0 [] (hw_σ L xs) = some ((.int 1, 0), σ'))
    (hend : ∀ (pc : Nat) (H : Heap) (ls : Array Slot), decode code pc = .ok (.ireturn, 1) → W p l e room_1 s m #[Value.ref b] below meth c H [] 600000 7302250 Q (F0 m pc ls [.int 1])) : W p l e room_1 s m #[Value.ref b] below meth c s.heap [] 0 0 Q (entryFrame m ([Value.ref b] : List Value).toArray 4) := by
  obtain ⟨G, g1, g2, g3, g4, hU, hZ⟩ := hw_boot hts hX hbl hL hgv
  have hTB : ∀ w ∈ hy_TB, w.before #[Value.ref b] s = true := fun w hw => hts w (hw_inTB hw)
  have hown0 : s.vm.findClass (hy_cn 0) = some m.cls := by rw [hw_mx0.2.2.2]; exact hown
  have hbs : hy_base G ≤ s.heap.size := Nat.le_of_eq g1
  have r1 : room_1.frames = 2048 := rfl
  have r2 : room_1.cells = 600000 := rfl
  have r3 : room_1.slots = 7302250 := rfl
  have r4 : room_1.locals = 84000 := rfl
  have e1 := hz_len1
  have e2 := hw_len2
  obtain ⟨z1, z2⟩ := hw_szs
  obtain ⟨n1, n2, -, -, -, -, n5, n6⟩ := hw_n
  obtain ⟨M1, M2⟩ := hw_mz l G
  rw [lg_entry_eq]
  have hl := lv_entry [Value.ref b] (n := 4) (by show 1 ≤ 4; omega)
  generalize (lg_sl [Value.ref b] ++ List.replicate (4 - (lg_sl [Value.ref b]).length) Slot.unset).toArray = ls at hl ⊢
  refine hw_new (t := 1) hx hb hown0 hTB hZ (by omega) (by omega) hw_q.1 rfl hw_d0.1 (by rw [r2]; omega) (by rw [r3]; omega) hbs (hw_h0 g1) va_S.rf fun H1 hH1 hS1 => ?_
  refine lv_dup hx hb hw_d0.2.1 rfl ?_
  refine hw_call (z := 7) (d := 9) (a := 0) hx hb hml hown0 hTB hZ hl.1 (by omega) n1 hw_q.2.2.1 rfl hw_d0.2.2.1 (by rw [r1]; omega) hw_l8 (by rw [r2]; omega) (by rw [r3]; omega) M1 hH1 hS1 (by show 1 + 0 ≤ 8; omega) fun H2 locs2 hH2 hS2 => ?_
  refine lv_astore_n (k := 1) (i := 1) hx hb hw_d0.2.2.2 rfl hl (by omega) rfl fun ls1 hl1 => ?_
  refine hw_new (t := 9) hx hb hown0 hTB hZ (by omega) (by omega) hw_q.2.1 rfl hw_d1.1 (by rw [r2]; omega) (by rw [r3]; omega) hbs hH2 hS2 fun H3 hH3 hS3 => ?_
  refine lv_dup hx hb hw_d1.2.1 rfl ?_
  rw [e1]
  refine hw_call (z := 8) (d := 9) (a := 138) hx hb hml hown0 hTB hZ hl1.1 (by omega) n2 hw_q.2.2.2 rfl hw_d1.2.2.1 (by rw [r1]; omega) hw_l9 (by rw [r2]; omega) (by rw [r3]; omega) M2 hH3 hS3 (by show 1 + 0 ≤ 8; omega) fun H4 locs4 hH4 hS4 => ?_
  refine lv_astore_n (k := 2) (i := 2) hx hb hw_d1.2.2.2 rfl hl1 (by omega) rfl fun ls2 hl2 => ?_
  refine lv_iconst hx hb hw_d2.1 (v := 0) rfl ?_
  refine lv_istore_n (k := 3) (i := 3) hx hb hw_d2.2 rfl hl2 (by omega) rfl fun ls3 hl3 => ?_
  refine W.widen (k := 600000) (n := 7302250) (by omega) (by omega) ?_
  have hH5 := hw_HR hU.2.1 (by rw [g3]; exact hL) hH4
  rw [g3, g4] at hH5
  have hRt : hy_Rt p l e room_1 s m #[Value.ref b] below meth c 600000 7302250 Q 0 G (.int 1, 0) σ' := by
    intro H locs ls pc hH hS
    refine ⟨fun x hx1 hdg _ _ => ?_, fun x hx1 => (by cases hx1), fun hx1 => (by cases hx1)⟩
    cases hx1
    refine va_forget (fun q hq => ?_) (hend pc H ls hdg)
    have := hS.2.2 q hq
    unfold hy_A at this
    rw [← g1]
    exact this
  have hK := hsnd G n d 0 1 (.int 1, 0) σ' (by omega) p e room_1 s m #[Value.ref b] below meth c 600000 7302250 Q ⟨hx, hb, by rw [hw_mx0.2.2.1]; exact hown0, hTB⟩ hU (by rw [hml, hw_mx0.1]) (by rw [r1]; omega) (by rw [r4]; omega) (Nat.le_of_eq r2.symm) (Nat.le_of_eq r3.symm) hRt
  rw [hw_mx0.2.1] at hK
  have hv : ∀ v ∈ hw_lv0, hy_VT v := by
    intro v hv
    simp only [hw_lv0, List.mem_cons, List.mem_nil_iff, or_false] at hv
    rcases hv with rfl | rfl | rfl | rfl
    · exact hy_VTr (by decide +kernel)
    · exact hy_VTr (by decide +kernel)
    · exact hy_VTr (by decide +kernel)
    · exact hy_VTi _ _
  have hlv : hy_LV G ls3 (hy_mx 0) hw_lv0 := by
    rw [hw_mx0.1]
    refine ⟨rfl, hl3.1, hl3.2.1, fun i v hi _ => ?_⟩
    match i, hi with
    | 0, hi =>
      cases hi
      show ls3[0]? = some (.val (.ref (hy_adr G 2000)))
      rw [g2]
      exact hl3.2.2 (0, .ref b) (by simp [lv_args, Value.category])
    | 1, hi =>
      cases hi
      show ls3[1]? = some (.val (.ref (hy_adr G 0)))
      rw [hU.2.1 0 (by omega)]
      exact hl3.2.2 (1, .ref (hy_base G + 0)) (by simp [lv_args, Value.category])
    | 2, hi =>
      cases hi
      show ls3[2]? = some (.val (.ref (hy_adr G 138)))
      rw [hU.2.1 138 (by omega)]
      exact hl3.2.2 (2, .ref (hy_base G + 138)) (by simp [Value.category])
    | 3, hi =>
      cases hi
      exact hl3.2.2 (3, .int 0) (by simp [Value.category])
    | n + 4, hi => cases hi
  exact hK hw_lv0 [] (hw_σ L xs) H4 locs4 ls3 hrun hv (fun v h => by cases h) hH5 hS4 hlv
