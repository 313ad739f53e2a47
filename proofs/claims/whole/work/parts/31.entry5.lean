/-! THE LAW'S ENTRY: the walk to the loop -/
section HW
variable {p : Program} {l : Launch} {e : Env} {R : Room} {s : State} {m : MethodId} {args : Array Value} {below : List Frame} {meth : Method} {c : Code} {Q : State → Prop} {G : hy_G} {pc : Nat} {cc : ByteArray} {locs : List Loc} {cells slots : Nat} {ls : Array Slot} {rest : List Value}
theorem hw_new {t : Nat} {q : Nat × Nat × Nat × Nat} {h : Hp} {H : Heap} (hx : p.tables.exec = Jvm.exec) (hb : c.code = cc) (hown : s.vm.findClass (hy_cn q.1) = some m.cls) (hts : ∀ w ∈ hy_TB, w.before args s = true) (hU : hz_KU G s) (g1 : 1 ≤ t) (g9 : t ≤ 9) (hq : q ∈ hz_CL) (hq2 : q.2.2.1 = t) (hd : decode cc pc = .ok (.new q.2.1, 3)) (hc1 : cells + 1 ≤ R.cells) (hc2 : slots + hy_N t ≤ R.slots) (hbs : hy_base G ≤ s.heap.size)
    (hH : hz_HR G h H) (hS : va_S (hy_A G) s.heap H locs) (K : ∀ H1, hz_HR G (h ++ [(t, hz_def t)]) H1 → va_S (hy_A G) s.heap H1 locs → W p l e R s m args below meth c H1 locs (cells + 1) (slots + hy_N t) Q (F0 m (pc + 3) ls (.ref (hy_base G + h.length) :: rest))) : W p l e R s m args below meth c H locs cells slots Q (F0 m pc ls rest) := by
  have hw := hts _ (hy_wAt_mem (List.all_eq_true.mp hz_cl_ok q hq))
  rw [hq2] at hw
  obtain ⟨k1, k2, k3⟩ := hz_KI_ok t (by omega) g1
  obtain ⟨f1, f2, f3, f4, -⟩ := hz_facts k2 k1
  rw [k3] at f3 f4
  rw [← f4] at f1 f3
  have hKn := hU.1.1 (t - 1) _ (hy_clk g1 g9)
  refine W.newcK hx hb hown hw (hts _ f3) (hts _ f1) rfl hd hc1 hc2 hKn.2.1 hH.2.2 fun H1 kC hkC e1 z1 o1 => ?_
  have hcell : hz_cell G (t, hz_def t) = .inr (t - 1, hz_def t) := by
    unfold hz_cell; rw [if_pos g9, hz_def_cv]
  obtain ⟨hHR, hS1⟩ := hz_push (c0 := (t, hz_def t)) (cellV := (0, .inr (t - 1, hz_def t))) hH hS hbs hcell ⟨_, hy_clk g1 g9, (u_born (hy_ty t) hts (hy_in g9) hKn hkC e1 (hy_tyk g9)).to (fun j hj => by
    rw [hz_born t (by omega) g1 j hj]; rfl)⟩ (by rw [z1, hH.2.2]) (fun q hq => o1 q (by rw [← hH.2.2]; exact hq))
  exact K H1 hHR hS1
theorem hw_call {z d mL : Nat} {q : Nat × Nat × Nat × Nat} {h h1 : Hp} {H : Heap} {a : Nat} (hx : p.tables.exec = Jvm.exec) (hb : c.code = cc) (hml : c.maxLocals = mL) (hown : s.vm.findClass (hy_cn q.1) = some m.cls) (hts : ∀ w ∈ hy_TB, w.before args s = true) (hU : hz_KU G s) (hlen : ls.size = mL) (hz : z + 1 < 10) (hna : hz_na (z + 1) = 1)
    (hq : q ∈ hz_ML) (hq2 : q.2.2.1 = 2 * (z + 1)) (hd : decode cc pc = .ok (.invokespecial q.2.1, 3)) (hf : d + 1 ≤ R.frames) (hlo : 19 + hz_mx (z + 1) + 64 * d ≤ R.locals) (hc1 : cells + (h1.length - h.length) ≤ R.cells) (hc2 : slots + (hz_sz h1 - hz_sz h) ≤ R.slots)
    (hM : hz_Mt l G d (z + 1) [.ref a] h h1) (hH : hz_HR G h H) (hS : va_S (hy_A G) s.heap H locs) (hcat : (rest.map fun v => v.category).sum ≤ 8)
    (K : ∀ H1 locs1, hz_HR G h1 H1 → va_S (hy_A G) s.heap H1 locs1 → W p l e R s m args below meth c H1 locs1 (cells + (h1.length - h.length)) (slots + (hz_sz h1 - hz_sz h)) Q (F0 m (pc + 3) ls rest)) : W p l e R s m args below meth c H locs cells slots Q (F0 m pc ls (.ref (hy_base G + a) :: rest)) := by
  obtain ⟨f1, f2, f3, f4, f5, f6, f7, f8⟩ := hz_facts (Nat.succ_pos z) hz
  have hwords : ∀ w ∈ hz_ws (z + 1), ∀ (a' : Array Value) (U : State), s.WarmedH U.vm → w.before a' U = true := by
    intro w hw a' U hW
    have hin : w ∈ hy_TB := (List.mem_cons.mp hw).elim (fun e => e ▸ hz_code_in (Nat.succ_pos z) hz) id
    exact word_at hW (good_of_word (hy_goodTB hin)) (hts w hin)
  have hparse : ∀ sig, parseMethodDescriptor (hz_m (z + 1)).1.desc = some sig → hz_na (z + 1) - 1 = sig.parameters.length := by
    intro sig hsig
    rw [hsig] at f8
    exact (Option.some.inj f8).symm
  rw [hna] at hparse
  have hpre : PreS s H (hz_Pc G [.ref a] h) (.ref (hy_base G + a) :: []) := ⟨hz_blind G _ _, fun U hUH hW => ⟨rfl, by rw [hUH]; exact hH, hz_KU_moved hU hW⟩⟩
  have h2 := List.all_eq_true.mp hz_ml_ok q hq
  rw [Bool.and_eq_true, Bool.or_eq_true, show Nat.beq (q.2.2.1 % 2) 1 = false from by rw [hq2, Nat.mul_mod_right]; rfl] at h2
  have h3 := h2.2.resolve_left (fun z => by cases z)
  rw [show q.2.2.1 / 2 = z + 1 from by rw [hq2]; omega] at h3
  have hB : (hz_rm d (h1.length - h.length) (hz_sz h1 - hz_sz h)).frames + 1 ≤ R.frames := hf
  have hL : 8 + (hz_mx (z + 1) + 11) + (hz_rm d (h1.length - h.length) (hz_sz h1 - hz_sz h)).locals ≤ R.locals := by show 8 + (hz_mx (z + 1) + 11) + 64 * d ≤ R.locals; omega
  have hrun : va_Run p l e R s m args below meth c H locs cells slots (h1.length - h.length) (hz_sz h1 - hz_sz h) (F0 m pc ls (.ref (hy_base G + a) :: rest)) rest (va_Qv (S := Unit) (fun _ => True) (fun _ t => hz_HR G h1 t.heap) (hy_A G) (Value.ref (hy_base G + a) :: []).toArray) (hy_A G) :=
    va_runI (own := hy_cn q.1) (bytes := hz_b (z + 1)) (maxL := hz_mx (z + 1)) ⟨hx, hb, hml, hown, hts⟩ hM ⟨⟨rfl, rfl, hB, hL, hwords, List.mem_cons_self, hts _ (hz_code_in (Nat.succ_pos z) hz), hts _ f1, f7, hparse, hts _ (hy_wAt_mem h3)⟩, f5, hts _ f2⟩ hpre rfl rfl hlen rfl (lv_room hcat) hd ⟨hc1, hc2⟩
  refine va_callv (S := Unit) (post := fun _ => True) (B := fun _ t => hz_HR G h1 t.heap) (A1 := hy_A G) (a := (Value.ref (hy_base G + a) :: []).toArray) hrun hS (fun _ _ h => h) (fun _ h => h) (fun u t H1 locs1 ht hvm hp hB hz1 hk1 hS1 => ?_)
  rw [ht] at hB
  exact K H1 locs1 hB hS1
end HW
