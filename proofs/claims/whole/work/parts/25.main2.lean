/-! MACHINE 2 AGAINST THE JVM: making, calls, the induction -/
def hz_rm (d mc ms : Nat) : Room := { frames := d, cells := mc, slots := ms, locals := 64 * d }
def hz_ws (y : Nat) : List Jvm.Cond := .code (hz_m y).1 (hz_b y) (hz_mx y) none :: hy_TB
def hz_Pc (G : hy_G) (as : List Value) (h : Hp) : Array Value → State → Prop := va_Pc (as.map (hz_cv G)) (fun U => hz_HR G h U.heap ∧ hz_KU G U)
def hz_Mt (l : Launch) (G : hy_G) (d q : Nat) (as : List Value) (h h1 : Hp) : Prop := Met l (hz_m q).1 (hz_ws q) (hz_rm d (h1.length - h.length) (hz_sz h1 - hz_sz h)) (hz_Pc G as h) (va_Qv (S := Unit) (fun _ => True) (fun _ t => hz_HR G h1 t.heap) (hy_A G)) (h1.length - h.length) (hz_sz h1 - hz_sz h) (hy_A G)
theorem hz_blind (G : hy_G) (as : List Value) (h : Hp) : FrameBlind (hz_Pc G as h) := by
  intro a U g mk hh
  obtain ⟨h0, hH, h1, h2, h3⟩ := hh
  have al : U.vm.Alike (U.calling g mk a).vm := Vm.Alike.refl U.vm
  exact ⟨h0, hH, va_K.moved (u := U) (U := U.calling g mk a) al h1, fun q hq hn => va_Nw.same (u := U) rfl rfl (h2 q hq hn), fun C hC => va_AO.moved (u := U) al (h3 C hC)⟩
theorem hz_tick {f : Nat → Bool} {z : Nat} (h : (List.range 10).all (fun y => Nat.beq y 0 || f y) = true) (h0 : 0 < z) (hz : z < 10) : f z = true := by
  have h1 := hy_all1 h hz
  rw [Bool.or_eq_true] at h1
  rcases h1 with h1 | h1
  · have := hy_beq h1; omega
  · exact h1
theorem hz_code_in {z : Nat} (h0 : 0 < z) (h : z < 10) : Jvm.Cond.code (hz_m z).1 (hz_b z) (hz_mx z) none ∈ hy_TB := by
  have h1 := hz_tick hz_cdOK_all h0 h
  unfold hz_cdOK at h1
  split at h1
  · rename_i n b mx rt he
    obtain ⟨e1, e2, e3⟩ := of_decide_eq_true h1
    have hb : hz_b z = b := by unfold hz_b; simp only [he]
    rw [hb, ← e1, ← e3, show hz_mx z = mx from e2.symm]
    exact List.mem_filter.mpr ⟨List.mem_of_getElem? he, rfl⟩
  · cases h1
theorem hz_facts {z : Nat} (h0 : 0 < z) (h : z < 10) : Jvm.Cond.initialized (hz_m z).1.cls ∈ hy_TB ∧ Jvm.Cond.instanceMethod (hz_m z).1 ∈ hy_TB ∧ Jvm.Cond.instantiable (hz_m z).1.cls (hy_N (hz_own z)) ∈ hy_TB ∧ hy_cn (hz_own z) = (hz_m z).1.cls ∧ (hz_m z).1.name = "<init>" ∧ plainName (hz_m z).1.cls = true ∧ ((hz_m z).1.cls ≠ "java/lang/invoke/MethodHandle" ∧ (hz_m z).1.cls ≠ "java/lang/invoke/VarHandle") ∧ ((parseMethodDescriptor (hz_m z).1.desc).map (fun d => d.parameters.length) = some (hz_na z - 1)) := by
  have h1 := hz_tick hz_one_all h0 h
  unfold hz_one at h1
  simp only [Bool.and_eq_true] at h1
  obtain ⟨⟨⟨⟨⟨⟨⟨a1, a2⟩, a3⟩, a4⟩, a5⟩, a6⟩, a7⟩, a8⟩ := h1
  exact ⟨hy_wAt_mem a1, hy_wAt_mem a2, hy_wAt_mem a3, of_decide_eq_true a4, of_decide_eq_true a5, a6, of_decide_eq_true a7, of_decide_eq_true a8⟩
theorem hz_mx_ok : ∀ z, z < 10 → hz_mx z ≤ 45 := by decide +kernel
theorem hz_KI_ok : ∀ t, t < 10 → 0 < t → (hz_KI.getD t 0 < 10 ∧ 0 < hz_KI.getD t 0 ∧ hz_own (hz_KI.getD t 0) = t) := by decide +kernel
theorem hz_RC_mem : ∀ t, t < 14 → 10 ≤ t → hz_RC.getD (t - 10) "" ∈ hz_RC := by decide +kernel
theorem hz_cats (G : hy_G) {st : List Value} (h : Nat.ble st.length 4 = true) : ((st.map (hz_cv G)).map fun v => v.category).sum ≤ 8 := by
  have h4 := Nat.le_of_ble_eq_true h
  have h2 : ∀ (l : List Value), (l.map fun v => v.category).sum ≤ 2 * l.length := by
    intro l
    induction l with
    | nil => simp
    | cons v l ih =>
      have : v.category ≤ 2 := by cases v <;> simp [Value.category]
      simp only [List.map_cons, List.sum_cons, List.length_cons]
      omega
  have := h2 (st.map (hz_cv G))
  rw [List.length_map] at this
  omega
theorem hz_push {G : hy_G} {h : Hp} {c0 : Ce} {H H1 : Heap} {s : State} {locs : List Loc} {cellV : Nat × va_E} (hH : hz_HR G h H) (hS : va_S (hy_A G) s.heap H locs) (hbs : hy_base G ≤ s.heap.size) (hev : hz_cell G c0 = cellV.2) (hat : va_at (hy_D G) hy_cl (hy_base G + h.length, cellV.2) H1) (z1 : H1.size = H.size + 1) (o1 : ∀ q, q < H.size → H1[q]? = H[q]?) : hz_HR G (h ++ [c0]) H1 ∧ va_S (hy_A G) s.heap H1 locs := by
  obtain ⟨hP, hD, hz⟩ := hH
  have hk : ∀ (k : Nat) (x : Nat × va_E), (hz_wl G h)[k]? = some x → H1[x.1]? = H[x.1]? := fun k x hx => o1 x.1 ((hP k x hx).lt)
  have hA : hy_A G (hy_base G + h.length) := Nat.le_add_right _ _
  refine ⟨⟨?_, ?_, ?_⟩, Nat.le_trans hS.1 (by omega), fun x h1 h2 => (o1 x (Nat.lt_of_lt_of_le h1 hS.1)).trans (hS.2.1 x h1 h2), hS.2.2⟩
  · rw [hz_wl_app, hev]
    refine (hP.kept hk).app (fun k x hx => ?_)
    have hk1 : k < 1 := (List.getElem?_eq_some_iff.mp hx).1
    rw [show k = 0 by omega] at hx
    cases hx
    exact hat
  · rw [hz_wl_app]
    exact hD.push hP (by rw [hz]) hA
  · rw [z1, hz, List.length_append]; rfl
section HZS
variable {p : Program} {l : Launch} {e : Env} {R : Room} {s : State} {m : MethodId} {args : Array Value} {below : List Frame} {meth : Method} {c : Code} {Q : State → Prop} {y : Nat} {G : hy_G} {n0 s0 : Nat} {h' : Hp} {k : List Value → List Value → Hp → Rz} {pc : Nat}
variable {dz : Bool} {rc : Nat → List Value → List Value → Hp → Rz} {cl : Nat → List Value → Hp → Rz}
theorem hz_born : ∀ t, t < 10 → 0 < t → ∀ j, j < hy_N t → defaultValue (hy_ty t j) = (hz_def t).getD j .null := by decide +kernel
theorem hz_def_len (t : Nat) : (hz_def t).length = hy_N t := by simp [hz_def]
theorem hz_def_cv (G : hy_G) (t : Nat) : (hz_def t).map (hz_cv G) = hz_def t := by
  unfold hz_def
  rw [List.map_map]
  congr 1
  funext k
  show hz_cv G (match hy_fr (t * 64 + k) with | some _ => .null | none => .int 0) = _
  cases hy_fr (t * 64 + k) <;> rfl
theorem hz_after {h : Hp} {c0 : Ce} {lv : List Value} {rest : List Value} {H1 : Heap} {locs : List Loc} {ls : Array Slot} {nn : Nat} (hk : k lv rest (h ++ [c0]) = some h') (hn : n0 ≤ h.length) (hs : s0 ≤ hz_sz h) (hnn : c0.2.length = nn) (hHR : hz_HR G (h ++ [c0]) H1) (hS : va_S (hy_A G) s.heap H1 locs) (hlv : hz_LV G ls (hz_mx y) lv) (K : hz_Kt p l e R s m args below meth c Q y G n0 s0 h' k pc) : W p l e R s m args below meth c H1 locs (h.length - n0 + 1) (hz_sz h - s0 + nn) Q (F0 m pc ls (rest.map (hz_cv G))) := by
  have e1 : (h ++ [c0]).length - n0 = h.length - n0 + 1 := by rw [List.length_append]; simp; omega
  have e2 : hz_sz (h ++ [c0]) - s0 = hz_sz h - s0 + nn := by rw [hz_sz_app, hnn]; omega
  refine W.cs e1.symm e2.symm ?_
  exact K _ _ _ _ _ _ hk (by rw [List.length_append]; omega) (by rw [hz_sz_app]; omega) hHR hS hlv
theorem hz_fit1 {h : Hp} {c0 : Ce} {lv st : List Value} (hm : hz_Mo k) (hk : k lv st (h ++ [c0]) = some h') (hn : n0 ≤ h.length) (hs : s0 ≤ hz_sz h) (hRc : h'.length - n0 ≤ R.cells) (hRs : hz_sz h' - s0 ≤ R.slots) : h.length - n0 + 1 ≤ R.cells ∧ hz_sz h - s0 + c0.2.length ≤ R.slots := by
  have := hm _ _ _ _ hk
  rw [List.length_append, hz_sz_app] at this
  simp only [List.length_cons, List.length_nil] at this
  omega
theorem hz_s_new {t : Nat} {q : Nat × Nat × Nat × Nat} (C : hz_Cx p c s m args y) (hU : hz_KU G s) (hb0 : s.heap.size = hy_base G + n0) (hRc : h'.length - n0 ≤ R.cells) (hRs : hz_sz h' - s0 ≤ R.slots) (hm : hz_Mo k) (hq : q ∈ hz_CL) (hq1 : q.1 = hz_own y) (hq2 : q.2.2.1 = t) (hd : decode (hz_b y) pc = .ok (.new q.2.1, 3)) (K : hz_Kt p l e R s m args below meth c Q y G n0 s0 h' k (pc + 3)) : hz_Kt p l e R s m args below meth c Q y G n0 s0 h' (hz_sem dz rc cl (.new t) k) pc := by
  intro lv st h H locs ls hh hn hs hH hS hl
  dsimp only [hz_sem] at hh
  obtain ⟨hx, hb, hown, hts⟩ := C
  rw [cond_eq_ite] at hh
  split at hh
  · rename_i ht
    rw [Bool.and_eq_true] at ht
    have g1 := Nat.le_of_ble_eq_true ht.1
    have g9 := Nat.le_of_ble_eq_true ht.2
    have hw := hts _ (hy_wAt_mem (List.all_eq_true.mp hz_cl_ok q hq))
    rw [hq2] at hw
    obtain ⟨k1, k2, k3⟩ := hz_KI_ok t (by omega) g1
    obtain ⟨f1, f2, f3, f4, -⟩ := hz_facts k2 k1
    rw [k3] at f3 f4
    rw [← f4] at f1 f3
    have hKn := hU.1.1 (t - 1) _ (hy_clk g1 g9)
    obtain ⟨hc1, hc2⟩ := hz_fit1 hm hh hn hs hRc hRs
    rw [show (t, hz_def t).2.length = hy_N t from hz_def_len t] at hc2
    refine W.newcK hx hb (by rw [hq1]; exact hown) hw (hts _ f3) (hts _ f1) rfl hd hc1 hc2 hKn.2.1 hH.2.2 fun H1 kC hkC e1 z1 o1 => ?_
    have hcell : hz_cell G (t, hz_def t) = .inr (t - 1, hz_def t) := by
      unfold hz_cell; rw [if_pos g9, hz_def_cv]
    obtain ⟨hHR, hS1⟩ := hz_push (c0 := (t, hz_def t)) (cellV := (0, .inr (t - 1, hz_def t))) hH hS (by omega) hcell ⟨_, hy_clk g1 g9, (u_born (hy_ty t) hts (hy_in g9) hKn hkC e1 (hy_tyk g9)).to (fun j hj => by
      rw [hz_born t (by omega) g1 j hj]; rfl)⟩ (by rw [z1, hH.2.2]) (fun q hq => o1 q (by rw [← hH.2.2]; exact hq))
    exact hz_after hh hn hs (hz_def_len t) hHR hS1 hl K
  · cases hh
theorem hz_s_newa {a : ArrayType} (C : hz_Cx p c s m args y) (hU : hz_KU G s) (hb0 : s.heap.size = hy_base G + n0) (hRc : h'.length - n0 ≤ R.cells) (hRs : hz_sz h' - s0 ≤ R.slots) (hm : hz_Mo k) (hd : decode (hz_b y) pc = .ok (.newarray a, 2)) (K : hz_Kt p l e R s m args below meth c Q y G n0 s0 h' k (pc + 2)) : hz_Kt p l e R s m args below meth c Q y G n0 s0 h' (hz_sem dz rc cl (.newarray a) k) pc := by
  intro lv st h H locs ls hh hn hs hH hS hl
  dsimp only [hz_sem] at hh
  obtain ⟨hx, hb, hown, hts⟩ := C
  split at hh
  · rename_i n st'
    rw [cond_eq_ite] at hh
    split at hh
    · rename_i hc
      rw [Bool.and_eq_true] at hc
      have g2 := Nat.le_of_ble_eq_true hc.1
      have g5 := Nat.le_of_ble_eq_true hc.2
      split at hh
      · rename_i hn0
        obtain ⟨hc1, hc2⟩ := hz_fit1 hm hh hn hs hRc hRs
        rw [show ((14 + hz_so a, List.replicate (hy_ix n) (.int 0)) : Ce).2.length = hy_ix n from List.length_replicate] at hc2
        have hneg : ¬ n < 0 := by rw [Int32.lt_iff_toInt_lt, Int32.toInt_zero]; omega
        have harr := hz_arr
        simp only [Bool.and_eq_true] at harr
        obtain ⟨⟨w1, w2⟩, w3⟩ := harr
        have fin : ∀ (ty : FieldType) (so : Nat), newarray.typeOf a = ty → hz_so a = so → (Cond.arrayClass ty).before args s = true → defaultValue ty = .int 0 → componentBytes ty ≤ 8 → (hy_tys G)[so]? = some (hy_cy G so, ty) → (∀ cA : ClassId, s.vm.findClass ("[" ++ ty.toString) = some cA → cA = hy_cy G so) → W p l e R s m args below meth c H locs (h.length - n0) (hz_sz h - s0) Q (F0 m pc ls ((Value.int n :: st').map (hz_cv G))) := by
          intro ty so ety eso hac hdv hcb htys hcy
          refine va_newaK hx hb (by rw [ety]; exact hac) rfl hd rfl hneg rfl (by rw [ety]; exact Nat.le_trans (Nat.mul_le_mul g5 hcb) (by decide)) hc1 hc2 hH.2.2 fun H1 cA e1 z1 o1 hAr hNm => ?_
          rw [ety] at hNm e1
          have ecA := hcy cA hNm
          subst ecA
          have hcell : hz_cell G (14 + hz_so a, List.replicate (hy_ix n) (.int 0)) = .inl (hy_cy G so, hy_ix n, .inl fun _ => 0) := by
            unfold hz_cell
            rw [if_neg (show ¬ 14 + hz_so a ≤ 9 by omega), if_neg (show ¬ 14 + hz_so a ≤ 13 by omega), List.length_replicate, eso, show 14 + so - 14 = so by omega]
            have hf : (fun j => hz_io ((List.replicate (hy_ix n) (Value.int 0)).getD j (.int 0))) = fun _ => (0 : Int32) := by
              funext j
              rw [List.getD_eq_getElem?_getD, List.getElem?_replicate]
              split <;> rfl
            rw [hf]
          obtain ⟨hHR, hS1⟩ := hz_push (c0 := (14 + hz_so a, List.replicate (hy_ix n) (.int 0))) (cellV := (0, .inl (hy_cy G so, hy_ix n, .inl fun _ => 0))) hH hS (by omega) hcell (by
            show H1[hy_base G + h.length]? = some (vp_cell _ _)
            rw [e1, hdv]
            rfl) (by rw [z1, hH.2.2]) (fun q hq => o1 q (by rw [← hH.2.2]; exact hq))
          exact hz_after hh hn hs List.length_replicate hHR hS1 hl K
        have hty := fun (j : Nat) (q : ClassId × FieldType) (hj : (hy_tys G)[j]? = some q) => (hU.1.2 j q hj).2
        cases a with
        | int => exact fin .int 0 rfl rfl (hts _ (hy_wAt_mem w1)) rfl (by decide) rfl (fun cA h => Option.some.inj (h.symm.trans (hty 0 _ rfl)))
        | char => exact fin .char 1 rfl rfl (hts _ (hy_wAt_mem w2)) rfl (by decide) rfl (fun cA h => Option.some.inj (h.symm.trans (hty 1 _ rfl)))
        | boolean => exact fin .boolean 2 rfl rfl (hts _ (hy_wAt_mem w3)) rfl (by decide) rfl (fun cA h => Option.some.inj (h.symm.trans (hty 2 _ rfl)))
        | _ => exact absurd g2 (by decide)
      · cases hh
    · cases hh
  · cases hh
theorem hz_s_anew {t : Nat} {q : Nat × Nat × Nat × Nat} (C : hz_Cx p c s m args y) (hU : hz_KU G s) (hb0 : s.heap.size = hy_base G + n0) (hRc : h'.length - n0 ≤ R.cells) (hRs : hz_sz h' - s0 ≤ R.slots) (hm : hz_Mo k) (hq : q ∈ hz_CL) (hq1 : q.1 = hz_own y) (hq2 : hy_cn q.2.2.1 = hz_RC.getD (t - 10) "") (hd : decode (hz_b y) pc = .ok (.anewarray q.2.1, 3)) (K : hz_Kt p l e R s m args below meth c Q y G n0 s0 h' k (pc + 3)) : hz_Kt p l e R s m args below meth c Q y G n0 s0 h' (hz_sem dz rc cl (.anewarray t) k) pc := by
  intro lv st h H locs ls hh hn hs hH hS hl
  dsimp only [hz_sem] at hh
  obtain ⟨hx, hb, hown, hts⟩ := C
  split at hh
  · rename_i n st'
    rw [cond_eq_ite] at hh
    split at hh
    · rename_i hc
      rw [Bool.and_eq_true, Bool.and_eq_true] at hc
      have g1 := Nat.le_of_ble_eq_true hc.1
      have g3 := Nat.le_of_ble_eq_true hc.2.1
      have g5 := Nat.le_of_ble_eq_true hc.2.2
      split at hh
      · rename_i hn0
        obtain ⟨hc1, hc2⟩ := hz_fit1 hm hh hn hs hRc hRs
        rw [show ((t, List.replicate (hy_ix n) .null) : Ce).2.length = hy_ix n from List.length_replicate] at hc2
        have hneg : ¬ n < 0 := by rw [Int32.lt_iff_toInt_lt, Int32.toInt_zero]; omega
        have hw := hts _ (hy_wAt_mem (List.all_eq_true.mp hz_cl_ok q hq))
        rw [hq2] at hw
        have hAO := hU.2.2 _ (hz_RC_mem t (by omega) g1)
        refine W.anew hx hb (by rw [hq1]; exact hown) hw (va_AO.use hAO) rfl hd rfl hneg (Nat.le_trans (Nat.mul_le_mul_right 4 g5) (by decide)) hc1 hc2 fun cA kA comp f1 f2 f3 f4 => ?_
        have htys : (hy_tys G)[t - 7]? = some (hy_cy G t, FieldType.object (hz_RC.getD (t - 10) "")) := by
          have : t = 10 ∨ t = 11 ∨ t = 12 ∨ t = 13 := by omega
          rcases this with z | z | z | z <;> rw [z] <;> rfl
        obtain ⟨kA', comp', r1, r2, r3, r4⟩ := (hU.1.2 _ _ htys).2
        have ecA : cA = hy_cy G t := Option.some.inj (f1.symm.trans r4)
        subst ecA
        generalize hH1 : H.push ({ cls := hy_cy G t, slots := Array.replicate n.toNatClampNeg .null, vm := .none } : Cell) = H1
        have z1 : H1.size = H.size + 1 := by rw [← hH1, Array.size_push]
        have e1 : H1[H.size]? = some (arrV (hy_cy G t) n.toNatClampNeg (fun _ => .null)) := by rw [← hH1, Array.getElem?_push_size, ← arrV_new]
        have o1 : ∀ q : Nat, q < H.size → H1[q]? = H[q]? := fun q hq => by rw [← hH1, Array.getElem?_push, if_neg (Nat.ne_of_lt hq)]
        have hcell : hz_cell G (t, List.replicate (hy_ix n) .null) = .inl (hy_cy G t, hy_ix n, .inr (.inr (.inr (.inr fun _ => none)))) := by
          unfold hz_cell
          rw [if_neg (show ¬ t ≤ 9 by omega), if_pos (show t ≤ 13 by omega), List.length_replicate]
          congr 7
          funext j
          rw [List.getD_eq_getElem?_getD, List.getElem?_replicate]
          split <;> rfl
        obtain ⟨hHR, hS1⟩ := hz_push (c0 := (t, List.replicate (hy_ix n) .null)) (cellV := (0, .inl (hy_cy G t, hy_ix n, .inr (.inr (.inr (.inr fun _ => none)))))) hH hS (by omega) hcell (by
          show H1[hy_base G + h.length]? = some (vp_cell _ _)
          rw [← hH.2.2, e1, vp_cell_q]
          rfl) z1 o1
        have := hz_after (pc := pc + 3) hh hn hs List.length_replicate hHR hS1 hl K
        rw [List.map_cons, show hz_cv G (.ref h.length) = .ref H.size by rw [hH.2.2]; rfl] at this
        exact this
      · cases hh
    · cases hh
  · cases hh
/-- the object's own constructor: nothing -/
theorem hz_s_obj {q : Nat × Nat × Nat × Nat} (C : hz_Cx p c s m args y) (hml : c.maxLocals = hz_mx y) (hR : dz = true → 1 ≤ R.frames ∧ 64 ≤ R.locals) (hq : q ∈ hz_OL) (hq1 : q.1 = hz_own y) (hd : decode (hz_b y) pc = .ok (.invokespecial q.2.1, 3)) (K : hz_Kt p l e R s m args below meth c Q y G n0 s0 h' k (pc + 3)) : hz_Kt p l e R s m args below meth c Q y G n0 s0 h' (hz_sem dz rc cl (.invokespecial 0) k) pc := by
  intro lv st h H locs ls hh hn hs hH hS hl
  dsimp only [hz_sem] at hh
  obtain ⟨hx, hb, hown, hts⟩ := C
  rw [cond_eq_ite] at hh
  split at hh
  · rename_i hdz
    obtain ⟨r1, r2⟩ := hR hdz
    split at hh
    · rename_i a st'
      rw [cond_eq_ite] at hh
      split at hh
      · rename_i hb4
        have hcat := hz_cats G hb4
        have ho := hz_obj
        rw [Bool.and_eq_true] at ho
        refine W.objInit hx hb hown (by have := hts _ (hy_wAt_mem (List.all_eq_true.mp hz_ol_ok q hq)); rw [hq1] at this; exact this) (hts _ (hy_wAt_mem ho.1)) (hts _ (hy_wAt_mem ho.2)) rfl (by rw [hml]; exact hl.2.1) rfl hd r1 (by show 2 * 0 + ((st'.map (hz_cv G)).map fun v => v.category).sum + 12 ≤ R.locals; omega) ?_
        refine W.eq (g2 := F0 m (pc + 3) ls (st'.map (hz_cv G))) rfl ?_
        exact K _ _ _ _ _ _ hh hn hs hH hS hl
      · cases hh
    · cases hh
  · cases hh
theorem hz_s_call {z d : Nat} {q : Nat × Nat × Nat × Nat} (C : hz_Cx p c s m args y) (hU : hz_KU G s) (hml : c.maxLocals = hz_mx y) (hb0 : s.heap.size = hy_base G + n0) (hf : d ≤ R.frames) (hlo : 64 * d ≤ R.locals) (hRc : h'.length - n0 ≤ R.cells) (hRs : hz_sz h' - s0 ≤ R.slots) (hm : hz_Mo k) (hz : z + 1 < 10)
    (hq : q ∈ hz_ML) (hq1 : q.1 = hz_own y) (hq2 : q.2.2.1 / 2 = z + 1) (hd : decode (hz_b y) pc = .ok (.invokespecial q.2.1, 3)) (hmc : ∀ q as h h', cl q as h = some h' → h.length ≤ h'.length ∧ hz_sz h ≤ hz_sz h')
    (Kcl : ∀ (as : List Value) (h h1 : Hp), cl (z + 1) as h = some h1 → ∃ d', d' + 1 ≤ d ∧ hz_Mt l G d' (z + 1) as h h1)
    (K : hz_Kt p l e R s m args below meth c Q y G n0 s0 h' k (pc + 3)) : hz_Kt p l e R s m args below meth c Q y G n0 s0 h' (hz_sem dz rc cl (.invokespecial (z + 1)) k) pc := by
  intro lv st h H locs ls hh hn hs hH hS hl
  dsimp only [hz_sem] at hh
  rw [cond_eq_ite] at hh
  split at hh
  · rw [cond_eq_ite] at hh
    split at hh
    · rename_i hb1
      rw [Bool.and_eq_true] at hb1
      split at hh
      · rename_i a as hrev
        obtain ⟨h1, hcl, hk⟩ := Option.bind_eq_some_iff.mp hh
        obtain ⟨d', hdd, hM⟩ := Kcl _ _ _ hcl
        have hmo := hmc _ _ _ _ hcl
        have hmo2 := hm _ _ _ _ hk
        obtain ⟨hx, hb, hown, hts⟩ := C
        obtain ⟨f1, f2, f3, f4, f5, f6, f7, f8⟩ := hz_facts (Nat.succ_pos z) hz
        have hmx := hz_mx_ok _ hz
        have hstk : st.map (hz_cv G) = (as.map (hz_cv G)).reverse ++ Value.ref (hy_base G + a) :: (st.drop (hz_na (z + 1))).map (hz_cv G) := by
          have e1 : st.take (hz_na (z + 1)) = (Value.ref a :: as).reverse := by rw [← hrev, List.reverse_reverse]
          conv => lhs; rw [← List.take_append_drop (hz_na (z + 1)) st, e1]
          simp [hz_cv]
        have hlen : (as.map (hz_cv G)).length = hz_na (z + 1) - 1 := by
          have e1 : (st.take (hz_na (z + 1))).length = as.length + 1 := by
            rw [← List.length_reverse, hrev]; rfl
          rw [List.length_take, Nat.min_eq_left (Nat.le_of_ble_eq_true hb1.1)] at e1
          rw [List.length_map]
          omega
        have hcat := hz_cats G (st := st.drop (hz_na (z + 1))) (by rw [List.length_drop]; exact hb1.2)
        have hwords : ∀ w ∈ hz_ws (z + 1), ∀ (a' : Array Value) (U : State), s.WarmedH U.vm → w.before a' U = true := by
          intro w hw a' U hW
          have hin : w ∈ hy_TB := (List.mem_cons.mp hw).elim (fun e => e ▸ hz_code_in (Nat.succ_pos z) hz) id
          exact word_at hW (good_of_word (hy_goodTB hin)) (hts w hin)
        have hparse : ∀ sig, parseMethodDescriptor (hz_m (z + 1)).1.desc = some sig → hz_na (z + 1) - 1 = sig.parameters.length := by
          intro sig hsig
          rw [hsig] at f8
          exact (Option.some.inj f8).symm
        have hpre : PreS s H (hz_Pc G (.ref a :: as) h) (.ref (hy_base G + a) :: as.map (hz_cv G)) := ⟨hz_blind G _ _, fun U hUH hW => ⟨rfl, by rw [hUH]; exact hH, hz_KU_moved hU hW⟩⟩
        have hown' : s.vm.findClass (hy_cn q.1) = some m.cls := by rw [hq1]; exact hown
        have hrun : va_Run p l e R s m args below meth c H locs (h.length - n0) (hz_sz h - s0) (h1.length - h.length) (hz_sz h1 - hz_sz h) (F0 m pc ls (st.map (hz_cv G))) ((st.drop (hz_na (z + 1))).map (hz_cv G)) (va_Qv (S := Unit) (fun _ => True) (fun _ t => hz_HR G h1 t.heap) (hy_A G) (Value.ref (hy_base G + a) :: as.map (hz_cv G)).toArray) (hy_A G) := by
          have h2 := List.all_eq_true.mp hz_ml_ok q hq
          rw [Bool.and_eq_true, Bool.or_eq_true] at h2
          have hB : (hz_rm d' (h1.length - h.length) (hz_sz h1 - hz_sz h)).frames + 1 ≤ R.frames := by show d' + 1 ≤ R.frames; omega
          have hL : 8 + (hz_mx (z + 1) + 11) + (hz_rm d' (h1.length - h.length) (hz_sz h1 - hz_sz h)).locals ≤ R.locals := by show 8 + (hz_mx (z + 1) + 11) + 64 * d' ≤ R.locals; omega
          cases hn' : Nat.beq (q.2.2.1 % 2) 1 with
          | false =>
            rw [hn'] at h2
            have h3 := h2.2.resolve_left (fun z => by cases z)
            rw [hq2] at h3
            exact va_runI (own := hy_cn q.1) (bytes := hz_b (z + 1)) (maxL := hz_mx (z + 1)) ⟨hx, hb, hml, hown', hts⟩ hM ⟨⟨rfl, rfl, hB, hL, hwords, List.mem_cons_self, hts _ (hz_code_in (Nat.succ_pos z) hz), hts _ f1, f7, hparse, hts _ (hy_wAt_mem h3)⟩, f5, hts _ f2⟩ hpre rfl hlen hl.2.1 hstk (lv_room hcat) hd ⟨by omega, by omega⟩
          | true =>
            have hnw := hU.2.1 q hq (hy_beq hn')
            rw [hq2] at hnw
            exact va_runIN (own := hy_cn q.1) (host := "HayBoard") (bytes := hz_b (z + 1)) (maxL := hz_mx (z + 1)) ⟨hx, hb, hml, hown', hts⟩ hM ⟨⟨⟨rfl, rfl, hB, hL, hwords, List.mem_cons_self⟩, hts _ (hz_code_in (Nat.succ_pos z) hz), hts _ f1, f7, hparse, va_Nw.use rfl hnw⟩, f5, hts _ f2⟩ hpre rfl hlen hl.2.1 hstk (lv_room hcat) hd ⟨by omega, by omega⟩
        refine va_callv (S := Unit) (post := fun _ => True) (B := fun _ t => hz_HR G h1 t.heap) (A1 := hy_A G) (a := (Value.ref (hy_base G + a) :: as.map (hz_cv G)).toArray) hrun hS (fun _ _ h => h) (fun _ h => h) (fun u t H1 locs1 ht hvm hp hB hz1 hk1 hS1 => ?_)
        rw [ht] at hB
        refine W.cs (show h.length - n0 + (h1.length - h.length) = h1.length - n0 by omega) (show hz_sz h - s0 + (hz_sz h1 - hz_sz h) = hz_sz h1 - s0 by omega) ?_
        exact K _ _ _ _ _ _ hk (by omega) (by omega) hB hS1 hl
      · cases hh
    · cases hh
  · cases hh
end HZS
