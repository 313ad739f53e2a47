/-! THE SMALL MACHINE AGAINST THE JVM: calls, and the whole -/
def hy_rm (d : Nat) : Room := { frames := d, cells := 0, slots := 0, locals := 64 * d }
def hy_Qc (G : hy_G) (r : Vl) (σr : Sg) : Array Value → State → Outcome → State → Prop := match r.1 with
  | .int x => va_Qi (S := Unit) (fun v _ => v = x) (fun _ t => hy_HR G σr t.heap) (hy_A G)
  | .long x => va_Ql (S := Unit) (fun v _ => v = x) (fun _ t => hy_HR G σr t.heap) (hy_A G)
  | .null => va_Qv (S := Unit) (fun _ => True) (fun _ t => hy_HR G σr t.heap) (hy_A G)
  | _ => fun _ _ _ _ => False
def hy_Pc (G : hy_G) (as : List Vl) (σ : Sg) : Array Value → State → Prop := va_Pc (as.map (hy_cv G)) (fun U => hy_HR G σ U.heap ∧ hy_KU G U)
def hy_Mt (l : Launch) (G : hy_G) (d q : Nat) (as : List Vl) (σ : Sg) (r : Vl) (σr : Sg) : Prop := Met l (hy_m q).1 (hy_ws q) (hy_rm d) (hy_Pc G as σ) (hy_Qc G r σr) 0 0 (hy_A G)
theorem hy_blind (G : hy_G) (as : List Vl) (σ : Sg) : FrameBlind (hy_Pc G as σ) := by
  intro a U g mk h
  obtain ⟨h0, hH, h1, h2, h3, h4, h5, h6, h7, h8, h9, h10, h11⟩ := h
  refine ⟨h0, hH, ?_⟩
  have al : U.vm.Alike (U.calling g mk a).vm := Vm.Alike.refl U.vm
  exact ⟨va_K.moved (u := U) (U := U.calling g mk a) al h1, h2, h3, h4, h5, va_X.moved (u := U) (U := U.calling g mk a) al h6, vk_S.moved (u := U) (U := U.calling g mk a) al h7, fun q hq => vk_R.same (u := U) rfl (h8 q hq), fun q hq hn => va_Nw.same (u := U) rfl rfl (h9 q hq hn), va_Z.moved (u := U) (U := U.calling g mk a) al h10, va_Z.moved (u := U) (U := U.calling g mk a) al h11⟩
theorem hy_catw (G : hy_G) (l : List Vl) (h : Nat.ble (hy_wds l) 8 = true) : ((l.map (hy_cv G)).map fun v => v.category).sum ≤ 8 := by
  have e : ∀ l : List Vl, ((l.map (hy_cv G)).map fun v => v.category).sum = hy_wds l := by
    intro l
    induction l with
    | nil => rfl
    | cons v l ih =>
      simp only [List.map_cons, List.sum_cons, ih, hy_wds]
      rw [hy_cv_cat]
      obtain ⟨w, q⟩ := v
      cases w <;> rfl
  rw [e]
  exact Nat.le_of_ble_eq_true h
theorem hy_mx_ok : (List.range 230).all (fun y => Nat.ble (hy_mx y) 45) = true := by decide +kernel
theorem hy_ml_ok2 : hy_ML.all (fun q => Nat.beq (q.2.2.1 % 2) 1 || hy_wAt q.2.2.2 (.methodLink (hy_cn q.1) q.2.1 (hy_m (q.2.2.1 / 2)).1)) = true := by decide +kernel
theorem hy_code_in {z : Nat} (h0 : 0 < z) (h : z < 230) : Jvm.Cond.code (hy_m z).1 (hy_b z) (hy_mx z) (hy_m z).2.2.1 ∈ hy_TB := by
  have h1 := hy_all1 hy_cdOK_all h
  rw [Bool.or_eq_true] at h1
  rcases h1 with h1 | h1
  · have := hy_beq h1; omega
  · obtain ⟨k, rfl⟩ : ∃ k, z = k + 1 := ⟨z - 1, by omega⟩
    unfold hy_cdOK at h1
    split at h1
    · rename_i n b mx rt he
      obtain ⟨e1, e2, e3⟩ := of_decide_eq_true h1
      have hb : hy_b (k + 1) = b := by
        unfold hy_b
        simp only [he]
      rw [hb, ← e1, ← e3, show hy_mx (k + 1) = mx from e2.symm]
      exact List.mem_filter.mpr ⟨List.mem_of_getElem? he, rfl⟩
    · cases h1
theorem hy_tick {f : Nat → Bool} {z : Nat} (h : (List.range 230).all (fun y => Nat.beq y 0 || f y) = true) (h0 : 0 < z) (hz : z < 230) : f z = true := by
  have h1 := hy_all1 h hz
  rw [Bool.or_eq_true] at h1
  rcases h1 with h1 | h1
  · have := hy_beq h1; omega
  · exact h1
theorem hy_ws_good {z : Nat} (h0 : 0 < z) (hz : z < 230) {s : State} {args : Array Value} (hts : ∀ w ∈ hy_TB, w.before args s = true) : ∀ w ∈ hy_ws z, ∀ (a' : Array Value) (U : State), s.WarmedH U.vm → w.before a' U = true := by
  intro w hw a' U hW
  have hin : w ∈ hy_TB := (List.mem_cons.mp hw).elim (fun e => e ▸ hy_code_in h0 hz) id
  exact word_at hW (good_of_word (hy_goodTB hin)) (hts w hin)
section HYS
variable {p : Program} {l : Launch} {e : Env} {R : Room} {s : State} {m : MethodId} {args : Array Value} {below : List Frame} {meth : Method} {c : Code} {cells slots : Nat} {Q : State → Prop} {y : Nat} {G : hy_G} {r : Vl} {σr : Sg} {k : List Vl → List Vl → Sg → Rs} {pc : Nat}
variable {rt : Nat} {dz : Bool} {rc : Nat → List Vl → List Vl → Sg → Rs} {cl : Nat → List Vl → Sg → Rs}
/-- behind a call -/
theorem hy_after {lv st rest : List Vl} {H : Heap} {locs : List Loc} {ls : Array Slot} {r' : Vl} {σ' : Sg} {a : Array Value} (hs : s.heap.size ≤ H.size ∨ True)
    (hr : va_Run p l e R s m args below meth c H locs cells slots 0 0 (F0 m pc ls (st.map (hy_cv G))) (rest.map (hy_cv G)) (hy_Qc G r' σ' a) (hy_A G)) (h : k lv (hy_push r'.1 rest) σ' = some (r, σr)) (K : hy_Kt p l e R s m args below meth c cells slots Q y G r σr k (pc + 3))
    (v1 : ∀ v ∈ lv, hy_VT v) (v2 : ∀ v ∈ rest, hy_VT v) (hS : va_S (hy_A G) s.heap H locs) (hl : hy_LV G ls (hy_mx y) lv) : W p l e R s m args below meth c H locs cells slots Q (F0 m pc ls (st.map (hy_cv G))) := by
  obtain ⟨rv, rq⟩ := r'
  cases rv with
  | int x =>
    refine va_calli (S := Unit) (post := fun v _ => v = x) (B := fun _ t => hy_HR G σ' t.heap) (A1 := hy_A G) (a := a) hr hS (fun _ _ h => h) (fun _ h => h) (fun rr u t H1 locs1 ht hvm hp hB hz hk hS1 => ?_)
    subst hp
    rw [ht] at hB
    exact K _ _ _ _ _ _ h v1 (hy_vc (hy_VTi _ _) v2) hB hS1 hl
  | long x =>
    refine va_calll (S := Unit) (post := fun v _ => v = x) (B := fun _ t => hy_HR G σ' t.heap) (A1 := hy_A G) (a := a) hr hS (fun _ _ h => h) (fun _ h => h) (fun rr u t H1 locs1 ht hvm hp hB hz hk hS1 => ?_)
    subst hp
    rw [ht] at hB
    exact K _ _ _ _ _ _ h v1 (hy_vc (hy_VTl _ _) v2) hB hS1 hl
  | null =>
    refine va_callv (S := Unit) (post := fun _ => True) (B := fun _ t => hy_HR G σ' t.heap) (A1 := hy_A G) (a := a) hr hS (fun _ _ h => h) (fun _ h => h) (fun u t H1 locs1 ht hvm hp hB hz hk hS1 => ?_)
    rw [ht] at hB
    exact K _ _ _ _ _ _ h v1 v2 hB hS1 hl
  | _ =>
    intro T hT X
    obtain ⟨v, st₀, t, T', L, h0, X', hL, e1, e2, hq, st⟩ := hr T hT X
    exact hq.elim
theorem hy_callB {z d d' : Nat} {q : Nat × Nat × Nat × Nat} (C : hy_Cx p c s m args y) (h0 : 0 < z) (hz : z < 230) (hdd : d' + 1 ≤ d) (hf : d ≤ R.frames) (hlo : 64 * d ≤ R.locals) :
    ((hy_rm d').cells = 0 ∧ (hy_rm d').slots = 0 ∧ (hy_rm d').frames + 1 ≤ R.frames ∧ 8 + (hy_mx z + 11) + (hy_rm d').locals ≤ R.locals ∧ (∀ w ∈ hy_ws z, ∀ (a' : Array Value) (U : State), s.WarmedH U.vm → w.before a' U = true) ∧ Cond.code (hy_m z).1 (hy_b z) (hy_mx z) (hy_m z).2.2.1 ∈ hy_ws z) ∧
    (Cond.code (hy_m z).1 (hy_b z) (hy_mx z) (hy_m z).2.2.1).before args s = true ∧ (Cond.initialized (hy_m z).1.cls).before args s = true ∧ ((hy_m z).1.cls ≠ "java/lang/invoke/MethodHandle" ∧ (hy_m z).1.cls ≠ "java/lang/invoke/VarHandle") ∧ (∀ sig, parseMethodDescriptor (hy_m z).1.desc = some sig → (hy_na z - (bif hy_isSt.getD z false then 0 else 1)) = sig.parameters.length) := by
  obtain ⟨hx, hb, hown, hts⟩ := C
  have hmx := Nat.le_of_ble_eq_true (hy_all1 hy_mx_ok hz)
  refine ⟨⟨rfl, rfl, ?_, ?_, hy_ws_good h0 hz hts, List.mem_cons_self⟩, hts _ (hy_code_in h0 hz), hts _ (hy_wAt_mem (hy_tick hy_mp1_all h0 hz)), ?_, ?_⟩
  · show d' + 1 ≤ R.frames; omega
  · show 8 + (hy_mx z + 11) + 64 * d' ≤ R.locals; omega
  · have h4 := hy_tick hy_mp4_all h0 hz
    unfold hy_mp4 at h4
    rw [Bool.and_eq_true] at h4
    exact of_decide_eq_true h4.2
  · intro sig hsig
    have h5 := of_decide_eq_true (hy_tick hy_mp5_all h0 hz)
    rw [hsig] at h5
    exact (Option.some.inj h5).symm
theorem hy_s_virt {z d : Nat} {q : Nat × Nat × Nat × Nat} (C : hy_Cx p c s m args y) (hU : hy_KU G s) (hml : c.maxLocals = hy_mx y) (hf : d ≤ R.frames) (hlo : 64 * d ≤ R.locals) (hcc : cells ≤ R.cells) (hss : slots ≤ R.slots) (h0 : 0 < z) (hz : z < 230) (hst : hy_isSt.getD z false = false)
    (hq : q ∈ hy_ML) (hq1 : q.1 = hy_own y) (hq2 : q.2.2.1 = 2 * z) (hd : decode (hy_b y) pc = .ok (.invokevirtual q.2.1, 3))
    (Kcl : ∀ (as : List Vl) (σ : Sg) (r' : Vl) (σ' : Sg), (∀ v ∈ as, hy_VT v) → cl z as σ = some (r', σ') → ∃ d', d' + 1 ≤ d ∧ hy_Mt l G d' z as σ r' σ')
    (K : hy_Kt p l e R s m args below meth c cells slots Q y G r σr k (pc + 3)) : hy_Kt p l e R s m args below meth c cells slots Q y G r σr (hy_sem rt dz rc cl (.invokevirtual z) k) pc := by
  intro lv st σ H locs ls h v1 v2 hH hS hl
  dsimp only [hy_sem] at h
  cases hb1 : (Nat.ble (hy_na z) st.length && Nat.ble (hy_wds (st.drop (hy_na z))) 8) with
  | false => rw [hb1] at h; cases h
  | true =>
    rw [hb1] at h
    rw [Bool.and_eq_true] at hb1
    dsimp only [cond_true] at h
    have hsplit : st = st.take (hy_na z) ++ st.drop (hy_na z) := (List.take_append_drop _ _).symm
    split at h
    · rename_i a kd as hrev
      cases hb2 : ((Nat.beq kd (hy_own z) && (Nat.ble 1 kd && Nat.ble kd 9)) || (Nat.beq kd 31 && Nat.beq (hy_own z) 10)) with
      | false => rw [hb2] at h; cases h
      | true =>
        rw [hb2] at h
        dsimp only [cond_true] at h
        obtain ⟨⟨r', σ'⟩, hcl, h⟩ := Option.bind_eq_some_iff.mp h
        dsimp only at h
        have hvas : ∀ v ∈ (Value.ref a, kd) :: as, hy_VT v := fun v hv => v2 v (List.mem_of_mem_take (List.mem_reverse.mp (hrev ▸ hv)))
        have hvr : ∀ v ∈ st.drop (hy_na z), hy_VT v := fun v hv => v2 v (List.mem_of_mem_drop hv)
        obtain ⟨d', hdd, hM⟩ := Kcl _ _ _ _ hvas hcl
        have CB := hy_callB (q := q) C h0 hz hdd hf hlo
        have hKU := hU
        obtain ⟨hx, hb, hown, hts⟩ := C
        obtain ⟨⟨b1, b2, b3, b4, b5, b6⟩, b7, b8, b9, b10⟩ := CB
        rw [hst] at b10
        have hlk : (Cond.methodLink (hy_cn q.1) q.2.1 (hy_m z).1).before args s = true := by
          have h2 := List.all_eq_true.mp hy_ml_ok2 q hq
          rw [Bool.or_eq_true] at h2
          rcases h2 with h2 | h2
          · have := hy_beq h2; omega
          · rw [show q.2.2.1 / 2 = z by omega] at h2
            exact hts _ (hy_wAt_mem h2)
        have hmp2 := hy_tick hy_mp2_all h0 hz
        unfold hy_mp2 at hmp2
        rw [hst] at hmp2
        dsimp only [cond_false] at hmp2
        rw [Bool.and_eq_true] at hmp2
        have hcls := of_decide_eq_true (hy_tick hy_mp3_all h0 hz)
        have hrecv : ∃ cellB : Cell, H[hy_adr G a]? = some cellB ∧ cellB.vm.isStatics = false ∧ s.vm.findClass (hy_m z).1.cls = some cellB.cls := by
          rw [← hcls]
          have hka : hy_ka a = kd := (hvas _ List.mem_cons_self).1 a rfl
          rw [Bool.or_eq_true, Bool.and_eq_true, Bool.and_eq_true, Bool.and_eq_true] at hb2
          rcases hb2 with ⟨hb2, hb21, hb22⟩ | ⟨hb2, hb3⟩
          · have e1 := hy_beq hb2
            have hk9 : 1 ≤ kd ∧ kd ≤ 9 := ⟨Nat.le_of_ble_eq_true hb21, Nat.le_of_ble_eq_true hb22⟩
            have ha : a < 162 := hy_ka_lt (by omega) (by omega)
            have he := hy_wl_get G σ ha
            rw [hy_cell_obj hka hk9.1 hk9.2] at he
            have := va_recv hU.1 hH.1 (hy_clk hk9.1 hk9.2) he
            rw [← show hy_own z = (hy_m z).2.2.2.2 from rfl, ← e1]
            exact this
          · obtain ⟨i, hi, rfl⟩ := hy_ka_str (hka.trans (hy_beq hb2))
            obtain ⟨-, -, -, -, -, -, hstr, -⟩ := hU
            have := vk_recv hstr hi hS
            rw [← show hy_own z = (hy_m z).2.2.2.2 from rfl, hy_beq hb3]
            exact this
        have hstk : st.map (hy_cv G) = (as.map (hy_cv G)).reverse ++ Value.ref (hy_adr G a) :: (st.drop (hy_na z)).map (hy_cv G) := by
          have e1 : st.take (hy_na z) = ((Value.ref a, kd) :: as).reverse := by rw [← hrev, List.reverse_reverse]
          conv => lhs; rw [hsplit, e1]
          simp [hy_cv]
        have hlen : (as.map (hy_cv G)).length = hy_na z - 1 := by
          have e1 : (st.take (hy_na z)).length = as.length + 1 := by
            rw [← List.length_reverse, hrev]; rfl
          rw [List.length_take, Nat.min_eq_left (Nat.le_of_ble_eq_true hb1.1)] at e1
          rw [List.length_map]
          omega
        have hcat := hy_catw G (st.drop (hy_na z)) hb1.2
        have hrun : va_Run p l e R s m args below meth c H locs cells slots 0 0 (F0 m pc ls (st.map (hy_cv G))) ((st.drop (hy_na z)).map (hy_cv G)) (hy_Qc G r' σ' (Value.ref (hy_adr G a) :: as.map (hy_cv G)).toArray) (hy_A G) :=
          va_runV (own := hy_cn q.1) (C := (hy_m z).1.cls) ⟨hx, hb, hml, by rw [hq1]; exact hown, hts⟩ hM ⟨⟨b1, b2, b3, b4, b5, b6, b7, b8, b9, b10, hlk⟩, hts _ (hy_wAt_mem hmp2.1), hts _ (hy_wAt_mem hmp2.2)⟩
            ⟨hy_blind G _ _, hrecv, fun U hUH hW => ⟨rfl, by rw [hUH]; exact hH, hy_KU_moved hKU hS hUH hW⟩⟩ rfl hlen hl.2.1 hstk (lv_room hcat) hd ⟨by omega, by omega⟩
        exact hy_after (Or.inr trivial) hrun h K v1 hvr hS hl
    · cases h
theorem hy_s_stat {z d : Nat} {q : Nat × Nat × Nat × Nat} (C : hy_Cx p c s m args y) (hU : hy_KU G s) (hml : c.maxLocals = hy_mx y) (hf : d ≤ R.frames) (hlo : 64 * d ≤ R.locals) (hcc : cells ≤ R.cells) (hss : slots ≤ R.slots) (h0 : 0 < z) (hz : z < 230) (hst : hy_isSt.getD z false = true)
    (hq : q ∈ hy_ML) (hq1 : q.1 = hy_own y) (hq2 : q.2.2.1 / 2 = z) (hd : decode (hy_b y) pc = .ok (.invokestatic q.2.1, 3))
    (Kcl : ∀ (as : List Vl) (σ : Sg) (r' : Vl) (σ' : Sg), (∀ v ∈ as, hy_VT v) → cl z as σ = some (r', σ') → ∃ d', d' + 1 ≤ d ∧ hy_Mt l G d' z as σ r' σ')
    (K : hy_Kt p l e R s m args below meth c cells slots Q y G r σr k (pc + 3)) : hy_Kt p l e R s m args below meth c cells slots Q y G r σr (hy_sem rt dz rc cl (.invokestatic z) k) pc := by
  intro lv st σ H locs ls h v1 v2 hH hS hl
  dsimp only [hy_sem] at h
  cases hb1 : (Nat.ble (hy_na z) st.length && Nat.ble (hy_wds (st.drop (hy_na z))) 8) with
  | false => rw [hb1] at h; cases h
  | true =>
    rw [hb1] at h
    rw [Bool.and_eq_true] at hb1
    dsimp only [cond_true] at h
    have hsplit : st = st.take (hy_na z) ++ st.drop (hy_na z) := (List.take_append_drop _ _).symm
    obtain ⟨⟨r', σ'⟩, hcl, h⟩ := Option.bind_eq_some_iff.mp h
    dsimp only at h
    have hvas : ∀ v ∈ (st.take (hy_na z)).reverse, hy_VT v := fun v hv => v2 v (List.mem_of_mem_take (List.mem_reverse.mp hv))
    have hvr : ∀ v ∈ st.drop (hy_na z), hy_VT v := fun v hv => v2 v (List.mem_of_mem_drop hv)
    obtain ⟨d', hdd, hM⟩ := Kcl _ _ _ _ hvas hcl
    have CB := hy_callB (q := q) C h0 hz hdd hf hlo
    have hKU := hU
    obtain ⟨hx, hb, hown, hts⟩ := C
    obtain ⟨⟨b1, b2, b3, b4, b5, b6⟩, b7, b8, b9, b10⟩ := CB
    rw [hst] at b10
    have hmp2 := hy_tick hy_mp2_all h0 hz
    unfold hy_mp2 at hmp2
    rw [hst] at hmp2
    dsimp only [cond_true] at hmp2
    have hstk : st.map (hy_cv G) = ((st.take (hy_na z)).reverse.map (hy_cv G)).reverse ++ (st.drop (hy_na z)).map (hy_cv G) := by
      rw [List.map_reverse, List.reverse_reverse, ← List.map_append, ← hsplit]
    have hlen : ((st.take (hy_na z)).reverse.map (hy_cv G)).length = hy_na z - 0 := by
      rw [List.length_map, List.length_reverse, List.length_take, Nat.min_eq_left (Nat.le_of_ble_eq_true hb1.1), Nat.sub_zero]
    have hcat := hy_catw G (st.drop (hy_na z)) hb1.2
    have hpre : PreS s H (hy_Pc G (st.take (hy_na z)).reverse σ) ((st.take (hy_na z)).reverse.map (hy_cv G)) := ⟨hy_blind G _ _, fun U hUH hW => ⟨rfl, by rw [hUH]; exact hH, hy_KU_moved hKU hS hUH hW⟩⟩
    have hown' : s.vm.findClass (hy_cn q.1) = some m.cls := by rw [hq1]; exact hown
    have hrun : va_Run p l e R s m args below meth c H locs cells slots 0 0 (F0 m pc ls (st.map (hy_cv G))) ((st.drop (hy_na z)).map (hy_cv G)) (hy_Qc G r' σ' ((st.take (hy_na z)).reverse.map (hy_cv G)).toArray) (hy_A G) := by
      have h2 := List.all_eq_true.mp hy_ml_ok2 q hq
      rw [Bool.or_eq_true] at h2
      cases hn : Nat.beq (q.2.2.1 % 2) 1 with
      | false =>
        rw [hn] at h2
        have h3 := h2.resolve_left (fun z => by cases z)
        rw [hq2] at h3
        exact va_runS (own := hy_cn q.1) ⟨hx, hb, hml, hown', hts⟩ hM ⟨⟨b1, b2, b3, b4, b5, b6, b7, b8, b9, b10, hts _ (hy_wAt_mem h3)⟩, hts _ (hy_wAt_mem hmp2)⟩ hpre rfl hlen hl.2.1 hstk (lv_room hcat) hd ⟨by omega, by omega⟩
      | true =>
        have hnw := hU.2.2.2.2.2.2.2.2.1 q hq (hy_beq hn)
        rw [hq2] at hnw
        exact va_runSN (own := hy_cn q.1) (host := "HayBoard") ⟨hx, hb, hml, hown', hts⟩ hM ⟨⟨⟨b1, b2, b3, b4, b5, b6⟩, b7, b8, b9, b10, va_Nw.use rfl hnw⟩, hts _ (hy_wAt_mem hmp2), trivial⟩ hpre rfl hlen hl.2.1 hstk (lv_room hcat) hd ⟨by omega, by omega⟩
    exact hy_after (Or.inr trivial) hrun h K v1 hvr hS hl
end HYS
