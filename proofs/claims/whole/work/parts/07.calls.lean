/-! THE SMALL MACHINE AGAINST THE JVM: constants, switches, the library's own, answers -/
theorem hy_w_all : (hy_wAt 401 (.static Lib.Math.min.name) && hy_wAt 402 (.code Lib.Math.min.name Lib.Math.min.code 2 (some .int)) && hy_wAt 404 (.static Lib.Math.max.name) && hy_wAt 405 (.code Lib.Math.max.name Lib.Math.max.code 2 (some .int)) && hy_wAt 429 (.static Lib.Math.abs.name) && hy_wAt 430 (.code Lib.Math.abs.name Lib.Math.abs.code 1 (some .int)) && hy_wAt 70 (.initialized "java/lang/Math") && hy_wAt 71 (.initialized "java/lang/System") && hy_wAt 555 (.static arraycopyName) && hy_wAt 556 (.native arraycopyName)) = true := by decide +kernel
def hy_nOK (rt : Nat) (v : Int32) : Prop := (rt = 1 → v = 0 ∨ v = 1) ∧ (rt = 2 → v.toInt8.toInt32 = v) ∧ (rt = 3 → (v.toUInt32 % 65536).toInt32 = v)
theorem hy_cats (G : hy_G) {st : List Vl} (h : Nat.ble st.length 4 = true) : ((st.map (hy_cv G)).map fun v => v.category).sum ≤ 8 := by
  have h4 := Nat.le_of_ble_eq_true h
  have h2 : ∀ (l : List Value), (l.map fun v => v.category).sum ≤ 2 * l.length := by
    intro l
    induction l with
    | nil => simp
    | cons v l ih =>
      have : v.category ≤ 2 := by cases v <;> simp [Value.category]
      simp only [List.map_cons, List.sum_cons, List.length_cons]
      omega
  have := h2 (st.map (hy_cv G))
  rw [List.length_map] at this
  omega
/-- what is asked where a method ends -/
def hy_Rt (p : Program) (l : Launch) (e : Env) (R : Room) (s : State) (m : MethodId) (args : Array Value) (below : List Frame) (meth : Method) (c : Code) (cells slots : Nat) (Q : State → Prop) (y : Nat) (G : hy_G) (r : Vl) (σr : Sg) : Prop :=
  ∀ (H : Heap) (locs : List Loc) (ls : Array Slot) (pc : Nat), hy_HR G σr H → va_S (hy_A G) s.heap H locs →
    (∀ x, r = (.int x, 0) → decode (hy_b y) pc = .ok (.ireturn, 1) → hy_nOK (hy_rt y) x → ((hy_m y).2.2.1 = some .int ∨ (hy_m y).2.2.1 = some .boolean ∨ (hy_m y).2.2.1 = some .byte ∨ (hy_m y).2.2.1 = some .char) → W p l e R s m args below meth c H locs cells slots Q (F0 m pc ls [.int x])) ∧
    (∀ x, r = (.long x, 0) → decode (hy_b y) pc = .ok (.lreturn, 1) → (hy_m y).2.2.1 = some .long → W p l e R s m args below meth c H locs cells slots Q (F0 m pc ls [.long x])) ∧
    (r = (.null, 0) → decode (hy_b y) pc = .ok (.return_, 1) → (hy_m y).2.2.1 = none → W p l e R s m args below meth c H locs cells slots Q (F0 m pc ls []))
section HYS
variable {p : Program} {l : Launch} {e : Env} {R : Room} {s : State} {m : MethodId} {args : Array Value} {below : List Frame} {meth : Method} {c : Code} {cells slots : Nat} {Q : State → Prop} {y : Nat} {G : hy_G} {r : Vl} {σr : Sg} {k : List Vl → List Vl → Sg → Rs} {pc : Nat}
variable {rt : Nat} {dz : Bool} {rc : Nat → List Vl → List Vl → Sg → Rs} {cl : Nat → List Vl → Sg → Rs}
theorem hy_s_bipush {n : Int} {ins : Instr} {len : Nat} (C : hy_Cx p c s m args y) (hd : decode (hy_b y) pc = .ok (ins, len)) (hok : hy_ok y pc (.bipush n) ins len = true) (K : hy_Kt p l e R s m args below meth c cells slots Q y G r σr k (pc + len)) : hy_Kt p l e R s m args below meth c cells slots Q y G r σr (hy_sem rt dz rc cl (.bipush n) k) pc := by
  intro lv st σ H locs ls h v1 v2 hH hS hl
  dsimp only [hy_sem] at h
  obtain ⟨hx, hb, hown, hts⟩ := C
  have hK := K _ _ _ _ _ _ h v1 (hy_vc (hy_VTi _ _) v2) hH hS hl
  simp only [hy_ok, Bool.or_eq_true, decide_eq_true_eq, Prod.mk.injEq, List.any_eq_true, Bool.and_eq_true] at hok
  rcases hok with ((⟨rfl, rfl⟩ | ⟨⟨rfl, rfl⟩, hv⟩) | ⟨⟨rfl, rfl⟩, hv⟩) | ⟨q, hq, ⟨hq1, hq2⟩, hi⟩
  · exact lv_iconst hx hb hd rfl hK
  · exact lv_bipush hx hb hd hv hK
  · exact lv_sipush hx hb hd hv hK
  · have hw := hts _ (hy_wAt_mem (List.all_eq_true.mp hy_ct_ok q hq))
    rw [hq2, hq1] at hw
    rcases hi with ⟨rfl, rfl⟩ | ⟨rfl, rfl⟩
    · exact lv_ldc hx hb hown hw hd hK
    · exact lv_ldcw hx hb hown hw hd hK
theorem hy_s_table {dflt lo hi dflt' : Int} {offs offs' : Array Int} {len : Nat} (hx : p.tables.exec = Jvm.exec) (hb : c.code = hy_b y) (hd : decode (hy_b y) pc = .ok (.tableswitch dflt' lo hi offs', len))
    (h1 : (pc : Int) + dflt' = ((hy_blk y dflt.toNat).1 : Nat)) (h2 : offs'.toList.length = offs.toList.length) (h3 : (offs.toList.length : Int) = hi + 1 - lo) (h4 : ∀ j, j < offs.toList.length → (pc : Int) + offs'.toList.getD j 0 = ((hy_blk y (offs.toList.getD j 0).toNat).1 : Nat))
    (Krc : ∀ b, hy_Kt p l e R s m args below meth c cells slots Q y G r σr (rc b) (hy_blk y b).1) : hy_Kt p l e R s m args below meth c cells slots Q y G r σr (hy_sem rt dz rc cl (.tableswitch dflt lo hi offs) k) pc := by
  intro lv st σ H locs ls h v1 v2 hH hS hl
  dsimp only [hy_sem] at h
  split at h
  · rename_i x q st
    unfold hy_tab at h
    by_cases c1 : x.toInt < lo
    · rw [if_pos c1] at h
      exact lv_tableOut hx hb hd (Or.inl c1) h1 (Krc _ _ _ _ _ _ _ h v1 (hy_vt v2) hH hS hl)
    · rw [if_neg c1] at h
      by_cases c2 : hi < x.toInt
      · have e : offs.toList[(x.toInt - lo).toNat]? = none := List.getElem?_eq_none (by omega)
        rw [e] at h
        exact lv_tableOut hx hb hd (Or.inr c2) h1 (Krc _ _ _ _ _ _ _ h v1 (hy_vt v2) hH hS hl)
      · have hj : (x.toInt - lo).toNat < offs.toList.length := by omega
        have e : offs.toList[(x.toInt - lo).toNat]? = some (offs.toList.getD (x.toInt - lo).toNat 0) := by
          rw [List.getD_eq_getElem?_getD, List.getElem?_eq_getElem hj]; rfl
        have e' : offs'[(x.toInt - lo).toNat]? = some (offs'.toList.getD (x.toInt - lo).toNat 0) := by
          rw [← Array.getElem?_toList, List.getD_eq_getElem?_getD, List.getElem?_eq_getElem (by omega)]; rfl
        rw [e] at h
        exact lv_tableIn hx hb hd c1 c2 e' (h4 _ hj) (Krc _ _ _ _ _ _ _ h v1 (hy_vt v2) hH hS hl)
  · cases h
theorem hy_look_off {x : Int32} {dflt dflt' : Int} (pcv : Int) (tg : Int → Nat) (hdf : pcv + dflt' = (tg dflt : Nat)) : ∀ (ps ps' : List (Int × Int)), ps'.length = ps.length → (∀ q ∈ ps.zip ps', q.1.1 = q.2.1 ∧ -2147483648 ≤ q.1.1 ∧ q.1.1 < 2147483648 ∧ pcv + q.2.2 = (tg q.1.2 : Nat)) →
    ∀ (f : Nat → Rs), ∃ bb : Int, hy_look x ps dflt f = f bb.toNat ∧ pcv + Op.lookupswitch.offset ps' dflt' x.toInt = (tg bb : Nat)
  | [], [], _, _, f => ⟨dflt, rfl, hdf⟩
  | [], _ :: _, h, _, _ => by cases h
  | _ :: _, [], h, _, _ => by cases h
  | a :: ps, b :: ps', h, hz, f => by
    have hab := hz (a, b) (by simp)
    obtain ⟨e1, e2, e3, e4⟩ := hab
    obtain ⟨bb, g1, g2⟩ := hy_look_off (x := x) pcv tg hdf ps ps' (by simpa using h) (fun q hq => hz q (by simp [hq])) f
    have hxe : (x = Int32.ofInt a.1) ↔ x.toInt = b.1 := by
      rw [← e1]
      constructor
      · intro z
        rw [z, Int32.toInt_ofInt]
        exact Int.bmod_eq_of_le (by simpa using e2) (by simpa using e3)
      · intro z
        rw [← z, Int32.ofInt_toInt]
    unfold hy_look
    by_cases c1 : x = Int32.ofInt a.1
    · rw [if_pos c1]
      refine ⟨a.2, rfl, ?_⟩
      have c2 := hxe.mp c1
      obtain ⟨b1, b2⟩ := b
      have this : Op.lookupswitch.offset ((b1, b2) :: ps') dflt' x.toInt = (if b1 = x.toInt then b2 else Op.lookupswitch.offset ps' dflt' x.toInt) := rfl
      rw [this, if_pos c2.symm]
      exact e4
    · rw [if_neg c1]
      refine ⟨bb, g1, ?_⟩
      have c2 := fun z => c1 (hxe.mpr z)
      obtain ⟨b1, b2⟩ := b
      have this : Op.lookupswitch.offset ((b1, b2) :: ps') dflt' x.toInt = (if b1 = x.toInt then b2 else Op.lookupswitch.offset ps' dflt' x.toInt) := rfl
      rw [this, if_neg (fun z => c2 z.symm)]
      exact g2
theorem hy_s_lookup {dflt dflt' : Int} {ps ps' : Array (Int × Int)} {len : Nat} (hx : p.tables.exec = Jvm.exec) (hb : c.code = hy_b y) (hd : decode (hy_b y) pc = .ok (.lookupswitch dflt' ps', len))
    (h1 : (pc : Int) + dflt' = ((hy_blk y dflt.toNat).1 : Nat)) (h2 : (ps'.toList.zip (ps'.toList.drop 1)).all (fun (a, next) => decide (a.1 < next.1)) = true) (h3 : ps'.toList.length = ps.toList.length) (h4 : ∀ q ∈ ps.toList.zip ps'.toList, q.1.1 = q.2.1 ∧ -2147483648 ≤ q.1.1 ∧ q.1.1 < 2147483648 ∧ (pc : Int) + q.2.2 = ((hy_blk y q.1.2.toNat).1 : Nat))
    (Krc : ∀ b, hy_Kt p l e R s m args below meth c cells slots Q y G r σr (rc b) (hy_blk y b).1) : hy_Kt p l e R s m args below meth c cells slots Q y G r σr (hy_sem rt dz rc cl (.lookupswitch dflt ps) k) pc := by
  intro lv st σ H locs ls h v1 v2 hH hS hl
  dsimp only [hy_sem] at h
  split at h
  · rename_i x q st
    obtain ⟨bb, g1, g2⟩ := hy_look_off (x := x) (pc : Int) (fun z => (hy_blk y z.toNat).1) h1 ps.toList ps'.toList h3 h4 (fun b => rc b lv st σ)
    rw [g1] at h
    exact lv_lookup hx hb hd (by simpa using h2) rfl g2 (Krc _ _ _ _ _ _ _ h v1 (hy_vt v2) hH hS hl)
  · cases h
set_option maxRecDepth 4000 in
theorem hy_s_jsr {j : Nat} {q : Nat × Nat × Nat × Nat} (C : hy_Cx p c s m args y) (hU : hy_KU G s) (hml : c.maxLocals = hy_mx y) (hR : dz = true → 1 ≤ R.frames ∧ 64 ≤ R.locals) (hcc : cells ≤ R.cells) (hss : slots ≤ R.slots) (hq : q ∈ hy_SP) (hq1 : q.1 = hy_own y) (hq2 : q.2.2.1 = j) (hd : decode (hy_b y) pc = .ok (.invokestatic q.2.1, 3)) (K : hy_Kt p l e R s m args below meth c cells slots Q y G r σr k (pc + 3)) : hy_Kt p l e R s m args below meth c cells slots Q y G r σr (hy_sem rt dz rc cl (.invokedynamic j) k) pc := by
  intro lv st σ H locs ls h v1 v2 hH hS hl
  dsimp only [hy_sem] at h
  obtain ⟨hx, hb, hown, hts⟩ := C
  have hw := hts _ (hy_wAt_mem (List.all_eq_true.mp hy_sp_ok q hq))
  rw [hq2] at hw
  have hal := hy_w_all
  simp only [Bool.and_eq_true] at hal
  obtain ⟨⟨⟨⟨⟨⟨⟨⟨⟨w1, w2⟩, w3⟩, w4⟩, w5⟩, w6⟩, w7⟩, w8⟩, w9⟩, w10⟩ := hal
  have ht : ∀ {i : Nat} {w : Jvm.Cond}, hy_wAt i w = true → w.before args s = true := fun z => hts _ (hy_wAt_mem z)
  have hown' : s.vm.findClass (hy_cn q.1) = some m.cls := by rw [hq1]; exact hown
  have hmls : c.maxLocals = ls.size := hml.trans hl.2.1.symm
  cases hdz : dz with
  | false => rw [hdz] at h; cases h
  | true =>
    obtain ⟨hR1, hR2⟩ := hR hdz
    rw [hdz] at h
    dsimp only [cond_true] at h
    clear hq2
    revert h hw
    match j with
    | 0 =>
      intro h hw
      replace h : (match (generalizing := false) st with | (.int y, _) :: (.int x, _) :: st => bif Nat.ble st.length 4 then k lv ((.int (if x < y then y else x), 0) :: st) σ else none | _ => none) = some (r, σr) := h
      split at h
      · rename_i y' q1 x' q2 st'
        cases hbl : Nat.ble st'.length 4 with
        | false => rw [hbl] at h; cases h
        | true =>
          rw [hbl] at h
          have hcat := hy_cats G hbl
          exact va_mmax hx hb hmls hown' hw (ht w3) (ht w7) (ht w4) hR1 (by omega) hcc hss hd (K _ _ _ _ _ _ h v1 (hy_vc (hy_VTi _ _) (hy_vt (hy_vt v2))) hH hS hl)
      · cases h
    | 1 =>
      intro h hw
      replace h : (match (generalizing := false) st with | (.int y, _) :: (.int x, _) :: st => bif Nat.ble st.length 4 then k lv ((.int (if y < x then y else x), 0) :: st) σ else none | _ => none) = some (r, σr) := h
      split at h
      · rename_i y' q1 x' q2 st'
        cases hbl : Nat.ble st'.length 4 with
        | false => rw [hbl] at h; cases h
        | true =>
          rw [hbl] at h
          have hcat := hy_cats G hbl
          exact va_mmin hx hb hmls hown' hw (ht w1) (ht w7) (ht w2) hR1 (by omega) hcc hss hd (K _ _ _ _ _ _ h v1 (hy_vc (hy_VTi _ _) (hy_vt (hy_vt v2))) hH hS hl)
      · cases h
    | 2 =>
      intro h hw
      replace h : (match (generalizing := false) st with | (.int x, _) :: st => bif Nat.ble st.length 4 then k lv ((.int (if 0 ≤ x then x else 0 - x), 0) :: st) σ else none | _ => none) = some (r, σr) := h
      split at h
      · rename_i x' q2 st'
        cases hbl : Nat.ble st'.length 4 with
        | false => rw [hbl] at h; cases h
        | true =>
          rw [hbl] at h
          have hcat := hy_cats G hbl
          exact va_mabs hx hb hmls hown' hw (ht w5) (ht w7) (ht w6) hR1 (by omega) hcc hss hd (K _ _ _ _ _ _ h v1 (hy_vc (hy_VTi _ _) (hy_vt v2)) hH hS hl)
      · cases h
    | 3 =>
      intro h hw
      replace h : (match (generalizing := false) st with | (.int n, _) :: (.int dp, _) :: (.ref a1, k1) :: (.int sp, _) :: (.ref a0, k0) :: st => bif Nat.ble st.length 4 then (match hy_al k0, hy_al k1 with | some (0, n0), some (0, n1) => if (0 ≤ sp.toInt ∧ 0 ≤ dp.toInt ∧ 0 ≤ n.toInt) ∧ sp.toInt + n.toInt ≤ n0 ∧ dp.toInt + n.toInt ≤ n1 then k lv st (hy_cpS σ a0 a1 sp dp n) else none | _, _ => none) else none | _ => none) = some (r, σr) := h
      split at h
      · rename_i n' q1 dp q2 a1 k1 sp q3 a0 k0 st'
        cases hbl : Nat.ble st'.length 4 with
        | false => rw [hbl] at h; cases h
        | true =>
          rw [hbl] at h
          dsimp only [cond_true] at h
          have hcat := hy_cats G hbl
          have hk1 : hy_ka a1 = k1 := (hy_v0 (hy_vt (hy_vt v2))).1 a1 rfl
          have hk0 : hy_ka a0 = k0 := (hy_v0 (hy_vt (hy_vt (hy_vt (hy_vt v2))))).1 a0 rfl
          split at h
          · rename_i n0 n1 e0 e1
            split at h
            · rename_i hcond
              obtain ⟨⟨b1, b2, b3⟩, b4, b5⟩ := hcond
              have i0 := hy_al_in e0
              have i1 := hy_al_in e1
              have ha0 : a0 < 162 := hy_ka_lt (by omega) (by omega)
              have ha1 : a1 < 162 := hy_ka_lt (by omega) (by omega)
              have f0 := hy_wl_get G σ ha0
              rw [hy_cell_arr (by rw [hk0]; exact e0)] at f0
              have f1 := hy_wl_get G σ ha1
              rw [hy_cell_arr (by rw [hk1]; exact e1)] at f1
              have nn : ∀ z : Int32, 0 ≤ z.toInt → ¬ z < 0 ∧ (z.toNatClampNeg : Int) = z.toInt := by
                intro z hz
                refine ⟨fun w => ?_, ?_⟩
                · rw [Int32.lt_iff_toInt_lt, Int32.toInt_zero] at w; omega
                · show ((z.toInt.toNat : Nat) : Int) = z.toInt
                  omega
              obtain ⟨p1, p2⟩ := nn sp b1
              obtain ⟨p3, p4⟩ := nn dp b2
              obtain ⟨p5, p6⟩ := nn n' b3
              have hnw : nativeFrameWords "java/lang/System" "arraycopy" 5 = 7 := by decide
              refine va_copyi (D := hy_D G) hx hb hmls hown' hw (ht w10) (ht w9) (ht w8) hU.1 hH.1 hH.2.1 hS a0 a1 0 0 f0 f1 rfl rfl rfl p1 p3 p5 (by omega) (by omega) (fun i hi => rfl) hR1 (by rw [hnw]; omega) hd (fun H1 locs1 hP hD hS1 => ?_)
              refine K _ _ _ _ _ _ h v1 (hy_vt (hy_vt (hy_vt (hy_vt (hy_vt v2))))) (hy_HR_set ha1 ?_ (fun j hj => by simp [hy_cpS, hj]) hP hD hH.2.2) hS1 hl
              rw [hy_cell_arr (so := 0) (n := n1) (by rw [hk1]; exact e1)]
              simp [hy_cpS, hy_ix]
            · cases h
          · cases h
      · cases h
    | _ + 4 =>
      intro h hw
      cases h
theorem hy_s_ireturn (hd : decode (hy_b y) pc = .ok (.ireturn, 1)) (hty : (hy_m y).2.2.1 = some .int ∨ (hy_m y).2.2.1 = some .boolean ∨ (hy_m y).2.2.1 = some .byte ∨ (hy_m y).2.2.1 = some .char) (hrt : rt = hy_rt y) (Z : hy_Rt p l e R s m args below meth c cells slots Q y G r σr) : hy_Kt p l e R s m args below meth c cells slots Q y G r σr (hy_sem rt dz rc cl .ireturn k) pc := by
  intro lv st σ H locs ls h v1 v2 hH hS hl
  dsimp only [hy_sem] at h
  subst hrt
  split at h
  · rename_i x q
    have key : ((Value.int x, 0), σ) = (r, σr) → hy_nOK (hy_rt y) x → W p l e R s m args below meth c H locs cells slots Q (F0 m pc ls [.int x]) := by
      intro e hn
      cases e
      exact (Z H locs ls pc hH hS).1 x rfl hd hn hty
    split at h
    · rename_i e1
      split at h
      · rename_i z; exact key (Option.some.inj h) ⟨fun _ => z, fun w => (by rw [e1] at w; cases w), fun w => (by rw [e1] at w; cases w)⟩
      · cases h
    · rename_i e1
      split at h
      · rename_i z; exact key (Option.some.inj h) ⟨fun w => (by rw [e1] at w; cases w), fun _ => z, fun w => (by rw [e1] at w; cases w)⟩
      · cases h
    · rename_i e1
      split at h
      · rename_i z; exact key (Option.some.inj h) ⟨fun w => (by rw [e1] at w; cases w), fun w => (by rw [e1] at w; cases w), fun _ => z⟩
      · cases h
    · rename_i e1 e2 e3
      exact key (Option.some.inj h) ⟨fun w => (e1 w).elim, fun w => (e2 w).elim, fun w => (e3 w).elim⟩
  · cases h
theorem hy_s_lreturn (hd : decode (hy_b y) pc = .ok (.lreturn, 1)) (hty : (hy_m y).2.2.1 = some .long) (Z : hy_Rt p l e R s m args below meth c cells slots Q y G r σr) : hy_Kt p l e R s m args below meth c cells slots Q y G r σr (hy_sem rt dz rc cl .lreturn k) pc := by
  intro lv st σ H locs ls h v1 v2 hH hS hl
  dsimp only [hy_sem] at h
  split at h
  · rename_i x q
    cases h
    exact (Z H locs ls pc hH hS).2.1 x rfl hd hty
  · cases h
theorem hy_s_return (hd : decode (hy_b y) pc = .ok (.return_, 1)) (hty : (hy_m y).2.2.1 = none) (Z : hy_Rt p l e R s m args below meth c cells slots Q y G r σr) : hy_Kt p l e R s m args below meth c cells slots Q y G r σr (hy_sem rt dz rc cl .return_ k) pc := by
  intro lv st σ H locs ls h v1 v2 hH hS hl
  dsimp only [hy_sem] at h
  split at h
  · cases h
    exact (Z H locs ls pc hH hS).2.2 rfl hd hty
  · cases h
end HYS
