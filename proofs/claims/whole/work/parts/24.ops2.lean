/-! MACHINE 2 AGAINST THE JVM: instructions -/
theorem hz_asc {G : hy_G} {lv : List Value} : ∃ l : List (Nat × Value), (∀ (i : Nat) (v : Value), lv[i]? = some v → v ≠ .null → (i, hz_cv G v) ∈ l) ∧ ∀ q ∈ l, ∃ v, lv[q.1]? = some v ∧ v ≠ .null ∧ q.2 = hz_cv G v := by
  refine ⟨(List.range lv.length).filterMap fun i => (lv[i]?).bind fun v => if v = .null then none else some (i, hz_cv G v), fun i v h hn => ?_, fun q hq => ?_⟩
  · refine List.mem_filterMap.mpr ⟨i, List.mem_range.mpr (List.getElem?_eq_some_iff.mp h).1, ?_⟩
    rw [h]
    simp [hn]
  · obtain ⟨i, hi, he⟩ := List.mem_filterMap.mp hq
    cases hv : lv[i]? with
    | none => rw [hv] at he; cases he
    | some v =>
      rw [hv] at he
      simp only [Option.bind_some] at he
      by_cases hn : v = .null
      · rw [if_pos hn] at he; cases he
      · rw [if_neg hn] at he
        cases he
        exact ⟨v, hv, hn, rfl⟩
theorem hz_cat1 {G : hy_G} {v : Value} : (hz_cv G v).category = v.category := by cases v <;> rfl
theorem hz_LV_set {G : hy_G} {ls' : Array Slot} {nL i : Nat} {lv : List Value} {v : Value} {l : List (Nat × Value)} (h0 : lv.length = nL) (hall : lv.all (fun v => Nat.beq v.category 1) = true) (hm : ∀ (i : Nat) (v : Value), lv[i]? = some v → v ≠ .null → (i, hz_cv G v) ∈ l)
    (h : lv_has ls' nL ((i, hz_cv G v) :: l.filter (fun q => !(q.1 == i) && !(q.1 + 1 == i && q.2.category == 2)))) : hz_LV G ls' nL (lv.set i v) := by
  obtain ⟨h1, h2, h3⟩ := h
  refine ⟨by rw [List.length_set]; exact h0, h1, h2, fun j w hj hn => ?_⟩
  by_cases hji : i = j
  · subst hji
    have hl : i < lv.length := by
      have := (List.getElem?_eq_some_iff.mp hj).1
      rwa [List.length_set] at this
    rw [List.getElem?_set_self hl] at hj
    cases hj
    exact h3 (i, hz_cv G v) List.mem_cons_self
  · rw [List.getElem?_set_ne hji] at hj
    refine h3 (j, hz_cv G w) (List.mem_cons_of_mem _ (List.mem_filter.mpr ⟨hm _ _ hj hn, ?_⟩))
    have hc : w.category = 1 := Nat.eq_of_beq_eq_true (List.all_eq_true.mp hall w (List.mem_of_getElem? hj))
    have hne : (j == i) = false := by simp [Ne.symm hji]
    simp [hne, hz_cat1, hc]
theorem hz_ra_in {t kd off sd : Nat} {n : Int} (h : hy_ra t = some (n, kd, off, sd)) : 10 ≤ t ∧ t ≤ 13 ∧ 1 ≤ kd ∧ kd ≤ 9 ∧ (t = 10 ∧ hy_cn kd = "HayBoard$Law" ∨ t = 11 ∧ hy_cn kd = "HayBoard$Sheet" ∨ t = 12 ∧ hy_cn kd = "HayBoard$Slot" ∨ t = 13 ∧ hy_cn kd = "HayBoard$Bale") := by
  unfold hy_ra at h
  split at h <;> first | (cases h; exact ⟨by decide, by decide, by decide, by decide, by decide +kernel⟩) | cases h
section HZS
variable {p : Program} {l : Launch} {e : Env} {R : Room} {s : State} {m : MethodId} {args : Array Value} {below : List Frame} {meth : Method} {c : Code} {Q : State → Prop} {y : Nat} {G : hy_G} {n0 s0 : Nat} {h' : Hp} {k : List Value → List Value → Hp → Rz} {pc : Nat}
variable {dz : Bool} {rc : Nat → List Value → List Value → Hp → Rz} {cl : Nat → List Value → Hp → Rz}
theorem hz_s_bipush {n : Int} {ins : Instr} {len : Nat} (C : hz_Cx p c s m args y) (hd : decode (hz_b y) pc = .ok (ins, len)) (hok : hz_ok y pc (.bipush n) ins len = true) (K : hz_Kt p l e R s m args below meth c Q y G n0 s0 h' k (pc + len)) : hz_Kt p l e R s m args below meth c Q y G n0 s0 h' (hz_sem dz rc cl (.bipush n) k) pc := by
  intro lv st h H locs ls hh hn hs hH hS hl
  dsimp only [hz_sem] at hh
  obtain ⟨hx, hb, hown, hts⟩ := C
  have hK := K _ _ _ _ _ _ hh hn hs hH hS hl
  simp only [hz_ok, Bool.or_eq_true, decide_eq_true_eq, Prod.mk.injEq, List.any_eq_true, Bool.and_eq_true] at hok
  rcases hok with ((⟨rfl, rfl⟩ | ⟨⟨rfl, rfl⟩, hv⟩) | ⟨⟨rfl, rfl⟩, hv⟩) | ⟨q, hq, ⟨hq1, hq2⟩, hi⟩
  · exact lv_iconst hx hb hd rfl hK
  · exact lv_bipush hx hb hd hv hK
  · exact lv_sipush hx hb hd hv hK
  · have hw := hts _ (hy_wAt_mem (List.all_eq_true.mp hy_ct_ok q hq))
    rw [hq2, hq1] at hw
    rcases hi with ⟨rfl, rfl⟩ | ⟨rfl, rfl⟩
    · exact lv_ldc hx hb hown hw hd hK
    · exact lv_ldcw hx hb hown hw hd hK
theorem hz_s_iload {i n : Nat} (hx : p.tables.exec = Jvm.exec) (hb : c.code = hz_b y) (hd : decode (hz_b y) pc = .ok (.iload i, 2) ∧ n = 2 ∨ ∃ j : Fin 4, (j : Nat) = i ∧ decode (hz_b y) pc = .ok (.iload_n j, 1) ∧ n = 1) (K : hz_Kt p l e R s m args below meth c Q y G n0 s0 h' k (pc + n)) : hz_Kt p l e R s m args below meth c Q y G n0 s0 h' (hz_sem dz rc cl (.iload i) k) pc := by
  intro lv st h H locs ls hh hn hs hH hS hl
  dsimp only [hz_sem] at hh
  split at hh
  · rename_i x hi
    have hK := K _ _ _ _ _ _ hh hn hs hH hS hl
    have ha := hl.2.2.2 i _ hi (fun z => by cases z)
    rcases hd with ⟨hd, rfl⟩ | ⟨j, hj, hd, rfl⟩
    · exact lv_iload hx hb hd ha hK
    · exact lv_iload_n hx hb hd hj ha hK
  · cases hh
theorem hz_s_aload {i n : Nat} (hx : p.tables.exec = Jvm.exec) (hb : c.code = hz_b y) (hd : decode (hz_b y) pc = .ok (.aload i, 2) ∧ n = 2 ∨ ∃ j : Fin 4, (j : Nat) = i ∧ decode (hz_b y) pc = .ok (.aload_n j, 1) ∧ n = 1) (K : hz_Kt p l e R s m args below meth c Q y G n0 s0 h' k (pc + n)) : hz_Kt p l e R s m args below meth c Q y G n0 s0 h' (hz_sem dz rc cl (.aload i) k) pc := by
  intro lv st h H locs ls hh hn hs hH hS hl
  dsimp only [hz_sem] at hh
  split at hh
  · rename_i x hi
    have hK := K _ _ _ _ _ _ hh hn hs hH hS hl
    have ha := hl.2.2.2 i _ hi (fun z => by cases z)
    rcases hd with ⟨hd, rfl⟩ | ⟨j, hj, hd, rfl⟩
    · exact lv_aload hx hb hd ha hK
    · exact lv_aload_n hx hb hd hj ha hK
  · cases hh
theorem hz_s_istore {i n : Nat} (hx : p.tables.exec = Jvm.exec) (hb : c.code = hz_b y) (hd : decode (hz_b y) pc = .ok (.istore i, 2) ∧ n = 2 ∨ ∃ j : Fin 4, (j : Nat) = i ∧ decode (hz_b y) pc = .ok (.istore_n j, 1) ∧ n = 1) (K : hz_Kt p l e R s m args below meth c Q y G n0 s0 h' k (pc + n)) : hz_Kt p l e R s m args below meth c Q y G n0 s0 h' (hz_sem dz rc cl (.istore i) k) pc := by
  intro lv st h H locs ls hh hn hs hH hS hl
  dsimp only [hz_sem] at hh
  split at hh
  · rw [cond_eq_ite] at hh
    split at hh
    · rename_i hc
      rw [Bool.and_eq_true] at hc
      obtain ⟨lA, hm1, hm2⟩ := hz_asc (G := G) (lv := lv)
      have has : lv_has ls (hz_mx y) lA := ⟨hl.2.1, hl.2.2.1, fun q hq => by
        obtain ⟨v, h1, h2, h3⟩ := hm2 q hq
        rw [h3]; exact hl.2.2.2 _ _ h1 h2⟩
      have hi : i < hz_mx y := by rw [← hl.1]; exact Nat.le_of_ble_eq_true hc.1
      have hK := fun ls' (h' : lv_has ls' (hz_mx y) _) => K _ _ _ _ _ _ hh hn hs hH hS (hz_LV_set (ls' := ls') hl.1 hc.2 hm1 h')
      rcases hd with ⟨hd, rfl⟩ | ⟨j, hj, hd, rfl⟩
      · exact lv_istore hx hb hd has hi rfl hK
      · exact lv_istore_n hx hb hd hj has hi rfl hK
    · cases hh
  · cases hh
theorem hz_s_iinc {i : Nat} {z : Int} (hx : p.tables.exec = Jvm.exec) (hb : c.code = hz_b y) (hd : decode (hz_b y) pc = .ok (.iinc i z, 3)) (K : hz_Kt p l e R s m args below meth c Q y G n0 s0 h' k (pc + 3)) : hz_Kt p l e R s m args below meth c Q y G n0 s0 h' (hz_sem dz rc cl (.iinc i z) k) pc := by
  intro lv st h H locs ls hh hn hs hH hS hl
  dsimp only [hz_sem] at hh
  split at hh
  · rename_i x hi
    rw [cond_eq_ite] at hh
    split at hh
    · rename_i hc
      obtain ⟨lA, hm1, hm2⟩ := hz_asc (G := G) (lv := lv)
      have has : lv_has ls (hz_mx y) lA := ⟨hl.2.1, hl.2.2.1, fun q hq => by
        obtain ⟨v, h1, h2, h3⟩ := hm2 q hq
        rw [h3]; exact hl.2.2.2 _ _ h1 h2⟩
      obtain ⟨j, hj⟩ := List.getElem?_of_mem (hm1 i _ hi (fun z => by cases z))
      have hlt : i < hz_mx y := by rw [← hl.1]; exact (List.getElem?_eq_some_iff.mp hi).1
      exact lv_iinc hx hb hd has hj rfl hlt rfl (fun ls' h' => K _ _ _ _ _ _ hh hn hs hH hS (hz_LV_set (ls' := ls') hl.1 hc hm1 h'))
    · cases hh
  · cases hh
theorem hz_s_dup (hx : p.tables.exec = Jvm.exec) (hb : c.code = hz_b y) (hd : decode (hz_b y) pc = .ok (.dup, 1)) (K : hz_Kt p l e R s m args below meth c Q y G n0 s0 h' k (pc + 1)) : hz_Kt p l e R s m args below meth c Q y G n0 s0 h' (hz_sem dz rc cl .dup k) pc := by
  intro lv st h H locs ls hh hn hs hH hS hl
  dsimp only [hz_sem] at hh
  split at hh
  · exact lv_dup hx hb hd rfl (K _ _ _ _ _ _ hh hn hs hH hS hl)
  · cases hh
theorem hz_s_if {cc : Jvm.ClassFile.Cond} {b off : Int} (hx : p.tables.exec = Jvm.exec) (hb : c.code = hz_b y) (hd : decode (hz_b y) pc = .ok (.if_icmp cc off, 3)) (ht : (pc : Int) + off = ((hz_blk y b.toNat).1 : Nat)) (Kb : hz_Kt p l e R s m args below meth c Q y G n0 s0 h' (rc b.toNat) (hz_blk y b.toNat).1) (K : hz_Kt p l e R s m args below meth c Q y G n0 s0 h' k (pc + 3)) : hz_Kt p l e R s m args below meth c Q y G n0 s0 h' (hz_sem dz rc cl (.if_icmp cc b) k) pc := by
  intro lv st h H locs ls hh hn hs hH hS hl
  dsimp only [hz_sem] at hh
  split at hh
  · split at hh
    · exact lv_icmp_ge hx hb hd ht (fun z => Kb _ _ _ _ _ _ (by rwa [if_pos z] at hh) hn hs hH hS hl) (fun z => K _ _ _ _ _ _ (by rwa [if_neg z] at hh) hn hs hH hS hl)
    · cases hh
  · cases hh
theorem hz_s_goto {b off : Int} (hx : p.tables.exec = Jvm.exec) (hb : c.code = hz_b y) (hd : decode (hz_b y) pc = .ok (.goto off, 3)) (ht : (pc : Int) + off = ((hz_blk y b.toNat).1 : Nat)) (Kb : hz_Kt p l e R s m args below meth c Q y G n0 s0 h' (rc b.toNat) (hz_blk y b.toNat).1) : hz_Kt p l e R s m args below meth c Q y G n0 s0 h' (hz_sem dz rc cl (.goto b) k) pc := by
  intro lv st h H locs ls hh hn hs hH hS hl
  exact lv_goto hx hb hd ht (Kb _ _ _ _ _ _ hh hn hs hH hS hl)
theorem hz_s_getfield {pf : Nat} {q : Nat × Nat × Nat × Nat} (C : hz_Cx p c s m args y) (hU : hz_KU G s) (hq : q ∈ hy_FL) (hq1 : q.1 = hz_own y) (hq2 : q.2.2.1 = pf) (hd : decode (hz_b y) pc = .ok (.getfield q.2.1, 3)) (K : hz_Kt p l e R s m args below meth c Q y G n0 s0 h' k (pc + 3)) : hz_Kt p l e R s m args below meth c Q y G n0 s0 h' (hz_sem dz rc cl (.getfield pf) k) pc := by
  intro lv st h H locs ls hh hn hs hH hS hl
  dsimp only [hz_sem] at hh
  obtain ⟨hx, hb, hown, hts⟩ := C
  subst hq2
  obtain ⟨hk1, hk9, hkN, -⟩ := of_decide_eq_true (List.all_eq_true.mp hy_FL_in q hq)
  have hw := hts _ (hy_wAt_mem (List.all_eq_true.mp hy_fl_ok q hq))
  split at hh
  · split at hh
    · rename_i a st' xo t fs ea
      rw [cond_eq_ite] at hh
      split at hh
      · rename_i ht
        have e1 := hy_beq ht
        subst e1
        split at hh
        · rename_i v ev
          have he := hz_wl_get G ea
          have hc9 : hz_cell G (q.2.2.1 / 64, fs) = .inr (q.2.2.1 / 64 - 1, fs.map (hz_cv G)) := by
            unfold hz_cell; rw [if_pos hk9]
          rw [hc9] at he
          refine va_get (D := hy_D G) (C := hy_cn (q.2.2.1 / 64)) (T := hy_T (q.2.2.1 / 64)) (N := hy_N (q.2.2.1 / 64)) (own := hy_cn q.1) (ref := hy_cn (q.2.2.1 / 64)) hx hb hts (hy_in hk9) (by rw [hq1]; exact hown) hU.1 hH.1 a he (hy_clk hk1 hk9) (q.2.2.1 % 64) hkN hw (fun x hx => by rw [hy_decl hk9 hkN] at hx; exact hx) (v := hz_cv G v) (by rw [List.getElem?_map, ev]; rfl) hd ?_
          exact K _ _ _ _ _ _ hh hn hs hH hS hl
        · cases hh
      · cases hh
    · cases hh
  · cases hh
theorem hz_ty_ref : hy_FL.all (fun q => match hy_fr q.2.2.1 with | some _ => (match hy_ty (q.2.2.1 / 64) (q.2.2.1 % 64) with | .object _ => true | .array _ => true | _ => false) | none => Nat.beq q.2.2.1 69 || Nat.beq q.2.2.1 579 || decide (hy_ty (q.2.2.1 / 64) (q.2.2.1 % 64) = .int)) = true := by decide +kernel
theorem hz_s_putfield {pf : Nat} {q : Nat × Nat × Nat × Nat} (C : hz_Cx p c s m args y) (hU : hz_KU G s) (hin : meth.name = "<init>") (hb0 : s.heap.size = hy_base G + n0) (ho : pf / 64 = hz_own y) (hq : q ∈ hy_FL) (hq1 : q.1 = hz_own y) (hq2 : q.2.2.1 = pf) (hd : decode (hz_b y) pc = .ok (.putfield q.2.1, 3)) (K : hz_Kt p l e R s m args below meth c Q y G n0 s0 h' k (pc + 3)) : hz_Kt p l e R s m args below meth c Q y G n0 s0 h' (hz_sem dz rc cl (.putfield pf) k) pc := by
  intro lv st h H locs ls hh hn hs hH hS hl
  dsimp only [hz_sem] at hh
  obtain ⟨hx, hb, hown, hts⟩ := C
  subst hq2
  obtain ⟨hk1, hk9, hkN, -⟩ := of_decide_eq_true (List.all_eq_true.mp hy_FL_in q hq)
  have hw := hts _ (hy_wAt_mem (List.all_eq_true.mp hy_fl_ok q hq))
  have htr := List.all_eq_true.mp hz_ty_ref q hq
  split at hh
  · split at hh
    · rename_i v a st' xo t fs ea
      rw [cond_eq_ite] at hh
      split at hh
      · rename_i hc
        rw [Bool.and_eq_true, Bool.and_eq_true] at hc
        obtain ⟨ht, hfit, hlt⟩ := hc
        have e1 := hy_beq ht
        subst e1
        have hlt' : q.2.2.1 % 64 < fs.length := Nat.le_of_ble_eq_true hlt
        have he := hz_wl_get G ea
        have hc9 : ∀ fs', hz_cell G (q.2.2.1 / 64, fs') = .inr (q.2.2.1 / 64 - 1, fs'.map (hz_cv G)) := fun fs' => by
          unfold hz_cell; rw [if_pos hk9]
        rw [hc9] at he
        have hty := hy_tyk hk9 _ hkN
        have hnf : narrow (hy_ty (q.2.2.1 / 64) (q.2.2.1 % 64)) (hz_cv G v) = hz_cv G v ∧ fits (hy_ty (q.2.2.1 / 64) (q.2.2.1 % 64)) (hz_cv G v) = true := by
          unfold hz_fit at hfit
          split at hfit
          · rename_i x hfr
            rw [hfr] at htr
            dsimp only at htr
            rw [Bool.or_eq_true] at htr
            have ei : hy_ty (q.2.2.1 / 64) (q.2.2.1 % 64) = .int := by
              rcases htr with z | z
              · rw [z] at hfit; cases hfit
              · exact of_decide_eq_true z
            rw [ei]
            exact ⟨rfl, rfl⟩
          · rename_i x w hfr
            rw [hfr] at htr
            dsimp only at htr
            split at htr
            · rename_i n ei; rw [ei]; exact ⟨rfl, rfl⟩
            · rename_i n ei; rw [ei]; exact ⟨rfl, rfl⟩
            · cases htr
          · cases hfit
        have go : ∀ (H1 : Heap) (locs1 : List Loc), va_P (hy_D G) hy_cl ((hz_wl G h).set a (hy_base G + a, .inr (q.2.2.1 / 64 - 1, (fs.map (hz_cv G)).set (q.2.2.1 % 64) (hz_cv G v)))) H1 → va_D (hy_A G) ((hz_wl G h).set a (hy_base G + a, .inr (q.2.2.1 / 64 - 1, (fs.map (hz_cv G)).set (q.2.2.1 % 64) (hz_cv G v)))) → va_S (hy_A G) s.heap H1 locs1 → W p l e R s m args below meth c H1 locs1 (h.length - n0) (hz_sz h - s0) Q (F0 m (pc + 3) ls (st'.map (hz_cv G))) :=
          fun H1 locs1 hP hD hS1 => hz_store hb0 ea (List.length_set) (by rw [hc9, List.map_set]) hh hn hs hP hD hS1 hl K
        cases hfin : (hy_T (q.2.2.1 / 64) (q.2.2.1 % 64)).2.2.2 with
        | false => exact va_put (D := hy_D G) (C := hy_cn (q.2.2.1 / 64)) (T := hy_T (q.2.2.1 / 64)) (N := hy_N (q.2.2.1 / 64)) (own := hy_cn q.1) (ref := hy_cn (q.2.2.1 / 64)) hx hb hts (hy_in hk9) (hy_ty (q.2.2.1 / 64)) (hy_tyk hk9) (hy_nmk hk9) (by rw [hq1]; exact hown) hU.1 hH.1 hH.2.1 hS a he (hy_clk hk1 hk9) (q.2.2.1 % 64) hkN hw (fun x hx => by rw [hy_decl hk9 hkN] at hx; exact hx) hfin hty hnf.1 hnf.2 (by rw [List.length_map]; exact hlt') hd go
        | true => exact va_putF (D := hy_D G) (C := hy_cn (q.2.2.1 / 64)) (T := hy_T (q.2.2.1 / 64)) (N := hy_N (q.2.2.1 / 64)) (own := hy_cn q.1) (ref := hy_cn (q.2.2.1 / 64)) hx hb hts (hy_in hk9) (hy_ty (q.2.2.1 / 64)) (hy_tyk hk9) (hy_nmk hk9) (by rw [hq1]; exact hown) hU.1 hH.1 hH.2.1 hS a he (hy_clk hk1 hk9) (q.2.2.1 % 64) hkN hw (fun x hx => by rw [hy_decl hk9 hkN] at hx; exact hx) hfin hin (by rw [hy_decl hk9 hkN, hq1, ho]) hty hnf.1 hnf.2 (by rw [List.length_map]; exact hlt') hd go
      · cases hh
    · cases hh
  · cases hh
theorem hz_s_iastore (C : hz_Cx p c s m args y) (hU : hz_KU G s) (hb0 : s.heap.size = hy_base G + n0) (hd : decode (hz_b y) pc = .ok (.iastore, 1)) (K : hz_Kt p l e R s m args below meth c Q y G n0 s0 h' k (pc + 1)) : hz_Kt p l e R s m args below meth c Q y G n0 s0 h' (hz_sem dz rc cl .iastore k) pc := by
  intro lv st h H locs ls hh hn hs hH hS hl
  dsimp only [hz_sem] at hh
  obtain ⟨hx, hb, hown, hts⟩ := C
  split at hh
  · split at hh
    · rename_i x i a st' xo t es ea
      rw [cond_eq_ite] at hh
      split at hh
      · rename_i ht
        have e1 := hy_beq ht
        subst e1
        split at hh
        · rename_i hi
          have he := hz_wl_get G ea
          have hc9 : ∀ es', hz_cell G (14, es') = .inl (hy_cy G 0, es'.length, .inl fun j => hz_io (es'.getD j (.int 0))) := fun es' => rfl
          rw [hc9] at he
          have hv := hy_vin hi
          have hix : hy_ix i < es.length := Nat.not_le.mp fun z => hv (Or.inr z)
          refine va_iast (D := hy_D G) hx hb hU.1 hH.1 hH.2.1 hS a 0 he rfl hv hd (fun H1 locs1 hP hD hS1 => ?_)
          refine hz_store hb0 ea (List.length_set) ?_ hh hn hs hP hD hS1 hl K
          rw [hc9, List.length_set]
          congr 4
          funext j
          unfold upd
          by_cases hj : j = i.toNatClampNeg
          · subst hj
            rw [if_pos rfl, List.getD_eq_getElem?_getD]
            show hz_io (((es.set (hy_ix i) (.int x))[hy_ix i]?).getD _) = x
            rw [List.getElem?_set_self hix]
            rfl
          · rw [if_neg hj, List.getD_eq_getElem?_getD]
            show hz_io (((es.set (hy_ix i) (.int x))[j]?).getD _) = hz_io (es.getD j (.int 0))
            rw [List.getElem?_set_ne (show hy_ix i ≠ j from fun z => hj z.symm), ← List.getD_eq_getElem?_getD]
        · cases hh
      · cases hh
    · cases hh
  · cases hh
theorem hz_s_castore (C : hz_Cx p c s m args y) (hU : hz_KU G s) (hb0 : s.heap.size = hy_base G + n0) (hd : decode (hz_b y) pc = .ok (.castore, 1)) (K : hz_Kt p l e R s m args below meth c Q y G n0 s0 h' k (pc + 1)) : hz_Kt p l e R s m args below meth c Q y G n0 s0 h' (hz_sem dz rc cl .castore k) pc := by
  intro lv st h H locs ls hh hn hs hH hS hl
  dsimp only [hz_sem] at hh
  obtain ⟨hx, hb, hown, hts⟩ := C
  split at hh
  · split at hh
    · rename_i x i a st' xo t es ea
      rw [cond_eq_ite] at hh
      split at hh
      · rename_i ht
        have e1 := hy_beq ht
        subst e1
        split at hh
        · rename_i hi
          have he := hz_wl_get G ea
          have hc9 : ∀ es', hz_cell G (15, es') = .inl (hy_cy G 1, es'.length, .inl fun j => hz_io (es'.getD j (.int 0))) := fun es' => rfl
          rw [hc9] at he
          have hv := hy_vin hi.1
          have hix : hy_ix i < es.length := Nat.not_le.mp fun z => hv (Or.inr z)
          refine va_cast (D := hy_D G) hx hb hU.1 hH.1 hH.2.1 hS a 1 he rfl hv hd (fun H1 locs1 hP hD hS1 => ?_)
          rw [hi.2] at hP hD
          refine hz_store hb0 ea (List.length_set) ?_ hh hn hs hP hD hS1 hl K
          rw [hc9, List.length_set]
          congr 4
          funext j
          unfold upd
          by_cases hj : j = i.toNatClampNeg
          · subst hj
            rw [if_pos rfl, List.getD_eq_getElem?_getD]
            show hz_io (((es.set (hy_ix i) (.int x))[hy_ix i]?).getD _) = x
            rw [List.getElem?_set_self hix]
            rfl
          · rw [if_neg hj, List.getD_eq_getElem?_getD]
            show hz_io (((es.set (hy_ix i) (.int x))[j]?).getD _) = hz_io (es.getD j (.int 0))
            rw [List.getElem?_set_ne (show hy_ix i ≠ j from fun z => hj z.symm), ← List.getD_eq_getElem?_getD]
        · cases hh
      · cases hh
    · cases hh
  · cases hh
theorem hz_s_aastore (C : hz_Cx p c s m args y) (hU : hz_KU G s) (hb0 : s.heap.size = hy_base G + n0) (hd : decode (hz_b y) pc = .ok (.aastore, 1)) (K : hz_Kt p l e R s m args below meth c Q y G n0 s0 h' k (pc + 1)) : hz_Kt p l e R s m args below meth c Q y G n0 s0 h' (hz_sem dz rc cl .aastore k) pc := by
  intro lv st h H locs ls hh hn hs hH hS hl
  dsimp only [hz_sem] at hh
  obtain ⟨hx, hb, hown, hts⟩ := C
  split at hh
  · split at hh
    · rename_i v i a st' xo xo2 t es t' fs ea ev
      split at hh
      · rename_i n kd off sd hra
        rw [cond_eq_ite] at hh
        split at hh
        · rename_i hc
          rw [Bool.and_eq_true] at hc
          have e1 := hy_beq hc.1
          subst e1
          obtain ⟨g1, g2, g3, g4, g5⟩ := hz_ra_in hra
          split at hh
          · rename_i hi
            have he := hz_wl_get G ea
            have hev := hz_wl_get G ev
            have hc9 : ∀ es', hz_cell G (t, es') = .inl (hy_cy G t, es'.length, .inr (.inr (.inr (.inr fun j => hz_ro G (es'.getD j .null))))) := fun es' => by
              unfold hz_cell; rw [if_neg (show ¬ t ≤ 9 by omega), if_pos (show t ≤ 13 by omega)]
            have hc8 : hz_cell G (t', fs) = .inr (t' - 1, fs.map (hz_cv G)) := by
              unfold hz_cell; rw [if_pos (show t' ≤ 9 by omega)]
            rw [hc9] at he
            rw [hc8] at hev
            have hv := hy_vin hi
            have hix : hy_ix i < es.length := Nat.not_le.mp fun z => hv (Or.inr z)
            have fin : ∀ t0 : Nat, (hy_tys G)[t0]? = some (hy_cy G t, FieldType.object (hy_cn t')) → W p l e R s m args below meth c H locs (h.length - n0) (hz_sz h - s0) Q (F0 m pc ls ((Value.ref v :: Value.int i :: Value.ref a :: st').map (hz_cv G))) := by
              intro t0 ht0
              refine va_astq (D := hy_D G) hx hb hU.1 hH.1 hH.2.1 hS a t0 v (t' - 1) he ht0 hev (hy_clk g3 g4) hv hd (fun H1 locs1 hP hD hS1 => ?_)
              refine hz_store hb0 ea (List.length_set) ?_ hh hn hs hP hD hS1 hl K
              rw [hc9, List.length_set]
              congr 7
              funext j
              unfold va_up
              by_cases hj : j = i.toNatClampNeg
              · subst hj
                rw [if_pos rfl, List.getD_eq_getElem?_getD]
                show hz_ro G (((es.set (hy_ix i) (.ref v))[hy_ix i]?).getD _) = _
                rw [List.getElem?_set_self hix]
                rfl
              · rw [if_neg hj, List.getD_eq_getElem?_getD]
                show hz_ro G (((es.set (hy_ix i) (.ref v))[j]?).getD _) = hz_ro G (es.getD j .null)
                rw [List.getElem?_set_ne (show hy_ix i ≠ j from fun z => hj z.symm), ← List.getD_eq_getElem?_getD]
            rcases g5 with ⟨z, g5⟩ | ⟨z, g5⟩ | ⟨z, g5⟩ | ⟨z, g5⟩
            · exact fin 3 (by rw [g5, z]; rfl)
            · exact fin 4 (by rw [g5, z]; rfl)
            · exact fin 5 (by rw [g5, z]; rfl)
            · exact fin 6 (by rw [g5, z]; rfl)
          · cases hh
        · cases hh
      · cases hh
    · cases hh
  · cases hh
end HZS
