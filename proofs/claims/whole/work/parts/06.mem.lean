/-! THE SMALL MACHINE AGAINST THE JVM: fields, arrays, switches, the library; written by wip/gen/gen6.py -/
theorem hy_lp_ok2 : ((List.range 10).all fun kd => (List.range (hy_N kd)).all fun k => hy_wAt ((hy_LP.getD kd []).getD k 0) (u_lay (hy_cn kd) (hy_T kd) k) && decide ((hy_T kd k).1 = hy_cn kd)) = true := by decide +kernel
theorem hy_all2 {f : Nat → Nat → Bool} {n : Nat} {N : Nat → Nat} (h : ((List.range n).all fun a => (List.range (N a)).all fun b => f a b) = true) {a b : Nat} (ha : a < n) (hb : b < N a) : f a b = true :=
  List.all_eq_true.mp (List.all_eq_true.mp h a (List.mem_range.mpr ha)) b (List.mem_range.mpr hb)
theorem hy_all1 {f : Nat → Bool} {n : Nat} (h : ((List.range n).all f) = true) {a : Nat} (ha : a < n) : f a = true := List.all_eq_true.mp h a (List.mem_range.mpr ha)
theorem hy_in {kd : Nat} (h : kd ≤ 9) : ∀ w ∈ u_ws (hy_cn kd) (hy_T kd) (hy_N kd), w ∈ hy_TB := by
  intro w hw
  obtain ⟨k, hk, rfl⟩ := List.mem_map.mp hw
  have h1 := hy_all2 hy_lp_ok2 (a := kd) (b := k) (by omega) (List.mem_range.mp hk)
  rw [Bool.and_eq_true] at h1
  exact hy_wAt_mem h1.1
theorem hy_decl {kd k : Nat} (h : kd ≤ 9) (hk : k < hy_N kd) : (hy_T kd k).1 = hy_cn kd := by
  have h1 := hy_all2 hy_lp_ok2 (a := kd) (b := k) (by omega) hk
  rw [Bool.and_eq_true] at h1
  exact of_decide_eq_true h1.2
theorem hy_tyk {kd : Nat} (h : kd ≤ 9) : ∀ k, k < hy_N kd → parseFieldDescriptor (hy_T kd k).2.2.1 = some (hy_ty kd k) := fun k hk => of_decide_eq_true (hy_all2 hy_ty_ok (a := kd) (b := k) (by omega) hk)
theorem hy_nmk {kd : Nat} (h : kd ≤ 9) : ∀ a, a < hy_N kd → ∀ b, b < hy_N kd → a ≠ b → (hy_T kd a).2.1 ≠ (hy_T kd b).2.1 := fun a ha b hb =>
  of_decide_eq_true (List.all_eq_true.mp (hy_all2 hy_nm_ok (a := kd) (b := a) (by omega) ha) b (List.mem_range.mpr hb))
theorem hy_clk {kd : Nat} (h1 : 1 ≤ kd) (h : kd ≤ 9) : hy_cl[kd - 1]? = some (hy_cn kd, hy_T kd, hy_N kd) := by
  match kd, h1, h with
  | 1, _, _ => rfl
  | 2, _, _ => rfl
  | 3, _, _ => rfl
  | 4, _, _ => rfl
  | 5, _, _ => rfl
  | 6, _, _ => rfl
  | 7, _, _ => rfl
  | 8, _, _ => rfl
  | 9, _, _ => rfl
theorem hy_FL_in : hy_FL.all (fun q => decide (1 ≤ q.2.2.1 / 64 ∧ q.2.2.1 / 64 ≤ 9 ∧ q.2.2.1 % 64 < hy_N (q.2.2.1 / 64) ∧ (hy_fr q.2.2.1 = none → ((hy_T (q.2.2.1 / 64) (q.2.2.1 % 64)).2.2.2 = false ∧ (hy_T (q.2.2.1 / 64) (q.2.2.1 % 64)).2.2.1 = (if q.2.2.1 = 69 ∨ q.2.2.1 = 579 then "Z" else "I"))))) = true := by decide +kernel
abbrev hy_Cx (p : Program) (c : Code) (s : State) (m : MethodId) (args : Array Value) (y : Nat) : Prop := p.tables.exec = Jvm.exec ∧ c.code = hy_b y ∧ s.vm.findClass (hy_cn (hy_own y)) = some m.cls ∧ ∀ w ∈ hy_TB, w.before args s = true
theorem hy_beq {a b : Nat} (h : Nat.beq a b = true) : a = b := Nat.eq_of_beq_eq_true h
theorem hy_cell_obj {G : hy_G} {σ : Sg} {a kd : Nat} (h : hy_ka a = kd) (h1 : 1 ≤ kd) (h9 : kd ≤ 9) : hy_cell G σ a = .inr (kd - 1, (List.range (hy_N kd)).map (hy_fld G σ a kd)) := by
  unfold hy_cell
  simp only [h]
  rw [if_pos ⟨h1, h9⟩]
theorem hy_al_in {kd so : Nat} {n : Int} (h : hy_al kd = some (so, n)) : 14 ≤ kd ∧ kd < 29 := by
  unfold hy_al at h
  cases hb : Nat.ble 14 kd with
  | false => rw [hb] at h; simp at h
  | true =>
    have h14 := Nat.le_of_ble_eq_true hb
    refine ⟨h14, ?_⟩
    rcases Nat.lt_or_ge kd 29 with q | q
    · exact q
    · rw [List.getElem?_eq_none (by simp; omega)] at h
      simp at h
theorem hy_ra_none {kd : Nat} (h : 14 ≤ kd) : hy_ra kd = none := by
  unfold hy_ra
  split
  · omega
  · omega
  · omega
  · omega
  · rfl
theorem hy_cell_arr {G : hy_G} {σ : Sg} {a so : Nat} {n : Int} (h : hy_al (hy_ka a) = some (so, n)) : hy_cell G σ a = .inl (hy_cy G so, n.toNat, .inl (σ a)) := by
  have hk := hy_al_in h
  unfold hy_cell
  simp only
  rw [if_neg (by omega), hy_ra_none hk.1, h]
theorem hy_cell_ref {G : hy_G} {σ : Sg} {a kd off sd : Nat} {n : Int} (h : hy_ra (hy_ka a) = some (n, kd, off, sd)) : hy_cell G σ a = .inl (hy_cy G (hy_ka a), n.toNat, .inr (.inr (.inr (.inr fun i => some (hy_adr G (a + off + sd * i)))))) := by
  have hk : ¬ (1 ≤ hy_ka a ∧ hy_ka a ≤ 9) := by
    intro z
    unfold hy_ra at h
    split at h
    · omega
    · omega
    · omega
    · omega
    · cases h
  unfold hy_cell
  simp only
  rw [if_neg hk, h]
theorem hy_vin {i : Int32} {n : Int} (h : hy_ib i n) : vp_in i n.toNat := vp_in_iff.mpr ⟨h.1, by have := h.1; have := h.2; omega⟩
theorem hy_ka_str {a : Nat} (h : hy_ka a = 31) : ∃ i, i < 6 ∧ a = 1000 + i := by
  unfold hy_ka at h
  by_cases q0 : a < 162
  · rw [if_pos q0] at h
    exact absurd h (by have := hy_all1 (f := fun a => decide (hy_KT.getD a 0 ≠ 31)) (n := 162) (by decide +kernel) q0; exact of_decide_eq_true this)
  · rw [if_neg q0] at h
    by_cases q1 : 1000 ≤ a ∧ a < 1006
    · exact ⟨a - 1000, by omega, by omega⟩
    · rw [if_neg q1] at h
      exfalso
      split at h
      · omega
      · split at h
        · omega
        · split at h <;> omega
theorem hy_ka_byt {a : Nat} (h : hy_ka a = 32) : ∃ i, i < 6 ∧ a = 1010 + i := by
  unfold hy_ka at h
  by_cases q0 : a < 162
  · rw [if_pos q0] at h
    exact absurd h (by have := hy_all1 (f := fun a => decide (hy_KT.getD a 0 ≠ 32)) (n := 162) (by decide +kernel) q0; exact of_decide_eq_true this)
  · rw [if_neg q0] at h
    by_cases q1 : 1000 ≤ a ∧ a < 1006
    · rw [if_pos q1] at h; omega
    · rw [if_neg q1] at h
      by_cases q2 : 1010 ≤ a ∧ a < 1016
      · exact ⟨a - 1010, by omega, by omega⟩
      · rw [if_neg q2] at h
        exfalso
        split at h
        · omega
        · split at h <;> omega
theorem hy_ka_scr {a : Nat} (h : hy_ka a = 30) : a = 2000 := by
  unfold hy_ka at h
  by_cases q0 : a < 162
  · rw [if_pos q0] at h
    exact absurd h (by have := hy_all1 (f := fun a => decide (hy_KT.getD a 0 ≠ 30)) (n := 162) (by decide +kernel) q0; exact of_decide_eq_true this)
  · rw [if_neg q0] at h
    split at h
    · omega
    · split at h
      · omega
      · split at h
        · omega
        · split at h
          · assumption
          · omega
theorem hy_al30 : hy_al 30 = none := by decide +kernel
theorem hy_al32 : hy_al 32 = none := by decide +kernel
theorem hy_SLn_small : ∀ i, i < 6 → hy_SLn.getD i 0 < 2 ^ 31 := by decide +kernel
section HYS
variable {p : Program} {l : Launch} {e : Env} {R : Room} {s : State} {m : MethodId} {args : Array Value} {below : List Frame} {meth : Method} {c : Code} {cells slots : Nat} {Q : State → Prop} {y : Nat} {G : hy_G} {r : Vl} {σr : Sg} {k : List Vl → List Vl → Sg → Rs} {pc : Nat}
variable {rt : Nat} {dz : Bool} {rc : Nat → List Vl → List Vl → Sg → Rs} {cl : Nat → List Vl → Sg → Rs}
theorem hy_s_getfield {pf : Nat} {q : Nat × Nat × Nat × Nat} (C : hy_Cx p c s m args y) (hU : hy_KU G s) (hq : q ∈ hy_FL) (hq1 : q.1 = hy_own y) (hq2 : q.2.2.1 = pf) (hd : decode (hy_b y) pc = .ok (.getfield q.2.1, 3)) (K : hy_Kt p l e R s m args below meth c cells slots Q y G r σr k (pc + 3)) : hy_Kt p l e R s m args below meth c cells slots Q y G r σr (hy_sem rt dz rc cl (.getfield pf) k) pc := by
  intro lv st σ H locs ls h v1 v2 hH hS hl
  dsimp only [hy_sem] at h
  obtain ⟨hx, hb, hown, hts⟩ := C
  subst hq2
  obtain ⟨hk1, hk9, hkN, -⟩ := of_decide_eq_true (List.all_eq_true.mp hy_FL_in q hq)
  have hw := hts _ (hy_wAt_mem (List.all_eq_true.mp hy_fl_ok q hq))
  split at h
  · rename_i a kd st
    cases hbq : Nat.beq kd (q.2.2.1 / 64) with
    | false => rw [hbq] at h; cases h
    | true =>
      rw [hbq] at h
      have hkd := hy_beq hbq
      have hka : hy_ka a = q.2.2.1 / 64 := ((hy_v0 v2).1 a rfl).trans hkd
      have ha : a < 162 := hy_ka_lt (by omega) (by omega)
      have he := hy_wl_get G σ ha
      rw [hy_cell_obj hka hk1 hk9] at he
      have hv : ((List.range (hy_N (q.2.2.1 / 64))).map (hy_fld G σ a (q.2.2.1 / 64)))[q.2.2.1 % 64]? = some (hy_fld G σ a (q.2.2.1 / 64) (q.2.2.1 % 64)) := by
        rw [List.getElem?_map, List.getElem?_range hkN]; rfl
      refine va_get (D := hy_D G) (C := hy_cn (q.2.2.1 / 64)) (T := hy_T (q.2.2.1 / 64)) (N := hy_N (q.2.2.1 / 64)) (own := hy_cn q.1) (ref := hy_cn (q.2.2.1 / 64)) hx hb hts (hy_in hk9) (by rw [hq1]; exact hown) hU.1 hH.1 a he (hy_clk hk1 hk9) (q.2.2.1 % 64) hkN hw (fun x hx => by rw [hy_decl hk9 hkN] at hx; exact hx) hv hd ?_
      have hpf : q.2.2.1 / 64 * 64 + q.2.2.1 % 64 = q.2.2.1 := by omega
      unfold hy_fld
      rw [hpf]
      cases hfr : hy_fr q.2.2.1 with
      | none =>
        rw [hfr] at h
        exact K _ _ _ _ _ _ h v1 (hy_vc (hy_VTi _ _) (hy_vt v2)) hH hS hl
      | some w =>
        obtain ⟨kd', off⟩ := w
        rw [hfr] at h
        have hl1 := hy_all2 hy_lay_fr (a := a) (b := q.2.2.1 % 64) ha (by omega)
        rw [hka, hpf, hfr] at hl1
        exact K _ _ _ _ _ _ h v1 (hy_vc (hy_VTr (hy_beq hl1)) (hy_vt v2)) hH hS hl
  · cases h
theorem hy_s_getfieldS {pf : Nat} {q : Nat × Nat × Nat × Nat} (C : hy_Cx p c s m args y) (hU : hy_KU G s) (hq : q ∈ hy_SL) (hq1 : q.1 = hy_own y) (hq2 : q.2.2.1 = pf) (hd : decode (hy_b y) pc = .ok (.getfield q.2.1, 3)) (K : hy_Kt p l e R s m args below meth c cells slots Q y G r σr k (pc + 3)) : hy_Kt p l e R s m args below meth c cells slots Q y G r σr (hy_sem rt dz rc cl (.getfield pf) k) pc := by
  intro lv st σ H locs ls h v1 v2 hH hS hl
  dsimp only [hy_sem] at h
  obtain ⟨hx, hb, hown, hts⟩ := C
  subst hq2
  have hw := hts _ (hy_wAt_mem (List.all_eq_true.mp hy_sl_ok q hq))
  have hpq : q.2.2.1 = 1984 ∨ q.2.2.1 = 1985 := of_decide_eq_true (List.all_eq_true.mp (show hy_SL.all (fun q => decide (q.2.2.1 = 1984 ∨ q.2.2.1 = 1985)) = true by decide +kernel) q hq)
  split at h
  · rename_i a kd st
    cases hbq : Nat.beq kd (q.2.2.1 / 64) with
    | false => rw [hbq] at h; cases h
    | true =>
      rw [hbq] at h
      have hkd := hy_beq hbq
      have hka : hy_ka a = 31 := ((hy_v0 v2).1 a rfl).trans (hkd.trans (by rcases hpq with z | z <;> rw [z]))
      obtain ⟨i, hi, rfl⟩ := hy_ka_str hka
      obtain ⟨-, -, -, -, -, -, hstr, -⟩ := hU
      obtain ⟨-, hco, hva, -⟩ := hstr.1 i hi
      have h1 : s.vm.findClass (hy_cn q.1) = some m.cls := by rw [hq1]; exact hown
      rcases hpq with z | z
      · rw [z] at h hw
        refine vk_getf hx hb hva hS h1 hw (fun _ h => h) hd ?_
        exact K _ _ _ _ _ _ h v1 (hy_vc (hy_VTr (show hy_ka (hy_ad 10 (1000 + i)) = 32 by
          show hy_ka (1000 + i + 10) = 32
          unfold hy_ka
          rw [if_neg (by omega), if_neg (by omega), if_pos (by omega)])) (hy_vt v2)) hH hS hl |> fun z => by
            have e : hy_cv G (.ref (hy_ad 10 (1000 + i)), 32) = .ref (hy_adr G (1010 + i)) := by
              show Value.ref (hy_adr G (1000 + i + 10)) = _
              rw [show 1000 + i + 10 = 1010 + i by omega]
            rw [List.map_cons, e] at z
            exact z
      · rw [z] at h hw
        refine vk_getf hx hb hco hS h1 hw (fun _ h => h) hd ?_
        have e0 : σ (1000 + i) 1 = 0 := ((hH.2.2.1 i hi).2.2)
        have h' : k lv ((.int (σ (1000 + i) 1), 0) :: st) σ = some (r, σr) := h
        rw [e0] at h'
        exact K _ _ _ _ _ _ h' v1 (hy_vc (hy_VTi _ _) (hy_vt v2)) hH hS hl
  · cases h
theorem hy_s_putfield {pf : Nat} {q : Nat × Nat × Nat × Nat} (C : hy_Cx p c s m args y) (hU : hy_KU G s) (hq : q ∈ hy_FL) (hq1 : q.1 = hy_own y) (hq2 : q.2.2.1 = pf) (hd : decode (hy_b y) pc = .ok (.putfield q.2.1, 3)) (K : hy_Kt p l e R s m args below meth c cells slots Q y G r σr k (pc + 3)) : hy_Kt p l e R s m args below meth c cells slots Q y G r σr (hy_sem rt dz rc cl (.putfield pf) k) pc := by
  intro lv st σ H locs ls h v1 v2 hH hS hl
  dsimp only [hy_sem] at h
  obtain ⟨hx, hb, hown, hts⟩ := C
  subst hq2
  obtain ⟨hk1, hk9, hkN, hkI⟩ := of_decide_eq_true (List.all_eq_true.mp hy_FL_in q hq)
  have hw := hts _ (hy_wAt_mem (List.all_eq_true.mp hy_fl_ok q hq))
  split at h
  · rename_i x q1 a kd st
    cases hbq : Nat.beq kd (q.2.2.1 / 64) with
    | false => rw [hbq] at h; cases h
    | true =>
      rw [hbq] at h
      have hkd := hy_beq hbq
      have hka : hy_ka a = q.2.2.1 / 64 := ((hy_v0 (hy_vt v2)).1 a rfl).trans hkd
      have ha : a < 162 := hy_ka_lt (by omega) (by omega)
      have he := hy_wl_get G σ ha
      rw [hy_cell_obj hka hk1 hk9] at he
      have hpf : q.2.2.1 / 64 * 64 + q.2.2.1 % 64 = q.2.2.1 := by omega
      cases hfr : hy_fr q.2.2.1 with
      | some w => rw [hfr] at h; cases h
      | none =>
        rw [hfr] at h
        dsimp only [cond_true] at h
        obtain ⟨hfin, hdesc⟩ := hkI hfr
        have hset : ((List.range (hy_N (q.2.2.1 / 64))).map (hy_fld G σ a (q.2.2.1 / 64))).set (q.2.2.1 % 64) (.int x) = (List.range (hy_N (q.2.2.1 / 64))).map (hy_fld G (hy_up σ a (q.2.2.1 % 64) x) a (q.2.2.1 / 64)) := by
          apply List.ext_getElem?
          intro j
          by_cases hj : q.2.2.1 % 64 = j
          · subst hj
            rw [List.getElem?_set_self (by simpa using hkN), List.getElem?_map, List.getElem?_range hkN]
            show _ = some (hy_fld G (hy_up σ a (q.2.2.1 % 64) x) a (q.2.2.1 / 64) (q.2.2.1 % 64))
            unfold hy_fld
            rw [hpf, hfr, hy_up_eq]
            simp [upd]
          · rw [List.getElem?_set_ne hj, List.getElem?_map, List.getElem?_map]
            by_cases hjN : j < hy_N (q.2.2.1 / 64)
            · rw [List.getElem?_range hjN]
              show some (hy_fld G σ a _ j) = some (hy_fld G (hy_up σ a (q.2.2.1 % 64) x) a _ j)
              unfold hy_fld
              rw [hy_up_eq]
              simp [upd, Ne.symm hj]
            · rw [List.getElem?_eq_none (by simp; omega)]
              rfl
        have hcell : hy_cell G (hy_up σ a (q.2.2.1 % 64) x) a = .inr (q.2.2.1 / 64 - 1, ((List.range (hy_N (q.2.2.1 / 64))).map (hy_fld G σ a (q.2.2.1 / 64))).set (q.2.2.1 % 64) (.int x)) := by
          rw [hset]; exact hy_cell_obj hka hk1 hk9
        have go : ∀ ty : FieldType, parseFieldDescriptor (hy_T (q.2.2.1 / 64) (q.2.2.1 % 64)).2.2.1 = some ty → narrow ty (.int x) = .int x → fits ty (.int x) = true → k lv st (hy_up σ a (q.2.2.1 % 64) x) = some (r, σr) → W p l e R s m args below meth c H locs cells slots Q (F0 m pc ls (((Value.int x, q1) :: (Value.ref a, kd) :: st).map (hy_cv G))) := by
          intro ty hd1 hn hf h
          refine va_put (D := hy_D G) (C := hy_cn (q.2.2.1 / 64)) (T := hy_T (q.2.2.1 / 64)) (N := hy_N (q.2.2.1 / 64)) (own := hy_cn q.1) (ref := hy_cn (q.2.2.1 / 64)) hx hb hts (hy_in hk9) (hy_ty (q.2.2.1 / 64)) (hy_tyk hk9) (hy_nmk hk9) (by rw [hq1]; exact hown) hU.1 hH.1 hH.2.1 hS a he (hy_clk hk1 hk9) (q.2.2.1 % 64) hkN hw (fun x hx => by rw [hy_decl hk9 hkN] at hx; exact hx) hfin hd1 hn hf (by simpa using hkN) hd (fun H1 locs1 hP hD hS1 => ?_)
          exact K _ _ _ _ _ _ h v1 (hy_vt (hy_vt v2)) (hy_HR_set ha hcell (fun j hj => hy_up_ne σ hj) hP hD hH.2.2) hS1 hl
        cases hbz : (Nat.beq q.2.2.1 69 || Nat.beq q.2.2.1 579) with
        | false =>
          rw [hbz] at h
          dsimp only [cond_false] at h
          have hne : ¬ (q.2.2.1 = 69 ∨ q.2.2.1 = 579) := fun z => by
            rcases z with z | z <;> rw [z] at hbz <;> exact absurd hbz (by decide)
          rw [if_neg hne] at hdesc
          exact go .int (by rw [hdesc]; decide) rfl rfl h
        | true =>
          rw [hbz] at h
          dsimp only [cond_true] at h
          have he : q.2.2.1 = 69 ∨ q.2.2.1 = 579 := by
            rw [Bool.or_eq_true] at hbz
            exact hbz.imp hy_beq hy_beq
          rw [if_pos he] at hdesc
          split at h
          · rename_i hx01
            exact go .boolean (by rw [hdesc]; decide) (by rcases hx01 with z | z <;> rw [z] <;> decide) (by rcases hx01 with z | z <;> rw [z] <;> decide) h
          · cases h
  · cases h
theorem hy_s_iaload  (C : hy_Cx p c s m args y) (hU : hy_KU G s) (hd : decode (hy_b y) pc = .ok (.iaload, 1)) (K : hy_Kt p l e R s m args below meth c cells slots Q y G r σr k (pc + 1)) : hy_Kt p l e R s m args below meth c cells slots Q y G r σr (hy_sem rt dz rc cl (.iaload) k) pc := by
  intro lv st σ H locs ls h v1 v2 hH hS hl
  dsimp only [hy_sem] at h
  obtain ⟨hx, hb, hown, hts⟩ := C
  split at h
  · rename_i i q1 a kd st
    have hka : hy_ka a = kd := (hy_v0 (hy_vt v2)).1 a rfl
    cases hal : hy_al kd with
    | none =>
      rw [hal] at h
      cases hbq : Nat.beq kd 30 with
      | false => rw [hbq] at h; cases h
      | true =>
        rw [hbq] at h
        dsimp only [cond_true] at h
        split at h
        · rename_i hi
          have hka' : hy_ka a = 30 := hka.trans (hy_beq hbq)
          have ea := hy_ka_scr hka'
          subst ea
          have hdl : hy_dl σ 2000 = Int32.ofNat (hy_L G) := hH.2.2.2.2
          have hLt : (hy_dl σ 2000).toInt = (hy_L G : Int) := by rw [hdl]; exact nI_toInt hU.2.2.2.2.1
          rw [hLt] at hi
          have hi' : vp_in i (hy_L G) := hy_vin hi
          have hix : hy_ix i < hy_L G := Nat.not_le.mp fun z => hi' (Or.inr z)
          have e0 : σ 2000 (hy_ix i) = hy_xs G (hy_ix i) := hH.2.2.2.1 _ hix
          rw [e0] at h
          obtain ⟨-, -, hbase, hb2, -, hX, -⟩ := hU
          exact va_sld hx hb hX (by omega) (by unfold hy_A; omega) hS hi' hd (K _ _ _ _ _ _ h v1 (hy_vc (hy_VTi _ _) (hy_vt (hy_vt v2))) hH hS hl)
        · cases h
    | some w =>
      obtain ⟨so, n⟩ := w
      have hin := hy_al_in hal
      rw [hal] at h
      match so, hal, h with
      | 0, hal, h =>
        have h : (if hy_ib i n then k lv ((.int (σ a (hy_ix i)), 0) :: st) σ else none) = some (r, σr) := h
        split at h
        · rename_i hi
          have ha : a < 162 := hy_ka_lt (by omega) (by omega)
          have he := hy_wl_get G σ ha
          rw [hy_cell_arr (by rw [hka]; exact hal)] at he
          exact va_iald (D := hy_D G) hx hb hU.1 hH.1 a 0 he rfl (hy_vin hi) hd (K _ _ _ _ _ _ h v1 (hy_vc (hy_VTi _ _) (hy_vt (hy_vt v2))) hH hS hl)
        · cases h
      | 1, hal, h => cases hbq : Nat.beq kd 30 with
        | false => simp [hbq] at h
        | true => rw [hy_beq hbq] at hin; omega
      | n' + 2, hal, h => cases hbq : Nat.beq kd 30 with
        | false => simp [hbq] at h
        | true => rw [hy_beq hbq] at hin; omega
  · cases h
theorem hy_s_caload  (C : hy_Cx p c s m args y) (hU : hy_KU G s) (hd : decode (hy_b y) pc = .ok (.caload, 1)) (K : hy_Kt p l e R s m args below meth c cells slots Q y G r σr k (pc + 1)) : hy_Kt p l e R s m args below meth c cells slots Q y G r σr (hy_sem rt dz rc cl (.caload) k) pc := by
  intro lv st σ H locs ls h v1 v2 hH hS hl
  dsimp only [hy_sem] at h
  obtain ⟨hx, hb, hown, hts⟩ := C
  split at h
  · rename_i i q1 a kd st
    have hka : hy_ka a = kd := (hy_v0 (hy_vt v2)).1 a rfl
    cases hal : hy_al kd with
    | none =>
      rw [hal] at h
      cases h
    | some w =>
      obtain ⟨so, n⟩ := w
      have hin := hy_al_in hal
      rw [hal] at h
      match so, hal, h with
      | 1, hal, h =>
        have h : (if hy_ib i n then k lv ((.int (σ a (hy_ix i)), 0) :: st) σ else none) = some (r, σr) := h
        split at h
        · rename_i hi
          have ha : a < 162 := hy_ka_lt (by omega) (by omega)
          have he := hy_wl_get G σ ha
          rw [hy_cell_arr (by rw [hka]; exact hal)] at he
          exact va_cald (D := hy_D G) hx hb hU.1 hH.1 a 1 he rfl (hy_vin hi) hd (K _ _ _ _ _ _ h v1 (hy_vc (hy_VTi _ _) (hy_vt (hy_vt v2))) hH hS hl)
        · cases h
      | 0, hal, h => cases h
      | n' + 2, hal, h => cases h
  · cases h
theorem hy_s_baload  (C : hy_Cx p c s m args y) (hU : hy_KU G s) (hd : decode (hy_b y) pc = .ok (.baload, 1)) (K : hy_Kt p l e R s m args below meth c cells slots Q y G r σr k (pc + 1)) : hy_Kt p l e R s m args below meth c cells slots Q y G r σr (hy_sem rt dz rc cl (.baload) k) pc := by
  intro lv st σ H locs ls h v1 v2 hH hS hl
  dsimp only [hy_sem] at h
  obtain ⟨hx, hb, hown, hts⟩ := C
  split at h
  · rename_i i q1 a kd st
    have hka : hy_ka a = kd := (hy_v0 (hy_vt v2)).1 a rfl
    cases hal : hy_al kd with
    | none =>
      rw [hal] at h
      cases hbq : Nat.beq kd 32 with
      | false => rw [hbq] at h; cases h
      | true =>
        rw [hbq] at h
        dsimp only [cond_true] at h
        split at h
        · rename_i hi
          have hka' : hy_ka a = 32 := hka.trans (hy_beq hbq)
          obtain ⟨j, hj, rfl⟩ := hy_ka_byt hka'
          obtain ⟨hs1, hs2, -⟩ := hH.2.2.1 j hj
          have hdl : hy_dl σ (1010 + j) = Int32.ofNat (hy_SLn.getD j 0) := hs2
          have hLt : (hy_dl σ (1010 + j)).toInt = ((hy_SLn.getD j 0 : Nat) : Int) := by rw [hdl]; exact nI_toInt (hy_SLn_small j hj)
          rw [hLt] at hi
          have hi' : vp_in i (hy_SLn.getD j 0) := hy_vin hi
          have hix : hy_ix i < hy_SLn.getD j 0 := Nat.not_le.mp fun z => hi' (Or.inr z)
          have e0 := hs1 _ hix
          obtain ⟨-, -, -, -, -, -, hstr, -⟩ := hU
          obtain ⟨-, -, -, hT⟩ := hstr.1 j hj
          have h' : k lv ((.int (σ (1010 + j) (hy_ix i)), 0) :: st) σ = some (r, σr) := h
          rw [e0] at h'
          exact va_tb hx hb hT hS hi' rfl hd (K _ _ _ _ _ _ h' v1 (hy_vc (hy_VTi _ _) (hy_vt (hy_vt v2))) hH hS hl)
        · cases h
    | some w =>
      obtain ⟨so, n⟩ := w
      have hin := hy_al_in hal
      rw [hal] at h
      match so, hal, h with
      | 2, hal, h =>
        have h : (if hy_ib i n then k lv ((.int (σ a (hy_ix i)), 0) :: st) σ else none) = some (r, σr) := h
        split at h
        · rename_i hi
          have ha : a < 162 := hy_ka_lt (by omega) (by omega)
          have he := hy_wl_get G σ ha
          rw [hy_cell_arr (by rw [hka]; exact hal)] at he
          exact va_zald (D := hy_D G) hx hb hU.1 hH.1 a 2 he rfl (hy_vin hi) hd (K _ _ _ _ _ _ h v1 (hy_vc (hy_VTi _ _) (hy_vt (hy_vt v2))) hH hS hl)
        · cases h
      | 0, hal, h => cases hbq : Nat.beq kd 32 with
        | false => simp [hbq] at h
        | true => rw [hy_beq hbq] at hin; omega
      | 1, hal, h => cases hbq : Nat.beq kd 32 with
        | false => simp [hbq] at h
        | true => rw [hy_beq hbq] at hin; omega
      | n' + 3, hal, h => cases hbq : Nat.beq kd 32 with
        | false => simp [hbq] at h
        | true => rw [hy_beq hbq] at hin; omega
  · cases h
theorem hy_s_iastore  (C : hy_Cx p c s m args y) (hU : hy_KU G s) (hd : decode (hy_b y) pc = .ok (.iastore, 1)) (K : hy_Kt p l e R s m args below meth c cells slots Q y G r σr k (pc + 1)) : hy_Kt p l e R s m args below meth c cells slots Q y G r σr (hy_sem rt dz rc cl (.iastore) k) pc := by
  intro lv st σ H locs ls h v1 v2 hH hS hl
  dsimp only [hy_sem] at h
  obtain ⟨hx, hb, hown, hts⟩ := C
  split at h
  · rename_i x q1 i q2 a kd st
    have hka : hy_ka a = kd := (hy_v0 (hy_vt (hy_vt v2))).1 a rfl
    cases hal : hy_al kd with
    | none =>
      rw [hal] at h
      cases h
    | some w =>
      obtain ⟨so, n⟩ := w
      have hin := hy_al_in hal
      rw [hal] at h
      match so, hal, h with
      | 0, hal, h =>
        have h : (if hy_ib i n then k lv st (hy_up σ a (hy_ix i) x) else none) = some (r, σr) := h
        split at h
        · rename_i hi
          have ha : a < 162 := hy_ka_lt (by omega) (by omega)
          have he := hy_wl_get G σ ha
          rw [hy_cell_arr (by rw [hka]; exact hal)] at he
          refine va_iast (D := hy_D G) hx hb hU.1 hH.1 hH.2.1 hS a 0 he rfl (hy_vin hi) hd (fun H1 locs1 hP hD hS1 => ?_)
          refine K _ _ _ _ _ _ h v1 (hy_vt (hy_vt (hy_vt v2))) (hy_HR_set ha ?_ (fun j hj => hy_up_ne σ hj) hP hD hH.2.2) hS1 hl
          rw [hy_cell_arr (so := 0) (n := n) (by rw [hka]; exact hal), hy_up_eq]
          rfl
        · cases h
      | n' + 1, hal, h => cases h
  · cases h
theorem hy_s_bastore  (C : hy_Cx p c s m args y) (hU : hy_KU G s) (hd : decode (hy_b y) pc = .ok (.bastore, 1)) (K : hy_Kt p l e R s m args below meth c cells slots Q y G r σr k (pc + 1)) : hy_Kt p l e R s m args below meth c cells slots Q y G r σr (hy_sem rt dz rc cl (.bastore) k) pc := by
  intro lv st σ H locs ls h v1 v2 hH hS hl
  dsimp only [hy_sem] at h
  obtain ⟨hx, hb, hown, hts⟩ := C
  split at h
  · rename_i x q1 i q2 a kd st
    have hka : hy_ka a = kd := (hy_v0 (hy_vt (hy_vt v2))).1 a rfl
    cases hal : hy_al kd with
    | none =>
      rw [hal] at h
      cases h
    | some w =>
      obtain ⟨so, n⟩ := w
      have hin := hy_al_in hal
      rw [hal] at h
      match so, hal, h with
      | 2, hal, h =>
        have h : (if hy_ib i n then (if x = 0 ∨ x = 1 then k lv st (hy_up σ a (hy_ix i) x) else none) else none) = some (r, σr) := h
        split at h
        · rename_i hi
          split at h
          case isFalse => cases h
          rename_i hx01
          have ha : a < 162 := hy_ka_lt (by omega) (by omega)
          have he := hy_wl_get G σ ha
          rw [hy_cell_arr (by rw [hka]; exact hal)] at he
          refine va_zast (D := hy_D G) hx hb hU.1 hH.1 hH.2.1 hS a 2 he rfl (hy_vin hi) hd (fun H1 locs1 hP hD hS1 => ?_)
          have ex : vp_nar .boolean x = x := by rcases hx01 with z | z <;> rw [z] <;> decide
          rw [ex] at hP hD
          refine K _ _ _ _ _ _ h v1 (hy_vt (hy_vt (hy_vt v2))) (hy_HR_set ha ?_ (fun j hj => hy_up_ne σ hj) hP hD hH.2.2) hS1 hl
          rw [hy_cell_arr (so := 2) (n := n) (by rw [hka]; exact hal), hy_up_eq]
          rfl
        · cases h
      | 0, hal, h => cases h
      | 1, hal, h => cases h
      | n' + 3, hal, h => cases h
  · cases h
theorem hy_s_aaload  (C : hy_Cx p c s m args y) (hU : hy_KU G s) (hd : decode (hy_b y) pc = .ok (.aaload, 1)) (K : hy_Kt p l e R s m args below meth c cells slots Q y G r σr k (pc + 1)) : hy_Kt p l e R s m args below meth c cells slots Q y G r σr (hy_sem rt dz rc cl (.aaload) k) pc := by
  intro lv st σ H locs ls h v1 v2 hH hS hl
  dsimp only [hy_sem] at h
  obtain ⟨hx, hb, hown, hts⟩ := C
  split at h
  · rename_i i q1 a kd st
    have hka : hy_ka a = kd := (hy_v0 (hy_vt v2)).1 a rfl
    cases hra : hy_ra kd with
    | none => rw [hra] at h; cases h
    | some w =>
      obtain ⟨n, kd', off, sd⟩ := w
      rw [hra] at h
      have h : (if hy_ib i n then k lv ((.ref (a + off + sd * hy_ix i), kd') :: st) σ else none) = some (r, σr) := h
      split at h
      · rename_i hi
        have hk : (kd = 10 ∨ kd = 11 ∨ kd = 12 ∨ kd = 13) := by
          unfold hy_ra at hra
          split at hra
          · exact Or.inl rfl
          · exact Or.inr (Or.inl rfl)
          · exact Or.inr (Or.inr (Or.inl rfl))
          · exact Or.inr (Or.inr (Or.inr rfl))
          · cases hra
        have ha : a < 162 := hy_ka_lt (by omega) (by omega)
        have he := hy_wl_get G σ ha
        rw [hy_cell_ref (by rw [hka]; exact hra), hka] at he
        have hv := hy_vin hi
        have hix : hy_ix i < n.toNat := Nat.not_le.mp fun z => hv (Or.inr z)
        have hl1 := hy_all1 hy_lay_ra (a := a) ha
        rw [hka, hra] at hl1
        have hl2 := hy_all1 hl1 (a := hy_ix i) hix
        have hK := K _ _ _ _ _ _ h v1 (hy_vc (hy_VTr (hy_beq hl2)) (hy_vt (hy_vt v2))) hH hS hl
        have fin : ∀ (t0 : Nat) (Cn : String), (hy_tys G)[t0]? = some (hy_cy G kd, .object Cn) → W p l e R s m args below meth c H locs cells slots Q (F0 m pc ls (((Value.int i, q1) :: (Value.ref a, kd) :: st).map (hy_cv G))) := fun t0 Cn ht =>
          va_aldq (D := hy_D G) hx hb hU.1 hH.1 a t0 he ht hv hd hK
        rcases hk with z | z | z | z
        · exact fin 3 _ (by rw [z]; rfl)
        · exact fin 4 _ (by rw [z]; rfl)
        · exact fin 5 _ (by rw [z]; rfl)
        · exact fin 6 _ (by rw [z]; rfl)
      · cases h
  · cases h
theorem hy_s_arraylength  (C : hy_Cx p c s m args y) (hU : hy_KU G s) (hd : decode (hy_b y) pc = .ok (.arraylength, 1)) (K : hy_Kt p l e R s m args below meth c cells slots Q y G r σr k (pc + 1)) : hy_Kt p l e R s m args below meth c cells slots Q y G r σr (hy_sem rt dz rc cl (.arraylength) k) pc := by
  intro lv st σ H locs ls h v1 v2 hH hS hl
  dsimp only [hy_sem] at h
  obtain ⟨hx, hb, hown, hts⟩ := C
  split at h
  · rename_i a kd st
    have hka : hy_ka a = kd := (hy_v0 v2).1 a rfl
    cases hbz : (Nat.beq kd 30 || Nat.beq kd 32) with
    | false => rw [hbz] at h; cases h
    | true =>
      rw [hbz] at h
      dsimp only [cond_true] at h
      rw [Bool.or_eq_true] at hbz
      rcases hbz with z | z
      · have ea := hy_ka_scr (hka.trans (hy_beq z))
        subst ea
        have hdl : hy_dl σ 2000 = Int32.ofNat (hy_L G) := hH.2.2.2.2
        rw [hdl] at h
        obtain ⟨-, -, hbase, hb2, -, hX, -⟩ := hU
        exact va_slen hx hb hX (by omega) (by unfold hy_A; omega) hS hd (K _ _ _ _ _ _ h v1 (hy_vc (hy_VTi _ _) (hy_vt v2)) hH hS hl)
      · obtain ⟨j, hj, rfl⟩ := hy_ka_byt (hka.trans (hy_beq z))
        have hdl : hy_dl σ (1010 + j) = Int32.ofNat (hy_SLn.getD j 0) := (hH.2.2.1 j hj).2.1
        rw [hdl] at h
        obtain ⟨-, -, -, -, -, -, hstr, -⟩ := hU
        obtain ⟨-, -, -, hT⟩ := hstr.1 j hj
        exact va_tlen hx hb hT hS rfl hd (K _ _ _ _ _ _ h v1 (hy_vc (hy_VTi _ _) (hy_vt v2)) hH hS hl)
  · cases h
theorem hy_s_ldc {i : Nat} {q : Nat × Nat × Nat × Nat} (C : hy_Cx p c s m args y) (hU : hy_KU G s) (hi : i < 6) (hq : q ∈ hy_ST) (hq1 : q.1 = hy_own y) (hq2 : q.2.2.1 = i) (hd : decode (hy_b y) pc = .ok (.ldc q.2.1, 2)) (K : hy_Kt p l e R s m args below meth c cells slots Q y G r σr k (pc + 2)) : hy_Kt p l e R s m args below meth c cells slots Q y G r σr (hy_sem rt dz rc cl (.ldc i) k) pc := by
  intro lv st σ H locs ls h v1 v2 hH hS hl
  dsimp only [hy_sem] at h
  obtain ⟨hx, hb, hown, hts⟩ := C
  subst hq2
  obtain ⟨-, -, -, -, -, -, -, hR, -⟩ := hU
  exact va_ldcS hx hb (by rw [hq1]; exact hown) (hR q hq) hd (K _ _ _ _ _ _ h v1 (hy_vc (hy_VTr (show hy_ka (1000 + q.2.2.1) = 31 by
    unfold hy_ka
    rw [if_neg (by omega), if_pos (by omega)])) v2) hH hS hl)
theorem hy_s_getstatic {i : Nat} {q : Nat × Nat × Nat × Nat} (C : hy_Cx p c s m args y) (hU : hy_KU G s) (hi : i < 2) (hq : q ∈ hy_GS) (hq1 : q.1 = hy_own y) (hq2 : q.2.2.1 = i) (hd : decode (hy_b y) pc = .ok (.getstatic q.2.1, 3)) (K : hy_Kt p l e R s m args below meth c cells slots Q y G r σr k (pc + 3)) : hy_Kt p l e R s m args below meth c cells slots Q y G r σr (hy_sem rt dz rc cl (.getstatic i) k) pc := by
  intro lv st σ H locs ls h v1 v2 hH hS hl
  dsimp only [hy_sem] at h
  obtain ⟨hx, hb, hown, hts⟩ := C
  have hw := hts _ (hy_wAt_mem (List.all_eq_true.mp hy_gs_ok q hq))
  rw [hq2] at hw
  obtain ⟨-, -, -, -, -, -, -, -, -, hZ1, hZ2⟩ := hU
  match i, hi, h, hw with
  | 0, _, h, hw => exact va_gets hx hb hZ1 hS (by rw [hq1]; exact hown) hw (fun _ h => h) hd (K _ _ _ _ _ _ h v1 (hy_vc (hy_VTi _ _) v2) hH hS hl)
  | 1, _, h, hw => exact va_gets hx hb hZ2 hS (by rw [hq1]; exact hown) hw (fun _ h => h) hd (K _ _ _ _ _ _ h v1 (hy_vc (show hy_VT (Value.float 0, 33) from ⟨fun a z => (by cases z), fun x z => (by cases z)⟩) v2) hH hS hl)
end HYS
