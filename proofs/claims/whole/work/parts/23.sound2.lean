/-! MACHINE 2 AGAINST THE JVM -/
def hz_Mo (k : List Value → List Value → Hp → Rz) : Prop := ∀ lv st h h', k lv st h = some h' → h.length ≤ h'.length ∧ hz_sz h ≤ hz_sz h'
theorem hz_sz_set {h : Hp} {a t t' : Nat} {fs fs' : List Value} (e : h[a]? = some (t, fs)) (hl : fs'.length = fs.length) : hz_sz (h.set a (t', fs')) = hz_sz h := by
  unfold hz_sz
  have : (h.set a (t', fs')).map (fun c => c.2.length) = h.map (fun c => c.2.length) := by
    apply List.ext_getElem?
    intro j
    rw [List.getElem?_map, List.getElem?_map]
    by_cases hj : a = j
    · subst hj
      rw [List.getElem?_set_self (List.getElem?_eq_some_iff.mp e).1, e]
      simp [hl]
    · rw [List.getElem?_set_ne hj]
  rw [this]
theorem hz_sz_app (h : Hp) (c : Ce) : hz_sz (h ++ [c]) = hz_sz h + c.2.length := by simp [hz_sz]
section HZM
variable {dz : Bool} {rc : Nat → List Value → List Value → Hp → Rz} {cl : Nat → List Value → Hp → Rz} {k : List Value → List Value → Hp → Rz}
theorem hz_mo_set {h h' : Hp} {a t t' : Nat} {fs fs' : List Value} {lv st : List Value} (hk : hz_Mo k) (e : h[a]? = some (t, fs)) (hl : fs'.length = fs.length) (hh : k lv st (h.set a (t', fs')) = some h') : h.length ≤ h'.length ∧ hz_sz h ≤ hz_sz h' := by
  have := hk _ _ _ _ hh
  rw [List.length_set, hz_sz_set e hl] at this
  exact this
theorem hz_mo_app {h h' : Hp} {c : Ce} {lv st : List Value} (hk : hz_Mo k) (hh : k lv st (h ++ [c]) = some h') : h.length ≤ h'.length ∧ hz_sz h ≤ hz_sz h' := by
  have := hk _ _ _ _ hh
  rw [List.length_append, hz_sz_app] at this
  simp only [List.length_cons, List.length_nil] at this
  omega
theorem hz_mono (hr : ∀ b, hz_Mo (rc b)) (hc : ∀ q as h h', cl q as h = some h' → h.length ≤ h'.length ∧ hz_sz h ≤ hz_sz h') (hk : hz_Mo k) (op : Instr) : hz_Mo (hz_sem dz rc cl op k) := by
  intro lv st h h' hh
  cases op with
  | bipush n => exact hk _ _ _ _ hh
  | iload i => dsimp only [hz_sem] at hh; split at hh; exact hk _ _ _ _ hh; cases hh
  | aload i => dsimp only [hz_sem] at hh; split at hh; exact hk _ _ _ _ hh; cases hh
  | istore i =>
    dsimp only [hz_sem] at hh
    split at hh
    · rw [cond_eq_ite] at hh
      split at hh
      · exact hk _ _ _ _ hh
      · cases hh
    · cases hh
  | iinc i n =>
    dsimp only [hz_sem] at hh
    split at hh
    · rw [cond_eq_ite] at hh
      split at hh
      · exact hk _ _ _ _ hh
      · cases hh
    · cases hh
  | dup => dsimp only [hz_sem] at hh; split at hh; exact hk _ _ _ _ hh; cases hh
  | getfield p =>
    dsimp only [hz_sem] at hh
    split at hh
    · split at hh
      · rw [cond_eq_ite] at hh
        split at hh
        · split at hh
          · exact hk _ _ _ _ hh
          · cases hh
        · cases hh
      · cases hh
    · cases hh
  | putfield p =>
    dsimp only [hz_sem] at hh
    split at hh
    · split at hh
      · rename_i t fs e
        rw [cond_eq_ite] at hh
        split at hh
        · exact hz_mo_set hk e (by rw [List.length_set]) hh
        · cases hh
      · cases hh
    · cases hh
  | new t =>
    dsimp only [hz_sem] at hh
    rw [cond_eq_ite] at hh
    split at hh
    · exact hz_mo_app hk hh
    · cases hh
  | newarray a =>
    dsimp only [hz_sem] at hh
    split at hh
    · rw [cond_eq_ite] at hh
      split at hh
      · split at hh
        · exact hz_mo_app hk hh
        · cases hh
      · cases hh
    · cases hh
  | anewarray t =>
    dsimp only [hz_sem] at hh
    split at hh
    · rw [cond_eq_ite] at hh
      split at hh
      · split at hh
        · exact hz_mo_app hk hh
        · cases hh
      · cases hh
    · cases hh
  | iastore =>
    dsimp only [hz_sem] at hh
    split at hh
    · split at hh
      · rename_i t fs e
        rw [cond_eq_ite] at hh
        split at hh
        · split at hh
          · exact hz_mo_set hk e (by rw [List.length_set]) hh
          · cases hh
        · cases hh
      · cases hh
    · cases hh
  | castore =>
    dsimp only [hz_sem] at hh
    split at hh
    · split at hh
      · rename_i t fs e
        rw [cond_eq_ite] at hh
        split at hh
        · split at hh
          · exact hz_mo_set hk e (by rw [List.length_set]) hh
          · cases hh
        · cases hh
      · cases hh
    · cases hh
  | aastore =>
    dsimp only [hz_sem] at hh
    split at hh
    · split at hh
      · rename_i t fs t' fs' e e'
        split at hh
        · rw [cond_eq_ite] at hh
          split at hh
          · split at hh
            · exact hz_mo_set hk e (by rw [List.length_set]) hh
            · cases hh
          · cases hh
        · cases hh
      · cases hh
    · cases hh
  | if_icmp c b =>
    dsimp only [hz_sem] at hh
    split at hh
    · split at hh
      · split at hh
        · exact hr _ _ _ _ _ hh
        · exact hk _ _ _ _ hh
      · cases hh
    · cases hh
  | goto b => exact hr _ _ _ _ _ hh
  | goto_w b => exact hr _ _ _ _ _ hh
  | invokespecial q =>
    dsimp only [hz_sem] at hh
    rw [cond_eq_ite] at hh
    split at hh
    · split at hh
      · split at hh
        · rw [cond_eq_ite] at hh
          split at hh
          · exact hk _ _ _ _ hh
          · cases hh
        · cases hh
      · rw [cond_eq_ite] at hh
        split at hh
        · split at hh
          · obtain ⟨h1, e1, e2⟩ := Option.bind_eq_some_iff.mp hh
            have a1 := hc _ _ _ _ e1
            have a2 := hk _ _ _ _ e2
            omega
          · cases hh
        · cases hh
    · cases hh
  | return_ =>
    dsimp only [hz_sem] at hh
    split at hh
    · cases hh; exact ⟨Nat.le_refl _, Nat.le_refl _⟩
    · cases hh
  | _ => exact absurd (show (none : Rz) = some h' from hh) (by simp)
theorem hz_ex_mono (hr : ∀ b, hz_Mo (rc b)) (hc : ∀ q as h h', cl q as h = some h' → h.length ≤ h'.length ∧ hz_sz h ≤ hz_sz h') : ∀ ops, hz_Mo (hz_ex dz rc cl ops) := by
  intro ops
  induction ops with
  | nil => intro lv st h h' hh; cases hh
  | cons op ops ih => exact hz_mono hr hc ih op
theorem hz_run_mono : ∀ n d y b, hz_Mo (hz_run n d y b) := by
  intro n
  induction n with
  | zero => intro d y b lv st h h' hh; cases hh
  | succ n ih =>
    intro d y b
    refine hz_ex_mono (fun b' => ih d y b') ?_ _
    intro q as h h' hh
    cases d with
    | zero => cases hh
    | succ d' =>
      dsimp only at hh
      rw [cond_eq_ite] at hh
      split at hh
      · exact ih _ _ _ _ _ _ _ hh
      · cases hh
end HZM
def hz_LV (G : hy_G) (ls : Array Slot) (nL : Nat) (lv : List Value) : Prop := lv.length = nL ∧ ls.size = nL ∧ lv_wf ls ∧ ∀ (i : Nat) (v : Value), lv[i]? = some v → v ≠ .null → ls[i]? = some (.val (hz_cv G v))
def hz_KU (G : hy_G) (U : State) : Prop := va_K (hy_D G) hy_cl (hy_tys G) U ∧ (∀ q ∈ hz_ML, q.2.2.1 % 2 = 1 → va_Nw (.methodLinkNest (hy_cn q.1) q.2.1 (hz_m (q.2.2.1 / 2)).1 "HayBoard") U) ∧ ∀ C ∈ hz_RC, va_AO C U
theorem hz_KU_moved {G : hy_G} {s U : State} (h : hz_KU G s) (hW : s.WarmedH U.vm) : hz_KU G U := ⟨va_K.moved hW.alike h.1, fun q hq hn => va_Nw.warmM hW (h.2.1 q hq hn), fun C hC => va_AO.moved hW.alike (h.2.2 C hC)⟩
theorem hz_wl_get (G : hy_G) {h : Hp} {a : Nat} {c : Ce} (e : h[a]? = some c) : (hz_wl G h)[a]? = some (hy_base G + a, hz_cell G c) := by
  unfold hz_wl
  rw [List.getElem?_map, List.getElem?_range (List.getElem?_eq_some_iff.mp e).1]
  simp [List.getD_eq_getElem?_getD, e]
theorem hz_wl_len (G : hy_G) (h : Hp) : (hz_wl G h).length = h.length := by simp [hz_wl]
theorem hz_wl_set (G : hy_G) {h : Hp} {a : Nat} {c : Ce} (ha : a < h.length) {e : va_E} (he : hz_cell G c = e) : (hz_wl G h).set a (hy_base G + a, e) = hz_wl G (h.set a c) := by
  subst he
  apply List.ext_getElem?
  intro j
  by_cases hj : a = j
  · subst hj
    rw [List.getElem?_set_self (by rw [hz_wl_len]; exact ha), hz_wl_get G (c := c) (List.getElem?_set_self ha)]
  · rw [List.getElem?_set_ne hj]
    by_cases hl : j < h.length
    · obtain ⟨c', hc'⟩ : ∃ c', h[j]? = some c' := ⟨_, List.getElem?_eq_getElem hl⟩
      rw [hz_wl_get G hc', hz_wl_get G (c := c') (by rw [List.getElem?_set_ne hj]; exact hc')]
    · rw [List.getElem?_eq_none (by rw [hz_wl_len]; omega), List.getElem?_eq_none (by rw [hz_wl_len, List.length_set]; omega)]
theorem hz_wl_app (G : hy_G) (h : Hp) (c : Ce) : hz_wl G (h ++ [c]) = hz_wl G h ++ [(hy_base G + h.length, hz_cell G c)] := by
  apply List.ext_getElem?
  intro j
  by_cases hl : j < h.length
  · obtain ⟨c', hc'⟩ : ∃ c', h[j]? = some c' := ⟨_, List.getElem?_eq_getElem hl⟩
    rw [hz_wl_get G (c := c') (by rw [List.getElem?_append_left hl]; exact hc'), List.getElem?_append_left (by rw [hz_wl_len]; exact hl), hz_wl_get G hc']
  · by_cases he : j = h.length
    · subst he
      rw [hz_wl_get G (c := c) (by simp), List.getElem?_append_right (by rw [hz_wl_len]; omega), hz_wl_len, Nat.sub_self]
      rfl
    · rw [List.getElem?_eq_none (by rw [hz_wl_len, List.length_append]; simp; omega), List.getElem?_eq_none (by rw [List.length_append, hz_wl_len]; simp; omega)]
def hz_Kt (p : Program) (l : Launch) (e : Env) (R : Room) (s : State) (m : MethodId) (args : Array Value) (below : List Frame) (meth : Method) (c : Code) (Q : State → Prop) (y : Nat) (G : hy_G) (n0 s0 : Nat) (h' : Hp) (k : List Value → List Value → Hp → Rz) (pc : Nat) : Prop :=
  ∀ (lv st : List Value) (h : Hp) (H : Heap) (locs : List Loc) (ls : Array Slot), k lv st h = some h' → n0 ≤ h.length → s0 ≤ hz_sz h → hz_HR G h H → va_S (hy_A G) s.heap H locs → hz_LV G ls (hz_mx y) lv →
    W p l e R s m args below meth c H locs (h.length - n0) (hz_sz h - s0) Q (F0 m pc ls (st.map (hz_cv G)))
abbrev hz_Cx (p : Program) (c : Code) (s : State) (m : MethodId) (args : Array Value) (y : Nat) : Prop := p.tables.exec = Jvm.exec ∧ c.code = hz_b y ∧ s.vm.findClass (hy_cn (hz_own y)) = some m.cls ∧ ∀ w ∈ hy_TB, w.before args s = true
section HZS
variable {p : Program} {l : Launch} {e : Env} {R : Room} {s : State} {m : MethodId} {args : Array Value} {below : List Frame} {meth : Method} {c : Code} {Q : State → Prop} {y : Nat} {G : hy_G} {n0 s0 : Nat} {h' : Hp} {k : List Value → List Value → Hp → Rz} {pc : Nat}
variable {dz : Bool} {rc : Nat → List Value → List Value → Hp → Rz} {cl : Nat → List Value → Hp → Rz}
/-- the heap's size is known by the cells counted -/
theorem hz_size {h : Hp} {H : Heap} {locs : List Loc} {sl : Nat} {g : JFrame} (hb : s.heap.size = hy_base G + n0) (hn : n0 ≤ h.length) (hP : va_P (hy_D G) hy_cl (hz_wl G h) H) (hS : va_S (hy_A G) s.heap H locs)
    (k : H.size = hy_base G + h.length → W p l e R s m args below meth c H locs (h.length - n0) sl Q g) : W p l e R s m args below meth c H locs (h.length - n0) sl Q g := by
  intro T hT X
  have h1 := X.heapSize
  rw [hT] at h1
  refine k ?_ T hT X
  have h2 := hS.1
  by_cases hz : n0 = h.length
  · omega
  · have hlt : h.length - 1 < h.length := by omega
    have := (hP _ _ (hz_wl_get G (List.getElem?_eq_getElem hlt))).lt
    dsimp only at this
    omega
/-- behind a store into cell a -/
theorem hz_store {h : Hp} {a : Nat} {cc : Ce} {e0 : Ce} {lv : List Value} {rest : List Value} {H1 : Heap} {locs1 : List Loc} {ls : Array Slot} (hb : s.heap.size = hy_base G + n0) (he : h[a]? = some e0) (hl : cc.2.length = e0.2.length) {ev : va_E} (hev : hz_cell G cc = ev)
    (hk : k lv rest (h.set a cc) = some h') (hn : n0 ≤ h.length) (hs0 : s0 ≤ hz_sz h) (hP : va_P (hy_D G) hy_cl ((hz_wl G h).set a (hy_base G + a, ev)) H1) (hD : va_D (hy_A G) ((hz_wl G h).set a (hy_base G + a, ev))) (hS1 : va_S (hy_A G) s.heap H1 locs1) (hlv : hz_LV G ls (hz_mx y) lv)
    (K : hz_Kt p l e R s m args below meth c Q y G n0 s0 h' k pc) : W p l e R s m args below meth c H1 locs1 (h.length - n0) (hz_sz h - s0) Q (F0 m pc ls (rest.map (hz_cv G))) := by
  have ha := (List.getElem?_eq_some_iff.mp he).1
  rw [hz_wl_set G ha hev] at hP hD
  have e1 : hz_sz (h.set a cc) = hz_sz h := by
    obtain ⟨t', fs'⟩ := cc
    obtain ⟨t, fs⟩ := e0
    exact hz_sz_set he hl
  have e2 : (h.set a cc).length = h.length := List.length_set
  have := hz_size (p := p) (l := l) (e := e) (R := R) (m := m) (args := args) (below := below) (meth := meth) (c := c) (Q := Q) (sl := hz_sz (h.set a cc) - s0) (g := F0 m pc ls (rest.map (hz_cv G))) hb (by rw [e2]; exact hn) hP hS1 (fun hsz => K _ _ _ _ _ _ hk (by rw [e2]; exact hn) (by rw [e1]; exact hs0) ⟨hP, hD, hsz⟩ hS1 hlv)
  rw [e1, e2] at this
  exact this
end HZS
