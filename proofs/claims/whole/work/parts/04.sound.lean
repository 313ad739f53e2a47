/-! THE SMALL MACHINE AGAINST THE JVM: pictures of the heap, contexts -/
abbrev hy_G := (Nat → ClassId) × (Nat → Nat → Nat) × (Nat → ClassId) × (Nat → Nat) × Nat × Nat × (Nat → Int32)
abbrev hy_D (G : hy_G) : va_G := (G.1, G.2.1)
abbrev hy_cy (G : hy_G) : Nat → ClassId := G.2.2.1
abbrev hy_adr (G : hy_G) : Nat → Nat := G.2.2.2.1
abbrev hy_base (G : hy_G) : Nat := G.2.2.2.2.1
abbrev hy_L (G : hy_G) : Nat := G.2.2.2.2.2.1
abbrev hy_xs (G : hy_G) : Nat → Int32 := G.2.2.2.2.2.2
def hy_A (G : hy_G) : Nat → Prop := fun q => hy_base G ≤ q
def hy_tys (G : hy_G) : List (ClassId × FieldType) := [(hy_cy G 0, .int), (hy_cy G 1, .char), (hy_cy G 2, .boolean), (hy_cy G 10, .object "HayBoard$Law"), (hy_cy G 11, .object "HayBoard$Sheet"), (hy_cy G 12, .object "HayBoard$Slot"), (hy_cy G 13, .object "HayBoard$Bale")]
def hy_fv (G : hy_G) : Value := bif Nat.beq (hy_adr G 1998) 0 then .ref (hy_adr G 1999) else .null
def hy_cv (G : hy_G) (v : Vl) : Value := match v.1 with
  | .ref a => .ref (hy_adr G a)
  | .float _ => hy_fv G
  | w => w
def hy_VT (v : Vl) : Prop := (∀ a, v.1 = .ref a → hy_ka a = v.2) ∧ ∀ x, v.1 ≠ .double x
def hy_fld (G : hy_G) (σ : Sg) (a kd k : Nat) : Value := match hy_fr (kd * 64 + k) with
  | some (_, off) => .ref (hy_adr G (hy_ad off a))
  | none => .int (σ a k)
def hy_cell (G : hy_G) (σ : Sg) (a : Nat) : va_E :=
  let kd := hy_ka a
  if 1 ≤ kd ∧ kd ≤ 9 then .inr (kd - 1, (List.range (hy_N kd)).map (hy_fld G σ a kd))
  else match hy_ra kd with
    | some (n, _, off, sd) => .inl (hy_cy G kd, n.toNat, .inr (.inr (.inr (.inr fun i => some (hy_adr G (a + off + sd * i))))))
    | none => match hy_al kd with
      | some (so, n) => .inl (hy_cy G so, n.toNat, .inl (σ a))
      | none => .inl (hy_cy G 0, 0, .inl (σ a))
def hy_wl (G : hy_G) (σ : Sg) : va_W := (List.range 162).map fun a => (hy_adr G a, hy_cell G σ a)
def hy_SBl : List (List Int32) := [[104, 97, 121], [102, 101, 101], [102, 105, 110, 101], [104, 112, 119], [100, 116], [119, 104]]
def hy_SLn : List Nat := [3, 3, 4, 3, 2, 2]
def hy_Sp (G : hy_G) (σ : Sg) : Prop := (∀ i, i < 6 → (∀ j, j < hy_SLn.getD i 0 → σ (1010 + i) j = (hy_SBl.getD i []).getD j 0) ∧ σ (1010 + i) 5000 = Int32.ofNat (hy_SLn.getD i 0) ∧ σ (1000 + i) 1 = 0) ∧ (∀ j, j < hy_L G → σ 2000 j = hy_xs G j) ∧ σ 2000 5000 = Int32.ofNat (hy_L G)
def hy_HR (G : hy_G) (σ : Sg) (H : Heap) : Prop := va_P (hy_D G) hy_cl (hy_wl G σ) H ∧ va_D (hy_A G) (hy_wl G σ) ∧ hy_Sp G σ
def hy_KU (G : hy_G) (U : State) : Prop :=
  va_K (hy_D G) hy_cl (hy_tys G) U ∧ (∀ a, a < 162 → hy_adr G a = hy_base G + a) ∧ hy_base G ≤ U.heap.size ∧ hy_adr G 2000 < hy_base G ∧ hy_L G < 2 ^ 31 ∧ va_X (hy_adr G 2000) (hy_L G) (hy_xs G) U U.heap ∧
  vk_S 6 hy_SLn hy_SBl (fun i => hy_adr G (1000 + i)) (fun i => hy_adr G (1010 + i)) (hy_A G) U U.heap ∧ (∀ q ∈ hy_ST, vk_R (hy_cn q.1) q.2.1 (hy_TX.getD q.2.2.1 "") (hy_adr G (1000 + q.2.2.1)) U) ∧
  (∀ q ∈ hy_ML, q.2.2.1 % 2 = 1 → va_Nw (.methodLinkNest (hy_cn q.1) q.2.1 (hy_m (q.2.2.1 / 2)).1 "HayBoard") U) ∧
  va_Z "java/lang/String" "COMPACT_STRINGS" "Z" (.int 1) (hy_A G) U U.heap ∧ va_Z "jdk/internal/util/Preconditions" "SIOOBE_FORMATTER" "Ljava/util/function/BiFunction;" (hy_fv G) (hy_A G) U U.heap
def hy_TB : List Jvm.Cond := lw_tbl.filter goodWord
def hy_ws (y : Nat) : List Jvm.Cond := .code (hy_m y).1 (hy_b y) (hy_mx y) (hy_m y).2.2.1 :: hy_TB
def hy_LV (G : hy_G) (ls : Array Slot) (nL : Nat) (lv : List Vl) : Prop := lv.length = nL ∧ ls.size = nL ∧ lv_wf ls ∧ ∀ (i : Nat) (v : Vl), lv[i]? = some v → v.1 ≠ .null → ls[i]? = some (.val (hy_cv G v))
theorem hy_goodTB {w : Jvm.Cond} (h : w ∈ hy_TB) : goodWord w = true := (List.mem_filter.mp h).2
theorem hy_wAt_mem {i : Nat} {w : Jvm.Cond} (h : hy_wAt i w = true) : w ∈ hy_TB := by
  unfold hy_wAt at h
  rw [Bool.and_eq_true, decide_eq_true_eq] at h
  exact List.mem_filter.mpr ⟨List.mem_of_getElem? h.1, h.2⟩
theorem hy_wl_get (G : hy_G) (σ : Sg) {a : Nat} (h : a < 162) : (hy_wl G σ)[a]? = some (hy_adr G a, hy_cell G σ a) := by
  unfold hy_wl
  rw [List.getElem?_map, List.getElem?_range h]
  rfl
theorem hy_wl_len (G : hy_G) (σ : Sg) : (hy_wl G σ).length = 162 := by simp [hy_wl]
theorem hy_cell_congr (G : hy_G) {σ σ' : Sg} {a : Nat} (h : σ' a = σ a) : hy_cell G σ' a = hy_cell G σ a := by
  unfold hy_cell hy_fld
  rw [h]
theorem hy_wl_set (G : hy_G) (σ σ' : Sg) {a : Nat} (ha : a < 162) {e : va_E} (he : hy_cell G σ' a = e) (ho : ∀ j, j ≠ a → σ' j = σ j) : (hy_wl G σ).set a (hy_adr G a, e) = hy_wl G σ' := by
  apply List.ext_getElem?
  intro j
  by_cases hj : j = a
  · subst hj
    rw [List.getElem?_set_self (by rw [hy_wl_len]; exact ha), hy_wl_get G σ' ha, he]
  · rw [List.getElem?_set_ne (Ne.symm hj)]
    by_cases hl : j < 162
    · rw [hy_wl_get G σ hl, hy_wl_get G σ' hl, hy_cell_congr G (ho j hj)]
    · rw [List.getElem?_eq_none (by rw [hy_wl_len]; omega), List.getElem?_eq_none (by rw [hy_wl_len]; omega)]
theorem hy_up_ne (σ : Sg) {a k : Nat} {v : Int32} {j : Nat} (h : j ≠ a) : hy_up σ a k v j = σ j := by simp [hy_up, h]
theorem hy_up_eq (σ : Sg) {a k : Nat} {v : Int32} : hy_up σ a k v a = upd (σ a) k v := by simp [hy_up]
theorem hy_Sp_keep {G : hy_G} {σ σ' : Sg} (h : hy_Sp G σ) (ho : ∀ j, 162 ≤ j → σ' j = σ j) : hy_Sp G σ' := by
  obtain ⟨h1, h2, h3⟩ := h
  refine ⟨fun i hi => ?_, fun j hj => ?_, ?_⟩
  · obtain ⟨a, b, c⟩ := h1 i hi
    refine ⟨fun j hj => ?_, ?_, ?_⟩
    · rw [ho _ (by omega)]; exact a j hj
    · rw [ho _ (by omega)]; exact b
    · rw [ho _ (by omega)]; exact c
  · rw [ho _ (by omega)]; exact h2 j hj
  · rw [ho _ (by omega)]; exact h3
theorem hy_ka_lt {a : Nat} (h1 : hy_ka a ≠ 0) (h2 : hy_ka a < 30) : a < 162 := by
  unfold hy_ka at h1 h2
  by_cases h : a < 162
  · exact h
  · rw [if_neg h] at h1 h2
    exfalso
    by_cases q1 : 1000 ≤ a ∧ a < 1006
    · rw [if_pos q1] at h2; omega
    · rw [if_neg q1] at h1 h2
      by_cases q2 : 1010 ≤ a ∧ a < 1016
      · rw [if_pos q2] at h2; omega
      · rw [if_neg q2] at h1 h2
        by_cases q3 : a = 1999
        · rw [if_pos q3] at h2; omega
        · rw [if_neg q3] at h1 h2
          by_cases q4 : a = 2000
          · rw [if_pos q4] at h2; omega
          · rw [if_neg q4] at h1; exact h1 rfl
/-- what lies where the layout says: kinds of the references' targets -/
theorem hy_lay_fr : ((List.range 162).all fun a => (List.range 64).all fun k => match hy_fr (hy_ka a * 64 + k) with
    | some (kd, off) => Nat.beq (hy_ka (hy_ad off a)) kd
    | none => true) = true := by decide +kernel
theorem hy_lay_ra : ((List.range 162).all fun a => match hy_ra (hy_ka a) with
    | some (n, kd, off, sd) => (List.range n.toNat).all fun i => Nat.beq (hy_ka (a + off + sd * i)) kd
    | none => true) = true := by decide +kernel
theorem hy_KU_moved {G : hy_G} {s U : State} {H : Heap} {locs : List Loc} (h : hy_KU G s) (hS : va_S (hy_A G) s.heap H locs) (hU : U.heap = H) (hW : s.WarmedH U.vm) : hy_KU G U := by
  obtain ⟨h1, h2, h3, h4, h5, h6, h7, h8, h9, h10, h11⟩ := h
  have hb : ∀ a, a < s.heap.size → ¬ hy_A G a → U.heap[a]? = s.heap[a]? := fun a q1 q2 => by rw [hU]; exact hS.2.1 a q1 q2
  refine ⟨va_K.moved hW.alike h1, h2, ?_, h4, h5, ?_, ?_, ?_, ?_, ?_, ?_⟩
  · rw [hU]; exact Nat.le_trans h3 hS.1
  · exact va_X.kept (va_X.moved hW.alike h6) (hb _ (by omega) (by unfold hy_A; omega))
  · exact vk_S.kept (vk_S.moved hW.alike h7) hb
  · exact fun q hq => vk_R.warm hW (h8 q hq)
  · exact fun q hq hn => va_Nw.warmM hW (h9 q hq hn)
  · exact va_Z.kept (va_Z.moved hW.alike h10) hb
  · exact va_Z.kept (va_Z.moved hW.alike h11) hb
/-- the world behind a store into one place -/
theorem hy_HR_set {G : hy_G} {σ σ' : Sg} {H1 : Heap} {a : Nat} (ha : a < 162) {e : va_E} (he : hy_cell G σ' a = e) (ho : ∀ j, j ≠ a → σ' j = σ j) (hP : va_P (hy_D G) hy_cl ((hy_wl G σ).set a (hy_adr G a, e)) H1) (hD : va_D (hy_A G) ((hy_wl G σ).set a (hy_adr G a, e))) (hs : hy_Sp G σ) : hy_HR G σ' H1 := by
  rw [hy_wl_set G σ σ' ha he ho] at hP hD
  exact ⟨hP, hD, hy_Sp_keep hs fun j hj => ho j (by omega)⟩
/-! the locals -/
def hy_asc (G : hy_G) (lv : List Vl) : List (Nat × Value) := (List.range lv.length).filterMap fun i => (lv[i]?).bind fun v => if v.1 = .null then none else some (i, hy_cv G v)
theorem hy_asc_has {G : hy_G} {ls : Array Slot} {nL : Nat} {lv : List Vl} (h : hy_LV G ls nL lv) : lv_has ls nL (hy_asc G lv) := by
  obtain ⟨h0, h1, h2, h3⟩ := h
  refine ⟨h1, h2, fun q hq => ?_⟩
  unfold hy_asc at hq
  obtain ⟨i, hi, he⟩ := List.mem_filterMap.mp hq
  cases hv : lv[i]? with
  | none => rw [hv] at he; cases he
  | some v =>
    rw [hv] at he
    simp only [Option.bind_some] at he
    by_cases hn : v.1 = .null
    · rw [if_pos hn] at he; cases he
    · rw [if_neg hn] at he
      cases he
      exact h3 i v hv hn
theorem hy_asc_mem {G : hy_G} {lv : List Vl} {i : Nat} {v : Vl} (h : lv[i]? = some v) (hn : v.1 ≠ .null) : (i, hy_cv G v) ∈ hy_asc G lv := by
  unfold hy_asc
  refine List.mem_filterMap.mpr ⟨i, List.mem_range.mpr (List.getElem?_eq_some_iff.mp h).1, ?_⟩
  rw [h]
  simp [hn]
theorem hy_fv_cat (G : hy_G) : (hy_fv G).category = 1 := by
  unfold hy_fv
  cases Nat.beq (hy_adr G 1998) 0 <;> rfl
theorem hy_cv_cat (G : hy_G) (v : Vl) : (hy_cv G v).category = v.1.category := by
  obtain ⟨w, k⟩ := v
  cases w <;> first | rfl | exact hy_fv_cat G
/-- a store of one word into place i, with no long ahead of it -/
theorem hy_LV_set {G : hy_G} {ls' : Array Slot} {nL i : Nat} {lv : List Vl} {v : Vl} (h0 : lv.length = nL) (hp : ∀ w, lv[i - 1]? = some w → w.1.category ≠ 2)
    (h : lv_has ls' nL ((i, hy_cv G v) :: (hy_asc G lv).filter (fun q => !(q.1 == i) && !(q.1 + 1 == i && q.2.category == 2)))) : hy_LV G ls' nL (lv.set i v) := by
  obtain ⟨h1, h2, h3⟩ := h
  refine ⟨by rw [List.length_set]; exact h0, h1, h2, fun j w hj hn => ?_⟩
  by_cases hji : i = j
  · subst hji
    have hl : i < lv.length := by
      have := (List.getElem?_eq_some_iff.mp hj).1
      rwa [List.length_set] at this
    rw [List.getElem?_set_self hl] at hj
    cases hj
    exact h3 (i, hy_cv G v) List.mem_cons_self
  · rw [List.getElem?_set_ne hji] at hj
    refine h3 (j, hy_cv G w) (List.mem_cons_of_mem _ (List.mem_filter.mpr ⟨hy_asc_mem hj hn, ?_⟩))
    have hne : (j == i) = false := by simp [Ne.symm hji]
    simp only [hne, Bool.not_false, Bool.true_and, Bool.not_eq_true', Bool.and_eq_false_iff]
    by_cases hq : j + 1 = i
    · right
      have e : i - 1 = j := by omega
      rw [hy_cv_cat]
      have := hp w (by rw [e]; exact hj)
      simp [this]
    · left
      simp [hq]
theorem hy_LV_at {G : hy_G} {ls : Array Slot} {nL i : Nat} {lv : List Vl} {v : Vl} (h : hy_LV G ls nL lv) (hv : lv[i]? = some v) (hn : v.1 ≠ .null) : ls[i]? = some (.val (hy_cv G v)) := h.2.2.2 i v hv hn
/-- a store of a long into places i, i + 1 -/
theorem hy_LV_set2 {G : hy_G} {ls' : Array Slot} {nL i : Nat} {lv : List Vl} {x : Int64} {q : Nat} (h0 : lv.length = nL) (hp : ∀ w, lv[i - 1]? = some w → w.1.category ≠ 2)
    (h : lv_has ls' nL ((i, .long x) :: (hy_asc G lv).filter (fun q => !(q.1 == i) && (!(q.1 == i + 1) && !(q.1 + 1 == i && q.2.category == 2))))) : hy_LV G ls' nL ((lv.set i (.long x, q)).set (i + 1) (.null, 0)) := by
  obtain ⟨h1, h2, h3⟩ := h
  refine ⟨by rw [List.length_set, List.length_set]; exact h0, h1, h2, fun j w hj hn => ?_⟩
  by_cases hj1 : i + 1 = j
  · subst hj1
    have hl : i + 1 < (lv.set i (.long x, q)).length := by
      have := (List.getElem?_eq_some_iff.mp hj).1
      rwa [List.length_set] at this
    rw [List.getElem?_set_self hl] at hj
    cases hj
    exact absurd rfl hn
  · rw [List.getElem?_set_ne hj1] at hj
    by_cases hji : i = j
    · subst hji
      have hl : i < lv.length := by
        have := (List.getElem?_eq_some_iff.mp hj).1
        rwa [List.length_set] at this
      rw [List.getElem?_set_self hl] at hj
      cases hj
      exact h3 (i, .long x) List.mem_cons_self
    · rw [List.getElem?_set_ne hji] at hj
      refine h3 (j, hy_cv G w) (List.mem_cons_of_mem _ (List.mem_filter.mpr ⟨hy_asc_mem hj hn, ?_⟩))
      have hne : (j == i) = false := by simp [Ne.symm hji]
      have hne1 : (j == i + 1) = false := by simp [Ne.symm hj1]
      simp only [hne, hne1, Bool.not_false, Bool.true_and, Bool.not_eq_true', Bool.and_eq_false_iff]
      by_cases hq : j + 1 = i
      · right
        have e : i - 1 = j := by omega
        rw [hy_cv_cat]
        have := hp w (by rw [e]; exact hj)
        simp [this]
      · left
        simp [hq]
