/-! THE LAW'S ENTRY: what the start gives -/
theorem hw_mem {i : Nat} {w : Jvm.Cond} (h : hy_wM i w = true) : w ∈ lw_tbl := List.mem_of_getElem? (of_decide_eq_true h)
theorem hw_inTB {w : Jvm.Cond} (h : w ∈ hy_TB) : w ∈ lw_tbl := (List.mem_filter.mp h).1
section HW
variable {s : State} {args : Array Value}
theorem hw_kn (hts : ∀ w ∈ lw_tbl, w.before args s = true) : ∀ t : Nat, ∃ r : ClassId × (Nat → Nat), 1 ≤ t → t ≤ 9 → u_Kn s (hy_cn t) (hy_T t) (hy_N t) r.1 r.2 := by
  intro t
  by_cases h : 1 ≤ t ∧ t ≤ 9
  · obtain ⟨k1, k2, k3⟩ := hz_KI_ok t (by omega) h.1
    obtain ⟨-, -, f3, f4, -⟩ := hz_facts k2 k1
    rw [k3] at f3 f4
    rw [← f4] at f3
    obtain ⟨cC, iS, hK⟩ := u_known hts (fun w hw => hw_inTB (hy_in h.2 w hw)) (hts _ (hw_inTB f3))
    exact ⟨(cC, iS), fun _ _ => hK⟩
  · exact ⟨(0, fun _ => 0), fun a b => absurd ⟨a, b⟩ h⟩
def hw_at (k : Nat) : Option FieldType := match k with
  | 0 => some .int
  | 1 => some .char
  | 2 => some .boolean
  | 10 => some (.object "HayBoard$Law")
  | 11 => some (.object "HayBoard$Sheet")
  | 12 => some (.object "HayBoard$Slot")
  | 13 => some (.object "HayBoard$Bale")
  | _ => none
theorem hw_ac {ty : FieldType} (hp : ∀ C, ty ≠ .object C) (h : (Jvm.Cond.arrayClass ty).before args s = true) : ∃ cA : ClassId, ArrOfT s cA ty ∧ va_RA s cA ty := by
  obtain ⟨cA, k, comp, h1, h2, h3⟩ := Cond.arrayClass_spec h
  refine ⟨cA, fun N z => ⟨(fun k h => by cases h), k, h2, comp, h3⟩, ?_⟩
  unfold va_RA
  split
  · rename_i C; exact absurd rfl (hp C)
  · exact h1
theorem hw_ao {C : String} (h : (Jvm.Cond.arrayOver (.object C)).before args s = true) : ∃ cA : ClassId, ArrOfT s cA (.object C) ∧ va_RA s cA (.object C) := by
  obtain ⟨comp, cA, k, h1, -, h2, h3, h4⟩ := Cond.arrayOver_spec h
  exact ⟨cA, fun N z => ⟨(fun k h => by cases h), k, h2, comp, h3⟩, k, comp, h2, h3, h1, h4⟩
theorem hw_ar (hts : ∀ w ∈ lw_tbl, w.before args s = true) : ∀ k : Nat, ∃ cA : ClassId, ∀ ty, hw_at k = some ty → ArrOfT s cA ty ∧ va_RA s cA ty := by
  have ha := hz_arr
  have ho := hz_over
  simp only [Bool.and_eq_true] at ha ho
  have key : ∀ (k : Nat) (ty : FieldType), hw_at k = some ty → (∃ cA : ClassId, ArrOfT s cA ty ∧ va_RA s cA ty) → ∃ cA : ClassId, ∀ ty, hw_at k = some ty → ArrOfT s cA ty ∧ va_RA s cA ty := by
    intro k ty h1 ⟨cA, h2⟩
    exact ⟨cA, fun ty' h' => by rw [h1] at h'; cases h'; exact h2⟩
  intro k
  match k with
  | 0 => exact key 0 _ rfl (hw_ac (fun C h => by cases h) (hts _ (hw_inTB (hy_wAt_mem ha.1.1))))
  | 1 => exact key 1 _ rfl (hw_ac (fun C h => by cases h) (hts _ (hw_inTB (hy_wAt_mem ha.1.2))))
  | 2 => exact key 2 _ rfl (hw_ac (fun C h => by cases h) (hts _ (hw_inTB (hy_wAt_mem ha.2))))
  | 10 => exact key 10 _ rfl (hw_ao (hts _ (hw_mem ho.1.1.1)))
  | 11 => exact key 11 _ rfl (hw_ao (hts _ (hw_mem ho.1.1.2)))
  | 12 => exact key 12 _ rfl (hw_ao (hts _ (hw_mem ho.1.2)))
  | 13 => exact key 13 _ rfl (hw_ao (hts _ (hw_mem ho.2)))
  | 3 | 4 | 5 | 6 | 7 | 8 | 9 => exact ⟨0, fun ty h => by cases h⟩
  | n + 14 => exact ⟨0, fun ty h => by cases h⟩
def hw_sk : List Nat := [45, 51, 53, 101, 103, 105]
def hw_tm (i : Nat) : Term := .string "HayBoard$Tape" (hw_sk.getD i 0)
def hw_vf (i : Nat) : Term := .field (hw_tm i) "java/lang/String" "value" "[B"
def hw_F : List Jvm.Cond := flatC (Jvm.Cond.and given_1 narrow_1)
theorem hw_s1 : (List.range 6).all (fun i => decide (Jvm.Cond.exactly (hw_tm i) "java/lang/String" ∈ hw_F) && decide (Jvm.Cond.eq (.field (hw_tm i) "java/lang/String" "coder" "B") (.int 0) ∈ hw_F) && decide (Jvm.Cond.arrayOf (hw_vf i) .byte ∈ hw_F) && decide (Jvm.Cond.eq (.length (hw_vf i)) (.int (Int32.ofNat (hy_SLn.getD i 0))) ∈ hw_F) &&
    (List.range (hy_SLn.getD i 0)).all fun j => decide (Jvm.Cond.eq (.elem (hw_vf i) (.int (Int32.ofNat j))) (.int ((hy_SBl.getD i []).getD j 0)) ∈ hw_F)) = true := by decide +kernel
theorem hw_s2 : (List.range 6).all (fun i => (List.range 6).all fun j => Nat.beq i j || (decide (Jvm.Cond.not (.eq (hw_tm i) (hw_tm j)) ∈ hw_F) || decide (Jvm.Cond.not (.eq (hw_tm j) (hw_tm i)) ∈ hw_F))) = true := by decide +kernel
theorem hw_s3 : ∀ i, i < 6 → hy_SLn.getD i 0 < 2 ^ 31 := by decide +kernel
theorem hw_str {A : Nat → Prop} (hs : ∀ w ∈ hw_F, w.before args s = true) (hA : ∀ a : Nat, a < s.heap.size → ¬ A a) : ∃ adK adV : Nat → Nat, vk_S 6 hy_SLn hy_SBl adK adV A s s.heap ∧ ∀ i : Nat, i < 6 → (hw_tm i).eval args s none [] s = some (.ref (adK i)) := by
  have h1 : ∀ i, i < 6 → _ := fun i hi => List.all_eq_true.mp hw_s1 i (List.mem_range.mpr hi)
  simp only [Bool.and_eq_true, decide_eq_true_eq] at h1
  refine vk_Sof hw_s3 (fun i hi => hs _ (h1 i hi).1.1.1.1) (fun i hi => hs _ (h1 i hi).1.1.1.2) (fun i hi => hs _ (h1 i hi).1.1.2) (fun i hi => hs _ (h1 i hi).1.2) (fun i hi j hj => hs _ ?_) (fun i j hi hj hn => ?_) hA
  · exact of_decide_eq_true (List.all_eq_true.mp (h1 i hi).2 j (List.mem_range.mpr hj))
  · have := List.all_eq_true.mp (List.all_eq_true.mp hw_s2 i (List.mem_range.mpr hi)) j (List.mem_range.mpr hj)
    rw [Bool.or_eq_true, Bool.or_eq_true, decide_eq_true_eq, decide_eq_true_eq] at this
    rcases this with h | h | h
    · exact absurd (Nat.eq_of_beq_eq_true h) hn
    · exact Or.inl (hs _ h)
    · exact Or.inr (hs _ h)
theorem hw_vkS {N : Nat} {len : List Nat} {byt : List (List Int32)} {k1 v1 k2 v2 : Nat → Nat} {A : Nat → Prop} {U : State} {H : Heap} (h : vk_S N len byt k1 v1 A U H) (hk : ∀ i, i < N → k2 i = k1 i) (hv : ∀ i, i < N → v2 i = v1 i) : vk_S N len byt k2 v2 A U H := by
  refine ⟨fun i hi => ?_, fun i j hi hj he => h.2 i j hi hj (by rw [← hk i hi, ← hk j hj]; exact he)⟩
  rw [hk i hi, hv i hi]
  exact h.1 i hi
end HW
