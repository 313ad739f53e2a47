/-! THE LAW'S ENTRY: the picture's constants -/
def hw_wi : Bool := hy_wM 734 (.laysStatic "java/lang/String" "COMPACT_STRINGS" "Z") && hy_wM 750 (.laysStatic "jdk/internal/util/Preconditions" "SIOOBE_FORMATTER" "Ljava/util/function/BiFunction;") && hy_wM 72 (.initialized "java/lang/String") && hy_wM 74 (.initialized "jdk/internal/util/Preconditions")
theorem hw_wi_ok : hw_wi = true := by decide +kernel
def hw_zA : Jvm.Cond := .eq (.static "java/lang/String" "COMPACT_STRINGS" "Z") (.int 1)
def hw_zB : Jvm.Cond := .isRef (.static "jdk/internal/util/Preconditions" "SIOOBE_FORMATTER" "Ljava/util/function/BiFunction;")
theorem hw_zin : hw_zA ∈ hw_F ∧ hw_zB ∈ hw_F := by decide +kernel
def hw_ad (base : Nat) (adK adV : Nat → Nat) (fl t b : Nat) (a : Nat) : Nat := if a < 162 then base + a else if a < 1010 then adK (a - 1000) else if a < 1998 then adV (a - 1010) else if a = 1998 then fl else if a = 1999 then t else b
theorem hw_STi : ∀ q ∈ hy_ST, q.1 = 2 ∧ q.2.2.1 < 6 ∧ q.2.1 = hw_sk.getD q.2.2.1 0 := by decide +kernel
theorem hw_cn2 : hy_cn 2 = "HayBoard$Tape" := by decide +kernel
theorem hw_rc : ∀ C ∈ hz_RC, hw_at 10 = some (.object C) ∨ hw_at 11 = some (.object C) ∨ hw_at 12 = some (.object C) ∨ hw_at 13 = some (.object C) := by decide +kernel
section HW
variable {s : State} {args : Array Value} {b L : Nat} {xs : Nat → Int32}
theorem hw_tyk {f : Nat → ClassId} (h : ∀ k ty, hw_at k = some ty → ArrOfT s (f k) ty ∧ va_RA s (f k) ty) : ∀ (k : Nat) (q : ClassId × FieldType), ([(f 0, .int), (f 1, .char), (f 2, .boolean), (f 10, .object "HayBoard$Law"), (f 11, .object "HayBoard$Sheet"), (f 12, .object "HayBoard$Slot"), (f 13, .object "HayBoard$Bale")] : List (ClassId × FieldType))[k]? = some q → ArrOfT s q.1 q.2 ∧ va_RA s q.1 q.2 := by
  intro k q hq
  match k, hq with
  | 0, hq => cases hq; exact h 0 _ rfl
  | 1, hq => cases hq; exact h 1 _ rfl
  | 2, hq => cases hq; exact h 2 _ rfl
  | 3, hq => cases hq; exact h 10 _ rfl
  | 4, hq => cases hq; exact h 11 _ rfl
  | 5, hq => cases hq; exact h 12 _ rfl
  | 6, hq => cases hq; exact h 13 _ rfl
  | n + 7, hq => cases hq
theorem hw_clk {d1 : Nat → ClassId} {d2 : Nat → Nat → Nat} (h : ∀ t, 1 ≤ t → t ≤ 9 → u_Kn s (hy_cn t) (hy_T t) (hy_N t) (d1 (t - 1)) (d2 (t - 1))) : ∀ (c : Nat) (q : vw_C), hy_cl[c]? = some q → u_Kn s q.1 q.2.1 q.2.2 (d1 c) (d2 c) := by
  intro c q hq
  have hc : c < 9 := (List.getElem?_eq_some_iff.mp hq).1
  have := hy_clk (kd := c + 1) (by omega) (by omega)
  rw [Nat.add_sub_cancel, hq] at this
  cases this
  exact h (c + 1) (by omega) (by omega)
/-- the constants of the picture, out of the start -/
theorem hw_boot (hts : ∀ w ∈ lw_tbl, w.before args s = true) (hX : va_X b L xs s s.heap) (hb : b < s.heap.size) (hL : L ≤ 3072) (hgv : (Jvm.Cond.and given_1 narrow_1).before args s = true) :
    ∃ G : hy_G, hy_base G = s.heap.size ∧ hy_adr G 2000 = b ∧ hy_L G = L ∧ hy_xs G = xs ∧ hy_KU G s ∧ hz_KU G s := by
  have hs : ∀ w ∈ hw_F, w.before args s = true := flat_of_before _ hgv
  obtain ⟨f, hf⟩ := Classical.skolem.mp (hw_kn hts)
  obtain ⟨cy, hcy⟩ := Classical.skolem.mp (hw_ar hts)
  have hA : ∀ a : Nat, a < s.heap.size → ¬ s.heap.size ≤ a := fun a h => by omega
  obtain ⟨adK, adV, hvk, hev⟩ := hw_str (A := fun q => s.heap.size ≤ q) hs hA
  have hwi := hw_wi_ok
  unfold hw_wi at hwi
  simp only [Bool.and_eq_true] at hwi
  obtain ⟨⟨⟨w1, w2⟩, w3⟩, w4⟩ := hwi
  obtain ⟨v, hv, hvr⟩ := Cond.isRef_spec (hs _ hw_zin.2)
  have hfl : ∃ fl t : Nat, v = (bif Nat.beq fl 0 then Value.ref t else .null) := by
    cases v with
    | ref t => exact ⟨0, t, rfl⟩
    | null => exact ⟨1, 0, rfl⟩
    | _ => cases hvr
  obtain ⟨fl, t, hfl⟩ := hfl
  let G : hy_G := (fun c => (f (c + 1)).1, fun c => (f (c + 1)).2, cy, hw_ad s.heap.size adK adV fl t b, s.heap.size, L, xs)
  have hK : va_K (hy_D G) hy_cl (hy_tys G) s := by
    refine ⟨hw_clk fun t h1 h2 => ?_, hw_tyk hcy⟩
    have := hf t h1 h2
    show u_Kn s (hy_cn t) (hy_T t) (hy_N t) (f (t - 1 + 1)).1 (f (t - 1 + 1)).2
    rw [Nat.sub_add_cancel h1]
    exact this
  have e1998 : hy_adr G 1998 = fl := rfl
  have e1999 : hy_adr G 1999 = t := rfl
  have e2000 : hy_adr G 2000 = b := rfl
  have eK : ∀ i, i < 6 → hy_adr G (1000 + i) = adK i := by
    intro i hi
    show hw_ad s.heap.size adK adV fl t b (1000 + i) = adK i
    unfold hw_ad
    rw [if_neg (by omega), if_pos (by omega), Nat.add_sub_cancel_left]
  have eV : ∀ i, i < 6 → hy_adr G (1010 + i) = adV i := by
    intro i hi
    show hw_ad s.heap.size adK adV fl t b (1010 + i) = adV i
    unfold hw_ad
    rw [if_neg (by omega), if_neg (by omega), if_pos (by omega), Nat.add_sub_cancel_left]
  refine ⟨G, rfl, rfl, rfl, rfl, ⟨hK, fun a ha => ?_, Nat.le_refl _, hb, by show L < 2 ^ 31; omega, hX, hw_vkS hvk eK eV, fun q hq => ?_, fun q hq ho => ?_, ?_, ?_⟩, hK, fun q hq ho => ?_, fun C hC => ?_⟩
  · show hw_ad s.heap.size adK adV fl t b a = s.heap.size + a
    unfold hw_ad
    rw [if_pos ha]
  · obtain ⟨q1, q2, q3⟩ := hw_STi q hq
    refine vk_R.of (A := args) (hts _ (hw_mem (List.all_eq_true.mp hy_st_ok q hq))) ?_
    rw [eK _ q2, q1, hw_cn2, q3]
    exact hev _ q2
  · have := List.all_eq_true.mp hy_ml_ok q hq
    rw [show Nat.beq (q.2.2.1 % 2) 1 = true from by rw [ho]; rfl] at this
    exact va_Nw.of rfl (hts _ (hw_mem this))
  · exact va_Zof (hts _ (hw_mem w1)) (hts _ (hw_mem w3)) (va_eqt (hs _ hw_zin.1)) hA
  · have ev : hy_fv G = v := hfl.symm
    rw [ev]
    exact va_Zof (hts _ (hw_mem w2)) (hts _ (hw_mem w4)) hv hA
  · have := List.all_eq_true.mp hz_ml_ok q hq
    rw [Bool.and_eq_true, show Nat.beq (q.2.2.1 % 2) 1 = true from by rw [ho]; rfl] at this
    exact va_Nw.of rfl (hts _ (hw_mem this.1))
  · have ho := hz_over
    simp only [Bool.and_eq_true] at ho
    have h4 : ∀ C' ∈ hz_RC, (Jvm.Cond.arrayOver (.object C')).before args s = true := by
      intro C' h'
      simp only [hz_RC, List.mem_cons, List.mem_nil_iff, or_false] at h'
      rcases h' with rfl | rfl | rfl | rfl
      · exact hts _ (hw_mem ho.1.1.1)
      · exact hts _ (hw_mem ho.1.1.2)
      · exact hts _ (hw_mem ho.1.2)
      · exact hts _ (hw_mem ho.2)
    exact va_AO.of (A := args) (h4 C hC)
end HW
