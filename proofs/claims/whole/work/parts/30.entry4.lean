/-! THE LAW'S ENTRY: the store at the law's first turn -/
def hw_σ0 (h2 : Hp) (L : Nat) (xs : Nat → Int32) : Sg := fun a k => if a < 162 then hz_io ((h2.getD a (0, [])).2.getD k (.int 0)) else if a = 2000 then (if k = 5000 then Int32.ofNat L else xs k) else if 1010 ≤ a ∧ a < 1016 then (if k = 5000 then Int32.ofNat (hy_SLn.getD (a - 1010) 0) else (hy_SBl.getD (a - 1010) []).getD k 0) else 0
theorem hw_oks_at : ∀ (h : List Ce) (a : Nat), hw_oks a h = true → (∀ i c, h[i]? = some c → hw_ok (a + i) c = true) ∧ a + h.length = 162 := by
  intro h
  induction h with
  | nil => intro a he; exact ⟨fun i c hi => by simp at hi, by simpa using Nat.eq_of_beq_eq_true he⟩
  | cons c cs ih =>
    intro a he
    unfold hw_oks at he
    rw [Bool.and_eq_true] at he
    obtain ⟨h1, h2⟩ := ih (a + 1) he.2
    refine ⟨fun i c' hi => ?_, by simp only [List.length_cons]; omega⟩
    cases i with
    | zero => simp at hi; subst hi; exact he.1
    | succ i =>
      rw [List.getElem?_cons_succ] at hi
      have := h1 i c' hi
      rwa [show a + 1 + i = a + (i + 1) by omega] at this
theorem hw_arrV {cA : ClassId} {N : Nat} {f g : Nat → Value} (h : ∀ j, j < N → f j = g j) : arrV cA N f = arrV cA N g := by
  unfold arrV
  congr 2
  funext j
  exact h j.val j.isLt
section HW
variable {G : hy_G}
theorem hw_getD {c : Ce} {k : Nat} {v w : Value} (h : c.2[k]? = some v) : c.2.getD k w = v := by rw [List.getD_eq_getElem?_getD, h]; rfl
theorem hw_cellat (hadr : ∀ a, a < 162 → hy_adr G a = hy_base G + a) {σ : Sg} {a : Nat} (ha : a < 162) {c : Ce} (hok : hw_ok a c = true) (hσ : ∀ k, σ a k = hz_io (c.2.getD k (.int 0))) {H : Heap} (h : va_at (hy_D G) hy_cl (hy_base G + a, hz_cell G c) H) : va_at (hy_D G) hy_cl (hy_adr G a, hy_cell G σ a) H := by
  rw [hadr a ha]
  unfold hw_ok at hok
  dsimp only at hok
  rw [cond_eq_ite] at hok
  by_cases hk : (Nat.ble 1 (hy_ka a) && Nat.ble (hy_ka a) 9) = true
  · rw [if_pos hk] at hok
    simp only [Bool.and_eq_true] at hok hk
    obtain ⟨⟨o1, o2⟩, o3⟩ := hok
    have k1 := Nat.le_of_ble_eq_true hk.1
    have k9 := Nat.le_of_ble_eq_true hk.2
    have o1 := Nat.eq_of_beq_eq_true o1
    have o2 := Nat.eq_of_beq_eq_true o2
    have el : (List.range (hy_N (hy_ka a))).map (hy_fld G σ a (hy_ka a)) = c.2.map (hz_cv G) := by
      apply List.ext_getElem?
      intro j
      by_cases hj : j < hy_N (hy_ka a)
      · have h3 := List.all_eq_true.mp o3 j (List.mem_range.mpr hj)
        rw [List.getElem?_map, List.getElem?_range hj, List.getElem?_map, Option.map_some]
        unfold hy_fld
        split at h3
        · rename_i x off hfr
          rw [hfr]
          rw [Bool.and_eq_true, decide_eq_true_eq] at h3
          rw [h3.2]
          show some (Value.ref (hy_adr G (hy_ad off a))) = some (Value.ref (hy_base G + hy_ad off a))
          rw [hadr _ (Nat.le_of_ble_eq_true h3.1)]
        · rename_i hfr
          rw [hfr, hσ]
          rw [decide_eq_true_eq] at h3
          rw [h3]
          rfl
      · rw [List.getElem?_eq_none (by simp; omega), List.getElem?_eq_none (by simp; omega)]
    have e : hy_cell G σ a = hz_cell G c := by
      unfold hy_cell hz_cell
      dsimp only
      rw [if_pos ⟨k1, k9⟩, if_pos (by omega), o1, el]
    rw [e]
    exact h
  · rw [if_neg hk] at hok
    have hk' : ¬ (1 ≤ hy_ka a ∧ hy_ka a ≤ 9) := fun z => hk (by rw [Bool.and_eq_true]; exact ⟨Nat.ble_eq_true_of_le z.1, Nat.ble_eq_true_of_le z.2⟩)
    split at hok
    · rename_i n kd off sd hra
      simp only [Bool.and_eq_true] at hok
      obtain ⟨⟨⟨o1, o2, o3⟩, o4⟩, o5⟩ := hok
      have o1 := Nat.eq_of_beq_eq_true o1
      have o4 := Nat.eq_of_beq_eq_true o4
      have o2 := Nat.le_of_ble_eq_true o2
      have o3 := Nat.le_of_ble_eq_true o3
      have e1 : hy_cell G σ a = .inl (hy_cy G (hy_ka a), n.toNat, .inr (.inr (.inr (.inr fun i => some (hy_adr G (a + off + sd * i)))))) := by
        unfold hy_cell
        dsimp only
        rw [if_neg hk', hra]
      have e2 : hz_cell G c = .inl (hy_cy G (hy_ka a), n.toNat, .inr (.inr (.inr (.inr fun j => hz_ro G (c.2.getD j .null))))) := by
        unfold hz_cell
        rw [if_neg (by omega), if_pos (by omega), o1, o4]
      rw [e1]
      rw [e2] at h
      refine Eq.trans h (congrArg some (show arrV (hy_cy G (hy_ka a)) n.toNat (fun j => va_rf (hz_ro G (c.2.getD j .null))) = arrV (hy_cy G (hy_ka a)) n.toNat (fun j => va_rf (some (hy_adr G (a + off + sd * j)))) from hw_arrV fun j hj => ?_))
      have h3 := List.all_eq_true.mp o5 j (List.mem_range.mpr hj)
      rw [Bool.and_eq_true, decide_eq_true_eq] at h3
      show va_rf (hz_ro G (c.2.getD j .null)) = va_rf (some (hy_adr G (a + off + sd * j)))
      rw [hw_getD h3.2, hadr _ (Nat.le_of_ble_eq_true h3.1)]
      rfl
    · rename_i hra
      split at hok
      · rename_i so n hal
        simp only [Bool.and_eq_true] at hok
        have o1 := Nat.eq_of_beq_eq_true hok.1
        have o2 := Nat.eq_of_beq_eq_true hok.2
        have e1 : hy_cell G σ a = hz_cell G c := by
          unfold hy_cell hz_cell
          dsimp only
          rw [if_neg hk', hra, hal, if_neg (by omega), if_neg (by omega), o1, o2, Nat.add_sub_cancel_left, show (fun j => hz_io (c.2.getD j (.int 0))) = σ a from funext fun k => (hσ k).symm]
        rw [e1]
        exact h
      · cases hok
theorem hw_HR0 {h2 : Hp} (hlay : hw_oks 0 h2 = true) (hadr : ∀ a, a < 162 → hy_adr G a = hy_base G + a) (hL : hy_L G ≤ 3072) {H : Heap} (h : hz_HR G h2 H) : hy_HR G (hw_σ0 h2 (hy_L G) (hy_xs G)) H := by
  obtain ⟨h1, -, -⟩ := h
  have hlen : h2.length = 162 := by have := (hw_oks_at h2 0 hlay).2; omega
  have hget : ∀ (k : Nat) (q : Nat × va_E), (hy_wl G (hw_σ0 h2 (hy_L G) (hy_xs G)))[k]? = some q → k < 162 ∧ q = (hy_adr G k, hy_cell G (hw_σ0 h2 (hy_L G) (hy_xs G)) k) := by
    intro k q hq
    have hk : k < 162 := by
      have := (List.getElem?_eq_some_iff.mp hq).1
      rwa [hy_wl_len] at this
    rw [hy_wl_get G _ hk] at hq
    exact ⟨hk, (Option.some.inj hq).symm⟩
  refine ⟨fun k q hq => ?_, ⟨fun i j p q hp hq he => ?_, fun k q hq => ?_⟩, fun i hi => ⟨fun j hj => ?_, ?_, ?_⟩, fun j hj => ?_, ?_⟩
  · obtain ⟨hk, rfl⟩ := hget k q hq
    have hc : h2[k]? = some (h2[k]'(by rw [hlen]; exact hk)) := List.getElem?_eq_getElem _
    have hok := (hw_oks_at h2 0 hlay).1 k _ hc
    rw [Nat.zero_add] at hok
    refine hw_cellat hadr hk hok (fun j => ?_) (h1 k _ (hz_wl_get G hc))
    unfold hw_σ0
    rw [if_pos hk, show h2.getD k (0, []) = h2[k]'(by rw [hlen]; exact hk) from by rw [List.getD_eq_getElem?_getD, hc]; rfl]
  · obtain ⟨hi, rfl⟩ := hget i p hp
    obtain ⟨hj, rfl⟩ := hget j q hq
    dsimp only at he
    rw [hadr i hi, hadr j hj] at he
    omega
  · obtain ⟨hk, rfl⟩ := hget k q hq
    show hy_base G ≤ hy_adr G k
    rw [hadr k hk]
    omega
  · have : j ≠ 5000 := by
      have h6 : ∀ i, i < 6 → hy_SLn.getD i 0 ≤ 4 := by decide +kernel
      have := h6 i hi
      omega
    unfold hw_σ0
    rw [if_neg (by omega), if_neg (by omega), if_pos (by omega), if_neg this, Nat.add_sub_cancel_left]
  · unfold hw_σ0
    rw [if_neg (by omega), if_neg (by omega), if_pos (by omega), if_pos rfl, Nat.add_sub_cancel_left]
  · unfold hw_σ0
    rw [if_neg (by omega), if_neg (by omega), if_neg (by omega)]
  · unfold hw_σ0
    rw [if_neg (by omega), if_pos rfl, if_neg (by omega)]
  · unfold hw_σ0
    rw [if_neg (by omega), if_pos rfl, if_pos rfl]
end HW
def hw_σ (L : Nat) (xs : Nat → Int32) : Sg := hw_σ0 hz_h2 L xs
theorem hw_HR {G : hy_G} (hadr : ∀ a, a < 162 → hy_adr G a = hy_base G + a) (hL : hy_L G ≤ 3072) {H : Heap} (h : hz_HR G hz_h2 H) : hy_HR G (hw_σ (hy_L G) (hy_xs G)) H := hw_HR0 (h2 := hz_h2) hw_lay hadr hL h
theorem hw_len2 : hz_h2.length = 162 := by have := (hw_oks_at hz_h2 0 hw_lay).2; omega
