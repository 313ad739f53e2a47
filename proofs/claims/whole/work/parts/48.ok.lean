/-! PURE: what keeps the row in order -/
/-- a number that no bale's first four fields and none of the rules hold -/
theorem ok_free {S : Rw} {k : Nat} {v : Int32} (hS : OkR S) (hk : k = 0 ∨ 79 ≤ k ∨ ∃ b w, k = 7 + 6 * b + w ∧ (w = 4 ∨ w = 5)) : OkR (upd S k v) := by
  obtain ⟨⟨a1, a2⟩, a3, a4, a5, a6, a7, a8, a9⟩ := hS
  have h0 : ∀ j, 1 ≤ j → j < 7 → upd S k v j = S j := fun j h1 h2 => upd_ne _ _ (by rcases hk with h | h | ⟨b, w, h, h'⟩ <;> omega)
  have h1 : ∀ b w, b < 12 → w < 4 → 7 + 6 * b + w ≠ k := fun b w h1 h2 => by rcases hk with h | h | ⟨b, w, h, h'⟩ <;> omega
  have hn : nb (upd S k v) = nb S := nb_upd (by rcases hk with h | h | ⟨b, w, h, h'⟩ <;> omega)
  refine ⟨⟨by rw [hn, h0 1 (by omega) (by omega)]; exact a1, by rw [hn]; exact a2⟩, fun c hc => ?_, fun c d q1 q2 q3 => ?_, by rw [h0 2 (by omega) (by omega)]; exact a5, by rw [h0 3 (by omega) (by omega)]; exact a6, by rw [h0 4 (by omega) (by omega)]; exact a7, by rw [h0 5 (by omega) (by omega)]; exact a8, by rw [h0 6 (by omega) (by omega)]; exact a9⟩
  · rw [hn] at hc
    have hB := a3 c hc
    unfold OkB at hB ⊢
    rw [upd_ne _ _ (h1 c 0 (by omega) (by omega)), upd_ne _ _ (h1 c 1 (by omega) (by omega)), upd_ne _ _ (h1 c 2 (by omega) (by omega)), upd_ne _ _ (h1 c 3 (by omega) (by omega)), bf_upd (h1 c 0 (by omega) (by omega)), bf_upd (h1 c 1 (by omega) (by omega)), bf_upd (h1 c 2 (by omega) (by omega)), bf_upd (h1 c 3 (by omega) (by omega))]
    exact hB
  · rw [hn] at q2
    rw [bf_upd (h1 c 2 (by omega) (by omega)), bf_upd (h1 d 2 (by omega) (by omega))] at q3
    rw [bf_upd (h1 c 2 (by omega) (by omega))]
    exact a4 c d q1 q2 q3
/-- a bale put on a place that is free (or its own), or taken off -/
theorem ok_place {S : Rw} {b v : Nat} (hS : OkR S) (hb : b < nb S) (hv : v ≤ 36) (hf : v = 36 ∨ ∀ c, c < nb S → c ≠ b → bf S c 2 ≠ v) : OkR (upd S (7 + 6 * b + 2) (In v)) := by
  obtain ⟨⟨a1, a2⟩, a3, a4, a5, a6, a7, a8, a9⟩ := hS
  have hn : nb (upd S (7 + 6 * b + 2) (In v)) = nb S := nb_upd (by omega)
  have hiv : hy_ix (In v) = v := n_ix (by omega)
  have hk : ∀ k, k < 7 → upd S (7 + 6 * b + 2) (In v) k = S k := fun k h => upd_ne _ _ (by omega)
  refine ⟨⟨by rw [hn, hk 1 (by omega)]; exact a1, by rw [hn]; exact a2⟩, fun c hc => ?_, fun c d h1 h2 h3 => ?_, by rw [hk 2 (by omega)]; exact a5, by rw [hk 3 (by omega)]; exact a6, by rw [hk 4 (by omega)]; exact a7, by rw [hk 5 (by omega)]; exact a8, by rw [hk 6 (by omega)]; exact a9⟩
  · rw [hn] at hc
    have hB := a3 c hc
    unfold OkB at hB ⊢
    have key : ∀ x, 7 + 6 * c + x ≠ 7 + 6 * b + 2 → upd S (7 + 6 * b + 2) (In v) (7 + 6 * c + x) = S (7 + 6 * c + x) ∧ bf (upd S (7 + 6 * b + 2) (In v)) c x = bf S c x := fun x h => ⟨upd_ne _ _ h, bf_upd h⟩
    rw [(key 0 (by omega)).1, (key 0 (by omega)).2, (key 1 (by omega)).1, (key 1 (by omega)).2, (key 3 (by omega)).1, (key 3 (by omega)).2]
    by_cases hcb : c = b
    · subst hcb
      rw [upd_at, bf_upds, hiv]
      exact ⟨hB.1, hB.2.1, ⟨rfl, hv⟩, hB.2.2.2⟩
    · rw [(key 2 (by omega)).1, (key 2 (by omega)).2]
      exact hB
  · rw [hn] at h2
    by_cases hcb : c = b
    · subst hcb
      rw [bf_upds, hiv, bf_upd (by omega)] at h3
      rw [bf_upds, hiv]
      rcases hf with h | h
      · exact h
      · exact absurd h3.symm (h d h2 (by omega))
    · rw [bf_upd (by omega)] at h3 ⊢
      by_cases hdb : d = b
      · subst hdb
        rw [bf_upds, hiv] at h3
        rcases hf with h | h
        · omega
        · exact absurd h3 (h c (by omega) hcb)
      · rw [bf_upd (by omega)] at h3
        exact a4 c d h1 h2 h3
theorem ok_gone {S : Rw} {b : Nat} (hS : OkR S) (hb : b < nb S) : OkR (upd S (7 + 6 * b + 2) 36) := ok_place (v := 36) hS hb (by omega) (Or.inl rfl)
theorem grS_nb {S : Rw} {b : Nat} : nb (grS S b) = nb S := by
  unfold grS
  split
  · exact nb_upd (by omega)
  · rw [nb_upd (by omega), nb_upd (by omega)]
theorem grS_ok {S : Rw} {b : Nat} (hS : OkR S) (hb : b < nb S) : OkR (grS S b) := by
  obtain ⟨-, -, -, ⟨h3, h4, h5⟩⟩ := hS.2.1 b hb
  unfold grS
  split
  · exact ok_upd hS hb (Or.inr (Or.inr ⟨rfl, by omega, by omega⟩))
  · have h1 : OkR (upd S (7 + 6 * b + 3) (In 1)) := ok_upd hS hb (Or.inr (Or.inr ⟨rfl, by omega, by omega⟩))
    exact ok_gone h1 (by rw [nb_upd (by omega)]; exact hb)
theorem rnB_nb {S : Rw} {b : Nat} : nb (rnB S b) = nb S := by
  unfold rnB
  split
  · split
    · exact nb_upd (by omega)
    · exact nb_upd (by omega)
  · rfl
theorem rnB_ok {S : Rw} {b : Nat} (hS : OkR S) (hb : b < nb S) : OkR (rnB S b) := by
  obtain ⟨-, -, -, ⟨h3, h4, h5⟩⟩ := hS.2.1 b hb
  unfold rnB
  split
  · split
    · exact ok_upd hS hb (Or.inr (Or.inr ⟨rfl, by omega, by omega⟩))
    · exact ok_upd (v := 5) hS hb (Or.inl ⟨rfl, by omega⟩)
  · exact hS
theorem rnL_ok : ∀ {m i : Nat} {S : Rw}, OkR S → i + m ≤ nb S → OkR (rnL S i m) ∧ nb (rnL S i m) = nb S := by
  intro m
  induction m with
  | zero => intro i S h _; exact ⟨h, rfl⟩
  | succ m ih =>
    intro i S h hm
    have := ih (i := i + 1) (rnB_ok h (b := i) (by omega)) (by rw [rnB_nb]; omega)
    rw [rnB_nb] at this
    exact this
