/-! PURE: the row behind a move is in order -/
theorem upd_comm (S : Rw) {k j : Nat} (v w : Int32) (h : k ≠ j) : upd (upd S k v) j w = upd (upd S j w) k v := by
  funext i
  by_cases h1 : i = j
  · subst h1
    rw [upd_at, upd_ne _ _ (Ne.symm h), upd_at]
  · rw [upd_ne _ _ h1]
    by_cases h2 : i = k
    · subst h2
      rw [upd_at, upd_at]
    · rw [upd_ne _ _ h2, upd_ne _ _ h2, upd_ne _ _ h1]
theorem mkA_ok {S : Rw} {b p : Nat} (hS : OkR S) (hb : b < nb S) (hp : p < 36) (hf : ∀ c, c < nb S → c ≠ b → bf S c 2 ≠ p) : OkR (mkA S b p) ∧ nb (mkA S b p) = nb S := by
  have h1 := ok_place (v := p) hS hb (by omega) (Or.inr hf)
  exact ⟨ok_free h1 (Or.inr (Or.inr ⟨b, 4, rfl, Or.inl rfl⟩)), by unfold mkA; rw [nb_upd (by omega), nb_upd (by omega)]⟩
theorem mkS_none {S : Rw} {b p : Nat} (h : hd S p = none) : mkS S b p = mkA S b p := by
  unfold mkS
  rw [h]
theorem mkS_some {S : Rw} {b p t : Nat} (h : hd S p = some t) : mkS S b p = mkC (mkB (mkA S b p) b t) b t := by
  unfold mkS
  rw [h]
theorem mkS_ok {S : Rw} {b p : Nat} (hS : OkR S) (hb : b < nb S) (hp : p < 36) (hd1 : hd S p ≠ some b) : OkR (mkS S b p) ∧ nb (mkS S b p) = nb S := by
  cases e : hd S p with
  | none =>
    rw [mkS_none e]
    exact mkA_ok hS hb hp fun c hc _ => hd_none e c hc
  | some t =>
    rw [mkS_some e]
    obtain ⟨ht, htp⟩ := hd_some e
    have htb : t ≠ b := fun z => hd1 (by rw [e, z])
    have h12 := hS.1.2
    have hG := ok_gone hS ht
    have hGn : nb (upd S (7 + 6 * t + 2) 36) = nb S := nb_upd (by omega)
    have hfree : ∀ c, c < nb (upd S (7 + 6 * t + 2) 36) → c ≠ b → bf (upd S (7 + 6 * t + 2) 36) c 2 ≠ p := by
      intro c hc hcb
      rw [hGn] at hc
      by_cases hct : c = t
      · subst hct
        rw [bf_upds, show (36 : Int32) = In 36 from rfl, n_ix (by omega)]
        omega
      · rw [bf_upd (by omega)]
        intro z
        rcases Nat.lt_trichotomy c t with h | h | h
        · have := hS.2.2.1 c t h ht (by omega)
          omega
        · exact hct h
        · have := hS.2.2.1 t c h hc (by omega)
          omega
    obtain ⟨hA, hAn⟩ := mkA_ok hG (by rw [hGn]; exact hb) hp hfree
    have eq1 : upd (mkA S b p) (7 + 6 * t + 2) 36 = mkA (upd S (7 + 6 * t + 2) 36) b p := by
      unfold mkA
      rw [upd_comm _ _ _ (show 7 + 6 * b + 4 ≠ 7 + 6 * t + 2 by omega), upd_comm _ _ _ (show 7 + 6 * b + 2 ≠ 7 + 6 * t + 2 by omega), upd_ne S _ (show 7 + 6 * b + 4 ≠ 7 + 6 * t + 2 by omega)]
    have hB : OkR (mkB (mkA S b p) b t) ∧ nb (mkB (mkA S b p) b t) = nb S := by
      unfold mkB
      rw [eq1]
      exact ⟨ok_free hA (Or.inr (Or.inr ⟨b, 5, rfl, Or.inr rfl⟩)), by rw [nb_upd (by omega), hAn, hGn]⟩
    obtain ⟨hB1, hB2⟩ := hB
    obtain ⟨-, -, -, ⟨b3, b4, b5⟩⟩ := hB1.2.1 b (by omega)
    obtain ⟨-, -, -, ⟨t3, t4, t5⟩⟩ := hB1.2.1 t (by omega)
    unfold mkC
    rw [b3, t3, hyW_ok b5 b4 t5]
    refine ⟨ok_upd hB1 (by omega) (Or.inr (Or.inr ⟨rfl, ?_, ?_⟩)), by rw [nb_upd (by omega), hB2]⟩
    · split <;> omega
    · split <;> omega
