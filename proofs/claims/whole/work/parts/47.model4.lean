/-! PURE: the reference's grazing, rain, one more bale -/
theorem n_neg1 {h e : Nat} (h1 : h ≤ e) (h2 : e < 2147483648) : ¬ (1 : Int32) ≤ In h - In e := by
  rw [n_z, n_z, z_sub, show (1 : Int32) = Zn 1 from rfl, z_le (by omega) (by omega) (by omega) (by omega)]
  omega
def grS (S : Rw) (b : Nat) : Rw := if etK (bf S b 0) < bf S b 3 then upd S (7 + 6 * b + 3) (In (bf S b 3 - etK (bf S b 0))) else upd (upd S (7 + 6 * b + 3) 1) (7 + 6 * b + 2) 36
theorem etK_le (k : Nat) : etK k ≤ 5 := by
  unfold etK
  split
  · omega
  · split
    · omega
    · split <;> omega
theorem m171 {σ : Sg} {b : Nat} (hS : OkR (σ 139)) (hb : b < nb (σ 139)) : J171 (In b) σ = some (wr σ (grS (σ 139) b)) := by
  have h12 := hS.1.2
  obtain ⟨-, -, -, ⟨h3, h4, h5⟩⟩ := hS.2.1 b hb
  have h6 := etK_le (bf (σ 139) b 0)
  unfold J171 grS
  rw [show (3 : Int32) = In 3 from rfl, m128 (by omega), Option.bind_some]
  dsimp only
  rw [m138 hS hb, Option.bind_some]
  dsimp only
  rw [m137, Option.bind_some, h3]
  dsimp only
  rw [m130 (by omega), Option.bind_some]
  by_cases h : etK (bf (σ 139) b 0) < bf (σ 139) b 3
  · rw [if_pos h, n_sub (by omega), show (1 : Int32) = In 1 from rfl, show (99 : Int32) = In 99 from rfl]
    rw [if_pos (show In 1 ≤ In (bf (σ 139) b 3 - etK (bf (σ 139) b 0)) by rw [n_le (by omega) (by omega)]; omega)]
    rw [if_pos (show In 1 ≤ In (bf (σ 139) b 3 - etK (bf (σ 139) b 0)) by rw [n_le (by omega) (by omega)]; omega)]
    rw [if_pos (show In (bf (σ 139) b 3 - etK (bf (σ 139) b 0)) ≤ In 99 by rw [n_le (by omega) (by omega)]; omega)]
  · have hn := n_neg1 (h := bf (σ 139) b 3) (e := etK (bf (σ 139) b 0)) (by omega) (by omega)
    rw [if_neg h, if_neg hn, if_neg hn, show (2 : Int32) = In 2 from rfl, m130 (by omega), Option.bind_some, wr_at, wr_wr]
/-- one bale in the rain -/
def rnB (S : Rw) (b : Nat) : Rw := if bf S b 2 < 36 then (if 1 < bf S b 3 then upd S (7 + 6 * b + 3) (In (bf S b 3 - 1)) else upd S (7 + 6 * b + 0) 5) else S
def rnL (S : Rw) (i : Nat) : Nat → Rw
  | 0 => S
  | m + 1 => rnL (rnB S i) (i + 1) m
def rnS (S : Rw) : Rw := rnL S 0 (nb S)
theorem bf_upd {S : Rw} {k : Nat} {v : Int32} {b w : Nat} (h : 7 + 6 * b + w ≠ k) : bf (upd S k v) b w = bf S b w := by
  unfold bf
  rw [upd_ne _ _ h]
theorem bf_upds {S : Rw} {v : Int32} {b w : Nat} : bf (upd S (7 + 6 * b + w) v) b w = hy_ix v := by
  unfold bf
  rw [upd_at]
theorem nb_upd {S : Rw} {k : Nat} {v : Int32} (h : 1 ≠ k) : nb (upd S k v) = nb S := by
  unfold nb
  rw [upd_ne _ _ h]
/-- a row with another number in a bale's field, still in order: kind, farm, hay -/
theorem ok_upd {S : Rw} {b w : Nat} {v : Nat} (hS : OkR S) (hb : b < nb S) (hw : w = 0 ∧ v ≤ 5 ∨ w = 1 ∧ v ≤ 1 ∨ w = 3 ∧ 1 ≤ v ∧ v ≤ 99) : OkR (upd S (7 + 6 * b + w) (In v)) := by
  obtain ⟨⟨a1, a2⟩, a3, a4, a5, a6, a7, a8, a9⟩ := hS
  have hn : nb (upd S (7 + 6 * b + w) (In v)) = nb S := nb_upd (by omega)
  have hv : hy_ix (In v) = v := n_ix (by omega)
  have hk : ∀ k, k < 7 → upd S (7 + 6 * b + w) (In v) k = S k := fun k h => upd_ne _ _ (by omega)
  refine ⟨⟨by rw [hn, hk 1 (by omega)]; exact a1, by rw [hn]; exact a2⟩, fun c hc => ?_, fun c d h1 h2 h3 => ?_, by rw [hk 2 (by omega)]; exact a5, by rw [hk 3 (by omega)]; exact a6, by rw [hk 4 (by omega)]; exact a7, by rw [hk 5 (by omega)]; exact a8, by rw [hk 6 (by omega)]; exact a9⟩
  · rw [hn] at hc
    have hB := a3 c hc
    have key : ∀ x, 7 + 6 * c + x ≠ 7 + 6 * b + w → upd S (7 + 6 * b + w) (In v) (7 + 6 * c + x) = S (7 + 6 * c + x) ∧ bf (upd S (7 + 6 * b + w) (In v)) c x = bf S c x := fun x h => ⟨upd_ne _ _ h, bf_upd h⟩
    by_cases hcb : c = b
    · subst hcb
      have ks : upd S (7 + 6 * c + w) (In v) (7 + 6 * c + w) = In (bf (upd S (7 + 6 * c + w) (In v)) c w) ∧ bf (upd S (7 + 6 * c + w) (In v)) c w = v := ⟨by rw [upd_at, bf_upds, hv], by rw [bf_upds, hv]⟩
      unfold OkB at hB ⊢
      rcases hw with ⟨rfl, h⟩ | ⟨rfl, h⟩ | ⟨rfl, h⟩
      · rw [(key 1 (by omega)).1, (key 1 (by omega)).2, (key 2 (by omega)).1, (key 2 (by omega)).2, (key 3 (by omega)).1, (key 3 (by omega)).2]
        exact ⟨⟨ks.1, by rw [ks.2]; exact h⟩, hB.2⟩
      · rw [(key 0 (by omega)).1, (key 0 (by omega)).2, (key 2 (by omega)).1, (key 2 (by omega)).2, (key 3 (by omega)).1, (key 3 (by omega)).2]
        exact ⟨hB.1, ⟨ks.1, by rw [ks.2]; exact h⟩, hB.2.2⟩
      · rw [(key 0 (by omega)).1, (key 0 (by omega)).2, (key 1 (by omega)).1, (key 1 (by omega)).2, (key 2 (by omega)).1, (key 2 (by omega)).2]
        exact ⟨hB.1, hB.2.1, hB.2.2.1, ks.1, by rw [ks.2]; exact h⟩
    · have hw3 : w ≤ 3 := by omega
      unfold OkB at hB ⊢
      rw [(key 0 (by omega)).1, (key 0 (by omega)).2, (key 1 (by omega)).1, (key 1 (by omega)).2, (key 2 (by omega)).1, (key 2 (by omega)).2, (key 3 (by omega)).1, (key 3 (by omega)).2]
      exact hB
  · rw [hn] at h2
    have hw3 : w ≤ 3 := by omega
    rw [bf_upd (by omega), bf_upd (by omega)] at h3
    rw [bf_upd (by omega)]
    exact a4 c d h1 h2 h3
