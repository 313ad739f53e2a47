/-! PURE: rain over all; the row behind a move is in order -/
theorem m172_2 {σ : Sg} {b : Nat} (hS : OkR (σ 139)) (hb : b < nb (σ 139)) (k1 : Int32 → Sg → Option Sg) : J172_2 k1 (In b) σ = k1 (In (b + 1)) (wr σ (if bf (σ 139) b 2 < 36 then upd (σ 139) (7 + 6 * b + 0) 5 else σ 139)) := by
  have h12 := hS.1.2
  unfold J172_2 J172_3
  rw [m162 hS hb, Option.bind_some]
  simp only [b2_0]
  by_cases h : bf (σ 139) b 2 < 36
  · rw [if_neg (fun z => z h), if_pos h, show (0 : Int32) = In 0 from rfl, m130 (by omega), Option.bind_some, show (1 : Int32) = In 1 from rfl, n_add]
  · rw [if_pos h, if_neg h, wr_self, show (1 : Int32) = In 1 from rfl, n_add]
theorem m172_loop : ∀ (m i f : Nat) (σ : Sg), OkR (σ 139) → i + m = nb (σ 139) → m < f → J172_1 f (In i) σ = some (wr σ (rnL (σ 139) i m)) := by
  intro m
  induction m with
  | zero =>
    intro i f σ hS hi hf
    have h12 := hS.1.2
    obtain ⟨f, rfl⟩ : ∃ g, f = g + 1 := ⟨f - 1, by omega⟩
    unfold J172_1
    rw [hS.1.1, if_pos (by rw [n_le (by omega) (by omega)]; omega)]
    show _ = some (wr σ (σ 139))
    rw [wr_self]
  | succ m ih =>
    intro i f σ hS hi hf
    have h12 := hS.1.2
    have hb : i < nb (σ 139) := by omega
    obtain ⟨-, -, -, ⟨h3, h4, h5⟩⟩ := hS.2.1 i hb
    obtain ⟨f, rfl⟩ : ∃ g, f = g + 1 := ⟨f - 1, by omega⟩
    have key : ∀ T, T = rnB (σ 139) i → J172_1 f (In (i + 1)) (wr σ T) = some (wr σ (rnL (σ 139) i (m + 1))) := by
      intro T hT
      subst hT
      rw [ih (i + 1) f _ (by rw [wr_at]; exact rnB_ok hS hb) (by rw [wr_at, rnB_nb]; omega) (by omega), wr_at, wr_wr]
      rfl
    unfold J172_1
    rw [hS.1.1, if_neg (by rw [n_le (by omega) (by omega)]; omega), m162 hS hb, Option.bind_some]
    simp only [b2_0]
    by_cases h : bf (σ 139) i 2 < 36
    · rw [if_neg (fun z => z h), show (3 : Int32) = In 3 from rfl, m128 (by omega), Option.bind_some]
      dsimp only
      rw [h3, show (1 : Int32) = In 1 from rfl]
      by_cases h1 : 1 < bf (σ 139) i 3
      · rw [if_neg (by rw [n_le (by omega) (by omega)]; omega), m128 (by omega), Option.bind_some]
        dsimp only
        rw [h3, n_sub (by omega), m130 (by omega), Option.bind_some]
        unfold J172_3
        rw [show (1 : Int32) = In 1 from rfl, n_add]
        exact key _ (by unfold rnB; rw [if_pos h, if_pos h1])
      · rw [if_pos (by rw [n_le (by omega) (by omega)]; omega), m172_2 hS hb]
        exact key _ (by unfold rnB; rw [if_pos h, if_pos h, if_neg h1])
    · rw [if_pos h, m172_2 hS hb]
      exact key _ (by unfold rnB; rw [if_neg h, if_neg h])
theorem m172 {σ : Sg} (hS : OkR (σ 139)) : J172 σ = some (wr σ (rnS (σ 139))) := by
  have h12 := hS.1.2
  unfold J172
  rw [show (0 : Int32) = In 0 from rfl]
  exact m172_loop (nb (σ 139)) 0 hy_fu σ hS (by omega) (by unfold hy_fu; omega)
theorem rnS_ok {S : Rw} (hS : OkR S) : OkR (rnS S) ∧ nb (rnS S) = nb S := rnL_ok hS (by omega)
theorem hyW_ok {x y : Nat} (hx : x ≤ 99) (hx1 : 1 ≤ x) (hy : y ≤ 99) : hyW (In x) (In y) = In (if x + y / 2 ≤ 99 then x + y / 2 else 99) := by
  unfold hyW
  rw [show (2 : Int32) = In 2 from rfl, n_div (by omega) (by omega), n_add, show (1 : Int32) = In 1 from rfl, show (99 : Int32) = In 99 from rfl]
  rw [if_pos (by rw [n_le (by omega) (by omega)]; omega)]
  by_cases h : x + y / 2 ≤ 99
  · rw [if_pos (by rw [n_le (by omega) (by omega)]; exact h), if_pos h]
  · rw [if_neg (by rw [n_le (by omega) (by omega)]; exact h), if_neg h]
