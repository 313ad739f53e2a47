/-! PURE: a bale's value, told what its text gives -/
/-- value by kind of a plain hay 0 .. 999 -/
def vlK (k x : Nat) : Nat := if k = 1 then x + 9 else if k = 2 then min (2 * x) 999 else if k = 3 then (x + 29) / 2 else if k = 4 then min (2 * x) 999 - 5 else if k = 5 then 1 else x
theorem m137n {x : Nat} (hx : x < 2147483648) (σ : Sg) : J137 (In x) 0 999 σ = some (In (min x 999), σ) := by
  rw [m137, show (0 : Int32) = In 0 from rfl, show (999 : Int32) = In 999 from rfl]
  rw [if_pos (by rw [n_le (by omega) (by omega)]; omega)]
  by_cases h : x ≤ 999
  · rw [if_pos (by rw [n_le (by omega) (by omega)]; exact h), Nat.min_eq_left h]
  · rw [if_neg (by rw [n_le (by omega) (by omega)]; exact h), Nat.min_eq_right (by omega)]
theorem m137s {x : Nat} (hx : x < 1000) (σ : Sg) : J137 (In x - 5) 0 999 σ = some (In (x - 5), σ) := by
  by_cases h : 5 ≤ x
  · rw [show (5 : Int32) = In 5 from rfl, n_sub h, m137n (by omega), Nat.min_eq_left (by omega)]
  · rw [m137]
    have : ¬ (0 : Int32) ≤ In x - 5 := by
      rw [n_z, show (5 : Int32) = Zn 5 from rfl, z_sub, show (0 : Int32) = Zn 0 from rfl, z_le (by omega) (by omega) (by omega) (by omega)]
      omega
    rw [if_neg this, show x - 5 = 0 by omega]
    rfl
theorem m133_2 {σ : Sg} {b x : Nat} (hS : OkR (σ 139)) (hb : b < nb (σ 139)) (hx : x ≤ 999) : J133_2 (In x) (In b) σ = some (In (vlK (bf (σ 139) b 0) x), σ) := by
  have h12 := hS.1.2
  obtain ⟨⟨h1, h2⟩, -⟩ := hS.2.1 b hb
  have e1 : In x + 9 = In (x + 9) := n_add x 9
  have e2 : (2 : Int32) * In x = In (2 * x) := n_mul 2 x
  have e3 : (In x + 29) / 2 = In ((x + 29) / 2) := by
    rw [show In x + 29 = In (x + 29) from n_add x 29, show (2 : Int32) = In 2 from rfl, n_div (by omega) (by omega)]
  unfold J133_2 vlK
  rw [show J128 (In b) 0 σ = some (σ 139 (7 + 6 * b + 0), σ) from m128 (w := 0) (by omega) σ, Option.bind_some]
  dsimp only
  rw [e1, e2, e3, m137n (by omega), Option.bind_some, Option.bind_some]
  dsimp only
  rw [m137s (by omega), Option.bind_some, h1]
  generalize bf (σ 139) b 0 = k at h2
  match k, h2 with
  | 0, _ => rfl
  | 1, _ => rfl
  | 2, _ => exact (congrArg some rfl)
  | 3, _ => rfl
  | 4, _ => rfl
  | 5, _ => rfl
  | n + 6, h => omega
