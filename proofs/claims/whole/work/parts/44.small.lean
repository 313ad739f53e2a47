/-! PURE: small methods of both sides -/
theorem c3 (x a b : Int32) (σ : Sg) : J3 x a b σ = some (b2 (a ≤ x ∧ x ≤ b), σ) := by
  unfold J3 b2
  simp only [← Int32.not_le]
  by_cases h1 : a ≤ x
  · by_cases h2 : x ≤ b
    · simp [h1, h2]
    · simp [h1, h2]
  · simp [h1]
theorem c2 (x : Int32) (σ : Sg) : J2 x σ = some (b2 (0 ≤ x ∧ x ≤ 5), σ) := by
  unfold J2
  rw [c3, Option.bind_some]
  simp only [b2_01, if_true]
theorem c4 (x : Int32) (σ : Sg) : J4 x σ = some (b2 (0 ≤ x ∧ x ≤ 1), σ) := by
  unfold J4
  rw [c3, Option.bind_some]
  simp only [b2_01, if_true]
theorem c6 (x : Int32) (σ : Sg) : J6 x σ = some (b2 (1 ≤ x ∧ x ≤ 99), σ) := by
  unfold J6
  rw [c3, Option.bind_some]
  simp only [b2_01, if_true]
theorem c11 (o : Nat) (x : Int32) (σ : Sg) : J11 o x σ = some (b2 (0 ≤ x ∧ x ≤ σ o 7 - 1), σ) := by
  unfold J11
  rw [c3, Option.bind_some]
  simp only [b2_01, if_true]
theorem n_lt36 (x : Int32) : (36 ≤ x) = ¬ x ≤ 35 := by
  rw [Int32.le_iff_toInt_le, Int32.le_iff_toInt_le, show (36 : Int32).toInt = 36 from rfl, show (35 : Int32).toInt = 35 from rfl]
  exact propext ⟨fun h => by omega, fun h => by omega⟩
theorem c5 (x : Int32) (σ : Sg) : J5 x σ = some (b2 (0 ≤ x ∧ x ≤ 35), σ) := by
  unfold J5 b2
  simp only [← Int32.not_le, n_lt36]
  by_cases h1 : (0 : Int32) ≤ x
  · by_cases h2 : x ≤ 35
    · simp [h1, h2]
    · simp [h1, h2]
  · simp [h1]
theorem m149 {k : Nat} (h : k < 1451) (v : Int32) (σ : Sg) : J149 (In k) v σ = some (σ 139 k, wr σ (upd (σ 139) k v)) := by
  unfold J149
  rw [n_ix (by omega), if_pos (by rw [n_ibT (by omega) (by omega)]; trivial), if_pos (by rw [n_ibT (by omega) (by omega)]; trivial), up_wr]
theorem m137 (x a b : Int32) (σ : Sg) : J137 x a b σ = some (if a ≤ x then (if x ≤ b then x else b) else a, σ) := by
  unfold J137
  by_cases h1 : a ≤ x
  · by_cases h2 : x ≤ b
    · simp [h1, h2]
    · simp [h1, h2]
  · simp [h1]
def apt (a b : Nat) : Nat := if b ≤ a then a - b else b - a
theorem m144 {a b : Nat} (h1 : a < 2147483648) (h2 : b < 2147483648) (σ : Sg) : J144 (In a) (In b) σ = some (In (apt a b), σ) := by
  unfold J144 apt
  by_cases h : b ≤ a
  · rw [if_pos (by rw [n_le h2 h1]; exact h), if_pos h, n_sub h]
  · rw [if_neg (by rw [n_le h2 h1]; exact h), if_neg h, n_sub (by omega)]
/-- one more drawn: the number and the row behind it -/
def drZ (S : Rw) : Int32 := S 0 * 1103515245 + 12345
def drN (S : Rw) : Nat := (drZ S).toUInt32.toNat / 256
def drS (S : Rw) : Rw := upd S 0 (drZ S)
theorem drN_lt (S : Rw) : drN S < 16777216 := by
  unfold drN
  have := (drZ S).toUInt32.toNat_lt
  omega
theorem dr_sh (x : Int32) : (x.toUInt32 >>> ((8 : Int32).toUInt32 &&& Int32.toUInt32 31)).toInt32 = In (x.toUInt32.toNat / 256) := by
  have e : ((8 : Int32).toUInt32 &&& Int32.toUInt32 31) = 8 := by decide
  rw [e]
  apply Int32.toInt_inj.mp
  have hb := x.toUInt32.toNat_lt
  have hq : (x.toUInt32 >>> 8).toNat = x.toUInt32.toNat / 256 := by
    rw [UInt32.toNat_shiftRight]
    show x.toUInt32.toNat >>> (8 % 32) = _
    rw [Nat.shiftRight_eq_div_pow]
  rw [n_ti (by omega)]
  show (x.toUInt32 >>> 8).toInt32.toInt = _
  rw [← hq]
  have : (x.toUInt32 >>> 8).toInt32 = In (x.toUInt32 >>> 8).toNat := by
    show _ = Int32.ofNat _
    rw [← UInt32.toInt32_ofNat', UInt32.ofNat_toNat]
  rw [this, n_ti (by omega)]
theorem m153 (σ : Sg) : J153 σ = some (In (drN (σ 139)), wr σ (drS (σ 139))) := by
  unfold J153
  rw [dr_sh, up_same, upd_at, up_wr]
  rfl
