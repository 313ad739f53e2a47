/-! PURE: numbers. I a is a natural as an int; Z a an integer -/
abbrev In (n : Nat) : Int32 := Int32.ofNat n
abbrev Zn (n : Int) : Int32 := Int32.ofInt n
theorem n_ti {a : Nat} (h : a < 2147483648) : (In a).toInt = a := by
  show (Int32.ofNat a).toInt = a
  rw [Int32.toInt_ofNat', Int.bmod_eq_of_le (by simp only [Int32.size]; omega) (by simp only [Int32.size]; omega)]
theorem z_ti {a : Int} (h1 : -2147483648 ≤ a) (h2 : a < 2147483648) : (Zn a).toInt = a := by
  show (Int32.ofInt a).toInt = a
  rw [Int32.toInt_ofInt, Int.bmod_eq_of_le (by simp; omega) (by simp; omega)]
theorem n_z (a : Nat) : In a = Zn a := by
  show Int32.ofNat a = Int32.ofInt a
  rw [Int32.ofInt_eq_ofNat]
theorem n_add (a b : Nat) : In a + In b = In (a + b) := (Int32.ofNat_add a b).symm
theorem n_mul (a b : Nat) : In a * In b = In (a * b) := (Int32.ofNat_mul a b).symm
theorem n_sub {a b : Nat} (h : b ≤ a) : In a - In b = In (a - b) := (Int32.ofNat_sub a b h).symm
theorem n_le {a b : Nat} (h1 : a < 2147483648) (h2 : b < 2147483648) : (In a ≤ In b) = (a ≤ b) := by
  rw [Int32.le_iff_toInt_le, n_ti h1, n_ti h2]
  simp
theorem n_lt {a b : Nat} (h1 : a < 2147483648) (h2 : b < 2147483648) : (In a < In b) = (a < b) := by
  rw [Int32.lt_iff_toInt_lt, n_ti h1, n_ti h2]
  simp
theorem n_eq {a b : Nat} (h1 : a < 2147483648) (h2 : b < 2147483648) : (In a = In b) = (a = b) := by
  rw [← Int32.toInt_inj, n_ti h1, n_ti h2]
  exact propext Int.ofNat_inj
theorem z_le {a b : Int} (h1 : -2147483648 ≤ a) (h2 : a < 2147483648) (h3 : -2147483648 ≤ b) (h4 : b < 2147483648) : (Zn a ≤ Zn b) = (a ≤ b) := by
  rw [Int32.le_iff_toInt_le, z_ti h1 h2, z_ti h3 h4]
theorem z_lt {a b : Int} (h1 : -2147483648 ≤ a) (h2 : a < 2147483648) (h3 : -2147483648 ≤ b) (h4 : b < 2147483648) : (Zn a < Zn b) = (a < b) := by
  rw [Int32.lt_iff_toInt_lt, z_ti h1 h2, z_ti h3 h4]
theorem z_eq {a b : Int} (h1 : -2147483648 ≤ a) (h2 : a < 2147483648) (h3 : -2147483648 ≤ b) (h4 : b < 2147483648) : (Zn a = Zn b) = (a = b) := by
  rw [← Int32.toInt_inj, z_ti h1 h2, z_ti h3 h4]
theorem z_add (a b : Int) : Zn a + Zn b = Zn (a + b) := (Int32.ofInt_add a b).symm
theorem z_sub (a b : Int) : Zn a - Zn b = Zn (a - b) := (Int32.ofInt_sub a b).symm
theorem z_neg (a : Int) : -Zn a = Zn (-a) := (Int32.ofInt_neg a).symm
theorem z_mul (a b : Int) : Zn a * Zn b = Zn (a * b) := (Int32.ofInt_mul a b).symm
theorem n_ix {a : Nat} (h : a < 2147483648) : hy_ix (In a) = a := by
  unfold hy_ix
  rw [Int32.toNatClampNeg, n_ti h]
  rfl
theorem n_ibT {a : Nat} {n : Int} (h : a < 2147483648) (h2 : (a : Int) < n) : hy_ib (In a) n = True := by
  apply eq_true
  exact ⟨by rw [n_ti h]; omega, by rw [n_ti h]; exact h2⟩
theorem n_of {x : Int32} (h : 0 ≤ x.toInt) : x = In (hy_ix x) := by
  apply Int32.toInt_inj.mp
  have : hy_ix x = x.toInt.toNat := rfl
  have h2 : x.toInt < 2147483648 := Int32.toInt_lt x
  rw [this, n_ti (by omega)]
  omega
theorem z_of (x : Int32) : x = Zn x.toInt := (Int32.ofInt_toInt x).symm
theorem n_div {a b : Nat} (h1 : a < 2147483648) (h2 : b < 2147483648) : In a / In b = In (a / b) := by
  apply Int32.toInt_inj.mp
  have hd := Nat.div_le_self a b
  have e : Int.tdiv (a : Int) (b : Int) = ((a / b : Nat) : Int) := rfl
  rw [Int32.toInt_div, n_ti h1, n_ti h2, n_ti (Nat.lt_of_le_of_lt hd h1), e]
  generalize a / b = q at hd ⊢
  exact Int.bmod_eq_of_le (by omega) (by omega)
theorem n_rem {a b : Nat} (h1 : a < 2147483648) (h2 : b < 2147483648) : hy_rem (In a) (In b) = In (a % b) := by
  unfold hy_rem
  rw [n_div h1 h2, n_mul, n_sub (Nat.div_mul_le_self a b)]
  congr 1
  have := Nat.mod_add_div a b
  rw [Nat.mul_comm] at this
  omega
