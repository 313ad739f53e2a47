/-! PURE: the reference's row, read as naturals; who holds a place -/
def b2 (p : Prop) [Decidable p] : Int32 := if p then 1 else 0
theorem b2_0 (p : Prop) [Decidable p] : (b2 p = 0) = ¬p := by
  unfold b2
  by_cases h : p
  · simp [h]
  · simp [h]
theorem b2_1 (p : Prop) [Decidable p] : (b2 p = 1) = p := by
  unfold b2
  by_cases h : p
  · simp [h]
  · simp [h]
theorem b2_01 (p : Prop) [Decidable p] : (b2 p = 0 ∨ b2 p = 1) = True := by
  unfold b2
  by_cases h : p
  · simp [h]
  · simp [h]
theorem b2_c {p q : Prop} [Decidable p] [Decidable q] (h : p ↔ q) : b2 p = b2 q := by
  unfold b2
  by_cases e : p
  · rw [if_pos e, if_pos (h.mp e)]
  · rw [if_neg e, if_neg fun z => e (h.mpr z)]
def nb (S : Rw) : Nat := hy_ix (S 1)
def bf (S : Rw) (b w : Nat) : Nat := hy_ix (S (7 + 6 * b + w))
def hdL (S : Rw) (p : Nat) (i : Nat) : Nat → Option Nat
  | 0 => none
  | m + 1 => match hdL S p (i + 1) m with
    | some b => some b
    | none => if bf S i 2 = p then some i else none
def hd (S : Rw) (p : Nat) : Option Nat := hdL S p 0 (nb S)
def oI (d : Int32) : Option Nat → Int32
  | none => d
  | some b => In b
def OkB (S : Rw) (b : Nat) : Prop := (S (7 + 6 * b + 0) = In (bf S b 0) ∧ bf S b 0 ≤ 5) ∧ (S (7 + 6 * b + 1) = In (bf S b 1) ∧ bf S b 1 ≤ 1) ∧ (S (7 + 6 * b + 2) = In (bf S b 2) ∧ bf S b 2 ≤ 36) ∧ (S (7 + 6 * b + 3) = In (bf S b 3) ∧ 1 ≤ bf S b 3 ∧ bf S b 3 ≤ 99)
/-- the row's bales and rules are in order -/
def OkR (S : Rw) : Prop := (S 1 = In (nb S) ∧ nb S ≤ 12) ∧ (∀ b, b < nb S → OkB S b) ∧ (∀ b c, b < c → c < nb S → bf S b 2 = bf S c 2 → bf S b 2 = 36) ∧
  (S 2 = S 2 ∧ hy_ix (S 2) = hy_ix (S 2)) ∧ (S 3 = In (hy_ix (S 3)) ∧ hy_ix (S 3) ≤ 1) ∧ (S 4 = In (hy_ix (S 4)) ∧ hy_ix (S 4) ≤ 100) ∧ (S 5 = In (hy_ix (S 5)) ∧ hy_ix (S 5) ≤ 100) ∧ (S 6 = In (hy_ix (S 6)) ∧ hy_ix (S 6) ≤ 14)
theorem hdL_some {S : Rw} {p b : Nat} : ∀ {m i : Nat}, hdL S p i m = some b → i ≤ b ∧ b < i + m ∧ bf S b 2 = p := by
  intro m
  induction m with
  | zero => intro i h; cases h
  | succ m ih =>
    intro i h
    unfold hdL at h
    split at h
    · rename_i c hc
      cases h
      have := ih hc
      omega
    · split at h
      · rename_i hp
        cases h
        exact ⟨Nat.le_refl _, by omega, hp⟩
      · cases h
theorem hdL_none {S : Rw} {p : Nat} : ∀ {m i : Nat}, hdL S p i m = none → ∀ b, i ≤ b → b < i + m → bf S b 2 ≠ p := by
  intro m
  induction m with
  | zero => intro i _ b h1 h2; omega
  | succ m ih =>
    intro i h b h1 h2
    unfold hdL at h
    split at h
    · cases h
    · rename_i hc
      split at h
      · cases h
      · rename_i hp
        by_cases e : b = i
        · subst e; exact hp
        · exact ih hc b (by omega) (by omega)
theorem hd_some {S : Rw} {p b : Nat} (h : hd S p = some b) : b < nb S ∧ bf S b 2 = p := by
  have := hdL_some h
  omega
theorem hd_none {S : Rw} {p : Nat} (h : hd S p = none) : ∀ b, b < nb S → bf S b 2 ≠ p := fun b hb => hdL_none h b (Nat.zero_le _) (by omega)
theorem hd_is {S : Rw} {p b : Nat} (hS : OkR S) (hp : p < 36) (hb : b < nb S) (h : bf S b 2 = p) : hd S p = some b := by
  cases e : hd S p with
  | none => exact absurd h (hd_none e b hb)
  | some c =>
    obtain ⟨h1, h2⟩ := hd_some e
    rcases Nat.lt_trichotomy b c with h3 | h3 | h3
    · have := hS.2.2.1 b c h3 h1 (by omega)
      omega
    · rw [h3]
    · have := hS.2.2.1 c b h3 hb (by omega)
      omega
theorem n_rng {x : Int32} {n : Nat} (hn : n < 2147483648) (h0 : 0 ≤ x) (h1 : x ≤ In n - 1) : ∃ b, b < n ∧ x = In b := by
  have e0 : (0 : Int32).toInt = 0 := rfl
  rw [Int32.le_iff_toInt_le, e0] at h0
  rw [n_of h0] at h1 ⊢
  have hx : hy_ix x < 2147483648 := by
    have : hy_ix x = x.toInt.toNat := rfl
    have := Int32.toInt_lt x
    omega
  refine ⟨hy_ix x, ?_, rfl⟩
  by_cases z : n = 0
  · subst z
    rw [show In 0 - 1 = (-1 : Int32) from rfl, Int32.le_iff_toInt_le, n_ti hx, show (-1 : Int32).toInt = -1 from rfl] at h1
    omega
  · rw [show (1 : Int32) = In 1 from rfl, n_sub (by omega), n_le hx (by omega)] at h1
    omega
theorem n_rngI {x : Int32} {n : Nat} (hn : n < 2147483648) (h0 : 0 ≤ x) (h1 : x ≤ In n) : ∃ b, b ≤ n ∧ x = In b := by
  have e0 : (0 : Int32).toInt = 0 := rfl
  rw [Int32.le_iff_toInt_le, e0] at h0
  rw [n_of h0] at h1 ⊢
  have hx : hy_ix x < 2147483648 := by
    have : hy_ix x = x.toInt.toNat := rfl
    have := Int32.toInt_lt x
    omega
  refine ⟨hy_ix x, ?_, rfl⟩
  rwa [n_le hx hn] at h1
