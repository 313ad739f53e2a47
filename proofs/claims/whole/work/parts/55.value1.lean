/-! PURE: bounds of values -/
theorem vlK_le {k x : Nat} (h : x ≤ 999) : vlK k x ≤ 1008 := by
  unfold vlK
  split
  · omega
  · split
    · omega
    · split
      · omega
      · split
        · omega
        · split <;> omega
/-- a sum of integers over some bales -/
def smZ (f : Nat → Int) (i : Nat) : Nat → Int
  | 0 => 0
  | m + 1 => f i + smZ f (i + 1) m
theorem smZ_bd {f : Nat → Int} {c : Int} : ∀ {m i : Nat}, (∀ b, i ≤ b → b < i + m → -c ≤ f b ∧ f b ≤ c) → -(c * m) ≤ smZ f i m ∧ smZ f i m ≤ c * m := by
  intro m
  induction m with
  | zero => intro i _; simp [smZ]
  | succ m ih =>
    intro i h
    have h1 := h i (Nat.le_refl _) (by omega)
    have h2 := ih (i := i + 1) fun b q1 q2 => h b (by omega) (by omega)
    have e : c * ((m + 1 : Nat) : Int) = c * (m : Int) + c := by
      rw [show ((m + 1 : Nat) : Int) = (m : Int) + 1 from rfl, Int.mul_add, Int.mul_one]
    show -(c * ((m + 1 : Nat) : Int)) ≤ f i + smZ f (i + 1) m ∧ f i + smZ f (i + 1) m ≤ c * ((m + 1 : Nat) : Int)
    rw [e]
    omega
theorem smZ_c {f g : Nat → Int} : ∀ {m i : Nat}, (∀ b, i ≤ b → b < i + m → f b = g b) → smZ f i m = smZ g i m := by
  intro m
  induction m with
  | zero => intro i _; rfl
  | succ m ih =>
    intro i h
    show f i + smZ f (i + 1) m = g i + smZ g (i + 1) m
    rw [h i (Nat.le_refl _) (by omega), ih fun b q1 q2 => h b (by omega) (by omega)]
/-- one summand changed -/
theorem smZ_1 {f g : Nat → Int} {a : Nat} : ∀ {m i : Nat}, i ≤ a → a < i + m → (∀ b, i ≤ b → b < i + m → b ≠ a → f b = g b) → smZ g i m = smZ f i m - f a + g a := by
  intro m
  induction m with
  | zero => intro i h1 h2; omega
  | succ m ih =>
    intro i h1 h2 h
    show g i + smZ g (i + 1) m = f i + smZ f (i + 1) m - f a + g a
    by_cases e : i = a
    · subst e
      have := smZ_c (f := f) (g := g) (m := m) (i := i + 1) fun b q1 q2 => h b (by omega) (by omega) (by omega)
      omega
    · have h3 := h i (Nat.le_refl _) (by omega) e
      have := ih (i := i + 1) (by omega) (by omega) fun b q1 q2 q3 => h b (by omega) (by omega) q3
      omega
