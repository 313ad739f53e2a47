/-! PURE: the reference's small methods -/
theorem m125 (x a b : Int32) (σ : Sg) : J125 x a b σ = some (b2 (a ≤ x ∧ x ≤ b), σ) := by
  unfold J125 b2
  simp only [← Int32.not_le]
  by_cases h1 : a ≤ x
  · by_cases h2 : x ≤ b
    · simp [h1, h2]
    · simp [h1, h2]
  · simp [h1]
theorem m126 (x : Int32) (σ : Sg) : J126 x σ = some (b2 (0 ≤ x ∧ x ≤ 35), σ) := by
  unfold J126
  rw [m125, Option.bind_some]
  simp only [b2_01, if_true]
theorem m132 (x : Int32) (σ : Sg) : J132 x σ = some (b2 (0 ≤ x ∧ x ≤ σ 139 1 - 1), σ) := by
  unfold J132
  rw [m125, Option.bind_some]
  simp only [b2_01, if_true]
theorem n_bw (b w : Nat) : ((7 : Int32) + ((6 : Int32) * In b)) + In w = In (7 + 6 * b + w) := by
  rw [show (7 : Int32) = In 7 from rfl, show (6 : Int32) = In 6 from rfl, n_mul, n_add, n_add]
theorem m128 {b w : Nat} (h : 7 + 6 * b + w < 1451) (σ : Sg) : J128 (In b) (In w) σ = some (σ 139 (7 + 6 * b + w), σ) := by
  unfold J128
  rw [n_bw, n_ix (by omega), if_pos (by rw [n_ibT (by omega) (by omega)]; trivial)]
theorem m130 {b w : Nat} (h : 7 + 6 * b + w < 1451) (v : Int32) (σ : Sg) : J130 (In b) (In w) v σ = some (wr σ (upd (σ 139) (7 + 6 * b + w) v)) := by
  unfold J130
  rw [n_bw, n_ix (by omega), if_pos (by rw [n_ibT (by omega) (by omega)]; trivial), up_wr]
theorem m127_loop {σ : Sg} {p n : Nat} (hn : σ 139 1 = In n) (hn2 : n ≤ 12) (hp : p < 2147483648) (hpl : ∀ b, b < n → σ 139 (7 + 6 * b + 2) = In (bf (σ 139) b 2) ∧ bf (σ 139) b 2 ≤ 36) : ∀ (m i f : Nat) (acc : Int32), i + m = n → m < f → J127_1 f (In p) acc (In i) σ = some ((match hdL (σ 139) p i m with | some b => In b | none => acc), σ) := by
  intro m
  induction m with
  | zero =>
    intro i f acc hi hf
    obtain ⟨f, rfl⟩ : ∃ g, f = g + 1 := ⟨f - 1, by omega⟩
    unfold J127_1
    rw [hn, if_pos (by rw [n_le (by omega) (by omega)]; omega)]
    rfl
  | succ m ih =>
    intro i f acc hi hf
    obtain ⟨f, rfl⟩ : ∃ g, f = g + 1 := ⟨f - 1, by omega⟩
    unfold J127_1
    rw [hn, if_neg (by rw [n_le (by omega) (by omega)]; omega), show (2 : Int32) = In 2 from rfl, m128 (by omega), Option.bind_some]
    obtain ⟨h1, h2⟩ := hpl i (by omega)
    simp only [h1, n_eq (show bf (σ 139) i 2 < 2147483648 by omega) hp]
    unfold J127_3
    rw [show (1 : Int32) = In 1 from rfl, n_add, ih (i + 1) f (In i) (by omega) (by omega), ih (i + 1) f acc (by omega) (by omega)]
    conv => rhs; unfold hdL
    cases hdL (σ 139) p (i + 1) m with
    | some c => simp
    | none =>
      by_cases e : bf (σ 139) i 2 = p
      · simp [e]
      · simp [e]
theorem m127 {σ : Sg} {p : Nat} (hS : OkR (σ 139)) (hp : p < 2147483648) : J127 (In p) σ = some (oI (-1) (hd (σ 139) p), σ) := by
  unfold J127
  rw [show (0 : Int32) = In 0 from rfl, m127_loop hS.1.1 hS.1.2 hp (fun b hb => (hS.2.1 b hb).2.2.1) (nb (σ 139)) 0 hy_fu (-1) (by omega) (by have := hS.1.2; unfold hy_fu; omega)]
  unfold hd
  cases hdL (σ 139) p 0 (nb (σ 139)) <;> rfl
theorem oI_lt {o : Option Nat} (h : ∀ b, o = some b → b < 2147483648) : (oI (-1) o < 0) = (o = none) := by
  cases o with
  | none => simp [oI]
  | some b =>
    show (In b < In 0) = _
    rw [n_lt (h b rfl) (by omega)]
    simp
theorem oI_ge {o : Option Nat} (h : ∀ b, o = some b → b < 2147483648) : (0 ≤ oI (-1) o) = (o ≠ none) := by
  cases o with
  | none => simp [oI]
  | some b =>
    show (In 0 ≤ In b) = _
    rw [n_le (by omega) (h b rfl)]
    simp
theorem hd_bd {S : Rw} (hS : OkR S) {p : Nat} : ∀ b, hd S p = some b → b < 2147483648 := fun b hb => by
  have := (hd_some hb).1
  have := hS.1.2
  omega
theorem m141 (x : Int32) (σ : Sg) : J141 x σ = some (if 0 ≤ x then x else -1000000005, σ) := by
  unfold J141
  split <;> rfl
theorem m141o {o : Option Nat} (h : ∀ b, o = some b → b < 2147483648) (σ : Sg) : J141 (oI (-1) o) σ = some (oI (-1000000005) o, σ) := by
  rw [m141]
  simp only [oI_ge h]
  cases o <;> simp [oI]
theorem m140 {σ : Sg} (hS : OkR (σ 139)) (x : Int32) : J140 x σ = some (if 0 ≤ x ∧ x ≤ 35 then oI (-1000000005) (hd (σ 139) (hy_ix x)) else -1000000001, σ) := by
  unfold J140
  rw [m126, Option.bind_some]
  simp only [b2_0]
  by_cases h : 0 ≤ x ∧ x ≤ 35
  · obtain ⟨p, hp, rfl⟩ := n_rngI (n := 35) (by omega) h.1 h.2
    rw [if_neg (fun z => z h), if_pos h, m127 hS (by omega), Option.bind_some]
    dsimp only
    rw [m141o (hd_bd hS), Option.bind_some, n_ix (by omega)]
  · rw [if_pos h, if_neg h]
