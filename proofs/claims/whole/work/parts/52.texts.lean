/-! PURE: texts worked out: a step over a list, the top first -/
def twS (s a b : Int32) : Int32 := if s = -8 then a * b else if s = -7 then a - b else if s = -6 then a + b else if s = -5 then (if a ≤ b then 0 else 1) else if s = -4 then (if a = b then 1 else 0) else if s = -3 then (if b ≤ a then 0 else 1) else if s = -2 then (if a = 0 then 0 else if b = 0 then 0 else 1) else if s = -1 then (if a = 0 then (if b = 0 then 0 else 1) else 1) else if b = 0 then 0 else a / b
theorem m136 (s a b : Int32) (σ : Sg) : J136 s a b σ = some (twS s a b, σ) := by
  unfold J136 twS
  simp only [hy_sw]
  by_cases h8 : s = -8
  · rw [if_pos h8, if_pos h8]
  rw [if_neg h8, if_neg h8]
  by_cases h7 : s = -7
  · rw [if_pos h7, if_pos h7]
  rw [if_neg h7, if_neg h7]
  by_cases h6 : s = -6
  · rw [if_pos h6, if_pos h6]
  rw [if_neg h6, if_neg h6]
  by_cases h5 : s = -5
  · rw [if_pos h5, if_pos h5]
    split <;> rfl
  rw [if_neg h5, if_neg h5]
  by_cases h4 : s = -4
  · rw [if_pos h4, if_pos h4]
    split <;> rfl
  rw [if_neg h4, if_neg h4]
  by_cases h3 : s = -3
  · rw [if_pos h3, if_pos h3]
    split <;> rfl
  rw [if_neg h3, if_neg h3]
  by_cases h2 : s = -2
  · rw [if_pos h2, if_pos h2]
    split
    · rfl
    · split <;> rfl
  rw [if_neg h2, if_neg h2]
  by_cases h1 : s = -1
  · rw [if_pos h1, if_pos h1]
    split
    · split <;> rfl
    · rfl
  rw [if_neg h1, if_neg h1]
  by_cases hb : b = 0
  · rw [if_pos hb, if_pos hb]
  · rw [if_neg hb, if_neg hb, if_neg hb]
def exS (v : Int32) (fc : Nat → Int32) (l : List Int32) : List Int32 := if 0 ≤ v then (if v < 10000 then v else fc (hy_ix (v - 10000))) :: l else if v = -10 then (match l with
  | x :: l => (if x = 0 then 1 else 0) :: l
  | [] => []) else (match l with
  | y :: x :: l => twS v x y :: l
  | l => l)
/-- how deep the pile is behind a step; none: the step can't be -/
def dpS (v : Int32) (d : Nat) : Option Nat := if 0 ≤ v then (if v ≤ 10002 then some (d + 1) else none) else if v = -10 then (if 1 ≤ d then some d else none) else if -9 ≤ v then (if 2 ≤ d then some (d - 1) else none) else none
def exL (c : Nat → Int32) (fc : Nat → Int32) (l : List Int32) (i : Nat) : Nat → List Int32
  | 0 => l
  | m + 1 => exL c fc (exS (c i) fc l) (i + 1) m
def dpL (c : Nat → Int32) (d : Nat) (i : Nat) : Nat → Option Nat
  | 0 => some d
  | m + 1 => (dpS (c i) d).bind fun d => dpL c d (i + 1) m
theorem exS_len {v : Int32} {fc : Nat → Int32} {l : List Int32} {d' : Nat} (h : dpS v l.length = some d') : (exS v fc l).length = d' := by
  unfold dpS at h
  unfold exS
  by_cases h0 : 0 ≤ v
  · rw [if_pos h0] at h ⊢
    split at h
    · cases h; rfl
    · cases h
  · rw [if_neg h0] at h ⊢
    by_cases h1 : v = -10
    · rw [if_pos h1] at h ⊢
      split at h
      · cases h
        cases l with
        | nil => rfl
        | cons x l => rfl
      · cases h
    · rw [if_neg h1] at h ⊢
      split at h
      · split at h
        · rename_i h2
          cases h
          match l, h2 with
          | y :: x :: l, _ => rfl
        · cases h
      · cases h
