/-! PURE: the reference's one more bale; what texts count -/
def cmS (S : Rw) (k f p h : Int32) : Rw := upd (upd (upd (upd (upd (upd (upd S 1 (S 1 + 1)) (7 + 6 * nb S + 0) k) (7 + 6 * nb S + 1) f) (7 + 6 * nb S + 2) p) (7 + 6 * nb S + 3) h) (7 + 6 * nb S + 4) 0) (7 + 6 * nb S + 5) 0
theorem m129 {σ : Sg} (hS : OkR (σ 139)) (k f p h : Int32) : J129 k f p h σ = some (In (nb (σ 139)), wr σ (cmS (σ 139) k f p h)) := by
  have h12 := hS.1.2
  have h1 := hS.1.1
  unfold J129
  rw [up_wr]
  have e : ∀ w v T, w < 6 → J130 (In (nb (σ 139))) (In w) v (wr σ T) = some (wr σ (upd T (7 + 6 * nb (σ 139) + w) v)) := fun w v T hw => by rw [m130 (by omega), wr_at, wr_wr]
  have e0 : ∀ v T, J130 (σ 139 1) 0 v (wr σ T) = some (wr σ (upd T (7 + 6 * nb (σ 139) + 0) v)) := fun v T => by rw [h1]; exact e 0 v T (by omega)
  have e1 : ∀ v T, J130 (σ 139 1) 1 v (wr σ T) = some (wr σ (upd T (7 + 6 * nb (σ 139) + 1) v)) := fun v T => by rw [h1]; exact e 1 v T (by omega)
  have e2 : ∀ v T, J130 (σ 139 1) 2 v (wr σ T) = some (wr σ (upd T (7 + 6 * nb (σ 139) + 2) v)) := fun v T => by rw [h1]; exact e 2 v T (by omega)
  have e3 : ∀ v T, J130 (σ 139 1) 3 v (wr σ T) = some (wr σ (upd T (7 + 6 * nb (σ 139) + 3) v)) := fun v T => by rw [h1]; exact e 3 v T (by omega)
  have e4 : ∀ v T, J130 (σ 139 1) 4 v (wr σ T) = some (wr σ (upd T (7 + 6 * nb (σ 139) + 4) v)) := fun v T => by rw [h1]; exact e 4 v T (by omega)
  have e5 : ∀ v T, J130 (σ 139 1) 5 v (wr σ T) = some (wr σ (upd T (7 + 6 * nb (σ 139) + 5) v)) := fun v T => by rw [h1]; exact e 5 v T (by omega)
  rw [e0, Option.bind_some, e1, Option.bind_some, e2, Option.bind_some, e3, Option.bind_some, e4, Option.bind_some, e5, Option.bind_some]
  show some (σ 139 1, _) = _
  rw [show (σ 139 1, wr σ (upd (upd (upd (upd (upd (upd (upd (σ 139) 1 (σ 139 1 + 1)) (7 + 6 * nb (σ 139) + 0) k) (7 + 6 * nb (σ 139) + 1) f) (7 + 6 * nb (σ 139) + 2) p) (7 + 6 * nb (σ 139) + 3) h) (7 + 6 * nb (σ 139) + 4) 0) (7 + 6 * nb (σ 139) + 5) 0)) = (In (nb (σ 139)), wr σ (cmS (σ 139) k f p h)) from by rw [← h1]; rfl]
/-- the last of the first n texts that has this key -/
def ctL (S : Rw) (key : Nat) : Nat → Option Nat
  | 0 => none
  | t + 1 => if hy_ix (S (79 + 2 * t)) / 1000 = key then some t else ctL S key t
def nt (S : Rw) : Nat := hy_ix (S 6)
def ct (S : Rw) (key : Nat) : Option Nat := ctL S key (nt S)
theorem m134_loop {σ : Sg} {key : Nat} (hk : key < 3) (ht : ∀ t, t < 14 → t < nt (σ 139) → σ 139 (79 + 2 * t) = In (hy_ix (σ 139 (79 + 2 * t))) ∧ hy_ix (σ 139 (79 + 2 * t)) < 3000) (h14 : nt (σ 139) ≤ 14) : ∀ (t f : Nat), t ≤ nt (σ 139) → t < f → J134_1 f (In key) (In t - 1) σ = some (oI (-1) (ctL (σ 139) key t), σ) := by
  intro t
  induction t with
  | zero =>
    intro f h1 h2
    obtain ⟨f, rfl⟩ : ∃ g, f = g + 1 := ⟨f - 1, by omega⟩
    unfold J134_1
    rw [if_pos (show In 0 - 1 < 0 by decide)]
    rfl
  | succ t ih =>
    intro f h1 h2
    obtain ⟨f, rfl⟩ : ∃ g, f = g + 1 := ⟨f - 1, by omega⟩
    obtain ⟨e1, e2⟩ := ht t (by omega) (by omega)
    unfold J134_1
    rw [show (1 : Int32) = In 1 from rfl, n_sub (by omega), Nat.add_sub_cancel, show (79 : Int32) = In 79 from rfl, show (2 : Int32) = In 2 from rfl, n_mul, n_add, n_ix (by omega), show (0 : Int32) = In 0 from rfl]
    rw [if_neg (by rw [n_lt (by omega) (by omega)]; omega), if_pos (by rw [n_ibT (by omega) (by omega)]; trivial), e1, show (1000 : Int32) = In 1000 from rfl, n_div (by omega) (by omega)]
    simp only [n_eq (show hy_ix (σ 139 (79 + 2 * t)) / 1000 < 2147483648 by omega) (show key < 2147483648 by omega)]
    have es : In t + -In 1 = In t - 1 := (Int32.sub_eq_add_neg (In t) (In 1)).symm
    unfold ctL
    by_cases h : hy_ix (σ 139 (79 + 2 * t)) / 1000 = key
    · rw [if_pos h, if_pos h]
      rfl
    · rw [if_neg h, if_neg h, es]
      exact ih f (by omega) (by omega)
