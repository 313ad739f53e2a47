/-! PURE: the reference's moves, grazing, rain, one more bale -/
/-- hay with half of another's -/
def hyW (x y : Int32) : Int32 := if 1 ≤ x + y / 2 then (if x + y / 2 ≤ 99 then x + y / 2 else 99) else 1
def mkA (S : Rw) (b p : Nat) : Rw := upd (upd S (7 + 6 * b + 2) (In p)) (7 + 6 * b + 4) (S (7 + 6 * b + 4) + 1)
def mkB (S : Rw) (b t : Nat) : Rw := upd (upd S (7 + 6 * t + 2) 36) (7 + 6 * b + 5) (S (7 + 6 * b + 5) + 1)
def mkC (S : Rw) (b t : Nat) : Rw := upd S (7 + 6 * b + 3) (hyW (S (7 + 6 * b + 3)) (S (7 + 6 * t + 3)))
/-- the row behind a move -/
def mkS (S : Rw) (b p : Nat) : Rw := match hd S p with
  | none => mkA S b p
  | some t => mkC (mkB (mkA S b p) b t) b t
theorem m156 {σ : Sg} {b p : Nat} (hS : OkR (σ 139)) (hb : b < nb (σ 139)) (hp : p < 36) : J156 (In b) (In p) σ = some (oI (-1) (hd (σ 139) p), wr σ (mkS (σ 139) b p)) := by
  have h12 := hS.1.2
  unfold J156
  rw [m127 hS (by omega), Option.bind_some]
  dsimp only
  rw [show (2 : Int32) = In 2 from rfl, show (4 : Int32) = In 4 from rfl, m130 (by omega), Option.bind_some, m128 (by omega), Option.bind_some]
  dsimp only
  rw [m130 (by omega), Option.bind_some, wr_at, wr_wr, upd_ne _ _ (by omega)]
  simp only [oI_lt (hd_bd hS)]
  unfold mkS
  cases e : hd (σ 139) p with
  | none =>
    rw [if_pos rfl]
    rfl
  | some t =>
    obtain ⟨ht, -⟩ := hd_some e
    rw [if_neg (fun z => by cases z)]
    show (J130 (In t) (In 2) 36 _).bind _ = _
    rw [show (5 : Int32) = In 5 from rfl, show (3 : Int32) = In 3 from rfl, m130 (by omega), Option.bind_some, m128 (by omega), Option.bind_some]
    dsimp only
    rw [m130 (by omega), Option.bind_some, m128 (by omega), Option.bind_some]
    dsimp only
    show ((J128 (In t) (In 3) _).bind _) = _
    rw [m128 (by omega), Option.bind_some]
    dsimp only
    rw [m137, Option.bind_some]
    dsimp only
    rw [m130 (by omega), Option.bind_some]
    simp only [wr_at, wr_wr]
    rw [upd_ne _ _ (show 7 + 6 * b + 5 ≠ 7 + 6 * t + 2 by omega)]
    rfl
def etK (k : Nat) : Nat := if k = 2 then 3 else if k = 4 then 4 else if k = 5 then 0 else 5
theorem m138 {σ : Sg} {b : Nat} (hS : OkR (σ 139)) (hb : b < nb (σ 139)) : J138 (In b) σ = some (In (etK (bf (σ 139) b 0)), σ) := by
  have h12 := hS.1.2
  obtain ⟨⟨h1, h2⟩, -⟩ := hS.2.1 b hb
  unfold J138
  rw [show (0 : Int32) = In 0 from rfl, m128 (by omega), Option.bind_some]
  dsimp only
  rw [h1]
  generalize bf (σ 139) b 0 = k at h2
  match k, h2 with
  | 0, _ => rfl
  | 1, _ => rfl
  | 2, _ => rfl
  | 3, _ => rfl
  | 4, _ => rfl
  | 5, _ => rfl
  | n + 6, h => omega
