/-! PURE: stores: the row of the reference, frames -/
abbrev Rw := Nat → Int32
def wr (σ : Sg) (S : Rw) : Sg := fun a => if a = 139 then S else σ a
theorem wr_at (σ : Sg) (S : Rw) : wr σ S 139 = S := by simp [wr]
theorem wr_ne (σ : Sg) (S : Rw) {a : Nat} (h : a ≠ 139) : wr σ S a = σ a := by simp [wr, h]
theorem wr_wr (σ : Sg) (S T : Rw) : wr (wr σ S) T = wr σ T := by
  funext a
  by_cases h : a = 139 <;> simp [wr, h]
theorem wr_self (σ : Sg) : wr σ (σ 139) = σ := by
  funext a
  by_cases h : a = 139
  · subst h; simp [wr]
  · simp [wr, h]
theorem up_wr (σ : Sg) (k : Nat) (v : Int32) : hy_up σ 139 k v = wr σ (upd (σ 139) k v) := by
  funext a
  by_cases h : a = 139 <;> simp [wr, hy_up, h]
theorem up_same (σ : Sg) (a k : Nat) (v : Int32) : hy_up σ a k v a = upd (σ a) k v := by simp [hy_up]
theorem up_ne (σ : Sg) {a b : Nat} (k : Nat) (v : Int32) (h : b ≠ a) : hy_up σ a k v b = σ b := by simp [hy_up, h]
theorem upd_at (S : Rw) (k : Nat) (v : Int32) : upd S k v k = v := by simp [upd]
theorem upd_ne (S : Rw) {k j : Nat} (v : Int32) (h : j ≠ k) : upd S k v j = S j := by simp [upd, h]
/-- what a frame names: a place, or 10000 and a slot of place 138 -/
def fk (a k : Nat) : Nat := if a = 138 then 10000 + k else a
def fr (L : List Nat) (σ σ' : Sg) : Prop := ∀ a k, fk a k ∉ L → σ' a k = σ a k
theorem fr_rf (L : List Nat) (σ : Sg) : fr L σ σ := fun _ _ _ => rfl
theorem fr_tr {L : List Nat} {σ σ' σ'' : Sg} (h1 : fr L σ σ') (h2 : fr L σ' σ'') : fr L σ σ'' := fun a k h => (h2 a k h).trans (h1 a k h)
theorem fr_wk {L L' : List Nat} {σ σ' : Sg} (h : fr L σ σ') (hl : ∀ x ∈ L, x ∈ L') : fr L' σ σ' := fun a k hk => h a k fun z => hk (hl _ z)
theorem fr_up {L : List Nat} (σ : Sg) (a k : Nat) (v : Int32) (h : fk a k ∈ L) : fr L σ (hy_up σ a k v) := by
  intro b j hb
  by_cases e : b = a
  · subst e
    by_cases ej : j = k
    · subst ej; exact absurd h hb
    · simp [hy_up, upd, ej]
  · simp [hy_up, e]
theorem fr_wr {L : List Nat} (σ : Sg) (S : Rw) (h : 139 ∈ L) : fr L σ (wr σ S) := by
  intro b j hb
  by_cases e : b = 139
  · subst e
    exact absurd h (by simpa [fk] using hb)
  · simp [wr, e]
theorem fr_row {L : List Nat} {σ σ' : Sg} (h : fr L σ σ') {a : Nat} (ha : a ≠ 138) (hl : a ∉ L) : σ' a = σ a := by
  funext k
  exact h a k (by simpa [fk, ha] using hl)
theorem fr_slot {L : List Nat} {σ σ' : Sg} (h : fr L σ σ') {k : Nat} (hl : 10000 + k ∉ L) : σ' 138 k = σ 138 k := h 138 k (by simpa [fk] using hl)
theorem fr_139 {L : List Nat} {σ σ' : Sg} (h : fr L σ σ') : fr L σ' σ := fun a k hk => (h a k hk).symm
