/-! PURE: what texts are in order; which counts -/
/-- the heads of the texts: key and length -/
def OkH (S : Rw) : Prop := ∀ t, t < nt S → S (79 + 2 * t) = In (hy_ix (S (79 + 2 * t))) ∧ hy_ix (S (79 + 2 * t)) < 3000 ∧ hy_ix (S (79 + 2 * t)) % 1000 ≤ 96
theorem nt_le {S : Rw} (hS : OkR S) : nt S ≤ 14 := hS.2.2.2.2.2.2.2.2
theorem m134 {σ : Sg} {key : Nat} (hS : OkR (σ 139)) (hT : OkH (σ 139)) (hk : key < 3) : J134 (In key) σ = some (oI (-1) (ct (σ 139) key), σ) := by
  have h14 := nt_le hS
  have h6 : σ 139 6 = In (nt (σ 139)) := hS.2.2.2.2.2.2.2.1
  unfold J134
  rw [h6]
  exact m134_loop hk (fun t _ h => ⟨(hT t h).1, (hT t h).2.1⟩) h14 (nt (σ 139)) hy_fu (Nat.le_refl _) (by unfold hy_fu; omega)
theorem ctL_some {S : Rw} {key t : Nat} : ∀ {n : Nat}, ctL S key n = some t → t < n ∧ hy_ix (S (79 + 2 * t)) / 1000 = key := by
  intro n
  induction n with
  | zero => intro h; cases h
  | succ n ih =>
    intro h
    unfold ctL at h
    split at h
    · rename_i e
      cases h
      exact ⟨by omega, e⟩
    · have := ih h
      exact ⟨by omega, this.2⟩
