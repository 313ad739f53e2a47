/-! PURE: the reference's counts, moves, rain -/
def smN (f : Nat → Nat) (i : Nat) : Nat → Nat
  | 0 => 0
  | m + 1 => f i + smN f (i + 1) m
theorem smN_le {f : Nat → Nat} {c : Nat} : ∀ {m i : Nat}, (∀ b, i ≤ b → b < i + m → f b ≤ c) → smN f i m ≤ c * m := by
  intro m
  induction m with
  | zero => intro i _; exact Nat.le_refl _
  | succ m ih =>
    intro i h
    have h1 := h i (Nat.le_refl _) (by omega)
    have h2 := ih (i := i + 1) fun b q1 q2 => h b (by omega) (by omega)
    show f i + smN f (i + 1) m ≤ c * (m + 1)
    rw [Nat.mul_add]
    omega
def mnOn (S : Rw) : Nat := smN (fun b => if bf S b 2 < 36 then 1 else 0) 0 (nb S)
def hyOn (S : Rw) : Nat := smN (fun b => if bf S b 2 < 36 then bf S b 3 else 0) 0 (nb S)
theorem m162 {σ : Sg} {b : Nat} (hS : OkR (σ 139)) (hb : b < nb (σ 139)) : J162 (In b) σ = some (b2 (bf (σ 139) b 2 < 36), σ) := by
  have h12 := hS.1.2
  obtain ⟨-, -, ⟨h1, h2⟩, -⟩ := hS.2.1 b hb
  unfold J162 b2
  rw [show (2 : Int32) = In 2 from rfl, m128 (by omega), Option.bind_some]
  simp only [h1, show (36 : Int32) = In 36 from rfl, n_le (show 36 < 2147483648 by omega) (show bf (σ 139) b 2 < 2147483648 by omega)]
  by_cases h : bf (σ 139) b 2 < 36
  · rw [if_neg (by omega), if_pos h]
  · rw [if_pos (by omega), if_neg h]
theorem m168_loop {σ : Sg} (hS : OkR (σ 139)) : ∀ (m i f a : Nat), i + m = nb (σ 139) → m < f → J168_1 f (In a) (In i) σ = some (In (a + smN (fun b => if bf (σ 139) b 2 < 36 then 1 else 0) i m), σ) := by
  have h12 := hS.1.2
  intro m
  induction m with
  | zero =>
    intro i f a hi hf
    obtain ⟨f, rfl⟩ : ∃ g, f = g + 1 := ⟨f - 1, by omega⟩
    unfold J168_1
    rw [hS.1.1, if_pos (by rw [n_le (by omega) (by omega)]; omega)]
    rfl
  | succ m ih =>
    intro i f a hi hf
    obtain ⟨f, rfl⟩ : ∃ g, f = g + 1 := ⟨f - 1, by omega⟩
    unfold J168_1
    rw [hS.1.1, if_neg (by rw [n_le (by omega) (by omega)]; omega), m162 hS (by omega), Option.bind_some]
    simp only [b2_0]
    unfold J168_3
    rw [show (1 : Int32) = In 1 from rfl, show (0 : Int32) = In 0 from rfl, n_add, n_add, n_add, ih (i + 1) f (a + 0) (by omega) (by omega), ih (i + 1) f (a + 1) (by omega) (by omega)]
    show _ = some (In (a + ((if bf (σ 139) i 2 < 36 then 1 else 0) + smN _ (i + 1) m)), σ)
    by_cases h : bf (σ 139) i 2 < 36
    · rw [if_neg (fun z => z h), if_pos h, Nat.add_assoc]
    · rw [if_pos h, if_neg h, Nat.add_assoc]
theorem m168 {σ : Sg} (hS : OkR (σ 139)) : J168 σ = some (In (mnOn (σ 139)), σ) := by
  have h12 := hS.1.2
  unfold J168
  rw [show (0 : Int32) = In 0 from rfl, m168_loop hS (nb (σ 139)) 0 hy_fu 0 (by omega) (by unfold hy_fu; omega), Nat.zero_add]
  rfl
theorem m175_loop {σ : Sg} (hS : OkR (σ 139)) : ∀ (m i f a : Nat), i + m = nb (σ 139) → m < f → J175_1 f (In a) (In i) σ = some (In (a + smN (fun b => if bf (σ 139) b 2 < 36 then bf (σ 139) b 3 else 0) i m), σ) := by
  have h12 := hS.1.2
  intro m
  induction m with
  | zero =>
    intro i f a hi hf
    obtain ⟨f, rfl⟩ : ∃ g, f = g + 1 := ⟨f - 1, by omega⟩
    unfold J175_1
    rw [hS.1.1, if_pos (by rw [n_le (by omega) (by omega)]; omega)]
    rfl
  | succ m ih =>
    intro i f a hi hf
    obtain ⟨f, rfl⟩ : ∃ g, f = g + 1 := ⟨f - 1, by omega⟩
    obtain ⟨-, -, -, ⟨h3, -⟩⟩ := hS.2.1 i (by omega)
    unfold J175_1
    rw [hS.1.1, if_neg (by rw [n_le (by omega) (by omega)]; omega), m162 hS (by omega), Option.bind_some]
    simp only [b2_0]
    rw [show (3 : Int32) = In 3 from rfl, m128 (by omega), Option.bind_some]
    unfold J175_3
    dsimp only
    rw [h3, show (1 : Int32) = In 1 from rfl, show (0 : Int32) = In 0 from rfl, n_add, n_add, n_add, ih (i + 1) f (a + 0) (by omega) (by omega), ih (i + 1) f (a + bf (σ 139) i 3) (by omega) (by omega)]
    show _ = some (In (a + ((if bf (σ 139) i 2 < 36 then bf (σ 139) i 3 else 0) + smN _ (i + 1) m)), σ)
    by_cases h : bf (σ 139) i 2 < 36
    · rw [if_neg (fun z => z h), if_pos h, Nat.add_assoc]
    · rw [if_pos h, if_neg h, Nat.add_assoc]
theorem m175 {σ : Sg} (hS : OkR (σ 139)) : J175 σ = some (In (hyOn (σ 139)), σ) := by
  have h12 := hS.1.2
  unfold J175
  rw [show (0 : Int32) = In 0 from rfl, m175_loop hS (nb (σ 139)) 0 hy_fu 0 (by omega) (by unfold hy_fu; omega), Nat.zero_add]
  rfl
