/-! PURE: which moves there are -/
def cand (S : Rw) (f k : Nat) : Bool := decide (bf S (k / 36) 1 = f) && mvB S (k / 36) (k % 36)
def mvL (S : Rw) (f k : Nat) : Nat → List Nat
  | 0 => []
  | m + 1 => if cand S f k = true then k :: mvL S f (k + 1) m else mvL S f (k + 1) m
def mv (k : Nat) : Nat := 100 * (k / 36) + k % 36
theorem mvL_s (S : Rw) (f k m : Nat) : mvL S f k (m + 1) = if cand S f k = true then k :: mvL S f (k + 1) m else mvL S f (k + 1) m := rfl
theorem mvL_app (S : Rw) (f m' : Nat) : ∀ (m k : Nat), mvL S f k (m + m') = mvL S f k m ++ mvL S f (k + m) m' := by
  intro m
  induction m with
  | zero => intro k; rw [Nat.zero_add]; rfl
  | succ m ih =>
    intro k
    rw [show m + 1 + m' = (m + m') + 1 by omega, mvL_s, mvL_s, ih (k + 1), show k + 1 + m = k + (m + 1) by omega]
    split
    · rfl
    · rfl
theorem mvL_nil {S : Rw} {f : Nat} : ∀ {m k : Nat}, (∀ j, k ≤ j → j < k + m → cand S f j = false) → mvL S f k m = [] := by
  intro m
  induction m with
  | zero => intro k _; rfl
  | succ m ih =>
    intro k h
    rw [mvL_s, h k (Nat.le_refl _) (by omega), if_neg (by decide)]
    exact ih fun j h1 h2 => h j (by omega) (by omega)
theorem mvL_mem {S : Rw} {f j : Nat} : ∀ {m k : Nat}, j ∈ mvL S f k m → k ≤ j ∧ j < k + m ∧ cand S f j = true := by
  intro m
  induction m with
  | zero => intro k h; cases h
  | succ m ih =>
    intro k h
    rw [mvL_s] at h
    split at h
    · rename_i hc
      rcases List.mem_cons.mp h with h | h
      · subst h
        exact ⟨Nat.le_refl _, by omega, hc⟩
      · have := ih h
        exact ⟨by omega, by omega, this.2.2⟩
    · have := ih h
      exact ⟨by omega, by omega, this.2.2⟩
theorem mvL_len {S : Rw} {f : Nat} : ∀ {m k : Nat}, (mvL S f k m).length ≤ m := by
  intro m
  induction m with
  | zero => intro k; exact Nat.le_refl _
  | succ m ih =>
    intro k
    rw [mvL_s]
    split
    · have := ih (k := k + 1)
      simp
      omega
    · have := ih (k := k + 1)
      omega
theorem n_36 {S : Rw} (hS : OkR S) : (36 : Int32) * S 1 = In (36 * nb S) := by
  rw [hS.1.1]
  exact n_mul 36 _
theorem m157_loop {σ : Sg} {fm : Nat} (hS : OkR (σ 139)) (hf1 : fm ≤ 1) : ∀ (m k f a : Nat), k + m = 36 * nb (σ 139) → m < f → J157_2 f (In fm) (In a) (In k) σ = some (In (a + (mvL (σ 139) fm k m).length), σ) := by
  have h12 := hS.1.2
  intro m
  induction m with
  | zero =>
    intro k f a hk hf
    obtain ⟨f, rfl⟩ : ∃ g, f = g + 1 := ⟨f - 1, by omega⟩
    unfold J157_2
    rw [n_36 hS, i_le (by omega) (by omega), if_pos (by omega)]
    rfl
  | succ m ih =>
    intro k f a hk hf
    obtain ⟨f, rfl⟩ : ∃ g, f = g + 1 := ⟨f - 1, by omega⟩
    have hb : k / 36 < nb (σ 139) := by omega
    obtain ⟨-, ⟨f1, f2⟩, -, -⟩ := hS.2.1 _ hb
    unfold J157_2
    rw [n_36 hS, i_le (by omega) (by omega), if_neg (by omega), show (36 : Int32) = In 36 from rfl, n_div (by omega) (by omega), n_rem (by omega) (by omega), show J128 (In (k / 36)) 1 σ = _ from m128 (w := 1) (by omega) σ, Option.bind_some, f1]
    dsimp only
    rw [i_eq (by omega) (by omega), m143 hS hb (by omega), Option.bind_some]
    dsimp only
    rw [i_bb]
    unfold J157_3 J157_4
    rw [show In a + 0 = In (a + 0) from n_add a 0, n_p1, n_p1, ih (k + 1) f (a + 1) (by omega) (by omega), ih (k + 1) f (a + 0) (by omega) (by omega), mvL_s]
    unfold cand
    by_cases h1 : bf (σ 139) (k / 36) 1 = fm
    · rw [if_pos h1, decide_eq_true h1, Bool.true_and]
      by_cases h2 : mvB (σ 139) (k / 36) (k % 36) = true
      · rw [if_pos h2, if_pos h2, List.length_cons, show a + 1 + (mvL (σ 139) fm (k + 1) m).length = a + ((mvL (σ 139) fm (k + 1) m).length + 1) by omega]
      · rw [if_neg h2, if_neg h2, Nat.add_zero]
    · rw [if_neg h1, decide_eq_false h1, Bool.false_and, if_neg (by decide), Nat.add_zero]
def mvs (S : Rw) (f : Nat) : List Nat := mvL S f 0 (36 * nb S)
/-- the list of moves as the class keeps it -/
def flS (σ : Sg) (o l : Nat) : List Nat → Sg
  | [] => σ
  | k :: L => flS (hy_up σ (o + 4) l (In (mv k))) o (l + 1) L
theorem flS_app (o : Nat) : ∀ (A B : List Nat) (σ : Sg) (l : Nat), flS σ o l (A ++ B) = flS (flS σ o l A) o (l + A.length) B := by
  intro A
  induction A with
  | nil => intro B σ l; rfl
  | cons k A ih =>
    intro B σ l
    show flS (hy_up σ (o + 4) l (In (mv k))) o (l + 1) (A ++ B) = flS (flS (hy_up σ (o + 4) l (In (mv k))) o (l + 1) A) o (l + (A.length + 1)) B
    rw [ih, show l + 1 + A.length = l + (A.length + 1) by omega]
theorem flS_ne (o : Nat) : ∀ (A : List Nat) (σ : Sg) (l a : Nat), a ≠ o + 4 → flS σ o l A a = σ a := by
  intro A
  induction A with
  | nil => intro σ l a _; rfl
  | cons k A ih =>
    intro σ l a ha
    show flS (hy_up σ (o + 4) l (In (mv k))) o (l + 1) A a = σ a
    rw [ih _ _ _ ha, up_ne _ _ _ ha]
theorem flS_lo (o : Nat) : ∀ (A : List Nat) (σ : Sg) (l i : Nat), i < l → flS σ o l A (o + 4) i = σ (o + 4) i := by
  intro A
  induction A with
  | nil => intro σ l i _; rfl
  | cons k A ih =>
    intro σ l i hi
    show flS (hy_up σ (o + 4) l (In (mv k))) o (l + 1) A (o + 4) i = σ (o + 4) i
    rw [ih _ _ _ (by omega), up_same, upd_ne _ _ (by omega)]
theorem flS_at (o : Nat) : ∀ (A : List Nat) (σ : Sg) (l i : Nat), i < A.length → flS σ o l A (o + 4) (l + i) = In (mv (A.getD i 0)) := by
  intro A
  induction A with
  | nil => intro σ l i h; simp at h
  | cons k A ih =>
    intro σ l i h
    show flS (hy_up σ (o + 4) l (In (mv k))) o (l + 1) A (o + 4) (l + i) = _
    cases i with
    | zero =>
      rw [flS_lo _ _ _ _ _ (by omega), up_same]
      rw [show l + 0 = l from rfl, upd_at]
      rfl
    | succ i =>
      rw [show l + (i + 1) = l + 1 + i by omega, ih _ _ _ (by simpa using h)]
      rfl
theorem c41 {σ : Sg} {o b fm : Nat} {S : Rw} (hS : OkR S) (hc : Rc σ o S) (hb : b < nb S) (hf : fm ≤ 1) : J41 o (In b) (In fm) σ = some (bb (decide (bf S b 2 < 36) && decide (bf S b 1 = fm)), σ) := by
  have h12 := hS.1.2
  obtain ⟨-, ⟨f1, f2⟩, -, -⟩ := hS.2.1 b hb
  unfold J41
  rw [c9 hS hc hb, Option.bind_some, i_b2]
  dsimp only
  rw [if_pos (ib_n (by omega) (by omega)), n_ix (by omega)]
  simp only [hc.2.1 b hb 1 (by omega), f1, n_eq (show bf S b 1 < 2147483648 by omega) (show fm < 2147483648 by omega)]
  by_cases h1 : bf S b 2 < 36
  · rw [if_pos h1, decide_eq_true h1, Bool.true_and]
    by_cases h2 : bf S b 1 = fm
    · rw [if_pos h2, decide_eq_true h2]
      rfl
    · rw [if_neg h2, decide_eq_false h2]
      rfl
  · rw [if_neg h1, decide_eq_false h1]
    rfl
theorem Rc_4 {σ : Sg} {o l : Nat} {v : Int32} {S : Rw} (hS : OkR S) (hc : Rc σ o S) : Rc (hy_up σ (o + 4) l v) o S := Rc_c hS hc fun a ha => up_ne _ _ _ (by unfold coP at ha; omega)
theorem c40_in {S : Rw} {o fm b : Nat} (k1 : Nat → Int32 → Int32 → Int32 → Sg → Option (Int32 × Sg)) (hS : OkR S) (hf1 : fm ≤ 1) (hb : b < nb S) : ∀ (m p f l : Nat) (σ : Sg), Rc σ o S → p + m = 36 → m < f → l ≤ 36 * b + p →
    J40_2 k1 f o (In fm) (In l) (In b) (In p) σ = k1 o (In fm) (In (l + (mvL S fm (36 * b + p) m).length)) (In (b + 1)) (flS σ o l (mvL S fm (36 * b + p) m)) := by
  have h12 := hS.1.2
  intro m
  induction m with
  | zero =>
    intro p f l σ hc hp hf hl
    obtain ⟨f, rfl⟩ : ∃ g, f = g + 1 := ⟨f - 1, by omega⟩
    unfold J40_2 J40_4
    rw [show (36 : Int32) = In 36 from rfl, i_le (by omega) (by omega), if_pos (by omega), n_p1]
    rfl
  | succ m ih =>
    intro p f l σ hc hp hf hl
    obtain ⟨f, rfl⟩ : ∃ g, f = g + 1 := ⟨f - 1, by omega⟩
    have hkb : (36 * b + p) / 36 = b := by omega
    have hkp : (36 * b + p) % 36 = p := by omega
    unfold J40_2
    rw [show (36 : Int32) = In 36 from rfl, i_le (by omega) (by omega), if_neg (by omega), c41 hS hc hb hf1, Option.bind_some, i_bb]
    dsimp only
    by_cases h1 : (decide (bf S b 2 < 36) && decide (bf S b 1 = fm)) = true
    · rw [if_pos h1, c21 hS hc hb (by omega), Option.bind_some, i_bb]
      dsimp only
      have hfm : bf S b 1 = fm := by
        simp only [Bool.and_eq_true, decide_eq_true_eq] at h1
        exact h1.2
      have hcd : cand S fm (36 * b + p) = mvB S b p := by
        unfold cand
        rw [hkb, hkp, decide_eq_true hfm, Bool.true_and]
      rw [mvL_s, hcd]
      by_cases h2 : mvB S b p = true
      · rw [if_pos h2, if_pos h2, if_pos (ib_n (by omega) (by omega)), n_ix (by omega), show (100 : Int32) = In 100 from rfl, n_mul, n_add]
        unfold J40_3
        rw [n_p1, n_p1, ih (p + 1) f (l + 1) _ (Rc_4 hS hc) (by omega) (by omega) (by omega), List.length_cons, show 36 * b + (p + 1) = 36 * b + p + 1 by omega, show l + 1 + (mvL S fm (36 * b + p + 1) m).length = l + ((mvL S fm (36 * b + p + 1) m).length + 1) by omega]
        show _ = k1 o (In fm) _ _ (flS (hy_up σ (o + 4) l (In (mv (36 * b + p)))) o (l + 1) _)
        rw [show mv (36 * b + p) = 100 * b + p by unfold mv; rw [hkb, hkp]]
      · rw [if_neg h2, if_neg h2]
        unfold J40_3
        rw [n_p1, ih (p + 1) f l σ hc (by omega) (by omega) (by omega), show 36 * b + (p + 1) = 36 * b + p + 1 by omega]
    · rw [if_neg h1, mvL_nil]
      · unfold J40_4
        rw [n_p1]
        rfl
      · intro j q1 q2
        unfold cand mvB
        have hj : j / 36 = b := by omega
        rw [hj]
        simp only [Bool.and_eq_true, decide_eq_true_eq] at h1
        by_cases h2 : bf S b 1 = fm
        · rw [decide_eq_false (show ¬ bf S b 2 < 36 from fun z => h1 ⟨z, h2⟩)]
          simp
        · rw [decide_eq_false h2]
          rfl
theorem c40_out {S : Rw} {o fm : Nat} (hS : OkR S) (hf1 : fm ≤ 1) : ∀ (m b f l : Nat) (σ : Sg), Rc σ o S → b + m = nb S → m < f → l ≤ 36 * b →
    J40_1 f o (In fm) (In l) (In b) σ = some (In (l + (mvL S fm (36 * b) (36 * m)).length), flS σ o l (mvL S fm (36 * b) (36 * m))) := by
  have h12 := hS.1.2
  intro m
  induction m with
  | zero =>
    intro b f l σ hc hb hf hl
    obtain ⟨f, rfl⟩ : ∃ g, f = g + 1 := ⟨f - 1, by omega⟩
    unfold J40_1
    rw [hc.1.1, hS.1.1, i_le (by omega) (by omega), if_pos (by omega)]
    rfl
  | succ m ih =>
    intro b f l σ hc hb hf hl
    obtain ⟨f, rfl⟩ : ∃ g, f = g + 1 := ⟨f - 1, by omega⟩
    have hlen := mvL_len (S := S) (f := fm) (m := 36) (k := 36 * b)
    unfold J40_1
    rw [hc.1.1, hS.1.1, i_le (by omega) (by omega), if_neg (by omega), show (0 : Int32) = In 0 from rfl, c40_in _ hS hf1 (by omega) 36 0 hy_fu l σ hc (by omega) (by unfold hy_fu; omega) (by omega), Nat.add_zero]
    have hc2 : Rc (flS σ o l (mvL S fm (36 * b) 36)) o S := Rc_c hS hc fun a ha => flS_ne _ _ _ _ _ (by unfold coP at ha; omega)
    rw [ih (b + 1) f _ _ hc2 (by omega) (by omega) (by omega), show 36 * (m + 1) = 36 + 36 * m by omega, mvL_app, List.length_append, flS_app, show 36 * (b + 1) = 36 * b + 36 by omega, Nat.add_assoc]
theorem c40 {σ : Sg} {S : Rw} {o fm : Nat} (hS : OkR S) (hc : Rc σ o S) (hf1 : fm ≤ 1) : J40 o (In fm) σ = some (In (mvs S fm).length, flS σ o 0 (mvs S fm)) := by
  have h12 := hS.1.2
  unfold J40 mvs
  have := c40_out hS hf1 (nb S) 0 hy_fu 0 σ hc (by omega) (by unfold hy_fu; omega) (by omega)
  rw [Nat.zero_add, Nat.mul_zero] at this
  exact this
