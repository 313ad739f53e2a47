/-! PURE: counts of the class; one common becomes as another -/
def mnF (S : Rw) (f : Nat) : Nat := smN (fun b => if bf S b 2 < 36 ∧ bf S b 1 = f then 1 else 0) 0 (nb S)
theorem smN_s (f : Nat → Nat) (i m : Nat) : smN f i (m + 1) = f i + smN f (i + 1) m := rfl
theorem c57_loop {σ : Sg} {o fm : Nat} {S : Rw} (hS : OkR S) (hc : Rc σ o S) (hf1 : fm ≤ 1) : ∀ (m i f a : Nat), i + m = nb S → m < f → J57_1 f o (In fm) (In a) (In i) σ = some (In (a + smN (fun b => if bf S b 2 < 36 ∧ bf S b 1 = fm then 1 else 0) i m), σ) := by
  have h12 := hS.1.2
  intro m
  induction m with
  | zero =>
    intro i f a hi hf
    obtain ⟨f, rfl⟩ : ∃ g, f = g + 1 := ⟨f - 1, by omega⟩
    unfold J57_1
    rw [hc.1.1, hS.1.1, i_le (by omega) (by omega), if_pos (by omega)]
    rfl
  | succ m ih =>
    intro i f a hi hf
    obtain ⟨f, rfl⟩ : ∃ g, f = g + 1 := ⟨f - 1, by omega⟩
    unfold J57_1 J57_2
    rw [hc.1.1, hS.1.1, i_le (by omega) (by omega), if_neg (by omega), c41 hS hc (by omega) hf1, Option.bind_some, i_bb, n_p1, n_p1, smN_s]
    dsimp only
    rw [ih (i + 1) f a (by omega) (by omega), ih (i + 1) f (a + 1) (by omega) (by omega)]
    by_cases h1 : bf S i 2 < 36 ∧ bf S i 1 = fm
    · rw [if_pos (by simp [h1.1, h1.2]), if_pos h1, Nat.add_assoc]
    · rw [if_neg (by simp only [Bool.and_eq_true, decide_eq_true_eq]; exact h1), if_neg h1, Nat.zero_add]
theorem c57 {σ : Sg} {o fm : Nat} {S : Rw} (hS : OkR S) (hc : Rc σ o S) (hf1 : fm ≤ 1) : J57 o (In fm) σ = some (In (mnF S fm), σ) := by
  have h12 := hS.1.2
  have := c57_loop hS hc hf1 (nb S) 0 hy_fu 0 (by omega) (by unfold hy_fu; omega)
  rw [Nat.zero_add] at this
  exact this
theorem smN_add {f g h : Nat → Nat} : ∀ {m i : Nat}, (∀ b, i ≤ b → b < i + m → f b + g b = h b) → smN f i m + smN g i m = smN h i m := by
  intro m
  induction m with
  | zero => intro i _; rfl
  | succ m ih =>
    intro i hh
    have h1 := hh i (Nat.le_refl _) (by omega)
    have h2 := ih (i := i + 1) fun b q1 q2 => hh b (by omega) (by omega)
    rw [smN_s, smN_s, smN_s]
    omega
theorem mnF_on {S : Rw} (hS : OkR S) : mnF S 0 + mnF S 1 = mnOn S := by
  refine smN_add fun b _ hb => ?_
  obtain ⟨-, ⟨f1, f2⟩, -, -⟩ := hS.2.1 b (by omega)
  by_cases h : bf S b 2 < 36
  · by_cases h0 : bf S b 1 = 0
    · rw [if_pos ⟨h, h0⟩, if_neg (fun z => by omega), if_pos h]
    · rw [if_neg (fun z => h0 z.2), if_pos ⟨h, by omega⟩, if_pos h]
  · rw [if_neg (fun z => h z.1), if_neg (fun z => h z.1), if_neg h]
theorem c56 {σ : Sg} {o : Nat} {S : Rw} (hS : OkR S) (hc : Rc σ o S) : J56 o σ = some (In (mnOn S), σ) := by
  unfold J56
  rw [show J57 o 0 σ = _ from c57 (fm := 0) hS hc (by omega), Option.bind_some]
  dsimp only
  rw [show J57 o 1 σ = _ from c57 (fm := 1) hS hc (by omega), Option.bind_some]
  dsimp only
  rw [n_add, mnF_on hS]
theorem c63_loop {σ : Sg} {o : Nat} {S : Rw} (hS : OkR S) (hc : Rc σ o S) : ∀ (m i f a : Nat), i + m = nb S → m < f → J63_1 f o (In a) (In i) σ = some (In (a + smN (fun b => if bf S b 2 < 36 then bf S b 3 else 0) i m), σ) := by
  have h12 := hS.1.2
  intro m
  induction m with
  | zero =>
    intro i f a hi hf
    obtain ⟨f, rfl⟩ : ∃ g, f = g + 1 := ⟨f - 1, by omega⟩
    unfold J63_1
    rw [hc.1.1, hS.1.1, i_le (by omega) (by omega), if_pos (by omega)]
    rfl
  | succ m ih =>
    intro i f a hi hf
    obtain ⟨f, rfl⟩ : ∃ g, f = g + 1 := ⟨f - 1, by omega⟩
    have hb : i < nb S := by omega
    obtain ⟨-, -, -, ⟨y1, y2, y3⟩⟩ := hS.2.1 i hb
    unfold J63_1 J63_2
    rw [hc.1.1, hS.1.1, i_le (by omega) (by omega), if_neg (by omega), c9 hS hc hb, Option.bind_some, i_b2, n_p1, smN_s]
    dsimp only
    rw [if_pos (ib_n (by omega) (by omega)), n_ix (by omega), hc.2.1 i hb 3 (by omega), y1, n_add, ih (i + 1) f a (by omega) (by omega), ih (i + 1) f (a + bf S i 3) (by omega) (by omega)]
    by_cases h1 : bf S i 2 < 36
    · rw [if_pos h1, if_pos h1, Nat.add_assoc]
    · rw [if_neg h1, if_neg h1, Nat.zero_add]
theorem c63 {σ : Sg} {o : Nat} {S : Rw} (hS : OkR S) (hc : Rc σ o S) : J63 o σ = some (In (hyOn S), σ) := by
  have h12 := hS.1.2
  have := c63_loop hS hc (nb S) 0 hy_fu 0 (by omega) (by unfold hy_fu; omega)
  rw [Nat.zero_add] at this
  exact this
theorem cps_ne (σ : Sg) {a0 a1 b : Nat} (sp dp n : Int32) (h : b ≠ a1) : hy_cpS σ a0 a1 sp dp n b = σ b := by simp [hy_cpS, h]
theorem cps_at (σ : Sg) (a0 a1 : Nat) {n k : Nat} (hn : n < 2147483648) (h : k < n) : hy_cpS σ a0 a1 0 0 (In n) a1 k = σ a0 k := by
  unfold hy_cpS
  rw [if_pos rfl]
  unfold va_cpy
  rw [show hy_ix 0 = 0 from rfl, n_ix hn, if_pos (by omega), show 0 + (k - 0) = k by omega]
theorem c50 (σ : Sg) {a b : Nat} (h : b ≠ a) : ∃ σ', J50 a b σ = some σ' ∧ (∀ w, w < 6 → σ' a w = σ b w) ∧ fp (fun x => x = a) σ σ' := by
  unfold J50
  simp (disch := omega) only [up_ne]
  refine ⟨_, rfl, ?_, ?_⟩
  · intro w hw
    match w, hw with
    | 0, _ => simp (disch := omega) only [up_same, upd_ne, upd_at]
    | 1, _ => simp (disch := omega) only [up_same, upd_ne, upd_at]
    | 2, _ => simp (disch := omega) only [up_same, upd_ne, upd_at]
    | 3, _ => simp (disch := omega) only [up_same, upd_ne, upd_at]
    | 4, _ => simp (disch := omega) only [up_same, upd_ne, upd_at]
    | 5, _ => simp (disch := omega) only [up_same, upd_ne, upd_at]
    | n + 6, h => omega
  · exact fp_tr (fp_tr (fp_tr (fp_tr (fp_tr (fp_up _ _ _ _ rfl) (fp_up _ _ _ _ rfl)) (fp_up _ _ _ _ rfl)) (fp_up _ _ _ _ rfl)) (fp_up _ _ _ _ rfl)) (fp_up _ _ _ _ rfl)
theorem c49_end {σ : Sg} {o r f : Nat} {S : Rw} (hS : OkR S) (hd : o + 18 < r ∨ r + 18 < o) (hc : Rc σ r S) (hb : ∀ b, b < nb S → ∀ w, w < 6 → σ (o + 7 + b) w = S (7 + 6 * b + w)) : ∃ σ', J49_1 (f + 1) o r (In (nb S)) σ = some σ' ∧ Rc σ' o S ∧ fp (coP o) σ σ' := by
  have h12 := hS.1.2
  obtain ⟨⟨a1, a2, a3, a4, a5, a6, a7⟩, h2, h3, h4⟩ := hc
  unfold J49_1
  rw [a1, hS.1.1, if_pos (by rw [n_le (by omega) (by omega)]; omega), if_pos (by decide), if_pos (by decide)]
  simp (disch := omega) only [up_ne, cps_ne]
  refine ⟨_, rfl, ⟨⟨?_, ?_, ?_, ?_, ?_, ?_, ?_⟩, ?_, ?_, ?_⟩, ?_⟩
  · simp (disch := omega) only [up_same, upd_ne, upd_at]
    exact a1
  · simp (disch := omega) only [up_same, upd_ne, upd_at]
    exact a2
  · simp (disch := omega) only [up_same, upd_ne, upd_at]
    exact a3
  · simp (disch := omega) only [up_same, upd_ne, upd_at]
    exact a4
  · simp (disch := omega) only [up_same, upd_ne, upd_at]
    exact a5
  · simp (disch := omega) only [up_same, upd_ne, upd_at]
    exact a6
  · simp (disch := omega) only [up_same, upd_ne, upd_at]
    exact a7
  · intro b hb' w hw
    simp (disch := omega) only [up_ne, cps_ne]
    exact hb b hb' w hw
  · intro p hp
    simp (disch := omega) only [up_ne, cps_ne]
    rw [show (36 : Int32) = In 36 from rfl, cps_at _ _ _ (by omega) hp]
    exact h3 p hp
  · intro k hk
    simp (disch := omega) only [up_ne]
    rw [show (3 : Int32) = In 3 from rfl, cps_at _ _ _ (by omega) hk, cps_ne _ _ _ _ (by omega)]
    exact h4 k hk
  · intro a ha
    unfold coP at ha
    simp (disch := omega) only [up_ne, cps_ne]
theorem c49_loop {o r : Nat} {S : Rw} (hS : OkR S) (hd : o + 18 < r ∨ r + 18 < o) : ∀ (m i f : Nat) (σ : Sg), Rc σ r S → (∀ b, b < i → ∀ w, w < 6 → σ (o + 7 + b) w = S (7 + 6 * b + w)) → i + m = nb S → m < f → ∃ σ', J49_1 f o r (In i) σ = some σ' ∧ Rc σ' o S ∧ fp (coP o) σ σ' := by
  have h12 := hS.1.2
  intro m
  induction m with
  | zero =>
    intro i f σ hc hb hi hf
    obtain ⟨f, rfl⟩ : ∃ g, f = g + 1 := ⟨f - 1, by omega⟩
    rw [show i = nb S by omega]
    exact c49_end hS hd hc fun b h => hb b (by omega)
  | succ m ih =>
    intro i f σ hc hb hi hf
    obtain ⟨f, rfl⟩ : ∃ g, f = g + 1 := ⟨f - 1, by omega⟩
    unfold J49_1
    rw [hc.1.1, hS.1.1, if_neg (by rw [n_le (by omega) (by omega)]; omega), if_pos (ib_n (by omega) (by omega)), if_pos (ib_n (by omega) (by omega)), n_ix (by omega)]
    obtain ⟨σ1, q1, q2, q3⟩ := c50 σ (a := o + 7 + i) (b := r + 7 + i) (by omega)
    rw [q1, Option.bind_some, n_p1]
    have hf1 : fp (coP o) σ σ1 := fp_wk q3 fun a h => by unfold coP; omega
    obtain ⟨σ2, r1, r2, r3⟩ := ih (i + 1) f σ1 (Rc_c hS hc fun a ha => hf1 a (by unfold coP at ha ⊢; omega)) (fun b h w hw => by
      by_cases hbi : b = i
      · subst hbi
        rw [q2 w hw]
        exact hc.2.1 b (by omega) w hw
      · rw [q3 _ (by omega)]
        exact hb b (by omega) w hw) (by omega) (by omega)
    exact ⟨σ2, r1, r2, fp_tr hf1 r3⟩
theorem c49 {σ : Sg} {o r : Nat} {S : Rw} (hS : OkR S) (hd : o + 18 < r ∨ r + 18 < o) (hc : Rc σ r S) : ∃ σ', J49 o r σ = some σ' ∧ Rc σ' o S ∧ fp (coP o) σ σ' := by
  have h12 := hS.1.2
  exact c49_loop hS hd (nb S) 0 hy_fu σ hc (fun b h => by omega) (by omega) (by unfold hy_fu; omega)
