/-! PURE: the tape's words, on both sides -/
def bY (T : Nat → Nat) (n p : Nat) : Int32 := if p < n then In (T p) else -1000000005
def lB (T : Nat → Nat) (n p : Nat) : Bool := decide (p < n ∧ 97 ≤ T p ∧ T p ≤ 122)
def dB (T : Nat → Nat) (n p : Nat) : Bool := decide (p < n ∧ 48 ≤ T p ∧ T p ≤ 57)
def wB (T : Nat → Nat) (n p : Nat) : Bool := lB T n p || dB T n p
/-- a word's byte stands right ahead -/
def pB (T : Nat → Nat) (n p : Nat) : Bool := decide (1 ≤ p) && wB T n (p - 1)
def Tp (T : Nat → Nat) (n : Nat) (σ : Sg) : Prop := n ≤ 96 ∧ σ 2 2 = In n ∧ ∀ k, k < 96 → σ 3 k = In (T k) ∧ T k < 256
def Tr (T : Nat → Nat) (n : Nat) (τ : Sg) : Prop := n ≤ 96 ∧ τ 138 9 = In n ∧ ∀ k, k < 96 → τ 145 k = In (T k) ∧ T k < 256
theorem c83 {T : Nat → Nat} {n p : Nat} {σ : Sg} (h : Tp T n σ) (hp : p < 2147483648) : J83 (In p) σ = some (bY T n p, σ) := by
  obtain ⟨h1, h2, h3⟩ := h
  unfold J83 bY
  rw [if_neg (show ¬ In p < (0 : Int32) by show ¬ In p < In 0; rw [n_lt (by omega) (by omega)]; omega), h2, i_le (by omega) (by omega)]
  by_cases h4 : p < n
  · rw [if_neg (by omega), if_pos h4, if_pos (ib_n (by omega) (by omega)), n_ix (by omega), (h3 p (by omega)).1]
  · rw [if_pos (by omega), if_neg h4]
theorem bY_no : ¬ ((97 : Int32) ≤ -1000000005) ∧ ¬ ((48 : Int32) ≤ -1000000005) := by decide
theorem c87 {T : Nat → Nat} {n p : Nat} {σ : Sg} (h : Tp T n σ) : J87 (bY T n p) σ = some (bb (lB T n p), σ) := by
  obtain ⟨h1, h2, h3⟩ := h
  unfold J87 bY lB
  by_cases h4 : p < n
  · have := (h3 p (by omega)).2
    rw [if_pos h4, show (97 : Int32) = In 97 from rfl, show (122 : Int32) = In 122 from rfl, i_lt (by omega) (by omega), i_lt (by omega) (by omega)]
    by_cases h5 : T p < 97
    · rw [if_pos h5, decide_eq_false (by omega)]
      rfl
    · rw [if_neg h5]
      by_cases h6 : 122 < T p
      · rw [if_pos h6, decide_eq_false (by omega)]
        rfl
      · rw [if_neg h6, decide_eq_true (by omega)]
        rfl
  · rw [if_neg h4, if_pos (by decide), decide_eq_false (by omega)]
    rfl
theorem c88 {T : Nat → Nat} {n p : Nat} {σ : Sg} (h : Tp T n σ) : J88 (bY T n p) σ = some (bb (dB T n p), σ) := by
  obtain ⟨h1, h2, h3⟩ := h
  unfold J88 bY dB
  by_cases h4 : p < n
  · have := (h3 p (by omega)).2
    rw [if_pos h4, show (48 : Int32) = In 48 from rfl, show (57 : Int32) = In 57 from rfl, i_lt (by omega) (by omega), i_lt (by omega) (by omega)]
    by_cases h5 : T p < 48
    · rw [if_pos h5, decide_eq_false (by omega)]
      rfl
    · rw [if_neg h5]
      by_cases h6 : 57 < T p
      · rw [if_pos h6, decide_eq_false (by omega)]
        rfl
      · rw [if_neg h6, decide_eq_true (by omega)]
        rfl
  · rw [if_neg h4, if_pos (by decide), decide_eq_false (by omega)]
    rfl
theorem m190 {T : Nat → Nat} {n p : Nat} {τ : Sg} (h : Tr T n τ) (hp : p < 2147483648) : J190 (In p) τ = some (bb (lB T n p), τ) := by
  obtain ⟨h1, h2, h3⟩ := h
  unfold J190 lB
  rw [h2, i_le (by omega) (by omega)]
  by_cases h4 : n ≤ p
  · rw [if_pos h4, decide_eq_false (by omega)]
    rfl
  · obtain ⟨e1, e2⟩ := h3 p (by omega)
    rw [if_neg h4, if_pos (ib_n (by omega) (by omega)), if_pos (ib_n (by omega) (by omega)), n_ix (by omega), e1, show (97 : Int32) = In 97 from rfl, show (122 : Int32) = In 122 from rfl, i_lt (by omega) (by omega), i_lt (by omega) (by omega)]
    by_cases h5 : T p < 97
    · rw [if_pos h5, decide_eq_false (by omega)]
      rfl
    · rw [if_neg h5]
      by_cases h6 : 122 < T p
      · rw [if_pos h6, decide_eq_false (by omega)]
        rfl
      · rw [if_neg h6, decide_eq_true (by omega)]
        rfl
theorem m191 {T : Nat → Nat} {n p : Nat} {τ : Sg} (h : Tr T n τ) (hp : p < 2147483648) : J191 (In p) τ = some (bb (dB T n p), τ) := by
  obtain ⟨h1, h2, h3⟩ := h
  unfold J191 dB
  rw [h2, i_le (by omega) (by omega)]
  by_cases h4 : n ≤ p
  · rw [if_pos h4, decide_eq_false (by omega)]
    rfl
  · obtain ⟨e1, e2⟩ := h3 p (by omega)
    rw [if_neg h4, if_pos (ib_n (by omega) (by omega)), if_pos (ib_n (by omega) (by omega)), n_ix (by omega), e1, show (48 : Int32) = In 48 from rfl, show (57 : Int32) = In 57 from rfl, i_lt (by omega) (by omega), i_lt (by omega) (by omega)]
    by_cases h5 : T p < 48
    · rw [if_pos h5, decide_eq_false (by omega)]
      rfl
    · rw [if_neg h5]
      by_cases h6 : 57 < T p
      · rw [if_pos h6, decide_eq_false (by omega)]
        rfl
      · rw [if_neg h6, decide_eq_true (by omega)]
        rfl
/-- as long as it goes -/
def wL (f : Nat → Bool) (p : Nat) : Nat → Nat
  | 0 => p
  | m + 1 => if f p = true then wL f (p + 1) m else p
theorem wL_s (f : Nat → Bool) (p m : Nat) : wL f p (m + 1) = if f p = true then wL f (p + 1) m else p := rfl
theorem wL_bd {f : Nat → Bool} : ∀ {m p : Nat}, p ≤ wL f p m ∧ wL f p m ≤ p + m ∧ (∀ k, p ≤ k → k < wL f p m → f k = true) ∧ (wL f p m < p + m → f (wL f p m) = false) := by
  intro m
  induction m with
  | zero => intro p; exact ⟨Nat.le_refl _, Nat.le_refl _, fun k h1 h2 => by have : k < p := h2; omega, fun h => by have : p < p + 0 := h; omega⟩
  | succ m ih =>
    intro p
    rw [wL_s]
    by_cases h : f p = true
    · rw [if_pos h]
      obtain ⟨a1, a2, a3, a4⟩ := ih (p := p + 1)
      refine ⟨by omega, by omega, fun k h1 h2 => ?_, fun hh => a4 (by omega)⟩
      by_cases hk : k = p
      · rw [hk]; exact h
      · exact a3 k (by omega) h2
    · rw [if_neg h]
      exact ⟨Nat.le_refl _, by omega, fun k h1 h2 => by omega, fun _ => Bool.eq_false_iff.mpr h⟩
def kB (T : Nat → Nat) (n p : Nat) : Bool := decide (p < n ∧ T p = 32)
/-- behind the blanks -/
def sK (T : Nat → Nat) (n p : Nat) : Nat := wL (kB T n) p (n - p)
theorem c82_loop {T : Nat → Nat} {n : Nat} : ∀ (m p f : Nat) (σ : Sg), Tp T n σ → σ 2 3 = In p → p + m = n → m < f → J82_1 f σ = some (hy_up σ 2 3 (In (wL (kB T n) p m))) := by
  intro m
  induction m with
  | zero =>
    intro p f σ h h3 hp hf
    obtain ⟨f, rfl⟩ : ∃ g, f = g + 1 := ⟨f - 1, by omega⟩
    have hn := h.1
    unfold J82_1
    rw [h.2.1, h3, i_le (by omega) (by omega), if_pos (by omega)]
    show some σ = some (hy_up σ 2 3 (In p))
    congr 1
    funext a k
    by_cases e : a = 2
    · subst e
      rw [up_same, upd_self h3]
    · rw [up_ne _ _ _ e]
  | succ m ih =>
    intro p f σ h h3 hp hf
    obtain ⟨f, rfl⟩ : ∃ g, f = g + 1 := ⟨f - 1, by omega⟩
    have hn := h.1
    have hT := (h.2.2 p (by omega)).2
    have eb : (bY T n p = 32) = (kB T n p = true) := by
      unfold bY kB
      rw [if_pos (show p < n by omega), decide_eq_true_eq, show (32 : Int32) = In 32 from rfl, n_eq (by omega) (by omega)]
      exact propext ⟨fun e => ⟨by omega, e⟩, fun e => e.2⟩
    unfold J82_1
    rw [h.2.1, h3, i_le (by omega) (by omega), if_neg (by omega), c83 h (by omega), Option.bind_some, wL_s]
    simp only [eb]
    by_cases hb : kB T n p = true
    · rw [if_pos hb, if_pos hb, h3, n_p1, ih (p + 1) f _ ⟨hn, by rw [up_same, upd_ne _ _ (by omega)]; exact h.2.1, fun k hk => by rw [up_ne _ _ _ (by omega)]; exact h.2.2 k hk⟩ (by rw [up_same, upd_at]) (by omega) (by omega), up_up]
    · rw [if_neg hb, if_neg hb]
      congr 1
      funext a k
      by_cases e : a = 2
      · subst e
        rw [up_same, upd_self h3]
      · rw [up_ne _ _ _ e]
theorem c82 {T : Nat → Nat} {n p : Nat} {σ : Sg} (h : Tp T n σ) (hp : p ≤ n) : J82 (In p) σ = some (hy_up σ 2 3 (In (sK T n p))) := by
  have hn := h.1
  unfold J82 sK
  rw [c82_loop (n - p) p hy_fu _ ⟨hn, by rw [up_same, upd_ne _ _ (by omega)]; exact h.2.1, fun k hk => by rw [up_ne _ _ _ (by omega)]; exact h.2.2 k hk⟩ (by rw [up_same, upd_at]) (by omega) (by unfold hy_fu; omega), up_up]
/-- the end of the word at p -/
def wE (T : Nat → Nat) (n p : Nat) : Nat := if lB T n p = true then wL (lB T n) p (n - p) else wL (dB T n) p (n - p)
theorem c86_loop {T : Nat → Nat} {n : Nat} {σ : Sg} (h : Tp T n σ) (l : Bool) : ∀ (m p f : Nat), p + m = n → m < f → J86_1 f (bb l) (In p) σ = some (In (wL (fun k => if l = true then lB T n k else dB T n k) p m), σ) := by
  have hn := h.1
  intro m
  induction m with
  | zero =>
    intro p f hp hf
    obtain ⟨f, rfl⟩ : ∃ g, f = g + 1 := ⟨f - 1, by omega⟩
    unfold J86_1
    rw [h.2.1, i_le (by omega) (by omega), if_pos (by omega)]
    rfl
  | succ m ih =>
    intro p f hp hf
    obtain ⟨f, rfl⟩ : ∃ g, f = g + 1 := ⟨f - 1, by omega⟩
    unfold J86_1 J86_3
    rw [h.2.1, i_le (by omega) (by omega), if_neg (by omega), i_bb, c83 h (by omega), Option.bind_some, Option.bind_some, wL_s]
    dsimp only
    rw [c87 h, c88 h, Option.bind_some, Option.bind_some, i_bb, i_bb, n_p1]
    dsimp only
    rw [ih (p + 1) f (by omega) (by omega)]
    cases l with
    | true =>
      by_cases hb : lB T n p = true
      · simp [hb]
      · simp [hb]
    | false =>
      by_cases hb : dB T n p = true
      · simp [hb]
      · simp [hb]
theorem c86 {T : Nat → Nat} {n p : Nat} {σ : Sg} (h : Tp T n σ) (hp : p ≤ n) (h3 : σ 2 3 = In p) : J86 σ = some (In (wE T n p), σ) := by
  have hn := h.1
  unfold J86 wE
  rw [h3, c83 h (by omega), Option.bind_some]
  dsimp only
  rw [c87 h, Option.bind_some]
  dsimp only
  rw [h3, c86_loop h _ (n - p) p hy_fu (by omega) (by unfold hy_fu; omega)]
  cases hl : lB T n p with
  | true => simp
  | false => simp
theorem l_d {T : Nat → Nat} {n p : Nat} (h : lB T n p = true) : dB T n p = false := by
  unfold lB at h
  unfold dB
  rw [decide_eq_true_eq] at h
  exact decide_eq_false (by omega)
theorem wE_bd {T : Nat → Nat} {n p : Nat} (hp : p ≤ n) : p ≤ wE T n p ∧ wE T n p ≤ n ∧ (wB T n p = true → p < wE T n p) ∧ (wB T n p = true → pB T n (wE T n p) = true) ∧ (wB T n p = false → wE T n p = p) := by
  unfold wE wB
  have g : ∀ f : Nat → Bool, p ≤ wL f p (n - p) ∧ wL f p (n - p) ≤ n ∧ (f p = true → p < n → p < wL f p (n - p)) ∧ (f p = true → p < n → f (wL f p (n - p) - 1) = true) ∧ (f p = false → wL f p (n - p) = p) := by
    intro f
    obtain ⟨a1, a2, a3, a4⟩ := wL_bd (f := f) (m := n - p) (p := p)
    have hlt : f p = true → p < n → p < wL f p (n - p) := by
      intro hf hpn
      obtain ⟨m, hm⟩ : ∃ m, n - p = m + 1 := ⟨n - p - 1, by omega⟩
      rw [hm, wL_s, if_pos hf]
      have := (wL_bd (f := f) (m := m) (p := p + 1)).1
      omega
    refine ⟨a1, by omega, hlt, fun hf hpn => a3 _ ?_ ?_, fun hf => ?_⟩
    · have := hlt hf hpn
      omega
    · have := hlt hf hpn
      omega
    · cases hm : n - p with
      | zero => rfl
      | succ m => rw [wL_s, if_neg (by rw [hf]; decide)]
  by_cases hl : lB T n p = true
  · have hpn : p < n := by
      unfold lB at hl
      rw [decide_eq_true_eq] at hl
      exact hl.1
    obtain ⟨g1, g2, g3, g4, g5⟩ := g (lB T n)
    rw [if_pos hl]
    refine ⟨g1, g2, fun _ => g3 hl hpn, fun _ => ?_, fun q => by rw [hl] at q; cases q⟩
    have := g3 hl hpn
    unfold pB wB
    rw [g4 hl hpn, decide_eq_true (by omega)]
    rfl
  · obtain ⟨g1, g2, g3, g4, g5⟩ := g (dB T n)
    rw [if_neg hl]
    refine ⟨g1, g2, fun q => ?_, fun q => ?_, fun q => ?_⟩
    · have hd : dB T n p = true := by
        rw [Bool.eq_false_iff.mpr hl, Bool.false_or] at q
        exact q
      have hpn : p < n := by
        unfold dB at hd
        rw [decide_eq_true_eq] at hd
        exact hd.1
      exact g3 hd hpn
    · have hd : dB T n p = true := by
        rw [Bool.eq_false_iff.mpr hl, Bool.false_or] at q
        exact q
      have hpn : p < n := by
        unfold dB at hd
        rw [decide_eq_true_eq] at hd
        exact hd.1
      have := g3 hd hpn
      unfold pB wB
      rw [g4 hd hpn, decide_eq_true (by omega), Bool.or_true]
      rfl
    · rw [Bool.eq_false_iff.mpr hl, Bool.false_or] at q
      exact g5 q
/-- the value of some figures -/
def nV (T : Nat → Nat) (p v : Nat) : Nat → Nat
  | 0 => v
  | m + 1 => nV T (p + 1) (10 * v + (T p - 48)) m
