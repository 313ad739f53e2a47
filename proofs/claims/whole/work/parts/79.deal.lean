/-! PURE: bales drawn -/
theorem smN_c {f g : Nat → Nat} : ∀ {m i : Nat}, (∀ b, i ≤ b → b < i + m → f b = g b) → smN f i m = smN g i m := by
  intro m
  induction m with
  | zero => intro i _; rfl
  | succ m ih =>
    intro i h
    rw [smN_s, smN_s, h i (Nat.le_refl _) (by omega), ih fun b q1 q2 => h b (by omega) (by omega)]
theorem smN_mono {f g : Nat → Nat} : ∀ {m i : Nat}, (∀ b, i ≤ b → b < i + m → f b ≤ g b) → smN f i m ≤ smN g i m := by
  intro m
  induction m with
  | zero => intro i _; exact Nat.le_refl _
  | succ m ih =>
    intro i h
    have h1 := h i (Nat.le_refl _) (by omega)
    have h2 := ih (i := i + 1) fun b q1 q2 => h b (by omega) (by omega)
    rw [smN_s, smN_s]
    omega
theorem smN_one {p q : Nat} (hp : p < 36) : ∀ {m i : Nat}, i + m ≤ 36 → smN (fun j => if (p + j) % 36 = q then 1 else 0) i m ≤ 1 := by
  intro m
  induction m with
  | zero => intro i _; exact Nat.zero_le _
  | succ m ih =>
    intro i hi
    rw [smN_s]
    by_cases h : (p + i) % 36 = q
    · have : smN (fun j => if (p + j) % 36 = q then 1 else 0) (i + 1) m ≤ 0 * m := smN_le fun b h1 h2 => by
        rw [if_neg (by omega)]
        exact Nat.le_refl _
      rw [if_pos h]
      omega
    · have := ih (i := i + 1) (by omega)
      rw [if_neg h]
      omega
theorem hdL_s (S : Rw) (p i m : Nat) : hdL S p i (m + 1) = match hdL S p (i + 1) m with
    | some b => some b
    | none => if bf S i 2 = p then some i else none := rfl
/-- no more places are taken than there are bales -/
theorem pg_cnt {S : Rw} {p J : Nat} (hp : p < 36) (hJ : J ≤ 36) : ∀ {m i : Nat}, smN (fun j => if (hdL S ((p + j) % 36) i m).isSome = true then 1 else 0) 0 J ≤ m := by
  intro m
  induction m with
  | zero =>
    intro i
    have : smN (fun j => if (hdL S ((p + j) % 36) i 0).isSome = true then 1 else 0) 0 J ≤ 0 * J := smN_le fun b _ _ => by
      rw [if_neg (by unfold hdL; simp)]
      exact Nat.le_refl _
    omega
  | succ m ih =>
    intro i
    have h1 := ih (i := i + 1)
    have h2 := smN_one (p := p) (q := bf S i 2) hp (m := J) (i := 0) (by omega)
    have h3 := smN_add (f := fun j => if (hdL S ((p + j) % 36) (i + 1) m).isSome = true then 1 else 0) (g := fun j => if (p + j) % 36 = bf S i 2 then 1 else 0) (h := fun j => (if (hdL S ((p + j) % 36) (i + 1) m).isSome = true then 1 else 0) + (if (p + j) % 36 = bf S i 2 then 1 else 0)) (m := J) (i := 0) fun b _ _ => rfl
    have h4 := smN_mono (f := fun j => if (hdL S ((p + j) % 36) i (m + 1)).isSome = true then 1 else 0) (g := fun j => (if (hdL S ((p + j) % 36) (i + 1) m).isSome = true then 1 else 0) + (if (p + j) % 36 = bf S i 2 then 1 else 0)) (m := J) (i := 0) fun j _ _ => by
      rw [hdL_s]
      cases e : hdL S ((p + j) % 36) (i + 1) m with
      | some c =>
        dsimp only
        exact Nat.le_add_right _ _
      | none =>
        dsimp only
        by_cases h : bf S i 2 = (p + j) % 36
        · rw [if_pos h, if_pos h.symm, if_pos (show (some i).isSome = true from rfl)]
          omega
        · rw [if_neg h, if_neg (by simp)]
          omega
    omega
theorem pg_free {S : Rw} {p : Nat} (hp : p < 36) (hn : nb S < 12) : ∃ j, j < 36 ∧ hd S ((p + j) % 36) = none := by
  refine Classical.byContradiction fun hno => ?_
  have h1 := pg_cnt (S := S) (J := 12) hp (by omega) (m := nb S) (i := 0)
  have h2 : smN (fun j => if (hdL S ((p + j) % 36) 0 (nb S)).isSome = true then 1 else 0) 0 12 = smN (fun _ => 1) 0 12 := smN_c fun j _ hj => by
    rw [if_pos]
    cases e : hdL S ((p + j) % 36) 0 (nb S) with
    | some c => rfl
    | none => exact absurd ⟨j, by omega, e⟩ hno
  have h3 : smN (fun _ => 1) 0 12 = 12 := rfl
  omega
/-- the next free place, going up -/
def frP (S : Rw) (p : Nat) : Nat → Nat
  | 0 => p
  | m + 1 => if hd S p = none then p else frP S ((p + 1) % 36) m
theorem frP_ok {S : Rw} : ∀ {m p : Nat}, p < 36 → (∃ j, j < m ∧ hd S ((p + j) % 36) = none) → hd S (frP S p m) = none ∧ frP S p m < 36 := by
  intro m
  induction m with
  | zero => intro p _ ⟨j, hj, _⟩; omega
  | succ m ih =>
    intro p hp ⟨j, hj, e⟩
    unfold frP
    by_cases h : hd S p = none
    · rw [if_pos h]
      exact ⟨h, hp⟩
    · rw [if_neg h]
      refine ih (by omega) ⟨j - 1, ?_, ?_⟩
      · have : j ≠ 0 := fun z => h (by rw [z, Nat.add_zero, Nat.mod_eq_of_lt hp] at e; exact e)
        omega
      · have : j ≠ 0 := fun z => h (by rw [z, Nat.add_zero, Nat.mod_eq_of_lt hp] at e; exact e)
        rw [show ((p + 1) % 36 + (j - 1)) % 36 = (p + j) % 36 by omega]
        exact e
def d3S (S : Rw) : Rw := drS (drS (drS S))
def dlP (S : Rw) : Nat := frP (d3S S) (drN (drS (drS S)) % 36) 36
def dlS (S : Rw) : Rw := cmS (drS (d3S S)) (In (drN S % 6)) (In (drN (drS S) % 2)) (In (dlP S)) (In (1 + drN (d3S S) % 60))
theorem d3_k {S : Rw} (h : Ok S) : Kp S (d3S S) := Kp_tr (Kp_tr (drS_k h) (drS_k (drS_k h).1)) (drS_k (drS_k (drS_k h).1).1)
theorem hd_dr (S : Rw) (p : Nat) : hd (drS S) p = hd S p := hd_c (nb_upd (by omega)) fun b _ => bf_upd (by omega)
theorem dlP_ok {S : Rw} (h : Ok S) (hn : nb S < 12) : hd (d3S S) (dlP S) = none ∧ dlP S < 36 := frP_ok (by omega) (pg_free (by omega) (by rw [(d3_k h).2.1]; exact hn))
theorem dlS_ok {S : Rw} (h : Ok S) (hn : nb S < 12) : Ok (dlS S) ∧ eqT S (dlS S) ∧ nb (dlS S) = nb S + 1 ∧ dlS S 2 = S 2 := by
  have hk := d3_k h
  have h4 := drS_k hk.1
  have hk4 := Kp_tr hk h4
  obtain ⟨p1, p2⟩ := dlP_ok h hn
  obtain ⟨q1, q2⟩ := cm_k (k := drN S % 6) (f := drN (drS S) % 2) (p := dlP S) (y := 1 + drN (d3S S) % 60) hk4.1 (by rw [hk4.2.1]; exact hn) (by omega) (by omega) p2 ⟨by omega, by omega⟩ (by rw [hd_dr]; exact p1)
  refine ⟨q1, eqT_tr hk4.2.2 q2, ?_, ?_⟩
  · show nb (cmS _ _ _ _ _) = _
    rw [cm_nb hk4.1.1, hk4.2.1]
  · show cmS _ _ _ _ _ 2 = _
    rw [cm_ne _ _ _ _ _ (by omega) (by omega)]
    show drS (drS (drS (drS S))) 2 = S 2
    unfold drS
    rw [upd_ne _ _ (by omega), upd_ne _ _ (by omega), upd_ne _ _ (by omega), upd_ne _ _ (by omega)]
theorem n_rem' {a b : Nat} (h1 : a < 2147483648) (h2 : b < 2147483648) {x : Int32} (hx : x = In b) : hy_rem (In a) x = In (a % b) := by
  rw [hx]
  exact n_rem h1 h2
theorem c32_loop {S : Rw} {σ : Sg} (hS : OkR S) (hc : Rc σ 81 S) (k f : Int32) : ∀ (m p i g : Nat), p < 36 → i + m = 36 → m < g → J32_1 g 81 k f (In p) (In i) σ = J32_2 81 k f (In (frP S p m)) σ := by
  intro m
  induction m with
  | zero =>
    intro p i g hp hi hg
    obtain ⟨g, rfl⟩ : ∃ g', g = g' + 1 := ⟨g - 1, by omega⟩
    unfold J32_1
    rw [show (36 : Int32) = In 36 from rfl, i_le (by omega) (by omega), if_pos (by omega)]
    rfl
  | succ m ih =>
    intro p i g hp hi hg
    obtain ⟨g, rfl⟩ : ∃ g', g = g' + 1 := ⟨g - 1, by omega⟩
    unfold J32_1
    rw [show (36 : Int32) = In 36 from rfl, i_le (by omega) (by omega), if_neg (by omega), if_pos (ib_n (by omega) (by omega)), n_ix (by omega), n_p1, n_p1, n_rem (by omega) (by omega)]
    simp only [show σ (81 + 2) p = oI (-1000000005) (hd S p) from hc.2.2.1 p hp, oN_e (hd_bd hS)]
    rw [ih ((p + 1) % 36) (i + 1) g (by omega) (by omega) (by omega)]
    conv => rhs; unfold frP
    by_cases h : hd S p = none
    · rw [if_pos h, if_pos h]
    · rw [if_neg h, if_neg h]
theorem m152_3 (k2 : Int32 → Int32 → Sg → Option (Int32 × Sg)) {τ : Sg} (hS : OkR (τ 139)) (x1 x2 k f : Int32) : ∀ (m p g : Nat), p < 36 → hd (τ 139) (frP (τ 139) p m) = none → m < g → J152_3 k2 g x1 x2 k f (In p) τ = (J153 τ).bind fun p2 => (J129 k f (In (frP (τ 139) p m)) (1 + hy_rem p2.1 60) p2.2).bind fun p3 => k2 x1 (x2 + 1) p3.2 := by
  intro m
  induction m with
  | zero =>
    intro p g hp hfree hg
    obtain ⟨g, rfl⟩ : ∃ g', g = g' + 1 := ⟨g - 1, by omega⟩
    unfold J152_3
    rw [m127 hS (by omega), Option.bind_some]
    have h0 : hd (τ 139) p = none := hfree
    rw [h0]
    dsimp only
    rw [if_pos (show oI (-1) none < 0 by decide)]
    rfl
  | succ m ih =>
    intro p g hp hfree hg
    obtain ⟨g, rfl⟩ : ∃ g', g = g' + 1 := ⟨g - 1, by omega⟩
    unfold frP at hfree
    conv => rhs; unfold frP
    unfold J152_3
    rw [m127 hS (by omega), Option.bind_some]
    by_cases h : hd (τ 139) p = none
    · rw [if_pos h, h]
      dsimp only
      rw [if_pos (show oI (-1) none < 0 by decide)]
    · rw [if_neg h] at hfree ⊢
      have : ¬ oI (-1) (hd (τ 139) p) < 0 := by
        rw [oI_lt (hd_bd hS)]
        exact h
      dsimp only
      rw [if_neg this, show (36 : Int32) = In 36 from rfl, n_p1, n_rem (by omega) (by omega)]
      exact ih ((p + 1) % 36) g (by omega) hfree (by omega)
theorem c32 {S : Rw} {σ : Sg} (hS : Ok S) (hc : Rc σ 81 S) (hn : nb S < 12) : ∃ σ', J32 81 σ = some σ' ∧ Rc σ' 81 (dlS S) ∧ fp (dyP 81) σ σ' := by
  have k1 := drS_k hS
  have k2 := Kp_tr k1 (drS_k k1.1)
  have k3 := d3_k hS
  have k4 := Kp_tr k3 (drS_k k3.1)
  obtain ⟨p1, p2⟩ := dlP_ok hS hn
  have l1 := drN_lt S
  have l2 := drN_lt (drS S)
  have l3 := drN_lt (drS (drS S))
  have l4 := drN_lt (d3S S)
  obtain ⟨σ1, a1, a2, a3⟩ := c33 hS.1 hc
  obtain ⟨σ2, b1, b2, b3⟩ := c33 k1.1.1 a2
  obtain ⟨σ3, d1, d2, d3⟩ := c33 k2.1.1 b2
  obtain ⟨σ4, e1, e2, e3⟩ := c33 k3.1.1 d2
  obtain ⟨σ5, g1, g2, g3⟩ := c7 (o := 81) (k := drN S % 6) (f := drN (drS S) % 2) (p := dlP S) (y := 1 + drN (d3S S) % 60) k4.1.1 e2 (by rw [k4.2.1]; exact hn) (by omega) (by omega) p2 ⟨by omega, by omega⟩ (by rw [hd_dr]; exact p1)
  unfold J32
  rw [a1, Option.bind_some]
  dsimp only
  rw [b1, Option.bind_some]
  dsimp only
  rw [d1, Option.bind_some]
  dsimp only
  rw [n_rem' (by omega) (by omega) (show (6 : Int32) = In 6 from rfl), n_rem' (by omega) (by omega) (show (2 : Int32) = In 2 from rfl), n_rem' (by omega) (by omega) (show (36 : Int32) = In 36 from rfl), show J32_1 hy_fu 81 _ _ _ 0 σ3 = _ from c32_loop k3.1.1 d2 _ _ 36 _ 0 hy_fu (by omega) (by omega) (by unfold hy_fu; omega)]
  unfold J32_2
  rw [e1, Option.bind_some]
  dsimp only
  rw [n_rem' (by omega) (by omega) (show (60 : Int32) = In 60 from rfl), show (1 : Int32) = In 1 from rfl, n_add, show J7 81 _ _ (In (frP (d3S S) (drN (drS (drS S)) % 36) 36)) _ σ4 = _ from g1, Option.bind_some]
  exact ⟨σ5, rfl, g2, fp_tr (fp_tr (fp_tr (fp_tr a3 b3) d3) e3) (fp_wk g3 fun a ha => by unfold boP at ha; unfold dyP; omega)⟩
def dlN : Nat → Rw → Rw
  | 0, S => S
  | m + 1, S => dlN m (dlS S)
theorem dlN_ok : ∀ {m : Nat} {S : Rw}, Ok S → nb S + m ≤ 12 → Ok (dlN m S) ∧ eqT S (dlN m S) ∧ dlN m S 2 = S 2 := by
  intro m
  induction m with
  | zero => intro S h _; exact ⟨h, eqT_rf S, rfl⟩
  | succ m ih =>
    intro S h hn
    obtain ⟨q1, q2, q3, q4⟩ := dlS_ok h (by omega)
    obtain ⟨r1, r2, r3⟩ := ih q1 (by omega)
    exact ⟨r1, eqT_tr q2 r2, r3.trans q4⟩
theorem c31_loop {cm : Nat} (hcm : cm ≤ 12) : ∀ (m i g : Nat) (S : Rw) (σ : Sg), Ok S → Rc σ 81 S → nb S + m ≤ 12 → i + m = cm → m < g → ∃ σ', J31_2 g (In cm) (In i) σ = some (In cm, σ') ∧ Rc σ' 81 (dlN m S) ∧ fp (dyP 81) σ σ' := by
  intro m
  induction m with
  | zero =>
    intro i g S σ hS hc hn hi hg
    obtain ⟨g, rfl⟩ : ∃ g', g = g' + 1 := ⟨g - 1, by omega⟩
    unfold J31_2
    rw [i_le (by omega) (by omega), if_pos (by omega)]
    exact ⟨σ, rfl, hc, fp_rf _ _⟩
  | succ m ih =>
    intro i g S σ hS hc hn hi hg
    obtain ⟨g, rfl⟩ : ∃ g', g = g' + 1 := ⟨g - 1, by omega⟩
    obtain ⟨q1, q2, q3, q4⟩ := dlS_ok hS (by omega)
    obtain ⟨σ1, a1, a2, a3⟩ := c32 hS hc (by omega)
    unfold J31_2
    rw [i_le (by omega) (by omega), if_neg (by omega), a1, Option.bind_some, n_p1]
    obtain ⟨σ2, b1, b2, b3⟩ := ih (i + 1) g (dlS S) σ1 q1 a2 (by omega) (by omega) (by omega)
    exact ⟨σ2, b1, b2, fp_tr a3 b3⟩
theorem m152_loop {cm n : Nat} (hn12 : n ≤ 12) (hcm : cm ≤ n) : ∀ (m i g : Nat) (S : Rw) (τ : Sg), Ok S → τ 139 = S → nb S + m ≤ 12 → (cm = n ∨ nb S + m = 12) → i + m = cm → m < g → ∃ τ', J152_2 g (In n) (In i) τ = some (In cm, τ') ∧ τ' 139 = dlN m S ∧ fr [139] τ τ' := by
  intro m
  induction m with
  | zero =>
    intro i g S τ hS hs hn hor hi hg
    obtain ⟨g, rfl⟩ : ∃ g', g = g' + 1 := ⟨g - 1, by omega⟩
    have hic : i = cm := by omega
    unfold J152_2
    rw [hs, hS.1.1.1, show (12 : Int32) = In 12 from rfl, i_le (by omega) (by omega), i_le (by omega) (by omega), hic]
    by_cases h : n ≤ cm
    · rw [if_pos h]
      exact ⟨τ, rfl, hs, fr_rf _ _⟩
    · rw [if_neg h, if_pos (by omega)]
      exact ⟨τ, rfl, hs, fr_rf _ _⟩
  | succ m ih =>
    intro i g S τ hS hs hn hor hi hg
    obtain ⟨g, rfl⟩ : ∃ g', g = g' + 1 := ⟨g - 1, by omega⟩
    obtain ⟨q1, q2, q3, q4⟩ := dlS_ok hS (by omega)
    obtain ⟨p1, p2⟩ := dlP_ok hS (show nb S < 12 by omega)
    have k3 := d3_k hS
    have k4 := Kp_tr k3 (drS_k k3.1)
    have l1 := drN_lt S
    have l2 := drN_lt (drS S)
    have l3 := drN_lt (drS (drS S))
    have l4 := drN_lt (d3S S)
    unfold J152_2
    rw [hs, hS.1.1.1, show (12 : Int32) = In 12 from rfl, i_le (by omega) (by omega), if_neg (by omega), i_le (by omega) (by omega), if_neg (by omega), m153, Option.bind_some, hs]
    dsimp only
    rw [m153, Option.bind_some, wr_at, wr_wr]
    dsimp only
    rw [m153, Option.bind_some, wr_at, wr_wr]
    dsimp only
    rw [n_rem' (by omega) (by omega) (show (6 : Int32) = In 6 from rfl), n_rem' (by omega) (by omega) (show (2 : Int32) = In 2 from rfl), n_rem' (by omega) (by omega) (show (36 : Int32) = In 36 from rfl), m152_3 _ (by rw [wr_at]; exact k3.1.1) _ _ _ _ 36 _ hy_fu (by omega) (by rw [wr_at]; exact p1) (by unfold hy_fu; omega), m153, Option.bind_some, wr_at, wr_wr]
    dsimp only
    rw [n_rem' (show drN (drS (drS (drS S))) < 2147483648 from by have := drN_lt (drS (drS (drS S))); omega) (by omega) (show (60 : Int32) = In 60 from rfl), show (1 : Int32) = In 1 from rfl, n_add, n_add, m129 (by rw [wr_at]; exact k4.1.1), Option.bind_some, wr_at, wr_wr]
    obtain ⟨τ2, b1, b2, b3⟩ := ih (i + 1) g (dlS S) (wr τ (dlS S)) q1 (wr_at _ _) (by omega) (by omega) (by omega) (by omega)
    exact ⟨τ2, b1, b2, fr_tr (fr_wr _ _ (by simp)) b3⟩
theorem op_deal (x : Int32) : Op (J31 x) (J152 x) := by
  intro σ h
  obtain ⟨hS, hdy, hc, hl, hi⟩ := h.1
  have h12 := hS.1.1.2
  have bad : ∀ r, J31 x σ = some (r, σ) → J152 x σ = some (r, σ) → ∃ r σ1 σ2, J31 x σ = some (r, σ1) ∧ J152 x σ1 = some (r, σ2) ∧ Iv σ2 ∧ σ1 2000 = σ 2000 ∧ σ2 2000 = σ 2000 := fun r e1 e2 => Op_ga h e1 e2 (fp_rf _ _) (fr_rf _ _)
  by_cases h1 : ¬(1 ≤ x ∧ x ≤ 12)
  · apply bad (-1000000001)
    · unfold J31
      rw [c3, Option.bind_some, i_b2, if_neg h1]
    · unfold J152
      rw [m125, Option.bind_some, i_b2, if_neg h1]
  replace h1 := Classical.not_not.mp h1
  obtain ⟨n, hn1, hn, rfl⟩ := bd_l (n := 12) (by omega) h1.1 h1.2
  generalize hk : min n (12 - nb (σ 139)) = k
  obtain ⟨σ1, a1, a2, a3⟩ := c31_loop (cm := k) (by omega) k 0 hy_fu (σ 139) σ hS hc (by omega) (by omega) (by unfold hy_fu; omega)
  have h139 : σ1 139 = σ 139 := a3 139 (by unfold dyP plP; omega)
  obtain ⟨τ, b1, b2, b3⟩ := m152_loop (cm := k) (n := n) hn (by omega) k 0 hy_fu (σ 139) σ1 hS h139 (by omega) (by omega) (by omega) (by unfold hy_fu; omega)
  obtain ⟨r1, r2, r3⟩ := dlN_ok (m := k) hS (by omega)
  refine Op_bo h (r := In k) (σ1 := σ1) (σ2 := τ) ?_ ?_ (fp_wk a3 fun a ha => Or.inl ha) (fr_wk b3 (by simp [boL])) b2 r1 r2 (by unfold DayOk; rw [r3]; exact hdy) a2
  · unfold J31
    rw [c3, Option.bind_some, i_b2, if_pos h1]
    dsimp only
    have e1 : (12 : Int32) - σ 81 7 = In (12 - nb (σ 139)) := by
      rw [hc.1.1, hS.1.1.1]
      exact n_sub (a := 12) (by omega)
    have e2 : (if In (12 - nb (σ 139)) < In n then In (12 - nb (σ 139)) else In n) = In k := by
      rw [i_lt (by omega) (by omega)]
      split
      · rw [← hk, Nat.min_eq_right (by omega)]
      · rw [← hk, Nat.min_eq_left (by omega)]
    simp only [e1]
    rw [e2]
    exact a1
  · unfold J152
    rw [m125, Option.bind_some, i_b2, if_pos h1]
    exact b1
