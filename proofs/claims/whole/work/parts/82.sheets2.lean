/-! PURE: sheets read, poured; storms -/
theorem n_ne {k n : Nat} (hk : k < 2147483648) (hn : n < 2147483648) (h : ¬ k < n) : ¬ (0 ≤ In k ∧ In k ≤ In n - 1) := by
  rintro ⟨z1, z2⟩
  obtain ⟨b, hb, e⟩ := n_rng (n := n) hn z1 z2
  rw [n_eq hk (by omega)] at e
  omega
theorem n_in {k n : Nat} (hn : n < 2147483648) (h : k < n) : 0 ≤ In k ∧ In k ≤ In n - 1 := by
  rw [n_s1 (by omega)]
  exact ⟨by show In 0 ≤ In k; rw [n_le (by omega) (by omega)]; omega, by rw [n_le (by omega) (by omega)]; omega⟩
theorem i_in {α : Sort _} {k n : Nat} (hk : k < 2147483648) (hn : n < 2147483648) (A B : α) : (if 0 ≤ In k ∧ In k ≤ In n - 1 then A else B) = if k < n then A else B := by
  by_cases h : k < n
  · rw [if_pos h, if_pos (n_in hn h)]
  · rw [if_neg h, if_neg (n_ne hk hn h)]
theorem i24 (s k : Nat) : (24 : Int32) * In s + In k = In (24 * s + k) := by
  rw [show (24 : Int32) = In 24 from rfl, n_mul, n_add]
def rdL (S : Rw) (C : Nat → Int32) (k : Nat) : Nat → Int32
  | 0 => -1000000005
  | m + 1 => if C k = -1000000005 then rdL S C (k + 1) m else if k < nb S ∧ C k = S (7 + 6 * k + 2) then rdL S C (k + 1) m else In k
theorem c108_loop {S : Rw} {σ : Sg} {r n : Nat} {C : Nat → Int32} (hS : OkR S) (hc : Rc σ 81 S) (h2 : σ r 2 = In n) (hn : n ≤ 24) (hC : ∀ k, k < 24 → σ (r + 1) k = C k) : ∀ (m k f : Nat), k + m = n → m < f → J108_3 f r (In k) σ = some (rdL S C k m, σ) := by
  have h12 := hS.1.2
  intro m
  induction m with
  | zero =>
    intro k f hk hf
    obtain ⟨f, rfl⟩ : ∃ g, f = g + 1 := ⟨f - 1, by omega⟩
    unfold J108_3
    rw [h2, i_le (by omega) (by omega), if_pos (by omega)]
    rfl
  | succ m ih =>
    intro k f hk hf
    obtain ⟨f, rfl⟩ : ∃ g, f = g + 1 := ⟨f - 1, by omega⟩
    have hs : rdL S C k (m + 1) = if C k = -1000000005 then rdL S C (k + 1) m else if k < nb S ∧ C k = S (7 + 6 * k + 2) then rdL S C (k + 1) m else In k := rfl
    unfold J108_3 J108_5
    rw [h2, i_le (by omega) (by omega), if_neg (by omega), c72 h2 hn (by omega), Option.bind_some, i_bb]
    dsimp only
    rw [c11, Option.bind_some, hc.1.1, hS.1.1, i_b2, n_p1, hC k (by omega), hs]
    dsimp only
    rw [ih (k + 1) f (by omega) (by omega)]
    rw [i_in (by omega) (by omega), decide_eq_true (show k < n by omega), Bool.true_and]
    by_cases h3 : C k = -1000000005
    · rw [if_pos h3, if_neg (by simp [h3])]
    · rw [if_neg h3, if_pos (by simp [h3])]
      by_cases h4 : k < nb S
      · rw [if_pos h4, if_pos (ib_n (by omega) (by omega)), if_pos (ib_n (by omega) (by omega)), n_ix (by omega)]
        simp only [rc81 hc h4 (show 2 < 6 by omega), hC k (show k < 24 by omega)]
        by_cases h5 : C k = S (7 + 6 * k + 2)
        · rw [if_pos h5.symm, if_pos ⟨h4, h5⟩]
        · rw [if_neg (fun z => h5 z.symm), if_neg (fun z => h5 z.2)]
      · rw [if_neg h4, if_neg (fun z => h4 z.1)]
theorem m205_loop {τ : Sg} {s n : Nat} {C : Nat → Int32} (hS : OkR (τ 139)) (hs4 : s < 4) (h2 : τ 154 s = In n) (hn : n ≤ 24) (hC : ∀ k, k < 24 → τ 155 (24 * s + k) = C k) : ∀ (m k f : Nat), k + m = n → m < f → J205_3 f (In s) (In k) τ = some (rdL (τ 139) C k m, τ) := by
  have h12 := hS.1.2
  intro m
  induction m with
  | zero =>
    intro k f hk hf
    obtain ⟨f, rfl⟩ : ∃ g, f = g + 1 := ⟨f - 1, by omega⟩
    unfold J205_3
    rw [if_pos (ib_n (by omega) (by omega)), n_ix (by omega), h2, i_le (by omega) (by omega), if_pos (by omega)]
    rfl
  | succ m ih =>
    intro k f hk hf
    obtain ⟨f, rfl⟩ : ∃ g, f = g + 1 := ⟨f - 1, by omega⟩
    have hs : rdL (τ 139) C k (m + 1) = if C k = -1000000005 then rdL (τ 139) C (k + 1) m else if k < nb (τ 139) ∧ C k = τ 139 (7 + 6 * k + 2) then rdL (τ 139) C (k + 1) m else In k := rfl
    unfold J205_3 J205_5
    rw [if_pos (ib_n (by omega) (by omega)), n_ix (by omega), h2, i_le (by omega) (by omega), if_neg (by omega), i24, if_pos (ib_n (by omega) (by omega)), n_ix (by omega), hC k (by omega), m132, Option.bind_some, i_b2, hS.1.1, n_p1, hs, ih (k + 1) f (by omega) (by omega), i_in (by omega) (by omega)]
    dsimp only
    by_cases h3 : C k = -1000000005
    · rw [if_pos h3, if_pos h3]
    · rw [if_neg h3, if_neg h3]
      by_cases h4 : k < nb (τ 139)
      · rw [if_pos h4, show J128 (In k) 2 τ = _ from m128 (w := 2) (by omega) τ, Option.bind_some]
        dsimp only
        by_cases h5 : C k = τ 139 (7 + 6 * k + 2)
        · rw [if_pos h5, if_pos ⟨h4, h5⟩]
          exact ih (k + 1) f (by omega) (by omega)
        · rw [if_neg h5, if_neg (fun z => h5 z.2)]
      · rw [if_neg h4, if_neg (fun z => h4 z.1)]
theorem op_reads (x : Int32) : Op (J108 x) (J205 x) := by
  intro σ h
  obtain ⟨hS, hdy, hc, hl, hi⟩ := h.1
  have h12 := hS.1.1.2
  have bad : ∀ r, J108 x σ = some (r, σ) → J205 x σ = some (r, σ) → ∃ r σ1 σ2, J108 x σ = some (r, σ1) ∧ J205 x σ1 = some (r, σ2) ∧ Iv σ2 ∧ σ1 2000 = σ 2000 ∧ σ2 2000 = σ 2000 := fun r e1 e2 => Op_ga h e1 e2 (fp_rf _ _) (fr_rf _ _)
  by_cases h1 : ¬(0 ≤ x ∧ x ≤ 3)
  · apply bad (-1000000001)
    · unfold J108
      rw [c69, Option.bind_some, i_b2, if_neg h1]
    · unfold J205
      rw [m182, Option.bind_some, i_b2, if_neg h1]
  replace h1 := Classical.not_not.mp h1
  obtain ⟨s, hs, rfl⟩ := n_rngI (n := 3) (by omega) h1.1 h1.2
  obtain ⟨d1, d2, ⟨n, hn, d3, d4⟩, d5⟩ := h.2.2.2.1 s (by omega)
  obtain ⟨s1, s2⟩ := sort_c d2
  by_cases h2 : σ 153 s = -1
  · apply bad (-1000000011)
    · unfold J108
      rw [c69, Option.bind_some, i_b2, if_pos h1]
      dsimp only
      rw [if_pos (ib_n (by omega) (by omega)), n_ix (by omega), c70, Option.bind_some, i_b2, d1, if_pos h2]
    · unfold J205
      rw [m182, Option.bind_some, i_b2, if_pos h1]
      dsimp only
      rw [if_pos (ib_n (by omega) (by omega)), n_ix (by omega), if_neg (s1.mp h2)]
  have h0 : 0 ≤ σ 153 s := Classical.not_not.mp fun q => h2 (s1.mpr q)
  apply bad (rdL (σ 139) (fun k => σ 155 (24 * s + k)) 0 n)
  · unfold J108
    rw [c69, Option.bind_some, i_b2, if_pos h1]
    dsimp only
    rw [if_pos (ib_n (by omega) (by omega)), n_ix (by omega), c70, Option.bind_some, i_b2, d1, if_neg h2]
    exact c108_loop hS.1 hc d3 hn (fun k hk => by rw [show 53 + 2 * s + 1 = 54 + 2 * s by omega]; exact (d5 k hk).1) n 0 hy_fu (by omega) (by unfold hy_fu; omega)
  · unfold J205
    rw [m182, Option.bind_some, i_b2, if_pos h1]
    dsimp only
    rw [if_pos (ib_n (by omega) (by omega)), n_ix (by omega), if_pos h0]
    exact m205_loop hS.1 (by omega) d4 hn (fun k hk => rfl) n 0 hy_fu (by omega) (by unfold hy_fu; omega)
def cl1 (x : Int32) : Nat := if 1 ≤ x then (if x ≤ 99 then hy_ix x else 99) else 1
theorem cl1_m (x : Int32) (σ : Sg) : J137 x 1 99 σ = some (In (cl1 x), σ) ∧ 1 ≤ cl1 x ∧ cl1 x ≤ 99 := by
  rw [m137]
  unfold cl1
  by_cases h0 : 1 ≤ x
  · by_cases h1 : x ≤ 99
    · rw [if_pos h0, if_pos h1, if_pos h0, if_pos h1]
      obtain ⟨n, hn1, hn, rfl⟩ := bd_l (n := 99) (by omega) h0 h1
      rw [n_ix (by omega)]
      exact ⟨rfl, hn1, hn⟩
    · rw [if_pos h0, if_neg h1, if_pos h0, if_neg h1]
      exact ⟨rfl, by omega, by omega⟩
  · rw [if_neg h0, if_neg h0]
    exact ⟨rfl, by omega, by omega⟩
theorem cl1_c (x : Int32) (σ : Sg) : J16 x 1 99 σ = some (In (cl1 x), σ) := by
  unfold J16 cl1
  by_cases h0 : 1 ≤ x
  · by_cases h1 : x ≤ 99
    · rw [if_pos h0, if_pos h1]
      obtain ⟨n, hn1, hn, rfl⟩ := bd_l (n := 99) (by omega) h0 h1
      rw [n_ix (by omega), if_neg (show ¬ (99 : Int32) < In n by show ¬ In 99 < In n; rw [n_lt (by omega) (by omega)]; omega)]
      by_cases hz : n = 1
      · subst hz
        rfl
      · rw [if_pos (show (1 : Int32) < In n by show In 1 < In n; rw [n_lt (by omega) (by omega)]; omega)]
    · rw [if_pos h0, if_neg h1, if_pos (Int32.not_le.mp h1), if_pos (by decide)]
      rfl
  · have hlt : x < 1 := Int32.not_le.mp h0
    have e1 : (1 : Int32).toInt = 1 := rfl
    have e9 : (99 : Int32).toInt = 99 := rfl
    have h2 : ¬ (99 : Int32) < x := by
      rw [Int32.lt_iff_toInt_lt] at hlt ⊢
      omega
    have h3 : ¬ (1 : Int32) < x := by
      rw [Int32.lt_iff_toInt_lt] at hlt ⊢
      omega
    rw [if_neg h0, if_neg h2, if_neg h3]
    rfl
/-- hay poured: of a bale; of all; how many are otherwise -/
def pH (S : Rw) (C : Nat → Int32) (n b : Nat) : Nat := if b < n ∧ C b ≠ -1000000005 then cl1 (C b) else bf S b 3
def poR (S : Rw) (C : Nat → Int32) (n b : Nat) : Nat → Rw
  | 0 => S
  | m + 1 => poR (upd S (7 + 6 * b + 3) (In (pH S C n b))) C n (b + 1) m
def poC (S : Rw) (C : Nat → Int32) (n b : Nat) : Nat → Nat
  | 0 => 0
  | m + 1 => (if pH S C n b = bf S b 3 then 0 else 1) + poC (upd S (7 + 6 * b + 3) (In (pH S C n b))) C n (b + 1) m
theorem pH_bd {S : Rw} {C : Nat → Int32} {n b : Nat} (hS : OkR S) (hb : b < nb S) : 1 ≤ pH S C n b ∧ pH S C n b ≤ 99 := by
  obtain ⟨-, -, -, ⟨y1, y2, y3⟩⟩ := hS.2.1 b hb
  unfold pH
  split
  · exact (cl1_m (C b) (fun _ _ => 0)).2
  · exact ⟨y2, y3⟩
theorem pH_k {S : Rw} {C : Nat → Int32} {n b : Nat} (hS : Ok S) (hb : b < nb S) : Kp S (upd S (7 + 6 * b + 3) (In (pH S C n b))) := by
  have h12 := hS.1.1.2
  exact Kp_of hS (ok_upd hS.1 hb (Or.inr (Or.inr ⟨rfl, pH_bd hS.1 hb⟩))) (nb_upd (by omega)) (eqT_upd _ _ (by omega) (by omega))
theorem poR_k {C : Nat → Int32} {n : Nat} : ∀ {m b : Nat} {S : Rw}, Ok S → b + m = nb S → Kp S (poR S C n b m) ∧ poR S C n b m 2 = S 2 := by
  intro m
  induction m with
  | zero => intro b S h _; exact ⟨Kp_rf h, rfl⟩
  | succ m ih =>
    intro b S h hb
    have h12 := h.1.1.2
    have h1 := pH_k (C := C) (n := n) h (show b < nb S by omega)
    obtain ⟨r1, r2⟩ := ih (b := b + 1) h1.1 (by rw [h1.2.1]; omega)
    exact ⟨Kp_tr h1 r1, r2.trans (upd_ne _ _ (by omega))⟩
theorem po_id {C : Nat → Int32} {n : Nat} : ∀ {m b : Nat} {S : Rw}, OkR S → b + m = nb S → n ≤ b → poR S C n b m = S ∧ poC S C n b m = 0 := by
  intro m
  induction m with
  | zero => intro b S _ _ _; exact ⟨rfl, rfl⟩
  | succ m ih =>
    intro b S hS hb hn
    obtain ⟨-, -, -, ⟨y1, y2, y3⟩⟩ := hS.2.1 b (by omega)
    have hp : pH S C n b = bf S b 3 := if_neg fun z => by omega
    have hu : upd S (7 + 6 * b + 3) (In (pH S C n b)) = S := upd_self (by rw [hp]; exact y1)
    obtain ⟨r1, r2⟩ := ih (b := b + 1) (S := S) hS (by omega) (by omega)
    refine ⟨?_, ?_⟩
    · show poR (upd S (7 + 6 * b + 3) (In (pH S C n b))) C n (b + 1) m = S
      rw [hu, r1]
    · show (if pH S C n b = bf S b 3 then 0 else 1) + poC (upd S (7 + 6 * b + 3) (In (pH S C n b))) C n (b + 1) m = 0
      rw [hu, r2, if_pos hp]
theorem c107_loop {r n : Nat} {C : Nat → Int32} (hn : n ≤ 24) (hr : 53 ≤ r ∧ r < 60) : ∀ (m b f a : Nat) (S : Rw) (σ : Sg), Ok S → Rc σ 81 S → σ r 2 = In n → (∀ k, k < 24 → σ (r + 1) k = C k) → b + m = nb S → m < f → ∃ σ', J107_3 f r (In a) (In b) σ = some (In (a + poC S C n b m), σ') ∧ Rc σ' 81 (poR S C n b m) ∧ fp (fun x => 88 ≤ x ∧ x ≤ 99) σ σ' := by
  intro m
  induction m with
  | zero =>
    intro b f a S σ hS hc h2 hC hb hf
    obtain ⟨f, rfl⟩ : ∃ g, f = g + 1 := ⟨f - 1, by omega⟩
    have h12 := hS.1.1.2
    unfold J107_3
    rw [hc.1.1, hS.1.1.1, i_le (by omega) (by omega), if_pos (by omega)]
    exact ⟨σ, rfl, hc, fp_rf _ _⟩
  | succ m ih =>
    intro b f a S σ hS hc h2 hC hb hf
    obtain ⟨f, rfl⟩ : ∃ g, f = g + 1 := ⟨f - 1, by omega⟩
    have h12 := hS.1.1.2
    have hbn : b < nb S := by omega
    obtain ⟨-, -, -, ⟨y1, y2, y3⟩⟩ := hS.1.2.1 b hbn
    have hk := pH_k (C := C) (n := n) hS hbn
    have hbd := pH_bd (C := C) (n := n) hS.1 hbn
    have fin : ∀ σ1 : Sg, Rc σ1 81 (upd S (7 + 6 * b + 3) (In (pH S C n b))) → fp (fun x => 88 ≤ x ∧ x ≤ 99) σ σ1 → ∃ σ', J107_4 (J107_3 f) r (In a) (In b) (In (bf S b 3)) σ1 = some (In (a + poC S C n b (m + 1)), σ') ∧ Rc σ' 81 (poR S C n b (m + 1)) ∧ fp (fun x => 88 ≤ x ∧ x ≤ 99) σ σ' := by
      intro σ1 q1 q2
      have e3 : σ1 (88 + b) 3 = In (pH S C n b) := by
        rw [rc81 q1 (by rw [hk.2.1]; exact hbn) (by omega), upd_at]
      unfold J107_4 J107_5
      rw [if_pos (ib_n (by omega) (by omega)), n_ix (by omega), e3, i_eq (by omega) (by omega), n_p1, n_p1]
      have nx : ∀ c : Nat, c = (if pH S C n b = bf S b 3 then 0 else 1) → ∃ σ', J107_3 f r (In (a + c)) (In (b + 1)) σ1 = some (In (a + poC S C n b (m + 1)), σ') ∧ Rc σ' 81 (poR S C n b (m + 1)) ∧ fp (fun x => 88 ≤ x ∧ x ≤ 99) σ σ' := by
        intro c hc'
        obtain ⟨σ2, r1, r2, r3⟩ := ih (b + 1) f (a + c) _ σ1 hk.1 q1 (by rw [q2 r (by omega)]; exact h2) (fun k hk' => by rw [q2 (r + 1) (by omega)]; exact hC k hk') (by rw [hk.2.1]; omega) (by omega)
        refine ⟨σ2, ?_, r2, fp_tr q2 r3⟩
        rw [r1, hc', Nat.add_assoc]
        rfl
      by_cases h : pH S C n b = bf S b 3
      · rw [if_pos h]
        exact nx 0 (by rw [if_pos h])
      · rw [if_neg h]
        exact nx 1 (by rw [if_neg h])
    unfold J107_3
    rw [hc.1.1, hS.1.1.1, i_le (by omega) (by omega), if_neg (by omega), if_pos (ib_n (by omega) (by omega)), c72 h2 hn (by omega), Option.bind_some, i_bb, n_ix (by omega), rc81 hc hbn (by omega), y1]
    dsimp only
    by_cases h3 : (decide (b < n) && decide (σ (r + 1) b ≠ -1000000005)) = true
    · have h4 : b < n ∧ C b ≠ -1000000005 := by
        simp only [Bool.and_eq_true, decide_eq_true_eq] at h3
        rw [hC b (by omega)] at h3
        exact h3
      rw [if_pos h3, if_pos (ib_n (by omega) (by omega)), if_pos (ib_n (by omega) (by omega)), hC b (by omega), cl1_c, Option.bind_some]
      dsimp only
      have hp : pH S C n b = cl1 (C b) := if_pos h4
      rw [← hp]
      exact fin _ (Rc_fld hS.1 hc hbn (w := 3) (by omega) (by omega) _) (fp_up _ _ _ _ (by omega))
    · have h4 : ¬ (b < n ∧ C b ≠ -1000000005) := by
        intro z
        apply h3
        simp only [Bool.and_eq_true, decide_eq_true_eq]
        rw [hC b (by omega)]
        exact z
      rw [if_neg h3]
      have hp : pH S C n b = bf S b 3 := if_neg h4
      exact fin σ (by rw [upd_self (by rw [hp]; exact y1)]; exact hc) (fp_rf _ _)
theorem m204_loop {s n : Nat} {C : Nat → Int32} (hs : s < 4) (hn : n ≤ 24) : ∀ (m b f a : Nat) (S : Rw) (τ : Sg), Ok S → τ 139 = S → τ 154 s = In n → (∀ k, k < 24 → τ 155 (24 * s + k) = C k) → b + m = nb S → m < f → ∃ τ', J204_3 f (In s) (In a) (In b) τ = some (In (a + poC S C n b m), τ') ∧ τ' 139 = poR S C n b m ∧ fr [139] τ τ' := by
  intro m
  induction m with
  | zero =>
    intro b f a S τ hS ht h2 hC hb hf
    obtain ⟨f, rfl⟩ : ∃ g, f = g + 1 := ⟨f - 1, by omega⟩
    have h12 := hS.1.1.2
    unfold J204_3
    rw [if_pos (ib_n (by omega) (by omega)), n_ix (by omega), h2, ht, hS.1.1.1, i_le (by omega) (by omega), i_le (by omega) (by omega)]
    refine ⟨τ, ?_, ht, fr_rf _ _⟩
    rw [if_pos (show nb S ≤ b by omega)]
    split <;> rfl
  | succ m ih =>
    intro b f a S τ hS ht h2 hC hb hf
    obtain ⟨f, rfl⟩ : ∃ g, f = g + 1 := ⟨f - 1, by omega⟩
    have h12 := hS.1.1.2
    have hbn : b < nb S := by omega
    obtain ⟨-, -, -, ⟨y1, y2, y3⟩⟩ := hS.1.2.1 b hbn
    have hk := pH_k (C := C) (n := n) hS hbn
    have hbd := pH_bd (C := C) (n := n) hS.1 hbn
    unfold J204_3
    rw [if_pos (ib_n (by omega) (by omega)), n_ix (by omega), h2, ht, hS.1.1.1, i_le (by omega) (by omega), i_le (by omega) (by omega)]
    by_cases hnb : n ≤ b
    · rw [if_pos hnb]
      obtain ⟨r1, r2⟩ := po_id (C := C) (n := n) (m := m + 1) (b := b) hS.1 hb hnb
      rw [r1, r2]
      exact ⟨τ, rfl, ht, fr_rf _ _⟩
    rw [if_neg hnb, if_neg (by omega), i24, if_pos (ib_n (by omega) (by omega)), n_ix (by omega), hC b (by omega)]
    have fin : ∃ τ', J204_5 (J204_3 f) (In (pH S C n b)) (In s) (In a) (In b) (C b) τ = some (In (a + poC S C n b (m + 1)), τ') ∧ τ' 139 = poR S C n b (m + 1) ∧ fr [139] τ τ' := by
      unfold J204_5 J204_7
      rw [show ((7 : Int32) + ((6 : Int32) * In b)) + 3 = In (7 + 6 * b + 3) from n_bw b 3, m149 (by omega), Option.bind_some, ht, y1]
      dsimp only
      rw [i_eq (by omega) (by omega), n_p1, n_p1, show In a + 0 = In (a + 0) from n_add a 0]
      have nx : ∀ c : Nat, c = (if pH S C n b = bf S b 3 then 0 else 1) → ∃ τ', J204_3 f (In s) (In (a + c)) (In (b + 1)) (wr τ (upd S (7 + 6 * b + 3) (In (pH S C n b)))) = some (In (a + poC S C n b (m + 1)), τ') ∧ τ' 139 = poR S C n b (m + 1) ∧ fr [139] τ τ' := by
        intro c hc'
        obtain ⟨τ2, r1, r2, r3⟩ := ih (b + 1) f (a + c) _ (wr τ (upd S (7 + 6 * b + 3) (In (pH S C n b)))) hk.1 (wr_at _ _) (by rw [wr_ne _ _ (by omega)]; exact h2) (fun k hk' => by rw [wr_ne _ _ (by omega)]; exact hC k hk') (by rw [hk.2.1]; omega) (by omega)
        refine ⟨τ2, ?_, r2, fr_tr (fr_wr _ _ (by simp)) r3⟩
        rw [r1, hc', Nat.add_assoc]
        rfl
      by_cases h : pH S C n b = bf S b 3
      · rw [if_pos h.symm]
        exact nx 0 (by rw [if_pos h])
      · rw [if_neg (fun z => h z.symm)]
        exact nx 1 (by rw [if_neg h])
    by_cases h3 : C b = -1000000005
    · rw [if_pos h3, show J128 (In b) 3 τ = _ from m128 (w := 3) (by omega) τ, Option.bind_some, ht, y1]
      dsimp only
      have hp : pH S C n b = bf S b 3 := if_neg fun z => z.2 h3
      rw [← hp]
      exact fin
    · rw [if_neg h3, (cl1_m (C b) τ).1, Option.bind_some]
      dsimp only
      have hp : pH S C n b = cl1 (C b) := if_pos ⟨by omega, h3⟩
      rw [← hp]
      exact fin
theorem op_pour (x : Int32) : Op (J107 x) (J204 x) := by
  intro σ h
  obtain ⟨hS, hdy, hc, hl, hi⟩ := h.1
  have h12 := hS.1.1.2
  have bad : ∀ r, J107 x σ = some (r, σ) → J204 x σ = some (r, σ) → ∃ r σ1 σ2, J107 x σ = some (r, σ1) ∧ J204 x σ1 = some (r, σ2) ∧ Iv σ2 ∧ σ1 2000 = σ 2000 ∧ σ2 2000 = σ 2000 := fun r e1 e2 => Op_ga h e1 e2 (fp_rf _ _) (fr_rf _ _)
  by_cases h1 : ¬(0 ≤ x ∧ x ≤ 3)
  · apply bad (-1000000001)
    · unfold J107
      rw [c69, Option.bind_some, i_b2, if_neg h1]
    · unfold J204
      rw [m182, Option.bind_some, i_b2, if_neg h1]
  replace h1 := Classical.not_not.mp h1
  obtain ⟨s, hs, rfl⟩ := n_rngI (n := 3) (by omega) h1.1 h1.2
  obtain ⟨d1, d2, ⟨n, hn, d3, d4⟩, d5⟩ := h.2.2.2.1 s (by omega)
  obtain ⟨s1, s2⟩ := sort_c d2
  by_cases h2 : σ 153 s = -1
  · apply bad (-1000000011)
    · unfold J107
      rw [c69, Option.bind_some, i_b2, if_pos h1]
      dsimp only
      rw [if_pos (ib_n (by omega) (by omega)), n_ix (by omega), c70, Option.bind_some, i_b2, d1, if_pos h2]
    · unfold J204
      rw [m182, Option.bind_some, i_b2, if_pos h1]
      dsimp only
      rw [if_pos (ib_n (by omega) (by omega)), n_ix (by omega), if_neg (s1.mp h2)]
  have h0 : 0 ≤ σ 153 s := Classical.not_not.mp fun q => h2 (s1.mpr q)
  obtain ⟨σ1, a1, a2, a3⟩ := c107_loop (r := 53 + 2 * s) (n := n) (C := fun k => σ 155 (24 * s + k)) hn (by omega) (nb (σ 139)) 0 hy_fu 0 (σ 139) σ hS hc d3 (fun k hk => by rw [show 53 + 2 * s + 1 = 54 + 2 * s by omega]; exact (d5 k hk).1) (by omega) (by unfold hy_fu; omega)
  obtain ⟨τ, b1, b2, b3⟩ := m204_loop (s := s) (n := n) (C := fun k => σ 155 (24 * s + k)) (by omega) hn (nb (σ 139)) 0 hy_fu 0 (σ 139) σ1 hS (a3 139 (by omega)) (by rw [a3 154 (by omega)]; exact d4) (fun k hk => by rw [a3 155 (by omega)]) (by omega) (by unfold hy_fu; omega)
  obtain ⟨r1, r2⟩ := poR_k (C := fun k => σ 155 (24 * s + k)) (n := n) (m := nb (σ 139)) (b := 0) hS (by omega)
  refine Op_bo h (r := In (0 + poC (σ 139) (fun k => σ 155 (24 * s + k)) n 0 (nb (σ 139)))) (σ1 := σ1) (σ2 := τ) ?_ ?_ (fp_wk a3 fun a ha => by unfold boQ dyP; omega) (fr_wk b3 (by simp [boL])) b2 r1.1 r1.2.2 (by unfold DayOk; rw [r2]; exact hdy) a2
  · unfold J107
    rw [c69, Option.bind_some, i_b2, if_pos h1]
    dsimp only
    rw [if_pos (ib_n (by omega) (by omega)), n_ix (by omega), c70, Option.bind_some, i_b2, d1, if_neg h2]
    exact a1
  · unfold J204
    rw [m182, Option.bind_some, i_b2, if_pos h1]
    dsimp only
    rw [if_pos (ib_n (by omega) (by omega)), n_ix (by omega), if_pos (show 0 ≤ σ1 153 s by rw [a3 153 (by omega)]; exact h0)]
    exact b1
