/-! PURE: texts, values on both sides -/
def tlen (S : Rw) (t : Nat) : Nat := hy_ix (S (79 + 2 * t)) % 1000
def tkey (S : Rw) (t : Nat) : Nat := hy_ix (S (79 + 2 * t)) / 1000
def tcode (S : Rw) (t i : Nat) : Int32 := S (107 + 96 * t + i)
def txV (S : Rw) (t : Nat) (fc : Nat → Int32) : Int32 := (exL (tcode S t) fc [] 0 (tlen S t)).headD 0
def nmK (key : Nat) : Nat := if key = 0 then 3 else 2
def OkT (S : Rw) : Prop := OkH S ∧ ∀ t, t < nt S → dpL (tcode S t) 0 0 (tlen S t) = some 1 ∧ (∀ k, k < tlen S t → ∀ n, n ≤ 2 → tcode S t k = In (10000 + n) → n < nmK (tkey S t))
def Ok (S : Rw) : Prop := OkR S ∧ OkT S
def Rl (σ : Sg) (S : Rw) : Prop := ∀ t, t < nt S → σ (11 + 3 * t) 2 = In (tlen S t) ∧ σ (11 + 3 * t) 3 = In (tkey S t) ∧ σ (11 + 3 * t) 4 = S (80 + 2 * t) ∧ ∀ k, k < tlen S t → σ (12 + 3 * t) k = cvt (tcode S t k)
def Rc (σ : Sg) (o : Nat) (S : Rw) : Prop := (σ o 7 = S 1 ∧ σ o 8 = S 3 ∧ σ o 9 = S 4 ∧ σ o 10 = S 5 ∧ σ o 11 = S 2 ∧ σ o 12 = S 0 ∧ σ o 13 = S 6) ∧ (∀ b, b < nb S → ∀ w, w < 6 → σ (o + 7 + b) w = S (7 + 6 * b + w)) ∧ (∀ p, p < 36 → σ (o + 2) p = oI (-1000000005) (hd S p)) ∧ (∀ k, k < 3 → σ (o + 3) k = oI (-1000000005) (ct S k))
def plP (a : Nat) : Prop := 11 ≤ a ∧ a < 53 ∧ a % 3 = 1
def coP (o a : Nat) : Prop := a = o ∨ a = o + 2 ∨ a = o + 3 ∨ (o + 7 ≤ a ∧ a ≤ o + 18)
theorem Rc_c {σ σ' : Sg} {o : Nat} {S : Rw} (hS : OkR S) (h : Rc σ o S) (hq : ∀ a, coP o a → σ' a = σ a) : Rc σ' o S := by
  obtain ⟨h1, h2, h3, h4⟩ := h
  have h12 := hS.1.2
  refine ⟨by rw [hq o (Or.inl rfl)]; exact h1, fun b hb w hw => ?_, fun p hp => ?_, fun k hk => ?_⟩
  · rw [hq (o + 7 + b) (by unfold coP; omega)]; exact h2 b hb w hw
  · rw [hq (o + 2) (by unfold coP; omega)]; exact h3 p hp
  · rw [hq (o + 3) (by unfold coP; omega)]; exact h4 k hk
theorem Rl_c {σ σ' : Sg} {S : Rw} (hS : OkR S) (h : Rl σ S) (hq : ∀ a, 11 ≤ a → a < 53 → a % 3 ≠ 1 → σ' a = σ a) : Rl σ' S := by
  intro t ht
  have h14 := nt_le hS
  obtain ⟨h1, h2, h3, h4⟩ := h t ht
  rw [hq (11 + 3 * t) (by omega) (by omega) (by omega), hq (12 + 3 * t) (by omega) (by omega) (by omega)]
  exact ⟨h1, h2, h3, h4⟩
theorem tlen_le {S : Rw} (h : OkT S) {t : Nat} (ht : t < nt S) : tlen S t ≤ 96 := (h.1 t ht).2.2
theorem m135 {σ : Sg} {t : Nat} {fc : Nat → Int32} (hS : Ok (σ 139)) (ht : t < nt (σ 139)) (hfc : ∀ i, i < 3 → σ 152 i = fc i) : ∃ σ', J135 (In t) σ = some (txV (σ 139) t fc, σ') ∧ fr [151] σ σ' := by
  have h14 := nt_le hS.1
  obtain ⟨h1, h2, h3⟩ := hS.2.1 t ht
  have hidx : (79 : Int32) + ((2 : Int32) * In t) = In (79 + 2 * t) := by
    rw [show (79 : Int32) = In 79 from rfl, show (2 : Int32) = In 2 from rfl, n_mul, n_add]
  unfold J135
  rw [hidx, if_pos (ib_n (by omega) (by omega)), n_ix (by omega), h1, show (1000 : Int32) = In 1000 from rfl, n_rem (by omega) (by omega)]
  exact m135_loop (t := t) (by omega) (tlen_le hS.2 ht) (tlen (σ 139) t) 0 hy_fu [] σ (by omega) (by have := tlen_le hS.2 ht; unfold hy_fu; omega) rfl hfc trivial (Nat.le_refl _) (hS.2.2 t ht).1
theorem c14 {σ : Sg} {S : Rw} {t : Nat} {fc : Nat → Int32} {x1 x2 x3 : Int32} (hS : Ok S) (hl : Rl σ S) (ht : t < nt S) (h1 : fc 0 = x1) (h2 : fc 1 = x2) (h3 : fc 2 = x3) : ∃ σ', J14 (11 + 3 * t) x1 x2 x3 σ = some (txV S t fc, σ') ∧ fp plP σ σ' := by
  have h14 := nt_le hS.1
  obtain ⟨q1, q2, q3, q4⟩ := hl t ht
  obtain ⟨σ', e1, e2⟩ := c14_loop (c := tcode S t) (o := 11 + 3 * t) (tlen_le hS.2 ht) h1 h2 h3 (tlen S t) 0 hy_fu [] σ (by omega) (by have := tlen_le hS.2 ht; unfold hy_fu; omega) q1 (fun i hi => by rw [show 11 + 3 * t + 1 = 12 + 3 * t by omega]; exact q4 i hi) trivial (Nat.le_refl _) (hS.2.2 t ht).1
  exact ⟨σ', e1, fp_wk e2 fun a ha => by subst ha; unfold plP; omega⟩
/-- held within 0 .. 999 -/
def cl9 (x : Int32) : Nat := if 0 ≤ x then (if x ≤ 999 then hy_ix x else 999) else 0
theorem cl9_le (x : Int32) : cl9 x ≤ 999 := by
  unfold cl9
  by_cases h0 : 0 ≤ x
  · by_cases h1 : x ≤ 999
    · rw [if_pos h0, if_pos h1]
      obtain ⟨n, hn, rfl⟩ := n_rngI (n := 999) (by omega) h0 h1
      rw [n_ix (by omega)]
      exact hn
    · rw [if_pos h0, if_neg h1]
      omega
  · rw [if_neg h0]
    omega
theorem cl9_m (x : Int32) (σ : Sg) : J137 x 0 999 σ = some (In (cl9 x), σ) := by
  rw [m137]
  unfold cl9
  by_cases h0 : 0 ≤ x
  · by_cases h1 : x ≤ 999
    · rw [if_pos h0, if_pos h1, if_pos h0, if_pos h1]
      obtain ⟨n, hn, rfl⟩ := n_rngI (n := 999) (by omega) h0 h1
      rw [n_ix (by omega)]
    · rw [if_pos h0, if_neg h1, if_pos h0, if_neg h1]
      rfl
  · rw [if_neg h0, if_neg h0]
    rfl
theorem cl9_c (x : Int32) (σ : Sg) : J16 x 0 999 σ = some (In (cl9 x), σ) := by
  unfold J16 cl9
  by_cases h0 : 0 ≤ x
  · by_cases h1 : x ≤ 999
    · rw [if_pos h0, if_pos h1]
      obtain ⟨n, hn, rfl⟩ := n_rngI (n := 999) (by omega) h0 h1
      rw [n_ix (by omega), if_neg (show ¬ (999 : Int32) < In n by show ¬ In 999 < In n; rw [n_lt (by omega) (by omega)]; omega)]
      by_cases hz : n = 0
      · subst hz
        rfl
      · rw [if_pos (show (0 : Int32) < In n by show In 0 < In n; rw [n_lt (by omega) (by omega)]; omega)]
    · rw [if_pos h0, if_neg h1, if_pos (Int32.not_le.mp h1), if_pos (by decide)]
      rfl
  · have hlt : x < 0 := Int32.not_le.mp h0
    have h2 : ¬ (999 : Int32) < x := by
      rw [Int32.lt_iff_toInt_lt] at hlt ⊢
      have e0 : (0 : Int32).toInt = 0 := rfl
      have e9 : (999 : Int32).toInt = 999 := rfl
      omega
    have h3 : ¬ (0 : Int32) < x := by
      rw [Int32.lt_iff_toInt_lt] at hlt ⊢
      have e0 : (0 : Int32).toInt = 0 := rfl
      omega
    rw [if_neg h0, if_neg h2, if_neg h3]
    rfl
def fc3 (x y z : Int32) (i : Nat) : Int32 := if i = 0 then x else if i = 1 then y else z
/-- what hay gives -/
def plV (S : Rw) (h p : Nat) (w : Int32) : Nat := match ct S 0 with
  | none => h
  | some t => cl9 (txV S t (fc3 (In h) (In p) w))
def vw (S : Rw) (k h p : Nat) (w : Int32) : Nat := vlK k (plV S h p w)
def vl (S : Rw) (b : Nat) : Nat := vw S (bf S b 0) (bf S b 3) (bf S b 2) (S (7 + 6 * b + 4))
theorem plV_le {S : Rw} {h p : Nat} {w : Int32} (hh : h ≤ 99) : plV S h p w ≤ 999 := by
  unfold plV
  split
  · omega
  · exact cl9_le _
theorem vw_le {S : Rw} {k h p : Nat} {w : Int32} (hh : h ≤ 99) : vw S k h p w ≤ 1008 := vlK_le (plV_le hh)
theorem ct_lt {S : Rw} {key t : Nat} (h : ct S key = some t) : t < nt S ∧ tkey S t = key := ctL_some h
theorem m133 {σ : Sg} {b : Nat} (hS : Ok (σ 139)) (hb : b < nb (σ 139)) : ∃ σ', J133 (In b) σ = some (In (vl (σ 139) b), σ') ∧ fr [151, 152] σ σ' := by
  have h12 := hS.1.1.2
  have h14 := nt_le hS.1
  obtain ⟨⟨k1, k2⟩, -, ⟨p1, p2⟩, ⟨y1, y2, y3⟩⟩ := hS.1.2.1 b hb
  have z2 : ∀ σ : Sg, J128 (In b) 2 σ = some (σ 139 (7 + 6 * b + 2), σ) := fun σ => m128 (w := 2) (by omega) σ
  have z3 : ∀ σ : Sg, J128 (In b) 3 σ = some (σ 139 (7 + 6 * b + 3), σ) := fun σ => m128 (w := 3) (by omega) σ
  have z4 : ∀ σ : Sg, J128 (In b) 4 σ = some (σ 139 (7 + 6 * b + 4), σ) := fun σ => m128 (w := 4) (by omega) σ
  unfold J133
  rw [show J134 0 σ = some (oI (-1) (ct (σ 139) 0), σ) from m134 (key := 0) hS.1 hS.2.1 (by omega), Option.bind_some]
  dsimp only
  rw [z3, Option.bind_some]
  dsimp only
  rw [z2, Option.bind_some]
  dsimp only
  rw [z4, Option.bind_some]
  dsimp only
  simp only [up_ne _ _ _ (show (139 : Nat) ≠ 152 by omega)]
  rw [y1, p1]
  generalize hT : hy_up (hy_up (hy_up σ 152 0 (In (bf (σ 139) b 3))) 152 1 (In (bf (σ 139) b 2))) 152 2 (σ 139 (7 + 6 * b + 4)) = τ
  have hτ : τ 139 = σ 139 := by
    subst hT
    rw [up_ne _ _ _ (by omega), up_ne _ _ _ (by omega), up_ne _ _ _ (by omega)]
  have hf : fr [152] σ τ := by
    subst hT
    exact fr_tr (fr_tr (fr_up _ _ _ _ (by simp [fk])) (fr_up _ _ _ _ (by simp [fk]))) (fr_up _ _ _ _ (by simp [fk]))
  have hfc : ∀ i, i < 3 → τ 152 i = fc3 (In (bf (σ 139) b 3)) (In (bf (σ 139) b 2)) (σ 139 (7 + 6 * b + 4)) i := by
    intro i hi
    subst hT
    match i, hi with
    | 0, _ => rfl
    | 1, _ => rfl
    | 2, _ => rfl
  unfold vl vw plV
  cases e : ct (σ 139) 0 with
  | none =>
    rw [if_neg (by decide), z3, Option.bind_some]
    dsimp only
    rw [hτ, y1, m133_2 (by rw [hτ]; exact hS.1) (by rw [hτ]; exact hb) (by omega)]
    refine ⟨τ, by rw [hτ], fr_wk hf (by simp)⟩
  | some t =>
    obtain ⟨ht, -⟩ := ct_lt e
    rw [show oI (-1) (some t) = In t from rfl, if_pos (show (0 : Int32) ≤ In t by show In 0 ≤ In t; rw [n_le (by omega) (by omega)]; omega)]
    obtain ⟨τ', q1, q2⟩ := m135 (σ := τ) (t := t) (by rw [hτ]; exact hS) (by rw [hτ]; exact ht) hfc
    rw [q1, Option.bind_some]
    dsimp only
    rw [cl9_m, Option.bind_some, hτ]
    dsimp only
    have hτ' : τ' 139 = σ 139 := (fr_row q2 (by omega) (by simp)).trans hτ
    rw [m133_2 (by rw [hτ']; exact hS.1) (by rw [hτ']; exact hb) (cl9_le _), hτ']
    exact ⟨τ', rfl, fr_tr (fr_wk hf (by simp)) (fr_wk q2 (by simp))⟩
theorem c12_2 {k x : Nat} (hk : k ≤ 5) (hx : x ≤ 999) (σ : Sg) : J12_2 (In x) (In k) σ = some (In (vlK k x), σ) := by
  have e1 : In x + 9 = In (x + 9) := n_add x 9
  have e2 : (2 : Int32) * In x = In (2 * x) := n_mul 2 x
  have e3 : (In (x + 9) + 20) / 2 = In ((x + 29) / 2) := by
    rw [show In (x + 9) + 20 = In (x + 29) from n_add (x + 9) 20, show (2 : Int32) = In 2 from rfl, n_div (by omega) (by omega)]
  have e4 : (if (999 : Int32) < In (2 * x) then (999 : Int32) else In (2 * x)) = In (min (2 * x) 999) := by
    by_cases h : 2 * x ≤ 999
    · rw [if_neg (show ¬ (999 : Int32) < In (2 * x) by show ¬ In 999 < In (2 * x); rw [n_lt (by omega) (by omega)]; omega), Nat.min_eq_left h]
    · rw [if_pos (show (999 : Int32) < In (2 * x) by show In 999 < In (2 * x); rw [n_lt (by omega) (by omega)]; omega), Nat.min_eq_right (by omega)]
      rfl
  have e5 : (if In (min (2 * x) 999) - 5 < (0 : Int32) then (0 : Int32) else In (min (2 * x) 999) - 5) = In (min (2 * x) 999 - 5) := by
    generalize hy : min (2 * x) 999 = y
    have hy9 : y ≤ 999 := by omega
    by_cases h : 5 ≤ y
    · rw [show In y - 5 = In (y - 5) from n_sub h, if_neg (show ¬ In (y - 5) < (0 : Int32) by show ¬ In (y - 5) < In 0; rw [n_lt (by omega) (by omega)]; omega)]
    · have : In y - 5 < (0 : Int32) := by
        rw [n_z, show (5 : Int32) = Zn 5 from rfl, z_sub, show (0 : Int32) = Zn 0 from rfl, z_lt (by omega) (by omega) (by omega) (by omega)]
        omega
      rw [if_pos this, show y - 5 = 0 by omega]
      rfl
  unfold J12_2 vlK
  rw [e1, e2, e3, e4, e5]
  match k, hk with
  | 0, _ => rfl
  | 1, _ => rfl
  | 2, _ => rfl
  | 3, _ => rfl
  | 4, _ => rfl
  | 5, _ => rfl
  | n + 6, h => omega
theorem c13 (x : Int32) (σ : Sg) : J13 x σ = some (b2 (0 ≤ x ∧ x ≤ 13), σ) := by
  unfold J13
  rw [c3, Option.bind_some]
  simp only [b2_01, if_true]
theorem oN_no : ¬ ((0 : Int32) ≤ oI (-1000000005) none ∧ oI (-1000000005) none ≤ 13) := by decide
theorem oN_yes {t : Nat} (h : t < 14) : (0 : Int32) ≤ oI (-1000000005) (some t) ∧ oI (-1000000005) (some t) ≤ 13 :=
  ⟨show In 0 ≤ In t by rw [n_le (by omega) (by omega)]; omega, show In t ≤ In 13 by rw [n_le (by omega) (by omega)]; omega⟩
theorem c12 {σ : Sg} {o : Nat} {S : Rw} {k h p : Nat} (w : Int32) (hS : Ok S) (hc : σ (o + 3) 0 = oI (-1000000005) (ct S 0)) (hl : Rl σ S) (hk : k ≤ 5) (hh : h ≤ 99) : ∃ σ', J12 o (In k) (In h) (In p) w σ = some (In (vw S k h p w), σ') ∧ fp plP σ σ' := by
  have h14 := nt_le hS.1
  unfold J12 vw plV
  rw [hc, c13, Option.bind_some]
  simp only [b2_0]
  cases e : ct S 0 with
  | none =>
    rw [if_pos oN_no, c12_2 hk (by omega)]
    exact ⟨σ, rfl, fp_rf _ _⟩
  | some t =>
    obtain ⟨ht, -⟩ := ct_lt e
    rw [if_neg (fun z => z (oN_yes (by omega))), show oI (-1000000005) (some t) = In t from rfl, if_pos (ib_n (by omega) (by omega)), n_ix (by omega)]
    obtain ⟨τ, q1, q2⟩ := c14 (t := t) (fc := fc3 (In h) (In p) w) (x1 := In h) (x2 := In p) (x3 := w) hS hl ht rfl rfl rfl
    rw [q1, Option.bind_some]
    dsimp only
    rw [cl9_c, Option.bind_some]
    dsimp only
    rw [c12_2 hk (cl9_le _)]
    exact ⟨τ, rfl, q2⟩
