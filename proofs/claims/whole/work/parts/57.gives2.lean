/-! PURE: a text worked out by the class -/
/-- a step of the reference's, as the class keeps it -/
def cvt (v : Int32) : Int32 := if 0 ≤ v then (if v < 10000 then v else -1 - (v - 10000)) else if v = -1 then -124 else if v = -2 then -38 else if v = -3 then -60 else if v = -4 then -61 else if v = -5 then -62 else if v = -6 then -43 else if v = -7 then -45 else if v = -8 then -42 else if v = -9 then -47 else -33
theorem cvt_n {n : Nat} (h : n < 10000) : cvt (In n) = In n := by
  unfold cvt
  rw [if_pos (show (0 : Int32) ≤ In n by show In 0 ≤ In n; rw [n_le (by omega) (by omega)]; omega), if_pos (show In n < (10000 : Int32) by show In n < In 10000; rw [n_lt (by omega) (by omega)]; omega)]
theorem cvt_f {n : Nat} (h : n ≤ 2) : cvt (In (10000 + n)) = -1 - In n := by
  unfold cvt
  rw [if_pos (show (0 : Int32) ≤ In (10000 + n) by show In 0 ≤ In (10000 + n); rw [n_le (by omega) (by omega)]; omega), if_neg (show ¬ In (10000 + n) < (10000 : Int32) by show ¬ In (10000 + n) < In 10000; rw [n_lt (by omega) (by omega)]; omega), show (10000 : Int32) = In 10000 from rfl, n_sub (by omega), show 10000 + n - 10000 = n by omega]
theorem c15 {v : Int32} (h : v = -1 ∨ v = -2 ∨ v = -3 ∨ v = -4 ∨ v = -5 ∨ v = -6 ∨ v = -7 ∨ v = -8 ∨ v = -9) (a b : Int32) (σ : Sg) : J15 (-(cvt v)) a b σ = some (twS v a b, σ) := by
  rcases h with h | h | h | h | h | h | h | h | h <;> subst h
  · rw [show -(cvt (-1)) = 124 by decide]
    unfold J15 twS
    simp [hy_sw]
    split
    · split <;> rfl
    · rfl
  · rw [show -(cvt (-2)) = 38 by decide]
    unfold J15 twS
    simp [hy_sw]
    split
    · rfl
    · split <;> rfl
  · rw [show -(cvt (-3)) = 60 by decide]
    unfold J15 twS
    simp [hy_sw]
    split <;> rfl
  · rw [show -(cvt (-4)) = 61 by decide]
    unfold J15 twS
    simp [hy_sw]
    split <;> rfl
  · rw [show -(cvt (-5)) = 62 by decide]
    unfold J15 twS
    simp [hy_sw]
    split <;> rfl
  · rw [show -(cvt (-6)) = 43 by decide]
    unfold J15 twS
    simp [hy_sw]
  · rw [show -(cvt (-7)) = 45 by decide]
    unfold J15 twS
    simp [hy_sw]
  · rw [show -(cvt (-8)) = 42 by decide]
    unfold J15 twS
    simp [hy_sw]
  · rw [show -(cvt (-9)) = 47 by decide]
    unfold J15 twS
    simp [hy_sw]
    by_cases hb : b = 0 <;> simp [hb]
/-- only one place changed -/
def fp (P : Nat → Prop) (σ σ' : Sg) : Prop := ∀ a, ¬ P a → σ' a = σ a
theorem fp_rf (P : Nat → Prop) (σ : Sg) : fp P σ σ := fun _ _ => rfl
theorem fp_tr {P : Nat → Prop} {σ σ' σ'' : Sg} (h1 : fp P σ σ') (h2 : fp P σ' σ'') : fp P σ σ'' := fun a h => (h2 a h).trans (h1 a h)
theorem fp_wk {P Q : Nat → Prop} {σ σ' : Sg} (h : fp P σ σ') (hl : ∀ x, P x → Q x) : fp Q σ σ' := fun a hk => h a fun z => hk (hl _ z)
theorem fp_up {P : Nat → Prop} (σ : Sg) (a k : Nat) (v : Int32) (h : P a) : fp P σ (hy_up σ a k v) := by
  intro b hb
  exact up_ne _ _ _ fun e => hb (e ▸ h)
theorem c14_loop {c : Nat → Int32} {fc : Nat → Int32} {o len : Nat} {x1 x2 x3 : Int32} (hl : len ≤ 96) (h1 : fc 0 = x1) (h2 : fc 1 = x2) (h3 : fc 2 = x3) : ∀ (m k f : Nat) (l : List Int32) (σ : Sg), k + m = len → m < f → σ o 2 = In len → (∀ i, i < len → σ (o + 1) i = cvt (c i)) → Pl (σ (o + 2)) l → l.length ≤ k → dpL c l.length k m = some 1 →
    ∃ σ', J14_1 f o x1 x2 x3 (In l.length) (In k) σ = some ((exL c fc l k m).headD 0, σ') ∧ fp (fun a => a = o + 2) σ σ' := by
  intro m
  induction m with
  | zero =>
    intro k f l σ hk hf hS hfc hp hlk hd
    obtain ⟨f, rfl⟩ : ∃ g, f = g + 1 := ⟨f - 1, by omega⟩
    have h1 : l.length = 1 := Option.some.inj hd
    unfold J14_1
    rw [hS, if_pos (by rw [n_le (by omega) (by omega)]; omega)]
    match l, h1, hp with
    | [x], _, hp => exact ⟨σ, by rw [show σ (o + 2) 0 = x from hp.1]; rfl, fp_rf _ _⟩
  | succ m ih =>
    intro k f l σ hk hf hS hfc hp hlk hd
    obtain ⟨f, rfl⟩ : ∃ g, f = g + 1 := ⟨f - 1, by omega⟩
    cases e : dpS (c k) l.length with
    | none =>
      unfold dpL at hd
      rw [e] at hd
      cases hd
    | some d' =>
    have hd2 : dpL c d' (k + 1) m = some 1 := by
      unfold dpL at hd
      rw [e] at hd
      exact hd
    have hlen := exS_len (fc := fc) e
    have fin : ∀ (l' : List Int32) (P : Rw), l' = exS (c k) fc l → Pl P l' → ∀ (j : Nat) (v : Int32), upd (σ (o + 2)) j v = P →
        ∃ σ', J14_1 f o x1 x2 x3 (In l'.length) (In (k + 1)) (hy_up σ (o + 2) j v) = some ((exL c fc l k (m + 1)).headD 0, σ') ∧ fp (fun a => a = o + 2) σ σ' := by
      intro l' P hl' hP j v hj
      subst hl'
      have hle : (exS (c k) fc l).length ≤ k + 1 := by
        rw [hlen]
        rcases dpS_c e with ⟨n, h1, h2, h3⟩ | ⟨n, h1, h2, h3⟩ | ⟨h1, h2, h3⟩ | ⟨h1, h2, h3⟩ <;> omega
      obtain ⟨σ', h1, h2⟩ := ih (k + 1) f (exS (c k) fc l) (hy_up σ (o + 2) j v) (by omega) (by omega) (by rw [up_ne _ _ _ (by omega)]; exact hS) (fun i hi => by rw [up_ne _ _ _ (by omega)]; exact hfc i hi) (by rw [up_same, hj]; exact hP) hle (by rw [hlen]; exact hd2)
      exact ⟨σ', h1, fp_tr (fp_up _ _ _ _ rfl) h2⟩
    unfold J14_1
    rw [hS, if_neg (by rw [n_le (by omega) (by omega)]; omega), if_pos (ib_n (by omega) (by omega)), n_ix (by omega), hfc k (by omega)]
    rcases dpS_c e with ⟨n, q1, q2, q3⟩ | ⟨n, q1, q2, q3⟩ | ⟨q1, q2, q3⟩ | ⟨q1, q2, q3⟩
    · have hx : exS (c k) fc l = In n :: l := by
        rw [q2]
        unfold exS
        rw [if_pos (show (0 : Int32) ≤ In n by show In 0 ≤ In n; rw [n_le (by omega) (by omega)]; omega), if_pos (show In n < (10000 : Int32) by show In n < In 10000; rw [n_lt (by omega) (by omega)]; omega)]
      have n3 : ¬ In n < (-3 : Int32) := by
        rw [n_z, show (-3 : Int32) = Zn (-3) from rfl, z_lt (by omega) (by omega) (by omega) (by omega)]
        omega
      rw [q2, cvt_n q1, if_neg n3, if_neg (show ¬ In n < (0 : Int32) by show ¬ In n < In 0; rw [n_lt (by omega) (by omega)]; omega)]
      unfold J14_5 J14_10
      rw [if_pos (ib_n (by omega) (by omega)), n_ix (by omega), n_p1, n_p1]
      exact fin (In n :: l) _ hx.symm (Pl_push (In n) hp rfl) _ _ rfl
    · have hx : exS (c k) fc l = fc n :: l := by
        rw [q2]
        unfold exS
        rw [if_pos (show (0 : Int32) ≤ In (10000 + n) by show In 0 ≤ In (10000 + n); rw [n_le (by omega) (by omega)]; omega), if_neg (show ¬ In (10000 + n) < (10000 : Int32) by show ¬ In (10000 + n) < In 10000; rw [n_lt (by omega) (by omega)]; omega), show (10000 : Int32) = In 10000 from rfl, n_sub (by omega), n_ix (by omega), show 10000 + n - 10000 = n by omega]
      rw [q2, cvt_f q1]
      have hn : n = 0 ∨ n = 1 ∨ n = 2 := by omega
      have fx := fin (fc n :: l) _ hx.symm (Pl_push (fc n) hp rfl) _ _ rfl
      rcases hn with e' | e' | e' <;> subst e'
      · rw [if_neg (by decide), if_pos (by decide), if_pos (by decide)]
        unfold J14_5 J14_10
        rw [if_pos (ib_n (by omega) (by omega)), n_ix (by omega), n_p1, n_p1]
        rw [h1] at fx
        exact fx
      · rw [if_neg (by decide), if_pos (by decide), if_neg (by decide), if_pos (by decide)]
        unfold J14_5 J14_10
        rw [if_pos (ib_n (by omega) (by omega)), n_ix (by omega), n_p1, n_p1]
        rw [h2] at fx
        exact fx
      · rw [if_neg (by decide), if_pos (by decide), if_neg (by decide), if_neg (by decide)]
        unfold J14_5 J14_10
        rw [if_pos (ib_n (by omega) (by omega)), n_ix (by omega), n_p1, n_p1]
        rw [h3] at fx
        exact fx
    · match l, q2, hp with
      | x :: l, _, hp =>
        have hx : exS (c k) fc (x :: l) = (if x = 0 then 1 else 0) :: l := by
          rw [q1]
          rfl
        have hlk2 : l.length + 1 ≤ k := by simpa using hlk
        rw [q1, if_pos (show cvt (-10) < -3 by decide), if_pos (show cvt (-10) = -33 by decide), if_neg (show ¬ In (x :: l).length ≤ (0 : Int32) by show ¬ In (x :: l).length ≤ In 0; rw [n_le (by simp; omega) (by omega)]; simp), show In (x :: l).length - 1 = In l.length from n_s1 (by simp), if_pos (ib_n (by omega) (by omega)), n_ix (by omega), show σ (o + 2) l.length = x from hp.1]
        unfold J14_8 J14_10
        rw [if_pos (ib_n (by omega) (by omega)), if_pos (ib_n (by omega) (by omega)), n_ix (by omega), n_p1]
        by_cases hx0 : x = 0
        · rw [if_pos hx0]
          rw [if_pos hx0] at hx
          exact fin (1 :: l) _ hx.symm (Pl_push 1 hp.2 rfl) _ _ rfl
        · rw [if_neg hx0]
          rw [if_neg hx0] at hx
          exact fin (0 :: l) _ hx.symm (Pl_push 0 hp.2 rfl) _ _ rfl
    · match l, q2, hp with
      | y :: x :: l, _, hp =>
        have hneg : cvt (c k) < -3 ∧ cvt (c k) ≠ -33 ∧ ¬ 0 ≤ c k ∧ c k ≠ -10 := by
          rcases q1 with h | h | h | h | h | h | h | h | h <;> rw [h] <;> decide
        have hx : exS (c k) fc (y :: x :: l) = twS (c k) x y :: l := by
          unfold exS
          rw [if_neg hneg.2.2.1, if_neg hneg.2.2.2]
        have hl2 : l.length + 2 ≤ k := by simpa using hlk
        rw [if_pos hneg.1, if_neg hneg.2.1, if_neg (show ¬ In (y :: x :: l).length ≤ (1 : Int32) by show ¬ In (y :: x :: l).length ≤ In 1; rw [n_le (by simp; omega) (by omega)]; simp), show In (y :: x :: l).length + -1 = In (l.length + 1) from n_m1 (by simp), n_s1 (by omega), show l.length + 1 - 1 = l.length by omega, if_pos (ib_n (by omega) (by omega)), if_pos (ib_n (by omega) (by omega)), n_ix (by omega), n_ix (by omega), show σ (o + 2) (l.length + 1) = y from hp.1, show σ (o + 2) l.length = x from hp.2.1, c15 q1, Option.bind_some, if_pos (ib_n (by omega) (by omega))]
        unfold J14_10
        rw [n_p1]
        exact fin (twS (c k) x y :: l) _ hx.symm (Pl_push (twS (c k) x y) hp.2.2 rfl) _ _ rfl
