/-! PURE: a text worked out, on both sides -/
/-- the pile holds the list, its head on top -/
def Pl (P : Rw) : List Int32 → Prop
  | [] => True
  | x :: l => P l.length = x ∧ Pl P l
theorem Pl_c {P Q : Rw} : ∀ {l : List Int32}, Pl P l → (∀ i, i < l.length → Q i = P i) → Pl Q l := by
  intro l
  induction l with
  | nil => intro _ _; trivial
  | cons x l ih =>
    intro h hq
    exact ⟨(hq _ (by simp)).trans h.1, ih h.2 fun i hi => hq i (by simp; omega)⟩
theorem Pl_push {P : Rw} {l : List Int32} {n : Nat} (x : Int32) (h : Pl P l) (hn : n = l.length) : Pl (upd P n x) (x :: l) := by
  subst hn
  exact ⟨upd_at _ _ _, Pl_c h fun i hi => upd_ne _ _ (by omega)⟩
theorem dpS_c {v : Int32} {d d' : Nat} (h : dpS v d = some d') : (∃ n, n < 10000 ∧ v = In n ∧ d' = d + 1) ∨ (∃ j, j ≤ 2 ∧ v = In (10000 + j) ∧ d' = d + 1) ∨ (v = -10 ∧ 1 ≤ d ∧ d' = d) ∨ ((v = -1 ∨ v = -2 ∨ v = -3 ∨ v = -4 ∨ v = -5 ∨ v = -6 ∨ v = -7 ∨ v = -8 ∨ v = -9) ∧ 2 ≤ d ∧ d' = d - 1) := by
  unfold dpS at h
  by_cases h0 : 0 ≤ v
  · rw [if_pos h0] at h
    by_cases h1 : v ≤ 10002
    · rw [if_pos h1] at h
      cases h
      obtain ⟨n, hn, rfl⟩ := n_rngI (n := 10002) (by omega) h0 h1
      by_cases h2 : n < 10000
      · exact Or.inl ⟨n, h2, rfl, rfl⟩
      · exact Or.inr (Or.inl ⟨n - 10000, by omega, by rw [show 10000 + (n - 10000) = n by omega], rfl⟩)
    · rw [if_neg h1] at h
      cases h
  · rw [if_neg h0] at h
    by_cases h1 : v = -10
    · rw [if_pos h1] at h
      split at h
      · rename_i h2
        cases h
        exact Or.inr (Or.inr (Or.inl ⟨h1, h2, rfl⟩))
      · cases h
    · rw [if_neg h1] at h
      split at h
      · rename_i h2
        split at h
        · rename_i h3
          cases h
          refine Or.inr (Or.inr (Or.inr ⟨?_, h3, rfl⟩))
          have e0 : (0 : Int32).toInt = 0 := rfl
          have e9 : (-9 : Int32).toInt = -9 := rfl
          rw [Int32.le_iff_toInt_le] at h0 h2
          have hz := z_of v
          have : v.toInt = -1 ∨ v.toInt = -2 ∨ v.toInt = -3 ∨ v.toInt = -4 ∨ v.toInt = -5 ∨ v.toInt = -6 ∨ v.toInt = -7 ∨ v.toInt = -8 ∨ v.toInt = -9 := by omega
          rcases this with e | e | e | e | e | e | e | e | e <;> rw [e] at hz <;> simp [hz] <;> decide
        · cases h
      · cases h
theorem ib_n {a : Nat} {n : Int} (h : a < 2147483648) (h2 : (a : Int) < n) : hy_ib (In a) n := by
  rw [n_ibT h h2]
  trivial
theorem ite_c {α : Sort _} {p q : Prop} [ip : Decidable p] [iq : Decidable q] (h : p = q) (A B : α) : @ite α p ip A B = @ite α q iq A B := by
  subst h
  by_cases h : p
  · rw [if_pos h, if_pos h]
  · rw [if_neg h, if_neg h]
theorem i_eq {α : Sort _} {a b : Nat} (h1 : a < 2147483648) (h2 : b < 2147483648) (A B : α) : (if In a = In b then A else B) = if a = b then A else B := ite_c (n_eq h1 h2) A B
theorem i_le {α : Sort _} {a b : Nat} (h1 : a < 2147483648) (h2 : b < 2147483648) (A B : α) : (if In a ≤ In b then A else B) = if a ≤ b then A else B := ite_c (n_le h1 h2) A B
theorem i_lt {α : Sort _} {a b : Nat} (h1 : a < 2147483648) (h2 : b < 2147483648) (A B : α) : (if In a < In b then A else B) = if a < b then A else B := ite_c (n_lt h1 h2) A B
theorem i_b2 {α : Sort _} (p : Prop) [Decidable p] (A B : α) : (if b2 p = 0 then A else B) = if p then B else A := by
  by_cases h : p
  · rw [if_pos h, if_neg (by rw [b2_0]; exact fun z => z h)]
  · rw [if_neg h, if_pos (by rw [b2_0]; exact h)]
theorem n_m1 {a : Nat} (h : 1 ≤ a) : In a + -1 = In (a - 1) := by
  rw [← n_sub h, Int32.sub_eq_add_neg]
  rfl
theorem n_s1 {a : Nat} (h : 1 ≤ a) : In a - 1 = In (a - 1) := n_sub h
theorem n_p1 (a : Nat) : In a + 1 = In (a + 1) := n_add a 1
theorem m135_loop {S : Rw} {fc : Nat → Int32} {t len : Nat} (ht : t < 14) (hl : len ≤ 96) : ∀ (m k f : Nat) (l : List Int32) (σ : Sg), k + m = len → m < f → σ 139 = S → (∀ i, i < 3 → σ 152 i = fc i) → Pl (σ 151) l → l.length ≤ k → dpL (fun i => S (107 + 96 * t + i)) l.length k m = some 1 →
    ∃ σ', J135_1 f (In t) (In l.length) (In len) (In k) σ = some ((exL (fun i => S (107 + 96 * t + i)) fc l k m).headD 0, σ') ∧ fr [151] σ σ' := by
  intro m
  induction m with
  | zero =>
    intro k f l σ hk hf hS hfc hp hlk hd
    obtain ⟨f, rfl⟩ : ∃ g, f = g + 1 := ⟨f - 1, by omega⟩
    have h1 : l.length = 1 := Option.some.inj hd
    unfold J135_1
    rw [if_pos (by rw [n_le (by omega) (by omega)]; omega)]
    match l, h1, hp with
    | [x], _, hp => exact ⟨σ, by rw [show σ 151 0 = x from hp.1]; rfl, fr_rf _ _⟩
  | succ m ih =>
    intro k f l σ hk hf hS hfc hp hlk hd
    obtain ⟨f, rfl⟩ : ∃ g, f = g + 1 := ⟨f - 1, by omega⟩
    have hidx : ((107 : Int32) + ((96 : Int32) * In t)) + In k = In (107 + 96 * t + k) := by
      rw [show (107 : Int32) = In 107 from rfl, show (96 : Int32) = In 96 from rfl, n_mul, n_add, n_add]
    cases e : dpS (S (107 + 96 * t + k)) l.length with
    | none =>
      unfold dpL at hd
      rw [e] at hd
      cases hd
    | some d' =>
    have hd2 : dpL (fun i => S (107 + 96 * t + i)) d' (k + 1) m = some 1 := by
      unfold dpL at hd
      rw [e] at hd
      exact hd
    have hlen := exS_len (fc := fc) e
    have fin : ∀ (l' : List Int32) (P : Rw), l' = exS (S (107 + 96 * t + k)) fc l → Pl P l' → ∀ (j : Nat) (v : Int32), upd (σ 151) j v = P →
        ∃ σ', J135_1 f (In t) (In l'.length) (In len) (In (k + 1)) (hy_up σ 151 j v) = some ((exL (fun i => S (107 + 96 * t + i)) fc l k (m + 1)).headD 0, σ') ∧ fr [151] σ σ' := by
      intro l' P hl' hP j v hj
      subst hl'
      have hle : (exS (S (107 + 96 * t + k)) fc l).length ≤ k + 1 := by
        rw [hlen]
        rcases dpS_c e with ⟨n, h1, h2, h3⟩ | ⟨n, h1, h2, h3⟩ | ⟨h1, h2, h3⟩ | ⟨h1, h2, h3⟩ <;> omega
      obtain ⟨σ', h1, h2⟩ := ih (k + 1) f (exS (S (107 + 96 * t + k)) fc l) (hy_up σ 151 j v) (by omega) (by omega) (by rw [up_ne _ _ _ (by omega)]; exact hS) (fun i hi => by rw [up_ne _ _ _ (by omega)]; exact hfc i hi) (by rw [up_same, hj]; exact hP) hle (by rw [hlen]; exact hd2)
      exact ⟨σ', h1, fr_tr (fr_up _ _ _ _ (by simp [fk])) h2⟩
    unfold J135_1
    rw [if_neg (by rw [n_le (by omega) (by omega)]; omega), hidx, if_pos (ib_n (by omega) (by omega)), n_ix (by omega), hS]
    rcases dpS_c e with ⟨n, h1, h2, h3⟩ | ⟨n, h1, h2, h3⟩ | ⟨h1, h2, h3⟩ | ⟨h1, h2, h3⟩
    · have hx : exS (S (107 + 96 * t + k)) fc l = In n :: l := by
        rw [h2]
        unfold exS
        rw [if_pos (show (0 : Int32) ≤ In n by show In 0 ≤ In n; rw [n_le (by omega) (by omega)]; omega), if_pos (show In n < (10000 : Int32) by show In n < In 10000; rw [n_lt (by omega) (by omega)]; omega)]
      rw [h2, if_neg (show ¬ In n < (0 : Int32) by show ¬ In n < In 0; rw [n_lt (by omega) (by omega)]; omega), if_neg (show ¬ (10000 : Int32) ≤ In n by show ¬ In 10000 ≤ In n; rw [n_le (by omega) (by omega)]; omega)]
      unfold J135_3 J135_8
      rw [if_pos (ib_n (by omega) (by omega)), n_ix (by omega), n_p1, n_p1]
      exact fin (In n :: l) _ hx.symm (Pl_push (In n) hp rfl) _ _ rfl
    · have hx : exS (S (107 + 96 * t + k)) fc l = fc n :: l := by
        rw [h2]
        unfold exS
        rw [if_pos (show (0 : Int32) ≤ In (10000 + n) by show In 0 ≤ In (10000 + n); rw [n_le (by omega) (by omega)]; omega), if_neg (show ¬ In (10000 + n) < (10000 : Int32) by show ¬ In (10000 + n) < In 10000; rw [n_lt (by omega) (by omega)]; omega), show (10000 : Int32) = In 10000 from rfl, n_sub (by omega), n_ix (by omega), show 10000 + n - 10000 = n by omega]
      rw [h2, if_neg (show ¬ In (10000 + n) < (0 : Int32) by show ¬ In (10000 + n) < In 0; rw [n_lt (by omega) (by omega)]; omega), if_pos (show (10000 : Int32) ≤ In (10000 + n) by show In 10000 ≤ In (10000 + n); rw [n_le (by omega) (by omega)]; omega), show (10000 : Int32) = In 10000 from rfl, n_sub (by omega), show 10000 + n - 10000 = n by omega, if_pos (ib_n (by omega) (by omega)), n_ix (by omega), hfc n (by omega)]
      unfold J135_3 J135_8
      rw [if_pos (ib_n (by omega) (by omega)), n_ix (by omega), n_p1, n_p1]
      exact fin (fc n :: l) _ hx.symm (Pl_push (fc n) hp rfl) _ _ rfl
    · match l, h2, hp with
      | x :: l, _, hp =>
        have hx : exS (S (107 + 96 * t + k)) fc (x :: l) = (if x = 0 then 1 else 0) :: l := by
          rw [h1]
          rfl
        rw [h1, if_pos (show (-10 : Int32) < 0 by decide), if_pos rfl, show In (x :: l).length - 1 = In l.length from n_s1 (by simp), if_pos (ib_n (by simp at hlk; omega) (by simp at hlk; omega)), n_ix (by simp at hlk; omega), show σ 151 l.length = x from hp.1]
        unfold J135_6 J135_8
        rw [if_pos (ib_n (by simp at hlk; omega) (by simp at hlk; omega)), if_pos (ib_n (by simp at hlk; omega) (by simp at hlk; omega)), n_ix (by simp at hlk; omega), n_p1]
        by_cases hx0 : x = 0
        · rw [if_pos hx0]
          rw [if_pos hx0] at hx
          exact fin (1 :: l) _ hx.symm (Pl_push 1 hp.2 rfl) _ _ rfl
        · rw [if_neg hx0]
          rw [if_neg hx0] at hx
          exact fin (0 :: l) _ hx.symm (Pl_push 0 hp.2 rfl) _ _ rfl
    · match l, h2, hp with
      | y :: x :: l, _, hp =>
        have hneg : S (107 + 96 * t + k) < 0 ∧ S (107 + 96 * t + k) ≠ -10 ∧ ¬ 0 ≤ S (107 + 96 * t + k) := by
          rcases h1 with h | h | h | h | h | h | h | h | h <;> rw [h] <;> decide
        have hx : exS (S (107 + 96 * t + k)) fc (y :: x :: l) = twS (S (107 + 96 * t + k)) x y :: l := by
          unfold exS
          rw [if_neg hneg.2.2, if_neg hneg.2.1]
        have hl2 : l.length + 2 ≤ k := by simpa using hlk
        rw [if_pos hneg.1, if_neg hneg.2.1, show In (y :: x :: l).length + -1 = In (l.length + 1) from n_m1 (by simp), n_s1 (by omega), show l.length + 1 - 1 = l.length by omega, if_pos (ib_n (by omega) (by omega)), if_pos (ib_n (by omega) (by omega)), n_ix (by omega), n_ix (by omega), show σ 151 (l.length + 1) = y from hp.1, show σ 151 l.length = x from hp.2.1, m136, Option.bind_some, if_pos (ib_n (by omega) (by omega))]
        unfold J135_8
        rw [n_p1]
        exact fin (twS (S (107 + 96 * t + k)) x y :: l) _ hx.symm (Pl_push (twS (S (107 + 96 * t + k)) x y) hp.2.2 rfl) _ _ rfl
