/-! PURE: numbers that wait, the tape's end, slots -/
theorem Iv_wt {σ τ : Sg} (h : Iv σ) (h1 : ∀ a, a ≠ 0 → a ≠ 10 → a ≠ 138 → a ≠ 161 → τ a = σ a) (h2 : ∀ k, k ≠ 10 → τ 0 k = σ 0 k) (h3 : ∀ k, k ≠ 35 → τ 138 k = σ 138 k) (h4 : Iv_f τ) : Iv τ := by
  obtain ⟨a, b, c, d, e, f⟩ := h
  refine ⟨Iv_a_c a (h1 139 (by omega) (by omega) (by omega) (by omega)) (h1 140 (by omega) (by omega) (by omega) (by omega)) (h2 5 (by omega)) (h3 3 (by omega)) (fun a q1 q2 => h1 a (by omega) (by omega) (by omega) (by omega)) fun a q1 q2 => h1 a (by omega) (by omega) (by omega) (by omega), ?_, ?_, ?_, ?_, h4⟩
  · exact Iv_b_c b (h1 2 (by omega) (by omega) (by omega) (by omega)) (h1 3 (by omega) (by omega) (by omega) (by omega)) (h1 145 (by omega) (by omega) (by omega) (by omega)) (h3 9 (by omega))
  · exact Iv_c_c c (h1 146 (by omega) (by omega) (by omega) (by omega)) (h1 147 (by omega) (by omega) (by omega) (by omega)) fun a q1 q2 => h1 a (by omega) (by omega) (by omega) (by omega)
  · exact Iv_d_c d (fun a q1 q2 => h1 a (by omega) (by omega) (by omega) (by omega)) fun a q1 q2 => h1 a (by omega) (by omega) (by omega) (by omega)
  · exact Iv_e_c e (fun a q1 q2 => h1 a (by omega) (by omega) (by omega) (by omega)) fun a q1 q2 => h1 a (by omega) (by omega) (by omega) (by omega)
theorem op_tell (v : Int32) : Op (J118 v) (J212 v) := by
  intro σ h
  obtain ⟨n, hn, f1, f2, f3⟩ := h.2.2.2.2.2
  by_cases h1 : ¬(n < 60)
  · refine Op_ga h (r := -1000000003) (σ1 := σ) (σ2 := σ) ?_ ?_ (fp_rf _ _) (fr_rf _ _)
    · unfold J118
      rw [f1, show (60 : Int32) = In 60 from rfl, i_lt (by omega) (by omega), if_neg h1]
    · unfold J212
      rw [f2, show (60 : Int32) = In 60 from rfl, i_eq (by omega) (by omega), if_pos (by omega)]
  replace h1 := Classical.not_not.mp h1
  refine ⟨In (n + 1), hy_up (hy_up σ 10 n v) 0 10 (In (n + 1)), hy_up (hy_up (hy_up (hy_up σ 10 n v) 0 10 (In (n + 1))) 161 n v) 138 35 (In (n + 1)), ?_, ?_, ?_, ?_, ?_⟩
  · unfold J118
    rw [f1, show (60 : Int32) = In 60 from rfl, i_lt (by omega) (by omega), if_pos h1, if_pos (ib_n (by omega) (by omega)), n_ix (by omega)]
    simp only [up_ne σ n v (show (0 : Nat) ≠ 10 by omega), f1, n_p1, up_same, upd_at]
  · have e : hy_up (hy_up σ 10 n v) 0 10 (In (n + 1)) 138 = σ 138 := by rw [up_ne _ _ _ (by omega), up_ne _ _ _ (by omega)]
    unfold J212
    rw [e, f2, show (60 : Int32) = In 60 from rfl, i_eq (by omega) (by omega), if_neg (by omega), if_pos (ib_n (by omega) (by omega)), n_ix (by omega)]
    simp only [up_ne _ n v (show (138 : Nat) ≠ 161 by omega), e, f2, n_p1, up_same, upd_at]
  · refine Iv_wt h (fun a q1 q2 q3 q4 => ?_) (fun k hk => ?_) (fun k hk => ?_) ⟨n + 1, by omega, ?_, ?_, fun k hk => ?_⟩
    · simp (disch := assumption) only [up_ne]
    · rw [up_ne _ _ _ (by omega), up_ne _ _ _ (by omega), up_same, upd_ne _ _ hk, up_ne _ _ _ (by omega)]
    · rw [up_same, upd_ne _ _ hk, up_ne _ _ _ (by omega), up_ne _ _ _ (by omega), up_ne _ _ _ (by omega)]
    · rw [up_ne _ _ _ (by omega), up_ne _ _ _ (by omega), up_same, upd_at]
    · rw [up_same, upd_at]
    · rw [up_ne _ _ _ (by omega), up_ne _ _ _ (by omega), up_ne _ _ _ (by omega), up_same, up_ne _ _ _ (by omega), up_same, up_ne _ _ _ (by omega), up_ne _ _ _ (by omega)]
      by_cases hkn : k = n
      · subst hkn
        rw [upd_at, upd_at]
      · rw [upd_ne _ _ hkn, upd_ne _ _ hkn]
        exact f3 k (by omega)
  · rw [up_ne _ _ _ (by omega), up_ne _ _ _ (by omega)]
  · rw [up_ne _ _ _ (by omega), up_ne _ _ _ (by omega), up_ne _ _ _ (by omega), up_ne _ _ _ (by omega)]
theorem Iv_tp {σ τ : Sg} (h : Iv σ) (h1 : ∀ a, a ≠ 2 → a ≠ 3 → a ≠ 138 → a ≠ 145 → τ a = σ a) (h3 : ∀ k, k ≠ 9 → τ 138 k = σ 138 k) (h4 : Iv_b τ) : Iv τ := by
  obtain ⟨a, b, c, d, e, f⟩ := h
  refine ⟨Iv_a_c a (h1 139 (by omega) (by omega) (by omega) (by omega)) (h1 140 (by omega) (by omega) (by omega) (by omega)) (by rw [h1 0 (by omega) (by omega) (by omega) (by omega)]) (h3 3 (by omega)) (fun a q1 q2 => h1 a (by omega) (by omega) (by omega) (by omega)) fun a q1 q2 => h1 a (by omega) (by omega) (by omega) (by omega), h4, ?_, ?_, ?_, ?_⟩
  · exact Iv_c_c c (h1 146 (by omega) (by omega) (by omega) (by omega)) (h1 147 (by omega) (by omega) (by omega) (by omega)) fun a q1 q2 => h1 a (by omega) (by omega) (by omega) (by omega)
  · exact Iv_d_c d (fun a q1 q2 => h1 a (by omega) (by omega) (by omega) (by omega)) fun a q1 q2 => h1 a (by omega) (by omega) (by omega) (by omega)
  · exact Iv_e_c e (fun a q1 q2 => h1 a (by omega) (by omega) (by omega) (by omega)) fun a q1 q2 => h1 a (by omega) (by omega) (by omega) (by omega)
  · exact Iv_f_c f (by rw [h1 0 (by omega) (by omega) (by omega) (by omega)]) (h1 10 (by omega) (by omega) (by omega) (by omega)) (h3 35 (by omega)) (h1 161 (by omega) (by omega) (by omega) (by omega))
theorem op_trim (x : Int32) : Op (J78 x) (J187 x) := by
  intro σ h
  obtain ⟨n, hn, b1, b2', b3⟩ := h.2.1
  by_cases h1 : ¬(0 ≤ x ∧ x ≤ In n)
  · refine Op_ga h (r := -1000000001) (σ1 := σ) (σ2 := σ) ?_ ?_ (fp_rf _ _) (fr_rf _ _)
    · unfold J78
      rw [c3, Option.bind_some, i_b2, b1, if_neg h1]
    · unfold J187
      rw [m125, Option.bind_some, i_b2, b2', if_neg h1]
  replace h1 := Classical.not_not.mp h1
  obtain ⟨k, hk, rfl⟩ := n_rngI (n := n) (by omega) h1.1 h1.2
  refine ⟨In k, hy_up σ 2 2 (In k), hy_up (hy_up σ 2 2 (In k)) 138 9 (In k), ?_, ?_, ?_, ?_, ?_⟩
  · unfold J78
    rw [c3, Option.bind_some, i_b2, b1, if_pos h1]
  · unfold J187
    rw [m125, Option.bind_some, i_b2, up_ne _ _ _ (show (138 : Nat) ≠ 2 by omega), b2', if_pos h1]
  · refine Iv_tp h (fun a q1 q2 q3 q4 => ?_) (fun j hj => ?_) ⟨k, by omega, ?_, ?_, fun j hj => ?_⟩
    · simp (disch := assumption) only [up_ne]
    · rw [up_same, upd_ne _ _ hj, up_ne _ _ _ (by omega)]
    · rw [up_ne _ _ _ (by omega), up_same, upd_at]
    · rw [up_same, upd_at]
    · rw [up_ne _ _ _ (by omega), up_ne _ _ _ (by omega), up_ne _ _ _ (by omega), up_ne _ _ _ (by omega)]
      exact b3 j hj
  · exact up_ne _ _ _ (by omega)
  · rw [up_ne _ _ _ (by omega), up_ne _ _ _ (by omega)]
/-- the low byte of a number shifted: with or without its sign -/
theorem by_sh (x : BitVec 32) (s : Nat) (hs : s ≤ 24) : (x >>> s) &&& 255#32 = (x.sshiftRight s) &&& 255#32 := by
  apply BitVec.eq_of_getLsbD_eq
  intro i hi
  have h255 : ∀ j, j < 32 → (255#32).getLsbD j = decide (j < 8) := by decide
  rw [BitVec.getLsbD_and, BitVec.getLsbD_and, h255 i hi, BitVec.getLsbD_ushiftRight, BitVec.getLsbD_sshiftRight]
  by_cases h8 : i < 8
  · rw [decide_eq_true h8, Bool.and_true, Bool.and_true, if_pos (by omega)]
    simp [hi]
  · rw [decide_eq_false h8, Bool.and_false, Bool.and_false]
theorem by_lt (x : Int32) : ∃ c, c < 256 ∧ x &&& 255 = In c := by
  have e : (x &&& 255).toBitVec = x.toBitVec &&& 255#32 := rfl
  have hlt : (x &&& 255).toBitVec.toNat < 256 := by
    rw [e, BitVec.toNat_and]
    exact Nat.lt_of_le_of_lt (Nat.and_le_right) (by decide)
  refine ⟨(x &&& 255).toBitVec.toNat, hlt, ?_⟩
  apply Int32.toBitVec_inj.mp
  show _ = BitVec.ofNat 32 _
  rw [BitVec.ofNat_toNat, BitVec.setWidth_eq]
def byt (x : Int32) (s : Int32) : Int32 := (x >>> (s &&& 31)) &&& 255
theorem byt_c (x : Int32) {s : Int32} (h : s = 24 ∨ s = 16 ∨ s = 8 ∨ s = 0) : ((x.toUInt32 >>> (s.toUInt32 &&& Int32.toUInt32 31)).toInt32) &&& 255 = byt x s := by
  unfold byt
  rcases h with e | e | e | e <;> subst e
  · exact Int32.toBitVec_inj.mp (by_sh x.toBitVec 24 (by omega))
  · exact Int32.toBitVec_inj.mp (by_sh x.toBitVec 16 (by omega))
  · exact Int32.toBitVec_inj.mp (by_sh x.toBitVec 8 (by omega))
  · exact Int32.toBitVec_inj.mp (by_sh x.toBitVec 0 (by omega))
/-- four bytes more -/
def by4 (P : Rw) (n : Nat) (x : Int32) : Rw := upd (upd (upd (upd P n (byt x 24)) (n + 1) (byt x 16)) (n + 2) (byt x 8)) (n + 3) (byt x 0)
theorem c77 {σ : Sg} {n : Nat} (h2 : σ 2 2 = In n) (hn : n + 4 ≤ 96) (x : Int32) : ∃ σ', J77 x σ = some σ' ∧ σ' 2 2 = In (n + 4) ∧ σ' 3 = by4 (σ 3) n x ∧ (∀ a, a ≠ 2 → a ≠ 3 → σ' a = σ a) := by
  have step : ∀ (f n : Nat) (s : Int32) (τ : Sg), (s = 24 ∨ s = 16 ∨ s = 8 ∨ s = 0) → τ 2 2 = In n → n < 96 → J77_1 (f + 1) x s τ = J77_1 f x (s + -8) (hy_up (hy_up τ 3 n (byt x s)) 2 2 (In (n + 1))) := by
    intro f n s τ hs h hn'
    have hs0 : ¬ s < 0 := by rcases hs with e | e | e | e <;> subst e <;> decide
    conv => lhs; unfold J77_1
    rw [if_neg hs0, h, if_pos (ib_n (by omega) (by omega)), n_ix (by omega), byt_c x hs, up_ne _ _ _ (show (2 : Nat) ≠ 3 by omega), h, n_p1]
  have e2 : ∀ (τ : Sg) (k : Nat) (v w : Int32), hy_up (hy_up τ 3 k v) 2 2 w 2 2 = w := fun τ k v w => by rw [up_same, upd_at]
  unfold J77
  rw [show hy_fu = 3995 + 1 + 1 + 1 + 1 + 1 from rfl, step _ n 24 σ (Or.inl rfl) h2 (by omega), show (24 : Int32) + -8 = 16 from rfl, step _ (n + 1) 16 _ (Or.inr (Or.inl rfl)) (e2 _ _ _ _) (by omega), show (16 : Int32) + -8 = 8 from rfl, step _ (n + 2) 8 _ (Or.inr (Or.inr (Or.inl rfl))) (e2 _ _ _ _) (by omega), show (8 : Int32) + -8 = 0 from rfl, step _ (n + 3) 0 _ (Or.inr (Or.inr (Or.inr rfl))) (e2 _ _ _ _) (by omega), show (0 : Int32) + -8 = -8 from rfl]
  unfold J77_1
  rw [if_pos (by decide)]
  refine ⟨_, rfl, e2 _ _ _ _, ?_, fun a q1 q2 => ?_⟩
  · simp (disch := omega) only [up_ne, up_same]
    rfl
  · simp (disch := assumption) only [up_ne]
theorem m186_step {τ : Sg} {n k : Nat} (h9 : τ 138 9 = In n) (hn : n + 12 ≤ 96) (hk : k < 12) (x1 x2 x3 : Int32) (f : Nat) : J186_2 (f + 1) x1 x2 x3 (In k) τ = J186_2 f x1 x2 x3 (In (k + 1)) (hy_up τ 145 (n + k) (byt (if k < 4 then x1 else if k < 8 then x2 else x3) (In (24 - 8 * (k % 4))))) := by
  have e5 : ∀ y : Int32, J186_5 (J186_2 f) y x1 x2 x3 (In k) τ = J186_2 f x1 x2 x3 (In (k + 1)) (hy_up τ 145 (n + k) (byt y (In (24 - 8 * (k % 4))))) := by
    intro y
    unfold J186_5 byt
    rw [h9, n_add, if_pos (ib_n (by omega) (by omega)), n_ix (by omega), n_p1, show (4 : Int32) = In 4 from rfl, n_rem (by omega) (by omega), show (8 : Int32) = In 8 from rfl, n_mul, show (24 : Int32) = In 24 from rfl, n_sub (by omega)]
  conv => lhs; unfold J186_2
  rw [show (12 : Int32) = In 12 from rfl, i_le (by omega) (by omega), if_neg (by omega), show (4 : Int32) = In 4 from rfl, i_le (by omega) (by omega), show (8 : Int32) = In 8 from rfl, i_le (by omega) (by omega), e5, e5, e5]
  by_cases h4 : k < 4
  · rw [if_neg (by omega), if_pos h4]
  · rw [if_pos (by omega), if_neg h4]
    by_cases h8 : k < 8
    · rw [if_neg (by omega), if_pos h8]
    · rw [if_pos (by omega), if_neg h8]
theorem by4_at (P : Rw) (n : Nat) (x : Int32) (k : Nat) : by4 P n x k = if k = n then byt x 24 else if k = n + 1 then byt x 16 else if k = n + 2 then byt x 8 else if k = n + 3 then byt x 0 else P k := by
  unfold by4 upd
  by_cases h3 : k = n + 3
  · subst h3
    simp
  by_cases h2 : k = n + 2
  · subst h2
    simp
  by_cases h1 : k = n + 1
  · subst h1
    simp
  by_cases h0 : k = n
  · subst h0
    simp
  · simp [h0, h1, h2, h3]
theorem byt_lt (x s : Int32) : ∃ c, c < 256 ∧ byt x s = In c := by_lt _
theorem op_feed (x y z : Int32) : Op (J76 x y z) (J186 x y z) := by
  intro σ h
  obtain ⟨n, hn, b1, b2', b3⟩ := h.2.1
  by_cases h1 : ¬(n + 12 ≤ 96)
  · refine Op_ga h (r := -1000000003) (σ1 := σ) (σ2 := σ) ?_ ?_ (fp_rf _ _) (fr_rf _ _)
    · unfold J76
      rw [b1, show (12 : Int32) = In 12 from rfl, n_add, show (96 : Int32) = In 96 from rfl, i_le (by omega) (by omega), if_neg h1]
    · unfold J186
      rw [b2', show (12 : Int32) = In 12 from rfl, n_add, show (96 : Int32) = In 96 from rfl, i_le (by omega) (by omega), if_neg h1]
  replace h1 := Classical.not_not.mp h1
  obtain ⟨σ1, p1, p2, p3, p4⟩ := c77 b1 (by omega) x
  obtain ⟨σ2, q1, q2, q3, q4⟩ := c77 p2 (by omega) y
  obtain ⟨σ3, r1, r2, r3, r4⟩ := c77 q2 (by omega) z
  have g : ∀ a, a ≠ 2 → a ≠ 3 → σ3 a = σ a := fun a z1 z2 => (r4 a z1 z2).trans ((q4 a z1 z2).trans (p4 a z1 z2))
  have h9 : σ3 138 9 = In n := by rw [g 138 (by omega) (by omega)]; exact b2'
  have e9 : ∀ (τ : Sg) (k : Nat) (v : Int32), hy_up τ 145 k v 138 9 = τ 138 9 := fun τ k v => by rw [up_ne _ _ _ (by omega)]
  refine ⟨In (n + 12), σ3, hy_up (hy_up (hy_up (hy_up (hy_up (hy_up (hy_up (hy_up (hy_up (hy_up (hy_up (hy_up (hy_up σ3 145 (n + 0) (byt x 24)) 145 (n + 1) (byt x 16)) 145 (n + 2) (byt x 8)) 145 (n + 3) (byt x 0)) 145 (n + 4) (byt y 24)) 145 (n + 5) (byt y 16)) 145 (n + 6) (byt y 8)) 145 (n + 7) (byt y 0)) 145 (n + 8) (byt z 24)) 145 (n + 9) (byt z 16)) 145 (n + 10) (byt z 8)) 145 (n + 11) (byt z 0)) 138 9 (In (n + 12)), ?_, ?_, ?_, ?_, ?_⟩
  · unfold J76
    rw [b1, show (12 : Int32) = In 12 from rfl, n_add, show (96 : Int32) = In 96 from rfl, i_le (by omega) (by omega), if_pos h1, p1, Option.bind_some, q1, Option.bind_some, r1, Option.bind_some, r2]
  · unfold J186
    rw [h9, show (12 : Int32) = In 12 from rfl, n_add, show (96 : Int32) = In 96 from rfl, i_le (by omega) (by omega), if_pos h1, show hy_fu = 3987 + 1 + 1 + 1 + 1 + 1 + 1 + 1 + 1 + 1 + 1 + 1 + 1 + 1 from rfl, show (0 : Int32) = In 0 from rfl]
    rw [m186_step h9 h1 (by omega), m186_step (n := n) (by simp only [e9]; exact h9) h1 (by omega), m186_step (n := n) (by simp only [e9]; exact h9) h1 (by omega), m186_step (n := n) (by simp only [e9]; exact h9) h1 (by omega), m186_step (n := n) (by simp only [e9]; exact h9) h1 (by omega), m186_step (n := n) (by simp only [e9]; exact h9) h1 (by omega), m186_step (n := n) (by simp only [e9]; exact h9) h1 (by omega), m186_step (n := n) (by simp only [e9]; exact h9) h1 (by omega), m186_step (n := n) (by simp only [e9]; exact h9) h1 (by omega), m186_step (n := n) (by simp only [e9]; exact h9) h1 (by omega), m186_step (n := n) (by simp only [e9]; exact h9) h1 (by omega), m186_step (n := n) (by simp only [e9]; exact h9) h1 (by omega)]
    unfold J186_2
    rw [if_pos (by decide)]
    simp only [e9, h9, up_same, upd_at]
    rw [show (12 : Int32) = In 12 from rfl, n_add]
    rfl
  · refine Iv_tp h (fun a z1 z2 z3 z4 => ?_) (fun j hj => ?_) ⟨n + 12, h1, ?_, ?_, fun j hj => ?_⟩
    · simp (disch := assumption) only [up_ne]
      exact g a z1 z2
    · rw [up_same, upd_ne _ _ hj]
      simp (disch := omega) only [up_ne]
      rw [g 138 (by omega) (by omega)]
    · simp (disch := omega) only [up_ne]
      rw [r2]
    · rw [up_same, upd_at]
    · simp (disch := omega) only [up_ne, up_same]
      rw [g 145 (by omega) (by omega), r3, q3, p3, by4_at, by4_at, by4_at]
      unfold upd
      have bl := fun v s => byt_lt v s
      by_cases c11 : j = n + 11
      · subst c11
        simp [bl]
      by_cases c10 : j = n + 10
      · subst c10
        simp [bl]
      by_cases c9 : j = n + 9
      · subst c9
        simp [bl]
      by_cases c8 : j = n + 8
      · subst c8
        simp [bl]
      by_cases c7 : j = n + 7
      · subst c7
        simp [bl]
      by_cases c6 : j = n + 6
      · subst c6
        simp [bl]
      by_cases c5 : j = n + 5
      · subst c5
        simp [bl]
      by_cases c4 : j = n + 4
      · subst c4
        simp [bl]
      by_cases c3 : j = n + 3
      · subst c3
        simp [bl]
      by_cases c2 : j = n + 2
      · subst c2
        simp [bl]
      by_cases c1 : j = n + 1
      · subst c1
        simp [bl]
      by_cases c0 : j = n
      · subst c0
        simp [bl, show ¬ j = j + 4 + 4 by omega, show ¬ j = j + 4 + 4 + 1 by omega, show ¬ j = j + 4 + 4 + 2 by omega, show ¬ j = j + 4 + 4 + 3 by omega, show ¬ j = j + 4 + 1 by omega, show ¬ j = j + 4 + 2 by omega, show ¬ j = j + 4 + 3 by omega]
      · simp [c0, c1, c2, c3, c4, c5, c6, c7, c8, c9, c10, c11, show ¬ j = n + 4 + 4 by omega, show ¬ j = n + 4 + 4 + 1 by omega, show ¬ j = n + 4 + 4 + 2 by omega, show ¬ j = n + 4 + 4 + 3 by omega, show ¬ j = n + 4 + 1 by omega, show ¬ j = n + 4 + 2 by omega, show ¬ j = n + 4 + 3 by omega]
        exact b3 j hj
  · exact g 2000 (by omega) (by omega)
  · simp (disch := omega) only [up_ne]
    exact g 2000 (by omega) (by omega)
