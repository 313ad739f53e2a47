/-! PURE: the operation text: both sides -/
theorem c101 {C : Sg} {t : Nat} (ht : t < 14) : ∃ C3, J101 (11 + 3 * t) 4 C = some C3 ∧ C3 (11 + 3 * t) 2 = C 4 2 ∧ C3 (11 + 3 * t) 3 = C 4 3 ∧ C3 (11 + 3 * t) 4 = C 4 4 ∧ (∀ k, k < 96 → C3 (12 + 3 * t) k = C 5 k) ∧ ∀ a, a ≠ 11 + 3 * t → a ≠ 12 + 3 * t → C3 a = C a := by
  unfold J101
  rw [if_pos (show hy_cpOK 0 0 96 96 96 by decide), show 11 + 3 * t + 1 = 12 + 3 * t by omega]
  generalize hA : hy_cpS C (4 + 1) (12 + 3 * t) 0 0 96 = A
  have gA : ∀ a, a ≠ 12 + 3 * t → A a = C a := fun a ha => by rw [← hA, cps_ne _ _ _ _ ha]
  have gk : ∀ k, k < 96 → A (12 + 3 * t) k = C 5 k := fun k hk => by
    rw [← hA]
    exact cps_at C 5 (12 + 3 * t) (n := 96) (by omega) hk
  have e4 : ∀ (B : Sg) (k : Nat) (v : Int32), hy_up B (11 + 3 * t) k v 4 = B 4 := fun B k v => up_ne _ _ _ (by omega)
  rw [e4, e4, gA 4 (by omega)]
  refine ⟨_, rfl, ?_, ?_, ?_, fun k hk => ?_, fun a h1 h2 => ?_⟩
  · rw [up_same, upd_at, e4, gA 4 (by omega)]
  · rw [up_same, upd_ne _ _ (by omega), up_same, upd_ne _ _ (by omega), up_same, upd_at]
  · rw [up_same, upd_ne _ _ (by omega), up_same, upd_at]
  · rw [up_ne _ _ _ (by omega), up_ne _ _ _ (by omega), up_ne _ _ _ (by omega)]
    exact gk k hk
  · rw [up_ne _ _ _ h1, up_ne _ _ _ h1, up_ne _ _ _ h1]
    exact gA a h2
theorem m188_5 {A : Sg} {t len : Nat} (ht : t < 14) (hl : len ≤ 96) (h19 : A 138 19 = In len) : ∀ (m j f : Nat) (S : Rw), j + m = len → m < f → ∃ U, J188_5 f (In t) (In j) (wr A S) = some (In t, wr A U) ∧ U 6 = S 6 + 1 ∧ (∀ k, j ≤ k → k < len → U (107 + 96 * t + k) = A 148 k) ∧ ∀ k, k ≠ 6 → ¬ (107 + 96 * t + j ≤ k ∧ k < 107 + 96 * t + len) → U k = S k := by
  intro m
  induction m with
  | zero =>
    intro j f S hj hf
    obtain ⟨f, rfl⟩ : ∃ g, f = g + 1 := ⟨f - 1, by omega⟩
    refine ⟨upd S 6 (S 6 + 1), ?_, upd_at _ _ _, fun k h1 h2 => absurd h2 (by omega), fun k h1 h2 => upd_ne _ _ h1⟩
    unfold J188_5
    rw [wr_ne _ _ (show (138 : Nat) ≠ 139 by omega), h19, if_pos (show In len ≤ In j by rw [n_le (by omega) (by omega)]; omega), up_wr, wr_at, wr_wr]
  | succ m ih =>
    intro j f S hj hf
    obtain ⟨f, rfl⟩ : ∃ g, f = g + 1 := ⟨f - 1, by omega⟩
    obtain ⟨U, e, u1, u2, u3⟩ := ih (j + 1) f (upd S (107 + 96 * t + j) (A 148 j)) (by omega) (by omega)
    refine ⟨U, ?_, ?_, fun k h1 h2 => ?_, fun k h1 h2 => ?_⟩
    · conv => lhs; unfold J188_5
      rw [wr_ne _ _ (show (138 : Nat) ≠ 139 by omega), h19, if_neg (show ¬ In len ≤ In j by rw [n_le (by omega) (by omega)]; omega), if_pos (show hy_ib (In j) 96 from ib_n (by omega) (by omega)), show (107 : Int32) = In 107 from rfl, show (96 : Int32) = In 96 from rfl, n_mul, n_add, n_add, if_pos (show hy_ib (In (107 + 96 * t + j)) 1451 from ib_n (by omega) (by omega)), n_ix (by omega), n_ix (by omega), n_p1, up_wr, wr_at, wr_wr, wr_ne _ _ (show (148 : Nat) ≠ 139 by omega)]
      exact e
    · rw [u1, upd_ne _ _ (by omega)]
    · by_cases z : k = j
      · subst z
        rw [u3 _ (by omega) (by omega), upd_at]
      · exact u2 k (by omega) h2
    · rw [u3 k h1 (by omega), upd_ne _ _ (by omega)]
theorem m188_2 {τ : Sg} {S : Rw} {t key a : Nat} {E : List Int32} (hS : τ 139 = S) (h6 : S 6 = In t) (ht : t < 14) (hk : key < 3) (hl : E.length ≤ 96) (h15 : τ 138 15 = In key) (h19 : τ 138 19 = In E.length) (h20 : τ 138 20 = In a) : ∃ U, J188_2 1 τ = some (In t, wr (hy_up τ 138 9 0) U) ∧ nwT S U t key E.length a (τ 148) := by
  generalize hA : hy_up τ 138 9 0 = A
  have a139 : A 139 = S := by rw [← hA, up_ne _ _ _ (by omega)]; exact hS
  have a148 : A 148 = τ 148 := by rw [← hA, up_ne _ _ _ (by omega)]
  have a15 : A 138 15 = In key := by rw [← hA, up_same, upd_ne _ _ (by omega)]; exact h15
  have a19 : A 138 19 = In E.length := by rw [← hA, up_same, upd_ne _ _ (by omega)]; exact h19
  have a20 : A 138 20 = In a := by rw [← hA, up_same, upd_ne _ _ (by omega)]; exact h20
  obtain ⟨U, e, u1, u2, u3⟩ := m188_5 (A := A) ht hl a19 E.length 0 hy_fu (upd (upd S (79 + 2 * t) (In (1000 * key + E.length))) (79 + 2 * t + 1) (In a)) (by omega) (by unfold hy_fu; omega)
  refine ⟨U, ?_, ?_, ?_, ?_, fun k hk => ?_, fun k k1 k2 k3 k4 => ?_⟩
  · unfold J188_2
    rw [if_neg (by decide), hA, a139, h6, if_neg (show ¬ In t = (14 : Int32) by show ¬ In t = In 14; rw [n_eq (by omega) (by omega)]; omega), show (79 : Int32) = In 79 from rfl, show (2 : Int32) = In 2 from rfl, show (1000 : Int32) = In 1000 from rfl, n_mul, n_add, n_p1, if_pos (show hy_ib (In (79 + 2 * t)) 1451 from ib_n (by omega) (by omega)), if_pos (show hy_ib (In (79 + 2 * t + 1)) 1451 from ib_n (by omega) (by omega)), n_ix (by omega), n_ix (by omega), a15, a19, n_mul, n_add, up_wr, up_wr A, wr_at, wr_wr, wr_ne _ _ (show (138 : Nat) ≠ 139 by omega), a20, a139]
    exact e
  · rw [u1, upd_ne _ _ (by omega), upd_ne _ _ (by omega), h6, n_p1]
  · rw [u3 _ (by omega) (by omega), upd_ne _ _ (by omega), upd_at]
  · rw [u3 _ (by omega) (by omega), show 80 + 2 * t = 79 + 2 * t + 1 by omega, upd_at]
  · rw [u2 k (by omega) hk, a148]
  · rw [u3 k k1 (by omega), upd_ne _ _ (by omega), upd_ne _ _ (by omega)]
theorem op_text : Op J79 J188 := by
  intro σ h
  have hIv := h
  obtain ⟨n, hn, b1, b2', b3⟩ := h.2.1
  have hc := h.2.2.1
  have hT0 : ∀ k, k < 96 → σ 145 k = In (hy_ix (σ 145 k)) ∧ hy_ix (σ 145 k) < 256 := by
    intro k hk
    obtain ⟨_, c, hc, e⟩ := b3 k hk
    rw [e, n_ix (by omega)]
    exact ⟨rfl, hc⟩
  have hT : Tp (fun k => hy_ix (σ 145 k)) n σ := ⟨hn, b1, fun k hk => ⟨by rw [(b3 k hk).1]; exact (hT0 k hk).1, (hT0 k hk).2⟩⟩
  have hS : Sx σ := hc.2.2
  have hR : ∀ τ : Sg, τ 138 9 = σ 138 9 → τ 145 = σ 145 → Tr (fun k => hy_ix (σ 145 k)) n τ := fun τ q1 q2 => ⟨hn, by rw [q1]; exact b2', fun k hk => by rw [q2]; exact hT0 k hk⟩
  have hK : ∀ τ : Sg, τ 146 = σ 146 → τ 147 = σ 147 → Kx τ := fun τ q1 q2 => by
    unfold Kx
    rw [q1, q2]
    exact ⟨hc.1, hc.2.1⟩
  have nz : ∀ p, p ≤ n → In p ≠ -1000000005 := by
    intro p hp z
    have := congrArg Int32.toInt z
    rw [n_ti (by omega)] at this
    have q : (-1000000005 : Int32).toInt = -1000000005 := by decide
    omega
  obtain ⟨⟨a1, a2, a3, a4, a5, a6⟩, _⟩ := h
  rcases both hT hS (hR σ rfl rfl) (hK σ rfl rfl) with ⟨p, σ', _, hp, e80, _, f1, z22, _, _⟩ | ⟨_, _, _, σ', _, _, _, _, e80, f1, z22, _, _, _, _⟩
  · have g : ∀ a, a ≠ 2 → a ≠ 4 → a ≠ 5 → σ' a = σ a := fun a q1 q2 q3 => f1 a (by unfold clP; omega)
    rcases both hT hS (hR σ' (by rw [g 138 (by omega) (by omega) (by omega)]) (g 145 (by omega) (by omega) (by omega))) (hK σ' (g 146 (by omega) (by omega) (by omega)) (g 147 (by omega) (by omega) (by omega))) with ⟨p2, σ2, τ', hp2, e80', e188, _, _, f2, z9⟩ | ⟨_, _, _, _, _, _, _, _, e80', _⟩
    · rw [e80] at e80'
      have e := Prod.mk.inj (Option.some.inj e80')
      obtain ⟨r1, r2⟩ := tx_rows f2
      refine ⟨-100 - In p, σ', τ', ?_, by rw [e188, ← e.1], Iv_x hIv (fun a q1 q2 q3 q4 q5 q6 => by rw [r1 a q4 q5 q6, g a q1 q2 q3]) (fun k hk => by rw [r2 k hk, g 138 (by omega) (by omega) (by omega)]) (by rw [r1 2 (by omega) (by omega) (by omega)]; exact z22) z9, g 2000 (by omega) (by omega) (by omega), by rw [r1 2000 (by omega) (by omega) (by omega), g 2000 (by omega) (by omega) (by omega)]⟩
      unfold J79
      rw [e80, Option.bind_some]
      dsimp only
      rw [if_neg (nz p hp)]
    · rw [e80] at e80'
      exact absurd (Prod.mk.inj (Option.some.inj e80')).1 (nz p hp)
  · have g : ∀ a, a ≠ 2 → a ≠ 4 → a ≠ 5 → σ' a = σ a := fun a q1 q2 q3 => f1 a (by unfold clP; omega)
    obtain ⟨⟨c1, c2⟩, c3', c4, c5, c6, c7, c8, c9⟩ := a1.1
    generalize hS0 : σ 139 = S at a1 a2 a3 a4 a6 c1 c2 c3' c4 c5 c6 c7 c8 c9
    generalize ht0 : nt S = t at a6
    have s6 : S 6 = In t := by rw [← ht0]; exact c9.1
    have ht14 : t ≤ 14 := by rw [← ht0]; exact c9.2
    have x13 : σ' 81 13 = In t := by
      rw [g 81 (by omega) (by omega) (by omega), a3.1.2.2.2.2.2.2, s6]
    have e13 := c13 (σ' 81 13) σ'
    have hcond : (0 ≤ σ' 81 13 ∧ σ' 81 13 ≤ 13) = (t < 14) := by
      rw [x13]
      show (In 0 ≤ In t ∧ In t ≤ In 13) = _
      rw [n_le (by omega) (by omega), n_le (by omega) (by omega)]
      apply propext
      omega
    by_cases ht : ¬ t < 14
    · rcases both hT hS (hR σ' (by rw [g 138 (by omega) (by omega) (by omega)]) (g 145 (by omega) (by omega) (by omega))) (hK σ' (g 146 (by omega) (by omega) (by omega)) (g 147 (by omega) (by omega) (by omega))) with ⟨p2, _, _, hp2, e80', _⟩ | ⟨_, _, _, _, τ', _, _, _, e80', _, _, _, e188, f2, _⟩
      · rw [e80] at e80'
        exact absurd (Prod.mk.inj (Option.some.inj e80')).1.symm (nz p2 hp2)
      · obtain ⟨r1, r2⟩ := tx_rows f2
        have t139 : τ' 139 6 = 14 := by
          rw [r1 139 (by omega) (by omega) (by omega), g 139 (by omega) (by omega) (by omega), hS0, s6, show t = 14 by omega]
          rfl
        refine ⟨-1000000003, σ', hy_up τ' 138 9 0, ?_, ?_, Iv_x hIv (fun a q1 q2 q3 q4 q5 q6 => by rw [up_ne _ _ _ q4, r1 a q4 q5 q6, g a q1 q2 q3]) (fun k hk => by rw [up_same, upd_ne _ _ (by omega), r2 k hk, g 138 (by omega) (by omega) (by omega)]) (by rw [up_ne _ _ _ (by omega), r1 2 (by omega) (by omega) (by omega)]; exact z22) (by rw [up_same, upd_at]), g 2000 (by omega) (by omega) (by omega), by rw [up_ne _ _ _ (by omega), r1 2000 (by omega) (by omega) (by omega), g 2000 (by omega) (by omega) (by omega)]⟩
        · unfold J79
          rw [e80, Option.bind_some]
          dsimp only
          rw [if_pos rfl, e13, Option.bind_some, i_b2, ite_c hcond, if_neg ht]
        · rw [e188]
          unfold J188_2
          rw [if_neg (by decide), up_ne _ _ _ (show (139 : Nat) ≠ 138 by omega), if_pos t139]
    replace ht := Classical.not_not.mp ht
    obtain ⟨C3, e101, x1, x2, x3, x4, x5⟩ := c101 (C := σ') ht
    generalize hG : hy_up (hy_up C3 84 (hy_ix (σ' 4 3)) (In t)) 81 13 (In (t + 1)) = G
    have gG : ∀ a, a ≠ 84 → a ≠ 81 → G a = C3 a := fun a q1 q2 => by rw [← hG, up_ne _ _ _ q2, up_ne _ _ _ q1]
    have g3 : ∀ a, a ≠ 2 → a ≠ 4 → a ≠ 5 → a ≠ 81 → a ≠ 84 → a ≠ 11 + 3 * t → a ≠ 12 + 3 * t → G a = σ a := fun a q1 q2 q3 q4 q5 q6 q7 => by rw [gG a q5 q4, x5 a q6 q7, g a q1 q2 q3]
    have g138 : G 138 = σ 138 := g3 138 (by omega) (by omega) (by omega) (by omega) (by omega) (by omega) (by omega)
    rcases both hT hS (hR G (by rw [g138]) (g3 145 (by omega) (by omega) (by omega) (by omega) (by omega) (by omega) (by omega))) (hK G (g3 146 (by omega) (by omega) (by omega) (by omega) (by omega) (by omega) (by omega)) (g3 147 (by omega) (by omega) (by omega) (by omega) (by omega) (by omega) (by omega))) with ⟨p2, _, _, hp2, e80', _⟩ | ⟨key, a, E, σ2, τ', hk, hE, hl, e80', _, _, ⟨y1, y2, y3, y4⟩, e188, f2, ⟨w1, w2, w3, w4⟩⟩
    · rw [e80] at e80'
      exact absurd (Prod.mk.inj (Option.some.inj e80')).1.symm (nz p2 hp2)
    · rw [e80] at e80'
      have es := (Prod.mk.inj (Option.some.inj e80')).2
      subst es
      obtain ⟨r1, r2⟩ := tx_rows f2
      have t139 : τ' 139 = S := by
        rw [r1 139 (by omega) (by omega) (by omega), g3 139 (by omega) (by omega) (by omega) (by omega) (by omega) (by omega) (by omega), hS0]
      obtain ⟨U, eU, hU⟩ := m188_2 t139 s6 ht hk hl w1 w2 w4
      have hUO := nw_Ok a1 ht0 hU ht hk hl hE w3
      obtain ⟨n1, n2, n3, n4, n5⟩ := nw_f hU ht hk hl
      have z : ∀ b, b ≠ 138 → b ≠ 139 → (b < 148 ∨ 150 < b) → b < 5000 → wr (hy_up τ' 138 9 0) U b = G b := fun b q1 q2 q3 q4 => by rw [wr_ne _ _ q2, up_ne _ _ _ q1, r1 b q1 q3 q4]
      have z139 : wr (hy_up τ' 138 9 0) U 139 = U := wr_at _ _
      have zall : ∀ b, b ≠ 2 → b ≠ 4 → b ≠ 5 → b ≠ 138 → b ≠ 139 → b ≠ 81 → b ≠ 84 → b ≠ 11 + 3 * t → b ≠ 12 + 3 * t → (b < 148 ∨ 150 < b) → b < 5000 → wr (hy_up τ' 138 9 0) U b = σ b := fun b q1 q2 q3 q4 q5 q6 q7 q8 q9 q10 q11 => by rw [z b q4 q5 q10 q11, g3 b q1 q2 q3 q6 q7 q8 q9]
      have z138 : ∀ k, k < 9 ∨ 22 < k → wr (hy_up τ' 138 9 0) U 138 k = σ 138 k := fun k hk' => by rw [wr_ne _ _ (by omega), up_same, upd_ne _ _ (by omega), r2 k hk', g138]
      have zix : hy_ix (σ' 4 3) = key := by rw [y2, n_ix (by omega)]
      have z81 : ∀ k, wr (hy_up τ' 138 9 0) U 81 k = if k = 13 then In (t + 1) else σ 81 k := fun k => by
        rw [z 81 (by omega) (by omega) (by omega) (by omega), ← hG, up_same]
        by_cases q : k = 13
        · rw [if_pos q, q, upd_at]
        · rw [if_neg q, upd_ne _ _ q, up_ne _ _ _ (by omega), x5 81 (by omega) (by omega), g 81 (by omega) (by omega) (by omega)]
      have z84 : ∀ k, wr (hy_up τ' 138 9 0) U 84 k = if k = key then In t else σ 84 k := fun k => by
        rw [z 84 (by omega) (by omega) (by omega) (by omega), ← hG, up_ne _ _ _ (by omega), up_same, zix]
        by_cases q : k = key
        · rw [if_pos q, q, upd_at]
        · rw [if_neg q, upd_ne _ _ q, x5 84 (by omega) (by omega), g 84 (by omega) (by omega) (by omega)]
      generalize hZ : wr (hy_up τ' 138 9 0) U = Z at eU z z139 zall z138 z81 z84
      have hn' : nb U = nb S := by
        unfold nb
        rw [n4 1 (by omega) (by omega)]
      have hbf : ∀ c w, c < 12 → w < 6 → bf U c w = bf S c w := fun c w q1 q2 => by
        unfold bf
        rw [n4 _ (by omega) (by omega)]
      have hA : Iv_a Z := by
        refine ⟨by rw [z139]; exact hUO, ?_, ?_, ?_, ?_, ?_⟩
        · rw [z139]
          unfold DayOk
          rw [n4 2 (by omega) (by omega)]
          exact a2
        · rw [z139]
          obtain ⟨⟨v1, v2, v3, v4, v5, v6, v7⟩, v8, v9, v10⟩ := a3
          refine ⟨⟨?_, ?_, ?_, ?_, ?_, ?_, ?_⟩, fun b hb w hw => ?_, fun p hp => ?_, fun k hk' => ?_⟩
          · rw [z81, if_neg (by omega), n4 1 (by omega) (by omega)]; exact v1
          · rw [z81, if_neg (by omega), n4 3 (by omega) (by omega)]; exact v2
          · rw [z81, if_neg (by omega), n4 4 (by omega) (by omega)]; exact v3
          · rw [z81, if_neg (by omega), n4 5 (by omega) (by omega)]; exact v4
          · rw [z81, if_neg (by omega), n4 2 (by omega) (by omega)]; exact v5
          · rw [z81, if_neg (by omega), n4 0 (by omega) (by omega)]; exact v6
          · rw [z81, if_pos rfl, hU.1]
          · rw [hn'] at hb
            rw [zall (81 + 7 + b) (by omega) (by omega) (by omega) (by omega) (by omega) (by omega) (by omega) (by omega) (by omega) (by omega) (by omega), n4 _ (by omega) (by omega)]
            exact v8 b hb w hw
          · rw [zall (81 + 2) (by omega) (by omega) (by omega) (by omega) (by omega) (by omega) (by omega) (by omega) (by omega) (by omega) (by omega), hd_c hn' fun b hb => hbf b 2 (by omega) (by omega)]
            exact v9 p hp
          · rw [nw_ct ht0 hU ht hk hl k]
            show Z 84 k = _
            rw [z84]
            by_cases q : k = key
            · rw [if_pos q, if_pos q]
              rfl
            · rw [if_neg q, if_neg q]
              exact v10 k hk'
        · rw [z139]
          intro s hs
          rw [n1] at hs
          by_cases q : s = t
          · subst q
            rw [n2, n3, hU.2.2.1, z (11 + 3 * s) (by omega) (by omega) (by omega) (by omega), z (12 + 3 * s) (by omega) (by omega) (by omega) (by omega), gG _ (by omega) (by omega), gG _ (by omega) (by omega), x1, x2, x3]
            refine ⟨y1, y2, y3, fun k hk' => ?_⟩
            rw [x4 k (by omega), show tcode U s k = τ' 148 k from hU.2.2.2.1 k hk']
            exact Pl_cvt w3 y4 k hk'
          · obtain ⟨m1, m2, m3⟩ := n5 s (by omega)
            have el : tlen U s = tlen S s := by
              unfold tlen
              rw [m1]
            have ek : tkey U s = tkey S s := by
              unfold tkey
              rw [m1]
            have hl96 : tlen S s ≤ 96 := (a1.2.1 s (by omega)).2.2
            obtain ⟨l1, l2, l3, l4⟩ := a4 s (by omega)
            rw [el, ek, m2, zall (11 + 3 * s) (by omega) (by omega) (by omega) (by omega) (by omega) (by omega) (by omega) (by omega) (by omega) (by omega) (by omega), zall (12 + 3 * s) (by omega) (by omega) (by omega) (by omega) (by omega) (by omega) (by omega) (by omega) (by omega) (by omega) (by omega)]
            exact ⟨l1, l2, l3, fun k hk' => by rw [m3 k (by omega)]; exact l4 k hk'⟩
        · rw [zall 0 (by omega) (by omega) (by omega) (by omega) (by omega) (by omega) (by omega) (by omega) (by omega) (by omega) (by omega), z138 3 (by omega)]
          exact a5
        · rw [z139, zall 0 (by omega) (by omega) (by omega) (by omega) (by omega) (by omega) (by omega) (by omega) (by omega) (by omega) (by omega), zall 140 (by omega) (by omega) (by omega) (by omega) (by omega) (by omega) (by omega) (by omega) (by omega) (by omega) (by omega)]
          rcases a6 with a6 | ⟨p1, p2, p3, p4, p5, p6⟩
          · exact Or.inl a6
          · refine Or.inr ⟨p1, p2, p3, Rc_c p2.1 p4 fun b hb => zall b (by unfold coP at hb; omega) (by unfold coP at hb; omega) (by unfold coP at hb; omega) (by unfold coP at hb; omega) (by unfold coP at hb; omega) (by unfold coP at hb; omega) (by unfold coP at hb; omega) (by unfold coP at hb; omega) (by unfold coP at hb; omega) (by unfold coP at hb; omega) (by unfold coP at hb; omega), by omega, fun s hs => ?_⟩
            obtain ⟨t1, t2, t3⟩ := p6 s hs
            obtain ⟨m1, m2, m3⟩ := n5 s (by omega)
            have el : tlen U s = tlen S s := by
              unfold tlen
              rw [m1]
            have hl96 : tlen S s ≤ 96 := (a1.2.1 s (by omega)).2.2
            rw [m1, m2, el]
            exact ⟨t1, t2, fun k hk' => by rw [m3 k (by omega)]; exact t3 k hk'⟩
      refine ⟨In t, G, Z, ?_, by rw [e188, eU], Iv_y hIv (fun b q1 q2 q3 q4 q5 q6 q7 q8 q9 q10 => zall b q1 q2 q3 q4 q5 q6 q7 (by omega) (by omega) q9 q10) hA z138 ?_ ?_, g3 2000 (by omega) (by omega) (by omega) (by omega) (by omega) (by omega) (by omega), zall 2000 (by omega) (by omega) (by omega) (by omega) (by omega) (by omega) (by omega) (by omega) (by omega) (by omega) (by omega)⟩
      · unfold J79
        rw [e80, Option.bind_some]
        dsimp only
        rw [if_pos rfl, e13, Option.bind_some, i_b2, ite_c hcond, if_pos ht, if_pos (show hy_ib (σ' 81 13) 14 by rw [x13]; exact ib_n (by omega) (by omega)), show hy_ix (σ' 81 13) = t by rw [x13, n_ix (by omega)], e101, Option.bind_some, if_pos (show hy_ib (C3 4 3) 3 by rw [x5 4 (by omega) (by omega), y2]; exact ib_n (by omega) (by omega)), x5 4 (by omega) (by omega), up_ne _ _ _ (show (81 : Nat) ≠ 84 by omega), x5 81 (by omega) (by omega), x13, n_p1, hG]
      · rw [z 2 (by omega) (by omega) (by omega) (by omega), gG 2 (by omega) (by omega), x5 2 (by omega) (by omega)]
        exact z22
      · rw [← hZ, wr_ne _ _ (by omega), up_same, upd_at]
