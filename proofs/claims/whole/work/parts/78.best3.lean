/-! PURE: the best move, looking two ahead -/
def lf2 (S : Rw) (f k : Nat) : Int := ldS (bm1 (mkS S (k / 36) (k % 36)) (1 - f)) f
theorem lf2_bd {S : Rw} {f k : Nat} (hS : Ok S) (hb : k / 36 < nb S) (hne : hd S (k % 36) ≠ some (k / 36)) : -12096 ≤ lf2 S f k ∧ lf2 S f k ≤ 12096 := ldS_bd (bm1_k (mk_Ok hS hb (by omega) hne)).1.1 f
theorem n_1m {f : Nat} (hf : f ≤ 1) : (1 : Int32) - In f = In (1 - f) := by
  rw [show (1 : Int32) = In 1 from rfl, n_sub hf]
theorem c48_loop {S : Rw} (hS : Ok S) {fm N : Nat} (hf1 : fm ≤ 1) (hN : N ≤ 432) : ∀ (R : List Nat) (i f : Nat) (acc : Option (Nat × Int)) (σ : Sg), Rc σ 81 S → Rl σ S → (∀ j, j < R.length → σ 85 (i + j) = In (mv (R.getD j 0))) → (∀ k, k ∈ R → k < 36 * nb S ∧ cand S fm k = true) → chR σ 7 (cvB acc) → i + R.length = N → R.length < f →
    ∃ σ', J48_1 f (In fm) (In N) (In i) σ = some σ' ∧ chR σ' 7 (cvB (bsF (lf2 S fm) R acc)) ∧ fp scP σ σ' := by
  have h12 := hS.1.1.2
  intro R
  induction R with
  | nil =>
    intro i f acc σ hc hl hm hk hch hi hf
    obtain ⟨f, rfl⟩ : ∃ g, f = g + 1 := ⟨f - 1, by simp at hf; omega⟩
    unfold J48_1
    rw [i_le (by omega) (by simp at hi; omega), if_pos (by simp at hi; omega)]
    exact ⟨σ, rfl, hch, fp_rf _ _⟩
  | cons k R ih =>
    intro i f acc σ hc hl hm hk hch hi hf
    obtain ⟨f, rfl⟩ : ∃ g, f = g + 1 := ⟨f - 1, by simp at hf; omega⟩
    rw [List.length_cons] at hi hf
    obtain ⟨hk1, hcd⟩ := hk k (List.mem_cons_self ..)
    have hb : k / 36 < nb S := by omega
    have hp : k % 36 < 36 := by omega
    obtain ⟨x1, x2, x3, x4⟩ := cand_x hcd
    have hT := mk_Ok hS hb hp x4
    have hqT := mkS_eqT (p := k % 36) hS.1 hb
    have hU := bm1_k (f := 1 - fm) hT
    have hbd := lf2_bd (f := fm) hS hb x4
    have hmi : σ 85 i = In (mv k) := hm 0 (by simp)
    have hmv := mv_lt (k := k) (by omega)
    unfold J48_1
    rw [i_le (by omega) (by omega), if_neg (by omega), if_pos (ib_n (by omega) (by omega)), n_ix (by omega), hmi, mv_d (by omega), mv_r (by omega), n_1m hf1]
    obtain ⟨σ1, a1, a2, a3⟩ := c49 (o := 100) (r := 81) hS.1 (by omega) hc
    have f1 := fp_co100 a3
    rw [a1, Option.bind_some]
    obtain ⟨σ2, b1, b2, b3⟩ := c36 (o := 100) (b := k / 36) (p := k % 36) (by omega) hS.1 a2 hb hp x4
    have f2 : fp (dyP 100) σ σ2 := fp_tr f1 (fp_wk b3 fun a ha => by unfold boP at ha; unfold dyP; omega)
    rw [b1, Option.bind_some]
    dsimp only
    obtain ⟨σ3, d1, d2, d3⟩ := c51 (o := 100) (fm := 1 - fm) hT (by omega) (by omega) b2 (eqT_Rl hqT (Rl_dy (by omega) hS.1 hl f2))
    have f3 := fp_tr f2 d3
    rw [d1, Option.bind_some]
    obtain ⟨σ4, e1, e2, e3⟩ := c45 (o := 100) (fm := fm) (by omega) hU.1 d2 (eqT_Rl hU.2.2 (eqT_Rl hqT (Rl_dy (by omega) hS.1 hl f3))) hf1
    have f4 := fp_tr f3 (fp_va100 e2)
    rw [e1, Option.bind_some, z_neg]
    dsimp only
    obtain ⟨σ5, g1, g2, g3⟩ := c46 (c := In (mv k)) (r := -(lf2 S fm k)) (t := lf2 S fm k) (chR_c hch (f4 7 (by unfold dyP plP; omega))) (In_no (by omega)) (by omega) (by omega)
    have f5 : fp scP σ σ5 := fp_tr (fp_wk f4 fun a ha => Or.inl ha) (fp_wk g3 fun a ha => Or.inr ha)
    rw [show J46 7 (In (mv k)) (Zn (-ldS (bm1 (mkS S (k / 36) (k % 36)) (1 - fm)) fm)) (Zn (ldS (bm1 (mkS S (k / 36) (k % 36)) (1 - fm)) fm)) σ4 = _ from g1, Option.bind_some, n_p1]
    rw [cvB_off] at g2
    obtain ⟨σ6, r1, r2, r3⟩ := ih (i + 1) f (bs1 (lf2 S fm) k acc) σ5 (Rc_sc hS.1 hc f5) (Rl_sc hS.1 hl f5) (fun j hj => by
      rw [f5 85 (by unfold scP dyP plP; omega), show i + 1 + j = i + (j + 1) by omega, hm (j + 1) (by simpa using hj)]
      rfl) (fun k' hk' => hk k' (List.mem_cons_of_mem _ hk')) g2 (by omega) (by omega)
    exact ⟨σ6, r1, r2, fp_tr f5 r3⟩
theorem m164_loop {S : Rw} (hS : Ok S) {fm : Nat} (hf1 : fm ≤ 1) : ∀ (m k f : Nat) (acc : Option (Nat × Int)) (x3 : Int32) (σ : Sg), σ 139 = S → (∀ j, j < 72 → σ 142 j = S (j + 7)) → (∀ a, acc = some a → x3 = Zn a.2 ∧ a.1 < 432 ∧ -12096 ≤ a.2 ∧ a.2 ≤ 12096) → k + m = 36 * nb S → m < f →
    ∃ σ', J164_1 f (In fm) (oM acc) x3 (In k) σ = some (oM (bsF (lf2 S fm) (mvL S fm k m) acc), σ') ∧ fr [143, 151, 152, 10006] σ σ' ∧ (∀ a, bsF (lf2 S fm) (mvL S fm k m) acc = some a → σ' 138 6 = Zn a.2 ∧ a.1 < 432) := by
  have h12 := hS.1.1.2
  intro m
  induction m with
  | zero =>
    intro k f acc x3 σ hs hr2 ha hk hf
    obtain ⟨f, rfl⟩ : ∃ g, f = g + 1 := ⟨f - 1, by omega⟩
    unfold J164_1
    rw [hs, n_36 hS.1, i_le (by omega) (by omega), if_pos (by omega)]
    refine ⟨hy_up σ 138 6 x3, rfl, fr_up _ _ _ _ (by simp [fk]), fun a e => ?_⟩
    rw [up_same, upd_at]
    exact ⟨(ha a e).1, (ha a e).2.1⟩
  | succ m ih =>
    intro k f acc x3 σ hs hr2 ha hk hf
    obtain ⟨f, rfl⟩ : ∃ g, f = g + 1 := ⟨f - 1, by omega⟩
    have hb : k / 36 < nb S := by omega
    have hp : k % 36 < 36 := by omega
    obtain ⟨-, ⟨f1, f2⟩, -, -⟩ := hS.1.2.1 _ hb
    have go : ∀ (acc' : Option (Nat × Int)) (y3 : Int32) (σ1 : Sg), fr [143, 151, 152, 10006] σ σ1 → (∀ a, acc' = some a → y3 = Zn a.2 ∧ a.1 < 432 ∧ -12096 ≤ a.2 ∧ a.2 ≤ 12096) → bsF (lf2 S fm) (mvL S fm k (m + 1)) acc = bsF (lf2 S fm) (mvL S fm (k + 1) m) acc' → ∀ x5, ∃ σ', J164_4 (J164_1 f) (In fm) (oM acc') y3 (In k) x5 σ1 = some (oM (bsF (lf2 S fm) (mvL S fm k (m + 1)) acc), σ') ∧ fr [143, 151, 152, 10006] σ σ' ∧ (∀ a, bsF (lf2 S fm) (mvL S fm k (m + 1)) acc = some a → σ' 138 6 = Zn a.2 ∧ a.1 < 432) := by
      intro acc' y3 σ1 hf1' ha1 he x5
      obtain ⟨σ', q1, q2, q3⟩ := ih (k + 1) f acc' y3 σ1 ((fr_row hf1' (by omega) (by simp)).trans hs) (fun j hj => by rw [fr_row hf1' (by omega) (by simp)]; exact hr2 j hj) ha1 (by omega) (by omega)
      unfold J164_4
      rw [n_p1, he]
      exact ⟨σ', q1, fr_tr hf1' q2, q3⟩
    unfold J164_1
    rw [hs, n_36 hS.1, i_le (by omega) (by omega), if_neg (by omega), show (36 : Int32) = In 36 from rfl, n_div (by omega) (by omega), n_rem (by omega) (by omega), show J128 (In (k / 36)) 1 σ = _ from m128 (w := 1) (by omega) σ, Option.bind_some, hs, f1]
    dsimp only
    rw [i_eq (by omega) (by omega), m143 (by rw [hs]; exact hS.1) (by rw [hs]; exact hb) (by omega), Option.bind_some, hs, i_bb]
    dsimp only
    have hskip : cand S fm k = false → bsF (lf2 S fm) (mvL S fm k (m + 1)) acc = bsF (lf2 S fm) (mvL S fm (k + 1) m) acc := fun h => by
      rw [mvL_s, h, if_neg (by decide)]
    by_cases h1 : ¬(bf S (k / 36) 1 = fm)
    · rw [if_neg h1]
      exact go acc x3 σ (fr_rf _ _) ha (hskip (by
        unfold cand
        rw [decide_eq_false h1]
        rfl)) _
    replace h1 := Classical.not_not.mp h1
    rw [if_pos h1]
    by_cases h2 : ¬(mvB S (k / 36) (k % 36) = true)
    · rw [if_neg h2]
      exact go acc x3 σ (fr_rf _ _) ha (hskip (by
        unfold cand
        rw [decide_eq_true h1, Bool.true_and]
        exact Bool.eq_false_iff.mpr h2)) _
    replace h2 := Classical.not_not.mp h2
    rw [if_pos h2]
    have hcd : cand S fm k = true := by
      unfold cand
      rw [decide_eq_true h1, h2]
      rfl
    obtain ⟨x1, x2, x3', x4⟩ := cand_x hcd
    have hT := mk_Ok hS hb hp x4
    have hU := bm1_k (f := 1 - fm) hT
    have hbd := lf2_bd (f := fm) hS hb x4
    rw [m156 (by rw [hs]; exact hS.1) (by rw [hs]; exact hb) hp, Option.bind_some, hs]
    dsimp only
    obtain ⟨τ1, a1, a2, a3⟩ := m159 (σ := wr σ (mkS S (k / 36) (k % 36))) (wr_at _ _) hT (r := 143) (fm := 1 - fm) (Or.inr rfl) (by omega)
    rw [n_1m hf1, a1, Option.bind_some]
    dsimp only
    have b139 : τ1 139 = mkS S (k / 36) (k % 36) := by rw [fr_row a2 (by omega) (by simp), wr_at]
    -- behind the answer
    have fin : ∀ τ2 : Sg, τ2 139 = bm1 (mkS S (k / 36) (k % 36)) (1 - fm) → (∀ a j, a ≠ 139 → τ2 a j = τ1 a j) → ∃ σ', J164_2 (J164_1 f) (In fm) (oM acc) x3 (In k) (In (k / 36)) τ2 = some (oM (bsF (lf2 S fm) (mvL S fm k (m + 1)) acc), σ') ∧ fr [143, 151, 152, 10006] σ σ' ∧ (∀ a, bsF (lf2 S fm) (mvL S fm k (m + 1)) acc = some a → σ' 138 6 = Zn a.2 ∧ a.1 < 432) := by
      intro τ2 t1 t2
      obtain ⟨τ3, d1, d2⟩ := m161 (fm := fm) t1 hU.1 hf1
      unfold J164_2
      rw [d1, Option.bind_some]
      dsimp only
      rw [m163 (by omega), Option.bind_some]
      have g142 : ∀ j, τ3 142 j = σ 142 j := fun j => by
        rw [d2 142 j (by simp [fk]), t2 142 j (by omega), a2 142 j (by simp [fk]), wr_ne _ _ (by omega)]
      have g139 : τ3 139 = bm1 (mkS S (k / 36) (k % 36)) (1 - fm) := (fr_row d2 (by omega) (by simp)).trans t1
      have hrow : (fun j => if 7 ≤ j ∧ j < 79 then τ3 142 (j - 7) else τ3 139 j) = S := by
        funext j
        by_cases hj : 7 ≤ j ∧ j < 79
        · rw [if_pos hj, g142, hr2 _ (by omega), show j - 7 + 7 = j by omega]
        · rw [if_neg hj, g139]
          have e1 : mkS S (k / 36) (k % 36) j = S j := mkS_out (by omega) (hd_lt12 hS.1) (by omega)
          unfold bm1
          cases e : bestS (mkS S (k / 36) (k % 36)) (1 - fm) with
          | none => exact e1
          | some a =>
            obtain ⟨z1, z2, z3⟩ := best_x e
            have hn2 := (mkS_ok (p := k % 36) hS.1 hb hp x4).2
            dsimp only
            rw [mkS_out (by omega) (hd_lt12 hT.1) (by omega), e1]
      rw [hrow]
      have hf4 : fr [143, 151, 152, 10006] σ (wr τ3 S) := by
        intro a j hj
        by_cases ha139 : a = 139
        · subst ha139
          rw [wr_at, hs]
        · rw [wr_ne _ _ ha139, d2 a j (fun z => hj (by simp at z ⊢; omega)), t2 a j ha139, a2 a j hj, wr_ne _ _ ha139]
      have hnew : bs1 (lf2 S fm) k acc = some (k, lf2 S fm k) → ∃ σ', J164_3 (J164_1 f) (In fm) (In k) (In (k / 36)) (Zn (ldS (bm1 (mkS S (k / 36) (k % 36)) (1 - fm)) fm)) (wr τ3 S) = some (oM (bsF (lf2 S fm) (mvL S fm k (m + 1)) acc), σ') ∧ fr [143, 151, 152, 10006] σ σ' ∧ (∀ a, bsF (lf2 S fm) (mvL S fm k (m + 1)) acc = some a → σ' 138 6 = Zn a.2 ∧ a.1 < 432) := by
        intro hb1
        unfold J164_3
        rw [show (36 : Int32) = In 36 from rfl, n_rem (by omega) (by omega), show (100 : Int32) = In 100 from rfl, n_mul, n_add]
        refine go (some (k, lf2 S fm k)) _ _ hf4 (fun a e => ?_) ?_ _
        · cases e
          exact ⟨rfl, by show k < 432; omega, hbd.1, hbd.2⟩
        · rw [mvL_s, hcd, if_pos rfl]
          show bsF _ _ (bs1 (lf2 S fm) k acc) = _
          rw [hb1]
      cases acc with
      | none =>
        rw [if_pos (show oM none < 0 by decide)]
        exact hnew rfl
      | some a =>
        obtain ⟨q1, q2, q3, q4⟩ := ha a rfl
        have hbd' : -12096 ≤ ldS (bm1 (mkS S (k / 36) (k % 36)) (1 - fm)) fm ∧ ldS (bm1 (mkS S (k / 36) (k % 36)) (1 - fm)) fm ≤ 12096 := hbd
        have hll : lf2 S fm k = ldS (bm1 (mkS S (k / 36) (k % 36)) (1 - fm)) fm := rfl
        rw [if_neg (oM_nn q2), q1, ite_c (z_le (by omega) (by omega) (by omega) (by omega))]
        by_cases h7 : a.2 < lf2 S fm k
        · rw [if_neg (by omega)]
          exact hnew (by unfold bs1; dsimp only; rw [if_pos h7])
        · rw [if_pos (by omega)]
          refine go (some a) _ _ hf4 (fun a' e => ?_) ?_ _
          · cases e
            exact ⟨rfl, q2, q3, q4⟩
          · rw [mvL_s, hcd, if_pos rfl]
            show bsF _ _ (bs1 (lf2 S fm) k (some a)) = _
            unfold bs1
            dsimp only
            rw [if_neg h7]
    cases e : bestS (mkS S (k / 36) (k % 36)) (1 - fm) with
    | none =>
      rw [if_pos (show oM none < 0 by decide)]
      exact fin τ1 (by unfold bm1; rw [e]; exact b139) fun _ _ _ => rfl
    | some a =>
      obtain ⟨q1, q2, q3, q4⟩ := a3 a e
      obtain ⟨z1, z2, z3⟩ := best_x e
      rw [if_neg (oM_nn q2), show oM (some a) = In (mv a.1) from rfl, mv_d q2, mv_r q2, m156 (by rw [b139]; exact hT.1) (by rw [b139]; omega) (by omega), Option.bind_some, b139]
      dsimp only
      refine fin _ ?_ fun a j hj => by rw [wr_ne _ _ hj]
      unfold bm1
      rw [wr_at, e]
theorem m158_4 {acc : Option (Nat × Int)} {τ : Sg} (h : ∀ a, acc = some a → τ 138 6 = Zn a.2 ∧ a.1 < 432) (w : Int32) : J158_4 (oM acc) w τ = some (tlR w (cvB acc), τ) := by
  unfold J158_4
  cases acc with
  | none =>
    rw [if_neg (by decide)]
    rfl
  | some a =>
    obtain ⟨h1, h2⟩ := h a rfl
    have := mv_lt h2
    rw [if_pos (show (0 : Int32) ≤ oM (some a) by show In 0 ≤ In (mv a.1); rw [n_le (by omega) (by omega)]; omega), h1]
    unfold tlR cvB oM
    dsimp only
    split <;> rfl
theorem op_best (x y z : Int32) : Op (J42 x y z) (J158 x y z) := by
  intro σ h
  obtain ⟨hS, hdy, hc, hl, hi⟩ := h.1
  have h12 := hS.1.1.2
  have bad : ∀ r, J42 x y z σ = some (r, σ) → J158 x y z σ = some (r, σ) → ∃ r σ1 σ2, J42 x y z σ = some (r, σ1) ∧ J158 x y z σ1 = some (r, σ2) ∧ Iv σ2 ∧ σ1 2000 = σ 2000 ∧ σ2 2000 = σ 2000 := fun r e1 e2 => Op_ga h e1 e2 (fp_rf _ _) (fr_rf _ _)
  by_cases h1 : ¬(0 ≤ x ∧ x ≤ 1)
  · apply bad (-1000000001)
    · unfold J42
      rw [c4, Option.bind_some, i_b2, if_neg h1]
    · unfold J158
      rw [m125, Option.bind_some, i_b2, if_neg h1]
  replace h1 := Classical.not_not.mp h1
  by_cases h2 : ¬(1 ≤ y ∧ y ≤ 2)
  · apply bad (-1000000001)
    · unfold J42
      rw [c4, Option.bind_some, i_b2, if_pos h1, c3, Option.bind_some, i_b2, if_neg h2]
    · unfold J158
      rw [m125, Option.bind_some, i_b2, if_pos h1, m125, Option.bind_some, i_b2, if_neg h2]
  replace h2 := Classical.not_not.mp h2
  by_cases h3 : ¬(0 ≤ z ∧ z ≤ 1)
  · apply bad (-1000000001)
    · unfold J42
      rw [c4, Option.bind_some, i_b2, if_pos h1, c3, Option.bind_some, i_b2, if_pos h2, c3, Option.bind_some, i_b2, if_neg h3]
    · unfold J158
      rw [m125, Option.bind_some, i_b2, if_pos h1, m125, Option.bind_some, i_b2, if_pos h2, m125, Option.bind_some, i_b2, if_neg h3]
  replace h3 := Classical.not_not.mp h3
  obtain ⟨f, hf, rfl⟩ := n_rngI (n := 1) (by omega) h1.1 h1.2
  by_cases h4 : y = 1
  · obtain ⟨σ1, a1, a2, a3⟩ := c43 (o := 81) hS (by omega) hf hc hl
    have h139 : σ1 139 = σ 139 := a3 139 (by unfold beP plP; omega)
    obtain ⟨τ, b1, b2, b3⟩ := m159 h139 hS (r := 142) (fm := f) (Or.inl rfl) hf
    refine Op_ga h (r := tlR z (cvB (bestS (σ 139) f))) (σ1 := σ1) (σ2 := τ) ?_ ?_ (fp_wk a3 fun a ha => by unfold beP plP at ha; unfold gaP plP; omega) (fr_wk b2 fun a ha => by simp at ha; simp [gaL]; omega)
    · unfold J42
      rw [c4, Option.bind_some, i_b2, if_pos h1, c3, Option.bind_some, i_b2, if_pos h2, c3, Option.bind_some, i_b2, if_pos h3]
      dsimp only
      rw [if_pos h4, a1, Option.bind_some, c47 a2 z, Option.bind_some]
    · unfold J158
      rw [m125, Option.bind_some, i_b2, if_pos h1, m125, Option.bind_some, i_b2, if_pos h2, m125, Option.bind_some, i_b2, if_pos h3]
      dsimp only
      rw [if_pos h4, b1, Option.bind_some]
      exact m158_4 (fun a e => ⟨(b3 a e).1, (b3 a e).2.1⟩) z
  · have f0 : fp scP σ (hy_up σ 7 0 (-1000000005)) := fp_up _ _ _ _ (Or.inr rfl)
    have hc0 := Rc_sc hS.1 hc f0
    have fl : ∀ a, a ≠ 85 → flS (hy_up σ 7 0 (-1000000005)) 81 0 (mvs (σ 139) f) a = hy_up σ 7 0 (-1000000005) a := fun a ha => flS_ne _ _ _ _ _ (by omega)
    have hlen : (mvs (σ 139) f).length ≤ 432 := by
      have := mvL_len (S := σ 139) (f := f) (m := 36 * nb (σ 139)) (k := 0)
      unfold mvs
      omega
    obtain ⟨σ1, a1, a2, a3⟩ := c48_loop hS (N := (mvs (σ 139) f).length) hf hlen (mvs (σ 139) f) 0 hy_fu none (flS (hy_up σ 7 0 (-1000000005)) 81 0 (mvs (σ 139) f)) (Rc_c hS.1 hc0 fun a ha => fl a (by unfold coP at ha; omega)) (Rl_c hS.1 (Rl_sc hS.1 hl f0) fun a q1 q2 q3 => fl a (by omega)) (fun j hj => flS_at 81 _ _ 0 j hj) (fun k hk => by
      have := mvL_mem hk
      exact ⟨by omega, this.2.2⟩) (by
      show flS (hy_up σ 7 0 (-1000000005)) 81 0 (mvs (σ 139) f) 7 0 = _
      rw [fl 7 (by omega), up_same, upd_at]) (by omega) (by unfold hy_fu; omega)
    have f1 : fp gaP σ σ1 := by
      intro a ha
      rw [a3 a (by unfold gaP plP at ha; unfold scP dyP plP; omega), fl a (by unfold gaP at ha; omega)]
      exact up_ne _ _ _ (by unfold gaP at ha; omega)
    have h139 : σ1 139 = σ 139 := f1 139 (by unfold gaP plP; omega)
    obtain ⟨τ, b1, b2, b3⟩ := m164_loop hS hf (36 * nb (σ 139)) 0 hy_fu none 0 (sr σ1 142 (fun k => if k < 72 then σ1 139 (k + 7) else σ1 142 k)) (by rw [sr_ne _ _ (by omega)]; exact h139) (fun j hj => by rw [sr_at, if_pos hj, h139]) (fun a e => by cases e) (by omega) (by unfold hy_fu; omega)
    refine Op_ga h (r := tlR z (cvB (bsF (lf2 (σ 139) f) (mvs (σ 139) f) none))) (σ1 := σ1) (σ2 := τ) ?_ ?_ f1 (fr_tr (fr_sr _ _ (by simp [gaL]) (by omega)) (fr_wk b2 fun a ha => by simp at ha; simp [gaL]; omega))
    · unfold J42
      rw [c4, Option.bind_some, i_b2, if_pos h1, c3, Option.bind_some, i_b2, if_pos h2, c3, Option.bind_some, i_b2, if_pos h3]
      dsimp only
      rw [if_neg h4]
      unfold J48 J44
      rw [Option.bind_some, c40 hS.1 hc0 hf, Option.bind_some]
      dsimp only
      rw [show J48_1 hy_fu (In f) (In (mvs (σ 139) f).length) 0 _ = _ from a1, Option.bind_some, c47 a2 z, Option.bind_some]
    · unfold J158
      rw [m125, Option.bind_some, i_b2, if_pos h1, m125, Option.bind_some, i_b2, if_pos h2, m125, Option.bind_some, i_b2, if_pos h3]
      dsimp only
      rw [if_neg h4]
      unfold J164
      rw [m160 (by omega), Option.bind_some, show J164_1 hy_fu (In f) (-1) 0 0 _ = _ from b1, Option.bind_some]
      exact m158_4 b3 z
