/-! PURE: rows copied; the reference's best move -/
def sr (σ : Sg) (a : Nat) (R : Rw) : Sg := fun x => if x = a then R else σ x
theorem sr_at (σ : Sg) (a : Nat) (R : Rw) : sr σ a R a = R := by simp [sr]
theorem sr_ne (σ : Sg) {a b : Nat} (R : Rw) (h : b ≠ a) : sr σ a R b = σ b := by simp [sr, h]
theorem sr_wr (σ : Sg) (R : Rw) : sr σ 139 R = wr σ R := rfl
theorem fr_sr {L : List Nat} (σ : Sg) {a : Nat} (R : Rw) (h : a ∈ L) (ha : a ≠ 138) : fr L σ (sr σ a R) := by
  intro b j hb
  by_cases e : b = a
  · subst e
    exact absurd h (by simpa [fk, ha] using hb)
  · rw [sr_ne _ _ e]
theorem cp_gen (F : Nat → Int32 → Sg → Option Sg) (N d s di si : Nat) (hds : s ≠ d) (hF : ∀ f i σ, i ≤ N → F (f + 1) (In i) σ = if N ≤ i then some σ else F f (In (i + 1)) (hy_up σ d (i + di) (σ s (i + si)))) : ∀ (m i f : Nat) (σ : Sg), i + m = N → m < f → F f (In i) σ = some (sr σ d (fun k => if i + di ≤ k ∧ k < N + di then σ s (k - di + si) else σ d k)) := by
  intro m
  induction m with
  | zero =>
    intro i f σ hi hf
    obtain ⟨f, rfl⟩ : ∃ g, f = g + 1 := ⟨f - 1, by omega⟩
    rw [hF f i σ (by omega), if_pos (by omega)]
    congr 1
    funext a k
    by_cases h : a = d
    · subst h
      rw [sr_at, if_neg (by omega)]
    · rw [sr_ne _ _ h]
  | succ m ih =>
    intro i f σ hi hf
    obtain ⟨f, rfl⟩ : ∃ g, f = g + 1 := ⟨f - 1, by omega⟩
    rw [hF f i σ (by omega), if_neg (by omega), ih (i + 1) f _ (by omega) (by omega)]
    congr 1
    funext a k
    by_cases h : a = d
    · subst h
      rw [sr_at, sr_at, up_ne _ _ _ hds, up_same]
      by_cases h1 : i + 1 + di ≤ k ∧ k < N + di
      · rw [if_pos h1, if_pos (by omega)]
      · rw [if_neg h1]
        by_cases h2 : k = i + di
        · subst h2
          rw [upd_at, if_pos (by omega), show i + di - di + si = i + si by omega]
        · rw [upd_ne _ _ h2, if_neg (by omega)]
    · rw [sr_ne _ _ h, sr_ne _ _ h, up_ne _ _ _ h]
theorem m160 {r : Nat} (hr : 139 ≠ r) (σ : Sg) : J160 r σ = some (sr σ r (fun k => if k < 72 then σ 139 (k + 7) else σ r k)) := by
  unfold J160
  have := cp_gen (fun f x σ => J160_1 f r x σ) 72 r 139 0 7 hr (fun f i σ hi => by
    show J160_1 (f + 1) r (In i) σ = _
    conv => lhs; unfold J160_1
    rw [show (72 : Int32) = In 72 from rfl, i_le (by omega) (by omega), show (7 : Int32) = In 7 from rfl, n_add, n_p1]
    by_cases h : 72 ≤ i
    · rw [if_pos h, if_pos h]
    · rw [if_neg h, if_neg h, if_pos (ib_n (by omega) (by omega)), if_pos (ib_n (by omega) (by omega)), n_ix (by omega), n_ix (by omega), Nat.add_comm 7 i]
      rfl) 72 0 hy_fu σ (by omega) (by unfold hy_fu; omega)
  rw [show (0 : Int32) = In 0 from rfl, this]
  refine congrArg (fun R => some (sr σ _ R)) (funext fun k => ?_)
  by_cases h : k < 72
  · rw [if_pos (by omega), if_pos h]
    rfl
  · rw [if_neg (by omega), if_neg h]
theorem m163 {r : Nat} (hr : r ≠ 139) (σ : Sg) : J163 r σ = some (wr σ (fun k => if 7 ≤ k ∧ k < 79 then σ r (k - 7) else σ 139 k)) := by
  unfold J163
  have := cp_gen (fun f x σ => J163_1 f r x σ) 72 139 r 7 0 hr (fun f i σ hi => by
    show J163_1 (f + 1) r (In i) σ = _
    conv => lhs; unfold J163_1
    rw [show (72 : Int32) = In 72 from rfl, i_le (by omega) (by omega), show (7 : Int32) = In 7 from rfl, n_add, n_p1]
    by_cases h : 72 ≤ i
    · rw [if_pos h, if_pos h]
    · rw [if_neg h, if_neg h, if_pos (ib_n (by omega) (by omega)), if_pos (ib_n (by omega) (by omega)), n_ix (by omega), n_ix (by omega), Nat.add_comm 7 i]
      rfl) 72 0 hy_fu σ (by omega) (by unfold hy_fu; omega)
  rw [show (0 : Int32) = In 0 from rfl, this]
  refine congrArg (fun R => some (sr σ _ R)) (funext fun k => ?_)
  by_cases h : 7 ≤ k ∧ k < 79
  · rw [if_pos (by omega), if_pos h]
    rfl
  · rw [if_neg (by omega), if_neg h]
theorem m174 (σ : Sg) : J174 σ = some (sr σ 144 (fun k => if k < 79 then σ 139 k else σ 144 k)) := by
  unfold J174
  have := cp_gen (fun f x σ => J174_1 f x σ) 79 144 139 0 0 (by omega) (fun f i σ hi => by
    show J174_1 (f + 1) (In i) σ = _
    conv => lhs; unfold J174_1
    rw [show (79 : Int32) = In 79 from rfl, i_le (by omega) (by omega), n_p1]
    by_cases h : 79 ≤ i
    · rw [if_pos h, if_pos h]
    · rw [if_neg h, if_neg h, if_pos (ib_n (by omega) (by omega)), if_pos (ib_n (by omega) (by omega)), n_ix (by omega)]
      rfl) 79 0 hy_fu σ (by omega) (by unfold hy_fu; omega)
  rw [show (0 : Int32) = In 0 from rfl, this]
  refine congrArg (fun R => some (sr σ _ R)) (funext fun k => ?_)
  by_cases h : k < 79
  · rw [if_pos (by omega), if_pos h]
    rfl
  · rw [if_neg (by omega), if_neg h]
theorem m176 (σ : Sg) : J176 σ = some (wr σ (fun k => if k < 79 then σ 144 k else σ 139 k)) := by
  unfold J176
  have := cp_gen (fun f x σ => J176_1 f x σ) 79 139 144 0 0 (by omega) (fun f i σ hi => by
    show J176_1 (f + 1) (In i) σ = _
    conv => lhs; unfold J176_1
    rw [show (79 : Int32) = In 79 from rfl, i_le (by omega) (by omega), n_p1]
    by_cases h : 79 ≤ i
    · rw [if_pos h, if_pos h]
    · rw [if_neg h, if_neg h, if_pos (ib_n (by omega) (by omega)), if_pos (ib_n (by omega) (by omega)), n_ix (by omega)]
      rfl) 79 0 hy_fu σ (by omega) (by unfold hy_fu; omega)
  rw [show (0 : Int32) = In 0 from rfl, this]
  refine congrArg (fun R => some (sr σ _ R)) (funext fun k => ?_)
  by_cases h : k < 79
  · rw [if_pos (by omega), if_pos h]
    rfl
  · rw [if_neg (by omega), if_neg h]
theorem m214 {r0 r1 : Nat} (hr : r0 ≠ r1) (σ : Sg) : J214 r0 r1 σ = some (sr σ r1 (fun k => if k < 1451 then σ r0 k else σ r1 k)) := by
  unfold J214
  have := cp_gen (fun f x σ => J214_1 f r0 r1 x σ) 1451 r1 r0 0 0 hr (fun f i σ hi => by
    show J214_1 (f + 1) r0 r1 (In i) σ = _
    conv => lhs; unfold J214_1
    rw [show (1451 : Int32) = In 1451 from rfl, i_le (by omega) (by omega), n_p1]
    by_cases h : 1451 ≤ i
    · rw [if_pos h, if_pos h]
    · rw [if_neg h, if_neg h, if_pos (ib_n (by omega) (by omega)), if_pos (ib_n (by omega) (by omega)), n_ix (by omega)]
      rfl) 1451 0 hy_fu σ (by omega) (by unfold hy_fu; omega)
  rw [show (0 : Int32) = In 0 from rfl, this]
  refine congrArg (fun R => some (sr σ _ R)) (funext fun k => ?_)
  by_cases h : k < 1451
  · rw [if_pos (by omega), if_pos h]
    rfl
  · rw [if_neg (by omega), if_neg h]
def bs1 (ld : Nat → Int) (k : Nat) (acc : Option (Nat × Int)) : Option (Nat × Int) := match acc with
  | none => some (k, ld k)
  | some a => if a.2 < ld k then some (k, ld k) else some a
def bsF (ld : Nat → Int) : List Nat → Option (Nat × Int) → Option (Nat × Int)
  | [], acc => acc
  | k :: L, acc => bsF ld L (bs1 ld k acc)
def oM : Option (Nat × Int) → Int32
  | none => -1
  | some a => In (mv a.1)
def lf (S : Rw) (f k : Nat) : Int := ldS (mkS S (k / 36) (k % 36)) f
def bestS (S : Rw) (f : Nat) : Option (Nat × Int) := bsF (lf S f) (mvs S f) none
theorem cand_x {S : Rw} {f k : Nat} (h : cand S f k = true) : bf S (k / 36) 1 = f ∧ bf S (k / 36) 2 < 36 ∧ (∀ t, hd S (k % 36) = some t → bf S t 1 ≠ f) ∧ hd S (k % 36) ≠ some (k / 36) := by
  unfold cand mvB frB at h
  simp only [Bool.and_eq_true, decide_eq_true_eq] at h
  obtain ⟨h1, h2, h3, h4, h5⟩ := h
  have h6 : ∀ t, hd S (k % 36) = some t → bf S t 1 ≠ f := by
    intro t e
    rw [e] at h4
    dsimp only at h4
    rw [decide_eq_true_eq, h1] at h4
    exact h4
  exact ⟨h1, h2, h6, fun e => h6 _ e h1⟩
theorem mk_Ok {S : Rw} {b p : Nat} (hS : Ok S) (hb : b < nb S) (hp : p < 36) (hne : hd S p ≠ some b) : Ok (mkS S b p) := ⟨(mkS_ok hS.1 hb hp hne).1, eqT_Ok (mkS_eqT hS.1 hb) hS.2⟩
theorem mv_lt {k : Nat} (h : k < 432) : mv k < 1136 := by
  unfold mv
  omega
theorem oM_nn {a : Nat × Int} (h : a.1 < 432) : ¬ oM (some a) < 0 := by
  have := mv_lt h
  show ¬ In (mv a.1) < In 0
  rw [n_lt (by omega) (by omega)]
  omega
theorem m159_loop {S : Rw} (hS : Ok S) {r fm : Nat} (hr : r = 142 ∨ r = 143) (hf1 : fm ≤ 1) : ∀ (m k f : Nat) (acc : Option (Nat × Int)) (σ : Sg), σ 139 = S → (∀ j, j < 72 → σ r j = S (j + 7)) → (∀ a, acc = some a → σ 138 6 = Zn a.2 ∧ a.1 < 432 ∧ -12096 ≤ a.2 ∧ a.2 ≤ 12096) → k + m = 36 * nb S → m < f →
    ∃ σ', J159_1 f (In fm) r (oM acc) (In k) σ = some (oM (bsF (lf S fm) (mvL S fm k m) acc), σ') ∧ fr [151, 152, 10006] σ σ' ∧ (∀ a, bsF (lf S fm) (mvL S fm k m) acc = some a → σ' 138 6 = Zn a.2 ∧ a.1 < 432 ∧ -12096 ≤ a.2 ∧ a.2 ≤ 12096) := by
  have h12 := hS.1.1.2
  intro m
  induction m with
  | zero =>
    intro k f acc σ hs hr2 ha hk hf
    obtain ⟨f, rfl⟩ : ∃ g, f = g + 1 := ⟨f - 1, by omega⟩
    unfold J159_1
    rw [hs, n_36 hS.1, i_le (by omega) (by omega), if_pos (by omega)]
    exact ⟨σ, rfl, fr_rf _ _, ha⟩
  | succ m ih =>
    intro k f acc σ hs hr2 ha hk hf
    obtain ⟨f, rfl⟩ : ∃ g, f = g + 1 := ⟨f - 1, by omega⟩
    have hb : k / 36 < nb S := by omega
    obtain ⟨-, ⟨f1, f2⟩, -, -⟩ := hS.1.2.1 _ hb
    have hrr : r ≠ 139 ∧ r ≠ 138 ∧ r ∉ [151, 152, 10006] := by rcases hr with h | h <;> subst h <;> simp
    -- on to the next
    have go : ∀ (acc' : Option (Nat × Int)) (σ1 : Sg), fr [151, 152, 10006] σ σ1 → (∀ a, acc' = some a → σ1 138 6 = Zn a.2 ∧ a.1 < 432 ∧ -12096 ≤ a.2 ∧ a.2 ≤ 12096) → bsF (lf S fm) (mvL S fm k (m + 1)) acc = bsF (lf S fm) (mvL S fm (k + 1) m) acc' → ∀ x5, ∃ σ', J159_3 (J159_1 f) (In fm) r (oM acc') (In k) x5 σ1 = some (oM (bsF (lf S fm) (mvL S fm k (m + 1)) acc), σ') ∧ fr [151, 152, 10006] σ σ' ∧ (∀ a, bsF (lf S fm) (mvL S fm k (m + 1)) acc = some a → σ' 138 6 = Zn a.2 ∧ a.1 < 432 ∧ -12096 ≤ a.2 ∧ a.2 ≤ 12096) := by
      intro acc' σ1 hf1 ha1 he x5
      obtain ⟨σ', q1, q2, q3⟩ := ih (k + 1) f acc' σ1 ((fr_row hf1 (by omega) (by simp)).trans hs) (fun j hj => by rw [fr_row hf1 hrr.2.1 hrr.2.2]; exact hr2 j hj) ha1 (by omega) (by omega)
      unfold J159_3
      rw [n_p1, he]
      exact ⟨σ', q1, fr_tr hf1 q2, q3⟩
    unfold J159_1
    rw [hs, n_36 hS.1, i_le (by omega) (by omega), if_neg (by omega), show (36 : Int32) = In 36 from rfl, n_div (by omega) (by omega), n_rem (by omega) (by omega), show J128 (In (k / 36)) 1 σ = _ from m128 (w := 1) (by omega) σ, Option.bind_some, hs, f1]
    dsimp only
    rw [i_eq (by omega) (by omega), m143 (by rw [hs]; exact hS.1) (by rw [hs]; exact hb) (by omega), Option.bind_some, hs, i_bb]
    dsimp only
    have hskip : cand S fm k = false → bsF (lf S fm) (mvL S fm k (m + 1)) acc = bsF (lf S fm) (mvL S fm (k + 1) m) acc := fun h => by
      rw [mvL_s, h, if_neg (by decide)]
    by_cases h1 : bf S (k / 36) 1 = fm
    · rw [if_pos h1]
      by_cases h2 : mvB S (k / 36) (k % 36) = true
      · rw [if_pos h2]
        have hcd : cand S fm k = true := by
          unfold cand
          rw [decide_eq_true h1, h2]
          rfl
        obtain ⟨x1, x2, x3, x4⟩ := cand_x hcd
        have hT := mk_Ok hS hb (by omega) x4
        have hbd := ldS_bd hT.1 fm
        rw [m156 (by rw [hs]; exact hS.1) (by rw [hs]; exact hb) (by omega), Option.bind_some, hs]
        dsimp only
        obtain ⟨σ4, q1, q2⟩ := m161 (σ := wr σ (mkS S (k / 36) (k % 36))) (wr_at _ _) hT hf1
        rw [q1, Option.bind_some]
        dsimp only
        rw [m163 hrr.1, Option.bind_some]
        have hr4 : σ4 r = σ r := by
          rw [fr_row q2 hrr.2.1 (by intro z; exact hrr.2.2 (by simp at z ⊢; omega)), wr_ne _ _ hrr.1]
        have h139 : σ4 139 = mkS S (k / 36) (k % 36) := by rw [fr_row q2 (by omega) (by simp), wr_at]
        have hrow : (fun j => if 7 ≤ j ∧ j < 79 then σ4 r (j - 7) else σ4 139 j) = S := by
          funext j
          by_cases hj : 7 ≤ j ∧ j < 79
          · rw [if_pos hj, hr4, hr2 _ (by omega), show j - 7 + 7 = j by omega]
          · rw [if_neg hj, h139]
            exact mkS_out (by omega) (hd_lt12 hS.1) (by omega)
        rw [hrow]
        have hf4 : fr [151, 152, 10006] σ (wr σ4 S) := by
          intro a j hj
          by_cases ha139 : a = 139
          · subst ha139
            rw [wr_at, hs]
          · rw [wr_ne _ _ ha139, q2 a j (fun z => hj (by simp at z ⊢; omega)), wr_ne _ _ ha139]
        have hnew : ∀ (σ5 : Sg), σ5 = hy_up (wr σ4 S) 138 6 (Zn (ldS (mkS S (k / 36) (k % 36)) fm)) → bs1 (lf S fm) k acc = some (k, lf S fm k) → ∃ σ', J159_2 (J159_1 f) (In fm) r (In k) (In (k / 36)) (Zn (ldS (mkS S (k / 36) (k % 36)) fm)) (wr σ4 S) = some (oM (bsF (lf S fm) (mvL S fm k (m + 1)) acc), σ') ∧ fr [151, 152, 10006] σ σ' ∧ (∀ a, bsF (lf S fm) (mvL S fm k (m + 1)) acc = some a → σ' 138 6 = Zn a.2 ∧ a.1 < 432 ∧ -12096 ≤ a.2 ∧ a.2 ≤ 12096) := by
          intro σ5 h5 hb1
          unfold J159_2
          rw [← h5, show (36 : Int32) = In 36 from rfl, n_rem (by omega) (by omega), show (100 : Int32) = In 100 from rfl, n_mul, n_add]
          apply go (some (k, lf S fm k)) σ5
          · rw [h5]
            exact fr_tr hf4 (fr_up _ _ _ _ (by simp [fk]))
          · intro a e
            cases e
            refine ⟨?_, by show k < 432; omega, hbd.1, hbd.2⟩
            rw [h5, up_same, upd_at]
            rfl
          · rw [mvL_s, hcd, if_pos rfl]
            show bsF _ _ (bs1 (lf S fm) k acc) = _
            rw [hb1]
        cases acc with
        | none =>
          rw [if_pos (show oM none < 0 by decide)]
          exact hnew _ rfl rfl
        | some a =>
          obtain ⟨a1, a2, a3, a4⟩ := ha a rfl
          rw [if_neg (oM_nn a2)]
          have h6 : wr σ4 S 138 6 = Zn a.2 := by
            rw [wr_ne _ _ (by omega), q2 138 6 (by simp [fk]), wr_ne _ _ (by omega)]
            exact a1
          rw [h6, ite_c (z_le (by omega) (by omega) (by omega) (by omega))]
          by_cases h7 : a.2 < lf S fm k
          · rw [if_neg (by unfold lf at h7; omega)]
            exact hnew _ rfl (by unfold bs1; dsimp only; rw [if_pos h7])
          · rw [if_pos (by unfold lf at h7; omega)]
            apply go (some a) (wr σ4 S) hf4
            · intro a' e
              cases e
              exact ⟨h6, a2, a3, a4⟩
            · rw [mvL_s, hcd, if_pos rfl]
              show bsF _ _ (bs1 (lf S fm) k (some a)) = _
              unfold bs1
              dsimp only
              rw [if_neg h7]
      · rw [if_neg h2]
        exact go acc σ (fr_rf _ _) ha (hskip (by
          unfold cand
          rw [decide_eq_true h1, Bool.true_and]
          exact Bool.eq_false_iff.mpr h2)) _
    · rw [if_neg h1]
      exact go acc σ (fr_rf _ _) ha (hskip (by
        unfold cand
        rw [decide_eq_false h1]
        rfl)) _
