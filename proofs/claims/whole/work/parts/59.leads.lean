/-! PURE: leads on both sides -/
def sg (S : Rw) (f b : Nat) : Int := if bf S b 2 < 36 then (if bf S b 1 = f then (vl S b : Int) else -(vl S b : Int)) else 0
def ldS (S : Rw) (f : Nat) : Int := smZ (sg S f) 0 (nb S)
theorem vl_le {S : Rw} (hS : OkR S) {b : Nat} (hb : b < nb S) : vl S b ≤ 1008 := by
  obtain ⟨-, -, -, ⟨-, -, h⟩⟩ := hS.2.1 b hb
  exact vw_le h
theorem sg_bd {S : Rw} (hS : OkR S) {f b : Nat} (hb : b < nb S) : -1008 ≤ sg S f b ∧ sg S f b ≤ 1008 := by
  have := vl_le hS hb
  unfold sg
  split
  · split <;> omega
  · omega
theorem ldS_bd {S : Rw} (hS : OkR S) (f : Nat) : -12096 ≤ ldS S f ∧ ldS S f ≤ 12096 := by
  have h12 := hS.1.2
  have := smZ_bd (f := sg S f) (c := 1008) (m := nb S) (i := 0) fun b _ h => sg_bd hS (by omega)
  unfold ldS
  have h2 : (1008 : Int) * (nb S : Int) ≤ 1008 * 12 := by omega
  omega
theorem m161_loop {S : Rw} (hS : Ok S) {fm : Nat} (hf : fm ≤ 1) : ∀ (m i f : Nat) (a : Int) (σ : Sg), σ 139 = S → i + m = nb S → m < f →
    ∃ σ', J161_1 f (In fm) (Zn a) (In i) σ = some (Zn (a + smZ (sg S fm) i m), σ') ∧ fr [151, 152] σ σ' := by
  have h12 := hS.1.1.2
  have h1 := hS.1.1.1
  intro m
  induction m with
  | zero =>
    intro i f a σ hs hi hf
    obtain ⟨f, rfl⟩ : ∃ g, f = g + 1 := ⟨f - 1, by omega⟩
    unfold J161_1
    rw [hs, h1, if_pos (by rw [n_le (by omega) (by omega)]; omega)]
    exact ⟨σ, by rw [show smZ (sg S fm) i 0 = 0 from rfl, Int.add_zero], fr_rf _ _⟩
  | succ m ih =>
    intro i f a σ hs hi hf
    obtain ⟨f, rfl⟩ : ∃ g, f = g + 1 := ⟨f - 1, by omega⟩
    have hb : i < nb S := by omega
    obtain ⟨-, ⟨f1, f2⟩, -, -⟩ := hS.1.2.1 i hb
    have key : ∀ (x : Int) (σ1 : Sg), σ1 139 = S → fr [151, 152] σ σ1 → (if bf S i 1 = fm then x else -x) = sg S fm i →
        ∃ σ', J161_3 (J161_1 f) (Zn x) (In fm) (Zn a) (In i) σ1 = some (Zn (a + smZ (sg S fm) i (m + 1)), σ') ∧ fr [151, 152] σ σ' := by
      intro x σ1 h1 h2 h3
      unfold J161_3 J161_5
      rw [show J128 (In i) 1 σ1 = _ from m128 (w := 1) (by omega) σ1, Option.bind_some, h1, f1]
      dsimp only
      rw [z_neg, z_add, z_add, n_p1, i_eq (by omega) (by omega)]
      have e : ∀ y, y = sg S fm i → ∃ σ', J161_1 f (In fm) (Zn (a + y)) (In (i + 1)) σ1 = some (Zn (a + smZ (sg S fm) i (m + 1)), σ') ∧ fr [151, 152] σ σ' := by
        intro y hy
        obtain ⟨σ', q1, q2⟩ := ih (i + 1) f (a + y) σ1 h1 (by omega) (by omega)
        refine ⟨σ', ?_, fr_tr h2 q2⟩
        rw [q1, hy, Int.add_assoc]
        rfl
      by_cases hh : bf S i 1 = fm
      · rw [if_pos hh] at h3 ⊢
        exact e _ h3
      · rw [if_neg hh] at h3 ⊢
        exact e _ h3
    unfold J161_1
    rw [hs, h1, if_neg (by rw [n_le (by omega) (by omega)]; omega), m162 (by rw [hs]; exact hS.1) (by rw [hs]; exact hb), Option.bind_some, hs]
    simp only [b2_0]
    by_cases ho : bf S i 2 < 36
    · rw [if_neg (fun z => z ho)]
      obtain ⟨σ1, q1, q2⟩ := m133 (σ := σ) (b := i) (by rw [hs]; exact hS) (by rw [hs]; exact hb)
      rw [q1, Option.bind_some, hs]
      dsimp only
      rw [n_z (vl S i)]
      exact key (vl S i) σ1 ((fr_row q2 (by omega) (by simp)).trans hs) q2 (by unfold sg; rw [if_pos ho])
    · rw [if_pos ho]
      exact key 0 σ hs (fr_rf _ _) (by unfold sg; rw [if_neg ho]; simp)
theorem m161 {σ : Sg} {S : Rw} (hs : σ 139 = S) (hS : Ok S) {fm : Nat} (hf : fm ≤ 1) : ∃ σ', J161 (In fm) σ = some (Zn (ldS S fm), σ') ∧ fr [151, 152] σ σ' := by
  have h12 := hS.1.1.2
  obtain ⟨σ', h1, h2⟩ := m161_loop hS hf (nb S) 0 hy_fu 0 σ hs (by omega) (by unfold hy_fu; omega)
  refine ⟨σ', ?_, h2⟩
  unfold J161
  rw [show (0 : Int32) = Zn 0 from rfl] at *
  rw [show (In 0 : Int32) = Zn 0 from rfl] at h1
  rw [h1, Int.zero_add]
  rfl
theorem c9 {σ : Sg} {o b : Nat} {S : Rw} (hS : OkR S) (hc : Rc σ o S) (hb : b < nb S) : J9 o (In b) σ = some (b2 (bf S b 2 < 36), σ) := by
  have h12 := hS.1.2
  obtain ⟨-, -, ⟨p1, p2⟩, -⟩ := hS.2.1 b hb
  unfold J9
  rw [if_pos (ib_n (by omega) (by omega)), n_ix (by omega), hc.2.1 b hb 2 (by omega), p1, c5, Option.bind_some]
  simp only [b2_01, if_true]
  congr 2
  apply b2_c
  rw [show (0 : Int32) = In 0 from rfl, show (35 : Int32) = In 35 from rfl, n_le (by omega) (by omega), n_le (by omega) (by omega)]
  omega
def vaP (o a : Nat) : Prop := a = o + 5 ∨ plP a
theorem Rc_va {σ σ' : Sg} {o : Nat} {S : Rw} (ho : 81 ≤ o) (hS : OkR S) (h : Rc σ o S) (hf : fp (vaP o) σ σ') : Rc σ' o S := Rc_c hS h fun a ha => hf a (by unfold coP at ha; unfold vaP plP; omega)
theorem Rl_va {σ σ' : Sg} {o : Nat} {S : Rw} (ho : 81 ≤ o) (hS : OkR S) (h : Rl σ S) (hf : fp (vaP o) σ σ') : Rl σ' S := Rl_c hS h fun a h1 h2 h3 => hf a (by unfold vaP plP; omega)
theorem c45_loop {S : Rw} (hS : Ok S) {o fm : Nat} (ho : 81 ≤ o) (hf : fm ≤ 1) : ∀ (m i f : Nat) (a : Int) (σ : Sg), Rc σ o S → Rl σ S → i + m = nb S → m < f → (∀ b, b < i → bf S b 2 < 36 → σ (o + 5) b = In (vl S b)) →
    ∃ σ', J45_1 f o (In fm) (Zn a) (In i) σ = some (Zn (a + smZ (sg S fm) i m), σ') ∧ fp (vaP o) σ σ' ∧ (∀ b, b < nb S → bf S b 2 < 36 → σ' (o + 5) b = In (vl S b)) := by
  have h12 := hS.1.1.2
  have h1 := hS.1.1.1
  intro m
  induction m with
  | zero =>
    intro i f a σ hc hl hi hf hv
    obtain ⟨f, rfl⟩ : ∃ g, f = g + 1 := ⟨f - 1, by omega⟩
    unfold J45_1
    rw [hc.1.1, h1, if_pos (by rw [n_le (by omega) (by omega)]; omega)]
    exact ⟨σ, by rw [show smZ (sg S fm) i 0 = 0 from rfl, Int.add_zero], fp_rf _ _, fun b hb => hv b (by omega)⟩
  | succ m ih =>
    intro i f a σ hc hl hi hf hv
    obtain ⟨f, rfl⟩ : ∃ g, f = g + 1 := ⟨f - 1, by omega⟩
    have hb : i < nb S := by omega
    obtain ⟨⟨k1, k2⟩, ⟨f1, f2⟩, ⟨p1, p2⟩, ⟨y1, y2, y3⟩⟩ := hS.1.2.1 i hb
    have e : ∀ (y : Int) (σ1 : Sg), fp (vaP o) σ σ1 → (∀ b, b < i + 1 → bf S b 2 < 36 → σ1 (o + 5) b = In (vl S b)) → y = sg S fm i → ∃ σ', J45_1 f o (In fm) (Zn (a + y)) (In (i + 1)) σ1 = some (Zn (a + smZ (sg S fm) i (m + 1)), σ') ∧ fp (vaP o) σ σ' ∧ (∀ b, b < nb S → bf S b 2 < 36 → σ' (o + 5) b = In (vl S b)) := by
      intro y σ1 h2 h3 hy
      obtain ⟨σ', q1, q2, q3⟩ := ih (i + 1) f (a + y) σ1 (Rc_va ho hS.1 hc h2) (Rl_va ho hS.1 hl h2) (by omega) (by omega) h3
      refine ⟨σ', ?_, fp_tr h2 q2, q3⟩
      rw [q1, hy, Int.add_assoc]
      rfl
    unfold J45_1
    rw [hc.1.1, h1, if_neg (by rw [n_le (by omega) (by omega)]; omega), if_pos (ib_n (by omega) (by omega)), c9 hS.1 hc hb, Option.bind_some]
    simp only [b2_0]
    by_cases hon : bf S i 2 < 36
    · rw [if_neg (fun z => z hon), n_ix (by omega), hc.2.1 i hb 0 (by omega), hc.2.1 i hb 2 (by omega), hc.2.1 i hb 3 (by omega), hc.2.1 i hb 4 (by omega), k1, p1, y1]
      obtain ⟨σ1, q1, q2⟩ := c12 (o := o) (k := bf S i 0) (h := bf S i 3) (p := bf S i 2) (S (7 + 6 * i + 4)) hS (hc.2.2.2 0 (by omega)) hl k2 y3
      rw [q1, Option.bind_some]
      dsimp only
      have q2' : fp (vaP o) σ σ1 := fp_wk q2 fun a h => Or.inr h
      have hc1 := Rc_va ho hS.1 hc q2'
      rw [if_pos (ib_n (by omega) (by omega)), if_pos (ib_n (by omega) (by omega)), if_pos (ib_n (by omega) (by omega)), up_ne _ _ _ (show o + 7 + i ≠ o + 5 by omega), hc1.2.1 i hb 1 (by omega), f1, up_same, upd_at, i_eq (by omega) (by omega)]
      unfold J45_3 J45_4
      rw [show In (vw S (bf S i 0) (bf S i 3) (bf S i 2) (S (7 + 6 * i + 4))) = Zn (vl S i) from n_z _, z_neg, z_add, z_add, n_p1]
      have h2 : fp (vaP o) σ (hy_up σ1 (o + 5) i (Zn (vl S i))) := fp_tr q2' (fp_up _ _ _ _ (Or.inl rfl))
      have h3 : ∀ b, b < i + 1 → bf S b 2 < 36 → hy_up σ1 (o + 5) i (Zn (vl S i)) (o + 5) b = In (vl S b) := by
        intro b hbi hbo
        rw [up_same]
        by_cases hbe : b = i
        · subst hbe
          rw [upd_at, ← n_z]
        · rw [upd_ne _ _ hbe, q2 (o + 5) (by unfold plP; omega)]
          exact hv b (by omega) hbo
      by_cases hh : bf S i 1 = fm
      · rw [if_pos hh]
        exact e _ _ h2 h3 (by unfold sg; rw [if_pos hon, if_pos hh])
      · rw [if_neg hh]
        exact e _ _ h2 h3 (by unfold sg; rw [if_pos hon, if_neg hh])
    · rw [if_pos hon]
      unfold J45_4
      rw [n_p1]
      have := e 0 σ (fp_rf _ _) (fun b hbi hbo => hv b (by
        by_cases hbe : b = i
        · subst hbe; exact absurd hbo hon
        · omega) hbo) (by unfold sg; rw [if_neg hon])
      rw [Int.add_zero] at this
      exact this
theorem c45 {σ : Sg} {S : Rw} {o fm : Nat} (ho : 81 ≤ o) (hS : Ok S) (hc : Rc σ o S) (hl : Rl σ S) (hf : fm ≤ 1) : ∃ σ', J45 o (In fm) σ = some (Zn (ldS S fm), σ') ∧ fp (vaP o) σ σ' ∧ (∀ b, b < nb S → bf S b 2 < 36 → σ' (o + 5) b = In (vl S b)) := by
  have h12 := hS.1.1.2
  obtain ⟨σ', h1, h2, h3⟩ := c45_loop hS ho hf (nb S) 0 hy_fu 0 σ hc hl (by omega) (by unfold hy_fu; omega) (fun b hb => by omega)
  refine ⟨σ', ?_, h2, h3⟩
  unfold J45
  rw [show (In 0 : Int32) = 0 from rfl, show Zn 0 = (0 : Int32) from rfl] at h1
  rw [h1, Int.zero_add]
  rfl
