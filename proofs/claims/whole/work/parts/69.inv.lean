/-! PURE: what holds between the calls -/
/-- two rows that are the same as far as anything is read of them -/
def eqR (S T : Rw) : Prop := ∀ k, k < 1451 → T k = S k
theorem eqR_nb {S T : Rw} (h : eqR S T) : nb T = nb S := by
  unfold nb
  rw [h 1 (by omega)]
theorem eqR_nt {S T : Rw} (h : eqR S T) : nt T = nt S := by
  unfold nt
  rw [h 6 (by omega)]
theorem eqR_bf {S T : Rw} (h : eqR S T) {b w : Nat} (hb : b < 12) (hw : w < 6) : bf T b w = bf S b w := by
  unfold bf
  rw [h _ (by omega)]
theorem eqR_OkR {S T : Rw} (h : eqR S T) (hS : OkR S) : OkR T := by
  obtain ⟨⟨a1, a2⟩, a3, a4, a5, a6, a7, a8, a9⟩ := hS
  have hn := eqR_nb h
  refine ⟨⟨by rw [hn, h 1 (by omega)]; exact a1, by rw [hn]; exact a2⟩, fun c hc => ?_, fun c d q1 q2 q3 => ?_, ⟨rfl, rfl⟩, by rw [h 3 (by omega)]; exact a6, by rw [h 4 (by omega)]; exact a7, by rw [h 5 (by omega)]; exact a8, by rw [h 6 (by omega)]; exact a9⟩
  · rw [hn] at hc
    have hB := a3 c hc
    unfold OkB at hB ⊢
    rw [h (7 + 6 * c + 0) (by omega), h (7 + 6 * c + 1) (by omega), h (7 + 6 * c + 2) (by omega), h (7 + 6 * c + 3) (by omega), eqR_bf h (by omega) (by omega), eqR_bf h (by omega) (by omega), eqR_bf h (by omega) (by omega), eqR_bf h (by omega) (by omega)]
    exact hB
  · rw [hn] at q2
    rw [eqR_bf h (by omega) (by omega), eqR_bf h (by omega) (by omega)] at q3
    rw [eqR_bf h (by omega) (by omega)]
    exact a4 c d q1 q2 q3
theorem dpL_c {c c' : Nat → Int32} : ∀ {m d i : Nat}, (∀ k, i ≤ k → k < i + m → c' k = c k) → dpL c' d i m = dpL c d i m := by
  intro m
  induction m with
  | zero => intro d i _; rfl
  | succ m ih =>
    intro d i h
    unfold dpL
    rw [h i (Nat.le_refl _) (by omega)]
    congr 1
    funext d'
    exact ih fun k h1 h2 => h k (by omega) (by omega)
/-- the texts of the first n are the same -/
def eqN (n : Nat) (S T : Rw) : Prop := ∀ t, t < n → T (79 + 2 * t) = S (79 + 2 * t) ∧ T (80 + 2 * t) = S (80 + 2 * t) ∧ ∀ k, k < tlen S t → tcode T t k = tcode S t k
theorem eqN_l {n : Nat} {S T : Rw} (h : eqN n S T) {t : Nat} (ht : t < n) : tlen T t = tlen S t ∧ tkey T t = tkey S t := by
  unfold tlen tkey
  rw [(h t ht).1]
  exact ⟨rfl, rfl⟩
theorem eqN_Rl {n : Nat} {σ : Sg} {S T : Rw} (h : eqN n S T) (h1 : n ≤ nt S) (h2 : nt T = n) (hl : Rl σ S) : Rl σ T := by
  intro t ht
  rw [h2] at ht
  obtain ⟨q1, q2, q3, q4⟩ := hl t (by omega)
  obtain ⟨e1, e2⟩ := eqN_l h ht
  obtain ⟨h3, h4, h5⟩ := h t ht
  rw [e1, e2, h4]
  exact ⟨q1, q2, q3, fun k hk => by rw [h5 k hk]; exact q4 k hk⟩
theorem eqN_OkT {n : Nat} {S T : Rw} (h : eqN n S T) (h1 : n ≤ nt S) (h2 : nt T = n) (hS : OkT S) : OkT T := by
  refine ⟨fun t ht => ?_, fun t ht => ?_⟩
  · rw [h2] at ht
    rw [(h t ht).1]
    exact hS.1 t (by omega)
  · rw [h2] at ht
    obtain ⟨e1, e2⟩ := eqN_l h ht
    obtain ⟨q1, q2⟩ := hS.2 t (by omega)
    rw [e1, e2]
    refine ⟨?_, fun k hk j hj e => ?_⟩
    · rw [dpL_c (c := tcode S t) fun k _ hk => (h t ht).2.2 k (by omega)]
      exact q1
    · rw [(h t ht).2.2 k hk] at e
      exact q2 k hk j hj e
theorem eqR_N {S T : Rw} (h : eqR S T) (hS : Ok S) : eqN (nt S) S T := by
  intro t ht
  have h14 := nt_le hS.1
  refine ⟨h _ (by omega), h _ (by omega), fun k hk => ?_⟩
  have := tlen_le hS.2 ht
  exact h _ (by omega)
theorem eqR_Ok {S T : Rw} (h : eqR S T) (hS : Ok S) : Ok T := ⟨eqR_OkR h hS.1, eqN_OkT (eqR_N h hS) (Nat.le_refl _) (eqR_nt h) hS.2⟩
theorem eqR_Rl {σ : Sg} {S T : Rw} (h : eqR S T) (hS : Ok S) (hl : Rl σ S) : Rl σ T := eqN_Rl (eqR_N h hS) (Nat.le_refl _) (eqR_nt h) hl
theorem eqR_ct {S T : Rw} (h : eqR S T) (hS : OkR S) (key : Nat) : ct T key = ct S key := by
  have h14 := nt_le hS
  unfold ct
  rw [eqR_nt h]
  exact ctL_c fun t ht => h _ (by omega)
theorem eqR_hd {S T : Rw} (h : eqR S T) (hS : OkR S) (p : Nat) : hd T p = hd S p := by
  have h12 := hS.1.2
  exact hd_c (eqR_nb h) fun b hb => eqR_bf h (by omega) (by omega)
theorem eqR_Rc {σ : Sg} {o : Nat} {S T : Rw} (h : eqR S T) (hS : OkR S) (hc : Rc σ o S) : Rc σ o T := by
  have h12 := hS.1.2
  obtain ⟨⟨a1, a2, a3, a4, a5, a6, a7⟩, h2, h3, h4⟩ := hc
  refine ⟨?_, fun b hb w hw => ?_, fun p hp => ?_, fun k hk => ?_⟩
  · rw [h 1 (by omega), h 2 (by omega), h 3 (by omega), h 4 (by omega), h 5 (by omega), h 6 (by omega), h 0 (by omega)]
    exact ⟨a1, a2, a3, a4, a5, a6, a7⟩
  · rw [eqR_nb h] at hb
    rw [h _ (by omega)]
    exact h2 b hb w hw
  · rw [eqR_hd h hS]
    exact h3 p hp
  · rw [eqR_ct h hS]
    exact h4 k hk
def DayOk (S : Rw) : Prop := S 2 = In (hy_ix (S 2)) ∧ hy_ix (S 2) ≤ 9999
/-- the commons, the texts, the image -/
def Iv_a (σ : Sg) : Prop := Ok (σ 139) ∧ DayOk (σ 139) ∧ Rc σ 81 (σ 139) ∧ Rl σ (σ 139) ∧ σ 0 5 = σ 138 3 ∧ (σ 0 5 = 0 ∨ (σ 0 5 = 1 ∧ Ok (σ 140) ∧ DayOk (σ 140) ∧ Rc σ 119 (σ 140) ∧ nt (σ 140) ≤ nt (σ 139) ∧ eqN (nt (σ 140)) (σ 139) (σ 140)))
/-- the tape -/
def Iv_b (σ : Sg) : Prop := ∃ n, n ≤ 96 ∧ σ 2 2 = In n ∧ σ 138 9 = In n ∧ ∀ k, k < 96 → σ 3 k = σ 145 k ∧ ∃ c, c < 256 ∧ σ 145 k = In c
def kyL : List Int32 := [104, 97, 121, 102, 101, 101, 102, 105, 110, 101]
def kaL : List Int32 := [0, 3, 6, 10]
/-- what never changes: keys, strings -/
def Iv_c (σ : Sg) : Prop := (∀ j, j < 10 → σ 146 j = kyL.getD j 0) ∧ (∀ j, j < 4 → σ 147 j = kaL.getD j 0) ∧ (∀ i, i < 6 → (∀ j, j < hy_SLn.getD i 0 → σ (1010 + i) j = (hy_SBl.getD i []).getD j 0) ∧ σ (1010 + i) 5000 = In (hy_SLn.getD i 0) ∧ σ (1000 + i) 1 = 0)
def clOk (x : Int32) : Prop := x = -1000000005 ∨ ∃ z : Int, -99999 ≤ z ∧ z ≤ 99999 ∧ x = Zn z
/-- the sheets -/
def Iv_d (σ : Sg) : Prop := ∀ s, s < 4 → σ (53 + 2 * s) 1 = σ 153 s ∧ (σ 153 s = -1 ∨ σ 153 s = 0 ∨ σ 153 s = 1) ∧ (∃ n, n ≤ 24 ∧ σ (53 + 2 * s) 2 = In n ∧ σ 154 s = In n) ∧ ∀ k, k < 24 → σ (54 + 2 * s) k = σ 155 (24 * s + k) ∧ clOk (σ 155 (24 * s + k))
/-- the slots -/
def wrK (k : Nat) (h : Int32) : Int32 := if k = 1 then h + 4 else if k = 2 then 99 - h else if k = 3 then 2 * (h + 4) else if k = 4 then 92 - h else if k = 5 then 2 else h
def Iv_e (σ : Sg) : Prop := ∀ i, i < 5 → σ (61 + 4 * i) 2 = σ 156 i ∧ (σ 156 i = 0 ∨ (σ 156 i = 1 ∧ ∃ k, k ≤ 5 ∧ σ (62 + 4 * i) 0 = In k ∧ σ 157 i = In k ∧ σ 158 i = wrK k (σ (62 + 4 * i) 3)) ∨ (σ 156 i = 2 ∧ ∃ n, n ≤ 24 ∧ σ (63 + 4 * i) 2 = In n ∧ σ 157 i = In n ∧ ∀ k, k < 24 → σ (64 + 4 * i) k = σ 159 (24 * i + k)) ∨ (σ 156 i = 3 ∧ σ (61 + 4 * i) 3 = σ 157 i))
/-- the numbers that wait -/
def Iv_f (σ : Sg) : Prop := ∃ n, n ≤ 60 ∧ σ 0 10 = In n ∧ σ 138 35 = In n ∧ ∀ k, k < n → σ 10 k = σ 161 k
def Iv (σ : Sg) : Prop := Iv_a σ ∧ Iv_b σ ∧ Iv_c σ ∧ Iv_d σ ∧ Iv_e σ ∧ Iv_f σ
theorem Iv_b_c {σ τ : Sg} (h : Iv_b σ) (h1 : τ 2 = σ 2) (h2 : τ 3 = σ 3) (h3 : τ 145 = σ 145) (h4 : τ 138 9 = σ 138 9) : Iv_b τ := by
  unfold Iv_b
  rw [h1, h2, h3, h4]
  exact h
theorem Iv_c_c {σ τ : Sg} (h : Iv_c σ) (h1 : τ 146 = σ 146) (h2 : τ 147 = σ 147) (h3 : ∀ a, 1000 ≤ a → a < 1016 → τ a = σ a) : Iv_c τ := by
  refine ⟨by rw [h1]; exact h.1, by rw [h2]; exact h.2.1, fun i hi => ?_⟩
  rw [h3 (1010 + i) (by omega) (by omega), h3 (1000 + i) (by omega) (by omega)]
  exact h.2.2 i hi
theorem Iv_d_c {σ τ : Sg} (h : Iv_d σ) (h1 : ∀ a, 53 ≤ a → a < 61 → τ a = σ a) (h2 : ∀ a, 153 ≤ a → a ≤ 155 → τ a = σ a) : Iv_d τ := by
  intro s hs
  rw [h1 (53 + 2 * s) (by omega) (by omega), h1 (54 + 2 * s) (by omega) (by omega), h2 153 (by omega) (by omega), h2 154 (by omega) (by omega), h2 155 (by omega) (by omega)]
  exact h s hs
theorem Iv_e_c {σ τ : Sg} (h : Iv_e σ) (h1 : ∀ a, 61 ≤ a → a < 81 → τ a = σ a) (h2 : ∀ a, 156 ≤ a → a ≤ 159 → τ a = σ a) : Iv_e τ := by
  intro i hi
  rw [h1 (61 + 4 * i) (by omega) (by omega), h1 (62 + 4 * i) (by omega) (by omega), h1 (63 + 4 * i) (by omega) (by omega), h1 (64 + 4 * i) (by omega) (by omega), h2 156 (by omega) (by omega), h2 157 (by omega) (by omega), h2 158 (by omega) (by omega), h2 159 (by omega) (by omega)]
  exact h i hi
theorem Iv_f_c {σ τ : Sg} (h : Iv_f σ) (h1 : τ 0 10 = σ 0 10) (h2 : τ 10 = σ 10) (h3 : τ 138 35 = σ 138 35) (h4 : τ 161 = σ 161) : Iv_f τ := by
  unfold Iv_f
  rw [h1, h2, h3, h4]
  exact h
/-- the class's scratch -/
def gaP (a : Nat) : Prop := (100 ≤ a ∧ a ≤ 118) ∨ (85 ≤ a ∧ a ≤ 87) ∨ a = 7 ∨ plP a
def gaL : List Nat := [141, 142, 143, 144, 151, 152, 10006]
theorem Iv_ga {σ σ1 σ2 : Sg} (h : Iv σ) (h1 : fp gaP σ σ1) (h2 : fr gaL σ1 σ2) : Iv σ2 := by
  have key : ∀ a, a ≠ 138 → a ∉ gaL → ¬ gaP a → σ2 a = σ a := fun a q1 q2 q3 => (fr_row h2 q1 q2).trans (h1 a q3)
  have keyc : ∀ a, a < 138 → ¬ gaP a → σ2 a = σ a := fun a q1 q3 => key a (by omega) (by simp [gaL]; omega) q3
  have k138 : ∀ k, k ≠ 6 → σ2 138 k = σ 138 k := fun k q => (fr_slot h2 (by simp [gaL]; omega)).trans (congrFun (h1 138 (by unfold gaP plP; omega)) k)
  obtain ⟨⟨a1, a2, a3, a4, a5, a6⟩, b, c, d, e, f⟩ := h
  have g1 : σ2 139 = σ 139 := key 139 (by omega) (by simp [gaL]) (by unfold gaP plP; omega)
  have g2 : σ2 140 = σ 140 := key 140 (by omega) (by simp [gaL]) (by unfold gaP plP; omega)
  have g3 : σ2 0 = σ 0 := keyc 0 (by omega) (by unfold gaP plP; omega)
  have g4 : σ2 138 3 = σ 138 3 := k138 3 (by omega)
  refine ⟨⟨by rw [g1]; exact a1, by rw [g1]; exact a2, by rw [g1]; exact Rc_c a1.1 a3 fun a ha => keyc a (by unfold coP at ha; omega) (by unfold coP at ha; unfold gaP plP; omega), by rw [g1]; exact Rl_c a1.1 a4 fun a q1 q2 q3 => keyc a (by omega) (by unfold gaP plP; omega), by rw [g3, g4]; exact a5, ?_⟩, ?_, ?_, ?_, ?_, ?_⟩
  · rw [g1, g2, g3]
    rcases a6 with a6 | ⟨p1, p2, p3, p4, p5, p6⟩
    · exact Or.inl a6
    · exact Or.inr ⟨p1, p2, p3, Rc_c p2.1 p4 fun a ha => keyc a (by unfold coP at ha; omega) (by unfold coP at ha; unfold gaP plP; omega), p5, p6⟩
  · exact Iv_b_c b (keyc 2 (by omega) (by unfold gaP plP; omega)) (keyc 3 (by omega) (by unfold gaP plP; omega)) (key 145 (by omega) (by simp [gaL]) (by unfold gaP plP; omega)) (k138 9 (by omega))
  · exact Iv_c_c c (key 146 (by omega) (by simp [gaL]) (by unfold gaP plP; omega)) (key 147 (by omega) (by simp [gaL]) (by unfold gaP plP; omega)) fun a q1 q2 => key a (by omega) (by simp [gaL]; omega) (by unfold gaP plP; omega)
  · exact Iv_d_c d (fun a q1 q2 => keyc a (by omega) (by unfold gaP plP; omega)) fun a q1 q2 => key a (by omega) (by simp [gaL]; omega) (by unfold gaP plP; omega)
  · exact Iv_e_c e (fun a q1 q2 => keyc a (by omega) (by unfold gaP plP; omega)) fun a q1 q2 => key a (by omega) (by simp [gaL]; omega) (by unfold gaP plP; omega)
  · exact Iv_f_c f (by rw [g3]) (keyc 10 (by omega) (by unfold gaP plP; omega)) (k138 35 (by omega)) (key 161 (by omega) (by simp [gaL]) (by unfold gaP plP; omega))
/-- the board becomes another -/
def boL : List Nat := [139, 141, 142, 143, 144, 151, 152, 10006]
def boQ (a : Nat) : Prop := dyP 81 a ∨ gaP a
theorem Iv_bo {σ σ1 σ2 : Sg} {T : Rw} (h : Iv σ) (h1 : fp boQ σ σ1) (h2 : fr boL σ1 σ2) (h139 : σ2 139 = T) (hT : Ok T) (hq : eqT (σ 139) T) (hdy : DayOk T) (hc : Rc σ1 81 T) : Iv σ2 := by
  have key : ∀ a, a ≠ 138 → a ∉ boL → ¬ boQ a → σ2 a = σ a := fun a q1 q2 q3 => (fr_row h2 q1 q2).trans (h1 a q3)
  have keyc : ∀ a, a < 138 → ¬ boQ a → σ2 a = σ a := fun a q1 q3 => key a (by omega) (by simp [boL]; omega) q3
  have keyc1 : ∀ a, a < 138 → σ2 a = σ1 a := fun a q1 => fr_row h2 (by omega) (by simp [boL]; omega)
  have k138 : ∀ k, k ≠ 6 → σ2 138 k = σ 138 k := fun k q => (fr_slot h2 (by simp [boL]; omega)).trans (congrFun (h1 138 (by unfold boQ dyP gaP plP; omega)) k)
  obtain ⟨⟨a1, a2, a3, a4, a5, a6⟩, b, c, d, e, f⟩ := h
  have g2 : σ2 140 = σ 140 := key 140 (by omega) (by simp [boL]) (by unfold boQ dyP gaP plP; omega)
  have g3 : σ2 0 = σ 0 := keyc 0 (by omega) (by unfold boQ dyP gaP plP; omega)
  have g4 : σ2 138 3 = σ 138 3 := k138 3 (by omega)
  have hnt := eqT_nt hq
  refine ⟨⟨by rw [h139]; exact hT, by rw [h139]; exact hdy, by rw [h139]; exact Rc_c hT.1 hc fun a ha => keyc1 a (by unfold coP at ha; omega), by rw [h139]; exact Rl_c hT.1 (eqT_Rl hq a4) fun a q1 q2 q3 => keyc a (by omega) (by unfold boQ dyP gaP plP; omega), by rw [g3, g4]; exact a5, ?_⟩, ?_, ?_, ?_, ?_, ?_⟩
  · rw [h139, g2, g3]
    rcases a6 with a6 | ⟨p1, p2, p3, p4, p5, p6⟩
    · exact Or.inl a6
    · refine Or.inr ⟨p1, p2, p3, Rc_c p2.1 p4 fun a ha => keyc a (by unfold coP at ha; omega) (by unfold coP at ha; unfold boQ dyP gaP plP; omega), by rw [hnt]; exact p5, fun t ht => ?_⟩
      obtain ⟨t1, t2, t3⟩ := p6 t ht
      rw [hq.2 _ (by omega), hq.2 _ (by omega), eqT_tlen hq, eqT_tcode hq]
      exact ⟨t1, t2, t3⟩
  · exact Iv_b_c b (keyc 2 (by omega) (by unfold boQ dyP gaP plP; omega)) (keyc 3 (by omega) (by unfold boQ dyP gaP plP; omega)) (key 145 (by omega) (by simp [boL]) (by unfold boQ dyP gaP plP; omega)) (k138 9 (by omega))
  · exact Iv_c_c c (key 146 (by omega) (by simp [boL]) (by unfold boQ dyP gaP plP; omega)) (key 147 (by omega) (by simp [boL]) (by unfold boQ dyP gaP plP; omega)) fun a q1 q2 => key a (by omega) (by simp [boL]; omega) (by unfold boQ dyP gaP plP; omega)
  · exact Iv_d_c d (fun a q1 q2 => keyc a (by omega) (by unfold boQ dyP gaP plP; omega)) fun a q1 q2 => key a (by omega) (by simp [boL]; omega) (by unfold boQ dyP gaP plP; omega)
  · exact Iv_e_c e (fun a q1 q2 => keyc a (by omega) (by unfold boQ dyP gaP plP; omega)) fun a q1 q2 => key a (by omega) (by simp [boL]; omega) (by unfold boQ dyP gaP plP; omega)
  · exact Iv_f_c f (by rw [g3]) (keyc 10 (by omega) (by unfold boQ dyP gaP plP; omega)) (k138 35 (by omega)) (key 161 (by omega) (by simp [boL]) (by unfold boQ dyP gaP plP; omega))
/-- class and reference answer the same, and all that holds holds again -/
def Op (jc jr : Sg → Option (Int32 × Sg)) : Prop := ∀ σ, Iv σ → ∃ r σ1 σ2, jc σ = some (r, σ1) ∧ jr σ1 = some (r, σ2) ∧ Iv σ2 ∧ σ1 2000 = σ 2000 ∧ σ2 2000 = σ 2000
theorem Op_ga {jc jr : Sg → Option (Int32 × Sg)} {σ : Sg} (h : Iv σ) {r : Int32} {σ1 σ2 : Sg} (h1 : jc σ = some (r, σ1)) (h2 : jr σ1 = some (r, σ2)) (f1 : fp gaP σ σ1) (f2 : fr gaL σ1 σ2) : ∃ r σ1 σ2, jc σ = some (r, σ1) ∧ jr σ1 = some (r, σ2) ∧ Iv σ2 ∧ σ1 2000 = σ 2000 ∧ σ2 2000 = σ 2000 :=
  ⟨r, σ1, σ2, h1, h2, Iv_ga h f1 f2, f1 2000 (by unfold gaP plP; omega), (fr_row f2 (by omega) (by simp [gaL])).trans (f1 2000 (by unfold gaP plP; omega))⟩
theorem Op_bo {jc jr : Sg → Option (Int32 × Sg)} {σ : Sg} (h : Iv σ) {r : Int32} {σ1 σ2 : Sg} {T : Rw} (e1 : jc σ = some (r, σ1)) (e2 : jr σ1 = some (r, σ2)) (h1 : fp boQ σ σ1) (h2 : fr boL σ1 σ2) (h139 : σ2 139 = T) (hT : Ok T) (hq : eqT (σ 139) T) (hdy : DayOk T) (hc : Rc σ1 81 T) : ∃ r σ1 σ2, jc σ = some (r, σ1) ∧ jr σ1 = some (r, σ2) ∧ Iv σ2 ∧ σ1 2000 = σ 2000 ∧ σ2 2000 = σ 2000 :=
  ⟨r, σ1, σ2, e1, e2, Iv_bo h h1 h2 h139 hT hq hdy hc, h1 2000 (by unfold boQ dyP gaP plP; omega), (fr_row h2 (by omega) (by simp [boL])).trans (h1 2000 (by unfold boQ dyP gaP plP; omega))⟩
