/-! PURE: the operation text -/
theorem Iv_x {σ τ : Sg} (h : Iv σ) (h1 : ∀ a, a ≠ 2 → a ≠ 4 → a ≠ 5 → a ≠ 138 → (a < 148 ∨ 150 < a) → a < 5000 → τ a = σ a) (h3 : ∀ k, k < 9 ∨ 22 < k → τ 138 k = σ 138 k) (h4 : τ 2 2 = 0) (h5 : τ 138 9 = 0) : Iv τ := by
  obtain ⟨a, b, c, d, e, f⟩ := h
  have g : ∀ a, a ≠ 2 → a ≠ 4 → a ≠ 5 → a ≠ 138 → (a < 148 ∨ 150 < a) → a < 5000 → τ a = σ a := h1
  refine ⟨Iv_a_c a (g 139 (by omega) (by omega) (by omega) (by omega) (by omega) (by omega)) (g 140 (by omega) (by omega) (by omega) (by omega) (by omega) (by omega)) (by rw [g 0 (by omega) (by omega) (by omega) (by omega) (by omega) (by omega)]) (h3 3 (by omega)) (fun a q1 q2 => g a (by omega) (by omega) (by omega) (by omega) (by omega) (by omega)) fun a q1 q2 => g a (by omega) (by omega) (by omega) (by omega) (by omega) (by omega), ?_, ?_, ?_, ?_, ?_⟩
  · obtain ⟨n, b1, b2, b3, b4⟩ := b
    refine ⟨0, by omega, h4, h5, fun k hk => ?_⟩
    rw [g 3 (by omega) (by omega) (by omega) (by omega) (by omega) (by omega), g 145 (by omega) (by omega) (by omega) (by omega) (by omega) (by omega)]
    exact b4 k hk
  · exact Iv_c_c c (g 146 (by omega) (by omega) (by omega) (by omega) (by omega) (by omega)) (g 147 (by omega) (by omega) (by omega) (by omega) (by omega) (by omega)) fun a q1 q2 => g a (by omega) (by omega) (by omega) (by omega) (by omega) (by omega)
  · exact Iv_d_c d (fun a q1 q2 => g a (by omega) (by omega) (by omega) (by omega) (by omega) (by omega)) fun a q1 q2 => g a (by omega) (by omega) (by omega) (by omega) (by omega) (by omega)
  · exact Iv_e_c e (fun a q1 q2 => g a (by omega) (by omega) (by omega) (by omega) (by omega) (by omega)) fun a q1 q2 => g a (by omega) (by omega) (by omega) (by omega) (by omega) (by omega)
  · exact Iv_f_c f (by rw [g 0 (by omega) (by omega) (by omega) (by omega) (by omega) (by omega)]) (g 10 (by omega) (by omega) (by omega) (by omega) (by omega) (by omega)) (h3 35 (by omega)) (g 161 (by omega) (by omega) (by omega) (by omega) (by omega) (by omega))
theorem Iv_y {σ τ : Sg} (h : Iv σ) (h1 : ∀ a, a ≠ 2 → a ≠ 4 → a ≠ 5 → a ≠ 138 → a ≠ 139 → a ≠ 81 → a ≠ 84 → ¬ (11 ≤ a ∧ a < 53) → (a < 148 ∨ 150 < a) → a < 5000 → τ a = σ a) (h2 : Iv_a τ) (h3 : ∀ k, k < 9 ∨ 22 < k → τ 138 k = σ 138 k) (h4 : τ 2 2 = 0) (h5 : τ 138 9 = 0) : Iv τ := by
  obtain ⟨a, b, c, d, e, f⟩ := h
  have g := h1
  refine ⟨h2, ?_, ?_, ?_, ?_, ?_⟩
  · obtain ⟨n, b1, b2, b3, b4⟩ := b
    refine ⟨0, by omega, h4, h5, fun k hk => ?_⟩
    rw [g 3 (by omega) (by omega) (by omega) (by omega) (by omega) (by omega) (by omega) (by omega) (by omega) (by omega), g 145 (by omega) (by omega) (by omega) (by omega) (by omega) (by omega) (by omega) (by omega) (by omega) (by omega)]
    exact b4 k hk
  · exact Iv_c_c c (g 146 (by omega) (by omega) (by omega) (by omega) (by omega) (by omega) (by omega) (by omega) (by omega) (by omega)) (g 147 (by omega) (by omega) (by omega) (by omega) (by omega) (by omega) (by omega) (by omega) (by omega) (by omega)) fun a q1 q2 => g a (by omega) (by omega) (by omega) (by omega) (by omega) (by omega) (by omega) (by omega) (by omega) (by omega)
  · exact Iv_d_c d (fun a q1 q2 => g a (by omega) (by omega) (by omega) (by omega) (by omega) (by omega) (by omega) (by omega) (by omega) (by omega)) fun a q1 q2 => g a (by omega) (by omega) (by omega) (by omega) (by omega) (by omega) (by omega) (by omega) (by omega) (by omega)
  · exact Iv_e_c e (fun a q1 q2 => g a (by omega) (by omega) (by omega) (by omega) (by omega) (by omega) (by omega) (by omega) (by omega) (by omega)) fun a q1 q2 => g a (by omega) (by omega) (by omega) (by omega) (by omega) (by omega) (by omega) (by omega) (by omega) (by omega)
  · exact Iv_f_c f (by rw [g 0 (by omega) (by omega) (by omega) (by omega) (by omega) (by omega) (by omega) (by omega) (by omega) (by omega)]) (g 10 (by omega) (by omega) (by omega) (by omega) (by omega) (by omega) (by omega) (by omega) (by omega) (by omega)) (h3 35 (by omega)) (g 161 (by omega) (by omega) (by omega) (by omega) (by omega) (by omega) (by omega) (by omega) (by omega) (by omega))
theorem tx_rows {τ τ' : Sg} (h : fr txL τ τ') : (∀ a, a ≠ 138 → (a < 148 ∨ 150 < a) → a < 5000 → τ' a = τ a) ∧ ∀ k, k < 9 ∨ 22 < k → τ' 138 k = τ 138 k := by
  refine ⟨fun a h1 h2 h3 => fr_row h h1 ?_, fun k hk => fr_slot h ?_⟩
  · simp [txL, loL, rsL]
    omega
  · simp [txL, loL, rsL]
    omega
theorem dpL_s (c : Nat → Int32) : ∀ (m d i : Nat), dpL c d i (m + 1) = (dpL c d i m).bind (dpS (c (i + m))) := by
  intro m
  induction m with
  | zero =>
    intro d i
    show (dpS (c i) d).bind (fun d => dpL c d (i + 1) 0) = (some d).bind _
    rw [Option.bind_some]
    show (dpS (c i) d).bind some = dpS (c i) d
    cases dpS (c i) d <;> rfl
  | succ m ih =>
    intro d i
    show (dpS (c i) d).bind (fun d => dpL c d (i + 1) (m + 1)) = ((dpS (c i) d).bind fun d => dpL c d (i + 1) m).bind _
    rw [Option.bind_assoc]
    congr 1
    funext e
    rw [ih, show i + 1 + m = i + (m + 1) by omega]
theorem dpL_R {c : Nat → Int32} {P : Rw} : ∀ {E : List Int32}, Pl P E → (∀ k, k < E.length → c k = P k) → ∀ d, dpL c d 0 E.length = dpR d E := by
  intro E
  induction E with
  | nil => intro _ _ d; rfl
  | cons v E ih =>
    intro h hc d
    show dpL c d 0 (E.length + 1) = (dpR d E).bind (dpS v)
    rw [dpL_s, ih h.2 (fun k hk => hc k (by rw [List.length_cons]; omega)), Nat.zero_add, hc E.length (by rw [List.length_cons]; omega), h.1]
theorem Pl_mem {P : Rw} : ∀ {E : List Int32}, Pl P E → ∀ k, k < E.length → P k ∈ E := by
  intro E
  induction E with
  | nil => intro _ k hk; exact absurd hk (Nat.not_lt_zero k)
  | cons v E ih =>
    intro h k hk
    rw [List.length_cons] at hk
    by_cases z : k = E.length
    · rw [z, h.1]
      exact List.mem_cons_self
    · exact List.mem_cons_of_mem _ (ih h.2 k (by omega))
theorem Pl_cvt {P Q : Rw} : ∀ {E : List Int32}, Pl P E → Pl Q (E.map cvt) → ∀ k, k < E.length → Q k = cvt (P k) := by
  intro E
  induction E with
  | nil => intro _ _ k hk; exact absurd hk (Nat.not_lt_zero k)
  | cons v E ih =>
    intro h1 h2 k hk
    have h2 : Q (E.map cvt).length = cvt v ∧ Pl Q (E.map cvt) := h2
    rw [List.length_map] at h2
    rw [List.length_cons] at hk
    by_cases z : k = E.length
    · rw [z, h1.1, h2.1]
    · exact ih h1.2 h2.2 k (by omega)
/-- a row with one text more -/
def nwT (S U : Rw) (t key len a : Nat) (P : Rw) : Prop := U 6 = In (t + 1) ∧ U (79 + 2 * t) = In (1000 * key + len) ∧ U (80 + 2 * t) = In a ∧ (∀ k, k < len → U (107 + 96 * t + k) = P k) ∧ ∀ k, k ≠ 6 → k ≠ 79 + 2 * t → k ≠ 80 + 2 * t → ¬ (107 + 96 * t ≤ k ∧ k < 107 + 96 * t + len) → U k = S k
theorem nw_f {S U P : Rw} {t key len a : Nat} (h : nwT S U t key len a P) (ht : t < 14) (hk : key < 3) (hl : len ≤ 96) : nt U = t + 1 ∧ tlen U t = len ∧ tkey U t = key ∧ (∀ k, k < 79 → k ≠ 6 → U k = S k) ∧ ∀ s, s < t → U (79 + 2 * s) = S (79 + 2 * s) ∧ U (80 + 2 * s) = S (80 + 2 * s) ∧ ∀ k, k < 96 → tcode U s k = tcode S s k := by
  obtain ⟨h1, h2, h3, h4, h5⟩ := h
  refine ⟨?_, ?_, ?_, fun k q1 q2 => h5 k q2 (by omega) (by omega) (by omega), fun s hs => ⟨h5 _ (by omega) (by omega) (by omega) (by omega), h5 _ (by omega) (by omega) (by omega) (by omega), fun k hk => h5 _ (by omega) (by omega) (by omega) (by omega)⟩⟩
  · unfold nt
    rw [h1, n_ix (by omega)]
  · unfold tlen
    rw [h2, n_ix (by omega)]
    omega
  · unfold tkey
    rw [h2, n_ix (by omega)]
    omega
theorem nw_Ok {S U P : Rw} {t key a : Nat} {E : List Int32} (hS : Ok S) (ht : nt S = t) (h : nwT S U t key E.length a P) (ht14 : t < 14) (hk : key < 3) (hl : E.length ≤ 96) (hE : EK key E) (hP : Pl P E) : Ok U := by
  obtain ⟨f1, f2, f3, f4, f5⟩ := nw_f h ht14 hk hl
  obtain ⟨hR, hT⟩ := hS
  obtain ⟨⟨a1, a2⟩, a3, a4, a5, a6, a7, a8, a9⟩ := hR
  have hn : nb U = nb S := by
    unfold nb
    rw [f4 1 (by omega) (by omega)]
  have hbf : ∀ c w, c < 12 → w < 6 → bf U c w = bf S c w := fun c w q1 q2 => by
    unfold bf
    rw [f4 _ (by omega) (by omega)]
  refine ⟨⟨⟨by rw [hn, f4 1 (by omega) (by omega)]; exact a1, by rw [hn]; exact a2⟩, fun c hc => ?_, fun c d q1 q2 q3 => ?_, ⟨rfl, rfl⟩, by rw [f4 3 (by omega) (by omega)]; exact a6, by rw [f4 4 (by omega) (by omega)]; exact a7, by rw [f4 5 (by omega) (by omega)]; exact a8, ?_⟩, fun s hs => ?_, fun s hs => ?_⟩
  · rw [hn] at hc
    have hB := a3 c hc
    unfold OkB at hB ⊢
    rw [f4 (7 + 6 * c + 0) (by omega) (by omega), f4 (7 + 6 * c + 1) (by omega) (by omega), f4 (7 + 6 * c + 2) (by omega) (by omega), f4 (7 + 6 * c + 3) (by omega) (by omega), hbf _ _ (by omega) (by omega), hbf _ _ (by omega) (by omega), hbf _ _ (by omega) (by omega), hbf _ _ (by omega) (by omega)]
    exact hB
  · rw [hn] at q2
    rw [hbf _ _ (by omega) (by omega), hbf _ _ (by omega) (by omega)] at q3
    rw [hbf _ _ (by omega) (by omega)]
    exact a4 c d q1 q2 q3
  · rw [h.1, n_ix (by omega)]
    exact ⟨rfl, by omega⟩
  · rw [f1] at hs
    by_cases z : s = t
    · subst z
      rw [h.2.1, n_ix (by omega)]
      exact ⟨rfl, by omega, by omega⟩
    · rw [(f5 s (by omega)).1]
      exact hT.1 s (by omega)
  · rw [f1] at hs
    by_cases z : s = t
    · subst z
      rw [f2, f3]
      refine ⟨?_, fun k hk j hj e => ?_⟩
      · exact (dpL_R (c := tcode U s) (P := P) hP (fun k hk => h.2.2.2.1 k hk) 0).trans (hE.1 0)
      · have e1 : tcode U s k = P k := h.2.2.2.1 k hk
        rw [e1] at e
        exact hE.2 _ (Pl_mem hP k hk) j hj e
    · obtain ⟨r1, r2, r3⟩ := f5 s (by omega)
      have el : tlen U s = tlen S s := by
        unfold tlen
        rw [r1]
      have ek : tkey U s = tkey S s := by
        unfold tkey
        rw [r1]
      have := (hT.1 s (by omega)).2.2
      have hl96 : tlen S s ≤ 96 := this
      obtain ⟨d1, d2⟩ := hT.2 s (by omega)
      rw [el, ek]
      refine ⟨?_, fun k hk j hj e => ?_⟩
      · rw [dpL_c (c := tcode S s) fun k _ hk => r3 k (by omega)]
        exact d1
      · rw [r3 k (by omega)] at e
        exact d2 k hk j hj e
theorem nw_ct {S U P : Rw} {t key len a : Nat} (ht : nt S = t) (h : nwT S U t key len a P) (ht14 : t < 14) (hk : key < 3) (hl : len ≤ 96) (k : Nat) : ct U k = if k = key then some t else ct S k := by
  obtain ⟨f1, f2, f3, f4, f5⟩ := nw_f h ht14 hk hl
  unfold ct
  rw [f1, ht]
  show (if hy_ix (U (79 + 2 * t)) / 1000 = k then some t else ctL U k t) = _
  have : hy_ix (U (79 + 2 * t)) / 1000 = key := f3
  rw [this, ctL_c (S := S) fun s hs => (f5 s hs).1]
  by_cases z : k = key
  · rw [if_pos z, if_pos z.symm]
  · rw [if_neg z, if_neg (fun y => z y.symm)]
