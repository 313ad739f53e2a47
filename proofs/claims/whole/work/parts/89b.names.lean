/-! PURE: numbers and names, on both sides -/
def Sx (σ : Sg) : Prop := ∀ i, i < 6 → (∀ j, j < hy_SLn.getD i 0 → σ (1010 + i) j = (hy_SBl.getD i []).getD j 0) ∧ σ (1010 + i) 5000 = In (hy_SLn.getD i 0) ∧ σ (1000 + i) 1 = 0
def clP (a : Nat) : Prop := a = 2 ∨ a = 4 ∨ a = 5
/-- the class at p, its draft (the last step first), its pieces -/
def CS (T : Nat → Nat) (n key : Nat) (σ : Sg) (p : Nat) (D : List Int32) (a : Nat) : Prop := Tp T n σ ∧ Sx σ ∧ σ 2 3 = In p ∧ σ 4 2 = In D.length ∧ σ 4 3 = In key ∧ σ 4 4 = In a ∧ Pl (σ 5) (D.map cvt)
theorem Sx_fp {σ σ' : Sg} (h : Sx σ) (hf : fp clP σ σ') : Sx σ' := by
  intro i hi
  rw [hf (1010 + i) (by unfold clP; omega), hf (1000 + i) (by unfold clP; omega)]
  exact h i hi
theorem c82s {T : Nat → Nat} {n key p a q : Nat} {σ : Sg} {D : List Int32} (h : CS T n key σ p D a) (hq : q ≤ n) : ∃ σ', J82 (In q) σ = some σ' ∧ CS T n key σ' (sK T n q) D a ∧ fp clP σ σ' := by
  obtain ⟨h1, h2, h3, h4, h5, h6, h7⟩ := h
  rw [c82 h1 hq]
  have hf : fp clP σ (hy_up σ 2 3 (In (sK T n q))) := fp_up _ _ _ _ (Or.inl rfl)
  refine ⟨_, rfl, ⟨⟨h1.1, by rw [up_same, upd_ne _ _ (by omega)]; exact h1.2.1, fun k hk => by rw [up_ne _ _ _ (by omega)]; exact h1.2.2 k hk⟩, Sx_fp h2 hf, by rw [up_same, upd_at], by rw [up_ne _ _ _ (by omega)]; exact h4, by rw [up_ne _ _ _ (by omega)]; exact h5, by rw [up_ne _ _ _ (by omega)]; exact h6, by rw [up_ne _ _ _ (by omega)]; exact h7⟩, hf⟩
theorem c93s {T : Nat → Nat} {n key p a : Nat} {σ : Sg} {D : List Int32} (h : CS T n key σ p D a) (hl : D.length < 96) (v : Int32) : ∃ σ', J93 4 (cvt v) σ = some σ' ∧ CS T n key σ' p (v :: D) a ∧ fp clP σ σ' := by
  obtain ⟨h1, h2, h3, h4, h5, h6, h7⟩ := h
  unfold J93
  rw [h4, show (96 : Int32) = In 96 from rfl, i_le (by omega) (by omega), if_neg (by omega), if_pos (ib_n (by omega) (by omega)), n_ix (by omega)]
  generalize hA : hy_up σ 5 D.length (cvt v) = A
  have a4 : A 4 = σ 4 := by rw [← hA, up_ne _ _ _ (by omega)]
  rw [a4, h4, n_p1]
  have hf : fp clP σ (hy_up A 4 2 (In (D.length + 1))) := by
    rw [← hA]
    exact fp_tr (fp_up _ _ _ _ (Or.inr (Or.inr rfl))) (fp_up _ _ _ _ (Or.inr (Or.inl rfl)))
  have g2 : hy_up A 4 2 (In (D.length + 1)) 2 = σ 2 := by rw [up_ne _ _ _ (by omega), ← hA, up_ne _ _ _ (by omega)]
  refine ⟨_, rfl, ⟨⟨h1.1, by rw [g2]; exact h1.2.1, fun k hk => by rw [hf 3 (by unfold clP; omega)]; exact h1.2.2 k hk⟩, Sx_fp h2 hf, by rw [g2]; exact h3, by rw [up_same, upd_at]; rfl, by rw [up_same, upd_ne _ _ (by omega), a4]; exact h5, by rw [up_same, upd_ne _ _ (by omega), a4]; exact h6, ?_⟩, hf⟩
  rw [up_ne _ _ _ (by omega), ← hA, up_same]
  exact Pl_push (cvt v) h7 (by simp)
theorem c97s {T : Nat → Nat} {n key p a : Nat} {σ : Sg} {D : List Int32} (h : CS T n key σ p D a) : ∃ σ', hy_up σ 4 4 (σ 4 4 + 1) = σ' ∧ CS T n key σ' p D (a + 1) ∧ fp clP σ σ' := by
  obtain ⟨h1, h2, h3, h4, h5, h6, h7⟩ := h
  have hf : fp clP σ (hy_up σ 4 4 (σ 4 4 + 1)) := fp_up _ _ _ _ (Or.inr (Or.inl rfl))
  refine ⟨_, rfl, ⟨⟨h1.1, by rw [up_ne _ _ _ (by omega)]; exact h1.2.1, fun k hk => by rw [up_ne _ _ _ (by omega)]; exact h1.2.2 k hk⟩, Sx_fp h2 hf, by rw [up_ne _ _ _ (by omega)]; exact h3, by rw [up_same, upd_ne _ _ (by omega)]; exact h4, by rw [up_same, upd_ne _ _ (by omega)]; exact h5, by rw [up_same, upd_at, h6, n_p1], by rw [up_ne _ _ _ (by omega)]; exact h7⟩, hf⟩
theorem c96_loop {T : Nat → Nat} {n key p a e : Nat} {σ : Sg} {D : List Int32} (h : CS T n key σ p D a) (he : e ≤ n) : ∀ (m i v f : Nat), i + m = e → (∀ k, i ≤ k → k < e → 48 ≤ T k) → m < f → J96_2 f (In e) (In v) (In i) σ = (J97 4 (In (nV T i v m)) σ).bind fun σ1 => (J82 (In e) σ1).bind fun σ2 => some (1, σ2) := by
  have hn := h.1.1
  intro m
  induction m with
  | zero =>
    intro i v f hi hd hf
    obtain ⟨f, rfl⟩ : ∃ g, f = g + 1 := ⟨f - 1, by omega⟩
    unfold J96_2
    rw [i_le (by omega) (by omega), if_pos (by omega)]
    rfl
  | succ m ih =>
    intro i v f hi hd hf
    obtain ⟨f, rfl⟩ : ∃ g, f = g + 1 := ⟨f - 1, by omega⟩
    have h48 := hd i (Nat.le_refl _) (by omega)
    unfold J96_2
    rw [i_le (by omega) (by omega), if_neg (by omega), c83 h.1 (by omega), Option.bind_some]
    dsimp only
    rw [show bY T n i = In (T i) from if_pos (by omega), show (10 : Int32) = In 10 from rfl, n_mul, n_add, show (48 : Int32) = In 48 from rfl, n_sub (by omega), n_p1, ih (i + 1) _ f (by omega) (fun k h1 h2 => hd k (by omega) h2) (by omega), nV_s, show 10 * v + T i - 48 = 10 * v + (T i - 48) by omega]
theorem nV_lt {T : Nat → Nat} : ∀ {m i v : Nat}, (∀ k, i ≤ k → k < i + m → T k ≤ 57) → nV T i v m < (v + 1) * 10 ^ m := by
  intro m
  induction m with
  | zero => intro i v _; show v < (v + 1) * 1; omega
  | succ m ih =>
    intro i v h
    rw [nV_s]
    have h1 := h i (Nat.le_refl _) (by omega)
    have h2 := ih (i := i + 1) (v := 10 * v + (T i - 48)) fun k q1 q2 => h k (by omega) (by omega)
    have h3 : (10 * v + (T i - 48) + 1) * 10 ^ m ≤ (10 * (v + 1)) * 10 ^ m := Nat.mul_le_mul_right _ (by omega)
    have h4 : (10 * (v + 1)) * 10 ^ m = (v + 1) * 10 ^ (m + 1) := by
      rw [Nat.pow_succ, Nat.mul_comm 10 (v + 1), Nat.mul_assoc, Nat.mul_comm 10]
    omega
/-- names of a key -/
def nmO (key b : Nat) : Option Nat := if key = 0 then (if b = 104 then some 0 else if b = 112 then some 1 else if b = 119 then some 2 else none) else if key = 1 then (if b = 100 then some 0 else if b = 116 then some 1 else none) else (if b = 119 then some 0 else if b = 104 then some 1 else none)
theorem nmO_lt {key b j : Nat} (h : nmO key b = some j) : j < nmK key := by
  unfold nmO at h
  unfold nmK
  split at h
  · rename_i hk
    rw [if_pos hk]
    split at h
    · cases h; omega
    · split at h
      · cases h; omega
      · split at h
        · cases h; omega
        · cases h
  · rename_i hk
    rw [if_neg hk]
    split at h
    · split at h
      · cases h; omega
      · split at h
        · cases h; omega
        · cases h
    · split at h
      · cases h; omega
      · split at h
        · cases h; omega
        · cases h
theorem m195 {τ : Sg} {key b : Nat} (hk : key < 3) (hb : b < 256) (h : τ 138 15 = In key) : J195 (In b) τ = some (oI (-1) (nmO key b), τ) := by
  have e : ∀ k, k < 256 → (In b = In k) = (b = k) := fun k hk => n_eq (by omega) (by omega)
  unfold J195 nmO
  rw [h, show (104 : Int32) = In 104 from rfl, show (112 : Int32) = In 112 from rfl, show (119 : Int32) = In 119 from rfl, show (100 : Int32) = In 100 from rfl, show (116 : Int32) = In 116 from rfl]
  simp only [e 104 (by omega), e 112 (by omega), e 119 (by omega), e 100 (by omega), e 116 (by omega)]
  match key, hk with
  | 0, _ =>
    show (if b = 104 then _ else _) = some (oI (-1) (if b = 104 then some 0 else if b = 112 then some 1 else if b = 119 then some 2 else none), τ)
    split
    · rfl
    · split
      · rfl
      · split <;> rfl
  | 1, _ =>
    show (if b = 100 then _ else _) = some (oI (-1) (if b = 100 then some 0 else if b = 116 then some 1 else none), τ)
    split
    · rfl
    · split <;> rfl
  | 2, _ =>
    show (if b = 119 then _ else _) = some (oI (-1) (if b = 119 then some 0 else if b = 104 then some 1 else none), τ)
    split
    · rfl
    · split <;> rfl
  | n + 3, h => omega
theorem ch_all : ((List.range 256).all fun b => decide (((In b).toUInt32 % 65536).toInt32 = In b) && decide ((In b).toInt8.toInt32 = 104 ↔ b = 104) && decide ((In b).toInt8.toInt32 = 112 ↔ b = 112) && decide ((In b).toInt8.toInt32 = 119 ↔ b = 119) && decide ((In b).toInt8.toInt32 = 100 ↔ b = 100) && decide ((In b).toInt8.toInt32 = 116 ↔ b = 116)) = true := by decide +kernel
theorem ch_f {b : Nat} (hb : b < 256) : ((In b).toUInt32 % 65536).toInt32 = In b ∧ ((In b).toInt8.toInt32 = 104 ↔ b = 104) ∧ ((In b).toInt8.toInt32 = 112 ↔ b = 112) ∧ ((In b).toInt8.toInt32 = 119 ↔ b = 119) ∧ ((In b).toInt8.toInt32 = 100 ↔ b = 100) ∧ ((In b).toInt8.toInt32 = 116 ↔ b = 116) := by
  have h := ch_all
  rw [List.all_eq_true] at h
  have h := h b (List.mem_range.mpr hb)
  simp only [Bool.and_eq_true, decide_eq_true_eq] at h
  obtain ⟨⟨⟨⟨⟨h1, h2⟩, h3⟩, h4⟩, h5⟩, h6⟩ := h
  exact ⟨h1, h2, h3, h4, h5, h6⟩
theorem c229 {σ : Sg} {r L : Nat} {x : Int32} (hL : L ≤ 4) (h5 : σ r 5000 = In L) {i : Nat} (f : Nat) (hi : i ≤ 4) : J229_1 (f + 1) r (In L) x (In i) σ = if L ≤ i then some (-1, σ) else if σ r i = x then some (In i, σ) else J229_1 f r (In L) x (In (i + 1)) σ := by
  conv => lhs; unfold J229_1
  rw [i_le (by omega) (by omega), n_p1]
  by_cases h : L ≤ i
  · rw [if_pos h, if_pos h]
  · rw [if_neg h, if_neg h]
    have : hy_ib (In i) (hy_dl σ r).toInt := by
      unfold hy_dl
      rw [h5, n_ti (by omega)]
      exact ib_n (by omega) (by omega)
    rw [if_pos this, n_ix (by omega)]
theorem c218 {σ : Sg} {i : Nat} (h : Sx σ) (hi : i < 6) : J218 (1000 + i) σ = some (In (hy_SLn.getD i 0), σ) := by
  obtain ⟨h1, h2, h3⟩ := h i hi
  unfold J218 J219
  rw [if_neg (by decide), h3, if_pos (by decide), Option.bind_some]
  unfold hy_dl
  rw [show 1000 + i + 10 = 1010 + i by omega, h2]
  dsimp only
  have hs : ∀ k, k < 6 → In (hy_SLn.getD k 0) >>> ((0 : Int32) &&& 31) = In (hy_SLn.getD k 0) := by decide +kernel
  exact congrArg (fun x => some (x, σ)) (hs i hi)
theorem c225 {σ : Sg} {key b : Nat} (h : Sx σ) (hk : key < 3) (hb : b < 256) : J225 (1003 + key) (In b) σ = some (oI (-1) (nmO key b), σ) := by
  obtain ⟨h1, h2, h3⟩ := h (3 + key) (by omega)
  obtain ⟨q0, q1, q2, q3, q4, q5⟩ := ch_f hb
  have e21 : J221 (1003 + key) σ = some (1, σ) := by
    unfold J221
    rw [if_neg (by decide), show 1003 + key = 1000 + (3 + key) by omega, h3, if_pos rfl]
  have e18 : J218 (1003 + key) σ = some (In (hy_SLn.getD (3 + key) 0), σ) := by
    rw [show 1003 + key = 1000 + (3 + key) by omega]
    exact c218 h (by omega)
  have e28 : J228 (In b) σ = some (1, σ) := by
    unfold J228
    rw [if_neg (show ¬ In b < (0 : Int32) by show ¬ In b < In 0; rw [n_lt (by omega) (by omega)]; omega), if_neg (show ¬ (255 : Int32) < In b by show ¬ In 255 < In b; rw [n_lt (by omega) (by omega)]; omega)]
  unfold J225 J226
  rw [e21, Option.bind_some]
  dsimp only
  rw [if_neg (by decide), e18, Option.bind_some]
  unfold J227
  dsimp only
  rw [e28, Option.bind_some]
  dsimp only
  rw [if_neg (by decide), show 1003 + key + 10 = 1010 + (3 + key) by omega]
  have ed : hy_dl σ (1010 + (3 + key)) = In (hy_SLn.getD (3 + key) 0) := h2
  rw [ed]
  unfold J229 nmO
  rw [show hy_fu = 3996 + 1 + 1 + 1 + 1 from rfl]
  have cc : ∀ k, k < 3 → ((if (0 : Int32) < 0 then (0 : Int32) else 0) < if In (hy_SLn.getD (3 + k) 0) < In (hy_SLn.getD (3 + k) 0) then In (hy_SLn.getD (3 + k) 0) else In (hy_SLn.getD (3 + k) 0)) := by decide +kernel
  rw [if_pos (cc key hk)]
  match key, hk with
  | 0, _ =>
    have g0 : σ 1013 0 = 104 := h1 0 (by decide)
    have g1 : σ 1013 1 = 112 := h1 1 (by decide)
    have g2 : σ 1013 2 = 119 := h1 2 (by decide)
    have h5 : σ 1013 5000 = In 3 := h2
    show ((((J229_1 (3996 + 1 + 1 + 1 + 1) 1013 (In 3) ((In b).toInt8.toInt32) (In 0) σ).bind fun p2 => some (p2.1, p2.2)).bind fun p4 => some (p4.1, p4.2)).bind fun p1 => some (p1.1, p1.2)) = _
    rw [c229 (by omega) h5 _ (by omega), c229 (by omega) h5 _ (by omega), c229 (by omega) h5 _ (by omega), c229 (by omega) h5 _ (by omega), if_neg (show ¬ 3 ≤ 0 by omega), if_neg (show ¬ 3 ≤ 0 + 1 by omega), if_neg (show ¬ 3 ≤ 0 + 1 + 1 by omega), if_pos (show 3 ≤ 0 + 1 + 1 + 1 by omega), g0, g1, g2]
    simp only [eq_comm (a := (104 : Int32)), eq_comm (a := (112 : Int32)), eq_comm (a := (119 : Int32)), q1, q2, q3]
    by_cases c1 : b = 104
    · simp [c1] <;> rfl
    by_cases c2 : b = 112
    · simp [c2] <;> rfl
    by_cases c3 : b = 119
    · simp [c3] <;> rfl
    · simp [c1, c2, c3, oI]
  | 1, _ =>
    have g0 : σ 1014 0 = 100 := h1 0 (by decide)
    have g1 : σ 1014 1 = 116 := h1 1 (by decide)
    have h5 : σ 1014 5000 = In 2 := h2
    show ((((J229_1 (3996 + 1 + 1 + 1 + 1) 1014 (In 2) ((In b).toInt8.toInt32) (In 0) σ).bind fun p2 => some (p2.1, p2.2)).bind fun p4 => some (p4.1, p4.2)).bind fun p1 => some (p1.1, p1.2)) = _
    rw [c229 (by omega) h5 _ (by omega), c229 (by omega) h5 _ (by omega), c229 (by omega) h5 _ (by omega), if_neg (show ¬ 2 ≤ 0 by omega), if_neg (show ¬ 2 ≤ 0 + 1 by omega), if_pos (show 2 ≤ 0 + 1 + 1 by omega), g0, g1]
    simp only [eq_comm (a := (100 : Int32)), eq_comm (a := (116 : Int32)), q4, q5]
    by_cases c1 : b = 100
    · simp [c1] <;> rfl
    by_cases c2 : b = 116
    · simp [c2] <;> rfl
    · simp [c1, c2, oI]
  | 2, _ =>
    have g0 : σ 1015 0 = 119 := h1 0 (by decide)
    have g1 : σ 1015 1 = 104 := h1 1 (by decide)
    have h5 : σ 1015 5000 = In 2 := h2
    show ((((J229_1 (3996 + 1 + 1 + 1 + 1) 1015 (In 2) ((In b).toInt8.toInt32) (In 0) σ).bind fun p2 => some (p2.1, p2.2)).bind fun p4 => some (p4.1, p4.2)).bind fun p1 => some (p1.1, p1.2)) = _
    rw [c229 (by omega) h5 _ (by omega), c229 (by omega) h5 _ (by omega), c229 (by omega) h5 _ (by omega), if_neg (show ¬ 2 ≤ 0 by omega), if_neg (show ¬ 2 ≤ 0 + 1 by omega), if_pos (show 2 ≤ 0 + 1 + 1 by omega), g0, g1]
    simp only [eq_comm (a := (104 : Int32)), eq_comm (a := (119 : Int32)), q1, q3]
    by_cases c1 : b = 119
    · simp [c1] <;> rfl
    by_cases c2 : b = 104
    · simp [c2] <;> rfl
    · simp [c1, c2, oI]
  | n + 3, h => omega
