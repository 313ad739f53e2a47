/-! PURE: a day of the reference -/
theorem ok_rul {S : Rw} {k n : Nat} {v : Int32} (hS : OkR S) (h : k = 2 ∨ (v = In n ∧ (k = 3 ∧ n ≤ 1 ∨ (k = 4 ∨ k = 5) ∧ n ≤ 100))) : OkR (upd S k v) := by
  obtain ⟨⟨a1, a2⟩, a3, a4, a5, a6, a7, a8, a9⟩ := hS
  have hk : 2 ≤ k ∧ k ≤ 5 := by omega
  have h1 : ∀ b w, 7 + 6 * b + w ≠ k := fun b w => by omega
  have hn : nb (upd S k v) = nb S := nb_upd (by omega)
  have hix : ∀ m, v = In m → m ≤ 100 → v = In (hy_ix v) ∧ hy_ix v = m := fun m e hm => by
    subst e
    rw [n_ix (by omega)]
    exact ⟨rfl, rfl⟩
  refine ⟨⟨by rw [hn, upd_ne _ _ (by omega)]; exact a1, by rw [hn]; exact a2⟩, fun c hc => ?_, fun c d q1 q2 q3 => ?_, ⟨rfl, rfl⟩, ?_, ?_, ?_, ?_⟩
  · rw [hn] at hc
    have hB := a3 c hc
    unfold OkB at hB ⊢
    rw [upd_ne _ _ (h1 c 0), upd_ne _ _ (h1 c 1), upd_ne _ _ (h1 c 2), upd_ne _ _ (h1 c 3), bf_upd (h1 c 0), bf_upd (h1 c 1), bf_upd (h1 c 2), bf_upd (h1 c 3)]
    exact hB
  · rw [hn] at q2
    rw [bf_upd (h1 c 2), bf_upd (h1 d 2)] at q3
    rw [bf_upd (h1 c 2)]
    exact a4 c d q1 q2 q3
  · by_cases h3 : 3 = k
    · subst h3
      rw [upd_at]
      rcases h with h | ⟨e, h⟩
      · omega
      · obtain ⟨z1, z2⟩ := hix n e (by omega)
        exact ⟨z1, by omega⟩
    · rw [upd_ne _ _ h3]
      exact a6
  · by_cases h3 : 4 = k
    · subst h3
      rw [upd_at]
      rcases h with h | ⟨e, h⟩
      · omega
      · obtain ⟨z1, z2⟩ := hix n e (by omega)
        exact ⟨z1, by omega⟩
    · rw [upd_ne _ _ h3]
      exact a7
  · by_cases h3 : 5 = k
    · subst h3
      rw [upd_at]
      rcases h with h | ⟨e, h⟩
      · omega
      · obtain ⟨z1, z2⟩ := hix n e (by omega)
        exact ⟨z1, by omega⟩
    · rw [upd_ne _ _ h3]
      exact a8
  · rw [upd_ne _ _ (by omega)]
    exact a9
def bm1 (S : Rw) (f : Nat) : Rw := match bestS S f with
  | none => S
  | some a => mkS S (a.1 / 36) (a.1 % 36)
def trS (S : Rw) : Rw := upd S 3 (1 - S 3)
def gzS (S : Rw) : Rw := if drN S % 100 < hy_ix (S 5) then (match hd (drS (drS S)) (drN (drS S) % 36) with
  | none => drS (drS S)
  | some b => grS (drS (drS S)) b) else drS S
def raS (S : Rw) : Rw := if drN S % 100 < hy_ix (S 4) then rnS (drS S) else drS S
def dpp (S : Rw) : Rw := upd S 2 (S 2 + 1)
def dyS (S : Rw) : Rw := dpp (raS (gzS (trS (bm1 S (hy_ix (S 3))))))
def Kp (S T : Rw) : Prop := Ok T ∧ nb T = nb S ∧ eqT S T
theorem Kp_tr {S T U : Rw} (h1 : Kp S T) (h2 : Kp T U) : Kp S U := ⟨h2.1, h2.2.1.trans h1.2.1, eqT_tr h1.2.2 h2.2.2⟩
theorem Kp_rf {S : Rw} (h : Ok S) : Kp S S := ⟨h, rfl, eqT_rf S⟩
theorem Kp_of {S T : Rw} (h : Ok S) (h1 : OkR T) (h2 : nb T = nb S) (h3 : eqT S T) : Kp S T := ⟨⟨h1, eqT_Ok h3 h.2⟩, h2, h3⟩
theorem bm1_k {S : Rw} {f : Nat} (h : Ok S) : Kp S (bm1 S f) := by
  have h12 := h.1.1.2
  unfold bm1
  cases e : bestS S f with
  | none => exact Kp_rf h
  | some a =>
    obtain ⟨h1, h2, h3⟩ := best_x e
    obtain ⟨x1, x2, x3, x4⟩ := cand_x h2
    obtain ⟨q1, q2⟩ := mkS_ok (b := a.1 / 36) (p := a.1 % 36) h.1 (by omega) (by omega) x4
    exact Kp_of h q1 q2 (mkS_eqT h.1 (by omega))
theorem tr_01 {S : Rw} (h : OkR S) : 1 - S 3 = In (1 - hy_ix (S 3)) := by
  obtain ⟨h1, h2⟩ := h.2.2.2.2.1
  rw [h1, show (1 : Int32) = In 1 from rfl, n_sub (by omega), n_ix (by omega)]
theorem trS_k {S : Rw} (h : Ok S) : Kp S (trS S) := Kp_of h (ok_rul (n := 1 - hy_ix (S 3)) h.1 (Or.inr ⟨tr_01 h.1, Or.inl ⟨rfl, by omega⟩⟩)) (nb_upd (by omega)) (eqT_upd _ _ (by omega) (by omega))
theorem drS_k {S : Rw} (h : Ok S) : Kp S (drS S) := Kp_of h (ok_free h.1 (Or.inl rfl)) (nb_upd (by omega)) (eqT_upd _ _ (by omega) (by omega))
theorem grS_k {S : Rw} {b : Nat} (h : Ok S) (hb : b < nb S) : Kp S (grS S b) := by
  have h12 := h.1.1.2
  refine Kp_of h (grS_ok h.1 hb) grS_nb ?_
  unfold grS
  split
  · exact eqT_upd _ _ (by omega) (by omega)
  · exact eqT_tr (eqT_upd _ _ (by omega) (by omega)) (eqT_upd _ _ (by omega) (by omega))
theorem rnB_k {S : Rw} {b : Nat} (h : Ok S) (hb : b < nb S) : Kp S (rnB S b) := by
  have h12 := h.1.1.2
  refine Kp_of h (rnB_ok h.1 hb) rnB_nb ?_
  unfold rnB
  split
  · split
    · exact eqT_upd _ _ (by omega) (by omega)
    · exact eqT_upd _ _ (by omega) (by omega)
  · exact eqT_rf _
theorem rnL_k : ∀ {m i : Nat} {S : Rw}, Ok S → i + m ≤ nb S → Kp S (rnL S i m) := by
  intro m
  induction m with
  | zero => intro i S h _; exact Kp_rf h
  | succ m ih =>
    intro i S h hm
    have h1 := rnB_k h (b := i) (by omega)
    exact Kp_tr h1 (ih h1.1 (by rw [h1.2.1]; omega))
theorem rnS_k {S : Rw} (h : Ok S) : Kp S (rnS S) := rnL_k h (by omega)
theorem gzS_k {S : Rw} (h : Ok S) : Kp S (gzS S) := by
  have h1 := drS_k h
  have h2 := Kp_tr h1 (drS_k h1.1)
  unfold gzS
  split
  · cases e : hd (drS (drS S)) (drN (drS S) % 36) with
    | none => exact h2
    | some b => exact Kp_tr h2 (grS_k h2.1 (hd_some e).1)
  · exact h1
theorem raS_k {S : Rw} (h : Ok S) : Kp S (raS S) := by
  have h1 := drS_k h
  unfold raS
  split
  · exact Kp_tr h1 (rnS_k h1.1)
  · exact h1
theorem dpp_k {S : Rw} (h : Ok S) : Kp S (dpp S) := Kp_of h (ok_rul (n := 0) h.1 (Or.inl rfl)) (nb_upd (by omega)) (eqT_upd _ _ (by omega) (by omega))
theorem dyS_k {S : Rw} (h : Ok S) : Kp S (dyS S) := by
  have h1 := bm1_k (f := hy_ix (S 3)) h
  have h2 := Kp_tr h1 (trS_k h1.1)
  have h3 := Kp_tr h2 (gzS_k h2.1)
  have h4 := Kp_tr h3 (raS_k h3.1)
  exact Kp_tr h4 (dpp_k h4.1)
def dyL : List Nat := [139, 142, 151, 152, 10006]
theorem m170_3 (σ : Sg) : J170_3 σ = some (wr σ (dpp (σ 139))) := by
  unfold J170_3
  rw [up_wr]
  rfl
theorem i_le' {α : Sort _} {a b : Nat} {x : Int32} (hx : x = In a) (h1 : a < 2147483648) (h2 : b < 2147483648) (A B : α) : (if x ≤ In b then A else B) = if a ≤ b then A else B := by
  subst hx
  exact i_le h1 h2 A B
theorem m170_2 {σ : Sg} {S : Rw} (hs : σ 139 = S) (h : Ok S) : J170_2 σ = some (wr σ (dpp (raS S))) := by
  have h1 := drS_k h
  obtain ⟨r1, r2⟩ := h.1.2.2.2.2.2.1
  have hN := drN_lt S
  unfold J170_2 raS
  rw [m153, Option.bind_some, hs]
  dsimp only
  simp only [wr_at]
  rw [show (100 : Int32) = In 100 from rfl, n_rem (by omega) (by omega), i_le' (a := hy_ix (S 4)) (by rw [show drS S 4 = S 4 from upd_ne _ _ (by omega)]; exact r1) (by omega) (by omega)]
  by_cases hr : hy_ix (S 4) ≤ drN S % 100
  · rw [if_pos hr, if_neg (by omega), m170_3, wr_at, wr_wr]
  · rw [if_neg hr, if_pos (by omega), m172 (by rw [wr_at]; exact h1.1.1), Option.bind_some, m170_3, wr_at, wr_at, wr_wr, wr_wr]
theorem m170_1 {σ : Sg} {S : Rw} (hs : σ 139 = S) (h : Ok S) : J170_1 σ = some (wr σ (dpp (raS (gzS (trS S))))) := by
  have h0 := trS_k h
  have h1 := Kp_tr h0 (drS_k h0.1)
  have h2 := Kp_tr h1 (drS_k h1.1)
  obtain ⟨r1, r2⟩ := h0.1.1.2.2.2.2.2.2.1
  have hN := drN_lt (trS S)
  have hN2 := drN_lt (drS (trS S))
  have fin : ∀ (τ : Sg) (T : Rw), τ = wr σ T → Ok T → T = gzS (trS S) → J170_2 τ = some (wr σ (dpp (raS (gzS (trS S))))) := by
    intro τ T h1 h2 h3
    subst h1
    rw [m170_2 (wr_at _ _) h2, wr_wr, h3]
  unfold J170_1
  rw [up_wr, m153, Option.bind_some, wr_at, wr_wr, hs]
  dsimp only
  simp only [wr_at]
  rw [show upd S 3 (1 - S 3) = trS S from rfl, show (100 : Int32) = In 100 from rfl, n_rem (by omega) (by omega), i_le' (a := hy_ix (trS S 5)) (by rw [show drS (trS S) 5 = trS S 5 from upd_ne _ _ (by omega)]; exact r1) (by omega) (by omega)]
  by_cases hr : hy_ix (trS S 5) ≤ drN (trS S) % 100
  · rw [if_pos hr]
    exact fin _ _ rfl h1.1 (by unfold gzS; rw [if_neg (by omega)])
  · rw [if_neg hr, m153, Option.bind_some, wr_at, wr_wr]
    dsimp only
    rw [show (36 : Int32) = In 36 from rfl, n_rem (by omega) (by omega), m127 (by rw [wr_at]; exact h2.1.1) (by omega), Option.bind_some, wr_at]
    simp only [oI_lt (hd_bd h2.1.1)]
    have hg : gzS (trS S) = match hd (drS (drS (trS S))) (drN (drS (trS S)) % 36) with
        | none => drS (drS (trS S))
        | some b => grS (drS (drS (trS S))) b := by
      unfold gzS
      rw [if_pos (by omega)]
    cases e : hd (drS (drS (trS S))) (drN (drS (trS S)) % 36) with
    | none =>
      rw [if_pos rfl]
      exact fin _ _ rfl h2.1 (by rw [hg, e])
    | some b =>
      obtain ⟨hb, -⟩ := hd_some e
      rw [if_neg (fun z => by cases z), show oI (-1) (some b) = In b from rfl, m171 (by rw [wr_at]; exact h2.1.1) (by rw [wr_at]; exact hb), Option.bind_some, wr_at, wr_wr]
      exact fin _ _ rfl (grS_k h2.1 hb).1 (by rw [hg, e])
theorem mv_d {k : Nat} (h : k < 432) : In (mv k) / 100 = In (k / 36) := by
  have := mv_lt h
  rw [show (100 : Int32) = In 100 from rfl, n_div (by omega) (by omega)]
  congr 1
  unfold mv
  omega
theorem mv_r {k : Nat} (h : k < 432) : hy_rem (In (mv k)) 100 = In (k % 36) := by
  have := mv_lt h
  rw [show (100 : Int32) = In 100 from rfl, n_rem (by omega) (by omega)]
  congr 1
  unfold mv
  omega
theorem m170 {σ : Sg} {S : Rw} (hs : σ 139 = S) (h : Ok S) : ∃ σ', J170 σ = some σ' ∧ σ' 139 = dyS S ∧ fr dyL σ σ' := by
  have h12 := h.1.1.2
  obtain ⟨r1, r2⟩ := h.1.2.2.2.2.1
  have hb := bm1_k (f := hy_ix (S 3)) h
  unfold J170
  rw [hs, r1]
  obtain ⟨σ1, q1, q2, q3⟩ := m159 hs h (r := 142) (Or.inl rfl) r2
  rw [q1, Option.bind_some]
  have h139 : σ1 139 = S := (fr_row q2 (by omega) (by simp)).trans hs
  have fin : ∀ (τ : Sg), τ 139 = bm1 S (hy_ix (S 3)) → fr dyL σ τ → ∃ σ', J170_1 τ = some σ' ∧ σ' 139 = dyS S ∧ fr dyL σ σ' := by
    intro τ h1 h2
    rw [m170_1 h1 hb.1]
    exact ⟨_, rfl, wr_at _ _, fr_tr h2 (fr_wr _ _ (by simp [dyL]))⟩
  have hf1 : fr dyL σ σ1 := fr_wk q2 fun x hx => by simp at hx; simp [dyL]; omega
  unfold bm1 at fin
  cases e : bestS S (hy_ix (S 3)) with
  | none =>
    dsimp only
    rw [if_pos (show oM none < 0 by decide)]
    apply fin σ1 _ hf1
    rw [e]
    exact h139
  | some a =>
    obtain ⟨a1, a2, a3, a4⟩ := q3 a e
    obtain ⟨z1, z2, z3⟩ := best_x e
    dsimp only
    rw [if_neg (oM_nn a2), show oM (some a) = In (mv a.1) from rfl, mv_d a2, mv_r a2, m156 (by rw [h139]; exact h.1) (by rw [h139]; omega) (by omega), Option.bind_some]
    apply fin
    · rw [e]
      show wr σ1 (mkS (σ1 139) (a.1 / 36) (a.1 % 36)) 139 = mkS S (a.1 / 36) (a.1 % 36)
      rw [wr_at, h139]
    · exact fr_tr hf1 (fr_wr _ _ (by simp [dyL]))
/-- n days, one behind the other -/
def dyN : Nat → Rw → Rw
  | 0, S => S
  | n + 1, S => dyN n (dyS S)
theorem dyN_k : ∀ {n : Nat} {S : Rw}, Ok S → Kp S (dyN n S) := by
  intro n
  induction n with
  | zero => intro S h; exact Kp_rf h
  | succ n ih =>
    intro S h
    have h1 := dyS_k h
    exact Kp_tr h1 (ih h1.1)
theorem m169_loop {n : Nat} (hn : n < 2147483648) : ∀ (m i f : Nat) (S : Rw) (σ : Sg), σ 139 = S → Ok S → i + m = n → m < f → ∃ σ', J169_1 f (In n) (In i) σ = some σ' ∧ σ' 139 = dyN m S ∧ fr dyL σ σ' := by
  intro m
  induction m with
  | zero =>
    intro i f S σ hs h hi hf
    obtain ⟨f, rfl⟩ : ∃ g, f = g + 1 := ⟨f - 1, by omega⟩
    unfold J169_1
    rw [i_le (by omega) (by omega), if_pos (by omega)]
    exact ⟨σ, rfl, hs, fr_rf _ _⟩
  | succ m ih =>
    intro i f S σ hs h hi hf
    obtain ⟨f, rfl⟩ : ∃ g, f = g + 1 := ⟨f - 1, by omega⟩
    obtain ⟨σ1, q1, q2, q3⟩ := m170 hs h
    unfold J169_1
    rw [i_le (by omega) (by omega), if_neg (by omega), q1, Option.bind_some, n_p1]
    obtain ⟨σ', r1, r2, r3⟩ := ih (i + 1) f (dyS S) σ1 q2 (dyS_k h).1 (by omega) (by omega)
    exact ⟨σ', r1, r2, fr_tr q3 r3⟩
theorem m169 {n : Nat} (hn : n < 3000) {S : Rw} {σ : Sg} (hs : σ 139 = S) (h : Ok S) : ∃ σ', J169 (In n) σ = some σ' ∧ σ' 139 = dyN n S ∧ fr dyL σ σ' := m169_loop (by omega) n 0 hy_fu S σ hs h (by omega) (by unfold hy_fu; omega)
