/-! PURE: the best move looking one ahead, whole, on both sides -/
theorem bsF_mem {ld : Nat → Int} {a : Nat × Int} : ∀ {L : List Nat} {acc : Option (Nat × Int)}, bsF ld L acc = some a → acc = some a ∨ (a.1 ∈ L ∧ a.2 = ld a.1) := by
  intro L
  induction L with
  | nil => intro acc h; exact Or.inl h
  | cons k L ih =>
    intro acc h
    rcases ih h with h | ⟨h1, h2⟩
    · unfold bs1 at h
      cases acc with
      | none =>
        cases h
        exact Or.inr ⟨List.mem_cons_self .., rfl⟩
      | some b =>
        dsimp only at h
        split at h
        · cases h
          exact Or.inr ⟨List.mem_cons_self .., rfl⟩
        · exact Or.inl h
    · exact Or.inr ⟨List.mem_cons_of_mem _ h1, h2⟩
theorem best_x {S : Rw} {f : Nat} {a : Nat × Int} (h : bestS S f = some a) : a.1 < 36 * nb S ∧ cand S f a.1 = true ∧ a.2 = lf S f a.1 := by
  rcases bsF_mem h with h | ⟨h1, h2⟩
  · cases h
  · have := mvL_mem h1
    exact ⟨by omega, this.2.2, h2⟩
theorem m159 {S : Rw} {σ : Sg} (hs : σ 139 = S) (hS : Ok S) {r fm : Nat} (hr : r = 142 ∨ r = 143) (hf1 : fm ≤ 1) : ∃ σ', J159 (In fm) r σ = some (oM (bestS S fm), σ') ∧ fr [r, 151, 152, 10006] σ σ' ∧ (∀ a, bestS S fm = some a → σ' 138 6 = Zn a.2 ∧ a.1 < 432 ∧ -12096 ≤ a.2 ∧ a.2 ≤ 12096) := by
  have h12 := hS.1.1.2
  have hrr : r ≠ 139 ∧ r ≠ 138 := by rcases hr with h | h <;> subst h <;> simp
  unfold J159
  rw [m160 (Ne.symm hrr.1), Option.bind_some]
  obtain ⟨σ', q1, q2, q3⟩ := m159_loop hS hr hf1 (36 * nb S) 0 hy_fu none (sr σ r (fun k => if k < 72 then σ 139 (k + 7) else σ r k)) (by rw [sr_ne _ _ (Ne.symm hrr.1)]; exact hs) (fun j hj => by rw [sr_at, if_pos hj, hs]) (fun a e => by cases e) (by omega) (by unfold hy_fu; omega)
  exact ⟨σ', q1, fr_tr (fr_sr _ _ (List.mem_cons_self ..) hrr.2) (fr_wk q2 fun x hx => List.mem_cons_of_mem _ hx), q3⟩
/-- a choice as the class keeps it: what, its rank, what is told of it -/
def chR (σ : Sg) (o : Nat) : Option (Int32 × Int × Int) → Prop
  | none => σ o 0 = -1000000005
  | some a => σ o 0 = a.1 ∧ a.1 ≠ -1000000005 ∧ σ o 1 = Zn a.2.1 ∧ σ o 2 = Zn a.2.2 ∧ -2147483648 ≤ a.2.1 ∧ a.2.1 < 2147483648
def offR (acc : Option (Int32 × Int × Int)) (n : Int32 × Int × Int) : Option (Int32 × Int × Int) := match acc with
  | none => some n
  | some a => if n.2.1 < a.2.1 then some n else some a
theorem chR_c {σ σ' : Sg} {o : Nat} {acc : Option (Int32 × Int × Int)} (h : chR σ o acc) (he : σ' o = σ o) : chR σ' o acc := by
  cases acc with
  | none =>
    show σ' o 0 = _
    rw [he]
    exact h
  | some a =>
    show σ' o 0 = _ ∧ _
    rw [he]
    exact h
theorem c46 {σ : Sg} {o : Nat} {acc : Option (Int32 × Int × Int)} {c : Int32} {r t : Int} (h : chR σ o acc) (hc : c ≠ -1000000005) (h1 : -2147483648 ≤ r) (h2 : r < 2147483648) : ∃ σ', J46 o c (Zn r) (Zn t) σ = some σ' ∧ chR σ' o (offR acc (c, r, t)) ∧ fp (fun a => a = o) σ σ' := by
  have new : ∃ σ', J46_1 o c (Zn r) (Zn t) σ = some σ' ∧ chR σ' o (some (c, r, t)) ∧ fp (fun a => a = o) σ σ' := by
    unfold J46_1
    refine ⟨_, rfl, ⟨?_, hc, ?_, ?_, h1, h2⟩, fp_tr (fp_tr (fp_up _ _ _ _ rfl) (fp_up _ _ _ _ rfl)) (fp_up _ _ _ _ rfl)⟩
    · simp (disch := omega) only [up_same, upd_ne, upd_at]
    · simp (disch := omega) only [up_same, upd_ne, upd_at]
    · simp (disch := omega) only [up_same, upd_ne, upd_at]
  unfold J46 offR
  cases acc with
  | none =>
    rw [if_pos (show σ o 0 = -1000000005 from h)]
    exact new
  | some a =>
    obtain ⟨q1, q2, q3, q4, q5, q6⟩ := h
    rw [if_neg (by rw [q1]; exact q2), q3, ite_c (z_le q5 q6 h1 h2)]
    dsimp only
    by_cases h7 : r < a.2.1
    · rw [if_neg (by omega), if_pos h7]
      exact new
    · rw [if_pos (by omega), if_neg h7]
      exact ⟨σ, rfl, ⟨q1, q2, q3, q4, q5, q6⟩, fp_rf _ _⟩
def tlR (w : Int32) : Option (Int32 × Int × Int) → Int32
  | none => -1000000005
  | some a => if w = 0 then a.1 else Zn a.2.2
theorem c47 {σ : Sg} {o : Nat} {acc : Option (Int32 × Int × Int)} (h : chR σ o acc) (w : Int32) : J47 o w σ = some (tlR w acc, σ) := by
  unfold J47 tlR
  cases acc with
  | none =>
    rw [if_pos (show σ o 0 = -1000000005 from h), show σ o 0 = -1000000005 from h]
  | some a =>
    obtain ⟨q1, q2, q3, q4, q5, q6⟩ := h
    rw [if_neg (by rw [q1]; exact q2), q1, q4]
    dsimp only
    split <;> rfl
theorem In_no {n : Nat} (h : n < 2147483648) : In n ≠ -1000000005 := by
  intro e
  have e2 := congrArg Int32.toInt e
  rw [n_ti h, show (-1000000005 : Int32).toInt = -1000000005 from rfl] at e2
  omega
def cvB : Option (Nat × Int) → Option (Int32 × Int × Int)
  | none => none
  | some a => some (In (mv a.1), -a.2, a.2)
theorem cvB_off (ld : Nat → Int) (k : Nat) (acc : Option (Nat × Int)) : offR (cvB acc) (In (mv k), -(ld k), ld k) = cvB (bs1 ld k acc) := by
  cases acc with
  | none => rfl
  | some a =>
    unfold offR cvB bs1
    dsimp only
    by_cases h : a.2 < ld k
    · rw [if_pos h, if_pos (by omega)]
    · rw [if_neg h, if_neg (by omega)]
def fbP (o a : Nat) : Prop := a = o + 6 ∨ plP a
theorem c43_loop {S : Rw} (hS : Ok S) {o fm N : Nat} (ho : 81 ≤ o) (hf1 : fm ≤ 1) (hN : N ≤ 432) : ∀ (R : List Nat) (i f : Nat) (acc : Option (Nat × Int)) (σ : Sg), Rc σ o S → Rl σ S → (∀ b, b < nb S → bf S b 2 < 36 → σ (o + 5) b = In (vl S b)) → (∀ j, j < R.length → σ (o + 4) (i + j) = In (mv (R.getD j 0))) → (∀ k, k ∈ R → k < 36 * nb S ∧ cand S fm k = true) → chR σ (o + 6) (cvB acc) → i + R.length = N → R.length < f →
    ∃ σ', J43_1 f o (Zn (ldS S fm)) (In N) (In i) σ = some σ' ∧ chR σ' (o + 6) (cvB (bsF (lf S fm) R acc)) ∧ fp (fbP o) σ σ' := by
  have h12 := hS.1.1.2
  intro R
  induction R with
  | nil =>
    intro i f acc σ hc hl hv hm hk hch hi hf
    obtain ⟨f, rfl⟩ : ∃ g, f = g + 1 := ⟨f - 1, by simp at hf; omega⟩
    unfold J43_1
    rw [i_le (by omega) (by simp at hi; omega), if_pos (by simp at hi; omega)]
    exact ⟨σ, rfl, hch, fp_rf _ _⟩
  | cons k R ih =>
    intro i f acc σ hc hl hv hm hk hch hi hf
    obtain ⟨f, rfl⟩ : ∃ g, f = g + 1 := ⟨f - 1, by simp at hf; omega⟩
    rw [List.length_cons] at hi hf
    obtain ⟨hk1, hcd⟩ := hk k (List.mem_cons_self ..)
    have hb : k / 36 < nb S := by omega
    have hp : k % 36 < 36 := by omega
    obtain ⟨x1, x2, x3, x4⟩ := cand_x hcd
    have hT := mk_Ok hS hb hp x4
    have hbd := ldS_bd hT.1 fm
    obtain ⟨⟨k1, k2⟩, ⟨f1, f2⟩, ⟨p1, p2⟩, ⟨y1, y2, y3⟩⟩ := hS.1.2.1 _ hb
    have hmi : σ (o + 4) i = In (mv k) := hm 0 (by simp)
    have hmv := mv_lt (k := k) (by omega)
    have hd1 : In (mv k) / 100 = In (k / 36) := by
      rw [show (100 : Int32) = In 100 from rfl, n_div (by omega) (by omega)]
      congr 1
      unfold mv
      omega
    have hd2 : hy_rem (In (mv k)) 100 = In (k % 36) := by
      rw [show (100 : Int32) = In 100 from rfl, n_rem (by omega) (by omega)]
      congr 1
      unfold mv
      omega
    have hld : lf S fm k = ldA S fm (k / 36) (k % 36) := ld_after hS.1 hb x1 x2 hp x3
    -- the offer, and on
    have fin : ∀ (σ1 : Sg) (x5 x6 x8 : Int32) (r7 : Nat), fp plP σ σ1 → ∃ σ', J43_4 (J43_1 f) o (Zn (ldS S fm)) (In N) (In i) x5 x6 r7 x8 (Zn (lf S fm k)) σ1 = some σ' ∧ chR σ' (o + 6) (cvB (bsF (lf S fm) (k :: R) acc)) ∧ fp (fbP o) σ σ' := by
      intro σ1 x5 x6 x8 r7 hf1'
      have e4 : σ1 (o + 4) = σ (o + 4) := hf1' _ (by unfold plP; omega)
      have e6 : σ1 (o + 6) = σ (o + 6) := hf1' _ (by unfold plP; omega)
      unfold J43_4
      rw [if_pos (ib_n (by omega) (by omega)), n_ix (by omega), e4, hmi, z_neg]
      obtain ⟨σ2, q1, q2, q3⟩ := c46 (c := In (mv k)) (r := -(lf S fm k)) (t := lf S fm k) (chR_c hch e6) (In_no (by omega)) (by unfold lf; omega) (by unfold lf; omega)
      rw [q1, Option.bind_some, n_p1]
      have hfp : fp (fbP o) σ σ2 := fp_tr (fp_wk hf1' fun a h => Or.inr h) (fp_wk q3 fun a h => Or.inl h)
      rw [cvB_off] at q2
      obtain ⟨σ', r1, r2, r3⟩ := ih (i + 1) f (bs1 (lf S fm) k acc) σ2 (Rc_c hS.1 hc fun a ha => hfp a (by unfold coP at ha; unfold fbP plP; omega)) (Rl_c hS.1 hl fun a h1 h2 h3 => hfp a (by unfold fbP plP; omega)) (fun b h1 h2 => by rw [hfp (o + 5) (by unfold fbP plP; omega)]; exact hv b h1 h2) (fun j hj => by
        rw [hfp (o + 4) (by unfold fbP plP; omega), show i + 1 + j = i + (j + 1) by omega, hm (j + 1) (by simpa using hj)]
        rfl) (fun k' hk' => hk k' (List.mem_cons_of_mem _ hk')) q2 (by omega) (by omega)
      exact ⟨σ', r1, r2, fp_tr hfp r3⟩
    have fin3 : ∀ (x8 : Int32) (hh : hyA S (k / 36) (k % 36) ≤ 99), x8 = oI (-1000000005) (hd S (k % 36)) → ∃ σ', J43_3 (J43_1 f) (In (hyA S (k / 36) (k % 36))) o (Zn (ldS S fm)) (In N) (In i) (In (k / 36)) (In (k % 36)) (o + 7 + k / 36) x8 σ = some σ' ∧ chR σ' (o + 6) (cvB (bsF (lf S fm) (k :: R) acc)) ∧ fp (fbP o) σ σ' := by
      intro x8 hh hx8
      unfold J43_3
      rw [if_pos (ib_n (by omega) (by omega)), hc.2.1 _ hb 0 (by omega), hc.2.1 _ hb 4 (by omega), k1]
      obtain ⟨σ1, q1, q2⟩ := c12 (o := o) (k := bf S (k / 36) 0) (h := hyA S (k / 36) (k % 36)) (p := k % 36) (S (7 + 6 * (k / 36) + 4) + 1) hS (hc.2.2.2 0 (by omega)) hl k2 hh
      rw [q1, Option.bind_some]
      dsimp only
      rw [n_ix (by omega), hv _ hb x2, n_z (vl S (k / 36)), n_z (vw S _ _ _ _), z_sub, z_add, hx8]
      simp only [oN_e (hd_bd hS.1)]
      cases e : hd S (k % 36) with
      | none =>
        rw [if_pos rfl]
        have : lf S fm k = ldS S fm - (vl S (k / 36) : Int) + (vw S (bf S (k / 36) 0) (hyA S (k / 36) (k % 36)) (k % 36) (S (7 + 6 * (k / 36) + 4) + 1) : Int) := by
          rw [hld]
          unfold ldA
          rw [e]
          dsimp only
          omega
        rw [← this]
        exact fin σ1 _ _ _ _ q2
      | some t =>
        obtain ⟨ht, htp⟩ := hd_some e
        rw [if_neg (fun z => by cases z), show oI (-1000000005) (some t) = In t from rfl, if_pos (ib_n (by omega) (by omega)), n_ix (by omega), q2 (o + 5) (by unfold plP; omega), hv t ht (by omega), n_z (vl S t), z_add]
        have : lf S fm k = ldS S fm - (vl S (k / 36) : Int) + (vw S (bf S (k / 36) 0) (hyA S (k / 36) (k % 36)) (k % 36) (S (7 + 6 * (k / 36) + 4) + 1) : Int) + (vl S t : Int) := by
          rw [hld]
          unfold ldA
          rw [e]
        rw [← this]
        exact fin σ1 _ _ _ _ q2
    unfold J43_1
    rw [i_le (by omega) (by omega), if_neg (by omega), if_pos (ib_n (by omega) (by omega)), if_pos (ib_n (by omega) (by omega)), n_ix (by omega)]
    simp only [hmi, hd1, hd2]
    rw [if_pos (ib_n (by omega) (by omega)), if_pos (ib_n (by omega) (by omega)), n_ix (by omega), n_ix (by omega)]
    simp only [hc.2.2.1 _ hp, oN_e (hd_bd hS.1)]
    cases e : hd S (k % 36) with
    | none =>
      rw [if_pos rfl, hc.2.1 _ hb 3 (by omega), y1]
      have hA : hyA S (k / 36) (k % 36) = bf S (k / 36) 3 := by
        unfold hyA
        rw [e]
      have := fin3 (oI (-1000000005) none) (by rw [hA]; exact y3) (by rw [e])
      rw [hA] at this
      exact this
    | some t =>
      obtain ⟨ht, htp⟩ := hd_some e
      obtain ⟨-, -, -, ⟨t1, t2, t3⟩⟩ := hS.1.2.1 _ ht
      rw [if_neg (fun z => by cases z), show oI (-1000000005) (some t) = In t from rfl, if_pos (ib_n (by omega) (by omega)), n_ix (by omega)]
      have e37 : J37 (o + 7 + k / 36) (o + 7 + t) σ = some (In (hyN (bf S (k / 36) 3) (bf S t 3)), σ) := by
        unfold J37 hyN
        rw [hc.2.1 _ hb 3 (by omega), hc.2.1 t ht 3 (by omega), y1, t1, show (2 : Int32) = In 2 from rfl, n_div (by omega) (by omega), n_add, show (99 : Int32) = In 99 from rfl, i_lt (by omega) (by omega)]
        by_cases h : bf S (k / 36) 3 + bf S t 3 / 2 ≤ 99
        · rw [if_neg (by omega), if_pos h]
        · rw [if_pos (by omega), if_neg h]
      have hA : hyA S (k / 36) (k % 36) = hyN (bf S (k / 36) 3) (bf S t 3) := by
        unfold hyA
        rw [e]
      rw [e37, Option.bind_some]
      dsimp only
      have := fin3 (In t) (by rw [hA]; exact hyN_le _ _) (by rw [e]; rfl)
      rw [hA] at this
      exact this
def beP (o a : Nat) : Prop := a = o + 4 ∨ a = o + 5 ∨ a = o + 6 ∨ plP a
theorem c43 {S : Rw} {σ : Sg} (hS : Ok S) {o fm : Nat} (ho : 81 ≤ o) (hf1 : fm ≤ 1) (hc : Rc σ o S) (hl : Rl σ S) : ∃ σ', J43 o (In fm) σ = some σ' ∧ chR σ' (o + 6) (cvB (bestS S fm)) ∧ fp (beP o) σ σ' := by
  have h12 := hS.1.1.2
  unfold J43 J44
  rw [Option.bind_some]
  have f1 : fp (beP o) σ (hy_up σ (o + 6) 0 (-1000000005)) := fp_up _ _ _ _ (by unfold beP; omega)
  have hcc : ∀ τ, fp (beP o) σ τ → Rc τ o S := fun τ h => Rc_c hS.1 hc fun a ha => h a (by unfold coP at ha; unfold beP plP; omega)
  have hll : ∀ τ, fp (beP o) σ τ → Rl τ S := fun τ h => Rl_c hS.1 hl fun a h1 h2 h3 => h a (by unfold beP plP; omega)
  obtain ⟨σ1, q1, q2, q3⟩ := c45 (o := o) ho hS (hcc _ f1) (hll _ f1) hf1
  rw [q1, Option.bind_some]
  dsimp only
  have f2 : fp (beP o) σ σ1 := fp_tr f1 (fp_wk q2 fun a h => by unfold vaP plP at h; unfold beP plP; omega)
  rw [c40 hS.1 (hcc _ f2) hf1, Option.bind_some]
  dsimp only
  have f3 : fp (beP o) σ (flS σ1 o 0 (mvs S fm)) := fp_tr f2 fun a ha => flS_ne _ _ _ _ _ (by unfold beP at ha; omega)
  have hlen : (mvs S fm).length ≤ 432 := by
    have := mvL_len (S := S) (f := fm) (m := 36 * nb S) (k := 0)
    unfold mvs
    omega
  obtain ⟨σ2, r1, r2, r3⟩ := c43_loop hS (o := o) (N := (mvs S fm).length) ho hf1 hlen (mvs S fm) 0 hy_fu none (flS σ1 o 0 (mvs S fm)) (hcc _ f3) (hll _ f3) (fun b h1 h2 => by rw [flS_ne _ _ _ _ _ (by omega)]; exact q3 b h1 h2) (fun j hj => flS_at _ _ _ _ _ hj) (fun k hk => by
    have := mvL_mem hk
    exact ⟨by omega, this.2.2⟩) (by
    show flS σ1 o 0 (mvs S fm) (o + 6) 0 = _
    rw [flS_ne _ _ _ _ _ (by omega), q2 _ (by unfold vaP plP; omega), up_same, upd_at]) (by omega) (by unfold hy_fu; omega)
  exact ⟨σ2, r1, r2, fp_tr f3 (fp_wk r3 fun a h => by unfold fbP plP at h; unfold beP plP; omega)⟩
