/-! PURE: reading a text: both sides step by step -/
theorem sK_bd {T : Nat → Nat} {n q : Nat} (h : q ≤ n) : q ≤ sK T n q ∧ sK T n q ≤ n := by
  have := wL_bd (f := kB T n) (m := n - q) (p := q)
  unfold sK
  omega
/-- the depth behind a draft, the last step first -/
def dpR (d : Nat) : List Int32 → Option Nat
  | [] => some d
  | v :: E => (dpR d E).bind (dpS v)
theorem dpR_app (d : Nat) (B : List Int32) : ∀ (A : List Int32), dpR d (A ++ B) = (dpR d B).bind fun e => dpR e A := by
  intro A
  induction A with
  | nil =>
    show dpR d B = _
    cases dpR d B <;> rfl
  | cons v A ih =>
    show (dpR d (A ++ B)).bind (dpS v) = _
    rw [ih]
    cases dpR d B <;> rfl
def EV (key : Nat) (v : Int32) : Prop := ∀ j, j ≤ 2 → v = In (10000 + j) → j < nmK key
/-- a whole part: it leaves one more on the pile -/
def EK (key : Nat) (E : List Int32) : Prop := (∀ d, dpR d E = some (d + 1)) ∧ ∀ v, v ∈ E → EV key v
theorem EV_neg {key : Nat} {v : Int32} (h : v < 0) : EV key v := by
  intro j hj hv
  subst hv
  have : ¬ In (10000 + j) < In 0 := by
    rw [n_lt (by omega) (by omega)]
    omega
  exact absurd h this
theorem EK_atom {T : Nat → Nat} {n key p : Nat} {v : Int32} (hk : key < 3) (hp : p ≤ n) (h : aP T n key p = some v) : EK key [v] := by
  have hv : (∃ m, m < 10000 ∧ v = In m) ∨ ∃ j, j < nmK key ∧ v = In (10000 + j) := by
    unfold aP at h
    by_cases hB : pB T n p = true
    · rw [if_pos hB] at h
      cases h
    · rw [if_neg hB] at h
      by_cases hd : dB T n p = true
      · rw [if_pos hd] at h
        by_cases h4 : wE T n p - p ≤ 4
        · rw [if_pos h4] at h
          exact Or.inl ⟨_, nv_small hp hd h4, (Option.some.inj h).symm⟩
        · rw [if_neg h4] at h
          cases h
      · rw [if_neg hd] at h
        by_cases hl : lB T n p = true
        · rw [if_pos hl] at h
          by_cases h1 : wE T n p - p = 1
          · rw [if_pos h1] at h
            cases hm : nmO key (T p) with
            | none =>
              rw [hm] at h
              cases h
            | some j =>
              rw [hm] at h
              exact Or.inr ⟨j, nmO_lt hm, (Option.some.inj h).symm⟩
          · rw [if_neg h1] at h
            cases h
        · rw [if_neg hl] at h
          cases h
  have hm3 : nmK key ≤ 3 := by
    unfold nmK
    split <;> omega
  have hm : ∃ m, m ≤ 10002 ∧ v = In m := by
    rcases hv with ⟨m, h1, h2⟩ | ⟨j, h1, h2⟩
    · exact ⟨m, by omega, h2⟩
    · exact ⟨_, by omega, h2⟩
  refine ⟨fun d => ?_, fun w hw => ?_⟩
  · obtain ⟨m, h1, h2⟩ := hm
    show (some d).bind (dpS v) = _
    rw [Option.bind_some, h2]
    unfold dpS
    rw [if_pos (show (0 : Int32) ≤ In m by show In 0 ≤ In m; rw [n_le (by omega) (by omega)]; omega), if_pos (show In m ≤ (10002 : Int32) by show In m ≤ In 10002; rw [n_le (by omega) (by omega)]; omega)]
  · rw [List.mem_singleton] at hw
    subst hw
    intro j hj hz
    rcases hv with ⟨m, h1, h2⟩ | ⟨i, h1, h2⟩
    · rw [h2, n_eq (by omega) (by omega)] at hz
      omega
    · rw [h2, n_eq (by omega) (by omega)] at hz
      omega
theorem EK_not {key : Nat} {E : List Int32} (h : EK key E) : EK key (-10 :: E) := by
  refine ⟨fun d => ?_, fun v hv => ?_⟩
  · show (dpR d E).bind (dpS (-10)) = _
    rw [h.1, Option.bind_some]
    unfold dpS
    rw [if_neg (by decide), if_pos rfl, if_pos (by omega)]
  · rcases List.mem_cons.mp hv with z | z
    · subst z
      exact EV_neg (by decide)
    · exact h.2 v z
theorem EK_two {key : Nat} {A B : List Int32} {s : Int32} (hA : EK key A) (hB : EK key B) (h1 : s < 0) (h2 : -9 ≤ s) : EK key (s :: (A ++ B)) := by
  refine ⟨fun d => ?_, fun v hv => ?_⟩
  · show (dpR d (A ++ B)).bind (dpS s) = _
    rw [dpR_app, hB.1, Option.bind_some, hA.1, Option.bind_some]
    have h3 : ¬ 0 ≤ s := fun z => by
      rw [Int32.le_iff_toInt_le] at z
      rw [Int32.lt_iff_toInt_lt] at h1
      omega
    have h4 : s ≠ -10 := fun z => by
      rw [z] at h2
      exact absurd h2 (by decide)
    unfold dpS
    rw [if_neg h3, if_neg h4, if_pos h2, if_pos (by omega)]
    rfl
  · rcases List.mem_cons.mp hv with z | z
    · subst z
      exact EV_neg h1
    · rcases List.mem_append.mp z with y | y
      · exact hA.2 v y
      · exact hB.2 v y
/-- what both sides have read from p on: success so far -/
def Sf (T : Nat → Nat) (n key : Nat) (σ τ : Sg) (p : Nat) (D : List Int32) (o c : Nat) (p' : Nat) (σ' τ' : Sg) (E C' W' : List Int32) (a' d : Nat) : Prop :=
  CS T n key σ' p' (E ++ D) a' ∧ fp clP σ σ' ∧ (p < p' ∧ p' ≤ n ∧ E.length ≤ p' - p ∧ d ≤ p' - p) ∧ (∀ F, J193_1 (F + d) (In o) (In c) 1 τ = J193_1 F (In o) (In (cnN W')) 0 τ') ∧ RS T n key τ' p' C' W' a' ∧ fr loL τ τ' ∧ EK key E
/-- both sides fail at the same place -/
def Ff (T : Nat → Nat) (n : Nat) (σ τ : Sg) (p o c : Nat) (x3 : Int32) (p' : Nat) (σ' τ' : Sg) : Prop :=
  Tp T n σ' ∧ Sx σ' ∧ σ' 2 3 = In p' ∧ fp clP σ σ' ∧ (∀ F, n + 2 ≤ F + p → J193_1 F (In o) (In c) x3 τ = some (0, τ')) ∧ τ' 138 11 = In p' ∧ p' ≤ n ∧ fr loL τ τ'
def xL (T : Nat → Nat) (n l p : Nat) (t : Bool) : Prop := lvP T n p = 7 ∨ lvP T n p < l ∨ (l ≤ 2 ∧ lvP T n p = 2 ∧ t = true)
/-- how a level ends -/
def EL (T : Nat → Nat) (n l o : Nat) (τ τ' : Sg) (t : Bool) (C W E : List Int32) (p' : Nat) (C' W' : List Int32) : Prop :=
  stl (l + 1) C' W' = (E ++ C, W) ∧ cnN W' = cnN W ∧ (∃ t', τ' 150 o = bb t' ∧ xL T n l p' t' ∧ (3 ≤ l → t' = t)) ∧ ∀ j, j < o → τ' 150 j = τ 150 j
def LV (T : Nat → Nat) (n key N : Nat) : Prop := ∀ (l o p a : Nat) (t : Bool) (σ τ : Sg) (D C W : List Int32), l ≤ 5 → 9 * (8 - o) + 2 * (8 - cnN W) + 7 - l ≤ N → o ≤ 8 → cnN W ≤ 8 → CS T n key σ p D a → RS T n key τ p C W a → D.length ≤ p → C.length + W.length ≤ p → topOK l W → τ 150 o = bb t → (l ≤ 2 → t = false) →
  (∃ p' σ' τ' E C' W' a' d, JR N 0 (In l) (In o) (In (cnN W)) σ = some (1, σ') ∧ Sf T n key σ τ p D o (cnN W) p' σ' τ' E C' W' a' d ∧ EL T n l o τ τ' t C W E p' C' W')
  ∨ (∃ p' σ' τ', JR N 0 (In l) (In o) (In (cnN W)) σ = some (0, σ') ∧ Ff T n σ τ p o (cnN W) 1 p' σ' τ')
def PC (T : Nat → Nat) (n key N : Nat) : Prop := ∀ (o p a : Nat) (σ τ : Sg) (D C W : List Int32), 9 * (8 - o) + 2 * (8 - cnN W) + 1 ≤ N → o ≤ 8 → cnN W ≤ 8 → CS T n key σ p D a → RS T n key τ p C W a → D.length ≤ p → C.length + W.length ≤ p →
  (∃ p' σ' τ' E C' W' a' d, JR N 1 (In o) (In (cnN W)) 0 σ = some (1, σ') ∧ Sf T n key σ τ p D o (cnN W) p' σ' τ' E C' W' a' d ∧ (C', W') = stl 6 (E ++ C) W ∧ ∀ j, j ≤ o → τ' 150 j = τ 150 j)
  ∨ (∃ p' σ' τ', JR N 1 (In o) (In (cnN W)) 0 σ = some (0, σ') ∧ Ff T n σ τ p o (cnN W) 1 p' σ' τ')
theorem cs_ff {T : Nat → Nat} {n key p a : Nat} {σ : Sg} {D : List Int32} (h : CS T n key σ p D a) : Tp T n σ ∧ Sx σ ∧ σ 2 3 = In p := ⟨h.1, h.2.1, h.2.2.1⟩
theorem nots_le : ∀ (W : List Int32), cnN W ≤ W.length := by
  intro W
  induction W with
  | nil => exact Nat.le_refl _
  | cons w W ih =>
    rw [cnN_c, List.length_cons]
    split <;> omega
theorem Ff_now {T : Nat → Nat} {n key p a o c : Nat} {x3 : Int32} {σ τ τ' : Sg} {D : List Int32} (hS : CS T n key σ p D a) (hp : p ≤ n) (h : ∀ f : Nat, J193_1 (f + 1) (In o) (In c) x3 τ = some (0, τ')) (h1 : τ' 138 11 = In p) (h2 : fr loL τ τ') : Ff T n σ τ p o c x3 p σ τ' := by
  refine ⟨hS.1, hS.2.1, hS.2.2.1, fp_rf _ _, fun F hF => ?_, h1, hp, h2⟩
  obtain ⟨G, rfl⟩ : ∃ g, F = g + 1 := ⟨F - 1, by omega⟩
  exact h G
theorem Ff_lift {T : Nat → Nat} {n p q o c o2 c2 d p' : Nat} {x x2 : Int32} {σ τ σ1 τ1 σ' τ' : Sg} (hc : ∀ F, J193_1 (F + d) (In o) (In c) x τ = J193_1 F (In o2) (In c2) x2 τ1) (hd : d + p ≤ q) (hq : q ≤ n) (f1 : fp clP σ σ1) (f2 : fr loL τ τ1) (h : Ff T n σ1 τ1 q o2 c2 x2 p' σ' τ') : Ff T n σ τ p o c x p' σ' τ' := by
  obtain ⟨h1, h2, h3, h4, h5, h6, h7, h8⟩ := h
  refine ⟨h1, h2, h3, fp_tr f1 h4, fun F hF => ?_, h6, h7, fr_tr f2 h8⟩
  obtain ⟨G, rfl⟩ : ∃ g, F = g + d := ⟨F - d, by omega⟩
  rw [hc]
  exact h5 G (by omega)
theorem rs_lo {τ τ' : Sg} (h : fr rsL τ τ') : fr loL τ τ' := fr_wk h (by decide)
theorem rs_150 {τ τ' : Sg} (h : fr rsL τ τ') : τ' 150 = τ 150 := fr_row (a := 150) h (by decide) (by decide)
/-- nothing fits behind a level 0 -/
theorem stopL {T : Nat → Nat} {n key p a o : Nat} {C W : List Int32} {τ : Sg} {t : Bool} (h : RS T n key τ p C W a) (hl : C.length + W.length ≤ 96) (ho : o ≤ 8) (hx : xL T n 0 p t) (ht : τ 150 o = bb t) (h41 : p < n → T p = 41 → o = 0) (he : p = n → 1 ≤ o) (x2 : Int32) : ∃ τ', (∀ f : Nat, J193_1 (f + 1) (In o) x2 0 τ = some (0, τ')) ∧ τ' 138 11 = In p ∧ fr loL τ τ' := by
  have h11 := h.2.1.1
  have hpn := h.2.1.2.1
  by_cases hq : p = n
  · obtain ⟨τ', e, c, f⟩ := sE h hl ho hq x2
    have := he hq
    rw [if_neg (by omega)] at e
    exact ⟨τ', e, by rw [fr_slot (k := 11) f (by decide)]; exact h11, fr_wk f (by decide)⟩
  · have hq : p < n := by omega
    rcases hx with z | z | ⟨z1, z2, z3⟩
    · unfold lvP at z
      rw [if_pos hq] at z
      exact ⟨τ, sX h ho hq z (h41 hq) x2, h11, fr_rf _ _⟩
    · omega
    · unfold lvP at z2
      rw [if_pos hq] at z2
      exact ⟨τ, sS2 h hq z2 ho (by rw [ht, z3]) x2, h11, fr_rf _ _⟩
theorem stl_n10 (C W : List Int32) : stl 6 C (-10 :: W) = stl 6 (-10 :: C) W := by
  rw [stl_c, if_neg (by decide), if_pos (by decide)]
theorem stl_n11 (r : Nat) (C W : List Int32) : stl r C (-11 :: W) = (C, -11 :: W) := by
  rw [stl_c, if_pos rfl]
/-- a part: number, name, not, in brackets -/
theorem PC_s {T : Nat → Nat} {n key N : Nat} (hk : key < 3) (ih : ∀ M, M ≤ N → LV T n key M ∧ PC T n key M) : PC T n key (N + 1) := by
  intro o p a σ τ D C W hN ho hc hS hR hD hC
  have hn := hS.1.1
  have hpn := hR.2.1.2.1
  have hWn := nots_le W
  show (∃ p' σ' τ' E C' W' a' d, J90 (JR N) (In o) (In (cnN W)) σ = some (1, σ') ∧ _ ∧ _) ∨ (∃ p' σ' τ', J90 (JR N) (In o) (In (cnN W)) σ = some (0, σ') ∧ _)
  by_cases hq : p < n ∧ (T p = 33 ∨ T p = 40)
  · obtain ⟨hq, hT⟩ := hq
    have haP : aP T n key p = none := by
      have hw : wB T n p = false := by
        rcases hT with z | z <;> exact w_no z (by omega) (by omega)
      unfold wB at hw
      rw [Bool.or_eq_false_iff] at hw
      unfold aP
      rw [if_neg (show ¬ dB T n p = true by rw [hw.2]; decide), if_neg (show ¬ lB T n p = true by rw [hw.1]; decide)]
      split <;> rfl
    have e83 := c83 (p := p) hS.1 (by omega)
    have hb : bY T n p = In (T p) := if_pos hq
    have l1 : C.length + W.length < 96 := by omega
    obtain ⟨q1, q2⟩ := sK_bd (T := T) (n := n) (q := p + 1) (by omega)
    obtain ⟨σ1, e82, k1, f1⟩ := c82s hS (q := p + 1) (by omega)
    rcases hT with hT | hT
    · -- a not
      have e90 : J90 (JR N) (In o) (In (cnN W)) σ = if 8 ≤ cnN W then some (0, σ) else (JR N 2 (In o) (In (cnN W + 1)) 0 σ).bind fun p42 => if p42.1 = 0 then (some ((0 : Int32), p42.2)) else (some ((1 : Int32), p42.2)) := by
        unfold J90
        rw [hS.2.2.1, e83, Option.bind_some]
        dsimp only
        rw [if_pos (by rw [hb, hT]; rfl), show (8 : Int32) = In 8 from rfl, i_le (by omega) (by omega), n_p1]
      rw [e90]
      by_cases h8 : 8 ≤ cnN W
      · rw [if_pos h8]
        exact Or.inr ⟨p, σ, τ, rfl, Ff_now hS hpn (sPn hR hk (by omega) (by omega) haP (fun _ _ => h8) (fun _ z => by omega)) hR.2.1.1 (fr_rf _ _)⟩
      · rw [if_neg h8]
        obtain ⟨τ1, s1, s2, s3⟩ := sN (o := o) hR l1 hq hT (c := cnN W) (by omega)
        have hcn : cnN (-10 :: W) = cnN W + 1 := by
          rw [cnN_c, if_pos rfl]
          omega
        obtain ⟨M, rfl⟩ : ∃ m, N = m + 1 := ⟨N - 1, by omega⟩
        have e91 : JR (M + 1) 2 (In o) (In (cnN W + 1)) 0 σ = (JR M 1 (In o) (In (cnN (-10 :: W))) 0 σ1).bind fun p2 => if p2.1 = 0 then (some ((0 : Int32), p2.2)) else ((J92 4 (33 : Int32) p2.2).bind fun σ3 => some ((1 : Int32), σ3)) := by
          show J91 (JR M) (In o) (In (cnN W + 1)) σ = _
          unfold J91
          rw [hS.2.2.1, n_p1, e82, Option.bind_some, hcn]
        rw [e91]
        rcases (ih M (by omega)).2 o (sK T n (p + 1)) a σ1 τ1 D C (-10 :: W) (by omega) ho (by omega) k1 s2 (by omega) (by rw [List.length_cons]; omega) with ⟨p', σ', τ', E, C', W', a', d, e1, ⟨g1, g2, g3, g4, g5, g6, g7⟩, e2, e3⟩ | ⟨p', σ', τ', e1, hF⟩
        · have hl5 : (E ++ D).length < 96 := by
            rw [List.length_append]
            omega
          obtain ⟨σ3, e93, k3, f3⟩ := c93s g1 hl5 (-10)
          refine Or.inl ⟨p', σ3, τ', -10 :: E, C', W', a', d + 1, ?_, ⟨k3, fp_tr f1 (fp_tr g2 f3), ⟨by omega, by omega, by rw [List.length_cons]; omega, by omega⟩, fun F => ?_, g5, fr_tr (rs_lo s3) g6, EK_not g7⟩, ?_, fun j hj => ?_⟩
          · rw [e1, Option.bind_some]
            dsimp only
            rw [if_neg (by decide)]
            unfold J92
            rw [show (-(33 : Int32)) = cvt (-10) from by decide, e93]
            rfl
          · rw [show F + (d + 1) = F + d + 1 by omega, s1, g4]
          · rw [e2, stl_n10]
            rfl
          · rw [e3 j hj, rs_150 s3]
        · refine Or.inr ⟨p', σ', τ', ?_, Ff_lift (d := 1) s1 (by omega) q2 f1 (rs_lo s3) hF⟩
          rw [e1]
          rfl
    · -- in brackets
      have e90 : J90 (JR N) (In o) (In (cnN W)) σ = if 8 ≤ o then some (0, σ) else (JR N 3 (In (o + 1)) (In (cnN W)) 0 σ).bind fun p41 => if p41.1 = 0 then (some ((0 : Int32), p41.2)) else (some ((1 : Int32), p41.2)) := by
        unfold J90
        rw [hS.2.2.1, e83, Option.bind_some]
        dsimp only
        rw [if_neg (by rw [hb, hT]; decide), if_pos (by rw [hb, hT]; rfl), show (8 : Int32) = In 8 from rfl, i_le (by omega) (by omega), n_p1]
      rw [e90]
      by_cases h8 : 8 ≤ o
      · rw [if_pos h8]
        exact Or.inr ⟨p, σ, τ, rfl, Ff_now hS hpn (sPn hR hk (by omega) (by omega) haP (fun _ z => by omega) (fun _ _ => h8)) hR.2.1.1 (fr_rf _ _)⟩
      · rw [if_neg h8]
        obtain ⟨τ1, s1, s2, s3, s4, s5⟩ := sO (o := o) (c := cnN W) hR l1 hq hT (by omega)
        have hcn : cnN (-11 :: W) = cnN W := by
          rw [cnN_c, if_neg (by decide)]
          omega
        obtain ⟨M, rfl⟩ : ∃ m, N = m + 1 := ⟨N - 1, by omega⟩
        have e94 : JR (M + 1) 3 (In (o + 1)) (In (cnN W)) 0 σ = (JR M 0 (In 0) (In (o + 1)) (In (cnN (-11 :: W))) σ1).bind fun p2 => if p2.1 = 0 then (some ((0 : Int32), p2.2)) else ((J83 (p2.2 2 3) p2.2).bind fun p3 => if p3.1 = (41 : Int32) then ((J82 ((p3.2 2 3) + (1 : Int32)) p3.2).bind fun σ4 => some ((1 : Int32), σ4)) else (some ((0 : Int32), p3.2))) := by
          show J94 (JR M) (In (o + 1)) (In (cnN W)) σ = _
          unfold J94
          rw [hS.2.2.1, n_p1, e82, Option.bind_some, hcn]
          rfl
        rw [e94]
        rcases (ih M (by omega)).1 0 (o + 1) (sK T n (p + 1)) a false σ1 τ1 D C (-11 :: W) (by omega) (by omega) (by omega) (by omega) k1 s2 (by omega) (by rw [List.length_cons]; omega) (Or.inl rfl) s4 (fun _ => rfl) with ⟨p', σ', τ', E, C', W', a', d, e1, ⟨g1, g2, g3, g4, g5, g6, g7⟩, ⟨v1, v2, ⟨t', v3, v4, v5⟩, v6⟩⟩ | ⟨p', σ', τ', e1, hF⟩
        · have hlen := stl_len 1 W' C'
          rw [v1] at hlen
          have hlen : (E ++ C).length + (-11 :: W).length = C'.length + W'.length := hlen
          rw [List.length_append, List.length_cons] at hlen
          have l96 : C'.length + W'.length ≤ 96 := by omega
          rw [e1, Option.bind_some]
          dsimp only
          rw [if_neg (show ¬ (1 : Int32) = 0 by decide), g1.2.2.1, c83 g1.1 (by omega), Option.bind_some]
          dsimp only
          have chain : ∀ F, J193_1 (F + (d + 1)) (In o) (In (cnN W)) 1 τ = J193_1 F (In (o + 1)) (In (cnN W')) 0 τ' := by
            intro F
            rw [show F + (d + 1) = F + d + 1 by omega, s1, g4]
          by_cases hc41 : p' < n ∧ T p' = 41
          · obtain ⟨hp', h41⟩ := hc41
            have hs0 : stl 0 C' W' = (E ++ C, -11 :: W) := by
              rw [← stl_mono (show 0 ≤ 1 by omega) W' C', v1]
              exact stl_n11 0 _ _
            obtain ⟨τ2, y1, y2, y3⟩ := sC (o := o + 1) g5 (by omega) hp' h41 (by omega) (by omega) hs0 (In (cnN W'))
            obtain ⟨σ2, e82', k2, f2⟩ := c82s g1 (q := p' + 1) (by omega)
            obtain ⟨q3, q4⟩ := sK_bd (T := T) (n := n) (q := p' + 1) (by omega)
            refine Or.inl ⟨sK T n (p' + 1), σ2, τ2, E, _, _, a', d + 2, ?_, ⟨k2, fp_tr f1 (fp_tr g2 f2), ⟨by omega, q4, by omega, by omega⟩, fun F => ?_, y2, fr_tr s3 (fr_tr g6 (rs_lo y3)), g7⟩, rfl, fun j hj => ?_⟩
            · rw [if_pos (show bY T n p' = 41 by unfold bY; rw [if_pos hp', h41]; rfl), g1.2.2.1, n_p1, e82']
              rfl
            · rw [show F + (d + 2) = F + 1 + (d + 1) by omega, chain, y1, show o + 1 - 1 = o by omega]
            · rw [rs_150 y3, v6 j (by omega), s5 j (by omega)]
          · have hb41 : bY T n p' ≠ 41 := by
              unfold bY
              by_cases hz : p' < n
              · have := (hS.1.2.2 p' (by omega)).2
                rw [if_pos hz, show (41 : Int32) = In 41 from rfl]
                intro w
                rw [n_eq (by omega) (by omega)] at w
                exact hc41 ⟨hz, w⟩
              · rw [if_neg hz]
                decide
            obtain ⟨τ2, y1, y2, y3⟩ := stopL (o := o + 1) g5 l96 (by omega) v4 v3 (fun z1 z2 => absurd ⟨z1, z2⟩ hc41) (fun _ => by omega) (In (cnN W'))
            refine Or.inr ⟨p', σ', τ2, ?_, Ff_lift (d := d + 1) chain (by omega) (by omega) (fp_tr f1 g2) (fr_tr s3 g6) (Ff_now g1 (by omega) y1 y2 y3)⟩
            rw [if_neg hb41]
            rfl
        · refine Or.inr ⟨p', σ', τ', ?_, Ff_lift (d := 1) s1 (by omega) q2 f1 s3 hF⟩
          rw [e1]
          rfl
  · have h33 : p < n → T p ≠ 33 ∧ T p ≠ 40 := fun z => ⟨fun y => hq ⟨z, Or.inl y⟩, fun y => hq ⟨z, Or.inr y⟩⟩
    have ea := hR.2.1.2.1
    cases hv : aP T n key p with
    | none =>
      have h90 := c90 (rc := JR N) (x := In o) (y := In (cnN W)) hS hk hpn (fun _ => by omega) h33
      rw [hv] at h90
      exact Or.inr ⟨p, σ, τ, h90, Ff_now hS hpn (sPn hR hk (by omega) (by omega) hv (fun z y => absurd y (h33 z).1) (fun z y => absurd y (h33 z).2)) hR.2.1.1 (fr_rf _ _)⟩
    | some v =>
      have hpl : p < n ∧ p < wE T n p ∧ wE T n p ≤ n := by
        have h0 := m194a hR.1 hR.2.1 hk hR.2.2.1
        rw [hv] at h0
        obtain ⟨w1, w2, w3, w4, w5⟩ := wE_bd (T := T) hpn
        have := w3 h0.1
        omega
      have h90 := c90 (rc := JR N) (x := In o) (y := In (cnN W)) hS hk hpn (fun _ => by omega) h33
      rw [hv] at h90
      obtain ⟨σ', e1, k1, f1⟩ := h90
      obtain ⟨τ', s1, s2, s3⟩ := sP (o := o) hR hk (by omega) hv (In (cnN W))
      obtain ⟨q1, q2⟩ := sK_bd (T := T) (n := n) (q := wE T n p) hpl.2.2
      exact Or.inl ⟨_, σ', τ', [v], _, _, a + 1, 1, e1, ⟨k1, f1, ⟨by omega, q2, by show 1 ≤ _; omega, by omega⟩, s1, s2, rs_lo s3, EK_atom hk hpn hv⟩, rfl, fun j hj => by rw [rs_150 s3]⟩
