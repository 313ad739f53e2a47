/-! PURE: reading a text: the levels -/
theorem lv_no {T : Nat → Nat} {n p l : Nat} (hl : l < 5) (h : lvP T n p = l) : p < n ∧ lvN (T p) = l := by
  unfold lvP at h
  by_cases hp : p < n
  · rw [if_pos hp] at h
    exact ⟨hp, h⟩
  · rw [if_neg hp] at h
    omega
theorem lvP_le (T : Nat → Nat) (n p : Nat) (h : ∀ k, k < n → T k < 256) : lvP T n p ≤ 7 := by
  unfold lvP
  by_cases hp : p < n
  · rw [if_pos hp]
    by_cases h7 : lvN (T p) = 7
    · omega
    · have := ((sg_f (h p hp)).2 h7).1
      omega
  · rw [if_neg hp]
    omega
theorem lv_loop {T : Nat → Nat} {n key N : Nat} (ih : LV T n key N) {l o p lim : Nat} {t : Bool} {σ τ : Sg} {D C W : List Int32} (hl : l < 5) (hN : 9 * (8 - o) + 2 * (8 - cnN W) + 6 - l ≤ N) (ho : o ≤ 8) (hc : cnN W ≤ 8) (hD : D.length ≤ p) (hC : C.length + W.length ≤ p) (htop : topOK l W) (htf : l ≤ 2 → t = false) (hlim : (l = 2 → lim = 1) ∧ (l ≠ 2 → lim = 96)) :
    ∀ (m f i p1 : Nat) (σ1 τ1 : Sg) (E1 C1 W1 : List Int32) (a1 d1 : Nat) (t1 : Bool), n - p1 ≤ m → m < f → Sf T n key σ τ p D o (cnN W) p1 σ1 τ1 E1 C1 W1 a1 d1 → stl (l + 1) C1 W1 = (E1 ++ C, W) → cnN W1 = cnN W → τ1 150 o = bb t1 → xL T n (l + 1) p1 t1 → (3 ≤ l → t1 = t) → (∀ j, j < o → τ1 150 j = τ 150 j) → i < p1 → i ≤ lim → (l = 2 → (i = 0 ∧ t1 = false) ∨ (i = 1 ∧ t1 = true)) →
    (∃ p' σ' τ' E C' W' a' d, J89_5 (JR N) f (In l) (In o) (In (cnN W)) (In lim) (In i) σ1 = some (1, σ') ∧ Sf T n key σ τ p D o (cnN W) p' σ' τ' E C' W' a' d ∧ EL T n l o τ τ' t C W E p' C' W')
    ∨ (∃ p' σ' τ', J89_5 (JR N) f (In l) (In o) (In (cnN W)) (In lim) (In i) σ1 = some (0, σ') ∧ Ff T n σ τ p o (cnN W) 1 p' σ' τ') := by
  intro m
  induction m with
  | zero =>
    intro f i p1 σ1 τ1 E1 C1 W1 a1 d1 t1 hm hf hS v1 v2 v3 v4 v5 v6 hi hil h2
    obtain ⟨f, rfl⟩ : ∃ g, f = g + 1 := ⟨f - 1, by omega⟩
    have hS' := hS
    obtain ⟨g1, g2, g3, g4, g5, g6, g7⟩ := hS
    have hn := g1.1.1
    have hpn : ¬ p1 < n := by omega
    have l7 : lvP T n p1 = 7 := by
      unfold lvP
      rw [if_neg hpn]
    refine Or.inl ⟨p1, σ1, τ1, E1, C1, W1, a1, d1, ?_, hS', v1, v2, ⟨t1, v3, Or.inl l7, v5⟩, v6⟩
    unfold J89_5
    rw [g1.2.2.1, c83 g1.1 (by omega), Option.bind_some]
    dsimp only
    rw [c100 g1.1, if_pos l7, Option.bind_some]
    dsimp only
    rw [if_neg (show ¬ (-1 : Int32) = In l by intro z; have := congrArg Int32.toInt z; rw [n_ti (by omega)] at this; have q : (-1 : Int32).toInt = -1 := (by decide); omega)]
    split <;> rfl
  | succ m ihm =>
    intro f i p1 σ1 τ1 E1 C1 W1 a1 d1 t1 hm hf hS v1 v2 v3 v4 v5 v6 hi hil h2
    obtain ⟨f, rfl⟩ : ∃ g, f = g + 1 := ⟨f - 1, by omega⟩
    have hS' := hS
    obtain ⟨g1, g2, g3, g4, g5, g6, g7⟩ := hS
    have hn := g1.1.1
    have e : J89_5 (JR N) (f + 1) (In l) (In o) (In (cnN W)) (In lim) (In i) σ1 = if lim ≤ i then some (1, σ1) else if lvP T n p1 = l then ((J82 (In (p1 + 1)) σ1).bind fun σ4 => (JR N 0 (In (l + 1)) (In o) (In (cnN W)) σ4).bind fun p5 => if p5.1 = 0 then (some ((0 : Int32), p5.2)) else ((J92 4 (bY T n p1) p5.2).bind fun σ6 => J89_5 (JR N) f (In l) (In o) (In (cnN W)) (In lim) (In (i + 1)) σ6)) else some (1, σ1) := by
      conv => lhs; unfold J89_5
      rw [g1.2.2.1, c83 g1.1 (by omega), Option.bind_some]
      dsimp only
      rw [c100 g1.1, Option.bind_some]
      dsimp only
      rw [g1.2.2.1, c83 g1.1 (by omega), Option.bind_some]
      dsimp only
      rw [g1.2.2.1, i_le (by rcases Nat.decEq l 2 with z | z; rw [hlim.2 z]; omega; rw [hlim.1 z]; omega) (by omega), n_p1, n_p1, n_p1]
      have hq : ((if lvP T n p1 = 7 then -1 else In (lvP T n p1)) = In l) = (lvP T n p1 = l) := by
        by_cases z : lvP T n p1 = 7
        · rw [if_pos z]
          apply propext
          constructor
          · intro y
            have := congrArg Int32.toInt y
            rw [n_ti (by omega)] at this
            have q : (-1 : Int32).toInt = -1 := by decide
            omega
          · intro y
            omega
        · rw [if_neg z]
          have := lvP_le T n p1 fun k hk => (g1.1.2.2 k (by omega)).2
          exact n_eq (by omega) (by omega)
      rw [ite_c hq]
    rw [e]
    by_cases hli : lim ≤ i
    · rw [if_pos hli]
      have hl2 : l = 2 := by
        by_cases z : l = 2
        · exact z
        · have := hlim.2 z
          omega
      have := hlim.1 hl2
      have ht1 : t1 = true := by
        rcases h2 hl2 with z | z
        · omega
        · exact z.2
      refine Or.inl ⟨p1, σ1, τ1, E1, C1, W1, a1, d1, rfl, hS', v1, v2, ⟨t1, v3, ?_, v5⟩, v6⟩
      rcases v4 with z | z | ⟨z1, z2, z3⟩
      · exact Or.inl z
      · by_cases y : lvP T n p1 = 2
        · exact Or.inr (Or.inr ⟨by omega, y, ht1⟩)
        · exact Or.inr (Or.inl (by omega))
      · exact Or.inr (Or.inr ⟨by omega, z2, z3⟩)
    · rw [if_neg hli]
      by_cases hlv : lvP T n p1 = l
      · rw [if_pos hlv]
        obtain ⟨hp1, hlN⟩ := lv_no hl hlv
        have hb := (g1.1.2.2 p1 (by omega)).2
        have h7 : lvN (T p1) ≠ 7 := by omega
        obtain ⟨x1, x2, x3, x4, x5, x6, x7, x8⟩ := (sg_f hb).2 h7
        have hlen := stl_len (l + 1) W1 C1
        rw [v1] at hlen
        have hlen : (E1 ++ C).length + W.length = C1.length + W1.length := hlen
        rw [List.length_append] at hlen
        have ht0 : l = 2 → t1 = false := by
          intro z
          have := hlim.1 z
          rcases h2 z with y | y
          · exact y.2
          · omega
        obtain ⟨τ2, s1, s2, s3, s4, s5⟩ := sS (o := o) g5 (by omega) hp1 h7 ho v3 (fun z => ht0 (by omega)) (In (cnN W1))
        rw [hlN, v1] at s2
        have s2 : RS T n key τ2 (sK T n (p1 + 1)) (E1 ++ C) (sgB (T p1) :: W) a1 := s2
        rw [hlN] at s4
        obtain ⟨σ2, e82, k2, f2⟩ := c82s g1 (q := p1 + 1) (by omega)
        obtain ⟨q1, q2⟩ := sK_bd (T := T) (n := n) (q := p1 + 1) (by omega)
        have hcn : cnN (sgB (T p1) :: W) = cnN W := by
          rw [cnN_c, if_neg (fun z => by rw [z] at x5; exact absurd x5 (by decide))]
          omega
        rw [v2] at s1 g4
        have chain : ∀ F, J193_1 (F + (d1 + 1)) (In o) (In (cnN W)) 1 τ = J193_1 F (In o) (In (cnN W)) 1 τ2 := by
          intro F
          rw [show F + (d1 + 1) = F + 1 + d1 by omega, g4, s1]
        rw [e82, Option.bind_some]
        have IH := ih (l + 1) o (sK T n (p1 + 1)) a1 _ σ2 τ2 (E1 ++ D) (E1 ++ C) (sgB (T p1) :: W) (by omega) (by rw [hcn]; omega) ho (by omega) k2 s2 (by rw [List.length_append]; omega) (by rw [List.length_append, List.length_cons]; omega) (Or.inr (by omega)) s4 (fun z => by rw [if_neg (by omega), if_pos (by omega)])
        rw [hcn] at IH
        rcases IH with ⟨p', σ', τ', E, C', W', a', d, e1, ⟨y1, y2, y3, y4, y5, y6, y7⟩, ⟨u1, u2, ⟨t', u3, u4, u5⟩, u6⟩⟩ | ⟨p', σ', τ', e1, hF⟩
        · rw [e1, Option.bind_some]
          dsimp only
          rw [if_neg (show ¬ (1 : Int32) = 0 by decide)]
          have hl5 : (E ++ (E1 ++ D)).length < 96 := by
            rw [List.length_append, List.length_append]
            omega
          obtain ⟨σ3, e93, k3, f3⟩ := c93s y1 hl5 (sgB (T p1))
          have e92 : J92 4 (bY T n p1) σ' = some σ3 := by
            unfold J92
            rw [show bY T n p1 = In (T p1) from if_pos hp1, ← x3, e93]
            rfl
          rw [e92, Option.bind_some]
          have hne : i + 1 ≤ lim := by omega
          refine ihm f (i + 1) p' σ3 τ' (sgB (T p1) :: (E ++ E1)) C' W' a' (d1 + 1 + d) t' (by omega) (by omega) ⟨?_, ?_, ⟨by omega, by omega, by rw [List.length_cons, List.length_append]; omega, by omega⟩, fun F => ?_, y5, ?_, EK_two y7 g7 x4 x5⟩ ?_ (u2.trans hcn) u3 ?_ (fun z => ?_) (fun j hj => ?_) (by omega) hne (fun z => ?_)
          · rw [List.cons_append, List.append_assoc]
            exact k3
          · exact fp_tr g2 (fp_tr f2 (fp_tr y2 f3))
          · rw [show F + (d1 + 1 + d) = F + d + (d1 + 1) by omega, chain, y4]
          · exact fr_tr g6 (fr_tr s3 y6)
          · rw [← stl_mono (show l + 1 ≤ l + 1 + 1 by omega) W' C', u1]
            show stl (l + 1) (E ++ (E1 ++ C)) (sgB (T p1) :: W) = _
            rw [stl_c, if_neg (fun z => by rw [z] at x5; exact absurd x5 (by decide)), if_pos (by omega), stl_top (by omega) htop, List.cons_append, List.append_assoc]
          · exact u4
          · rw [u5 (by omega), if_neg (by omega), if_neg (by omega)]
            exact v5 z
          · rw [u6 j hj, s5 j (by omega), v6 j hj]
          · refine Or.inr ⟨?_, ?_⟩
            · have := hlim.1 z
              omega
            · rw [u5 (by omega), if_pos z]
        · refine Or.inr ⟨p', σ', τ', ?_, Ff_lift (d := d1 + 1) chain (by omega) q2 (fp_tr g2 f2) (fr_tr g6 s3) hF⟩
          rw [e1]
          rfl
      · rw [if_neg hlv]
        refine Or.inl ⟨p1, σ1, τ1, E1, C1, W1, a1, d1, rfl, hS', v1, v2, ⟨t1, v3, ?_, v5⟩, v6⟩
        rcases v4 with z | z | ⟨z1, z2, z3⟩
        · exact Or.inl z
        · exact Or.inr (Or.inl (by omega))
        · exact Or.inr (Or.inr ⟨by omega, z2, z3⟩)
theorem LV_s {T : Nat → Nat} {n key N : Nat} (ih : LV T n key N ∧ PC T n key N) : LV T n key (N + 1) := by
  intro l o p a t σ τ D C W hl5 hN ho hc hS hR hD hC htop ht htf
  have hn := hS.1.1
  show (∃ p' σ' τ' E C' W' a' d, J89 (JR N) (In l) (In o) (In (cnN W)) σ = some (1, σ') ∧ _ ∧ _) ∨ (∃ p' σ' τ', J89 (JR N) (In l) (In o) (In (cnN W)) σ = some (0, σ') ∧ _)
  by_cases hl : l < 5
  · have e : J89 (JR N) (In l) (In o) (In (cnN W)) σ = (JR N 0 (In (l + 1)) (In o) (In (cnN W)) σ).bind fun p40 => if p40.1 = 0 then (some ((0 : Int32), p40.2)) else J89_5 (JR N) hy_fu (In l) (In o) (In (cnN W)) (In (if l = 2 then 1 else 96)) (In 0) p40.2 := by
      unfold J89 J89_4
      rw [if_pos (show In l < (5 : Int32) by show In l < In 5; rw [n_lt (by omega) (by omega)]; omega), n_p1]
      congr 1
      funext p40
      rw [show (2 : Int32) = In 2 from rfl, i_eq (by omega) (by omega)]
      by_cases z : l = 2
      · rw [if_pos z, if_pos z]
        rfl
      · rw [if_neg z, if_neg z]
        rfl
    rw [e]
    rcases ih.1 (l + 1) o p a t σ τ D C W (by omega) (by omega) ho hc hS hR hD hC (topOK_up (by omega) htop) ht (fun z => htf (by omega)) with ⟨p', σ', τ', E, C', W', a', d, e1, hSf, ⟨u1, u2, ⟨t', u3, u4, u5⟩, u6⟩⟩ | ⟨p', σ', τ', e1, hF⟩
    · rw [e1, Option.bind_some]
      dsimp only
      rw [if_neg (show ¬ (1 : Int32) = 0 by decide)]
      have hp' := hSf.2.2.1
      refine lv_loop ih.1 hl (by omega) ho hc hD hC htop htf ⟨fun z => if_pos z, fun z => if_neg z⟩ n hy_fu 0 p' σ' τ' E C' W' a' d t' (by omega) (by unfold hy_fu; omega) hSf ?_ u2 u3 u4 (fun z => u5 (by omega)) u6 (by omega) (by omega) (fun z => Or.inl ⟨rfl, ?_⟩)
      · rw [← stl_mono (show l + 1 ≤ l + 1 + 1 by omega) W' C', u1]
        exact stl_top (by omega) htop
      · rw [u5 (by omega)]
        exact htf (by omega)
    · refine Or.inr ⟨p', σ', τ', ?_, hF⟩
      rw [e1]
      rfl
  · have h5 : l = 5 := by omega
    subst h5
    have e : J89 (JR N) (In 5) (In o) (In (cnN W)) σ = (JR N 1 (In o) (In (cnN W)) 0 σ).bind fun p41 => if p41.1 = 0 ∨ p41.1 = 1 then some (p41.1, p41.2) else none := by
      unfold J89
      rw [if_neg (by decide)]
    rw [e]
    rcases ih.2 o p a σ τ D C W (by omega) ho hc hS hR hD hC with ⟨p', σ', τ', E, C', W', a', d, e1, hSf, e2, e3⟩ | ⟨p', σ', τ', e1, hF⟩
    · have hst : stl 6 C' W' = (E ++ C, W) := by
        have q1 : C' = (stl 6 (E ++ C) W).1 := congrArg Prod.fst e2
        have q2 : W' = (stl 6 (E ++ C) W).2 := congrArg Prod.snd e2
        rw [q1, q2, stl_mono (Nat.le_refl 6)]
        exact stl_top (by omega) htop
      have hW : W' = W := by
        rw [stl_top (by omega) htop] at e2
        exact congrArg Prod.snd e2
      refine Or.inl ⟨p', σ', τ', E, C', W', a', d, by rw [e1]; rfl, hSf, hst, by rw [hW], ⟨t, by rw [e3 o (Nat.le_refl _)]; exact ht, ?_, fun _ => rfl⟩, fun j hj => e3 j (by omega)⟩
      have := lvP_le T n p' fun k hk => (hS.1.2.2 k (by omega)).2
      by_cases z : lvP T n p' = 7
      · exact Or.inl z
      · refine Or.inr (Or.inl ?_)
        unfold lvP at z ⊢
        by_cases hp : p' < n
        · rw [if_pos hp] at z ⊢
          have := ((sg_f (hS.1.2.2 p' (by omega)).2).2 z).1
          omega
        · rw [if_neg hp] at z
          exact absurd rfl z
    · refine Or.inr ⟨p', σ', τ', ?_, hF⟩
      rw [e1]
      rfl
theorem rdOK {T : Nat → Nat} {n key : Nat} (hk : key < 3) : ∀ N M, M ≤ N → LV T n key M ∧ PC T n key M := by
  have h0 : LV T n key 0 ∧ PC T n key 0 := by
    constructor
    · intro l o p a t σ τ D C W h1 h2 h3
      omega
    · intro o p a σ τ D C W h1
      omega
  intro N
  induction N with
  | zero =>
    intro M hM
    have : M = 0 := by omega
    subst this
    exact h0
  | succ N ih =>
    intro M hM
    by_cases h : M ≤ N
    · exact ih M h
    · have : M = N + 1 := by omega
      subst this
      exact ⟨LV_s (ih N (Nat.le_refl _)), PC_s hk ih⟩
