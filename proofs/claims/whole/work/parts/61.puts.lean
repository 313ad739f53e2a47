/-! PURE: bales moved on the class's side -/
theorem hdL_c {S T : Rw} {p : Nat} : ∀ {m i : Nat}, (∀ b, i ≤ b → b < i + m → bf T b 2 = bf S b 2) → hdL T p i m = hdL S p i m := by
  intro m
  induction m with
  | zero => intro i _; rfl
  | succ m ih =>
    intro i h
    unfold hdL
    rw [ih fun b q1 q2 => h b (by omega) (by omega), h i (Nat.le_refl _) (by omega)]
theorem hd_c {S T : Rw} {p : Nat} (hn : nb T = nb S) (h : ∀ b, b < nb S → bf T b 2 = bf S b 2) : hd T p = hd S p := by
  unfold hd
  rw [hn]
  exact hdL_c fun b _ hb => h b (by omega)
theorem ctL_c {S T : Rw} {key : Nat} : ∀ {n : Nat}, (∀ t, t < n → T (79 + 2 * t) = S (79 + 2 * t)) → ctL T key n = ctL S key n := by
  intro n
  induction n with
  | zero => intro _; rfl
  | succ n ih =>
    intro h
    unfold ctL
    rw [ih fun t ht => h t (by omega), h n (by omega)]
/-- the texts are the same -/
def eqT (S T : Rw) : Prop := T 6 = S 6 ∧ ∀ k, 79 ≤ k → T k = S k
theorem eqT_rf (S : Rw) : eqT S S := ⟨rfl, fun _ _ => rfl⟩
theorem eqT_tr {S T U : Rw} (h1 : eqT S T) (h2 : eqT T U) : eqT S U := ⟨h2.1.trans h1.1, fun k hk => (h2.2 k hk).trans (h1.2 k hk)⟩
theorem eqT_upd (S : Rw) {k : Nat} (v : Int32) (h1 : k ≠ 6) (h2 : k < 79) : eqT S (upd S k v) := ⟨upd_ne _ _ (Ne.symm h1), fun j hj => upd_ne _ _ (by omega)⟩
theorem eqT_nt {S T : Rw} (h : eqT S T) : nt T = nt S := by
  unfold nt
  rw [h.1]
theorem eqT_ct {S T : Rw} (h : eqT S T) (key : Nat) : ct T key = ct S key := by
  unfold ct
  rw [eqT_nt h]
  exact ctL_c fun t _ => h.2 _ (by omega)
theorem eqT_tlen {S T : Rw} (h : eqT S T) (t : Nat) : tlen T t = tlen S t := by
  unfold tlen
  rw [h.2 _ (by omega)]
theorem eqT_tkey {S T : Rw} (h : eqT S T) (t : Nat) : tkey T t = tkey S t := by
  unfold tkey
  rw [h.2 _ (by omega)]
theorem eqT_tcode {S T : Rw} (h : eqT S T) (t : Nat) : tcode T t = tcode S t := by
  funext i
  exact h.2 _ (by omega)
theorem eqT_txV {S T : Rw} (h : eqT S T) (t : Nat) (fc : Nat → Int32) : txV T t fc = txV S t fc := by
  unfold txV
  rw [eqT_tlen h, eqT_tcode h]
theorem eqT_vw {S T : Rw} (h : eqT S T) (k y p : Nat) (w : Int32) : vw T k y p w = vw S k y p w := by
  unfold vw plV
  rw [eqT_ct h]
  cases ct S 0 with
  | none => rfl
  | some t => dsimp only; rw [eqT_txV h]
theorem eqT_Ok {S T : Rw} (h : eqT S T) (hS : OkT S) : OkT T := by
  refine ⟨fun t ht => ?_, fun t ht => ?_⟩
  · rw [eqT_nt h] at ht
    rw [h.2 (79 + 2 * t) (by omega)]
    exact hS.1 t ht
  · rw [eqT_nt h] at ht
    rw [eqT_tcode h, eqT_tlen h, eqT_tkey h]
    exact hS.2 t ht
theorem eqT_Rl {σ : Sg} {S T : Rw} (h : eqT S T) (hl : Rl σ S) : Rl σ T := by
  intro t ht
  rw [eqT_nt h] at ht
  rw [eqT_tlen h, eqT_tkey h, eqT_tcode h, h.2 (80 + 2 * t) (by omega)]
  exact hl t ht
theorem eqT_Rc {σ : Sg} {o : Nat} {S T : Rw} (h : eqT S T) (hk : ∀ k, k < 3 → σ (o + 3) k = oI (-1000000005) (ct S k)) : ∀ k, k < 3 → σ (o + 3) k = oI (-1000000005) (ct T k) := fun k h3 => by rw [eqT_ct h]; exact hk k h3
/-- a bale's field other than its place becomes another -/
theorem Rc_fld {σ : Sg} {o b w : Nat} {S : Rw} (hS : OkR S) (hc : Rc σ o S) (hb : b < nb S) (hw : w < 6) (hw2 : w ≠ 2) (v : Int32) : Rc (hy_up σ (o + 7 + b) w v) o (upd S (7 + 6 * b + w) v) := by
  have h12 := hS.1.2
  obtain ⟨⟨a1, a2, a3, a4, a5, a6, a7⟩, h2, h3, h4⟩ := hc
  have hn : nb (upd S (7 + 6 * b + w) v) = nb S := nb_upd (by omega)
  have e : ∀ a, a ≠ o + 7 + b → hy_up σ (o + 7 + b) w v a = σ a := fun a ha => up_ne _ _ _ ha
  have u : ∀ k, k < 7 → upd S (7 + 6 * b + w) v k = S k := fun k hk => upd_ne _ _ (by omega)
  refine ⟨?_, fun c hc x hx => ?_, fun p hp => ?_, ?_⟩
  · rw [e o (by omega), u 1 (by omega), u 2 (by omega), u 3 (by omega), u 4 (by omega), u 5 (by omega), u 6 (by omega), u 0 (by omega)]
    exact ⟨a1, a2, a3, a4, a5, a6, a7⟩
  · rw [hn] at hc
    by_cases hcb : c = b
    · subst hcb
      rw [up_same]
      by_cases hxw : x = w
      · subst hxw
        rw [upd_at, upd_at]
      · rw [upd_ne _ _ hxw, upd_ne _ _ (by omega)]
        exact h2 c hc x hx
    · rw [e _ (by omega), upd_ne _ _ (by omega)]
      exact h2 c hc x hx
  · rw [e _ (by omega), hd_c hn fun c _ => bf_upd (by omega)]
    exact h3 p hp
  · rw [e _ (by omega)]
    exact eqT_Rc (eqT_upd S v (by omega) (by omega)) h4
theorem hd_upd {S : Rw} {b v : Nat} (hS : OkR S) (hb : b < nb S) (hv : v ≤ 36) (hf : v = 36 ∨ ∀ c, c < nb S → c ≠ b → bf S c 2 ≠ v) {p : Nat} (hp : p < 36) : hd (upd S (7 + 6 * b + 2) (In v)) p = if p = v then some b else if p = bf S b 2 then none else hd S p := by
  have hT := ok_place hS hb hv hf
  have hn : nb (upd S (7 + 6 * b + 2) (In v)) = nb S := nb_upd (by omega)
  have hvb : bf (upd S (7 + 6 * b + 2) (In v)) b 2 = v := by rw [bf_upds, n_ix (by omega)]
  have hvc : ∀ c, c ≠ b → bf (upd S (7 + 6 * b + 2) (In v)) c 2 = bf S c 2 := fun c hc => bf_upd (by omega)
  by_cases h1 : p = v
  · rw [if_pos h1]
    exact hd_is hT hp (by rw [hn]; exact hb) (by rw [hvb, h1])
  · rw [if_neg h1]
    by_cases h2 : p = bf S b 2
    · rw [if_pos h2]
      cases e : hd (upd S (7 + 6 * b + 2) (In v)) p with
      | none => rfl
      | some c =>
        obtain ⟨hc, hcp⟩ := hd_some e
        rw [hn] at hc
        by_cases hcb : c = b
        · subst hcb
          omega
        · rw [hvc c hcb] at hcp
          have e1 := hd_is hS hp hc hcp
          have e2 := hd_is hS hp hb h2.symm
          rw [e1] at e2
          cases e2
          exact absurd rfl hcb
    · rw [if_neg h2]
      cases e : hd S p with
      | none =>
        cases e' : hd (upd S (7 + 6 * b + 2) (In v)) p with
        | none => rfl
        | some c =>
          obtain ⟨hc, hcp⟩ := hd_some e'
          rw [hn] at hc
          by_cases hcb : c = b
          · subst hcb
            omega
          · rw [hvc c hcb] at hcp
            exact absurd hcp (hd_none e c hc)
      | some c =>
        obtain ⟨hc, hcp⟩ := hd_some e
        have hcb : c ≠ b := fun z => h2 (by rw [← hcp, z])
        exact hd_is hT hp (by rw [hn]; exact hc) (by rw [hvc c hcb]; exact hcp)
def boP (o a : Nat) : Prop := a = o + 2 ∨ (o + 7 ≤ a ∧ a ≤ o + 18)
theorem c5n {v : Nat} (hv : v < 2147483648) (σ : Sg) : J5 (In v) σ = some (b2 (v < 36), σ) := by
  rw [c5]
  congr 2
  apply b2_c
  rw [show (0 : Int32) = In 0 from rfl, show (35 : Int32) = In 35 from rfl, n_le (by omega) (by omega), n_le (by omega) (by omega)]
  omega
theorem c8 {σ : Sg} {o b v : Nat} {S : Rw} (hS : OkR S) (hc : Rc σ o S) (hb : b < nb S) (hv : v ≤ 36) (hf : v = 36 ∨ ∀ c, c < nb S → c ≠ b → bf S c 2 ≠ v) : ∃ σ', J8 o (In b) (In v) σ = some σ' ∧ Rc σ' o (upd S (7 + 6 * b + 2) (In v)) ∧ fp (boP o) σ σ' := by
  have h12 := hS.1.2
  obtain ⟨-, -, ⟨p1, p2⟩, -⟩ := hS.2.1 b hb
  have hn : nb (upd S (7 + 6 * b + 2) (In v)) = nb S := nb_upd (by omega)
  have hu : ∀ p, p < 36 → hd (upd S (7 + 6 * b + 2) (In v)) p = if p = v then some b else if p = bf S b 2 then none else hd S p := fun p hp => hd_upd hS hb hv hf hp
  -- the first step: the old place is free
  have fin : ∀ σ1, fp (boP o) σ σ1 → (∀ a, o + 7 ≤ a → a ≤ o + 18 → σ1 a = σ a) → (∀ p, p < 36 → σ1 (o + 2) p = oI (-1000000005) (if p = bf S b 2 then none else hd S p)) → ∃ σ', J8_1 o (In b) (In v) σ1 = some σ' ∧ Rc σ' o (upd S (7 + 6 * b + 2) (In v)) ∧ fp (boP o) σ σ' := by
    intro σ1 q1 q2 q3
    unfold J8_1
    rw [if_pos (ib_n (by omega) (by omega)), n_ix (by omega), c5n (by omega), Option.bind_some, i_b2]
    dsimp only
    have hrest : ∀ σ2, fp (boP o) σ σ2 → (∀ c, c < nb S → ∀ x, x < 6 → σ2 (o + 7 + c) x = upd S (7 + 6 * b + 2) (In v) (7 + 6 * c + x)) → (∀ p, p < 36 → σ2 (o + 2) p = oI (-1000000005) (hd (upd S (7 + 6 * b + 2) (In v)) p)) → Rc σ2 o (upd S (7 + 6 * b + 2) (In v)) := by
      intro σ2 r1 r2 r3
      obtain ⟨⟨a1, a2, a3, a4, a5, a6, a7⟩, -, -, h4⟩ := hc
      have e : ∀ a, ¬ boP o a → σ2 a = σ a := r1
      have u : ∀ k, k < 7 → upd S (7 + 6 * b + 2) (In v) k = S k := fun k hk => upd_ne _ _ (by omega)
      refine ⟨?_, fun c hc x hx => r2 c (by rw [hn] at hc; exact hc) x hx, r3, ?_⟩
      · rw [e o (by unfold boP; omega), u 1 (by omega), u 2 (by omega), u 3 (by omega), u 4 (by omega), u 5 (by omega), u 6 (by omega), u 0 (by omega)]
        exact ⟨a1, a2, a3, a4, a5, a6, a7⟩
      · rw [e (o + 3) (by unfold boP; omega)]
        exact eqT_Rc (eqT_upd S _ (by omega) (by omega)) h4
    have hflds : ∀ c, c < nb S → ∀ x, x < 6 → hy_up σ1 (o + 7 + b) 2 (In v) (o + 7 + c) x = upd S (7 + 6 * b + 2) (In v) (7 + 6 * c + x) := by
      intro c hc' x hx
      by_cases hcb : c = b
      · subst hcb
        rw [up_same]
        by_cases hx2 : x = 2
        · subst hx2
          rw [upd_at, upd_at]
        · rw [upd_ne _ _ hx2, upd_ne _ _ (by omega), q2 _ (by omega) (by omega)]
          exact hc.2.1 c hc' x hx
      · rw [up_ne _ _ _ (by omega), upd_ne _ _ (by omega), q2 _ (by omega) (by omega)]
        exact hc.2.1 c hc' x hx
    have hfp1 : fp (boP o) σ (hy_up σ1 (o + 7 + b) 2 (In v)) := fp_tr q1 (fp_up _ _ _ _ (by unfold boP; omega))
    by_cases h36 : v < 36
    · rw [if_pos h36, if_pos (ib_n (by omega) (by omega)), n_ix (by omega)]
      refine ⟨_, rfl, ?_⟩
      have hfp2 : fp (boP o) σ (hy_up (hy_up σ1 (o + 7 + b) 2 (In v)) (o + 2) v (In b)) := fp_tr hfp1 (fp_up _ _ _ _ (by unfold boP; omega))
      refine ⟨hrest _ hfp2 (fun c hc' x hx => ?_) (fun p hp => ?_), hfp2⟩
      · rw [up_ne _ _ _ (by omega)]
        exact hflds c hc' x hx
      · rw [hu p hp, up_same]
        by_cases hpv : p = v
        · subst hpv
          rw [upd_at, if_pos rfl]
          rfl
        · rw [upd_ne _ _ hpv, if_neg hpv, up_ne _ _ _ (by omega)]
          exact q3 p hp
    · rw [if_neg h36]
      refine ⟨_, rfl, hrest _ hfp1 hflds (fun p hp => ?_), hfp1⟩
      rw [hu p hp, if_neg (by omega), up_ne _ _ _ (by omega)]
      exact q3 p hp
  unfold J8
  rw [c9 hS hc hb, Option.bind_some, i_b2]
  by_cases hon : bf S b 2 < 36
  · dsimp only
    rw [if_pos hon, if_pos (ib_n (by omega) (by omega)), n_ix (by omega)]
    simp only [hc.2.1 b hb 2 (by omega), p1]
    rw [if_pos (ib_n (by omega) (by omega)), n_ix (by omega)]
    apply fin
    · exact fp_up _ _ _ _ (by unfold boP; omega)
    · intro a h1 h2
      exact up_ne _ _ _ (by omega)
    · intro p hp
      rw [up_same]
      by_cases hpb : p = bf S b 2
      · rw [hpb, upd_at, if_pos rfl]
        rfl
      · rw [upd_ne _ _ hpb, if_neg hpb]
        exact hc.2.2.1 p hp
  · rw [if_neg hon]
    apply fin σ (fp_rf _ _) (fun _ _ _ => rfl)
    intro p hp
    rw [if_neg (by omega)]
    exact hc.2.2.1 p hp
