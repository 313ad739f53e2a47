/-! PURE: a move on the class's side; the lead behind a move -/
def hyN (x y : Nat) : Nat := if x + y / 2 ≤ 99 then x + y / 2 else 99
theorem hyN_le (x y : Nat) : hyN x y ≤ 99 := by
  unfold hyN
  split <;> omega
theorem mkS_u {S : Rw} {b p t : Nat} (htb : t ≠ b) (h : hd S p = some t) : mkS S b p = upd (upd (upd (upd (upd S (7 + 6 * b + 2) (In p)) (7 + 6 * b + 4) (S (7 + 6 * b + 4) + 1)) (7 + 6 * t + 2) 36) (7 + 6 * b + 5) (S (7 + 6 * b + 5) + 1)) (7 + 6 * b + 3) (hyW (S (7 + 6 * b + 3)) (S (7 + 6 * t + 3))) := by
  rw [mkS_some h]
  unfold mkC mkB mkA
  simp (disch := omega) only [upd_ne]
theorem mkS_v {S : Rw} {b p t : Nat} (htb : t ≠ b) (h : hd S p = some t) : mkS S b p = upd (upd (upd (upd (upd S (7 + 6 * b + 3) (hyW (S (7 + 6 * b + 3)) (S (7 + 6 * t + 3)))) (7 + 6 * b + 5) (S (7 + 6 * b + 5) + 1)) (7 + 6 * t + 2) 36) (7 + 6 * b + 2) (In p)) (7 + 6 * b + 4) (S (7 + 6 * b + 4) + 1) := by
  rw [mkS_u htb h]
  funext i
  by_cases h2 : i = 7 + 6 * b + 2
  · subst h2
    simp (disch := omega) only [upd_ne, upd_at]
  by_cases h3 : i = 7 + 6 * b + 3
  · subst h3
    simp (disch := omega) only [upd_ne, upd_at]
  by_cases h4 : i = 7 + 6 * b + 4
  · subst h4
    simp (disch := omega) only [upd_ne, upd_at]
  by_cases h5 : i = 7 + 6 * b + 5
  · subst h5
    simp (disch := omega) only [upd_ne, upd_at]
  by_cases h6 : i = 7 + 6 * t + 2
  · subst h6
    simp (disch := omega) only [upd_ne, upd_at]
  simp (disch := omega) only [upd_ne]
theorem mkS_out {S : Rw} {b p k : Nat} (hb : b < 12) (ht : ∀ t, hd S p = some t → t < 12) (h : k < 7 ∨ 79 ≤ k) : mkS S b p k = S k := by
  cases e : hd S p with
  | none =>
    rw [mkS_none e]
    unfold mkA
    simp (disch := omega) only [upd_ne]
  | some t =>
    have := ht t e
    rw [mkS_some e]
    unfold mkC mkB mkA
    simp (disch := omega) only [upd_ne]
theorem hd_lt12 {S : Rw} (hS : OkR S) {p : Nat} : ∀ t, hd S p = some t → t < 12 := fun t h => by
  have := (hd_some h).1
  have := hS.1.2
  omega
theorem mkS_eqT {S : Rw} {b p : Nat} (hS : OkR S) (hb : b < nb S) : eqT S (mkS S b p) := by
  have := hS.1.2
  exact ⟨mkS_out (by omega) (hd_lt12 hS) (by omega), fun k hk => mkS_out (by omega) (hd_lt12 hS) (by omega)⟩
theorem mkS_c {S : Rw} {b p c w : Nat} (hw : w < 6) (hcb : c ≠ b) (hct : ∀ t, hd S p = some t → c ≠ t) : mkS S b p (7 + 6 * c + w) = S (7 + 6 * c + w) := by
  cases e : hd S p with
  | none =>
    rw [mkS_none e]
    unfold mkA
    simp (disch := omega) only [upd_ne]
  | some t =>
    have := hct t e
    rw [mkS_some e]
    unfold mkC mkB mkA
    simp (disch := omega) only [upd_ne]
theorem hyW_n {S : Rw} {b t : Nat} (hS : OkR S) (hb : b < nb S) (ht : t < nb S) : hyW (S (7 + 6 * b + 3)) (S (7 + 6 * t + 3)) = In (hyN (bf S b 3) (bf S t 3)) := by
  obtain ⟨-, -, -, ⟨b3, b4, b5⟩⟩ := hS.2.1 b hb
  obtain ⟨-, -, -, ⟨t3, t4, t5⟩⟩ := hS.2.1 t ht
  rw [b3, t3]
  exact hyW_ok b5 b4 t5
/-- hay behind a move -/
def hyA (S : Rw) (b p : Nat) : Nat := match hd S p with
  | none => bf S b 3
  | some t => hyN (bf S b 3) (bf S t 3)
theorem mkS_b {S : Rw} {b p : Nat} (hS : OkR S) (hb : b < nb S) (hp : p < 36) (hne : hd S p ≠ some b) : bf (mkS S b p) b 0 = bf S b 0 ∧ bf (mkS S b p) b 1 = bf S b 1 ∧ bf (mkS S b p) b 2 = p ∧ bf (mkS S b p) b 3 = hyA S b p ∧ mkS S b p (7 + 6 * b + 4) = S (7 + 6 * b + 4) + 1 := by
  unfold hyA
  cases e : hd S p with
  | none =>
    rw [mkS_none e]
    unfold mkA bf
    simp (disch := omega) only [upd_ne, upd_at, n_ix]
    exact ⟨trivial, trivial, trivial, trivial, trivial⟩
  | some t =>
    have htb : t ≠ b := fun z => hne (by rw [e, z])
    obtain ⟨ht, -⟩ := hd_some e
    have := hyN_le (bf S b 3) (bf S t 3)
    rw [mkS_u htb e, hyW_n hS hb ht]
    unfold bf at *
    simp (disch := omega) only [upd_ne, upd_at, n_ix]
    exact ⟨trivial, trivial, trivial, trivial, trivial⟩
theorem c36 {σ : Sg} {o b p : Nat} {S : Rw} (ho : 81 ≤ o) (hS : OkR S) (hc : Rc σ o S) (hb : b < nb S) (hp : p < 36) (hne : hd S p ≠ some b) : ∃ σ', J36 o (In b) (In p) σ = some (oI (-1000000005) (hd S p), σ') ∧ Rc σ' o (mkS S b p) ∧ fp (boP o) σ σ' := by
  have h12 := hS.1.2
  unfold J36
  rw [if_pos (ib_n (by omega) (by omega)), if_pos (ib_n (by omega) (by omega)), n_ix (by omega), n_ix (by omega)]
  simp only [hc.2.2.1 p hp, oN_e (hd_bd hS)]
  have fin : ∀ (σ1 : Sg) (T : Rw) (x : Int32), OkR T → nb T = nb S → Rc σ1 o T → fp (boP o) σ σ1 → (∀ c, c < nb S → c ≠ b → bf T c 2 ≠ p) → T (7 + 6 * b + 4) = S (7 + 6 * b + 4) → upd (upd T (7 + 6 * b + 2) (In p)) (7 + 6 * b + 4) (S (7 + 6 * b + 4) + 1) = mkS S b p → ∃ σ', J36_1 o (In b) (In p) (o + 7 + b) x σ1 = some (x, σ') ∧ Rc σ' o (mkS S b p) ∧ fp (boP o) σ σ' := by
    intro σ1 T x hT hTn hc1 hf1 hfree h4 heq
    obtain ⟨σ2, q1, q2, q3⟩ := c8 (v := p) hT hc1 (b := b) (by omega) (by omega) (Or.inr (by rw [hTn]; exact hfree))
    have hT2 := ok_place (v := p) hT (b := b) (by omega) (by omega) (Or.inr (by rw [hTn]; exact hfree))
    have hTn2 : nb (upd T (7 + 6 * b + 2) (In p)) = nb T := nb_upd (by omega)
    have h42 : σ2 (o + 7 + b) 4 = S (7 + 6 * b + 4) := by
      rw [q2.2.1 b (by omega) 4 (by omega), upd_ne _ _ (by omega), h4]
    unfold J36_1
    rw [q1, Option.bind_some, h42]
    refine ⟨_, rfl, ?_, fp_tr (fp_tr hf1 q3) (fp_up _ _ _ _ (by unfold boP; omega))⟩
    rw [← heq]
    exact Rc_fld hT2 q2 (by omega) (by omega) (by omega) _
  cases e : hd S p with
  | none =>
    rw [if_pos rfl]
    apply fin σ S _ hS rfl hc (fp_rf _ _) (fun c hc' _ => hd_none e c hc') rfl
    rw [mkS_none e]
    rfl
  | some t =>
    have htb : t ≠ b := fun z => hne (by rw [e, z])
    obtain ⟨ht, htp⟩ := hd_some e
    obtain ⟨-, -, -, ⟨b3, b4, b5⟩⟩ := hS.2.1 b hb
    obtain ⟨-, -, -, ⟨t3, t4, t5⟩⟩ := hS.2.1 t ht
    rw [if_neg (fun z => by cases z), show oI (-1000000005) (some t) = In t from rfl, if_pos (ib_n (by omega) (by omega)), n_ix (by omega)]
    have e37 : J37 (o + 7 + b) (o + 7 + t) σ = some (In (hyN (bf S b 3) (bf S t 3)), σ) := by
      unfold J37 hyN
      rw [hc.2.1 b hb 3 (by omega), hc.2.1 t ht 3 (by omega), b3, t3, show (2 : Int32) = In 2 from rfl, n_div (by omega) (by omega), n_add, show (99 : Int32) = In 99 from rfl, i_lt (by omega) (by omega)]
      by_cases h : bf S b 3 + bf S t 3 / 2 ≤ 99
      · rw [if_neg (by omega), if_pos h]
      · rw [if_pos (by omega), if_neg h]
    have hN := hyN_le (bf S b 3) (bf S t 3)
    have hN1 : 1 ≤ hyN (bf S b 3) (bf S t 3) := by
      unfold hyN
      split <;> omega
    rw [e37, Option.bind_some]
    dsimp only
    have c1 := Rc_fld hS hc hb (w := 3) (by omega) (by omega) (In (hyN (bf S b 3) (bf S t 3)))
    have o1 : OkR (upd S (7 + 6 * b + 3) (In (hyN (bf S b 3) (bf S t 3)))) := ok_upd hS hb (Or.inr (Or.inr ⟨rfl, hN1, hN⟩))
    have n1 : nb (upd S (7 + 6 * b + 3) (In (hyN (bf S b 3) (bf S t 3)))) = nb S := nb_upd (by omega)
    have h5 : hy_up σ (o + 7 + b) 3 (In (hyN (bf S b 3) (bf S t 3))) (o + 7 + b) 5 = S (7 + 6 * b + 5) := by
      rw [up_same, upd_ne _ _ (by omega)]
      exact hc.2.1 b hb 5 (by omega)
    rw [h5]
    have c2 := Rc_fld o1 c1 (b := b) (by omega) (w := 5) (by omega) (by omega) (S (7 + 6 * b + 5) + 1)
    have o2 := ok_free (v := S (7 + 6 * b + 5) + 1) o1 (k := 7 + 6 * b + 5) (Or.inr (Or.inr ⟨b, 5, rfl, Or.inr rfl⟩))
    have n2 : nb (upd (upd S (7 + 6 * b + 3) (In (hyN (bf S b 3) (bf S t 3)))) (7 + 6 * b + 5) (S (7 + 6 * b + 5) + 1)) = nb S := by rw [nb_upd (by omega), n1]
    obtain ⟨σ3, q1, q2, q3⟩ := c8 (v := 36) o2 c2 (b := t) (by omega) (by omega) (Or.inl rfl)
    rw [show J8 o (In t) 36 _ = _ from q1, Option.bind_some]
    have o3 := ok_gone o2 (b := t) (by omega)
    have n3 : nb (upd (upd (upd S (7 + 6 * b + 3) (In (hyN (bf S b 3) (bf S t 3)))) (7 + 6 * b + 5) (S (7 + 6 * b + 5) + 1)) (7 + 6 * t + 2) 36) = nb S := by rw [nb_upd (by omega), n2]
    have f1 : fp (boP o) σ σ3 := fp_tr (fp_tr (fp_up _ _ _ _ (by unfold boP; omega)) (fp_up _ _ _ _ (by unfold boP; omega))) q3
    apply fin σ3 _ _ o3 n3 q2 f1
    · intro c hc' hcb
      unfold bf
      by_cases hct : c = t
      · subst hct
        rw [upd_at, show hy_ix 36 = 36 from rfl]
        omega
      · simp (disch := omega) only [upd_ne]
        intro z
        have z2 : bf S c 2 = p := z
        have e2 := hd_is hS hp hc' z2
        rw [e] at e2
        cases e2
        exact hct rfl
    · simp (disch := omega) only [upd_ne]
    · rw [mkS_v htb e, hyW_n hS hb ht]
/-- the lead behind a move -/
def ldA (S : Rw) (f b p : Nat) : Int := ldS S f - (vl S b : Int) + (vw S (bf S b 0) (hyA S b p) p (S (7 + 6 * b + 4) + 1) : Int) + (match hd S p with | none => 0 | some t => (vl S t : Int))
theorem sg_c {S T : Rw} {f c : Nat} (h : eqT S T) (hw : ∀ w, w < 6 → T (7 + 6 * c + w) = S (7 + 6 * c + w)) : sg T f c = sg S f c := by
  have hb : ∀ w, w < 6 → bf T c w = bf S c w := fun w hw' => by
    unfold bf
    rw [hw w hw']
  unfold sg vl
  rw [hb 0 (by omega), hb 1 (by omega), hb 2 (by omega), hb 3 (by omega), hw 4 (by omega), eqT_vw h]
theorem ld_after {S : Rw} {f b p : Nat} (hS : OkR S) (hb : b < nb S) (hf : bf S b 1 = f) (hon : bf S b 2 < 36) (hp : p < 36) (ht : ∀ t, hd S p = some t → bf S t 1 ≠ f) : ldS (mkS S b p) f = ldA S f b p := by
  have hne : hd S p ≠ some b := fun z => ht b z hf
  obtain ⟨q0, q1, q2, q3, q4⟩ := mkS_b hS hb hp hne
  obtain ⟨hT, hn⟩ := mkS_ok hS hb hp hne
  have hq := mkS_eqT (p := p) hS hb
  have sb : sg S f b = (vl S b : Int) := by
    unfold sg
    rw [if_pos hon, if_pos hf]
  have tb : sg (mkS S b p) f b = (vw S (bf S b 0) (hyA S b p) p (S (7 + 6 * b + 4) + 1) : Int) := by
    unfold sg vl
    rw [q2, if_pos hp, q1, if_pos hf, q0, q3, q4, eqT_vw hq]
  have oth : ∀ c, c ≠ b → (∀ t, hd S p = some t → c ≠ t) → sg (mkS S b p) f c = sg S f c := fun c h1 h2 => sg_c hq fun w hw => mkS_c hw h1 h2
  unfold ldA ldS
  rw [hn]
  cases e : hd S p with
  | none =>
    have := smZ_1 (f := sg S f) (g := sg (mkS S b p) f) (a := b) (m := nb S) (i := 0) (Nat.zero_le _) (by omega) fun c _ _ hcb => (oth c hcb (fun t z => by rw [e] at z; cases z)).symm
    rw [this, sb, tb]
    show _ = _ - _ + _ + (0 : Int)
    omega
  | some t =>
    obtain ⟨htn, htp⟩ := hd_some e
    have htb : t ≠ b := fun z => hne (by rw [e, z])
    have h1 := smZ_1 (f := sg S f) (g := fun c => if c = b then sg (mkS S b p) f b else sg S f c) (a := b) (m := nb S) (i := 0) (Nat.zero_le _) (by omega) fun c _ _ hcb => by
      rw [if_neg hcb]
    have h2 := smZ_1 (f := fun c => if c = b then sg (mkS S b p) f b else sg S f c) (g := sg (mkS S b p) f) (a := t) (m := nb S) (i := 0) (Nat.zero_le _) (by omega) fun c _ _ hct => by
      by_cases hcb : c = b
      · rw [if_pos hcb, hcb]
      · rw [if_neg hcb, oth c hcb fun t' z => by rw [e] at z; cases z; exact hct]
    have st : sg S f t = -(vl S t : Int) := by
      unfold sg
      rw [if_pos (by omega), if_neg (ht t e)]
    have tt : sg (mkS S b p) f t = 0 := by
      unfold sg
      rw [if_neg]
      rw [mkS_u htb e]
      unfold bf
      rw [upd_ne _ _ (by omega), upd_ne _ _ (by omega), upd_at]
      decide
    rw [if_pos rfl] at h1
    rw [if_neg htb] at h2
    rw [h2, h1, sb, tb, st, tt]
    dsimp only
    omega
