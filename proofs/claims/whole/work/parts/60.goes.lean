/-! PURE: who may go where, on both sides -/
def bb (x : Bool) : Int32 := bif x then 1 else 0
theorem bb_0 (x : Bool) : (bb x = 0) = (x = false) := by cases x <;> simp [bb]
theorem bb_1 (x : Bool) : (bb x = 1) = (x = true) := by cases x <;> simp [bb]
theorem bb_01 (x : Bool) : (bb x = 0 ∨ bb x = 1) = True := by cases x <;> simp [bb]
theorem bb_p (p : Prop) [Decidable p] : b2 p = bb (decide p) := by
  unfold b2 bb
  by_cases h : p <;> simp [h]
theorem i_bb {α : Sort _} (x : Bool) (A B : α) : (if bb x = 0 then A else B) = if x = true then B else A := by
  cases x <;> simp [bb]
theorem i_e1 {α : Sort _} {R : Nat} (h : R < 2147483648) (A B : α) : (if In R = 1 then A else B) = if R = 1 then A else B := i_eq (b := 1) h (by omega) A B
theorem i_e0 {α : Sort _} {R : Nat} (h : R < 2147483648) (A B : α) : (if In R = 0 then A else B) = if R = 0 then A else B := i_eq (b := 0) h (by omega) A B
theorem apt_c (a b : Nat) : apt a b = apt b a := by
  unfold apt
  split <;> split <;> omega
theorem n_abs {a b : Nat} (h1 : a < 2147483648) (h2 : b < 2147483648) : (if 0 ≤ In a - In b then In a - In b else 0 - (In a - In b)) = In (apt a b) := by
  unfold apt
  by_cases h : b ≤ a
  · rw [if_pos h, n_sub h, if_pos (show (0 : Int32) ≤ In (a - b) by show In 0 ≤ In (a - b); rw [n_le (by omega) (by omega)]; omega)]
  · have e : In a - In b = Zn ((a : Int) - b) := by rw [n_z, n_z, z_sub]
    rw [if_neg h, e, if_neg, show (0 : Int32) = Zn 0 from rfl, z_sub, n_z]
    · congr 1
      omega
    · rw [show (0 : Int32) = Zn 0 from rfl, z_le (by omega) (by omega) (by omega) (by omega)]
      omega
def stZ (f p : Nat) : Int := if f / 6 = p / 6 then (if p ≤ f then -1 else 1) else (if p ≤ f then -6 else 6)
def qq (f p i : Nat) : Nat := ((f : Int) + (i : Int) * stZ f p).toNat
def mm (f p : Nat) : Nat := apt (f / 6) (p / 6) + apt (f % 6) (p % 6)
def lnB (f p : Nat) : Bool := f == p || !(f / 6 == p / 6 || f % 6 == p % 6) || (decide (1 ≤ mm f p) && decide (mm f p ≤ 5) && decide (qq f p 0 = f) && decide ((In p - In f) / In (mm f p) = Zn (stZ f p)) && (List.range 6).all fun i => decide (mm f p < i) || (decide (qq f p i < 36) && decide (In f + In i * Zn (stZ f p) = In (qq f p i)) && (decide (qq f p i = p) == decide (i = mm f p)) && (decide (mm f p ≤ i) || decide (In (qq f p i) + Zn (stZ f p) = In (qq f p (i + 1))))))
theorem ln_all : ((List.range 36).all fun f => (List.range 36).all fun p => lnB f p) = true := by decide +kernel
theorem ln {f p : Nat} (hf : f < 36) (hp : p < 36) (hne : f ≠ p) (hl : apt (f / 6) (p / 6) = 0 ∨ apt (f % 6) (p % 6) = 0) : 1 ≤ mm f p ∧ mm f p ≤ 5 ∧ qq f p 0 = f ∧ (In p - In f) / In (mm f p) = Zn (stZ f p) ∧ ∀ i, i ≤ mm f p → qq f p i < 36 ∧ In f + In i * Zn (stZ f p) = In (qq f p i) ∧ (qq f p i = p ↔ i = mm f p) ∧ (i < mm f p → In (qq f p i) + Zn (stZ f p) = In (qq f p (i + 1))) := by
  have h := ln_all
  rw [List.all_eq_true] at h
  have h := h f (List.mem_range.mpr hf)
  rw [List.all_eq_true] at h
  have h := h p (List.mem_range.mpr hp)
  unfold lnB at h
  have hl2 : f / 6 = p / 6 ∨ f % 6 = p % 6 := by
    unfold apt at hl
    rcases hl with hl | hl <;> split at hl <;> omega
  have hx : (f == p || !(f / 6 == p / 6 || f % 6 == p % 6)) = false := by
    rw [beq_false_of_ne hne]
    rcases hl2 with e | e <;> simp [e]
  rw [hx, Bool.false_or] at h
  simp only [Bool.and_eq_true, decide_eq_true_eq, List.all_eq_true, List.mem_range, Bool.or_eq_true, beq_iff_eq] at h
  obtain ⟨⟨⟨⟨h1, h2⟩, h3⟩, h4⟩, h5⟩ := h
  refine ⟨h1, h2, h3, h4, fun i hi => ?_⟩
  rcases h5 i (by omega) with h | ⟨⟨⟨q1, q2⟩, q3⟩, q4⟩
  · omega
  · refine ⟨q1, q2, ?_, fun hlt => ?_⟩
    · exact decide_eq_decide.mp q3
    · rcases q4 with h | h
      · omega
      · exact h
def clL (S : Rw) (q : Nat → Nat) (i : Nat) : Nat → Bool
  | 0 => true
  | m + 1 => (hd S (q i)).isNone && clL S q (i + 1) m
theorem clL_s (S : Rw) (q : Nat → Nat) (i m : Nat) : clL S q i (m + 1) = ((hd S (q i)).isNone && clL S q (i + 1) m) := rfl
def clB (S : Rw) (f p : Nat) : Bool := clL S (qq f p) 1 (mm f p - 1)
def mvK (k R C : Nat) (cl : Bool) : Bool := if k = 1 then decide (R = 0 ∨ C = 0) && cl else if k = 2 then decide (R = 1 ∧ C = 1) else if k = 3 then decide (R = 0 ∨ C = 0) && (decide (R + C < 4) && cl) else if k = 4 then decide ((R = 1 ∧ C = 1) ∨ R + C = 1) else if k = 5 then false else decide (R + C = 1)
def frB (S : Rw) (b p : Nat) : Bool := match hd S p with
  | none => true
  | some t => decide (bf S t 1 ≠ bf S b 1)
/-- a bale may go to a place -/
def mvB (S : Rw) (b p : Nat) : Bool := decide (bf S b 2 < 36) && (decide (bf S b 2 ≠ p) && (frB S b p && mvK (bf S b 0) (apt (bf S b 2 / 6) (p / 6)) (apt (bf S b 2 % 6) (p % 6)) (clB S (bf S b 2) p)))
theorem oN_e {o : Option Nat} (h : ∀ b, o = some b → b < 2147483648) : (oI (-1000000005) o = -1000000005) = (o = none) := by
  cases o with
  | none => simp [oI]
  | some b =>
    have hb := h b rfl
    apply propext
    constructor
    · intro e
      have e2 := congrArg Int32.toInt e
      rw [show (oI (-1000000005) (some b)).toInt = b from n_ti hb, show (-1000000005 : Int32).toInt = -1000000005 from rfl] at e2
      omega
    · intro e
      cases e
theorem c22_loop {σ : Sg} {o : Nat} {S : Rw} {f p : Nat} (hS : OkR S) (hc : Rc σ o S) (hln : ∀ i, i ≤ mm f p → qq f p i < 36 ∧ In f + In i * Zn (stZ f p) = In (qq f p i)) (hm : mm f p ≤ 5) : ∀ (m i fu : Nat), i + m = mm f p → m < fu → J22_3 fu o (In f) (In (mm f p)) (Zn (stZ f p)) (In i) σ = some (bb (clL S (qq f p) i m), σ) := by
  intro m
  induction m with
  | zero =>
    intro i fu hi hfu
    obtain ⟨fu, rfl⟩ : ∃ g, fu = g + 1 := ⟨fu - 1, by omega⟩
    unfold J22_3
    rw [if_pos (by rw [n_le (by omega) (by omega)]; omega)]
    rfl
  | succ m ih =>
    intro i fu hi hfu
    obtain ⟨fu, rfl⟩ : ∃ g, fu = g + 1 := ⟨fu - 1, by omega⟩
    obtain ⟨h1, h2⟩ := hln i (by omega)
    unfold J22_3
    rw [if_neg (by rw [n_le (by omega) (by omega)]; omega), h2, if_pos (ib_n (by omega) (by omega)), n_ix (by omega), hc.2.2.1 _ h1, n_p1, ih (i + 1) fu (by omega) (by omega)]
    simp only [oN_e (hd_bd hS)]
    rw [clL_s]
    cases e : hd S (qq f p i) with
    | none => simp
    | some t => simp [bb]
theorem c22 {σ : Sg} {o : Nat} {S : Rw} {f p : Nat} (hS : OkR S) (hc : Rc σ o S) (hf : f < 36) (hp : p < 36) (hne : f ≠ p) (hl : apt (f / 6) (p / 6) = 0 ∨ apt (f % 6) (p % 6) = 0) : J22 o (In f) (In p) (In (apt (f / 6) (p / 6)) + In (apt (f % 6) (p % 6))) σ = some (bb (clB S f p), σ) := by
  obtain ⟨h1, h2, h3, h4, h5⟩ := ln hf hp hne hl
  have hz : ¬ In (mm f p) = 0 := by
    rw [show (0 : Int32) = In 0 from rfl, n_eq (by omega) (by omega)]
    omega
  unfold J22
  rw [n_add, show apt (f / 6) (p / 6) + apt (f % 6) (p % 6) = mm f p from rfl, if_neg hz, if_neg hz, h4]
  unfold J22_2 clB
  exact c22_loop hS hc (fun i hi => ⟨(h5 i hi).1, (h5 i hi).2.1⟩) h2 (mm f p - 1) 1 hy_fu (by omega) (by unfold hy_fu; omega)
theorem m145_loop {σ : Sg} {f p : Nat} (hS : OkR (σ 139)) (hp : p < 36) (hln : ∀ i, i ≤ mm f p → qq f p i < 36 ∧ In f + In i * Zn (stZ f p) = In (qq f p i) ∧ (qq f p i = p ↔ i = mm f p) ∧ (i < mm f p → In (qq f p i) + Zn (stZ f p) = In (qq f p (i + 1)))) (hm : mm f p ≤ 5) : ∀ (m i fu : Nat) (fl : Bool), i + m = mm f p → m < fu → J145_5 fu (In p) (Zn (stZ f p)) (bb fl) (In (qq f p i)) σ = some (bb (fl && clL (σ 139) (qq f p) i m), σ) := by
  intro m
  induction m with
  | zero =>
    intro i fu fl hi hfu
    obtain ⟨fu, rfl⟩ : ∃ g, fu = g + 1 := ⟨fu - 1, by omega⟩
    obtain ⟨h1, h2, h3, h4⟩ := hln i (by omega)
    unfold J145_5
    rw [h3.mpr (by omega), if_pos rfl]
    simp only [bb_01, if_true]
    unfold clL
    rw [Bool.and_true]
  | succ m ih =>
    intro i fu fl hi hfu
    obtain ⟨fu, rfl⟩ : ∃ g, fu = g + 1 := ⟨fu - 1, by omega⟩
    obtain ⟨h1, h2, h3, h4⟩ := hln i (by omega)
    have hne : qq f p i ≠ p := fun e => by
      have := h3.mp e
      omega
    unfold J145_5
    rw [if_neg (by rw [n_eq (by omega) (by omega)]; exact hne)]
    unfold J145_6 J145_7
    rw [h4 (by omega), m127 hS (by omega), Option.bind_some]
    simp only [oI_ge (hd_bd hS)]
    rw [show (0 : Int32) = bb false from rfl, show (1 : Int32) = bb true from rfl, ih (i + 1) fu false (by omega) (by omega), ih (i + 1) fu true (by omega) (by omega)]
    rw [clL_s]
    cases fl with
    | false => rfl
    | true =>
      rw [if_neg (by decide)]
      cases e : hd (σ 139) (qq f p i) with
      | none => simp
      | some t => simp
theorem m145 {σ : Sg} {f p : Nat} (hS : OkR (σ 139)) (hf : f < 36) (hp : p < 36) (hne : f ≠ p) (hl : apt (f / 6) (p / 6) = 0 ∨ apt (f % 6) (p % 6) = 0) : J145 (In f) (In p) σ = some (bb (clB (σ 139) f p), σ) := by
  obtain ⟨h1, h2, h3, h4, h5⟩ := ln hf hp hne hl
  have key : J145_4 (Zn (stZ f p)) (In f) (In p) σ = some (bb (clB (σ 139) f p), σ) := by
    unfold J145_4 clB
    have := (h5 0 (by omega)).2.2.2 (by omega)
    rw [h3] at this
    rw [this]
    have q := m145_loop hS hp h5 h2 (mm f p - 1) 1 hy_fu true (by omega) (by unfold hy_fu; omega)
    rw [Bool.true_and] at q
    exact q
  unfold J145
  rw [show (6 : Int32) = In 6 from rfl, n_div (by omega) (by omega), n_div (by omega) (by omega)]
  simp only [n_eq (show f / 6 < 2147483648 by omega) (show p / 6 < 2147483648 by omega), n_le (show p < 2147483648 by omega) (show f < 2147483648 by omega)]
  unfold stZ at key
  by_cases e1 : f / 6 = p / 6
  · rw [if_pos e1] at key ⊢
    by_cases e2 : p ≤ f
    · rw [if_pos e2] at key ⊢
      exact key
    · rw [if_neg e2] at key ⊢
      exact key
  · rw [if_neg e1] at key ⊢
    by_cases e2 : p ≤ f
    · rw [if_pos e2] at key ⊢
      exact key
    · rw [if_neg e2] at key ⊢
      exact key
theorem n_e1 {R : Nat} (h : R < 2147483648) : (In R = 1) = (R = 1) := n_eq (b := 1) h (by omega)
theorem n_e0 {R : Nat} (h : R < 2147483648) : (In R = 0) = (R = 0) := n_eq (b := 0) h (by omega)
theorem kd_00 : (In 0 = (0 : Int32)) = True := by exact eq_true rfl
theorem kd_01 : (In 0 = (1 : Int32)) = False := by exact eq_false (by decide)
theorem kd_02 : (In 0 = (2 : Int32)) = False := by exact eq_false (by decide)
theorem kd_03 : (In 0 = (3 : Int32)) = False := by exact eq_false (by decide)
theorem kd_04 : (In 0 = (4 : Int32)) = False := by exact eq_false (by decide)
theorem kd_05 : (In 0 = (5 : Int32)) = False := by exact eq_false (by decide)
theorem kd_10 : (In 1 = (0 : Int32)) = False := by exact eq_false (by decide)
theorem kd_11 : (In 1 = (1 : Int32)) = True := by exact eq_true rfl
theorem kd_12 : (In 1 = (2 : Int32)) = False := by exact eq_false (by decide)
theorem kd_13 : (In 1 = (3 : Int32)) = False := by exact eq_false (by decide)
theorem kd_14 : (In 1 = (4 : Int32)) = False := by exact eq_false (by decide)
theorem kd_15 : (In 1 = (5 : Int32)) = False := by exact eq_false (by decide)
theorem kd_20 : (In 2 = (0 : Int32)) = False := by exact eq_false (by decide)
theorem kd_21 : (In 2 = (1 : Int32)) = False := by exact eq_false (by decide)
theorem kd_22 : (In 2 = (2 : Int32)) = True := by exact eq_true rfl
theorem kd_23 : (In 2 = (3 : Int32)) = False := by exact eq_false (by decide)
theorem kd_24 : (In 2 = (4 : Int32)) = False := by exact eq_false (by decide)
theorem kd_25 : (In 2 = (5 : Int32)) = False := by exact eq_false (by decide)
theorem kd_30 : (In 3 = (0 : Int32)) = False := by exact eq_false (by decide)
theorem kd_31 : (In 3 = (1 : Int32)) = False := by exact eq_false (by decide)
theorem kd_32 : (In 3 = (2 : Int32)) = False := by exact eq_false (by decide)
theorem kd_33 : (In 3 = (3 : Int32)) = True := by exact eq_true rfl
theorem kd_34 : (In 3 = (4 : Int32)) = False := by exact eq_false (by decide)
theorem kd_35 : (In 3 = (5 : Int32)) = False := by exact eq_false (by decide)
theorem kd_40 : (In 4 = (0 : Int32)) = False := by exact eq_false (by decide)
theorem kd_41 : (In 4 = (1 : Int32)) = False := by exact eq_false (by decide)
theorem kd_42 : (In 4 = (2 : Int32)) = False := by exact eq_false (by decide)
theorem kd_43 : (In 4 = (3 : Int32)) = False := by exact eq_false (by decide)
theorem kd_44 : (In 4 = (4 : Int32)) = True := by exact eq_true rfl
theorem kd_45 : (In 4 = (5 : Int32)) = False := by exact eq_false (by decide)
theorem kd_50 : (In 5 = (0 : Int32)) = False := by exact eq_false (by decide)
theorem kd_51 : (In 5 = (1 : Int32)) = False := by exact eq_false (by decide)
theorem kd_52 : (In 5 = (2 : Int32)) = False := by exact eq_false (by decide)
theorem kd_53 : (In 5 = (3 : Int32)) = False := by exact eq_false (by decide)
theorem kd_54 : (In 5 = (4 : Int32)) = False := by exact eq_false (by decide)
theorem kd_55 : (In 5 = (5 : Int32)) = True := by exact eq_true rfl
theorem c21_6 {σ : Sg} {o r3 k R C : Nat} {x2 x4 : Int32} {cl : Bool} (hk : σ r3 0 = In k) (hk5 : k ≤ 5) (hR : R ≤ 5) (hC : C ≤ 5) (h1 : 1 ≤ R + C) (hcl : R = 0 ∨ C = 0 → J22 o x4 x2 (In R + In C) σ = some (bb cl, σ)) : J21_6 (bb (decide (R = 0 ∨ C = 0))) o x2 r3 x4 (In R) (In C) σ = some (bb (mvK k R C cl), σ) := by
  have b1 : ∀ x : Bool, (if bb x = 0 then (some ((0 : Int32), σ)) else (some ((1 : Int32), σ))) = some (bb x, σ) := fun x => by cases x <;> simp [bb]
  have e3 : ((3 : Int32) < In (R + C)) = ¬ R + C < 4 := by
    rw [show (3 : Int32) = In 3 from rfl, n_lt (by omega) (by omega)]
    exact propext ⟨fun h => by omega, fun h => by omega⟩
  have eR : ((1 : Int32) < In R) = (1 < R) := n_lt (a := 1) (by omega) (by omega)
  have eC : ((1 : Int32) < In C) = (1 < C) := n_lt (a := 1) (by omega) (by omega)
  unfold J21_6 mvK
  rw [hk]
  by_cases hL : R = 0 ∨ C = 0
  · rw [hcl hL, decide_eq_true hL, Option.bind_some]
    dsimp only
    rw [b1, n_add]
    simp only [e3, n_e1 (show R < 2147483648 by omega), n_e1 (show C < 2147483648 by omega), n_e1 (show R + C < 2147483648 by omega), eR, eC]
    match k, hk5 with
    | 0, _ => by_cases h : R + C = 1 <;> simp [hy_sw, kd_00, kd_01, kd_02, kd_03, kd_04, kd_05, h, bb]
    | 1, _ => simp [hy_sw, kd_10, kd_11, kd_12, kd_13, kd_14, kd_15, bb]
    | 2, _ =>
      have : ¬ (R = 1 ∧ C = 1) := by omega
      by_cases h : R = 1
      · have h2 : C ≠ 1 := by omega
        simp [hy_sw, kd_20, kd_21, kd_22, kd_23, kd_24, kd_25, h, h2, bb]
      · simp [hy_sw, kd_20, kd_21, kd_22, kd_23, kd_24, kd_25, h, bb]
    | 3, _ => by_cases h : R + C < 4 <;> simp [hy_sw, kd_30, kd_31, kd_32, kd_33, kd_34, kd_35, h, bb]
    | 4, _ =>
      by_cases h : 1 < R
      · have h2 : R + C ≠ 1 := by omega
        have h3 : R ≠ 1 := by omega
        simp [hy_sw, kd_40, kd_41, kd_42, kd_43, kd_44, kd_45, h, h2, h3, bb]
      · by_cases h' : 1 < C
        · have h2 : R + C ≠ 1 := by omega
          have h3 : C ≠ 1 := by omega
          simp [hy_sw, kd_40, kd_41, kd_42, kd_43, kd_44, kd_45, h, h', h2, h3, bb]
        · have h2 : R + C = 1 := by omega
          simp [hy_sw, kd_40, kd_41, kd_42, kd_43, kd_44, kd_45, h, h', h2, bb]
    | 5, _ => simp [hy_sw, kd_50, kd_51, kd_52, kd_53, kd_54, kd_55, bb]
    | n + 6, h => omega
  · rw [decide_eq_false hL, n_add]
    simp only [n_e1 (show R < 2147483648 by omega), n_e1 (show C < 2147483648 by omega), n_e1 (show R + C < 2147483648 by omega), eR, eC]
    match k, hk5 with
    | 0, _ => by_cases h : R + C = 1 <;> simp [hy_sw, kd_00, kd_01, kd_02, kd_03, kd_04, kd_05, h, bb]
    | 1, _ => simp [hy_sw, kd_10, kd_11, kd_12, kd_13, kd_14, kd_15, bb]
    | 2, _ =>
      by_cases h : R = 1
      · by_cases h2 : C = 1 <;> simp [hy_sw, kd_20, kd_21, kd_22, kd_23, kd_24, kd_25, h, h2, bb]
      · simp [hy_sw, kd_20, kd_21, kd_22, kd_23, kd_24, kd_25, h, bb]
    | 3, _ => simp [hy_sw, kd_30, kd_31, kd_32, kd_33, kd_34, kd_35, bb]
    | 4, _ =>
      by_cases h : 1 < R
      · have h2 : R + C ≠ 1 := by omega
        have h3 : R ≠ 1 := by omega
        simp [hy_sw, kd_40, kd_41, kd_42, kd_43, kd_44, kd_45, h, h2, h3, bb]
      · by_cases h' : 1 < C
        · have h2 : R + C ≠ 1 := by omega
          have h3 : C ≠ 1 := by omega
          simp [hy_sw, kd_40, kd_41, kd_42, kd_43, kd_44, kd_45, h, h', h2, h3, bb]
        · have h2 : R = 1 ∧ C = 1 := by omega
          simp [hy_sw, kd_40, kd_41, kd_42, kd_43, kd_44, kd_45, h2.1, h2.2, bb]
    | 5, _ => simp [hy_sw, kd_50, kd_51, kd_52, kd_53, kd_54, kd_55, bb]
    | n + 6, h => omega
theorem apt_le {a b : Nat} (h1 : a ≤ 5) (h2 : b ≤ 5) : apt a b ≤ 5 := by
  unfold apt
  split <;> omega
theorem apt_1 {f p : Nat} (hf : f < 36) (hp : p < 36) (hne : f ≠ p) : 1 ≤ apt (f / 6) (p / 6) + apt (f % 6) (p % 6) := by
  unfold apt
  split <;> split <;> omega
theorem c21_3 {σ : Sg} {o b p : Nat} {S : Rw} (hS : OkR S) (hc : Rc σ o S) (hb : b < nb S) (hf : bf S b 2 < 36) (hp : p < 36) (hne : bf S b 2 ≠ p) : J21_3 o (In p) (o + 7 + b) (In (bf S b 2)) σ = some (bb (mvK (bf S b 0) (apt (bf S b 2 / 6) (p / 6)) (apt (bf S b 2 % 6) (p % 6)) (clB S (bf S b 2) p)), σ) := by
  obtain ⟨⟨k1, k2⟩, -, -, -⟩ := hS.2.1 b hb
  have hk := hc.2.1 b hb 0 (by omega)
  rw [k1] at hk
  generalize bf S b 2 = f at *
  have hR := apt_le (a := f / 6) (b := p / 6) (by omega) (by omega)
  have hC := apt_le (a := f % 6) (b := p % 6) (by omega) (by omega)
  have m := c21_6 (o := o) (R := apt (f / 6) (p / 6)) (C := apt (f % 6) (p % 6)) hk k2 hR hC (apt_1 hf hp hne) (fun hl => c22 hS hc hf hp hne hl)
  unfold J21_3 J21_4
  rw [show (6 : Int32) = In 6 from rfl, n_div (by omega) (by omega), n_div (by omega) (by omega), n_rem (by omega) (by omega), n_rem (by omega) (by omega), n_abs (by omega) (by omega), n_abs (by omega) (by omega), apt_c (p / 6), apt_c (p % 6), i_e0 (by omega), i_e0 (by omega)]
  by_cases h1 : apt (f / 6) (p / 6) = 0
  · rw [if_pos h1]
    rw [decide_eq_true (Or.inl h1)] at m
    exact m
  · rw [if_neg h1]
    by_cases h2 : apt (f % 6) (p % 6) = 0
    · rw [if_pos h2]
      rw [decide_eq_true (Or.inr h2)] at m
      exact m
    · rw [if_neg h2]
      rw [decide_eq_false (by omega)] at m
      exact m
theorem c21 {σ : Sg} {o b p : Nat} {S : Rw} (hS : OkR S) (hc : Rc σ o S) (hb : b < nb S) (hp : p < 36) : J21 o (In b) (In p) σ = some (bb (mvB S b p), σ) := by
  have h12 := hS.1.2
  obtain ⟨-, ⟨f1, f2⟩, ⟨p1, p2⟩, -⟩ := hS.2.1 b hb
  unfold J21 mvB
  rw [if_pos (ib_n (by omega) (by omega)), n_ix (by omega), hc.2.1 b hb 2 (by omega), p1, c5, Option.bind_some]
  have e : (0 ≤ In (bf S b 2) ∧ In (bf S b 2) ≤ 35) = (bf S b 2 < 36) := by
    rw [show (0 : Int32) = In 0 from rfl, show (35 : Int32) = In 35 from rfl, n_le (by omega) (by omega), n_le (by omega) (by omega)]
    exact propext ⟨fun h => by omega, fun h => by omega⟩
  simp only [b2_0, e]
  by_cases h1 : bf S b 2 < 36
  · rw [if_neg (fun z => z h1), i_eq (by omega) (by omega), decide_eq_true h1, Bool.true_and]
    by_cases h2 : bf S b 2 = p
    · rw [if_pos h2, decide_eq_false (by omega)]
      rfl
    · rw [if_neg h2, decide_eq_true h2, Bool.true_and, if_pos (ib_n (by omega) (by omega)), n_ix (by omega), hc.2.2.1 p hp, if_pos (ib_n (by omega) (by omega))]
      simp only [oN_e (hd_bd hS)]
      unfold frB
      cases e2 : hd S p with
      | none =>
        rw [if_pos rfl, c21_3 hS hc hb h1 hp h2]
        simp
      | some t =>
        obtain ⟨ht, -⟩ := hd_some e2
        obtain ⟨-, ⟨t1, t2⟩, -, -⟩ := hS.2.1 t ht
        rw [if_neg (fun z => by cases z), show oI (-1000000005) (some t) = In t from rfl, if_pos (ib_n (by omega) (by omega)), n_ix (by omega), hc.2.1 t ht 1 (by omega), hc.2.1 b hb 1 (by omega), f1, t1, i_eq (by omega) (by omega), c21_3 hS hc hb h1 hp h2]
        by_cases h3 : bf S t 1 = bf S b 1
        · rw [if_pos h3]
          simp [h3, bb]
        · rw [if_neg h3]
          simp [h3]
  · rw [if_pos h1, decide_eq_false h1]
    rfl
theorem m143_9 {σ : Sg} {b k R C : Nat} {x2 x3 : Int32} {cl : Bool} (hb : b < 12) (hk : σ 139 (7 + 6 * b + 0) = In k) (hk5 : k ≤ 5) (hR : R ≤ 5) (hC : C ≤ 5) (hcl : R = 0 ∨ C = 0 → J145 x3 x2 σ = some (bb cl, σ)) : J143_9 (bb (decide (R = 1 ∧ C = 1))) (In b) x2 x3 (In R) (In C) (bb (decide (R = 0 ∨ C = 0))) (bb (decide (R + C = 1))) σ = some (bb (mvK k R C cl), σ) := by
  have b1 : ∀ x : Bool, (if bb x = 0 then (some ((0 : Int32), σ)) else (some ((1 : Int32), σ))) = some (bb x, σ) := fun x => by cases x <;> simp [bb]
  have e4 : ((4 : Int32) ≤ In (R + C)) = ¬ R + C < 4 := by
    rw [show (4 : Int32) = In 4 from rfl, n_le (by omega) (by omega)]
    exact propext ⟨fun h => by omega, fun h => by omega⟩
  unfold J143_9 mvK
  rw [show J128 (In b) 0 σ = _ from m128 (w := 0) (by omega) σ, Option.bind_some, hk]
  dsimp only
  simp only [bb_01, if_true, b1]
  rw [n_add]
  simp only [e4]
  by_cases hL : R = 0 ∨ C = 0
  · rw [hcl hL, decide_eq_true hL, Option.bind_some]
    dsimp only
    rw [b1]
    match k, hk5 with
    | 0, _ => simp [hy_sw, kd_00, kd_01, kd_02, kd_03, kd_04, kd_05]
    | 1, _ => simp [hy_sw, kd_10, kd_11, kd_12, kd_13, kd_14, kd_15, bb]
    | 2, _ => simp [hy_sw, kd_20, kd_21, kd_22, kd_23, kd_24, kd_25]
    | 3, _ => by_cases h : R + C < 4 <;> simp [hy_sw, kd_30, kd_31, kd_32, kd_33, kd_34, kd_35, h, bb]
    | 4, _ => by_cases h : R = 1 ∧ C = 1 <;> by_cases h2 : R + C = 1 <;> simp [hy_sw, kd_40, kd_41, kd_42, kd_43, kd_44, kd_45, h, h2, bb]
    | 5, _ => simp [hy_sw, kd_50, kd_51, kd_52, kd_53, kd_54, kd_55, bb]
    | n + 6, h => omega
  · rw [decide_eq_false hL]
    match k, hk5 with
    | 0, _ => simp [hy_sw, kd_00, kd_01, kd_02, kd_03, kd_04, kd_05]
    | 1, _ => simp [hy_sw, kd_10, kd_11, kd_12, kd_13, kd_14, kd_15, bb]
    | 2, _ => simp [hy_sw, kd_20, kd_21, kd_22, kd_23, kd_24, kd_25]
    | 3, _ => by_cases h : R + C < 4 <;> simp [hy_sw, kd_30, kd_31, kd_32, kd_33, kd_34, kd_35, h, bb]
    | 4, _ => by_cases h : R = 1 ∧ C = 1 <;> by_cases h2 : R + C = 1 <;> simp [hy_sw, kd_40, kd_41, kd_42, kd_43, kd_44, kd_45, h, h2, bb]
    | 5, _ => simp [hy_sw, kd_50, kd_51, kd_52, kd_53, kd_54, kd_55, bb]
    | n + 6, h => omega
theorem m143_2 {σ : Sg} {b p : Nat} (hS : OkR (σ 139)) (hb : b < nb (σ 139)) (hf : bf (σ 139) b 2 < 36) (hp : p < 36) (hne : bf (σ 139) b 2 ≠ p) : J143_2 (In b) (In p) (In (bf (σ 139) b 2)) σ = some (bb (mvK (bf (σ 139) b 0) (apt (bf (σ 139) b 2 / 6) (p / 6)) (apt (bf (σ 139) b 2 % 6) (p % 6)) (clB (σ 139) (bf (σ 139) b 2) p)), σ) := by
  have h12 := hS.1.2
  obtain ⟨⟨k1, k2⟩, -, -, -⟩ := hS.2.1 b hb
  have hcl := fun hl => m145 hS hf hp hne hl
  generalize bf (σ 139) b 2 = f at *
  have hR := apt_le (a := f / 6) (b := p / 6) (by omega) (by omega)
  have hC := apt_le (a := f % 6) (b := p % 6) (by omega) (by omega)
  have m := m143_9 (b := b) (R := apt (f / 6) (p / 6)) (C := apt (f % 6) (p % 6)) (by omega) k1 k2 hR hC hcl
  have h75 : ∀ L : Int32, J143_5 L (In b) (In p) (In f) (In (apt (f / 6) (p / 6))) (In (apt (f % 6) (p % 6))) σ = J143_9 (bb (decide (apt (f / 6) (p / 6) = 1 ∧ apt (f % 6) (p % 6) = 1))) (In b) (In p) (In f) (In (apt (f / 6) (p / 6))) (In (apt (f % 6) (p % 6))) L (bb (decide (apt (f / 6) (p / 6) + apt (f % 6) (p % 6) = 1))) σ := by
    intro L
    have h7 : ∀ x : Int32, J143_7 x (In b) (In p) (In f) (In (apt (f / 6) (p / 6))) (In (apt (f % 6) (p % 6))) L σ = J143_9 (bb (decide (apt (f / 6) (p / 6) = 1 ∧ apt (f % 6) (p % 6) = 1))) (In b) (In p) (In f) (In (apt (f / 6) (p / 6))) (In (apt (f % 6) (p % 6))) L x σ := by
      intro x
      unfold J143_7 J143_8
      rw [i_e1 (by omega), i_e1 (by omega)]
      by_cases h1 : apt (f / 6) (p / 6) = 1
      · by_cases h2 : apt (f % 6) (p % 6) = 1 <;> simp [h1, h2, bb]
      · simp [h1, bb]
    unfold J143_5
    rw [n_add, i_e1 (by omega), h7, h7]
    by_cases h1 : apt (f / 6) (p / 6) + apt (f % 6) (p % 6) = 1 <;> simp [h1, bb]
  unfold J143_2 J143_3
  rw [show (6 : Int32) = In 6 from rfl, n_div (by omega) (by omega), n_div (by omega) (by omega), n_rem (by omega) (by omega), n_rem (by omega) (by omega), m144 (by omega) (by omega), Option.bind_some]
  dsimp only
  rw [m144 (by omega) (by omega), Option.bind_some]
  dsimp only
  rw [i_e0 (by omega), i_e0 (by omega), h75, h75]
  by_cases h1 : apt (f / 6) (p / 6) = 0
  · rw [if_pos h1]
    rw [decide_eq_true (Or.inl h1 : apt (f / 6) (p / 6) = 0 ∨ apt (f % 6) (p % 6) = 0)] at m
    exact m
  · rw [if_neg h1]
    by_cases h2 : apt (f % 6) (p % 6) = 0
    · rw [if_pos h2]
      rw [decide_eq_true (Or.inr h2 : apt (f / 6) (p / 6) = 0 ∨ apt (f % 6) (p % 6) = 0)] at m
      exact m
    · rw [if_neg h2]
      rw [decide_eq_false (show ¬ (apt (f / 6) (p / 6) = 0 ∨ apt (f % 6) (p % 6) = 0) by omega)] at m
      exact m
theorem m143 {σ : Sg} {b p : Nat} (hS : OkR (σ 139)) (hb : b < nb (σ 139)) (hp : p < 36) : J143 (In b) (In p) σ = some (bb (mvB (σ 139) b p), σ) := by
  have h12 := hS.1.2
  obtain ⟨-, ⟨f1, f2⟩, ⟨p1, p2⟩, -⟩ := hS.2.1 b hb
  unfold J143 mvB
  rw [show J128 (In b) 2 σ = _ from m128 (w := 2) (by omega) σ, Option.bind_some]
  dsimp only
  rw [m127 hS (by omega), Option.bind_some, p1]
  dsimp only
  rw [show (36 : Int32) = In 36 from rfl, i_eq (by omega) (by omega), i_eq (by omega) (by omega)]
  simp only [oI_lt (hd_bd hS)]
  by_cases h1 : bf (σ 139) b 2 = 36
  · rw [if_pos h1, decide_eq_false (by omega)]
    rfl
  · rw [if_neg h1, decide_eq_true (show bf (σ 139) b 2 < 36 by omega), Bool.true_and]
    by_cases h2 : bf (σ 139) b 2 = p
    · rw [if_pos h2, decide_eq_false (by omega)]
      rfl
    · rw [if_neg h2, decide_eq_true h2, Bool.true_and]
      unfold frB
      cases e2 : hd (σ 139) p with
      | none =>
        rw [if_pos rfl, m143_2 hS hb (by omega) hp h2]
        simp
      | some t =>
        obtain ⟨ht, -⟩ := hd_some e2
        obtain ⟨-, ⟨t1, t2⟩, -, -⟩ := hS.2.1 t ht
        rw [if_neg (fun z => by cases z), show oI (-1) (some t) = In t from rfl, show J128 (In t) 1 σ = _ from m128 (w := 1) (by omega) σ, Option.bind_some]
        dsimp only
        rw [show J128 (In b) 1 σ = _ from m128 (w := 1) (by omega) σ, Option.bind_some, f1, t1]
        dsimp only
        rw [i_eq (by omega) (by omega), m143_2 hS hb (by omega) hp h2]
        by_cases h3 : bf (σ 139) t 1 = bf (σ 139) b 1
        · rw [if_pos h3]
          simp [h3, bb]
        · rw [if_neg h3]
          simp [h3]
