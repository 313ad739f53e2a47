/-! PURE: a turn of the law, one operation each; written by wip/gen/g89k.py -/
theorem sw_all {α : Type} {P : Option α → Prop} (v : Int32) (d : Option α) : ∀ (l : List (Int32 × Option α)), (∀ q, q ∈ l → P q.2) → P d → P (hy_sw v l d) := by
  intro l
  induction l with
  | nil => intro _ hd; exact hd
  | cons q l ih =>
    intro h hd
    show P (if v = q.1 then q.2 else hy_sw v l d)
    split
    · exact h q List.mem_cons_self
    · exact ih (fun q hq => h q (List.mem_cons_of_mem _ hq)) hd
def Gd (X : Option (Int32 × Sg)) : Prop := ∃ s, X = some (1, s)
def Bd (x3 : Int32) (σ : Sg) : Prop := ∀ τ : Sg, τ 2000 = σ 2000 → hy_ib (x3 + (1 : Int32)) (hy_dl τ 2000).toInt ∧ hy_ib (x3 + (2 : Int32)) (hy_dl τ 2000).toInt ∧ hy_ib (x3 + (3 : Int32)) (hy_dl τ 2000).toInt ∧ hy_ib (x3 + (4 : Int32)) (hy_dl τ 2000).toInt ∧ hy_ib (x3 + (5 : Int32)) (hy_dl τ 2000).toInt
theorem tc_0 {K : Int32 → Sg → Option (Int32 × Sg)} {x3 : Int32} {σ : Sg} (h : Iv σ) (B : Bd x3 σ) (R : ∀ τ, Iv τ → τ 2000 = σ 2000 → Gd (J0_44 K x3 τ)) : Gd (if hy_ib (x3 + (1 : Int32)) (hy_dl σ 2000).toInt then if hy_ib (x3 + (2 : Int32)) (hy_dl σ 2000).toInt then if hy_ib (x3 + (3 : Int32)) (hy_dl σ 2000).toInt then if hy_ib (x3 + (4 : Int32)) (hy_dl σ 2000).toInt then (J1 (σ 2000 (hy_ix (x3 + (1 : Int32)))) (σ 2000 (hy_ix (x3 + (2 : Int32)))) (σ 2000 (hy_ix (x3 + (3 : Int32)))) (σ 2000 (hy_ix (x3 + (4 : Int32)))) σ).bind fun p1 => if hy_ib (x3 + (1 : Int32)) (hy_dl p1.2 2000).toInt then if hy_ib (x3 + (2 : Int32)) (hy_dl p1.2 2000).toInt then if hy_ib (x3 + (3 : Int32)) (hy_dl p1.2 2000).toInt then if hy_ib (x3 + (4 : Int32)) (hy_dl p1.2 2000).toInt then (J124 (p1.2 2000 (hy_ix (x3 + (1 : Int32)))) (p1.2 2000 (hy_ix (x3 + (2 : Int32)))) (p1.2 2000 (hy_ix (x3 + (3 : Int32)))) (p1.2 2000 (hy_ix (x3 + (4 : Int32)))) p1.2).bind fun p2 => if p1.1 = p2.1 then (J0_44 K x3 p2.2) else (some ((0 : Int32), p2.2)) else none else none else none else none else none else none else none else none) := by
  obtain ⟨r, σ1, σ2, e1, e2, hI, h1, h2⟩ := op_bale (σ 2000 (hy_ix (x3 + (1 : Int32)))) (σ 2000 (hy_ix (x3 + (2 : Int32)))) (σ 2000 (hy_ix (x3 + (3 : Int32)))) (σ 2000 (hy_ix (x3 + (4 : Int32)))) σ h
  obtain ⟨c1, c2, c3, c4, c5⟩ := B σ rfl
  obtain ⟨d1, d2, d3, d4, d5⟩ := B σ1 h1
  rw [if_pos c1, if_pos c2, if_pos c3, if_pos c4, e1, Option.bind_some]
  dsimp only
  rw [if_pos d1, if_pos d2, if_pos d3, if_pos d4, h1, e2, Option.bind_some]
  dsimp only
  rw [if_pos rfl]
  exact R σ2 hI h2
theorem tc_1 {K : Int32 → Sg → Option (Int32 × Sg)} {x3 : Int32} {σ : Sg} (h : Iv σ) (B : Bd x3 σ) (R : ∀ τ, Iv τ → τ 2000 = σ 2000 → Gd (J0_44 K x3 τ)) : Gd (if hy_ib (x3 + (1 : Int32)) (hy_dl σ 2000).toInt then if hy_ib (x3 + (2 : Int32)) (hy_dl σ 2000).toInt then (J10 (σ 2000 (hy_ix (x3 + (1 : Int32)))) (σ 2000 (hy_ix (x3 + (2 : Int32)))) σ).bind fun p4 => if hy_ib (x3 + (1 : Int32)) (hy_dl p4.2 2000).toInt then if hy_ib (x3 + (2 : Int32)) (hy_dl p4.2 2000).toInt then (J131 (p4.2 2000 (hy_ix (x3 + (1 : Int32)))) (p4.2 2000 (hy_ix (x3 + (2 : Int32)))) p4.2).bind fun p5 => if p4.1 = p5.1 then (J0_44 K x3 p5.2) else (some ((0 : Int32), p5.2)) else none else none else none else none) := by
  obtain ⟨r, σ1, σ2, e1, e2, hI, h1, h2⟩ := op_told (σ 2000 (hy_ix (x3 + (1 : Int32)))) (σ 2000 (hy_ix (x3 + (2 : Int32)))) σ h
  obtain ⟨c1, c2, c3, c4, c5⟩ := B σ rfl
  obtain ⟨d1, d2, d3, d4, d5⟩ := B σ1 h1
  rw [if_pos c1, if_pos c2, e1, Option.bind_some]
  dsimp only
  rw [if_pos d1, if_pos d2, h1, e2, Option.bind_some]
  dsimp only
  rw [if_pos rfl]
  exact R σ2 hI h2
theorem tc_2 {K : Int32 → Sg → Option (Int32 × Sg)} {x3 : Int32} {σ : Sg} (h : Iv σ) (B : Bd x3 σ) (R : ∀ τ, Iv τ → τ 2000 = σ 2000 → Gd (J0_44 K x3 τ)) : Gd (if hy_ib (x3 + (1 : Int32)) (hy_dl σ 2000).toInt then (J19 (σ 2000 (hy_ix (x3 + (1 : Int32)))) σ).bind fun p7 => if hy_ib (x3 + (1 : Int32)) (hy_dl p7.2 2000).toInt then (J140 (p7.2 2000 (hy_ix (x3 + (1 : Int32)))) p7.2).bind fun p8 => if p7.1 = p8.1 then (J0_44 K x3 p8.2) else (some ((0 : Int32), p8.2)) else none else none) := by
  obtain ⟨r, σ1, σ2, e1, e2, hI, h1, h2⟩ := op_at (σ 2000 (hy_ix (x3 + (1 : Int32)))) σ h
  obtain ⟨c1, c2, c3, c4, c5⟩ := B σ rfl
  obtain ⟨d1, d2, d3, d4, d5⟩ := B σ1 h1
  rw [if_pos c1, e1, Option.bind_some]
  dsimp only
  rw [if_pos d1, h1, e2, Option.bind_some]
  dsimp only
  rw [if_pos rfl]
  exact R σ2 hI h2
theorem tc_3 {K : Int32 → Sg → Option (Int32 × Sg)} {x3 : Int32} {σ : Sg} (h : Iv σ) (B : Bd x3 σ) (R : ∀ τ, Iv τ → τ 2000 = σ 2000 → Gd (J0_44 K x3 τ)) : Gd (if hy_ib (x3 + (1 : Int32)) (hy_dl σ 2000).toInt then if hy_ib (x3 + (2 : Int32)) (hy_dl σ 2000).toInt then (J20 (σ 2000 (hy_ix (x3 + (1 : Int32)))) (σ 2000 (hy_ix (x3 + (2 : Int32)))) σ).bind fun p10 => if hy_ib (x3 + (1 : Int32)) (hy_dl p10.2 2000).toInt then if hy_ib (x3 + (2 : Int32)) (hy_dl p10.2 2000).toInt then (J142 (p10.2 2000 (hy_ix (x3 + (1 : Int32)))) (p10.2 2000 (hy_ix (x3 + (2 : Int32)))) p10.2).bind fun p11 => if p10.1 = p11.1 then (J0_44 K x3 p11.2) else (some ((0 : Int32), p11.2)) else none else none else none else none) := by
  obtain ⟨r, σ1, σ2, e1, e2, hI, h1, h2⟩ := op_goes (σ 2000 (hy_ix (x3 + (1 : Int32)))) (σ 2000 (hy_ix (x3 + (2 : Int32)))) σ h
  obtain ⟨c1, c2, c3, c4, c5⟩ := B σ rfl
  obtain ⟨d1, d2, d3, d4, d5⟩ := B σ1 h1
  rw [if_pos c1, if_pos c2, e1, Option.bind_some]
  dsimp only
  rw [if_pos d1, if_pos d2, h1, e2, Option.bind_some]
  dsimp only
  rw [if_pos rfl]
  exact R σ2 hI h2
theorem tc_4 {K : Int32 → Sg → Option (Int32 × Sg)} {x3 : Int32} {σ : Sg} (h : Iv σ) (B : Bd x3 σ) (R : ∀ τ, Iv τ → τ 2000 = σ 2000 → Gd (J0_44 K x3 τ)) : Gd (if hy_ib (x3 + (1 : Int32)) (hy_dl σ 2000).toInt then if hy_ib (x3 + (2 : Int32)) (hy_dl σ 2000).toInt then (J23 (σ 2000 (hy_ix (x3 + (1 : Int32)))) (σ 2000 (hy_ix (x3 + (2 : Int32)))) σ).bind fun p13 => if hy_ib (x3 + (1 : Int32)) (hy_dl p13.2 2000).toInt then if hy_ib (x3 + (2 : Int32)) (hy_dl p13.2 2000).toInt then (J146 (p13.2 2000 (hy_ix (x3 + (1 : Int32)))) (p13.2 2000 (hy_ix (x3 + (2 : Int32)))) p13.2).bind fun p14 => if p13.1 = p14.1 then (J0_44 K x3 p14.2) else (some ((0 : Int32), p14.2)) else none else none else none else none) := by
  obtain ⟨r, σ1, σ2, e1, e2, hI, h1, h2⟩ := op_as (σ 2000 (hy_ix (x3 + (1 : Int32)))) (σ 2000 (hy_ix (x3 + (2 : Int32)))) σ h
  obtain ⟨c1, c2, c3, c4, c5⟩ := B σ rfl
  obtain ⟨d1, d2, d3, d4, d5⟩ := B σ1 h1
  rw [if_pos c1, if_pos c2, e1, Option.bind_some]
  dsimp only
  rw [if_pos d1, if_pos d2, h1, e2, Option.bind_some]
  dsimp only
  rw [if_pos rfl]
  exact R σ2 hI h2
theorem tc_5 {K : Int32 → Sg → Option (Int32 × Sg)} {x3 : Int32} {σ : Sg} (h : Iv σ) (B : Bd x3 σ) (R : ∀ τ, Iv τ → τ 2000 = σ 2000 → Gd (J0_44 K x3 τ)) : Gd (if hy_ib (x3 + (1 : Int32)) (hy_dl σ 2000).toInt then if hy_ib (x3 + (2 : Int32)) (hy_dl σ 2000).toInt then (J25 (σ 2000 (hy_ix (x3 + (1 : Int32)))) (σ 2000 (hy_ix (x3 + (2 : Int32)))) σ).bind fun p16 => if hy_ib (x3 + (1 : Int32)) (hy_dl p16.2 2000).toInt then if hy_ib (x3 + (2 : Int32)) (hy_dl p16.2 2000).toInt then (J148 (p16.2 2000 (hy_ix (x3 + (1 : Int32)))) (p16.2 2000 (hy_ix (x3 + (2 : Int32)))) p16.2).bind fun p17 => if p16.1 = p17.1 then (J0_44 K x3 p17.2) else (some ((0 : Int32), p17.2)) else none else none else none else none) := by
  obtain ⟨r, σ1, σ2, e1, e2, hI, h1, h2⟩ := op_turns (σ 2000 (hy_ix (x3 + (1 : Int32)))) (σ 2000 (hy_ix (x3 + (2 : Int32)))) σ h
  obtain ⟨c1, c2, c3, c4, c5⟩ := B σ rfl
  obtain ⟨d1, d2, d3, d4, d5⟩ := B σ1 h1
  rw [if_pos c1, if_pos c2, e1, Option.bind_some]
  dsimp only
  rw [if_pos d1, if_pos d2, h1, e2, Option.bind_some]
  dsimp only
  rw [if_pos rfl]
  exact R σ2 hI h2
theorem tc_6 {K : Int32 → Sg → Option (Int32 × Sg)} {x3 : Int32} {σ : Sg} (h : Iv σ) (B : Bd x3 σ) (R : ∀ τ, Iv τ → τ 2000 = σ 2000 → Gd (J0_44 K x3 τ)) : Gd (if hy_ib (x3 + (1 : Int32)) (hy_dl σ 2000).toInt then if hy_ib (x3 + (2 : Int32)) (hy_dl σ 2000).toInt then if hy_ib (x3 + (3 : Int32)) (hy_dl σ 2000).toInt then (J26 (σ 2000 (hy_ix (x3 + (1 : Int32)))) (σ 2000 (hy_ix (x3 + (2 : Int32)))) (σ 2000 (hy_ix (x3 + (3 : Int32)))) σ).bind fun p19 => if hy_ib (x3 + (1 : Int32)) (hy_dl p19.2 2000).toInt then if hy_ib (x3 + (2 : Int32)) (hy_dl p19.2 2000).toInt then if hy_ib (x3 + (3 : Int32)) (hy_dl p19.2 2000).toInt then (J150 (p19.2 2000 (hy_ix (x3 + (1 : Int32)))) (p19.2 2000 (hy_ix (x3 + (2 : Int32)))) (p19.2 2000 (hy_ix (x3 + (3 : Int32)))) p19.2).bind fun p20 => if p19.1 = p20.1 then (J0_44 K x3 p20.2) else (some ((0 : Int32), p20.2)) else none else none else none else none else none else none) := by
  obtain ⟨r, σ1, σ2, e1, e2, hI, h1, h2⟩ := op_set (σ 2000 (hy_ix (x3 + (1 : Int32)))) (σ 2000 (hy_ix (x3 + (2 : Int32)))) (σ 2000 (hy_ix (x3 + (3 : Int32)))) σ h
  obtain ⟨c1, c2, c3, c4, c5⟩ := B σ rfl
  obtain ⟨d1, d2, d3, d4, d5⟩ := B σ1 h1
  rw [if_pos c1, if_pos c2, if_pos c3, e1, Option.bind_some]
  dsimp only
  rw [if_pos d1, if_pos d2, if_pos d3, h1, e2, Option.bind_some]
  dsimp only
  rw [if_pos rfl]
  exact R σ2 hI h2
theorem tc_7 {K : Int32 → Sg → Option (Int32 × Sg)} {x3 : Int32} {σ : Sg} (h : Iv σ) (B : Bd x3 σ) (R : ∀ τ, Iv τ → τ 2000 = σ 2000 → Gd (J0_44 K x3 τ)) : Gd (if hy_ib (x3 + (1 : Int32)) (hy_dl σ 2000).toInt then if hy_ib (x3 + (2 : Int32)) (hy_dl σ 2000).toInt then (J30 (σ 2000 (hy_ix (x3 + (1 : Int32)))) (σ 2000 (hy_ix (x3 + (2 : Int32)))) σ).bind fun p22 => if hy_ib (x3 + (1 : Int32)) (hy_dl p22.2 2000).toInt then if hy_ib (x3 + (2 : Int32)) (hy_dl p22.2 2000).toInt then (J151 (p22.2 2000 (hy_ix (x3 + (1 : Int32)))) (p22.2 2000 (hy_ix (x3 + (2 : Int32)))) p22.2).bind fun p23 => if p22.1 = p23.1 then (J0_44 K x3 p23.2) else (some ((0 : Int32), p23.2)) else none else none else none else none) := by
  obtain ⟨r, σ1, σ2, e1, e2, hI, h1, h2⟩ := op_rule (σ 2000 (hy_ix (x3 + (1 : Int32)))) (σ 2000 (hy_ix (x3 + (2 : Int32)))) σ h
  obtain ⟨c1, c2, c3, c4, c5⟩ := B σ rfl
  obtain ⟨d1, d2, d3, d4, d5⟩ := B σ1 h1
  rw [if_pos c1, if_pos c2, e1, Option.bind_some]
  dsimp only
  rw [if_pos d1, if_pos d2, h1, e2, Option.bind_some]
  dsimp only
  rw [if_pos rfl]
  exact R σ2 hI h2
theorem tc_8 {K : Int32 → Sg → Option (Int32 × Sg)} {x3 : Int32} {σ : Sg} (h : Iv σ) (B : Bd x3 σ) (R : ∀ τ, Iv τ → τ 2000 = σ 2000 → Gd (J0_44 K x3 τ)) : Gd (if hy_ib (x3 + (1 : Int32)) (hy_dl σ 2000).toInt then (J31 (σ 2000 (hy_ix (x3 + (1 : Int32)))) σ).bind fun p25 => if hy_ib (x3 + (1 : Int32)) (hy_dl p25.2 2000).toInt then (J152 (p25.2 2000 (hy_ix (x3 + (1 : Int32)))) p25.2).bind fun p26 => if p25.1 = p26.1 then (J0_44 K x3 p26.2) else (some ((0 : Int32), p26.2)) else none else none) := by
  obtain ⟨r, σ1, σ2, e1, e2, hI, h1, h2⟩ := op_deal (σ 2000 (hy_ix (x3 + (1 : Int32)))) σ h
  obtain ⟨c1, c2, c3, c4, c5⟩ := B σ rfl
  obtain ⟨d1, d2, d3, d4, d5⟩ := B σ1 h1
  rw [if_pos c1, e1, Option.bind_some]
  dsimp only
  rw [if_pos d1, h1, e2, Option.bind_some]
  dsimp only
  rw [if_pos rfl]
  exact R σ2 hI h2
theorem tc_9 {K : Int32 → Sg → Option (Int32 × Sg)} {x3 : Int32} {σ : Sg} (h : Iv σ) (B : Bd x3 σ) (R : ∀ τ, Iv τ → τ 2000 = σ 2000 → Gd (J0_44 K x3 τ)) : Gd (if hy_ib (x3 + (1 : Int32)) (hy_dl σ 2000).toInt then (J34 (σ 2000 (hy_ix (x3 + (1 : Int32)))) σ).bind fun p28 => if hy_ib (x3 + (1 : Int32)) (hy_dl p28.2 2000).toInt then (J154 (p28.2 2000 (hy_ix (x3 + (1 : Int32)))) p28.2).bind fun p29 => if p28.1 = p29.1 then (J0_44 K x3 p29.2) else (some ((0 : Int32), p29.2)) else none else none) := by
  obtain ⟨r, σ1, σ2, e1, e2, hI, h1, h2⟩ := op_seed (σ 2000 (hy_ix (x3 + (1 : Int32)))) σ h
  obtain ⟨c1, c2, c3, c4, c5⟩ := B σ rfl
  obtain ⟨d1, d2, d3, d4, d5⟩ := B σ1 h1
  rw [if_pos c1, e1, Option.bind_some]
  dsimp only
  rw [if_pos d1, h1, e2, Option.bind_some]
  dsimp only
  rw [if_pos rfl]
  exact R σ2 hI h2
theorem tc_10 {K : Int32 → Sg → Option (Int32 × Sg)} {x3 : Int32} {σ : Sg} (h : Iv σ) (B : Bd x3 σ) (R : ∀ τ, Iv τ → τ 2000 = σ 2000 → Gd (J0_44 K x3 τ)) : Gd (if hy_ib (x3 + (1 : Int32)) (hy_dl σ 2000).toInt then if hy_ib (x3 + (2 : Int32)) (hy_dl σ 2000).toInt then (J35 (σ 2000 (hy_ix (x3 + (1 : Int32)))) (σ 2000 (hy_ix (x3 + (2 : Int32)))) σ).bind fun p31 => if hy_ib (x3 + (1 : Int32)) (hy_dl p31.2 2000).toInt then if hy_ib (x3 + (2 : Int32)) (hy_dl p31.2 2000).toInt then (J155 (p31.2 2000 (hy_ix (x3 + (1 : Int32)))) (p31.2 2000 (hy_ix (x3 + (2 : Int32)))) p31.2).bind fun p32 => if p31.1 = p32.1 then (J0_44 K x3 p32.2) else (some ((0 : Int32), p32.2)) else none else none else none else none) := by
  obtain ⟨r, σ1, σ2, e1, e2, hI, h1, h2⟩ := op_move (σ 2000 (hy_ix (x3 + (1 : Int32)))) (σ 2000 (hy_ix (x3 + (2 : Int32)))) σ h
  obtain ⟨c1, c2, c3, c4, c5⟩ := B σ rfl
  obtain ⟨d1, d2, d3, d4, d5⟩ := B σ1 h1
  rw [if_pos c1, if_pos c2, e1, Option.bind_some]
  dsimp only
  rw [if_pos d1, if_pos d2, h1, e2, Option.bind_some]
  dsimp only
  rw [if_pos rfl]
  exact R σ2 hI h2
theorem tc_11 {K : Int32 → Sg → Option (Int32 × Sg)} {x3 : Int32} {σ : Sg} (h : Iv σ) (B : Bd x3 σ) (R : ∀ τ, Iv τ → τ 2000 = σ 2000 → Gd (J0_44 K x3 τ)) : Gd (if hy_ib (x3 + (1 : Int32)) (hy_dl σ 2000).toInt then (J39 (σ 2000 (hy_ix (x3 + (1 : Int32)))) σ).bind fun p34 => if hy_ib (x3 + (1 : Int32)) (hy_dl p34.2 2000).toInt then (J157 (p34.2 2000 (hy_ix (x3 + (1 : Int32)))) p34.2).bind fun p35 => if p34.1 = p35.1 then (J0_44 K x3 p35.2) else (some ((0 : Int32), p35.2)) else none else none) := by
  obtain ⟨r, σ1, σ2, e1, e2, hI, h1, h2⟩ := op_moves (σ 2000 (hy_ix (x3 + (1 : Int32)))) σ h
  obtain ⟨c1, c2, c3, c4, c5⟩ := B σ rfl
  obtain ⟨d1, d2, d3, d4, d5⟩ := B σ1 h1
  rw [if_pos c1, e1, Option.bind_some]
  dsimp only
  rw [if_pos d1, h1, e2, Option.bind_some]
  dsimp only
  rw [if_pos rfl]
  exact R σ2 hI h2
theorem tc_12 {K : Int32 → Sg → Option (Int32 × Sg)} {x3 : Int32} {σ : Sg} (h : Iv σ) (B : Bd x3 σ) (R : ∀ τ, Iv τ → τ 2000 = σ 2000 → Gd (J0_44 K x3 τ)) : Gd (if hy_ib (x3 + (1 : Int32)) (hy_dl σ 2000).toInt then if hy_ib (x3 + (2 : Int32)) (hy_dl σ 2000).toInt then if hy_ib (x3 + (3 : Int32)) (hy_dl σ 2000).toInt then (J42 (σ 2000 (hy_ix (x3 + (1 : Int32)))) (σ 2000 (hy_ix (x3 + (2 : Int32)))) (σ 2000 (hy_ix (x3 + (3 : Int32)))) σ).bind fun p37 => if hy_ib (x3 + (1 : Int32)) (hy_dl p37.2 2000).toInt then if hy_ib (x3 + (2 : Int32)) (hy_dl p37.2 2000).toInt then if hy_ib (x3 + (3 : Int32)) (hy_dl p37.2 2000).toInt then (J158 (p37.2 2000 (hy_ix (x3 + (1 : Int32)))) (p37.2 2000 (hy_ix (x3 + (2 : Int32)))) (p37.2 2000 (hy_ix (x3 + (3 : Int32)))) p37.2).bind fun p38 => if p37.1 = p38.1 then (J0_44 K x3 p38.2) else (some ((0 : Int32), p38.2)) else none else none else none else none else none else none) := by
  obtain ⟨r, σ1, σ2, e1, e2, hI, h1, h2⟩ := op_best (σ 2000 (hy_ix (x3 + (1 : Int32)))) (σ 2000 (hy_ix (x3 + (2 : Int32)))) (σ 2000 (hy_ix (x3 + (3 : Int32)))) σ h
  obtain ⟨c1, c2, c3, c4, c5⟩ := B σ rfl
  obtain ⟨d1, d2, d3, d4, d5⟩ := B σ1 h1
  rw [if_pos c1, if_pos c2, if_pos c3, e1, Option.bind_some]
  dsimp only
  rw [if_pos d1, if_pos d2, if_pos d3, h1, e2, Option.bind_some]
  dsimp only
  rw [if_pos rfl]
  exact R σ2 hI h2
theorem tc_13 {K : Int32 → Sg → Option (Int32 × Sg)} {x3 : Int32} {σ : Sg} (h : Iv σ) (B : Bd x3 σ) (R : ∀ τ, Iv τ → τ 2000 = σ 2000 → Gd (J0_44 K x3 τ)) : Gd (if hy_ib (x3 + (1 : Int32)) (hy_dl σ 2000).toInt then (J52 (σ 2000 (hy_ix (x3 + (1 : Int32)))) σ).bind fun p40 => if hy_ib (x3 + (1 : Int32)) (hy_dl p40.2 2000).toInt then (J165 (p40.2 2000 (hy_ix (x3 + (1 : Int32)))) p40.2).bind fun p41 => if p40.1 = p41.1 then (J0_44 K x3 p41.2) else (some ((0 : Int32), p41.2)) else none else none) := by
  obtain ⟨r, σ1, σ2, e1, e2, hI, h1, h2⟩ := op_threats (σ 2000 (hy_ix (x3 + (1 : Int32)))) σ h
  obtain ⟨c1, c2, c3, c4, c5⟩ := B σ rfl
  obtain ⟨d1, d2, d3, d4, d5⟩ := B σ1 h1
  rw [if_pos c1, e1, Option.bind_some]
  dsimp only
  rw [if_pos d1, h1, e2, Option.bind_some]
  dsimp only
  rw [if_pos rfl]
  exact R σ2 hI h2
theorem tc_14 {K : Int32 → Sg → Option (Int32 × Sg)} {x3 : Int32} {σ : Sg} (h : Iv σ) (B : Bd x3 σ) (R : ∀ τ, Iv τ → τ 2000 = σ 2000 → Gd (J0_44 K x3 τ)) : Gd (if hy_ib (x3 + (1 : Int32)) (hy_dl σ 2000).toInt then (J54 (σ 2000 (hy_ix (x3 + (1 : Int32)))) σ).bind fun p43 => if hy_ib (x3 + (1 : Int32)) (hy_dl p43.2 2000).toInt then (J166 (p43.2 2000 (hy_ix (x3 + (1 : Int32)))) p43.2).bind fun p44 => if p43.1 = p44.1 then (J0_44 K x3 p44.2) else (some ((0 : Int32), p44.2)) else none else none) := by
  obtain ⟨r, σ1, σ2, e1, e2, hI, h1, h2⟩ := op_lead (σ 2000 (hy_ix (x3 + (1 : Int32)))) σ h
  obtain ⟨c1, c2, c3, c4, c5⟩ := B σ rfl
  obtain ⟨d1, d2, d3, d4, d5⟩ := B σ1 h1
  rw [if_pos c1, e1, Option.bind_some]
  dsimp only
  rw [if_pos d1, h1, e2, Option.bind_some]
  dsimp only
  rw [if_pos rfl]
  exact R σ2 hI h2
theorem tc_15 {K : Int32 → Sg → Option (Int32 × Sg)} {x3 : Int32} {σ : Sg} (h : Iv σ) (B : Bd x3 σ) (R : ∀ τ, Iv τ → τ 2000 = σ 2000 → Gd (J0_44 K x3 τ)) : Gd (if hy_ib (x3 + (1 : Int32)) (hy_dl σ 2000).toInt then (J55 (σ 2000 (hy_ix (x3 + (1 : Int32)))) σ).bind fun p46 => if hy_ib (x3 + (1 : Int32)) (hy_dl p46.2 2000).toInt then (J167 (p46.2 2000 (hy_ix (x3 + (1 : Int32)))) p46.2).bind fun p47 => if p46.1 = p47.1 then (J0_44 K x3 p47.2) else (some ((0 : Int32), p47.2)) else none else none) := by
  obtain ⟨r, σ1, σ2, e1, e2, hI, h1, h2⟩ := op_days (σ 2000 (hy_ix (x3 + (1 : Int32)))) σ h
  obtain ⟨c1, c2, c3, c4, c5⟩ := B σ rfl
  obtain ⟨d1, d2, d3, d4, d5⟩ := B σ1 h1
  rw [if_pos c1, e1, Option.bind_some]
  dsimp only
  rw [if_pos d1, h1, e2, Option.bind_some]
  dsimp only
  rw [if_pos rfl]
  exact R σ2 hI h2
theorem tc_16 {K : Int32 → Sg → Option (Int32 × Sg)} {x3 : Int32} {σ : Sg} (h : Iv σ) (B : Bd x3 σ) (R : ∀ τ, Iv τ → τ 2000 = σ 2000 → Gd (J0_44 K x3 τ)) : Gd (if hy_ib (x3 + (1 : Int32)) (hy_dl σ 2000).toInt then if hy_ib (x3 + (2 : Int32)) (hy_dl σ 2000).toInt then (J62 (σ 2000 (hy_ix (x3 + (1 : Int32)))) (σ 2000 (hy_ix (x3 + (2 : Int32)))) σ).bind fun p49 => if hy_ib (x3 + (1 : Int32)) (hy_dl p49.2 2000).toInt then if hy_ib (x3 + (2 : Int32)) (hy_dl p49.2 2000).toInt then (J173 (p49.2 2000 (hy_ix (x3 + (1 : Int32)))) (p49.2 2000 (hy_ix (x3 + (2 : Int32)))) p49.2).bind fun p50 => if p49.1 = p50.1 then (J0_44 K x3 p50.2) else (some ((0 : Int32), p50.2)) else none else none else none else none) := by
  obtain ⟨r, σ1, σ2, e1, e2, hI, h1, h2⟩ := op_behind (σ 2000 (hy_ix (x3 + (1 : Int32)))) (σ 2000 (hy_ix (x3 + (2 : Int32)))) σ h
  obtain ⟨c1, c2, c3, c4, c5⟩ := B σ rfl
  obtain ⟨d1, d2, d3, d4, d5⟩ := B σ1 h1
  rw [if_pos c1, if_pos c2, e1, Option.bind_some]
  dsimp only
  rw [if_pos d1, if_pos d2, h1, e2, Option.bind_some]
  dsimp only
  rw [if_pos rfl]
  exact R σ2 hI h2
theorem tc_17 {K : Int32 → Sg → Option (Int32 × Sg)} {x3 : Int32} {σ : Sg} (h : Iv σ) (B : Bd x3 σ) (R : ∀ τ, Iv τ → τ 2000 = σ 2000 → Gd (J0_44 K x3 τ)) : Gd ((J64  σ).bind fun p52 => (J177  p52.2).bind fun p53 => if p52.1 = p53.1 then (J0_44 K x3 p53.2) else (some ((0 : Int32), p53.2))) := by
  obtain ⟨r, σ1, σ2, e1, e2, hI, h1, h2⟩ := op_ends σ h
  rw [e1, Option.bind_some]
  dsimp only
  rw [e2, Option.bind_some]
  dsimp only
  rw [if_pos rfl]
  exact R σ2 hI h2
theorem tc_18 {K : Int32 → Sg → Option (Int32 × Sg)} {x3 : Int32} {σ : Sg} (h : Iv σ) (B : Bd x3 σ) (R : ∀ τ, Iv τ → τ 2000 = σ 2000 → Gd (J0_44 K x3 τ)) : Gd (if hy_ib (x3 + (1 : Int32)) (hy_dl σ 2000).toInt then if hy_ib (x3 + (2 : Int32)) (hy_dl σ 2000).toInt then (J65 (σ 2000 (hy_ix (x3 + (1 : Int32)))) (σ 2000 (hy_ix (x3 + (2 : Int32)))) σ).bind fun p55 => if hy_ib (x3 + (1 : Int32)) (hy_dl p55.2 2000).toInt then if hy_ib (x3 + (2 : Int32)) (hy_dl p55.2 2000).toInt then (J179 (p55.2 2000 (hy_ix (x3 + (1 : Int32)))) (p55.2 2000 (hy_ix (x3 + (2 : Int32)))) p55.2).bind fun p56 => if p55.1 = p56.1 then (J0_44 K x3 p56.2) else (some ((0 : Int32), p56.2)) else none else none else none else none) := by
  obtain ⟨r, σ1, σ2, e1, e2, hI, h1, h2⟩ := op_spared (σ 2000 (hy_ix (x3 + (1 : Int32)))) (σ 2000 (hy_ix (x3 + (2 : Int32)))) σ h
  obtain ⟨c1, c2, c3, c4, c5⟩ := B σ rfl
  obtain ⟨d1, d2, d3, d4, d5⟩ := B σ1 h1
  rw [if_pos c1, if_pos c2, e1, Option.bind_some]
  dsimp only
  rw [if_pos d1, if_pos d2, h1, e2, Option.bind_some]
  dsimp only
  rw [if_pos rfl]
  exact R σ2 hI h2
theorem tc_19 {K : Int32 → Sg → Option (Int32 × Sg)} {x3 : Int32} {σ : Sg} (h : Iv σ) (B : Bd x3 σ) (R : ∀ τ, Iv τ → τ 2000 = σ 2000 → Gd (J0_44 K x3 τ)) : Gd (if hy_ib (x3 + (1 : Int32)) (hy_dl σ 2000).toInt then if hy_ib (x3 + (2 : Int32)) (hy_dl σ 2000).toInt then (J67 (σ 2000 (hy_ix (x3 + (1 : Int32)))) (σ 2000 (hy_ix (x3 + (2 : Int32)))) σ).bind fun p58 => if hy_ib (x3 + (1 : Int32)) (hy_dl p58.2 2000).toInt then if hy_ib (x3 + (2 : Int32)) (hy_dl p58.2 2000).toInt then (J180 (p58.2 2000 (hy_ix (x3 + (1 : Int32)))) (p58.2 2000 (hy_ix (x3 + (2 : Int32)))) p58.2).bind fun p59 => if p58.1 = p59.1 then (J0_44 K x3 p59.2) else (some ((0 : Int32), p59.2)) else none else none else none else none) := by
  obtain ⟨r, σ1, σ2, e1, e2, hI, h1, h2⟩ := op_given (σ 2000 (hy_ix (x3 + (1 : Int32)))) (σ 2000 (hy_ix (x3 + (2 : Int32)))) σ h
  obtain ⟨c1, c2, c3, c4, c5⟩ := B σ rfl
  obtain ⟨d1, d2, d3, d4, d5⟩ := B σ1 h1
  rw [if_pos c1, if_pos c2, e1, Option.bind_some]
  dsimp only
  rw [if_pos d1, if_pos d2, h1, e2, Option.bind_some]
  dsimp only
  rw [if_pos rfl]
  exact R σ2 hI h2
theorem tc_20 {K : Int32 → Sg → Option (Int32 × Sg)} {x3 : Int32} {σ : Sg} (h : Iv σ) (B : Bd x3 σ) (R : ∀ τ, Iv τ → τ 2000 = σ 2000 → Gd (J0_44 K x3 τ)) : Gd (if hy_ib (x3 + (1 : Int32)) (hy_dl σ 2000).toInt then if hy_ib (x3 + (2 : Int32)) (hy_dl σ 2000).toInt then if hy_ib (x3 + (3 : Int32)) (hy_dl σ 2000).toInt then (J68 (σ 2000 (hy_ix (x3 + (1 : Int32)))) (σ 2000 (hy_ix (x3 + (2 : Int32)))) (σ 2000 (hy_ix (x3 + (3 : Int32)))) σ).bind fun p61 => if hy_ib (x3 + (1 : Int32)) (hy_dl p61.2 2000).toInt then if hy_ib (x3 + (2 : Int32)) (hy_dl p61.2 2000).toInt then if hy_ib (x3 + (3 : Int32)) (hy_dl p61.2 2000).toInt then (J181 (p61.2 2000 (hy_ix (x3 + (1 : Int32)))) (p61.2 2000 (hy_ix (x3 + (2 : Int32)))) (p61.2 2000 (hy_ix (x3 + (3 : Int32)))) p61.2).bind fun p62 => if p61.1 = p62.1 then (J0_44 K x3 p62.2) else (some ((0 : Int32), p62.2)) else none else none else none else none else none else none) := by
  obtain ⟨r, σ1, σ2, e1, e2, hI, h1, h2⟩ := op_storm (σ 2000 (hy_ix (x3 + (1 : Int32)))) (σ 2000 (hy_ix (x3 + (2 : Int32)))) (σ 2000 (hy_ix (x3 + (3 : Int32)))) σ h
  obtain ⟨c1, c2, c3, c4, c5⟩ := B σ rfl
  obtain ⟨d1, d2, d3, d4, d5⟩ := B σ1 h1
  rw [if_pos c1, if_pos c2, if_pos c3, e1, Option.bind_some]
  dsimp only
  rw [if_pos d1, if_pos d2, if_pos d3, h1, e2, Option.bind_some]
  dsimp only
  rw [if_pos rfl]
  exact R σ2 hI h2
theorem tc_21 {K : Int32 → Sg → Option (Int32 × Sg)} {x3 : Int32} {σ : Sg} (h : Iv σ) (B : Bd x3 σ) (R : ∀ τ, Iv τ → τ 2000 = σ 2000 → Gd (J0_44 K x3 τ)) : Gd ((J74  σ).bind fun p64 => (J184  p64.2).bind fun p65 => if p64.1 = p65.1 then (J0_44 K x3 p65.2) else (some ((0 : Int32), p65.2))) := by
  obtain ⟨r, σ1, σ2, e1, e2, hI, h1, h2⟩ := op_fee σ h
  rw [e1, Option.bind_some]
  dsimp only
  rw [e2, Option.bind_some]
  dsimp only
  rw [if_pos rfl]
  exact R σ2 hI h2
theorem tc_22 {K : Int32 → Sg → Option (Int32 × Sg)} {x3 : Int32} {σ : Sg} (h : Iv σ) (B : Bd x3 σ) (R : ∀ τ, Iv τ → τ 2000 = σ 2000 → Gd (J0_44 K x3 τ)) : Gd (if hy_ib (x3 + (1 : Int32)) (hy_dl σ 2000).toInt then (J75 (σ 2000 (hy_ix (x3 + (1 : Int32)))) σ).bind fun p67 => if hy_ib (x3 + (1 : Int32)) (hy_dl p67.2 2000).toInt then (J185 (p67.2 2000 (hy_ix (x3 + (1 : Int32)))) p67.2).bind fun p68 => if p67.1 = p68.1 then (J0_44 K x3 p68.2) else (some ((0 : Int32), p68.2)) else none else none) := by
  obtain ⟨r, σ1, σ2, e1, e2, hI, h1, h2⟩ := op_fine (σ 2000 (hy_ix (x3 + (1 : Int32)))) σ h
  obtain ⟨c1, c2, c3, c4, c5⟩ := B σ rfl
  obtain ⟨d1, d2, d3, d4, d5⟩ := B σ1 h1
  rw [if_pos c1, e1, Option.bind_some]
  dsimp only
  rw [if_pos d1, h1, e2, Option.bind_some]
  dsimp only
  rw [if_pos rfl]
  exact R σ2 hI h2
theorem tc_23 {K : Int32 → Sg → Option (Int32 × Sg)} {x3 : Int32} {σ : Sg} (h : Iv σ) (B : Bd x3 σ) (R : ∀ τ, Iv τ → τ 2000 = σ 2000 → Gd (J0_44 K x3 τ)) : Gd (if hy_ib (x3 + (1 : Int32)) (hy_dl σ 2000).toInt then if hy_ib (x3 + (2 : Int32)) (hy_dl σ 2000).toInt then if hy_ib (x3 + (3 : Int32)) (hy_dl σ 2000).toInt then (J76 (σ 2000 (hy_ix (x3 + (1 : Int32)))) (σ 2000 (hy_ix (x3 + (2 : Int32)))) (σ 2000 (hy_ix (x3 + (3 : Int32)))) σ).bind fun p70 => if hy_ib (x3 + (1 : Int32)) (hy_dl p70.2 2000).toInt then if hy_ib (x3 + (2 : Int32)) (hy_dl p70.2 2000).toInt then if hy_ib (x3 + (3 : Int32)) (hy_dl p70.2 2000).toInt then (J186 (p70.2 2000 (hy_ix (x3 + (1 : Int32)))) (p70.2 2000 (hy_ix (x3 + (2 : Int32)))) (p70.2 2000 (hy_ix (x3 + (3 : Int32)))) p70.2).bind fun p71 => if p70.1 = p71.1 then (J0_44 K x3 p71.2) else (some ((0 : Int32), p71.2)) else none else none else none else none else none else none) := by
  obtain ⟨r, σ1, σ2, e1, e2, hI, h1, h2⟩ := op_feed (σ 2000 (hy_ix (x3 + (1 : Int32)))) (σ 2000 (hy_ix (x3 + (2 : Int32)))) (σ 2000 (hy_ix (x3 + (3 : Int32)))) σ h
  obtain ⟨c1, c2, c3, c4, c5⟩ := B σ rfl
  obtain ⟨d1, d2, d3, d4, d5⟩ := B σ1 h1
  rw [if_pos c1, if_pos c2, if_pos c3, e1, Option.bind_some]
  dsimp only
  rw [if_pos d1, if_pos d2, if_pos d3, h1, e2, Option.bind_some]
  dsimp only
  rw [if_pos rfl]
  exact R σ2 hI h2
theorem tc_24 {K : Int32 → Sg → Option (Int32 × Sg)} {x3 : Int32} {σ : Sg} (h : Iv σ) (B : Bd x3 σ) (R : ∀ τ, Iv τ → τ 2000 = σ 2000 → Gd (J0_44 K x3 τ)) : Gd (if hy_ib (x3 + (1 : Int32)) (hy_dl σ 2000).toInt then (J78 (σ 2000 (hy_ix (x3 + (1 : Int32)))) σ).bind fun p73 => if hy_ib (x3 + (1 : Int32)) (hy_dl p73.2 2000).toInt then (J187 (p73.2 2000 (hy_ix (x3 + (1 : Int32)))) p73.2).bind fun p74 => if p73.1 = p74.1 then (J0_44 K x3 p74.2) else (some ((0 : Int32), p74.2)) else none else none) := by
  obtain ⟨r, σ1, σ2, e1, e2, hI, h1, h2⟩ := op_trim (σ 2000 (hy_ix (x3 + (1 : Int32)))) σ h
  obtain ⟨c1, c2, c3, c4, c5⟩ := B σ rfl
  obtain ⟨d1, d2, d3, d4, d5⟩ := B σ1 h1
  rw [if_pos c1, e1, Option.bind_some]
  dsimp only
  rw [if_pos d1, h1, e2, Option.bind_some]
  dsimp only
  rw [if_pos rfl]
  exact R σ2 hI h2
theorem tc_25 {K : Int32 → Sg → Option (Int32 × Sg)} {x3 : Int32} {σ : Sg} (h : Iv σ) (B : Bd x3 σ) (R : ∀ τ, Iv τ → τ 2000 = σ 2000 → Gd (J0_44 K x3 τ)) : Gd ((J79  σ).bind fun p76 => (J188  p76.2).bind fun p77 => if p76.1 = p77.1 then (J0_44 K x3 p77.2) else (some ((0 : Int32), p77.2))) := by
  obtain ⟨r, σ1, σ2, e1, e2, hI, h1, h2⟩ := op_text σ h
  rw [e1, Option.bind_some]
  dsimp only
  rw [e2, Option.bind_some]
  dsimp only
  rw [if_pos rfl]
  exact R σ2 hI h2
theorem tc_26 {K : Int32 → Sg → Option (Int32 × Sg)} {x3 : Int32} {σ : Sg} (h : Iv σ) (B : Bd x3 σ) (R : ∀ τ, Iv τ → τ 2000 = σ 2000 → Gd (J0_44 K x3 τ)) : Gd (if hy_ib (x3 + (1 : Int32)) (hy_dl σ 2000).toInt then if hy_ib (x3 + (2 : Int32)) (hy_dl σ 2000).toInt then (J102 (σ 2000 (hy_ix (x3 + (1 : Int32)))) (σ 2000 (hy_ix (x3 + (2 : Int32)))) σ).bind fun p79 => if hy_ib (x3 + (1 : Int32)) (hy_dl p79.2 2000).toInt then if hy_ib (x3 + (2 : Int32)) (hy_dl p79.2 2000).toInt then (J200 (p79.2 2000 (hy_ix (x3 + (1 : Int32)))) (p79.2 2000 (hy_ix (x3 + (2 : Int32)))) p79.2).bind fun p80 => if p79.1 = p80.1 then (J0_44 K x3 p80.2) else (some ((0 : Int32), p80.2)) else none else none else none else none) := by
  obtain ⟨r, σ1, σ2, e1, e2, hI, h1, h2⟩ := op_textTold (σ 2000 (hy_ix (x3 + (1 : Int32)))) (σ 2000 (hy_ix (x3 + (2 : Int32)))) σ h
  obtain ⟨c1, c2, c3, c4, c5⟩ := B σ rfl
  obtain ⟨d1, d2, d3, d4, d5⟩ := B σ1 h1
  rw [if_pos c1, if_pos c2, e1, Option.bind_some]
  dsimp only
  rw [if_pos d1, if_pos d2, h1, e2, Option.bind_some]
  dsimp only
  rw [if_pos rfl]
  exact R σ2 hI h2
theorem tc_27 {K : Int32 → Sg → Option (Int32 × Sg)} {x3 : Int32} {σ : Sg} (h : Iv σ) (B : Bd x3 σ) (R : ∀ τ, Iv τ → τ 2000 = σ 2000 → Gd (J0_44 K x3 τ)) : Gd (if hy_ib (x3 + (1 : Int32)) (hy_dl σ 2000).toInt then (J103 (σ 2000 (hy_ix (x3 + (1 : Int32)))) σ).bind fun p82 => if hy_ib (x3 + (1 : Int32)) (hy_dl p82.2 2000).toInt then (J201 (p82.2 2000 (hy_ix (x3 + (1 : Int32)))) p82.2).bind fun p83 => if p82.1 = p83.1 then (J0_44 K x3 p83.2) else (some ((0 : Int32), p83.2)) else none else none) := by
  obtain ⟨r, σ1, σ2, e1, e2, hI, h1, h2⟩ := op_why (σ 2000 (hy_ix (x3 + (1 : Int32)))) σ h
  obtain ⟨c1, c2, c3, c4, c5⟩ := B σ rfl
  obtain ⟨d1, d2, d3, d4, d5⟩ := B σ1 h1
  rw [if_pos c1, e1, Option.bind_some]
  dsimp only
  rw [if_pos d1, h1, e2, Option.bind_some]
  dsimp only
  rw [if_pos rfl]
  exact R σ2 hI h2
theorem tc_28 {K : Int32 → Sg → Option (Int32 × Sg)} {x3 : Int32} {σ : Sg} (h : Iv σ) (B : Bd x3 σ) (R : ∀ τ, Iv τ → τ 2000 = σ 2000 → Gd (J0_44 K x3 τ)) : Gd (if hy_ib (x3 + (1 : Int32)) (hy_dl σ 2000).toInt then if hy_ib (x3 + (2 : Int32)) (hy_dl σ 2000).toInt then if hy_ib (x3 + (3 : Int32)) (hy_dl σ 2000).toInt then (J104 (σ 2000 (hy_ix (x3 + (1 : Int32)))) (σ 2000 (hy_ix (x3 + (2 : Int32)))) (σ 2000 (hy_ix (x3 + (3 : Int32)))) σ).bind fun p85 => if hy_ib (x3 + (1 : Int32)) (hy_dl p85.2 2000).toInt then if hy_ib (x3 + (2 : Int32)) (hy_dl p85.2 2000).toInt then if hy_ib (x3 + (3 : Int32)) (hy_dl p85.2 2000).toInt then (J202 (p85.2 2000 (hy_ix (x3 + (1 : Int32)))) (p85.2 2000 (hy_ix (x3 + (2 : Int32)))) (p85.2 2000 (hy_ix (x3 + (3 : Int32)))) p85.2).bind fun p86 => if p85.1 = p86.1 then (J0_44 K x3 p86.2) else (some ((0 : Int32), p86.2)) else none else none else none else none else none else none) := by
  obtain ⟨r, σ1, σ2, e1, e2, hI, h1, h2⟩ := op_sheet (σ 2000 (hy_ix (x3 + (1 : Int32)))) (σ 2000 (hy_ix (x3 + (2 : Int32)))) (σ 2000 (hy_ix (x3 + (3 : Int32)))) σ h
  obtain ⟨c1, c2, c3, c4, c5⟩ := B σ rfl
  obtain ⟨d1, d2, d3, d4, d5⟩ := B σ1 h1
  rw [if_pos c1, if_pos c2, if_pos c3, e1, Option.bind_some]
  dsimp only
  rw [if_pos d1, if_pos d2, if_pos d3, h1, e2, Option.bind_some]
  dsimp only
  rw [if_pos rfl]
  exact R σ2 hI h2
theorem tc_29 {K : Int32 → Sg → Option (Int32 × Sg)} {x3 : Int32} {σ : Sg} (h : Iv σ) (B : Bd x3 σ) (R : ∀ τ, Iv τ → τ 2000 = σ 2000 → Gd (J0_44 K x3 τ)) : Gd (if hy_ib (x3 + (1 : Int32)) (hy_dl σ 2000).toInt then if hy_ib (x3 + (2 : Int32)) (hy_dl σ 2000).toInt then if hy_ib (x3 + (3 : Int32)) (hy_dl σ 2000).toInt then (J106 (σ 2000 (hy_ix (x3 + (1 : Int32)))) (σ 2000 (hy_ix (x3 + (2 : Int32)))) (σ 2000 (hy_ix (x3 + (3 : Int32)))) σ).bind fun p88 => if hy_ib (x3 + (1 : Int32)) (hy_dl p88.2 2000).toInt then if hy_ib (x3 + (2 : Int32)) (hy_dl p88.2 2000).toInt then if hy_ib (x3 + (3 : Int32)) (hy_dl p88.2 2000).toInt then (J203 (p88.2 2000 (hy_ix (x3 + (1 : Int32)))) (p88.2 2000 (hy_ix (x3 + (2 : Int32)))) (p88.2 2000 (hy_ix (x3 + (3 : Int32)))) p88.2).bind fun p89 => if p88.1 = p89.1 then (J0_44 K x3 p89.2) else (some ((0 : Int32), p89.2)) else none else none else none else none else none else none) := by
  obtain ⟨r, σ1, σ2, e1, e2, hI, h1, h2⟩ := op_mark (σ 2000 (hy_ix (x3 + (1 : Int32)))) (σ 2000 (hy_ix (x3 + (2 : Int32)))) (σ 2000 (hy_ix (x3 + (3 : Int32)))) σ h
  obtain ⟨c1, c2, c3, c4, c5⟩ := B σ rfl
  obtain ⟨d1, d2, d3, d4, d5⟩ := B σ1 h1
  rw [if_pos c1, if_pos c2, if_pos c3, e1, Option.bind_some]
  dsimp only
  rw [if_pos d1, if_pos d2, if_pos d3, h1, e2, Option.bind_some]
  dsimp only
  rw [if_pos rfl]
  exact R σ2 hI h2
theorem tc_30 {K : Int32 → Sg → Option (Int32 × Sg)} {x3 : Int32} {σ : Sg} (h : Iv σ) (B : Bd x3 σ) (R : ∀ τ, Iv τ → τ 2000 = σ 2000 → Gd (J0_44 K x3 τ)) : Gd (if hy_ib (x3 + (1 : Int32)) (hy_dl σ 2000).toInt then (J107 (σ 2000 (hy_ix (x3 + (1 : Int32)))) σ).bind fun p91 => if hy_ib (x3 + (1 : Int32)) (hy_dl p91.2 2000).toInt then (J204 (p91.2 2000 (hy_ix (x3 + (1 : Int32)))) p91.2).bind fun p92 => if p91.1 = p92.1 then (J0_44 K x3 p92.2) else (some ((0 : Int32), p92.2)) else none else none) := by
  obtain ⟨r, σ1, σ2, e1, e2, hI, h1, h2⟩ := op_pour (σ 2000 (hy_ix (x3 + (1 : Int32)))) σ h
  obtain ⟨c1, c2, c3, c4, c5⟩ := B σ rfl
  obtain ⟨d1, d2, d3, d4, d5⟩ := B σ1 h1
  rw [if_pos c1, e1, Option.bind_some]
  dsimp only
  rw [if_pos d1, h1, e2, Option.bind_some]
  dsimp only
  rw [if_pos rfl]
  exact R σ2 hI h2
theorem tc_31 {K : Int32 → Sg → Option (Int32 × Sg)} {x3 : Int32} {σ : Sg} (h : Iv σ) (B : Bd x3 σ) (R : ∀ τ, Iv τ → τ 2000 = σ 2000 → Gd (J0_44 K x3 τ)) : Gd (if hy_ib (x3 + (1 : Int32)) (hy_dl σ 2000).toInt then (J108 (σ 2000 (hy_ix (x3 + (1 : Int32)))) σ).bind fun p94 => if hy_ib (x3 + (1 : Int32)) (hy_dl p94.2 2000).toInt then (J205 (p94.2 2000 (hy_ix (x3 + (1 : Int32)))) p94.2).bind fun p95 => if p94.1 = p95.1 then (J0_44 K x3 p95.2) else (some ((0 : Int32), p95.2)) else none else none) := by
  obtain ⟨r, σ1, σ2, e1, e2, hI, h1, h2⟩ := op_reads (σ 2000 (hy_ix (x3 + (1 : Int32)))) σ h
  obtain ⟨c1, c2, c3, c4, c5⟩ := B σ rfl
  obtain ⟨d1, d2, d3, d4, d5⟩ := B σ1 h1
  rw [if_pos c1, e1, Option.bind_some]
  dsimp only
  rw [if_pos d1, h1, e2, Option.bind_some]
  dsimp only
  rw [if_pos rfl]
  exact R σ2 hI h2
theorem tc_32 {K : Int32 → Sg → Option (Int32 × Sg)} {x3 : Int32} {σ : Sg} (h : Iv σ) (B : Bd x3 σ) (R : ∀ τ, Iv τ → τ 2000 = σ 2000 → Gd (J0_44 K x3 τ)) : Gd (if hy_ib (x3 + (1 : Int32)) (hy_dl σ 2000).toInt then if hy_ib (x3 + (2 : Int32)) (hy_dl σ 2000).toInt then if hy_ib (x3 + (3 : Int32)) (hy_dl σ 2000).toInt then if hy_ib (x3 + (4 : Int32)) (hy_dl σ 2000).toInt then if hy_ib (x3 + (5 : Int32)) (hy_dl σ 2000).toInt then (J109 (σ 2000 (hy_ix (x3 + (1 : Int32)))) (σ 2000 (hy_ix (x3 + (2 : Int32)))) (σ 2000 (hy_ix (x3 + (3 : Int32)))) (σ 2000 (hy_ix (x3 + (4 : Int32)))) (σ 2000 (hy_ix (x3 + (5 : Int32)))) σ).bind fun p97 => if hy_ib (x3 + (1 : Int32)) (hy_dl p97.2 2000).toInt then if hy_ib (x3 + (2 : Int32)) (hy_dl p97.2 2000).toInt then if hy_ib (x3 + (3 : Int32)) (hy_dl p97.2 2000).toInt then if hy_ib (x3 + (4 : Int32)) (hy_dl p97.2 2000).toInt then if hy_ib (x3 + (5 : Int32)) (hy_dl p97.2 2000).toInt then (J206 (p97.2 2000 (hy_ix (x3 + (1 : Int32)))) (p97.2 2000 (hy_ix (x3 + (2 : Int32)))) (p97.2 2000 (hy_ix (x3 + (3 : Int32)))) (p97.2 2000 (hy_ix (x3 + (4 : Int32)))) (p97.2 2000 (hy_ix (x3 + (5 : Int32)))) p97.2).bind fun p98 => if p97.1 = p98.1 then (J0_44 K x3 p98.2) else (some ((0 : Int32), p98.2)) else none else none else none else none else none else none else none else none else none else none) := by
  obtain ⟨r, σ1, σ2, e1, e2, hI, h1, h2⟩ := op_copy (σ 2000 (hy_ix (x3 + (1 : Int32)))) (σ 2000 (hy_ix (x3 + (2 : Int32)))) (σ 2000 (hy_ix (x3 + (3 : Int32)))) (σ 2000 (hy_ix (x3 + (4 : Int32)))) (σ 2000 (hy_ix (x3 + (5 : Int32)))) σ h
  obtain ⟨c1, c2, c3, c4, c5⟩ := B σ rfl
  obtain ⟨d1, d2, d3, d4, d5⟩ := B σ1 h1
  rw [if_pos c1, if_pos c2, if_pos c3, if_pos c4, if_pos c5, e1, Option.bind_some]
  dsimp only
  rw [if_pos d1, if_pos d2, if_pos d3, if_pos d4, if_pos d5, h1, e2, Option.bind_some]
  dsimp only
  rw [if_pos rfl]
  exact R σ2 hI h2
theorem tc_33 {K : Int32 → Sg → Option (Int32 × Sg)} {x3 : Int32} {σ : Sg} (h : Iv σ) (B : Bd x3 σ) (R : ∀ τ, Iv τ → τ 2000 = σ 2000 → Gd (J0_44 K x3 τ)) : Gd (if hy_ib (x3 + (1 : Int32)) (hy_dl σ 2000).toInt then if hy_ib (x3 + (2 : Int32)) (hy_dl σ 2000).toInt then if hy_ib (x3 + (3 : Int32)) (hy_dl σ 2000).toInt then (J111 (σ 2000 (hy_ix (x3 + (1 : Int32)))) (σ 2000 (hy_ix (x3 + (2 : Int32)))) (σ 2000 (hy_ix (x3 + (3 : Int32)))) σ).bind fun p100 => if hy_ib (x3 + (1 : Int32)) (hy_dl p100.2 2000).toInt then if hy_ib (x3 + (2 : Int32)) (hy_dl p100.2 2000).toInt then if hy_ib (x3 + (3 : Int32)) (hy_dl p100.2 2000).toInt then (J207 (p100.2 2000 (hy_ix (x3 + (1 : Int32)))) (p100.2 2000 (hy_ix (x3 + (2 : Int32)))) (p100.2 2000 (hy_ix (x3 + (3 : Int32)))) p100.2).bind fun p101 => if p100.1 = p101.1 then (J0_44 K x3 p101.2) else (some ((0 : Int32), p101.2)) else none else none else none else none else none else none) := by
  obtain ⟨r, σ1, σ2, e1, e2, hI, h1, h2⟩ := op_lay (σ 2000 (hy_ix (x3 + (1 : Int32)))) (σ 2000 (hy_ix (x3 + (2 : Int32)))) (σ 2000 (hy_ix (x3 + (3 : Int32)))) σ h
  obtain ⟨c1, c2, c3, c4, c5⟩ := B σ rfl
  obtain ⟨d1, d2, d3, d4, d5⟩ := B σ1 h1
  rw [if_pos c1, if_pos c2, if_pos c3, e1, Option.bind_some]
  dsimp only
  rw [if_pos d1, if_pos d2, if_pos d3, h1, e2, Option.bind_some]
  dsimp only
  rw [if_pos rfl]
  exact R σ2 hI h2
theorem tc_34 {K : Int32 → Sg → Option (Int32 × Sg)} {x3 : Int32} {σ : Sg} (h : Iv σ) (B : Bd x3 σ) (R : ∀ τ, Iv τ → τ 2000 = σ 2000 → Gd (J0_44 K x3 τ)) : Gd (if hy_ib (x3 + (1 : Int32)) (hy_dl σ 2000).toInt then if hy_ib (x3 + (2 : Int32)) (hy_dl σ 2000).toInt then (J114 (σ 2000 (hy_ix (x3 + (1 : Int32)))) (σ 2000 (hy_ix (x3 + (2 : Int32)))) σ).bind fun p103 => if hy_ib (x3 + (1 : Int32)) (hy_dl p103.2 2000).toInt then if hy_ib (x3 + (2 : Int32)) (hy_dl p103.2 2000).toInt then (J209 (p103.2 2000 (hy_ix (x3 + (1 : Int32)))) (p103.2 2000 (hy_ix (x3 + (2 : Int32)))) p103.2).bind fun p104 => if p103.1 = p104.1 then (J0_44 K x3 p104.2) else (some ((0 : Int32), p104.2)) else none else none else none else none) := by
  obtain ⟨r, σ1, σ2, e1, e2, hI, h1, h2⟩ := op_ask (σ 2000 (hy_ix (x3 + (1 : Int32)))) (σ 2000 (hy_ix (x3 + (2 : Int32)))) σ h
  obtain ⟨c1, c2, c3, c4, c5⟩ := B σ rfl
  obtain ⟨d1, d2, d3, d4, d5⟩ := B σ1 h1
  rw [if_pos c1, if_pos c2, e1, Option.bind_some]
  dsimp only
  rw [if_pos d1, if_pos d2, h1, e2, Option.bind_some]
  dsimp only
  rw [if_pos rfl]
  exact R σ2 hI h2
theorem tc_35 {K : Int32 → Sg → Option (Int32 × Sg)} {x3 : Int32} {σ : Sg} (h : Iv σ) (B : Bd x3 σ) (R : ∀ τ, Iv τ → τ 2000 = σ 2000 → Gd (J0_44 K x3 τ)) : Gd (if hy_ib (x3 + (1 : Int32)) (hy_dl σ 2000).toInt then if hy_ib (x3 + (2 : Int32)) (hy_dl σ 2000).toInt then (J116 (σ 2000 (hy_ix (x3 + (1 : Int32)))) (σ 2000 (hy_ix (x3 + (2 : Int32)))) σ).bind fun p106 => if hy_ib (x3 + (1 : Int32)) (hy_dl p106.2 2000).toInt then if hy_ib (x3 + (2 : Int32)) (hy_dl p106.2 2000).toInt then (J210 (p106.2 2000 (hy_ix (x3 + (1 : Int32)))) (p106.2 2000 (hy_ix (x3 + (2 : Int32)))) p106.2).bind fun p107 => if p106.1 = p107.1 then (J0_44 K x3 p107.2) else (some ((0 : Int32), p107.2)) else none else none else none else none) := by
  obtain ⟨r, σ1, σ2, e1, e2, hI, h1, h2⟩ := op_item (σ 2000 (hy_ix (x3 + (1 : Int32)))) (σ 2000 (hy_ix (x3 + (2 : Int32)))) σ h
  obtain ⟨c1, c2, c3, c4, c5⟩ := B σ rfl
  obtain ⟨d1, d2, d3, d4, d5⟩ := B σ1 h1
  rw [if_pos c1, if_pos c2, e1, Option.bind_some]
  dsimp only
  rw [if_pos d1, if_pos d2, h1, e2, Option.bind_some]
  dsimp only
  rw [if_pos rfl]
  exact R σ2 hI h2
theorem tc_36 {K : Int32 → Sg → Option (Int32 × Sg)} {x3 : Int32} {σ : Sg} (h : Iv σ) (B : Bd x3 σ) (R : ∀ τ, Iv τ → τ 2000 = σ 2000 → Gd (J0_44 K x3 τ)) : Gd (if hy_ib (x3 + (1 : Int32)) (hy_dl σ 2000).toInt then if hy_ib (x3 + (2 : Int32)) (hy_dl σ 2000).toInt then (J117 (σ 2000 (hy_ix (x3 + (1 : Int32)))) (σ 2000 (hy_ix (x3 + (2 : Int32)))) σ).bind fun p109 => if hy_ib (x3 + (1 : Int32)) (hy_dl p109.2 2000).toInt then if hy_ib (x3 + (2 : Int32)) (hy_dl p109.2 2000).toInt then (J211 (p109.2 2000 (hy_ix (x3 + (1 : Int32)))) (p109.2 2000 (hy_ix (x3 + (2 : Int32)))) p109.2).bind fun p110 => if p109.1 = p110.1 then (J0_44 K x3 p110.2) else (some ((0 : Int32), p110.2)) else none else none else none else none) := by
  obtain ⟨r, σ1, σ2, e1, e2, hI, h1, h2⟩ := op_rest (σ 2000 (hy_ix (x3 + (1 : Int32)))) (σ 2000 (hy_ix (x3 + (2 : Int32)))) σ h
  obtain ⟨c1, c2, c3, c4, c5⟩ := B σ rfl
  obtain ⟨d1, d2, d3, d4, d5⟩ := B σ1 h1
  rw [if_pos c1, if_pos c2, e1, Option.bind_some]
  dsimp only
  rw [if_pos d1, if_pos d2, h1, e2, Option.bind_some]
  dsimp only
  rw [if_pos rfl]
  exact R σ2 hI h2
theorem tc_37 {K : Int32 → Sg → Option (Int32 × Sg)} {x3 : Int32} {σ : Sg} (h : Iv σ) (B : Bd x3 σ) (R : ∀ τ, Iv τ → τ 2000 = σ 2000 → Gd (J0_44 K x3 τ)) : Gd (if hy_ib (x3 + (1 : Int32)) (hy_dl σ 2000).toInt then (J118 (σ 2000 (hy_ix (x3 + (1 : Int32)))) σ).bind fun p112 => if hy_ib (x3 + (1 : Int32)) (hy_dl p112.2 2000).toInt then (J212 (p112.2 2000 (hy_ix (x3 + (1 : Int32)))) p112.2).bind fun p113 => if p112.1 = p113.1 then (J0_44 K x3 p113.2) else (some ((0 : Int32), p113.2)) else none else none) := by
  obtain ⟨r, σ1, σ2, e1, e2, hI, h1, h2⟩ := op_tell (σ 2000 (hy_ix (x3 + (1 : Int32)))) σ h
  obtain ⟨c1, c2, c3, c4, c5⟩ := B σ rfl
  obtain ⟨d1, d2, d3, d4, d5⟩ := B σ1 h1
  rw [if_pos c1, e1, Option.bind_some]
  dsimp only
  rw [if_pos d1, h1, e2, Option.bind_some]
  dsimp only
  rw [if_pos rfl]
  exact R σ2 hI h2
theorem tc_38 {K : Int32 → Sg → Option (Int32 × Sg)} {x3 : Int32} {σ : Sg} (h : Iv σ) (B : Bd x3 σ) (R : ∀ τ, Iv τ → τ 2000 = σ 2000 → Gd (J0_44 K x3 τ)) : Gd (if hy_ib (x3 + (1 : Int32)) (hy_dl σ 2000).toInt then (J119 (σ 2000 (hy_ix (x3 + (1 : Int32)))) σ).bind fun p115 => if hy_ib (x3 + (1 : Int32)) (hy_dl p115.2 2000).toInt then (J213 (p115.2 2000 (hy_ix (x3 + (1 : Int32)))) p115.2).bind fun p116 => if p115.1 = p116.1 then (J0_44 K x3 p116.2) else (some ((0 : Int32), p116.2)) else none else none) := by
  obtain ⟨r, σ1, σ2, e1, e2, hI, h1, h2⟩ := op_check (σ 2000 (hy_ix (x3 + (1 : Int32)))) σ h
  obtain ⟨c1, c2, c3, c4, c5⟩ := B σ rfl
  obtain ⟨d1, d2, d3, d4, d5⟩ := B σ1 h1
  rw [if_pos c1, e1, Option.bind_some]
  dsimp only
  rw [if_pos d1, h1, e2, Option.bind_some]
  dsimp only
  rw [if_pos rfl]
  exact R σ2 hI h2
theorem tc_39 {K : Int32 → Sg → Option (Int32 × Sg)} {x3 : Int32} {σ : Sg} (h : Iv σ) (B : Bd x3 σ) (R : ∀ τ, Iv τ → τ 2000 = σ 2000 → Gd (J0_44 K x3 τ)) : Gd ((J121  σ).bind fun p118 => (J215  p118.2).bind fun p119 => if p118.1 = p119.1 then (J0_44 K x3 p119.2) else (some ((0 : Int32), p119.2))) := by
  obtain ⟨r, σ1, σ2, e1, e2, hI, h1, h2⟩ := op_keep σ h
  rw [e1, Option.bind_some]
  dsimp only
  rw [e2, Option.bind_some]
  dsimp only
  rw [if_pos rfl]
  exact R σ2 hI h2
theorem tc_40 {K : Int32 → Sg → Option (Int32 × Sg)} {x3 : Int32} {σ : Sg} (h : Iv σ) (B : Bd x3 σ) (R : ∀ τ, Iv τ → τ 2000 = σ 2000 → Gd (J0_44 K x3 τ)) : Gd ((J122  σ).bind fun p121 => (J216  p121.2).bind fun p122 => if p121.1 = p122.1 then (J0_44 K x3 p122.2) else (some ((0 : Int32), p122.2))) := by
  obtain ⟨r, σ1, σ2, e1, e2, hI, h1, h2⟩ := op_back σ h
  rw [e1, Option.bind_some]
  dsimp only
  rw [e2, Option.bind_some]
  dsimp only
  rw [if_pos rfl]
  exact R σ2 hI h2
theorem tc_41 {K : Int32 → Sg → Option (Int32 × Sg)} {x3 : Int32} {σ : Sg} (h : Iv σ) (B : Bd x3 σ) (R : ∀ τ, Iv τ → τ 2000 = σ 2000 → Gd (J0_44 K x3 τ)) : Gd (if hy_ib (x3 + (1 : Int32)) (hy_dl σ 2000).toInt then (J123 (σ 2000 (hy_ix (x3 + (1 : Int32)))) σ).bind fun p124 => if hy_ib (x3 + (1 : Int32)) (hy_dl p124.2 2000).toInt then (J217 (p124.2 2000 (hy_ix (x3 + (1 : Int32)))) p124.2).bind fun p125 => if p124.1 = p125.1 then (J0_44 K x3 p125.2) else (some ((0 : Int32), p125.2)) else none else none) := by
  obtain ⟨r, σ1, σ2, e1, e2, hI, h1, h2⟩ := op_count (σ 2000 (hy_ix (x3 + (1 : Int32)))) σ h
  obtain ⟨c1, c2, c3, c4, c5⟩ := B σ rfl
  obtain ⟨d1, d2, d3, d4, d5⟩ := B σ1 h1
  rw [if_pos c1, e1, Option.bind_some]
  dsimp only
  rw [if_pos d1, h1, e2, Option.bind_some]
  dsimp only
  rw [if_pos rfl]
  exact R σ2 hI h2
