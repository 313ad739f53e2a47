/-! WHAT THE SMALL MACHINE ANSWERS: rules, an instruction each, from pictures (functions into Option) to runs; written by wip/gen/gen11.py -/
def hy_cf (n d : Nat) : Nat → List Vl → Sg → Rs := fun q as σ => match d with
  | 0 => none
  | d' + 1 => bif Nat.beq (hy_ent (hy_mx q) as).length (hy_mx q) then hy_run n d' q 0 (hy_ent (hy_mx q) as) [] σ else none
theorem hy_run_s (n d y b : Nat) : hy_run (n + 1) d y b = hy_ex (hy_rt y) (Nat.blt 0 d) (hy_run n d y) (hy_cf n d) (hy_blk y b).2 := rfl
def hy_Ev (d y b : Nat) (lv st : List Vl) (σ : Sg) (r : Vl × Sg) : Prop := ∃ N, ∀ n, N ≤ n → hy_run n d y b lv st σ = some r
def hy_Ex (d y : Nat) (ops : List Instr) (lv st : List Vl) (σ : Sg) (r : Vl × Sg) : Prop := ∃ N, ∀ n, N ≤ n → hy_ex (hy_rt y) (Nat.blt 0 d) (hy_run n d y) (hy_cf n d) ops lv st σ = some r
def hy_Cl (d q : Nat) (as : List Vl) (σ : Sg) (r : Vl × Sg) : Prop := (hy_ent (hy_mx q) as).length = hy_mx q ∧ hy_Ev d q 0 (hy_ent (hy_mx q) as) [] σ r
def hy_To {α : Type} (j : Option α) (f : α → Vl × Sg) (P : Vl × Sg → Prop) : Prop := ∀ p, j = some p → P (f p)
def hy_ri : Int32 × Sg → Vl × Sg := fun p => ((.int p.1, 0), p.2)
def hy_rl : Int64 × Sg → Vl × Sg := fun p => ((.long p.1, 0), p.2)
def hy_rv : Sg → Vl × Sg := fun σ => ((.null, 0), σ)
def hy_rem (x y : Int32) : Int32 := x - x / y * y
def hy_nl (lv : List Vl) (i : Nat) : Bool := match lv[i]? with
  | some (.long _, _) => false
  | _ => true
def hy_sw {α : Type} (x : Int32) : List (Int32 × Option α) → Option α → Option α
  | [], d => d
  | p :: ps, d => if x = p.1 then p.2 else hy_sw x ps d
def hy_cut (n : Nat) (st : List Vl) : Option (List Vl × List Vl) := bif Nat.ble n st.length && Nat.ble (hy_wds (st.drop n)) 8 then some ((st.take n).reverse, st.drop n) else none
section HYG
variable {α β : Type} {j : Option α} {f : α → Vl × Sg} {d y : Nat} {ops : List Instr} {lv lv' st : List Vl} {σ : Sg} {q q' : Nat}
theorem g_st {P P' : Vl × Sg → Prop} (h : ∀ r, P r → P' r) (t : hy_To j f P) : hy_To j f P' := fun p e => h _ (t p e)
theorem g_none {P : Vl × Sg → Prop} : hy_To (none : Option α) f P := fun p e => by cases e
theorem g_blk {b : Nat} (h : (hy_blk y b).2 = ops) (t : hy_To j f (hy_Ex d y ops lv st σ)) : hy_To j f (hy_Ev d y b lv st σ) := g_st (fun r ⟨N, hN⟩ => ⟨N + 1, fun n hn => by
  obtain ⟨k, rfl⟩ : ∃ k, n = k + 1 := ⟨n - 1, by omega⟩
  rw [hy_run_s, h]
  exact hN k (by omega)⟩) t
theorem g_cl {m : Nat} {as : List Vl} (he : hy_ent (hy_mx m) as = lv) (hl : lv.length = hy_mx m) (t : hy_To j f (hy_Ev d m 0 lv [] σ)) : hy_To j f (hy_Cl d m as σ) := g_st (fun r h => ⟨by rw [he]; exact hl, by rw [he]; exact h⟩) t
theorem g_goto {b : Int} {b' : Nat} (hb : b.toNat = b') (t : hy_To j f (hy_Ev d y b' lv st σ)) : hy_To j f (hy_Ex d y (.goto b :: ops) lv st σ) := by subst hb; exact t
theorem g_gotow {b : Int} {b' : Nat} (hb : b.toNat = b') (t : hy_To j f (hy_Ev d y b' lv st σ)) : hy_To j f (hy_Ex d y (.goto_w b :: ops) lv st σ) := by subst hb; exact t
theorem g_push {n : Int} {v : Int32} (hv : Int32.ofInt n = v) (t : hy_To j f (hy_Ex d y ops lv ((.int v, 0) :: st) σ)) : hy_To j f (hy_Ex d y (.bipush n :: ops) lv st σ) := by subst hv; exact t
theorem g_lconst {n : Fin 2} {v : Int64} (hv : Int64.ofNat (n : Nat) = v) (t : hy_To j f (hy_Ex d y ops lv ((.long v, 0) :: st) σ)) : hy_To j f (hy_Ex d y (.lconst n :: ops) lv st σ) := by subst hv; exact t
theorem g_ldc {i a : Nat} (ha : 1000 + i = a) (t : hy_To j f (hy_Ex d y ops lv ((.ref a, 31) :: st) σ)) : hy_To j f (hy_Ex d y (.ldc i :: ops) lv st σ) := by subst ha; exact t
theorem g_gs0 (t : hy_To j f (hy_Ex d y ops lv ((.int 1, 0) :: st) σ)) : hy_To j f (hy_Ex d y (.getstatic 0 :: ops) lv st σ) := t
theorem g_gs1 (t : hy_To j f (hy_Ex d y ops lv ((.float 0, 33) :: st) σ)) : hy_To j f (hy_Ex d y (.getstatic 1 :: ops) lv st σ) := t
theorem g_iload {i : Nat} {x} (h : lv[i]? = some (.int x, q)) (t : hy_To j f (hy_Ex d y ops lv ((.int x, 0) :: st) σ)) : hy_To j f (hy_Ex d y (.iload i :: ops) lv st σ) := g_st (fun r ⟨N, hN⟩ => ⟨N, fun n hn => by
  show hy_sem _ _ _ _ _ _ _ _ _ = _
  dsimp only [hy_sem]
  rw [h]
  exact hN n hn⟩) t
theorem g_lload {i : Nat} {x} (h : lv[i]? = some (.long x, q)) (t : hy_To j f (hy_Ex d y ops lv ((.long x, 0) :: st) σ)) : hy_To j f (hy_Ex d y (.lload i :: ops) lv st σ) := g_st (fun r ⟨N, hN⟩ => ⟨N, fun n hn => by
  show hy_sem _ _ _ _ _ _ _ _ _ = _
  dsimp only [hy_sem]
  rw [h]
  exact hN n hn⟩) t
theorem g_aload {i x : Nat} (h : lv[i]? = some (.ref x, q)) (t : hy_To j f (hy_Ex d y ops lv ((.ref x, q) :: st) σ)) : hy_To j f (hy_Ex d y (.aload i :: ops) lv st σ) := g_st (fun r ⟨N, hN⟩ => ⟨N, fun n hn => by
  show hy_sem _ _ _ _ _ _ _ _ _ = _
  dsimp only [hy_sem]
  rw [h]
  exact hN n hn⟩) t
theorem g_istore {i : Nat} {x} (hn : hy_nl lv (i - 1) = true) (hl : Nat.blt i lv.length = true) (hs : lv.set i (.int x, 0) = lv') (t : hy_To j f (hy_Ex d y ops lv' st σ)) : hy_To j f (hy_Ex d y (.istore i :: ops) lv ((.int x, q) :: st) σ) := g_st (fun r ⟨N, hN⟩ => ⟨N, fun n hn' => by
  show hy_sem _ _ _ _ _ _ _ _ _ = _
  dsimp only [hy_sem]
  unfold hy_nl at hn
  split
  · rename_i x q e; rw [e] at hn; cases hn
  · rw [hl, hs]
    exact hN n hn'⟩) t
theorem g_astore {i : Nat} {x} (hn : hy_nl lv (i - 1) = true) (hl : Nat.blt i lv.length = true) (hs : lv.set i (.ref x, q) = lv') (t : hy_To j f (hy_Ex d y ops lv' st σ)) : hy_To j f (hy_Ex d y (.astore i :: ops) lv ((.ref x, q) :: st) σ) := g_st (fun r ⟨N, hN⟩ => ⟨N, fun n hn' => by
  show hy_sem _ _ _ _ _ _ _ _ _ = _
  dsimp only [hy_sem]
  unfold hy_nl at hn
  split
  · rename_i x q e; rw [e] at hn; cases hn
  · rw [hl, hs]
    exact hN n hn'⟩) t
theorem g_lstore {i : Nat} {x} (hn : hy_nl lv (i - 1) = true) (hl : Nat.blt (i + 1) lv.length = true) (hs : (lv.set i (.long x, 0)).set (i + 1) (.null, 0) = lv') (t : hy_To j f (hy_Ex d y ops lv' st σ)) : hy_To j f (hy_Ex d y (.lstore i :: ops) lv ((.long x, q) :: st) σ) := g_st (fun r ⟨N, hN⟩ => ⟨N, fun n hn' => by
  show hy_sem _ _ _ _ _ _ _ _ _ = _
  dsimp only [hy_sem]
  unfold hy_nl at hn
  split
  · rename_i x q e; rw [e] at hn; cases hn
  · rw [hl, hs]
    exact hN n hn'⟩) t
theorem g_iinc {i : Nat} {z : Int} {x v : Int32} (h : lv[i]? = some (.int x, q)) (hn : hy_nl lv (i - 1) = true) (hv : Int32.ofInt z = v) (hs : lv.set i (.int (x + v), 0) = lv') (t : hy_To j f (hy_Ex d y ops lv' st σ)) : hy_To j f (hy_Ex d y (.iinc i z :: ops) lv st σ) := g_st (fun r ⟨N, hN⟩ => ⟨N, fun n hn' => by
  show hy_sem _ _ _ _ _ _ _ _ _ = _
  dsimp only [hy_sem]
  rw [h]
  dsimp only
  unfold hy_nl at hn
  split
  · rename_i x q e; rw [e] at hn; cases hn
  · rw [hv, hs]
    exact hN n hn'⟩) t
theorem g_iadd {x y' : Int32} (t : hy_To j f (hy_Ex d y ops lv ((.int (x + y'), 0) :: st) σ)) : hy_To j f (hy_Ex d y (.iadd :: ops) lv ((.int y', q) :: (.int x, q') :: st) σ) := t
theorem g_isub {x y' : Int32} (t : hy_To j f (hy_Ex d y ops lv ((.int (x - y'), 0) :: st) σ)) : hy_To j f (hy_Ex d y (.isub :: ops) lv ((.int y', q) :: (.int x, q') :: st) σ) := t
theorem g_imul {x y' : Int32} (t : hy_To j f (hy_Ex d y ops lv ((.int (x * y'), 0) :: st) σ)) : hy_To j f (hy_Ex d y (.imul :: ops) lv ((.int y', q) :: (.int x, q') :: st) σ) := t
theorem g_iand {x y' : Int32} (t : hy_To j f (hy_Ex d y ops lv ((.int (x &&& y'), 0) :: st) σ)) : hy_To j f (hy_Ex d y (.iand :: ops) lv ((.int y', q) :: (.int x, q') :: st) σ) := t
theorem g_ior {x y' : Int32} (t : hy_To j f (hy_Ex d y ops lv ((.int (x ||| y'), 0) :: st) σ)) : hy_To j f (hy_Ex d y (.ior :: ops) lv ((.int y', q) :: (.int x, q') :: st) σ) := t
theorem g_ishl {x y' : Int32} (t : hy_To j f (hy_Ex d y ops lv ((.int (x <<< (y' &&& 31)), 0) :: st) σ)) : hy_To j f (hy_Ex d y (.ishl :: ops) lv ((.int y', q) :: (.int x, q') :: st) σ) := t
theorem g_ishr {x y' : Int32} (t : hy_To j f (hy_Ex d y ops lv ((.int (x >>> (y' &&& 31)), 0) :: st) σ)) : hy_To j f (hy_Ex d y (.ishr :: ops) lv ((.int y', q) :: (.int x, q') :: st) σ) := t
theorem g_iushr {x y' : Int32} (t : hy_To j f (hy_Ex d y ops lv ((.int ((x.toUInt32 >>> (y'.toUInt32 &&& Int32.toUInt32 31)).toInt32), 0) :: st) σ)) : hy_To j f (hy_Ex d y (.iushr :: ops) lv ((.int y', q) :: (.int x, q') :: st) σ) := t
theorem g_idiv {x y' : Int32} (hz : ¬ y' = 0) (t : hy_To j f (hy_Ex d y ops lv ((.int (x / y'), 0) :: st) σ)) : hy_To j f (hy_Ex d y (.idiv :: ops) lv ((.int y', q) :: (.int x, q') :: st) σ) := g_st (fun r ⟨N, hN⟩ => ⟨N, fun n hn => by
  show hy_sem _ _ _ _ _ _ _ _ _ = _
  dsimp only [hy_sem]
  rw [if_neg hz]
  exact hN n hn⟩) t
theorem g_idivz {x y' : Int32} (t : hy_To j f (hy_Ex d y ops lv ((.int (x / y'), 0) :: st) σ)) : hy_To (if y' = 0 then none else j) f (hy_Ex d y (.idiv :: ops) lv ((.int y', q) :: (.int x, q') :: st) σ) := fun p e => by
  by_cases hz : y' = 0
  · rw [if_pos hz] at e; cases e
  · rw [if_neg hz] at e; exact g_idiv hz t p e
theorem g_irem {x y' : Int32} (hz : ¬ y' = 0) (t : hy_To j f (hy_Ex d y ops lv ((.int (hy_rem x y'), 0) :: st) σ)) : hy_To j f (hy_Ex d y (.irem :: ops) lv ((.int y', q) :: (.int x, q') :: st) σ) := g_st (fun r ⟨N, hN⟩ => ⟨N, fun n hn => by
  show hy_sem _ _ _ _ _ _ _ _ _ = _
  dsimp only [hy_sem]
  rw [if_neg hz]
  exact hN n hn⟩) t
theorem g_iremz {x y' : Int32} (t : hy_To j f (hy_Ex d y ops lv ((.int (hy_rem x y'), 0) :: st) σ)) : hy_To (if y' = 0 then none else j) f (hy_Ex d y (.irem :: ops) lv ((.int y', q) :: (.int x, q') :: st) σ) := fun p e => by
  by_cases hz : y' = 0
  · rw [if_pos hz] at e; cases e
  · rw [if_neg hz] at e; exact g_irem hz t p e
theorem g_ladd {x y' : Int64} (t : hy_To j f (hy_Ex d y ops lv ((.long (x + y'), 0) :: st) σ)) : hy_To j f (hy_Ex d y (.ladd :: ops) lv ((.long y', q) :: (.long x, q') :: st) σ) := t
theorem g_lsub {x y' : Int64} (t : hy_To j f (hy_Ex d y ops lv ((.long (x - y'), 0) :: st) σ)) : hy_To j f (hy_Ex d y (.lsub :: ops) lv ((.long y', q) :: (.long x, q') :: st) σ) := t
theorem g_lcmp {x y' : Int64} (t : hy_To j f (hy_Ex d y ops lv ((.int (lg_cmp x y'), 0) :: st) σ)) : hy_To j f (hy_Ex d y (.lcmp :: ops) lv ((.long y', q) :: (.long x, q') :: st) σ) := t
theorem g_ineg {x} (t : hy_To j f (hy_Ex d y ops lv ((.int (-x), 0) :: st) σ)) : hy_To j f (hy_Ex d y (.ineg :: ops) lv ((.int x, q) :: st) σ) := t
theorem g_i2s {x} (t : hy_To j f (hy_Ex d y ops lv ((.int (x.toInt16.toInt32), 0) :: st) σ)) : hy_To j f (hy_Ex d y (.i2s :: ops) lv ((.int x, q) :: st) σ) := t
theorem g_i2b {x} (t : hy_To j f (hy_Ex d y ops lv ((.int (x.toInt8.toInt32), 0) :: st) σ)) : hy_To j f (hy_Ex d y (.i2b :: ops) lv ((.int x, q) :: st) σ) := t
theorem g_i2c {x} (t : hy_To j f (hy_Ex d y ops lv ((.int ((x.toUInt32 % 65536).toInt32), 0) :: st) σ)) : hy_To j f (hy_Ex d y (.i2c :: ops) lv ((.int x, q) :: st) σ) := t
theorem g_i2l {x} (t : hy_To j f (hy_Ex d y ops lv ((.long (x.toInt64), 0) :: st) σ)) : hy_To j f (hy_Ex d y (.i2l :: ops) lv ((.int x, q) :: st) σ) := t
theorem g_l2i {x} (t : hy_To j f (hy_Ex d y ops lv ((.int (x.toInt32), 0) :: st) σ)) : hy_To j f (hy_Ex d y (.l2i :: ops) lv ((.long x, q) :: st) σ) := t
theorem g_lneg {x} (t : hy_To j f (hy_Ex d y ops lv ((.long (-x), 0) :: st) σ)) : hy_To j f (hy_Ex d y (.lneg :: ops) lv ((.long x, q) :: st) σ) := t
theorem g_dupi {x : Int32} (t : hy_To j f (hy_Ex d y ops lv ((.int x, q) :: (.int x, q) :: st) σ)) : hy_To j f (hy_Ex d y (.dup :: ops) lv ((.int x, q) :: st) σ) := t
theorem g_dupr {x : Nat} (t : hy_To j f (hy_Ex d y ops lv ((.ref x, q) :: (.ref x, q) :: st) σ)) : hy_To j f (hy_Ex d y (.dup :: ops) lv ((.ref x, q) :: st) σ) := t
theorem g_dup2 {x : Int32} {a : Nat} (t : hy_To j f (hy_Ex d y ops lv ((.int x, q) :: (.ref a, q') :: (.int x, q) :: (.ref a, q') :: st) σ)) : hy_To j f (hy_Ex d y (.dup2 :: ops) lv ((.int x, q) :: (.ref a, q') :: st) σ) := t
theorem g_pop {x : Int32} (t : hy_To j f (hy_Ex d y ops lv st σ)) : hy_To j f (hy_Ex d y (.pop :: ops) lv ((.int x, q) :: st) σ) := t
theorem g_getI {p a k : Nat} (hk : Nat.beq q (p / 64) = true) (hf : hy_fr p = none) (hm : p % 64 = k) (t : hy_To j f (hy_Ex d y ops lv ((.int (σ a k), 0) :: st) σ)) : hy_To j f (hy_Ex d y (.getfield p :: ops) lv ((.ref a, q) :: st) σ) := g_st (fun r ⟨N, hN⟩ => ⟨N, fun n hn => by
  show hy_sem _ _ _ _ _ _ _ _ _ = _
  dsimp only [hy_sem]
  rw [hk, hf, hm]
  exact hN n hn⟩) t
theorem g_getR {p a a' kd off : Nat} (hk : Nat.beq q (p / 64) = true) (hf : hy_fr p = some (kd, off)) (ha : hy_ad off a = a') (t : hy_To j f (hy_Ex d y ops lv ((.ref a', kd) :: st) σ)) : hy_To j f (hy_Ex d y (.getfield p :: ops) lv ((.ref a, q) :: st) σ) := g_st (fun r ⟨N, hN⟩ => ⟨N, fun n hn => by
  show hy_sem _ _ _ _ _ _ _ _ _ = _
  dsimp only [hy_sem]
  rw [hk, hf]
  dsimp only [cond_true]
  rw [ha]
  exact hN n hn⟩) t
theorem g_putI {p a k : Nat} {x : Int32} (hk : Nat.beq q (p / 64) = true) (hf : hy_fr p = none) (hb : (Nat.beq p 69 || Nat.beq p 579) = false) (hm : p % 64 = k) (t : hy_To j f (hy_Ex d y ops lv st (hy_up σ a k x))) : hy_To j f (hy_Ex d y (.putfield p :: ops) lv ((.int x, q') :: (.ref a, q) :: st) σ) := g_st (fun r ⟨N, hN⟩ => ⟨N, fun n hn => by
  show hy_sem _ _ _ _ _ _ _ _ _ = _
  dsimp only [hy_sem]
  rw [hk, hf, hb, hm]
  exact hN n hn⟩) t
theorem g_putB {p a k : Nat} {x : Int32} (hk : Nat.beq q (p / 64) = true) (hf : hy_fr p = none) (hx : x = 0 ∨ x = 1) (hm : p % 64 = k) (t : hy_To j f (hy_Ex d y ops lv st (hy_up σ a k x))) : hy_To j f (hy_Ex d y (.putfield p :: ops) lv ((.int x, q') :: (.ref a, q) :: st) σ) := g_st (fun r ⟨N, hN⟩ => ⟨N, fun n hn => by
  show hy_sem _ _ _ _ _ _ _ _ _ = _
  dsimp only [hy_sem]
  rw [hk, hf, hm]
  dsimp only [cond_true]
  rw [if_pos hx]
  cases (Nat.beq p 69 || Nat.beq p 579)
  · exact hN n hn
  · exact hN n hn⟩) t

theorem g_iaload {i : Int32} {a kd : Nat} {z : Int} (ha : hy_al kd = some (0, z)) (t : hy_To j f (hy_Ex d y ops lv ((.int (σ a (hy_ix i)), 0) :: st) σ)) : hy_To (if hy_ib i z then j else none) f (hy_Ex d y (.iaload :: ops) lv ((.int i, q) :: (.ref a, kd) :: st) σ) := fun p e => by
  by_cases hi : hy_ib i z
  · rw [if_pos hi] at e
    obtain ⟨N, hN⟩ := t p e
    refine ⟨N, fun n hn => ?_⟩
    show hy_sem _ _ _ _ _ _ _ _ _ = _
    dsimp only [hy_sem]
    rw [ha]
    show (if hy_ib i z then _ else _) = _
    rw [if_pos hi]
    exact hN n hn
  · rw [if_neg hi] at e; cases e
theorem g_ialoadk {i : Int32} {a kd k : Nat} {z : Int} (ha : hy_al kd = some (0, z)) (hi : hy_ib i z) (hk : hy_ix i = k) (t : hy_To j f (hy_Ex d y ops lv ((.int (σ a k), 0) :: st) σ)) : hy_To j f (hy_Ex d y (.iaload :: ops) lv ((.int i, q) :: (.ref a, kd) :: st) σ) := fun p e => by
  subst hk
  exact g_iaload ha t p (by rw [if_pos hi]; exact e)
theorem g_caload {i : Int32} {a kd : Nat} {z : Int} (ha : hy_al kd = some (1, z)) (t : hy_To j f (hy_Ex d y ops lv ((.int (σ a (hy_ix i)), 0) :: st) σ)) : hy_To (if hy_ib i z then j else none) f (hy_Ex d y (.caload :: ops) lv ((.int i, q) :: (.ref a, kd) :: st) σ) := fun p e => by
  by_cases hi : hy_ib i z
  · rw [if_pos hi] at e
    obtain ⟨N, hN⟩ := t p e
    refine ⟨N, fun n hn => ?_⟩
    show hy_sem _ _ _ _ _ _ _ _ _ = _
    dsimp only [hy_sem]
    rw [ha]
    show (if hy_ib i z then _ else _) = _
    rw [if_pos hi]
    exact hN n hn
  · rw [if_neg hi] at e; cases e
theorem g_caloadk {i : Int32} {a kd k : Nat} {z : Int} (ha : hy_al kd = some (1, z)) (hi : hy_ib i z) (hk : hy_ix i = k) (t : hy_To j f (hy_Ex d y ops lv ((.int (σ a k), 0) :: st) σ)) : hy_To j f (hy_Ex d y (.caload :: ops) lv ((.int i, q) :: (.ref a, kd) :: st) σ) := fun p e => by
  subst hk
  exact g_caload ha t p (by rw [if_pos hi]; exact e)
theorem g_baload {i : Int32} {a kd : Nat} {z : Int} (ha : hy_al kd = some (2, z)) (t : hy_To j f (hy_Ex d y ops lv ((.int (σ a (hy_ix i)), 0) :: st) σ)) : hy_To (if hy_ib i z then j else none) f (hy_Ex d y (.baload :: ops) lv ((.int i, q) :: (.ref a, kd) :: st) σ) := fun p e => by
  by_cases hi : hy_ib i z
  · rw [if_pos hi] at e
    obtain ⟨N, hN⟩ := t p e
    refine ⟨N, fun n hn => ?_⟩
    show hy_sem _ _ _ _ _ _ _ _ _ = _
    dsimp only [hy_sem]
    rw [ha]
    show (if hy_ib i z then _ else _) = _
    rw [if_pos hi]
    exact hN n hn
  · rw [if_neg hi] at e; cases e
theorem g_baloadk {i : Int32} {a kd k : Nat} {z : Int} (ha : hy_al kd = some (2, z)) (hi : hy_ib i z) (hk : hy_ix i = k) (t : hy_To j f (hy_Ex d y ops lv ((.int (σ a k), 0) :: st) σ)) : hy_To j f (hy_Ex d y (.baload :: ops) lv ((.int i, q) :: (.ref a, kd) :: st) σ) := fun p e => by
  subst hk
  exact g_baload ha t p (by rw [if_pos hi]; exact e)
theorem g_iastore {i x : Int32} {a kd : Nat} {z : Int} (ha : hy_al kd = some (0, z)) (t : hy_To j f (hy_Ex d y ops lv st (hy_up σ a (hy_ix i) x))) : hy_To (if hy_ib i z then j else none) f (hy_Ex d y (.iastore :: ops) lv ((.int x, q) :: (.int i, q') :: (.ref a, kd) :: st) σ) := fun p e => by
  by_cases hi : hy_ib i z
  · rw [if_pos hi] at e
    obtain ⟨N, hN⟩ := t p e
    refine ⟨N, fun n hn => ?_⟩
    show hy_sem _ _ _ _ _ _ _ _ _ = _
    dsimp only [hy_sem]
    rw [ha]
    show (if hy_ib i z then _ else _) = _
    rw [if_pos hi]
    exact hN n hn
  · rw [if_neg hi] at e; cases e
theorem g_iastorek {i x : Int32} {a kd k : Nat} {z : Int} (ha : hy_al kd = some (0, z)) (hi : hy_ib i z) (hk : hy_ix i = k) (t : hy_To j f (hy_Ex d y ops lv st (hy_up σ a k x))) : hy_To j f (hy_Ex d y (.iastore :: ops) lv ((.int x, q) :: (.int i, q') :: (.ref a, kd) :: st) σ) := fun p e => by
  subst hk
  exact g_iastore ha t p (by rw [if_pos hi]; exact e)
theorem g_bastore {i x : Int32} {a kd : Nat} {z : Int} (ha : hy_al kd = some (2, z)) (hx : x = 0 ∨ x = 1) (t : hy_To j f (hy_Ex d y ops lv st (hy_up σ a (hy_ix i) x))) : hy_To (if hy_ib i z then j else none) f (hy_Ex d y (.bastore :: ops) lv ((.int x, q) :: (.int i, q') :: (.ref a, kd) :: st) σ) := fun p e => by
  by_cases hi : hy_ib i z
  · rw [if_pos hi] at e
    obtain ⟨N, hN⟩ := t p e
    refine ⟨N, fun n hn => ?_⟩
    show hy_sem _ _ _ _ _ _ _ _ _ = _
    dsimp only [hy_sem]
    rw [ha]
    show (if hy_ib i z then _ else _) = _
    rw [if_pos hi, if_pos hx]
    exact hN n hn
  · rw [if_neg hi] at e; cases e
theorem g_bastorek {i x : Int32} {a kd k : Nat} {z : Int} (ha : hy_al kd = some (2, z)) (hi : hy_ib i z) (hx : x = 0 ∨ x = 1) (hk : hy_ix i = k) (t : hy_To j f (hy_Ex d y ops lv st (hy_up σ a k x))) : hy_To j f (hy_Ex d y (.bastore :: ops) lv ((.int x, q) :: (.int i, q') :: (.ref a, kd) :: st) σ) := fun p e => by
  subst hk
  exact g_bastore ha hx t p (by rw [if_pos hi]; exact e)
theorem g_bz {x : Int32} {P : Vl × Sg → Prop} (t : x = 0 ∨ x = 1 → hy_To j f P) : hy_To (if x = 0 ∨ x = 1 then j else none) f P := fun p e => by
  by_cases h : x = 0 ∨ x = 1
  · rw [if_pos h] at e; exact t h p e
  · rw [if_neg h] at e; cases e
theorem g_aaload {i : Int32} {a a' kd kd' off sd : Nat} {z : Int} (hr : hy_ra kd = some (z, kd', off, sd)) (ha : a + off + sd * hy_ix i = a') (t : hy_To j f (hy_Ex d y ops lv ((.ref a', kd') :: st) σ)) : hy_To (if hy_ib i z then j else none) f (hy_Ex d y (.aaload :: ops) lv ((.int i, q) :: (.ref a, kd) :: st) σ) := fun p e => by
  by_cases hi : hy_ib i z
  · rw [if_pos hi] at e
    obtain ⟨N, hN⟩ := t p e
    refine ⟨N, fun n hn => ?_⟩
    show hy_sem _ _ _ _ _ _ _ _ _ = _
    dsimp only [hy_sem]
    rw [hr]
    show (if hy_ib i z then _ else _) = _
    rw [if_pos hi, ha]
    exact hN n hn
  · rw [if_neg hi] at e; cases e
theorem g_scr {i : Int32} {a : Nat} (t : hy_To j f (hy_Ex d y ops lv ((.int (σ a (hy_ix i)), 0) :: st) σ)) : hy_To (if hy_ib i (hy_dl σ a).toInt then j else none) f (hy_Ex d y (.iaload :: ops) lv ((.int i, q) :: (.ref a, 30) :: st) σ) := fun p e => by
  by_cases hi : hy_ib i (hy_dl σ a).toInt
  · rw [if_pos hi] at e
    obtain ⟨N, hN⟩ := t p e
    refine ⟨N, fun n hn => ?_⟩
    show hy_sem _ _ _ _ _ _ _ _ _ = _
    dsimp only [hy_sem]
    rw [hy_al30]
    show (if hy_ib i (hy_dl σ a).toInt then _ else _) = _
    rw [if_pos hi]
    exact hN n hn
  · rw [if_neg hi] at e; cases e
theorem g_byt {i : Int32} {a : Nat} (t : hy_To j f (hy_Ex d y ops lv ((.int (σ a (hy_ix i)), 0) :: st) σ)) : hy_To (if hy_ib i (hy_dl σ a).toInt then j else none) f (hy_Ex d y (.baload :: ops) lv ((.int i, q) :: (.ref a, 32) :: st) σ) := fun p e => by
  by_cases hi : hy_ib i (hy_dl σ a).toInt
  · rw [if_pos hi] at e
    obtain ⟨N, hN⟩ := t p e
    refine ⟨N, fun n hn => ?_⟩
    show hy_sem _ _ _ _ _ _ _ _ _ = _
    dsimp only [hy_sem]
    rw [hy_al32]
    show (if hy_ib i (hy_dl σ a).toInt then _ else _) = _
    rw [if_pos hi]
    exact hN n hn
  · rw [if_neg hi] at e; cases e
theorem g_alen {a : Nat} (hk : (Nat.beq q 30 || Nat.beq q 32) = true) (t : hy_To j f (hy_Ex d y ops lv ((.int (hy_dl σ a), 0) :: st) σ)) : hy_To j f (hy_Ex d y (.arraylength :: ops) lv ((.ref a, q) :: st) σ) := g_st (fun r ⟨N, hN⟩ => ⟨N, fun n hn => by
  show hy_sem _ _ _ _ _ _ _ _ _ = _
  dsimp only [hy_sem]
  rw [hk]
  exact hN n hn⟩) t
theorem g_icmp_eq {x y' : Int32} {b : Int} {b' : Nat} {j1 j2 : Option α} (hb : b.toNat = b') (t1 : hy_To j1 f (hy_Ev d y b' lv st σ)) (t2 : hy_To j2 f (hy_Ex d y ops lv st σ)) : hy_To (if x = y' then j1 else j2) f (hy_Ex d y (.if_icmp .eq b :: ops) lv ((.int y', q) :: (.int x, q') :: st) σ) := fun p e => by
  subst hb
  by_cases h : x = y'
  · rw [if_pos h] at e
    obtain ⟨N, hN⟩ := t1 p e
    refine ⟨N, fun n hn => ?_⟩
    show hy_sem _ _ _ _ _ _ _ _ _ = _
    dsimp only [hy_sem, hy_ltb]
    rw [if_pos h]
    exact hN n hn
  · rw [if_neg h] at e
    obtain ⟨N, hN⟩ := t2 p e
    refine ⟨N, fun n hn => ?_⟩
    show hy_sem _ _ _ _ _ _ _ _ _ = _
    dsimp only [hy_sem, hy_ltb]
    rw [if_neg h]
    exact hN n hn
theorem g_if_eq {x : Int32} {b : Int} {b' : Nat} {j1 j2 : Option α} (hb : b.toNat = b') (t1 : hy_To j1 f (hy_Ev d y b' lv st σ)) (t2 : hy_To j2 f (hy_Ex d y ops lv st σ)) : hy_To (if x = 0 then j1 else j2) f (hy_Ex d y (.ifCond .eq b :: ops) lv ((.int x, q') :: st) σ) := fun p e => by
  subst hb
  by_cases h : x = 0
  · rw [if_pos h] at e
    obtain ⟨N, hN⟩ := t1 p e
    refine ⟨N, fun n hn => ?_⟩
    show hy_sem _ _ _ _ _ _ _ _ _ = _
    dsimp only [hy_sem, hy_ltb]
    rw [if_pos h]
    exact hN n hn
  · rw [if_neg h] at e
    obtain ⟨N, hN⟩ := t2 p e
    refine ⟨N, fun n hn => ?_⟩
    show hy_sem _ _ _ _ _ _ _ _ _ = _
    dsimp only [hy_sem, hy_ltb]
    rw [if_neg h]
    exact hN n hn
theorem g_icmp_ne {x y' : Int32} {b : Int} {b' : Nat} {j1 j2 : Option α} (hb : b.toNat = b') (t1 : hy_To j1 f (hy_Ev d y b' lv st σ)) (t2 : hy_To j2 f (hy_Ex d y ops lv st σ)) : hy_To (if x = y' then j2 else j1) f (hy_Ex d y (.if_icmp .ne b :: ops) lv ((.int y', q) :: (.int x, q') :: st) σ) := fun p e => by
  subst hb
  by_cases h : x = y'
  · rw [if_pos h] at e
    obtain ⟨N, hN⟩ := t2 p e
    refine ⟨N, fun n hn => ?_⟩
    show hy_sem _ _ _ _ _ _ _ _ _ = _
    dsimp only [hy_sem, hy_ltb]
    rw [if_pos h]
    exact hN n hn
  · rw [if_neg h] at e
    obtain ⟨N, hN⟩ := t1 p e
    refine ⟨N, fun n hn => ?_⟩
    show hy_sem _ _ _ _ _ _ _ _ _ = _
    dsimp only [hy_sem, hy_ltb]
    rw [if_neg h]
    exact hN n hn
theorem g_if_ne {x : Int32} {b : Int} {b' : Nat} {j1 j2 : Option α} (hb : b.toNat = b') (t1 : hy_To j1 f (hy_Ev d y b' lv st σ)) (t2 : hy_To j2 f (hy_Ex d y ops lv st σ)) : hy_To (if x = 0 then j2 else j1) f (hy_Ex d y (.ifCond .ne b :: ops) lv ((.int x, q') :: st) σ) := fun p e => by
  subst hb
  by_cases h : x = 0
  · rw [if_pos h] at e
    obtain ⟨N, hN⟩ := t2 p e
    refine ⟨N, fun n hn => ?_⟩
    show hy_sem _ _ _ _ _ _ _ _ _ = _
    dsimp only [hy_sem, hy_ltb]
    rw [if_pos h]
    exact hN n hn
  · rw [if_neg h] at e
    obtain ⟨N, hN⟩ := t1 p e
    refine ⟨N, fun n hn => ?_⟩
    show hy_sem _ _ _ _ _ _ _ _ _ = _
    dsimp only [hy_sem, hy_ltb]
    rw [if_neg h]
    exact hN n hn
theorem g_icmp_lt {x y' : Int32} {b : Int} {b' : Nat} {j1 j2 : Option α} (hb : b.toNat = b') (t1 : hy_To j1 f (hy_Ev d y b' lv st σ)) (t2 : hy_To j2 f (hy_Ex d y ops lv st σ)) : hy_To (if x < y' then j1 else j2) f (hy_Ex d y (.if_icmp .lt b :: ops) lv ((.int y', q) :: (.int x, q') :: st) σ) := fun p e => by
  subst hb
  by_cases h : x < y'
  · rw [if_pos h] at e
    obtain ⟨N, hN⟩ := t1 p e
    refine ⟨N, fun n hn => ?_⟩
    show hy_sem _ _ _ _ _ _ _ _ _ = _
    dsimp only [hy_sem, hy_ltb]
    rw [if_pos h]
    exact hN n hn
  · rw [if_neg h] at e
    obtain ⟨N, hN⟩ := t2 p e
    refine ⟨N, fun n hn => ?_⟩
    show hy_sem _ _ _ _ _ _ _ _ _ = _
    dsimp only [hy_sem, hy_ltb]
    rw [if_neg h]
    exact hN n hn
theorem g_if_lt {x : Int32} {b : Int} {b' : Nat} {j1 j2 : Option α} (hb : b.toNat = b') (t1 : hy_To j1 f (hy_Ev d y b' lv st σ)) (t2 : hy_To j2 f (hy_Ex d y ops lv st σ)) : hy_To (if x < 0 then j1 else j2) f (hy_Ex d y (.ifCond .lt b :: ops) lv ((.int x, q') :: st) σ) := fun p e => by
  subst hb
  by_cases h : x < 0
  · rw [if_pos h] at e
    obtain ⟨N, hN⟩ := t1 p e
    refine ⟨N, fun n hn => ?_⟩
    show hy_sem _ _ _ _ _ _ _ _ _ = _
    dsimp only [hy_sem, hy_ltb]
    rw [if_pos h]
    exact hN n hn
  · rw [if_neg h] at e
    obtain ⟨N, hN⟩ := t2 p e
    refine ⟨N, fun n hn => ?_⟩
    show hy_sem _ _ _ _ _ _ _ _ _ = _
    dsimp only [hy_sem, hy_ltb]
    rw [if_neg h]
    exact hN n hn
theorem g_icmp_ge {x y' : Int32} {b : Int} {b' : Nat} {j1 j2 : Option α} (hb : b.toNat = b') (t1 : hy_To j1 f (hy_Ev d y b' lv st σ)) (t2 : hy_To j2 f (hy_Ex d y ops lv st σ)) : hy_To (if y' ≤ x then j1 else j2) f (hy_Ex d y (.if_icmp .ge b :: ops) lv ((.int y', q) :: (.int x, q') :: st) σ) := fun p e => by
  subst hb
  by_cases h : y' ≤ x
  · rw [if_pos h] at e
    obtain ⟨N, hN⟩ := t1 p e
    refine ⟨N, fun n hn => ?_⟩
    show hy_sem _ _ _ _ _ _ _ _ _ = _
    dsimp only [hy_sem, hy_ltb]
    rw [if_pos h]
    exact hN n hn
  · rw [if_neg h] at e
    obtain ⟨N, hN⟩ := t2 p e
    refine ⟨N, fun n hn => ?_⟩
    show hy_sem _ _ _ _ _ _ _ _ _ = _
    dsimp only [hy_sem, hy_ltb]
    rw [if_neg h]
    exact hN n hn
theorem g_if_ge {x : Int32} {b : Int} {b' : Nat} {j1 j2 : Option α} (hb : b.toNat = b') (t1 : hy_To j1 f (hy_Ev d y b' lv st σ)) (t2 : hy_To j2 f (hy_Ex d y ops lv st σ)) : hy_To (if 0 ≤ x then j1 else j2) f (hy_Ex d y (.ifCond .ge b :: ops) lv ((.int x, q') :: st) σ) := fun p e => by
  subst hb
  by_cases h : 0 ≤ x
  · rw [if_pos h] at e
    obtain ⟨N, hN⟩ := t1 p e
    refine ⟨N, fun n hn => ?_⟩
    show hy_sem _ _ _ _ _ _ _ _ _ = _
    dsimp only [hy_sem, hy_ltb]
    rw [if_pos h]
    exact hN n hn
  · rw [if_neg h] at e
    obtain ⟨N, hN⟩ := t2 p e
    refine ⟨N, fun n hn => ?_⟩
    show hy_sem _ _ _ _ _ _ _ _ _ = _
    dsimp only [hy_sem, hy_ltb]
    rw [if_neg h]
    exact hN n hn
theorem g_icmp_gt {x y' : Int32} {b : Int} {b' : Nat} {j1 j2 : Option α} (hb : b.toNat = b') (t1 : hy_To j1 f (hy_Ev d y b' lv st σ)) (t2 : hy_To j2 f (hy_Ex d y ops lv st σ)) : hy_To (if y' < x then j1 else j2) f (hy_Ex d y (.if_icmp .gt b :: ops) lv ((.int y', q) :: (.int x, q') :: st) σ) := fun p e => by
  subst hb
  by_cases h : y' < x
  · rw [if_pos h] at e
    obtain ⟨N, hN⟩ := t1 p e
    refine ⟨N, fun n hn => ?_⟩
    show hy_sem _ _ _ _ _ _ _ _ _ = _
    dsimp only [hy_sem, hy_ltb]
    rw [if_pos h]
    exact hN n hn
  · rw [if_neg h] at e
    obtain ⟨N, hN⟩ := t2 p e
    refine ⟨N, fun n hn => ?_⟩
    show hy_sem _ _ _ _ _ _ _ _ _ = _
    dsimp only [hy_sem, hy_ltb]
    rw [if_neg h]
    exact hN n hn
theorem g_if_gt {x : Int32} {b : Int} {b' : Nat} {j1 j2 : Option α} (hb : b.toNat = b') (t1 : hy_To j1 f (hy_Ev d y b' lv st σ)) (t2 : hy_To j2 f (hy_Ex d y ops lv st σ)) : hy_To (if 0 < x then j1 else j2) f (hy_Ex d y (.ifCond .gt b :: ops) lv ((.int x, q') :: st) σ) := fun p e => by
  subst hb
  by_cases h : 0 < x
  · rw [if_pos h] at e
    obtain ⟨N, hN⟩ := t1 p e
    refine ⟨N, fun n hn => ?_⟩
    show hy_sem _ _ _ _ _ _ _ _ _ = _
    dsimp only [hy_sem, hy_ltb]
    rw [if_pos h]
    exact hN n hn
  · rw [if_neg h] at e
    obtain ⟨N, hN⟩ := t2 p e
    refine ⟨N, fun n hn => ?_⟩
    show hy_sem _ _ _ _ _ _ _ _ _ = _
    dsimp only [hy_sem, hy_ltb]
    rw [if_neg h]
    exact hN n hn
theorem g_icmp_le {x y' : Int32} {b : Int} {b' : Nat} {j1 j2 : Option α} (hb : b.toNat = b') (t1 : hy_To j1 f (hy_Ev d y b' lv st σ)) (t2 : hy_To j2 f (hy_Ex d y ops lv st σ)) : hy_To (if x ≤ y' then j1 else j2) f (hy_Ex d y (.if_icmp .le b :: ops) lv ((.int y', q) :: (.int x, q') :: st) σ) := fun p e => by
  subst hb
  by_cases h : x ≤ y'
  · rw [if_pos h] at e
    obtain ⟨N, hN⟩ := t1 p e
    refine ⟨N, fun n hn => ?_⟩
    show hy_sem _ _ _ _ _ _ _ _ _ = _
    dsimp only [hy_sem, hy_ltb]
    rw [if_pos h]
    exact hN n hn
  · rw [if_neg h] at e
    obtain ⟨N, hN⟩ := t2 p e
    refine ⟨N, fun n hn => ?_⟩
    show hy_sem _ _ _ _ _ _ _ _ _ = _
    dsimp only [hy_sem, hy_ltb]
    rw [if_neg h]
    exact hN n hn
theorem g_if_le {x : Int32} {b : Int} {b' : Nat} {j1 j2 : Option α} (hb : b.toNat = b') (t1 : hy_To j1 f (hy_Ev d y b' lv st σ)) (t2 : hy_To j2 f (hy_Ex d y ops lv st σ)) : hy_To (if x ≤ 0 then j1 else j2) f (hy_Ex d y (.ifCond .le b :: ops) lv ((.int x, q') :: st) σ) := fun p e => by
  subst hb
  by_cases h : x ≤ 0
  · rw [if_pos h] at e
    obtain ⟨N, hN⟩ := t1 p e
    refine ⟨N, fun n hn => ?_⟩
    show hy_sem _ _ _ _ _ _ _ _ _ = _
    dsimp only [hy_sem, hy_ltb]
    rw [if_pos h]
    exact hN n hn
  · rw [if_neg h] at e
    obtain ⟨N, hN⟩ := t2 p e
    refine ⟨N, fun n hn => ?_⟩
    show hy_sem _ _ _ _ _ _ _ _ _ = _
    dsimp only [hy_sem, hy_ltb]
    rw [if_neg h]
    exact hN n hn
def hy_Lk (d y : Nat) (lv st : List Vl) (σ : Sg) (x : Int32) (ps : List (Int × Int)) (df : Int) (r : Vl × Sg) : Prop := ∃ N, ∀ n, N ≤ n → hy_look x ps df (fun b => hy_run n d y b lv st σ) = some r
def hy_Tb (d y : Nat) (lv st : List Vl) (σ : Sg) (x : Int32) (lo : Int) (os : List Int) (df : Int) (r : Vl × Sg) : Prop := hy_Ev d y (hy_tab lo x os df) lv st σ r
theorem g_look {x : Int32} {df : Int} {ps : Array (Int × Int)} {ps' : List (Int × Int)} (hp : ps.toList = ps') (t : hy_To j f (hy_Lk d y lv st σ x ps' df)) : hy_To j f (hy_Ex d y (.lookupswitch df ps :: ops) lv ((.int x, q) :: st) σ) := by subst hp; exact t
theorem g_lk0 {x : Int32} {df : Int} {b' : Nat} (hb : df.toNat = b') (t : hy_To j f (hy_Ev d y b' lv st σ)) : hy_To (hy_sw x [] j) f (hy_Lk d y lv st σ x [] df) := by subst hb; exact t
theorem g_lk1 {x v : Int32} {df a b : Int} {b' : Nat} {ps : List (Int × Int)} {j1 : Option α} {js : List (Int32 × Option α)} {jd : Option α} (hv : Int32.ofInt a = v) (hb : b.toNat = b') (t1 : hy_To j1 f (hy_Ev d y b' lv st σ)) (t2 : hy_To (hy_sw x js jd) f (hy_Lk d y lv st σ x ps df)) : hy_To (hy_sw x ((v, j1) :: js) jd) f (hy_Lk d y lv st σ x ((a, b) :: ps) df) := fun p e => by
  subst hb; subst hv
  unfold hy_sw at e
  by_cases h : x = Int32.ofInt a
  · rw [if_pos h] at e
    obtain ⟨N, hN⟩ := t1 p e
    refine ⟨N, fun n hn => ?_⟩
    unfold hy_look
    rw [if_pos h]
    exact hN n hn
  · rw [if_neg h] at e
    obtain ⟨N, hN⟩ := t2 p e
    refine ⟨N, fun n hn => ?_⟩
    unfold hy_look
    rw [if_neg h]
    exact hN n hn
theorem g_tab {x : Int32} {df lo hi : Int} {os : Array Int} {os' : List Int} (hp : os.toList = os') (t : hy_To j f (hy_Tb d y lv st σ x lo os' df)) : hy_To j f (hy_Ex d y (.tableswitch df lo hi os :: ops) lv ((.int x, q) :: st) σ) := by subst hp; exact t
theorem g_tb0 {x : Int32} {df lo : Int} {b' : Nat} (hb : df.toNat = b') (t : hy_To j f (hy_Ev d y b' lv st σ)) : hy_To (hy_sw x [] j) f (hy_Tb d y lv st σ x lo [] df) := fun p e => by
  subst hb
  have := t p e
  unfold hy_Tb hy_tab
  split
  · exact this
  · exact this
theorem hy_tab_cons {lo : Int} {x : Int32} {o df : Int} {os : List Int} : hy_tab lo x (o :: os) df = if x.toInt = lo then o.toNat else hy_tab (lo + 1) x os df := by
  unfold hy_tab
  by_cases h1 : x.toInt < lo
  · rw [if_pos h1, if_neg (by omega), if_pos (by omega)]
  · rw [if_neg h1]
    by_cases h2 : x.toInt = lo
    · rw [if_pos h2, h2, Int.sub_self]; rfl
    · rw [if_neg h2, if_neg (by omega)]
      have e : (x.toInt - lo).toNat = (x.toInt - (lo + 1)).toNat + 1 := by omega
      rw [e, List.getElem?_cons_succ]
theorem g_tb1 {x v : Int32} {df lo lo' o : Int} {b' : Nat} {os : List Int} {j1 : Option α} {js : List (Int32 × Option α)} {jd : Option α} (hv : Int32.ofInt lo = v) (hr : -2147483648 ≤ lo ∧ lo < 2147483648) (hl : lo + 1 = lo') (hb : o.toNat = b') (t1 : hy_To j1 f (hy_Ev d y b' lv st σ)) (t2 : hy_To (hy_sw x js jd) f (hy_Tb d y lv st σ x lo' os df)) : hy_To (hy_sw x ((v, j1) :: js) jd) f (hy_Tb d y lv st σ x lo (o :: os) df) := fun p e => by
  subst hb; subst hv; subst hl
  unfold hy_sw at e
  have hxe : (x = Int32.ofInt lo) ↔ x.toInt = lo := by
    constructor
    · intro z
      rw [z, Int32.toInt_ofInt]
      exact Int.bmod_eq_of_le (by simpa using hr.1) (by simpa using hr.2)
    · intro z
      rw [← z, Int32.ofInt_toInt]
  unfold hy_Tb
  rw [hy_tab_cons]
  by_cases h : x = Int32.ofInt lo
  · rw [if_pos h] at e
    rw [if_pos (hxe.mp h)]
    exact t1 p e
  · rw [if_neg h] at e
    rw [if_neg (fun z => h (hxe.mpr z))]
    exact t2 p e
theorem g_max {x y' : Int32} (hd : Nat.blt 0 d = true) (hs : Nat.ble st.length 4 = true) (t : hy_To j f (hy_Ex d y ops lv ((.int (if x < y' then y' else x), 0) :: st) σ)) : hy_To j f (hy_Ex d y (.invokedynamic 0 :: ops) lv ((.int y', q) :: (.int x, q') :: st) σ) := g_st (fun r ⟨N, hN⟩ => ⟨N, fun n hn => by
  show hy_sem _ _ _ _ _ _ _ _ _ = _
  dsimp only [hy_sem]
  rw [hd]
  show (bif Nat.ble st.length 4 then _ else none) = _
  rw [hs]
  have hh := hN n hn
  rw [hd] at hh
  exact hh⟩) t
theorem g_min {x y' : Int32} (hd : Nat.blt 0 d = true) (hs : Nat.ble st.length 4 = true) (t : hy_To j f (hy_Ex d y ops lv ((.int (if y' < x then y' else x), 0) :: st) σ)) : hy_To j f (hy_Ex d y (.invokedynamic 1 :: ops) lv ((.int y', q) :: (.int x, q') :: st) σ) := g_st (fun r ⟨N, hN⟩ => ⟨N, fun n hn => by
  show hy_sem _ _ _ _ _ _ _ _ _ = _
  dsimp only [hy_sem]
  rw [hd]
  show (bif Nat.ble st.length 4 then _ else none) = _
  rw [hs]
  have hh := hN n hn
  rw [hd] at hh
  exact hh⟩) t
theorem g_abs {x : Int32} (hd : Nat.blt 0 d = true) (hs : Nat.ble st.length 4 = true) (t : hy_To j f (hy_Ex d y ops lv ((.int (if 0 ≤ x then x else 0 - x), 0) :: st) σ)) : hy_To j f (hy_Ex d y (.invokedynamic 2 :: ops) lv ((.int x, q) :: st) σ) := g_st (fun r ⟨N, hN⟩ => ⟨N, fun n hn => by
  show hy_sem _ _ _ _ _ _ _ _ _ = _
  dsimp only [hy_sem]
  rw [hd]
  show (bif Nat.ble st.length 4 then _ else none) = _
  rw [hs]
  have hh := hN n hn
  rw [hd] at hh
  exact hh⟩) t
abbrev hy_cpOK (sp dp n : Int32) (n0 n1 : Int) : Prop := (0 ≤ sp.toInt ∧ 0 ≤ dp.toInt ∧ 0 ≤ n.toInt) ∧ sp.toInt + n.toInt ≤ n0 ∧ dp.toInt + n.toInt ≤ n1
theorem g_copy {n' dp sp : Int32} {a0 a1 k0 k1 q1 : Nat} {n0 n1 : Int} (hd : Nat.blt 0 d = true) (hs : Nat.ble st.length 4 = true) (h0 : hy_al k0 = some (0, n0)) (h1 : hy_al k1 = some (0, n1)) (t : hy_To j f (hy_Ex d y ops lv st (hy_cpS σ a0 a1 sp dp n'))) : hy_To (if hy_cpOK sp dp n' n0 n1 then j else none) f (hy_Ex d y (.invokedynamic 3 :: ops) lv ((.int n', q) :: (.int dp, q') :: (.ref a1, k1) :: (.int sp, q1) :: (.ref a0, k0) :: st) σ) := fun p e => by
  by_cases hi : hy_cpOK sp dp n' n0 n1
  · rw [if_pos hi] at e
    obtain ⟨N, hN⟩ := t p e
    refine ⟨N, fun n hn => ?_⟩
    show hy_sem _ _ _ _ _ _ _ _ _ = _
    dsimp only [hy_sem]
    rw [hd]
    show (bif Nat.ble st.length 4 then (match hy_al k0, hy_al k1 with | some (0, n0), some (0, n1) => if hy_cpOK sp dp n' n0 n1 then _ else _ | _, _ => none) else none) = _
    rw [hs, h0, h1]
    show (if hy_cpOK sp dp n' n0 n1 then _ else _) = _
    rw [if_pos hi]
    have hh := hN n hn
    rw [hd] at hh
    exact hh
  · rw [if_neg hi] at e; cases e
theorem hy_cut_spec {n : Nat} {st as rest : List Vl} (h : hy_cut n st = some (as, rest)) : (Nat.ble n st.length && Nat.ble (hy_wds (st.drop n)) 8) = true ∧ (st.take n).reverse = as ∧ st.drop n = rest := by
  unfold hy_cut at h
  cases hb : (Nat.ble n st.length && Nat.ble (hy_wds (st.drop n)) 8) with
  | false => rw [hb] at h; cases h
  | true => rw [hb] at h; cases h; exact ⟨rfl, rfl, rfl⟩
theorem hy_cl_run {z : Nat} {as : List Vl} {r : Vl × Sg} (h : hy_Cl d z as σ r) : ∃ N, ∀ n, N ≤ n → hy_cf n (d + 1) z as σ = some r := by
  obtain ⟨h1, N, hN⟩ := h
  refine ⟨N, fun n hn => ?_⟩
  unfold hy_cf
  dsimp only
  rw [h1, Nat.beq_refl]
  exact hN n hn
theorem hy_s_call {z na : Nat} {as rest : List Vl} {r r' : Vl × Sg} (hn : hy_na z = na) (hc : hy_cut na st = some (as, rest)) (h1 : hy_Cl d z as σ r) (h2 : hy_Ex (d + 1) y ops lv (hy_push r.1.1 rest) r.2 r') : hy_Ex (d + 1) y (.invokestatic z :: ops) lv st σ r' := by
  subst hn
  obtain ⟨c1, rfl, rfl⟩ := hy_cut_spec hc
  obtain ⟨N1, hN1⟩ := hy_cl_run h1
  obtain ⟨N2, hN2⟩ := h2
  refine ⟨N1 + N2, fun n hn => ?_⟩
  show hy_sem _ _ _ _ _ _ _ _ _ = _
  dsimp only [hy_sem]
  rw [c1, hN1 n (by omega)]
  exact hN2 n (by omega)
def hy_rk (kd o : Nat) : Bool := (Nat.beq kd o && (Nat.ble 1 kd && Nat.ble kd 9)) || (Nat.beq kd 31 && Nat.beq o 10)
theorem hy_v_call {z na o a kd : Nat} {as rest : List Vl} {r r' : Vl × Sg} (hn : hy_na z = na) (ho : hy_own z = o) (hk : hy_rk kd o = true) (hc : hy_cut na st = some ((.ref a, kd) :: as, rest)) (h1 : hy_Cl d z ((.ref a, kd) :: as) σ r) (h2 : hy_Ex (d + 1) y ops lv (hy_push r.1.1 rest) r.2 r') : hy_Ex (d + 1) y (.invokevirtual z :: ops) lv st σ r' := by
  subst hn; subst ho
  obtain ⟨c1, c2, rfl⟩ := hy_cut_spec hc
  obtain ⟨N1, hN1⟩ := hy_cl_run h1
  obtain ⟨N2, hN2⟩ := h2
  refine ⟨N1 + N2, fun n hn => ?_⟩
  show hy_sem _ _ _ _ _ _ _ _ _ = _
  dsimp only [hy_sem]
  unfold hy_rk at hk
  rw [c1, c2]
  dsimp only [cond_true]
  rw [hk, hN1 n (by omega)]
  exact hN2 n (by omega)
theorem g_si {z na : Nat} {as rest : List Vl} {jc : Option (Int32 × Sg)} {kk : Int32 × Sg → Option α} (hn : hy_na z = na) (hc : hy_cut na st = some (as, rest)) (h1 : hy_To jc hy_ri (hy_Cl d z as σ)) (h2 : ∀ v σ1, hy_To (kk (v, σ1)) f (hy_Ex (d + 1) y ops lv ((.int v, 0) :: rest) σ1)) : hy_To (jc.bind kk) f (hy_Ex (d + 1) y (.invokestatic z :: ops) lv st σ) := fun p e => by
  obtain ⟨⟨v, σ1⟩, e1, e2⟩ := Option.bind_eq_some_iff.mp e
  exact hy_s_call hn hc (h1 _ e1) (h2 v σ1 p e2)
theorem g_wi {z na o a kd : Nat} {as rest : List Vl} {jc : Option (Int32 × Sg)} {kk : Int32 × Sg → Option α} (hn : hy_na z = na) (ho : hy_own z = o) (hk : hy_rk kd o = true) (hc : hy_cut na st = some (((.ref a, kd) :: as), rest)) (h1 : hy_To jc hy_ri (hy_Cl d z ((.ref a, kd) :: as) σ)) (h2 : ∀ v σ1, hy_To (kk (v, σ1)) f (hy_Ex (d + 1) y ops lv ((.int v, 0) :: rest) σ1)) : hy_To (jc.bind kk) f (hy_Ex (d + 1) y (.invokevirtual z :: ops) lv st σ) := fun p e => by
  obtain ⟨⟨v, σ1⟩, e1, e2⟩ := Option.bind_eq_some_iff.mp e
  exact hy_v_call hn ho hk hc (h1 _ e1) (h2 v σ1 p e2)
theorem g_sl {z na : Nat} {as rest : List Vl} {jc : Option (Int64 × Sg)} {kk : Int64 × Sg → Option α} (hn : hy_na z = na) (hc : hy_cut na st = some (as, rest)) (h1 : hy_To jc hy_rl (hy_Cl d z as σ)) (h2 : ∀ v σ1, hy_To (kk (v, σ1)) f (hy_Ex (d + 1) y ops lv ((.long v, 0) :: rest) σ1)) : hy_To (jc.bind kk) f (hy_Ex (d + 1) y (.invokestatic z :: ops) lv st σ) := fun p e => by
  obtain ⟨⟨v, σ1⟩, e1, e2⟩ := Option.bind_eq_some_iff.mp e
  exact hy_s_call hn hc (h1 _ e1) (h2 v σ1 p e2)
theorem g_wl {z na o a kd : Nat} {as rest : List Vl} {jc : Option (Int64 × Sg)} {kk : Int64 × Sg → Option α} (hn : hy_na z = na) (ho : hy_own z = o) (hk : hy_rk kd o = true) (hc : hy_cut na st = some (((.ref a, kd) :: as), rest)) (h1 : hy_To jc hy_rl (hy_Cl d z ((.ref a, kd) :: as) σ)) (h2 : ∀ v σ1, hy_To (kk (v, σ1)) f (hy_Ex (d + 1) y ops lv ((.long v, 0) :: rest) σ1)) : hy_To (jc.bind kk) f (hy_Ex (d + 1) y (.invokevirtual z :: ops) lv st σ) := fun p e => by
  obtain ⟨⟨v, σ1⟩, e1, e2⟩ := Option.bind_eq_some_iff.mp e
  exact hy_v_call hn ho hk hc (h1 _ e1) (h2 v σ1 p e2)
theorem g_sv {z na : Nat} {as rest : List Vl} {jc : Option (Sg)} {kk : Sg → Option α} (hn : hy_na z = na) (hc : hy_cut na st = some (as, rest)) (h1 : hy_To jc hy_rv (hy_Cl d z as σ)) (h2 : ∀ σ1, hy_To (kk σ1) f (hy_Ex (d + 1) y ops lv rest σ1)) : hy_To (jc.bind kk) f (hy_Ex (d + 1) y (.invokestatic z :: ops) lv st σ) := fun p e => by
  obtain ⟨σ1, e1, e2⟩ := Option.bind_eq_some_iff.mp e
  exact hy_s_call hn hc (h1 _ e1) (h2 σ1 p e2)
theorem g_wv {z na o a kd : Nat} {as rest : List Vl} {jc : Option (Sg)} {kk : Sg → Option α} (hn : hy_na z = na) (ho : hy_own z = o) (hk : hy_rk kd o = true) (hc : hy_cut na st = some (((.ref a, kd) :: as), rest)) (h1 : hy_To jc hy_rv (hy_Cl d z ((.ref a, kd) :: as) σ)) (h2 : ∀ σ1, hy_To (kk σ1) f (hy_Ex (d + 1) y ops lv rest σ1)) : hy_To (jc.bind kk) f (hy_Ex (d + 1) y (.invokevirtual z :: ops) lv st σ) := fun p e => by
  obtain ⟨σ1, e1, e2⟩ := Option.bind_eq_some_iff.mp e
  exact hy_v_call hn ho hk hc (h1 _ e1) (h2 σ1 p e2)
theorem g_iret {x : Int32} (hr : hy_rt y = 0) : hy_To (some (x, σ)) hy_ri (hy_Ex d y (.ireturn :: ops) lv [(.int x, q)] σ) := fun p e => by
  cases e
  refine ⟨0, fun n hn => ?_⟩
  show hy_sem _ _ _ _ _ _ _ _ _ = _
  dsimp only [hy_sem]
  rw [hr]
  rfl
theorem g_zret {x : Int32} (hr : hy_rt y = 1) (hx : x = 0 ∨ x = 1) : hy_To (some (x, σ)) hy_ri (hy_Ex d y (.ireturn :: ops) lv [(.int x, q)] σ) := fun p e => by
  cases e
  refine ⟨0, fun n hn => ?_⟩
  show hy_sem _ _ _ _ _ _ _ _ _ = _
  dsimp only [hy_sem]
  rw [hr]
  show (if x = 0 ∨ x = 1 then _ else _) = _
  rw [if_pos hx]
  rfl
theorem g_nret {x : Int32} (hr : hy_rt y = 2) : hy_To (if x.toInt8.toInt32 = x then some (x, σ) else none) hy_ri (hy_Ex d y (.ireturn :: ops) lv [(.int x, q)] σ) := fun p e => by
  by_cases hx : x.toInt8.toInt32 = x
  · rw [if_pos hx] at e
    cases e
    refine ⟨0, fun n hn => ?_⟩
    show hy_sem _ _ _ _ _ _ _ _ _ = _
    dsimp only [hy_sem]
    rw [hr]
    show (if x.toInt8.toInt32 = x then _ else _) = _
    rw [if_pos hx]
    rfl
  · rw [if_neg hx] at e; cases e
theorem g_cret {x : Int32} (hr : hy_rt y = 3) : hy_To (if (x.toUInt32 % 65536).toInt32 = x then some (x, σ) else none) hy_ri (hy_Ex d y (.ireturn :: ops) lv [(.int x, q)] σ) := fun p e => by
  by_cases hx : (x.toUInt32 % 65536).toInt32 = x
  · rw [if_pos hx] at e
    cases e
    refine ⟨0, fun n hn => ?_⟩
    show hy_sem _ _ _ _ _ _ _ _ _ = _
    dsimp only [hy_sem]
    rw [hr]
    show (if (x.toUInt32 % 65536).toInt32 = x then _ else _) = _
    rw [if_pos hx]
    rfl
  · rw [if_neg hx] at e; cases e
theorem g_lret {x : Int64} : hy_To (some (x, σ)) hy_rl (hy_Ex d y (.lreturn :: ops) lv [(.long x, q)] σ) := fun p e => by
  cases e
  exact ⟨0, fun n hn => rfl⟩
theorem g_vret : hy_To (some σ) hy_rv (hy_Ex d y (.return_ :: ops) lv [] σ) := fun p e => by
  cases e
  exact ⟨0, fun n hn => rfl⟩
end HYG
