/-! THE SMALL MACHINE: the abstract code of part 02 over a store of ints (place of an object, slot); references are places, each with its kind. What it answers, the bytecode answers (part 04). -/
abbrev Vl := Value × Nat
abbrev Sg := Nat → Nat → Int32
abbrev Rs := Option (Vl × Sg)
def hy_up (σ : Sg) (a k : Nat) (v : Int32) : Sg := fun a' => if a' = a then upd (σ a) k v else σ a'
abbrev hy_ib (i : Int32) (n : Int) : Prop := 0 ≤ i.toInt ∧ i.toInt < n
def hy_ix (i : Int32) : Nat := i.toNatClampNeg
/-- the kinds of the places 0 .. 161 -/
def hy_KT : List Nat := [1, 10, 2, 14, 3, 14, 14, 4, 11, 12, 20] ++ (List.replicate 14 [3, 14, 14]).flatten ++ (List.replicate 4 [5, 15]).flatten ++ (List.replicate 5 [6, 8, 5, 15]).flatten ++ (List.replicate 3 ([7, 13, 16, 17, 18, 19, 4] ++ List.replicate 12 8)).flatten ++ [9, 21, 21, 21, 22, 22, 23, 14, 27, 24, 14, 14, 28, 14, 24, 24, 24, 14, 25, 25, 25, 26, 15, 20]
def hy_NN : Nat := 162
theorem hy_KT_len : hy_KT.length = hy_NN := by decide +kernel
def hy_ka (a : Nat) : Nat := if a < 162 then hy_KT.getD a 0 else if 1000 ≤ a ∧ a < 1006 then 31 else if 1010 ≤ a ∧ a < 1016 then 32 else if a = 1999 then 33 else if a = 2000 then 30 else 0
/-- fields that are references: the kind of what they hold and how far it lies (from 1000 on: its place, and 1000) -/
def hy_FRT : List (List (Option (Nat × Nat))) := [[],
  [some (10, 1), some (2, 2), some (7, 81), some (7, 100), some (7, 119), none, some (4, 7), some (11, 8), some (12, 9), some (20, 10), none],
  [some (14, 1), some (3, 2), none, none],
  [some (14, 1), some (14, 2), none, none, none],
  [none, none, none],
  [some (15, 1), none, none],
  [some (8, 1), some (5, 2), none, none],
  [some (10, 1001), some (13, 1), some (16, 2), some (17, 3), some (18, 4), some (19, 5), some (4, 6), none, none, none, none, none, none, none],
  [none, none, none, none, none, none],
  [some (21, 1), some (21, 2), some (21, 3), none, some (22, 4), some (22, 5), none, some (23, 6), some (14, 7), none, none, none, none, none, none, none, some (27, 8), some (24, 9), some (14, 10), none, none, some (14, 11), none, some (28, 12), some (14, 13), some (24, 14), some (24, 15), some (24, 16), some (14, 17), some (25, 18), some (25, 19), some (25, 20), some (26, 21), some (15, 22), some (20, 23), none]]
def hy_fr (p : Nat) : Option (Nat × Nat) := bif Nat.beq p 1984 then some (32, 10) else (hy_FRT.getD (p / 64) []).getD (p % 64) none
def hy_ad (off a : Nat) : Nat := bif Nat.ble 1000 off then off - 1000 else a + off
def hy_ra (kd : Nat) : Option (Int × Nat × Nat × Nat) := match kd with
  | 10 => some (14, 3, 10, 3)
  | 11 => some (4, 5, 45, 2)
  | 12 => some (5, 6, 52, 4)
  | 13 => some (12, 8, 6, 1)
  | _ => none
/-- arrays of ints (0), chars (1), booleans (2): sort and length -/
def hy_al (kd : Nat) : Option (Nat × Int) := (([(0, 96), (0, 24), (0, 36), (0, 3), (0, 432), (0, 12), (0, 60), (0, 1451), (0, 72), (0, 79), (0, 4), (0, 5), (0, 120), (1, 10), (2, 10)] : List (Nat × Int))[kd - 14]?).bind fun q => bif Nat.ble 14 kd then some q else none
/-- the length of an array that is none of those -/
def hy_dl (σ : Sg) (a : Nat) : Int32 := σ a 5000
def hy_cpS (σ : Sg) (a0 a1 : Nat) (sp dp n : Int32) : Sg := fun a => if a = a1 then va_cpy (σ a0) (σ a1) (hy_ix sp) (hy_ix dp) (hy_ix n) else σ a
def hy_ltb (c : Jvm.ClassFile.Cond) (x y : Int32) (t f : Rs) : Rs := match c with
  | .eq => if x = y then t else f
  | .ne => if x = y then f else t
  | .lt => if x < y then t else f
  | .ge => if y ≤ x then t else f
  | .gt => if y < x then t else f
  | .le => if x ≤ y then t else f
def hy_push (r : Value) (st : List Vl) : List Vl := match r with
  | .null => st
  | r => (r, 0) :: st
def hy_exp (as : List Vl) : List Vl := as.flatMap fun v => match v.1 with | .long _ => [v, (.null, 0)] | _ => [v]
def hy_ent (maxl : Nat) (as : List Vl) : List Vl := hy_exp as ++ List.replicate (maxl - (hy_exp as).length) (.null, 0)
def hy_wds : List Vl → Nat
  | [] => 0
  | v :: l => (match v.1 with | .long _ => 2 | .double _ => 2 | _ => 1) + hy_wds l
def hy_own (q : Nat) : Nat := (hy_m q).2.2.2.2
def hy_na (q : Nat) : Nat := (hy_m q).2.2.2.1
def hy_mx (q : Nat) : Nat := (hy_m q).2.1
def hy_rt (q : Nat) : Nat := match (hy_m q).2.2.1 with
  | some .boolean => 1
  | some .byte => 2
  | some .char => 3
  | _ => 0
def hy_tab (lo : Int) (x : Int32) (offs : List Int) (dflt : Int) : Nat := if x.toInt < lo then dflt.toNat else ((offs[(x.toInt - lo).toNat]?).getD dflt).toNat
def hy_look (x : Int32) (ps : List (Int × Int)) (dflt : Int) (rc : Nat → Rs) : Rs := match ps with
  | [] => rc dflt.toNat
  | p :: ps => if x = Int32.ofInt p.1 then rc p.2.toNat else hy_look x ps dflt rc
/-- one instruction: rt is what the method answers, dz whether a further frame may be had, rc goes to a block of the method, cl calls a method, k goes on -/
def hy_sem (rt : Nat) (dz : Bool) (rc : Nat → List Vl → List Vl → Sg → Rs) (cl : Nat → List Vl → Sg → Rs) (op : Instr) (k : List Vl → List Vl → Sg → Rs) (lv st : List Vl) (σ : Sg) : Rs :=
  match op with
  | .bipush n => k lv ((.int (Int32.ofInt n), 0) :: st) σ
  | .lconst n => k lv ((.long (Int64.ofNat (n : Nat)), 0) :: st) σ
  | .ldc i => k lv ((.ref (1000 + i), 31) :: st) σ
  | .getstatic i => match i with
    | 0 => k lv ((.int 1, 0) :: st) σ
    | _ => k lv ((.float 0, 33) :: st) σ
  | .iload i => match lv[i]? with
    | some (.int x, _) => k lv ((.int x, 0) :: st) σ
    | _ => none
  | .lload i => match lv[i]? with
    | some (.long x, _) => k lv ((.long x, 0) :: st) σ
    | _ => none
  | .aload i => match lv[i]? with
    | some (.ref x, kd) => k lv ((.ref x, kd) :: st) σ
    | _ => none
  | .istore i => match st with
    | (.int x, _) :: st => match lv[i - 1]? with
      | some (.long _, _) => none
      | _ => bif Nat.blt i lv.length then k (lv.set i (.int x, 0)) st σ else none
    | _ => none
  | .astore i => match st with
    | (.ref x, kd) :: st => match lv[i - 1]? with
      | some (.long _, _) => none
      | _ => bif Nat.blt i lv.length then k (lv.set i (.ref x, kd)) st σ else none
    | _ => none
  | .lstore i => match st with
    | (.long x, _) :: st => match lv[i - 1]? with
      | some (.long _, _) => none
      | _ => bif Nat.blt (i + 1) lv.length then k ((lv.set i (.long x, 0)).set (i + 1) (.null, 0)) st σ else none
    | _ => none
  | .iinc i n => match lv[i]? with
    | some (.int x, _) => match lv[i - 1]? with
      | some (.long _, _) => none
      | _ => k (lv.set i (.int (x + Int32.ofInt n), 0)) st σ
    | _ => none
  | .iadd => match st with
    | (.int y, _) :: (.int x, _) :: st => k lv ((.int (x + y), 0) :: st) σ
    | _ => none
  | .isub => match st with
    | (.int y, _) :: (.int x, _) :: st => k lv ((.int (x - y), 0) :: st) σ
    | _ => none
  | .imul => match st with
    | (.int y, _) :: (.int x, _) :: st => k lv ((.int (x * y), 0) :: st) σ
    | _ => none
  | .idiv => match st with
    | (.int y, _) :: (.int x, _) :: st => if y = 0 then none else k lv ((.int (x / y), 0) :: st) σ
    | _ => none
  | .irem => match st with
    | (.int y, _) :: (.int x, _) :: st => if y = 0 then none else k lv ((.int (x - x / y * y), 0) :: st) σ
    | _ => none
  | .iand => match st with
    | (.int y, _) :: (.int x, _) :: st => k lv ((.int (x &&& y), 0) :: st) σ
    | _ => none
  | .ior => match st with
    | (.int y, _) :: (.int x, _) :: st => k lv ((.int (x ||| y), 0) :: st) σ
    | _ => none
  | .ishl => match st with
    | (.int y, _) :: (.int x, _) :: st => k lv ((.int (x <<< (y &&& 31)), 0) :: st) σ
    | _ => none
  | .ishr => match st with
    | (.int y, _) :: (.int x, _) :: st => k lv ((.int (x >>> (y &&& 31)), 0) :: st) σ
    | _ => none
  | .iushr => match st with
    | (.int y, _) :: (.int x, _) :: st => k lv ((.int (x.toUInt32 >>> (y.toUInt32 &&& Int32.toUInt32 31)).toInt32, 0) :: st) σ
    | _ => none
  | .ineg => match st with
    | (.int x, _) :: st => k lv ((.int (-x), 0) :: st) σ
    | _ => none
  | .i2s => match st with
    | (.int x, _) :: st => k lv ((.int x.toInt16.toInt32, 0) :: st) σ
    | _ => none
  | .i2b => match st with
    | (.int x, _) :: st => k lv ((.int x.toInt8.toInt32, 0) :: st) σ
    | _ => none
  | .i2c => match st with
    | (.int x, _) :: st => k lv ((.int (x.toUInt32 % 65536).toInt32, 0) :: st) σ
    | _ => none
  | .i2l => match st with
    | (.int x, _) :: st => k lv ((.long x.toInt64, 0) :: st) σ
    | _ => none
  | .l2i => match st with
    | (.long x, _) :: st => k lv ((.int x.toInt32, 0) :: st) σ
    | _ => none
  | .ladd => match st with
    | (.long y, _) :: (.long x, _) :: st => k lv ((.long (x + y), 0) :: st) σ
    | _ => none
  | .lsub => match st with
    | (.long y, _) :: (.long x, _) :: st => k lv ((.long (x - y), 0) :: st) σ
    | _ => none
  | .lneg => match st with
    | (.long x, _) :: st => k lv ((.long (-x), 0) :: st) σ
    | _ => none
  | .lcmp => match st with
    | (.long y, _) :: (.long x, _) :: st => k lv ((.int (lg_cmp x y), 0) :: st) σ
    | _ => none
  | .dup => match st with
    | (.int x, q) :: st => k lv ((.int x, q) :: (.int x, q) :: st) σ
    | (.ref x, q) :: st => k lv ((.ref x, q) :: (.ref x, q) :: st) σ
    | _ => none
  | .dup2 => match st with
    | (.int x, q) :: (.ref y, q') :: st => k lv ((.int x, q) :: (.ref y, q') :: (.int x, q) :: (.ref y, q') :: st) σ
    | _ => none
  | .pop => match st with
    | (.int _, _) :: st => k lv st σ
    | _ => none
  | .getfield p => match st with
    | (.ref a, kd) :: st => bif Nat.beq kd (p / 64) then (match hy_fr p with
      | some (kd', off) => k lv ((.ref (hy_ad off a), kd') :: st) σ
      | none => k lv ((.int (σ a (p % 64)), 0) :: st) σ) else none
    | _ => none
  | .putfield p => match st with
    | (.int x, _) :: (.ref a, kd) :: st => bif Nat.beq kd (p / 64) then (match hy_fr p with
      | some _ => none
      | none => bif Nat.beq p 69 || Nat.beq p 579 then (if x = 0 ∨ x = 1 then k lv st (hy_up σ a (p % 64) x) else none) else k lv st (hy_up σ a (p % 64) x)) else none
    | _ => none
  | .iaload => match st with
    | (.int i, _) :: (.ref a, kd) :: st => match hy_al kd with
      | some (0, n) => if hy_ib i n then k lv ((.int (σ a (hy_ix i)), 0) :: st) σ else none
      | _ => bif Nat.beq kd 30 then (if hy_ib i (hy_dl σ a).toInt then k lv ((.int (σ a (hy_ix i)), 0) :: st) σ else none) else none
    | _ => none
  | .caload => match st with
    | (.int i, _) :: (.ref a, kd) :: st => match hy_al kd with
      | some (1, n) => if hy_ib i n then k lv ((.int (σ a (hy_ix i)), 0) :: st) σ else none
      | _ => none
    | _ => none
  | .baload => match st with
    | (.int i, _) :: (.ref a, kd) :: st => match hy_al kd with
      | some (2, n) => if hy_ib i n then k lv ((.int (σ a (hy_ix i)), 0) :: st) σ else none
      | _ => bif Nat.beq kd 32 then (if hy_ib i (hy_dl σ a).toInt then k lv ((.int (σ a (hy_ix i)), 0) :: st) σ else none) else none
    | _ => none
  | .aaload => match st with
    | (.int i, _) :: (.ref a, kd) :: st => match hy_ra kd with
      | some (n, kd', off, sd) => if hy_ib i n then k lv ((.ref (a + off + sd * hy_ix i), kd') :: st) σ else none
      | none => none
    | _ => none
  | .iastore => match st with
    | (.int x, _) :: (.int i, _) :: (.ref a, kd) :: st => match hy_al kd with
      | some (0, n) => if hy_ib i n then k lv st (hy_up σ a (hy_ix i) x) else none
      | _ => none
    | _ => none
  | .bastore => match st with
    | (.int x, _) :: (.int i, _) :: (.ref a, kd) :: st => match hy_al kd with
      | some (2, n) => if hy_ib i n then (if x = 0 ∨ x = 1 then k lv st (hy_up σ a (hy_ix i) x) else none) else none
      | _ => none
    | _ => none
  | .arraylength => match st with
    | (.ref a, kd) :: st => bif Nat.beq kd 30 || Nat.beq kd 32 then k lv ((.int (hy_dl σ a), 0) :: st) σ else none
    | _ => none
  | .ifCond c b => match st with
    | (.int x, _) :: st => hy_ltb c x 0 (rc b.toNat lv st σ) (k lv st σ)
    | _ => none
  | .if_icmp c b => match st with
    | (.int y, _) :: (.int x, _) :: st => hy_ltb c x y (rc b.toNat lv st σ) (k lv st σ)
    | _ => none
  | .goto b => rc b.toNat lv st σ
  | .goto_w b => rc b.toNat lv st σ
  | .tableswitch dflt lo _ offs => match st with
    | (.int x, _) :: st => rc (hy_tab lo x offs.toList dflt) lv st σ
    | _ => none
  | .lookupswitch dflt ps => match st with
    | (.int x, _) :: st => hy_look x ps.toList dflt fun b => rc b lv st σ
    | _ => none
  | .invokedynamic j => bif dz then (match j with
    | 0 => match st with
      | (.int y, _) :: (.int x, _) :: st => bif Nat.ble st.length 4 then k lv ((.int (if x < y then y else x), 0) :: st) σ else none
      | _ => none
    | 1 => match st with
      | (.int y, _) :: (.int x, _) :: st => bif Nat.ble st.length 4 then k lv ((.int (if y < x then y else x), 0) :: st) σ else none
      | _ => none
    | 2 => match st with
      | (.int x, _) :: st => bif Nat.ble st.length 4 then k lv ((.int (if 0 ≤ x then x else 0 - x), 0) :: st) σ else none
      | _ => none
    | 3 => match st with
      | (.int n, _) :: (.int dp, _) :: (.ref a1, k1) :: (.int sp, _) :: (.ref a0, k0) :: st => bif Nat.ble st.length 4 then (match hy_al k0, hy_al k1 with
        | some (0, n0), some (0, n1) => if (0 ≤ sp.toInt ∧ 0 ≤ dp.toInt ∧ 0 ≤ n.toInt) ∧ sp.toInt + n.toInt ≤ n0 ∧ dp.toInt + n.toInt ≤ n1 then k lv st (hy_cpS σ a0 a1 sp dp n) else none
        | _, _ => none) else none
      | _ => none
    | _ => none) else none
  | .invokestatic q => bif Nat.ble (hy_na q) st.length && Nat.ble (hy_wds (st.drop (hy_na q))) 8 then (cl q (st.take (hy_na q)).reverse σ).bind fun r => k lv (hy_push r.1.1 (st.drop (hy_na q))) r.2 else none
  | .invokevirtual q => bif Nat.ble (hy_na q) st.length && Nat.ble (hy_wds (st.drop (hy_na q))) 8 then (match (st.take (hy_na q)).reverse with
    | (.ref a, kd) :: as => bif (Nat.beq kd (hy_own q) && (Nat.ble 1 kd && Nat.ble kd 9)) || (Nat.beq kd 31 && Nat.beq (hy_own q) 10) then (cl q ((.ref a, kd) :: as) σ).bind fun r => k lv (hy_push r.1.1 (st.drop (hy_na q))) r.2 else none
    | _ => none) else none
  | .ireturn => match st with
    | [(.int x, _)] => match rt with
      | 1 => if x = 0 ∨ x = 1 then some ((.int x, 0), σ) else none
      | 2 => if x.toInt8.toInt32 = x then some ((.int x, 0), σ) else none
      | 3 => if (x.toUInt32 % 65536).toInt32 = x then some ((.int x, 0), σ) else none
      | _ => some ((.int x, 0), σ)
    | _ => none
  | .lreturn => match st with
    | [(.long x, _)] => some ((.long x, 0), σ)
    | _ => none
  | .return_ => match st with
    | [] => some ((.null, 0), σ)
    | _ => none
  | _ => none
def hy_blk (y b : Nat) : Nat × List Instr := (hy_K.getD y []).getD b (0, [])
def hy_ex (rt : Nat) (dz : Bool) (rc : Nat → List Vl → List Vl → Sg → Rs) (cl : Nat → List Vl → Sg → Rs) : List Instr → List Vl → List Vl → Sg → Rs
  | [] => fun _ _ _ => none
  | op :: ops => hy_sem rt dz rc cl op (hy_ex rt dz rc cl ops)
/-- fuel n, frames d: method y from its block b on -/
def hy_run : Nat → Nat → Nat → Nat → List Vl → List Vl → Sg → Rs
  | 0, _, _, _ => fun _ _ _ => none
  | n + 1, d, y, b => hy_ex (hy_rt y) (Nat.blt 0 d) (hy_run n d y) (fun q as σ => match d with
    | 0 => none
    | d' + 1 => bif Nat.beq (hy_ent (hy_mx q) as).length (hy_mx q) then hy_run n d' q 0 (hy_ent (hy_mx q) as) [] σ else none) (hy_blk y b).2
/-! the abstract code against the bytes -/
def hy_has (l : List (Nat × Nat × Nat × Nat)) (own idx v : Nat) : Bool := l.any fun q => Nat.beq q.1 own && (Nat.beq q.2.1 idx && Nat.beq q.2.2.1 v)
def hy_ok (y pc : Nat) (op ins : Instr) (len : Nat) : Bool :=
  let own := hy_own y
  match op with
  | .bipush n => decide ((ins, len) = (.iconst n, 1)) || decide ((ins, len) = (.bipush n, 2) ∧ (Int8.ofInt n).toInt32 = Int32.ofInt n) || decide ((ins, len) = (.sipush n, 3) ∧ (Int16.ofInt n).toInt32 = Int32.ofInt n) ||
      hy_CT.any fun q => decide (q.1 = own ∧ q.2.2.1 = n) && (decide ((ins, len) = (.ldc q.2.1, 2)) || decide ((ins, len) = (.ldc_w q.2.1, 3)))
  | .ldc i => hy_ST.any fun q => decide (q.1 = own ∧ q.2.2.1 = i ∧ i < 6) && decide ((ins, len) = (.ldc q.2.1, 2))
  | .getstatic i => hy_GS.any fun q => decide (q.1 = own ∧ q.2.2.1 = i ∧ i < 2) && decide ((ins, len) = (.getstatic q.2.1, 3))
  | .iload i => decide ((ins, len) = (.iload i, 2)) || (List.range 4).any fun j => decide (j = i ∧ (ins, len) = (.iload_n (Fin.ofNat 4 j), 1))
  | .lload i => decide ((ins, len) = (.lload i, 2)) || (List.range 4).any fun j => decide (j = i ∧ (ins, len) = (.lload_n (Fin.ofNat 4 j), 1))
  | .aload i => decide ((ins, len) = (.aload i, 2)) || (List.range 4).any fun j => decide (j = i ∧ (ins, len) = (.aload_n (Fin.ofNat 4 j), 1))
  | .istore i => decide ((ins, len) = (.istore i, 2)) || (List.range 4).any fun j => decide (j = i ∧ (ins, len) = (.istore_n (Fin.ofNat 4 j), 1))
  | .lstore i => decide ((ins, len) = (.lstore i, 2)) || (List.range 4).any fun j => decide (j = i ∧ (ins, len) = (.lstore_n (Fin.ofNat 4 j), 1))
  | .astore i => decide ((ins, len) = (.astore i, 2)) || (List.range 4).any fun j => decide (j = i ∧ (ins, len) = (.astore_n (Fin.ofNat 4 j), 1))
  | .iinc i n => decide ((ins, len) = (.iinc i n, 3))
  | .getfield p => (hy_FL.any fun q => decide (q.1 = own ∧ q.2.2.1 = p) && decide ((ins, len) = (.getfield q.2.1, 3))) || (hy_SL.any fun q => decide (q.1 = own ∧ q.2.2.1 = p) && decide ((ins, len) = (.getfield q.2.1, 3)))
  | .putfield p => hy_FL.any fun q => decide (q.1 = own ∧ q.2.2.1 = p) && decide ((ins, len) = (.putfield q.2.1, 3))
  | .ifCond c b => decide (len = 3) && match ins with
    | .ifCond c' off => decide (c = c' ∧ 0 ≤ b ∧ (pc : Int) + off = ((hy_blk y b.toNat).1 : Nat))
    | _ => false
  | .if_icmp c b => decide (len = 3) && match ins with
    | .if_icmp c' off => decide (c = c' ∧ 0 ≤ b ∧ (pc : Int) + off = ((hy_blk y b.toNat).1 : Nat))
    | _ => false
  | .goto b => decide (len = 3) && match ins with
    | .goto off => decide (0 ≤ b ∧ (pc : Int) + off = ((hy_blk y b.toNat).1 : Nat))
    | _ => false
  | .tableswitch dflt lo hi offs => match ins with
    | .tableswitch dflt' lo' hi' offs' => decide (lo' = lo ∧ hi' = hi ∧ 0 ≤ dflt ∧ (pc : Int) + dflt' = ((hy_blk y dflt.toNat).1 : Nat) ∧ offs'.toList.length = offs.toList.length ∧ (offs.toList.length : Int) = hi + 1 - lo) && (List.range offs.toList.length).all fun j => decide (0 ≤ offs.toList.getD j 0 ∧ (pc : Int) + offs'.toList.getD j 0 = ((hy_blk y (offs.toList.getD j 0).toNat).1 : Nat))
    | _ => false
  | .lookupswitch dflt ps => match ins with
    | .lookupswitch dflt' ps' => decide ((pc : Int) + dflt' = ((hy_blk y dflt.toNat).1 : Nat)) && (ps'.toList.zip (ps'.toList.drop 1)).all (fun (a, next) => decide (a.1 < next.1)) && decide (ps'.toList.length = ps.toList.length) && (ps.toList.zip ps'.toList).all fun q => decide (q.1.1 = q.2.1 ∧ -2147483648 ≤ q.1.1 ∧ q.1.1 < 2147483648 ∧ (pc : Int) + q.2.2 = ((hy_blk y q.1.2.toNat).1 : Nat))
    | _ => false
  | .invokedynamic j => hy_SP.any fun q => decide (q.1 = own ∧ q.2.2.1 = j) && decide ((ins, len) = (.invokestatic q.2.1, 3))
  | .invokestatic z => decide (0 < z ∧ z < 230) && (hy_isSt.getD z false) && hy_ML.any fun q => decide (q.1 = own ∧ q.2.2.1 / 2 = z) && decide ((ins, len) = (.invokestatic q.2.1, 3))
  | .invokevirtual z => decide (0 < z ∧ z < 230) && !(hy_isSt.getD z false) && hy_ML.any fun q => decide (q.1 = own ∧ q.2.2.1 = 2 * z) && decide ((ins, len) = (.invokevirtual q.2.1, 3))
  | .ireturn => decide ((ins, len) = (.ireturn, 1)) && decide ((hy_m y).2.2.1 = some .int ∨ (hy_m y).2.2.1 = some .boolean ∨ (hy_m y).2.2.1 = some .byte ∨ (hy_m y).2.2.1 = some .char)
  | .lreturn => decide ((ins, len) = (.lreturn, 1)) && decide ((hy_m y).2.2.1 = some .long)
  | .return_ => decide ((ins, len) = (.return_, 1)) && decide ((hy_m y).2.2.1 = none)
  | op => decide ((ins, len) = (op, 1))
/-- the place behind an instruction, if it is that at this place -/
def hy_at (y pc : Nat) (op : Instr) : Option Nat := match op with
  | .goto_w b => if 0 ≤ b ∧ (hy_blk y b.toNat).1 = pc then some pc else none
  | op => match decode (hy_b y) pc with
    | .ok (ins, len) => bif hy_ok y pc op ins len then some (pc + len) else none
    | .error _ => none
def hy_chk (y : Nat) : Nat → List Instr → Bool
  | _, [] => true
  | pc, op :: ops => match hy_at y pc op with
    | some pc' => hy_chk y pc' ops
    | none => false
def hy_chkM (y : Nat) : Bool := (hy_K.getD y []).all fun q => hy_chk y q.1 q.2
