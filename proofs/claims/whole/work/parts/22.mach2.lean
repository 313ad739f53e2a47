/-! MACHINE 2: constructors over a growing row of cells -/
abbrev Ce := Nat × List Value
abbrev Hp := List Ce
def hz_cv (G : hy_G) (v : Value) : Value := match v with
  | .ref a => .ref (hy_base G + a)
  | w => w
def hz_io (v : Value) : Int32 := match v with
  | .int x => x
  | _ => 0
def hz_ro (G : hy_G) (v : Value) : Option Nat := match v with
  | .ref a => some (hy_base G + a)
  | _ => none
def hz_cell (G : hy_G) (c : Ce) : va_E := if c.1 ≤ 9 then .inr (c.1 - 1, c.2.map (hz_cv G)) else if c.1 ≤ 13 then .inl (hy_cy G c.1, c.2.length, .inr (.inr (.inr (.inr fun j => hz_ro G (c.2.getD j .null))))) else .inl (hy_cy G (c.1 - 14), c.2.length, .inl fun j => hz_io (c.2.getD j (.int 0)))
def hz_wl (G : hy_G) (h : Hp) : va_W := (List.range h.length).map fun a => (hy_base G + a, hz_cell G (h.getD a (0, [])))
def hz_HR (G : hy_G) (h : Hp) (H : Heap) : Prop := va_P (hy_D G) hy_cl (hz_wl G h) H ∧ va_D (hy_A G) (hz_wl G h) ∧ H.size = hy_base G + h.length
def hz_sz (h : Hp) : Nat := (h.map fun c => c.2.length).sum
def hz_mx (y : Nat) : Nat := (hz_m y).2.1
def hz_own (y : Nat) : Nat := (hz_m y).2.2.2
def hz_na (y : Nat) : Nat := (hz_m y).2.2.1
def hz_def (t : Nat) : List Value := (List.range (hy_N t)).map fun k => match hy_fr (t * 64 + k) with
  | some _ => .null
  | none => .int 0
def hz_so (at_ : ArrayType) : Nat := match at_ with
  | .int => 0
  | .char => 1
  | .boolean => 2
  | _ => 9
def hz_fit (p : Nat) (v : Value) : Bool := match v, hy_fr p with
  | .int _, none => !(Nat.beq p 69 || Nat.beq p 579)
  | .ref _, some _ => true
  | _, _ => false
abbrev Rz := Option Hp
def hz_sem (dz : Bool) (rc : Nat → List Value → List Value → Hp → Rz) (cl : Nat → List Value → Hp → Rz) (op : Instr) (k : List Value → List Value → Hp → Rz) (lv st : List Value) (h : Hp) : Rz :=
  match op with
  | .bipush n => k lv (.int (Int32.ofInt n) :: st) h
  | .iload i => match lv[i]? with
    | some (.int x) => k lv (.int x :: st) h
    | _ => none
  | .aload i => match lv[i]? with
    | some (.ref x) => k lv (.ref x :: st) h
    | _ => none
  | .istore i => match st with
    | .int x :: st => bif Nat.blt i lv.length && lv.all (fun v => Nat.beq v.category 1) then k (lv.set i (.int x)) st h else none
    | _ => none
  | .iinc i n => match lv[i]? with
    | some (.int x) => bif lv.all (fun v => Nat.beq v.category 1) then k (lv.set i (.int (x + Int32.ofInt n))) st h else none
    | _ => none
  | .dup => match st with
    | .ref x :: st => k lv (.ref x :: .ref x :: st) h
    | _ => none
  | .getfield p => match st with
    | .ref a :: st => match h[a]? with
      | some (t, fs) => bif Nat.beq t (p / 64) then (match fs[p % 64]? with
        | some v => k lv (v :: st) h
        | none => none) else none
      | none => none
    | _ => none
  | .putfield p => match st with
    | v :: .ref a :: st => match h[a]? with
      | some (t, fs) => bif Nat.beq t (p / 64) && (hz_fit p v && Nat.blt (p % 64) fs.length) then k lv st (h.set a (t, fs.set (p % 64) v)) else none
      | none => none
    | _ => none
  | .new t => bif Nat.ble 1 t && Nat.ble t 9 then k lv (.ref h.length :: st) (h ++ [(t, hz_def t)]) else none
  | .newarray at_ => match st with
    | .int n :: st => bif Nat.ble (hz_so at_) 2 && (Nat.ble (hy_ix n) 5000) then (if 0 ≤ n.toInt then k lv (.ref h.length :: st) (h ++ [(14 + hz_so at_, List.replicate (hy_ix n) (.int 0))]) else none) else none
    | _ => none
  | .anewarray t => match st with
    | .int n :: st => bif Nat.ble 10 t && (Nat.ble t 13 && Nat.ble (hy_ix n) 5000) then (if 0 ≤ n.toInt then k lv (.ref h.length :: st) (h ++ [(t, List.replicate (hy_ix n) .null)]) else none) else none
    | _ => none
  | .iastore => match st with
    | .int x :: .int i :: .ref a :: st => match h[a]? with
      | some (t, es) => bif Nat.beq t 14 then (if hy_ib i es.length then k lv st (h.set a (t, es.set (hy_ix i) (.int x))) else none) else none
      | none => none
    | _ => none
  | .castore => match st with
    | .int x :: .int i :: .ref a :: st => match h[a]? with
      | some (t, es) => bif Nat.beq t 15 then (if hy_ib i es.length ∧ vp_nar .char x = x then k lv st (h.set a (t, es.set (hy_ix i) (.int x))) else none) else none
      | none => none
    | _ => none
  | .aastore => match st with
    | .ref v :: .int i :: .ref a :: st => match h[a]?, h[v]? with
      | some (t, es), some (t', _) => match hy_ra t with
        | some (_, kd, _, _) => bif Nat.beq t' kd && (Nat.ble 10 t && Nat.ble t 13) then (if hy_ib i es.length then k lv st (h.set a (t, es.set (hy_ix i) (.ref v))) else none) else none
        | none => none
      | _, _ => none
    | _ => none
  | .if_icmp c b => match st with
    | .int y :: .int x :: st => match c with
      | .ge => if y ≤ x then rc b.toNat lv st h else k lv st h
      | _ => none
    | _ => none
  | .goto b => rc b.toNat lv st h
  | .goto_w b => rc b.toNat lv st h
  | .invokespecial q => bif dz then (match q with
    | 0 => match st with
      | .ref _ :: st => bif Nat.ble st.length 4 then k lv st h else none
      | _ => none
    | q + 1 => bif Nat.ble (hz_na (q + 1)) st.length && Nat.ble (st.length - hz_na (q + 1)) 4 then (match (st.take (hz_na (q + 1))).reverse with
      | .ref a :: as => (cl (q + 1) (.ref a :: as) h).bind fun h' => k lv (st.drop (hz_na (q + 1))) h'
      | _ => none) else none) else none
  | .return_ => match st with
    | [] => some h
    | _ => none
  | _ => none
def hz_blk (y b : Nat) : Nat × List Instr := (hz_K.getD y []).getD b (0, [])
def hz_ex (dz : Bool) (rc : Nat → List Value → List Value → Hp → Rz) (cl : Nat → List Value → Hp → Rz) : List Instr → List Value → List Value → Hp → Rz
  | [] => fun _ _ _ => none
  | op :: ops => hz_sem dz rc cl op (hz_ex dz rc cl ops)
def hz_run : Nat → Nat → Nat → Nat → List Value → List Value → Hp → Rz
  | 0, _, _, _ => fun _ _ _ => none
  | n + 1, d, y, b => hz_ex (Nat.blt 0 d) (hz_run n d y) (fun q as h => match d with
    | 0 => none
    | d' + 1 => bif Nat.ble as.length (hz_mx q) && as.all (fun v => Nat.beq v.category 1) then hz_run n d' q 0 (as ++ List.replicate (hz_mx q - as.length) .null) [] h else none) (hz_blk y b).2
def hz_ok (y pc : Nat) (op ins : Instr) (len : Nat) : Bool :=
  let own := hz_own y
  match op with
  | .bipush n => decide ((ins, len) = (.iconst n, 1)) || decide ((ins, len) = (.bipush n, 2) ∧ (Int8.ofInt n).toInt32 = Int32.ofInt n) || decide ((ins, len) = (.sipush n, 3) ∧ (Int16.ofInt n).toInt32 = Int32.ofInt n) ||
      hy_CT.any fun q => decide (q.1 = own ∧ q.2.2.1 = n) && (decide ((ins, len) = (.ldc q.2.1, 2)) || decide ((ins, len) = (.ldc_w q.2.1, 3)))
  | .iload i => decide ((ins, len) = (.iload i, 2)) || (List.range 4).any fun j => decide (j = i ∧ (ins, len) = (.iload_n (Fin.ofNat 4 j), 1))
  | .aload i => decide ((ins, len) = (.aload i, 2)) || (List.range 4).any fun j => decide (j = i ∧ (ins, len) = (.aload_n (Fin.ofNat 4 j), 1))
  | .istore i => decide ((ins, len) = (.istore i, 2)) || (List.range 4).any fun j => decide (j = i ∧ (ins, len) = (.istore_n (Fin.ofNat 4 j), 1))
  | .iinc i n => decide ((ins, len) = (.iinc i n, 3))
  | .getfield p => hy_FL.any fun q => decide (q.1 = own ∧ q.2.2.1 = p) && decide ((ins, len) = (.getfield q.2.1, 3))
  | .putfield p => decide (p / 64 = own) && hy_FL.any fun q => decide (q.1 = own ∧ q.2.2.1 = p) && decide ((ins, len) = (.putfield q.2.1, 3))
  | .new t => hz_CL.any fun q => decide (q.1 = own ∧ q.2.2.1 = t) && decide ((ins, len) = (.new q.2.1, 3))
  | .newarray a => decide ((ins, len) = (.newarray a, 2))
  | .anewarray t => hz_CL.any fun q => decide (q.1 = own ∧ hy_cn q.2.2.1 = hz_RC.getD (t - 10) "") && decide ((ins, len) = (.anewarray q.2.1, 3))
  | .if_icmp c b => decide (len = 3) && match ins with
    | .if_icmp c' off => decide (c = c' ∧ (pc : Int) + off = ((hz_blk y b.toNat).1 : Nat))
    | _ => false
  | .goto b => decide (len = 3) && match ins with
    | .goto off => decide ((pc : Int) + off = ((hz_blk y b.toNat).1 : Nat))
    | _ => false
  | .invokespecial z => match z with
    | 0 => hz_OL.any fun q => decide (q.1 = own) && decide ((ins, len) = (.invokespecial q.2.1, 3))
    | z + 1 => decide (z + 1 < 10) && hz_ML.any fun q => decide (q.1 = own ∧ q.2.2.1 / 2 = z + 1) && decide ((ins, len) = (.invokespecial q.2.1, 3))
  | op => decide ((ins, len) = (op, 1))
def hz_at (y pc : Nat) (op : Instr) : Option Nat := match op with
  | .goto_w b => if (hz_blk y b.toNat).1 = pc then some pc else none
  | op => match decode (hz_b y) pc with
    | .ok (ins, len) => bif hz_ok y pc op ins len then some (pc + len) else none
    | .error _ => none
def hz_chk (y : Nat) : Nat → List Instr → Bool
  | _, [] => true
  | pc, op :: ops => match hz_at y pc op with
    | some pc' => hz_chk y pc' ops
    | none => false
def hz_chkM (y : Nat) : Bool := (hz_K.getD y []).all fun q => hz_chk y q.1 q.2
theorem hz_chk_all : ∀ y, y < 10 → hz_chkM y = true := by decide +kernel
/-- the heap behind both constructors -/
def hz_h1 : Hp := ((hz_run 200 9 8 0 [.ref 0, .null] [] [(1, hz_def 1)]).getD [])
def hz_h2 : Hp := ((hz_run 200 9 9 0 [.ref 138] [] (hz_h1 ++ [(9, hz_def 9)])).getD [])
theorem hz_runs1 : (hz_run 200 9 8 0 [.ref 0, .null] [] [(1, hz_def 1)]).isSome = true := by decide +kernel
theorem hz_len1 : hz_h1.length = 138 := by decide +kernel
