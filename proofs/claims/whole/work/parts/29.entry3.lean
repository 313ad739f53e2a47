/-! THE LAW'S ENTRY: the heap behind both constructors is the machine's store -/
theorem hw_runs2 : (hz_run 200 9 9 0 [.ref 138] [] (hz_h1 ++ [(9, hz_def 9)])).isSome = true := by decide +kernel
def hw_ok (a : Nat) (c : Ce) : Bool :=
  let kd := hy_ka a
  bif Nat.ble 1 kd && Nat.ble kd 9 then Nat.beq c.1 kd && Nat.beq c.2.length (hy_N kd) && (List.range (hy_N kd)).all fun k => (match hy_fr (kd * 64 + k) with
    | some (_, off) => Nat.blt (hy_ad off a) 162 && decide (c.2[k]? = some (.ref (hy_ad off a)))
    | none => decide (c.2[k]? = some (.int (hz_io (c.2.getD k (.int 0))))))
  else match hy_ra kd with
    | some (n, _, off, sd) => Nat.beq c.1 kd && (Nat.ble 10 kd && Nat.ble kd 13) && Nat.beq c.2.length n.toNat && (List.range n.toNat).all fun i => Nat.blt (a + off + sd * i) 162 && decide (c.2[i]? = some (.ref (a + off + sd * i)))
    | none => match hy_al kd with
      | some (so, n) => Nat.beq c.1 (14 + so) && Nat.beq c.2.length n.toNat
      | none => false
def hw_oks (a : Nat) : List Ce → Bool
  | [] => Nat.beq a 162
  | c :: cs => hw_ok a c && hw_oks (a + 1) cs
theorem hw_lay : hw_oks 0 hz_h2 = true := by decide +kernel
