/-! THE LAW: what is left is pure: its picture answers 1 -/
theorem hw_law {p : Program} {e : Env} {s : State} {m : MethodId} {below : List Frame} {meth : Method} {c : Code} (l : Launch) {b L : Nat} {xs : Nat → Int32} {Q : State → Prop} (hL : L ≤ 3072) (hx : p.tables.exec = Jvm.exec) (hb : c.code = code) (hml : c.maxLocals = 4) (hown : s.vm.findClass "HayBoardLaw" = some m.cls) (hts : ∀ w ∈ lw_tbl, w.before #[Value.ref b] s = true) (hX : va_X b L xs s s.heap) (hbl : b < s.heap.size)
    (hgv : (Jvm.Cond.and given_1 narrow_1).before #[Value.ref b] s = true) (hsnd : ∀ (G : hy_G) (n : Nat), hy_Snd l G n) {σ' : Sg} (hpure : J0_1 hy_fu 0 (hw_σ L xs) = some (1, σ'))
    (hend : ∀ (pc : Nat) (H : Heap) (ls : Array Slot), decode code pc = .ok (.ireturn, 1) → W p l e room_1 s m #[Value.ref b] below meth c H [] 600000 7302250 Q (F0 m pc ls [.int 1])) : W p l e room_1 s m #[Value.ref b] below meth c s.heap [] 0 0 Q (entryFrame m ([Value.ref b] : List Value).toArray 4) := by
  obtain ⟨N, hN⟩ := T0_1 0 hy_fu 0 (hw_σ L xs) _ hpure
  exact hw_enter l hL hx hb hml hown hts hX hbl hgv hsnd (n := N) (d := 0 + 207) (by omega) (hN N (Nat.le_refl N)) hend
