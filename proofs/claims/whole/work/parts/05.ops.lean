/-! THE SMALL MACHINE AGAINST THE JVM: one instruction each; written by wip/gen/gen5.py -/
def hy_Kt (p : Program) (l : Launch) (e : Env) (R : Room) (s : State) (m : MethodId) (args : Array Value) (below : List Frame) (meth : Method) (c : Code) (cells slots : Nat) (Q : State → Prop) (y : Nat) (G : hy_G) (r : Vl) (σr : Sg) (k : List Vl → List Vl → Sg → Rs) (pc : Nat) : Prop :=
  ∀ (lv st : List Vl) (σ : Sg) (H : Heap) (locs : List Loc) (ls : Array Slot), k lv st σ = some (r, σr) → (∀ v ∈ lv, hy_VT v) → (∀ v ∈ st, hy_VT v) → hy_HR G σ H → va_S (hy_A G) s.heap H locs → hy_LV G ls (hy_mx y) lv →
    W p l e R s m args below meth c H locs cells slots Q (F0 m pc ls (st.map (hy_cv G)))
theorem hy_VTi (x : Int32) (q : Nat) : hy_VT (.int x, q) := ⟨fun a h => (by cases h), fun a h => (by cases h)⟩
theorem hy_VTl (x : Int64) (q : Nat) : hy_VT (.long x, q) := ⟨fun a h => (by cases h), fun a h => (by cases h)⟩
theorem hy_VTn (q : Nat) : hy_VT (.null, q) := ⟨fun a h => (by cases h), fun a h => (by cases h)⟩
theorem hy_VTr {a q : Nat} (h : hy_ka a = q) : hy_VT (.ref a, q) := ⟨fun b e => (by cases e; exact h), fun a h => (by cases h)⟩
theorem hy_vc {v : Vl} {st : List Vl} (hv : hy_VT v) (h : ∀ w ∈ st, hy_VT w) : ∀ w ∈ v :: st, hy_VT w := fun w hw => (List.mem_cons.mp hw).elim (fun e => e ▸ hv) (h w)
theorem hy_vt {v : Vl} {st : List Vl} (h : ∀ w ∈ v :: st, hy_VT w) : ∀ w ∈ st, hy_VT w := fun w hw => h w (List.mem_cons_of_mem _ hw)
theorem hy_v0 {v : Vl} {st : List Vl} (h : ∀ w ∈ v :: st, hy_VT w) : hy_VT v := h v List.mem_cons_self
theorem hy_vs {v : Vl} {lv : List Vl} {i : Nat} (hv : hy_VT v) (h : ∀ w ∈ lv, hy_VT w) : ∀ w ∈ lv.set i v, hy_VT w := fun w hw => (List.mem_or_eq_of_mem_set hw).elim (h w) (fun e => e ▸ hv)
section HYS
variable {p : Program} {l : Launch} {e : Env} {R : Room} {s : State} {m : MethodId} {args : Array Value} {below : List Frame} {meth : Method} {c : Code} {cells slots : Nat} {Q : State → Prop} {y : Nat} {G : hy_G} {r : Vl} {σr : Sg} {k : List Vl → List Vl → Sg → Rs} {pc : Nat}
variable {rt : Nat} {dz : Bool} {rc : Nat → List Vl → List Vl → Sg → Rs} {cl : Nat → List Vl → Sg → Rs}
theorem hy_s_iadd (hx : p.tables.exec = Jvm.exec) (hb : c.code = hy_b y) (hd : decode (hy_b y) pc = .ok (.iadd, 1)) (K : hy_Kt p l e R s m args below meth c cells slots Q y G r σr k (pc + 1)) : hy_Kt p l e R s m args below meth c cells slots Q y G r σr (hy_sem rt dz rc cl (.iadd) k) pc := by
  intro lv st σ H locs ls h v1 v2 hH hS hl
  dsimp only [hy_sem] at h
  split at h
  · exact lv_iadd hx hb hd (K _ _ _ _ _ _ h v1 (hy_vc (hy_VTi _ _) (hy_vt (hy_vt v2))) hH hS hl)
  · cases h
theorem hy_s_isub (hx : p.tables.exec = Jvm.exec) (hb : c.code = hy_b y) (hd : decode (hy_b y) pc = .ok (.isub, 1)) (K : hy_Kt p l e R s m args below meth c cells slots Q y G r σr k (pc + 1)) : hy_Kt p l e R s m args below meth c cells slots Q y G r σr (hy_sem rt dz rc cl (.isub) k) pc := by
  intro lv st σ H locs ls h v1 v2 hH hS hl
  dsimp only [hy_sem] at h
  split at h
  · exact lv_isub hx hb hd (K _ _ _ _ _ _ h v1 (hy_vc (hy_VTi _ _) (hy_vt (hy_vt v2))) hH hS hl)
  · cases h
theorem hy_s_imul (hx : p.tables.exec = Jvm.exec) (hb : c.code = hy_b y) (hd : decode (hy_b y) pc = .ok (.imul, 1)) (K : hy_Kt p l e R s m args below meth c cells slots Q y G r σr k (pc + 1)) : hy_Kt p l e R s m args below meth c cells slots Q y G r σr (hy_sem rt dz rc cl (.imul) k) pc := by
  intro lv st σ H locs ls h v1 v2 hH hS hl
  dsimp only [hy_sem] at h
  split at h
  · exact lv_imul hx hb hd (K _ _ _ _ _ _ h v1 (hy_vc (hy_VTi _ _) (hy_vt (hy_vt v2))) hH hS hl)
  · cases h
theorem hy_s_iand (hx : p.tables.exec = Jvm.exec) (hb : c.code = hy_b y) (hd : decode (hy_b y) pc = .ok (.iand, 1)) (K : hy_Kt p l e R s m args below meth c cells slots Q y G r σr k (pc + 1)) : hy_Kt p l e R s m args below meth c cells slots Q y G r σr (hy_sem rt dz rc cl (.iand) k) pc := by
  intro lv st σ H locs ls h v1 v2 hH hS hl
  dsimp only [hy_sem] at h
  split at h
  · exact lv_iand hx hb hd (K _ _ _ _ _ _ h v1 (hy_vc (hy_VTi _ _) (hy_vt (hy_vt v2))) hH hS hl)
  · cases h
theorem hy_s_ior (hx : p.tables.exec = Jvm.exec) (hb : c.code = hy_b y) (hd : decode (hy_b y) pc = .ok (.ior, 1)) (K : hy_Kt p l e R s m args below meth c cells slots Q y G r σr k (pc + 1)) : hy_Kt p l e R s m args below meth c cells slots Q y G r σr (hy_sem rt dz rc cl (.ior) k) pc := by
  intro lv st σ H locs ls h v1 v2 hH hS hl
  dsimp only [hy_sem] at h
  split at h
  · exact lv_ior hx hb hd (K _ _ _ _ _ _ h v1 (hy_vc (hy_VTi _ _) (hy_vt (hy_vt v2))) hH hS hl)
  · cases h
theorem hy_s_ishl (hx : p.tables.exec = Jvm.exec) (hb : c.code = hy_b y) (hd : decode (hy_b y) pc = .ok (.ishl, 1)) (K : hy_Kt p l e R s m args below meth c cells slots Q y G r σr k (pc + 1)) : hy_Kt p l e R s m args below meth c cells slots Q y G r σr (hy_sem rt dz rc cl (.ishl) k) pc := by
  intro lv st σ H locs ls h v1 v2 hH hS hl
  dsimp only [hy_sem] at h
  split at h
  · exact lv_ishl hx hb hd (K _ _ _ _ _ _ h v1 (hy_vc (hy_VTi _ _) (hy_vt (hy_vt v2))) hH hS hl)
  · cases h
theorem hy_s_ishr (hx : p.tables.exec = Jvm.exec) (hb : c.code = hy_b y) (hd : decode (hy_b y) pc = .ok (.ishr, 1)) (K : hy_Kt p l e R s m args below meth c cells slots Q y G r σr k (pc + 1)) : hy_Kt p l e R s m args below meth c cells slots Q y G r σr (hy_sem rt dz rc cl (.ishr) k) pc := by
  intro lv st σ H locs ls h v1 v2 hH hS hl
  dsimp only [hy_sem] at h
  split at h
  · exact lv_ishr hx hb hd (K _ _ _ _ _ _ h v1 (hy_vc (hy_VTi _ _) (hy_vt (hy_vt v2))) hH hS hl)
  · cases h
theorem hy_s_idiv (hx : p.tables.exec = Jvm.exec) (hb : c.code = hy_b y) (hd : decode (hy_b y) pc = .ok (.idiv, 1)) (K : hy_Kt p l e R s m args below meth c cells slots Q y G r σr k (pc + 1)) : hy_Kt p l e R s m args below meth c cells slots Q y G r σr (hy_sem rt dz rc cl (.idiv) k) pc := by
  intro lv st σ H locs ls h v1 v2 hH hS hl
  dsimp only [hy_sem] at h
  split at h
  · split at h
    · cases h
    · rename_i hne
      exact lv_idiv hx hb hd hne (K _ _ _ _ _ _ h v1 (hy_vc (hy_VTi _ _) (hy_vt (hy_vt v2))) hH hS hl)
  · cases h
theorem hy_s_irem (hx : p.tables.exec = Jvm.exec) (hb : c.code = hy_b y) (hd : decode (hy_b y) pc = .ok (.irem, 1)) (K : hy_Kt p l e R s m args below meth c cells slots Q y G r σr k (pc + 1)) : hy_Kt p l e R s m args below meth c cells slots Q y G r σr (hy_sem rt dz rc cl (.irem) k) pc := by
  intro lv st σ H locs ls h v1 v2 hH hS hl
  dsimp only [hy_sem] at h
  split at h
  · split at h
    · cases h
    · rename_i hne
      exact lv_irem hx hb hd hne (K _ _ _ _ _ _ h v1 (hy_vc (hy_VTi _ _) (hy_vt (hy_vt v2))) hH hS hl)
  · cases h
theorem hy_s_iushr (hx : p.tables.exec = Jvm.exec) (hb : c.code = hy_b y) (hd : decode (hy_b y) pc = .ok (.iushr, 1)) (K : hy_Kt p l e R s m args below meth c cells slots Q y G r σr k (pc + 1)) : hy_Kt p l e R s m args below meth c cells slots Q y G r σr (hy_sem rt dz rc cl (.iushr) k) pc := by
  intro lv st σ H locs ls h v1 v2 hH hS hl
  dsimp only [hy_sem] at h
  split at h
  · exact lv_iushr hx hb hd rfl (K _ _ _ _ _ _ h v1 (hy_vc (hy_VTi _ _) (hy_vt (hy_vt v2))) hH hS hl)
  · cases h
theorem hy_s_ladd (hx : p.tables.exec = Jvm.exec) (hb : c.code = hy_b y) (hd : decode (hy_b y) pc = .ok (.ladd, 1)) (K : hy_Kt p l e R s m args below meth c cells slots Q y G r σr k (pc + 1)) : hy_Kt p l e R s m args below meth c cells slots Q y G r σr (hy_sem rt dz rc cl (.ladd) k) pc := by
  intro lv st σ H locs ls h v1 v2 hH hS hl
  dsimp only [hy_sem] at h
  split at h
  · exact lv_ladd hx hb hd (K _ _ _ _ _ _ h v1 (hy_vc (hy_VTl _ _) (hy_vt (hy_vt v2))) hH hS hl)
  · cases h
theorem hy_s_lsub (hx : p.tables.exec = Jvm.exec) (hb : c.code = hy_b y) (hd : decode (hy_b y) pc = .ok (.lsub, 1)) (K : hy_Kt p l e R s m args below meth c cells slots Q y G r σr k (pc + 1)) : hy_Kt p l e R s m args below meth c cells slots Q y G r σr (hy_sem rt dz rc cl (.lsub) k) pc := by
  intro lv st σ H locs ls h v1 v2 hH hS hl
  dsimp only [hy_sem] at h
  split at h
  · exact lv_lsub hx hb hd (K _ _ _ _ _ _ h v1 (hy_vc (hy_VTl _ _) (hy_vt (hy_vt v2))) hH hS hl)
  · cases h
theorem hy_s_lcmp (hx : p.tables.exec = Jvm.exec) (hb : c.code = hy_b y) (hd : decode (hy_b y) pc = .ok (.lcmp, 1)) (K : hy_Kt p l e R s m args below meth c cells slots Q y G r σr k (pc + 1)) : hy_Kt p l e R s m args below meth c cells slots Q y G r σr (hy_sem rt dz rc cl (.lcmp) k) pc := by
  intro lv st σ H locs ls h v1 v2 hH hS hl
  dsimp only [hy_sem] at h
  split at h
  · exact W.lcmp hx hb hd (K _ _ _ _ _ _ h v1 (hy_vc (hy_VTi _ _) (hy_vt (hy_vt v2))) hH hS hl)
  · cases h
theorem hy_s_ineg (hx : p.tables.exec = Jvm.exec) (hb : c.code = hy_b y) (hd : decode (hy_b y) pc = .ok (.ineg, 1)) (K : hy_Kt p l e R s m args below meth c cells slots Q y G r σr k (pc + 1)) : hy_Kt p l e R s m args below meth c cells slots Q y G r σr (hy_sem rt dz rc cl (.ineg) k) pc := by
  intro lv st σ H locs ls h v1 v2 hH hS hl
  dsimp only [hy_sem] at h
  split at h
  · exact lv_ineg hx hb hd (K _ _ _ _ _ _ h v1 (hy_vc (hy_VTi _ _) (hy_vt v2)) hH hS hl)
  · cases h
theorem hy_s_lneg (hx : p.tables.exec = Jvm.exec) (hb : c.code = hy_b y) (hd : decode (hy_b y) pc = .ok (.lneg, 1)) (K : hy_Kt p l e R s m args below meth c cells slots Q y G r σr k (pc + 1)) : hy_Kt p l e R s m args below meth c cells slots Q y G r σr (hy_sem rt dz rc cl (.lneg) k) pc := by
  intro lv st σ H locs ls h v1 v2 hH hS hl
  dsimp only [hy_sem] at h
  split at h
  · exact lv_lneg hx hb hd (K _ _ _ _ _ _ h v1 (hy_vc (hy_VTl _ _) (hy_vt v2)) hH hS hl)
  · cases h
theorem hy_s_i2s (hx : p.tables.exec = Jvm.exec) (hb : c.code = hy_b y) (hd : decode (hy_b y) pc = .ok (.i2s, 1)) (K : hy_Kt p l e R s m args below meth c cells slots Q y G r σr k (pc + 1)) : hy_Kt p l e R s m args below meth c cells slots Q y G r σr (hy_sem rt dz rc cl (.i2s) k) pc := by
  intro lv st σ H locs ls h v1 v2 hH hS hl
  dsimp only [hy_sem] at h
  split at h
  · exact lv_i2s hx hb hd rfl (K _ _ _ _ _ _ h v1 (hy_vc (hy_VTi _ _) (hy_vt v2)) hH hS hl)
  · cases h
theorem hy_s_i2b (hx : p.tables.exec = Jvm.exec) (hb : c.code = hy_b y) (hd : decode (hy_b y) pc = .ok (.i2b, 1)) (K : hy_Kt p l e R s m args below meth c cells slots Q y G r σr k (pc + 1)) : hy_Kt p l e R s m args below meth c cells slots Q y G r σr (hy_sem rt dz rc cl (.i2b) k) pc := by
  intro lv st σ H locs ls h v1 v2 hH hS hl
  dsimp only [hy_sem] at h
  split at h
  · exact lv_i2b hx hb hd rfl (K _ _ _ _ _ _ h v1 (hy_vc (hy_VTi _ _) (hy_vt v2)) hH hS hl)
  · cases h
theorem hy_s_i2c (hx : p.tables.exec = Jvm.exec) (hb : c.code = hy_b y) (hd : decode (hy_b y) pc = .ok (.i2c, 1)) (K : hy_Kt p l e R s m args below meth c cells slots Q y G r σr k (pc + 1)) : hy_Kt p l e R s m args below meth c cells slots Q y G r σr (hy_sem rt dz rc cl (.i2c) k) pc := by
  intro lv st σ H locs ls h v1 v2 hH hS hl
  dsimp only [hy_sem] at h
  split at h
  · exact lv_i2c hx hb hd rfl (K _ _ _ _ _ _ h v1 (hy_vc (hy_VTi _ _) (hy_vt v2)) hH hS hl)
  · cases h
theorem hy_s_i2l (hx : p.tables.exec = Jvm.exec) (hb : c.code = hy_b y) (hd : decode (hy_b y) pc = .ok (.i2l, 1)) (K : hy_Kt p l e R s m args below meth c cells slots Q y G r σr k (pc + 1)) : hy_Kt p l e R s m args below meth c cells slots Q y G r σr (hy_sem rt dz rc cl (.i2l) k) pc := by
  intro lv st σ H locs ls h v1 v2 hH hS hl
  dsimp only [hy_sem] at h
  split at h
  · exact lv_i2l hx hb hd rfl (K _ _ _ _ _ _ h v1 (hy_vc (hy_VTl _ _) (hy_vt v2)) hH hS hl)
  · cases h
theorem hy_s_l2i (hx : p.tables.exec = Jvm.exec) (hb : c.code = hy_b y) (hd : decode (hy_b y) pc = .ok (.l2i, 1)) (K : hy_Kt p l e R s m args below meth c cells slots Q y G r σr k (pc + 1)) : hy_Kt p l e R s m args below meth c cells slots Q y G r σr (hy_sem rt dz rc cl (.l2i) k) pc := by
  intro lv st σ H locs ls h v1 v2 hH hS hl
  dsimp only [hy_sem] at h
  split at h
  · exact lv_l2i hx hb hd rfl (K _ _ _ _ _ _ h v1 (hy_vc (hy_VTi _ _) (hy_vt v2)) hH hS hl)
  · cases h
theorem hy_s_pop (hx : p.tables.exec = Jvm.exec) (hb : c.code = hy_b y) (hd : decode (hy_b y) pc = .ok (.pop, 1)) (K : hy_Kt p l e R s m args below meth c cells slots Q y G r σr k (pc + 1)) : hy_Kt p l e R s m args below meth c cells slots Q y G r σr (hy_sem rt dz rc cl (.pop) k) pc := by
  intro lv st σ H locs ls h v1 v2 hH hS hl
  dsimp only [hy_sem] at h
  split at h
  · exact lv_pop hx hb hd rfl (K _ _ _ _ _ _ h v1 (hy_vt v2) hH hS hl)
  · cases h
theorem hy_s_dup (hx : p.tables.exec = Jvm.exec) (hb : c.code = hy_b y) (hd : decode (hy_b y) pc = .ok (.dup, 1)) (K : hy_Kt p l e R s m args below meth c cells slots Q y G r σr k (pc + 1)) : hy_Kt p l e R s m args below meth c cells slots Q y G r σr (hy_sem rt dz rc cl (.dup) k) pc := by
  intro lv st σ H locs ls h v1 v2 hH hS hl
  dsimp only [hy_sem] at h
  split at h
  · exact lv_dup hx hb hd rfl (K _ _ _ _ _ _ h v1 (hy_vc (hy_v0 v2) v2) hH hS hl)
  · exact lv_dup hx hb hd rfl (K _ _ _ _ _ _ h v1 (hy_vc (hy_v0 v2) v2) hH hS hl)
  · cases h
theorem hy_s_dup2 (hx : p.tables.exec = Jvm.exec) (hb : c.code = hy_b y) (hd : decode (hy_b y) pc = .ok (.dup2, 1)) (K : hy_Kt p l e R s m args below meth c cells slots Q y G r σr k (pc + 1)) : hy_Kt p l e R s m args below meth c cells slots Q y G r σr (hy_sem rt dz rc cl (.dup2) k) pc := by
  intro lv st σ H locs ls h v1 v2 hH hS hl
  dsimp only [hy_sem] at h
  split at h
  · exact lv_dup2_11 hx hb hd rfl rfl (K _ _ _ _ _ _ h v1 (hy_vc (hy_v0 v2) (hy_vc (hy_v0 (hy_vt v2)) v2)) hH hS hl)
  · cases h
theorem hy_k_push {x : Int32} {n : Nat} (hr : ∀ (H : Heap) (locs : List Loc) (ls : Array Slot) (rest : List Value), W p l e R s m args below meth c H locs cells slots Q (F0 m (pc + n) ls (.int x :: rest)) → W p l e R s m args below meth c H locs cells slots Q (F0 m pc ls rest)) (K : hy_Kt p l e R s m args below meth c cells slots Q y G r σr k (pc + n)) : hy_Kt p l e R s m args below meth c cells slots Q y G r σr (fun lv st σ => k lv ((.int x, 0) :: st) σ) pc := fun lv st σ H locs ls h v1 v2 hH hS hl => hr H locs ls _ (K _ _ _ _ _ _ h v1 (hy_vc (hy_VTi _ _) v2) hH hS hl)
theorem hy_s_lconst {n : Fin 2} (hx : p.tables.exec = Jvm.exec) (hb : c.code = hy_b y) (hd : decode (hy_b y) pc = .ok (.lconst n, 1)) (K : hy_Kt p l e R s m args below meth c cells slots Q y G r σr k (pc + 1)) : hy_Kt p l e R s m args below meth c cells slots Q y G r σr (hy_sem rt dz rc cl (.lconst n) k) pc := by
  intro lv st σ H locs ls h v1 v2 hH hS hl
  dsimp only [hy_sem] at h
  exact lv_lconst hx hb hd rfl (K _ _ _ _ _ _ h v1 (hy_vc (hy_VTl _ _) v2) hH hS hl)
theorem hy_s_iload {i n : Nat} (hx : p.tables.exec = Jvm.exec) (hb : c.code = hy_b y) (hd : decode (hy_b y) pc = .ok (.iload i, 2) ∧ n = 2 ∨ ∃ j : Fin 4, (j : Nat) = i ∧ decode (hy_b y) pc = .ok (.iload_n j, 1) ∧ n = 1) (K : hy_Kt p l e R s m args below meth c cells slots Q y G r σr k (pc + n)) : hy_Kt p l e R s m args below meth c cells slots Q y G r σr (hy_sem rt dz rc cl (.iload i) k) pc := by
  intro lv st σ H locs ls h v1 v2 hH hS hl
  dsimp only [hy_sem] at h
  split at h
  · rename_i x q hi
    have hK := K _ _ _ _ _ _ h v1 (hy_vc (hy_VTi _ _) v2) hH hS hl
    have ha := hy_LV_at hl hi (fun z => by cases z)
    rcases hd with ⟨hd, rfl⟩ | ⟨j, hj, hd, rfl⟩
    · exact lv_iload hx hb hd ha hK
    · exact lv_iload_n hx hb hd hj ha hK
  · cases h
theorem hy_s_lload {i n : Nat} (hx : p.tables.exec = Jvm.exec) (hb : c.code = hy_b y) (hd : decode (hy_b y) pc = .ok (.lload i, 2) ∧ n = 2 ∨ ∃ j : Fin 4, (j : Nat) = i ∧ decode (hy_b y) pc = .ok (.lload_n j, 1) ∧ n = 1) (K : hy_Kt p l e R s m args below meth c cells slots Q y G r σr k (pc + n)) : hy_Kt p l e R s m args below meth c cells slots Q y G r σr (hy_sem rt dz rc cl (.lload i) k) pc := by
  intro lv st σ H locs ls h v1 v2 hH hS hl
  dsimp only [hy_sem] at h
  split at h
  · rename_i x q hi
    have hK := K _ _ _ _ _ _ h v1 (hy_vc (hy_VTl _ _) v2) hH hS hl
    have ha := hy_LV_at hl hi (fun z => by cases z)
    rcases hd with ⟨hd, rfl⟩ | ⟨j, hj, hd, rfl⟩
    · exact lv_lload hx hb hd ha hK
    · exact lv_lload_n hx hb hd hj ha hK
  · cases h
theorem hy_s_aload {i n : Nat} (hx : p.tables.exec = Jvm.exec) (hb : c.code = hy_b y) (hd : decode (hy_b y) pc = .ok (.aload i, 2) ∧ n = 2 ∨ ∃ j : Fin 4, (j : Nat) = i ∧ decode (hy_b y) pc = .ok (.aload_n j, 1) ∧ n = 1) (K : hy_Kt p l e R s m args below meth c cells slots Q y G r σr k (pc + n)) : hy_Kt p l e R s m args below meth c cells slots Q y G r σr (hy_sem rt dz rc cl (.aload i) k) pc := by
  intro lv st σ H locs ls h v1 v2 hH hS hl
  dsimp only [hy_sem] at h
  split at h
  · rename_i x q hi
    have hK := K _ _ _ _ _ _ h v1 (hy_vc (v1 _ (List.mem_of_getElem? hi)) v2) hH hS hl
    have ha := hy_LV_at hl hi (fun z => by cases z)
    rcases hd with ⟨hd, rfl⟩ | ⟨j, hj, hd, rfl⟩
    · exact lv_aload hx hb hd ha hK
    · exact lv_aload_n hx hb hd hj ha hK
  · cases h
theorem hy_noL {lv : List Vl} {i : Nat} (v1 : ∀ v ∈ lv, hy_VT v) (h : ∀ x q, lv[i]? = some (.long x, q) → False) : ∀ w, lv[i]? = some w → w.1.category ≠ 2 := by
  intro w hw hc
  obtain ⟨v, q⟩ := w
  cases v with
  | long x => exact h x q hw
  | double x => exact (v1 _ (List.mem_of_getElem? hw)).2 x rfl
  | _ => cases hc
theorem hy_s_istore {i n : Nat} (hx : p.tables.exec = Jvm.exec) (hb : c.code = hy_b y) (hd : decode (hy_b y) pc = .ok (.istore i, 2) ∧ n = 2 ∨ ∃ j : Fin 4, (j : Nat) = i ∧ decode (hy_b y) pc = .ok (.istore_n j, 1) ∧ n = 1) (K : hy_Kt p l e R s m args below meth c cells slots Q y G r σr k (pc + n)) : hy_Kt p l e R s m args below meth c cells slots Q y G r σr (hy_sem rt dz rc cl (.istore i) k) pc := by
  intro lv st σ H locs ls h v1 v2 hH hS hl
  dsimp only [hy_sem] at h
  split at h
  · split at h
    · cases h
    · rename_i hn
      cases hlt : Nat.blt i lv.length with
      | false => rw [hlt] at h; cases h
      | true =>
        rw [hlt] at h
        have hi : i < hy_mx y := by rw [← hl.1]; exact Nat.le_of_ble_eq_true hlt
        have hp := hy_noL v1 (fun x q z => hn x q z)
        have hK := fun ls' (h' : lv_has ls' (hy_mx y) _) => K _ _ _ _ _ _ h (hy_vs (hy_VTi _ 0) v1) (hy_vt v2) hH hS (hy_LV_set (ls' := ls') hl.1 hp h')
        rcases hd with ⟨hd, rfl⟩ | ⟨j, hj, hd, rfl⟩
        · exact lv_istore hx hb hd (hy_asc_has hl) hi rfl hK
        · exact lv_istore_n hx hb hd hj (hy_asc_has hl) hi rfl hK
  · cases h
theorem hy_s_astore {i n : Nat} (hx : p.tables.exec = Jvm.exec) (hb : c.code = hy_b y) (hd : decode (hy_b y) pc = .ok (.astore i, 2) ∧ n = 2 ∨ ∃ j : Fin 4, (j : Nat) = i ∧ decode (hy_b y) pc = .ok (.astore_n j, 1) ∧ n = 1) (K : hy_Kt p l e R s m args below meth c cells slots Q y G r σr k (pc + n)) : hy_Kt p l e R s m args below meth c cells slots Q y G r σr (hy_sem rt dz rc cl (.astore i) k) pc := by
  intro lv st σ H locs ls h v1 v2 hH hS hl
  dsimp only [hy_sem] at h
  split at h
  · split at h
    · cases h
    · rename_i hn
      cases hlt : Nat.blt i lv.length with
      | false => rw [hlt] at h; cases h
      | true =>
        rw [hlt] at h
        have hi : i < hy_mx y := by rw [← hl.1]; exact Nat.le_of_ble_eq_true hlt
        have hp := hy_noL v1 (fun x q z => hn x q z)
        have hK := fun ls' (h' : lv_has ls' (hy_mx y) _) => K _ _ _ _ _ _ h (hy_vs (hy_v0 v2) v1) (hy_vt v2) hH hS (hy_LV_set (ls' := ls') hl.1 hp h')
        rcases hd with ⟨hd, rfl⟩ | ⟨j, hj, hd, rfl⟩
        · exact lv_astore hx hb hd (hy_asc_has hl) hi rfl hK
        · exact lv_astore_n hx hb hd hj (hy_asc_has hl) hi rfl hK
  · cases h
theorem hy_s_lstore {i n : Nat} (hx : p.tables.exec = Jvm.exec) (hb : c.code = hy_b y) (hd : decode (hy_b y) pc = .ok (.lstore i, 2) ∧ n = 2 ∨ ∃ j : Fin 4, (j : Nat) = i ∧ decode (hy_b y) pc = .ok (.lstore_n j, 1) ∧ n = 1) (K : hy_Kt p l e R s m args below meth c cells slots Q y G r σr k (pc + n)) : hy_Kt p l e R s m args below meth c cells slots Q y G r σr (hy_sem rt dz rc cl (.lstore i) k) pc := by
  intro lv st σ H locs ls h v1 v2 hH hS hl
  dsimp only [hy_sem] at h
  split at h
  · split at h
    · cases h
    · rename_i hn
      cases hlt : Nat.blt (i + 1) lv.length with
      | false => rw [hlt] at h; cases h
      | true =>
        rw [hlt] at h
        have hi : i + 1 < hy_mx y := by rw [← hl.1]; exact Nat.le_of_ble_eq_true hlt
        have hp := hy_noL v1 (fun x q z => hn x q z)
        have hK := fun ls' (h' : lv_has ls' (hy_mx y) _) => K _ _ _ _ _ _ h (hy_vs (hy_VTn 0) (hy_vs (hy_VTl _ 0) v1)) (hy_vt v2) hH hS (hy_LV_set2 (ls' := ls') hl.1 hp h')
        rcases hd with ⟨hd, rfl⟩ | ⟨j, hj, hd, rfl⟩
        · exact lv_lstore hx hb hd (hy_asc_has hl) hi rfl hK
        · exact lv_lstore_n hx hb hd hj (hy_asc_has hl) hi rfl hK
  · cases h
theorem hy_s_iinc {i : Nat} {z : Int} (hx : p.tables.exec = Jvm.exec) (hb : c.code = hy_b y) (hd : decode (hy_b y) pc = .ok (.iinc i z, 3)) (K : hy_Kt p l e R s m args below meth c cells slots Q y G r σr k (pc + 3)) : hy_Kt p l e R s m args below meth c cells slots Q y G r σr (hy_sem rt dz rc cl (.iinc i z) k) pc := by
  intro lv st σ H locs ls h v1 v2 hH hS hl
  dsimp only [hy_sem] at h
  split at h
  · rename_i x q hi
    split at h
    · cases h
    · rename_i hn
      have hp := hy_noL v1 (fun x q z => hn x q z)
      obtain ⟨j, hj⟩ := List.getElem?_of_mem (hy_asc_mem (G := G) hi (fun z => by cases z))
      have hlt : i < hy_mx y := by rw [← hl.1]; exact (List.getElem?_eq_some_iff.mp hi).1
      exact lv_iinc hx hb hd (hy_asc_has hl) hj rfl hlt rfl (fun ls' h' => K _ _ _ _ _ _ h (hy_vs (hy_VTi _ 0) v1) v2 hH hS (hy_LV_set (ls' := ls') hl.1 hp h'))
  · cases h
theorem hy_s_ifCond {cc : Jvm.ClassFile.Cond} {b off : Int} (hx : p.tables.exec = Jvm.exec) (hb : c.code = hy_b y) (hd : decode (hy_b y) pc = .ok (.ifCond cc off, 3)) (ht : (pc : Int) + off = ((hy_blk y b.toNat).1 : Nat)) (Kb : hy_Kt p l e R s m args below meth c cells slots Q y G r σr (rc b.toNat) (hy_blk y b.toNat).1) (K : hy_Kt p l e R s m args below meth c cells slots Q y G r σr k (pc + 3)) : hy_Kt p l e R s m args below meth c cells slots Q y G r σr (hy_sem rt dz rc cl (.ifCond cc b) k) pc := by
  intro lv st σ H locs ls h v1 v2 hH hS hl
  dsimp only [hy_sem] at h
  split at h
  · have v3 := hy_vt v2
    cases cc with
    | eq =>
      dsimp only [hy_ltb] at h
      exact lv_if_eq hx hb hd ht (fun z => Kb _ _ _ _ _ _ (by first | rwa [if_pos z] at h | rwa [if_neg z] at h) v1 v3 hH hS hl) (fun z => K _ _ _ _ _ _ (by first | rwa [if_pos z] at h | rwa [if_neg z] at h) v1 v3 hH hS hl)
    | ne =>
      dsimp only [hy_ltb] at h
      exact lv_if_ne hx hb hd ht (fun z => Kb _ _ _ _ _ _ (by first | rwa [if_pos z] at h | rwa [if_neg z] at h) v1 v3 hH hS hl) (fun z => K _ _ _ _ _ _ (by first | rwa [if_pos z] at h | rwa [if_neg z] at h) v1 v3 hH hS hl)
    | lt =>
      dsimp only [hy_ltb] at h
      exact lv_if_lt hx hb hd ht (fun z => Kb _ _ _ _ _ _ (by first | rwa [if_pos z] at h | rwa [if_neg z] at h) v1 v3 hH hS hl) (fun z => K _ _ _ _ _ _ (by first | rwa [if_pos z] at h | rwa [if_neg z] at h) v1 v3 hH hS hl)
    | ge =>
      dsimp only [hy_ltb] at h
      exact lv_if_ge hx hb hd ht (fun z => Kb _ _ _ _ _ _ (by first | rwa [if_pos z] at h | rwa [if_neg z] at h) v1 v3 hH hS hl) (fun z => K _ _ _ _ _ _ (by first | rwa [if_pos z] at h | rwa [if_neg z] at h) v1 v3 hH hS hl)
    | gt =>
      dsimp only [hy_ltb] at h
      exact lv_if_gt hx hb hd ht (fun z => Kb _ _ _ _ _ _ (by first | rwa [if_pos z] at h | rwa [if_neg z] at h) v1 v3 hH hS hl) (fun z => K _ _ _ _ _ _ (by first | rwa [if_pos z] at h | rwa [if_neg z] at h) v1 v3 hH hS hl)
    | le =>
      dsimp only [hy_ltb] at h
      exact lv_if_le hx hb hd ht (fun z => Kb _ _ _ _ _ _ (by first | rwa [if_pos z] at h | rwa [if_neg z] at h) v1 v3 hH hS hl) (fun z => K _ _ _ _ _ _ (by first | rwa [if_pos z] at h | rwa [if_neg z] at h) v1 v3 hH hS hl)
  · cases h
theorem hy_s_if_icmp {cc : Jvm.ClassFile.Cond} {b off : Int} (hx : p.tables.exec = Jvm.exec) (hb : c.code = hy_b y) (hd : decode (hy_b y) pc = .ok (.if_icmp cc off, 3)) (ht : (pc : Int) + off = ((hy_blk y b.toNat).1 : Nat)) (Kb : hy_Kt p l e R s m args below meth c cells slots Q y G r σr (rc b.toNat) (hy_blk y b.toNat).1) (K : hy_Kt p l e R s m args below meth c cells slots Q y G r σr k (pc + 3)) : hy_Kt p l e R s m args below meth c cells slots Q y G r σr (hy_sem rt dz rc cl (.if_icmp cc b) k) pc := by
  intro lv st σ H locs ls h v1 v2 hH hS hl
  dsimp only [hy_sem] at h
  split at h
  · have v3 := hy_vt (hy_vt v2)
    cases cc with
    | eq =>
      dsimp only [hy_ltb] at h
      exact lv_icmp_eq hx hb hd ht (fun z => Kb _ _ _ _ _ _ (by first | rwa [if_pos z] at h | rwa [if_neg z] at h) v1 v3 hH hS hl) (fun z => K _ _ _ _ _ _ (by first | rwa [if_pos z] at h | rwa [if_neg z] at h) v1 v3 hH hS hl)
    | ne =>
      dsimp only [hy_ltb] at h
      exact lv_icmp_ne hx hb hd ht (fun z => Kb _ _ _ _ _ _ (by first | rwa [if_pos z] at h | rwa [if_neg z] at h) v1 v3 hH hS hl) (fun z => K _ _ _ _ _ _ (by first | rwa [if_pos z] at h | rwa [if_neg z] at h) v1 v3 hH hS hl)
    | lt =>
      dsimp only [hy_ltb] at h
      exact lv_icmp_lt hx hb hd ht (fun z => Kb _ _ _ _ _ _ (by first | rwa [if_pos z] at h | rwa [if_neg z] at h) v1 v3 hH hS hl) (fun z => K _ _ _ _ _ _ (by first | rwa [if_pos z] at h | rwa [if_neg z] at h) v1 v3 hH hS hl)
    | ge =>
      dsimp only [hy_ltb] at h
      exact lv_icmp_ge hx hb hd ht (fun z => Kb _ _ _ _ _ _ (by first | rwa [if_pos z] at h | rwa [if_neg z] at h) v1 v3 hH hS hl) (fun z => K _ _ _ _ _ _ (by first | rwa [if_pos z] at h | rwa [if_neg z] at h) v1 v3 hH hS hl)
    | gt =>
      dsimp only [hy_ltb] at h
      exact lv_icmp_gt hx hb hd ht (fun z => Kb _ _ _ _ _ _ (by first | rwa [if_pos z] at h | rwa [if_neg z] at h) v1 v3 hH hS hl) (fun z => K _ _ _ _ _ _ (by first | rwa [if_pos z] at h | rwa [if_neg z] at h) v1 v3 hH hS hl)
    | le =>
      dsimp only [hy_ltb] at h
      exact lv_icmp_le hx hb hd ht (fun z => Kb _ _ _ _ _ _ (by first | rwa [if_pos z] at h | rwa [if_neg z] at h) v1 v3 hH hS hl) (fun z => K _ _ _ _ _ _ (by first | rwa [if_pos z] at h | rwa [if_neg z] at h) v1 v3 hH hS hl)
  · cases h
theorem hy_s_goto {b off : Int} (hx : p.tables.exec = Jvm.exec) (hb : c.code = hy_b y) (hd : decode (hy_b y) pc = .ok (.goto off, 3)) (ht : (pc : Int) + off = ((hy_blk y b.toNat).1 : Nat)) (Kb : hy_Kt p l e R s m args below meth c cells slots Q y G r σr (rc b.toNat) (hy_blk y b.toNat).1) : hy_Kt p l e R s m args below meth c cells slots Q y G r σr (hy_sem rt dz rc cl (.goto b) k) pc := by
  intro lv st σ H locs ls h v1 v2 hH hS hl
  dsimp only [hy_sem] at h
  exact lv_goto hx hb hd ht (Kb _ _ _ _ _ _ h v1 v2 hH hS hl)
end HYS
