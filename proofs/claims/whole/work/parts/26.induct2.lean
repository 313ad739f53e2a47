/-! MACHINE 2 AGAINST THE JVM: the induction -/
theorem hz_at_spec {y pc pc' : Nat} {op : Instr} (hg : ∀ b, op ≠ .goto_w b) (h : hz_at y pc op = some pc') : ∃ ins len, decode (hz_b y) pc = .ok (ins, len) ∧ hz_ok y pc op ins len = true ∧ pc' = pc + len := by
  unfold hz_at at h
  split at h
  · rename_i b; exact absurd rfl (hg b)
  · split at h
    · rename_i ins len hd
      cases hk : hz_ok y pc op ins len with
      | false => rw [hk] at h; cases h
      | true => rw [hk] at h; exact ⟨ins, len, hd, hk, (Option.some.inj h).symm⟩
    · cases h
section HZS
variable {p : Program} {l : Launch} {e : Env} {R : Room} {s : State} {m : MethodId} {args : Array Value} {below : List Frame} {meth : Method} {c : Code} {Q : State → Prop} {y : Nat} {G : hy_G} {n0 s0 : Nat} {h' : Hp} {k : List Value → List Value → Hp → Rz} {pc : Nat}
variable {dz : Bool} {rc : Nat → List Value → List Value → Hp → Rz} {cl : Nat → List Value → Hp → Rz}
theorem hz_dead {k : List Value → List Value → Hp → Rz} (h : ∀ lv st h, k lv st h = none) : hz_Kt p l e R s m args below meth c Q y G n0 s0 h' k pc := fun lv st σ H locs ls hk => by rw [h] at hk; cases hk
/-- where a constructor ends -/
def hz_Rt (p : Program) (l : Launch) (e : Env) (R : Room) (s : State) (m : MethodId) (args : Array Value) (below : List Frame) (meth : Method) (c : Code) (Q : State → Prop) (y : Nat) (G : hy_G) (n0 s0 : Nat) (h' : Hp) : Prop :=
  ∀ (H : Heap) (locs : List Loc) (ls : Array Slot) (pc : Nat), hz_HR G h' H → va_S (hy_A G) s.heap H locs → decode (hz_b y) pc = .ok (.return_, 1) → W p l e R s m args below meth c H locs (h'.length - n0) (hz_sz h' - s0) Q (F0 m pc ls [])
theorem hz_op_snd {d pc' : Nat} {op : Instr} (C : hz_Cx p c s m args y) (hU : hz_KU G s) (hin : meth.name = "<init>") (hb0 : s.heap.size = hy_base G + n0) (hml : c.maxLocals = hz_mx y) (hf : d ≤ R.frames) (hlo : 64 * d ≤ R.locals) (hRc : h'.length - n0 ≤ R.cells) (hRs : hz_sz h' - s0 ≤ R.slots) (hdz : dz = Nat.blt 0 d) (Z : hz_Rt p l e R s m args below meth c Q y G n0 s0 h') (hat : hz_at y pc op = some pc') (hm : hz_Mo k) (hmc : ∀ q as h h', cl q as h = some h' → h.length ≤ h'.length ∧ hz_sz h ≤ hz_sz h')
    (Krc : ∀ b, hz_Kt p l e R s m args below meth c Q y G n0 s0 h' (rc b) (hz_blk y b).1)
    (Kcl : ∀ (z : Nat) (as : List Value) (h h1 : Hp), z + 1 < 10 → cl (z + 1) as h = some h1 → ∃ d', d' + 1 ≤ d ∧ hz_Mt l G d' (z + 1) as h h1)
    (K : hz_Kt p l e R s m args below meth c Q y G n0 s0 h' k pc') : hz_Kt p l e R s m args below meth c Q y G n0 s0 h' (hz_sem dz rc cl op k) pc := by
  by_cases hg : ∃ b, op = .goto_w b
  · obtain ⟨b, rfl⟩ := hg
    unfold hz_at at hat
    dsimp only at hat
    split at hat
    · rename_i hb
      intro lv st h H locs ls hh hn hs hH hS hl
      have := Krc b.toNat lv st h H locs ls hh hn hs hH hS hl
      rwa [hb] at this
    · cases hat
  obtain ⟨ins, len, hd, hok, rfl⟩ := hz_at_spec (fun b e => hg ⟨b, e⟩) hat
  have hx := C.1
  have hb := C.2.1
  have hR : dz = true → 1 ≤ R.frames ∧ 64 ≤ R.locals := by
    intro z
    rw [hdz] at z
    have : 0 < d := Nat.le_of_ble_eq_true z
    omega
  cases op with
  | bipush n => exact hz_s_bipush C hd hok K
  | iload i =>
    refine hz_s_iload (n := len) hx hb ?_ K
    simp only [hz_ok, Bool.or_eq_true, List.any_eq_true, decide_eq_true_eq, Prod.mk.injEq, List.mem_range] at hok
    rcases hok with ⟨rfl, rfl⟩ | ⟨j, hj, rfl, rfl, rfl⟩
    · exact Or.inl ⟨hd, rfl⟩
    · exact Or.inr ⟨Fin.ofNat 4 j, by simp [Fin.ofNat, Nat.mod_eq_of_lt hj], hd, rfl⟩
  | aload i =>
    refine hz_s_aload (n := len) hx hb ?_ K
    simp only [hz_ok, Bool.or_eq_true, List.any_eq_true, decide_eq_true_eq, Prod.mk.injEq, List.mem_range] at hok
    rcases hok with ⟨rfl, rfl⟩ | ⟨j, hj, rfl, rfl, rfl⟩
    · exact Or.inl ⟨hd, rfl⟩
    · exact Or.inr ⟨Fin.ofNat 4 j, by simp [Fin.ofNat, Nat.mod_eq_of_lt hj], hd, rfl⟩
  | istore i =>
    refine hz_s_istore (n := len) hx hb ?_ K
    simp only [hz_ok, Bool.or_eq_true, List.any_eq_true, decide_eq_true_eq, Prod.mk.injEq, List.mem_range] at hok
    rcases hok with ⟨rfl, rfl⟩ | ⟨j, hj, rfl, rfl, rfl⟩
    · exact Or.inl ⟨hd, rfl⟩
    · exact Or.inr ⟨Fin.ofNat 4 j, by simp [Fin.ofNat, Nat.mod_eq_of_lt hj], hd, rfl⟩
  | iinc i n =>
    obtain ⟨rfl, rfl⟩ := hy_pair hok
    exact hz_s_iinc hx hb hd K
  | dup =>
    obtain ⟨rfl, rfl⟩ := hy_pair hok
    exact hz_s_dup hx hb hd K
  | iastore =>
    obtain ⟨rfl, rfl⟩ := hy_pair hok
    exact hz_s_iastore C hU hb0 hd K
  | castore =>
    obtain ⟨rfl, rfl⟩ := hy_pair hok
    exact hz_s_castore C hU hb0 hd K
  | aastore =>
    obtain ⟨rfl, rfl⟩ := hy_pair hok
    exact hz_s_aastore C hU hb0 hd K
  | newarray a =>
    obtain ⟨rfl, rfl⟩ := hy_pair hok
    exact hz_s_newa C hU hb0 hRc hRs hm hd K
  | return_ =>
    obtain ⟨rfl, rfl⟩ := hy_pair hok
    intro lv st h H locs ls hh hn hs hH hS hl
    dsimp only [hz_sem] at hh
    split at hh
    · cases hh; exact Z H locs ls pc hH hS hd
    · cases hh
  | getfield i =>
    simp only [hz_ok, List.any_eq_true, Bool.and_eq_true, decide_eq_true_eq, Prod.mk.injEq] at hok
    obtain ⟨q, hq, ⟨h1, h2⟩, rfl, rfl⟩ := hok
    exact hz_s_getfield C hU hq h1 h2 hd K
  | putfield i =>
    simp only [hz_ok, List.any_eq_true, Bool.and_eq_true, decide_eq_true_eq, Prod.mk.injEq] at hok
    obtain ⟨ho, q, hq, ⟨h1, h2⟩, rfl, rfl⟩ := hok
    exact hz_s_putfield C hU hin hb0 ho hq h1 h2 hd K
  | new t =>
    simp only [hz_ok, List.any_eq_true, Bool.and_eq_true, decide_eq_true_eq, Prod.mk.injEq] at hok
    obtain ⟨q, hq, ⟨h1, h2⟩, rfl, rfl⟩ := hok
    exact hz_s_new C hU hb0 hRc hRs hm hq h1 h2 hd K
  | anewarray t =>
    simp only [hz_ok, List.any_eq_true, Bool.and_eq_true, decide_eq_true_eq, Prod.mk.injEq] at hok
    obtain ⟨q, hq, ⟨h1, h2⟩, rfl, rfl⟩ := hok
    exact hz_s_anew C hU hb0 hRc hRs hm hq h1 h2 hd K
  | if_icmp cc b =>
    simp only [hz_ok, Bool.and_eq_true, decide_eq_true_eq] at hok
    obtain ⟨rfl, hok⟩ := hok
    split at hok
    · obtain ⟨rfl, ht⟩ := of_decide_eq_true hok
      exact hz_s_if hx hb hd ht (Krc _) K
    · cases hok
  | goto b =>
    simp only [hz_ok, Bool.and_eq_true, decide_eq_true_eq] at hok
    obtain ⟨rfl, hok⟩ := hok
    split at hok
    · exact hz_s_goto hx hb hd (of_decide_eq_true hok) (Krc _)
    · cases hok
  | invokespecial z =>
    cases z with
    | zero =>
      simp only [hz_ok, List.any_eq_true, Bool.and_eq_true, decide_eq_true_eq, Prod.mk.injEq] at hok
      obtain ⟨q, hq, h1, rfl, rfl⟩ := hok
      exact hz_s_obj C hml hR hq h1 hd K
    | succ z =>
      simp only [hz_ok, List.any_eq_true, Bool.and_eq_true, decide_eq_true_eq, Prod.mk.injEq] at hok
      obtain ⟨hz, q, hq, ⟨h1, h2⟩, rfl, rfl⟩ := hok
      exact hz_s_call C hU hml hb0 hf hlo hRc hRs hm hz hq h1 h2 hd hmc (fun as h h1 => Kcl z as h h1 hz) K
  | goto_w b => exact absurd ⟨b, rfl⟩ hg
  | _ => exact hz_dead (fun _ _ _ => rfl)
theorem hz_ex_snd {d : Nat} (C : hz_Cx p c s m args y) (hU : hz_KU G s) (hin : meth.name = "<init>") (hb0 : s.heap.size = hy_base G + n0) (hml : c.maxLocals = hz_mx y) (hf : d ≤ R.frames) (hlo : 64 * d ≤ R.locals) (hRc : h'.length - n0 ≤ R.cells) (hRs : hz_sz h' - s0 ≤ R.slots) (hdz : dz = Nat.blt 0 d) (Z : hz_Rt p l e R s m args below meth c Q y G n0 s0 h') (hmr : ∀ b, hz_Mo (rc b)) (hmc : ∀ q as h h', cl q as h = some h' → h.length ≤ h'.length ∧ hz_sz h ≤ hz_sz h')
    (Krc : ∀ b, hz_Kt p l e R s m args below meth c Q y G n0 s0 h' (rc b) (hz_blk y b).1)
    (Kcl : ∀ (z : Nat) (as : List Value) (h h1 : Hp), z + 1 < 10 → cl (z + 1) as h = some h1 → ∃ d', d' + 1 ≤ d ∧ hz_Mt l G d' (z + 1) as h h1) :
    ∀ (ops : List Instr) (pc : Nat), hz_chk y pc ops = true → hz_Kt p l e R s m args below meth c Q y G n0 s0 h' (hz_ex dz rc cl ops) pc := by
  intro ops
  induction ops with
  | nil => exact fun pc _ => hz_dead (fun _ _ _ => rfl)
  | cons op ops ih =>
    intro pc hc
    unfold hz_chk at hc
    cases hat : hz_at y pc op with
    | none => rw [hat] at hc; cases hc
    | some pc' =>
      rw [hat] at hc
      exact hz_op_snd C hU hin hb0 hml hf hlo hRc hRs hdz Z hat (hz_ex_mono hmr hmc ops) hmc Krc Kcl (ih pc' hc)
end HZS
def hz_Snd (l : Launch) (G : hy_G) (n : Nat) : Prop := ∀ (d y b : Nat) (n0 s0 : Nat) (h' : Hp), y < 10 → ∀ (p : Program) (e : Env) (R : Room) (s : State) (m : MethodId) (args : Array Value) (below : List Frame) (meth : Method) (c : Code) (Q : State → Prop),
  hz_Cx p c s m args y → hz_KU G s → meth.name = "<init>" → s.heap.size = hy_base G + n0 → c.maxLocals = hz_mx y → d ≤ R.frames → 64 * d ≤ R.locals → h'.length - n0 ≤ R.cells → hz_sz h' - s0 ≤ R.slots → hz_Rt p l e R s m args below meth c Q y G n0 s0 h' → hz_Kt p l e R s m args below meth c Q y G n0 s0 h' (hz_run n d y b) (hz_blk y b).1
theorem hz_args (G : hy_G) : ∀ (as : List Value) (i0 : Nat), as.all (fun v => Nat.beq v.category 1) = true → ∀ (i : Nat) (v : Value), as[i]? = some v → (i0 + i, hz_cv G v) ∈ lv_args i0 (as.map (hz_cv G))
  | [], i0, _, i, v, h => by simp at h
  | a :: as, i0, hc, i, v, h => by
    rw [List.all_cons, Bool.and_eq_true] at hc
    have h1 : (hz_cv G a).category = 1 := by rw [hz_cat1]; exact Nat.eq_of_beq_eq_true hc.1
    rw [List.map_cons]
    unfold lv_args
    rw [if_neg (by rw [h1]; decide)]
    cases i with
    | zero => cases h; exact List.mem_cons_self
    | succ i =>
      have := hz_args G as (i0 + 1) hc.2 i v h
      rw [show i0 + 1 + i = i0 + (i + 1) by omega] at this
      exact List.mem_cons_of_mem _ this
theorem hz_sl (G : hy_G) : ∀ (as : List Value), as.all (fun v => Nat.beq v.category 1) = true → (lg_sl (as.map (hz_cv G))).length = as.length
  | [], _ => rfl
  | a :: as, hc => by
    rw [List.all_cons, Bool.and_eq_true] at hc
    have h1 : (hz_cv G a).category = 1 := by rw [hz_cat1]; exact Nat.eq_of_beq_eq_true hc.1
    have ih := hz_sl G as hc.2
    unfold lg_sl at ih ⊢
    rw [List.map_cons, List.flatMap_cons, List.length_append, ih, if_neg (by rw [h1]; decide)]
    simp only [List.length_cons, List.length_nil]
    omega
theorem hz_met {l : Launch} {G : hy_G} {n d z : Nat} {as : List Value} {h h1 : Hp} (IH : hz_Snd l G n) (h0 : 0 < z) (hz : z < 10) (hle : as.length ≤ hz_mx z) (hc : as.all (fun v => Nat.beq v.category 1) = true) (hrun : hz_run n d z 0 (as ++ List.replicate (hz_mx z - as.length) .null) [] h = some h1) (hpc : (hz_blk z 0).1 = 0) : hz_Mt l G d z as h h1 := by
  obtain ⟨f1, f2, f3, f4, f5, f6, f7, f8⟩ := hz_facts h0 hz
  refine Met.ofW (cc := hz_b z) (maxL := hz_mx z) (ret := none) f6 rfl ?_
  intro p e s m args below meth c s₁ B hml hvv
  obtain ⟨rfl, hH, hU⟩ := hvv
  have hx := B.exec
  have hb := B.bytes
  have hr := B.returns
  have hts0 := atoms_spec (ws := hz_ws z) B.pre
  have hts : ∀ w ∈ hy_TB, w.before (as.map (hz_cv G)).toArray s = true := fun w hw => hts0 w (List.mem_cons_of_mem _ hw)
  have hown0 : s.vm.findClass (hz_m z).1.cls = some m.cls := findClass_of_methodNamed B.named
  have hown : s.vm.findClass (hy_cn (hz_own z)) = some m.cls := by rw [f4]; exact hown0
  have hlocks := B.notSynchronized
  have hin : meth.name = "<init>" := (name_of_methodNamed B.named B.method).1.trans f5
  have hl := lv_entry (as.map (hz_cv G)) (n := hz_mx z) (by rw [hz_sl G as hc]; exact hle)
  rw [lg_entry_eq]
  generalize (lg_sl (as.map (hz_cv G)) ++ List.replicate (hz_mx z - (lg_sl (as.map (hz_cv G))).length) Slot.unset).toArray = ls at hl ⊢
  have hl2 : hz_LV G ls (hz_mx z) (as ++ List.replicate (hz_mx z - as.length) .null) := by
    obtain ⟨g1, g2, g3⟩ := hl
    refine ⟨by rw [List.length_append, List.length_replicate]; omega, g1, g2, fun i v hi hn => ?_⟩
    by_cases hlt : i < as.length
    · rw [List.getElem?_append_left hlt] at hi
      have := g3 _ (hz_args G as 0 hc i v hi)
      rwa [Nat.zero_add] at this
    · rw [List.getElem?_append_right (by omega)] at hi
      have := List.mem_of_getElem? hi
      rw [List.mem_replicate] at this
      exact absurd this.2 hn
  have hZ : hz_Rt p l e (headSpec (hz_ws z) (hz_rm d (h1.length - h.length) (hz_sz h1 - hz_sz h))).room s m (as.map (hz_cv G)).toArray below meth c (MQ below (va_Qv (S := Unit) (fun _ => True) (fun _ t => hz_HR G h1 t.heap) (hy_A G)) (as.map (hz_cv G)).toArray s (h1.length - h.length) (hz_sz h1 - hz_sz h) (hy_A G)) z G h.length (hz_sz h) h1 := by
    intro H locs ls pc hH1 hS hd
    exact W.vret hx hb hr (fun t ht hW => ⟨⟨(), rfl, trivial, by show hz_HR G h1 t.heap; rw [ht]; exact hH1⟩, hS.F ht⟩) hS.2.2 hd
  have hK := IH d z 0 h.length (hz_sz h) h1 hz p e (headSpec (hz_ws z) (hz_rm d (h1.length - h.length) (hz_sz h1 - hz_sz h))).room s m (as.map (hz_cv G)).toArray below meth c _ ⟨hx, hb, hown, hts⟩ hU hin hH.2.2 hml (Nat.le_refl d) (Nat.le_refl _) (Nat.le_refl _) (Nat.le_refl _) hZ
  rw [hpc] at hK
  have := hK _ _ _ _ _ _ hrun (Nat.le_refl _) (Nat.le_refl _) hH va_S.rf hl2
  rw [Nat.sub_self, Nat.sub_self] at this
  exact this
theorem hz_pc0 : ∀ y, y < 10 → (hz_blk y 0).1 = 0 := by decide +kernel
theorem hz_chkb {y b : Nat} (hy : y < 10) : hz_chk y (hz_blk y b).1 (hz_blk y b).2 = true := by
  have h1 := hz_chk_all y hy
  unfold hz_chkM at h1
  unfold hz_blk
  rcases Nat.lt_or_ge b (hz_K.getD y []).length with h | h
  · rw [List.getD_eq_getElem?_getD, List.getElem?_eq_getElem h]
    exact List.all_eq_true.mp h1 _ (List.getElem_mem h)
  · rw [List.getD_eq_getElem?_getD, List.getElem?_eq_none h]
    rfl
theorem hz_sound (l : Launch) (G : hy_G) : ∀ n, hz_Snd l G n := by
  intro n
  induction n with
  | zero => intro d y b n0 s0 h' hy p e R s m args below meth c Q C hU hin hb0 hml hf hlo hRc hRs Z; exact hz_dead (fun _ _ _ => rfl)
  | succ n ih =>
    intro d y b n0 s0 h' hy p e R s m args below meth c Q C hU hin hb0 hml hf hlo hRc hRs Z
    refine hz_ex_snd C hU hin hb0 hml hf hlo hRc hRs rfl Z (fun b' => hz_run_mono n d y b') ?_ (fun b' => ih d y b' n0 s0 h' hy p e R s m args below meth c Q C hU hin hb0 hml hf hlo hRc hRs Z) ?_ _ _ (hz_chkb hy)
    · intro q as h h' hh
      cases d with
      | zero => cases hh
      | succ d' =>
        dsimp only at hh
        rw [cond_eq_ite] at hh
        split at hh
        · exact hz_run_mono _ _ _ _ _ _ _ _ hh
        · cases hh
    · intro z as h h1 hz hcl
      cases d with
      | zero => cases hcl
      | succ d' =>
        dsimp only at hcl
        rw [cond_eq_ite] at hcl
        split at hcl
        · rename_i hc
          rw [Bool.and_eq_true] at hc
          exact ⟨d', Nat.le_refl _, hz_met ih (Nat.succ_pos z) hz (Nat.le_of_ble_eq_true hc.1) hc.2 hcl (hz_pc0 _ hz)⟩
        · cases hcl
