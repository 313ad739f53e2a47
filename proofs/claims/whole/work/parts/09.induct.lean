/-! THE SMALL MACHINE AGAINST THE JVM: the induction; written by wip/gen/gen9.py -/
theorem hy_at_spec {y pc pc' : Nat} {op : Instr} (hg : ∀ b, op ≠ .goto_w b) (h : hy_at y pc op = some pc') : ∃ ins len, decode (hy_b y) pc = .ok (ins, len) ∧ hy_ok y pc op ins len = true ∧ pc' = pc + len := by
  unfold hy_at at h
  split at h
  · rename_i b; exact absurd rfl (hg b)
  · split at h
    · rename_i ins len hd
      cases hk : hy_ok y pc op ins len with
      | false => rw [hk] at h; cases h
      | true => rw [hk] at h; exact ⟨ins, len, hd, hk, (Option.some.inj h).symm⟩
    · cases h
theorem hy_pair {a b : Instr} {n k : Nat} (h : decide ((a, n) = (b, k)) = true) : a = b ∧ n = k := by
  have := of_decide_eq_true h
  exact ⟨congrArg Prod.fst this, congrArg Prod.snd this⟩
section HYS
variable {p : Program} {l : Launch} {e : Env} {R : Room} {s : State} {m : MethodId} {args : Array Value} {below : List Frame} {meth : Method} {c : Code} {cells slots : Nat} {Q : State → Prop} {y : Nat} {G : hy_G} {r : Vl} {σr : Sg} {k : List Vl → List Vl → Sg → Rs} {pc : Nat}
variable {rt : Nat} {dz : Bool} {rc : Nat → List Vl → List Vl → Sg → Rs} {cl : Nat → List Vl → Sg → Rs}
theorem hy_dead {k : List Vl → List Vl → Sg → Rs} (h : ∀ lv st σ, k lv st σ = none) : hy_Kt p l e R s m args below meth c cells slots Q y G r σr k pc := fun lv st σ H locs ls hk => by rw [h] at hk; cases hk
set_option maxHeartbeats 4000000 in
theorem hy_op_snd {d pc' : Nat} {op : Instr} (C : hy_Cx p c s m args y) (hU : hy_KU G s) (hml : c.maxLocals = hy_mx y) (hf : d ≤ R.frames) (hlo : 64 * d ≤ R.locals) (hcc : cells ≤ R.cells) (hss : slots ≤ R.slots) (hrt : rt = hy_rt y) (hdz : dz = Nat.blt 0 d) (Z : hy_Rt p l e R s m args below meth c cells slots Q y G r σr) (hat : hy_at y pc op = some pc')
    (Krc : ∀ b, hy_Kt p l e R s m args below meth c cells slots Q y G r σr (rc b) (hy_blk y b).1)
    (Kcl : ∀ (z : Nat) (as : List Vl) (σ : Sg) (r' : Vl) (σ' : Sg), 0 < z → z < 230 → (∀ v ∈ as, hy_VT v) → cl z as σ = some (r', σ') → ∃ d', d' + 1 ≤ d ∧ hy_Mt l G d' z as σ r' σ')
    (K : hy_Kt p l e R s m args below meth c cells slots Q y G r σr k pc') : hy_Kt p l e R s m args below meth c cells slots Q y G r σr (hy_sem rt dz rc cl op k) pc := by
  by_cases hg : ∃ b, op = .goto_w b
  · obtain ⟨b, rfl⟩ := hg
    unfold hy_at at hat
    dsimp only at hat
    split at hat
    · rename_i hb
      intro lv st σ H locs ls h v1 v2 hH hS hl
      dsimp only [hy_sem] at h
      have := Krc b.toNat lv st σ H locs ls h v1 v2 hH hS hl
      rwa [hb.2] at this
    · cases hat
  obtain ⟨ins, len, hd, hok, rfl⟩ := hy_at_spec (fun b e => hg ⟨b, e⟩) hat
  have hx := C.1
  have hb := C.2.1
  have hR : dz = true → 1 ≤ R.frames ∧ 64 ≤ R.locals := by
    intro z
    rw [hdz] at z
    have : 0 < d := Nat.le_of_ble_eq_true z
    omega
  cases op with
  | iadd =>
    obtain ⟨rfl, rfl⟩ := hy_pair hok
    exact hy_s_iadd hx hb hd K
  | isub =>
    obtain ⟨rfl, rfl⟩ := hy_pair hok
    exact hy_s_isub hx hb hd K
  | imul =>
    obtain ⟨rfl, rfl⟩ := hy_pair hok
    exact hy_s_imul hx hb hd K
  | iand =>
    obtain ⟨rfl, rfl⟩ := hy_pair hok
    exact hy_s_iand hx hb hd K
  | ior =>
    obtain ⟨rfl, rfl⟩ := hy_pair hok
    exact hy_s_ior hx hb hd K
  | ishl =>
    obtain ⟨rfl, rfl⟩ := hy_pair hok
    exact hy_s_ishl hx hb hd K
  | ishr =>
    obtain ⟨rfl, rfl⟩ := hy_pair hok
    exact hy_s_ishr hx hb hd K
  | idiv =>
    obtain ⟨rfl, rfl⟩ := hy_pair hok
    exact hy_s_idiv hx hb hd K
  | irem =>
    obtain ⟨rfl, rfl⟩ := hy_pair hok
    exact hy_s_irem hx hb hd K
  | iushr =>
    obtain ⟨rfl, rfl⟩ := hy_pair hok
    exact hy_s_iushr hx hb hd K
  | ladd =>
    obtain ⟨rfl, rfl⟩ := hy_pair hok
    exact hy_s_ladd hx hb hd K
  | lsub =>
    obtain ⟨rfl, rfl⟩ := hy_pair hok
    exact hy_s_lsub hx hb hd K
  | lcmp =>
    obtain ⟨rfl, rfl⟩ := hy_pair hok
    exact hy_s_lcmp hx hb hd K
  | ineg =>
    obtain ⟨rfl, rfl⟩ := hy_pair hok
    exact hy_s_ineg hx hb hd K
  | lneg =>
    obtain ⟨rfl, rfl⟩ := hy_pair hok
    exact hy_s_lneg hx hb hd K
  | i2s =>
    obtain ⟨rfl, rfl⟩ := hy_pair hok
    exact hy_s_i2s hx hb hd K
  | i2b =>
    obtain ⟨rfl, rfl⟩ := hy_pair hok
    exact hy_s_i2b hx hb hd K
  | i2c =>
    obtain ⟨rfl, rfl⟩ := hy_pair hok
    exact hy_s_i2c hx hb hd K
  | i2l =>
    obtain ⟨rfl, rfl⟩ := hy_pair hok
    exact hy_s_i2l hx hb hd K
  | l2i =>
    obtain ⟨rfl, rfl⟩ := hy_pair hok
    exact hy_s_l2i hx hb hd K
  | pop =>
    obtain ⟨rfl, rfl⟩ := hy_pair hok
    exact hy_s_pop hx hb hd K
  | dup =>
    obtain ⟨rfl, rfl⟩ := hy_pair hok
    exact hy_s_dup hx hb hd K
  | dup2 =>
    obtain ⟨rfl, rfl⟩ := hy_pair hok
    exact hy_s_dup2 hx hb hd K
  | iaload =>
    obtain ⟨rfl, rfl⟩ := hy_pair hok
    exact hy_s_iaload C hU hd K
  | caload =>
    obtain ⟨rfl, rfl⟩ := hy_pair hok
    exact hy_s_caload C hU hd K
  | baload =>
    obtain ⟨rfl, rfl⟩ := hy_pair hok
    exact hy_s_baload C hU hd K
  | iastore =>
    obtain ⟨rfl, rfl⟩ := hy_pair hok
    exact hy_s_iastore C hU hd K
  | bastore =>
    obtain ⟨rfl, rfl⟩ := hy_pair hok
    exact hy_s_bastore C hU hd K
  | aaload =>
    obtain ⟨rfl, rfl⟩ := hy_pair hok
    exact hy_s_aaload C hU hd K
  | arraylength =>
    obtain ⟨rfl, rfl⟩ := hy_pair hok
    exact hy_s_arraylength C hU hd K
  | lconst n =>
    obtain ⟨rfl, rfl⟩ := hy_pair hok
    exact hy_s_lconst hx hb hd K
  | bipush n => exact hy_s_bipush C hd hok K
  | iload i =>
    refine hy_s_iload (n := len) hx hb ?_ K
    simp only [hy_ok, Bool.or_eq_true, List.any_eq_true, decide_eq_true_eq, Prod.mk.injEq, List.mem_range] at hok
    rcases hok with ⟨rfl, rfl⟩ | ⟨j, hj, rfl, rfl, rfl⟩
    · exact Or.inl ⟨hd, rfl⟩
    · exact Or.inr ⟨Fin.ofNat 4 j, by simp [Fin.ofNat, Nat.mod_eq_of_lt hj], hd, rfl⟩
  | lload i =>
    refine hy_s_lload (n := len) hx hb ?_ K
    simp only [hy_ok, Bool.or_eq_true, List.any_eq_true, decide_eq_true_eq, Prod.mk.injEq, List.mem_range] at hok
    rcases hok with ⟨rfl, rfl⟩ | ⟨j, hj, rfl, rfl, rfl⟩
    · exact Or.inl ⟨hd, rfl⟩
    · exact Or.inr ⟨Fin.ofNat 4 j, by simp [Fin.ofNat, Nat.mod_eq_of_lt hj], hd, rfl⟩
  | aload i =>
    refine hy_s_aload (n := len) hx hb ?_ K
    simp only [hy_ok, Bool.or_eq_true, List.any_eq_true, decide_eq_true_eq, Prod.mk.injEq, List.mem_range] at hok
    rcases hok with ⟨rfl, rfl⟩ | ⟨j, hj, rfl, rfl, rfl⟩
    · exact Or.inl ⟨hd, rfl⟩
    · exact Or.inr ⟨Fin.ofNat 4 j, by simp [Fin.ofNat, Nat.mod_eq_of_lt hj], hd, rfl⟩
  | istore i =>
    refine hy_s_istore (n := len) hx hb ?_ K
    simp only [hy_ok, Bool.or_eq_true, List.any_eq_true, decide_eq_true_eq, Prod.mk.injEq, List.mem_range] at hok
    rcases hok with ⟨rfl, rfl⟩ | ⟨j, hj, rfl, rfl, rfl⟩
    · exact Or.inl ⟨hd, rfl⟩
    · exact Or.inr ⟨Fin.ofNat 4 j, by simp [Fin.ofNat, Nat.mod_eq_of_lt hj], hd, rfl⟩
  | astore i =>
    refine hy_s_astore (n := len) hx hb ?_ K
    simp only [hy_ok, Bool.or_eq_true, List.any_eq_true, decide_eq_true_eq, Prod.mk.injEq, List.mem_range] at hok
    rcases hok with ⟨rfl, rfl⟩ | ⟨j, hj, rfl, rfl, rfl⟩
    · exact Or.inl ⟨hd, rfl⟩
    · exact Or.inr ⟨Fin.ofNat 4 j, by simp [Fin.ofNat, Nat.mod_eq_of_lt hj], hd, rfl⟩
  | lstore i =>
    refine hy_s_lstore (n := len) hx hb ?_ K
    simp only [hy_ok, Bool.or_eq_true, List.any_eq_true, decide_eq_true_eq, Prod.mk.injEq, List.mem_range] at hok
    rcases hok with ⟨rfl, rfl⟩ | ⟨j, hj, rfl, rfl, rfl⟩
    · exact Or.inl ⟨hd, rfl⟩
    · exact Or.inr ⟨Fin.ofNat 4 j, by simp [Fin.ofNat, Nat.mod_eq_of_lt hj], hd, rfl⟩
  | iinc i n =>
    obtain ⟨rfl, rfl⟩ := hy_pair hok
    exact hy_s_iinc hx hb hd K
  | ldc i =>
    simp only [hy_ok, List.any_eq_true, Bool.and_eq_true, decide_eq_true_eq, Prod.mk.injEq] at hok
    obtain ⟨q, hq, ⟨h1, h2, h3⟩, rfl, rfl⟩ := hok
    exact hy_s_ldc C hU h3 hq h1 h2 hd K
  | getstatic i =>
    simp only [hy_ok, List.any_eq_true, Bool.and_eq_true, decide_eq_true_eq, Prod.mk.injEq] at hok
    obtain ⟨q, hq, ⟨h1, h2, h3⟩, rfl, rfl⟩ := hok
    exact hy_s_getstatic C hU h3 hq h1 h2 hd K
  | getfield i =>
    simp only [hy_ok, List.any_eq_true, Bool.and_eq_true, Bool.or_eq_true, decide_eq_true_eq, Prod.mk.injEq] at hok
    rcases hok with ⟨q, hq, ⟨h1, h2⟩, rfl, rfl⟩ | ⟨q, hq, ⟨h1, h2⟩, rfl, rfl⟩
    · exact hy_s_getfield C hU hq h1 h2 hd K
    · exact hy_s_getfieldS C hU hq h1 h2 hd K
  | putfield i =>
    simp only [hy_ok, List.any_eq_true, Bool.and_eq_true, decide_eq_true_eq, Prod.mk.injEq] at hok
    obtain ⟨q, hq, ⟨h1, h2⟩, rfl, rfl⟩ := hok
    exact hy_s_putfield C hU hq h1 h2 hd K
  | invokedynamic j =>
    simp only [hy_ok, List.any_eq_true, Bool.and_eq_true, decide_eq_true_eq, Prod.mk.injEq] at hok
    obtain ⟨q, hq, ⟨h1, h2⟩, rfl, rfl⟩ := hok
    exact hy_s_jsr C hU hml hR hcc hss hq h1 h2 hd K
  | invokestatic z =>
    simp only [hy_ok, List.any_eq_true, Bool.and_eq_true, decide_eq_true_eq, Prod.mk.injEq] at hok
    obtain ⟨⟨⟨h0, hz⟩, hst⟩, q, hq, ⟨h1, h2⟩, rfl, rfl⟩ := hok
    exact hy_s_stat C hU hml hf hlo hcc hss h0 hz hst hq h1 h2 hd (fun as σ r' σ' => Kcl z as σ r' σ' h0 hz) K
  | invokevirtual z =>
    simp only [hy_ok, List.any_eq_true, Bool.and_eq_true, decide_eq_true_eq, Prod.mk.injEq, Bool.not_eq_true'] at hok
    obtain ⟨⟨⟨h0, hz⟩, hst⟩, q, hq, ⟨h1, h2⟩, rfl, rfl⟩ := hok
    exact hy_s_virt C hU hml hf hlo hcc hss h0 hz hst hq h1 h2 hd (fun as σ r' σ' => Kcl z as σ r' σ' h0 hz) K
  | ifCond cc b =>
    simp only [hy_ok, Bool.and_eq_true, decide_eq_true_eq] at hok
    obtain ⟨rfl, hok⟩ := hok
    split at hok
    · obtain ⟨rfl, -, ht⟩ := of_decide_eq_true hok
      exact hy_s_ifCond hx hb hd ht (Krc _) K
    · cases hok
  | if_icmp cc b =>
    simp only [hy_ok, Bool.and_eq_true, decide_eq_true_eq] at hok
    obtain ⟨rfl, hok⟩ := hok
    split at hok
    · obtain ⟨rfl, -, ht⟩ := of_decide_eq_true hok
      exact hy_s_if_icmp hx hb hd ht (Krc _) K
    · cases hok
  | goto b =>
    simp only [hy_ok, Bool.and_eq_true, decide_eq_true_eq] at hok
    obtain ⟨rfl, hok⟩ := hok
    split at hok
    · obtain ⟨-, ht⟩ := of_decide_eq_true hok
      exact hy_s_goto hx hb hd ht (Krc _)
    · cases hok
  | tableswitch dflt lo hi offs =>
    simp only [hy_ok] at hok
    split at hok
    · rename_i dflt' lo' hi' offs'
      rw [Bool.and_eq_true] at hok
      obtain ⟨h1, h2⟩ := hok
      obtain ⟨rfl, rfl, -, h4, h5, h6⟩ := of_decide_eq_true h1
      exact hy_s_table hx hb hd h4 h5 h6 (fun j hj => (of_decide_eq_true (hy_all1 h2 hj)).2) Krc
    · cases hok
  | lookupswitch dflt ps =>
    simp only [hy_ok] at hok
    split at hok
    · rename_i dflt' ps'
      rw [Bool.and_eq_true, Bool.and_eq_true, Bool.and_eq_true] at hok
      obtain ⟨⟨⟨h1, h2⟩, h3⟩, h4⟩ := hok
      exact hy_s_lookup hx hb hd (of_decide_eq_true h1) h2 (of_decide_eq_true h3) (fun q hq => of_decide_eq_true (List.all_eq_true.mp h4 q hq)) Krc
    · cases hok
  | ireturn =>
    simp only [hy_ok, Bool.and_eq_true] at hok
    obtain ⟨h1, h2⟩ := hok
    obtain ⟨rfl, rfl⟩ := hy_pair h1
    exact hy_s_ireturn hd (of_decide_eq_true h2) hrt Z
  | lreturn =>
    simp only [hy_ok, Bool.and_eq_true] at hok
    obtain ⟨h1, h2⟩ := hok
    obtain ⟨rfl, rfl⟩ := hy_pair h1
    exact hy_s_lreturn hd (of_decide_eq_true h2) Z
  | return_ =>
    simp only [hy_ok, Bool.and_eq_true] at hok
    obtain ⟨h1, h2⟩ := hok
    obtain ⟨rfl, rfl⟩ := hy_pair h1
    exact hy_s_return hd (of_decide_eq_true h2) Z
  | goto_w b => exact absurd ⟨b, rfl⟩ hg
  | _ => exact hy_dead (fun _ _ _ => rfl)
theorem hy_ex_snd {d : Nat} (C : hy_Cx p c s m args y) (hU : hy_KU G s) (hml : c.maxLocals = hy_mx y) (hf : d ≤ R.frames) (hlo : 64 * d ≤ R.locals) (hcc : cells ≤ R.cells) (hss : slots ≤ R.slots) (hrt : rt = hy_rt y) (hdz : dz = Nat.blt 0 d) (Z : hy_Rt p l e R s m args below meth c cells slots Q y G r σr)
    (Krc : ∀ b, hy_Kt p l e R s m args below meth c cells slots Q y G r σr (rc b) (hy_blk y b).1)
    (Kcl : ∀ (z : Nat) (as : List Vl) (σ : Sg) (r' : Vl) (σ' : Sg), 0 < z → z < 230 → (∀ v ∈ as, hy_VT v) → cl z as σ = some (r', σ') → ∃ d', d' + 1 ≤ d ∧ hy_Mt l G d' z as σ r' σ') :
    ∀ (ops : List Instr) (pc : Nat), hy_chk y pc ops = true → hy_Kt p l e R s m args below meth c cells slots Q y G r σr (hy_ex rt dz rc cl ops) pc := by
  intro ops
  induction ops with
  | nil => exact fun pc _ => hy_dead (fun _ _ _ => rfl)
  | cons op ops ih =>
    intro pc hc
    unfold hy_chk at hc
    cases hat : hy_at y pc op with
    | none => rw [hat] at hc; cases hc
    | some pc' =>
      rw [hat] at hc
      exact hy_op_snd C hU hml hf hlo hcc hss hrt hdz Z hat Krc Kcl (ih pc' hc)
end HYS
def hy_Snd (l : Launch) (G : hy_G) (n : Nat) : Prop := ∀ (d y b : Nat) (r : Vl) (σr : Sg), y < 230 → ∀ (p : Program) (e : Env) (R : Room) (s : State) (m : MethodId) (args : Array Value) (below : List Frame) (meth : Method) (c : Code) (cells slots : Nat) (Q : State → Prop),
  hy_Cx p c s m args y → hy_KU G s → c.maxLocals = hy_mx y → d ≤ R.frames → 64 * d ≤ R.locals → cells ≤ R.cells → slots ≤ R.slots → hy_Rt p l e R s m args below meth c cells slots Q y G r σr → hy_Kt p l e R s m args below meth c cells slots Q y G r σr (hy_run n d y b) (hy_blk y b).1
theorem hy_ent_args (G : hy_G) : ∀ (as : List Vl) (i0 : Nat), (∀ v ∈ as, hy_VT v) → ∀ (i : Nat) (v : Vl), (hy_exp as)[i]? = some v → v.1 ≠ .null → (i0 + i, hy_cv G v) ∈ lv_args i0 (as.map (hy_cv G))
  | [], i0, _, i, v, h, _ => by simp [hy_exp] at h
  | a :: as, i0, hv, i, v, h, hn => by
    have hrec := hy_ent_args G as
    have hva := hv a List.mem_cons_self
    have hvs : ∀ v ∈ as, hy_VT v := fun v h => hv v (List.mem_cons_of_mem _ h)
    unfold hy_exp at h hrec
    rw [List.flatMap_cons] at h
    rw [List.map_cons]
    unfold lv_args
    rw [hy_cv_cat]
    obtain ⟨a1, a2⟩ := a
    cases a1 with
    | long x =>
      match i, h with
      | 0, h => cases h; exact List.mem_cons_self
      | 1, h => cases h; exact absurd rfl hn
      | i + 2, h =>
        have := hrec (i0 + 2) hvs i v h hn
        rw [show i0 + 2 + i = i0 + (i + 2) by omega] at this
        exact List.mem_cons_of_mem _ this
    | double x => exact absurd rfl (hva.2 x)
    | _ =>
      match i, h with
      | 0, h => cases h; exact List.mem_cons_self
      | i + 1, h =>
        have := hrec (i0 + 1) hvs i v h hn
        rw [show i0 + 1 + i = i0 + (i + 1) by omega] at this
        exact List.mem_cons_of_mem _ this
theorem hy_sl_len (G : hy_G) : ∀ (as : List Vl), (∀ v ∈ as, hy_VT v) → (lg_sl (as.map (hy_cv G))).length = (hy_exp as).length
  | [], _ => rfl
  | a :: as, hv => by
    have ih := hy_sl_len G as (fun v h => hv v (List.mem_cons_of_mem _ h))
    have hva := hv a List.mem_cons_self
    unfold lg_sl hy_exp at ih ⊢
    rw [List.map_cons, List.flatMap_cons, List.flatMap_cons, List.length_append, List.length_append, ih, hy_cv_cat]
    congr 1
    obtain ⟨a1, a2⟩ := a
    cases a1 with
    | double x => exact absurd rfl (hva.2 x)
    | _ => rfl
theorem hy_entLV (G : hy_G) {as : List Vl} {n : Nat} (hv : ∀ v ∈ as, hy_VT v) (hlen : (hy_ent n as).length = n) : (lg_sl (as.map (hy_cv G))).length ≤ n ∧ ∀ ls : Array Slot, lv_has ls n (lv_args 0 (as.map (hy_cv G))) → hy_LV G ls n (hy_ent n as) := by
  have h1 := hy_sl_len G as hv
  refine ⟨?_, fun ls h => ?_⟩
  · rw [h1]
    unfold hy_ent at hlen
    simp only [List.length_append, List.length_replicate] at hlen
    omega
  · obtain ⟨g1, g2, g3⟩ := h
    refine ⟨hlen, g1, g2, fun i v hi hn => ?_⟩
    unfold hy_ent at hi
    by_cases hl : i < (hy_exp as).length
    · rw [List.getElem?_append_left hl] at hi
      have := g3 _ (hy_ent_args G as 0 hv i v hi hn)
      rwa [Nat.zero_add] at this
    · rw [List.getElem?_append_right (by omega)] at hi
      have := List.mem_of_getElem? hi
      rw [List.mem_replicate] at this
      rw [this.2] at hn
      exact absurd rfl hn
theorem hy_entVT {as : List Vl} {n : Nat} (hv : ∀ v ∈ as, hy_VT v) : ∀ v ∈ hy_ent n as, hy_VT v := by
  intro v h
  unfold hy_ent at h
  rcases List.mem_append.mp h with h | h
  · unfold hy_exp at h
    obtain ⟨a, ha, h⟩ := List.mem_flatMap.mp h
    have := hv a ha
    split at h
    · rcases List.mem_cons.mp h with rfl | h
      · exact this
      · rw [List.mem_singleton.mp h]; exact hy_VTn 0
    · rw [List.mem_singleton.mp h]; exact this
  · rw [(List.mem_replicate.mp h).2]; exact hy_VTn 0
theorem hy_met {l : Launch} {G : hy_G} {n d z : Nat} {as : List Vl} {σ σr : Sg} {r : Vl} (IH : hy_Snd l G n) (h0 : 0 < z) (hz : z < 230) (hv : ∀ v ∈ as, hy_VT v) (hlen : (hy_ent (hy_mx z) as).length = hy_mx z) (hrun : hy_run n d z 0 (hy_ent (hy_mx z) as) [] σ = some (r, σr)) (hpc : (hy_blk z 0).1 = 0) : hy_Mt l G d z as σ r σr := by
  have hmp4 := hy_tick hy_mp4_all h0 hz
  unfold hy_mp4 at hmp4
  rw [Bool.and_eq_true] at hmp4
  refine Met.ofW (cc := hy_b z) (maxL := hy_mx z) (ret := (hy_m z).2.2.1) hmp4.1 rfl ?_
  intro p e s m args below meth c s₁ B hml hvv
  obtain ⟨rfl, hH, hU⟩ := hvv
  have hx := B.exec
  have hb := B.bytes
  have hr := B.returns
  have hts0 := atoms_spec (ws := hy_ws z) B.pre
  have hts : ∀ w ∈ hy_TB, w.before (as.map (hy_cv G)).toArray s = true := fun w hw => hts0 w (List.mem_cons_of_mem _ hw)
  have hown0 : s.vm.findClass (hy_m z).1.cls = some m.cls := findClass_of_methodNamed B.named
  have hcls := of_decide_eq_true (hy_tick hy_mp3_all h0 hz)
  have hown : s.vm.findClass (hy_cn (hy_own z)) = some m.cls := by
    rw [show hy_own z = (hy_m z).2.2.2.2 from rfl, hcls]; exact hown0
  have hlocks := B.notSynchronized
  obtain ⟨hle, hLV⟩ := hy_entLV G hv hlen
  have hl := lv_entry (as.map (hy_cv G)) (n := hy_mx z) hle
  rw [lg_entry_eq]
  generalize (lg_sl (as.map (hy_cv G)) ++ List.replicate (hy_mx z - (lg_sl (as.map (hy_cv G))).length) Slot.unset).toArray = ls at hl ⊢
  have hl2 := hLV ls hl
  have hZ : hy_Rt p l e (headSpec (hy_ws z) (hy_rm d)).room s m (as.map (hy_cv G)).toArray below meth c 0 0 (MQ below (hy_Qc G r σr) (as.map (hy_cv G)).toArray s 0 0 (hy_A G)) z G r σr := by
    intro H locs ls pc hH hS
    refine ⟨fun x hr1 hd hn hty => ?_, fun x hr1 hd hty => ?_, fun hr1 hd hty => ?_⟩
    · subst hr1
      rcases hty with hty | hty | hty | hty
      · exact W.iret hx hb (by rw [hr, hty]) (fun t ht hW => ⟨⟨x, (), rfl, rfl, by show hy_HR G σr t.heap; rw [ht]; exact hH⟩, hS.F ht⟩) hS.2.2 hd
      · exact W.zret (ty := .boolean) hx hb (by rw [hr, hty]) (by
          rcases hn.1 (by unfold hy_rt; rw [hty]) with z | z <;> rw [z] <;> decide) (fun t ht hW => ⟨⟨x, (), rfl, rfl, by show hy_HR G σr t.heap; rw [ht]; exact hH⟩, hS.F ht⟩) hS.2.2 hd
      · exact W.zret (ty := .byte) hx hb (by rw [hr, hty]) (by
          have h2 := hn.2.1 (by unfold hy_rt; rw [hty])
          rw [← h2]; exact pk_nb x) (fun t ht hW => ⟨⟨x, (), rfl, rfl, by show hy_HR G σr t.heap; rw [ht]; exact hH⟩, hS.F ht⟩) hS.2.2 hd
      · exact W.zret (ty := .char) hx hb (by rw [hr, hty]) (by
          have h3 := hn.2.2 (by unfold hy_rt; rw [hty])
          rw [← h3]; exact pk_nc x) (fun t ht hW => ⟨⟨x, (), rfl, rfl, by show hy_HR G σr t.heap; rw [ht]; exact hH⟩, hS.F ht⟩) hS.2.2 hd
    · subst hr1
      exact W.lret hx hb (by rw [hr, hty]) (fun t ht hW => ⟨⟨x, (), rfl, rfl, by show hy_HR G σr t.heap; rw [ht]; exact hH⟩, hS.F ht⟩) hS.2.2 hd
    · subst hr1
      exact W.vret hx hb (by rw [hr, hty]) (fun t ht hW => ⟨⟨(), rfl, trivial, by show hy_HR G σr t.heap; rw [ht]; exact hH⟩, hS.F ht⟩) hS.2.2 hd
  have hK := IH d z 0 r σr hz p e (headSpec (hy_ws z) (hy_rm d)).room s m (as.map (hy_cv G)).toArray below meth c 0 0 _ ⟨hx, hb, hown, hts⟩ hU hml (Nat.le_refl d) (Nat.le_refl _) (Nat.le_refl 0) (Nat.le_refl 0) hZ
  rw [hpc] at hK
  exact hK _ _ _ _ _ _ hrun (hy_entVT hv) (fun v h => by cases h) hH va_S.rf hl2
theorem hy_snd (hchk : ∀ y b, y < 230 → hy_chk y (hy_blk y b).1 (hy_blk y b).2 = true) (hpc : ∀ y, y < 230 → (hy_blk y 0).1 = 0) (l : Launch) (G : hy_G) : ∀ n, hy_Snd l G n := by
  intro n
  induction n with
  | zero => intro d y b r σr hy p e R s m args below meth c cells slots Q C hU hml hf hlo hcc hss Z; exact hy_dead (fun _ _ _ => rfl)
  | succ n ih =>
    intro d y b r σr hy p e R s m args below meth c cells slots Q C hU hml hf hlo hcc hss Z
    refine hy_ex_snd C hU hml hf hlo hcc hss rfl rfl Z (fun b' => ih d y b' r σr hy p e R s m args below meth c cells slots Q C hU hml hf hlo hcc hss Z) ?_ _ _ (hchk y b hy)
    intro z as σ r' σ' h0 hz hv hcl
    cases d with
    | zero => cases hcl
    | succ d' =>
      dsimp only at hcl
      cases hbq : Nat.beq (hy_ent (hy_mx z) as).length (hy_mx z) with
      | false => rw [hbq] at hcl; cases hcl
      | true =>
        rw [hbq] at hcl
        exact ⟨d', Nat.le_refl _, hy_met ih h0 hz hv (hy_beq hbq) hcl (hpc z hz)⟩
