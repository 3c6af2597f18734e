/-! ===== calls ===== -/
def entL : List Value → List (Option Value)
  | [] => []
  | v :: r => if v.category = 2 then some v :: none :: entL r else some v :: entL r
/-- the locals at a method's entry -/
def ent (n : Nat) (args : List Value) : List (Option Value) := entL args ++ List.replicate (n - (entL args).length) none
theorem lvl_app {X : GX} : ∀ (A B : List (Option Value)) (j : Nat), lvl X j (A ++ B) = lvl X j A ++ lvl X (j + A.length) B
  | [], B, j => rfl
  | none :: r, B, j => by
    show lvl X (j + 1) (r ++ B) = lvl X (j + 1) r ++ _
    rw [lvl_app r B (j + 1), List.length_cons, show j + 1 + r.length = j + (r.length + 1) by omega]
  | some v :: r, B, j => by
    show (j, mv X v) :: lvl X (j + 1) (r ++ B) = (j, mv X v) :: lvl X (j + 1) r ++ _
    rw [lvl_app r B (j + 1), List.length_cons, show j + 1 + r.length = j + (r.length + 1) by omega]; rfl
theorem lvl_none {X : GX} : ∀ (n j : Nat), lvl X j (List.replicate n none) = []
  | 0, _ => rfl
  | n + 1, j => by rw [List.replicate_succ]; exact lvl_none n (j + 1)
theorem lvl_ent {X : GX} : ∀ (args : List Value) (j : Nat), lvl X j (entL args) = lv_args j (args.map (mv X))
  | [], j => rfl
  | v :: r, j => by
    unfold entL
    rw [List.map_cons]
    unfold lv_args
    rw [mv_cat]
    by_cases h : v.category = 2
    · rw [if_pos h, if_pos h]; show (j, mv X v) :: lvl X (j + 1 + 1) (entL r) = _; rw [lvl_ent r]
    · rw [if_neg h, if_neg h]; show (j, mv X v) :: lvl X (j + 1) (entL r) = _; rw [lvl_ent r]
theorem ent_len {X : GX} : ∀ (args : List Value), (lg_sl (args.map (mv X))).length = (entL args).length
  | [] => rfl
  | v :: r => by
    have ih := ent_len (X := X) r
    unfold entL
    rw [List.map_cons]
    unfold lg_sl at ih ⊢
    rw [List.flatMap_cons, List.length_append, ih, mv_cat]
    by_cases h : v.category = 2
    · rw [if_pos h, if_pos h]; simp; omega
    · rw [if_neg h, if_neg h]; simp; omega
/-- a method's contract: from its entry with these arguments it ends so that P holds, with at most nc cells and ns slots made -/
def Cd (X : GX) (N : MI) (args : List Value) (h : SH) (nc ns : Nat) (P : Out → SH → Prop) : Prop := Gd X N 0 (ent N.2.2.1 args) [] h nc ns P
def Pcd (X : GX) (args : List Value) (h : SH) : Array Value → State → Prop := fun v U => v = (args.map (mv X)).toArray ∧ (xs0 X).WarmedH U.vm ∧ VR X h U.heap
theorem Pcd.blind {X : GX} {args : List Value} {h : SH} : FrameBlind (Pcd X args h) := fun _ _ _ _ q => q
def rmOf (N : MI) (nc ns : Nat) : Room := { frames := N.2.2.2.2.1, cells := nc, slots := ns, locals := 38 * N.2.2.2.2.1 }
/-- what the tables say of a method without a table of exceptions -/
def MF (N : MI) : Prop := KW (Cond.code N.1 N.2.1 N.2.2.1 N.2.2.2.1) ∧ KW (Cond.initialized N.1.cls) ∧ plainName N.1.cls = true ∧ N.1.cls ≠ "java/lang/invoke/MethodHandle" ∧ N.1.cls ≠ "java/lang/invoke/VarHandle" ∧ N.2.2.2.2.2 = []
theorem VR.base {X : GX} {h : SH} {H : Heap} (V : VR X h H) : (xs0 X).heap.size ≤ H.size := by rw [V.2.1, ph_ge V.1]; omega
theorem cd_W {X : GX} {N : MI} {args : List Value} {h : SH} {nc ns : Nat} {P : Out → SH → Prop} (hX : S0 X) (hN : Cd X N args h nc ns P) (hsl : (entL args).length ≤ N.2.2.1)
    {p : Program} {e : Env} {s : State} {m : MethodId} {below : List Frame} {meth : Method} {c : Code} (hx : p.tables.exec = Jvm.exec) (hb : c.code = N.2.1) (hr : meth.sig.returnType = N.2.2.2.1) (hml : c.maxLocals = N.2.2.1) (ho : s.vm.findClass N.1.cls = some m.cls) (hlk : meth.locks = false) (hnm : meth.name = N.1.name) (htb : c.exceptionTable.toList = tableOf N.2.2.2.2.2)
    (hW : (xs0 X).WarmedH s.vm) (hV : VR X h s.heap) : W p (xl X) e (rmOf N nc ns) s m (args.map (mv X)).toArray below meth c s.heap [] 0 0 (vx_MQ below (Qo X P) (Xo X P) (args.map (mv X)).toArray s nc ns (fr X)) (entryFrame m (args.map (mv X)).toArray N.2.2.1) := by
  have hl := lv_entry (args.map (mv X)) (n := N.2.2.1) (by rw [ent_len]; exact hsl)
  rw [lg_entry_eq]
  refine hN p e (rmOf N nc ns) s m (args.map (mv X)).toArray below meth c ⟨hX, ⟨hx, hb, hr, hml, ho, hlk, hnm, htb⟩, hW, hV.2.2.1, hV.base, Nat.le_refl _, Nat.le_refl _⟩ s.heap [] 0 0 _ nc ns ⟨hV, ?_, fun z hz => (by cases hz), by omega, by omega, Nat.le_refl _, Nat.le_refl _⟩
  unfold ent
  rw [lvl_app, lvl_none, List.append_nil, lvl_ent]
  exact hl
theorem cd_metX {X : GX} {N : MI} {args : List Value} {h : SH} {nc ns : Nat} {P : Out → SH → Prop} (hX : S0 X) (F : MF N) (hN : Cd X N args h nc ns P) (hsl : (entL args).length ≤ N.2.2.1) :
    vx_Met (xl X) N.1 [Cond.code N.1 N.2.1 N.2.2.1 N.2.2.2.1] (rmOf N nc ns) (Pcd X args h) (Qo X P) (Xo X P) nc ns (fr X) := by
  refine vx_ofW F.2.2.1 rfl ?_
  intro p e s m args' below meth c s₁ B hml hnt hP
  obtain ⟨rfl, hW, hV⟩ := hP
  exact cd_W hX hN hsl B.exec B.bytes B.returns hml (findClass_of_methodNamed B.named) B.notSynchronized (name_of_methodNamed B.named B.method).1 (by rw [F.2.2.2.2.2]; exact List.eq_nil_iff_forall_not_mem.mpr hnt) hW hV
theorem cd_met {X : GX} {N : MI} {args : List Value} {h : SH} {nc ns : Nat} {P : Out → SH → Prop} (hX : S0 X) (F : MF N) (hN : Cd X N args h nc ns P) (hsl : (entL args).length ≤ N.2.2.1) (hno : ∀ E t, ¬ P (.inr E) t) :
    Met (xl X) N.1 [Cond.code N.1 N.2.1 N.2.2.1 N.2.2.2.1] (rmOf N nc ns) (Pcd X args h) (Qo X P) nc ns (fr X) := by
  have k := cd_metX hX F hN hsl
  unfold vx_Met MetFree at k
  unfold Met MetFree
  intro p e ha hc hk s m args' below hf happ hP hT
  obtain ⟨t, o, a1, a2, a3, a4⟩ := k p e ha hc hk s m args' below hf happ hP hT
  refine ⟨t, o, a1, a2, a3, ?_⟩
  rcases a4 with a4 | ⟨q, -, E, ce, Lc, ⟨h2, c1, -⟩, -⟩
  · exact a4
  · exact absurd c1 (hno E h2)
section GC
variable {X : GX} {M N : MI} {pc : Nat} {L : List (Option Value)} {st : List Value} {h : SH} {nc ns n1 s1 : Nat} {P P1 : Out → SH → Prop}
/-- the depth fits -/
def DP (M N : MI) : Prop := N.2.2.2.2.1 + 1 ≤ M.2.2.2.2.1 ∧ 8 + (N.2.2.1 + 11) + 38 * N.2.2.2.2.1 ≤ 38 * M.2.2.2.2.1
theorem map_st (v : Option Value) (st : List Value) : (v.map (mv X)).toList ++ st.map (mv X) = (v.toList ++ st).map (mv X) := by cases v <;> rfl
theorem cat_st (st : List Value) : ((st.map (mv X)).map fun v => v.category).sum = (st.map fun v => v.category).sum := by
  induction st with
  | nil => rfl
  | cons v r ih => simp only [List.map_cons, List.sum_cons, mv_cat, ih]
/-- behind a call's run -/
theorem run_go {p : Program} {e : Env} {R : Room} {s : State} {m : MethodId} {args : Array Value} {below : List Frame} {meth : Method} {c : Code} {H : Heap} {locs : List Loc} {cells slots : Nat} {ls : Array Slot} {mc ms : Nat} {a : Array Value} {st0 : List Value}
    (A : Act X M p R s m meth c) (S : St X M R L h (n1 + nc) (s1 + ns) H locs cells slots ls mc ms)
    (hr : vx_Run p (xl X) e R s m args below meth c H locs cells slots n1 s1 (F0 m pc ls st0) (st.map (mv X)) (Qo X P1 a) (Xo X P1) (fr X))
    (hnh : ∀ x ∈ tableOf M.2.2.2.2.2, covers x pc = false) (hx : ∀ E h1, P1 (.inr E) h1 → P (.inr E) h1)
    (g : ∀ v h1, P1 (.inl v) h1 → Gd X M (pc + 3) L (v.toList ++ st) h1 nc ns P) : W p (xl X) e R s m args below meth c H locs cells slots (vx_MQ below (Qo X P) (Xo X P) args s mc ms (fr X)) (F0 m pc ls st0) := by
  have b1 := S.2.2.2.1
  have b2 := S.2.2.2.2.1
  have hloc : ∀ {L2 : List Loc}, (∀ z ∈ L2, fr X z.base) → ∀ z ∈ locs ++ L2, (xs0 X).heap.size ≤ z.base := fun hL z hz => by
    rcases List.mem_append.mp hz with q | q
    · exact S.2.2.1 z q
    · exact hL z q
  intro T hT XS
  rcases hr T hT XS with ⟨v, st₀, t, T', L2, h0, X', hL, e1, e2, ⟨v2, h1, hP1, hv, hV1⟩, stp⟩ | ⟨q, st₀, t, T', L2, E, ce, h0, X', hL, e1, e2, ⟨h1, hP1, hV1⟩, hce, hcv, hcl, stp⟩
  · have hv2 : v = v2.map (mv X) := Outcome.returned.inj hv
    subst hv2
    obtain ⟨t2, a1, a2⟩ := g v2 h1 hP1 p e R s m args below meth c A T'.heap (locs ++ L2) (cells + n1) (slots + s1) ls mc ms ⟨by rw [e1]; exact hV1, S.2.1, hloc hL, by omega, by omega, S.2.2.2.2.2⟩ T' rfl X'
    rw [← map_st] at a1
    exact ⟨t2, stp t2 a1, a2⟩
  · have k := vx_out (p := p) (l := xl X) (e := e) (R := R) (s := s) (m := m) (args := args) (below := below) (meth := meth) (c := c) (H := T'.heap) (locs := locs ++ L2) (cells := cells + n1) (slots := slots + s1) (Qc := Qo X P) (XC := Xo X P) (free := fr X) (ls := ls) (rest := st.map (mv X)) (pc := pc) (E := E) (ce := ce) (q := q) (mc := mc) (ms := ms)
      (by rw [A.tb]; exact hnh) A.lk (by rw [e1]; exact hce) hcv hcl (fun t9 h9 _ => ⟨h1, hx E h1 hP1, by rw [h9, e1]; exact hV1⟩) (hloc hL) (by omega) (by omega)
    obtain ⟨t2, a1, a2⟩ := k T' rfl X'
    exact ⟨t2, stp.trans a1, a2⟩
theorem pcd_pre {s : State} {H : Heap} {args : List Value} (hW : (xs0 X).WarmedH s.vm) (hV : VR X h H) : ∀ U : State, U.heap = H → s.WarmedH U.vm → Pcd X args h (args.map (mv X)).toArray U := fun U hU hU2 => ⟨rfl, State.WarmedH.trans hW hU2, by rw [hU]; exact hV⟩
theorem Act.callB {p : Program} {R : Room} {s : State} {m : MethodId} {meth : Method} {c : Code} {args : Array Value} {idx n : Nat} (A : Act X M p R s m meth c) (F : MF N) (hd : DP M N) (hw : KW (Cond.methodLink M.1.cls idx N.1)) (hn : (parseMethodDescriptor N.1.desc).map (fun d => d.parameters.length) = some n) :
    CallB R s args M.1.cls idx N.1 N.2.1 N.2.2.1 N.2.2.2.1 [Cond.code N.1 N.2.1 N.2.2.1 N.2.2.2.1] (rmOf N n1 s1) n1 s1 n := by
  have b1 := A.2.2.2.2.2.1
  have b2 := A.2.2.2.2.2.2
  refine ⟨rfl, rfl, Nat.le_trans hd.1 b1, Nat.le_trans hd.2 b2, fun w hw9 a' U hU => ?_, List.mem_singleton.mpr rfl, A.word F.1 args, A.word F.2.1 args, ⟨F.2.2.2.1, F.2.2.2.2.1⟩, fun sig h9 => ?_, A.word hw args⟩
  · rw [List.mem_singleton.mp hw9]; exact A.wordU F.1 a' U hU
  · rw [h9] at hn; exact (Option.some.inj hn).symm
/-- the receiver: its class, by its name -/
theorem VR.recv {p : Program} {R : Room} {s : State} {m : MethodId} {meth : Method} {c : Code} {H : Heap} {a k : Nat} (A : Act X M p R s m meth c) (V : VR X h H) (ho : Ob h a k) (hk : k < 12) : ∃ cellB : Cell, H[ph X a]? = some cellB ∧ cellB.vm.isStatics = false ∧ s.vm.findClass (ctR k) = some cellB.cls :=
  va_recv (q0 := 0) A.k (va_one (V.ob ho hk)) (ctl_at k hk) rfl
theorem g_callV {idx a k : Nat} (As : List Value) (hd : decode M.2.1 pc = .ok (.invokevirtual idx, 3)) (F : MF N) (hdp : DP M N) (hw : KW (Cond.methodLink M.1.cls idx N.1)) (hin : KW (Cond.instanceMethod N.1)) (hse : KW (Cond.selects (ctR k) N.1 N.1)) (hn : (parseMethodDescriptor N.1.desc).map (fun d => d.parameters.length) = some As.length)
    (hk : k < 12) (hrest : (st.map fun v => v.category).sum ≤ 8) (hnh : ∀ x ∈ tableOf M.2.2.2.2.2, covers x pc = false) (ho : Ob h a k) (hsl : (entL (.ref a :: As)).length ≤ N.2.2.1) (hN : Cd X N (.ref a :: As) h n1 s1 P1) (hx : ∀ E h1, P1 (.inr E) h1 → P (.inr E) h1)
    (g : ∀ v h1, P1 (.inl v) h1 → Gd X M (pc + 3) L (v.toList ++ st) h1 nc ns P) : Gd X M pc L (As.reverse ++ .ref a :: st) h (n1 + nc) (s1 + ns) P := by
  intro p e R s m args below meth c A H locs cells slots ls mc ms S
  have b1 := S.2.2.2.1
  have b2 := S.2.2.2.2.1
  have b3 := S.2.2.2.2.2.1
  have b4 := S.2.2.2.2.2.2
  have hr := vx_runV (p := p) (l := xl X) (e := e) (R := R) (s := s) (m := m) (args := args) (below := below) (meth := meth) (c := c) (H := H) (locs := locs) (cells := cells) (slots := slots) (As := As.map (mv X)) (rest := st.map (mv X)) (b := ph X a) (Ts := []) (g := F0 m pc ls ((As.map (mv X)).reverse ++ .ref (ph X a) :: st.map (mv X)))
    ⟨A.x, A.b, A.ml, A.own, fun w hw9 => by cases hw9⟩ (cd_metX A.1 F hN hsl) (C := ctR k) ⟨A.callB (args := args) F hdp hw hn, A.word hin args, A.word hse args⟩ ⟨Pcd.blind, S.1.recv A ho hk, pcd_pre A.w S.1⟩ rfl (by rw [List.length_map]) S.2.1.1 rfl (by rw [cat_st]; show 2 * 0 + _ ≤ 8; omega) hd ⟨by omega, by omega⟩
  have k9 := run_go A S hr hnh hx g
  rw [List.map_append, List.map_reverse]
  exact k9
theorem g_callS {idx : Nat} (As : List Value) (hd : decode M.2.1 pc = .ok (.invokestatic idx, 3)) (F : MF N) (hdp : DP M N) (hw : KW (Cond.methodLink M.1.cls idx N.1)) (hin : KW (Cond.static N.1)) (hn : (parseMethodDescriptor N.1.desc).map (fun d => d.parameters.length) = some As.length)
    (hrest : (st.map fun v => v.category).sum ≤ 8) (hnh : ∀ x ∈ tableOf M.2.2.2.2.2, covers x pc = false) (hsl : (entL As).length ≤ N.2.2.1) (hN : Cd X N As h n1 s1 P1) (hx : ∀ E h1, P1 (.inr E) h1 → P (.inr E) h1)
    (g : ∀ v h1, P1 (.inl v) h1 → Gd X M (pc + 3) L (v.toList ++ st) h1 nc ns P) : Gd X M pc L (As.reverse ++ st) h (n1 + nc) (s1 + ns) P := by
  intro p e R s m args below meth c A H locs cells slots ls mc ms S
  have b1 := S.2.2.2.1
  have b2 := S.2.2.2.2.1
  have b3 := S.2.2.2.2.2.1
  have b4 := S.2.2.2.2.2.2
  have hr := vx_runS (p := p) (l := xl X) (e := e) (R := R) (s := s) (m := m) (args := args) (below := below) (meth := meth) (c := c) (H := H) (locs := locs) (cells := cells) (slots := slots) (As := As.map (mv X)) (rest := st.map (mv X)) (Ts := []) (g := F0 m pc ls ((As.map (mv X)).reverse ++ st.map (mv X)))
    ⟨A.x, A.b, A.ml, A.own, fun w hw9 => by cases hw9⟩ (cd_metX A.1 F hN hsl) ⟨A.callB (args := args) F hdp hw hn, A.word hin args⟩ ⟨Pcd.blind, pcd_pre A.w S.1⟩ rfl (by rw [List.length_map]) S.2.1.1 rfl (by rw [cat_st]; show 2 * 0 + _ ≤ 8; omega) hd ⟨by omega, by omega⟩
  have k9 := run_go A S hr hnh hx g
  rw [List.map_append, List.map_reverse]
  exact k9
end GC
