/-! ===== a call of a method with a table ===== -/
def MFH (N : MI) : Prop := KW (Cond.codeWith N.1 N.2.1 N.2.2.1 N.2.2.2.1 N.2.2.2.2.2) ∧ KW (Cond.initialized N.1.cls) ∧ plainName N.1.cls = true ∧ N.1.cls ≠ "java/lang/invoke/MethodHandle" ∧ N.1.cls ≠ "java/lang/invoke/VarHandle"
section WTH
variable {X : GX} {M N : MI} {pc : Nat} {L : List (Option Value)} {st : List Value} {h : SH} {nc ns n1 s1 : Nat} {P P1 : Out → SH → Prop}
theorem cd_metH {args : List Value} (hX : S0 X) (F : MFH N) (hN : Cd X N args h nc ns P) (hsl : (entL args).length ≤ N.2.2.1) :
    vx_Met (xl X) N.1 [Cond.codeWith N.1 N.2.1 N.2.2.1 N.2.2.2.1 N.2.2.2.2.2] (rmOf N nc ns) (Pcd X args h) (Qo X P) (Xo X P) nc ns (fr X) := by
  refine vx_ofWH F.2.2.1 rfl ?_
  intro p e s m args' below meth c s₁ B hml hP
  obtain ⟨rfl, hW, hV⟩ := hP
  have hcw : (Cond.codeWith N.1 N.2.1 N.2.2.1 N.2.2.2.1 N.2.2.2.2.2).before (args.map (mv X)).toArray s = true := word_at hW (good_of_word F.1.2) (hX.1 _ F.1.1)
  exact cd_W hX hN hsl B.exec B.bytes B.returns hml (findClass_of_methodNamed B.named) B.notSynchronized (name_of_methodNamed B.named B.method).1 (vx_table (x := N.1) B hcw) hW hV
theorem g_callVH {idx a k : Nat} (As : List Value) (hd : decode M.2.1 pc = .ok (.invokevirtual idx, 3)) (F : MFH N) (hdp : DP M N) (hw : KW (Cond.methodLink M.1.cls idx N.1)) (hin : KW (Cond.instanceMethod N.1)) (hse : KW (Cond.selects (ctR k) N.1 N.1)) (hn : (parseMethodDescriptor N.1.desc).map (fun d => d.parameters.length) = some As.length)
    (hk : k < 12) (hrest : (st.map fun v => v.category).sum ≤ 8) (hnh : ∀ x ∈ tableOf M.2.2.2.2.2, covers x pc = false) (ho : Ob h a k) (hsl : (entL (.ref a :: As)).length ≤ N.2.2.1) (hN : Cd X N (.ref a :: As) h n1 s1 P1) (hx : ∀ E h1, P1 (.inr E) h1 → P (.inr E) h1)
    (g : ∀ v h1, P1 (.inl v) h1 → Gd X M (pc + 3) L (v.toList ++ st) h1 nc ns P) : Gd X M pc L (As.reverse ++ .ref a :: st) h (n1 + nc) (s1 + ns) P := by
  intro p e R s m args below meth c A H locs cells slots ls mc ms S
  have b1 := S.2.2.2.1
  have b2 := S.2.2.2.2.1
  have b3 := S.2.2.2.2.2.1
  have b4 := S.2.2.2.2.2.2
  have cw : vx_CVW R s args M.1.cls (ctR k) idx N.1 N.2.1 N.2.2.1 N.2.2.2.1 N.2.2.2.2.2 [Cond.codeWith N.1 N.2.1 N.2.2.1 N.2.2.2.1 N.2.2.2.2.2] (rmOf N n1 s1) n1 s1 As.length :=
    ⟨⟨rfl, rfl, Nat.le_trans hdp.1 A.2.2.2.2.2.1, Nat.le_trans hdp.2 A.2.2.2.2.2.2, fun w hw9 a' U hU => by rw [List.mem_singleton.mp hw9]; exact A.wordU F.1 a' U hU, List.mem_singleton.mpr rfl⟩, A.word F.1 args, A.word F.2.1 args, F.2.2.2, fun sig h9 => by rw [h9] at hn; exact (Option.some.inj hn).symm, A.word hw args, A.word hin args, A.word hse args⟩
  have hr := vx_runVX (p := p) (l := xl X) (e := e) (R := R) (s := s) (m := m) (args := args) (below := below) (meth := meth) (c := c) (H := H) (locs := locs) (cells := cells) (slots := slots) (As := As.map (mv X)) (rest := st.map (mv X)) (b := ph X a) (Ts := []) (g := F0 m pc ls ((As.map (mv X)).reverse ++ .ref (ph X a) :: st.map (mv X)))
    ⟨A.x, A.b, A.ml, A.own, fun w hw9 => by cases hw9⟩ (cd_metH A.1 F hN hsl) (C := ctR k) cw ⟨Pcd.blind, S.1.recv A ho hk, pcd_pre A.w S.1⟩ rfl (by rw [List.length_map]) S.2.1.1 rfl (by rw [cat_st]; show 2 * 0 + _ ≤ 8; omega) hd ⟨by omega, by omega⟩
  have k9 := run_go A S hr hnh hx g
  rw [List.map_append, List.map_reverse]
  exact k9
theorem g_callSH {idx : Nat} (As : List Value) (hd : decode M.2.1 pc = .ok (.invokestatic idx, 3)) (F : MFH N) (hdp : DP M N) (hw : KW (Cond.methodLink M.1.cls idx N.1)) (hin : KW (Cond.static N.1)) (hn : (parseMethodDescriptor N.1.desc).map (fun d => d.parameters.length) = some As.length)
    (hrest : (st.map fun v => v.category).sum ≤ 8) (hnh : ∀ x ∈ tableOf M.2.2.2.2.2, covers x pc = false) (hsl : (entL As).length ≤ N.2.2.1) (hN : Cd X N As h n1 s1 P1) (hx : ∀ E h1, P1 (.inr E) h1 → P (.inr E) h1)
    (g : ∀ v h1, P1 (.inl v) h1 → Gd X M (pc + 3) L (v.toList ++ st) h1 nc ns P) : Gd X M pc L (As.reverse ++ st) h (n1 + nc) (s1 + ns) P := by
  intro p e R s m args below meth c A H locs cells slots ls mc ms S
  have b1 := S.2.2.2.1
  have b2 := S.2.2.2.2.1
  have b3 := S.2.2.2.2.2.1
  have b4 := S.2.2.2.2.2.2
  have cw : vx_CSW R s args M.1.cls idx N.1 N.2.1 N.2.2.1 N.2.2.2.1 N.2.2.2.2.2 [Cond.codeWith N.1 N.2.1 N.2.2.1 N.2.2.2.1 N.2.2.2.2.2] (rmOf N n1 s1) n1 s1 As.length :=
    ⟨⟨rfl, rfl, Nat.le_trans hdp.1 A.2.2.2.2.2.1, Nat.le_trans hdp.2 A.2.2.2.2.2.2, fun w hw9 a' U hU => by rw [List.mem_singleton.mp hw9]; exact A.wordU F.1 a' U hU, List.mem_singleton.mpr rfl⟩, A.word F.1 args, A.word F.2.1 args, F.2.2.2, fun sig h9 => by rw [h9] at hn; exact (Option.some.inj hn).symm, A.word hw args, A.word hin args⟩
  have hr := vx_runSX (p := p) (l := xl X) (e := e) (R := R) (s := s) (m := m) (args := args) (below := below) (meth := meth) (c := c) (H := H) (locs := locs) (cells := cells) (slots := slots) (As := As.map (mv X)) (rest := st.map (mv X)) (Ts := []) (g := F0 m pc ls ((As.map (mv X)).reverse ++ st.map (mv X)))
    ⟨A.x, A.b, A.ml, A.own, fun w hw9 => by cases hw9⟩ (cd_metH A.1 F hN hsl) cw ⟨Pcd.blind, pcd_pre A.w S.1⟩ rfl (by rw [List.length_map]) S.2.1.1 rfl (by rw [cat_st]; show 2 * 0 + _ ≤ 8; omega) hd ⟨by omega, by omega⟩
  have k9 := run_go A S hr hnh hx g
  rw [List.map_append, List.map_reverse]
  exact k9
end WTH
theorem mhX7_fillEdition : MFH mX7_fillEdition := ⟨kw_444, kw_100, by decide, by decide, by decide⟩
theorem mhL_told : MFH mL_told := ⟨kw_1076, kw_92, by decide, by decide, by decide⟩
