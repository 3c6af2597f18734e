/-! ===== constructors, throws, the switch, the script ===== -/
section GM
variable {X : GX} {M N : MI} {pc : Nat} {L : List (Option Value)} {st : List Value} {h : SH} {nc ns n1 s1 : Nat} {P P1 : Out → SH → Prop}
theorem run0 {p : Program} {l : Launch} {e : Env} {R : Room} {s : State} {m : MethodId} {args : Array Value} {below : List Frame} {meth : Method} {c : Code} {H : Heap} {locs : List Loc} {cells slots mc ms : Nat} {g : JFrame} {rest : List Value} {Qa : State → Outcome → State → Prop} {XC : String → State → State → Prop} {free : Addr → Prop}
    (hr : va_Run p l e R s m args below meth c H locs cells slots mc ms g rest Qa free) : vx_Run p l e R s m args below meth c H locs cells slots mc ms g rest Qa XC free := fun T hT XS => Or.inl (hr T hT XS)
theorem g_callI {idx a : Nat} (As : List Value) (hd : decode M.2.1 pc = .ok (.invokespecial idx, 3)) (F : MF N) (hret : N.2.2.2.1 = none) (hy : N.1.name = "<init>") (hdp : DP M N) (hw : KW (Cond.methodLink M.1.cls idx N.1)) (hin : KW (Cond.instanceMethod N.1)) (hn : (parseMethodDescriptor N.1.desc).map (fun d => d.parameters.length) = some As.length)
    (hrest : (st.map fun v => v.category).sum ≤ 8) (hnh : ∀ x ∈ tableOf M.2.2.2.2.2, covers x pc = false) (hsl : (entL (.ref a :: As)).length ≤ N.2.2.1) (hN : Cd X N (.ref a :: As) h n1 s1 P1) (hx : ∀ E h1, ¬ P1 (.inr E) h1)
    (g : ∀ v h1, P1 (.inl v) h1 → Gd X M (pc + 3) L (v.toList ++ st) h1 nc ns P) : Gd X M pc L (As.reverse ++ .ref a :: st) h (n1 + nc) (s1 + ns) P := by
  intro p e R s m args below meth c A H locs cells slots ls mc ms S
  have b1 := S.2.2.2.1
  have b2 := S.2.2.2.2.1
  have b3 := S.2.2.2.2.2.1
  have b4 := S.2.2.2.2.2.2
  have hM := cd_met A.1 F hN hsl hx
  have cb := A.callB (n1 := n1) (s1 := s1) (args := args) F hdp hw hn
  rw [hret] at hM cb
  have hr := va_runI (p := p) (l := xl X) (e := e) (R := R) (s := s) (m := m) (args := args) (below := below) (meth := meth) (c := c) (H := H) (locs := locs) (cells := cells) (slots := slots) (As := As.map (mv X)) (rest := st.map (mv X)) (b := ph X a) (Ts := []) (g := F0 m pc ls ((As.map (mv X)).reverse ++ .ref (ph X a) :: st.map (mv X)))
    ⟨A.x, A.b, A.ml, A.own, fun w hw9 => by cases hw9⟩ hM ⟨cb, hy, A.word hin args⟩ ⟨Pcd.blind, pcd_pre A.w S.1⟩ rfl (by rw [List.length_map]) S.2.1.1 rfl (by rw [cat_st]; show 2 * 0 + _ ≤ 8; omega) hd ⟨by omega, by omega⟩
  have k9 := run_go A S (run0 hr) hnh (fun E h1 q => absurd q (hx E h1)) g
  rw [List.map_append, List.map_reverse]
  exact k9
theorem Act.nestM {p : Program} {R : Room} {s : State} {m : MethodId} {meth : Method} {c : Code} (A : Act X M p R s m meth c) {own host : String} {i : Nat} {y : MethodName} (hw : KN (.methodLinkNest own i y host)) (a : Array Value) : (Cond.methodLinkNest own i y host).before a s = true :=
  va_Nw.use rfl (va_Nw.warmM A.w (va_Nw.of rfl (A.1.1 _ hw)))
/-- a constructor of a nest mate -/
theorem g_callIN {idx a : Nat} {host : String} (As : List Value) (hd : decode M.2.1 pc = .ok (.invokespecial idx, 3)) (F : MF N) (hret : N.2.2.2.1 = none) (hy : N.1.name = "<init>") (hdp : DP M N) (hw : KN (Cond.methodLinkNest M.1.cls idx N.1 host)) (hin : KW (Cond.instanceMethod N.1)) (hn : (parseMethodDescriptor N.1.desc).map (fun d => d.parameters.length) = some As.length)
    (hrest : (st.map fun v => v.category).sum ≤ 8) (hnh : ∀ x ∈ tableOf M.2.2.2.2.2, covers x pc = false) (hsl : (entL (.ref a :: As)).length ≤ N.2.2.1) (hN : Cd X N (.ref a :: As) h n1 s1 P1) (hx : ∀ E h1, ¬ P1 (.inr E) h1)
    (g : ∀ v h1, P1 (.inl v) h1 → Gd X M (pc + 3) L (v.toList ++ st) h1 nc ns P) : Gd X M pc L (As.reverse ++ .ref a :: st) h (n1 + nc) (s1 + ns) P := by
  intro p e R s m args below meth c A H locs cells slots ls mc ms S
  have b1 := S.2.2.2.1
  have b2 := S.2.2.2.2.1
  have b3 := S.2.2.2.2.2.1
  have b4 := S.2.2.2.2.2.2
  have d1 := A.2.2.2.2.2.1
  have d2 := A.2.2.2.2.2.2
  have hM := cd_met A.1 F hN hsl hx
  have cb : va_CN R s args M.1.cls idx N.1 host N.2.1 N.2.2.1 N.2.2.2.1 [Cond.code N.1 N.2.1 N.2.2.1 N.2.2.2.1] (rmOf N n1 s1) n1 s1 As.length := by
    refine ⟨⟨rfl, rfl, Nat.le_trans hdp.1 d1, Nat.le_trans hdp.2 d2, fun w hw9 a' U hU => ?_, List.mem_singleton.mpr rfl⟩, A.word F.1 args, A.word F.2.1 args, ⟨F.2.2.2.1, F.2.2.2.2.1⟩, fun sig h9 => ?_, A.nestM hw args⟩
    · rw [List.mem_singleton.mp hw9]; exact A.wordU F.1 a' U hU
    · rw [h9] at hn; exact (Option.some.inj hn).symm
  rw [hret] at hM cb
  have hr := va_runIN (p := p) (l := xl X) (e := e) (R := R) (s := s) (m := m) (args := args) (below := below) (meth := meth) (c := c) (H := H) (locs := locs) (cells := cells) (slots := slots) (As := As.map (mv X)) (rest := st.map (mv X)) (b := ph X a) (Ts := []) (g := F0 m pc ls ((As.map (mv X)).reverse ++ .ref (ph X a) :: st.map (mv X)))
    ⟨A.x, A.b, A.ml, A.own, fun w hw9 => by cases hw9⟩ hM ⟨cb, hy, A.word hin args⟩ ⟨Pcd.blind, pcd_pre A.w S.1⟩ rfl (by rw [List.length_map]) S.2.1.1 rfl (by rw [cat_st]; show 2 * 0 + _ ≤ 8; omega) hd ⟨by omega, by omega⟩
  have k9 := run_go A S (run0 hr) hnh (fun E h1 q => absurd q (hx E h1)) g
  rw [List.map_append, List.map_reverse]
  exact k9
theorem g_objInit {idx a : Nat} (hd : decode M.2.1 pc = .ok (.invokespecial idx, 3)) (hw : KW (Cond.methodLink M.1.cls idx objectInit)) (hi : KW (Cond.instanceMethod objectInit)) (hc : KW (Cond.code objectInit ⟨#[0xb1]⟩ 1 none)) (hdp : 1 ≤ M.2.2.2.2.1) (hrest : (st.map fun v => v.category).sum ≤ 8)
    (g : Gd X M (pc + 3) L st h nc ns P) : Gd X M pc L (.ref a :: st) h nc ns P :=
  Gd.go (fun p e R s m args below meth c A H locs cells slots ls Q hl hV k9 => by
    have d1 := A.2.2.2.2.2.1
    have d2 := A.2.2.2.2.2.2
    exact W.objInit A.x A.b A.own (A.word hw args) (A.word hi args) (A.word hc args) rfl (hl.1.trans A.ml.symm) rfl hd (by omega) (by rw [cat_st]; show 2 * 0 + _ + 12 ≤ _; omega) k9) g
theorem g_tswO {dflt lo hi : Int} {offs : Array Int} {len tgt : Nat} {x : Int32} (hd : decode M.2.1 pc = .ok (.tableswitch dflt lo hi offs, len)) (hx : x.toInt < lo ∨ hi < x.toInt) (ht : (pc : Int) + dflt = (tgt : Int)) (g : Gd X M tgt L st h nc ns P) : Gd X M pc L (.int x :: st) h nc ns P :=
  Gd.go (fun p e R s m args below meth c A H locs cells slots ls Q hl hV k9 => lv_tableOut A.x A.b hd hx ht k9) g
theorem g_tswI {dflt lo hi off : Int} {offs : Array Int} {len tgt : Nat} {x : Int32} (hd : decode M.2.1 pc = .ok (.tableswitch dflt lo hi offs, len)) (h1 : ¬ x.toInt < lo) (h2 : ¬ hi < x.toInt) (ho : offs[(x.toInt - lo).toNat]? = some off) (ht : (pc : Int) + off = (tgt : Int)) (g : Gd X M tgt L st h nc ns P) : Gd X M pc L (.int x :: st) h nc ns P :=
  Gd.go (fun p e R s m args below meth c A H locs cells slots ls Q hl hV k9 => lv_tableIn A.x A.b hd h1 h2 ho ht k9) g
theorem VR.S {H : Heap} (V : VR X h H) : va_S (fr X) (xs0 X).heap H [] := ⟨V.base, fun q hq _ => V.2.2.1 q hq, fun z hz => by cases hz⟩
theorem va_Wl {p : Program} {l : Launch} {e : Env} {R : Room} {s : State} {m : MethodId} {args : Array Value} {below : List Frame} {meth : Method} {c : Code} {H : Heap} {locs : List Loc} {cells slots : Nat} {Q : State → Prop} {g : JFrame} (k : W p l e R s m args below meth c H locs cells slots Q g) : W p l e R s m args below meth c H locs cells slots Q g := k
theorem Gd.goS {pc2 : Nat} {st2 : List Value}
    (k : ∀ (p : Program) (e : Env) (R : Room) (s : State) (m : MethodId) (args : Array Value) (below : List Frame) (meth : Method) (c : Code), Act X M p R s m meth c → ∀ (H : Heap) (locs : List Loc) (cells slots : Nat) (ls : Array Slot) (Q : State → Prop), (∀ z ∈ locs, (xs0 X).heap.size ≤ z.base) → VR X h H →
      W p (xl X) e R s m args below meth c H locs cells slots Q (F0 m pc2 ls (st2.map (mv X))) → W p (xl X) e R s m args below meth c H locs cells slots Q (F0 m pc ls (st.map (mv X))))
    (g : Gd X M pc2 L st2 h nc ns P) : Gd X M pc L st h nc ns P :=
  fun p e R s m args below meth c A H locs cells slots ls mc ms S => k p e R s m args below meth c A H locs cells slots ls _ S.2.2.1 S.1 (g p e R s m args below meth c A H locs cells slots ls mc ms S)
theorem g_sld {i : Int32} (hd : decode M.2.1 pc = .ok (.iaload, 1)) (hin : vp_in i (xL X)) (g : Gd X M (pc + 1) L (.int (xsc X i.toNatClampNeg) :: st) h nc ns P) : Gd X M pc L (.int i :: .ref 0 :: st) h nc ns P :=
  Gd.goS (fun p e R s m args below meth c A H locs cells slots ls Q hz hV k9 => va_sld (A := fr X) A.x A.b (A.1.2.2.1.1.moved A.w.alike) (A.1.2.2.1.2 0 (by omega)) (fun q => absurd (A.1.2.2.1.2 0 (by omega)) (Nat.not_lt.mpr q)) ⟨hV.base, fun q hq _ => hV.2.2.1 q hq, hz⟩ hin hd k9) g
theorem g_slen (hd : decode M.2.1 pc = .ok (.arraylength, 1)) (g : Gd X M (pc + 1) L (.int (Int32.ofNat (xL X)) :: st) h nc ns P) : Gd X M pc L (.ref 0 :: st) h nc ns P :=
  Gd.goS (fun p e R s m args below meth c A H locs cells slots ls Q hz hV k9 => va_slen (A := fr X) A.x A.b (A.1.2.2.1.1.moved A.w.alike) (A.1.2.2.1.2 0 (by omega)) (fun q => absurd (A.1.2.2.1.2 0 (by omega)) (Nat.not_lt.mpr q)) ⟨hV.base, fun q hq _ => hV.2.2.1 q hq, hz⟩ hd k9) g
end GM
