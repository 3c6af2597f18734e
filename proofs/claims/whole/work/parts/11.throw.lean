/-! ===== a throw, constant texts ===== -/
def dcw (w : Cond) : Bool := match w with
  | .declares _ => true
  | .castable _ _ => true
  | _ => false
theorem dcw_at {w : Cond} (hw : dcw w = true) {s U : State} (hW : s.WarmedH U.vm) {a a' : Array Value} (h : w.before a s = true) : w.before a' U = true := by
  cases w with
  | declares x => exact va_Nw.use rfl (va_Nw.warmD hW (va_Nw.of rfl h))
  | castable C T => exact va_Nw.use rfl (va_Nw.warmC hW (va_Nw.of rfl h))
  | _ => simp [dcw] at hw
theorem tw7 : ∀ w ∈ vx_atS RX7 68 "java/lang/IllegalStateException" ["java/lang/RuntimeException", "java/lang/Exception"], w ∈ lw_tbl ∧ (goodWord w = true ∨ dcw w = true) ∧ vx_ot w = true := by decide +kernel
section GT
variable {X : GX} {M N : MI} {pc : Nat} {L : List (Option Value)} {st : List Value} {h : SH} {nc ns n1 s1 : Nat} {P P1 : Out → SH → Prop}
theorem VR.opq {H H1 : Heap} (V : VR X h H) (hsz : H.size ≤ H1.size) (ho : ∀ q : Nat, q < H.size → H1[q]? = H[q]?) : VR X (ext h (hz h + (H1.size - H.size))) H1 := by
  have hb : ∀ b, b < hz h → eE X (ext h (hz h + (H1.size - H.size))) b = eE X h b := fun b hb => by
    have hb' : ¬ (h.1 ≤ b ∧ b < hz h + (H1.size - H.size)) := fun q => absurd q.1 (Nat.not_le.mpr hb)
    exact eE_ext (by show (if h.1 ≤ b ∧ b < _ then (99, 0) else h.2.1 b).1 = _; rw [if_neg hb']; rfl) (by show (if h.1 ≤ b ∧ b < _ then (99, 0) else h.2.1 b).2 = _; rw [if_neg hb']; rfl) rfl rfl rfl
  have h8 := V.1
  have hs := V.2.1
  rw [ph_ge h8] at hs
  refine ⟨by show 8 ≤ hz h + _; omega, by show H1.size = ph X (hz h + (H1.size - H.size)); rw [ph_ge (by omega)]; omega, fun q hq => ?_, fun b hb8 hlt h9 => ?_⟩
  · rw [ho q (by omega)]; exact V.2.2.1 q hq
  · have hlt2 : b < hz h + (H1.size - H.size) := hlt
    by_cases q : b < hz h
    · rw [hb b q]
      refine (V.2.2.2 b hb8 q ?_).kept (ho _ ?_)
      · intro z
        refine h9 ?_
        have hb' : ¬ (h.1 ≤ b ∧ b < hz h + (H1.size - H.size)) := fun z => absurd z.1 (Nat.not_le.mpr q)
        show (if h.1 ≤ b ∧ b < _ then (99, 0) else h.2.1 b).1 = 99
        rw [if_neg hb']; exact z
      · show ph X b < _; rw [ph_ge hb8]; omega
    · refine absurd ?_ h9
      show (if h.1 ≤ b ∧ b < hz h + (H1.size - H.size) then (99, 0) else h.2.1 b).1 = 99
      rw [if_pos ⟨Nat.not_lt.mp q, hlt2⟩]
theorem Act.zq {p : Program} {R : Room} {s : State} {m : MethodId} {meth : Method} {c : Code} {C n d : String} (A : Act X M p R s m meth c) (hZ : vx_Zq C n d (fr X) (xs0 X) (xs0 X).heap) : vx_Zq C n d (fr X) s s.heap :=
  vx_Zq.moved A.w.alike (hZ.kept (fun a ha _ => A.2.2.2.1 a ha))
theorem g_throwS {cls text : String} {ik is ic : Nat} (hcls : Bundle.fit cls = true) (hk : KW (Cond.classLink M.1.cls ik cls)) (hini : KW (Cond.initialized cls)) (hstr : S0 X → ∃ sa, vk_R M.1.cls is text sa (xs0 X))
    (hat : ∀ w ∈ vx_atS M.1.cls ic cls ["java/lang/RuntimeException", "java/lang/Exception"], w ∈ lw_tbl ∧ (goodWord w = true ∨ dcw w = true) ∧ vx_ot w = true)
    (d0 : decode M.2.1 pc = .ok (.new ik, 3)) (d3 : decode M.2.1 (pc + 3) = .ok (.dup, 1)) (d4 : decode M.2.1 (pc + 4) = .ok (.ldc is, 2)) (d6 : decode M.2.1 (pc + 6) = .ok (.invokespecial ic, 3)) (d9 : decode M.2.1 (pc + 9) = .ok (.athrow, 1))
    (hnh : M.2.2.2.2.2 = []) (hdp : 6 ≤ M.2.2.2.2.1) (hrest : (st.map fun v => v.category).sum ≤ 8) (hp : ∀ n, hz h ≤ n → P (.inr cls) (ext h n)) : Gd X M pc L st h (nc + 1) (ns + 6) P := by
  intro p e R s m args below meth c A H locs cells slots ls mc ms S T hT XS
  have b1 := S.2.2.2.1
  have b2 := S.2.2.2.2.1
  have b3 := S.2.2.2.2.2.1
  have b4 := S.2.2.2.2.2.2
  have d1 := A.2.2.2.2.2.1
  have d2 := A.2.2.2.2.2.2
  obtain ⟨sa, hsa⟩ := hstr A.1
  have hsame := XS.same
  have hszT : s.heap.size ≤ T.heap.size := (vx_frame (U := T) hsame).1
  have hS : va_S (fr X) s.heap H locs := ⟨by rw [← hT]; exact hszT, fun q hq hn => by
    have hq0 : q < (xs0 X).heap.size := Nat.not_le.mp hn
    rw [S.1.2.2.1 q hq0, A.2.2.2.1 q hq0], S.2.2.1⟩
  have hwords : ∀ w ∈ vx_atS M.1.cls ic cls ["java/lang/RuntimeException", "java/lang/Exception"], w.before args s = true := fun w hw => by
    obtain ⟨w1, w2, -⟩ := hat w hw
    rcases w2 with q | q
    · exact A.word ⟨w1, q⟩ args
    · exact dcw_at q A.w (A.1.1 _ w1)
  exact vx_throwS (A := fr X) (free := fr X) A.x A.b A.1.2.2.2.1 A.own hcls (by decide) (A.word hk args) (A.word hini args) (vk_R.warm A.w hsa) hwords
    (fun w hw => by
      rcases List.mem_cons.mp hw with q | q
      · subst q; unfold vx_ot; rw [hk.2, Bool.or_true]
      · rcases List.mem_cons.mp q with q | q
        · subst q; unfold vx_ot; rw [hini.2, Bool.or_true]
        · exact (hat w q).2.2)
    (A.zq A.1.2.2.2.2.2.2.2.2.1) (A.zq A.1.2.2.2.2.2.2.2.2.2.1) hS (S.2.1.1.trans A.ml.symm) d0 d3 d4 d6 d9 (fun x hx => by rw [A.tb, hnh] at hx; cases hx)
    (by show 2 + 3 < _; omega) (by rw [cat_st]; show _ + (13 * 3 + 43) ≤ _; omega) (by omega) (by omega) A.lk
    (fun t _ h1 h2 => ⟨_, hp (hz h + (t.heap.size - H.size)) (by omega), S.1.opq h1 h2⟩) S.2.2.1 (by omega) (by omega) T hT XS
/-- a constant text -/
theorem ph_lo {a : Nat} (h : a < 8) : ph X a = xph X a := by unfold ph; rw [if_pos h]
theorem g_ldcS {i : Nat} (hi : i < 2) (hM : M.1.cls = RX9) (hd : decode M.2.1 pc = .ok (.ldc (ixS i), 2)) (g : Gd X M (pc + 2) L (.ref (1 + i) :: st) h nc ns P) : Gd X M pc L st h nc ns P :=
  Gd.go (fun p e R s m args below meth c A H locs cells slots ls Q hl hV k9 => by
    refine va_ldcS A.x A.b A.own (tx := txS i) (q := xph X (1 + i)) (by rw [hM]; exact vk_R.warm A.w (A.1.2.2.2.2.2.1 i hi)) hd ?_
    have e1 : mv X (.ref (1 + i)) = .ref (xph X (1 + i)) := congrArg Value.ref (ph_lo (by omega))
    rw [List.map_cons, e1] at k9
    exact k9) g
theorem Act.ks {p : Program} {R : Room} {s : State} {m : MethodId} {meth : Method} {c : Code} (A : Act X M p R s m meth c) : vk_S 2 lenS bytS (fun i => xph X (1 + i)) (fun i => xph X (3 + i)) (fr X) s s.heap :=
  vk_S.moved A.w.alike (A.1.2.2.2.2.1.kept (fun a ha _ => A.2.2.2.1 a ha))
theorem Gd.goT {pc2 : Nat} {st2 : List Value}
    (k : ∀ (p : Program) (e : Env) (R : Room) (s : State) (m : MethodId) (args : Array Value) (below : List Frame) (meth : Method) (c : Code), Act X M p R s m meth c → ∀ (H : Heap) (locs : List Loc) (cells slots : Nat) (ls : Array Slot) (Q : State → Prop), va_S (fr X) s.heap H locs → VR X h H →
      W p (xl X) e R s m args below meth c H locs cells slots Q (F0 m pc2 ls (st2.map (mv X))) → W p (xl X) e R s m args below meth c H locs cells slots Q (F0 m pc ls (st.map (mv X))))
    (g : Gd X M pc2 L st2 h nc ns P) : Gd X M pc L st h nc ns P := fun p e R s m args below meth c A H locs cells slots ls mc ms S T hT XS => by
  have hszT : s.heap.size ≤ T.heap.size := (vx_frame (U := T) XS.same).1
  have hS : va_S (fr X) s.heap H locs := ⟨by rw [← hT]; exact hszT, fun q hq hn => by
    have hq0 : q < (xs0 X).heap.size := Nat.not_le.mp hn
    rw [S.1.2.2.1 q hq0, A.2.2.2.1 q hq0], S.2.2.1⟩
  exact k p e R s m args below meth c A H locs cells slots ls _ hS S.1 (g p e R s m args below meth c A H locs cells slots ls mc ms S) T hT XS
theorem g_strV {i idx : Nat} (hi : i < 2) (hd : decode M.2.1 pc = .ok (.getfield idx, 3)) (hw : KW (Cond.fieldLink M.1.cls idx "java/lang/String" "value" "[B")) (g : Gd X M (pc + 3) L (.ref (3 + i) :: st) h nc ns P) : Gd X M pc L (.ref (1 + i) :: st) h nc ns P :=
  Gd.goT (fun p e R s m args below meth c A H locs cells slots ls Q hS hV k9 => by
    have e1 : mv X (.ref (1 + i)) = .ref (xph X (1 + i)) := congrArg Value.ref (ph_lo (by omega))
    have e2 : mv X (.ref (3 + i)) = .ref (xph X (3 + i)) := congrArg Value.ref (ph_lo (by omega))
    rw [List.map_cons, e2] at k9
    rw [List.map_cons, e1]
    exact vk_getf A.x A.b (A.ks.1 i hi).2.2.1 hS A.own (A.word hw args) (fun _ z => z) hd k9) g
theorem g_strC {i idx : Nat} (hi : i < 2) (hd : decode M.2.1 pc = .ok (.getfield idx, 3)) (hw : KW (Cond.fieldLink M.1.cls idx "java/lang/String" "coder" "B")) (g : Gd X M (pc + 3) L (.int 0 :: st) h nc ns P) : Gd X M pc L (.ref (1 + i) :: st) h nc ns P :=
  Gd.goT (fun p e R s m args below meth c A H locs cells slots ls Q hS hV k9 => by
    have e1 : mv X (.ref (1 + i)) = .ref (xph X (1 + i)) := congrArg Value.ref (ph_lo (by omega))
    rw [List.map_cons, e1]
    exact vk_getf A.x A.b (A.ks.1 i hi).2.1 hS A.own (A.word hw args) (fun _ z => z) hd k9) g
end GT
