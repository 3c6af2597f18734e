/-! ===== told: the component, the model, the law's catch ===== -/
section TE
variable {X : GX} {h : SH} {A : Abs}
/-- what a throw of told's leaves -/
def TZ (A : Abs) (x y : Int32) (h : SH) (E : String) (t : SH) : Prop := okTo A x y = false ∧ E = "java/util/NoSuchElementException" ∧ ∃ n, hz h ≤ n ∧ t = ext h n
theorem C_told {x y : Int32} (R : RepC h A) (ok : okA A) : Cd X mX10_told [.ref 8, .int x, .int y] h 1 6 (oI (fun r t => okTo A x y = true ∧ r = vTo A x y ∧ t = h) (TZ A x y h)) := by
  obtain ⟨ad, r1, r2, r3, r4, r5, r6, r7⟩ := R
  have no : okTo A x y = false → Gd X mX10_told 27 [none, none, none] [] h 1 6 (oI (fun r t => okTo A x y = true ∧ r = vTo A x y ∧ t = h) (TZ A x y h)) := fun e => bkX10_told_27 (nc := 0) (ns := 0) (fun n hn => ⟨e, rfl, n, hn, rfl⟩)
  cases hh : aH A with
  | none =>
    have e4 : hA h 8 4 = none := by rw [r4.1, hh]; rfl
    exact bkX10_told_0 r1 (fun _ => no (by unfold okTo; rw [hh])) (fun z hz => by rw [e4] at hz; cases hz)
  | some i =>
    obtain ⟨hlt, h4, hE, oke⟩ := RH.ed r3 r4 ok hh
    have h8 : (eF (ed A i)).length ≤ 8 := oke.2.1
    have eo : okTo A x y = decide ((0 ≤ x ∧ x < nI (eF (ed A i)).length) ∧ 0 ≤ y ∧ y ≤ 2) := by unfold okTo; rw [hh]
    have ev : vTo A x y = if y = 0 then nI (fa (ed A i) x.toNatClampNeg).2.1 else if y = 1 then nI (fa (ed A i) x.toNatClampNeg).2.2 else aN A x.toNatClampNeg := by unfold vTo; rw [hh]
    have no2 : ¬ ((0 ≤ x ∧ x < nI (eF (ed A i)).length) ∧ 0 ≤ y ∧ y ≤ 2) → _ := fun q => no (by rw [eo, decide_eq_false q])
    refine bkX10_told_0 r1 (fun z => by rw [h4] at z; cases z) (fun z hz => ?_)
    refine bkX10_told_7 r1 h4 hE.2.1 (c_hasFact hE oke) (fun r t hq => ?_)
    obtain ⟨ht, rfl⟩ := hq
    rw [ht]
    refine bkX10_told_15 (fun z => ?_) (fun z => ?_) <;> rw [bI_0, decide_eq_false_iff_not] at z
    · exact no2 (fun q => z q.1)
    have qx := Decidable.not_not.mp z
    refine bkX10_told_18 (fun z => no2 (fun q => i_neg.mp z q.2.1)) (fun q1 => ?_)
    refine bkX10_told_22 (fun q2 => ?_) (fun z => no2 (fun q => z q.2.2))
    have eo' : okTo A x y = true := by rw [eo, decide_eq_true ⟨qx, Int32.not_lt.mp q1, q2⟩]
    obtain ⟨n, hn, rfl⟩ := nI_some qx.1
    have hnl := (nI_ltI hn (by omega)).mp qx.2
    have hl := hE.lo hnl
    rw [nI_clamp hn] at ev
    refine bkX10_told_37 (fun z => ?_) (fun z => ?_)
    · rw [if_neg z] at ev
      refine bkX10_told_51 (fun w => ?_) (fun w => ?_)
      · rw [if_neg w] at ev
        refine bkX10_told_68 r1 (vp_in_nI (by omega) (by omega)) (bkX10_told_77 ⟨eo', ?_, rfl⟩)
        rw [nI_clamp (by omega), ev]; exact r4.2 i hh n hnl
      · rw [if_pos w] at ev
        refine bkX10_told_56 r1 h4 hE.2.1 (vp_in_nI (by omega) (by omega)) (bkX10_told_77 ⟨eo', ?_, rfl⟩)
        rw [nI_clamp (by omega), ev]; exact hl.2.2
    · rw [if_pos z] at ev
      refine bkX10_told_41 r1 h4 hE.2.1 (vp_in_nI (by omega) (by omega)) ⟨eo', ?_, rfl⟩
      rw [nI_clamp (by omega), ev]; exact hl.2.1
theorem M_told {x y : Int32} (R : RepM h A) (ok : okA A) : Cd X mX11_told [.ref 35, .int x, .int y] h 0 0 (oI (fun r t => (RepM t A ∧ frM h t) ∧ (okTo A x y = true → hI t 35 0 = 0 ∧ r = vTo A x y) ∧ (okTo A x y = false → hI t 35 0 = 1)) nX) := by
  have R1 := fun v => R.z (v := v) ok
  generalize hP : oI (fun r t => (RepM t A ∧ frM h t) ∧ (okTo A x y = true → hI t 35 0 = 0 ∧ r = vTo A x y) ∧ (okTo A x y = false → hI t 35 0 = 1)) nX = P
  have no : okTo A x y = false → Gd X mX11_told 38 [some (.ref 35), some (.int x), some (.int y)] [.ref 35] h 0 0 P := fun e => by
    refine bkX11_told_38 (bkX11_told_39 R.1 R.1 (fun z => ?_) (fun _ => bkX11_told_49 ?_))
    · rw [sI_at] at z; exact absurd z (by decide)
    · rw [← hP]
      exact ⟨⟨R1 1, z_fr⟩, (fun z => by rw [e] at z; cases z), fun _ => sI_at⟩
  have h34 := R.2.2.2.1.1
  cases hh : aH A with
  | none =>
    rw [hh] at h34
    exact bkX11_told_0 R.1 (fun _ => no (by unfold okTo; rw [hh])) (fun z => by rw [h34] at z; exact absurd (by decide) z)
  | some i =>
    obtain ⟨hlt, h6, h34, hE, oke⟩ := R.hand ok hh
    have h8 : (eF (ed A i)).length ≤ 8 := oke.2.1
    have eo : okTo A x y = decide ((0 ≤ x ∧ x < nI (eF (ed A i)).length) ∧ 0 ≤ y ∧ y ≤ 2) := by unfold okTo; rw [hh]
    have ev : vTo A x y = if y = 0 then nI (fa (ed A i) x.toNatClampNeg).2.1 else if y = 1 then nI (fa (ed A i) x.toNatClampNeg).2.2 else aN A x.toNatClampNeg := by unfold vTo; rw [hh]
    have no2 : ¬ ((0 ≤ x ∧ x < nI (eF (ed A i)).length) ∧ 0 ≤ y ∧ y ≤ 2) → _ := fun q => no (by rw [eo, decide_eq_false q])
    refine bkX11_told_0 R.1 (fun z => by rw [h34] at z; exact absurd z (nI_pos (by omega))) (fun _ => ?_)
    refine bkX11_told_8 (fun z => no2 (fun q => i_neg.mp z q.1.1)) (fun q0 => ?_)
    refine bkX11_told_12 R.1 (by rw [h34]; exact (vp_in_nI (by omega) (by omega))) (fun z => ?_) (fun z => ?_) <;> rw [h34, nI_clamp (by omega), hE.1] at z
    · exact no2 (fun q => absurd q.1.2 (Int32.not_lt.mpr z))
    have qx : 0 ≤ x ∧ x < nI (eF (ed A i)).length := ⟨Int32.not_lt.mp q0, Int32.not_le.mp z⟩
    refine bkX11_told_25 (fun z => no2 (fun q => i_neg.mp z q.2.1)) (fun q1 => ?_)
    refine bkX11_told_29 (fun z => no2 (fun q => absurd z (Int32.not_lt.mpr q.2.2))) (fun q2 => bkX11_told_34 ?_)
    have eo' : okTo A x y = true := by rw [eo, decide_eq_true ⟨qx, Int32.not_lt.mp q1, Int32.not_lt.mp q2⟩]
    obtain ⟨n, hn, rfl⟩ := nI_some qx.1
    have hnl := (nI_ltI hn (by omega)).mp qx.2
    rw [nI_clamp hn] at ev
    have fin : ∀ v, v = vTo A (nI n) y → Gd X mX11_told 100 [none, none, none] [.int v] (sI h 35 0 0) 0 0 P := fun v e => bkX11_told_100 (by
      rw [← hP]
      exact ⟨⟨R1 0, z_fr⟩, (fun _ => ⟨sI_at, e⟩), fun z => by rw [eo'] at z; cases z⟩)
    have R0 := R1 0
    obtain ⟨_, _, h34', hE', _⟩ := R0.hand ok hh
    have hl := hE'.lo hnl
    have ei : (8 : Int32) * nI i + nI n = nI (8 * i + n) := by rw [ix8, nI_add]
    refine bkX11_told_39 R.1 R.1 (fun _ => ?_) (fun z => absurd (by rw [sI_at]; exact Int32.le_refl _) z)
    refine bkX11_told_51 (fun z => ?_) (fun z => ?_)
    · rw [if_neg z] at ev
      refine bkX11_told_72 (fun w => ?_) (fun w => ?_)
      · rw [if_neg w] at ev
        refine bkX11_told_94 R0.1 (vp_in_nI (by omega) (by omega)) (fin _ ?_)
        rw [nI_clamp (by omega), ev]; exact R0.2.2.2.1.2 i hh n hnl
      · rw [if_pos w] at ev
        refine bkX11_told_77 R0.1 (by rw [h34', ei]; exact (vp_in_nI (by omega) (by omega))) (fin _ ?_)
        rw [h34', ei, nI_clamp (by omega), ev]; exact hl.2.2
    · rw [if_pos z] at ev
      refine bkX11_told_55 R0.1 (by rw [h34', ei]; exact (vp_in_nI (by omega) (by omega))) (fin _ ?_)
      rw [h34', ei, nI_clamp (by omega), ev]; exact hl.2.1
end TE
section TF
variable {X : GX} {M N : MI} {pc : Nat} {L L' : List (Option Value)} {st : List Value} {h : SH} {nc ns n1 s1 : Nat} {P P1 : Out → SH → Prop}
/-- as run_goC, where the handler begins with a long astore -/
theorem run_goC2 {p : Program} {e : Env} {R : Room} {s : State} {m : MethodId} {args : Array Value} {below : List Frame} {meth : Method} {c : Code} {H : Heap} {locs : List Loc} {cells slots : Nat} {ls : Array Slot} {mc ms : Nat} {a : Array Value} {st0 : List Value} {z : ExceptionTableEntry} {nm : String} {j : Nat}
    (A : Act X M p R s m meth c) (S : St X M R L h (n1 + nc) (s1 + ns) H locs cells slots ls mc ms)
    (hr : vx_Run p (xl X) e R s m args below meth c H locs cells slots n1 s1 (F0 m pc ls st0) (st.map (mv X)) (Qo X P1 a) (Xo X P1) (fr X))
    (tb : tableOf M.2.2.2.2.2 = [z]) (hcv : covers z pc = true) (h0 : z.catchType ≠ 0) (hl : KW (Cond.classLink M.1.cls z.catchType nm)) (hd : decode M.2.1 z.handlerPc = .ok (.astore j, 2)) (hj : j < M.2.2.1)
    (hL : ∀ k w, L'[k]? = some (some w) → k ≠ j ∧ L[k]? = some (some w) ∧ ¬ (k + 1 = j ∧ w.category = 2))
    (hx : ∀ E h1, P1 (.inr E) h1 → (∀ (p : Program) (R : Room) (s : State) (m : MethodId) (meth : Method) (c : Code), Act X M p R s m meth c → ∀ args, (Cond.castable E nm).before args s = true) ∧ Gd X M (z.handlerPc + 2) L' [] h1 nc ns P)
    (g : ∀ v h1, P1 (.inl v) h1 → Gd X M (pc + 3) L (v.toList ++ st) h1 nc ns P) : W p (xl X) e R s m args below meth c H locs cells slots (vx_MQ below (Qo X P) (Xo X P) args s mc ms (fr X)) (F0 m pc ls st0) := by
  have b1 := S.2.2.2.1
  have b2 := S.2.2.2.2.1
  have hloc : ∀ {L2 : List Loc}, (∀ z ∈ L2, fr X z.base) → ∀ z ∈ locs ++ L2, (xs0 X).heap.size ≤ z.base := fun hL z hz => by
    rcases List.mem_append.mp hz with q | q
    · exact S.2.2.1 z q
    · exact hL z q
  intro T hT XS
  rcases hr T hT XS with ⟨v, st₀, t, T', L2, h0', X', hL2, e1, e2, ⟨v2, h1, hP1, hv, hV1⟩, stp⟩ | ⟨q, st₀, t, T', L2, E, ce, h0', X', hL2, e1, e2, ⟨h1, hP1, hV1⟩, hce, hcv2, hcl, stp⟩
  · have hv2 : v = v2.map (mv X) := Outcome.returned.inj hv
    subst hv2
    obtain ⟨t2, a1, a2⟩ := g v2 h1 hP1 p e R s m args below meth c A T'.heap (locs ++ L2) (cells + n1) (slots + s1) ls mc ms ⟨by rw [e1]; exact hV1, S.2.1, hloc hL2, by omega, by omega, S.2.2.2.2.2⟩ T' rfl X'
    rw [← map_st] at a1
    exact ⟨t2, stp t2 a1, a2⟩
  · obtain ⟨hcast, gx⟩ := hx E h1 hP1
    have k := vx_catch (p := p) (l := xl X) (e := e) (R := R) (s := s) (m := m) (args := args) (below := below) (meth := meth) (c := c) (H := T'.heap) (locs := locs ++ L2) (cells := cells + n1) (slots := slots + s1) (Q := vx_MQ below (Qo X P) (Xo X P) args s mc ms (fr X)) (pc := pc) (ls := ls) (rest := st.map (mv X)) (own := M.1.cls) (name := nm) (E := E) (ce := ce) (q := q) A.own [] z [] (by rw [A.tb, tb]; rfl) (fun y hy => absurd hy List.not_mem_nil) hcv h0 (A.word hl args) (hcast p R s m meth c A args) (by rw [e1]; exact hce) hcv2 hcl
      (lv_astore A.x A.b hd S.2.1 hj rfl (fun ls' hl' => gx p e R s m args below meth c A T'.heap (locs ++ L2) (cells + n1) (slots + s1) ls' mc ms ⟨by rw [e1]; exact hV1, lv_dr hL hl', hloc hL2, by omega, by omega, S.2.2.2.2.2⟩))
    obtain ⟨t2, a1, a2⟩ := k T' rfl X'
    exact ⟨t2, stp.trans a1, a2⟩
theorem g_callVC2 {idx a k : Nat} {z : ExceptionTableEntry} {nm : String} {j : Nat} (As : List Value) (hd : decode M.2.1 pc = .ok (.invokevirtual idx, 3)) (F : MF N) (hdp : DP M N) (hw : KW (Cond.methodLink M.1.cls idx N.1)) (hin : KW (Cond.instanceMethod N.1)) (hse : KW (Cond.selects (ctR k) N.1 N.1)) (hn : (parseMethodDescriptor N.1.desc).map (fun d => d.parameters.length) = some As.length)
    (hk : k < 12) (hrest : (st.map fun v => v.category).sum ≤ 8) (ho : Ob h a k) (hsl : (entL (.ref a :: As)).length ≤ N.2.2.1) (hN : Cd X N (.ref a :: As) h n1 s1 P1)
    (tb : tableOf M.2.2.2.2.2 = [z]) (hcv : covers z pc = true) (h0 : z.catchType ≠ 0) (hl : KW (Cond.classLink M.1.cls z.catchType nm)) (hdh : decode M.2.1 z.handlerPc = .ok (.astore j, 2)) (hj : j < M.2.2.1)
    (hL : ∀ k w, L'[k]? = some (some w) → k ≠ j ∧ L[k]? = some (some w) ∧ ¬ (k + 1 = j ∧ w.category = 2))
    (hx : ∀ E h1, P1 (.inr E) h1 → (∀ (p : Program) (R : Room) (s : State) (m : MethodId) (meth : Method) (c : Code), Act X M p R s m meth c → ∀ args, (Cond.castable E nm).before args s = true) ∧ Gd X M (z.handlerPc + 2) L' [] h1 nc ns P)
    (g : ∀ v h1, P1 (.inl v) h1 → Gd X M (pc + 3) L (v.toList ++ st) h1 nc ns P) : Gd X M pc L (As.reverse ++ .ref a :: st) h (n1 + nc) (s1 + ns) P := by
  intro p e R s m args below meth c A H locs cells slots ls mc ms S
  have b1 := S.2.2.2.1
  have b2 := S.2.2.2.2.1
  have b3 := S.2.2.2.2.2.1
  have b4 := S.2.2.2.2.2.2
  have hr := vx_runV (p := p) (l := xl X) (e := e) (R := R) (s := s) (m := m) (args := args) (below := below) (meth := meth) (c := c) (H := H) (locs := locs) (cells := cells) (slots := slots) (As := As.map (mv X)) (rest := st.map (mv X)) (b := ph X a) (Ts := []) (g := F0 m pc ls ((As.map (mv X)).reverse ++ .ref (ph X a) :: st.map (mv X)))
    ⟨A.x, A.b, A.ml, A.own, fun w hw9 => by cases hw9⟩ (cd_metX A.1 F hN hsl) (C := ctR k) ⟨A.callB (args := args) F hdp hw hn, A.word hin args, A.word hse args⟩ ⟨Pcd.blind, S.1.recv A ho hk, pcd_pre A.w S.1⟩ rfl (by rw [List.length_map]) S.2.1.1 rfl (by rw [cat_st]; show 2 * 0 + _ ≤ 8; omega) hd ⟨by omega, by omega⟩
  have k9 := run_goC2 A S hr tb hcv h0 hl hdh hj hL hx g
  rw [List.map_append, List.map_reverse]
  exact k9
theorem cast_nse (p : Program) (R : Room) (s : State) (m : MethodId) (meth : Method) (c : Code) (A : Act X M p R s m meth c) (args : Array Value) : (Cond.castable "java/util/NoSuchElementException" "java/util/NoSuchElementException").before args s = true := by
  obtain ⟨w1, w2, -⟩ := tw10 (Cond.castable "java/util/NoSuchElementException" "java/util/NoSuchElementException") (List.mem_filter.mpr ⟨by simp [Bundle.ownAtomsX], rfl⟩)
  rcases w2 with q | q
  · exact A.word ⟨w1, q⟩ args
  · exact dcw_at q A.w (A.1.1 _ w1)
/-- the law's told: 1 and what was there, or 0 and the answer in the row's place -/
theorem L_told {A : Abs} {x y : Int32} {q : Nat} (R : RepC h A) (ok : okA A) (B : Ar h q 23 1) : Cd X mL_told [.ref 8, .int x, .int y, .ref q] h 1 6 (oI (fun r t => (okTo A x y = true → r = 0 ∧ t = sJ h q 0 ((vTo A x y).toInt64)) ∧ (okTo A x y = false → r = 1 ∧ ∃ n, hz h ≤ n ∧ t = ext h n)) nX) := by
  obtain ⟨ad, R'⟩ := R
  show Gd X mL_told 0 [some (.ref 8), some (.int x), some (.int y), some (.ref q), none] [] h (1 + 0) (6 + 0) _
  refine g_aload_n dL_told_0 rfl (g_iconst (v := 0) dL_told_1 (by decide) (g_aload_n dL_told_2 rfl (g_iload_n dL_told_3 rfl (g_iload_n dL_told_4 rfl ?_))))
  refine g_callVC2 (k := 10) (j := 4) (L' := [none, none, none, none, none]) [.int x, .int y] dL_told_5 mfX10_told ⟨by decide, by decide⟩ kw_1078 kw_1079 kw_1080 rfl (by decide) (Nat.le_of_ble_eq_true rfl) (LX10.o (h := h) R'.1) (Nat.le_of_ble_eq_true rfl) (C_told ⟨ad, R'⟩ ok) rfl rfl (by decide) kw_1077 dL_told_13 (by decide) (fun k w hk => ?_) (fun E t hq => ?_) (oI_go (G := fun a b => Gd X mL_told 8 _ a b 0 0 _) (fun r t hq => ?_))
  · match k, hk with
    | 0, hk => simp at hk
    | 1, hk => simp at hk
    | 2, hk => simp at hk
    | 3, hk => simp at hk
    | 4, hk => simp at hk
    | n + 5, hk => simp at hk
  · obtain ⟨z1, rfl, n, z3, z4⟩ := hq
    refine ⟨cast_nse, ?_⟩
    refine g_iconst (v := 1) dL_told_15 (by decide) (g_ireturn (st := []) dL_told_16 rfl rfl ?_)
    exact ⟨(fun z => by rw [z1] at z; cases z), fun _ => ⟨rfl, n, z3, z4⟩⟩
  · obtain ⟨z1, rfl, z3⟩ := hq
    rw [z3]
    refine Gd.wk (L' := [none, none, none, none, none]) ?_ trivial
    refine bkL_told_8 (n3 := 1) B (show vp_in (nI 0) 1 from vp_in_nI (by decide) (by decide)) (bkL_told_17 ?_)
    exact ⟨(fun _ => ⟨rfl, rfl⟩), fun z => by rw [z1] at z; cases z⟩
end TF
