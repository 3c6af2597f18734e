/-! ===== a throw that is caught; the reader's whole run ===== -/
section CT
variable {X : GX} {M N : MI} {pc : Nat} {L L' : List (Option Value)} {st : List Value} {h : SH} {nc ns n1 s1 : Nat} {P P1 : Out → SH → Prop}
theorem lv_dr {ls : Array Slot} {n i q0 : Nat} (hL : ∀ k w, L'[k]? = some (some w) → k ≠ i ∧ L[k]? = some (some w) ∧ ¬ (k + 1 = i ∧ w.category = 2)) (h : lv_has ls n ((i, Value.ref q0) :: (lvl X 0 L).filter (fun q => !(q.1 == i) && !(q.1 + 1 == i && q.2.category == 2)))) : lv_has ls n (lvl X 0 L') :=
  lv_le h (fun q hq => by
    obtain ⟨k, w, h1, h2⟩ := lvl_of hq
    rw [h2]
    obtain ⟨q1, q2, q3⟩ := hL k w h1
    refine List.mem_cons_of_mem _ (List.mem_filter.mpr ⟨lvl_mem q2, ?_⟩)
    simp only [Nat.zero_add, mv_cat]
    by_cases hc : k + 1 = i
    · have : ¬ w.category = 2 := fun z => q3 ⟨hc, z⟩
      simp [q1, this]
    · simp [q1, hc])
/-- behind a call's run in a method with one row in its table, which takes what is thrown -/
theorem run_goC {p : Program} {e : Env} {R : Room} {s : State} {m : MethodId} {args : Array Value} {below : List Frame} {meth : Method} {c : Code} {H : Heap} {locs : List Loc} {cells slots : Nat} {ls : Array Slot} {mc ms : Nat} {a : Array Value} {st0 : List Value} {z : ExceptionTableEntry} {nm : String} {j : Fin 4}
    (A : Act X M p R s m meth c) (S : St X M R L h (n1 + nc) (s1 + ns) H locs cells slots ls mc ms)
    (hr : vx_Run p (xl X) e R s m args below meth c H locs cells slots n1 s1 (F0 m pc ls st0) (st.map (mv X)) (Qo X P1 a) (Xo X P1) (fr X))
    (tb : tableOf M.2.2.2.2.2 = [z]) (hcv : covers z pc = true) (h0 : z.catchType ≠ 0) (hl : KW (Cond.classLink M.1.cls z.catchType nm)) (hd : decode M.2.1 z.handlerPc = .ok (.astore_n j, 1)) (hj : (j : Nat) < M.2.2.1)
    (hL : ∀ k w, L'[k]? = some (some w) → k ≠ (j : Nat) ∧ L[k]? = some (some w) ∧ ¬ (k + 1 = (j : Nat) ∧ w.category = 2))
    (hx : ∀ E h1, P1 (.inr E) h1 → (∀ (p : Program) (R : Room) (s : State) (m : MethodId) (meth : Method) (c : Code), Act X M p R s m meth c → ∀ args, (Cond.castable E nm).before args s = true) ∧ Gd X M (z.handlerPc + 1) L' [] h1 nc ns P)
    (g : ∀ v h1, P1 (.inl v) h1 → Gd X M (pc + 3) L (v.toList ++ st) h1 nc ns P) : W p (xl X) e R s m args below meth c H locs cells slots (vx_MQ below (Qo X P) (Xo X P) args s mc ms (fr X)) (F0 m pc ls st0) := by
  have b1 := S.2.2.2.1
  have b2 := S.2.2.2.2.1
  have hloc : ∀ {L2 : List Loc}, (∀ z ∈ L2, fr X z.base) → ∀ z ∈ locs ++ L2, (xs0 X).heap.size ≤ z.base := fun hL z hz => by
    rcases List.mem_append.mp hz with q | q
    · exact S.2.2.1 z q
    · exact hL z q
  intro T hT XS
  rcases hr T hT XS with ⟨v, st₀, t, T', L2, h0', X', hL2, e1, e2, ⟨v2, h1, hP1, hv, hV1⟩, stp⟩ | ⟨q, st₀, t, T', L2, E, ce, h0', X', hL2, e1, e2, ⟨h1, hP1, hV1⟩, hce, hcv2, hcl, stp⟩
  · have hv2 : v = v2.map (mv X) := Outcome.returned.inj hv
    subst hv2
    obtain ⟨t2, a1, a2⟩ := g v2 h1 hP1 p e R s m args below meth c A T'.heap (locs ++ L2) (cells + n1) (slots + s1) ls mc ms ⟨by rw [e1]; exact hV1, S.2.1, hloc hL2, by omega, by omega, S.2.2.2.2.2⟩ T' rfl X'
    rw [← map_st] at a1
    exact ⟨t2, stp t2 a1, a2⟩
  · obtain ⟨hcast, gx⟩ := hx E h1 hP1
    have k := vx_catch (p := p) (l := xl X) (e := e) (R := R) (s := s) (m := m) (args := args) (below := below) (meth := meth) (c := c) (H := T'.heap) (locs := locs ++ L2) (cells := cells + n1) (slots := slots + s1) (Q := vx_MQ below (Qo X P) (Xo X P) args s mc ms (fr X)) (pc := pc) (ls := ls) (rest := st.map (mv X)) (own := M.1.cls) (name := nm) (E := E) (ce := ce) (q := q) A.own [] z [] (by rw [A.tb, tb]; rfl) (fun y hy => absurd hy List.not_mem_nil) hcv h0 (A.word hl args) (hcast p R s m meth c A args) (by rw [e1]; exact hce) hcv2 hcl
      (lv_astore_n A.x A.b hd rfl S.2.1 hj rfl (fun ls' hl' => gx p e R s m args below meth c A T'.heap (locs ++ L2) (cells + n1) (slots + s1) ls' mc ms ⟨by rw [e1]; exact hV1, lv_dr hL hl', hloc hL2, by omega, by omega, S.2.2.2.2.2⟩))
    obtain ⟨t2, a1, a2⟩ := k T' rfl X'
    exact ⟨t2, stp.trans a1, a2⟩
theorem g_callVC {idx a k : Nat} {z : ExceptionTableEntry} {nm : String} {j : Fin 4} (As : List Value) (hd : decode M.2.1 pc = .ok (.invokevirtual idx, 3)) (F : MF N) (hdp : DP M N) (hw : KW (Cond.methodLink M.1.cls idx N.1)) (hin : KW (Cond.instanceMethod N.1)) (hse : KW (Cond.selects (ctR k) N.1 N.1)) (hn : (parseMethodDescriptor N.1.desc).map (fun d => d.parameters.length) = some As.length)
    (hk : k < 12) (hrest : (st.map fun v => v.category).sum ≤ 8) (ho : Ob h a k) (hsl : (entL (.ref a :: As)).length ≤ N.2.2.1) (hN : Cd X N (.ref a :: As) h n1 s1 P1)
    (tb : tableOf M.2.2.2.2.2 = [z]) (hcv : covers z pc = true) (h0 : z.catchType ≠ 0) (hl : KW (Cond.classLink M.1.cls z.catchType nm)) (hdh : decode M.2.1 z.handlerPc = .ok (.astore_n j, 1)) (hj : (j : Nat) < M.2.2.1)
    (hL : ∀ k w, L'[k]? = some (some w) → k ≠ (j : Nat) ∧ L[k]? = some (some w) ∧ ¬ (k + 1 = (j : Nat) ∧ w.category = 2))
    (hx : ∀ E h1, P1 (.inr E) h1 → (∀ (p : Program) (R : Room) (s : State) (m : MethodId) (meth : Method) (c : Code), Act X M p R s m meth c → ∀ args, (Cond.castable E nm).before args s = true) ∧ Gd X M (z.handlerPc + 1) L' [] h1 nc ns P)
    (g : ∀ v h1, P1 (.inl v) h1 → Gd X M (pc + 3) L (v.toList ++ st) h1 nc ns P) : Gd X M pc L (As.reverse ++ .ref a :: st) h (n1 + nc) (s1 + ns) P := by
  intro p e R s m args below meth c A H locs cells slots ls mc ms S
  have b1 := S.2.2.2.1
  have b2 := S.2.2.2.2.1
  have b3 := S.2.2.2.2.2.1
  have b4 := S.2.2.2.2.2.2
  have hr := vx_runV (p := p) (l := xl X) (e := e) (R := R) (s := s) (m := m) (args := args) (below := below) (meth := meth) (c := c) (H := H) (locs := locs) (cells := cells) (slots := slots) (As := As.map (mv X)) (rest := st.map (mv X)) (b := ph X a) (Ts := []) (g := F0 m pc ls ((As.map (mv X)).reverse ++ .ref (ph X a) :: st.map (mv X)))
    ⟨A.x, A.b, A.ml, A.own, fun w hw9 => by cases hw9⟩ (cd_metX A.1 F hN hsl) (C := ctR k) ⟨A.callB (args := args) F hdp hw hn, A.word hin args, A.word hse args⟩ ⟨Pcd.blind, S.1.recv A ho hk, pcd_pre A.w S.1⟩ rfl (by rw [List.length_map]) S.2.1.1 rfl (by rw [cat_st]; show 2 * 0 + _ ≤ 8; omega) hd ⟨by omega, by omega⟩
  have k9 := run_goC A S hr tb hcv h0 hl hdh hj hL hx g
  rw [List.map_append, List.map_reverse]
  exact k9
theorem cast_ise (p : Program) (R : Room) (s : State) (m : MethodId) (meth : Method) (c : Code) (A : Act X M p R s m meth c) (args : Array Value) : (Cond.castable "java/lang/IllegalStateException" "java/lang/IllegalStateException").before args s = true := by
  obtain ⟨w1, w2, -⟩ := tw7 (Cond.castable "java/lang/IllegalStateException" "java/lang/IllegalStateException") (List.mem_filter.mpr ⟨by simp [Bundle.ownAtoms], rfl⟩)
  rcases w2 with q | q
  · exact A.word ⟨w1, q⟩ args
  · exact dcw_at q A.w (A.1.1 _ w1)
end CT
section FE
variable {X : GX} {h : SH} {nc ns n1 s1 : Nat} {P : Out → SH → Prop} {Q : SH → Prop} {Z : String → SH → Prop} {a0 : Nat} {x1 : Int32}
theorem bkX7_fillEdition_78 (F0 : LX7 (Sk h) a0) (hp : P (.inl (some (.int (hI h a0 8)))) h) : Gd X mX7_fillEdition 78 [some (.ref a0), none] [] h nc ns P := by
  refine g_aload_n dX7_fillEdition_78 rfl ?_
  refine g_getI (c := 7) (k := 8) dX7_fillEdition_79 (by decide) (by decide) kw_421 rfl (LX7.o (h := h) F0) ?_
  exact g_ireturn (st := []) dX7_fillEdition_82 rfl rfl hp
theorem fl_L {x : Option Value} : ∀ k w, ([some (.ref a0), none] : List (Option Value))[k]? = some (some w) → k ≠ ((1 : Fin 4) : Nat) ∧ ([some (.ref a0), x] : List (Option Value))[k]? = some (some w) ∧ ¬ (k + 1 = ((1 : Fin 4) : Nat) ∧ w.category = 2) := by
  intro k w hk
  match k, hk with
  | 0, hk =>
    have e : (Value.ref a0) = w := by simpa using hk
    subst e
    exact ⟨by decide, rfl, fun z => absurd (show (1 : Nat) = 2 from z.2) (by decide)⟩
  | 1, hk => simp at hk
  | n + 2, hk => simp at hk
theorem bkX7_fillEdition_0 (F0 : LX7 (Sk h) a0) (hN : Cd X mX9_cutText [.ref (a0 + 3)] h n1 s1 (oV Q nX)) (g : ∀ t, Q t → Gd X mX7_fillEdition 7 [some (.ref a0), none] [] t nc ns P) : Gd X mX7_fillEdition 0 [some (.ref a0), none] [] h (n1 + nc) (s1 + ns) P := by
  refine g_aload_n dX7_fillEdition_0 rfl ?_
  refine g_getAs (c := 7) (k := 0) (b := a0 + 3) dX7_fillEdition_1 (by decide) (by decide) kw_413 rfl (LX7.o (h := h) F0) (LX7.r_tokens (h := h) F0) ?_
  exact g_callV (k := 9) [] dX7_fillEdition_4 mfX9_cutText ⟨by decide, by decide⟩ kw_446 kw_447 kw_448 rfl (by decide) (Nat.le_of_ble_eq_true rfl) (by decide) (LX9.o (h := h) (LX7.l_tokens F0)) (Nat.le_of_ble_eq_true rfl) hN (fun _ _ q => q.elim) (oV_go (G := fun a b => Gd X mX7_fillEdition 7 _ a b nc ns P) (fun t q => Gd.wk (g t q) ⟨rfl, trivial⟩))
theorem bkX7_fillEdition_7 (F0 : LX7 (Sk h) a0) (hN : Cd X mX7_findToldNames [.ref a0] h 0 0 (oV Q nX)) (g : ∀ t, Q t → Gd X mX7_fillEdition 11 [some (.ref a0), none] [] t nc ns P) : Gd X mX7_fillEdition 7 [some (.ref a0), none] [] h nc ns P := by
  refine g_aload_n dX7_fillEdition_7 rfl ?_
  refine Gd.z ?_
  exact g_callV (k := 7) [] dX7_fillEdition_8 mfX7_findToldNames ⟨by decide, by decide⟩ kw_594 kw_596 kw_8 rfl (by decide) (Nat.le_of_ble_eq_true rfl) (by decide) (LX7.o (h := h) F0) (Nat.le_of_ble_eq_true rfl) hN (fun _ _ q => q.elim) (oV_go (G := fun a b => Gd X mX7_fillEdition 11 _ a b nc ns P) (fun t q => Gd.wk (g t q) ⟨rfl, trivial⟩))
/-- what the handler does with a throw of the reader's -/
def cX (nc ns a0 : Nat) (P : Out → SH → Prop) (Z : String → SH → Prop) : Prop := ∀ E t, Z E t → E = ISE ∧ LX7 (Sk t) a0 ∧ P (.inl (some (.int (hI t a0 8)))) t
theorem bkX7_fillEdition_29 (F0 : LX7 (Sk h) a0) (hN : Cd X mX7_readFact [.ref a0] h n1 s1 (oV Q Z)) (hx : cX nc ns a0 P Z) (g : ∀ t, Q t → Gd X mX7_fillEdition 33 [some (.ref a0), some (.int x1)] [] t nc ns P) : Gd X mX7_fillEdition 29 [some (.ref a0), some (.int x1)] [] h (n1 + nc) (s1 + ns) P := by
  refine g_aload_n dX7_fillEdition_29 rfl ?_
  exact g_callVC (k := 7) (j := 1) (L' := [some (.ref a0), none]) [] dX7_fillEdition_30 mfX7_readFact ⟨by decide, by decide⟩ kw_602 kw_604 kw_9 rfl (by decide) (Nat.le_of_ble_eq_true rfl) (LX7.o (h := h) F0) (Nat.le_of_ble_eq_true rfl) hN rfl rfl (by decide) kw_445 dX7_fillEdition_77 (by decide) fl_L (fun E t q => by obtain ⟨rfl, b, d⟩ := hx E t q; exact ⟨cast_ise, bkX7_fillEdition_78 b d⟩) (oV_go (G := fun a b => Gd X mX7_fillEdition 33 _ a b nc ns P) (fun t q => g t q))
theorem bkX7_fillEdition_58 (F0 : LX7 (Sk h) a0) (hN : Cd X mX7_readClause [.ref a0] h n1 s1 (oV Q Z)) (hx : cX nc ns a0 P Z) (g : ∀ t, Q t → Gd X mX7_fillEdition 62 [some (.ref a0), some (.int x1)] [] t nc ns P) : Gd X mX7_fillEdition 58 [some (.ref a0), some (.int x1)] [] h (n1 + nc) (s1 + ns) P := by
  refine g_aload_n dX7_fillEdition_58 rfl ?_
  exact g_callVC (k := 7) (j := 1) (L' := [some (.ref a0), none]) [] dX7_fillEdition_59 mfX7_readClause ⟨by decide, by decide⟩ kw_702 kw_704 kw_15 rfl (by decide) (Nat.le_of_ble_eq_true rfl) (LX7.o (h := h) F0) (Nat.le_of_ble_eq_true rfl) hN rfl rfl (by decide) kw_445 dX7_fillEdition_77 (by decide) fl_L (fun E t q => by obtain ⟨rfl, b, d⟩ := hx E t q; exact ⟨cast_ise, bkX7_fillEdition_78 b d⟩) (oV_go (G := fun a b => Gd X mX7_fillEdition 62 _ a b nc ns P) (fun t q => g t q))
theorem bkX7_fillEdition_68 (F0 : LX7 (Sk h) a0) (hN : Cd X mX7_require [.ref a0, .int 14] h n1 s1 (oV Q Z)) (hx : cX nc ns a0 P Z) (g : ∀ t, Q t → Gd X mX7_fillEdition 74 [none, none] [] t nc ns P) : Gd X mX7_fillEdition 68 [some (.ref a0), none] [] h (n1 + nc) (s1 + ns) P := by
  refine g_aload_n dX7_fillEdition_68 rfl ?_
  refine g_bipush (v := 14) dX7_fillEdition_69 (by decide) ?_
  exact g_callVC (k := 7) (j := 1) (L' := [some (.ref a0), none]) [.int 14] dX7_fillEdition_71 mfX7_require ⟨by decide, by decide⟩ kw_676 kw_678 kw_12 rfl (by decide) (Nat.le_of_ble_eq_true rfl) (LX7.o (h := h) F0) (Nat.le_of_ble_eq_true rfl) hN rfl rfl (by decide) kw_445 dX7_fillEdition_77 (by decide) fl_L (fun E t q => by obtain ⟨rfl, b, d⟩ := hx E t q; exact ⟨cast_ise, bkX7_fillEdition_78 b d⟩) (oV_go (G := fun a b => Gd X mX7_fillEdition 74 _ a b nc ns P) (fun t q => Gd.wk (g t q) trivial))
end FE
