theorem bkX8_init_0 {X : GX} {h : SH} {nc ns : Nat} {P : Out → SH → Prop} {a0 : Nat} (g : Gd X mX8_init 4 [some (.ref a0)] [] (h) nc ns P) : Gd X mX8_init 0 [some (.ref a0)] [] h nc ns P := by
  refine g_aload_n dX8_init_0 rfl ?_
  refine g_objInit dX8_init_1 kw_208 kw_124 kw_125 (by decide) (Nat.le_of_ble_eq_true rfl) ?_
  exact Gd.wk g ⟨rfl, trivial⟩
theorem bkX8_init_4 {X : GX} {h : SH} {nc ns : Nat} {P : Out → SH → Prop} {a0 : Nat} (g : Gd X mX8_init 8 [some (.ref a0)] [.ref (hz h), .ref a0] (nw h 1 0) nc ns P) : Gd X mX8_init 4 [some (.ref a0)] [] h (nc + 1) (ns + 2) P := by
  refine g_aload_n dX8_init_4 rfl ?_
  refine g_new (c := 1) dX8_init_5 (by decide) kw_209 kw_129 kw_94 ?_
  exact Gd.wk g ⟨rfl, trivial⟩
theorem bkX8_init_12 {X : GX} {h : SH} {nc ns : Nat} {P : Out → SH → Prop} {a0 : Nat} {as0 : Nat} {as1 : Nat} (F0 : LX8 (Sk h) (as0)) (g : Gd X mX8_init 15 [some (.ref a0)] [] (sA h as0 0 (some (as1))) nc ns P) : Gd X mX8_init 12 [some (.ref a0)] [.ref as1, .ref as0] h nc ns P := by
  refine g_putF (c := 8) (k := 0) (v := va_rf (some (as1))) (h1 := sA h as0 0 (some (as1))) dX8_init_12 (by decide) (by decide) kw_213 rfl rfl rfl (LX8.o (h := h) F0) (rf_n rfl) (rf_f rfl) (Put.A rfl) ?_
  exact Gd.wk g ⟨rfl, trivial⟩
theorem bkX8_init_23 {X : GX} {h : SH} {nc ns : Nat} {P : Out → SH → Prop} {a0 : Nat} {as0 : Nat} {as1 : Nat} (F0 : LX8 (Sk h) (as0)) (g : Gd X mX8_init 26 [some (.ref a0)] [] (sA h as0 1 (some (as1))) nc ns P) : Gd X mX8_init 23 [some (.ref a0)] [.ref as1, .ref as0] h nc ns P := by
  refine g_putF (c := 8) (k := 1) (v := va_rf (some (as1))) (h1 := sA h as0 1 (some (as1))) dX8_init_23 (by decide) (by decide) kw_214 rfl rfl rfl (LX8.o (h := h) F0) (rf_n rfl) (rf_f rfl) (Put.A rfl) ?_
  exact Gd.wk g ⟨rfl, trivial⟩
theorem bkX8_init_34 {X : GX} {h : SH} {nc ns : Nat} {P : Out → SH → Prop} {as0 : Nat} {as1 : Nat} (F0 : LX8 (Sk h) (as0)) (g : Gd X mX8_init 37 [none] [] (sA h as0 2 (some (as1))) nc ns P) : Gd X mX8_init 34 [none] [.ref as1, .ref as0] h nc ns P := by
  refine g_putF (c := 8) (k := 2) (v := va_rf (some (as1))) (h1 := sA h as0 2 (some (as1))) dX8_init_34 (by decide) (by decide) kw_215 rfl rfl rfl (LX8.o (h := h) F0) (rf_n rfl) (rf_f rfl) (Put.A rfl) ?_
  exact Gd.wk g trivial
theorem bkX8_init_8 {X : GX} {h : SH} {nc ns : Nat} {P : Out → SH → Prop} {n1 s1 : Nat} {Q : SH → Prop} {a0 : Nat} {as0 : Nat} {as1 : Nat} (hN : Cd X mX1_init [.ref as1] (h) n1 s1 (oV Q nX)) (g : ∀ t, Q t → Gd X mX8_init 12 [some (.ref a0)] [.ref as1, .ref as0] (t) nc ns P) : Gd X mX8_init 8 [some (.ref a0)] [.ref as1, .ref as0] h (n1 + nc) (s1 + ns) P := by
  refine g_dup dX8_init_8 rfl ?_
  exact g_callIN [] dX8_init_9 mfX1_init rfl rfl ⟨by decide, by decide⟩ kn_210 kw_131 rfl (Nat.le_of_ble_eq_true rfl) (by intro x hx; cases hx) (Nat.le_of_ble_eq_true rfl) hN (fun _ _ q => q) (oV_go (G := fun a b => Gd X mX8_init 12 _ a b nc ns P) (fun t q => Gd.wk (g t q) ⟨rfl, trivial⟩))
theorem bkX8_init_15 {X : GX} {h : SH} {nc ns : Nat} {P : Out → SH → Prop} {a0 : Nat} (g : Gd X mX8_init 19 [some (.ref a0)] [.ref (hz h), .ref a0] (nw h 6 0) nc ns P) : Gd X mX8_init 15 [some (.ref a0)] [] h (nc + 1) (ns + 9) P := by
  refine g_aload_n dX8_init_15 rfl ?_
  refine g_new (c := 6) dX8_init_16 (by decide) kw_211 kw_161 kw_96 ?_
  exact Gd.wk g ⟨rfl, trivial⟩
theorem bkX8_init_26 {X : GX} {h : SH} {nc ns : Nat} {P : Out → SH → Prop} {a0 : Nat} (g : Gd X mX8_init 30 [none] [.ref (hz h), .ref a0] (nw h 6 0) nc ns P) : Gd X mX8_init 26 [some (.ref a0)] [] h (nc + 1) (ns + 9) P := by
  refine g_aload_n dX8_init_26 rfl ?_
  refine g_new (c := 6) dX8_init_27 (by decide) kw_211 kw_161 kw_96 ?_
  exact Gd.wk g trivial
theorem bkX8_init_37 {X : GX} {h : SH} {nc ns : Nat} {P : Out → SH → Prop} (hp : P (.inl (none)) (h)) : Gd X mX8_init 37 [none] [] h nc ns P := by
  exact g_return (st := []) dX8_init_37 rfl hp
theorem bkX8_init_19 {X : GX} {h : SH} {nc ns : Nat} {P : Out → SH → Prop} {n1 s1 : Nat} {Q : SH → Prop} {a0 : Nat} {as0 : Nat} {as1 : Nat} (hN : Cd X mX6_init [.ref as1] (h) n1 s1 (oV Q nX)) (g : ∀ t, Q t → Gd X mX8_init 23 [some (.ref a0)] [.ref as1, .ref as0] (t) nc ns P) : Gd X mX8_init 19 [some (.ref a0)] [.ref as1, .ref as0] h (n1 + nc) (s1 + ns) P := by
  refine g_dup dX8_init_19 rfl ?_
  exact g_callIN [] dX8_init_20 mfX6_init rfl rfl ⟨by decide, by decide⟩ kn_212 kw_163 rfl (Nat.le_of_ble_eq_true rfl) (by intro x hx; cases hx) (Nat.le_of_ble_eq_true rfl) hN (fun _ _ q => q) (oV_go (G := fun a b => Gd X mX8_init 23 _ a b nc ns P) (fun t q => Gd.wk (g t q) ⟨rfl, trivial⟩))
theorem bkX8_init_30 {X : GX} {h : SH} {nc ns : Nat} {P : Out → SH → Prop} {n1 s1 : Nat} {Q : SH → Prop} {as0 : Nat} {as1 : Nat} (hN : Cd X mX6_init [.ref as1] (h) n1 s1 (oV Q nX)) (g : ∀ t, Q t → Gd X mX8_init 34 [none] [.ref as1, .ref as0] (t) nc ns P) : Gd X mX8_init 30 [none] [.ref as1, .ref as0] h (n1 + nc) (s1 + ns) P := by
  refine g_dup dX8_init_30 rfl ?_
  exact g_callIN [] dX8_init_31 mfX6_init rfl rfl ⟨by decide, by decide⟩ kn_212 kw_163 rfl (Nat.le_of_ble_eq_true rfl) (by intro x hx; cases hx) (Nat.le_of_ble_eq_true rfl) hN (fun _ _ q => q) (oV_go (G := fun a b => Gd X mX8_init 34 _ a b nc ns P) (fun t q => Gd.wk (g t q) trivial))
theorem bkX8_judgeWorlds_0 {X : GX} {h : SH} {nc ns : Nat} {P : Out → SH → Prop} {a0 : Nat} {a1 : Nat} (F0 : LX3 (Sk h) (a1)) (kt : hI h a1 10 = 0 → Gd X mX8_judgeWorlds 8 [some (.ref a0), some (.ref a1), none, none] [] (h) nc ns P) (kf : ¬ hI h a1 10 = 0 → Gd X mX8_judgeWorlds 7 [none, none, none, none] [] (h) nc ns P) : Gd X mX8_judgeWorlds 0 [some (.ref a0), some (.ref a1), none, none] [] h nc ns P := by
  refine g_aload_n dX8_judgeWorlds_0 rfl ?_
  refine g_getNI (c := 3) (k := 10) dX8_judgeWorlds_1 (by decide) (by decide) kn_327 rfl (LX3.o (h := h) F0) ?_
  exact g_if_eq (tgt := 8) dX8_judgeWorlds_4 (by decide) (fun q => Gd.wk (kt q) ⟨rfl, ⟨rfl, trivial⟩⟩) (fun q => Gd.wk (kf q) trivial)
theorem bkX8_judgeWorlds_7 {X : GX} {h : SH} {nc ns : Nat} {P : Out → SH → Prop} (hp : P (.inl (none)) (h)) : Gd X mX8_judgeWorlds 7 [none, none, none, none] [] h nc ns P := by
  exact g_return (st := []) dX8_judgeWorlds_7 rfl hp
theorem bkX8_judgeWorlds_8 {X : GX} {h : SH} {nc ns : Nat} {P : Out → SH → Prop} {Q : SH → Prop} {a0 : Nat} {a1 : Nat} (F0 : LX3 (Sk h) (a1)) (hN : Cd X mJ7_fill_53178 [.ref (a1 + 7), .int ((-1))] (sI h a1 10 1) 0 0 (oV Q nX)) (g : ∀ t, Q t → Gd X mX8_judgeWorlds 21 [some (.ref a0), some (.ref a1), none, none] [] (t) nc ns P) : Gd X mX8_judgeWorlds 8 [some (.ref a0), some (.ref a1), none, none] [] h nc ns P := by
  refine g_aload_n dX8_judgeWorlds_8 rfl ?_
  refine g_iconst (v := 1) dX8_judgeWorlds_9 (by decide) ?_
  refine g_putN (c := 3) (k := 10) (h1 := sI h a1 10 1) dX8_judgeWorlds_10 (by decide) (by decide) kn_327 rfl (LX3.o (h := h) F0) (bl_n (by decide)) (bl_f (by decide)) (Put.I rfl) ?_
  refine g_aload_n dX8_judgeWorlds_13 rfl ?_
  refine g_getNAs (c := 3) (k := 12) (b := a1 + 7) dX8_judgeWorlds_14 (by decide) (by decide) kn_332 rfl (LX3.o (h := sI h a1 10 1) F0) (LX3.r_quarrelLeast (h := sI h a1 10 1) F0) ?_
  refine g_iconst (v := (-1)) dX8_judgeWorlds_17 (by decide) ?_
  refine Gd.z ?_
  exact g_callS [.ref (a1 + 7), .int ((-1))] dX8_judgeWorlds_18 mfJ7_fill_53178 ⟨by decide, by decide⟩ kw_1040 kw_1041 rfl (Nat.le_of_ble_eq_true rfl) (by intro x hx; cases hx) (Nat.le_of_ble_eq_true rfl) hN (fun _ _ q => q.elim) (oV_go (G := fun a b => Gd X mX8_judgeWorlds 21 _ a b nc ns P) (fun t q => Gd.wk (g t q) ⟨rfl, ⟨rfl, trivial⟩⟩))
theorem bkX8_judgeWorlds_21 {X : GX} {h : SH} {nc ns : Nat} {P : Out → SH → Prop} {a0 : Nat} {a1 : Nat} (g : Gd X mX8_judgeWorlds 23 [some (.ref a0), some (.ref a1), some (.int 0), none] [] (h) nc ns P) : Gd X mX8_judgeWorlds 21 [some (.ref a0), some (.ref a1), none, none] [] h nc ns P := by
  refine g_iconst (v := 0) dX8_judgeWorlds_21 (by decide) ?_
  refine g_istore_n (L' := [some (.ref a0), some (.ref a1), some (.int 0), none]) dX8_judgeWorlds_22 (by decide) rfl ?_
  exact Gd.wk g ⟨rfl, ⟨rfl, ⟨rfl, trivial⟩⟩⟩
theorem bkX8_judgeWorlds_23 {X : GX} {h : SH} {nc ns : Nat} {P : Out → SH → Prop} {a0 : Nat} {a1 : Nat} {x2 : Int32} (F0 : LX3 (Sk h) (a1)) (kt : hI h a1 6 ≤ x2 → Gd X mX8_judgeWorlds 92 [none, none, none, none] [] (h) nc ns P) (kf : ¬ hI h a1 6 ≤ x2 → Gd X mX8_judgeWorlds 31 [some (.ref a0), some (.ref a1), some (.int x2), none] [] (h) nc ns P) : Gd X mX8_judgeWorlds 23 [some (.ref a0), some (.ref a1), some (.int x2), none] [] h nc ns P := by
  refine g_iload_n dX8_judgeWorlds_23 rfl ?_
  refine g_aload_n dX8_judgeWorlds_24 rfl ?_
  refine g_getNI (c := 3) (k := 6) dX8_judgeWorlds_25 (by decide) (by decide) kn_316 rfl (LX3.o (h := h) F0) ?_
  exact g_icmp_ge (tgt := 92) dX8_judgeWorlds_28 (by decide) (fun q => Gd.wk (kt q) trivial) (fun q => Gd.wk (kf q) ⟨rfl, ⟨rfl, ⟨rfl, trivial⟩⟩⟩)
theorem bkX8_judgeWorlds_31 {X : GX} {h : SH} {nc ns : Nat} {P : Out → SH → Prop} {Q : SH → Prop} {a0 : Nat} {a1 : Nat} {x2 : Int32} (F0 : LX8 (Sk h) (a0)) (hN : Cd X mX1_setWorld [.ref (a0 + 1), .ref a1, .int x2] (h) 0 0 (oV Q nX)) (g : ∀ t, Q t → Gd X mX8_judgeWorlds 40 [some (.ref a0), some (.ref a1), some (.int x2), none] [] (t) nc ns P) : Gd X mX8_judgeWorlds 31 [some (.ref a0), some (.ref a1), some (.int x2), none] [] h nc ns P := by
  refine g_aload_n dX8_judgeWorlds_31 rfl ?_
  refine g_getAs (c := 8) (k := 0) (b := a0 + 1) dX8_judgeWorlds_32 (by decide) (by decide) kw_213 rfl (LX8.o (h := h) F0) (LX8.r_tried (h := h) F0) ?_
  refine g_aload_n dX8_judgeWorlds_35 rfl ?_
  refine g_iload_n dX8_judgeWorlds_36 rfl ?_
  refine Gd.z ?_
  exact g_callV (k := 1) [.ref a1, .int x2] dX8_judgeWorlds_37 mfX1_setWorld ⟨by decide, by decide⟩ kw_1043 kw_887 kw_888 rfl (by decide) (Nat.le_of_ble_eq_true rfl) (by intro x hx; cases hx) (LX1.o (h := h) (LX8.l_tried F0)) (Nat.le_of_ble_eq_true rfl) hN (fun _ _ q => q.elim) (oV_go (G := fun a b => Gd X mX8_judgeWorlds 40 _ a b nc ns P) (fun t q => Gd.wk (g t q) ⟨rfl, ⟨rfl, ⟨rfl, trivial⟩⟩⟩))
theorem bkX8_judgeWorlds_40 {X : GX} {h : SH} {nc ns : Nat} {P : Out → SH → Prop} {Q : SH → Prop} {a0 : Nat} {a1 : Nat} {x2 : Int32} (F0 : LX8 (Sk h) (a0)) (hN : Cd X mX6_settle [.ref (a0 + 4), .ref a1, .ref (a0 + 1)] (h) 0 0 (oV Q nX)) (g : ∀ t, Q t → Gd X mX8_judgeWorlds 52 [some (.ref a0), some (.ref a1), some (.int x2), none] [] (t) nc ns P) : Gd X mX8_judgeWorlds 40 [some (.ref a0), some (.ref a1), some (.int x2), none] [] h nc ns P := by
  refine g_aload_n dX8_judgeWorlds_40 rfl ?_
  refine g_getAs (c := 8) (k := 1) (b := a0 + 4) dX8_judgeWorlds_41 (by decide) (by decide) kw_214 rfl (LX8.o (h := h) F0) (LX8.r_letterOfOne (h := h) F0) ?_
  refine g_aload_n dX8_judgeWorlds_44 rfl ?_
  refine g_aload_n dX8_judgeWorlds_45 rfl ?_
  refine g_getAs (c := 8) (k := 0) (b := a0 + 1) dX8_judgeWorlds_46 (by decide) (by decide) kw_213 rfl (LX8.o (h := h) F0) (LX8.r_tried (h := h) F0) ?_
  refine Gd.z ?_
  exact g_callV (k := 6) [.ref a1, .ref (a0 + 1)] dX8_judgeWorlds_49 mfX6_settle ⟨by decide, by decide⟩ kw_1044 kw_940 kw_941 rfl (by decide) (Nat.le_of_ble_eq_true rfl) (by intro x hx; cases hx) (LX6.o (h := h) (LX8.l_letterOfOne F0)) (Nat.le_of_ble_eq_true rfl) hN (fun _ _ q => q.elim) (oV_go (G := fun a b => Gd X mX8_judgeWorlds 52 _ a b nc ns P) (fun t q => Gd.wk (g t q) ⟨rfl, ⟨rfl, ⟨rfl, trivial⟩⟩⟩))
theorem bkX8_judgeWorlds_52 {X : GX} {h : SH} {nc ns : Nat} {P : Out → SH → Prop} {a0 : Nat} {a1 : Nat} {x2 : Int32} (F0 : LX8 (Sk h) (a0)) (F1 : LX3 (Sk h) (a1)) (i2 : vp_in (hI h (a0 + 4) 6) 5) (kt : ¬ (hI h (a1 + 6) ((hI h (a0 + 4) 6 : Int32).toNatClampNeg)) = 0 → Gd X mX8_judgeWorlds 76 [some (.ref a0), some (.ref a1), some (.int x2), some (.int (hI h (a0 + 4) 6))] [] (h) nc ns P) (kf : (hI h (a1 + 6) ((hI h (a0 + 4) 6 : Int32).toNatClampNeg)) = 0 → Gd X mX8_judgeWorlds 69 [some (.ref a0), some (.ref a1), some (.int x2), some (.int (hI h (a0 + 4) 6))] [] (h) nc ns P) : Gd X mX8_judgeWorlds 52 [some (.ref a0), some (.ref a1), some (.int x2), none] [] h nc ns P := by
  refine g_aload_n dX8_judgeWorlds_52 rfl ?_
  refine g_getAs (c := 8) (k := 1) (b := a0 + 4) dX8_judgeWorlds_53 (by decide) (by decide) kw_214 rfl (LX8.o (h := h) F0) (LX8.r_letterOfOne (h := h) F0) ?_
  refine g_getNI (c := 6) (k := 6) dX8_judgeWorlds_56 (by decide) (by decide) kn_177 rfl (LX6.o (h := h) (LX8.l_letterOfOne F0)) ?_
  refine g_istore_n (L' := [some (.ref a0), some (.ref a1), some (.int x2), some (.int (hI h (a0 + 4) 6))]) dX8_judgeWorlds_59 (by decide) rfl ?_
  refine g_aload_n dX8_judgeWorlds_60 rfl ?_
  refine g_getNAs (c := 3) (k := 11) (b := a1 + 6) dX8_judgeWorlds_61 (by decide) (by decide) kn_329 rfl (LX3.o (h := h) F1) (LX3.r_quarrelWorlds (h := h) F1) ?_
  refine g_iload_n dX8_judgeWorlds_64 rfl ?_
  refine g_iaload dX8_judgeWorlds_65 (LX3.a_quarrelWorlds (h := h) F1) i2 ?_
  exact g_if_ne (tgt := 76) dX8_judgeWorlds_66 (by decide) (fun q => Gd.wk (kt q) ⟨rfl, ⟨rfl, ⟨rfl, ⟨rfl, trivial⟩⟩⟩⟩) (fun q => Gd.wk (kf q) ⟨rfl, ⟨rfl, ⟨rfl, ⟨rfl, trivial⟩⟩⟩⟩)
theorem bkX8_judgeWorlds_69 {X : GX} {h : SH} {nc ns : Nat} {P : Out → SH → Prop} {a0 : Nat} {a1 : Nat} {x2 : Int32} {x3 : Int32} (F0 : LX3 (Sk h) (a1)) (i1 : vp_in (x3) 5) (g : Gd X mX8_judgeWorlds 76 [some (.ref a0), some (.ref a1), some (.int x2), some (.int x3)] [] (sI h (a1 + 7) ((x3 : Int32).toNatClampNeg) x2) nc ns P) : Gd X mX8_judgeWorlds 69 [some (.ref a0), some (.ref a1), some (.int x2), some (.int x3)] [] h nc ns P := by
  refine g_aload_n dX8_judgeWorlds_69 rfl ?_
  refine g_getNAs (c := 3) (k := 12) (b := a1 + 7) dX8_judgeWorlds_70 (by decide) (by decide) kn_332 rfl (LX3.o (h := h) F0) (LX3.r_quarrelLeast (h := h) F0) ?_
  refine g_iload_n dX8_judgeWorlds_73 rfl ?_
  refine g_iload_n dX8_judgeWorlds_74 rfl ?_
  refine g_iastore dX8_judgeWorlds_75 (LX3.a_quarrelLeast (h := h) F0) i1 ?_
  exact Gd.wk g ⟨rfl, ⟨rfl, ⟨rfl, ⟨rfl, trivial⟩⟩⟩⟩
theorem bkX8_judgeWorlds_76 {X : GX} {h : SH} {nc ns : Nat} {P : Out → SH → Prop} {a0 : Nat} {a1 : Nat} {x2 : Int32} {x3 : Int32} (F0 : LX3 (Sk h) (a1)) (i1 : vp_in (x3) 5) (g : Gd X mX8_judgeWorlds 23 [some (.ref a0), some (.ref a1), some (.int (x2 + 1)), none] [] (sI h (a1 + 6) ((x3 : Int32).toNatClampNeg) ((hI h (a1 + 6) ((x3 : Int32).toNatClampNeg)) + 1)) nc ns P) : Gd X mX8_judgeWorlds 76 [some (.ref a0), some (.ref a1), some (.int x2), some (.int x3)] [] h nc ns P := by
  refine g_aload_n dX8_judgeWorlds_76 rfl ?_
  refine g_getNAs (c := 3) (k := 11) (b := a1 + 6) dX8_judgeWorlds_77 (by decide) (by decide) kn_329 rfl (LX3.o (h := h) F0) (LX3.r_quarrelWorlds (h := h) F0) ?_
  refine g_iload_n dX8_judgeWorlds_80 rfl ?_
  refine g_dup2 dX8_judgeWorlds_81 rfl rfl ?_
  refine g_iaload dX8_judgeWorlds_82 (LX3.a_quarrelWorlds (h := h) F0) i1 ?_
  refine g_iconst (v := 1) dX8_judgeWorlds_83 (by decide) ?_
  refine g_iadd dX8_judgeWorlds_84 ?_
  refine g_iastore dX8_judgeWorlds_85 (LX3.a_quarrelWorlds (h := h) F0) i1 ?_
  refine g_iinc (v := x2 + 1) (L' := [some (.ref a0), some (.ref a1), some (.int (x2 + 1)), some (.int x3)]) dX8_judgeWorlds_86 rfl rfl (by decide) rfl ?_
  refine g_goto (tgt := 23) dX8_judgeWorlds_89 (by decide) ?_
  exact Gd.wk g ⟨rfl, ⟨rfl, ⟨rfl, trivial⟩⟩⟩
theorem bkX8_judgeWorlds_92 {X : GX} {h : SH} {nc ns : Nat} {P : Out → SH → Prop} (hp : P (.inl (none)) (h)) : Gd X mX8_judgeWorlds 92 [none, none, none, none] [] h nc ns P := by
  exact g_return (st := []) dX8_judgeWorlds_92 rfl hp
theorem bkX8_compareWorlds_0 {X : GX} {h : SH} {nc ns : Nat} {P : Out → SH → Prop} {a0 : Nat} {a1 : Nat} {a2 : Nat} {x3 : Int32} {a4 : Nat} (F0 : LX8 (Sk h) (a0)) (g1 : ∀ z, (hA h a0 3) = some z → 8 ≤ z) (g2 : ∀ z, (some (a1)) = some z → 8 ≤ z) (kt : ¬ (hA h a0 3) = (some (a1)) → Gd X mX8_compareWorlds 25 [some (.ref a0), some (.ref a1), some (.ref a2), some (.int x3), some (.ref a4), none] [] (h) nc ns P) (kf : (hA h a0 3) = (some (a1)) → Gd X mX8_compareWorlds 8 [some (.ref a0), some (.ref a1), some (.ref a2), some (.int x3), some (.ref a4), none] [] (h) nc ns P) : Gd X mX8_compareWorlds 0 [some (.ref a0), some (.ref a1), some (.ref a2), some (.int x3), some (.ref a4), none] [] h nc ns P := by
  refine g_aload_n dX8_compareWorlds_0 rfl ?_
  refine g_getA (c := 8) (k := 3) dX8_compareWorlds_1 (by decide) (by decide) kw_216 rfl (LX8.o (h := h) F0) ?_
  refine g_aload_n dX8_compareWorlds_4 rfl ?_
  exact g_acmp_ne (rx := (hA h a0 3)) (ry := (some (a1))) (tgt := 25) dX8_compareWorlds_5 (by decide) g1 g2 (fun q => Gd.wk (kt q) ⟨rfl, ⟨rfl, ⟨rfl, ⟨rfl, ⟨rfl, trivial⟩⟩⟩⟩⟩) (fun q => Gd.wk (kf q) ⟨rfl, ⟨rfl, ⟨rfl, ⟨rfl, ⟨rfl, trivial⟩⟩⟩⟩⟩)
theorem bkX8_compareWorlds_8 {X : GX} {h : SH} {nc ns : Nat} {P : Out → SH → Prop} {a0 : Nat} {a1 : Nat} {a2 : Nat} {x3 : Int32} {a4 : Nat} (F0 : LX8 (Sk h) (a0)) (g1 : ∀ z, (hA h a0 4) = some z → 8 ≤ z) (g2 : ∀ z, (some (a2)) = some z → 8 ≤ z) (kt : ¬ (hA h a0 4) = (some (a2)) → Gd X mX8_compareWorlds 25 [some (.ref a0), some (.ref a1), some (.ref a2), some (.int x3), some (.ref a4), none] [] (h) nc ns P) (kf : (hA h a0 4) = (some (a2)) → Gd X mX8_compareWorlds 16 [some (.ref a0), some (.ref a1), some (.ref a2), some (.int x3), some (.ref a4), none] [] (h) nc ns P) : Gd X mX8_compareWorlds 8 [some (.ref a0), some (.ref a1), some (.ref a2), some (.int x3), some (.ref a4), none] [] h nc ns P := by
  refine g_aload_n dX8_compareWorlds_8 rfl ?_
  refine g_getA (c := 8) (k := 4) dX8_compareWorlds_9 (by decide) (by decide) kw_217 rfl (LX8.o (h := h) F0) ?_
  refine g_aload_n dX8_compareWorlds_12 rfl ?_
  exact g_acmp_ne (rx := (hA h a0 4)) (ry := (some (a2))) (tgt := 25) dX8_compareWorlds_13 (by decide) g1 g2 (fun q => Gd.wk (kt q) ⟨rfl, ⟨rfl, ⟨rfl, ⟨rfl, ⟨rfl, trivial⟩⟩⟩⟩⟩) (fun q => Gd.wk (kf q) ⟨rfl, ⟨rfl, ⟨rfl, ⟨rfl, ⟨rfl, trivial⟩⟩⟩⟩⟩)
theorem bkX8_compareWorlds_16 {X : GX} {h : SH} {nc ns : Nat} {P : Out → SH → Prop} {a0 : Nat} {a1 : Nat} {a2 : Nat} {x3 : Int32} {a4 : Nat} (F0 : LX8 (Sk h) (a0)) (kt : ¬ hI h a0 5 = x3 → Gd X mX8_compareWorlds 25 [some (.ref a0), some (.ref a1), some (.ref a2), some (.int x3), some (.ref a4), none] [] (h) nc ns P) (kf : hI h a0 5 = x3 → Gd X mX8_compareWorlds 24 [none, none, none, none, none, none] [] (h) nc ns P) : Gd X mX8_compareWorlds 16 [some (.ref a0), some (.ref a1), some (.ref a2), some (.int x3), some (.ref a4), none] [] h nc ns P := by
  refine g_aload_n dX8_compareWorlds_16 rfl ?_
  refine g_getI (c := 8) (k := 5) dX8_compareWorlds_17 (by decide) (by decide) kw_218 rfl (LX8.o (h := h) F0) ?_
  refine g_iload_n dX8_compareWorlds_20 rfl ?_
  exact g_icmp_ne (tgt := 25) dX8_compareWorlds_21 (by decide) (fun q => Gd.wk (kt q) ⟨rfl, ⟨rfl, ⟨rfl, ⟨rfl, ⟨rfl, trivial⟩⟩⟩⟩⟩) (fun q => Gd.wk (kf q) trivial)
theorem bkX8_compareWorlds_24 {X : GX} {h : SH} {nc ns : Nat} {P : Out → SH → Prop} (hp : P (.inl (none)) (h)) : Gd X mX8_compareWorlds 24 [none, none, none, none, none, none] [] h nc ns P := by
  exact g_return (st := []) dX8_compareWorlds_24 rfl hp
theorem bkX8_compareWorlds_25 {X : GX} {h : SH} {nc ns : Nat} {P : Out → SH → Prop} {a0 : Nat} {a1 : Nat} {a2 : Nat} {x3 : Int32} {a4 : Nat} (F0 : LX8 (Sk h) (a0)) (g : Gd X mX8_compareWorlds 30 [some (.ref a0), some (.ref a1), some (.ref a2), some (.int x3), some (.ref a4), none] [] (sA h a0 3 (some (a1))) nc ns P) : Gd X mX8_compareWorlds 25 [some (.ref a0), some (.ref a1), some (.ref a2), some (.int x3), some (.ref a4), none] [] h nc ns P := by
  refine g_aload_n dX8_compareWorlds_25 rfl ?_
  refine g_aload_n dX8_compareWorlds_26 rfl ?_
  refine g_put (c := 8) (k := 3) (v := va_rf (some (a1))) (h1 := sA h a0 3 (some (a1))) dX8_compareWorlds_27 (by decide) (by decide) kw_216 rfl (LX8.o (h := h) F0) (rf_n rfl) (rf_f rfl) (Put.A rfl) ?_
  exact Gd.wk g ⟨rfl, ⟨rfl, ⟨rfl, ⟨rfl, ⟨rfl, trivial⟩⟩⟩⟩⟩
theorem bkX8_compareWorlds_53 {X : GX} {h : SH} {nc ns : Nat} {P : Out → SH → Prop} {a0 : Nat} {a1 : Nat} {a2 : Nat} {x3 : Int32} {a4 : Nat} {x5 : Int32} (F0 : LX3 (Sk h) (a1)) (kt : hI h a1 6 ≤ x5 → Gd X mX8_compareWorlds 152 [none, none, none, none, none, none] [] (h) nc ns P) (kf : ¬ hI h a1 6 ≤ x5 → Gd X mX8_compareWorlds 62 [some (.ref a0), some (.ref a1), some (.ref a2), some (.int x3), some (.ref a4), some (.int x5)] [] (h) nc ns P) : Gd X mX8_compareWorlds 53 [some (.ref a0), some (.ref a1), some (.ref a2), some (.int x3), some (.ref a4), some (.int x5)] [] h nc ns P := by
  refine g_iload dX8_compareWorlds_53 rfl ?_
  refine g_aload_n dX8_compareWorlds_55 rfl ?_
  refine g_getNI (c := 3) (k := 6) dX8_compareWorlds_56 (by decide) (by decide) kn_316 rfl (LX3.o (h := h) F0) ?_
  exact g_icmp_ge (tgt := 152) dX8_compareWorlds_59 (by decide) (fun q => Gd.wk (kt q) trivial) (fun q => Gd.wk (kf q) ⟨rfl, ⟨rfl, ⟨rfl, ⟨rfl, ⟨rfl, ⟨rfl, trivial⟩⟩⟩⟩⟩⟩)
theorem bkX8_compareWorlds_62 {X : GX} {h : SH} {nc ns : Nat} {P : Out → SH → Prop} {Q : SH → Prop} {a0 : Nat} {a1 : Nat} {a2 : Nat} {x3 : Int32} {a4 : Nat} {x5 : Int32} (F0 : LX8 (Sk h) (a0)) (hN : Cd X mX1_setWorld [.ref (a0 + 1), .ref a1, .int x5] (h) 0 0 (oV Q nX)) (g : ∀ t, Q t → Gd X mX8_compareWorlds 72 [some (.ref a0), some (.ref a1), some (.ref a2), some (.int x3), some (.ref a4), some (.int x5)] [] (t) nc ns P) : Gd X mX8_compareWorlds 62 [some (.ref a0), some (.ref a1), some (.ref a2), some (.int x3), some (.ref a4), some (.int x5)] [] h nc ns P := by
  refine g_aload_n dX8_compareWorlds_62 rfl ?_
  refine g_getAs (c := 8) (k := 0) (b := a0 + 1) dX8_compareWorlds_63 (by decide) (by decide) kw_213 rfl (LX8.o (h := h) F0) (LX8.r_tried (h := h) F0) ?_
  refine g_aload_n dX8_compareWorlds_66 rfl ?_
  refine g_iload dX8_compareWorlds_67 rfl ?_
  refine Gd.z ?_
  exact g_callV (k := 1) [.ref a1, .int x5] dX8_compareWorlds_69 mfX1_setWorld ⟨by decide, by decide⟩ kw_1043 kw_887 kw_888 rfl (by decide) (Nat.le_of_ble_eq_true rfl) (by intro x hx; cases hx) (LX1.o (h := h) (LX8.l_tried F0)) (Nat.le_of_ble_eq_true rfl) hN (fun _ _ q => q.elim) (oV_go (G := fun a b => Gd X mX8_compareWorlds 72 _ a b nc ns P) (fun t q => Gd.wk (g t q) ⟨rfl, ⟨rfl, ⟨rfl, ⟨rfl, ⟨rfl, ⟨rfl, trivial⟩⟩⟩⟩⟩⟩))
theorem bkX8_compareWorlds_72 {X : GX} {h : SH} {nc ns : Nat} {P : Out → SH → Prop} {Q : SH → Prop} {a0 : Nat} {a1 : Nat} {a2 : Nat} {x3 : Int32} {a4 : Nat} {x5 : Int32} (F0 : LX8 (Sk h) (a0)) (hN : Cd X mX6_compose [.ref (a0 + 4), .ref a1, .ref (a0 + 1), .int x3, .ref a4] (h) 0 0 (oV Q nX)) (g : ∀ t, Q t → Gd X mX8_compareWorlds 87 [some (.ref a0), some (.ref a1), some (.ref a2), some (.int x3), some (.ref a4), some (.int x5)] [] (t) nc ns P) : Gd X mX8_compareWorlds 72 [some (.ref a0), some (.ref a1), some (.ref a2), some (.int x3), some (.ref a4), some (.int x5)] [] h nc ns P := by
  refine g_aload_n dX8_compareWorlds_72 rfl ?_
  refine g_getAs (c := 8) (k := 1) (b := a0 + 4) dX8_compareWorlds_73 (by decide) (by decide) kw_214 rfl (LX8.o (h := h) F0) (LX8.r_letterOfOne (h := h) F0) ?_
  refine g_aload_n dX8_compareWorlds_76 rfl ?_
  refine g_aload_n dX8_compareWorlds_77 rfl ?_
  refine g_getAs (c := 8) (k := 0) (b := a0 + 1) dX8_compareWorlds_78 (by decide) (by decide) kw_213 rfl (LX8.o (h := h) F0) (LX8.r_tried (h := h) F0) ?_
  refine g_iload_n dX8_compareWorlds_81 rfl ?_
  refine g_aload dX8_compareWorlds_82 rfl ?_
  refine Gd.z ?_
  exact g_callV (k := 6) [.ref a1, .ref (a0 + 1), .int x3, .ref a4] dX8_compareWorlds_84 mfX6_compose ⟨by decide, by decide⟩ kw_1057 kw_936 kw_937 rfl (by decide) (Nat.le_of_ble_eq_true rfl) (by intro x hx; cases hx) (LX6.o (h := h) (LX8.l_letterOfOne F0)) (Nat.le_of_ble_eq_true rfl) hN (fun _ _ q => q.elim) (oV_go (G := fun a b => Gd X mX8_compareWorlds 87 _ a b nc ns P) (fun t q => Gd.wk (g t q) ⟨rfl, ⟨rfl, ⟨rfl, ⟨rfl, ⟨rfl, ⟨rfl, trivial⟩⟩⟩⟩⟩⟩))
theorem bkX8_compareWorlds_87 {X : GX} {h : SH} {nc ns : Nat} {P : Out → SH → Prop} {Q : SH → Prop} {a0 : Nat} {a1 : Nat} {a2 : Nat} {x3 : Int32} {a4 : Nat} {x5 : Int32} (F0 : LX8 (Sk h) (a0)) (hN : Cd X mX6_compose [.ref (a0 + 9), .ref a2, .ref (a0 + 1), .int x3, .ref a4] (h) 0 0 (oV Q nX)) (g : ∀ t, Q t → Gd X mX8_compareWorlds 102 [some (.ref a0), some (.ref a1), some (.ref a2), some (.int x3), some (.ref a4), some (.int x5)] [] (t) nc ns P) : Gd X mX8_compareWorlds 87 [some (.ref a0), some (.ref a1), some (.ref a2), some (.int x3), some (.ref a4), some (.int x5)] [] h nc ns P := by
  refine g_aload_n dX8_compareWorlds_87 rfl ?_
  refine g_getAs (c := 8) (k := 2) (b := a0 + 9) dX8_compareWorlds_88 (by decide) (by decide) kw_215 rfl (LX8.o (h := h) F0) (LX8.r_letterOfOther (h := h) F0) ?_
  refine g_aload_n dX8_compareWorlds_91 rfl ?_
  refine g_aload_n dX8_compareWorlds_92 rfl ?_
  refine g_getAs (c := 8) (k := 0) (b := a0 + 1) dX8_compareWorlds_93 (by decide) (by decide) kw_213 rfl (LX8.o (h := h) F0) (LX8.r_tried (h := h) F0) ?_
  refine g_iload_n dX8_compareWorlds_96 rfl ?_
  refine g_aload dX8_compareWorlds_97 rfl ?_
  refine Gd.z ?_
  exact g_callV (k := 6) [.ref a2, .ref (a0 + 1), .int x3, .ref a4] dX8_compareWorlds_99 mfX6_compose ⟨by decide, by decide⟩ kw_1057 kw_936 kw_937 rfl (by decide) (Nat.le_of_ble_eq_true rfl) (by intro x hx; cases hx) (LX6.o (h := h) (LX8.l_letterOfOther F0)) (Nat.le_of_ble_eq_true rfl) hN (fun _ _ q => q.elim) (oV_go (G := fun a b => Gd X mX8_compareWorlds 102 _ a b nc ns P) (fun t q => Gd.wk (g t q) ⟨rfl, ⟨rfl, ⟨rfl, ⟨rfl, ⟨rfl, ⟨rfl, trivial⟩⟩⟩⟩⟩⟩))
theorem bkX8_compareWorlds_102 {X : GX} {h : SH} {nc ns : Nat} {P : Out → SH → Prop} {Q : Int32 → SH → Prop} {a0 : Nat} {a1 : Nat} {a2 : Nat} {x3 : Int32} {a4 : Nat} {x5 : Int32} (F0 : LX8 (Sk h) (a0)) (hN : Cd X mX6_readsLike [.ref (a0 + 4), .ref (a0 + 9)] (h) 0 0 (oI Q nX)) (g : ∀ r t, Q r t → Gd X mX8_compareWorlds 113 [some (.ref a0), some (.ref a1), some (.ref a2), some (.int x3), some (.ref a4), some (.int x5)] [.int r] (t) nc ns P) : Gd X mX8_compareWorlds 102 [some (.ref a0), some (.ref a1), some (.ref a2), some (.int x3), some (.ref a4), some (.int x5)] [] h nc ns P := by
  refine g_aload_n dX8_compareWorlds_102 rfl ?_
  refine g_getAs (c := 8) (k := 1) (b := a0 + 4) dX8_compareWorlds_103 (by decide) (by decide) kw_214 rfl (LX8.o (h := h) F0) (LX8.r_letterOfOne (h := h) F0) ?_
  refine g_aload_n dX8_compareWorlds_106 rfl ?_
  refine g_getAs (c := 8) (k := 2) (b := a0 + 9) dX8_compareWorlds_107 (by decide) (by decide) kw_215 rfl (LX8.o (h := h) F0) (LX8.r_letterOfOther (h := h) F0) ?_
  refine Gd.z ?_
  exact g_callV (k := 6) [.ref (a0 + 9)] dX8_compareWorlds_110 mfX6_readsLike ⟨by decide, by decide⟩ kw_1058 kw_1059 kw_1060 rfl (by decide) (Nat.le_of_ble_eq_true rfl) (by intro x hx; cases hx) (LX6.o (h := h) (LX8.l_letterOfOne F0)) (Nat.le_of_ble_eq_true rfl) hN (fun _ _ q => q.elim) (oI_go (G := fun a b => Gd X mX8_compareWorlds 113 _ a b nc ns P) (fun r t q => Gd.wk (g r t q) ⟨rfl, ⟨rfl, ⟨rfl, ⟨rfl, ⟨rfl, ⟨rfl, trivial⟩⟩⟩⟩⟩⟩))
theorem bkX8_compareWorlds_113 {X : GX} {h : SH} {nc ns : Nat} {P : Out → SH → Prop} {a0 : Nat} {a1 : Nat} {a2 : Nat} {x3 : Int32} {a4 : Nat} {x5 : Int32} {xs0 : Int32} (kt : ¬ xs0 = 0 → Gd X mX8_compareWorlds 146 [some (.ref a0), some (.ref a1), some (.ref a2), some (.int x3), some (.ref a4), some (.int x5)] [] (h) nc ns P) (kf : xs0 = 0 → Gd X mX8_compareWorlds 116 [some (.ref a0), some (.ref a1), some (.ref a2), some (.int x3), some (.ref a4), some (.int x5)] [] (h) nc ns P) : Gd X mX8_compareWorlds 113 [some (.ref a0), some (.ref a1), some (.ref a2), some (.int x3), some (.ref a4), some (.int x5)] [.int xs0] h nc ns P := by
  exact g_if_ne (tgt := 146) dX8_compareWorlds_113 (by decide) (fun q => Gd.wk (kt q) ⟨rfl, ⟨rfl, ⟨rfl, ⟨rfl, ⟨rfl, ⟨rfl, trivial⟩⟩⟩⟩⟩⟩) (fun q => Gd.wk (kf q) ⟨rfl, ⟨rfl, ⟨rfl, ⟨rfl, ⟨rfl, ⟨rfl, trivial⟩⟩⟩⟩⟩⟩)
theorem bkX8_compareWorlds_116 {X : GX} {h : SH} {nc ns : Nat} {P : Out → SH → Prop} {a0 : Nat} {a1 : Nat} {a2 : Nat} {x3 : Int32} {a4 : Nat} {x5 : Int32} (F0 : LX8 (Sk h) (a0)) (kt : ¬ hI h a0 6 = 0 → Gd X mX8_compareWorlds 129 [some (.ref a0), some (.ref a1), some (.ref a2), some (.int x3), some (.ref a4), some (.int x5)] [.ref a0] (h) nc ns P) (kf : hI h a0 6 = 0 → Gd X mX8_compareWorlds 124 [some (.ref a0), some (.ref a1), some (.ref a2), some (.int x3), some (.ref a4), some (.int x5)] [.ref a0] (h) nc ns P) : Gd X mX8_compareWorlds 116 [some (.ref a0), some (.ref a1), some (.ref a2), some (.int x3), some (.ref a4), some (.int x5)] [] h nc ns P := by
  refine g_aload_n dX8_compareWorlds_116 rfl ?_
  refine g_aload_n dX8_compareWorlds_117 rfl ?_
  refine g_getI (c := 8) (k := 6) dX8_compareWorlds_118 (by decide) (by decide) kw_219 rfl (LX8.o (h := h) F0) ?_
  exact g_if_ne (tgt := 129) dX8_compareWorlds_121 (by decide) (fun q => Gd.wk (kt q) ⟨rfl, ⟨rfl, ⟨rfl, ⟨rfl, ⟨rfl, ⟨rfl, trivial⟩⟩⟩⟩⟩⟩) (fun q => Gd.wk (kf q) ⟨rfl, ⟨rfl, ⟨rfl, ⟨rfl, ⟨rfl, ⟨rfl, trivial⟩⟩⟩⟩⟩⟩)
theorem bkX8_compareWorlds_124 {X : GX} {h : SH} {nc ns : Nat} {P : Out → SH → Prop} {a0 : Nat} {a1 : Nat} {a2 : Nat} {x3 : Int32} {a4 : Nat} {x5 : Int32} {as0 : Nat} (g : Gd X mX8_compareWorlds 133 [some (.ref a0), some (.ref a1), some (.ref a2), some (.int x3), some (.ref a4), some (.int x5)] [.int x5, .ref as0] (h) nc ns P) : Gd X mX8_compareWorlds 124 [some (.ref a0), some (.ref a1), some (.ref a2), some (.int x3), some (.ref a4), some (.int x5)] [.ref as0] h nc ns P := by
  refine g_iload dX8_compareWorlds_124 rfl ?_
  refine g_goto (tgt := 133) dX8_compareWorlds_126 (by decide) ?_
  exact Gd.wk g ⟨rfl, ⟨rfl, ⟨rfl, ⟨rfl, ⟨rfl, ⟨rfl, trivial⟩⟩⟩⟩⟩⟩
theorem bkX8_compareWorlds_129 {X : GX} {h : SH} {nc ns : Nat} {P : Out → SH → Prop} {a0 : Nat} {a1 : Nat} {a2 : Nat} {x3 : Int32} {a4 : Nat} {x5 : Int32} {as0 : Nat} (F0 : LX8 (Sk h) (a0)) (g : Gd X mX8_compareWorlds 133 [some (.ref a0), some (.ref a1), some (.ref a2), some (.int x3), some (.ref a4), some (.int x5)] [.int (hI h a0 7), .ref as0] (h) nc ns P) : Gd X mX8_compareWorlds 129 [some (.ref a0), some (.ref a1), some (.ref a2), some (.int x3), some (.ref a4), some (.int x5)] [.ref as0] h nc ns P := by
  refine g_aload_n dX8_compareWorlds_129 rfl ?_
  refine g_getI (c := 8) (k := 7) dX8_compareWorlds_130 (by decide) (by decide) kw_221 rfl (LX8.o (h := h) F0) ?_
  exact Gd.wk g ⟨rfl, ⟨rfl, ⟨rfl, ⟨rfl, ⟨rfl, ⟨rfl, trivial⟩⟩⟩⟩⟩⟩
theorem bkX8_compareWorlds_133 {X : GX} {h : SH} {nc ns : Nat} {P : Out → SH → Prop} {a0 : Nat} {a1 : Nat} {a2 : Nat} {x3 : Int32} {a4 : Nat} {x5 : Int32} {as0 : Nat} {xs1 : Int32} (F0 : LX8 (Sk h) (as0)) (F1 : LX8 (Sk h) (a0)) (g : Gd X mX8_compareWorlds 146 [some (.ref a0), some (.ref a1), some (.ref a2), some (.int x3), some (.ref a4), some (.int x5)] [] (sI (sI h as0 7 xs1) a0 6 ((hI (sI h as0 7 xs1) a0 6) + 1)) nc ns P) : Gd X mX8_compareWorlds 133 [some (.ref a0), some (.ref a1), some (.ref a2), some (.int x3), some (.ref a4), some (.int x5)] [.int xs1, .ref as0] h nc ns P := by
  refine g_put (c := 8) (k := 7) (h1 := sI h as0 7 xs1) dX8_compareWorlds_133 (by decide) (by decide) kw_221 rfl (LX8.o (h := h) F0) rfl rfl (Put.I rfl) ?_
  refine g_aload_n dX8_compareWorlds_136 rfl ?_
  refine g_dup dX8_compareWorlds_137 rfl ?_
  refine g_getI (c := 8) (k := 6) dX8_compareWorlds_138 (by decide) (by decide) kw_219 rfl (LX8.o (h := sI h as0 7 xs1) F1) ?_
  refine g_iconst (v := 1) dX8_compareWorlds_141 (by decide) ?_
  refine g_iadd dX8_compareWorlds_142 ?_
  refine g_put (c := 8) (k := 6) (h1 := sI (sI h as0 7 xs1) a0 6 ((hI (sI h as0 7 xs1) a0 6) + 1)) dX8_compareWorlds_143 (by decide) (by decide) kw_219 rfl (LX8.o (h := sI h as0 7 xs1) F1) rfl rfl (Put.I rfl) ?_
  exact Gd.wk g ⟨rfl, ⟨rfl, ⟨rfl, ⟨rfl, ⟨rfl, ⟨rfl, trivial⟩⟩⟩⟩⟩⟩
theorem bkX8_compareWorlds_146 {X : GX} {h : SH} {nc ns : Nat} {P : Out → SH → Prop} {a0 : Nat} {a1 : Nat} {a2 : Nat} {x3 : Int32} {a4 : Nat} {x5 : Int32} (g : Gd X mX8_compareWorlds 53 [some (.ref a0), some (.ref a1), some (.ref a2), some (.int x3), some (.ref a4), some (.int (x5 + 1))] [] (h) nc ns P) : Gd X mX8_compareWorlds 146 [some (.ref a0), some (.ref a1), some (.ref a2), some (.int x3), some (.ref a4), some (.int x5)] [] h nc ns P := by
  refine g_iinc (v := x5 + 1) (L' := [some (.ref a0), some (.ref a1), some (.ref a2), some (.int x3), some (.ref a4), some (.int (x5 + 1))]) dX8_compareWorlds_146 rfl rfl (by decide) rfl ?_
  refine g_goto (tgt := 53) dX8_compareWorlds_149 (by decide) ?_
  exact Gd.wk g ⟨rfl, ⟨rfl, ⟨rfl, ⟨rfl, ⟨rfl, ⟨rfl, trivial⟩⟩⟩⟩⟩⟩
theorem bkX8_compareWorlds_152 {X : GX} {h : SH} {nc ns : Nat} {P : Out → SH → Prop} (hp : P (.inl (none)) (h)) : Gd X mX8_compareWorlds 152 [none, none, none, none, none, none] [] h nc ns P := by
  exact g_return (st := []) dX8_compareWorlds_152 rfl hp
theorem bkX8_compareWorlds_30 {X : GX} {h : SH} {nc ns : Nat} {P : Out → SH → Prop} {a0 : Nat} {a1 : Nat} {a2 : Nat} {x3 : Int32} {a4 : Nat} (F0 : LX8 (Sk h) (a0)) (g : Gd X mX8_compareWorlds 35 [some (.ref a0), some (.ref a1), some (.ref a2), some (.int x3), some (.ref a4), none] [] (sA h a0 4 (some (a2))) nc ns P) : Gd X mX8_compareWorlds 30 [some (.ref a0), some (.ref a1), some (.ref a2), some (.int x3), some (.ref a4), none] [] h nc ns P := by
  refine g_aload_n dX8_compareWorlds_30 rfl ?_
  refine g_aload_n dX8_compareWorlds_31 rfl ?_
  refine g_put (c := 8) (k := 4) (v := va_rf (some (a2))) (h1 := sA h a0 4 (some (a2))) dX8_compareWorlds_32 (by decide) (by decide) kw_217 rfl (LX8.o (h := h) F0) (rf_n rfl) (rf_f rfl) (Put.A rfl) ?_
  exact Gd.wk g ⟨rfl, ⟨rfl, ⟨rfl, ⟨rfl, ⟨rfl, trivial⟩⟩⟩⟩⟩
theorem bkX8_compareWorlds_35 {X : GX} {h : SH} {nc ns : Nat} {P : Out → SH → Prop} {a0 : Nat} {a1 : Nat} {a2 : Nat} {x3 : Int32} {a4 : Nat} (F0 : LX8 (Sk h) (a0)) (g : Gd X mX8_compareWorlds 53 [some (.ref a0), some (.ref a1), some (.ref a2), some (.int x3), some (.ref a4), some (.int 0)] [] (sI (sI (sI h a0 5 x3) a0 6 0) a0 7 (-1)) nc ns P) : Gd X mX8_compareWorlds 35 [some (.ref a0), some (.ref a1), some (.ref a2), some (.int x3), some (.ref a4), none] [] h nc ns P := by
  refine g_aload_n dX8_compareWorlds_35 rfl ?_
  refine g_iload_n dX8_compareWorlds_36 rfl ?_
  refine g_put (c := 8) (k := 5) (h1 := sI h a0 5 x3) dX8_compareWorlds_37 (by decide) (by decide) kw_218 rfl (LX8.o (h := h) F0) rfl rfl (Put.I rfl) ?_
  refine g_aload_n dX8_compareWorlds_40 rfl ?_
  refine g_iconst (v := 0) dX8_compareWorlds_41 (by decide) ?_
  refine g_put (c := 8) (k := 6) (h1 := sI (sI h a0 5 x3) a0 6 0) dX8_compareWorlds_42 (by decide) (by decide) kw_219 rfl (LX8.o (h := sI h a0 5 x3) F0) rfl rfl (Put.I rfl) ?_
  refine g_aload_n dX8_compareWorlds_45 rfl ?_
  refine g_iconst (v := (-1)) dX8_compareWorlds_46 (by decide) ?_
  refine g_put (c := 8) (k := 7) (h1 := sI (sI (sI h a0 5 x3) a0 6 0) a0 7 (-1)) dX8_compareWorlds_47 (by decide) (by decide) kw_221 rfl (LX8.o (h := sI (sI h a0 5 x3) a0 6 0) F0) rfl rfl (Put.I rfl) ?_
  refine g_iconst (v := 0) dX8_compareWorlds_50 (by decide) ?_
  refine g_istore (L' := [some (.ref a0), some (.ref a1), some (.ref a2), some (.int x3), some (.ref a4), some (.int 0)]) dX8_compareWorlds_51 (by decide) rfl ?_
  exact Gd.wk g ⟨rfl, ⟨rfl, ⟨rfl, ⟨rfl, ⟨rfl, ⟨rfl, trivial⟩⟩⟩⟩⟩⟩
theorem bkX8_forgetComparison_0 {X : GX} {h : SH} {nc ns : Nat} {P : Out → SH → Prop} {a0 : Nat} (F0 : LX8 (Sk h) (a0)) (g : Gd X mX8_forgetComparison 5 [some (.ref a0)] [] (sA h a0 3 none) nc ns P) : Gd X mX8_forgetComparison 0 [some (.ref a0)] [] h nc ns P := by
  refine g_aload_n dX8_forgetComparison_0 rfl ?_
  refine g_null dX8_forgetComparison_1 ?_
  refine g_put (c := 8) (k := 3) (v := va_rf none) (h1 := sA h a0 3 none) dX8_forgetComparison_2 (by decide) (by decide) kw_216 rfl (LX8.o (h := h) F0) (rf_n rfl) (rf_f rfl) (Put.A rfl) ?_
  exact Gd.wk g ⟨rfl, trivial⟩
theorem bkX8_forgetComparison_5 {X : GX} {h : SH} {nc ns : Nat} {P : Out → SH → Prop} {a0 : Nat} (F0 : LX8 (Sk h) (a0)) (g : Gd X mX8_forgetComparison 10 [none] [] (sA h a0 4 none) nc ns P) : Gd X mX8_forgetComparison 5 [some (.ref a0)] [] h nc ns P := by
  refine g_aload_n dX8_forgetComparison_5 rfl ?_
  refine g_null dX8_forgetComparison_6 ?_
  refine g_put (c := 8) (k := 4) (v := va_rf none) (h1 := sA h a0 4 none) dX8_forgetComparison_7 (by decide) (by decide) kw_217 rfl (LX8.o (h := h) F0) (rf_n rfl) (rf_f rfl) (Put.A rfl) ?_
  exact Gd.wk g trivial
theorem bkX8_forgetComparison_10 {X : GX} {h : SH} {nc ns : Nat} {P : Out → SH → Prop} (hp : P (.inl (none)) (h)) : Gd X mX8_forgetComparison 10 [none] [] h nc ns P := by
  exact g_return (st := []) dX8_forgetComparison_10 rfl hp
theorem bkX9_init_0 {X : GX} {h : SH} {nc ns : Nat} {P : Out → SH → Prop} {a0 : Nat} {a1 : Nat} {x2 : Int32} (g : Gd X mX9_init 4 [some (.ref a0), some (.ref a1), some (.int x2)] [] (h) nc ns P) : Gd X mX9_init 0 [some (.ref a0), some (.ref a1), some (.int x2)] [] h nc ns P := by
  refine g_aload_n dX9_init_0 rfl ?_
  refine g_objInit dX9_init_1 kw_373 kw_124 kw_125 (by decide) (Nat.le_of_ble_eq_true rfl) ?_
  exact Gd.wk g ⟨rfl, ⟨rfl, ⟨rfl, trivial⟩⟩⟩
theorem bkX9_init_4 {X : GX} {h : SH} {nc ns : Nat} {P : Out → SH → Prop} {a0 : Nat} {a1 : Nat} {x2 : Int32} (g : Gd X mX9_init 9 [some (.ref a0), some (.ref a1), some (.int x2)] [.ref (hz h), .ref a0] (nw h 23 11) nc ns P) : Gd X mX9_init 4 [some (.ref a0), some (.ref a1), some (.int x2)] [] h (nc + 1) (ns + 11) P := by
  refine g_aload_n dX9_init_4 rfl ?_
  refine g_bipush (v := 11) dX9_init_5 (by decide) ?_
  refine g_newarrN (k := 23) (N := 11) dX9_init_7 (by decide) (by decide) rfl kw_361 (by decide) (by decide) (by decide) ?_
  exact Gd.wk g ⟨rfl, ⟨rfl, ⟨rfl, trivial⟩⟩⟩
theorem bkX9_init_9 {X : GX} {h : SH} {nc ns : Nat} {P : Out → SH → Prop} {a0 : Nat} {a1 : Nat} {x2 : Int32} {as0 : Nat} {as1 : Nat} (F0 : LX9 (Sk h) (as0)) (g : Gd X mX9_init 12 [some (.ref a0), some (.ref a1), some (.int x2)] [] (sA h as0 2 (some (as1))) nc ns P) : Gd X mX9_init 9 [some (.ref a0), some (.ref a1), some (.int x2)] [.ref as1, .ref as0] h nc ns P := by
  refine g_putF (c := 9) (k := 2) (v := va_rf (some (as1))) (h1 := sA h as0 2 (some (as1))) dX9_init_9 (by decide) (by decide) kw_376 rfl rfl rfl (LX9.o (h := h) F0) (rf_n rfl) (rf_f rfl) (Put.A rfl) ?_
  exact Gd.wk g ⟨rfl, ⟨rfl, ⟨rfl, trivial⟩⟩⟩
theorem bkX9_init_12 {X : GX} {h : SH} {nc ns : Nat} {P : Out → SH → Prop} {a0 : Nat} {a1 : Nat} {x2 : Int32} (O0 : Ob h a0 9) (g : Gd X mX9_init 23 [some (.ref a0), none, some (.int x2)] [] (sA (sI h a0 8 14) a0 0 (some (a1))) nc ns P) : Gd X mX9_init 12 [some (.ref a0), some (.ref a1), some (.int x2)] [] h nc ns P := by
  refine g_aload_n dX9_init_12 rfl ?_
  refine g_bipush (v := 14) dX9_init_13 (by decide) ?_
  refine g_put (c := 9) (k := 8) (h1 := sI h a0 8 14) dX9_init_15 (by decide) (by decide) kw_384 rfl O0 rfl rfl (Put.I rfl) ?_
  refine g_aload_n dX9_init_18 rfl ?_
  refine g_aload_n dX9_init_19 rfl ?_
  refine g_putF (c := 9) (k := 0) (v := va_rf (some (a1))) (h1 := sA (sI h a0 8 14) a0 0 (some (a1))) dX9_init_20 (by decide) (by decide) kw_374 rfl rfl rfl O0 (rf_n rfl) (rf_f rfl) (Put.A rfl) ?_
  exact Gd.wk g ⟨rfl, ⟨rfl, trivial⟩⟩
theorem bkX9_init_23 {X : GX} {h : SH} {nc ns : Nat} {P : Out → SH → Prop} {a0 : Nat} {x2 : Int32} {N2 : Nat} (O0 : Ob h a0 9) (c1 : ¬ (x2 + 1) < 0) (c2 : (x2 + 1 : Int32).toNatClampNeg = N2) (c3 : N2 * 4 ≤ 536870912) (g : Gd X mX9_init 34 [some (.ref a0), none, some (.int x2)] [.ref (hz (sI h a0 1 x2)), .ref a0] (nw (sI h a0 1 x2) 20 N2) nc ns P) : Gd X mX9_init 23 [some (.ref a0), none, some (.int x2)] [] h (nc + 1) (ns + N2) P := by
  refine g_aload_n dX9_init_23 rfl ?_
  refine g_iload_n dX9_init_24 rfl ?_
  refine g_putF (c := 9) (k := 1) (h1 := sI h a0 1 x2) dX9_init_25 (by decide) (by decide) kw_375 rfl rfl rfl O0 rfl rfl (Put.I rfl) ?_
  refine g_aload_n dX9_init_28 rfl ?_
  refine g_iload_n dX9_init_29 rfl ?_
  refine g_iconst (v := 1) dX9_init_30 (by decide) ?_
  refine g_iadd dX9_init_31 ?_
  refine g_newarrN (k := 20) (N := N2) dX9_init_32 (by decide) (by decide) rfl kw_145 c1 c2 c3 ?_
  exact Gd.wk g ⟨rfl, ⟨rfl, trivial⟩⟩
theorem bkX9_init_34 {X : GX} {h : SH} {nc ns : Nat} {P : Out → SH → Prop} {a0 : Nat} {x2 : Int32} {as0 : Nat} {as1 : Nat} (F0 : LX9 (Sk h) (as0)) (g : Gd X mX9_init 37 [some (.ref a0), none, some (.int x2)] [] (sA h as0 3 (some (as1))) nc ns P) : Gd X mX9_init 34 [some (.ref a0), none, some (.int x2)] [.ref as1, .ref as0] h nc ns P := by
  refine g_putF (c := 9) (k := 3) (v := va_rf (some (as1))) (h1 := sA h as0 3 (some (as1))) dX9_init_34 (by decide) (by decide) kw_377 rfl rfl rfl (LX9.o (h := h) F0) (rf_n rfl) (rf_f rfl) (Put.A rfl) ?_
  exact Gd.wk g ⟨rfl, ⟨rfl, trivial⟩⟩
theorem bkX9_init_37 {X : GX} {h : SH} {nc ns : Nat} {P : Out → SH → Prop} {a0 : Nat} {x2 : Int32} {N2 : Nat} (c0 : ¬ (x2 + 1) < 0) (c1 : (x2 + 1 : Int32).toNatClampNeg = N2) (c2 : N2 * 4 ≤ 536870912) (g : Gd X mX9_init 43 [some (.ref a0), none, some (.int x2)] [.ref (hz h), .ref a0] (nw h 20 N2) nc ns P) : Gd X mX9_init 37 [some (.ref a0), none, some (.int x2)] [] h (nc + 1) (ns + N2) P := by
  refine g_aload_n dX9_init_37 rfl ?_
  refine g_iload_n dX9_init_38 rfl ?_
  refine g_iconst (v := 1) dX9_init_39 (by decide) ?_
  refine g_iadd dX9_init_40 ?_
  refine g_newarrN (k := 20) (N := N2) dX9_init_41 (by decide) (by decide) rfl kw_145 c0 c1 c2 ?_
  exact Gd.wk g ⟨rfl, ⟨rfl, trivial⟩⟩
theorem bkX9_init_43 {X : GX} {h : SH} {nc ns : Nat} {P : Out → SH → Prop} {a0 : Nat} {x2 : Int32} {as0 : Nat} {as1 : Nat} (F0 : LX9 (Sk h) (as0)) (g : Gd X mX9_init 46 [some (.ref a0), none, some (.int x2)] [] (sA h as0 4 (some (as1))) nc ns P) : Gd X mX9_init 43 [some (.ref a0), none, some (.int x2)] [.ref as1, .ref as0] h nc ns P := by
  refine g_putF (c := 9) (k := 4) (v := va_rf (some (as1))) (h1 := sA h as0 4 (some (as1))) dX9_init_43 (by decide) (by decide) kw_378 rfl rfl rfl (LX9.o (h := h) F0) (rf_n rfl) (rf_f rfl) (Put.A rfl) ?_
  exact Gd.wk g ⟨rfl, ⟨rfl, trivial⟩⟩
theorem bkX9_init_46 {X : GX} {h : SH} {nc ns : Nat} {P : Out → SH → Prop} {a0 : Nat} {x2 : Int32} {N2 : Nat} (c0 : ¬ (x2 + 1) < 0) (c1 : (x2 + 1 : Int32).toNatClampNeg = N2) (c2 : N2 * 8 ≤ 536870912) (g : Gd X mX9_init 52 [none, none, none] [.ref (hz h), .ref a0] (nw h 23 N2) nc ns P) : Gd X mX9_init 46 [some (.ref a0), none, some (.int x2)] [] h (nc + 1) (ns + N2) P := by
  refine g_aload_n dX9_init_46 rfl ?_
  refine g_iload_n dX9_init_47 rfl ?_
  refine g_iconst (v := 1) dX9_init_48 (by decide) ?_
  refine g_iadd dX9_init_49 ?_
  refine g_newarrN (k := 23) (N := N2) dX9_init_50 (by decide) (by decide) rfl kw_361 c0 c1 c2 ?_
  exact Gd.wk g trivial
theorem bkX9_init_52 {X : GX} {h : SH} {nc ns : Nat} {P : Out → SH → Prop} {as0 : Nat} {as1 : Nat} (F0 : LX9 (Sk h) (as0)) (g : Gd X mX9_init 55 [none, none, none] [] (sA h as0 5 (some (as1))) nc ns P) : Gd X mX9_init 52 [none, none, none] [.ref as1, .ref as0] h nc ns P := by
  refine g_putF (c := 9) (k := 5) (v := va_rf (some (as1))) (h1 := sA h as0 5 (some (as1))) dX9_init_52 (by decide) (by decide) kw_379 rfl rfl rfl (LX9.o (h := h) F0) (rf_n rfl) (rf_f rfl) (Put.A rfl) ?_
  exact Gd.wk g trivial
theorem bkX9_init_55 {X : GX} {h : SH} {nc ns : Nat} {P : Out → SH → Prop} (hp : P (.inl (none)) (h)) : Gd X mX9_init 55 [none, none, none] [] h nc ns P := by
  exact g_return (st := []) dX9_init_55 rfl hp
theorem bkX9_cutText_0 {X : GX} {h : SH} {nc ns : Nat} {P : Out → SH → Prop} {n1 s1 : Nat} {Q : SH → Prop} {a0 : Nat} (F0 : LX9 (Sk h) (a0)) (hN : Cd X mX9_packReserved [.ref a0] (h) n1 s1 (oV Q nX)) (g : ∀ t, Q t → Gd X mX9_cutText 4 [some (.ref a0), none, none, none] [] (t) nc ns P) : Gd X mX9_cutText 0 [some (.ref a0), none, none, none] [] h (n1 + nc) (s1 + ns) P := by
  refine g_aload_n dX9_cutText_0 rfl ?_
  exact g_callV (k := 9) [] dX9_cutText_1 mfX9_packReserved ⟨by decide, by decide⟩ kw_450 kw_452 kw_3 rfl (by decide) (Nat.le_of_ble_eq_true rfl) (by intro x hx; cases hx) (LX9.o (h := h) F0) (Nat.le_of_ble_eq_true rfl) hN (fun _ _ q => q.elim) (oV_go (G := fun a b => Gd X mX9_cutText 4 _ a b nc ns P) (fun t q => Gd.wk (g t q) ⟨rfl, trivial⟩))
theorem bkX9_cutText_4 {X : GX} {h : SH} {nc ns : Nat} {P : Out → SH → Prop} {a0 : Nat} (g : Gd X mX9_cutText 8 [some (.ref a0), some (.int 0), some (.int 0), none] [] (h) nc ns P) : Gd X mX9_cutText 4 [some (.ref a0), none, none, none] [] h nc ns P := by
  refine g_iconst (v := 0) dX9_cutText_4 (by decide) ?_
  refine g_istore_n (L' := [some (.ref a0), some (.int 0), none, none]) dX9_cutText_5 (by decide) rfl ?_
  refine g_iconst (v := 0) dX9_cutText_6 (by decide) ?_
  refine g_istore_n (L' := [some (.ref a0), some (.int 0), some (.int 0), none]) dX9_cutText_7 (by decide) rfl ?_
  exact Gd.wk g ⟨rfl, ⟨rfl, ⟨rfl, trivial⟩⟩⟩
theorem bkX9_cutText_8 {X : GX} {h : SH} {nc ns : Nat} {P : Out → SH → Prop} {a0 : Nat} {x1 : Int32} {x2 : Int32} (F0 : LX9 (Sk h) (a0)) (kt : hI h a0 1 ≤ x2 → Gd X mX9_cutText 112 [some (.ref a0), none, none, none] [] (h) nc ns P) (kf : ¬ hI h a0 1 ≤ x2 → Gd X mX9_cutText 16 [some (.ref a0), some (.int x1), some (.int x2), none] [] (h) nc ns P) : Gd X mX9_cutText 8 [some (.ref a0), some (.int x1), some (.int x2), none] [] h nc ns P := by
  refine g_iload_n dX9_cutText_8 rfl ?_
  refine g_aload_n dX9_cutText_9 rfl ?_
  refine g_getI (c := 9) (k := 1) dX9_cutText_10 (by decide) (by decide) kw_375 rfl (LX9.o (h := h) F0) ?_
  exact g_icmp_ge (tgt := 112) dX9_cutText_13 (by decide) (fun q => Gd.wk (kt q) ⟨rfl, trivial⟩) (fun q => Gd.wk (kf q) ⟨rfl, ⟨rfl, ⟨rfl, trivial⟩⟩⟩)
theorem bkX9_cutText_16 {X : GX} {h : SH} {nc ns : Nat} {P : Out → SH → Prop} {a0 : Nat} {x1 : Int32} {x2 : Int32} (F0 : LX9 (Sk h) (a0)) (kt : hI h a0 1 ≤ x1 → Gd X mX9_cutText 112 [some (.ref a0), none, none, none] [] (h) nc ns P) (kf : ¬ hI h a0 1 ≤ x1 → Gd X mX9_cutText 24 [some (.ref a0), some (.int x1), some (.int x2), none] [] (h) nc ns P) : Gd X mX9_cutText 16 [some (.ref a0), some (.int x1), some (.int x2), none] [] h nc ns P := by
  refine g_iload_n dX9_cutText_16 rfl ?_
  refine g_aload_n dX9_cutText_17 rfl ?_
  refine g_getI (c := 9) (k := 1) dX9_cutText_18 (by decide) (by decide) kw_375 rfl (LX9.o (h := h) F0) ?_
  exact g_icmp_ge (tgt := 112) dX9_cutText_21 (by decide) (fun q => Gd.wk (kt q) ⟨rfl, trivial⟩) (fun q => Gd.wk (kf q) ⟨rfl, ⟨rfl, ⟨rfl, trivial⟩⟩⟩)
theorem bkX9_cutText_24 {X : GX} {h : SH} {nc ns : Nat} {P : Out → SH → Prop} {a0 : Nat} {x1 : Int32} {x2 : Int32} {b3 : Nat} {n4 : Nat} (F0 : LX9 (Sk h) (a0)) (q1 : hA h a0 0 = some b3) (B2 : Ar h (b3) 21 n4) (i3 : vp_in (x1) n4) (kt : (hI h b3 ((x1 : Int32).toNatClampNeg)) = 10 → Gd X mX9_cutText 43 [some (.ref a0), some (.int x1), some (.int x2), none] [] (h) nc ns P) (kf : ¬ (hI h b3 ((x1 : Int32).toNatClampNeg)) = 10 → Gd X mX9_cutText 37 [some (.ref a0), some (.int x1), some (.int x2), some (.int (hI h b3 ((x1 : Int32).toNatClampNeg)))] [] (h) nc ns P) : Gd X mX9_cutText 24 [some (.ref a0), some (.int x1), some (.int x2), none] [] h nc ns P := by
  refine g_aload_n dX9_cutText_24 rfl ?_
  refine g_getAs (c := 9) (k := 0) (b := b3) dX9_cutText_25 (by decide) (by decide) kw_374 rfl (LX9.o (h := h) F0) q1 ?_
  refine g_iload_n dX9_cutText_28 rfl ?_
  refine g_baload dX9_cutText_29 B2 i3 ?_
  refine g_istore_n (L' := [some (.ref a0), some (.int x1), some (.int x2), some (.int (hI h b3 ((x1 : Int32).toNatClampNeg)))]) dX9_cutText_30 (by decide) rfl ?_
  refine g_iload_n dX9_cutText_31 rfl ?_
  refine g_bipush (v := 10) dX9_cutText_32 (by decide) ?_
  exact g_icmp_eq (tgt := 43) dX9_cutText_34 (by decide) (fun q => Gd.wk (kt q) ⟨rfl, ⟨rfl, ⟨rfl, trivial⟩⟩⟩) (fun q => Gd.wk (kf q) ⟨rfl, ⟨rfl, ⟨rfl, ⟨rfl, trivial⟩⟩⟩⟩)
theorem bkX9_cutText_37 {X : GX} {h : SH} {nc ns : Nat} {P : Out → SH → Prop} {a0 : Nat} {x1 : Int32} {x2 : Int32} {x3 : Int32} (kt : ¬ x3 = 32 → Gd X mX9_cutText 49 [some (.ref a0), some (.int x1), some (.int x2), some (.int x3)] [] (h) nc ns P) (kf : x3 = 32 → Gd X mX9_cutText 43 [some (.ref a0), some (.int x1), some (.int x2), none] [] (h) nc ns P) : Gd X mX9_cutText 37 [some (.ref a0), some (.int x1), some (.int x2), some (.int x3)] [] h nc ns P := by
  refine g_iload_n dX9_cutText_37 rfl ?_
  refine g_bipush (v := 32) dX9_cutText_38 (by decide) ?_
  exact g_icmp_ne (tgt := 49) dX9_cutText_40 (by decide) (fun q => Gd.wk (kt q) ⟨rfl, ⟨rfl, ⟨rfl, ⟨rfl, trivial⟩⟩⟩⟩) (fun q => Gd.wk (kf q) ⟨rfl, ⟨rfl, ⟨rfl, trivial⟩⟩⟩)
theorem bkX9_cutText_43 {X : GX} {h : SH} {nc ns : Nat} {P : Out → SH → Prop} {a0 : Nat} {x1 : Int32} {x2 : Int32} (g : Gd X mX9_cutText 106 [some (.ref a0), some (.int (x1 + 1)), some (.int x2), none] [] (h) nc ns P) : Gd X mX9_cutText 43 [some (.ref a0), some (.int x1), some (.int x2), none] [] h nc ns P := by
  refine g_iinc (v := x1 + 1) (L' := [some (.ref a0), some (.int (x1 + 1)), some (.int x2), none]) dX9_cutText_43 rfl rfl (by decide) rfl ?_
  refine g_goto (tgt := 106) dX9_cutText_46 (by decide) ?_
  exact Gd.wk g ⟨rfl, ⟨rfl, ⟨rfl, trivial⟩⟩⟩
theorem bkX9_cutText_49 {X : GX} {h : SH} {nc ns : Nat} {P : Out → SH → Prop} {Q : Int32 → SH → Prop} {a0 : Nat} {x1 : Int32} {x2 : Int32} {x3 : Int32} (hN : Cd X mX9_isLetter [.int x3] (h) 0 0 (oI Q nX)) (g : ∀ r t, Q r t → Gd X mX9_cutText 53 [some (.ref a0), some (.int x1), some (.int x2), some (.int x3)] [.int r] (t) nc ns P) : Gd X mX9_cutText 49 [some (.ref a0), some (.int x1), some (.int x2), some (.int x3)] [] h nc ns P := by
  refine g_iload_n dX9_cutText_49 rfl ?_
  refine Gd.z ?_
  exact g_callS [.int x3] dX9_cutText_50 mfX9_isLetter ⟨by decide, by decide⟩ kw_508 kw_509 rfl (Nat.le_of_ble_eq_true rfl) (by intro x hx; cases hx) (Nat.le_of_ble_eq_true rfl) hN (fun _ _ q => q.elim) (oI_go (G := fun a b => Gd X mX9_cutText 53 _ a b nc ns P) (fun r t q => Gd.wk (g r t q) ⟨rfl, ⟨rfl, ⟨rfl, ⟨rfl, trivial⟩⟩⟩⟩))
theorem bkX9_cutText_53 {X : GX} {h : SH} {nc ns : Nat} {P : Out → SH → Prop} {a0 : Nat} {x1 : Int32} {x2 : Int32} {x3 : Int32} {xs0 : Int32} (kt : xs0 = 0 → Gd X mX9_cutText 65 [some (.ref a0), some (.int x1), some (.int x2), some (.int x3)] [] (h) nc ns P) (kf : ¬ xs0 = 0 → Gd X mX9_cutText 56 [some (.ref a0), some (.int x1), some (.int x2), none] [] (h) nc ns P) : Gd X mX9_cutText 53 [some (.ref a0), some (.int x1), some (.int x2), some (.int x3)] [.int xs0] h nc ns P := by
  exact g_if_eq (tgt := 65) dX9_cutText_53 (by decide) (fun q => Gd.wk (kt q) ⟨rfl, ⟨rfl, ⟨rfl, ⟨rfl, trivial⟩⟩⟩⟩) (fun q => Gd.wk (kf q) ⟨rfl, ⟨rfl, ⟨rfl, trivial⟩⟩⟩)
theorem bkX9_cutText_56 {X : GX} {h : SH} {nc ns : Nat} {P : Out → SH → Prop} {Q : Int32 → SH → Prop} {a0 : Nat} {x1 : Int32} {x2 : Int32} (F0 : LX9 (Sk h) (a0)) (hN : Cd X mX9_cutLetters [.ref a0, .int x1] (h) 0 0 (oI Q nX)) (g : ∀ r t, Q r t → Gd X mX9_cutText 61 [some (.ref a0), none, some (.int x2), none] [.int r] (t) nc ns P) : Gd X mX9_cutText 56 [some (.ref a0), some (.int x1), some (.int x2), none] [] h nc ns P := by
  refine g_aload_n dX9_cutText_56 rfl ?_
  refine g_iload_n dX9_cutText_57 rfl ?_
  refine Gd.z ?_
  exact g_callV (k := 9) [.int x1] dX9_cutText_58 mfX9_cutLetters ⟨by decide, by decide⟩ kw_511 kw_513 kw_4 rfl (by decide) (Nat.le_of_ble_eq_true rfl) (by intro x hx; cases hx) (LX9.o (h := h) F0) (Nat.le_of_ble_eq_true rfl) hN (fun _ _ q => q.elim) (oI_go (G := fun a b => Gd X mX9_cutText 61 _ a b nc ns P) (fun r t q => Gd.wk (g r t q) ⟨rfl, ⟨rfl, trivial⟩⟩))
theorem bkX9_cutText_61 {X : GX} {h : SH} {nc ns : Nat} {P : Out → SH → Prop} {a0 : Nat} {x2 : Int32} {xs0 : Int32} (g : Gd X mX9_cutText 106 [some (.ref a0), some (.int xs0), some (.int x2), none] [] (h) nc ns P) : Gd X mX9_cutText 61 [some (.ref a0), none, some (.int x2), none] [.int xs0] h nc ns P := by
  refine g_istore_n (L' := [some (.ref a0), some (.int xs0), some (.int x2), none]) dX9_cutText_61 (by decide) rfl ?_
  refine g_goto (tgt := 106) dX9_cutText_62 (by decide) ?_
  exact Gd.wk g ⟨rfl, ⟨rfl, ⟨rfl, trivial⟩⟩⟩
theorem bkX9_cutText_65 {X : GX} {h : SH} {nc ns : Nat} {P : Out → SH → Prop} {Q : Int32 → SH → Prop} {a0 : Nat} {x1 : Int32} {x2 : Int32} {x3 : Int32} (hN : Cd X mX9_isDigit [.int x3] (h) 0 0 (oI Q nX)) (g : ∀ r t, Q r t → Gd X mX9_cutText 69 [some (.ref a0), some (.int x1), some (.int x2), some (.int x3)] [.int r] (t) nc ns P) : Gd X mX9_cutText 65 [some (.ref a0), some (.int x1), some (.int x2), some (.int x3)] [] h nc ns P := by
  refine g_iload_n dX9_cutText_65 rfl ?_
  refine Gd.z ?_
  exact g_callS [.int x3] dX9_cutText_66 mfX9_isDigit ⟨by decide, by decide⟩ kw_523 kw_524 rfl (Nat.le_of_ble_eq_true rfl) (by intro x hx; cases hx) (Nat.le_of_ble_eq_true rfl) hN (fun _ _ q => q.elim) (oI_go (G := fun a b => Gd X mX9_cutText 69 _ a b nc ns P) (fun r t q => Gd.wk (g r t q) ⟨rfl, ⟨rfl, ⟨rfl, ⟨rfl, trivial⟩⟩⟩⟩))
theorem bkX9_cutText_69 {X : GX} {h : SH} {nc ns : Nat} {P : Out → SH → Prop} {a0 : Nat} {x1 : Int32} {x2 : Int32} {x3 : Int32} {xs0 : Int32} (kt : xs0 = 0 → Gd X mX9_cutText 81 [some (.ref a0), some (.int x1), some (.int x2), some (.int x3)] [] (h) nc ns P) (kf : ¬ xs0 = 0 → Gd X mX9_cutText 72 [some (.ref a0), some (.int x1), some (.int x2), none] [] (h) nc ns P) : Gd X mX9_cutText 69 [some (.ref a0), some (.int x1), some (.int x2), some (.int x3)] [.int xs0] h nc ns P := by
  exact g_if_eq (tgt := 81) dX9_cutText_69 (by decide) (fun q => Gd.wk (kt q) ⟨rfl, ⟨rfl, ⟨rfl, ⟨rfl, trivial⟩⟩⟩⟩) (fun q => Gd.wk (kf q) ⟨rfl, ⟨rfl, ⟨rfl, trivial⟩⟩⟩)
theorem bkX9_cutText_72 {X : GX} {h : SH} {nc ns : Nat} {P : Out → SH → Prop} {Q : Int32 → SH → Prop} {a0 : Nat} {x1 : Int32} {x2 : Int32} (F0 : LX9 (Sk h) (a0)) (hN : Cd X mX9_cutDigits [.ref a0, .int x1] (h) 0 0 (oI Q nX)) (g : ∀ r t, Q r t → Gd X mX9_cutText 77 [some (.ref a0), none, some (.int x2), none] [.int r] (t) nc ns P) : Gd X mX9_cutText 72 [some (.ref a0), some (.int x1), some (.int x2), none] [] h nc ns P := by
  refine g_aload_n dX9_cutText_72 rfl ?_
  refine g_iload_n dX9_cutText_73 rfl ?_
  refine Gd.z ?_
  exact g_callV (k := 9) [.int x1] dX9_cutText_74 mfX9_cutDigits ⟨by decide, by decide⟩ kw_526 kw_528 kw_7 rfl (by decide) (Nat.le_of_ble_eq_true rfl) (by intro x hx; cases hx) (LX9.o (h := h) F0) (Nat.le_of_ble_eq_true rfl) hN (fun _ _ q => q.elim) (oI_go (G := fun a b => Gd X mX9_cutText 77 _ a b nc ns P) (fun r t q => Gd.wk (g r t q) ⟨rfl, ⟨rfl, trivial⟩⟩))
theorem bkX9_cutText_77 {X : GX} {h : SH} {nc ns : Nat} {P : Out → SH → Prop} {a0 : Nat} {x2 : Int32} {xs0 : Int32} (g : Gd X mX9_cutText 106 [some (.ref a0), some (.int xs0), some (.int x2), none] [] (h) nc ns P) : Gd X mX9_cutText 77 [some (.ref a0), none, some (.int x2), none] [.int xs0] h nc ns P := by
  refine g_istore_n (L' := [some (.ref a0), some (.int xs0), some (.int x2), none]) dX9_cutText_77 (by decide) rfl ?_
  refine g_goto (tgt := 106) dX9_cutText_78 (by decide) ?_
  exact Gd.wk g ⟨rfl, ⟨rfl, ⟨rfl, trivial⟩⟩⟩
theorem bkX9_cutText_89 {X : GX} {h : SH} {nc ns : Nat} {P : Out → SH → Prop} {a0 : Nat} {x1 : Int32} {x2 : Int32} {x3 : Int32} {as0 : Nat} {xs1 : Int32} (kt : (0 : Int32) ≤ xs1 → Gd X mX9_cutText 97 [some (.ref a0), some (.int x1), some (.int x2), some (.int x3)] [.ref as0] (h) nc ns P) (kf : ¬ (0 : Int32) ≤ xs1 → Gd X mX9_cutText 92 [some (.ref a0), some (.int x1), some (.int x2), none] [.ref as0] (h) nc ns P) : Gd X mX9_cutText 89 [some (.ref a0), some (.int x1), some (.int x2), some (.int x3)] [.int xs1, .ref as0] h nc ns P := by
  exact g_if_ge (tgt := 97) dX9_cutText_89 (by decide) (fun q => Gd.wk (kt q) ⟨rfl, ⟨rfl, ⟨rfl, ⟨rfl, trivial⟩⟩⟩⟩) (fun q => Gd.wk (kf q) ⟨rfl, ⟨rfl, ⟨rfl, trivial⟩⟩⟩)
theorem bkX9_cutText_92 {X : GX} {h : SH} {nc ns : Nat} {P : Out → SH → Prop} {a0 : Nat} {x1 : Int32} {x2 : Int32} {as0 : Nat} (g : Gd X mX9_cutText 98 [some (.ref a0), some (.int x1), some (.int x2), none] [.int 13, .ref as0] (h) nc ns P) : Gd X mX9_cutText 92 [some (.ref a0), some (.int x1), some (.int x2), none] [.ref as0] h nc ns P := by
  refine g_bipush (v := 13) dX9_cutText_92 (by decide) ?_
  refine g_goto (tgt := 98) dX9_cutText_94 (by decide) ?_
  exact Gd.wk g ⟨rfl, ⟨rfl, ⟨rfl, trivial⟩⟩⟩
theorem bkX9_cutText_97 {X : GX} {h : SH} {nc ns : Nat} {P : Out → SH → Prop} {a0 : Nat} {x1 : Int32} {x2 : Int32} {x3 : Int32} {as0 : Nat} (g : Gd X mX9_cutText 98 [some (.ref a0), some (.int x1), some (.int x2), none] [.int x3, .ref as0] (h) nc ns P) : Gd X mX9_cutText 97 [some (.ref a0), some (.int x1), some (.int x2), some (.int x3)] [.ref as0] h nc ns P := by
  refine g_iload_n dX9_cutText_97 rfl ?_
  exact Gd.wk g ⟨rfl, ⟨rfl, ⟨rfl, trivial⟩⟩⟩
theorem bkX9_cutText_98 {X : GX} {h : SH} {nc ns : Nat} {P : Out → SH → Prop} {Q : SH → Prop} {a0 : Nat} {x1 : Int32} {x2 : Int32} {as0 : Nat} {xs1 : Int32} (F0 : LX9 (Sk h) (as0)) (hN : Cd X mX9_keep [.ref as0, .int xs1, .int x1, .long 0] (h) 0 0 (oV Q nX)) (g : ∀ t, Q t → Gd X mX9_cutText 103 [some (.ref a0), some (.int x1), some (.int x2), none] [] (t) nc ns P) : Gd X mX9_cutText 98 [some (.ref a0), some (.int x1), some (.int x2), none] [.int xs1, .ref as0] h nc ns P := by
  refine g_iload_n dX9_cutText_98 rfl ?_
  refine g_lconst (v := 0) dX9_cutText_99 (by decide) ?_
  refine Gd.z ?_
  exact g_callV (k := 9) [.int xs1, .int x1, .long 0] dX9_cutText_100 mfX9_keep ⟨by decide, by decide⟩ kw_519 kw_521 kw_6 rfl (by decide) (Nat.le_of_ble_eq_true rfl) (by intro x hx; cases hx) (LX9.o (h := h) F0) (Nat.le_of_ble_eq_true rfl) hN (fun _ _ q => q.elim) (oV_go (G := fun a b => Gd X mX9_cutText 103 _ a b nc ns P) (fun t q => Gd.wk (g t q) ⟨rfl, ⟨rfl, ⟨rfl, trivial⟩⟩⟩))
theorem bkX9_cutText_103 {X : GX} {h : SH} {nc ns : Nat} {P : Out → SH → Prop} {a0 : Nat} {x1 : Int32} {x2 : Int32} (g : Gd X mX9_cutText 106 [some (.ref a0), some (.int (x1 + 1)), some (.int x2), none] [] (h) nc ns P) : Gd X mX9_cutText 103 [some (.ref a0), some (.int x1), some (.int x2), none] [] h nc ns P := by
  refine g_iinc (v := x1 + 1) (L' := [some (.ref a0), some (.int (x1 + 1)), some (.int x2), none]) dX9_cutText_103 rfl rfl (by decide) rfl ?_
  exact Gd.wk g ⟨rfl, ⟨rfl, ⟨rfl, trivial⟩⟩⟩
theorem bkX9_cutText_106 {X : GX} {h : SH} {nc ns : Nat} {P : Out → SH → Prop} {a0 : Nat} {x1 : Int32} {x2 : Int32} (g : Gd X mX9_cutText 8 [some (.ref a0), some (.int x1), some (.int (x2 + 1)), none] [] (h) nc ns P) : Gd X mX9_cutText 106 [some (.ref a0), some (.int x1), some (.int x2), none] [] h nc ns P := by
  refine g_iinc (v := x2 + 1) (L' := [some (.ref a0), some (.int x1), some (.int (x2 + 1)), none]) dX9_cutText_106 rfl rfl (by decide) rfl ?_
  refine g_goto (tgt := 8) dX9_cutText_109 (by decide) ?_
  exact Gd.wk g ⟨rfl, ⟨rfl, ⟨rfl, trivial⟩⟩⟩
theorem bkX9_cutText_112 {X : GX} {h : SH} {nc ns : Nat} {P : Out → SH → Prop} {Q : SH → Prop} {a0 : Nat} (F0 : LX9 (Sk h) (a0)) (hN : Cd X mX9_keep [.ref a0, .int 14, .int (hI h a0 1), .long 0] (h) 0 0 (oV Q nX)) (g : ∀ t, Q t → Gd X mX9_cutText 123 [some (.ref a0), none, none, none] [] (t) nc ns P) : Gd X mX9_cutText 112 [some (.ref a0), none, none, none] [] h nc ns P := by
  refine g_aload_n dX9_cutText_112 rfl ?_
  refine g_bipush (v := 14) dX9_cutText_113 (by decide) ?_
  refine g_aload_n dX9_cutText_115 rfl ?_
  refine g_getI (c := 9) (k := 1) dX9_cutText_116 (by decide) (by decide) kw_375 rfl (LX9.o (h := h) F0) ?_
  refine g_lconst (v := 0) dX9_cutText_119 (by decide) ?_
  refine Gd.z ?_
  exact g_callV (k := 9) [.int 14, .int (hI h a0 1), .long 0] dX9_cutText_120 mfX9_keep ⟨by decide, by decide⟩ kw_519 kw_521 kw_6 rfl (by decide) (Nat.le_of_ble_eq_true rfl) (by intro x hx; cases hx) (LX9.o (h := h) F0) (Nat.le_of_ble_eq_true rfl) hN (fun _ _ q => q.elim) (oV_go (G := fun a b => Gd X mX9_cutText 123 _ a b nc ns P) (fun t q => Gd.wk (g t q) ⟨rfl, trivial⟩))
theorem bkX9_cutText_123 {X : GX} {h : SH} {nc ns : Nat} {P : Out → SH → Prop} {Q : SH → Prop} {a0 : Nat} (F0 : LX9 (Sk h) (a0)) (hN : Cd X mX9_toNext [.ref a0] (h) 0 0 (oV Q nX)) (g : ∀ t, Q t → Gd X mX9_cutText 127 [none, none, none, none] [] (t) nc ns P) : Gd X mX9_cutText 123 [some (.ref a0), none, none, none] [] h nc ns P := by
  refine g_aload_n dX9_cutText_123 rfl ?_
  refine Gd.z ?_
  exact g_callV (k := 9) [] dX9_cutText_124 mfX9_toNext ⟨by decide, by decide⟩ kw_590 kw_591 kw_592 rfl (by decide) (Nat.le_of_ble_eq_true rfl) (by intro x hx; cases hx) (LX9.o (h := h) F0) (Nat.le_of_ble_eq_true rfl) hN (fun _ _ q => q.elim) (oV_go (G := fun a b => Gd X mX9_cutText 127 _ a b nc ns P) (fun t q => Gd.wk (g t q) trivial))
theorem bkX9_cutText_127 {X : GX} {h : SH} {nc ns : Nat} {P : Out → SH → Prop} (hp : P (.inl (none)) (h)) : Gd X mX9_cutText 127 [none, none, none, none] [] h nc ns P := by
  exact g_return (st := []) dX9_cutText_127 rfl hp
theorem bkX9_toNext_0 {X : GX} {h : SH} {nc ns : Nat} {P : Out → SH → Prop} {a0 : Nat} (F0 : LX9 (Sk h) (a0)) (kt : hI h a0 6 ≤ hI h a0 7 → Gd X mX9_toNext 60 [none] [] (h) nc ns P) (kf : ¬ hI h a0 6 ≤ hI h a0 7 → Gd X mX9_toNext 11 [some (.ref a0)] [] (h) nc ns P) : Gd X mX9_toNext 0 [some (.ref a0)] [] h nc ns P := by
  refine g_aload_n dX9_toNext_0 rfl ?_
  refine g_getI (c := 9) (k := 7) dX9_toNext_1 (by decide) (by decide) kw_383 rfl (LX9.o (h := h) F0) ?_
  refine g_aload_n dX9_toNext_4 rfl ?_
  refine g_getI (c := 9) (k := 6) dX9_toNext_5 (by decide) (by decide) kw_381 rfl (LX9.o (h := h) F0) ?_
  exact g_icmp_ge (tgt := 60) dX9_toNext_8 (by decide) (fun q => Gd.wk (kt q) trivial) (fun q => Gd.wk (kf q) ⟨rfl, trivial⟩)
theorem bkX9_toNext_11 {X : GX} {h : SH} {nc ns : Nat} {P : Out → SH → Prop} {a0 : Nat} (F0 : LX9 (Sk h) (a0)) (i1 : vp_in (hI h a0 7) (hN h (a0 + 2))) (i2 : vp_in (hI (sI h a0 8 (hI h (a0 + 2) ((hI h a0 7 : Int32).toNatClampNeg))) a0 7) (hN h (a0 + 3))) (g : Gd X mX9_toNext 37 [some (.ref a0)] [] (sI (sI h a0 8 (hI h (a0 + 2) ((hI h a0 7 : Int32).toNatClampNeg))) a0 9 (hI (sI h a0 8 (hI h (a0 + 2) ((hI h a0 7 : Int32).toNatClampNeg))) (a0 + 3) ((hI (sI h a0 8 (hI h (a0 + 2) ((hI h a0 7 : Int32).toNatClampNeg))) a0 7 : Int32).toNatClampNeg))) nc ns P) : Gd X mX9_toNext 11 [some (.ref a0)] [] h nc ns P := by
  refine g_aload_n dX9_toNext_11 rfl ?_
  refine g_aload_n dX9_toNext_12 rfl ?_
  refine g_getAs (c := 9) (k := 3) (b := a0 + 2) dX9_toNext_13 (by decide) (by decide) kw_377 rfl (LX9.o (h := h) F0) (LX9.r_kinds (h := h) F0) ?_
  refine g_aload_n dX9_toNext_16 rfl ?_
  refine g_getI (c := 9) (k := 7) dX9_toNext_17 (by decide) (by decide) kw_383 rfl (LX9.o (h := h) F0) ?_
  refine g_iaload dX9_toNext_20 (LX9.a_kinds (h := h) F0) i1 ?_
  refine g_put (c := 9) (k := 8) (h1 := sI h a0 8 (hI h (a0 + 2) ((hI h a0 7 : Int32).toNatClampNeg))) dX9_toNext_21 (by decide) (by decide) kw_384 rfl (LX9.o (h := h) F0) rfl rfl (Put.I rfl) ?_
  refine g_aload_n dX9_toNext_24 rfl ?_
  refine g_aload_n dX9_toNext_25 rfl ?_
  refine g_getAs (c := 9) (k := 4) (b := a0 + 3) dX9_toNext_26 (by decide) (by decide) kw_378 rfl (LX9.o (h := sI h a0 8 (hI h (a0 + 2) ((hI h a0 7 : Int32).toNatClampNeg))) F0) (LX9.r_places (h := sI h a0 8 (hI h (a0 + 2) ((hI h a0 7 : Int32).toNatClampNeg))) F0) ?_
  refine g_aload_n dX9_toNext_29 rfl ?_
  refine g_getI (c := 9) (k := 7) dX9_toNext_30 (by decide) (by decide) kw_383 rfl (LX9.o (h := sI h a0 8 (hI h (a0 + 2) ((hI h a0 7 : Int32).toNatClampNeg))) F0) ?_
  refine g_iaload dX9_toNext_33 (LX9.a_places (h := sI h a0 8 (hI h (a0 + 2) ((hI h a0 7 : Int32).toNatClampNeg))) F0) i2 ?_
  refine g_put (c := 9) (k := 9) (h1 := sI (sI h a0 8 (hI h (a0 + 2) ((hI h a0 7 : Int32).toNatClampNeg))) a0 9 (hI (sI h a0 8 (hI h (a0 + 2) ((hI h a0 7 : Int32).toNatClampNeg))) (a0 + 3) ((hI (sI h a0 8 (hI h (a0 + 2) ((hI h a0 7 : Int32).toNatClampNeg))) a0 7 : Int32).toNatClampNeg))) dX9_toNext_34 (by decide) (by decide) kw_387 rfl (LX9.o (h := sI h a0 8 (hI h (a0 + 2) ((hI h a0 7 : Int32).toNatClampNeg))) F0) rfl rfl (Put.I rfl) ?_
  exact Gd.wk g ⟨rfl, trivial⟩
theorem bkX9_toNext_60 {X : GX} {h : SH} {nc ns : Nat} {P : Out → SH → Prop} (hp : P (.inl (none)) (h)) : Gd X mX9_toNext 60 [none] [] h nc ns P := by
  exact g_return (st := []) dX9_toNext_60 rfl hp
theorem bkX9_toNext_37 {X : GX} {h : SH} {nc ns : Nat} {P : Out → SH → Prop} {a0 : Nat} (F0 : LX9 (Sk h) (a0)) (i1 : vp_in (hI h a0 7) (hN h (a0 + 4))) (g : Gd X mX9_toNext 60 [none] [] (sI (sJ h a0 10 (hJ h (a0 + 4) ((hI h a0 7 : Int32).toNatClampNeg))) a0 7 ((hI (sJ h a0 10 (hJ h (a0 + 4) ((hI h a0 7 : Int32).toNatClampNeg))) a0 7) + 1)) nc ns P) : Gd X mX9_toNext 37 [some (.ref a0)] [] h nc ns P := by
  refine g_aload_n dX9_toNext_37 rfl ?_
  refine g_aload_n dX9_toNext_38 rfl ?_
  refine g_getAs (c := 9) (k := 5) (b := a0 + 4) dX9_toNext_39 (by decide) (by decide) kw_379 rfl (LX9.o (h := h) F0) (LX9.r_values (h := h) F0) ?_
  refine g_aload_n dX9_toNext_42 rfl ?_
  refine g_getI (c := 9) (k := 7) dX9_toNext_43 (by decide) (by decide) kw_383 rfl (LX9.o (h := h) F0) ?_
  refine g_laload dX9_toNext_46 (LX9.a_values (h := h) F0) i1 ?_
  refine g_put (c := 9) (k := 10) (h1 := sJ h a0 10 (hJ h (a0 + 4) ((hI h a0 7 : Int32).toNatClampNeg))) dX9_toNext_47 (by decide) (by decide) kw_388 rfl (LX9.o (h := h) F0) rfl rfl (Put.J rfl) ?_
  refine g_aload_n dX9_toNext_50 rfl ?_
  refine g_dup dX9_toNext_51 rfl ?_
  refine g_getI (c := 9) (k := 7) dX9_toNext_52 (by decide) (by decide) kw_383 rfl (LX9.o (h := sJ h a0 10 (hJ h (a0 + 4) ((hI h a0 7 : Int32).toNatClampNeg))) F0) ?_
  refine g_iconst (v := 1) dX9_toNext_55 (by decide) ?_
  refine g_iadd dX9_toNext_56 ?_
  refine g_put (c := 9) (k := 7) (h1 := sI (sJ h a0 10 (hJ h (a0 + 4) ((hI h a0 7 : Int32).toNatClampNeg))) a0 7 ((hI (sJ h a0 10 (hJ h (a0 + 4) ((hI h a0 7 : Int32).toNatClampNeg))) a0 7) + 1)) dX9_toNext_57 (by decide) (by decide) kw_383 rfl (LX9.o (h := sJ h a0 10 (hJ h (a0 + 4) ((hI h a0 7 : Int32).toNatClampNeg))) F0) rfl rfl (Put.I rfl) ?_
  exact Gd.wk g trivial
theorem bkX9_tellsClause_0 {X : GX} {h : SH} {nc ns : Nat} {P : Out → SH → Prop} {a0 : Nat} {x1 : Int32} (kt : x1 < 1 → Gd X mX9_tellsClause 40 [none, none] [] (h) nc ns P) (kf : ¬ x1 < 1 → Gd X mX9_tellsClause 5 [some (.ref a0), some (.int x1)] [] (h) nc ns P) : Gd X mX9_tellsClause 0 [some (.ref a0), some (.int x1)] [] h nc ns P := by
  refine g_iload_n dX9_tellsClause_0 rfl ?_
  refine g_iconst (v := 1) dX9_tellsClause_1 (by decide) ?_
  exact g_icmp_lt (tgt := 40) dX9_tellsClause_2 (by decide) (fun q => Gd.wk (kt q) trivial) (fun q => Gd.wk (kf q) ⟨rfl, ⟨rfl, trivial⟩⟩)
theorem bkX9_tellsClause_5 {X : GX} {h : SH} {nc ns : Nat} {P : Out → SH → Prop} {a0 : Nat} {x1 : Int32} (F0 : LX9 (Sk h) (a0)) (kt : hI h a0 6 ≤ x1 → Gd X mX9_tellsClause 40 [none, none] [] (h) nc ns P) (kf : ¬ hI h a0 6 ≤ x1 → Gd X mX9_tellsClause 13 [some (.ref a0), some (.int x1)] [] (h) nc ns P) : Gd X mX9_tellsClause 5 [some (.ref a0), some (.int x1)] [] h nc ns P := by
  refine g_iload_n dX9_tellsClause_5 rfl ?_
  refine g_aload_n dX9_tellsClause_6 rfl ?_
  refine g_getI (c := 9) (k := 6) dX9_tellsClause_7 (by decide) (by decide) kw_381 rfl (LX9.o (h := h) F0) ?_
  exact g_icmp_ge (tgt := 40) dX9_tellsClause_10 (by decide) (fun q => Gd.wk (kt q) trivial) (fun q => Gd.wk (kf q) ⟨rfl, ⟨rfl, trivial⟩⟩)
theorem bkX9_tellsClause_13 {X : GX} {h : SH} {nc ns : Nat} {P : Out → SH → Prop} {a0 : Nat} {x1 : Int32} (F0 : LX9 (Sk h) (a0)) (i1 : vp_in (x1) (hN h (a0 + 2))) (kt : (11 : Int32) < (hI h (a0 + 2) ((x1 : Int32).toNatClampNeg)) → Gd X mX9_tellsClause 40 [none, none] [] (h) nc ns P) (kf : ¬ (11 : Int32) < (hI h (a0 + 2) ((x1 : Int32).toNatClampNeg)) → Gd X mX9_tellsClause 24 [some (.ref a0), some (.int x1)] [] (h) nc ns P) : Gd X mX9_tellsClause 13 [some (.ref a0), some (.int x1)] [] h nc ns P := by
  refine g_aload_n dX9_tellsClause_13 rfl ?_
  refine g_getAs (c := 9) (k := 3) (b := a0 + 2) dX9_tellsClause_14 (by decide) (by decide) kw_377 rfl (LX9.o (h := h) F0) (LX9.r_kinds (h := h) F0) ?_
  refine g_iload_n dX9_tellsClause_17 rfl ?_
  refine g_iaload dX9_tellsClause_18 (LX9.a_kinds (h := h) F0) i1 ?_
  refine g_bipush (v := 11) dX9_tellsClause_19 (by decide) ?_
  exact g_icmp_gt (tgt := 40) dX9_tellsClause_21 (by decide) (fun q => Gd.wk (kt q) trivial) (fun q => Gd.wk (kf q) ⟨rfl, ⟨rfl, trivial⟩⟩)
theorem bkX9_tellsClause_24 {X : GX} {h : SH} {nc ns : Nat} {P : Out → SH → Prop} {a0 : Nat} {x1 : Int32} (F0 : LX9 (Sk h) (a0)) (i1 : vp_in (x1 - 1) (hN h (a0 + 2))) (kt : ¬ (hI h (a0 + 2) ((x1 - 1 : Int32).toNatClampNeg)) = 2 → Gd X mX9_tellsClause 40 [none, none] [] (h) nc ns P) (kf : (hI h (a0 + 2) ((x1 - 1 : Int32).toNatClampNeg)) = 2 → Gd X mX9_tellsClause 36 [none, none] [] (h) nc ns P) : Gd X mX9_tellsClause 24 [some (.ref a0), some (.int x1)] [] h nc ns P := by
  refine g_aload_n dX9_tellsClause_24 rfl ?_
  refine g_getAs (c := 9) (k := 3) (b := a0 + 2) dX9_tellsClause_25 (by decide) (by decide) kw_377 rfl (LX9.o (h := h) F0) (LX9.r_kinds (h := h) F0) ?_
  refine g_iload_n dX9_tellsClause_28 rfl ?_
  refine g_iconst (v := 1) dX9_tellsClause_29 (by decide) ?_
  refine g_isub dX9_tellsClause_30 ?_
  refine g_iaload dX9_tellsClause_31 (LX9.a_kinds (h := h) F0) i1 ?_
  refine g_iconst (v := 2) dX9_tellsClause_32 (by decide) ?_
  exact g_icmp_ne (tgt := 40) dX9_tellsClause_33 (by decide) (fun q => Gd.wk (kt q) trivial) (fun q => Gd.wk (kf q) trivial)
theorem bkX9_tellsClause_36 {X : GX} {h : SH} {nc ns : Nat} {P : Out → SH → Prop} (g : Gd X mX9_tellsClause 41 [none, none] [.int 1] (h) nc ns P) : Gd X mX9_tellsClause 36 [none, none] [] h nc ns P := by
  refine g_iconst (v := 1) dX9_tellsClause_36 (by decide) ?_
  refine g_goto (tgt := 41) dX9_tellsClause_37 (by decide) ?_
  exact Gd.wk g trivial
theorem bkX9_tellsClause_40 {X : GX} {h : SH} {nc ns : Nat} {P : Out → SH → Prop} (g : Gd X mX9_tellsClause 41 [none, none] [.int 0] (h) nc ns P) : Gd X mX9_tellsClause 40 [none, none] [] h nc ns P := by
  refine g_iconst (v := 0) dX9_tellsClause_40 (by decide) ?_
  exact Gd.wk g trivial
theorem bkX9_tellsClause_41 {X : GX} {h : SH} {nc ns : Nat} {P : Out → SH → Prop} {xs0 : Int32} (w0 : xs0 = 0 ∨ xs0 = 1) (hp : P (.inl (some (.int (xs0)))) (h)) : Gd X mX9_tellsClause 41 [none, none] [.int xs0] h nc ns P := by
  exact g_ireturn (st := []) dX9_tellsClause_41 rfl (bl_n w0) hp
theorem bkX9_keep_0 {X : GX} {h : SH} {nc ns : Nat} {P : Out → SH → Prop} {a0 : Nat} {x1 : Int32} {x2 : Int32} {y3 : Int64} (F0 : LX9 (Sk h) (a0)) (kt : (Int32.ofNat (hN h (a0 + 2))) ≤ hI h a0 6 → Gd X mX9_keep 52 [none, none, none, none, none] [] (h) nc ns P) (kf : ¬ (Int32.ofNat (hN h (a0 + 2))) ≤ hI h a0 6 → Gd X mX9_keep 12 [some (.ref a0), some (.int x1), some (.int x2), some (.long y3), none] [] (h) nc ns P) : Gd X mX9_keep 0 [some (.ref a0), some (.int x1), some (.int x2), some (.long y3), none] [] h nc ns P := by
  refine g_aload_n dX9_keep_0 rfl ?_
  refine g_getI (c := 9) (k := 6) dX9_keep_1 (by decide) (by decide) kw_381 rfl (LX9.o (h := h) F0) ?_
  refine g_aload_n dX9_keep_4 rfl ?_
  refine g_getAs (c := 9) (k := 3) (b := a0 + 2) dX9_keep_5 (by decide) (by decide) kw_377 rfl (LX9.o (h := h) F0) (LX9.r_kinds (h := h) F0) ?_
  refine g_alen (k := 20) dX9_keep_8 (by decide) (by decide) (LX9.a_kinds (h := h) F0) ?_
  exact g_icmp_ge (tgt := 52) dX9_keep_9 (by decide) (fun q => Gd.wk (kt q) trivial) (fun q => Gd.wk (kf q) ⟨rfl, ⟨rfl, ⟨rfl, ⟨rfl, trivial⟩⟩⟩⟩)
theorem bkX9_keep_12 {X : GX} {h : SH} {nc ns : Nat} {P : Out → SH → Prop} {a0 : Nat} {x1 : Int32} {x2 : Int32} {y3 : Int64} (F0 : LX9 (Sk h) (a0)) (i1 : vp_in (hI h a0 6) (hN h (a0 + 2))) (i2 : vp_in (hI (sI h (a0 + 2) ((hI h a0 6 : Int32).toNatClampNeg) x1) a0 6) (hN h (a0 + 3))) (i3 : vp_in (hI (sI (sI h (a0 + 2) ((hI h a0 6 : Int32).toNatClampNeg) x1) (a0 + 3) ((hI (sI h (a0 + 2) ((hI h a0 6 : Int32).toNatClampNeg) x1) a0 6 : Int32).toNatClampNeg) x2) a0 6) (hN h (a0 + 4))) (g : Gd X mX9_keep 42 [some (.ref a0), none, none, none, none] [] (sJ (sI (sI h (a0 + 2) ((hI h a0 6 : Int32).toNatClampNeg) x1) (a0 + 3) ((hI (sI h (a0 + 2) ((hI h a0 6 : Int32).toNatClampNeg) x1) a0 6 : Int32).toNatClampNeg) x2) (a0 + 4) ((hI (sI (sI h (a0 + 2) ((hI h a0 6 : Int32).toNatClampNeg) x1) (a0 + 3) ((hI (sI h (a0 + 2) ((hI h a0 6 : Int32).toNatClampNeg) x1) a0 6 : Int32).toNatClampNeg) x2) a0 6 : Int32).toNatClampNeg) y3) nc ns P) : Gd X mX9_keep 12 [some (.ref a0), some (.int x1), some (.int x2), some (.long y3), none] [] h nc ns P := by
  refine g_aload_n dX9_keep_12 rfl ?_
  refine g_getAs (c := 9) (k := 3) (b := a0 + 2) dX9_keep_13 (by decide) (by decide) kw_377 rfl (LX9.o (h := h) F0) (LX9.r_kinds (h := h) F0) ?_
  refine g_aload_n dX9_keep_16 rfl ?_
  refine g_getI (c := 9) (k := 6) dX9_keep_17 (by decide) (by decide) kw_381 rfl (LX9.o (h := h) F0) ?_
  refine g_iload_n dX9_keep_20 rfl ?_
  refine g_iastore dX9_keep_21 (LX9.a_kinds (h := h) F0) i1 ?_
  refine g_aload_n dX9_keep_22 rfl ?_
  refine g_getAs (c := 9) (k := 4) (b := a0 + 3) dX9_keep_23 (by decide) (by decide) kw_378 rfl (LX9.o (h := sI h (a0 + 2) ((hI h a0 6 : Int32).toNatClampNeg) x1) F0) (LX9.r_places (h := sI h (a0 + 2) ((hI h a0 6 : Int32).toNatClampNeg) x1) F0) ?_
  refine g_aload_n dX9_keep_26 rfl ?_
  refine g_getI (c := 9) (k := 6) dX9_keep_27 (by decide) (by decide) kw_381 rfl (LX9.o (h := sI h (a0 + 2) ((hI h a0 6 : Int32).toNatClampNeg) x1) F0) ?_
  refine g_iload_n dX9_keep_30 rfl ?_
  refine g_iastore dX9_keep_31 (LX9.a_places (h := sI h (a0 + 2) ((hI h a0 6 : Int32).toNatClampNeg) x1) F0) i2 ?_
  refine g_aload_n dX9_keep_32 rfl ?_
  refine g_getAs (c := 9) (k := 5) (b := a0 + 4) dX9_keep_33 (by decide) (by decide) kw_379 rfl (LX9.o (h := sI (sI h (a0 + 2) ((hI h a0 6 : Int32).toNatClampNeg) x1) (a0 + 3) ((hI (sI h (a0 + 2) ((hI h a0 6 : Int32).toNatClampNeg) x1) a0 6 : Int32).toNatClampNeg) x2) F0) (LX9.r_values (h := sI (sI h (a0 + 2) ((hI h a0 6 : Int32).toNatClampNeg) x1) (a0 + 3) ((hI (sI h (a0 + 2) ((hI h a0 6 : Int32).toNatClampNeg) x1) a0 6 : Int32).toNatClampNeg) x2) F0) ?_
  refine g_aload_n dX9_keep_36 rfl ?_
  refine g_getI (c := 9) (k := 6) dX9_keep_37 (by decide) (by decide) kw_381 rfl (LX9.o (h := sI (sI h (a0 + 2) ((hI h a0 6 : Int32).toNatClampNeg) x1) (a0 + 3) ((hI (sI h (a0 + 2) ((hI h a0 6 : Int32).toNatClampNeg) x1) a0 6 : Int32).toNatClampNeg) x2) F0) ?_
  refine g_lload_n dX9_keep_40 rfl ?_
  refine g_lastore dX9_keep_41 (LX9.a_values (h := sI (sI h (a0 + 2) ((hI h a0 6 : Int32).toNatClampNeg) x1) (a0 + 3) ((hI (sI h (a0 + 2) ((hI h a0 6 : Int32).toNatClampNeg) x1) a0 6 : Int32).toNatClampNeg) x2) F0) i3 ?_
  exact Gd.wk g ⟨rfl, trivial⟩
theorem bkX9_keep_52 {X : GX} {h : SH} {nc ns : Nat} {P : Out → SH → Prop} (hp : P (.inl (none)) (h)) : Gd X mX9_keep 52 [none, none, none, none, none] [] h nc ns P := by
  exact g_return (st := []) dX9_keep_52 rfl hp
theorem bkX9_keep_42 {X : GX} {h : SH} {nc ns : Nat} {P : Out → SH → Prop} {a0 : Nat} (F0 : LX9 (Sk h) (a0)) (g : Gd X mX9_keep 52 [none, none, none, none, none] [] (sI h a0 6 (hI h a0 6 + 1)) nc ns P) : Gd X mX9_keep 42 [some (.ref a0), none, none, none, none] [] h nc ns P := by
  refine g_aload_n dX9_keep_42 rfl ?_
  refine g_dup dX9_keep_43 rfl ?_
  refine g_getI (c := 9) (k := 6) dX9_keep_44 (by decide) (by decide) kw_381 rfl (LX9.o (h := h) F0) ?_
  refine g_iconst (v := 1) dX9_keep_47 (by decide) ?_
  refine g_iadd dX9_keep_48 ?_
  refine g_put (c := 9) (k := 6) (h1 := sI h a0 6 (hI h a0 6 + 1)) dX9_keep_49 (by decide) (by decide) kw_381 rfl (LX9.o (h := h) F0) rfl rfl (Put.I rfl) ?_
  exact Gd.wk g trivial
theorem bkX9_cutLetters_0 {X : GX} {h : SH} {nc ns : Nat} {P : Out → SH → Prop} {a0 : Nat} {x1 : Int32} (g : Gd X mX9_cutLetters 5 [some (.ref a0), some (.int x1), some (.long 0), none, some (.int x1)] [] (h) nc ns P) : Gd X mX9_cutLetters 0 [some (.ref a0), some (.int x1), none, none, none] [] h nc ns P := by
  refine g_lconst (v := 0) dX9_cutLetters_0 (by decide) ?_
  refine g_lstore_n (L' := [some (.ref a0), some (.int x1), some (.long 0), none, none]) dX9_cutLetters_1 (by decide) rfl ?_
  refine g_iload_n dX9_cutLetters_2 rfl ?_
  refine g_istore (L' := [some (.ref a0), some (.int x1), some (.long 0), none, some (.int x1)]) dX9_cutLetters_3 (by decide) rfl ?_
  exact Gd.wk g ⟨rfl, ⟨rfl, ⟨rfl, ⟨rfl, trivial⟩⟩⟩⟩
theorem bkX9_cutLetters_5 {X : GX} {h : SH} {nc ns : Nat} {P : Out → SH → Prop} {a0 : Nat} {x1 : Int32} {y2 : Int64} {x4 : Int32} (F0 : LX9 (Sk h) (a0)) (kt : hI h a0 1 ≤ x4 → Gd X mX9_cutLetters 45 [some (.ref a0), some (.int x1), some (.long y2), none, some (.int x4)] [] (h) nc ns P) (kf : ¬ hI h a0 1 ≤ x4 → Gd X mX9_cutLetters 14 [some (.ref a0), some (.int x1), some (.long y2), none, some (.int x4)] [] (h) nc ns P) : Gd X mX9_cutLetters 5 [some (.ref a0), some (.int x1), some (.long y2), none, some (.int x4)] [] h nc ns P := by
  refine g_iload dX9_cutLetters_5 rfl ?_
  refine g_aload_n dX9_cutLetters_7 rfl ?_
  refine g_getI (c := 9) (k := 1) dX9_cutLetters_8 (by decide) (by decide) kw_375 rfl (LX9.o (h := h) F0) ?_
  exact g_icmp_ge (tgt := 45) dX9_cutLetters_11 (by decide) (fun q => Gd.wk (kt q) ⟨rfl, ⟨rfl, ⟨rfl, ⟨rfl, trivial⟩⟩⟩⟩) (fun q => Gd.wk (kf q) ⟨rfl, ⟨rfl, ⟨rfl, ⟨rfl, trivial⟩⟩⟩⟩)
theorem bkX9_cutLetters_14 {X : GX} {h : SH} {nc ns : Nat} {P : Out → SH → Prop} {Q : Int32 → SH → Prop} {a0 : Nat} {x1 : Int32} {y2 : Int64} {x4 : Int32} {b4 : Nat} {n5 : Nat} (F0 : LX9 (Sk h) (a0)) (q1 : hA h a0 0 = some b4) (B2 : Ar h (b4) 21 n5) (i3 : vp_in (x4) n5) (hN : Cd X mX9_isLetter [.int (hI h b4 ((x4 : Int32).toNatClampNeg))] (h) 0 0 (oI Q nX)) (g : ∀ r t, Q r t → Gd X mX9_cutLetters 24 [some (.ref a0), some (.int x1), some (.long y2), none, some (.int x4)] [.int r] (t) nc ns P) : Gd X mX9_cutLetters 14 [some (.ref a0), some (.int x1), some (.long y2), none, some (.int x4)] [] h nc ns P := by
  refine g_aload_n dX9_cutLetters_14 rfl ?_
  refine g_getAs (c := 9) (k := 0) (b := b4) dX9_cutLetters_15 (by decide) (by decide) kw_374 rfl (LX9.o (h := h) F0) q1 ?_
  refine g_iload dX9_cutLetters_18 rfl ?_
  refine g_baload dX9_cutLetters_20 B2 i3 ?_
  refine Gd.z ?_
  exact g_callS [.int (hI h b4 ((x4 : Int32).toNatClampNeg))] dX9_cutLetters_21 mfX9_isLetter ⟨by decide, by decide⟩ kw_508 kw_509 rfl (Nat.le_of_ble_eq_true rfl) (by intro x hx; cases hx) (Nat.le_of_ble_eq_true rfl) hN (fun _ _ q => q.elim) (oI_go (G := fun a b => Gd X mX9_cutLetters 24 _ a b nc ns P) (fun r t q => Gd.wk (g r t q) ⟨rfl, ⟨rfl, ⟨rfl, ⟨rfl, trivial⟩⟩⟩⟩))
theorem bkX9_cutLetters_24 {X : GX} {h : SH} {nc ns : Nat} {P : Out → SH → Prop} {a0 : Nat} {x1 : Int32} {y2 : Int64} {x4 : Int32} {xs0 : Int32} (kt : xs0 = 0 → Gd X mX9_cutLetters 45 [some (.ref a0), some (.int x1), some (.long y2), none, some (.int x4)] [] (h) nc ns P) (kf : ¬ xs0 = 0 → Gd X mX9_cutLetters 27 [some (.ref a0), some (.int x1), some (.long y2), none, some (.int x4)] [] (h) nc ns P) : Gd X mX9_cutLetters 24 [some (.ref a0), some (.int x1), some (.long y2), none, some (.int x4)] [.int xs0] h nc ns P := by
  exact g_if_eq (tgt := 45) dX9_cutLetters_24 (by decide) (fun q => Gd.wk (kt q) ⟨rfl, ⟨rfl, ⟨rfl, ⟨rfl, trivial⟩⟩⟩⟩) (fun q => Gd.wk (kf q) ⟨rfl, ⟨rfl, ⟨rfl, ⟨rfl, trivial⟩⟩⟩⟩)
theorem bkX9_cutLetters_27 {X : GX} {h : SH} {nc ns : Nat} {P : Out → SH → Prop} {Q : Int64 → SH → Prop} {a0 : Nat} {x1 : Int32} {y2 : Int64} {x4 : Int32} {b4 : Nat} {n5 : Nat} (F0 : LX9 (Sk h) (a0)) (q1 : hA h a0 0 = some b4) (B2 : Ar h (b4) 21 n5) (i3 : vp_in (x4) n5) (hN : Cd X mX9_packLetter [.long y2, .int (hI h b4 ((x4 : Int32).toNatClampNeg))] (h) 0 0 (oJ Q nX)) (g : ∀ r t, Q r t → Gd X mX9_cutLetters 38 [some (.ref a0), some (.int x1), none, none, some (.int x4)] [.long r] (t) nc ns P) : Gd X mX9_cutLetters 27 [some (.ref a0), some (.int x1), some (.long y2), none, some (.int x4)] [] h nc ns P := by
  refine g_lload_n dX9_cutLetters_27 rfl ?_
  refine g_aload_n dX9_cutLetters_28 rfl ?_
  refine g_getAs (c := 9) (k := 0) (b := b4) dX9_cutLetters_29 (by decide) (by decide) kw_374 rfl (LX9.o (h := h) F0) q1 ?_
  refine g_iload dX9_cutLetters_32 rfl ?_
  refine g_baload dX9_cutLetters_34 B2 i3 ?_
  refine Gd.z ?_
  exact g_callS [.long y2, .int (hI h b4 ((x4 : Int32).toNatClampNeg))] dX9_cutLetters_35 mfX9_packLetter ⟨by decide, by decide⟩ kw_503 kw_504 rfl (Nat.le_of_ble_eq_true rfl) (by intro x hx; cases hx) (Nat.le_of_ble_eq_true rfl) hN (fun _ _ q => q.elim) (oJ_go (G := fun a b => Gd X mX9_cutLetters 38 _ a b nc ns P) (fun r t q => Gd.wk (g r t q) ⟨rfl, ⟨rfl, ⟨rfl, trivial⟩⟩⟩))
theorem bkX9_cutLetters_38 {X : GX} {h : SH} {nc ns : Nat} {P : Out → SH → Prop} {a0 : Nat} {x1 : Int32} {x4 : Int32} {ys0 : Int64} (g : Gd X mX9_cutLetters 5 [some (.ref a0), some (.int x1), some (.long ys0), none, some (.int (x4 + 1))] [] (h) nc ns P) : Gd X mX9_cutLetters 38 [some (.ref a0), some (.int x1), none, none, some (.int x4)] [.long ys0] h nc ns P := by
  refine g_lstore_n (L' := [some (.ref a0), some (.int x1), some (.long ys0), none, some (.int x4)]) dX9_cutLetters_38 (by decide) rfl ?_
  refine g_iinc (v := x4 + 1) (L' := [some (.ref a0), some (.int x1), some (.long ys0), none, some (.int (x4 + 1))]) dX9_cutLetters_39 rfl rfl (by decide) rfl ?_
  refine g_goto (tgt := 5) dX9_cutLetters_42 (by decide) ?_
  exact Gd.wk g ⟨rfl, ⟨rfl, ⟨rfl, ⟨rfl, trivial⟩⟩⟩⟩
theorem bkX9_cutLetters_45 {X : GX} {h : SH} {nc ns : Nat} {P : Out → SH → Prop} {a0 : Nat} {x1 : Int32} {y2 : Int64} {x4 : Int32} (kt : (x4 - x1) ≤ 10 → Gd X mX9_cutLetters 60 [some (.ref a0), some (.int x1), some (.long y2), none, some (.int x4)] [.ref a0] (h) nc ns P) (kf : ¬ (x4 - x1) ≤ 10 → Gd X mX9_cutLetters 55 [none, some (.int x1), some (.long y2), none, some (.int x4)] [.ref a0] (h) nc ns P) : Gd X mX9_cutLetters 45 [some (.ref a0), some (.int x1), some (.long y2), none, some (.int x4)] [] h nc ns P := by
  refine g_aload_n dX9_cutLetters_45 rfl ?_
  refine g_iload dX9_cutLetters_46 rfl ?_
  refine g_iload_n dX9_cutLetters_48 rfl ?_
  refine g_isub dX9_cutLetters_49 ?_
  refine g_bipush (v := 10) dX9_cutLetters_50 (by decide) ?_
  exact g_icmp_le (tgt := 60) dX9_cutLetters_52 (by decide) (fun q => Gd.wk (kt q) ⟨rfl, ⟨rfl, ⟨rfl, ⟨rfl, trivial⟩⟩⟩⟩) (fun q => Gd.wk (kf q) ⟨rfl, ⟨rfl, ⟨rfl, trivial⟩⟩⟩)
theorem bkX9_cutLetters_55 {X : GX} {h : SH} {nc ns : Nat} {P : Out → SH → Prop} {x1 : Int32} {y2 : Int64} {x4 : Int32} {as0 : Nat} (g : Gd X mX9_cutLetters 65 [none, some (.int x1), some (.long y2), none, some (.int x4)] [.int 13, .ref as0] (h) nc ns P) : Gd X mX9_cutLetters 55 [none, some (.int x1), some (.long y2), none, some (.int x4)] [.ref as0] h nc ns P := by
  refine g_bipush (v := 13) dX9_cutLetters_55 (by decide) ?_
  refine g_goto (tgt := 65) dX9_cutLetters_57 (by decide) ?_
  exact Gd.wk g ⟨rfl, ⟨rfl, ⟨rfl, trivial⟩⟩⟩
theorem bkX9_cutLetters_60 {X : GX} {h : SH} {nc ns : Nat} {P : Out → SH → Prop} {Q : Int32 → SH → Prop} {a0 : Nat} {x1 : Int32} {y2 : Int64} {x4 : Int32} {as0 : Nat} (F0 : LX9 (Sk h) (a0)) (hN : Cd X mX9_kindOfWord [.ref a0, .long y2] (h) 0 0 (oI Q nX)) (g : ∀ r t, Q r t → Gd X mX9_cutLetters 65 [none, some (.int x1), some (.long y2), none, some (.int x4)] [.int r, .ref as0] (t) nc ns P) : Gd X mX9_cutLetters 60 [some (.ref a0), some (.int x1), some (.long y2), none, some (.int x4)] [.ref as0] h nc ns P := by
  refine g_aload_n dX9_cutLetters_60 rfl ?_
  refine g_lload_n dX9_cutLetters_61 rfl ?_
  refine Gd.z ?_
  exact g_callV (k := 9) [.long y2] dX9_cutLetters_62 mfX9_kindOfWord ⟨by decide, by decide⟩ kw_515 kw_517 kw_5 rfl (by decide) (Nat.le_of_ble_eq_true rfl) (by intro x hx; cases hx) (LX9.o (h := h) F0) (Nat.le_of_ble_eq_true rfl) hN (fun _ _ q => q.elim) (oI_go (G := fun a b => Gd X mX9_cutLetters 65 _ a b nc ns P) (fun r t q => Gd.wk (g r t q) ⟨rfl, ⟨rfl, ⟨rfl, trivial⟩⟩⟩))
theorem bkX9_cutLetters_65 {X : GX} {h : SH} {nc ns : Nat} {P : Out → SH → Prop} {Q : SH → Prop} {x1 : Int32} {y2 : Int64} {x4 : Int32} {as0 : Nat} {xs1 : Int32} (F0 : LX9 (Sk h) (as0)) (hN : Cd X mX9_keep [.ref as0, .int xs1, .int x1, .long y2] (h) 0 0 (oV Q nX)) (g : ∀ t, Q t → Gd X mX9_cutLetters 70 [none, none, none, none, some (.int x4)] [] (t) nc ns P) : Gd X mX9_cutLetters 65 [none, some (.int x1), some (.long y2), none, some (.int x4)] [.int xs1, .ref as0] h nc ns P := by
  refine g_iload_n dX9_cutLetters_65 rfl ?_
  refine g_lload_n dX9_cutLetters_66 rfl ?_
  refine Gd.z ?_
  exact g_callV (k := 9) [.int xs1, .int x1, .long y2] dX9_cutLetters_67 mfX9_keep ⟨by decide, by decide⟩ kw_519 kw_521 kw_6 rfl (by decide) (Nat.le_of_ble_eq_true rfl) (by intro x hx; cases hx) (LX9.o (h := h) F0) (Nat.le_of_ble_eq_true rfl) hN (fun _ _ q => q.elim) (oV_go (G := fun a b => Gd X mX9_cutLetters 70 _ a b nc ns P) (fun t q => Gd.wk (g t q) ⟨rfl, trivial⟩))
theorem bkX9_cutLetters_70 {X : GX} {h : SH} {nc ns : Nat} {P : Out → SH → Prop} {x4 : Int32} (hp : P (.inl (some (.int (x4)))) (h)) : Gd X mX9_cutLetters 70 [none, none, none, none, some (.int x4)] [] h nc ns P := by
  refine g_iload dX9_cutLetters_70 rfl ?_
  exact g_ireturn (st := []) dX9_cutLetters_72 rfl rfl hp
theorem bkX9_cutDigits_0 {X : GX} {h : SH} {nc ns : Nat} {P : Out → SH → Prop} {a0 : Nat} {x1 : Int32} (g : Gd X mX9_cutDigits 4 [some (.ref a0), some (.int x1), some (.int 0), some (.int x1)] [] (h) nc ns P) : Gd X mX9_cutDigits 0 [some (.ref a0), some (.int x1), none, none] [] h nc ns P := by
  refine g_iconst (v := 0) dX9_cutDigits_0 (by decide) ?_
  refine g_istore_n (L' := [some (.ref a0), some (.int x1), some (.int 0), none]) dX9_cutDigits_1 (by decide) rfl ?_
  refine g_iload_n dX9_cutDigits_2 rfl ?_
  refine g_istore_n (L' := [some (.ref a0), some (.int x1), some (.int 0), some (.int x1)]) dX9_cutDigits_3 (by decide) rfl ?_
  exact Gd.wk g ⟨rfl, ⟨rfl, ⟨rfl, ⟨rfl, trivial⟩⟩⟩⟩
theorem bkX9_cutDigits_4 {X : GX} {h : SH} {nc ns : Nat} {P : Out → SH → Prop} {a0 : Nat} {x1 : Int32} {x2 : Int32} {x3 : Int32} (F0 : LX9 (Sk h) (a0)) (kt : hI h a0 1 ≤ x3 → Gd X mX9_cutDigits 45 [some (.ref a0), some (.int x1), some (.int x2), some (.int x3)] [] (h) nc ns P) (kf : ¬ hI h a0 1 ≤ x3 → Gd X mX9_cutDigits 12 [some (.ref a0), some (.int x1), some (.int x2), some (.int x3)] [] (h) nc ns P) : Gd X mX9_cutDigits 4 [some (.ref a0), some (.int x1), some (.int x2), some (.int x3)] [] h nc ns P := by
  refine g_iload_n dX9_cutDigits_4 rfl ?_
  refine g_aload_n dX9_cutDigits_5 rfl ?_
  refine g_getI (c := 9) (k := 1) dX9_cutDigits_6 (by decide) (by decide) kw_375 rfl (LX9.o (h := h) F0) ?_
  exact g_icmp_ge (tgt := 45) dX9_cutDigits_9 (by decide) (fun q => Gd.wk (kt q) ⟨rfl, ⟨rfl, ⟨rfl, ⟨rfl, trivial⟩⟩⟩⟩) (fun q => Gd.wk (kf q) ⟨rfl, ⟨rfl, ⟨rfl, ⟨rfl, trivial⟩⟩⟩⟩)
theorem bkX9_cutDigits_12 {X : GX} {h : SH} {nc ns : Nat} {P : Out → SH → Prop} {Q : Int32 → SH → Prop} {a0 : Nat} {x1 : Int32} {x2 : Int32} {x3 : Int32} {b4 : Nat} {n5 : Nat} (F0 : LX9 (Sk h) (a0)) (q1 : hA h a0 0 = some b4) (B2 : Ar h (b4) 21 n5) (i3 : vp_in (x3) n5) (hN : Cd X mX9_isDigit [.int (hI h b4 ((x3 : Int32).toNatClampNeg))] (h) 0 0 (oI Q nX)) (g : ∀ r t, Q r t → Gd X mX9_cutDigits 21 [some (.ref a0), some (.int x1), some (.int x2), some (.int x3)] [.int r] (t) nc ns P) : Gd X mX9_cutDigits 12 [some (.ref a0), some (.int x1), some (.int x2), some (.int x3)] [] h nc ns P := by
  refine g_aload_n dX9_cutDigits_12 rfl ?_
  refine g_getAs (c := 9) (k := 0) (b := b4) dX9_cutDigits_13 (by decide) (by decide) kw_374 rfl (LX9.o (h := h) F0) q1 ?_
  refine g_iload_n dX9_cutDigits_16 rfl ?_
  refine g_baload dX9_cutDigits_17 B2 i3 ?_
  refine Gd.z ?_
  exact g_callS [.int (hI h b4 ((x3 : Int32).toNatClampNeg))] dX9_cutDigits_18 mfX9_isDigit ⟨by decide, by decide⟩ kw_523 kw_524 rfl (Nat.le_of_ble_eq_true rfl) (by intro x hx; cases hx) (Nat.le_of_ble_eq_true rfl) hN (fun _ _ q => q.elim) (oI_go (G := fun a b => Gd X mX9_cutDigits 21 _ a b nc ns P) (fun r t q => Gd.wk (g r t q) ⟨rfl, ⟨rfl, ⟨rfl, ⟨rfl, trivial⟩⟩⟩⟩))
theorem bkX9_cutDigits_21 {X : GX} {h : SH} {nc ns : Nat} {P : Out → SH → Prop} {a0 : Nat} {x1 : Int32} {x2 : Int32} {x3 : Int32} {xs0 : Int32} (kt : xs0 = 0 → Gd X mX9_cutDigits 45 [some (.ref a0), some (.int x1), some (.int x2), some (.int x3)] [] (h) nc ns P) (kf : ¬ xs0 = 0 → Gd X mX9_cutDigits 24 [some (.ref a0), some (.int x1), some (.int x2), some (.int x3)] [] (h) nc ns P) : Gd X mX9_cutDigits 21 [some (.ref a0), some (.int x1), some (.int x2), some (.int x3)] [.int xs0] h nc ns P := by
  exact g_if_eq (tgt := 45) dX9_cutDigits_21 (by decide) (fun q => Gd.wk (kt q) ⟨rfl, ⟨rfl, ⟨rfl, ⟨rfl, trivial⟩⟩⟩⟩) (fun q => Gd.wk (kf q) ⟨rfl, ⟨rfl, ⟨rfl, ⟨rfl, trivial⟩⟩⟩⟩)
theorem bkX9_cutDigits_24 {X : GX} {h : SH} {nc ns : Nat} {P : Out → SH → Prop} {a0 : Nat} {x1 : Int32} {x2 : Int32} {x3 : Int32} {b4 : Nat} {n5 : Nat} (F0 : LX9 (Sk h) (a0)) (q1 : hA h a0 0 = some b4) (B2 : Ar h (b4) 21 n5) (i3 : vp_in (x3) n5) (g : Gd X mX9_cutDigits 4 [some (.ref a0), some (.int x1), some (.int (((x2 * 10) + (hI h b4 ((x3 : Int32).toNatClampNeg))) - 48)), some (.int (x3 + 1))] [] (h) nc ns P) : Gd X mX9_cutDigits 24 [some (.ref a0), some (.int x1), some (.int x2), some (.int x3)] [] h nc ns P := by
  refine g_iload_n dX9_cutDigits_24 rfl ?_
  refine g_bipush (v := 10) dX9_cutDigits_25 (by decide) ?_
  refine g_imul dX9_cutDigits_27 ?_
  refine g_aload_n dX9_cutDigits_28 rfl ?_
  refine g_getAs (c := 9) (k := 0) (b := b4) dX9_cutDigits_29 (by decide) (by decide) kw_374 rfl (LX9.o (h := h) F0) q1 ?_
  refine g_iload_n dX9_cutDigits_32 rfl ?_
  refine g_baload dX9_cutDigits_33 B2 i3 ?_
  refine g_iadd dX9_cutDigits_34 ?_
  refine g_bipush (v := 48) dX9_cutDigits_35 (by decide) ?_
  refine g_isub dX9_cutDigits_37 ?_
  refine g_istore_n (L' := [some (.ref a0), some (.int x1), some (.int (((x2 * 10) + (hI h b4 ((x3 : Int32).toNatClampNeg))) - 48)), some (.int x3)]) dX9_cutDigits_38 (by decide) rfl ?_
  refine g_iinc (v := x3 + 1) (L' := [some (.ref a0), some (.int x1), some (.int (((x2 * 10) + (hI h b4 ((x3 : Int32).toNatClampNeg))) - 48)), some (.int (x3 + 1))]) dX9_cutDigits_39 rfl rfl (by decide) rfl ?_
  refine g_goto (tgt := 4) dX9_cutDigits_42 (by decide) ?_
  exact Gd.wk g ⟨rfl, ⟨rfl, ⟨rfl, ⟨rfl, trivial⟩⟩⟩⟩
theorem bkX9_cutDigits_45 {X : GX} {h : SH} {nc ns : Nat} {P : Out → SH → Prop} {a0 : Nat} {x1 : Int32} {x2 : Int32} {x3 : Int32} (kt : (x3 - x1) ≤ 4 → Gd X mX9_cutDigits 58 [none, some (.int x1), some (.int x2), some (.int x3)] [.ref a0] (h) nc ns P) (kf : ¬ (x3 - x1) ≤ 4 → Gd X mX9_cutDigits 53 [none, some (.int x1), some (.int x2), some (.int x3)] [.ref a0] (h) nc ns P) : Gd X mX9_cutDigits 45 [some (.ref a0), some (.int x1), some (.int x2), some (.int x3)] [] h nc ns P := by
  refine g_aload_n dX9_cutDigits_45 rfl ?_
  refine g_iload_n dX9_cutDigits_46 rfl ?_
  refine g_iload_n dX9_cutDigits_47 rfl ?_
  refine g_isub dX9_cutDigits_48 ?_
  refine g_iconst (v := 4) dX9_cutDigits_49 (by decide) ?_
  exact g_icmp_le (tgt := 58) dX9_cutDigits_50 (by decide) (fun q => Gd.wk (kt q) ⟨rfl, ⟨rfl, ⟨rfl, trivial⟩⟩⟩) (fun q => Gd.wk (kf q) ⟨rfl, ⟨rfl, ⟨rfl, trivial⟩⟩⟩)
theorem bkX9_cutDigits_53 {X : GX} {h : SH} {nc ns : Nat} {P : Out → SH → Prop} {x1 : Int32} {x2 : Int32} {x3 : Int32} {as0 : Nat} (g : Gd X mX9_cutDigits 60 [none, some (.int x1), some (.int x2), some (.int x3)] [.int 13, .ref as0] (h) nc ns P) : Gd X mX9_cutDigits 53 [none, some (.int x1), some (.int x2), some (.int x3)] [.ref as0] h nc ns P := by
  refine g_bipush (v := 13) dX9_cutDigits_53 (by decide) ?_
  refine g_goto (tgt := 60) dX9_cutDigits_55 (by decide) ?_
  exact Gd.wk g ⟨rfl, ⟨rfl, ⟨rfl, trivial⟩⟩⟩
theorem bkX9_cutDigits_58 {X : GX} {h : SH} {nc ns : Nat} {P : Out → SH → Prop} {x1 : Int32} {x2 : Int32} {x3 : Int32} {as0 : Nat} (g : Gd X mX9_cutDigits 60 [none, some (.int x1), some (.int x2), some (.int x3)] [.int 12, .ref as0] (h) nc ns P) : Gd X mX9_cutDigits 58 [none, some (.int x1), some (.int x2), some (.int x3)] [.ref as0] h nc ns P := by
  refine g_bipush (v := 12) dX9_cutDigits_58 (by decide) ?_
  exact Gd.wk g ⟨rfl, ⟨rfl, ⟨rfl, trivial⟩⟩⟩
theorem bkX9_cutDigits_60 {X : GX} {h : SH} {nc ns : Nat} {P : Out → SH → Prop} {Q : SH → Prop} {x1 : Int32} {x2 : Int32} {x3 : Int32} {as0 : Nat} {xs1 : Int32} (F0 : LX9 (Sk h) (as0)) (hN : Cd X mX9_keep [.ref as0, .int xs1, .int x1, .long ((x2 : Int32).toInt64)] (h) 0 0 (oV Q nX)) (g : ∀ t, Q t → Gd X mX9_cutDigits 66 [none, none, none, some (.int x3)] [] (t) nc ns P) : Gd X mX9_cutDigits 60 [none, some (.int x1), some (.int x2), some (.int x3)] [.int xs1, .ref as0] h nc ns P := by
  refine g_iload_n dX9_cutDigits_60 rfl ?_
  refine g_iload_n dX9_cutDigits_61 rfl ?_
  refine g_i2l dX9_cutDigits_62 ?_
  refine Gd.z ?_
  exact g_callV (k := 9) [.int xs1, .int x1, .long ((x2 : Int32).toInt64)] dX9_cutDigits_63 mfX9_keep ⟨by decide, by decide⟩ kw_519 kw_521 kw_6 rfl (by decide) (Nat.le_of_ble_eq_true rfl) (by intro x hx; cases hx) (LX9.o (h := h) F0) (Nat.le_of_ble_eq_true rfl) hN (fun _ _ q => q.elim) (oV_go (G := fun a b => Gd X mX9_cutDigits 66 _ a b nc ns P) (fun t q => Gd.wk (g t q) ⟨rfl, trivial⟩))
theorem bkX9_cutDigits_66 {X : GX} {h : SH} {nc ns : Nat} {P : Out → SH → Prop} {x3 : Int32} (hp : P (.inl (some (.int (x3)))) (h)) : Gd X mX9_cutDigits 66 [none, none, none, some (.int x3)] [] h nc ns P := by
  refine g_iload_n dX9_cutDigits_66 rfl ?_
  exact g_ireturn (st := []) dX9_cutDigits_67 rfl rfl hp
theorem bkX9_kindOfWord_0 {X : GX} {h : SH} {nc ns : Nat} {P : Out → SH → Prop} {a0 : Nat} {y1 : Int64} (g : Gd X mX9_kindOfWord 2 [some (.ref a0), some (.long y1), none, some (.int 0)] [] (h) nc ns P) : Gd X mX9_kindOfWord 0 [some (.ref a0), some (.long y1), none, none] [] h nc ns P := by
  refine g_iconst (v := 0) dX9_kindOfWord_0 (by decide) ?_
  refine g_istore_n (L' := [some (.ref a0), some (.long y1), none, some (.int 0)]) dX9_kindOfWord_1 (by decide) rfl ?_
  exact Gd.wk g ⟨rfl, ⟨rfl, ⟨rfl, trivial⟩⟩⟩
theorem bkX9_kindOfWord_2 {X : GX} {h : SH} {nc ns : Nat} {P : Out → SH → Prop} {a0 : Nat} {y1 : Int64} {x3 : Int32} (kt : (11 : Int32) ≤ x3 → Gd X mX9_kindOfWord 27 [none, none, none, none] [] (h) nc ns P) (kf : ¬ (11 : Int32) ≤ x3 → Gd X mX9_kindOfWord 8 [some (.ref a0), some (.long y1), none, some (.int x3)] [] (h) nc ns P) : Gd X mX9_kindOfWord 2 [some (.ref a0), some (.long y1), none, some (.int x3)] [] h nc ns P := by
  refine g_iload_n dX9_kindOfWord_2 rfl ?_
  refine g_bipush (v := 11) dX9_kindOfWord_3 (by decide) ?_
  exact g_icmp_ge (tgt := 27) dX9_kindOfWord_5 (by decide) (fun q => Gd.wk (kt q) trivial) (fun q => Gd.wk (kf q) ⟨rfl, ⟨rfl, ⟨rfl, trivial⟩⟩⟩)
theorem bkX9_kindOfWord_8 {X : GX} {h : SH} {nc ns : Nat} {P : Out → SH → Prop} {a0 : Nat} {y1 : Int64} {x3 : Int32} (F0 : LX9 (Sk h) (a0)) (i1 : vp_in (x3) 11) (kt : ¬ (lg_cmp (hJ h (a0 + 1) ((x3 : Int32).toNatClampNeg)) y1) = 0 → Gd X mX9_kindOfWord 21 [some (.ref a0), some (.long y1), none, some (.int x3)] [] (h) nc ns P) (kf : (lg_cmp (hJ h (a0 + 1) ((x3 : Int32).toNatClampNeg)) y1) = 0 → Gd X mX9_kindOfWord 19 [none, none, none, some (.int x3)] [] (h) nc ns P) : Gd X mX9_kindOfWord 8 [some (.ref a0), some (.long y1), none, some (.int x3)] [] h nc ns P := by
  refine g_aload_n dX9_kindOfWord_8 rfl ?_
  refine g_getAs (c := 9) (k := 2) (b := a0 + 1) dX9_kindOfWord_9 (by decide) (by decide) kw_376 rfl (LX9.o (h := h) F0) (LX9.r_reserved (h := h) F0) ?_
  refine g_iload_n dX9_kindOfWord_12 rfl ?_
  refine g_laload dX9_kindOfWord_13 (LX9.a_reserved (h := h) F0) i1 ?_
  refine g_lload_n dX9_kindOfWord_14 rfl ?_
  refine g_lcmp dX9_kindOfWord_15 ?_
  exact g_if_ne (tgt := 21) dX9_kindOfWord_16 (by decide) (fun q => Gd.wk (kt q) ⟨rfl, ⟨rfl, ⟨rfl, trivial⟩⟩⟩) (fun q => Gd.wk (kf q) ⟨rfl, trivial⟩)
theorem bkX9_kindOfWord_19 {X : GX} {h : SH} {nc ns : Nat} {P : Out → SH → Prop} {x3 : Int32} (hp : P (.inl (some (.int (x3)))) (h)) : Gd X mX9_kindOfWord 19 [none, none, none, some (.int x3)] [] h nc ns P := by
  refine g_iload_n dX9_kindOfWord_19 rfl ?_
  exact g_ireturn (st := []) dX9_kindOfWord_20 rfl rfl hp
theorem bkX9_kindOfWord_21 {X : GX} {h : SH} {nc ns : Nat} {P : Out → SH → Prop} {a0 : Nat} {y1 : Int64} {x3 : Int32} (g : Gd X mX9_kindOfWord 2 [some (.ref a0), some (.long y1), none, some (.int (x3 + 1))] [] (h) nc ns P) : Gd X mX9_kindOfWord 21 [some (.ref a0), some (.long y1), none, some (.int x3)] [] h nc ns P := by
  refine g_iinc (v := x3 + 1) (L' := [some (.ref a0), some (.long y1), none, some (.int (x3 + 1))]) dX9_kindOfWord_21 rfl rfl (by decide) rfl ?_
  refine g_goto (tgt := 2) dX9_kindOfWord_24 (by decide) ?_
  exact Gd.wk g ⟨rfl, ⟨rfl, ⟨rfl, trivial⟩⟩⟩
theorem bkX9_kindOfWord_27 {X : GX} {h : SH} {nc ns : Nat} {P : Out → SH → Prop} (hp : P (.inl (some (.int (11)))) (h)) : Gd X mX9_kindOfWord 27 [none, none, none, none] [] h nc ns P := by
  refine g_bipush (v := 11) dX9_kindOfWord_27 (by decide) ?_
  exact g_ireturn (st := []) dX9_kindOfWord_29 rfl rfl hp
theorem bkX9_packReserved_0 {X : GX} {h : SH} {nc ns : Nat} {P : Out → SH → Prop} {a0 : Nat} (g : Gd X mX9_packReserved 7 [some (.ref a0), some (.long 0), none, some (.int 0), some (.int 0)] [] (h) nc ns P) : Gd X mX9_packReserved 0 [some (.ref a0), none, none, none, none] [] h nc ns P := by
  refine g_lconst (v := 0) dX9_packReserved_0 (by decide) ?_
  refine g_lstore_n (L' := [some (.ref a0), some (.long 0), none, none, none]) dX9_packReserved_1 (by decide) rfl ?_
  refine g_iconst (v := 0) dX9_packReserved_2 (by decide) ?_
  refine g_istore_n (L' := [some (.ref a0), some (.long 0), none, some (.int 0), none]) dX9_packReserved_3 (by decide) rfl ?_
  refine g_iconst (v := 0) dX9_packReserved_4 (by decide) ?_
  refine g_istore (L' := [some (.ref a0), some (.long 0), none, some (.int 0), some (.int 0)]) dX9_packReserved_5 (by decide) rfl ?_
  exact Gd.wk g ⟨rfl, ⟨rfl, ⟨rfl, ⟨rfl, trivial⟩⟩⟩⟩
theorem bkX9_packReserved_14 {X : GX} {h : SH} {nc ns : Nat} {P : Out → SH → Prop} {a0 : Nat} {y1 : Int64} {x3 : Int32} {x4 : Int32} {xs0 : Int32} {xs1 : Int32} (kt : xs1 ≤ xs0 → Gd X mX9_packReserved 68 [none, none, none, none, none] [] (h) nc ns P) (kf : ¬ xs1 ≤ xs0 → Gd X mX9_packReserved 17 [some (.ref a0), some (.long y1), none, some (.int x3), some (.int x4)] [] (h) nc ns P) : Gd X mX9_packReserved 14 [some (.ref a0), some (.long y1), none, some (.int x3), some (.int x4)] [.int xs1, .int xs0] h nc ns P := by
  exact g_icmp_ge (tgt := 68) dX9_packReserved_14 (by decide) (fun q => Gd.wk (kt q) trivial) (fun q => Gd.wk (kf q) ⟨rfl, ⟨rfl, ⟨rfl, ⟨rfl, trivial⟩⟩⟩⟩)
theorem bkX9_packReserved_17 {X : GX} {h : SH} {nc ns : Nat} {P : Out → SH → Prop} {a0 : Nat} {y1 : Int64} {x3 : Int32} {x4 : Int32} (kt : (11 : Int32) ≤ x3 → Gd X mX9_packReserved 68 [none, none, none, none, none] [] (h) nc ns P) (kf : ¬ (11 : Int32) ≤ x3 → Gd X mX9_packReserved 23 [some (.ref a0), some (.long y1), none, some (.int x3), some (.int x4)] [] (h) nc ns P) : Gd X mX9_packReserved 17 [some (.ref a0), some (.long y1), none, some (.int x3), some (.int x4)] [] h nc ns P := by
  refine g_iload_n dX9_packReserved_17 rfl ?_
  refine g_bipush (v := 11) dX9_packReserved_18 (by decide) ?_
  exact g_icmp_ge (tgt := 68) dX9_packReserved_20 (by decide) (fun q => Gd.wk (kt q) trivial) (fun q => Gd.wk (kf q) ⟨rfl, ⟨rfl, ⟨rfl, ⟨rfl, trivial⟩⟩⟩⟩)
theorem bkX9_packReserved_30 {X : GX} {h : SH} {nc ns : Nat} {P : Out → SH → Prop} {a0 : Nat} {y1 : Int64} {x3 : Int32} {x4 : Int32} {xs0 : Int32} (kt : ¬ xs0 = 32 → Gd X mX9_packReserved 50 [some (.ref a0), some (.long y1), none, some (.int x3), some (.int x4)] [] (h) nc ns P) (kf : xs0 = 32 → Gd X mX9_packReserved 35 [some (.ref a0), some (.long y1), none, some (.int x3), some (.int x4)] [] (h) nc ns P) : Gd X mX9_packReserved 30 [some (.ref a0), some (.long y1), none, some (.int x3), some (.int x4)] [.int xs0] h nc ns P := by
  refine g_bipush (v := 32) dX9_packReserved_30 (by decide) ?_
  exact g_icmp_ne (tgt := 50) dX9_packReserved_32 (by decide) (fun q => Gd.wk (kt q) ⟨rfl, ⟨rfl, ⟨rfl, ⟨rfl, trivial⟩⟩⟩⟩) (fun q => Gd.wk (kf q) ⟨rfl, ⟨rfl, ⟨rfl, ⟨rfl, trivial⟩⟩⟩⟩)
theorem bkX9_packReserved_35 {X : GX} {h : SH} {nc ns : Nat} {P : Out → SH → Prop} {a0 : Nat} {y1 : Int64} {x3 : Int32} {x4 : Int32} (F0 : LX9 (Sk h) (a0)) (i1 : vp_in (x3) 11) (g : Gd X mX9_packReserved 62 [some (.ref a0), some (.long 0), none, some (.int (x3 + 1)), some (.int x4)] [] (sJ h (a0 + 1) ((x3 : Int32).toNatClampNeg) y1) nc ns P) : Gd X mX9_packReserved 35 [some (.ref a0), some (.long y1), none, some (.int x3), some (.int x4)] [] h nc ns P := by
  refine g_aload_n dX9_packReserved_35 rfl ?_
  refine g_getAs (c := 9) (k := 2) (b := a0 + 1) dX9_packReserved_36 (by decide) (by decide) kw_376 rfl (LX9.o (h := h) F0) (LX9.r_reserved (h := h) F0) ?_
  refine g_iload_n dX9_packReserved_39 rfl ?_
  refine g_lload_n dX9_packReserved_40 rfl ?_
  refine g_lastore dX9_packReserved_41 (LX9.a_reserved (h := h) F0) i1 ?_
  refine g_iinc (v := x3 + 1) (L' := [some (.ref a0), some (.long y1), none, some (.int (x3 + 1)), some (.int x4)]) dX9_packReserved_42 rfl rfl (by decide) rfl ?_
  refine g_lconst (v := 0) dX9_packReserved_45 (by decide) ?_
  refine g_lstore_n (L' := [some (.ref a0), some (.long 0), none, some (.int (x3 + 1)), some (.int x4)]) dX9_packReserved_46 (by decide) rfl ?_
  refine g_goto (tgt := 62) dX9_packReserved_47 (by decide) ?_
  exact Gd.wk g ⟨rfl, ⟨rfl, ⟨rfl, ⟨rfl, trivial⟩⟩⟩⟩
theorem bkX9_packReserved_58 {X : GX} {h : SH} {nc ns : Nat} {P : Out → SH → Prop} {Q : Int64 → SH → Prop} {a0 : Nat} {x3 : Int32} {x4 : Int32} {ys0 : Int64} {xs1 : Int32} (hN : Cd X mX9_packLetter [.long ys0, .int xs1] (h) 0 0 (oJ Q nX)) (g : ∀ r t, Q r t → Gd X mX9_packReserved 61 [some (.ref a0), none, none, some (.int x3), some (.int x4)] [.long r] (t) nc ns P) : Gd X mX9_packReserved 58 [some (.ref a0), none, none, some (.int x3), some (.int x4)] [.int xs1, .long ys0] h nc ns P := by
  refine Gd.z ?_
  exact g_callS [.long ys0, .int xs1] dX9_packReserved_58 mfX9_packLetter ⟨by decide, by decide⟩ kw_503 kw_504 rfl (Nat.le_of_ble_eq_true rfl) (by intro x hx; cases hx) (Nat.le_of_ble_eq_true rfl) hN (fun _ _ q => q.elim) (oJ_go (G := fun a b => Gd X mX9_packReserved 61 _ a b nc ns P) (fun r t q => Gd.wk (g r t q) ⟨rfl, ⟨rfl, ⟨rfl, trivial⟩⟩⟩))
theorem bkX9_packReserved_61 {X : GX} {h : SH} {nc ns : Nat} {P : Out → SH → Prop} {a0 : Nat} {x3 : Int32} {x4 : Int32} {ys0 : Int64} (g : Gd X mX9_packReserved 62 [some (.ref a0), some (.long ys0), none, some (.int x3), some (.int x4)] [] (h) nc ns P) : Gd X mX9_packReserved 61 [some (.ref a0), none, none, some (.int x3), some (.int x4)] [.long ys0] h nc ns P := by
  refine g_lstore_n (L' := [some (.ref a0), some (.long ys0), none, some (.int x3), some (.int x4)]) dX9_packReserved_61 (by decide) rfl ?_
  exact Gd.wk g ⟨rfl, ⟨rfl, ⟨rfl, ⟨rfl, trivial⟩⟩⟩⟩
theorem bkX9_packReserved_62 {X : GX} {h : SH} {nc ns : Nat} {P : Out → SH → Prop} {a0 : Nat} {y1 : Int64} {x3 : Int32} {x4 : Int32} (g : Gd X mX9_packReserved 7 [some (.ref a0), some (.long y1), none, some (.int x3), some (.int (x4 + 1))] [] (h) nc ns P) : Gd X mX9_packReserved 62 [some (.ref a0), some (.long y1), none, some (.int x3), some (.int x4)] [] h nc ns P := by
  refine g_iinc (v := x4 + 1) (L' := [some (.ref a0), some (.long y1), none, some (.int x3), some (.int (x4 + 1))]) dX9_packReserved_62 rfl rfl (by decide) rfl ?_
  refine g_goto (tgt := 7) dX9_packReserved_65 (by decide) ?_
  exact Gd.wk g ⟨rfl, ⟨rfl, ⟨rfl, ⟨rfl, trivial⟩⟩⟩⟩
theorem bkX9_packReserved_68 {X : GX} {h : SH} {nc ns : Nat} {P : Out → SH → Prop} (hp : P (.inl (none)) (h)) : Gd X mX9_packReserved 68 [none, none, none, none, none] [] h nc ns P := by
  exact g_return (st := []) dX9_packReserved_68 rfl hp
theorem bkX9_packLetter_0 {X : GX} {h : SH} {nc ns : Nat} {P : Out → SH → Prop} {y0 : Int64} {x2 : Int32} (hp : P (.inl (some (.long ((((y0 * 32) + ((x2 : Int32).toInt64)) - 97) + 1)))) (h)) : Gd X mX9_packLetter 0 [some (.long y0), none, some (.int x2)] [] h nc ns P := by
  refine g_lload_n dX9_packLetter_0 rfl ?_
  refine g_ldc2 (v := 32) dX9_packLetter_1 kw_506 ?_
  refine g_lmul dX9_packLetter_4 ?_
  refine g_iload_n dX9_packLetter_5 rfl ?_
  refine g_i2l dX9_packLetter_6 ?_
  refine g_ladd dX9_packLetter_7 ?_
  refine g_ldc2 (v := 97) dX9_packLetter_8 kw_507 ?_
  refine g_lsub dX9_packLetter_11 ?_
  refine g_lconst (v := 1) dX9_packLetter_12 (by decide) ?_
  refine g_ladd dX9_packLetter_13 ?_
  exact g_lreturn (st := []) dX9_packLetter_14 rfl hp
theorem bkX9_isLetter_0 {X : GX} {h : SH} {nc ns : Nat} {P : Out → SH → Prop} {x0 : Int32} (kt : x0 < 97 → Gd X mX9_isLetter 16 [none] [] (h) nc ns P) (kf : ¬ x0 < 97 → Gd X mX9_isLetter 6 [some (.int x0)] [] (h) nc ns P) : Gd X mX9_isLetter 0 [some (.int x0)] [] h nc ns P := by
  refine g_iload_n dX9_isLetter_0 rfl ?_
  refine g_bipush (v := 97) dX9_isLetter_1 (by decide) ?_
  exact g_icmp_lt (tgt := 16) dX9_isLetter_3 (by decide) (fun q => Gd.wk (kt q) trivial) (fun q => Gd.wk (kf q) ⟨rfl, trivial⟩)
theorem bkX9_isLetter_6 {X : GX} {h : SH} {nc ns : Nat} {P : Out → SH → Prop} {x0 : Int32} (kt : (122 : Int32) < x0 → Gd X mX9_isLetter 16 [none] [] (h) nc ns P) (kf : ¬ (122 : Int32) < x0 → Gd X mX9_isLetter 12 [none] [] (h) nc ns P) : Gd X mX9_isLetter 6 [some (.int x0)] [] h nc ns P := by
  refine g_iload_n dX9_isLetter_6 rfl ?_
  refine g_bipush (v := 122) dX9_isLetter_7 (by decide) ?_
  exact g_icmp_gt (tgt := 16) dX9_isLetter_9 (by decide) (fun q => Gd.wk (kt q) trivial) (fun q => Gd.wk (kf q) trivial)
theorem bkX9_isLetter_12 {X : GX} {h : SH} {nc ns : Nat} {P : Out → SH → Prop} (g : Gd X mX9_isLetter 17 [none] [.int 1] (h) nc ns P) : Gd X mX9_isLetter 12 [none] [] h nc ns P := by
  refine g_iconst (v := 1) dX9_isLetter_12 (by decide) ?_
  refine g_goto (tgt := 17) dX9_isLetter_13 (by decide) ?_
  exact Gd.wk g trivial
theorem bkX9_isLetter_16 {X : GX} {h : SH} {nc ns : Nat} {P : Out → SH → Prop} (g : Gd X mX9_isLetter 17 [none] [.int 0] (h) nc ns P) : Gd X mX9_isLetter 16 [none] [] h nc ns P := by
  refine g_iconst (v := 0) dX9_isLetter_16 (by decide) ?_
  exact Gd.wk g trivial
theorem bkX9_isLetter_17 {X : GX} {h : SH} {nc ns : Nat} {P : Out → SH → Prop} {xs0 : Int32} (w0 : xs0 = 0 ∨ xs0 = 1) (hp : P (.inl (some (.int (xs0)))) (h)) : Gd X mX9_isLetter 17 [none] [.int xs0] h nc ns P := by
  exact g_ireturn (st := []) dX9_isLetter_17 rfl (bl_n w0) hp
theorem bkX9_isDigit_0 {X : GX} {h : SH} {nc ns : Nat} {P : Out → SH → Prop} {x0 : Int32} (kt : x0 < 48 → Gd X mX9_isDigit 16 [none] [] (h) nc ns P) (kf : ¬ x0 < 48 → Gd X mX9_isDigit 6 [some (.int x0)] [] (h) nc ns P) : Gd X mX9_isDigit 0 [some (.int x0)] [] h nc ns P := by
  refine g_iload_n dX9_isDigit_0 rfl ?_
  refine g_bipush (v := 48) dX9_isDigit_1 (by decide) ?_
  exact g_icmp_lt (tgt := 16) dX9_isDigit_3 (by decide) (fun q => Gd.wk (kt q) trivial) (fun q => Gd.wk (kf q) ⟨rfl, trivial⟩)
theorem bkX9_isDigit_6 {X : GX} {h : SH} {nc ns : Nat} {P : Out → SH → Prop} {x0 : Int32} (kt : (57 : Int32) < x0 → Gd X mX9_isDigit 16 [none] [] (h) nc ns P) (kf : ¬ (57 : Int32) < x0 → Gd X mX9_isDigit 12 [none] [] (h) nc ns P) : Gd X mX9_isDigit 6 [some (.int x0)] [] h nc ns P := by
  refine g_iload_n dX9_isDigit_6 rfl ?_
  refine g_bipush (v := 57) dX9_isDigit_7 (by decide) ?_
  exact g_icmp_gt (tgt := 16) dX9_isDigit_9 (by decide) (fun q => Gd.wk (kt q) trivial) (fun q => Gd.wk (kf q) trivial)
theorem bkX9_isDigit_12 {X : GX} {h : SH} {nc ns : Nat} {P : Out → SH → Prop} (g : Gd X mX9_isDigit 17 [none] [.int 1] (h) nc ns P) : Gd X mX9_isDigit 12 [none] [] h nc ns P := by
  refine g_iconst (v := 1) dX9_isDigit_12 (by decide) ?_
  refine g_goto (tgt := 17) dX9_isDigit_13 (by decide) ?_
  exact Gd.wk g trivial
theorem bkX9_isDigit_16 {X : GX} {h : SH} {nc ns : Nat} {P : Out → SH → Prop} (g : Gd X mX9_isDigit 17 [none] [.int 0] (h) nc ns P) : Gd X mX9_isDigit 16 [none] [] h nc ns P := by
  refine g_iconst (v := 0) dX9_isDigit_16 (by decide) ?_
  exact Gd.wk g trivial
theorem bkX9_isDigit_17 {X : GX} {h : SH} {nc ns : Nat} {P : Out → SH → Prop} {xs0 : Int32} (w0 : xs0 = 0 ∨ xs0 = 1) (hp : P (.inl (some (.int (xs0)))) (h)) : Gd X mX9_isDigit 17 [none] [.int xs0] h nc ns P := by
  exact g_ireturn (st := []) dX9_isDigit_17 rfl (bl_n w0) hp
