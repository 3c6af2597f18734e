theorem bkX3_init_0 {X : GX} {h : SH} {nc ns : Nat} {P : Out → SH → Prop} {a0 : Nat} {x1 : Int32} {x2 : Int32} (g : Gd X mX3_init 4 [some (.ref a0), some (.int x1), some (.int x2)] [] (h) nc ns P) : Gd X mX3_init 0 [some (.ref a0), some (.int x1), some (.int x2)] [] h nc ns P := by
  refine g_aload_n dX3_init_0 rfl ?_
  refine g_objInit dX3_init_1 kw_298 kw_124 kw_125 (by decide) (Nat.le_of_ble_eq_true rfl) ?_
  exact Gd.wk g ⟨rfl, ⟨rfl, ⟨rfl, trivial⟩⟩⟩
theorem bkX3_init_4 {X : GX} {h : SH} {nc ns : Nat} {P : Out → SH → Prop} {a0 : Nat} {x1 : Int32} {x2 : Int32} (g : Gd X mX3_init 9 [some (.ref a0), some (.int x1), some (.int x2)] [.ref (hz h), .ref a0] (nw h 23 8) nc ns P) : Gd X mX3_init 4 [some (.ref a0), some (.int x1), some (.int x2)] [] h (nc + 1) (ns + 8) P := by
  refine g_aload_n dX3_init_4 rfl ?_
  refine g_bipush (v := 8) dX3_init_5 (by decide) ?_
  refine g_newarrN (k := 23) (N := 8) dX3_init_7 (by decide) (by decide) rfl kw_361 (by decide) (by decide) (by decide) ?_
  exact Gd.wk g ⟨rfl, ⟨rfl, ⟨rfl, trivial⟩⟩⟩
theorem bkX3_init_9 {X : GX} {h : SH} {nc ns : Nat} {P : Out → SH → Prop} {a0 : Nat} {x1 : Int32} {x2 : Int32} {as0 : Nat} {as1 : Nat} (F0 : LX3 (Sk h) (as0)) (g : Gd X mX3_init 12 [some (.ref a0), some (.int x1), some (.int x2)] [] (sA h as0 3 (some (as1))) nc ns P) : Gd X mX3_init 9 [some (.ref a0), some (.int x1), some (.int x2)] [.ref as1, .ref as0] h nc ns P := by
  refine g_putF (c := 3) (k := 3) (v := va_rf (some (as1))) (h1 := sA h as0 3 (some (as1))) dX3_init_9 (by decide) (by decide) kw_309 rfl rfl rfl (LX3.o (h := h) F0) (rf_n rfl) (rf_f rfl) (Put.A rfl) ?_
  exact Gd.wk g ⟨rfl, ⟨rfl, ⟨rfl, trivial⟩⟩⟩
theorem bkX3_init_12 {X : GX} {h : SH} {nc ns : Nat} {P : Out → SH → Prop} {a0 : Nat} {x1 : Int32} {x2 : Int32} (g : Gd X mX3_init 17 [some (.ref a0), some (.int x1), some (.int x2)] [.ref (hz h), .ref a0] (nw h 20 8) nc ns P) : Gd X mX3_init 12 [some (.ref a0), some (.int x1), some (.int x2)] [] h (nc + 1) (ns + 8) P := by
  refine g_aload_n dX3_init_12 rfl ?_
  refine g_bipush (v := 8) dX3_init_13 (by decide) ?_
  refine g_newarrN (k := 20) (N := 8) dX3_init_15 (by decide) (by decide) rfl kw_145 (by decide) (by decide) (by decide) ?_
  exact Gd.wk g ⟨rfl, ⟨rfl, ⟨rfl, trivial⟩⟩⟩
theorem bkX3_init_17 {X : GX} {h : SH} {nc ns : Nat} {P : Out → SH → Prop} {a0 : Nat} {x1 : Int32} {x2 : Int32} {as0 : Nat} {as1 : Nat} (F0 : LX3 (Sk h) (as0)) (g : Gd X mX3_init 20 [some (.ref a0), some (.int x1), some (.int x2)] [] (sA h as0 4 (some (as1))) nc ns P) : Gd X mX3_init 17 [some (.ref a0), some (.int x1), some (.int x2)] [.ref as1, .ref as0] h nc ns P := by
  refine g_putF (c := 3) (k := 4) (v := va_rf (some (as1))) (h1 := sA h as0 4 (some (as1))) dX3_init_17 (by decide) (by decide) kw_310 rfl rfl rfl (LX3.o (h := h) F0) (rf_n rfl) (rf_f rfl) (Put.A rfl) ?_
  exact Gd.wk g ⟨rfl, ⟨rfl, ⟨rfl, trivial⟩⟩⟩
theorem bkX3_init_20 {X : GX} {h : SH} {nc ns : Nat} {P : Out → SH → Prop} {a0 : Nat} {x1 : Int32} {x2 : Int32} (g : Gd X mX3_init 25 [some (.ref a0), some (.int x1), some (.int x2)] [.ref (hz h), .ref a0] (nw h 20 8) nc ns P) : Gd X mX3_init 20 [some (.ref a0), some (.int x1), some (.int x2)] [] h (nc + 1) (ns + 8) P := by
  refine g_aload_n dX3_init_20 rfl ?_
  refine g_bipush (v := 8) dX3_init_21 (by decide) ?_
  refine g_newarrN (k := 20) (N := 8) dX3_init_23 (by decide) (by decide) rfl kw_145 (by decide) (by decide) (by decide) ?_
  exact Gd.wk g ⟨rfl, ⟨rfl, ⟨rfl, trivial⟩⟩⟩
theorem bkX3_init_25 {X : GX} {h : SH} {nc ns : Nat} {P : Out → SH → Prop} {a0 : Nat} {x1 : Int32} {x2 : Int32} {as0 : Nat} {as1 : Nat} (F0 : LX3 (Sk h) (as0)) (g : Gd X mX3_init 28 [some (.ref a0), some (.int x1), some (.int x2)] [] (sA h as0 5 (some (as1))) nc ns P) : Gd X mX3_init 25 [some (.ref a0), some (.int x1), some (.int x2)] [.ref as1, .ref as0] h nc ns P := by
  refine g_putF (c := 3) (k := 5) (v := va_rf (some (as1))) (h1 := sA h as0 5 (some (as1))) dX3_init_25 (by decide) (by decide) kw_313 rfl rfl rfl (LX3.o (h := h) F0) (rf_n rfl) (rf_f rfl) (Put.A rfl) ?_
  exact Gd.wk g ⟨rfl, ⟨rfl, ⟨rfl, trivial⟩⟩⟩
theorem bkX3_init_28 {X : GX} {h : SH} {nc ns : Nat} {P : Out → SH → Prop} {a0 : Nat} {x1 : Int32} {x2 : Int32} (O0 : Ob h a0 3) (g : Gd X mX3_init 39 [some (.ref a0), some (.int x1), some (.int x2)] [.ref (hz (sI h a0 6 1)), .ref a0] (nw (sI h a0 6 1) 25 12) nc ns P) : Gd X mX3_init 28 [some (.ref a0), some (.int x1), some (.int x2)] [] h (nc + 1) (ns + 12) P := by
  refine g_aload_n dX3_init_28 rfl ?_
  refine g_iconst (v := 1) dX3_init_29 (by decide) ?_
  refine g_put (c := 3) (k := 6) (h1 := sI h a0 6 1) dX3_init_30 (by decide) (by decide) kw_315 rfl O0 rfl rfl (Put.I rfl) ?_
  refine g_aload_n dX3_init_33 rfl ?_
  refine g_bipush (v := 12) dX3_init_34 (by decide) ?_
  refine g_anewarrN (k := 25) (N := 12) dX3_init_36 (by decide) (by decide) kw_299 kn_300 (by decide) (by decide) (by decide) ?_
  exact Gd.wk g ⟨rfl, ⟨rfl, ⟨rfl, trivial⟩⟩⟩
theorem bkX3_init_39 {X : GX} {h : SH} {nc ns : Nat} {P : Out → SH → Prop} {a0 : Nat} {x1 : Int32} {x2 : Int32} {as0 : Nat} {as1 : Nat} (F0 : LX3 (Sk h) (as0)) (g : Gd X mX3_init 42 [some (.ref a0), some (.int x1), some (.int x2)] [] (sA h as0 8 (some (as1))) nc ns P) : Gd X mX3_init 39 [some (.ref a0), some (.int x1), some (.int x2)] [.ref as1, .ref as0] h nc ns P := by
  refine g_putF (c := 3) (k := 8) (v := va_rf (some (as1))) (h1 := sA h as0 8 (some (as1))) dX3_init_39 (by decide) (by decide) kw_323 rfl rfl rfl (LX3.o (h := h) F0) (rf_n rfl) (rf_f rfl) (Put.A rfl) ?_
  exact Gd.wk g ⟨rfl, ⟨rfl, ⟨rfl, trivial⟩⟩⟩
theorem bkX3_init_42 {X : GX} {h : SH} {nc ns : Nat} {P : Out → SH → Prop} {a0 : Nat} {x1 : Int32} {x2 : Int32} (g : Gd X mX3_init 47 [some (.ref a0), some (.int x1), some (.int x2)] [.ref (hz h), .ref a0] (nw h 20 12) nc ns P) : Gd X mX3_init 42 [some (.ref a0), some (.int x1), some (.int x2)] [] h (nc + 1) (ns + 12) P := by
  refine g_aload_n dX3_init_42 rfl ?_
  refine g_bipush (v := 12) dX3_init_43 (by decide) ?_
  refine g_newarrN (k := 20) (N := 12) dX3_init_45 (by decide) (by decide) rfl kw_145 (by decide) (by decide) (by decide) ?_
  exact Gd.wk g ⟨rfl, ⟨rfl, ⟨rfl, trivial⟩⟩⟩
theorem bkX3_init_47 {X : GX} {h : SH} {nc ns : Nat} {P : Out → SH → Prop} {a0 : Nat} {x1 : Int32} {x2 : Int32} {as0 : Nat} {as1 : Nat} (F0 : LX3 (Sk h) (as0)) (g : Gd X mX3_init 50 [some (.ref a0), some (.int x1), some (.int x2)] [] (sA h as0 9 (some (as1))) nc ns P) : Gd X mX3_init 47 [some (.ref a0), some (.int x1), some (.int x2)] [.ref as1, .ref as0] h nc ns P := by
  refine g_putF (c := 3) (k := 9) (v := va_rf (some (as1))) (h1 := sA h as0 9 (some (as1))) dX3_init_47 (by decide) (by decide) kw_325 rfl rfl rfl (LX3.o (h := h) F0) (rf_n rfl) (rf_f rfl) (Put.A rfl) ?_
  exact Gd.wk g ⟨rfl, ⟨rfl, ⟨rfl, trivial⟩⟩⟩
theorem bkX3_init_50 {X : GX} {h : SH} {nc ns : Nat} {P : Out → SH → Prop} {a0 : Nat} {x1 : Int32} {x2 : Int32} (g : Gd X mX3_init 54 [some (.ref a0), some (.int x1), some (.int x2)] [.ref (hz h), .ref a0] (nw h 20 5) nc ns P) : Gd X mX3_init 50 [some (.ref a0), some (.int x1), some (.int x2)] [] h (nc + 1) (ns + 5) P := by
  refine g_aload_n dX3_init_50 rfl ?_
  refine g_iconst (v := 5) dX3_init_51 (by decide) ?_
  refine g_newarrN (k := 20) (N := 5) dX3_init_52 (by decide) (by decide) rfl kw_145 (by decide) (by decide) (by decide) ?_
  exact Gd.wk g ⟨rfl, ⟨rfl, ⟨rfl, trivial⟩⟩⟩
theorem bkX3_init_54 {X : GX} {h : SH} {nc ns : Nat} {P : Out → SH → Prop} {a0 : Nat} {x1 : Int32} {x2 : Int32} {as0 : Nat} {as1 : Nat} (F0 : LX3 (Sk h) (as0)) (g : Gd X mX3_init 57 [some (.ref a0), some (.int x1), some (.int x2)] [] (sA h as0 11 (some (as1))) nc ns P) : Gd X mX3_init 54 [some (.ref a0), some (.int x1), some (.int x2)] [.ref as1, .ref as0] h nc ns P := by
  refine g_putF (c := 3) (k := 11) (v := va_rf (some (as1))) (h1 := sA h as0 11 (some (as1))) dX3_init_54 (by decide) (by decide) kw_328 rfl rfl rfl (LX3.o (h := h) F0) (rf_n rfl) (rf_f rfl) (Put.A rfl) ?_
  exact Gd.wk g ⟨rfl, ⟨rfl, ⟨rfl, trivial⟩⟩⟩
theorem bkX3_init_57 {X : GX} {h : SH} {nc ns : Nat} {P : Out → SH → Prop} {a0 : Nat} {x1 : Int32} {x2 : Int32} (g : Gd X mX3_init 61 [some (.ref a0), some (.int x1), some (.int x2)] [.ref (hz h), .ref a0] (nw h 20 5) nc ns P) : Gd X mX3_init 57 [some (.ref a0), some (.int x1), some (.int x2)] [] h (nc + 1) (ns + 5) P := by
  refine g_aload_n dX3_init_57 rfl ?_
  refine g_iconst (v := 5) dX3_init_58 (by decide) ?_
  refine g_newarrN (k := 20) (N := 5) dX3_init_59 (by decide) (by decide) rfl kw_145 (by decide) (by decide) (by decide) ?_
  exact Gd.wk g ⟨rfl, ⟨rfl, ⟨rfl, trivial⟩⟩⟩
theorem bkX3_init_61 {X : GX} {h : SH} {nc ns : Nat} {P : Out → SH → Prop} {a0 : Nat} {x1 : Int32} {x2 : Int32} {as0 : Nat} {as1 : Nat} (F0 : LX3 (Sk h) (as0)) (g : Gd X mX3_init 64 [some (.ref a0), some (.int x1), some (.int x2)] [] (sA h as0 12 (some (as1))) nc ns P) : Gd X mX3_init 61 [some (.ref a0), some (.int x1), some (.int x2)] [.ref as1, .ref as0] h nc ns P := by
  refine g_putF (c := 3) (k := 12) (v := va_rf (some (as1))) (h1 := sA h as0 12 (some (as1))) dX3_init_61 (by decide) (by decide) kw_331 rfl rfl rfl (LX3.o (h := h) F0) (rf_n rfl) (rf_f rfl) (Put.A rfl) ?_
  exact Gd.wk g ⟨rfl, ⟨rfl, ⟨rfl, trivial⟩⟩⟩
theorem bkX3_init_64 {X : GX} {h : SH} {nc ns : Nat} {P : Out → SH → Prop} {a0 : Nat} {x1 : Int32} {x2 : Int32} (O0 : Ob h a0 3) (hp : P (.inl (none)) (sI (sI h a0 0 x1) a0 1 x2)) : Gd X mX3_init 64 [some (.ref a0), some (.int x1), some (.int x2)] [] h nc ns P := by
  refine g_aload_n dX3_init_64 rfl ?_
  refine g_iload_n dX3_init_65 rfl ?_
  refine g_putF (c := 3) (k := 0) (h1 := sI h a0 0 x1) dX3_init_66 (by decide) (by decide) kw_301 rfl rfl rfl O0 rfl rfl (Put.I rfl) ?_
  refine g_aload_n dX3_init_69 rfl ?_
  refine g_iload_n dX3_init_70 rfl ?_
  refine g_putF (c := 3) (k := 1) (h1 := sI (sI h a0 0 x1) a0 1 x2) dX3_init_71 (by decide) (by decide) kw_303 rfl rfl rfl O0 rfl rfl (Put.I rfl) ?_
  exact g_return (st := []) dX3_init_74 rfl hp
theorem bkX3_hasFact_0 {X : GX} {h : SH} {nc ns : Nat} {P : Out → SH → Prop} {a0 : Nat} {x1 : Int32} (kt : x1 < 0 → Gd X mX3_hasFact 16 [none, none] [] (h) nc ns P) (kf : ¬ x1 < 0 → Gd X mX3_hasFact 4 [some (.ref a0), some (.int x1)] [] (h) nc ns P) : Gd X mX3_hasFact 0 [some (.ref a0), some (.int x1)] [] h nc ns P := by
  refine g_iload_n dX3_hasFact_0 rfl ?_
  exact g_if_lt (tgt := 16) dX3_hasFact_1 (by decide) (fun q => Gd.wk (kt q) trivial) (fun q => Gd.wk (kf q) ⟨rfl, ⟨rfl, trivial⟩⟩)
theorem bkX3_hasFact_4 {X : GX} {h : SH} {nc ns : Nat} {P : Out → SH → Prop} {a0 : Nat} {x1 : Int32} (F0 : LX3 (Sk h) (a0)) (kt : hI h a0 2 ≤ x1 → Gd X mX3_hasFact 16 [none, none] [] (h) nc ns P) (kf : ¬ hI h a0 2 ≤ x1 → Gd X mX3_hasFact 12 [none, none] [] (h) nc ns P) : Gd X mX3_hasFact 4 [some (.ref a0), some (.int x1)] [] h nc ns P := by
  refine g_iload_n dX3_hasFact_4 rfl ?_
  refine g_aload_n dX3_hasFact_5 rfl ?_
  refine g_getI (c := 3) (k := 2) dX3_hasFact_6 (by decide) (by decide) kw_306 rfl (LX3.o (h := h) F0) ?_
  exact g_icmp_ge (tgt := 16) dX3_hasFact_9 (by decide) (fun q => Gd.wk (kt q) trivial) (fun q => Gd.wk (kf q) trivial)
theorem bkX3_hasFact_12 {X : GX} {h : SH} {nc ns : Nat} {P : Out → SH → Prop} (g : Gd X mX3_hasFact 17 [none, none] [.int 1] (h) nc ns P) : Gd X mX3_hasFact 12 [none, none] [] h nc ns P := by
  refine g_iconst (v := 1) dX3_hasFact_12 (by decide) ?_
  refine g_goto (tgt := 17) dX3_hasFact_13 (by decide) ?_
  exact Gd.wk g trivial
theorem bkX3_hasFact_16 {X : GX} {h : SH} {nc ns : Nat} {P : Out → SH → Prop} (g : Gd X mX3_hasFact 17 [none, none] [.int 0] (h) nc ns P) : Gd X mX3_hasFact 16 [none, none] [] h nc ns P := by
  refine g_iconst (v := 0) dX3_hasFact_16 (by decide) ?_
  exact Gd.wk g trivial
theorem bkX3_hasFact_17 {X : GX} {h : SH} {nc ns : Nat} {P : Out → SH → Prop} {xs0 : Int32} (w0 : xs0 = 0 ∨ xs0 = 1) (hp : P (.inl (some (.int (xs0)))) (h)) : Gd X mX3_hasFact 17 [none, none] [.int xs0] h nc ns P := by
  exact g_ireturn (st := []) dX3_hasFact_17 rfl (bl_n w0) hp
theorem bkX3_spanOf_0 {X : GX} {h : SH} {nc ns : Nat} {P : Out → SH → Prop} {a0 : Nat} {x1 : Int32} (F0 : LX3 (Sk h) (a0)) (i1 : vp_in (x1) 8) (g : Gd X mX3_spanOf 19 [none, none] [.int (if (1 : Int32) < (((hI h (a0 + 3) ((x1 : Int32).toNatClampNeg)) - (hI h (a0 + 2) ((x1 : Int32).toNatClampNeg))) + 1) then ((hI h (a0 + 3) ((x1 : Int32).toNatClampNeg)) - (hI h (a0 + 2) ((x1 : Int32).toNatClampNeg))) + 1 else (1 : Int32))] (h) nc ns P) : Gd X mX3_spanOf 0 [some (.ref a0), some (.int x1)] [] h nc ns P := by
  refine g_iconst (v := 1) dX3_spanOf_0 (by decide) ?_
  refine g_aload_n dX3_spanOf_1 rfl ?_
  refine g_getAs (c := 3) (k := 5) (b := a0 + 3) dX3_spanOf_2 (by decide) (by decide) kw_313 rfl (LX3.o (h := h) F0) (LX3.r_greatest (h := h) F0) ?_
  refine g_iload_n dX3_spanOf_5 rfl ?_
  refine g_iaload dX3_spanOf_6 (LX3.a_greatest (h := h) F0) i1 ?_
  refine g_aload_n dX3_spanOf_7 rfl ?_
  refine g_getAs (c := 3) (k := 4) (b := a0 + 2) dX3_spanOf_8 (by decide) (by decide) kw_310 rfl (LX3.o (h := h) F0) (LX3.r_least (h := h) F0) ?_
  refine g_iload_n dX3_spanOf_11 rfl ?_
  refine g_iaload dX3_spanOf_12 (LX3.a_least (h := h) F0) i1 ?_
  refine g_isub dX3_spanOf_13 ?_
  refine g_iconst (v := 1) dX3_spanOf_14 (by decide) ?_
  refine g_iadd dX3_spanOf_15 ?_
  refine g_mmax dX3_spanOf_16 kw_701 (by decide) (Nat.le_of_ble_eq_true rfl) ?_
  exact Gd.wk g trivial
theorem bkX3_spanOf_19 {X : GX} {h : SH} {nc ns : Nat} {P : Out → SH → Prop} {xs0 : Int32} (hp : P (.inl (some (.int (xs0)))) (h)) : Gd X mX3_spanOf 19 [none, none] [.int xs0] h nc ns P := by
  exact g_ireturn (st := []) dX3_spanOf_19 rfl rfl hp
theorem bkX3_factNamed_0 {X : GX} {h : SH} {nc ns : Nat} {P : Out → SH → Prop} {a0 : Nat} {y1 : Int64} (g : Gd X mX3_factNamed 2 [some (.ref a0), some (.long y1), none, some (.int 0)] [] (h) nc ns P) : Gd X mX3_factNamed 0 [some (.ref a0), some (.long y1), none, none] [] h nc ns P := by
  refine g_iconst (v := 0) dX3_factNamed_0 (by decide) ?_
  refine g_istore_n (L' := [some (.ref a0), some (.long y1), none, some (.int 0)]) dX3_factNamed_1 (by decide) rfl ?_
  exact Gd.wk g ⟨rfl, ⟨rfl, ⟨rfl, trivial⟩⟩⟩
theorem bkX3_factNamed_2 {X : GX} {h : SH} {nc ns : Nat} {P : Out → SH → Prop} {a0 : Nat} {y1 : Int64} {x3 : Int32} (F0 : LX3 (Sk h) (a0)) (kt : hI h a0 2 ≤ x3 → Gd X mX3_factNamed 29 [none, none, none, none] [] (h) nc ns P) (kf : ¬ hI h a0 2 ≤ x3 → Gd X mX3_factNamed 10 [some (.ref a0), some (.long y1), none, some (.int x3)] [] (h) nc ns P) : Gd X mX3_factNamed 2 [some (.ref a0), some (.long y1), none, some (.int x3)] [] h nc ns P := by
  refine g_iload_n dX3_factNamed_2 rfl ?_
  refine g_aload_n dX3_factNamed_3 rfl ?_
  refine g_getI (c := 3) (k := 2) dX3_factNamed_4 (by decide) (by decide) kw_306 rfl (LX3.o (h := h) F0) ?_
  exact g_icmp_ge (tgt := 29) dX3_factNamed_7 (by decide) (fun q => Gd.wk (kt q) trivial) (fun q => Gd.wk (kf q) ⟨rfl, ⟨rfl, ⟨rfl, trivial⟩⟩⟩)
theorem bkX3_factNamed_10 {X : GX} {h : SH} {nc ns : Nat} {P : Out → SH → Prop} {a0 : Nat} {y1 : Int64} {x3 : Int32} (F0 : LX3 (Sk h) (a0)) (i1 : vp_in (x3) 8) (kt : ¬ (lg_cmp (hJ h (a0 + 1) ((x3 : Int32).toNatClampNeg)) y1) = 0 → Gd X mX3_factNamed 23 [some (.ref a0), some (.long y1), none, some (.int x3)] [] (h) nc ns P) (kf : (lg_cmp (hJ h (a0 + 1) ((x3 : Int32).toNatClampNeg)) y1) = 0 → Gd X mX3_factNamed 21 [none, none, none, some (.int x3)] [] (h) nc ns P) : Gd X mX3_factNamed 10 [some (.ref a0), some (.long y1), none, some (.int x3)] [] h nc ns P := by
  refine g_aload_n dX3_factNamed_10 rfl ?_
  refine g_getAs (c := 3) (k := 3) (b := a0 + 1) dX3_factNamed_11 (by decide) (by decide) kw_309 rfl (LX3.o (h := h) F0) (LX3.r_factNames (h := h) F0) ?_
  refine g_iload_n dX3_factNamed_14 rfl ?_
  refine g_laload dX3_factNamed_15 (LX3.a_factNames (h := h) F0) i1 ?_
  refine g_lload_n dX3_factNamed_16 rfl ?_
  refine g_lcmp dX3_factNamed_17 ?_
  exact g_if_ne (tgt := 23) dX3_factNamed_18 (by decide) (fun q => Gd.wk (kt q) ⟨rfl, ⟨rfl, ⟨rfl, trivial⟩⟩⟩) (fun q => Gd.wk (kf q) ⟨rfl, trivial⟩)
theorem bkX3_factNamed_21 {X : GX} {h : SH} {nc ns : Nat} {P : Out → SH → Prop} {x3 : Int32} (hp : P (.inl (some (.int (x3)))) (h)) : Gd X mX3_factNamed 21 [none, none, none, some (.int x3)] [] h nc ns P := by
  refine g_iload_n dX3_factNamed_21 rfl ?_
  exact g_ireturn (st := []) dX3_factNamed_22 rfl rfl hp
theorem bkX3_factNamed_23 {X : GX} {h : SH} {nc ns : Nat} {P : Out → SH → Prop} {a0 : Nat} {y1 : Int64} {x3 : Int32} (g : Gd X mX3_factNamed 2 [some (.ref a0), some (.long y1), none, some (.int (x3 + 1))] [] (h) nc ns P) : Gd X mX3_factNamed 23 [some (.ref a0), some (.long y1), none, some (.int x3)] [] h nc ns P := by
  refine g_iinc (v := x3 + 1) (L' := [some (.ref a0), some (.long y1), none, some (.int (x3 + 1))]) dX3_factNamed_23 rfl rfl (by decide) rfl ?_
  refine g_goto (tgt := 2) dX3_factNamed_26 (by decide) ?_
  exact Gd.wk g ⟨rfl, ⟨rfl, ⟨rfl, trivial⟩⟩⟩
theorem bkX3_factNamed_29 {X : GX} {h : SH} {nc ns : Nat} {P : Out → SH → Prop} (hp : P (.inl (some (.int ((-1))))) (h)) : Gd X mX3_factNamed 29 [none, none, none, none] [] h nc ns P := by
  refine g_iconst (v := (-1)) dX3_factNamed_29 (by decide) ?_
  exact g_ireturn (st := []) dX3_factNamed_30 rfl rfl hp
theorem bkX3_hasClauseNamed_0 {X : GX} {h : SH} {nc ns : Nat} {P : Out → SH → Prop} {a0 : Nat} {y1 : Int64} (g : Gd X mX3_hasClauseNamed 2 [some (.ref a0), some (.long y1), none, some (.int 0)] [] (h) nc ns P) : Gd X mX3_hasClauseNamed 0 [some (.ref a0), some (.long y1), none, none] [] h nc ns P := by
  refine g_iconst (v := 0) dX3_hasClauseNamed_0 (by decide) ?_
  refine g_istore_n (L' := [some (.ref a0), some (.long y1), none, some (.int 0)]) dX3_hasClauseNamed_1 (by decide) rfl ?_
  exact Gd.wk g ⟨rfl, ⟨rfl, ⟨rfl, trivial⟩⟩⟩
theorem bkX3_hasClauseNamed_2 {X : GX} {h : SH} {nc ns : Nat} {P : Out → SH → Prop} {a0 : Nat} {y1 : Int64} {x3 : Int32} (F0 : LX3 (Sk h) (a0)) (kt : hI h a0 7 ≤ x3 → Gd X mX3_hasClauseNamed 32 [none, none, none, none] [] (h) nc ns P) (kf : ¬ hI h a0 7 ≤ x3 → Gd X mX3_hasClauseNamed 10 [some (.ref a0), some (.long y1), none, some (.int x3)] [] (h) nc ns P) : Gd X mX3_hasClauseNamed 2 [some (.ref a0), some (.long y1), none, some (.int x3)] [] h nc ns P := by
  refine g_iload_n dX3_hasClauseNamed_2 rfl ?_
  refine g_aload_n dX3_hasClauseNamed_3 rfl ?_
  refine g_getI (c := 3) (k := 7) dX3_hasClauseNamed_4 (by decide) (by decide) kw_320 rfl (LX3.o (h := h) F0) ?_
  exact g_icmp_ge (tgt := 32) dX3_hasClauseNamed_7 (by decide) (fun q => Gd.wk (kt q) trivial) (fun q => Gd.wk (kf q) ⟨rfl, ⟨rfl, ⟨rfl, trivial⟩⟩⟩)
theorem bkX3_hasClauseNamed_10 {X : GX} {h : SH} {nc ns : Nat} {P : Out → SH → Prop} {a0 : Nat} {y1 : Int64} {x3 : Int32} {b3 : Nat} (F0 : LX3 (Sk h) (a0)) (i1 : vp_in (x3) 12) (q2 : hA h (a0 + 4) ((x3 : Int32).toNatClampNeg) = some b3) (F3 : LX2 (Sk h) (b3)) (kt : ¬ (lg_cmp (hJ h b3 0) y1) = 0 → Gd X mX3_hasClauseNamed 26 [some (.ref a0), some (.long y1), none, some (.int x3)] [] (h) nc ns P) (kf : (lg_cmp (hJ h b3 0) y1) = 0 → Gd X mX3_hasClauseNamed 24 [none, none, none, none] [] (h) nc ns P) : Gd X mX3_hasClauseNamed 10 [some (.ref a0), some (.long y1), none, some (.int x3)] [] h nc ns P := by
  refine g_aload_n dX3_hasClauseNamed_10 rfl ?_
  refine g_getAs (c := 3) (k := 8) (b := a0 + 4) dX3_hasClauseNamed_11 (by decide) (by decide) kw_323 rfl (LX3.o (h := h) F0) (LX3.r_clauses (h := h) F0) ?_
  refine g_iload_n dX3_hasClauseNamed_14 rfl ?_
  refine g_aaloads (k := 25) (b := b3) dX3_hasClauseNamed_15 (by decide) (by decide) (LX3.a_clauses (h := h) F0) i1 q2 ?_
  refine g_getNJ (c := 2) (k := 0) dX3_hasClauseNamed_16 (by decide) (by decide) kn_771 rfl (LX2.o (h := h) F3) ?_
  refine g_lload_n dX3_hasClauseNamed_19 rfl ?_
  refine g_lcmp dX3_hasClauseNamed_20 ?_
  exact g_if_ne (tgt := 26) dX3_hasClauseNamed_21 (by decide) (fun q => Gd.wk (kt q) ⟨rfl, ⟨rfl, ⟨rfl, trivial⟩⟩⟩) (fun q => Gd.wk (kf q) trivial)
theorem bkX3_hasClauseNamed_24 {X : GX} {h : SH} {nc ns : Nat} {P : Out → SH → Prop} (hp : P (.inl (some (.int (1)))) (h)) : Gd X mX3_hasClauseNamed 24 [none, none, none, none] [] h nc ns P := by
  refine g_iconst (v := 1) dX3_hasClauseNamed_24 (by decide) ?_
  exact g_ireturn (st := []) dX3_hasClauseNamed_25 rfl (bl_n (by decide)) hp
theorem bkX3_hasClauseNamed_26 {X : GX} {h : SH} {nc ns : Nat} {P : Out → SH → Prop} {a0 : Nat} {y1 : Int64} {x3 : Int32} (g : Gd X mX3_hasClauseNamed 2 [some (.ref a0), some (.long y1), none, some (.int (x3 + 1))] [] (h) nc ns P) : Gd X mX3_hasClauseNamed 26 [some (.ref a0), some (.long y1), none, some (.int x3)] [] h nc ns P := by
  refine g_iinc (v := x3 + 1) (L' := [some (.ref a0), some (.long y1), none, some (.int (x3 + 1))]) dX3_hasClauseNamed_26 rfl rfl (by decide) rfl ?_
  refine g_goto (tgt := 2) dX3_hasClauseNamed_29 (by decide) ?_
  exact Gd.wk g ⟨rfl, ⟨rfl, ⟨rfl, trivial⟩⟩⟩
theorem bkX3_hasClauseNamed_32 {X : GX} {h : SH} {nc ns : Nat} {P : Out → SH → Prop} (hp : P (.inl (some (.int (0)))) (h)) : Gd X mX3_hasClauseNamed 32 [none, none, none, none] [] h nc ns P := by
  refine g_iconst (v := 0) dX3_hasClauseNamed_32 (by decide) ?_
  exact g_ireturn (st := []) dX3_hasClauseNamed_33 rfl (bl_n (by decide)) hp
theorem bkX3_addFact_0 {X : GX} {h : SH} {nc ns : Nat} {P : Out → SH → Prop} {a0 : Nat} {y1 : Int64} {x3 : Int32} {x4 : Int32} (F0 : LX3 (Sk h) (a0)) (i1 : vp_in (hI h a0 2) 8) (i2 : vp_in (hI (sJ h (a0 + 1) ((hI h a0 2 : Int32).toNatClampNeg) y1) a0 2) 8) (i3 : vp_in (hI (sI (sJ h (a0 + 1) ((hI h a0 2 : Int32).toNatClampNeg) y1) (a0 + 2) ((hI (sJ h (a0 + 1) ((hI h a0 2 : Int32).toNatClampNeg) y1) a0 2 : Int32).toNatClampNeg) x3) a0 2) 8) (g : Gd X mX3_addFact 31 [some (.ref a0), none, none, none, none] [] (sI (sI (sJ h (a0 + 1) ((hI h a0 2 : Int32).toNatClampNeg) y1) (a0 + 2) ((hI (sJ h (a0 + 1) ((hI h a0 2 : Int32).toNatClampNeg) y1) a0 2 : Int32).toNatClampNeg) x3) (a0 + 3) ((hI (sI (sJ h (a0 + 1) ((hI h a0 2 : Int32).toNatClampNeg) y1) (a0 + 2) ((hI (sJ h (a0 + 1) ((hI h a0 2 : Int32).toNatClampNeg) y1) a0 2 : Int32).toNatClampNeg) x3) a0 2 : Int32).toNatClampNeg) x4) nc ns P) : Gd X mX3_addFact 0 [some (.ref a0), some (.long y1), none, some (.int x3), some (.int x4)] [] h nc ns P := by
  refine g_aload_n dX3_addFact_0 rfl ?_
  refine g_getAs (c := 3) (k := 3) (b := a0 + 1) dX3_addFact_1 (by decide) (by decide) kw_309 rfl (LX3.o (h := h) F0) (LX3.r_factNames (h := h) F0) ?_
  refine g_aload_n dX3_addFact_4 rfl ?_
  refine g_getI (c := 3) (k := 2) dX3_addFact_5 (by decide) (by decide) kw_306 rfl (LX3.o (h := h) F0) ?_
  refine g_lload_n dX3_addFact_8 rfl ?_
  refine g_lastore dX3_addFact_9 (LX3.a_factNames (h := h) F0) i1 ?_
  refine g_aload_n dX3_addFact_10 rfl ?_
  refine g_getAs (c := 3) (k := 4) (b := a0 + 2) dX3_addFact_11 (by decide) (by decide) kw_310 rfl (LX3.o (h := sJ h (a0 + 1) ((hI h a0 2 : Int32).toNatClampNeg) y1) F0) (LX3.r_least (h := sJ h (a0 + 1) ((hI h a0 2 : Int32).toNatClampNeg) y1) F0) ?_
  refine g_aload_n dX3_addFact_14 rfl ?_
  refine g_getI (c := 3) (k := 2) dX3_addFact_15 (by decide) (by decide) kw_306 rfl (LX3.o (h := sJ h (a0 + 1) ((hI h a0 2 : Int32).toNatClampNeg) y1) F0) ?_
  refine g_iload_n dX3_addFact_18 rfl ?_
  refine g_iastore dX3_addFact_19 (LX3.a_least (h := sJ h (a0 + 1) ((hI h a0 2 : Int32).toNatClampNeg) y1) F0) i2 ?_
  refine g_aload_n dX3_addFact_20 rfl ?_
  refine g_getAs (c := 3) (k := 5) (b := a0 + 3) dX3_addFact_21 (by decide) (by decide) kw_313 rfl (LX3.o (h := sI (sJ h (a0 + 1) ((hI h a0 2 : Int32).toNatClampNeg) y1) (a0 + 2) ((hI (sJ h (a0 + 1) ((hI h a0 2 : Int32).toNatClampNeg) y1) a0 2 : Int32).toNatClampNeg) x3) F0) (LX3.r_greatest (h := sI (sJ h (a0 + 1) ((hI h a0 2 : Int32).toNatClampNeg) y1) (a0 + 2) ((hI (sJ h (a0 + 1) ((hI h a0 2 : Int32).toNatClampNeg) y1) a0 2 : Int32).toNatClampNeg) x3) F0) ?_
  refine g_aload_n dX3_addFact_24 rfl ?_
  refine g_getI (c := 3) (k := 2) dX3_addFact_25 (by decide) (by decide) kw_306 rfl (LX3.o (h := sI (sJ h (a0 + 1) ((hI h a0 2 : Int32).toNatClampNeg) y1) (a0 + 2) ((hI (sJ h (a0 + 1) ((hI h a0 2 : Int32).toNatClampNeg) y1) a0 2 : Int32).toNatClampNeg) x3) F0) ?_
  refine g_iload dX3_addFact_28 rfl ?_
  refine g_iastore dX3_addFact_30 (LX3.a_greatest (h := sI (sJ h (a0 + 1) ((hI h a0 2 : Int32).toNatClampNeg) y1) (a0 + 2) ((hI (sJ h (a0 + 1) ((hI h a0 2 : Int32).toNatClampNeg) y1) a0 2 : Int32).toNatClampNeg) x3) F0) i3 ?_
  exact Gd.wk g ⟨rfl, trivial⟩
theorem bkX3_addFact_44 {X : GX} {h : SH} {nc ns : Nat} {P : Out → SH → Prop} {a0 : Nat} {as0 : Nat} {xs1 : Int32} {xs2 : Int32} (F0 : LX3 (Sk h) (as0)) (F1 : LX3 (Sk h) (a0)) (hp : P (.inl (none)) (sI (sI h as0 6 (xs1 * xs2)) a0 2 ((hI (sI h as0 6 (xs1 * xs2)) a0 2) + 1))) : Gd X mX3_addFact 44 [some (.ref a0), none, none, none, none] [.int xs2, .int xs1, .ref as0] h nc ns P := by
  refine g_imul dX3_addFact_44 ?_
  refine g_put (c := 3) (k := 6) (h1 := sI h as0 6 (xs1 * xs2)) dX3_addFact_45 (by decide) (by decide) kw_315 rfl (LX3.o (h := h) F0) rfl rfl (Put.I rfl) ?_
  refine g_aload_n dX3_addFact_48 rfl ?_
  refine g_dup dX3_addFact_49 rfl ?_
  refine g_getI (c := 3) (k := 2) dX3_addFact_50 (by decide) (by decide) kw_306 rfl (LX3.o (h := sI h as0 6 (xs1 * xs2)) F1) ?_
  refine g_iconst (v := 1) dX3_addFact_53 (by decide) ?_
  refine g_iadd dX3_addFact_54 ?_
  refine g_put (c := 3) (k := 2) (h1 := sI (sI h as0 6 (xs1 * xs2)) a0 2 ((hI (sI h as0 6 (xs1 * xs2)) a0 2) + 1)) dX3_addFact_55 (by decide) (by decide) kw_306 rfl (LX3.o (h := sI h as0 6 (xs1 * xs2)) F1) rfl rfl (Put.I rfl) ?_
  exact g_return (st := []) dX3_addFact_58 rfl hp
theorem bkX3_addFact_31 {X : GX} {h : SH} {nc ns : Nat} {P : Out → SH → Prop} {Q : Int32 → SH → Prop} {a0 : Nat} (F0 : LX3 (Sk h) (a0)) (hN : Cd X mX3_spanOf [.ref a0, .int (hI h a0 2)] (h) 0 0 (oI Q nX)) (g : ∀ r t, Q r t → Gd X mX3_addFact 44 [some (.ref a0), none, none, none, none] [.int r, .int (hI h a0 6), .ref a0] (t) nc ns P) : Gd X mX3_addFact 31 [some (.ref a0), none, none, none, none] [] h nc ns P := by
  refine g_aload_n dX3_addFact_31 rfl ?_
  refine g_dup dX3_addFact_32 rfl ?_
  refine g_getI (c := 3) (k := 6) dX3_addFact_33 (by decide) (by decide) kw_315 rfl (LX3.o (h := h) F0) ?_
  refine g_aload_n dX3_addFact_36 rfl ?_
  refine g_aload_n dX3_addFact_37 rfl ?_
  refine g_getI (c := 3) (k := 2) dX3_addFact_38 (by decide) (by decide) kw_306 rfl (LX3.o (h := h) F0) ?_
  refine Gd.z ?_
  exact g_callV (k := 3) [.int (hI h a0 2)] dX3_addFact_41 mfX3_spanOf ⟨by decide, by decide⟩ kw_697 kw_698 kw_699 rfl (by decide) (Nat.le_of_ble_eq_true rfl) (by intro x hx; cases hx) (LX3.o (h := h) F0) (Nat.le_of_ble_eq_true rfl) hN (fun _ _ q => q.elim) (oI_go (G := fun a b => Gd X mX3_addFact 44 _ a b nc ns P) (fun r t q => Gd.wk (g r t q) ⟨rfl, trivial⟩))
theorem bkX3_addClause_0 {X : GX} {h : SH} {nc ns : Nat} {P : Out → SH → Prop} {a0 : Nat} {a1 : Nat} (F0 : LX3 (Sk h) (a0)) (g : Gd X mX3_addClause 5 [some (.ref a0), some (.ref a1), some (.int (hI h a0 7))] [] (h) nc ns P) : Gd X mX3_addClause 0 [some (.ref a0), some (.ref a1), none] [] h nc ns P := by
  refine g_aload_n dX3_addClause_0 rfl ?_
  refine g_getI (c := 3) (k := 7) dX3_addClause_1 (by decide) (by decide) kw_320 rfl (LX3.o (h := h) F0) ?_
  refine g_istore_n (L' := [some (.ref a0), some (.ref a1), some (.int (hI h a0 7))]) dX3_addClause_4 (by decide) rfl ?_
  exact Gd.wk g ⟨rfl, ⟨rfl, ⟨rfl, trivial⟩⟩⟩
theorem bkX3_addClause_5 {X : GX} {h : SH} {nc ns : Nat} {P : Out → SH → Prop} {a0 : Nat} {a1 : Nat} {x2 : Int32} (kt : x2 ≤ 0 → Gd X mX3_addClause 52 [some (.ref a0), some (.ref a1), some (.int x2)] [] (h) nc ns P) (kf : ¬ x2 ≤ 0 → Gd X mX3_addClause 9 [some (.ref a0), some (.ref a1), some (.int x2)] [] (h) nc ns P) : Gd X mX3_addClause 5 [some (.ref a0), some (.ref a1), some (.int x2)] [] h nc ns P := by
  refine g_iload_n dX3_addClause_5 rfl ?_
  exact g_if_le (tgt := 52) dX3_addClause_6 (by decide) (fun q => Gd.wk (kt q) ⟨rfl, ⟨rfl, ⟨rfl, trivial⟩⟩⟩) (fun q => Gd.wk (kf q) ⟨rfl, ⟨rfl, ⟨rfl, trivial⟩⟩⟩)
theorem bkX3_addClause_9 {X : GX} {h : SH} {nc ns : Nat} {P : Out → SH → Prop} {a0 : Nat} {a1 : Nat} {x2 : Int32} {b3 : Nat} (F0 : LX3 (Sk h) (a0)) (i1 : vp_in (x2 - 1) 12) (i2 : vp_in (hI h (a0 + 5) ((x2 - 1 : Int32).toNatClampNeg)) 12) (q3 : hA h (a0 + 4) ((hI h (a0 + 5) ((x2 - 1 : Int32).toNatClampNeg) : Int32).toNatClampNeg) = some b3) (F4 : LX2 (Sk h) (b3)) (F5 : LX2 (Sk h) (a1)) (kt : hI h b3 1 ≤ hI h a1 1 → Gd X mX3_addClause 52 [some (.ref a0), some (.ref a1), some (.int x2)] [] (h) nc ns P) (kf : ¬ hI h b3 1 ≤ hI h a1 1 → Gd X mX3_addClause 32 [some (.ref a0), some (.ref a1), some (.int x2)] [] (h) nc ns P) : Gd X mX3_addClause 9 [some (.ref a0), some (.ref a1), some (.int x2)] [] h nc ns P := by
  refine g_aload_n dX3_addClause_9 rfl ?_
  refine g_getAs (c := 3) (k := 8) (b := a0 + 4) dX3_addClause_10 (by decide) (by decide) kw_323 rfl (LX3.o (h := h) F0) (LX3.r_clauses (h := h) F0) ?_
  refine g_aload_n dX3_addClause_13 rfl ?_
  refine g_getAs (c := 3) (k := 9) (b := a0 + 5) dX3_addClause_14 (by decide) (by decide) kw_325 rfl (LX3.o (h := h) F0) (LX3.r_order (h := h) F0) ?_
  refine g_iload_n dX3_addClause_17 rfl ?_
  refine g_iconst (v := 1) dX3_addClause_18 (by decide) ?_
  refine g_isub dX3_addClause_19 ?_
  refine g_iaload dX3_addClause_20 (LX3.a_order (h := h) F0) i1 ?_
  refine g_aaloads (k := 25) (b := b3) dX3_addClause_21 (by decide) (by decide) (LX3.a_clauses (h := h) F0) i2 q3 ?_
  refine g_getNI (c := 2) (k := 1) dX3_addClause_22 (by decide) (by decide) kn_773 rfl (LX2.o (h := h) F4) ?_
  refine g_aload_n dX3_addClause_25 rfl ?_
  refine g_getNI (c := 2) (k := 1) dX3_addClause_26 (by decide) (by decide) kn_773 rfl (LX2.o (h := h) F5) ?_
  exact g_icmp_le (tgt := 52) dX3_addClause_29 (by decide) (fun q => Gd.wk (kt q) ⟨rfl, ⟨rfl, ⟨rfl, trivial⟩⟩⟩) (fun q => Gd.wk (kf q) ⟨rfl, ⟨rfl, ⟨rfl, trivial⟩⟩⟩)
theorem bkX3_addClause_32 {X : GX} {h : SH} {nc ns : Nat} {P : Out → SH → Prop} {a0 : Nat} {a1 : Nat} {x2 : Int32} (F0 : LX3 (Sk h) (a0)) (i1 : vp_in (x2 - 1) 12) (i2 : vp_in (x2) 12) (g : Gd X mX3_addClause 5 [some (.ref a0), some (.ref a1), some (.int (x2 + (-1)))] [] (sI h (a0 + 5) ((x2 : Int32).toNatClampNeg) (hI h (a0 + 5) ((x2 - 1 : Int32).toNatClampNeg))) nc ns P) : Gd X mX3_addClause 32 [some (.ref a0), some (.ref a1), some (.int x2)] [] h nc ns P := by
  refine g_aload_n dX3_addClause_32 rfl ?_
  refine g_getAs (c := 3) (k := 9) (b := a0 + 5) dX3_addClause_33 (by decide) (by decide) kw_325 rfl (LX3.o (h := h) F0) (LX3.r_order (h := h) F0) ?_
  refine g_iload_n dX3_addClause_36 rfl ?_
  refine g_aload_n dX3_addClause_37 rfl ?_
  refine g_getAs (c := 3) (k := 9) (b := a0 + 5) dX3_addClause_38 (by decide) (by decide) kw_325 rfl (LX3.o (h := h) F0) (LX3.r_order (h := h) F0) ?_
  refine g_iload_n dX3_addClause_41 rfl ?_
  refine g_iconst (v := 1) dX3_addClause_42 (by decide) ?_
  refine g_isub dX3_addClause_43 ?_
  refine g_iaload dX3_addClause_44 (LX3.a_order (h := h) F0) i1 ?_
  refine g_iastore dX3_addClause_45 (LX3.a_order (h := h) F0) i2 ?_
  refine g_iinc (v := x2 + (-1)) (L' := [some (.ref a0), some (.ref a1), some (.int (x2 + (-1)))]) dX3_addClause_46 rfl rfl (by decide) rfl ?_
  refine g_goto (tgt := 5) dX3_addClause_49 (by decide) ?_
  exact Gd.wk g ⟨rfl, ⟨rfl, ⟨rfl, trivial⟩⟩⟩
theorem bkX3_addClause_52 {X : GX} {h : SH} {nc ns : Nat} {P : Out → SH → Prop} {a0 : Nat} {a1 : Nat} {x2 : Int32} (F0 : LX3 (Sk h) (a0)) (i1 : vp_in (x2) 12) (i2 : vp_in (hI (sI h (a0 + 5) ((x2 : Int32).toNatClampNeg) (hI h a0 7)) a0 7) 12) (F3 : LX2 (Sk h) (a1)) (g : Gd X mX3_addClause 72 [some (.ref a0), none, none] [] (sA (sI h (a0 + 5) ((x2 : Int32).toNatClampNeg) (hI h a0 7)) (a0 + 4) ((hI (sI h (a0 + 5) ((x2 : Int32).toNatClampNeg) (hI h a0 7)) a0 7 : Int32).toNatClampNeg) (some (a1))) nc ns P) : Gd X mX3_addClause 52 [some (.ref a0), some (.ref a1), some (.int x2)] [] h nc ns P := by
  refine g_aload_n dX3_addClause_52 rfl ?_
  refine g_getAs (c := 3) (k := 9) (b := a0 + 5) dX3_addClause_53 (by decide) (by decide) kw_325 rfl (LX3.o (h := h) F0) (LX3.r_order (h := h) F0) ?_
  refine g_iload_n dX3_addClause_56 rfl ?_
  refine g_aload_n dX3_addClause_57 rfl ?_
  refine g_getI (c := 3) (k := 7) dX3_addClause_58 (by decide) (by decide) kw_320 rfl (LX3.o (h := h) F0) ?_
  refine g_iastore dX3_addClause_61 (LX3.a_order (h := h) F0) i1 ?_
  refine g_aload_n dX3_addClause_62 rfl ?_
  refine g_getAs (c := 3) (k := 8) (b := a0 + 4) dX3_addClause_63 (by decide) (by decide) kw_323 rfl (LX3.o (h := sI h (a0 + 5) ((x2 : Int32).toNatClampNeg) (hI h a0 7)) F0) (LX3.r_clauses (h := sI h (a0 + 5) ((x2 : Int32).toNatClampNeg) (hI h a0 7)) F0) ?_
  refine g_aload_n dX3_addClause_66 rfl ?_
  refine g_getI (c := 3) (k := 7) dX3_addClause_67 (by decide) (by decide) kw_320 rfl (LX3.o (h := sI h (a0 + 5) ((x2 : Int32).toNatClampNeg) (hI h a0 7)) F0) ?_
  refine g_aload_n dX3_addClause_70 rfl ?_
  refine g_aastore (k := 25) dX3_addClause_71 (by decide) (by decide) (LX3.a_clauses (h := sI h (a0 + 5) ((x2 : Int32).toNatClampNeg) (hI h a0 7)) F0) (LX2.o (h := sI h (a0 + 5) ((x2 : Int32).toNatClampNeg) (hI h a0 7)) F3) i2 ?_
  exact Gd.wk g ⟨rfl, trivial⟩
theorem bkX3_addClause_72 {X : GX} {h : SH} {nc ns : Nat} {P : Out → SH → Prop} {a0 : Nat} (F0 : LX3 (Sk h) (a0)) (hp : P (.inl (none)) (sI h a0 7 (hI h a0 7 + 1))) : Gd X mX3_addClause 72 [some (.ref a0), none, none] [] h nc ns P := by
  refine g_aload_n dX3_addClause_72 rfl ?_
  refine g_dup dX3_addClause_73 rfl ?_
  refine g_getI (c := 3) (k := 7) dX3_addClause_74 (by decide) (by decide) kw_320 rfl (LX3.o (h := h) F0) ?_
  refine g_iconst (v := 1) dX3_addClause_77 (by decide) ?_
  refine g_iadd dX3_addClause_78 ?_
  refine g_put (c := 3) (k := 7) (h1 := sI h a0 7 (hI h a0 7 + 1)) dX3_addClause_79 (by decide) (by decide) kw_320 rfl (LX3.o (h := h) F0) rfl rfl (Put.I rfl) ?_
  exact g_return (st := []) dX3_addClause_82 rfl hp
theorem bkX3_hasFactsOf_0 {X : GX} {h : SH} {nc ns : Nat} {P : Out → SH → Prop} {a0 : Nat} {a1 : Nat} (F0 : LX3 (Sk h) (a0)) (F1 : LX3 (Sk h) (a1)) (kt : hI h a0 2 = hI h a1 2 → Gd X mX3_hasFactsOf 13 [some (.ref a0), some (.ref a1), none, none] [] (h) nc ns P) (kf : ¬ hI h a0 2 = hI h a1 2 → Gd X mX3_hasFactsOf 11 [none, none, none, none] [] (h) nc ns P) : Gd X mX3_hasFactsOf 0 [some (.ref a0), some (.ref a1), none, none] [] h nc ns P := by
  refine g_aload_n dX3_hasFactsOf_0 rfl ?_
  refine g_getI (c := 3) (k := 2) dX3_hasFactsOf_1 (by decide) (by decide) kw_306 rfl (LX3.o (h := h) F0) ?_
  refine g_aload_n dX3_hasFactsOf_4 rfl ?_
  refine g_getI (c := 3) (k := 2) dX3_hasFactsOf_5 (by decide) (by decide) kw_306 rfl (LX3.o (h := h) F1) ?_
  exact g_icmp_eq (tgt := 13) dX3_hasFactsOf_8 (by decide) (fun q => Gd.wk (kt q) ⟨rfl, ⟨rfl, trivial⟩⟩) (fun q => Gd.wk (kf q) trivial)
theorem bkX3_hasFactsOf_11 {X : GX} {h : SH} {nc ns : Nat} {P : Out → SH → Prop} (hp : P (.inl (some (.int (0)))) (h)) : Gd X mX3_hasFactsOf 11 [none, none, none, none] [] h nc ns P := by
  refine g_iconst (v := 0) dX3_hasFactsOf_11 (by decide) ?_
  exact g_ireturn (st := []) dX3_hasFactsOf_12 rfl (bl_n (by decide)) hp
theorem bkX3_hasFactsOf_13 {X : GX} {h : SH} {nc ns : Nat} {P : Out → SH → Prop} {a0 : Nat} {a1 : Nat} (g : Gd X mX3_hasFactsOf 15 [some (.ref a0), some (.ref a1), some (.int 0), none] [] (h) nc ns P) : Gd X mX3_hasFactsOf 13 [some (.ref a0), some (.ref a1), none, none] [] h nc ns P := by
  refine g_iconst (v := 0) dX3_hasFactsOf_13 (by decide) ?_
  refine g_istore_n (L' := [some (.ref a0), some (.ref a1), some (.int 0), none]) dX3_hasFactsOf_14 (by decide) rfl ?_
  exact Gd.wk g ⟨rfl, ⟨rfl, ⟨rfl, trivial⟩⟩⟩
theorem bkX3_hasFactsOf_15 {X : GX} {h : SH} {nc ns : Nat} {P : Out → SH → Prop} {a0 : Nat} {a1 : Nat} {x2 : Int32} (F0 : LX3 (Sk h) (a0)) (kt : hI h a0 2 ≤ x2 → Gd X mX3_hasFactsOf 87 [none, none, none, none] [] (h) nc ns P) (kf : ¬ hI h a0 2 ≤ x2 → Gd X mX3_hasFactsOf 23 [some (.ref a0), some (.ref a1), some (.int x2), none] [] (h) nc ns P) : Gd X mX3_hasFactsOf 15 [some (.ref a0), some (.ref a1), some (.int x2), none] [] h nc ns P := by
  refine g_iload_n dX3_hasFactsOf_15 rfl ?_
  refine g_aload_n dX3_hasFactsOf_16 rfl ?_
  refine g_getI (c := 3) (k := 2) dX3_hasFactsOf_17 (by decide) (by decide) kw_306 rfl (LX3.o (h := h) F0) ?_
  exact g_icmp_ge (tgt := 87) dX3_hasFactsOf_20 (by decide) (fun q => Gd.wk (kt q) trivial) (fun q => Gd.wk (kf q) ⟨rfl, ⟨rfl, ⟨rfl, trivial⟩⟩⟩)
theorem bkX3_hasFactsOf_23 {X : GX} {h : SH} {nc ns : Nat} {P : Out → SH → Prop} {a0 : Nat} {a1 : Nat} {x2 : Int32} (F0 : LX3 (Sk h) (a0)) (i1 : vp_in (x2) 8) (F2 : LX3 (Sk h) (a1)) (kt : ¬ (lg_cmp (hJ h (a0 + 1) ((x2 : Int32).toNatClampNeg)) (hJ h (a1 + 1) ((x2 : Int32).toNatClampNeg))) = 0 → Gd X mX3_hasFactsOf 73 [some (.ref a0), some (.ref a1), some (.int x2), none] [] (h) nc ns P) (kf : (lg_cmp (hJ h (a0 + 1) ((x2 : Int32).toNatClampNeg)) (hJ h (a1 + 1) ((x2 : Int32).toNatClampNeg))) = 0 → Gd X mX3_hasFactsOf 39 [some (.ref a0), some (.ref a1), some (.int x2), none] [] (h) nc ns P) : Gd X mX3_hasFactsOf 23 [some (.ref a0), some (.ref a1), some (.int x2), none] [] h nc ns P := by
  refine g_aload_n dX3_hasFactsOf_23 rfl ?_
  refine g_getAs (c := 3) (k := 3) (b := a0 + 1) dX3_hasFactsOf_24 (by decide) (by decide) kw_309 rfl (LX3.o (h := h) F0) (LX3.r_factNames (h := h) F0) ?_
  refine g_iload_n dX3_hasFactsOf_27 rfl ?_
  refine g_laload dX3_hasFactsOf_28 (LX3.a_factNames (h := h) F0) i1 ?_
  refine g_aload_n dX3_hasFactsOf_29 rfl ?_
  refine g_getAs (c := 3) (k := 3) (b := a1 + 1) dX3_hasFactsOf_30 (by decide) (by decide) kw_309 rfl (LX3.o (h := h) F2) (LX3.r_factNames (h := h) F2) ?_
  refine g_iload_n dX3_hasFactsOf_33 rfl ?_
  refine g_laload dX3_hasFactsOf_34 (LX3.a_factNames (h := h) F2) i1 ?_
  refine g_lcmp dX3_hasFactsOf_35 ?_
  exact g_if_ne (tgt := 73) dX3_hasFactsOf_36 (by decide) (fun q => Gd.wk (kt q) ⟨rfl, ⟨rfl, ⟨rfl, trivial⟩⟩⟩) (fun q => Gd.wk (kf q) ⟨rfl, ⟨rfl, ⟨rfl, trivial⟩⟩⟩)
theorem bkX3_hasFactsOf_39 {X : GX} {h : SH} {nc ns : Nat} {P : Out → SH → Prop} {a0 : Nat} {a1 : Nat} {x2 : Int32} (F0 : LX3 (Sk h) (a0)) (i1 : vp_in (x2) 8) (F2 : LX3 (Sk h) (a1)) (kt : ¬ (hI h (a0 + 2) ((x2 : Int32).toNatClampNeg)) = (hI h (a1 + 2) ((x2 : Int32).toNatClampNeg)) → Gd X mX3_hasFactsOf 73 [some (.ref a0), some (.ref a1), some (.int x2), none] [] (h) nc ns P) (kf : (hI h (a0 + 2) ((x2 : Int32).toNatClampNeg)) = (hI h (a1 + 2) ((x2 : Int32).toNatClampNeg)) → Gd X mX3_hasFactsOf 54 [some (.ref a0), some (.ref a1), some (.int x2), none] [] (h) nc ns P) : Gd X mX3_hasFactsOf 39 [some (.ref a0), some (.ref a1), some (.int x2), none] [] h nc ns P := by
  refine g_aload_n dX3_hasFactsOf_39 rfl ?_
  refine g_getAs (c := 3) (k := 4) (b := a0 + 2) dX3_hasFactsOf_40 (by decide) (by decide) kw_310 rfl (LX3.o (h := h) F0) (LX3.r_least (h := h) F0) ?_
  refine g_iload_n dX3_hasFactsOf_43 rfl ?_
  refine g_iaload dX3_hasFactsOf_44 (LX3.a_least (h := h) F0) i1 ?_
  refine g_aload_n dX3_hasFactsOf_45 rfl ?_
  refine g_getAs (c := 3) (k := 4) (b := a1 + 2) dX3_hasFactsOf_46 (by decide) (by decide) kw_310 rfl (LX3.o (h := h) F2) (LX3.r_least (h := h) F2) ?_
  refine g_iload_n dX3_hasFactsOf_49 rfl ?_
  refine g_iaload dX3_hasFactsOf_50 (LX3.a_least (h := h) F2) i1 ?_
  exact g_icmp_ne (tgt := 73) dX3_hasFactsOf_51 (by decide) (fun q => Gd.wk (kt q) ⟨rfl, ⟨rfl, ⟨rfl, trivial⟩⟩⟩) (fun q => Gd.wk (kf q) ⟨rfl, ⟨rfl, ⟨rfl, trivial⟩⟩⟩)
theorem bkX3_hasFactsOf_54 {X : GX} {h : SH} {nc ns : Nat} {P : Out → SH → Prop} {a0 : Nat} {a1 : Nat} {x2 : Int32} (F0 : LX3 (Sk h) (a0)) (i1 : vp_in (x2) 8) (F2 : LX3 (Sk h) (a1)) (kt : ¬ (hI h (a0 + 3) ((x2 : Int32).toNatClampNeg)) = (hI h (a1 + 3) ((x2 : Int32).toNatClampNeg)) → Gd X mX3_hasFactsOf 73 [some (.ref a0), some (.ref a1), some (.int x2), none] [] (h) nc ns P) (kf : (hI h (a0 + 3) ((x2 : Int32).toNatClampNeg)) = (hI h (a1 + 3) ((x2 : Int32).toNatClampNeg)) → Gd X mX3_hasFactsOf 69 [some (.ref a0), some (.ref a1), some (.int x2), none] [] (h) nc ns P) : Gd X mX3_hasFactsOf 54 [some (.ref a0), some (.ref a1), some (.int x2), none] [] h nc ns P := by
  refine g_aload_n dX3_hasFactsOf_54 rfl ?_
  refine g_getAs (c := 3) (k := 5) (b := a0 + 3) dX3_hasFactsOf_55 (by decide) (by decide) kw_313 rfl (LX3.o (h := h) F0) (LX3.r_greatest (h := h) F0) ?_
  refine g_iload_n dX3_hasFactsOf_58 rfl ?_
  refine g_iaload dX3_hasFactsOf_59 (LX3.a_greatest (h := h) F0) i1 ?_
  refine g_aload_n dX3_hasFactsOf_60 rfl ?_
  refine g_getAs (c := 3) (k := 5) (b := a1 + 3) dX3_hasFactsOf_61 (by decide) (by decide) kw_313 rfl (LX3.o (h := h) F2) (LX3.r_greatest (h := h) F2) ?_
  refine g_iload_n dX3_hasFactsOf_64 rfl ?_
  refine g_iaload dX3_hasFactsOf_65 (LX3.a_greatest (h := h) F2) i1 ?_
  exact g_icmp_ne (tgt := 73) dX3_hasFactsOf_66 (by decide) (fun q => Gd.wk (kt q) ⟨rfl, ⟨rfl, ⟨rfl, trivial⟩⟩⟩) (fun q => Gd.wk (kf q) ⟨rfl, ⟨rfl, ⟨rfl, trivial⟩⟩⟩)
theorem bkX3_hasFactsOf_69 {X : GX} {h : SH} {nc ns : Nat} {P : Out → SH → Prop} {a0 : Nat} {a1 : Nat} {x2 : Int32} (g : Gd X mX3_hasFactsOf 74 [some (.ref a0), some (.ref a1), some (.int x2), none] [.int 1] (h) nc ns P) : Gd X mX3_hasFactsOf 69 [some (.ref a0), some (.ref a1), some (.int x2), none] [] h nc ns P := by
  refine g_iconst (v := 1) dX3_hasFactsOf_69 (by decide) ?_
  refine g_goto (tgt := 74) dX3_hasFactsOf_70 (by decide) ?_
  exact Gd.wk g ⟨rfl, ⟨rfl, ⟨rfl, trivial⟩⟩⟩
theorem bkX3_hasFactsOf_73 {X : GX} {h : SH} {nc ns : Nat} {P : Out → SH → Prop} {a0 : Nat} {a1 : Nat} {x2 : Int32} (g : Gd X mX3_hasFactsOf 74 [some (.ref a0), some (.ref a1), some (.int x2), none] [.int 0] (h) nc ns P) : Gd X mX3_hasFactsOf 73 [some (.ref a0), some (.ref a1), some (.int x2), none] [] h nc ns P := by
  refine g_iconst (v := 0) dX3_hasFactsOf_73 (by decide) ?_
  exact Gd.wk g ⟨rfl, ⟨rfl, ⟨rfl, trivial⟩⟩⟩
theorem bkX3_hasFactsOf_74 {X : GX} {h : SH} {nc ns : Nat} {P : Out → SH → Prop} {a0 : Nat} {a1 : Nat} {x2 : Int32} {xs0 : Int32} (kt : ¬ xs0 = 0 → Gd X mX3_hasFactsOf 81 [some (.ref a0), some (.ref a1), some (.int x2), none] [] (h) nc ns P) (kf : xs0 = 0 → Gd X mX3_hasFactsOf 79 [none, none, none, none] [] (h) nc ns P) : Gd X mX3_hasFactsOf 74 [some (.ref a0), some (.ref a1), some (.int x2), none] [.int xs0] h nc ns P := by
  refine g_istore_n (L' := [some (.ref a0), some (.ref a1), some (.int x2), some (.int xs0)]) dX3_hasFactsOf_74 (by decide) rfl ?_
  refine g_iload_n dX3_hasFactsOf_75 rfl ?_
  exact g_if_ne (tgt := 81) dX3_hasFactsOf_76 (by decide) (fun q => Gd.wk (kt q) ⟨rfl, ⟨rfl, ⟨rfl, trivial⟩⟩⟩) (fun q => Gd.wk (kf q) trivial)
theorem bkX3_hasFactsOf_79 {X : GX} {h : SH} {nc ns : Nat} {P : Out → SH → Prop} (hp : P (.inl (some (.int (0)))) (h)) : Gd X mX3_hasFactsOf 79 [none, none, none, none] [] h nc ns P := by
  refine g_iconst (v := 0) dX3_hasFactsOf_79 (by decide) ?_
  exact g_ireturn (st := []) dX3_hasFactsOf_80 rfl (bl_n (by decide)) hp
theorem bkX3_hasFactsOf_81 {X : GX} {h : SH} {nc ns : Nat} {P : Out → SH → Prop} {a0 : Nat} {a1 : Nat} {x2 : Int32} (g : Gd X mX3_hasFactsOf 15 [some (.ref a0), some (.ref a1), some (.int (x2 + 1)), none] [] (h) nc ns P) : Gd X mX3_hasFactsOf 81 [some (.ref a0), some (.ref a1), some (.int x2), none] [] h nc ns P := by
  refine g_iinc (v := x2 + 1) (L' := [some (.ref a0), some (.ref a1), some (.int (x2 + 1)), none]) dX3_hasFactsOf_81 rfl rfl (by decide) rfl ?_
  refine g_goto (tgt := 15) dX3_hasFactsOf_84 (by decide) ?_
  exact Gd.wk g ⟨rfl, ⟨rfl, ⟨rfl, trivial⟩⟩⟩
theorem bkX3_hasFactsOf_87 {X : GX} {h : SH} {nc ns : Nat} {P : Out → SH → Prop} (hp : P (.inl (some (.int (1)))) (h)) : Gd X mX3_hasFactsOf 87 [none, none, none, none] [] h nc ns P := by
  refine g_iconst (v := 1) dX3_hasFactsOf_87 (by decide) ?_
  exact g_ireturn (st := []) dX3_hasFactsOf_88 rfl (bl_n (by decide)) hp
theorem bkX6_init_0 {X : GX} {h : SH} {nc ns : Nat} {P : Out → SH → Prop} {a0 : Nat} (g : Gd X mX6_init 4 [some (.ref a0)] [] (h) nc ns P) : Gd X mX6_init 0 [some (.ref a0)] [] h nc ns P := by
  refine g_aload_n dX6_init_0 rfl ?_
  refine g_objInit dX6_init_1 kw_165 kw_124 kw_125 (by decide) (Nat.le_of_ble_eq_true rfl) ?_
  exact Gd.wk g ⟨rfl, trivial⟩
theorem bkX6_init_4 {X : GX} {h : SH} {nc ns : Nat} {P : Out → SH → Prop} {a0 : Nat} (g : Gd X mX6_init 9 [some (.ref a0)] [.ref (hz h), .ref a0] (nw h 22 12) nc ns P) : Gd X mX6_init 4 [some (.ref a0)] [] h (nc + 1) (ns + 12) P := by
  refine g_aload_n dX6_init_4 rfl ?_
  refine g_bipush (v := 12) dX6_init_5 (by decide) ?_
  refine g_newarrN (k := 22) (N := 12) dX6_init_7 (by decide) (by decide) rfl kw_202 (by decide) (by decide) (by decide) ?_
  exact Gd.wk g ⟨rfl, trivial⟩
theorem bkX6_init_9 {X : GX} {h : SH} {nc ns : Nat} {P : Out → SH → Prop} {a0 : Nat} {as0 : Nat} {as1 : Nat} (F0 : LX6 (Sk h) (as0)) (g : Gd X mX6_init 12 [some (.ref a0)] [] (sA h as0 0 (some (as1))) nc ns P) : Gd X mX6_init 9 [some (.ref a0)] [.ref as1, .ref as0] h nc ns P := by
  refine g_putF (c := 6) (k := 0) (v := va_rf (some (as1))) (h1 := sA h as0 0 (some (as1))) dX6_init_9 (by decide) (by decide) kw_166 rfl rfl rfl (LX6.o (h := h) F0) (rf_n rfl) (rf_f rfl) (Put.A rfl) ?_
  exact Gd.wk g ⟨rfl, trivial⟩
theorem bkX6_init_12 {X : GX} {h : SH} {nc ns : Nat} {P : Out → SH → Prop} {a0 : Nat} (g : Gd X mX6_init 17 [some (.ref a0)] [.ref (hz h), .ref a0] (nw h 20 12) nc ns P) : Gd X mX6_init 12 [some (.ref a0)] [] h (nc + 1) (ns + 12) P := by
  refine g_aload_n dX6_init_12 rfl ?_
  refine g_bipush (v := 12) dX6_init_13 (by decide) ?_
  refine g_newarrN (k := 20) (N := 12) dX6_init_15 (by decide) (by decide) rfl kw_145 (by decide) (by decide) (by decide) ?_
  exact Gd.wk g ⟨rfl, trivial⟩
theorem bkX6_init_17 {X : GX} {h : SH} {nc ns : Nat} {P : Out → SH → Prop} {a0 : Nat} {as0 : Nat} {as1 : Nat} (F0 : LX6 (Sk h) (as0)) (g : Gd X mX6_init 20 [some (.ref a0)] [] (sA h as0 1 (some (as1))) nc ns P) : Gd X mX6_init 17 [some (.ref a0)] [.ref as1, .ref as0] h nc ns P := by
  refine g_putF (c := 6) (k := 1) (v := va_rf (some (as1))) (h1 := sA h as0 1 (some (as1))) dX6_init_17 (by decide) (by decide) kw_167 rfl rfl rfl (LX6.o (h := h) F0) (rf_n rfl) (rf_f rfl) (Put.A rfl) ?_
  exact Gd.wk g ⟨rfl, trivial⟩
theorem bkX6_init_20 {X : GX} {h : SH} {nc ns : Nat} {P : Out → SH → Prop} {a0 : Nat} (g : Gd X mX6_init 25 [some (.ref a0)] [.ref (hz h), .ref a0] (nw h 20 12) nc ns P) : Gd X mX6_init 20 [some (.ref a0)] [] h (nc + 1) (ns + 12) P := by
  refine g_aload_n dX6_init_20 rfl ?_
  refine g_bipush (v := 12) dX6_init_21 (by decide) ?_
  refine g_newarrN (k := 20) (N := 12) dX6_init_23 (by decide) (by decide) rfl kw_145 (by decide) (by decide) (by decide) ?_
  exact Gd.wk g ⟨rfl, trivial⟩
theorem bkX6_init_25 {X : GX} {h : SH} {nc ns : Nat} {P : Out → SH → Prop} {a0 : Nat} {as0 : Nat} {as1 : Nat} (F0 : LX6 (Sk h) (as0)) (g : Gd X mX6_init 28 [some (.ref a0)] [] (sA h as0 2 (some (as1))) nc ns P) : Gd X mX6_init 25 [some (.ref a0)] [.ref as1, .ref as0] h nc ns P := by
  refine g_putF (c := 6) (k := 2) (v := va_rf (some (as1))) (h1 := sA h as0 2 (some (as1))) dX6_init_25 (by decide) (by decide) kw_169 rfl rfl rfl (LX6.o (h := h) F0) (rf_n rfl) (rf_f rfl) (Put.A rfl) ?_
  exact Gd.wk g ⟨rfl, trivial⟩
theorem bkX6_init_28 {X : GX} {h : SH} {nc ns : Nat} {P : Out → SH → Prop} {a0 : Nat} (g : Gd X mX6_init 34 [some (.ref a0)] [.ref (hz h), .ref a0] (nw h 21 2772) nc ns P) : Gd X mX6_init 28 [some (.ref a0)] [] h (nc + 1) (ns + 2772) P := by
  refine g_aload_n dX6_init_28 rfl ?_
  refine g_sipush (v := 2772) dX6_init_29 (by decide) ?_
  refine g_newarrN (k := 21) (N := 2772) dX6_init_32 (by decide) (by decide) rfl kw_144 (by decide) (by decide) (by decide) ?_
  exact Gd.wk g ⟨rfl, trivial⟩
theorem bkX6_init_34 {X : GX} {h : SH} {nc ns : Nat} {P : Out → SH → Prop} {a0 : Nat} {as0 : Nat} {as1 : Nat} (F0 : LX6 (Sk h) (as0)) (g : Gd X mX6_init 37 [some (.ref a0)] [] (sA h as0 4 (some (as1))) nc ns P) : Gd X mX6_init 34 [some (.ref a0)] [.ref as1, .ref as0] h nc ns P := by
  refine g_putF (c := 6) (k := 4) (v := va_rf (some (as1))) (h1 := sA h as0 4 (some (as1))) dX6_init_34 (by decide) (by decide) kw_172 rfl rfl rfl (LX6.o (h := h) F0) (rf_n rfl) (rf_f rfl) (Put.A rfl) ?_
  exact Gd.wk g ⟨rfl, trivial⟩
theorem bkX6_init_37 {X : GX} {h : SH} {nc ns : Nat} {P : Out → SH → Prop} {a0 : Nat} (O0 : Ob h a0 6) (hp : P (.inl (none)) (sI (sI h a0 7 (-1)) a0 8 (-1))) : Gd X mX6_init 37 [some (.ref a0)] [] h nc ns P := by
  refine g_aload_n dX6_init_37 rfl ?_
  refine g_iconst (v := (-1)) dX6_init_38 (by decide) ?_
  refine g_put (c := 6) (k := 7) (h1 := sI h a0 7 (-1)) dX6_init_39 (by decide) (by decide) kw_179 rfl O0 rfl rfl (Put.I rfl) ?_
  refine g_aload_n dX6_init_42 rfl ?_
  refine g_iconst (v := (-1)) dX6_init_43 (by decide) ?_
  refine g_put (c := 6) (k := 8) (h1 := sI (sI h a0 7 (-1)) a0 8 (-1)) dX6_init_44 (by decide) (by decide) kw_181 rfl O0 rfl rfl (Put.I rfl) ?_
  exact g_return (st := []) dX6_init_47 rfl hp
theorem bkX6_compose_0 {X : GX} {h : SH} {nc ns : Nat} {P : Out → SH → Prop} {Q : SH → Prop} {a0 : Nat} {a1 : Nat} {a2 : Nat} {x3 : Int32} {a4 : Nat} (F0 : LX6 (Sk h) (a0)) (hN : Cd X mX6_settle [.ref a0, .ref a1, .ref a2] (sI (sI h a0 3 0) a0 5 0) 0 0 (oV Q nX)) (g : ∀ t, Q t → Gd X mX6_compose 16 [some (.ref a0), some (.ref a1), some (.ref a2), some (.int x3), some (.ref a4)] [] (t) nc ns P) : Gd X mX6_compose 0 [some (.ref a0), some (.ref a1), some (.ref a2), some (.int x3), some (.ref a4)] [] h nc ns P := by
  refine g_aload_n dX6_compose_0 rfl ?_
  refine g_iconst (v := 0) dX6_compose_1 (by decide) ?_
  refine g_put (c := 6) (k := 3) (h1 := sI h a0 3 0) dX6_compose_2 (by decide) (by decide) kw_170 rfl (LX6.o (h := h) F0) rfl rfl (Put.I rfl) ?_
  refine g_aload_n dX6_compose_5 rfl ?_
  refine g_iconst (v := 0) dX6_compose_6 (by decide) ?_
  refine g_put (c := 6) (k := 5) (h1 := sI (sI h a0 3 0) a0 5 0) dX6_compose_7 (by decide) (by decide) kw_174 rfl (LX6.o (h := sI h a0 3 0) F0) rfl rfl (Put.I rfl) ?_
  refine g_aload_n dX6_compose_10 rfl ?_
  refine g_aload_n dX6_compose_11 rfl ?_
  refine g_aload_n dX6_compose_12 rfl ?_
  refine Gd.z ?_
  exact g_callV (k := 6) [.ref a1, .ref a2] dX6_compose_13 mfX6_settle ⟨by decide, by decide⟩ kw_939 kw_940 kw_941 rfl (by decide) (Nat.le_of_ble_eq_true rfl) (by intro x hx; cases hx) (LX6.o (h := sI (sI h a0 3 0) a0 5 0) F0) (Nat.le_of_ble_eq_true rfl) hN (fun _ _ q => q.elim) (oV_go (G := fun a b => Gd X mX6_compose 16 _ a b nc ns P) (fun t q => Gd.wk (g t q) ⟨rfl, ⟨rfl, ⟨rfl, ⟨rfl, ⟨rfl, trivial⟩⟩⟩⟩⟩))
theorem bkX6_compose_16 {X : GX} {h : SH} {nc ns : Nat} {P : Out → SH → Prop} {a0 : Nat} {a1 : Nat} {a2 : Nat} {x3 : Int32} {a4 : Nat} (F0 : LX6 (Sk h) (a0)) (kt : ¬ hI h a0 6 = 0 → Gd X mX6_compose 37 [none, none, none, none, none] [] (h) nc ns P) (kf : hI h a0 6 = 0 → Gd X mX6_compose 23 [some (.ref a0), some (.ref a1), some (.ref a2), some (.int x3), some (.ref a4)] [] (h) nc ns P) : Gd X mX6_compose 16 [some (.ref a0), some (.ref a1), some (.ref a2), some (.int x3), some (.ref a4)] [] h nc ns P := by
  refine g_aload_n dX6_compose_16 rfl ?_
  refine g_getI (c := 6) (k := 6) dX6_compose_17 (by decide) (by decide) kw_176 rfl (LX6.o (h := h) F0) ?_
  exact g_if_ne (tgt := 37) dX6_compose_20 (by decide) (fun q => Gd.wk (kt q) trivial) (fun q => Gd.wk (kf q) ⟨rfl, ⟨rfl, ⟨rfl, ⟨rfl, ⟨rfl, trivial⟩⟩⟩⟩⟩)
theorem bkX6_compose_23 {X : GX} {h : SH} {nc ns : Nat} {P : Out → SH → Prop} {Q : SH → Prop} {a0 : Nat} {a1 : Nat} {a2 : Nat} {x3 : Int32} {a4 : Nat} (F0 : LX6 (Sk h) (a0)) (hN : Cd X mX6_numberParts [.ref a0, .ref a1] (h) 0 0 (oV Q nX)) (g : ∀ t, Q t → Gd X mX6_compose 28 [some (.ref a0), some (.ref a1), some (.ref a2), some (.int x3), some (.ref a4)] [] (t) nc ns P) : Gd X mX6_compose 23 [some (.ref a0), some (.ref a1), some (.ref a2), some (.int x3), some (.ref a4)] [] h nc ns P := by
  refine g_aload_n dX6_compose_23 rfl ?_
  refine g_aload_n dX6_compose_24 rfl ?_
  refine Gd.z ?_
  exact g_callV (k := 6) [.ref a1] dX6_compose_25 mfX6_numberParts ⟨by decide, by decide⟩ kw_974 kw_976 kw_37 rfl (by decide) (Nat.le_of_ble_eq_true rfl) (by intro x hx; cases hx) (LX6.o (h := h) F0) (Nat.le_of_ble_eq_true rfl) hN (fun _ _ q => q.elim) (oV_go (G := fun a b => Gd X mX6_compose 28 _ a b nc ns P) (fun t q => Gd.wk (g t q) ⟨rfl, ⟨rfl, ⟨rfl, ⟨rfl, ⟨rfl, trivial⟩⟩⟩⟩⟩))
theorem bkX6_compose_28 {X : GX} {h : SH} {nc ns : Nat} {P : Out → SH → Prop} {Q : SH → Prop} {a0 : Nat} {a1 : Nat} {a2 : Nat} {x3 : Int32} {a4 : Nat} (F0 : LX6 (Sk h) (a0)) (hN : Cd X mX6_printParts [.ref a0, .ref a1, .ref a2, .int x3, .ref a4] (h) 0 0 (oV Q nX)) (g : ∀ t, Q t → Gd X mX6_compose 37 [none, none, none, none, none] [] (t) nc ns P) : Gd X mX6_compose 28 [some (.ref a0), some (.ref a1), some (.ref a2), some (.int x3), some (.ref a4)] [] h nc ns P := by
  refine g_aload_n dX6_compose_28 rfl ?_
  refine g_aload_n dX6_compose_29 rfl ?_
  refine g_aload_n dX6_compose_30 rfl ?_
  refine g_iload_n dX6_compose_31 rfl ?_
  refine g_aload dX6_compose_32 rfl ?_
  refine Gd.z ?_
  exact g_callV (k := 6) [.ref a1, .ref a2, .int x3, .ref a4] dX6_compose_34 mfX6_printParts ⟨by decide, by decide⟩ kw_978 kw_980 kw_38 rfl (by decide) (Nat.le_of_ble_eq_true rfl) (by intro x hx; cases hx) (LX6.o (h := h) F0) (Nat.le_of_ble_eq_true rfl) hN (fun _ _ q => q.elim) (oV_go (G := fun a b => Gd X mX6_compose 37 _ a b nc ns P) (fun t q => Gd.wk (g t q) trivial))
theorem bkX6_compose_37 {X : GX} {h : SH} {nc ns : Nat} {P : Out → SH → Prop} (hp : P (.inl (none)) (h)) : Gd X mX6_compose 37 [none, none, none, none, none] [] h nc ns P := by
  exact g_return (st := []) dX6_compose_37 rfl hp
theorem bkX6_settle_0 {X : GX} {h : SH} {nc ns : Nat} {P : Out → SH → Prop} {a0 : Nat} {a1 : Nat} {a2 : Nat} (g : Gd X mX6_settle 2 [some (.ref a0), some (.ref a1), some (.ref a2), some (.int 0), none] [] (h) nc ns P) : Gd X mX6_settle 0 [some (.ref a0), some (.ref a1), some (.ref a2), none, none] [] h nc ns P := by
  refine g_iconst (v := 0) dX6_settle_0 (by decide) ?_
  refine g_istore_n (L' := [some (.ref a0), some (.ref a1), some (.ref a2), some (.int 0), none]) dX6_settle_1 (by decide) rfl ?_
  exact Gd.wk g ⟨rfl, ⟨rfl, ⟨rfl, ⟨rfl, trivial⟩⟩⟩⟩
theorem bkX6_settle_2 {X : GX} {h : SH} {nc ns : Nat} {P : Out → SH → Prop} {a0 : Nat} {a1 : Nat} {a2 : Nat} {x3 : Int32} (F0 : LX3 (Sk h) (a1)) (kt : hI h a1 7 ≤ x3 → Gd X mX6_settle 43 [some (.ref a0), some (.ref a1), none, none, none] [] (h) nc ns P) (kf : ¬ hI h a1 7 ≤ x3 → Gd X mX6_settle 10 [some (.ref a0), some (.ref a1), some (.ref a2), some (.int x3), none] [] (h) nc ns P) : Gd X mX6_settle 2 [some (.ref a0), some (.ref a1), some (.ref a2), some (.int x3), none] [] h nc ns P := by
  refine g_iload_n dX6_settle_2 rfl ?_
  refine g_aload_n dX6_settle_3 rfl ?_
  refine g_getNI (c := 3) (k := 7) dX6_settle_4 (by decide) (by decide) kn_319 rfl (LX3.o (h := h) F0) ?_
  exact g_icmp_ge (tgt := 43) dX6_settle_7 (by decide) (fun q => Gd.wk (kt q) ⟨rfl, ⟨rfl, trivial⟩⟩) (fun q => Gd.wk (kf q) ⟨rfl, ⟨rfl, ⟨rfl, ⟨rfl, trivial⟩⟩⟩⟩)
theorem bkX6_settle_10 {X : GX} {h : SH} {nc ns : Nat} {P : Out → SH → Prop} {Q : Int32 → SH → Prop} {a0 : Nat} {a1 : Nat} {a2 : Nat} {x3 : Int32} {b4 : Nat} {b5 : Nat} (F0 : LX6 (Sk h) (a0)) (F1 : LX3 (Sk h) (a1)) (i2 : vp_in (x3) 12) (q3 : hA h (a1 + 4) ((x3 : Int32).toNatClampNeg) = some b4) (F4 : LX2 (Sk h) (b4)) (q5 : hA h b4 3 = some b5) (F6 : LX4 (Sk h) (b5)) (hN : Cd X mX4_reckon [.ref b5, .ref a2] (h) 0 0 (oI Q nX)) (g : ∀ r t, Q r t → Gd X mX6_settle 28 [some (.ref a0), some (.ref a1), some (.ref a2), some (.int x3), none] [.int r, .int x3, .ref (a0 + 1)] (t) nc ns P) : Gd X mX6_settle 10 [some (.ref a0), some (.ref a1), some (.ref a2), some (.int x3), none] [] h nc ns P := by
  refine g_aload_n dX6_settle_10 rfl ?_
  refine g_getAs (c := 6) (k := 0) (b := a0 + 1) dX6_settle_11 (by decide) (by decide) kw_166 rfl (LX6.o (h := h) F0) (LX6.r_inside (h := h) F0) ?_
  refine g_iload_n dX6_settle_14 rfl ?_
  refine g_aload_n dX6_settle_15 rfl ?_
  refine g_getNAs (c := 3) (k := 8) (b := a1 + 4) dX6_settle_16 (by decide) (by decide) kn_324 rfl (LX3.o (h := h) F1) (LX3.r_clauses (h := h) F1) ?_
  refine g_iload_n dX6_settle_19 rfl ?_
  refine g_aaloads (k := 25) (b := b4) dX6_settle_20 (by decide) (by decide) (LX3.a_clauses (h := h) F1) i2 q3 ?_
  refine g_getNAs (c := 2) (k := 3) (b := b5) dX6_settle_21 (by decide) (by decide) kn_777 rfl (LX2.o (h := h) F4) q5 ?_
  refine g_aload_n dX6_settle_24 rfl ?_
  refine Gd.z ?_
  exact g_callV (k := 4) [.ref a2] dX6_settle_25 mfX4_reckon ⟨by decide, by decide⟩ kw_943 kw_944 kw_945 rfl (by decide) (Nat.le_of_ble_eq_true rfl) (by intro x hx; cases hx) (LX4.o (h := h) F6) (Nat.le_of_ble_eq_true rfl) hN (fun _ _ q => q.elim) (oI_go (G := fun a b => Gd X mX6_settle 28 _ a b nc ns P) (fun r t q => Gd.wk (g r t q) ⟨rfl, ⟨rfl, ⟨rfl, ⟨rfl, trivial⟩⟩⟩⟩))
theorem bkX6_settle_28 {X : GX} {h : SH} {nc ns : Nat} {P : Out → SH → Prop} {a0 : Nat} {a1 : Nat} {a2 : Nat} {x3 : Int32} {as0 : Nat} {xs1 : Int32} {xs2 : Int32} (kt : xs2 = 0 → Gd X mX6_settle 35 [some (.ref a0), some (.ref a1), some (.ref a2), some (.int x3), none] [.int xs1, .ref as0] (h) nc ns P) (kf : ¬ xs2 = 0 → Gd X mX6_settle 31 [some (.ref a0), some (.ref a1), some (.ref a2), some (.int x3), none] [.int xs1, .ref as0] (h) nc ns P) : Gd X mX6_settle 28 [some (.ref a0), some (.ref a1), some (.ref a2), some (.int x3), none] [.int xs2, .int xs1, .ref as0] h nc ns P := by
  exact g_if_eq (tgt := 35) dX6_settle_28 (by decide) (fun q => Gd.wk (kt q) ⟨rfl, ⟨rfl, ⟨rfl, ⟨rfl, trivial⟩⟩⟩⟩) (fun q => Gd.wk (kf q) ⟨rfl, ⟨rfl, ⟨rfl, ⟨rfl, trivial⟩⟩⟩⟩)
theorem bkX6_settle_31 {X : GX} {h : SH} {nc ns : Nat} {P : Out → SH → Prop} {a0 : Nat} {a1 : Nat} {a2 : Nat} {x3 : Int32} {as0 : Nat} {xs1 : Int32} (g : Gd X mX6_settle 36 [some (.ref a0), some (.ref a1), some (.ref a2), some (.int x3), none] [.int 1, .int xs1, .ref as0] (h) nc ns P) : Gd X mX6_settle 31 [some (.ref a0), some (.ref a1), some (.ref a2), some (.int x3), none] [.int xs1, .ref as0] h nc ns P := by
  refine g_iconst (v := 1) dX6_settle_31 (by decide) ?_
  refine g_goto (tgt := 36) dX6_settle_32 (by decide) ?_
  exact Gd.wk g ⟨rfl, ⟨rfl, ⟨rfl, ⟨rfl, trivial⟩⟩⟩⟩
theorem bkX6_settle_35 {X : GX} {h : SH} {nc ns : Nat} {P : Out → SH → Prop} {a0 : Nat} {a1 : Nat} {a2 : Nat} {x3 : Int32} {as0 : Nat} {xs1 : Int32} (g : Gd X mX6_settle 36 [some (.ref a0), some (.ref a1), some (.ref a2), some (.int x3), none] [.int 0, .int xs1, .ref as0] (h) nc ns P) : Gd X mX6_settle 35 [some (.ref a0), some (.ref a1), some (.ref a2), some (.int x3), none] [.int xs1, .ref as0] h nc ns P := by
  refine g_iconst (v := 0) dX6_settle_35 (by decide) ?_
  exact Gd.wk g ⟨rfl, ⟨rfl, ⟨rfl, ⟨rfl, trivial⟩⟩⟩⟩
theorem bkX6_settle_36 {X : GX} {h : SH} {nc ns : Nat} {P : Out → SH → Prop} {a0 : Nat} {a1 : Nat} {a2 : Nat} {x3 : Int32} {as0 : Nat} {xs1 : Int32} {xs2 : Int32} {n7 : Nat} (B0 : Ar h (as0) 22 n7) (i1 : vp_in (xs1) n7) (g : Gd X mX6_settle 2 [some (.ref a0), some (.ref a1), some (.ref a2), some (.int (x3 + 1)), none] [] (sI h as0 ((xs1 : Int32).toNatClampNeg) (vp_nar .boolean xs2)) nc ns P) : Gd X mX6_settle 36 [some (.ref a0), some (.ref a1), some (.ref a2), some (.int x3), none] [.int xs2, .int xs1, .ref as0] h nc ns P := by
  refine g_zastore dX6_settle_36 B0 i1 ?_
  refine g_iinc (v := x3 + 1) (L' := [some (.ref a0), some (.ref a1), some (.ref a2), some (.int (x3 + 1)), none]) dX6_settle_37 rfl rfl (by decide) rfl ?_
  refine g_goto (tgt := 2) dX6_settle_40 (by decide) ?_
  exact Gd.wk g ⟨rfl, ⟨rfl, ⟨rfl, ⟨rfl, trivial⟩⟩⟩⟩
theorem bkX6_settle_43 {X : GX} {h : SH} {nc ns : Nat} {P : Out → SH → Prop} {a0 : Nat} {a1 : Nat} (g : Gd X mX6_settle 48 [some (.ref a0), some (.ref a1), none, some (.int 1), some (.int 0)] [] (h) nc ns P) : Gd X mX6_settle 43 [some (.ref a0), some (.ref a1), none, none, none] [] h nc ns P := by
  refine g_iconst (v := 1) dX6_settle_43 (by decide) ?_
  refine g_istore_n (L' := [some (.ref a0), some (.ref a1), none, some (.int 1), none]) dX6_settle_44 (by decide) rfl ?_
  refine g_iconst (v := 0) dX6_settle_45 (by decide) ?_
  refine g_istore (L' := [some (.ref a0), some (.ref a1), none, some (.int 1), some (.int 0)]) dX6_settle_46 (by decide) rfl ?_
  exact Gd.wk g ⟨rfl, ⟨rfl, ⟨rfl, ⟨rfl, trivial⟩⟩⟩⟩
theorem bkX6_settle_48 {X : GX} {h : SH} {nc ns : Nat} {P : Out → SH → Prop} {a0 : Nat} {a1 : Nat} {x3 : Int32} {x4 : Int32} (F0 : LX3 (Sk h) (a1)) (kt : hI h a1 7 ≤ x4 → Gd X mX6_settle 73 [some (.ref a0), some (.ref a1), none, none, none] [] (h) nc ns P) (kf : ¬ hI h a1 7 ≤ x4 → Gd X mX6_settle 57 [some (.ref a0), some (.ref a1), none, some (.int x3), some (.int x4)] [] (h) nc ns P) : Gd X mX6_settle 48 [some (.ref a0), some (.ref a1), none, some (.int x3), some (.int x4)] [] h nc ns P := by
  refine g_iload dX6_settle_48 rfl ?_
  refine g_aload_n dX6_settle_50 rfl ?_
  refine g_getNI (c := 3) (k := 7) dX6_settle_51 (by decide) (by decide) kn_319 rfl (LX3.o (h := h) F0) ?_
  exact g_icmp_ge (tgt := 73) dX6_settle_54 (by decide) (fun q => Gd.wk (kt q) ⟨rfl, ⟨rfl, trivial⟩⟩) (fun q => Gd.wk (kf q) ⟨rfl, ⟨rfl, ⟨rfl, ⟨rfl, trivial⟩⟩⟩⟩)
theorem bkX6_settle_57 {X : GX} {h : SH} {nc ns : Nat} {P : Out → SH → Prop} {a0 : Nat} {a1 : Nat} {x3 : Int32} {x4 : Int32} (kt : x3 = 0 → Gd X mX6_settle 73 [some (.ref a0), some (.ref a1), none, none, none] [] (h) nc ns P) (kf : ¬ x3 = 0 → Gd X mX6_settle 61 [some (.ref a0), some (.ref a1), none, none, some (.int x4)] [] (h) nc ns P) : Gd X mX6_settle 57 [some (.ref a0), some (.ref a1), none, some (.int x3), some (.int x4)] [] h nc ns P := by
  refine g_iload_n dX6_settle_57 rfl ?_
  exact g_if_eq (tgt := 73) dX6_settle_58 (by decide) (fun q => Gd.wk (kt q) ⟨rfl, ⟨rfl, trivial⟩⟩) (fun q => Gd.wk (kf q) ⟨rfl, ⟨rfl, ⟨rfl, trivial⟩⟩⟩)
theorem bkX6_settle_61 {X : GX} {h : SH} {nc ns : Nat} {P : Out → SH → Prop} {Q : Int32 → SH → Prop} {a0 : Nat} {a1 : Nat} {x4 : Int32} (F0 : LX6 (Sk h) (a0)) (hN : Cd X mX6_addNeeded [.ref a0, .ref a1] (h) 0 0 (oI Q nX)) (g : ∀ r t, Q r t → Gd X mX6_settle 66 [some (.ref a0), some (.ref a1), none, none, some (.int x4)] [.int r] (t) nc ns P) : Gd X mX6_settle 61 [some (.ref a0), some (.ref a1), none, none, some (.int x4)] [] h nc ns P := by
  refine g_aload_n dX6_settle_61 rfl ?_
  refine g_aload_n dX6_settle_62 rfl ?_
  refine Gd.z ?_
  exact g_callV (k := 6) [.ref a1] dX6_settle_63 mfX6_addNeeded ⟨by decide, by decide⟩ kw_950 kw_952 kw_31 rfl (by decide) (Nat.le_of_ble_eq_true rfl) (by intro x hx; cases hx) (LX6.o (h := h) F0) (Nat.le_of_ble_eq_true rfl) hN (fun _ _ q => q.elim) (oI_go (G := fun a b => Gd X mX6_settle 66 _ a b nc ns P) (fun r t q => Gd.wk (g r t q) ⟨rfl, ⟨rfl, ⟨rfl, trivial⟩⟩⟩))
theorem bkX6_settle_66 {X : GX} {h : SH} {nc ns : Nat} {P : Out → SH → Prop} {a0 : Nat} {a1 : Nat} {x4 : Int32} {xs0 : Int32} (g : Gd X mX6_settle 48 [some (.ref a0), some (.ref a1), none, some (.int xs0), some (.int (x4 + 1))] [] (h) nc ns P) : Gd X mX6_settle 66 [some (.ref a0), some (.ref a1), none, none, some (.int x4)] [.int xs0] h nc ns P := by
  refine g_istore_n (L' := [some (.ref a0), some (.ref a1), none, some (.int xs0), some (.int x4)]) dX6_settle_66 (by decide) rfl ?_
  refine g_iinc (v := x4 + 1) (L' := [some (.ref a0), some (.ref a1), none, some (.int xs0), some (.int (x4 + 1))]) dX6_settle_67 rfl rfl (by decide) rfl ?_
  refine g_goto (tgt := 48) dX6_settle_70 (by decide) ?_
  exact Gd.wk g ⟨rfl, ⟨rfl, ⟨rfl, ⟨rfl, trivial⟩⟩⟩⟩
theorem bkX6_settle_73 {X : GX} {h : SH} {nc ns : Nat} {P : Out → SH → Prop} {Q : SH → Prop} {a0 : Nat} {a1 : Nat} (F0 : LX6 (Sk h) (a0)) (hN : Cd X mX6_findQuarrel [.ref a0, .ref a1] (h) 0 0 (oV Q nX)) (g : ∀ t, Q t → Gd X mX6_settle 78 [none, none, none, none, none] [] (t) nc ns P) : Gd X mX6_settle 73 [some (.ref a0), some (.ref a1), none, none, none] [] h nc ns P := by
  refine g_aload_n dX6_settle_73 rfl ?_
  refine g_aload_n dX6_settle_74 rfl ?_
  refine Gd.z ?_
  exact g_callV (k := 6) [.ref a1] dX6_settle_75 mfX6_findQuarrel ⟨by decide, by decide⟩ kw_954 kw_956 kw_32 rfl (by decide) (Nat.le_of_ble_eq_true rfl) (by intro x hx; cases hx) (LX6.o (h := h) F0) (Nat.le_of_ble_eq_true rfl) hN (fun _ _ q => q.elim) (oV_go (G := fun a b => Gd X mX6_settle 78 _ a b nc ns P) (fun t q => Gd.wk (g t q) trivial))
theorem bkX6_settle_78 {X : GX} {h : SH} {nc ns : Nat} {P : Out → SH → Prop} (hp : P (.inl (none)) (h)) : Gd X mX6_settle 78 [none, none, none, none, none] [] h nc ns P := by
  exact g_return (st := []) dX6_settle_78 rfl hp
theorem bkX6_readsLike_0 {X : GX} {h : SH} {nc ns : Nat} {P : Out → SH → Prop} {a0 : Nat} {a1 : Nat} (F0 : LX6 (Sk h) (a0)) (F1 : LX6 (Sk h) (a1)) (kt : ¬ hI h a0 6 = hI h a1 6 → Gd X mX6_readsLike 44 [none, none, none] [] (h) nc ns P) (kf : hI h a0 6 = hI h a1 6 → Gd X mX6_readsLike 11 [some (.ref a0), some (.ref a1), none] [] (h) nc ns P) : Gd X mX6_readsLike 0 [some (.ref a0), some (.ref a1), none] [] h nc ns P := by
  refine g_aload_n dX6_readsLike_0 rfl ?_
  refine g_getI (c := 6) (k := 6) dX6_readsLike_1 (by decide) (by decide) kw_176 rfl (LX6.o (h := h) F0) ?_
  refine g_aload_n dX6_readsLike_4 rfl ?_
  refine g_getI (c := 6) (k := 6) dX6_readsLike_5 (by decide) (by decide) kw_176 rfl (LX6.o (h := h) F1) ?_
  exact g_icmp_ne (tgt := 44) dX6_readsLike_8 (by decide) (fun q => Gd.wk (kt q) trivial) (fun q => Gd.wk (kf q) ⟨rfl, ⟨rfl, trivial⟩⟩)
theorem bkX6_readsLike_11 {X : GX} {h : SH} {nc ns : Nat} {P : Out → SH → Prop} {a0 : Nat} {a1 : Nat} (F0 : LX6 (Sk h) (a0)) (F1 : LX6 (Sk h) (a1)) (kt : ¬ hI h a0 7 = hI h a1 7 → Gd X mX6_readsLike 44 [none, none, none] [] (h) nc ns P) (kf : hI h a0 7 = hI h a1 7 → Gd X mX6_readsLike 22 [some (.ref a0), some (.ref a1), none] [] (h) nc ns P) : Gd X mX6_readsLike 11 [some (.ref a0), some (.ref a1), none] [] h nc ns P := by
  refine g_aload_n dX6_readsLike_11 rfl ?_
  refine g_getI (c := 6) (k := 7) dX6_readsLike_12 (by decide) (by decide) kw_179 rfl (LX6.o (h := h) F0) ?_
  refine g_aload_n dX6_readsLike_15 rfl ?_
  refine g_getI (c := 6) (k := 7) dX6_readsLike_16 (by decide) (by decide) kw_179 rfl (LX6.o (h := h) F1) ?_
  exact g_icmp_ne (tgt := 44) dX6_readsLike_19 (by decide) (fun q => Gd.wk (kt q) trivial) (fun q => Gd.wk (kf q) ⟨rfl, ⟨rfl, trivial⟩⟩)
theorem bkX6_readsLike_22 {X : GX} {h : SH} {nc ns : Nat} {P : Out → SH → Prop} {a0 : Nat} {a1 : Nat} (F0 : LX6 (Sk h) (a0)) (F1 : LX6 (Sk h) (a1)) (kt : ¬ hI h a0 8 = hI h a1 8 → Gd X mX6_readsLike 44 [none, none, none] [] (h) nc ns P) (kf : hI h a0 8 = hI h a1 8 → Gd X mX6_readsLike 33 [some (.ref a0), some (.ref a1), none] [] (h) nc ns P) : Gd X mX6_readsLike 22 [some (.ref a0), some (.ref a1), none] [] h nc ns P := by
  refine g_aload_n dX6_readsLike_22 rfl ?_
  refine g_getI (c := 6) (k := 8) dX6_readsLike_23 (by decide) (by decide) kw_181 rfl (LX6.o (h := h) F0) ?_
  refine g_aload_n dX6_readsLike_26 rfl ?_
  refine g_getI (c := 6) (k := 8) dX6_readsLike_27 (by decide) (by decide) kw_181 rfl (LX6.o (h := h) F1) ?_
  exact g_icmp_ne (tgt := 44) dX6_readsLike_30 (by decide) (fun q => Gd.wk (kt q) trivial) (fun q => Gd.wk (kf q) ⟨rfl, ⟨rfl, trivial⟩⟩)
theorem bkX6_readsLike_33 {X : GX} {h : SH} {nc ns : Nat} {P : Out → SH → Prop} {a0 : Nat} {a1 : Nat} (F0 : LX6 (Sk h) (a0)) (F1 : LX6 (Sk h) (a1)) (kt : hI h a0 5 = hI h a1 5 → Gd X mX6_readsLike 46 [some (.ref a0), some (.ref a1), none] [] (h) nc ns P) (kf : ¬ hI h a0 5 = hI h a1 5 → Gd X mX6_readsLike 44 [none, none, none] [] (h) nc ns P) : Gd X mX6_readsLike 33 [some (.ref a0), some (.ref a1), none] [] h nc ns P := by
  refine g_aload_n dX6_readsLike_33 rfl ?_
  refine g_getI (c := 6) (k := 5) dX6_readsLike_34 (by decide) (by decide) kw_174 rfl (LX6.o (h := h) F0) ?_
  refine g_aload_n dX6_readsLike_37 rfl ?_
  refine g_getI (c := 6) (k := 5) dX6_readsLike_38 (by decide) (by decide) kw_174 rfl (LX6.o (h := h) F1) ?_
  exact g_icmp_eq (tgt := 46) dX6_readsLike_41 (by decide) (fun q => Gd.wk (kt q) ⟨rfl, ⟨rfl, trivial⟩⟩) (fun q => Gd.wk (kf q) trivial)
theorem bkX6_readsLike_44 {X : GX} {h : SH} {nc ns : Nat} {P : Out → SH → Prop} (hp : P (.inl (some (.int (0)))) (h)) : Gd X mX6_readsLike 44 [none, none, none] [] h nc ns P := by
  refine g_iconst (v := 0) dX6_readsLike_44 (by decide) ?_
  exact g_ireturn (st := []) dX6_readsLike_45 rfl (bl_n (by decide)) hp
theorem bkX6_readsLike_46 {X : GX} {h : SH} {nc ns : Nat} {P : Out → SH → Prop} {a0 : Nat} {a1 : Nat} (g : Gd X mX6_readsLike 48 [some (.ref a0), some (.ref a1), some (.int 0)] [] (h) nc ns P) : Gd X mX6_readsLike 46 [some (.ref a0), some (.ref a1), none] [] h nc ns P := by
  refine g_iconst (v := 0) dX6_readsLike_46 (by decide) ?_
  refine g_istore_n (L' := [some (.ref a0), some (.ref a1), some (.int 0)]) dX6_readsLike_47 (by decide) rfl ?_
  exact Gd.wk g ⟨rfl, ⟨rfl, ⟨rfl, trivial⟩⟩⟩
theorem bkX6_readsLike_48 {X : GX} {h : SH} {nc ns : Nat} {P : Out → SH → Prop} {a0 : Nat} {a1 : Nat} {x2 : Int32} (F0 : LX6 (Sk h) (a0)) (kt : hI h a0 5 ≤ x2 → Gd X mX6_readsLike 79 [none, none, none] [] (h) nc ns P) (kf : ¬ hI h a0 5 ≤ x2 → Gd X mX6_readsLike 56 [some (.ref a0), some (.ref a1), some (.int x2)] [] (h) nc ns P) : Gd X mX6_readsLike 48 [some (.ref a0), some (.ref a1), some (.int x2)] [] h nc ns P := by
  refine g_iload_n dX6_readsLike_48 rfl ?_
  refine g_aload_n dX6_readsLike_49 rfl ?_
  refine g_getI (c := 6) (k := 5) dX6_readsLike_50 (by decide) (by decide) kw_174 rfl (LX6.o (h := h) F0) ?_
  exact g_icmp_ge (tgt := 79) dX6_readsLike_53 (by decide) (fun q => Gd.wk (kt q) trivial) (fun q => Gd.wk (kf q) ⟨rfl, ⟨rfl, ⟨rfl, trivial⟩⟩⟩)
theorem bkX6_readsLike_56 {X : GX} {h : SH} {nc ns : Nat} {P : Out → SH → Prop} {a0 : Nat} {a1 : Nat} {x2 : Int32} (F0 : LX6 (Sk h) (a0)) (i1 : vp_in (x2) 2772) (F2 : LX6 (Sk h) (a1)) (kt : (hI h (a0 + 4) ((x2 : Int32).toNatClampNeg)) = (hI h (a1 + 4) ((x2 : Int32).toNatClampNeg)) → Gd X mX6_readsLike 73 [some (.ref a0), some (.ref a1), some (.int x2)] [] (h) nc ns P) (kf : ¬ (hI h (a0 + 4) ((x2 : Int32).toNatClampNeg)) = (hI h (a1 + 4) ((x2 : Int32).toNatClampNeg)) → Gd X mX6_readsLike 71 [none, none, none] [] (h) nc ns P) : Gd X mX6_readsLike 56 [some (.ref a0), some (.ref a1), some (.int x2)] [] h nc ns P := by
  refine g_aload_n dX6_readsLike_56 rfl ?_
  refine g_getAs (c := 6) (k := 4) (b := a0 + 4) dX6_readsLike_57 (by decide) (by decide) kw_172 rfl (LX6.o (h := h) F0) (LX6.r_signs (h := h) F0) ?_
  refine g_iload_n dX6_readsLike_60 rfl ?_
  refine g_baload dX6_readsLike_61 (LX6.a_signs (h := h) F0) i1 ?_
  refine g_aload_n dX6_readsLike_62 rfl ?_
  refine g_getAs (c := 6) (k := 4) (b := a1 + 4) dX6_readsLike_63 (by decide) (by decide) kw_172 rfl (LX6.o (h := h) F2) (LX6.r_signs (h := h) F2) ?_
  refine g_iload_n dX6_readsLike_66 rfl ?_
  refine g_baload dX6_readsLike_67 (LX6.a_signs (h := h) F2) i1 ?_
  exact g_icmp_eq (tgt := 73) dX6_readsLike_68 (by decide) (fun q => Gd.wk (kt q) ⟨rfl, ⟨rfl, ⟨rfl, trivial⟩⟩⟩) (fun q => Gd.wk (kf q) trivial)
theorem bkX6_readsLike_71 {X : GX} {h : SH} {nc ns : Nat} {P : Out → SH → Prop} (hp : P (.inl (some (.int (0)))) (h)) : Gd X mX6_readsLike 71 [none, none, none] [] h nc ns P := by
  refine g_iconst (v := 0) dX6_readsLike_71 (by decide) ?_
  exact g_ireturn (st := []) dX6_readsLike_72 rfl (bl_n (by decide)) hp
theorem bkX6_readsLike_73 {X : GX} {h : SH} {nc ns : Nat} {P : Out → SH → Prop} {a0 : Nat} {a1 : Nat} {x2 : Int32} (g : Gd X mX6_readsLike 48 [some (.ref a0), some (.ref a1), some (.int (x2 + 1))] [] (h) nc ns P) : Gd X mX6_readsLike 73 [some (.ref a0), some (.ref a1), some (.int x2)] [] h nc ns P := by
  refine g_iinc (v := x2 + 1) (L' := [some (.ref a0), some (.ref a1), some (.int (x2 + 1))]) dX6_readsLike_73 rfl rfl (by decide) rfl ?_
  refine g_goto (tgt := 48) dX6_readsLike_76 (by decide) ?_
  exact Gd.wk g ⟨rfl, ⟨rfl, ⟨rfl, trivial⟩⟩⟩
theorem bkX6_readsLike_79 {X : GX} {h : SH} {nc ns : Nat} {P : Out → SH → Prop} (hp : P (.inl (some (.int (1)))) (h)) : Gd X mX6_readsLike 79 [none, none, none] [] h nc ns P := by
  refine g_iconst (v := 1) dX6_readsLike_79 (by decide) ?_
  exact g_ireturn (st := []) dX6_readsLike_80 rfl (bl_n (by decide)) hp
theorem bkX6_addNeeded_0 {X : GX} {h : SH} {nc ns : Nat} {P : Out → SH → Prop} {a0 : Nat} {a1 : Nat} (g : Gd X mX6_addNeeded 4 [some (.ref a0), some (.ref a1), some (.int 0), some (.int 0), none, none, none] [] (h) nc ns P) : Gd X mX6_addNeeded 0 [some (.ref a0), some (.ref a1), none, none, none, none, none] [] h nc ns P := by
  refine g_iconst (v := 0) dX6_addNeeded_0 (by decide) ?_
  refine g_istore_n (L' := [some (.ref a0), some (.ref a1), some (.int 0), none, none, none, none]) dX6_addNeeded_1 (by decide) rfl ?_
  refine g_iconst (v := 0) dX6_addNeeded_2 (by decide) ?_
  refine g_istore_n (L' := [some (.ref a0), some (.ref a1), some (.int 0), some (.int 0), none, none, none]) dX6_addNeeded_3 (by decide) rfl ?_
  exact Gd.wk g ⟨rfl, ⟨rfl, ⟨rfl, ⟨rfl, trivial⟩⟩⟩⟩
theorem bkX6_addNeeded_4 {X : GX} {h : SH} {nc ns : Nat} {P : Out → SH → Prop} {a0 : Nat} {a1 : Nat} {x2 : Int32} {x3 : Int32} (F0 : LX3 (Sk h) (a1)) (kt : hI h a1 7 ≤ x3 → Gd X mX6_addNeeded 84 [none, none, some (.int x2), none, none, none, none] [] (h) nc ns P) (kf : ¬ hI h a1 7 ≤ x3 → Gd X mX6_addNeeded 12 [some (.ref a0), some (.ref a1), some (.int x2), some (.int x3), none, none, none] [] (h) nc ns P) : Gd X mX6_addNeeded 4 [some (.ref a0), some (.ref a1), some (.int x2), some (.int x3), none, none, none] [] h nc ns P := by
  refine g_iload_n dX6_addNeeded_4 rfl ?_
  refine g_aload_n dX6_addNeeded_5 rfl ?_
  refine g_getNI (c := 3) (k := 7) dX6_addNeeded_6 (by decide) (by decide) kn_319 rfl (LX3.o (h := h) F0) ?_
  exact g_icmp_ge (tgt := 84) dX6_addNeeded_9 (by decide) (fun q => Gd.wk (kt q) ⟨rfl, trivial⟩) (fun q => Gd.wk (kf q) ⟨rfl, ⟨rfl, ⟨rfl, ⟨rfl, trivial⟩⟩⟩⟩)
theorem bkX6_addNeeded_12 {X : GX} {h : SH} {nc ns : Nat} {P : Out → SH → Prop} {a0 : Nat} {a1 : Nat} {x2 : Int32} {x3 : Int32} (F0 : LX3 (Sk h) (a1)) (i1 : vp_in (x3) 12) (g : Gd X mX6_addNeeded 23 [some (.ref a0), some (.ref a1), some (.int x2), some (.int x3), some (va_rf (hA h (a1 + 4) ((x3 : Int32).toNatClampNeg))), some (.int 0), none] [] (h) nc ns P) : Gd X mX6_addNeeded 12 [some (.ref a0), some (.ref a1), some (.int x2), some (.int x3), none, none, none] [] h nc ns P := by
  refine g_aload_n dX6_addNeeded_12 rfl ?_
  refine g_getNAs (c := 3) (k := 8) (b := a1 + 4) dX6_addNeeded_13 (by decide) (by decide) kn_324 rfl (LX3.o (h := h) F0) (LX3.r_clauses (h := h) F0) ?_
  refine g_iload_n dX6_addNeeded_16 rfl ?_
  refine g_aaload (k := 25) dX6_addNeeded_17 (by decide) (by decide) (LX3.a_clauses (h := h) F0) i1 ?_
  refine g_astore (r := (hA h (a1 + 4) ((x3 : Int32).toNatClampNeg))) (L' := [some (.ref a0), some (.ref a1), some (.int x2), some (.int x3), some (va_rf (hA h (a1 + 4) ((x3 : Int32).toNatClampNeg))), none, none]) dX6_addNeeded_18 (by decide) rfl ?_
  refine g_iconst (v := 0) dX6_addNeeded_20 (by decide) ?_
  refine g_istore (L' := [some (.ref a0), some (.ref a1), some (.int x2), some (.int x3), some (va_rf (hA h (a1 + 4) ((x3 : Int32).toNatClampNeg))), some (.int 0), none]) dX6_addNeeded_21 (by decide) (by simp only [st1, st2, cl2_rf]) ?_
  exact Gd.wk g ⟨rfl, ⟨rfl, ⟨rfl, ⟨rfl, ⟨rfl, ⟨rfl, trivial⟩⟩⟩⟩⟩⟩
theorem bkX6_addNeeded_23 {X : GX} {h : SH} {nc ns : Nat} {P : Out → SH → Prop} {a0 : Nat} {a1 : Nat} {x2 : Int32} {x3 : Int32} {r4 : Option Nat} {x5 : Int32} (F0 : LX6 (Sk h) (a0)) (i1 : vp_in (x3) 12) (kt : (hI h (a0 + 1) ((x3 : Int32).toNatClampNeg)) = 0 → Gd X mX6_addNeeded 78 [some (.ref a0), some (.ref a1), some (.int x2), some (.int x3), none, none, none] [] (h) nc ns P) (kf : ¬ (hI h (a0 + 1) ((x3 : Int32).toNatClampNeg)) = 0 → Gd X mX6_addNeeded 32 [some (.ref a0), some (.ref a1), some (.int x2), some (.int x3), some (va_rf r4), some (.int x5), none] [] (h) nc ns P) : Gd X mX6_addNeeded 23 [some (.ref a0), some (.ref a1), some (.int x2), some (.int x3), some (va_rf r4), some (.int x5), none] [] h nc ns P := by
  refine g_aload_n dX6_addNeeded_23 rfl ?_
  refine g_getAs (c := 6) (k := 0) (b := a0 + 1) dX6_addNeeded_24 (by decide) (by decide) kw_166 rfl (LX6.o (h := h) F0) (LX6.r_inside (h := h) F0) ?_
  refine g_iload_n dX6_addNeeded_27 rfl ?_
  refine g_zaload dX6_addNeeded_28 (LX6.a_inside (h := h) F0) i1 ?_
  exact g_if_eq (tgt := 78) dX6_addNeeded_29 (by decide) (fun q => Gd.wk (kt q) ⟨rfl, ⟨rfl, ⟨rfl, ⟨rfl, trivial⟩⟩⟩⟩) (fun q => Gd.wk (kf q) ⟨rfl, ⟨rfl, ⟨rfl, ⟨rfl, ⟨rfl, ⟨rfl, trivial⟩⟩⟩⟩⟩⟩)
theorem bkX6_addNeeded_32 {X : GX} {h : SH} {nc ns : Nat} {P : Out → SH → Prop} {a0 : Nat} {a1 : Nat} {x2 : Int32} {x3 : Int32} {a4 : Nat} {x5 : Int32} (F0 : LX2 (Sk h) (a4)) (kt : hI h a4 5 ≤ x5 → Gd X mX6_addNeeded 78 [some (.ref a0), some (.ref a1), some (.int x2), some (.int x3), none, none, none] [] (h) nc ns P) (kf : ¬ hI h a4 5 ≤ x5 → Gd X mX6_addNeeded 42 [some (.ref a0), some (.ref a1), some (.int x2), some (.int x3), some (.ref a4), some (.int x5), none] [] (h) nc ns P) : Gd X mX6_addNeeded 32 [some (.ref a0), some (.ref a1), some (.int x2), some (.int x3), some (.ref a4), some (.int x5), none] [] h nc ns P := by
  refine g_iload dX6_addNeeded_32 rfl ?_
  refine g_aload dX6_addNeeded_34 rfl ?_
  refine g_getNI (c := 2) (k := 5) dX6_addNeeded_36 (by decide) (by decide) kn_781 rfl (LX2.o (h := h) F0) ?_
  exact g_icmp_ge (tgt := 78) dX6_addNeeded_39 (by decide) (fun q => Gd.wk (kt q) ⟨rfl, ⟨rfl, ⟨rfl, ⟨rfl, trivial⟩⟩⟩⟩) (fun q => Gd.wk (kf q) ⟨rfl, ⟨rfl, ⟨rfl, ⟨rfl, ⟨rfl, ⟨rfl, trivial⟩⟩⟩⟩⟩⟩)
theorem bkX6_addNeeded_42 {X : GX} {h : SH} {nc ns : Nat} {P : Out → SH → Prop} {a0 : Nat} {a1 : Nat} {x2 : Int32} {x3 : Int32} {a4 : Nat} {x5 : Int32} (F0 : LX2 (Sk h) (a4)) (i1 : vp_in (x5) 8) (F2 : LX6 (Sk h) (a0)) (i3 : vp_in (hI h (a4 + 3) ((x5 : Int32).toNatClampNeg)) 12) (kt : ¬ (hI h (a0 + 1) ((hI h (a4 + 3) ((x5 : Int32).toNatClampNeg) : Int32).toNatClampNeg)) = 0 → Gd X mX6_addNeeded 72 [some (.ref a0), some (.ref a1), some (.int x2), some (.int x3), some (.ref a4), some (.int x5), none] [] (h) nc ns P) (kf : (hI h (a0 + 1) ((hI h (a4 + 3) ((x5 : Int32).toNatClampNeg) : Int32).toNatClampNeg)) = 0 → Gd X mX6_addNeeded 62 [some (.ref a0), some (.ref a1), none, some (.int x3), some (.ref a4), some (.int x5), some (.int (hI h (a4 + 3) ((x5 : Int32).toNatClampNeg)))] [] (h) nc ns P) : Gd X mX6_addNeeded 42 [some (.ref a0), some (.ref a1), some (.int x2), some (.int x3), some (.ref a4), some (.int x5), none] [] h nc ns P := by
  refine g_aload dX6_addNeeded_42 rfl ?_
  refine g_getNAs (c := 2) (k := 4) (b := a4 + 3) dX6_addNeeded_44 (by decide) (by decide) kn_779 rfl (LX2.o (h := h) F0) (LX2.r_needs (h := h) F0) ?_
  refine g_iload dX6_addNeeded_47 rfl ?_
  refine g_iaload dX6_addNeeded_49 (LX2.a_needs (h := h) F0) i1 ?_
  refine g_istore (L' := [some (.ref a0), some (.ref a1), some (.int x2), some (.int x3), some (.ref a4), some (.int x5), some (.int (hI h (a4 + 3) ((x5 : Int32).toNatClampNeg)))]) dX6_addNeeded_50 (by decide) rfl ?_
  refine g_aload_n dX6_addNeeded_52 rfl ?_
  refine g_getAs (c := 6) (k := 0) (b := a0 + 1) dX6_addNeeded_53 (by decide) (by decide) kw_166 rfl (LX6.o (h := h) F2) (LX6.r_inside (h := h) F2) ?_
  refine g_iload dX6_addNeeded_56 rfl ?_
  refine g_zaload dX6_addNeeded_58 (LX6.a_inside (h := h) F2) i3 ?_
  exact g_if_ne (tgt := 72) dX6_addNeeded_59 (by decide) (fun q => Gd.wk (kt q) ⟨rfl, ⟨rfl, ⟨rfl, ⟨rfl, ⟨rfl, ⟨rfl, trivial⟩⟩⟩⟩⟩⟩) (fun q => Gd.wk (kf q) ⟨rfl, ⟨rfl, ⟨rfl, ⟨rfl, ⟨rfl, ⟨rfl, trivial⟩⟩⟩⟩⟩⟩)
theorem bkX6_addNeeded_62 {X : GX} {h : SH} {nc ns : Nat} {P : Out → SH → Prop} {a0 : Nat} {a1 : Nat} {x3 : Int32} {r4 : Option Nat} {x5 : Int32} {x6 : Int32} (F0 : LX6 (Sk h) (a0)) (i1 : vp_in (x6) 12) (g : Gd X mX6_addNeeded 72 [some (.ref a0), some (.ref a1), some (.int 1), some (.int x3), some (va_rf r4), some (.int x5), none] [] (sI h (a0 + 1) ((x6 : Int32).toNatClampNeg) (vp_nar .boolean 1)) nc ns P) : Gd X mX6_addNeeded 62 [some (.ref a0), some (.ref a1), none, some (.int x3), some (va_rf r4), some (.int x5), some (.int x6)] [] h nc ns P := by
  refine g_aload_n dX6_addNeeded_62 rfl ?_
  refine g_getAs (c := 6) (k := 0) (b := a0 + 1) dX6_addNeeded_63 (by decide) (by decide) kw_166 rfl (LX6.o (h := h) F0) (LX6.r_inside (h := h) F0) ?_
  refine g_iload dX6_addNeeded_66 rfl ?_
  refine g_iconst (v := 1) dX6_addNeeded_68 (by decide) ?_
  refine g_zastore dX6_addNeeded_69 (LX6.a_inside (h := h) F0) i1 ?_
  refine g_iconst (v := 1) dX6_addNeeded_70 (by decide) ?_
  refine g_istore_n (L' := [some (.ref a0), some (.ref a1), some (.int 1), some (.int x3), some (va_rf r4), some (.int x5), some (.int x6)]) dX6_addNeeded_71 (by decide) rfl ?_
  exact Gd.wk g ⟨rfl, ⟨rfl, ⟨rfl, ⟨rfl, ⟨rfl, ⟨rfl, trivial⟩⟩⟩⟩⟩⟩
theorem bkX6_addNeeded_72 {X : GX} {h : SH} {nc ns : Nat} {P : Out → SH → Prop} {a0 : Nat} {a1 : Nat} {x2 : Int32} {x3 : Int32} {r4 : Option Nat} {x5 : Int32} (g : Gd X mX6_addNeeded 23 [some (.ref a0), some (.ref a1), some (.int x2), some (.int x3), some (va_rf r4), some (.int (x5 + 1)), none] [] (h) nc ns P) : Gd X mX6_addNeeded 72 [some (.ref a0), some (.ref a1), some (.int x2), some (.int x3), some (va_rf r4), some (.int x5), none] [] h nc ns P := by
  refine g_iinc (v := x5 + 1) (L' := [some (.ref a0), some (.ref a1), some (.int x2), some (.int x3), some (va_rf r4), some (.int (x5 + 1)), none]) dX6_addNeeded_72 rfl rfl (by decide) (by simp only [st1, st2, cl2_rf]) ?_
  refine g_goto (tgt := 23) dX6_addNeeded_75 (by decide) ?_
  exact Gd.wk g ⟨rfl, ⟨rfl, ⟨rfl, ⟨rfl, ⟨rfl, ⟨rfl, trivial⟩⟩⟩⟩⟩⟩
theorem bkX6_addNeeded_78 {X : GX} {h : SH} {nc ns : Nat} {P : Out → SH → Prop} {a0 : Nat} {a1 : Nat} {x2 : Int32} {x3 : Int32} (g : Gd X mX6_addNeeded 4 [some (.ref a0), some (.ref a1), some (.int x2), some (.int (x3 + 1)), none, none, none] [] (h) nc ns P) : Gd X mX6_addNeeded 78 [some (.ref a0), some (.ref a1), some (.int x2), some (.int x3), none, none, none] [] h nc ns P := by
  refine g_iinc (v := x3 + 1) (L' := [some (.ref a0), some (.ref a1), some (.int x2), some (.int (x3 + 1)), none, none, none]) dX6_addNeeded_78 rfl rfl (by decide) rfl ?_
  refine g_goto (tgt := 4) dX6_addNeeded_81 (by decide) ?_
  exact Gd.wk g ⟨rfl, ⟨rfl, ⟨rfl, ⟨rfl, trivial⟩⟩⟩⟩
theorem bkX6_addNeeded_84 {X : GX} {h : SH} {nc ns : Nat} {P : Out → SH → Prop} {x2 : Int32} (w0 : x2 = 0 ∨ x2 = 1) (hp : P (.inl (some (.int (x2)))) (h)) : Gd X mX6_addNeeded 84 [none, none, some (.int x2), none, none, none, none] [] h nc ns P := by
  refine g_iload_n dX6_addNeeded_84 rfl ?_
  exact g_ireturn (st := []) dX6_addNeeded_85 rfl (bl_n w0) hp
theorem bkX6_findQuarrel_0 {X : GX} {h : SH} {nc ns : Nat} {P : Out → SH → Prop} {Q : Int32 → SH → Prop} {a0 : Nat} {a1 : Nat} (F0 : LX6 (Sk h) (a0)) (hN : Cd X mX6_findMissing [.ref a0, .ref a1] (sI (sI (sI h a0 6 0) a0 7 (-1)) a0 8 (-1)) 0 0 (oI Q nX)) (g : ∀ r t, Q r t → Gd X mX6_findQuarrel 20 [some (.ref a0), some (.ref a1), none] [.int r] (t) nc ns P) : Gd X mX6_findQuarrel 0 [some (.ref a0), some (.ref a1), none] [] h nc ns P := by
  refine g_aload_n dX6_findQuarrel_0 rfl ?_
  refine g_iconst (v := 0) dX6_findQuarrel_1 (by decide) ?_
  refine g_put (c := 6) (k := 6) (h1 := sI h a0 6 0) dX6_findQuarrel_2 (by decide) (by decide) kw_176 rfl (LX6.o (h := h) F0) rfl rfl (Put.I rfl) ?_
  refine g_aload_n dX6_findQuarrel_5 rfl ?_
  refine g_iconst (v := (-1)) dX6_findQuarrel_6 (by decide) ?_
  refine g_put (c := 6) (k := 7) (h1 := sI (sI h a0 6 0) a0 7 (-1)) dX6_findQuarrel_7 (by decide) (by decide) kw_179 rfl (LX6.o (h := sI h a0 6 0) F0) rfl rfl (Put.I rfl) ?_
  refine g_aload_n dX6_findQuarrel_10 rfl ?_
  refine g_iconst (v := (-1)) dX6_findQuarrel_11 (by decide) ?_
  refine g_put (c := 6) (k := 8) (h1 := sI (sI (sI h a0 6 0) a0 7 (-1)) a0 8 (-1)) dX6_findQuarrel_12 (by decide) (by decide) kw_181 rfl (LX6.o (h := sI (sI h a0 6 0) a0 7 (-1)) F0) rfl rfl (Put.I rfl) ?_
  refine g_aload_n dX6_findQuarrel_15 rfl ?_
  refine g_aload_n dX6_findQuarrel_16 rfl ?_
  refine Gd.z ?_
  exact g_callV (k := 6) [.ref a1] dX6_findQuarrel_17 mfX6_findMissing ⟨by decide, by decide⟩ kw_958 kw_960 kw_33 rfl (by decide) (Nat.le_of_ble_eq_true rfl) (by intro x hx; cases hx) (LX6.o (h := sI (sI (sI h a0 6 0) a0 7 (-1)) a0 8 (-1)) F0) (Nat.le_of_ble_eq_true rfl) hN (fun _ _ q => q.elim) (oI_go (G := fun a b => Gd X mX6_findQuarrel 20 _ a b nc ns P) (fun r t q => Gd.wk (g r t q) ⟨rfl, ⟨rfl, trivial⟩⟩))
theorem bkX6_findQuarrel_20 {X : GX} {h : SH} {nc ns : Nat} {P : Out → SH → Prop} {a0 : Nat} {a1 : Nat} {xs0 : Int32} (kt : ¬ xs0 = 0 → Gd X mX6_findQuarrel 39 [some (.ref a0), some (.ref a1), none] [] (h) nc ns P) (kf : xs0 = 0 → Gd X mX6_findQuarrel 23 [some (.ref a0), some (.ref a1), none] [] (h) nc ns P) : Gd X mX6_findQuarrel 20 [some (.ref a0), some (.ref a1), none] [.int xs0] h nc ns P := by
  exact g_if_ne (tgt := 39) dX6_findQuarrel_20 (by decide) (fun q => Gd.wk (kt q) ⟨rfl, ⟨rfl, trivial⟩⟩) (fun q => Gd.wk (kf q) ⟨rfl, ⟨rfl, trivial⟩⟩)
theorem bkX6_findQuarrel_23 {X : GX} {h : SH} {nc ns : Nat} {P : Out → SH → Prop} {Q : Int32 → SH → Prop} {a0 : Nat} {a1 : Nat} (F0 : LX6 (Sk h) (a0)) (hN : Cd X mX6_findBarred [.ref a0, .ref a1] (h) 0 0 (oI Q nX)) (g : ∀ r t, Q r t → Gd X mX6_findQuarrel 28 [some (.ref a0), some (.ref a1), none] [.int r] (t) nc ns P) : Gd X mX6_findQuarrel 23 [some (.ref a0), some (.ref a1), none] [] h nc ns P := by
  refine g_aload_n dX6_findQuarrel_23 rfl ?_
  refine g_aload_n dX6_findQuarrel_24 rfl ?_
  refine Gd.z ?_
  exact g_callV (k := 6) [.ref a1] dX6_findQuarrel_25 mfX6_findBarred ⟨by decide, by decide⟩ kw_962 kw_964 kw_34 rfl (by decide) (Nat.le_of_ble_eq_true rfl) (by intro x hx; cases hx) (LX6.o (h := h) F0) (Nat.le_of_ble_eq_true rfl) hN (fun _ _ q => q.elim) (oI_go (G := fun a b => Gd X mX6_findQuarrel 28 _ a b nc ns P) (fun r t q => Gd.wk (g r t q) ⟨rfl, ⟨rfl, trivial⟩⟩))
theorem bkX6_findQuarrel_28 {X : GX} {h : SH} {nc ns : Nat} {P : Out → SH → Prop} {a0 : Nat} {a1 : Nat} {xs0 : Int32} (kt : ¬ xs0 = 0 → Gd X mX6_findQuarrel 39 [some (.ref a0), some (.ref a1), none] [] (h) nc ns P) (kf : xs0 = 0 → Gd X mX6_findQuarrel 31 [some (.ref a0), some (.ref a1), none] [] (h) nc ns P) : Gd X mX6_findQuarrel 28 [some (.ref a0), some (.ref a1), none] [.int xs0] h nc ns P := by
  exact g_if_ne (tgt := 39) dX6_findQuarrel_28 (by decide) (fun q => Gd.wk (kt q) ⟨rfl, ⟨rfl, trivial⟩⟩) (fun q => Gd.wk (kf q) ⟨rfl, ⟨rfl, trivial⟩⟩)
theorem bkX6_findQuarrel_31 {X : GX} {h : SH} {nc ns : Nat} {P : Out → SH → Prop} {Q : Int32 → SH → Prop} {a0 : Nat} {a1 : Nat} (F0 : LX6 (Sk h) (a0)) (hN : Cd X mX6_findBadReference [.ref a0, .ref a1] (h) 0 0 (oI Q nX)) (g : ∀ r t, Q r t → Gd X mX6_findQuarrel 36 [some (.ref a0), some (.ref a1), none] [.int r] (t) nc ns P) : Gd X mX6_findQuarrel 31 [some (.ref a0), some (.ref a1), none] [] h nc ns P := by
  refine g_aload_n dX6_findQuarrel_31 rfl ?_
  refine g_aload_n dX6_findQuarrel_32 rfl ?_
  refine Gd.z ?_
  exact g_callV (k := 6) [.ref a1] dX6_findQuarrel_33 mfX6_findBadReference ⟨by decide, by decide⟩ kw_966 kw_968 kw_35 rfl (by decide) (Nat.le_of_ble_eq_true rfl) (by intro x hx; cases hx) (LX6.o (h := h) F0) (Nat.le_of_ble_eq_true rfl) hN (fun _ _ q => q.elim) (oI_go (G := fun a b => Gd X mX6_findQuarrel 36 _ a b nc ns P) (fun r t q => Gd.wk (g r t q) ⟨rfl, ⟨rfl, trivial⟩⟩))
theorem bkX6_findQuarrel_36 {X : GX} {h : SH} {nc ns : Nat} {P : Out → SH → Prop} {a0 : Nat} {a1 : Nat} {xs0 : Int32} (kt : xs0 = 0 → Gd X mX6_findQuarrel 43 [some (.ref a0), some (.ref a1), none] [] (h) nc ns P) (kf : ¬ xs0 = 0 → Gd X mX6_findQuarrel 39 [some (.ref a0), some (.ref a1), none] [] (h) nc ns P) : Gd X mX6_findQuarrel 36 [some (.ref a0), some (.ref a1), none] [.int xs0] h nc ns P := by
  exact g_if_eq (tgt := 43) dX6_findQuarrel_36 (by decide) (fun q => Gd.wk (kt q) ⟨rfl, ⟨rfl, trivial⟩⟩) (fun q => Gd.wk (kf q) ⟨rfl, ⟨rfl, trivial⟩⟩)
theorem bkX6_findQuarrel_39 {X : GX} {h : SH} {nc ns : Nat} {P : Out → SH → Prop} {a0 : Nat} {a1 : Nat} (g : Gd X mX6_findQuarrel 44 [some (.ref a0), some (.ref a1), none] [.int 1] (h) nc ns P) : Gd X mX6_findQuarrel 39 [some (.ref a0), some (.ref a1), none] [] h nc ns P := by
  refine g_iconst (v := 1) dX6_findQuarrel_39 (by decide) ?_
  refine g_goto (tgt := 44) dX6_findQuarrel_40 (by decide) ?_
  exact Gd.wk g ⟨rfl, ⟨rfl, trivial⟩⟩
theorem bkX6_findQuarrel_43 {X : GX} {h : SH} {nc ns : Nat} {P : Out → SH → Prop} {a0 : Nat} {a1 : Nat} (g : Gd X mX6_findQuarrel 44 [some (.ref a0), some (.ref a1), none] [.int 0] (h) nc ns P) : Gd X mX6_findQuarrel 43 [some (.ref a0), some (.ref a1), none] [] h nc ns P := by
  refine g_iconst (v := 0) dX6_findQuarrel_43 (by decide) ?_
  exact Gd.wk g ⟨rfl, ⟨rfl, trivial⟩⟩
theorem bkX6_findQuarrel_44 {X : GX} {h : SH} {nc ns : Nat} {P : Out → SH → Prop} {a0 : Nat} {a1 : Nat} {xs0 : Int32} (kt : ¬ xs0 = 0 → Gd X mX6_findQuarrel 62 [none, none, none] [] (h) nc ns P) (kf : xs0 = 0 → Gd X mX6_findQuarrel 49 [some (.ref a0), some (.ref a1), none] [] (h) nc ns P) : Gd X mX6_findQuarrel 44 [some (.ref a0), some (.ref a1), none] [.int xs0] h nc ns P := by
  refine g_istore_n (L' := [some (.ref a0), some (.ref a1), some (.int xs0)]) dX6_findQuarrel_44 (by decide) rfl ?_
  refine g_iload_n dX6_findQuarrel_45 rfl ?_
  exact g_if_ne (tgt := 62) dX6_findQuarrel_46 (by decide) (fun q => Gd.wk (kt q) trivial) (fun q => Gd.wk (kf q) ⟨rfl, ⟨rfl, trivial⟩⟩)
theorem bkX6_findQuarrel_49 {X : GX} {h : SH} {nc ns : Nat} {P : Out → SH → Prop} {Q : Int32 → SH → Prop} {a0 : Nat} {a1 : Nat} (F0 : LX6 (Sk h) (a0)) (hN : Cd X mX6_isEmpty [.ref a0, .ref a1] (h) 0 0 (oI Q nX)) (g : ∀ r t, Q r t → Gd X mX6_findQuarrel 54 [some (.ref a0), none, none] [.int r] (t) nc ns P) : Gd X mX6_findQuarrel 49 [some (.ref a0), some (.ref a1), none] [] h nc ns P := by
  refine g_aload_n dX6_findQuarrel_49 rfl ?_
  refine g_aload_n dX6_findQuarrel_50 rfl ?_
  refine Gd.z ?_
  exact g_callV (k := 6) [.ref a1] dX6_findQuarrel_51 mfX6_isEmpty ⟨by decide, by decide⟩ kw_970 kw_972 kw_36 rfl (by decide) (Nat.le_of_ble_eq_true rfl) (by intro x hx; cases hx) (LX6.o (h := h) F0) (Nat.le_of_ble_eq_true rfl) hN (fun _ _ q => q.elim) (oI_go (G := fun a b => Gd X mX6_findQuarrel 54 _ a b nc ns P) (fun r t q => Gd.wk (g r t q) ⟨rfl, trivial⟩))
theorem bkX6_findQuarrel_54 {X : GX} {h : SH} {nc ns : Nat} {P : Out → SH → Prop} {a0 : Nat} {xs0 : Int32} (kt : xs0 = 0 → Gd X mX6_findQuarrel 62 [none, none, none] [] (h) nc ns P) (kf : ¬ xs0 = 0 → Gd X mX6_findQuarrel 57 [some (.ref a0), none, none] [] (h) nc ns P) : Gd X mX6_findQuarrel 54 [some (.ref a0), none, none] [.int xs0] h nc ns P := by
  exact g_if_eq (tgt := 62) dX6_findQuarrel_54 (by decide) (fun q => Gd.wk (kt q) trivial) (fun q => Gd.wk (kf q) ⟨rfl, trivial⟩)
theorem bkX6_findQuarrel_57 {X : GX} {h : SH} {nc ns : Nat} {P : Out → SH → Prop} {a0 : Nat} (F0 : LX6 (Sk h) (a0)) (g : Gd X mX6_findQuarrel 62 [none, none, none] [] (sI h a0 6 4) nc ns P) : Gd X mX6_findQuarrel 57 [some (.ref a0), none, none] [] h nc ns P := by
  refine g_aload_n dX6_findQuarrel_57 rfl ?_
  refine g_iconst (v := 4) dX6_findQuarrel_58 (by decide) ?_
  refine g_put (c := 6) (k := 6) (h1 := sI h a0 6 4) dX6_findQuarrel_59 (by decide) (by decide) kw_176 rfl (LX6.o (h := h) F0) rfl rfl (Put.I rfl) ?_
  exact Gd.wk g trivial
theorem bkX6_findQuarrel_62 {X : GX} {h : SH} {nc ns : Nat} {P : Out → SH → Prop} (hp : P (.inl (none)) (h)) : Gd X mX6_findQuarrel 62 [none, none, none] [] h nc ns P := by
  exact g_return (st := []) dX6_findQuarrel_62 rfl hp
theorem bkX6_findMissing_0 {X : GX} {h : SH} {nc ns : Nat} {P : Out → SH → Prop} {a0 : Nat} {a1 : Nat} (g : Gd X mX6_findMissing 2 [some (.ref a0), some (.ref a1), some (.int 0)] [] (h) nc ns P) : Gd X mX6_findMissing 0 [some (.ref a0), some (.ref a1), none] [] h nc ns P := by
  refine g_iconst (v := 0) dX6_findMissing_0 (by decide) ?_
  refine g_istore_n (L' := [some (.ref a0), some (.ref a1), some (.int 0)]) dX6_findMissing_1 (by decide) rfl ?_
  exact Gd.wk g ⟨rfl, ⟨rfl, ⟨rfl, trivial⟩⟩⟩
theorem bkX6_findMissing_2 {X : GX} {h : SH} {nc ns : Nat} {P : Out → SH → Prop} {a0 : Nat} {a1 : Nat} {x2 : Int32} (F0 : LX3 (Sk h) (a1)) (kt : hI h a1 7 ≤ x2 → Gd X mX6_findMissing 49 [none, none, none] [] (h) nc ns P) (kf : ¬ hI h a1 7 ≤ x2 → Gd X mX6_findMissing 10 [some (.ref a0), some (.ref a1), some (.int x2)] [] (h) nc ns P) : Gd X mX6_findMissing 2 [some (.ref a0), some (.ref a1), some (.int x2)] [] h nc ns P := by
  refine g_iload_n dX6_findMissing_2 rfl ?_
  refine g_aload_n dX6_findMissing_3 rfl ?_
  refine g_getNI (c := 3) (k := 7) dX6_findMissing_4 (by decide) (by decide) kn_319 rfl (LX3.o (h := h) F0) ?_
  exact g_icmp_ge (tgt := 49) dX6_findMissing_7 (by decide) (fun q => Gd.wk (kt q) trivial) (fun q => Gd.wk (kf q) ⟨rfl, ⟨rfl, ⟨rfl, trivial⟩⟩⟩)
theorem bkX6_findMissing_10 {X : GX} {h : SH} {nc ns : Nat} {P : Out → SH → Prop} {a0 : Nat} {a1 : Nat} {x2 : Int32} {b3 : Nat} (F0 : LX3 (Sk h) (a1)) (i1 : vp_in (x2) 12) (q2 : hA h (a1 + 4) ((x2 : Int32).toNatClampNeg) = some b3) (F3 : LX2 (Sk h) (b3)) (kt : hI h b3 2 = 0 → Gd X mX6_findMissing 43 [some (.ref a0), some (.ref a1), some (.int x2)] [] (h) nc ns P) (kf : ¬ hI h b3 2 = 0 → Gd X mX6_findMissing 22 [some (.ref a0), some (.ref a1), some (.int x2)] [] (h) nc ns P) : Gd X mX6_findMissing 10 [some (.ref a0), some (.ref a1), some (.int x2)] [] h nc ns P := by
  refine g_aload_n dX6_findMissing_10 rfl ?_
  refine g_getNAs (c := 3) (k := 8) (b := a1 + 4) dX6_findMissing_11 (by decide) (by decide) kn_324 rfl (LX3.o (h := h) F0) (LX3.r_clauses (h := h) F0) ?_
  refine g_iload_n dX6_findMissing_14 rfl ?_
  refine g_aaloads (k := 25) (b := b3) dX6_findMissing_15 (by decide) (by decide) (LX3.a_clauses (h := h) F0) i1 q2 ?_
  refine g_getNI (c := 2) (k := 2) dX6_findMissing_16 (by decide) (by decide) kn_775 rfl (LX2.o (h := h) F3) ?_
  exact g_if_eq (tgt := 43) dX6_findMissing_19 (by decide) (fun q => Gd.wk (kt q) ⟨rfl, ⟨rfl, ⟨rfl, trivial⟩⟩⟩) (fun q => Gd.wk (kf q) ⟨rfl, ⟨rfl, ⟨rfl, trivial⟩⟩⟩)
theorem bkX6_findMissing_22 {X : GX} {h : SH} {nc ns : Nat} {P : Out → SH → Prop} {a0 : Nat} {a1 : Nat} {x2 : Int32} (F0 : LX6 (Sk h) (a0)) (i1 : vp_in (x2) 12) (kt : ¬ (hI h (a0 + 1) ((x2 : Int32).toNatClampNeg)) = 0 → Gd X mX6_findMissing 43 [some (.ref a0), some (.ref a1), some (.int x2)] [] (h) nc ns P) (kf : (hI h (a0 + 1) ((x2 : Int32).toNatClampNeg)) = 0 → Gd X mX6_findMissing 31 [some (.ref a0), none, some (.int x2)] [] (h) nc ns P) : Gd X mX6_findMissing 22 [some (.ref a0), some (.ref a1), some (.int x2)] [] h nc ns P := by
  refine g_aload_n dX6_findMissing_22 rfl ?_
  refine g_getAs (c := 6) (k := 0) (b := a0 + 1) dX6_findMissing_23 (by decide) (by decide) kw_166 rfl (LX6.o (h := h) F0) (LX6.r_inside (h := h) F0) ?_
  refine g_iload_n dX6_findMissing_26 rfl ?_
  refine g_zaload dX6_findMissing_27 (LX6.a_inside (h := h) F0) i1 ?_
  exact g_if_ne (tgt := 43) dX6_findMissing_28 (by decide) (fun q => Gd.wk (kt q) ⟨rfl, ⟨rfl, ⟨rfl, trivial⟩⟩⟩) (fun q => Gd.wk (kf q) ⟨rfl, ⟨rfl, trivial⟩⟩)
theorem bkX6_findMissing_31 {X : GX} {h : SH} {nc ns : Nat} {P : Out → SH → Prop} {a0 : Nat} {x2 : Int32} (F0 : LX6 (Sk h) (a0)) (hp : P (.inl (some (.int (1)))) (sI (sI h a0 6 1) a0 7 x2)) : Gd X mX6_findMissing 31 [some (.ref a0), none, some (.int x2)] [] h nc ns P := by
  refine g_aload_n dX6_findMissing_31 rfl ?_
  refine g_iconst (v := 1) dX6_findMissing_32 (by decide) ?_
  refine g_put (c := 6) (k := 6) (h1 := sI h a0 6 1) dX6_findMissing_33 (by decide) (by decide) kw_176 rfl (LX6.o (h := h) F0) rfl rfl (Put.I rfl) ?_
  refine g_aload_n dX6_findMissing_36 rfl ?_
  refine g_iload_n dX6_findMissing_37 rfl ?_
  refine g_put (c := 6) (k := 7) (h1 := sI (sI h a0 6 1) a0 7 x2) dX6_findMissing_38 (by decide) (by decide) kw_179 rfl (LX6.o (h := sI h a0 6 1) F0) rfl rfl (Put.I rfl) ?_
  refine g_iconst (v := 1) dX6_findMissing_41 (by decide) ?_
  exact g_ireturn (st := []) dX6_findMissing_42 rfl (bl_n (by decide)) hp
theorem bkX6_findMissing_43 {X : GX} {h : SH} {nc ns : Nat} {P : Out → SH → Prop} {a0 : Nat} {a1 : Nat} {x2 : Int32} (g : Gd X mX6_findMissing 2 [some (.ref a0), some (.ref a1), some (.int (x2 + 1))] [] (h) nc ns P) : Gd X mX6_findMissing 43 [some (.ref a0), some (.ref a1), some (.int x2)] [] h nc ns P := by
  refine g_iinc (v := x2 + 1) (L' := [some (.ref a0), some (.ref a1), some (.int (x2 + 1))]) dX6_findMissing_43 rfl rfl (by decide) rfl ?_
  refine g_goto (tgt := 2) dX6_findMissing_46 (by decide) ?_
  exact Gd.wk g ⟨rfl, ⟨rfl, ⟨rfl, trivial⟩⟩⟩
theorem bkX6_findMissing_49 {X : GX} {h : SH} {nc ns : Nat} {P : Out → SH → Prop} (hp : P (.inl (some (.int (0)))) (h)) : Gd X mX6_findMissing 49 [none, none, none] [] h nc ns P := by
  refine g_iconst (v := 0) dX6_findMissing_49 (by decide) ?_
  exact g_ireturn (st := []) dX6_findMissing_50 rfl (bl_n (by decide)) hp
theorem bkX6_findBarred_0 {X : GX} {h : SH} {nc ns : Nat} {P : Out → SH → Prop} {a0 : Nat} {a1 : Nat} (g : Gd X mX6_findBarred 2 [some (.ref a0), some (.ref a1), some (.int 0), none, none, none] [] (h) nc ns P) : Gd X mX6_findBarred 0 [some (.ref a0), some (.ref a1), none, none, none, none] [] h nc ns P := by
  refine g_iconst (v := 0) dX6_findBarred_0 (by decide) ?_
  refine g_istore_n (L' := [some (.ref a0), some (.ref a1), some (.int 0), none, none, none]) dX6_findBarred_1 (by decide) rfl ?_
  exact Gd.wk g ⟨rfl, ⟨rfl, ⟨rfl, trivial⟩⟩⟩
theorem bkX6_findBarred_2 {X : GX} {h : SH} {nc ns : Nat} {P : Out → SH → Prop} {a0 : Nat} {a1 : Nat} {x2 : Int32} (F0 : LX3 (Sk h) (a1)) (kt : hI h a1 7 ≤ x2 → Gd X mX6_findBarred 93 [none, none, none, none, none, none] [] (h) nc ns P) (kf : ¬ hI h a1 7 ≤ x2 → Gd X mX6_findBarred 10 [some (.ref a0), some (.ref a1), some (.int x2), none, none, none] [] (h) nc ns P) : Gd X mX6_findBarred 2 [some (.ref a0), some (.ref a1), some (.int x2), none, none, none] [] h nc ns P := by
  refine g_iload_n dX6_findBarred_2 rfl ?_
  refine g_aload_n dX6_findBarred_3 rfl ?_
  refine g_getNI (c := 3) (k := 7) dX6_findBarred_4 (by decide) (by decide) kn_319 rfl (LX3.o (h := h) F0) ?_
  exact g_icmp_ge (tgt := 93) dX6_findBarred_7 (by decide) (fun q => Gd.wk (kt q) trivial) (fun q => Gd.wk (kf q) ⟨rfl, ⟨rfl, ⟨rfl, trivial⟩⟩⟩)
theorem bkX6_findBarred_10 {X : GX} {h : SH} {nc ns : Nat} {P : Out → SH → Prop} {a0 : Nat} {a1 : Nat} {x2 : Int32} (F0 : LX3 (Sk h) (a1)) (i1 : vp_in (x2) 12) (g : Gd X mX6_findBarred 20 [some (.ref a0), some (.ref a1), some (.int x2), some (va_rf (hA h (a1 + 4) ((x2 : Int32).toNatClampNeg))), some (.int 0), none] [] (h) nc ns P) : Gd X mX6_findBarred 10 [some (.ref a0), some (.ref a1), some (.int x2), none, none, none] [] h nc ns P := by
  refine g_aload_n dX6_findBarred_10 rfl ?_
  refine g_getNAs (c := 3) (k := 8) (b := a1 + 4) dX6_findBarred_11 (by decide) (by decide) kn_324 rfl (LX3.o (h := h) F0) (LX3.r_clauses (h := h) F0) ?_
  refine g_iload_n dX6_findBarred_14 rfl ?_
  refine g_aaload (k := 25) dX6_findBarred_15 (by decide) (by decide) (LX3.a_clauses (h := h) F0) i1 ?_
  refine g_astore_n (r := (hA h (a1 + 4) ((x2 : Int32).toNatClampNeg))) (L' := [some (.ref a0), some (.ref a1), some (.int x2), some (va_rf (hA h (a1 + 4) ((x2 : Int32).toNatClampNeg))), none, none]) dX6_findBarred_16 (by decide) rfl ?_
  refine g_iconst (v := 0) dX6_findBarred_17 (by decide) ?_
  refine g_istore (L' := [some (.ref a0), some (.ref a1), some (.int x2), some (va_rf (hA h (a1 + 4) ((x2 : Int32).toNatClampNeg))), some (.int 0), none]) dX6_findBarred_18 (by decide) (by simp only [st1, st2, cl2_rf]) ?_
  exact Gd.wk g ⟨rfl, ⟨rfl, ⟨rfl, ⟨rfl, ⟨rfl, trivial⟩⟩⟩⟩⟩
theorem bkX6_findBarred_20 {X : GX} {h : SH} {nc ns : Nat} {P : Out → SH → Prop} {a0 : Nat} {a1 : Nat} {x2 : Int32} {r3 : Option Nat} {x4 : Int32} (F0 : LX6 (Sk h) (a0)) (i1 : vp_in (x2) 12) (kt : (hI h (a0 + 1) ((x2 : Int32).toNatClampNeg)) = 0 → Gd X mX6_findBarred 87 [some (.ref a0), some (.ref a1), some (.int x2), none, none, none] [] (h) nc ns P) (kf : ¬ (hI h (a0 + 1) ((x2 : Int32).toNatClampNeg)) = 0 → Gd X mX6_findBarred 29 [some (.ref a0), some (.ref a1), some (.int x2), some (va_rf r3), some (.int x4), none] [] (h) nc ns P) : Gd X mX6_findBarred 20 [some (.ref a0), some (.ref a1), some (.int x2), some (va_rf r3), some (.int x4), none] [] h nc ns P := by
  refine g_aload_n dX6_findBarred_20 rfl ?_
  refine g_getAs (c := 6) (k := 0) (b := a0 + 1) dX6_findBarred_21 (by decide) (by decide) kw_166 rfl (LX6.o (h := h) F0) (LX6.r_inside (h := h) F0) ?_
  refine g_iload_n dX6_findBarred_24 rfl ?_
  refine g_zaload dX6_findBarred_25 (LX6.a_inside (h := h) F0) i1 ?_
  exact g_if_eq (tgt := 87) dX6_findBarred_26 (by decide) (fun q => Gd.wk (kt q) ⟨rfl, ⟨rfl, ⟨rfl, trivial⟩⟩⟩) (fun q => Gd.wk (kf q) ⟨rfl, ⟨rfl, ⟨rfl, ⟨rfl, ⟨rfl, trivial⟩⟩⟩⟩⟩)
theorem bkX6_findBarred_29 {X : GX} {h : SH} {nc ns : Nat} {P : Out → SH → Prop} {a0 : Nat} {a1 : Nat} {x2 : Int32} {a3 : Nat} {x4 : Int32} (F0 : LX2 (Sk h) (a3)) (kt : hI h a3 7 ≤ x4 → Gd X mX6_findBarred 87 [some (.ref a0), some (.ref a1), some (.int x2), none, none, none] [] (h) nc ns P) (kf : ¬ hI h a3 7 ≤ x4 → Gd X mX6_findBarred 38 [some (.ref a0), some (.ref a1), some (.int x2), some (.ref a3), some (.int x4), none] [] (h) nc ns P) : Gd X mX6_findBarred 29 [some (.ref a0), some (.ref a1), some (.int x2), some (.ref a3), some (.int x4), none] [] h nc ns P := by
  refine g_iload dX6_findBarred_29 rfl ?_
  refine g_aload_n dX6_findBarred_31 rfl ?_
  refine g_getNI (c := 2) (k := 7) dX6_findBarred_32 (by decide) (by decide) kn_785 rfl (LX2.o (h := h) F0) ?_
  exact g_icmp_ge (tgt := 87) dX6_findBarred_35 (by decide) (fun q => Gd.wk (kt q) ⟨rfl, ⟨rfl, ⟨rfl, trivial⟩⟩⟩) (fun q => Gd.wk (kf q) ⟨rfl, ⟨rfl, ⟨rfl, ⟨rfl, ⟨rfl, trivial⟩⟩⟩⟩⟩)
theorem bkX6_findBarred_38 {X : GX} {h : SH} {nc ns : Nat} {P : Out → SH → Prop} {a0 : Nat} {a1 : Nat} {x2 : Int32} {a3 : Nat} {x4 : Int32} (F0 : LX2 (Sk h) (a3)) (i1 : vp_in (x4) 8) (kt : (hI h (a3 + 4) ((x4 : Int32).toNatClampNeg)) = x2 → Gd X mX6_findBarred 81 [some (.ref a0), some (.ref a1), some (.int x2), some (.ref a3), some (.int x4), none] [] (h) nc ns P) (kf : ¬ (hI h (a3 + 4) ((x4 : Int32).toNatClampNeg)) = x2 → Gd X mX6_findBarred 53 [some (.ref a0), some (.ref a1), some (.int x2), some (.ref a3), some (.int x4), some (.int (hI h (a3 + 4) ((x4 : Int32).toNatClampNeg)))] [] (h) nc ns P) : Gd X mX6_findBarred 38 [some (.ref a0), some (.ref a1), some (.int x2), some (.ref a3), some (.int x4), none] [] h nc ns P := by
  refine g_aload_n dX6_findBarred_38 rfl ?_
  refine g_getNAs (c := 2) (k := 6) (b := a3 + 4) dX6_findBarred_39 (by decide) (by decide) kn_783 rfl (LX2.o (h := h) F0) (LX2.r_bars (h := h) F0) ?_
  refine g_iload dX6_findBarred_42 rfl ?_
  refine g_iaload dX6_findBarred_44 (LX2.a_bars (h := h) F0) i1 ?_
  refine g_istore (L' := [some (.ref a0), some (.ref a1), some (.int x2), some (.ref a3), some (.int x4), some (.int (hI h (a3 + 4) ((x4 : Int32).toNatClampNeg)))]) dX6_findBarred_45 (by decide) rfl ?_
  refine g_iload dX6_findBarred_47 rfl ?_
  refine g_iload_n dX6_findBarred_49 rfl ?_
  exact g_icmp_eq (tgt := 81) dX6_findBarred_50 (by decide) (fun q => Gd.wk (kt q) ⟨rfl, ⟨rfl, ⟨rfl, ⟨rfl, ⟨rfl, trivial⟩⟩⟩⟩⟩) (fun q => Gd.wk (kf q) ⟨rfl, ⟨rfl, ⟨rfl, ⟨rfl, ⟨rfl, ⟨rfl, trivial⟩⟩⟩⟩⟩⟩)
theorem bkX6_findBarred_53 {X : GX} {h : SH} {nc ns : Nat} {P : Out → SH → Prop} {a0 : Nat} {a1 : Nat} {x2 : Int32} {r3 : Option Nat} {x4 : Int32} {x5 : Int32} (F0 : LX6 (Sk h) (a0)) (i1 : vp_in (x5) 12) (kt : (hI h (a0 + 1) ((x5 : Int32).toNatClampNeg)) = 0 → Gd X mX6_findBarred 81 [some (.ref a0), some (.ref a1), some (.int x2), some (va_rf r3), some (.int x4), none] [] (h) nc ns P) (kf : ¬ (hI h (a0 + 1) ((x5 : Int32).toNatClampNeg)) = 0 → Gd X mX6_findBarred 63 [some (.ref a0), none, some (.int x2), none, none, some (.int x5)] [] (h) nc ns P) : Gd X mX6_findBarred 53 [some (.ref a0), some (.ref a1), some (.int x2), some (va_rf r3), some (.int x4), some (.int x5)] [] h nc ns P := by
  refine g_aload_n dX6_findBarred_53 rfl ?_
  refine g_getAs (c := 6) (k := 0) (b := a0 + 1) dX6_findBarred_54 (by decide) (by decide) kw_166 rfl (LX6.o (h := h) F0) (LX6.r_inside (h := h) F0) ?_
  refine g_iload dX6_findBarred_57 rfl ?_
  refine g_zaload dX6_findBarred_59 (LX6.a_inside (h := h) F0) i1 ?_
  exact g_if_eq (tgt := 81) dX6_findBarred_60 (by decide) (fun q => Gd.wk (kt q) ⟨rfl, ⟨rfl, ⟨rfl, ⟨rfl, ⟨rfl, trivial⟩⟩⟩⟩⟩) (fun q => Gd.wk (kf q) ⟨rfl, ⟨rfl, ⟨rfl, trivial⟩⟩⟩)
theorem bkX6_findBarred_63 {X : GX} {h : SH} {nc ns : Nat} {P : Out → SH → Prop} {a0 : Nat} {x2 : Int32} {x5 : Int32} (F0 : LX6 (Sk h) (a0)) (hp : P (.inl (some (.int (1)))) (sI (sI (sI h a0 6 2) a0 7 x2) a0 8 x5)) : Gd X mX6_findBarred 63 [some (.ref a0), none, some (.int x2), none, none, some (.int x5)] [] h nc ns P := by
  refine g_aload_n dX6_findBarred_63 rfl ?_
  refine g_iconst (v := 2) dX6_findBarred_64 (by decide) ?_
  refine g_put (c := 6) (k := 6) (h1 := sI h a0 6 2) dX6_findBarred_65 (by decide) (by decide) kw_176 rfl (LX6.o (h := h) F0) rfl rfl (Put.I rfl) ?_
  refine g_aload_n dX6_findBarred_68 rfl ?_
  refine g_iload_n dX6_findBarred_69 rfl ?_
  refine g_put (c := 6) (k := 7) (h1 := sI (sI h a0 6 2) a0 7 x2) dX6_findBarred_70 (by decide) (by decide) kw_179 rfl (LX6.o (h := sI h a0 6 2) F0) rfl rfl (Put.I rfl) ?_
  refine g_aload_n dX6_findBarred_73 rfl ?_
  refine g_iload dX6_findBarred_74 rfl ?_
  refine g_put (c := 6) (k := 8) (h1 := sI (sI (sI h a0 6 2) a0 7 x2) a0 8 x5) dX6_findBarred_76 (by decide) (by decide) kw_181 rfl (LX6.o (h := sI (sI h a0 6 2) a0 7 x2) F0) rfl rfl (Put.I rfl) ?_
  refine g_iconst (v := 1) dX6_findBarred_79 (by decide) ?_
  exact g_ireturn (st := []) dX6_findBarred_80 rfl (bl_n (by decide)) hp
theorem bkX6_findBarred_81 {X : GX} {h : SH} {nc ns : Nat} {P : Out → SH → Prop} {a0 : Nat} {a1 : Nat} {x2 : Int32} {r3 : Option Nat} {x4 : Int32} (g : Gd X mX6_findBarred 20 [some (.ref a0), some (.ref a1), some (.int x2), some (va_rf r3), some (.int (x4 + 1)), none] [] (h) nc ns P) : Gd X mX6_findBarred 81 [some (.ref a0), some (.ref a1), some (.int x2), some (va_rf r3), some (.int x4), none] [] h nc ns P := by
  refine g_iinc (v := x4 + 1) (L' := [some (.ref a0), some (.ref a1), some (.int x2), some (va_rf r3), some (.int (x4 + 1)), none]) dX6_findBarred_81 rfl rfl (by decide) (by simp only [st1, st2, cl2_rf]) ?_
  refine g_goto (tgt := 20) dX6_findBarred_84 (by decide) ?_
  exact Gd.wk g ⟨rfl, ⟨rfl, ⟨rfl, ⟨rfl, ⟨rfl, trivial⟩⟩⟩⟩⟩
theorem bkX6_findBarred_87 {X : GX} {h : SH} {nc ns : Nat} {P : Out → SH → Prop} {a0 : Nat} {a1 : Nat} {x2 : Int32} (g : Gd X mX6_findBarred 2 [some (.ref a0), some (.ref a1), some (.int (x2 + 1)), none, none, none] [] (h) nc ns P) : Gd X mX6_findBarred 87 [some (.ref a0), some (.ref a1), some (.int x2), none, none, none] [] h nc ns P := by
  refine g_iinc (v := x2 + 1) (L' := [some (.ref a0), some (.ref a1), some (.int (x2 + 1)), none, none, none]) dX6_findBarred_87 rfl rfl (by decide) rfl ?_
  refine g_goto (tgt := 2) dX6_findBarred_90 (by decide) ?_
  exact Gd.wk g ⟨rfl, ⟨rfl, ⟨rfl, trivial⟩⟩⟩
theorem bkX6_findBarred_93 {X : GX} {h : SH} {nc ns : Nat} {P : Out → SH → Prop} (hp : P (.inl (some (.int (0)))) (h)) : Gd X mX6_findBarred 93 [none, none, none, none, none, none] [] h nc ns P := by
  refine g_iconst (v := 0) dX6_findBarred_93 (by decide) ?_
  exact g_ireturn (st := []) dX6_findBarred_94 rfl (bl_n (by decide)) hp
theorem bkX6_findBadReference_0 {X : GX} {h : SH} {nc ns : Nat} {P : Out → SH → Prop} {a0 : Nat} {a1 : Nat} (g : Gd X mX6_findBadReference 2 [some (.ref a0), some (.ref a1), some (.int 0), none, none, none] [] (h) nc ns P) : Gd X mX6_findBadReference 0 [some (.ref a0), some (.ref a1), none, none, none, none] [] h nc ns P := by
  refine g_iconst (v := 0) dX6_findBadReference_0 (by decide) ?_
  refine g_istore_n (L' := [some (.ref a0), some (.ref a1), some (.int 0), none, none, none]) dX6_findBadReference_1 (by decide) rfl ?_
  exact Gd.wk g ⟨rfl, ⟨rfl, ⟨rfl, trivial⟩⟩⟩
theorem bkX6_findBadReference_2 {X : GX} {h : SH} {nc ns : Nat} {P : Out → SH → Prop} {a0 : Nat} {a1 : Nat} {x2 : Int32} (F0 : LX3 (Sk h) (a1)) (kt : hI h a1 7 ≤ x2 → Gd X mX6_findBadReference 103 [none, none, none, none, none, none] [] (h) nc ns P) (kf : ¬ hI h a1 7 ≤ x2 → Gd X mX6_findBadReference 10 [some (.ref a0), some (.ref a1), some (.int x2), none, none, none] [] (h) nc ns P) : Gd X mX6_findBadReference 2 [some (.ref a0), some (.ref a1), some (.int x2), none, none, none] [] h nc ns P := by
  refine g_iload_n dX6_findBadReference_2 rfl ?_
  refine g_aload_n dX6_findBadReference_3 rfl ?_
  refine g_getNI (c := 3) (k := 7) dX6_findBadReference_4 (by decide) (by decide) kn_319 rfl (LX3.o (h := h) F0) ?_
  exact g_icmp_ge (tgt := 103) dX6_findBadReference_7 (by decide) (fun q => Gd.wk (kt q) trivial) (fun q => Gd.wk (kf q) ⟨rfl, ⟨rfl, ⟨rfl, trivial⟩⟩⟩)
theorem bkX6_findBadReference_10 {X : GX} {h : SH} {nc ns : Nat} {P : Out → SH → Prop} {a0 : Nat} {a1 : Nat} {x2 : Int32} (F0 : LX3 (Sk h) (a1)) (i1 : vp_in (x2) 12) (g : Gd X mX6_findBadReference 20 [some (.ref a0), some (.ref a1), some (.int x2), some (va_rf (hA h (a1 + 4) ((x2 : Int32).toNatClampNeg))), some (.int 0), none] [] (h) nc ns P) : Gd X mX6_findBadReference 10 [some (.ref a0), some (.ref a1), some (.int x2), none, none, none] [] h nc ns P := by
  refine g_aload_n dX6_findBadReference_10 rfl ?_
  refine g_getNAs (c := 3) (k := 8) (b := a1 + 4) dX6_findBadReference_11 (by decide) (by decide) kn_324 rfl (LX3.o (h := h) F0) (LX3.r_clauses (h := h) F0) ?_
  refine g_iload_n dX6_findBadReference_14 rfl ?_
  refine g_aaload (k := 25) dX6_findBadReference_15 (by decide) (by decide) (LX3.a_clauses (h := h) F0) i1 ?_
  refine g_astore_n (r := (hA h (a1 + 4) ((x2 : Int32).toNatClampNeg))) (L' := [some (.ref a0), some (.ref a1), some (.int x2), some (va_rf (hA h (a1 + 4) ((x2 : Int32).toNatClampNeg))), none, none]) dX6_findBadReference_16 (by decide) rfl ?_
  refine g_iconst (v := 0) dX6_findBadReference_17 (by decide) ?_
  refine g_istore (L' := [some (.ref a0), some (.ref a1), some (.int x2), some (va_rf (hA h (a1 + 4) ((x2 : Int32).toNatClampNeg))), some (.int 0), none]) dX6_findBadReference_18 (by decide) (by simp only [st1, st2, cl2_rf]) ?_
  exact Gd.wk g ⟨rfl, ⟨rfl, ⟨rfl, ⟨rfl, ⟨rfl, trivial⟩⟩⟩⟩⟩
theorem bkX6_findBadReference_20 {X : GX} {h : SH} {nc ns : Nat} {P : Out → SH → Prop} {a0 : Nat} {a1 : Nat} {x2 : Int32} {r3 : Option Nat} {x4 : Int32} (F0 : LX6 (Sk h) (a0)) (i1 : vp_in (x2) 12) (kt : (hI h (a0 + 1) ((x2 : Int32).toNatClampNeg)) = 0 → Gd X mX6_findBadReference 97 [some (.ref a0), some (.ref a1), some (.int x2), none, none, none] [] (h) nc ns P) (kf : ¬ (hI h (a0 + 1) ((x2 : Int32).toNatClampNeg)) = 0 → Gd X mX6_findBadReference 29 [some (.ref a0), some (.ref a1), some (.int x2), some (va_rf r3), some (.int x4), none] [] (h) nc ns P) : Gd X mX6_findBadReference 20 [some (.ref a0), some (.ref a1), some (.int x2), some (va_rf r3), some (.int x4), none] [] h nc ns P := by
  refine g_aload_n dX6_findBadReference_20 rfl ?_
  refine g_getAs (c := 6) (k := 0) (b := a0 + 1) dX6_findBadReference_21 (by decide) (by decide) kw_166 rfl (LX6.o (h := h) F0) (LX6.r_inside (h := h) F0) ?_
  refine g_iload_n dX6_findBadReference_24 rfl ?_
  refine g_zaload dX6_findBadReference_25 (LX6.a_inside (h := h) F0) i1 ?_
  exact g_if_eq (tgt := 97) dX6_findBadReference_26 (by decide) (fun q => Gd.wk (kt q) ⟨rfl, ⟨rfl, ⟨rfl, trivial⟩⟩⟩) (fun q => Gd.wk (kf q) ⟨rfl, ⟨rfl, ⟨rfl, ⟨rfl, ⟨rfl, trivial⟩⟩⟩⟩⟩)
theorem bkX6_findBadReference_29 {X : GX} {h : SH} {nc ns : Nat} {P : Out → SH → Prop} {a0 : Nat} {a1 : Nat} {x2 : Int32} {a3 : Nat} {x4 : Int32} (F0 : LX2 (Sk h) (a3)) (kt : hI h a3 9 ≤ x4 → Gd X mX6_findBadReference 97 [some (.ref a0), some (.ref a1), some (.int x2), none, none, none] [] (h) nc ns P) (kf : ¬ hI h a3 9 ≤ x4 → Gd X mX6_findBadReference 38 [some (.ref a0), some (.ref a1), some (.int x2), some (.ref a3), some (.int x4), none] [] (h) nc ns P) : Gd X mX6_findBadReference 29 [some (.ref a0), some (.ref a1), some (.int x2), some (.ref a3), some (.int x4), none] [] h nc ns P := by
  refine g_iload dX6_findBadReference_29 rfl ?_
  refine g_aload_n dX6_findBadReference_31 rfl ?_
  refine g_getNI (c := 2) (k := 9) dX6_findBadReference_32 (by decide) (by decide) kn_789 rfl (LX2.o (h := h) F0) ?_
  exact g_icmp_ge (tgt := 97) dX6_findBadReference_35 (by decide) (fun q => Gd.wk (kt q) ⟨rfl, ⟨rfl, ⟨rfl, trivial⟩⟩⟩) (fun q => Gd.wk (kf q) ⟨rfl, ⟨rfl, ⟨rfl, ⟨rfl, ⟨rfl, trivial⟩⟩⟩⟩⟩)
theorem bkX6_findBadReference_38 {X : GX} {h : SH} {nc ns : Nat} {P : Out → SH → Prop} {a0 : Nat} {a1 : Nat} {x2 : Int32} {a3 : Nat} {x4 : Int32} {b5 : Nat} (F0 : LX2 (Sk h) (a3)) (i1 : vp_in (x4) 20) (q2 : hA h (a3 + 5) ((x4 : Int32).toNatClampNeg) = some b5) (F3 : LX5 (Sk h) (b5)) (kt : ¬ hI h b5 0 = 9 → Gd X mX6_findBadReference 91 [some (.ref a0), some (.ref a1), some (.int x2), some (.ref a3), some (.int x4), none] [] (h) nc ns P) (kf : hI h b5 0 = 9 → Gd X mX6_findBadReference 57 [some (.ref a0), some (.ref a1), some (.int x2), some (.ref a3), some (.int x4), some (.ref b5)] [] (h) nc ns P) : Gd X mX6_findBadReference 38 [some (.ref a0), some (.ref a1), some (.int x2), some (.ref a3), some (.int x4), none] [] h nc ns P := by
  refine g_aload_n dX6_findBadReference_38 rfl ?_
  refine g_getNAs (c := 2) (k := 8) (b := a3 + 5) dX6_findBadReference_39 (by decide) (by decide) kn_787 rfl (LX2.o (h := h) F0) (LX2.r_items (h := h) F0) ?_
  refine g_iload dX6_findBadReference_42 rfl ?_
  refine g_aaloads (k := 26) (b := b5) dX6_findBadReference_44 (by decide) (by decide) (LX2.a_items (h := h) F0) i1 q2 ?_
  refine g_astore (r := (some (b5))) (L' := [some (.ref a0), some (.ref a1), some (.int x2), some (.ref a3), some (.int x4), some (.ref b5)]) dX6_findBadReference_45 (by decide) rfl ?_
  refine g_aload dX6_findBadReference_47 rfl ?_
  refine g_getNI (c := 5) (k := 0) dX6_findBadReference_49 (by decide) (by decide) kn_858 rfl (LX5.o (h := h) F3) ?_
  refine g_bipush (v := 9) dX6_findBadReference_52 (by decide) ?_
  exact g_icmp_ne (tgt := 91) dX6_findBadReference_54 (by decide) (fun q => Gd.wk (kt q) ⟨rfl, ⟨rfl, ⟨rfl, ⟨rfl, ⟨rfl, trivial⟩⟩⟩⟩⟩) (fun q => Gd.wk (kf q) ⟨rfl, ⟨rfl, ⟨rfl, ⟨rfl, ⟨rfl, ⟨rfl, trivial⟩⟩⟩⟩⟩⟩)
theorem bkX6_findBadReference_57 {X : GX} {h : SH} {nc ns : Nat} {P : Out → SH → Prop} {a0 : Nat} {a1 : Nat} {x2 : Int32} {r3 : Option Nat} {x4 : Int32} {a5 : Nat} (F0 : LX6 (Sk h) (a0)) (F1 : LX5 (Sk h) (a5)) (i2 : vp_in (hI h a5 2) 12) (kt : ¬ (hI h (a0 + 1) ((hI h a5 2 : Int32).toNatClampNeg)) = 0 → Gd X mX6_findBadReference 91 [some (.ref a0), some (.ref a1), some (.int x2), some (va_rf r3), some (.int x4), none] [] (h) nc ns P) (kf : (hI h (a0 + 1) ((hI h a5 2 : Int32).toNatClampNeg)) = 0 → Gd X mX6_findBadReference 70 [some (.ref a0), none, some (.int x2), none, none, some (.ref a5)] [] (h) nc ns P) : Gd X mX6_findBadReference 57 [some (.ref a0), some (.ref a1), some (.int x2), some (va_rf r3), some (.int x4), some (.ref a5)] [] h nc ns P := by
  refine g_aload_n dX6_findBadReference_57 rfl ?_
  refine g_getAs (c := 6) (k := 0) (b := a0 + 1) dX6_findBadReference_58 (by decide) (by decide) kw_166 rfl (LX6.o (h := h) F0) (LX6.r_inside (h := h) F0) ?_
  refine g_aload dX6_findBadReference_61 rfl ?_
  refine g_getNI (c := 5) (k := 2) dX6_findBadReference_63 (by decide) (by decide) kn_862 rfl (LX5.o (h := h) F1) ?_
  refine g_zaload dX6_findBadReference_66 (LX6.a_inside (h := h) F0) i2 ?_
  exact g_if_ne (tgt := 91) dX6_findBadReference_67 (by decide) (fun q => Gd.wk (kt q) ⟨rfl, ⟨rfl, ⟨rfl, ⟨rfl, ⟨rfl, trivial⟩⟩⟩⟩⟩) (fun q => Gd.wk (kf q) ⟨rfl, ⟨rfl, ⟨rfl, trivial⟩⟩⟩)
theorem bkX6_findBadReference_70 {X : GX} {h : SH} {nc ns : Nat} {P : Out → SH → Prop} {a0 : Nat} {x2 : Int32} {a5 : Nat} (F0 : LX6 (Sk h) (a0)) (F1 : LX5 (Sk h) (a5)) (g : Gd X mX6_findBadReference 89 [none, none, none, none, none, none] [] (sI (sI (sI h a0 6 3) a0 7 x2) a0 8 (hI (sI (sI h a0 6 3) a0 7 x2) a5 2)) nc ns P) : Gd X mX6_findBadReference 70 [some (.ref a0), none, some (.int x2), none, none, some (.ref a5)] [] h nc ns P := by
  refine g_aload_n dX6_findBadReference_70 rfl ?_
  refine g_iconst (v := 3) dX6_findBadReference_71 (by decide) ?_
  refine g_put (c := 6) (k := 6) (h1 := sI h a0 6 3) dX6_findBadReference_72 (by decide) (by decide) kw_176 rfl (LX6.o (h := h) F0) rfl rfl (Put.I rfl) ?_
  refine g_aload_n dX6_findBadReference_75 rfl ?_
  refine g_iload_n dX6_findBadReference_76 rfl ?_
  refine g_put (c := 6) (k := 7) (h1 := sI (sI h a0 6 3) a0 7 x2) dX6_findBadReference_77 (by decide) (by decide) kw_179 rfl (LX6.o (h := sI h a0 6 3) F0) rfl rfl (Put.I rfl) ?_
  refine g_aload_n dX6_findBadReference_80 rfl ?_
  refine g_aload dX6_findBadReference_81 rfl ?_
  refine g_getNI (c := 5) (k := 2) dX6_findBadReference_83 (by decide) (by decide) kn_862 rfl (LX5.o (h := sI (sI h a0 6 3) a0 7 x2) F1) ?_
  refine g_put (c := 6) (k := 8) (h1 := sI (sI (sI h a0 6 3) a0 7 x2) a0 8 (hI (sI (sI h a0 6 3) a0 7 x2) a5 2)) dX6_findBadReference_86 (by decide) (by decide) kw_181 rfl (LX6.o (h := sI (sI h a0 6 3) a0 7 x2) F0) rfl rfl (Put.I rfl) ?_
  exact Gd.wk g trivial
theorem bkX6_findBadReference_91 {X : GX} {h : SH} {nc ns : Nat} {P : Out → SH → Prop} {a0 : Nat} {a1 : Nat} {x2 : Int32} {r3 : Option Nat} {x4 : Int32} (g : Gd X mX6_findBadReference 20 [some (.ref a0), some (.ref a1), some (.int x2), some (va_rf r3), some (.int (x4 + 1)), none] [] (h) nc ns P) : Gd X mX6_findBadReference 91 [some (.ref a0), some (.ref a1), some (.int x2), some (va_rf r3), some (.int x4), none] [] h nc ns P := by
  refine g_iinc (v := x4 + 1) (L' := [some (.ref a0), some (.ref a1), some (.int x2), some (va_rf r3), some (.int (x4 + 1)), none]) dX6_findBadReference_91 rfl rfl (by decide) (by simp only [st1, st2, cl2_rf]) ?_
  refine g_goto (tgt := 20) dX6_findBadReference_94 (by decide) ?_
  exact Gd.wk g ⟨rfl, ⟨rfl, ⟨rfl, ⟨rfl, ⟨rfl, trivial⟩⟩⟩⟩⟩
theorem bkX6_findBadReference_97 {X : GX} {h : SH} {nc ns : Nat} {P : Out → SH → Prop} {a0 : Nat} {a1 : Nat} {x2 : Int32} (g : Gd X mX6_findBadReference 2 [some (.ref a0), some (.ref a1), some (.int (x2 + 1)), none, none, none] [] (h) nc ns P) : Gd X mX6_findBadReference 97 [some (.ref a0), some (.ref a1), some (.int x2), none, none, none] [] h nc ns P := by
  refine g_iinc (v := x2 + 1) (L' := [some (.ref a0), some (.ref a1), some (.int (x2 + 1)), none, none, none]) dX6_findBadReference_97 rfl rfl (by decide) rfl ?_
  refine g_goto (tgt := 2) dX6_findBadReference_100 (by decide) ?_
  exact Gd.wk g ⟨rfl, ⟨rfl, ⟨rfl, trivial⟩⟩⟩
theorem bkX6_findBadReference_103 {X : GX} {h : SH} {nc ns : Nat} {P : Out → SH → Prop} (hp : P (.inl (some (.int (0)))) (h)) : Gd X mX6_findBadReference 103 [none, none, none, none, none, none] [] h nc ns P := by
  refine g_iconst (v := 0) dX6_findBadReference_103 (by decide) ?_
  exact g_ireturn (st := []) dX6_findBadReference_104 rfl (bl_n (by decide)) hp
theorem bkX6_findBadReference_89 {X : GX} {h : SH} {nc ns : Nat} {P : Out → SH → Prop} (hp : P (.inl (some (.int (1)))) (h)) : Gd X mX6_findBadReference 89 [none, none, none, none, none, none] [] h nc ns P := by
  refine g_iconst (v := 1) dX6_findBadReference_89 (by decide) ?_
  exact g_ireturn (st := []) dX6_findBadReference_90 rfl (bl_n (by decide)) hp
theorem bkX6_isEmpty_0 {X : GX} {h : SH} {nc ns : Nat} {P : Out → SH → Prop} {a0 : Nat} {a1 : Nat} (g : Gd X mX6_isEmpty 2 [some (.ref a0), some (.ref a1), some (.int 0)] [] (h) nc ns P) : Gd X mX6_isEmpty 0 [some (.ref a0), some (.ref a1), none] [] h nc ns P := by
  refine g_iconst (v := 0) dX6_isEmpty_0 (by decide) ?_
  refine g_istore_n (L' := [some (.ref a0), some (.ref a1), some (.int 0)]) dX6_isEmpty_1 (by decide) rfl ?_
  exact Gd.wk g ⟨rfl, ⟨rfl, ⟨rfl, trivial⟩⟩⟩
theorem bkX6_isEmpty_2 {X : GX} {h : SH} {nc ns : Nat} {P : Out → SH → Prop} {a0 : Nat} {a1 : Nat} {x2 : Int32} (F0 : LX3 (Sk h) (a1)) (kt : hI h a1 7 ≤ x2 → Gd X mX6_isEmpty 27 [none, none, none] [] (h) nc ns P) (kf : ¬ hI h a1 7 ≤ x2 → Gd X mX6_isEmpty 10 [some (.ref a0), some (.ref a1), some (.int x2)] [] (h) nc ns P) : Gd X mX6_isEmpty 2 [some (.ref a0), some (.ref a1), some (.int x2)] [] h nc ns P := by
  refine g_iload_n dX6_isEmpty_2 rfl ?_
  refine g_aload_n dX6_isEmpty_3 rfl ?_
  refine g_getNI (c := 3) (k := 7) dX6_isEmpty_4 (by decide) (by decide) kn_319 rfl (LX3.o (h := h) F0) ?_
  exact g_icmp_ge (tgt := 27) dX6_isEmpty_7 (by decide) (fun q => Gd.wk (kt q) trivial) (fun q => Gd.wk (kf q) ⟨rfl, ⟨rfl, ⟨rfl, trivial⟩⟩⟩)
theorem bkX6_isEmpty_10 {X : GX} {h : SH} {nc ns : Nat} {P : Out → SH → Prop} {a0 : Nat} {a1 : Nat} {x2 : Int32} (F0 : LX6 (Sk h) (a0)) (i1 : vp_in (x2) 12) (kt : (hI h (a0 + 1) ((x2 : Int32).toNatClampNeg)) = 0 → Gd X mX6_isEmpty 21 [some (.ref a0), some (.ref a1), some (.int x2)] [] (h) nc ns P) (kf : ¬ (hI h (a0 + 1) ((x2 : Int32).toNatClampNeg)) = 0 → Gd X mX6_isEmpty 19 [none, none, none] [] (h) nc ns P) : Gd X mX6_isEmpty 10 [some (.ref a0), some (.ref a1), some (.int x2)] [] h nc ns P := by
  refine g_aload_n dX6_isEmpty_10 rfl ?_
  refine g_getAs (c := 6) (k := 0) (b := a0 + 1) dX6_isEmpty_11 (by decide) (by decide) kw_166 rfl (LX6.o (h := h) F0) (LX6.r_inside (h := h) F0) ?_
  refine g_iload_n dX6_isEmpty_14 rfl ?_
  refine g_zaload dX6_isEmpty_15 (LX6.a_inside (h := h) F0) i1 ?_
  exact g_if_eq (tgt := 21) dX6_isEmpty_16 (by decide) (fun q => Gd.wk (kt q) ⟨rfl, ⟨rfl, ⟨rfl, trivial⟩⟩⟩) (fun q => Gd.wk (kf q) trivial)
theorem bkX6_isEmpty_19 {X : GX} {h : SH} {nc ns : Nat} {P : Out → SH → Prop} (hp : P (.inl (some (.int (0)))) (h)) : Gd X mX6_isEmpty 19 [none, none, none] [] h nc ns P := by
  refine g_iconst (v := 0) dX6_isEmpty_19 (by decide) ?_
  exact g_ireturn (st := []) dX6_isEmpty_20 rfl (bl_n (by decide)) hp
theorem bkX6_isEmpty_21 {X : GX} {h : SH} {nc ns : Nat} {P : Out → SH → Prop} {a0 : Nat} {a1 : Nat} {x2 : Int32} (g : Gd X mX6_isEmpty 2 [some (.ref a0), some (.ref a1), some (.int (x2 + 1))] [] (h) nc ns P) : Gd X mX6_isEmpty 21 [some (.ref a0), some (.ref a1), some (.int x2)] [] h nc ns P := by
  refine g_iinc (v := x2 + 1) (L' := [some (.ref a0), some (.ref a1), some (.int (x2 + 1))]) dX6_isEmpty_21 rfl rfl (by decide) rfl ?_
  refine g_goto (tgt := 2) dX6_isEmpty_24 (by decide) ?_
  exact Gd.wk g ⟨rfl, ⟨rfl, ⟨rfl, trivial⟩⟩⟩
theorem bkX6_isEmpty_27 {X : GX} {h : SH} {nc ns : Nat} {P : Out → SH → Prop} (hp : P (.inl (some (.int (1)))) (h)) : Gd X mX6_isEmpty 27 [none, none, none] [] h nc ns P := by
  refine g_iconst (v := 1) dX6_isEmpty_27 (by decide) ?_
  exact g_ireturn (st := []) dX6_isEmpty_28 rfl (bl_n (by decide)) hp
theorem bkX6_numberParts_0 {X : GX} {h : SH} {nc ns : Nat} {P : Out → SH → Prop} {a0 : Nat} {a1 : Nat} (g : Gd X mX6_numberParts 2 [some (.ref a0), some (.ref a1), some (.int 0), none] [] (h) nc ns P) : Gd X mX6_numberParts 0 [some (.ref a0), some (.ref a1), none, none] [] h nc ns P := by
  refine g_iconst (v := 0) dX6_numberParts_0 (by decide) ?_
  refine g_istore_n (L' := [some (.ref a0), some (.ref a1), some (.int 0), none]) dX6_numberParts_1 (by decide) rfl ?_
  exact Gd.wk g ⟨rfl, ⟨rfl, ⟨rfl, trivial⟩⟩⟩
theorem bkX6_numberParts_2 {X : GX} {h : SH} {nc ns : Nat} {P : Out → SH → Prop} {a0 : Nat} {a1 : Nat} {x2 : Int32} (F0 : LX3 (Sk h) (a1)) (kt : hI h a1 7 ≤ x2 → Gd X mX6_numberParts 62 [none, none, none, none] [] (h) nc ns P) (kf : ¬ hI h a1 7 ≤ x2 → Gd X mX6_numberParts 10 [some (.ref a0), some (.ref a1), some (.int x2), none] [] (h) nc ns P) : Gd X mX6_numberParts 2 [some (.ref a0), some (.ref a1), some (.int x2), none] [] h nc ns P := by
  refine g_iload_n dX6_numberParts_2 rfl ?_
  refine g_aload_n dX6_numberParts_3 rfl ?_
  refine g_getNI (c := 3) (k := 7) dX6_numberParts_4 (by decide) (by decide) kn_319 rfl (LX3.o (h := h) F0) ?_
  exact g_icmp_ge (tgt := 62) dX6_numberParts_7 (by decide) (fun q => Gd.wk (kt q) trivial) (fun q => Gd.wk (kf q) ⟨rfl, ⟨rfl, ⟨rfl, trivial⟩⟩⟩)
theorem bkX6_numberParts_10 {X : GX} {h : SH} {nc ns : Nat} {P : Out → SH → Prop} {a0 : Nat} {a1 : Nat} {x2 : Int32} (F0 : LX3 (Sk h) (a1)) (i1 : vp_in (x2) 12) (F2 : LX6 (Sk h) (a0)) (i3 : vp_in (hI h (a1 + 5) ((x2 : Int32).toNatClampNeg)) 12) (kt : (hI h (a0 + 1) ((hI h (a1 + 5) ((x2 : Int32).toNatClampNeg) : Int32).toNatClampNeg)) = 0 → Gd X mX6_numberParts 56 [some (.ref a0), some (.ref a1), some (.int x2), none] [] (h) nc ns P) (kf : ¬ (hI h (a0 + 1) ((hI h (a1 + 5) ((x2 : Int32).toNatClampNeg) : Int32).toNatClampNeg)) = 0 → Gd X mX6_numberParts 26 [some (.ref a0), some (.ref a1), some (.int x2), some (.int (hI h (a1 + 5) ((x2 : Int32).toNatClampNeg)))] [] (h) nc ns P) : Gd X mX6_numberParts 10 [some (.ref a0), some (.ref a1), some (.int x2), none] [] h nc ns P := by
  refine g_aload_n dX6_numberParts_10 rfl ?_
  refine g_getNAs (c := 3) (k := 9) (b := a1 + 5) dX6_numberParts_11 (by decide) (by decide) kn_326 rfl (LX3.o (h := h) F0) (LX3.r_order (h := h) F0) ?_
  refine g_iload_n dX6_numberParts_14 rfl ?_
  refine g_iaload dX6_numberParts_15 (LX3.a_order (h := h) F0) i1 ?_
  refine g_istore_n (L' := [some (.ref a0), some (.ref a1), some (.int x2), some (.int (hI h (a1 + 5) ((x2 : Int32).toNatClampNeg)))]) dX6_numberParts_16 (by decide) rfl ?_
  refine g_aload_n dX6_numberParts_17 rfl ?_
  refine g_getAs (c := 6) (k := 0) (b := a0 + 1) dX6_numberParts_18 (by decide) (by decide) kw_166 rfl (LX6.o (h := h) F2) (LX6.r_inside (h := h) F2) ?_
  refine g_iload_n dX6_numberParts_21 rfl ?_
  refine g_zaload dX6_numberParts_22 (LX6.a_inside (h := h) F2) i3 ?_
  exact g_if_eq (tgt := 56) dX6_numberParts_23 (by decide) (fun q => Gd.wk (kt q) ⟨rfl, ⟨rfl, ⟨rfl, trivial⟩⟩⟩) (fun q => Gd.wk (kf q) ⟨rfl, ⟨rfl, ⟨rfl, ⟨rfl, trivial⟩⟩⟩⟩)
theorem bkX6_numberParts_26 {X : GX} {h : SH} {nc ns : Nat} {P : Out → SH → Prop} {a0 : Nat} {a1 : Nat} {x2 : Int32} {x3 : Int32} (F0 : LX6 (Sk h) (a0)) (i1 : vp_in (hI h a0 3) 12) (i2 : vp_in (x3) 12) (g : Gd X mX6_numberParts 56 [some (.ref a0), some (.ref a1), some (.int x2), none] [] (sI (sI (sI h (a0 + 2) ((hI h a0 3 : Int32).toNatClampNeg) x3) a0 3 ((hI (sI h (a0 + 2) ((hI h a0 3 : Int32).toNatClampNeg) x3) a0 3) + 1)) (a0 + 3) ((x3 : Int32).toNatClampNeg) (hI (sI (sI h (a0 + 2) ((hI h a0 3 : Int32).toNatClampNeg) x3) a0 3 ((hI (sI h (a0 + 2) ((hI h a0 3 : Int32).toNatClampNeg) x3) a0 3) + 1)) a0 3)) nc ns P) : Gd X mX6_numberParts 26 [some (.ref a0), some (.ref a1), some (.int x2), some (.int x3)] [] h nc ns P := by
  refine g_aload_n dX6_numberParts_26 rfl ?_
  refine g_getAs (c := 6) (k := 1) (b := a0 + 2) dX6_numberParts_27 (by decide) (by decide) kw_167 rfl (LX6.o (h := h) F0) (LX6.r_parts (h := h) F0) ?_
  refine g_aload_n dX6_numberParts_30 rfl ?_
  refine g_getI (c := 6) (k := 3) dX6_numberParts_31 (by decide) (by decide) kw_170 rfl (LX6.o (h := h) F0) ?_
  refine g_iload_n dX6_numberParts_34 rfl ?_
  refine g_iastore dX6_numberParts_35 (LX6.a_parts (h := h) F0) i1 ?_
  refine g_aload_n dX6_numberParts_36 rfl ?_
  refine g_dup dX6_numberParts_37 rfl ?_
  refine g_getI (c := 6) (k := 3) dX6_numberParts_38 (by decide) (by decide) kw_170 rfl (LX6.o (h := sI h (a0 + 2) ((hI h a0 3 : Int32).toNatClampNeg) x3) F0) ?_
  refine g_iconst (v := 1) dX6_numberParts_41 (by decide) ?_
  refine g_iadd dX6_numberParts_42 ?_
  refine g_put (c := 6) (k := 3) (h1 := sI (sI h (a0 + 2) ((hI h a0 3 : Int32).toNatClampNeg) x3) a0 3 ((hI (sI h (a0 + 2) ((hI h a0 3 : Int32).toNatClampNeg) x3) a0 3) + 1)) dX6_numberParts_43 (by decide) (by decide) kw_170 rfl (LX6.o (h := sI h (a0 + 2) ((hI h a0 3 : Int32).toNatClampNeg) x3) F0) rfl rfl (Put.I rfl) ?_
  refine g_aload_n dX6_numberParts_46 rfl ?_
  refine g_getAs (c := 6) (k := 2) (b := a0 + 3) dX6_numberParts_47 (by decide) (by decide) kw_169 rfl (LX6.o (h := sI (sI h (a0 + 2) ((hI h a0 3 : Int32).toNatClampNeg) x3) a0 3 ((hI (sI h (a0 + 2) ((hI h a0 3 : Int32).toNatClampNeg) x3) a0 3) + 1)) F0) (LX6.r_partNumbers (h := sI (sI h (a0 + 2) ((hI h a0 3 : Int32).toNatClampNeg) x3) a0 3 ((hI (sI h (a0 + 2) ((hI h a0 3 : Int32).toNatClampNeg) x3) a0 3) + 1)) F0) ?_
  refine g_iload_n dX6_numberParts_50 rfl ?_
  refine g_aload_n dX6_numberParts_51 rfl ?_
  refine g_getI (c := 6) (k := 3) dX6_numberParts_52 (by decide) (by decide) kw_170 rfl (LX6.o (h := sI (sI h (a0 + 2) ((hI h a0 3 : Int32).toNatClampNeg) x3) a0 3 ((hI (sI h (a0 + 2) ((hI h a0 3 : Int32).toNatClampNeg) x3) a0 3) + 1)) F0) ?_
  refine g_iastore dX6_numberParts_55 (LX6.a_partNumbers (h := sI (sI h (a0 + 2) ((hI h a0 3 : Int32).toNatClampNeg) x3) a0 3 ((hI (sI h (a0 + 2) ((hI h a0 3 : Int32).toNatClampNeg) x3) a0 3) + 1)) F0) i2 ?_
  exact Gd.wk g ⟨rfl, ⟨rfl, ⟨rfl, trivial⟩⟩⟩
theorem bkX6_numberParts_56 {X : GX} {h : SH} {nc ns : Nat} {P : Out → SH → Prop} {a0 : Nat} {a1 : Nat} {x2 : Int32} (g : Gd X mX6_numberParts 2 [some (.ref a0), some (.ref a1), some (.int (x2 + 1)), none] [] (h) nc ns P) : Gd X mX6_numberParts 56 [some (.ref a0), some (.ref a1), some (.int x2), none] [] h nc ns P := by
  refine g_iinc (v := x2 + 1) (L' := [some (.ref a0), some (.ref a1), some (.int (x2 + 1)), none]) dX6_numberParts_56 rfl rfl (by decide) rfl ?_
  refine g_goto (tgt := 2) dX6_numberParts_59 (by decide) ?_
  exact Gd.wk g ⟨rfl, ⟨rfl, ⟨rfl, trivial⟩⟩⟩
theorem bkX6_numberParts_62 {X : GX} {h : SH} {nc ns : Nat} {P : Out → SH → Prop} (hp : P (.inl (none)) (h)) : Gd X mX6_numberParts 62 [none, none, none, none] [] h nc ns P := by
  exact g_return (st := []) dX6_numberParts_62 rfl hp
theorem bkX6_printParts_0 {X : GX} {h : SH} {nc ns : Nat} {P : Out → SH → Prop} {a0 : Nat} {a1 : Nat} {a2 : Nat} {x3 : Int32} {a4 : Nat} (g : Gd X mX6_printParts 3 [some (.ref a0), some (.ref a1), some (.ref a2), some (.int x3), some (.ref a4), some (.int 0), none, none, none, none] [] (h) nc ns P) : Gd X mX6_printParts 0 [some (.ref a0), some (.ref a1), some (.ref a2), some (.int x3), some (.ref a4), none, none, none, none, none] [] h nc ns P := by
  refine g_iconst (v := 0) dX6_printParts_0 (by decide) ?_
  refine g_istore (L' := [some (.ref a0), some (.ref a1), some (.ref a2), some (.int x3), some (.ref a4), some (.int 0), none, none, none, none]) dX6_printParts_1 (by decide) rfl ?_
  exact Gd.wk g ⟨rfl, ⟨rfl, ⟨rfl, ⟨rfl, ⟨rfl, ⟨rfl, trivial⟩⟩⟩⟩⟩⟩
theorem bkX6_printParts_3 {X : GX} {h : SH} {nc ns : Nat} {P : Out → SH → Prop} {a0 : Nat} {a1 : Nat} {a2 : Nat} {x3 : Int32} {a4 : Nat} {x5 : Int32} (F0 : LX6 (Sk h) (a0)) (kt : hI h a0 3 ≤ x5 → Gd X mX6_printParts 156 [none, none, none, none, none, none, none, none, none, none] [] (h) nc ns P) (kf : ¬ hI h a0 3 ≤ x5 → Gd X mX6_printParts 12 [some (.ref a0), some (.ref a1), some (.ref a2), some (.int x3), some (.ref a4), some (.int x5), none, none, none, none] [] (h) nc ns P) : Gd X mX6_printParts 3 [some (.ref a0), some (.ref a1), some (.ref a2), some (.int x3), some (.ref a4), some (.int x5), none, none, none, none] [] h nc ns P := by
  refine g_iload dX6_printParts_3 rfl ?_
  refine g_aload_n dX6_printParts_5 rfl ?_
  refine g_getI (c := 6) (k := 3) dX6_printParts_6 (by decide) (by decide) kw_170 rfl (LX6.o (h := h) F0) ?_
  exact g_icmp_ge (tgt := 156) dX6_printParts_9 (by decide) (fun q => Gd.wk (kt q) trivial) (fun q => Gd.wk (kf q) ⟨rfl, ⟨rfl, ⟨rfl, ⟨rfl, ⟨rfl, ⟨rfl, trivial⟩⟩⟩⟩⟩⟩)
theorem bkX6_printParts_12 {X : GX} {h : SH} {nc ns : Nat} {P : Out → SH → Prop} {Q : SH → Prop} {a0 : Nat} {a1 : Nat} {a2 : Nat} {x3 : Int32} {a4 : Nat} {x5 : Int32} (F0 : LX3 (Sk h) (a1)) (F1 : LX6 (Sk h) (a0)) (i2 : vp_in (x5) 12) (i3 : vp_in (hI h (a0 + 2) ((x5 : Int32).toNatClampNeg)) 12) (hN : Cd X mX6_printNumber [.ref a0, .int (x5 + 1)] (h) 0 0 (oV Q nX)) (g : ∀ t, Q t → Gd X mX6_printParts 34 [some (.ref a0), some (.ref a1), some (.ref a2), some (.int x3), some (.ref a4), some (.int x5), some (va_rf (hA h (a1 + 4) ((hI h (a0 + 2) ((x5 : Int32).toNatClampNeg) : Int32).toNatClampNeg))), none, none, none] [] (t) nc ns P) : Gd X mX6_printParts 12 [some (.ref a0), some (.ref a1), some (.ref a2), some (.int x3), some (.ref a4), some (.int x5), none, none, none, none] [] h nc ns P := by
  refine g_aload_n dX6_printParts_12 rfl ?_
  refine g_getNAs (c := 3) (k := 8) (b := a1 + 4) dX6_printParts_13 (by decide) (by decide) kn_324 rfl (LX3.o (h := h) F0) (LX3.r_clauses (h := h) F0) ?_
  refine g_aload_n dX6_printParts_16 rfl ?_
  refine g_getAs (c := 6) (k := 1) (b := a0 + 2) dX6_printParts_17 (by decide) (by decide) kw_167 rfl (LX6.o (h := h) F1) (LX6.r_parts (h := h) F1) ?_
  refine g_iload dX6_printParts_20 rfl ?_
  refine g_iaload dX6_printParts_22 (LX6.a_parts (h := h) F1) i2 ?_
  refine g_aaload (k := 25) dX6_printParts_23 (by decide) (by decide) (LX3.a_clauses (h := h) F0) i3 ?_
  refine g_astore (r := (hA h (a1 + 4) ((hI h (a0 + 2) ((x5 : Int32).toNatClampNeg) : Int32).toNatClampNeg))) (L' := [some (.ref a0), some (.ref a1), some (.ref a2), some (.int x3), some (.ref a4), some (.int x5), some (va_rf (hA h (a1 + 4) ((hI h (a0 + 2) ((x5 : Int32).toNatClampNeg) : Int32).toNatClampNeg))), none, none, none]) dX6_printParts_24 (by decide) rfl ?_
  refine g_aload_n dX6_printParts_26 rfl ?_
  refine g_iload dX6_printParts_27 rfl ?_
  refine g_iconst (v := 1) dX6_printParts_29 (by decide) ?_
  refine g_iadd dX6_printParts_30 ?_
  refine Gd.z ?_
  exact g_callV (k := 6) [.int (x5 + 1)] dX6_printParts_31 mfX6_printNumber ⟨by decide, by decide⟩ kw_982 kw_984 kw_39 rfl (by decide) (Nat.le_of_ble_eq_true rfl) (by intro x hx; cases hx) (LX6.o (h := h) F1) (Nat.le_of_ble_eq_true rfl) hN (fun _ _ q => q.elim) (oV_go (G := fun a b => Gd X mX6_printParts 34 _ a b nc ns P) (fun t q => Gd.wk (g t q) ⟨rfl, ⟨rfl, ⟨rfl, ⟨rfl, ⟨rfl, ⟨rfl, ⟨rfl, trivial⟩⟩⟩⟩⟩⟩⟩))
theorem bkX6_printParts_34 {X : GX} {h : SH} {nc ns : Nat} {P : Out → SH → Prop} {a0 : Nat} {a1 : Nat} {a2 : Nat} {x3 : Int32} {a4 : Nat} {x5 : Int32} {r6 : Option Nat} (g : Gd X mX6_printParts 37 [some (.ref a0), some (.ref a1), some (.ref a2), some (.int x3), some (.ref a4), some (.int x5), some (va_rf r6), some (.int 0), none, none] [] (h) nc ns P) : Gd X mX6_printParts 34 [some (.ref a0), some (.ref a1), some (.ref a2), some (.int x3), some (.ref a4), some (.int x5), some (va_rf r6), none, none, none] [] h nc ns P := by
  refine g_iconst (v := 0) dX6_printParts_34 (by decide) ?_
  refine g_istore (L' := [some (.ref a0), some (.ref a1), some (.ref a2), some (.int x3), some (.ref a4), some (.int x5), some (va_rf r6), some (.int 0), none, none]) dX6_printParts_35 (by decide) (by simp only [st1, st2, cl2_rf]) ?_
  exact Gd.wk g ⟨rfl, ⟨rfl, ⟨rfl, ⟨rfl, ⟨rfl, ⟨rfl, ⟨rfl, ⟨rfl, trivial⟩⟩⟩⟩⟩⟩⟩⟩
theorem bkX6_printParts_37 {X : GX} {h : SH} {nc ns : Nat} {P : Out → SH → Prop} {a0 : Nat} {a1 : Nat} {a2 : Nat} {x3 : Int32} {a4 : Nat} {x5 : Int32} {a6 : Nat} {x7 : Int32} (F0 : LX2 (Sk h) (a6)) (kt : hI h a6 9 ≤ x7 → Gd X mX6_printParts 150 [some (.ref a0), some (.ref a1), some (.ref a2), some (.int x3), some (.ref a4), some (.int x5), none, none, none, none] [] (h) nc ns P) (kf : ¬ hI h a6 9 ≤ x7 → Gd X mX6_printParts 47 [some (.ref a0), some (.ref a1), some (.ref a2), some (.int x3), some (.ref a4), some (.int x5), some (.ref a6), some (.int x7), none, none] [] (h) nc ns P) : Gd X mX6_printParts 37 [some (.ref a0), some (.ref a1), some (.ref a2), some (.int x3), some (.ref a4), some (.int x5), some (.ref a6), some (.int x7), none, none] [] h nc ns P := by
  refine g_iload dX6_printParts_37 rfl ?_
  refine g_aload dX6_printParts_39 rfl ?_
  refine g_getNI (c := 2) (k := 9) dX6_printParts_41 (by decide) (by decide) kn_789 rfl (LX2.o (h := h) F0) ?_
  exact g_icmp_ge (tgt := 150) dX6_printParts_44 (by decide) (fun q => Gd.wk (kt q) ⟨rfl, ⟨rfl, ⟨rfl, ⟨rfl, ⟨rfl, ⟨rfl, trivial⟩⟩⟩⟩⟩⟩) (fun q => Gd.wk (kf q) ⟨rfl, ⟨rfl, ⟨rfl, ⟨rfl, ⟨rfl, ⟨rfl, ⟨rfl, ⟨rfl, trivial⟩⟩⟩⟩⟩⟩⟩⟩)
theorem bkX6_printParts_47 {X : GX} {h : SH} {nc ns : Nat} {P : Out → SH → Prop} {a0 : Nat} {a1 : Nat} {a2 : Nat} {x3 : Int32} {a4 : Nat} {x5 : Int32} {a6 : Nat} {x7 : Int32} {b8 : Nat} (F0 : LX2 (Sk h) (a6)) (i1 : vp_in (x7) 20) (q2 : hA h (a6 + 5) ((x7 : Int32).toNatClampNeg) = some b8) (F3 : LX5 (Sk h) (b8)) (kt : ¬ hI h b8 0 = 11 → Gd X mX6_printParts 79 [some (.ref a0), some (.ref a1), some (.ref a2), some (.int x3), some (.ref a4), some (.int x5), some (.ref a6), some (.int x7), some (.ref b8), none] [] (h) nc ns P) (kf : hI h b8 0 = 11 → Gd X mX6_printParts 67 [some (.ref a0), some (.ref a1), some (.ref a2), some (.int x3), some (.ref a4), some (.int x5), some (.ref a6), some (.int x7), some (.ref b8), none] [] (h) nc ns P) : Gd X mX6_printParts 47 [some (.ref a0), some (.ref a1), some (.ref a2), some (.int x3), some (.ref a4), some (.int x5), some (.ref a6), some (.int x7), none, none] [] h nc ns P := by
  refine g_aload dX6_printParts_47 rfl ?_
  refine g_getNAs (c := 2) (k := 8) (b := a6 + 5) dX6_printParts_49 (by decide) (by decide) kn_787 rfl (LX2.o (h := h) F0) (LX2.r_items (h := h) F0) ?_
  refine g_iload dX6_printParts_52 rfl ?_
  refine g_aaloads (k := 26) (b := b8) dX6_printParts_54 (by decide) (by decide) (LX2.a_items (h := h) F0) i1 q2 ?_
  refine g_astore (r := (some (b8))) (L' := [some (.ref a0), some (.ref a1), some (.ref a2), some (.int x3), some (.ref a4), some (.int x5), some (.ref a6), some (.int x7), some (.ref b8), none]) dX6_printParts_55 (by decide) rfl ?_
  refine g_aload dX6_printParts_57 rfl ?_
  refine g_getNI (c := 5) (k := 0) dX6_printParts_59 (by decide) (by decide) kn_858 rfl (LX5.o (h := h) F3) ?_
  refine g_bipush (v := 11) dX6_printParts_62 (by decide) ?_
  exact g_icmp_ne (tgt := 79) dX6_printParts_64 (by decide) (fun q => Gd.wk (kt q) ⟨rfl, ⟨rfl, ⟨rfl, ⟨rfl, ⟨rfl, ⟨rfl, ⟨rfl, ⟨rfl, ⟨rfl, trivial⟩⟩⟩⟩⟩⟩⟩⟩⟩) (fun q => Gd.wk (kf q) ⟨rfl, ⟨rfl, ⟨rfl, ⟨rfl, ⟨rfl, ⟨rfl, ⟨rfl, ⟨rfl, ⟨rfl, trivial⟩⟩⟩⟩⟩⟩⟩⟩⟩)
theorem bkX6_printParts_67 {X : GX} {h : SH} {nc ns : Nat} {P : Out → SH → Prop} {Q : SH → Prop} {a0 : Nat} {a1 : Nat} {a2 : Nat} {x3 : Int32} {a4 : Nat} {x5 : Int32} {r6 : Option Nat} {x7 : Int32} {a8 : Nat} (F0 : LX5 (Sk h) (a8)) (F1 : LX6 (Sk h) (a0)) (hN : Cd X mX6_printWord [.ref a0, .long (hJ h a8 1)] (h) 0 0 (oV Q nX)) (g : ∀ t, Q t → Gd X mX6_printParts 76 [some (.ref a0), some (.ref a1), some (.ref a2), some (.int x3), some (.ref a4), some (.int x5), some (va_rf r6), some (.int x7), none, none] [] (t) nc ns P) : Gd X mX6_printParts 67 [some (.ref a0), some (.ref a1), some (.ref a2), some (.int x3), some (.ref a4), some (.int x5), some (va_rf r6), some (.int x7), some (.ref a8), none] [] h nc ns P := by
  refine g_aload_n dX6_printParts_67 rfl ?_
  refine g_aload dX6_printParts_68 rfl ?_
  refine g_getNJ (c := 5) (k := 1) dX6_printParts_70 (by decide) (by decide) kn_860 rfl (LX5.o (h := h) F0) ?_
  refine Gd.z ?_
  exact g_callV (k := 6) [.long (hJ h a8 1)] dX6_printParts_73 mfX6_printWord ⟨by decide, by decide⟩ kw_997 kw_999 kw_42 rfl (by decide) (Nat.le_of_ble_eq_true rfl) (by intro x hx; cases hx) (LX6.o (h := h) F1) (Nat.le_of_ble_eq_true rfl) hN (fun _ _ q => q.elim) (oV_go (G := fun a b => Gd X mX6_printParts 76 _ a b nc ns P) (fun t q => Gd.wk (g t q) ⟨rfl, ⟨rfl, ⟨rfl, ⟨rfl, ⟨rfl, ⟨rfl, ⟨rfl, ⟨rfl, trivial⟩⟩⟩⟩⟩⟩⟩⟩))
theorem bkX6_printParts_76 {X : GX} {h : SH} {nc ns : Nat} {P : Out → SH → Prop} {a0 : Nat} {a1 : Nat} {a2 : Nat} {x3 : Int32} {a4 : Nat} {x5 : Int32} {r6 : Option Nat} {x7 : Int32} (g : Gd X mX6_printParts 144 [some (.ref a0), some (.ref a1), some (.ref a2), some (.int x3), some (.ref a4), some (.int x5), some (va_rf r6), some (.int x7), none, none] [] (h) nc ns P) : Gd X mX6_printParts 76 [some (.ref a0), some (.ref a1), some (.ref a2), some (.int x3), some (.ref a4), some (.int x5), some (va_rf r6), some (.int x7), none, none] [] h nc ns P := by
  refine g_goto (tgt := 144) dX6_printParts_76 (by decide) ?_
  exact Gd.wk g ⟨rfl, ⟨rfl, ⟨rfl, ⟨rfl, ⟨rfl, ⟨rfl, ⟨rfl, ⟨rfl, trivial⟩⟩⟩⟩⟩⟩⟩⟩
theorem bkX6_printParts_79 {X : GX} {h : SH} {nc ns : Nat} {P : Out → SH → Prop} {a0 : Nat} {a1 : Nat} {a2 : Nat} {x3 : Int32} {a4 : Nat} {x5 : Int32} {r6 : Option Nat} {x7 : Int32} {a8 : Nat} (F0 : LX5 (Sk h) (a8)) (kt : ¬ hI h a8 0 = 9 → Gd X mX6_printParts 106 [some (.ref a0), some (.ref a1), some (.ref a2), some (.int x3), some (.ref a4), some (.int x5), some (va_rf r6), some (.int x7), some (.ref a8), none] [] (h) nc ns P) (kf : hI h a8 0 = 9 → Gd X mX6_printParts 89 [some (.ref a0), some (.ref a1), some (.ref a2), some (.int x3), some (.ref a4), some (.int x5), some (va_rf r6), some (.int x7), some (.ref a8), none] [] (h) nc ns P) : Gd X mX6_printParts 79 [some (.ref a0), some (.ref a1), some (.ref a2), some (.int x3), some (.ref a4), some (.int x5), some (va_rf r6), some (.int x7), some (.ref a8), none] [] h nc ns P := by
  refine g_aload dX6_printParts_79 rfl ?_
  refine g_getNI (c := 5) (k := 0) dX6_printParts_81 (by decide) (by decide) kn_858 rfl (LX5.o (h := h) F0) ?_
  refine g_bipush (v := 9) dX6_printParts_84 (by decide) ?_
  exact g_icmp_ne (tgt := 106) dX6_printParts_86 (by decide) (fun q => Gd.wk (kt q) ⟨rfl, ⟨rfl, ⟨rfl, ⟨rfl, ⟨rfl, ⟨rfl, ⟨rfl, ⟨rfl, ⟨rfl, trivial⟩⟩⟩⟩⟩⟩⟩⟩⟩) (fun q => Gd.wk (kf q) ⟨rfl, ⟨rfl, ⟨rfl, ⟨rfl, ⟨rfl, ⟨rfl, ⟨rfl, ⟨rfl, ⟨rfl, trivial⟩⟩⟩⟩⟩⟩⟩⟩⟩)
theorem bkX6_printParts_89 {X : GX} {h : SH} {nc ns : Nat} {P : Out → SH → Prop} {Q : SH → Prop} {a0 : Nat} {a1 : Nat} {a2 : Nat} {x3 : Int32} {a4 : Nat} {x5 : Int32} {r6 : Option Nat} {x7 : Int32} {a8 : Nat} (F0 : LX6 (Sk h) (a0)) (F1 : LX5 (Sk h) (a8)) (i2 : vp_in (hI h a8 2) 12) (hN : Cd X mX6_printNumber [.ref a0, .int (hI h (a0 + 3) ((hI h a8 2 : Int32).toNatClampNeg))] (h) 0 0 (oV Q nX)) (g : ∀ t, Q t → Gd X mX6_printParts 103 [some (.ref a0), some (.ref a1), some (.ref a2), some (.int x3), some (.ref a4), some (.int x5), some (va_rf r6), some (.int x7), none, none] [] (t) nc ns P) : Gd X mX6_printParts 89 [some (.ref a0), some (.ref a1), some (.ref a2), some (.int x3), some (.ref a4), some (.int x5), some (va_rf r6), some (.int x7), some (.ref a8), none] [] h nc ns P := by
  refine g_aload_n dX6_printParts_89 rfl ?_
  refine g_aload_n dX6_printParts_90 rfl ?_
  refine g_getAs (c := 6) (k := 2) (b := a0 + 3) dX6_printParts_91 (by decide) (by decide) kw_169 rfl (LX6.o (h := h) F0) (LX6.r_partNumbers (h := h) F0) ?_
  refine g_aload dX6_printParts_94 rfl ?_
  refine g_getNI (c := 5) (k := 2) dX6_printParts_96 (by decide) (by decide) kn_862 rfl (LX5.o (h := h) F1) ?_
  refine g_iaload dX6_printParts_99 (LX6.a_partNumbers (h := h) F0) i2 ?_
  refine Gd.z ?_
  exact g_callV (k := 6) [.int (hI h (a0 + 3) ((hI h a8 2 : Int32).toNatClampNeg))] dX6_printParts_100 mfX6_printNumber ⟨by decide, by decide⟩ kw_982 kw_984 kw_39 rfl (by decide) (Nat.le_of_ble_eq_true rfl) (by intro x hx; cases hx) (LX6.o (h := h) F0) (Nat.le_of_ble_eq_true rfl) hN (fun _ _ q => q.elim) (oV_go (G := fun a b => Gd X mX6_printParts 103 _ a b nc ns P) (fun t q => Gd.wk (g t q) ⟨rfl, ⟨rfl, ⟨rfl, ⟨rfl, ⟨rfl, ⟨rfl, ⟨rfl, ⟨rfl, trivial⟩⟩⟩⟩⟩⟩⟩⟩))
theorem bkX6_printParts_103 {X : GX} {h : SH} {nc ns : Nat} {P : Out → SH → Prop} {a0 : Nat} {a1 : Nat} {a2 : Nat} {x3 : Int32} {a4 : Nat} {x5 : Int32} {r6 : Option Nat} {x7 : Int32} (g : Gd X mX6_printParts 144 [some (.ref a0), some (.ref a1), some (.ref a2), some (.int x3), some (.ref a4), some (.int x5), some (va_rf r6), some (.int x7), none, none] [] (h) nc ns P) : Gd X mX6_printParts 103 [some (.ref a0), some (.ref a1), some (.ref a2), some (.int x3), some (.ref a4), some (.int x5), some (va_rf r6), some (.int x7), none, none] [] h nc ns P := by
  refine g_goto (tgt := 144) dX6_printParts_103 (by decide) ?_
  exact Gd.wk g ⟨rfl, ⟨rfl, ⟨rfl, ⟨rfl, ⟨rfl, ⟨rfl, ⟨rfl, ⟨rfl, trivial⟩⟩⟩⟩⟩⟩⟩⟩
theorem bkX6_printParts_106 {X : GX} {h : SH} {nc ns : Nat} {P : Out → SH → Prop} {Q : Int32 → SH → Prop} {a0 : Nat} {a1 : Nat} {a2 : Nat} {x3 : Int32} {a4 : Nat} {x5 : Int32} {r6 : Option Nat} {x7 : Int32} {a8 : Nat} {b9 : Nat} (F0 : LX5 (Sk h) (a8)) (q1 : hA h a8 3 = some b9) (F2 : LX4 (Sk h) (b9)) (hN : Cd X mX4_reckon [.ref b9, .ref a2] (h) 0 0 (oI Q nX)) (g : ∀ r t, Q r t → Gd X mX6_printParts 115 [some (.ref a0), some (.ref a1), some (.ref a2), some (.int x3), some (.ref a4), some (.int x5), some (va_rf r6), some (.int x7), some (.ref a8), none] [.int r] (t) nc ns P) : Gd X mX6_printParts 106 [some (.ref a0), some (.ref a1), some (.ref a2), some (.int x3), some (.ref a4), some (.int x5), some (va_rf r6), some (.int x7), some (.ref a8), none] [] h nc ns P := by
  refine g_aload dX6_printParts_106 rfl ?_
  refine g_getNAs (c := 5) (k := 3) (b := b9) dX6_printParts_108 (by decide) (by decide) kn_864 rfl (LX5.o (h := h) F0) q1 ?_
  refine g_aload_n dX6_printParts_111 rfl ?_
  refine Gd.z ?_
  exact g_callV (k := 4) [.ref a2] dX6_printParts_112 mfX4_reckon ⟨by decide, by decide⟩ kw_943 kw_944 kw_945 rfl (by decide) (Nat.le_of_ble_eq_true rfl) (by intro x hx; cases hx) (LX4.o (h := h) F2) (Nat.le_of_ble_eq_true rfl) hN (fun _ _ q => q.elim) (oI_go (G := fun a b => Gd X mX6_printParts 115 _ a b nc ns P) (fun r t q => Gd.wk (g r t q) ⟨rfl, ⟨rfl, ⟨rfl, ⟨rfl, ⟨rfl, ⟨rfl, ⟨rfl, ⟨rfl, ⟨rfl, trivial⟩⟩⟩⟩⟩⟩⟩⟩⟩))
theorem bkX6_printParts_115 {X : GX} {h : SH} {nc ns : Nat} {P : Out → SH → Prop} {a0 : Nat} {a1 : Nat} {a2 : Nat} {x3 : Int32} {a4 : Nat} {x5 : Int32} {r6 : Option Nat} {x7 : Int32} {a8 : Nat} {xs0 : Int32} (F0 : LX5 (Sk h) (a8)) (kt : ¬ hI h a8 0 = 10 → Gd X mX6_printParts 139 [some (.ref a0), some (.ref a1), some (.ref a2), some (.int x3), some (.ref a4), some (.int x5), some (va_rf r6), some (.int x7), none, some (.int xs0)] [.ref a0] (h) nc ns P) (kf : hI h a8 0 = 10 → Gd X mX6_printParts 128 [some (.ref a0), some (.ref a1), some (.ref a2), some (.int x3), some (.ref a4), some (.int x5), some (va_rf r6), some (.int x7), none, some (.int xs0)] [.ref a0] (h) nc ns P) : Gd X mX6_printParts 115 [some (.ref a0), some (.ref a1), some (.ref a2), some (.int x3), some (.ref a4), some (.int x5), some (va_rf r6), some (.int x7), some (.ref a8), none] [.int xs0] h nc ns P := by
  refine g_istore (L' := [some (.ref a0), some (.ref a1), some (.ref a2), some (.int x3), some (.ref a4), some (.int x5), some (va_rf r6), some (.int x7), some (.ref a8), some (.int xs0)]) dX6_printParts_115 (by decide) rfl ?_
  refine g_aload_n dX6_printParts_117 rfl ?_
  refine g_aload dX6_printParts_118 rfl ?_
  refine g_getNI (c := 5) (k := 0) dX6_printParts_120 (by decide) (by decide) kn_858 rfl (LX5.o (h := h) F0) ?_
  refine g_bipush (v := 10) dX6_printParts_123 (by decide) ?_
  exact g_icmp_ne (tgt := 139) dX6_printParts_125 (by decide) (fun q => Gd.wk (kt q) ⟨rfl, ⟨rfl, ⟨rfl, ⟨rfl, ⟨rfl, ⟨rfl, ⟨rfl, ⟨rfl, ⟨rfl, trivial⟩⟩⟩⟩⟩⟩⟩⟩⟩) (fun q => Gd.wk (kf q) ⟨rfl, ⟨rfl, ⟨rfl, ⟨rfl, ⟨rfl, ⟨rfl, ⟨rfl, ⟨rfl, ⟨rfl, trivial⟩⟩⟩⟩⟩⟩⟩⟩⟩)
theorem bkX6_printParts_128 {X : GX} {h : SH} {nc ns : Nat} {P : Out → SH → Prop} {Q : Int32 → SH → Prop} {a0 : Nat} {a1 : Nat} {a2 : Nat} {x3 : Int32} {a4 : Nat} {x5 : Int32} {r6 : Option Nat} {x7 : Int32} {x9 : Int32} {as0 : Nat} (F0 : LX0 (Sk h) (a4)) (hN : Cd X mX0_dueDay [.ref a4, .int x3, .int x9] (h) 0 0 (oI Q nX)) (g : ∀ r t, Q r t → Gd X mX6_printParts 136 [some (.ref a0), some (.ref a1), some (.ref a2), some (.int x3), some (.ref a4), some (.int x5), some (va_rf r6), some (.int x7), none, none] [.int r, .ref as0] (t) nc ns P) : Gd X mX6_printParts 128 [some (.ref a0), some (.ref a1), some (.ref a2), some (.int x3), some (.ref a4), some (.int x5), some (va_rf r6), some (.int x7), none, some (.int x9)] [.ref as0] h nc ns P := by
  refine g_aload dX6_printParts_128 rfl ?_
  refine g_iload_n dX6_printParts_130 rfl ?_
  refine g_iload dX6_printParts_131 rfl ?_
  refine Gd.z ?_
  exact g_callV (k := 0) [.int x3, .int x9] dX6_printParts_133 mfX0_dueDay ⟨by decide, by decide⟩ kw_1001 kw_1002 kw_1003 rfl (by decide) (Nat.le_of_ble_eq_true rfl) (by intro x hx; cases hx) (LX0.o (h := h) F0) (Nat.le_of_ble_eq_true rfl) hN (fun _ _ q => q.elim) (oI_go (G := fun a b => Gd X mX6_printParts 136 _ a b nc ns P) (fun r t q => Gd.wk (g r t q) ⟨rfl, ⟨rfl, ⟨rfl, ⟨rfl, ⟨rfl, ⟨rfl, ⟨rfl, ⟨rfl, trivial⟩⟩⟩⟩⟩⟩⟩⟩))
theorem bkX6_printParts_136 {X : GX} {h : SH} {nc ns : Nat} {P : Out → SH → Prop} {a0 : Nat} {a1 : Nat} {a2 : Nat} {x3 : Int32} {a4 : Nat} {x5 : Int32} {r6 : Option Nat} {x7 : Int32} {as0 : Nat} {xs1 : Int32} (g : Gd X mX6_printParts 141 [some (.ref a0), some (.ref a1), some (.ref a2), some (.int x3), some (.ref a4), some (.int x5), some (va_rf r6), some (.int x7), none, none] [.int xs1, .ref as0] (h) nc ns P) : Gd X mX6_printParts 136 [some (.ref a0), some (.ref a1), some (.ref a2), some (.int x3), some (.ref a4), some (.int x5), some (va_rf r6), some (.int x7), none, none] [.int xs1, .ref as0] h nc ns P := by
  refine g_goto (tgt := 141) dX6_printParts_136 (by decide) ?_
  exact Gd.wk g ⟨rfl, ⟨rfl, ⟨rfl, ⟨rfl, ⟨rfl, ⟨rfl, ⟨rfl, ⟨rfl, trivial⟩⟩⟩⟩⟩⟩⟩⟩
theorem bkX6_printParts_139 {X : GX} {h : SH} {nc ns : Nat} {P : Out → SH → Prop} {a0 : Nat} {a1 : Nat} {a2 : Nat} {x3 : Int32} {a4 : Nat} {x5 : Int32} {r6 : Option Nat} {x7 : Int32} {x9 : Int32} {as0 : Nat} (g : Gd X mX6_printParts 141 [some (.ref a0), some (.ref a1), some (.ref a2), some (.int x3), some (.ref a4), some (.int x5), some (va_rf r6), some (.int x7), none, none] [.int x9, .ref as0] (h) nc ns P) : Gd X mX6_printParts 139 [some (.ref a0), some (.ref a1), some (.ref a2), some (.int x3), some (.ref a4), some (.int x5), some (va_rf r6), some (.int x7), none, some (.int x9)] [.ref as0] h nc ns P := by
  refine g_iload dX6_printParts_139 rfl ?_
  exact Gd.wk g ⟨rfl, ⟨rfl, ⟨rfl, ⟨rfl, ⟨rfl, ⟨rfl, ⟨rfl, ⟨rfl, trivial⟩⟩⟩⟩⟩⟩⟩⟩
theorem bkX6_printParts_141 {X : GX} {h : SH} {nc ns : Nat} {P : Out → SH → Prop} {Q : SH → Prop} {a0 : Nat} {a1 : Nat} {a2 : Nat} {x3 : Int32} {a4 : Nat} {x5 : Int32} {r6 : Option Nat} {x7 : Int32} {as0 : Nat} {xs1 : Int32} (F0 : LX6 (Sk h) (as0)) (hN : Cd X mX6_printNumber [.ref as0, .int xs1] (h) 0 0 (oV Q nX)) (g : ∀ t, Q t → Gd X mX6_printParts 144 [some (.ref a0), some (.ref a1), some (.ref a2), some (.int x3), some (.ref a4), some (.int x5), some (va_rf r6), some (.int x7), none, none] [] (t) nc ns P) : Gd X mX6_printParts 141 [some (.ref a0), some (.ref a1), some (.ref a2), some (.int x3), some (.ref a4), some (.int x5), some (va_rf r6), some (.int x7), none, none] [.int xs1, .ref as0] h nc ns P := by
  refine Gd.z ?_
  exact g_callV (k := 6) [.int xs1] dX6_printParts_141 mfX6_printNumber ⟨by decide, by decide⟩ kw_982 kw_984 kw_39 rfl (by decide) (Nat.le_of_ble_eq_true rfl) (by intro x hx; cases hx) (LX6.o (h := h) F0) (Nat.le_of_ble_eq_true rfl) hN (fun _ _ q => q.elim) (oV_go (G := fun a b => Gd X mX6_printParts 144 _ a b nc ns P) (fun t q => Gd.wk (g t q) ⟨rfl, ⟨rfl, ⟨rfl, ⟨rfl, ⟨rfl, ⟨rfl, ⟨rfl, ⟨rfl, trivial⟩⟩⟩⟩⟩⟩⟩⟩))
theorem bkX6_printParts_144 {X : GX} {h : SH} {nc ns : Nat} {P : Out → SH → Prop} {a0 : Nat} {a1 : Nat} {a2 : Nat} {x3 : Int32} {a4 : Nat} {x5 : Int32} {r6 : Option Nat} {x7 : Int32} (g : Gd X mX6_printParts 37 [some (.ref a0), some (.ref a1), some (.ref a2), some (.int x3), some (.ref a4), some (.int x5), some (va_rf r6), some (.int (x7 + 1)), none, none] [] (h) nc ns P) : Gd X mX6_printParts 144 [some (.ref a0), some (.ref a1), some (.ref a2), some (.int x3), some (.ref a4), some (.int x5), some (va_rf r6), some (.int x7), none, none] [] h nc ns P := by
  refine g_iinc (v := x7 + 1) (L' := [some (.ref a0), some (.ref a1), some (.ref a2), some (.int x3), some (.ref a4), some (.int x5), some (va_rf r6), some (.int (x7 + 1)), none, none]) dX6_printParts_144 rfl rfl (by decide) (by simp only [st1, st2, cl2_rf]) ?_
  refine g_goto (tgt := 37) dX6_printParts_147 (by decide) ?_
  exact Gd.wk g ⟨rfl, ⟨rfl, ⟨rfl, ⟨rfl, ⟨rfl, ⟨rfl, ⟨rfl, ⟨rfl, trivial⟩⟩⟩⟩⟩⟩⟩⟩
theorem bkX6_printParts_150 {X : GX} {h : SH} {nc ns : Nat} {P : Out → SH → Prop} {a0 : Nat} {a1 : Nat} {a2 : Nat} {x3 : Int32} {a4 : Nat} {x5 : Int32} (g : Gd X mX6_printParts 3 [some (.ref a0), some (.ref a1), some (.ref a2), some (.int x3), some (.ref a4), some (.int (x5 + 1)), none, none, none, none] [] (h) nc ns P) : Gd X mX6_printParts 150 [some (.ref a0), some (.ref a1), some (.ref a2), some (.int x3), some (.ref a4), some (.int x5), none, none, none, none] [] h nc ns P := by
  refine g_iinc (v := x5 + 1) (L' := [some (.ref a0), some (.ref a1), some (.ref a2), some (.int x3), some (.ref a4), some (.int (x5 + 1)), none, none, none, none]) dX6_printParts_150 rfl rfl (by decide) rfl ?_
  refine g_goto (tgt := 3) dX6_printParts_153 (by decide) ?_
  exact Gd.wk g ⟨rfl, ⟨rfl, ⟨rfl, ⟨rfl, ⟨rfl, ⟨rfl, trivial⟩⟩⟩⟩⟩⟩
theorem bkX6_printParts_156 {X : GX} {h : SH} {nc ns : Nat} {P : Out → SH → Prop} (hp : P (.inl (none)) (h)) : Gd X mX6_printParts 156 [none, none, none, none, none, none, none, none, none, none] [] h nc ns P := by
  exact g_return (st := []) dX6_printParts_156 rfl hp
theorem bkX6_printWord_0 {X : GX} {h : SH} {nc ns : Nat} {P : Out → SH → Prop} {Q : SH → Prop} {a0 : Nat} {y1 : Int64} (F0 : LX6 (Sk h) (a0)) (hN : Cd X mX6_printBlankBetween [.ref a0] (h) 0 0 (oV Q nX)) (g : ∀ t, Q t → Gd X mX6_printWord 4 [some (.ref a0), some (.long y1), none, none, none] [] (t) nc ns P) : Gd X mX6_printWord 0 [some (.ref a0), some (.long y1), none, none, none] [] h nc ns P := by
  refine g_aload_n dX6_printWord_0 rfl ?_
  refine Gd.z ?_
  exact g_callV (k := 6) [] dX6_printWord_1 mfX6_printBlankBetween ⟨by decide, by decide⟩ kw_986 kw_988 kw_40 rfl (by decide) (Nat.le_of_ble_eq_true rfl) (by intro x hx; cases hx) (LX6.o (h := h) F0) (Nat.le_of_ble_eq_true rfl) hN (fun _ _ q => q.elim) (oV_go (G := fun a b => Gd X mX6_printWord 4 _ a b nc ns P) (fun t q => Gd.wk (g t q) ⟨rfl, ⟨rfl, trivial⟩⟩))
theorem bkX6_printWord_4 {X : GX} {h : SH} {nc ns : Nat} {P : Out → SH → Prop} {a0 : Nat} {y1 : Int64} (g : Gd X mX6_printWord 7 [some (.ref a0), some (.long y1), none, some (.int 45), none] [] (h) nc ns P) : Gd X mX6_printWord 4 [some (.ref a0), some (.long y1), none, none, none] [] h nc ns P := by
  refine g_bipush (v := 45) dX6_printWord_4 (by decide) ?_
  refine g_istore_n (L' := [some (.ref a0), some (.long y1), none, some (.int 45), none]) dX6_printWord_6 (by decide) rfl ?_
  exact Gd.wk g ⟨rfl, ⟨rfl, ⟨rfl, trivial⟩⟩⟩
theorem bkX6_printWord_7 {X : GX} {h : SH} {nc ns : Nat} {P : Out → SH → Prop} {a0 : Nat} {y1 : Int64} {x3 : Int32} (kt : x3 < 0 → Gd X mX6_printWord 40 [none, none, none, none, none] [] (h) nc ns P) (kf : ¬ x3 < 0 → Gd X mX6_printWord 11 [some (.ref a0), some (.long y1), none, some (.int x3), none] [] (h) nc ns P) : Gd X mX6_printWord 7 [some (.ref a0), some (.long y1), none, some (.int x3), none] [] h nc ns P := by
  refine g_iload_n dX6_printWord_7 rfl ?_
  exact g_if_lt (tgt := 40) dX6_printWord_8 (by decide) (fun q => Gd.wk (kt q) trivial) (fun q => Gd.wk (kf q) ⟨rfl, ⟨rfl, ⟨rfl, trivial⟩⟩⟩)
theorem bkX6_printWord_11 {X : GX} {h : SH} {nc ns : Nat} {P : Out → SH → Prop} {a0 : Nat} {y1 : Int64} {x3 : Int32} (kt : (((((y1 : Int64).toUInt64 >>> ((x3 : Int32).toInt64.toUInt64 &&& Int64.toUInt64 63)).toInt64 : Int64).toInt32) &&& 31) = 0 → Gd X mX6_printWord 34 [some (.ref a0), some (.long y1), none, some (.int x3), none] [] (h) nc ns P) (kf : ¬ (((((y1 : Int64).toUInt64 >>> ((x3 : Int32).toInt64.toUInt64 &&& Int64.toUInt64 63)).toInt64 : Int64).toInt32) &&& 31) = 0 → Gd X mX6_printWord 25 [some (.ref a0), some (.long y1), none, some (.int x3), some (.int (((((y1 : Int64).toUInt64 >>> ((x3 : Int32).toInt64.toUInt64 &&& Int64.toUInt64 63)).toInt64 : Int64).toInt32) &&& 31))] [] (h) nc ns P) : Gd X mX6_printWord 11 [some (.ref a0), some (.long y1), none, some (.int x3), none] [] h nc ns P := by
  refine g_lload_n dX6_printWord_11 rfl ?_
  refine g_iload_n dX6_printWord_12 rfl ?_
  refine g_lushr dX6_printWord_13 ?_
  refine g_l2i dX6_printWord_14 ?_
  refine g_bipush (v := 31) dX6_printWord_15 (by decide) ?_
  refine g_iand dX6_printWord_17 ?_
  refine g_istore (L' := [some (.ref a0), some (.long y1), none, some (.int x3), some (.int (((((y1 : Int64).toUInt64 >>> ((x3 : Int32).toInt64.toUInt64 &&& Int64.toUInt64 63)).toInt64 : Int64).toInt32) &&& 31))]) dX6_printWord_18 (by decide) rfl ?_
  refine g_iload dX6_printWord_20 rfl ?_
  exact g_if_eq (tgt := 34) dX6_printWord_22 (by decide) (fun q => Gd.wk (kt q) ⟨rfl, ⟨rfl, ⟨rfl, trivial⟩⟩⟩) (fun q => Gd.wk (kf q) ⟨rfl, ⟨rfl, ⟨rfl, ⟨rfl, trivial⟩⟩⟩⟩)
theorem bkX6_printWord_25 {X : GX} {h : SH} {nc ns : Nat} {P : Out → SH → Prop} {Q : SH → Prop} {a0 : Nat} {y1 : Int64} {x3 : Int32} {x4 : Int32} (F0 : LX6 (Sk h) (a0)) (hN : Cd X mX6_printSign [.ref a0, .int (96 + x4)] (h) 0 0 (oV Q nX)) (g : ∀ t, Q t → Gd X mX6_printWord 34 [some (.ref a0), some (.long y1), none, some (.int x3), none] [] (t) nc ns P) : Gd X mX6_printWord 25 [some (.ref a0), some (.long y1), none, some (.int x3), some (.int x4)] [] h nc ns P := by
  refine g_aload_n dX6_printWord_25 rfl ?_
  refine g_bipush (v := 96) dX6_printWord_26 (by decide) ?_
  refine g_iload dX6_printWord_28 rfl ?_
  refine g_iadd dX6_printWord_30 ?_
  refine Gd.z ?_
  exact g_callV (k := 6) [.int (96 + x4)] dX6_printWord_31 mfX6_printSign ⟨by decide, by decide⟩ kw_990 kw_992 kw_41 rfl (by decide) (Nat.le_of_ble_eq_true rfl) (by intro x hx; cases hx) (LX6.o (h := h) F0) (Nat.le_of_ble_eq_true rfl) hN (fun _ _ q => q.elim) (oV_go (G := fun a b => Gd X mX6_printWord 34 _ a b nc ns P) (fun t q => Gd.wk (g t q) ⟨rfl, ⟨rfl, ⟨rfl, trivial⟩⟩⟩))
theorem bkX6_printWord_34 {X : GX} {h : SH} {nc ns : Nat} {P : Out → SH → Prop} {a0 : Nat} {y1 : Int64} {x3 : Int32} (g : Gd X mX6_printWord 7 [some (.ref a0), some (.long y1), none, some (.int (x3 + (-5))), none] [] (h) nc ns P) : Gd X mX6_printWord 34 [some (.ref a0), some (.long y1), none, some (.int x3), none] [] h nc ns P := by
  refine g_iinc (v := x3 + (-5)) (L' := [some (.ref a0), some (.long y1), none, some (.int (x3 + (-5))), none]) dX6_printWord_34 rfl rfl (by decide) rfl ?_
  refine g_goto (tgt := 7) dX6_printWord_37 (by decide) ?_
  exact Gd.wk g ⟨rfl, ⟨rfl, ⟨rfl, trivial⟩⟩⟩
theorem bkX6_printWord_40 {X : GX} {h : SH} {nc ns : Nat} {P : Out → SH → Prop} (hp : P (.inl (none)) (h)) : Gd X mX6_printWord 40 [none, none, none, none, none] [] h nc ns P := by
  exact g_return (st := []) dX6_printWord_40 rfl hp
theorem bkX6_printNumber_0 {X : GX} {h : SH} {nc ns : Nat} {P : Out → SH → Prop} {Q : SH → Prop} {a0 : Nat} {x1 : Int32} (F0 : LX6 (Sk h) (a0)) (hN : Cd X mX6_printBlankBetween [.ref a0] (h) 0 0 (oV Q nX)) (g : ∀ t, Q t → Gd X mX6_printNumber 4 [some (.ref a0), some (.int x1), none, none, none] [] (t) nc ns P) : Gd X mX6_printNumber 0 [some (.ref a0), some (.int x1), none, none, none] [] h nc ns P := by
  refine g_aload_n dX6_printNumber_0 rfl ?_
  refine Gd.z ?_
  exact g_callV (k := 6) [] dX6_printNumber_1 mfX6_printBlankBetween ⟨by decide, by decide⟩ kw_986 kw_988 kw_40 rfl (by decide) (Nat.le_of_ble_eq_true rfl) (by intro x hx; cases hx) (LX6.o (h := h) F0) (Nat.le_of_ble_eq_true rfl) hN (fun _ _ q => q.elim) (oV_go (G := fun a b => Gd X mX6_printNumber 4 _ a b nc ns P) (fun t q => Gd.wk (g t q) ⟨rfl, ⟨rfl, trivial⟩⟩))
theorem bkX6_printNumber_4 {X : GX} {h : SH} {nc ns : Nat} {P : Out → SH → Prop} {a0 : Nat} {x1 : Int32} (kt : (0 : Int32) ≤ x1 → Gd X mX6_printNumber 14 [some (.ref a0), some (.int x1), none, none, none] [] (h) nc ns P) (kf : ¬ (0 : Int32) ≤ x1 → Gd X mX6_printNumber 8 [some (.ref a0), some (.int x1), none, none, none] [] (h) nc ns P) : Gd X mX6_printNumber 4 [some (.ref a0), some (.int x1), none, none, none] [] h nc ns P := by
  refine g_iload_n dX6_printNumber_4 rfl ?_
  exact g_if_ge (tgt := 14) dX6_printNumber_5 (by decide) (fun q => Gd.wk (kt q) ⟨rfl, ⟨rfl, trivial⟩⟩) (fun q => Gd.wk (kf q) ⟨rfl, ⟨rfl, trivial⟩⟩)
theorem bkX6_printNumber_8 {X : GX} {h : SH} {nc ns : Nat} {P : Out → SH → Prop} {Q : SH → Prop} {a0 : Nat} {x1 : Int32} (F0 : LX6 (Sk h) (a0)) (hN : Cd X mX6_printSign [.ref a0, .int 45] (h) 0 0 (oV Q nX)) (g : ∀ t, Q t → Gd X mX6_printNumber 14 [some (.ref a0), some (.int x1), none, none, none] [] (t) nc ns P) : Gd X mX6_printNumber 8 [some (.ref a0), some (.int x1), none, none, none] [] h nc ns P := by
  refine g_aload_n dX6_printNumber_8 rfl ?_
  refine g_bipush (v := 45) dX6_printNumber_9 (by decide) ?_
  refine Gd.z ?_
  exact g_callV (k := 6) [.int 45] dX6_printNumber_11 mfX6_printSign ⟨by decide, by decide⟩ kw_990 kw_992 kw_41 rfl (by decide) (Nat.le_of_ble_eq_true rfl) (by intro x hx; cases hx) (LX6.o (h := h) F0) (Nat.le_of_ble_eq_true rfl) hN (fun _ _ q => q.elim) (oV_go (G := fun a b => Gd X mX6_printNumber 14 _ a b nc ns P) (fun t q => Gd.wk (g t q) ⟨rfl, ⟨rfl, trivial⟩⟩))
theorem bkX6_printNumber_14 {X : GX} {h : SH} {nc ns : Nat} {P : Out → SH → Prop} {a0 : Nat} {x1 : Int32} (g : Gd X mX6_printNumber 18 [some (.ref a0), none, none, none, none] [.int (if 0 ≤ x1 then x1 else 0 - x1)] (h) nc ns P) : Gd X mX6_printNumber 14 [some (.ref a0), some (.int x1), none, none, none] [] h nc ns P := by
  refine g_iload_n dX6_printNumber_14 rfl ?_
  refine g_mabs dX6_printNumber_15 kw_994 (by decide) (Nat.le_of_ble_eq_true rfl) ?_
  exact Gd.wk g ⟨rfl, trivial⟩
theorem bkX6_printNumber_18 {X : GX} {h : SH} {nc ns : Nat} {P : Out → SH → Prop} {a0 : Nat} {xs0 : Int32} (g : Gd X mX6_printNumber 24 [some (.ref a0), none, some (.int xs0), some (.int 1), some (.int 1)] [] (h) nc ns P) : Gd X mX6_printNumber 18 [some (.ref a0), none, none, none, none] [.int xs0] h nc ns P := by
  refine g_istore_n (L' := [some (.ref a0), none, some (.int xs0), none, none]) dX6_printNumber_18 (by decide) rfl ?_
  refine g_iconst (v := 1) dX6_printNumber_19 (by decide) ?_
  refine g_istore_n (L' := [some (.ref a0), none, some (.int xs0), some (.int 1), none]) dX6_printNumber_20 (by decide) rfl ?_
  refine g_iconst (v := 1) dX6_printNumber_21 (by decide) ?_
  refine g_istore (L' := [some (.ref a0), none, some (.int xs0), some (.int 1), some (.int 1)]) dX6_printNumber_22 (by decide) rfl ?_
  exact Gd.wk g ⟨rfl, ⟨rfl, ⟨rfl, ⟨rfl, trivial⟩⟩⟩⟩
theorem bkX6_printNumber_24 {X : GX} {h : SH} {nc ns : Nat} {P : Out → SH → Prop} {a0 : Nat} {x2 : Int32} {x3 : Int32} {x4 : Int32} (kt : (10 : Int32) ≤ x4 → Gd X mX6_printNumber 50 [some (.ref a0), none, some (.int x2), some (.int x3), none] [] (h) nc ns P) (kf : ¬ (10 : Int32) ≤ x4 → Gd X mX6_printNumber 31 [some (.ref a0), none, some (.int x2), some (.int x3), some (.int x4)] [] (h) nc ns P) : Gd X mX6_printNumber 24 [some (.ref a0), none, some (.int x2), some (.int x3), some (.int x4)] [] h nc ns P := by
  refine g_iload dX6_printNumber_24 rfl ?_
  refine g_bipush (v := 10) dX6_printNumber_26 (by decide) ?_
  exact g_icmp_ge (tgt := 50) dX6_printNumber_28 (by decide) (fun q => Gd.wk (kt q) ⟨rfl, ⟨rfl, ⟨rfl, trivial⟩⟩⟩) (fun q => Gd.wk (kf q) ⟨rfl, ⟨rfl, ⟨rfl, ⟨rfl, trivial⟩⟩⟩⟩)
theorem bkX6_printNumber_31 {X : GX} {h : SH} {nc ns : Nat} {P : Out → SH → Prop} {a0 : Nat} {x2 : Int32} {x3 : Int32} {x4 : Int32} (z0 : ¬ (x3 : Int32) = 0) (kt : (x2 / x3) < 10 → Gd X mX6_printNumber 50 [some (.ref a0), none, some (.int x2), some (.int x3), none] [] (h) nc ns P) (kf : ¬ (x2 / x3) < 10 → Gd X mX6_printNumber 39 [some (.ref a0), none, some (.int x2), some (.int x3), some (.int x4)] [] (h) nc ns P) : Gd X mX6_printNumber 31 [some (.ref a0), none, some (.int x2), some (.int x3), some (.int x4)] [] h nc ns P := by
  refine g_iload_n dX6_printNumber_31 rfl ?_
  refine g_iload_n dX6_printNumber_32 rfl ?_
  refine g_idiv dX6_printNumber_33 z0 ?_
  refine g_bipush (v := 10) dX6_printNumber_34 (by decide) ?_
  exact g_icmp_lt (tgt := 50) dX6_printNumber_36 (by decide) (fun q => Gd.wk (kt q) ⟨rfl, ⟨rfl, ⟨rfl, trivial⟩⟩⟩) (fun q => Gd.wk (kf q) ⟨rfl, ⟨rfl, ⟨rfl, ⟨rfl, trivial⟩⟩⟩⟩)
theorem bkX6_printNumber_39 {X : GX} {h : SH} {nc ns : Nat} {P : Out → SH → Prop} {a0 : Nat} {x2 : Int32} {x3 : Int32} {x4 : Int32} (g : Gd X mX6_printNumber 24 [some (.ref a0), none, some (.int x2), some (.int (x3 * 10)), some (.int (x4 + 1))] [] (h) nc ns P) : Gd X mX6_printNumber 39 [some (.ref a0), none, some (.int x2), some (.int x3), some (.int x4)] [] h nc ns P := by
  refine g_iload_n dX6_printNumber_39 rfl ?_
  refine g_bipush (v := 10) dX6_printNumber_40 (by decide) ?_
  refine g_imul dX6_printNumber_42 ?_
  refine g_istore_n (L' := [some (.ref a0), none, some (.int x2), some (.int (x3 * 10)), some (.int x4)]) dX6_printNumber_43 (by decide) rfl ?_
  refine g_iinc (v := x4 + 1) (L' := [some (.ref a0), none, some (.int x2), some (.int (x3 * 10)), some (.int (x4 + 1))]) dX6_printNumber_44 rfl rfl (by decide) rfl ?_
  refine g_goto (tgt := 24) dX6_printNumber_47 (by decide) ?_
  exact Gd.wk g ⟨rfl, ⟨rfl, ⟨rfl, ⟨rfl, trivial⟩⟩⟩⟩
theorem bkX6_printNumber_50 {X : GX} {h : SH} {nc ns : Nat} {P : Out → SH → Prop} {a0 : Nat} {x2 : Int32} {x3 : Int32} (kt : x3 < 1 → Gd X mX6_printNumber 76 [none, none, none, none, none] [] (h) nc ns P) (kf : ¬ x3 < 1 → Gd X mX6_printNumber 55 [some (.ref a0), none, some (.int x2), some (.int x3), none] [] (h) nc ns P) : Gd X mX6_printNumber 50 [some (.ref a0), none, some (.int x2), some (.int x3), none] [] h nc ns P := by
  refine g_iload_n dX6_printNumber_50 rfl ?_
  refine g_iconst (v := 1) dX6_printNumber_51 (by decide) ?_
  exact g_icmp_lt (tgt := 76) dX6_printNumber_52 (by decide) (fun q => Gd.wk (kt q) trivial) (fun q => Gd.wk (kf q) ⟨rfl, ⟨rfl, ⟨rfl, trivial⟩⟩⟩)
theorem bkX6_printNumber_55 {X : GX} {h : SH} {nc ns : Nat} {P : Out → SH → Prop} {Q : SH → Prop} {a0 : Nat} {x2 : Int32} {x3 : Int32} (z0 : ¬ (x3 : Int32) = 0) (F1 : LX6 (Sk h) (a0)) (hN : Cd X mX6_printSign [.ref a0, .int (48 + ((x2 / x3) - (x2 / x3) / 10 * 10))] (h) 0 0 (oV Q nX)) (g : ∀ t, Q t → Gd X mX6_printNumber 68 [some (.ref a0), none, some (.int x2), some (.int x3), none] [] (t) nc ns P) : Gd X mX6_printNumber 55 [some (.ref a0), none, some (.int x2), some (.int x3), none] [] h nc ns P := by
  refine g_aload_n dX6_printNumber_55 rfl ?_
  refine g_bipush (v := 48) dX6_printNumber_56 (by decide) ?_
  refine g_iload_n dX6_printNumber_58 rfl ?_
  refine g_iload_n dX6_printNumber_59 rfl ?_
  refine g_idiv dX6_printNumber_60 z0 ?_
  refine g_bipush (v := 10) dX6_printNumber_61 (by decide) ?_
  refine g_irem dX6_printNumber_63 (by decide) ?_
  refine g_iadd dX6_printNumber_64 ?_
  refine Gd.z ?_
  exact g_callV (k := 6) [.int (48 + ((x2 / x3) - (x2 / x3) / 10 * 10))] dX6_printNumber_65 mfX6_printSign ⟨by decide, by decide⟩ kw_990 kw_992 kw_41 rfl (by decide) (Nat.le_of_ble_eq_true rfl) (by intro x hx; cases hx) (LX6.o (h := h) F1) (Nat.le_of_ble_eq_true rfl) hN (fun _ _ q => q.elim) (oV_go (G := fun a b => Gd X mX6_printNumber 68 _ a b nc ns P) (fun t q => Gd.wk (g t q) ⟨rfl, ⟨rfl, ⟨rfl, trivial⟩⟩⟩))
theorem bkX6_printNumber_68 {X : GX} {h : SH} {nc ns : Nat} {P : Out → SH → Prop} {a0 : Nat} {x2 : Int32} {x3 : Int32} (g : Gd X mX6_printNumber 50 [some (.ref a0), none, some (.int x2), some (.int (x3 / 10)), none] [] (h) nc ns P) : Gd X mX6_printNumber 68 [some (.ref a0), none, some (.int x2), some (.int x3), none] [] h nc ns P := by
  refine g_iload_n dX6_printNumber_68 rfl ?_
  refine g_bipush (v := 10) dX6_printNumber_69 (by decide) ?_
  refine g_idiv dX6_printNumber_71 (by decide) ?_
  refine g_istore_n (L' := [some (.ref a0), none, some (.int x2), some (.int (x3 / 10)), none]) dX6_printNumber_72 (by decide) rfl ?_
  refine g_goto (tgt := 50) dX6_printNumber_73 (by decide) ?_
  exact Gd.wk g ⟨rfl, ⟨rfl, ⟨rfl, trivial⟩⟩⟩
theorem bkX6_printNumber_76 {X : GX} {h : SH} {nc ns : Nat} {P : Out → SH → Prop} (hp : P (.inl (none)) (h)) : Gd X mX6_printNumber 76 [none, none, none, none, none] [] h nc ns P := by
  exact g_return (st := []) dX6_printNumber_76 rfl hp
theorem bkX6_printBlankBetween_0 {X : GX} {h : SH} {nc ns : Nat} {P : Out → SH → Prop} {a0 : Nat} (F0 : LX6 (Sk h) (a0)) (kt : hI h a0 5 ≤ 0 → Gd X mX6_printBlankBetween 13 [none] [] (h) nc ns P) (kf : ¬ hI h a0 5 ≤ 0 → Gd X mX6_printBlankBetween 7 [some (.ref a0)] [] (h) nc ns P) : Gd X mX6_printBlankBetween 0 [some (.ref a0)] [] h nc ns P := by
  refine g_aload_n dX6_printBlankBetween_0 rfl ?_
  refine g_getI (c := 6) (k := 5) dX6_printBlankBetween_1 (by decide) (by decide) kw_174 rfl (LX6.o (h := h) F0) ?_
  exact g_if_le (tgt := 13) dX6_printBlankBetween_4 (by decide) (fun q => Gd.wk (kt q) trivial) (fun q => Gd.wk (kf q) ⟨rfl, trivial⟩)
theorem bkX6_printBlankBetween_7 {X : GX} {h : SH} {nc ns : Nat} {P : Out → SH → Prop} {Q : SH → Prop} {a0 : Nat} (F0 : LX6 (Sk h) (a0)) (hN : Cd X mX6_printSign [.ref a0, .int 32] (h) 0 0 (oV Q nX)) (g : ∀ t, Q t → Gd X mX6_printBlankBetween 13 [none] [] (t) nc ns P) : Gd X mX6_printBlankBetween 7 [some (.ref a0)] [] h nc ns P := by
  refine g_aload_n dX6_printBlankBetween_7 rfl ?_
  refine g_bipush (v := 32) dX6_printBlankBetween_8 (by decide) ?_
  refine Gd.z ?_
  exact g_callV (k := 6) [.int 32] dX6_printBlankBetween_10 mfX6_printSign ⟨by decide, by decide⟩ kw_990 kw_992 kw_41 rfl (by decide) (Nat.le_of_ble_eq_true rfl) (by intro x hx; cases hx) (LX6.o (h := h) F0) (Nat.le_of_ble_eq_true rfl) hN (fun _ _ q => q.elim) (oV_go (G := fun a b => Gd X mX6_printBlankBetween 13 _ a b nc ns P) (fun t q => Gd.wk (g t q) trivial))
theorem bkX6_printBlankBetween_13 {X : GX} {h : SH} {nc ns : Nat} {P : Out → SH → Prop} (hp : P (.inl (none)) (h)) : Gd X mX6_printBlankBetween 13 [none] [] h nc ns P := by
  exact g_return (st := []) dX6_printBlankBetween_13 rfl hp
theorem bkX6_printSign_0 {X : GX} {h : SH} {nc ns : Nat} {P : Out → SH → Prop} {a0 : Nat} {x1 : Int32} (F0 : LX6 (Sk h) (a0)) (kt : (Int32.ofNat 2772) ≤ hI h a0 5 → Gd X mX6_printSign 33 [none, none] [] (h) nc ns P) (kf : ¬ (Int32.ofNat 2772) ≤ hI h a0 5 → Gd X mX6_printSign 12 [some (.ref a0), some (.int x1)] [] (h) nc ns P) : Gd X mX6_printSign 0 [some (.ref a0), some (.int x1)] [] h nc ns P := by
  refine g_aload_n dX6_printSign_0 rfl ?_
  refine g_getI (c := 6) (k := 5) dX6_printSign_1 (by decide) (by decide) kw_174 rfl (LX6.o (h := h) F0) ?_
  refine g_aload_n dX6_printSign_4 rfl ?_
  refine g_getAs (c := 6) (k := 4) (b := a0 + 4) dX6_printSign_5 (by decide) (by decide) kw_172 rfl (LX6.o (h := h) F0) (LX6.r_signs (h := h) F0) ?_
  refine g_alen (k := 21) dX6_printSign_8 (by decide) (by decide) (LX6.a_signs (h := h) F0) ?_
  exact g_icmp_ge (tgt := 33) dX6_printSign_9 (by decide) (fun q => Gd.wk (kt q) trivial) (fun q => Gd.wk (kf q) ⟨rfl, ⟨rfl, trivial⟩⟩)
theorem bkX6_printSign_12 {X : GX} {h : SH} {nc ns : Nat} {P : Out → SH → Prop} {a0 : Nat} {x1 : Int32} (F0 : LX6 (Sk h) (a0)) (i1 : vp_in (hI h a0 5) 2772) (g : Gd X mX6_printSign 33 [none, none] [] (sI (sI h (a0 + 4) ((hI h a0 5 : Int32).toNatClampNeg) (vp_nar .byte ((x1 : Int32).toInt8.toInt32))) a0 5 ((hI (sI h (a0 + 4) ((hI h a0 5 : Int32).toNatClampNeg) (vp_nar .byte ((x1 : Int32).toInt8.toInt32))) a0 5) + 1)) nc ns P) : Gd X mX6_printSign 12 [some (.ref a0), some (.int x1)] [] h nc ns P := by
  refine g_aload_n dX6_printSign_12 rfl ?_
  refine g_getAs (c := 6) (k := 4) (b := a0 + 4) dX6_printSign_13 (by decide) (by decide) kw_172 rfl (LX6.o (h := h) F0) (LX6.r_signs (h := h) F0) ?_
  refine g_aload_n dX6_printSign_16 rfl ?_
  refine g_getI (c := 6) (k := 5) dX6_printSign_17 (by decide) (by decide) kw_174 rfl (LX6.o (h := h) F0) ?_
  refine g_iload_n dX6_printSign_20 rfl ?_
  refine g_i2b dX6_printSign_21 ?_
  refine g_bastore dX6_printSign_22 (LX6.a_signs (h := h) F0) i1 ?_
  refine g_aload_n dX6_printSign_23 rfl ?_
  refine g_dup dX6_printSign_24 rfl ?_
  refine g_getI (c := 6) (k := 5) dX6_printSign_25 (by decide) (by decide) kw_174 rfl (LX6.o (h := sI h (a0 + 4) ((hI h a0 5 : Int32).toNatClampNeg) (vp_nar .byte ((x1 : Int32).toInt8.toInt32))) F0) ?_
  refine g_iconst (v := 1) dX6_printSign_28 (by decide) ?_
  refine g_iadd dX6_printSign_29 ?_
  refine g_put (c := 6) (k := 5) (h1 := sI (sI h (a0 + 4) ((hI h a0 5 : Int32).toNatClampNeg) (vp_nar .byte ((x1 : Int32).toInt8.toInt32))) a0 5 ((hI (sI h (a0 + 4) ((hI h a0 5 : Int32).toNatClampNeg) (vp_nar .byte ((x1 : Int32).toInt8.toInt32))) a0 5) + 1)) dX6_printSign_30 (by decide) (by decide) kw_174 rfl (LX6.o (h := sI h (a0 + 4) ((hI h a0 5 : Int32).toNatClampNeg) (vp_nar .byte ((x1 : Int32).toInt8.toInt32))) F0) rfl rfl (Put.I rfl) ?_
  exact Gd.wk g trivial
theorem bkX6_printSign_33 {X : GX} {h : SH} {nc ns : Nat} {P : Out → SH → Prop} (hp : P (.inl (none)) (h)) : Gd X mX6_printSign 33 [none, none] [] h nc ns P := by
  exact g_return (st := []) dX6_printSign_33 rfl hp
