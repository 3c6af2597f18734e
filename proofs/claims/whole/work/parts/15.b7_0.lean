theorem bkX7_init_0 {X : GX} {h : SH} {nc ns : Nat} {P : Out → SH → Prop} {a0 : Nat} {a1 : Nat} {x2 : Int32} {a3 : Nat} (g : Gd X mX7_init 4 [some (.ref a0), some (.ref a1), some (.int x2), some (.ref a3)] [] (h) nc ns P) : Gd X mX7_init 0 [some (.ref a0), some (.ref a1), some (.int x2), some (.ref a3)] [] h nc ns P := by
  refine g_aload_n dX7_init_0 rfl ?_
  refine g_objInit dX7_init_1 kw_367 kw_124 kw_125 (by decide) (Nat.le_of_ble_eq_true rfl) ?_
  exact Gd.wk g ⟨rfl, ⟨rfl, ⟨rfl, ⟨rfl, trivial⟩⟩⟩⟩
theorem bkX7_init_4 {X : GX} {h : SH} {nc ns : Nat} {P : Out → SH → Prop} {a0 : Nat} {a1 : Nat} {x2 : Int32} {a3 : Nat} (g : Gd X mX7_init 9 [some (.ref a0), some (.ref a1), some (.int x2), some (.ref a3)] [.ref (hz h), .ref a0] (nw h 20 6) nc ns P) : Gd X mX7_init 4 [some (.ref a0), some (.ref a1), some (.int x2), some (.ref a3)] [] h (nc + 1) (ns + 6) P := by
  refine g_aload_n dX7_init_4 rfl ?_
  refine g_bipush (v := 6) dX7_init_5 (by decide) ?_
  refine g_newarrN (k := 20) (N := 6) dX7_init_7 (by decide) (by decide) rfl kw_145 (by decide) (by decide) (by decide) ?_
  exact Gd.wk g ⟨rfl, ⟨rfl, ⟨rfl, ⟨rfl, trivial⟩⟩⟩⟩
theorem bkX7_init_30 {X : GX} {h : SH} {nc ns : Nat} {P : Out → SH → Prop} {a0 : Nat} {x2 : Int32} {a3 : Nat} {as0 : Nat} {as1 : Nat} (F0 : LX7 (Sk h) (as0)) (g : Gd X mX7_init 33 [some (.ref a0), none, some (.int x2), some (.ref a3)] [] (sA h as0 0 (some (as1))) nc ns P) : Gd X mX7_init 30 [some (.ref a0), none, some (.int x2), some (.ref a3)] [.ref as1, .ref as0] h nc ns P := by
  refine g_putF (c := 7) (k := 0) (v := va_rf (some (as1))) (h1 := sA h as0 0 (some (as1))) dX7_init_30 (by decide) (by decide) kw_413 rfl rfl rfl (LX7.o (h := h) F0) (rf_n rfl) (rf_f rfl) (Put.A rfl) ?_
  exact Gd.wk g ⟨rfl, ⟨rfl, ⟨rfl, trivial⟩⟩⟩
theorem bkX7_init_9 {X : GX} {h : SH} {nc ns : Nat} {P : Out → SH → Prop} {a0 : Nat} {a1 : Nat} {x2 : Int32} {a3 : Nat} {as0 : Nat} {as1 : Nat} (F0 : LX7 (Sk h) (as0)) (g : Gd X mX7_init 12 [some (.ref a0), some (.ref a1), some (.int x2), some (.ref a3)] [] (sA h as0 6 (some (as1))) nc ns P) : Gd X mX7_init 9 [some (.ref a0), some (.ref a1), some (.int x2), some (.ref a3)] [.ref as1, .ref as0] h nc ns P := by
  refine g_putF (c := 7) (k := 6) (v := va_rf (some (as1))) (h1 := sA h as0 6 (some (as1))) dX7_init_9 (by decide) (by decide) kw_419 rfl rfl rfl (LX7.o (h := h) F0) (rf_n rfl) (rf_f rfl) (Put.A rfl) ?_
  exact Gd.wk g ⟨rfl, ⟨rfl, ⟨rfl, ⟨rfl, trivial⟩⟩⟩⟩
theorem bkX7_init_33 {X : GX} {h : SH} {nc ns : Nat} {P : Out → SH → Prop} {a0 : Nat} {x2 : Int32} {a3 : Nat} (O0 : Ob h a0 7) (g : Gd X mX7_init 38 [some (.ref a0), none, some (.int x2), none] [] (sA h a0 1 (some (a3))) nc ns P) : Gd X mX7_init 33 [some (.ref a0), none, some (.int x2), some (.ref a3)] [] h nc ns P := by
  refine g_aload_n dX7_init_33 rfl ?_
  refine g_aload_n dX7_init_34 rfl ?_
  refine g_putF (c := 7) (k := 1) (v := va_rf (some (a3))) (h1 := sA h a0 1 (some (a3))) dX7_init_35 (by decide) (by decide) kw_414 rfl rfl rfl O0 (rf_n rfl) (rf_f rfl) (Put.A rfl) ?_
  exact Gd.wk g ⟨rfl, ⟨rfl, trivial⟩⟩
theorem bkX7_init_12 {X : GX} {h : SH} {nc ns : Nat} {P : Out → SH → Prop} {a0 : Nat} {a1 : Nat} {x2 : Int32} {a3 : Nat} (g : Gd X mX7_init 17 [some (.ref a0), some (.ref a1), some (.int x2), some (.ref a3)] [.ref (hz h), .ref a0] (nw h 20 6) nc ns P) : Gd X mX7_init 12 [some (.ref a0), some (.ref a1), some (.int x2), some (.ref a3)] [] h (nc + 1) (ns + 6) P := by
  refine g_aload_n dX7_init_12 rfl ?_
  refine g_bipush (v := 6) dX7_init_13 (by decide) ?_
  refine g_newarrN (k := 20) (N := 6) dX7_init_15 (by decide) (by decide) rfl kw_145 (by decide) (by decide) (by decide) ?_
  exact Gd.wk g ⟨rfl, ⟨rfl, ⟨rfl, ⟨rfl, trivial⟩⟩⟩⟩
theorem bkX7_init_38 {X : GX} {h : SH} {nc ns : Nat} {P : Out → SH → Prop} {a0 : Nat} {x2 : Int32} {N2 : Nat} (c0 : ¬ ((x2 / 7) + 1) < 0) (c1 : ((x2 / 7) + 1 : Int32).toNatClampNeg = N2) (c2 : N2 * 8 ≤ 536870912) (g : Gd X mX7_init 47 [some (.ref a0), none, some (.int x2), none] [.ref (hz h), .ref a0] (nw h 23 N2) nc ns P) : Gd X mX7_init 38 [some (.ref a0), none, some (.int x2), none] [] h (nc + 1) (ns + N2) P := by
  refine g_aload_n dX7_init_38 rfl ?_
  refine g_iload_n dX7_init_39 rfl ?_
  refine g_bipush (v := 7) dX7_init_40 (by decide) ?_
  refine g_idiv dX7_init_42 (by decide) ?_
  refine g_iconst (v := 1) dX7_init_43 (by decide) ?_
  refine g_iadd dX7_init_44 ?_
  refine g_newarrN (k := 23) (N := N2) dX7_init_45 (by decide) (by decide) rfl kw_361 c0 c1 c2 ?_
  exact Gd.wk g ⟨rfl, ⟨rfl, trivial⟩⟩
theorem bkX7_init_17 {X : GX} {h : SH} {nc ns : Nat} {P : Out → SH → Prop} {a0 : Nat} {a1 : Nat} {x2 : Int32} {a3 : Nat} {as0 : Nat} {as1 : Nat} (F0 : LX7 (Sk h) (as0)) (g : Gd X mX7_init 20 [some (.ref a0), some (.ref a1), some (.int x2), some (.ref a3)] [] (sA h as0 7 (some (as1))) nc ns P) : Gd X mX7_init 17 [some (.ref a0), some (.ref a1), some (.int x2), some (.ref a3)] [.ref as1, .ref as0] h nc ns P := by
  refine g_putF (c := 7) (k := 7) (v := va_rf (some (as1))) (h1 := sA h as0 7 (some (as1))) dX7_init_17 (by decide) (by decide) kw_420 rfl rfl rfl (LX7.o (h := h) F0) (rf_n rfl) (rf_f rfl) (Put.A rfl) ?_
  exact Gd.wk g ⟨rfl, ⟨rfl, ⟨rfl, ⟨rfl, trivial⟩⟩⟩⟩
theorem bkX7_init_47 {X : GX} {h : SH} {nc ns : Nat} {P : Out → SH → Prop} {a0 : Nat} {x2 : Int32} {as0 : Nat} {as1 : Nat} (F0 : LX7 (Sk h) (as0)) (g : Gd X mX7_init 50 [some (.ref a0), none, some (.int x2), none] [] (sA h as0 2 (some (as1))) nc ns P) : Gd X mX7_init 47 [some (.ref a0), none, some (.int x2), none] [.ref as1, .ref as0] h nc ns P := by
  refine g_putF (c := 7) (k := 2) (v := va_rf (some (as1))) (h1 := sA h as0 2 (some (as1))) dX7_init_47 (by decide) (by decide) kw_415 rfl rfl rfl (LX7.o (h := h) F0) (rf_n rfl) (rf_f rfl) (Put.A rfl) ?_
  exact Gd.wk g ⟨rfl, ⟨rfl, trivial⟩⟩
theorem bkX7_init_20 {X : GX} {h : SH} {nc ns : Nat} {P : Out → SH → Prop} {a0 : Nat} {a1 : Nat} {x2 : Int32} {a3 : Nat} (g : Gd X mX7_init 24 [some (.ref a0), some (.ref a1), some (.int x2), some (.ref a3)] [.ref (hz h), .ref a0] (nw h 9 0) nc ns P) : Gd X mX7_init 20 [some (.ref a0), some (.ref a1), some (.int x2), some (.ref a3)] [] h (nc + 1) (ns + 11) P := by
  refine g_aload_n dX7_init_20 rfl ?_
  refine g_new (c := 9) dX7_init_21 (by decide) kw_368 kw_369 kw_101 ?_
  exact Gd.wk g ⟨rfl, ⟨rfl, ⟨rfl, ⟨rfl, trivial⟩⟩⟩⟩
theorem bkX7_init_50 {X : GX} {h : SH} {nc ns : Nat} {P : Out → SH → Prop} {a0 : Nat} {x2 : Int32} {N2 : Nat} (c0 : ¬ x2 < 0) (c1 : (x2 : Int32).toNatClampNeg = N2) (c2 : N2 * 4 ≤ 536870912) (g : Gd X mX7_init 54 [none, none, none, none] [.ref (hz h), .ref a0] (nw h 20 N2) nc ns P) : Gd X mX7_init 50 [some (.ref a0), none, some (.int x2), none] [] h (nc + 1) (ns + N2) P := by
  refine g_aload_n dX7_init_50 rfl ?_
  refine g_iload_n dX7_init_51 rfl ?_
  refine g_newarrN (k := 20) (N := N2) dX7_init_52 (by decide) (by decide) rfl kw_145 c0 c1 c2 ?_
  exact Gd.wk g trivial
theorem bkX7_init_24 {X : GX} {h : SH} {nc ns : Nat} {P : Out → SH → Prop} {n1 s1 : Nat} {Q : SH → Prop} {a0 : Nat} {a1 : Nat} {x2 : Int32} {a3 : Nat} {as0 : Nat} {as1 : Nat} (hN : Cd X mX9_init [.ref as1, .ref a1, .int x2] (h) n1 s1 (oV Q nX)) (g : ∀ t, Q t → Gd X mX7_init 30 [some (.ref a0), none, some (.int x2), some (.ref a3)] [.ref as1, .ref as0] (t) nc ns P) : Gd X mX7_init 24 [some (.ref a0), some (.ref a1), some (.int x2), some (.ref a3)] [.ref as1, .ref as0] h (n1 + nc) (s1 + ns) P := by
  refine g_dup dX7_init_24 rfl ?_
  refine g_aload_n dX7_init_25 rfl ?_
  refine g_iload_n dX7_init_26 rfl ?_
  exact g_callI [.ref a1, .int x2] dX7_init_27 mfX9_init rfl rfl ⟨by decide, by decide⟩ kw_370 kw_371 rfl (Nat.le_of_ble_eq_true rfl) (by intro x hx; cases hx) (Nat.le_of_ble_eq_true rfl) hN (fun _ _ q => q) (oV_go (G := fun a b => Gd X mX7_init 30 _ a b nc ns P) (fun t q => Gd.wk (g t q) ⟨rfl, ⟨rfl, ⟨rfl, trivial⟩⟩⟩))
theorem bkX7_init_54 {X : GX} {h : SH} {nc ns : Nat} {P : Out → SH → Prop} {as0 : Nat} {as1 : Nat} (F0 : LX7 (Sk h) (as0)) (g : Gd X mX7_init 57 [none, none, none, none] [] (sA h as0 4 (some (as1))) nc ns P) : Gd X mX7_init 54 [none, none, none, none] [.ref as1, .ref as0] h nc ns P := by
  refine g_putF (c := 7) (k := 4) (v := va_rf (some (as1))) (h1 := sA h as0 4 (some (as1))) dX7_init_54 (by decide) (by decide) kw_417 rfl rfl rfl (LX7.o (h := h) F0) (rf_n rfl) (rf_f rfl) (Put.A rfl) ?_
  exact Gd.wk g trivial
theorem bkX7_init_57 {X : GX} {h : SH} {nc ns : Nat} {P : Out → SH → Prop} (hp : P (.inl (none)) (h)) : Gd X mX7_init 57 [none, none, none, none] [] h nc ns P := by
  exact g_return (st := []) dX7_init_57 rfl hp
theorem bkX7_fillEdition_11 {X : GX} {h : SH} {nc ns : Nat} {P : Out → SH → Prop} {a0 : Nat} (g : Gd X mX7_fillEdition 13 [some (.ref a0), some (.int 0)] [] (h) nc ns P) : Gd X mX7_fillEdition 11 [some (.ref a0), none] [] h nc ns P := by
  refine g_iconst (v := 0) dX7_fillEdition_11 (by decide) ?_
  refine g_istore_n (L' := [some (.ref a0), some (.int 0)]) dX7_fillEdition_12 (by decide) rfl ?_
  exact Gd.wk g ⟨rfl, ⟨rfl, trivial⟩⟩
theorem bkX7_fillEdition_13 {X : GX} {h : SH} {nc ns : Nat} {P : Out → SH → Prop} {a0 : Nat} {x1 : Int32} (kt : (8 : Int32) < x1 → Gd X mX7_fillEdition 39 [some (.ref a0), none] [] (h) nc ns P) (kf : ¬ (8 : Int32) < x1 → Gd X mX7_fillEdition 19 [some (.ref a0), some (.int x1)] [] (h) nc ns P) : Gd X mX7_fillEdition 13 [some (.ref a0), some (.int x1)] [] h nc ns P := by
  refine g_iload_n dX7_fillEdition_13 rfl ?_
  refine g_bipush (v := 8) dX7_fillEdition_14 (by decide) ?_
  exact g_icmp_gt (tgt := 39) dX7_fillEdition_16 (by decide) (fun q => Gd.wk (kt q) ⟨rfl, trivial⟩) (fun q => Gd.wk (kf q) ⟨rfl, ⟨rfl, trivial⟩⟩)
theorem bkX7_fillEdition_19 {X : GX} {h : SH} {nc ns : Nat} {P : Out → SH → Prop} {a0 : Nat} {x1 : Int32} (F0 : LX7 (Sk h) (a0)) (kt : ¬ (hI h (a0 + 3) 8) = 0 → Gd X mX7_fillEdition 39 [some (.ref a0), none] [] (h) nc ns P) (kf : (hI h (a0 + 3) 8) = 0 → Gd X mX7_fillEdition 29 [some (.ref a0), some (.int x1)] [] (h) nc ns P) : Gd X mX7_fillEdition 19 [some (.ref a0), some (.int x1)] [] h nc ns P := by
  refine g_aload_n dX7_fillEdition_19 rfl ?_
  refine g_getAs (c := 7) (k := 0) (b := a0 + 3) dX7_fillEdition_20 (by decide) (by decide) kw_413 rfl (LX7.o (h := h) F0) (LX7.r_tokens (h := h) F0) ?_
  refine g_getNI (c := 9) (k := 8) dX7_fillEdition_23 (by decide) (by decide) kn_385 rfl (LX9.o (h := h) (LX7.l_tokens F0)) ?_
  exact g_if_ne (tgt := 39) dX7_fillEdition_26 (by decide) (fun q => Gd.wk (kt q) ⟨rfl, trivial⟩) (fun q => Gd.wk (kf q) ⟨rfl, ⟨rfl, trivial⟩⟩)
theorem bkX7_fillEdition_33 {X : GX} {h : SH} {nc ns : Nat} {P : Out → SH → Prop} {a0 : Nat} {x1 : Int32} (g : Gd X mX7_fillEdition 13 [some (.ref a0), some (.int (x1 + 1))] [] (h) nc ns P) : Gd X mX7_fillEdition 33 [some (.ref a0), some (.int x1)] [] h nc ns P := by
  refine g_iinc (v := x1 + 1) (L' := [some (.ref a0), some (.int (x1 + 1))]) dX7_fillEdition_33 rfl rfl (by decide) rfl ?_
  refine g_goto (tgt := 13) dX7_fillEdition_36 (by decide) ?_
  exact Gd.wk g ⟨rfl, ⟨rfl, trivial⟩⟩
theorem bkX7_fillEdition_39 {X : GX} {h : SH} {nc ns : Nat} {P : Out → SH → Prop} {a0 : Nat} (g : Gd X mX7_fillEdition 41 [some (.ref a0), some (.int 0)] [] (h) nc ns P) : Gd X mX7_fillEdition 39 [some (.ref a0), none] [] h nc ns P := by
  refine g_iconst (v := 0) dX7_fillEdition_39 (by decide) ?_
  refine g_istore_n (L' := [some (.ref a0), some (.int 0)]) dX7_fillEdition_40 (by decide) rfl ?_
  exact Gd.wk g ⟨rfl, ⟨rfl, trivial⟩⟩
theorem bkX7_fillEdition_41 {X : GX} {h : SH} {nc ns : Nat} {P : Out → SH → Prop} {a0 : Nat} {x1 : Int32} (kt : (12 : Int32) < x1 → Gd X mX7_fillEdition 68 [some (.ref a0), none] [] (h) nc ns P) (kf : ¬ (12 : Int32) < x1 → Gd X mX7_fillEdition 47 [some (.ref a0), some (.int x1)] [] (h) nc ns P) : Gd X mX7_fillEdition 41 [some (.ref a0), some (.int x1)] [] h nc ns P := by
  refine g_iload_n dX7_fillEdition_41 rfl ?_
  refine g_bipush (v := 12) dX7_fillEdition_42 (by decide) ?_
  exact g_icmp_gt (tgt := 68) dX7_fillEdition_44 (by decide) (fun q => Gd.wk (kt q) ⟨rfl, trivial⟩) (fun q => Gd.wk (kf q) ⟨rfl, ⟨rfl, trivial⟩⟩)
theorem bkX7_fillEdition_47 {X : GX} {h : SH} {nc ns : Nat} {P : Out → SH → Prop} {a0 : Nat} {x1 : Int32} (F0 : LX7 (Sk h) (a0)) (kt : ¬ (hI h (a0 + 3) 8) = 2 → Gd X mX7_fillEdition 68 [some (.ref a0), none] [] (h) nc ns P) (kf : (hI h (a0 + 3) 8) = 2 → Gd X mX7_fillEdition 58 [some (.ref a0), some (.int x1)] [] (h) nc ns P) : Gd X mX7_fillEdition 47 [some (.ref a0), some (.int x1)] [] h nc ns P := by
  refine g_aload_n dX7_fillEdition_47 rfl ?_
  refine g_getAs (c := 7) (k := 0) (b := a0 + 3) dX7_fillEdition_48 (by decide) (by decide) kw_413 rfl (LX7.o (h := h) F0) (LX7.r_tokens (h := h) F0) ?_
  refine g_getNI (c := 9) (k := 8) dX7_fillEdition_51 (by decide) (by decide) kn_385 rfl (LX9.o (h := h) (LX7.l_tokens F0)) ?_
  refine g_iconst (v := 2) dX7_fillEdition_54 (by decide) ?_
  exact g_icmp_ne (tgt := 68) dX7_fillEdition_55 (by decide) (fun q => Gd.wk (kt q) ⟨rfl, trivial⟩) (fun q => Gd.wk (kf q) ⟨rfl, ⟨rfl, trivial⟩⟩)
theorem bkX7_fillEdition_62 {X : GX} {h : SH} {nc ns : Nat} {P : Out → SH → Prop} {a0 : Nat} {x1 : Int32} (g : Gd X mX7_fillEdition 41 [some (.ref a0), some (.int (x1 + 1))] [] (h) nc ns P) : Gd X mX7_fillEdition 62 [some (.ref a0), some (.int x1)] [] h nc ns P := by
  refine g_iinc (v := x1 + 1) (L' := [some (.ref a0), some (.int (x1 + 1))]) dX7_fillEdition_62 rfl rfl (by decide) rfl ?_
  refine g_goto (tgt := 41) dX7_fillEdition_65 (by decide) ?_
  exact Gd.wk g ⟨rfl, ⟨rfl, trivial⟩⟩
theorem bkX7_fillEdition_74 {X : GX} {h : SH} {nc ns : Nat} {P : Out → SH → Prop} (g : Gd X mX7_fillEdition 83 [none, none] [] (h) nc ns P) : Gd X mX7_fillEdition 74 [none, none] [] h nc ns P := by
  refine g_goto (tgt := 83) dX7_fillEdition_74 (by decide) ?_
  exact Gd.wk g trivial
theorem bkX7_fillEdition_77 {X : GX} {h : SH} {nc ns : Nat} {P : Out → SH → Prop} {a0 : Nat} {as0 : Nat} (F0 : LX7 (Sk h) (a0)) (hp : P (.inl (some (.int (hI h a0 8)))) (h)) : Gd X mX7_fillEdition 77 [some (.ref a0), none] [.ref as0] h nc ns P := by
  refine g_astore_n (r := (some (as0))) (L' := [some (.ref a0), some (.ref as0)]) dX7_fillEdition_77 (by decide) rfl ?_
  refine g_aload_n dX7_fillEdition_78 rfl ?_
  refine g_getI (c := 7) (k := 8) dX7_fillEdition_79 (by decide) (by decide) kw_421 rfl (LX7.o (h := h) F0) ?_
  exact g_ireturn (st := []) dX7_fillEdition_82 rfl rfl hp
theorem bkX7_fillEdition_83 {X : GX} {h : SH} {nc ns : Nat} {P : Out → SH → Prop} (hp : P (.inl (some (.int (0)))) (h)) : Gd X mX7_fillEdition 83 [none, none] [] h nc ns P := by
  refine g_iconst (v := 0) dX7_fillEdition_83 (by decide) ?_
  exact g_ireturn (st := []) dX7_fillEdition_84 rfl rfl hp
theorem bkX7_require_0 {X : GX} {h : SH} {nc ns : Nat} {P : Out → SH → Prop} {a0 : Nat} {x1 : Int32} (F0 : LX7 (Sk h) (a0)) (kt : (hI h (a0 + 3) 8) = x1 → Gd X mX7_require 16 [none, none] [] (h) nc ns P) (kf : ¬ (hI h (a0 + 3) 8) = x1 → Gd X mX7_require 11 [some (.ref a0), none] [] (h) nc ns P) : Gd X mX7_require 0 [some (.ref a0), some (.int x1)] [] h nc ns P := by
  refine g_aload_n dX7_require_0 rfl ?_
  refine g_getAs (c := 7) (k := 0) (b := a0 + 3) dX7_require_1 (by decide) (by decide) kw_413 rfl (LX7.o (h := h) F0) (LX7.r_tokens (h := h) F0) ?_
  refine g_getNI (c := 9) (k := 8) dX7_require_4 (by decide) (by decide) kn_385 rfl (LX9.o (h := h) (LX7.l_tokens F0)) ?_
  refine g_iload_n dX7_require_7 rfl ?_
  exact g_icmp_eq (tgt := 16) dX7_require_8 (by decide) (fun q => Gd.wk (kt q) trivial) (fun q => Gd.wk (kf q) ⟨rfl, trivial⟩)
theorem bkX7_require_11 {X : GX} {h : SH} {nc ns : Nat} {P : Out → SH → Prop} {n1 s1 : Nat} {Q : SH → Prop} {Z : String → SH → Prop} {a0 : Nat} (F0 : LX7 (Sk h) (a0)) (hN : Cd X mX7_fail [.ref a0, .int 1] (h) n1 s1 (oV Q Z)) (hx : ∀ E t, Z E t → P (.inr E) t) (g : ∀ t, Q t → Gd X mX7_require 16 [none, none] [] (t) nc ns P) : Gd X mX7_require 11 [some (.ref a0), none] [] h (n1 + nc) (s1 + ns) P := by
  refine g_aload_n dX7_require_11 rfl ?_
  refine g_iconst (v := 1) dX7_require_12 (by decide) ?_
  exact g_callV (k := 7) [.int 1] dX7_require_13 mfX7_fail ⟨by decide, by decide⟩ kw_606 kw_608 kw_10 rfl (by decide) (Nat.le_of_ble_eq_true rfl) (by intro x hx; cases hx) (LX7.o (h := h) F0) (Nat.le_of_ble_eq_true rfl) hN hx (oV_go (G := fun a b => Gd X mX7_require 16 _ a b nc ns P) (fun t q => Gd.wk (g t q) trivial))
theorem bkX7_require_16 {X : GX} {h : SH} {nc ns : Nat} {P : Out → SH → Prop} (hp : P (.inl (none)) (h)) : Gd X mX7_require 16 [none, none] [] h nc ns P := by
  exact g_return (st := []) dX7_require_16 rfl hp
theorem bkX7_pass_0 {X : GX} {h : SH} {nc ns : Nat} {P : Out → SH → Prop} {n1 s1 : Nat} {Q : SH → Prop} {Z : String → SH → Prop} {a0 : Nat} {x1 : Int32} (F0 : LX7 (Sk h) (a0)) (hN : Cd X mX7_require [.ref a0, .int x1] (h) n1 s1 (oV Q Z)) (hx : ∀ E t, Z E t → P (.inr E) t) (g : ∀ t, Q t → Gd X mX7_pass 5 [some (.ref a0), none] [] (t) nc ns P) : Gd X mX7_pass 0 [some (.ref a0), some (.int x1)] [] h (n1 + nc) (s1 + ns) P := by
  refine g_aload_n dX7_pass_0 rfl ?_
  refine g_iload_n dX7_pass_1 rfl ?_
  exact g_callV (k := 7) [.int x1] dX7_pass_2 mfX7_require ⟨by decide, by decide⟩ kw_676 kw_678 kw_12 rfl (by decide) (Nat.le_of_ble_eq_true rfl) (by intro x hx; cases hx) (LX7.o (h := h) F0) (Nat.le_of_ble_eq_true rfl) hN hx (oV_go (G := fun a b => Gd X mX7_pass 5 _ a b nc ns P) (fun t q => Gd.wk (g t q) ⟨rfl, trivial⟩))
theorem bkX7_pass_5 {X : GX} {h : SH} {nc ns : Nat} {P : Out → SH → Prop} {Q : SH → Prop} {a0 : Nat} (F0 : LX7 (Sk h) (a0)) (hN : Cd X mX9_toNext [.ref (a0 + 3)] (h) 0 0 (oV Q nX)) (g : ∀ t, Q t → Gd X mX7_pass 12 [none, none] [] (t) nc ns P) : Gd X mX7_pass 5 [some (.ref a0), none] [] h nc ns P := by
  refine g_aload_n dX7_pass_5 rfl ?_
  refine g_getAs (c := 7) (k := 0) (b := a0 + 3) dX7_pass_6 (by decide) (by decide) kw_413 rfl (LX7.o (h := h) F0) (LX7.r_tokens (h := h) F0) ?_
  refine Gd.z ?_
  exact g_callV (k := 9) [] dX7_pass_9 mfX9_toNext ⟨by decide, by decide⟩ kw_675 kw_591 kw_592 rfl (by decide) (Nat.le_of_ble_eq_true rfl) (by intro x hx; cases hx) (LX9.o (h := h) (LX7.l_tokens F0)) (Nat.le_of_ble_eq_true rfl) hN (fun _ _ q => q.elim) (oV_go (G := fun a b => Gd X mX7_pass 12 _ a b nc ns P) (fun t q => Gd.wk (g t q) trivial))
theorem bkX7_pass_12 {X : GX} {h : SH} {nc ns : Nat} {P : Out → SH → Prop} (hp : P (.inl (none)) (h)) : Gd X mX7_pass 12 [none, none] [] h nc ns P := by
  exact g_return (st := []) dX7_pass_12 rfl hp
theorem bkX7_requireNumber_0 {X : GX} {h : SH} {nc ns : Nat} {P : Out → SH → Prop} {n1 s1 : Nat} {Q : SH → Prop} {Z : String → SH → Prop} {a0 : Nat} {x1 : Int32} (F0 : LX7 (Sk h) (a0)) (hN : Cd X mX7_require [.ref a0, .int 12] (h) n1 s1 (oV Q Z)) (hx : ∀ E t, Z E t → P (.inr E) t) (g : ∀ t, Q t → Gd X mX7_requireNumber 6 [some (.ref a0), some (.int x1)] [] (t) nc ns P) : Gd X mX7_requireNumber 0 [some (.ref a0), some (.int x1)] [] h (n1 + nc) (s1 + ns) P := by
  refine g_aload_n dX7_requireNumber_0 rfl ?_
  refine g_bipush (v := 12) dX7_requireNumber_1 (by decide) ?_
  exact g_callV (k := 7) [.int 12] dX7_requireNumber_3 mfX7_require ⟨by decide, by decide⟩ kw_676 kw_678 kw_12 rfl (by decide) (Nat.le_of_ble_eq_true rfl) (by intro x hx; cases hx) (LX7.o (h := h) F0) (Nat.le_of_ble_eq_true rfl) hN hx (oV_go (G := fun a b => Gd X mX7_requireNumber 6 _ a b nc ns P) (fun t q => Gd.wk (g t q) ⟨rfl, ⟨rfl, trivial⟩⟩))
theorem bkX7_requireNumber_6 {X : GX} {h : SH} {nc ns : Nat} {P : Out → SH → Prop} {a0 : Nat} {x1 : Int32} (F0 : LX7 (Sk h) (a0)) (kt : (lg_cmp (hJ h (a0 + 3) 10) ((x1 : Int32).toInt64)) < 0 → Gd X mX7_requireNumber 33 [some (.ref a0), none] [] (h) nc ns P) (kf : ¬ (lg_cmp (hJ h (a0 + 3) 10) ((x1 : Int32).toInt64)) < 0 → Gd X mX7_requireNumber 19 [some (.ref a0), none] [] (h) nc ns P) : Gd X mX7_requireNumber 6 [some (.ref a0), some (.int x1)] [] h nc ns P := by
  refine g_aload_n dX7_requireNumber_6 rfl ?_
  refine g_getAs (c := 7) (k := 0) (b := a0 + 3) dX7_requireNumber_7 (by decide) (by decide) kw_413 rfl (LX7.o (h := h) F0) (LX7.r_tokens (h := h) F0) ?_
  refine g_getNJ (c := 9) (k := 10) dX7_requireNumber_10 (by decide) (by decide) kn_389 rfl (LX9.o (h := h) (LX7.l_tokens F0)) ?_
  refine g_iload_n dX7_requireNumber_13 rfl ?_
  refine g_i2l dX7_requireNumber_14 ?_
  refine g_lcmp dX7_requireNumber_15 ?_
  exact g_if_lt (tgt := 33) dX7_requireNumber_16 (by decide) (fun q => Gd.wk (kt q) ⟨rfl, trivial⟩) (fun q => Gd.wk (kf q) ⟨rfl, trivial⟩)
theorem bkX7_requireNumber_19 {X : GX} {h : SH} {nc ns : Nat} {P : Out → SH → Prop} {a0 : Nat} (F0 : LX7 (Sk h) (a0)) (kt : (lg_cmp (hJ h (a0 + 3) 10) 99) ≤ 0 → Gd X mX7_requireNumber 38 [some (.ref a0), none] [] (h) nc ns P) (kf : ¬ (lg_cmp (hJ h (a0 + 3) 10) 99) ≤ 0 → Gd X mX7_requireNumber 33 [some (.ref a0), none] [] (h) nc ns P) : Gd X mX7_requireNumber 19 [some (.ref a0), none] [] h nc ns P := by
  refine g_aload_n dX7_requireNumber_19 rfl ?_
  refine g_getAs (c := 7) (k := 0) (b := a0 + 3) dX7_requireNumber_20 (by decide) (by decide) kw_413 rfl (LX7.o (h := h) F0) (LX7.r_tokens (h := h) F0) ?_
  refine g_getNJ (c := 9) (k := 10) dX7_requireNumber_23 (by decide) (by decide) kn_389 rfl (LX9.o (h := h) (LX7.l_tokens F0)) ?_
  refine g_ldc2 (v := 99) dX7_requireNumber_26 kw_688 ?_
  refine g_lcmp dX7_requireNumber_29 ?_
  exact g_if_le (tgt := 38) dX7_requireNumber_30 (by decide) (fun q => Gd.wk (kt q) ⟨rfl, trivial⟩) (fun q => Gd.wk (kf q) ⟨rfl, trivial⟩)
theorem bkX7_requireNumber_33 {X : GX} {h : SH} {nc ns : Nat} {P : Out → SH → Prop} {n1 s1 : Nat} {Q : SH → Prop} {Z : String → SH → Prop} {a0 : Nat} (F0 : LX7 (Sk h) (a0)) (hN : Cd X mX7_fail [.ref a0, .int 4] (h) n1 s1 (oV Q Z)) (hx : ∀ E t, Z E t → P (.inr E) t) (g : ∀ t, Q t → Gd X mX7_requireNumber 38 [some (.ref a0), none] [] (t) nc ns P) : Gd X mX7_requireNumber 33 [some (.ref a0), none] [] h (n1 + nc) (s1 + ns) P := by
  refine g_aload_n dX7_requireNumber_33 rfl ?_
  refine g_iconst (v := 4) dX7_requireNumber_34 (by decide) ?_
  exact g_callV (k := 7) [.int 4] dX7_requireNumber_35 mfX7_fail ⟨by decide, by decide⟩ kw_606 kw_608 kw_10 rfl (by decide) (Nat.le_of_ble_eq_true rfl) (by intro x hx; cases hx) (LX7.o (h := h) F0) (Nat.le_of_ble_eq_true rfl) hN hx (oV_go (G := fun a b => Gd X mX7_requireNumber 38 _ a b nc ns P) (fun t q => Gd.wk (g t q) ⟨rfl, trivial⟩))
theorem bkX7_requireNumber_38 {X : GX} {h : SH} {nc ns : Nat} {P : Out → SH → Prop} {a0 : Nat} (F0 : LX7 (Sk h) (a0)) (hp : P (.inl (some (.int ((hJ h (a0 + 3) 10 : Int64).toInt32)))) (h)) : Gd X mX7_requireNumber 38 [some (.ref a0), none] [] h nc ns P := by
  refine g_aload_n dX7_requireNumber_38 rfl ?_
  refine g_getAs (c := 7) (k := 0) (b := a0 + 3) dX7_requireNumber_39 (by decide) (by decide) kw_413 rfl (LX7.o (h := h) F0) (LX7.r_tokens (h := h) F0) ?_
  refine g_getNJ (c := 9) (k := 10) dX7_requireNumber_42 (by decide) (by decide) kn_389 rfl (LX9.o (h := h) (LX7.l_tokens F0)) ?_
  refine g_l2i dX7_requireNumber_45 ?_
  exact g_ireturn (st := []) dX7_requireNumber_46 rfl rfl hp
theorem bkX7_findToldNames_0 {X : GX} {h : SH} {nc ns : Nat} {P : Out → SH → Prop} {a0 : Nat} (g : Gd X mX7_findToldNames 2 [some (.ref a0), some (.int 1)] [] (h) nc ns P) : Gd X mX7_findToldNames 0 [some (.ref a0), none] [] h nc ns P := by
  refine g_iconst (v := 1) dX7_findToldNames_0 (by decide) ?_
  refine g_istore_n (L' := [some (.ref a0), some (.int 1)]) dX7_findToldNames_1 (by decide) rfl ?_
  exact Gd.wk g ⟨rfl, ⟨rfl, trivial⟩⟩
theorem bkX7_findToldNames_2 {X : GX} {h : SH} {nc ns : Nat} {P : Out → SH → Prop} {a0 : Nat} {x1 : Int32} (F0 : LX7 (Sk h) (a0)) (kt : (hI h (a0 + 3) 6) ≤ x1 → Gd X mX7_findToldNames 70 [none, none] [] (h) nc ns P) (kf : ¬ (hI h (a0 + 3) 6) ≤ x1 → Gd X mX7_findToldNames 13 [some (.ref a0), some (.int x1)] [] (h) nc ns P) : Gd X mX7_findToldNames 2 [some (.ref a0), some (.int x1)] [] h nc ns P := by
  refine g_iload_n dX7_findToldNames_2 rfl ?_
  refine g_aload_n dX7_findToldNames_3 rfl ?_
  refine g_getAs (c := 7) (k := 0) (b := a0 + 3) dX7_findToldNames_4 (by decide) (by decide) kw_413 rfl (LX7.o (h := h) F0) (LX7.r_tokens (h := h) F0) ?_
  refine g_getNI (c := 9) (k := 6) dX7_findToldNames_7 (by decide) (by decide) kn_382 rfl (LX9.o (h := h) (LX7.l_tokens F0)) ?_
  exact g_icmp_ge (tgt := 70) dX7_findToldNames_10 (by decide) (fun q => Gd.wk (kt q) trivial) (fun q => Gd.wk (kf q) ⟨rfl, ⟨rfl, trivial⟩⟩)
theorem bkX7_findToldNames_13 {X : GX} {h : SH} {nc ns : Nat} {P : Out → SH → Prop} {Q : Int32 → SH → Prop} {a0 : Nat} {x1 : Int32} (F0 : LX7 (Sk h) (a0)) (hN : Cd X mX9_tellsClause [.ref (a0 + 3), .int x1] (h) 0 0 (oI Q nX)) (g : ∀ r t, Q r t → Gd X mX7_findToldNames 21 [some (.ref a0), some (.int x1)] [.int r] (t) nc ns P) : Gd X mX7_findToldNames 13 [some (.ref a0), some (.int x1)] [] h nc ns P := by
  refine g_aload_n dX7_findToldNames_13 rfl ?_
  refine g_getAs (c := 7) (k := 0) (b := a0 + 3) dX7_findToldNames_14 (by decide) (by decide) kw_413 rfl (LX7.o (h := h) F0) (LX7.r_tokens (h := h) F0) ?_
  refine g_iload_n dX7_findToldNames_17 rfl ?_
  refine Gd.z ?_
  exact g_callV (k := 9) [.int x1] dX7_findToldNames_18 mfX9_tellsClause ⟨by decide, by decide⟩ kw_598 kw_599 kw_600 rfl (by decide) (Nat.le_of_ble_eq_true rfl) (by intro x hx; cases hx) (LX9.o (h := h) (LX7.l_tokens F0)) (Nat.le_of_ble_eq_true rfl) hN (fun _ _ q => q.elim) (oI_go (G := fun a b => Gd X mX7_findToldNames 21 _ a b nc ns P) (fun r t q => Gd.wk (g r t q) ⟨rfl, ⟨rfl, trivial⟩⟩))
theorem bkX7_findToldNames_21 {X : GX} {h : SH} {nc ns : Nat} {P : Out → SH → Prop} {a0 : Nat} {x1 : Int32} {xs0 : Int32} (kt : xs0 = 0 → Gd X mX7_findToldNames 64 [some (.ref a0), some (.int x1)] [] (h) nc ns P) (kf : ¬ xs0 = 0 → Gd X mX7_findToldNames 24 [some (.ref a0), some (.int x1)] [] (h) nc ns P) : Gd X mX7_findToldNames 21 [some (.ref a0), some (.int x1)] [.int xs0] h nc ns P := by
  exact g_if_eq (tgt := 64) dX7_findToldNames_21 (by decide) (fun q => Gd.wk (kt q) ⟨rfl, ⟨rfl, trivial⟩⟩) (fun q => Gd.wk (kf q) ⟨rfl, ⟨rfl, trivial⟩⟩)
theorem bkX7_findToldNames_24 {X : GX} {h : SH} {nc ns : Nat} {P : Out → SH → Prop} {a0 : Nat} {x1 : Int32} (F0 : LX7 (Sk h) (a0)) (kt : (Int32.ofNat (hN h (a0 + 8))) ≤ hI h a0 3 → Gd X mX7_findToldNames 64 [some (.ref a0), some (.int x1)] [] (h) nc ns P) (kf : ¬ (Int32.ofNat (hN h (a0 + 8))) ≤ hI h a0 3 → Gd X mX7_findToldNames 36 [some (.ref a0), some (.int x1)] [] (h) nc ns P) : Gd X mX7_findToldNames 24 [some (.ref a0), some (.int x1)] [] h nc ns P := by
  refine g_aload_n dX7_findToldNames_24 rfl ?_
  refine g_getI (c := 7) (k := 3) dX7_findToldNames_25 (by decide) (by decide) kw_416 rfl (LX7.o (h := h) F0) ?_
  refine g_aload_n dX7_findToldNames_28 rfl ?_
  refine g_getAs (c := 7) (k := 2) (b := a0 + 8) dX7_findToldNames_29 (by decide) (by decide) kw_415 rfl (LX7.o (h := h) F0) (LX7.r_toldNames (h := h) F0) ?_
  refine g_alen (k := 23) dX7_findToldNames_32 (by decide) (by decide) (LX7.a_toldNames (h := h) F0) ?_
  exact g_icmp_ge (tgt := 64) dX7_findToldNames_33 (by decide) (fun q => Gd.wk (kt q) ⟨rfl, ⟨rfl, trivial⟩⟩) (fun q => Gd.wk (kf q) ⟨rfl, ⟨rfl, trivial⟩⟩)
theorem bkX7_findToldNames_36 {X : GX} {h : SH} {nc ns : Nat} {P : Out → SH → Prop} {a0 : Nat} {x1 : Int32} (F0 : LX7 (Sk h) (a0)) (i1 : vp_in (x1) (hN h (a0 + 3 + 4))) (i2 : vp_in (hI h a0 3) (hN h (a0 + 8))) (g : Gd X mX7_findToldNames 64 [some (.ref a0), some (.int x1)] [] (sI (sJ h (a0 + 8) ((hI h a0 3 : Int32).toNatClampNeg) (hJ h (a0 + 3 + 4) ((x1 : Int32).toNatClampNeg))) a0 3 ((hI (sJ h (a0 + 8) ((hI h a0 3 : Int32).toNatClampNeg) (hJ h (a0 + 3 + 4) ((x1 : Int32).toNatClampNeg))) a0 3) + 1)) nc ns P) : Gd X mX7_findToldNames 36 [some (.ref a0), some (.int x1)] [] h nc ns P := by
  refine g_aload_n dX7_findToldNames_36 rfl ?_
  refine g_getAs (c := 7) (k := 2) (b := a0 + 8) dX7_findToldNames_37 (by decide) (by decide) kw_415 rfl (LX7.o (h := h) F0) (LX7.r_toldNames (h := h) F0) ?_
  refine g_aload_n dX7_findToldNames_40 rfl ?_
  refine g_getI (c := 7) (k := 3) dX7_findToldNames_41 (by decide) (by decide) kw_416 rfl (LX7.o (h := h) F0) ?_
  refine g_aload_n dX7_findToldNames_44 rfl ?_
  refine g_getAs (c := 7) (k := 0) (b := a0 + 3) dX7_findToldNames_45 (by decide) (by decide) kw_413 rfl (LX7.o (h := h) F0) (LX7.r_tokens (h := h) F0) ?_
  refine g_getNAs (c := 9) (k := 5) (b := a0 + 3 + 4) dX7_findToldNames_48 (by decide) (by decide) kn_380 rfl (LX9.o (h := h) (LX7.l_tokens F0)) (LX9.r_values (h := h) (LX7.l_tokens F0)) ?_
  refine g_iload_n dX7_findToldNames_51 rfl ?_
  refine g_laload dX7_findToldNames_52 (LX9.a_values (h := h) (LX7.l_tokens F0)) i1 ?_
  refine g_lastore dX7_findToldNames_53 (LX7.a_toldNames (h := h) F0) i2 ?_
  refine g_aload_n dX7_findToldNames_54 rfl ?_
  refine g_dup dX7_findToldNames_55 rfl ?_
  refine g_getI (c := 7) (k := 3) dX7_findToldNames_56 (by decide) (by decide) kw_416 rfl (LX7.o (h := sJ h (a0 + 8) ((hI h a0 3 : Int32).toNatClampNeg) (hJ h (a0 + 3 + 4) ((x1 : Int32).toNatClampNeg))) F0) ?_
  refine g_iconst (v := 1) dX7_findToldNames_59 (by decide) ?_
  refine g_iadd dX7_findToldNames_60 ?_
  refine g_put (c := 7) (k := 3) (h1 := sI (sJ h (a0 + 8) ((hI h a0 3 : Int32).toNatClampNeg) (hJ h (a0 + 3 + 4) ((x1 : Int32).toNatClampNeg))) a0 3 ((hI (sJ h (a0 + 8) ((hI h a0 3 : Int32).toNatClampNeg) (hJ h (a0 + 3 + 4) ((x1 : Int32).toNatClampNeg))) a0 3) + 1)) dX7_findToldNames_61 (by decide) (by decide) kw_416 rfl (LX7.o (h := sJ h (a0 + 8) ((hI h a0 3 : Int32).toNatClampNeg) (hJ h (a0 + 3 + 4) ((x1 : Int32).toNatClampNeg))) F0) rfl rfl (Put.I rfl) ?_
  exact Gd.wk g ⟨rfl, ⟨rfl, trivial⟩⟩
theorem bkX7_findToldNames_64 {X : GX} {h : SH} {nc ns : Nat} {P : Out → SH → Prop} {a0 : Nat} {x1 : Int32} (g : Gd X mX7_findToldNames 2 [some (.ref a0), some (.int (x1 + 1))] [] (h) nc ns P) : Gd X mX7_findToldNames 64 [some (.ref a0), some (.int x1)] [] h nc ns P := by
  refine g_iinc (v := x1 + 1) (L' := [some (.ref a0), some (.int (x1 + 1))]) dX7_findToldNames_64 rfl rfl (by decide) rfl ?_
  refine g_goto (tgt := 2) dX7_findToldNames_67 (by decide) ?_
  exact Gd.wk g ⟨rfl, ⟨rfl, trivial⟩⟩
theorem bkX7_findToldNames_70 {X : GX} {h : SH} {nc ns : Nat} {P : Out → SH → Prop} (hp : P (.inl (none)) (h)) : Gd X mX7_findToldNames 70 [none, none] [] h nc ns P := by
  exact g_return (st := []) dX7_findToldNames_70 rfl hp
theorem bkX7_readFact_0 {X : GX} {h : SH} {nc ns : Nat} {P : Out → SH → Prop} {a0 : Nat} {b1 : Nat} (F0 : LX7 (Sk h) (a0)) (q1 : hA h a0 1 = some b1) (F2 : LX3 (Sk h) (b1)) (kt : hI h b1 2 < 8 → Gd X mX7_readFact 17 [some (.ref a0), none, none, none, none] [] (h) nc ns P) (kf : ¬ hI h b1 2 < 8 → Gd X mX7_readFact 12 [some (.ref a0), none, none, none, none] [] (h) nc ns P) : Gd X mX7_readFact 0 [some (.ref a0), none, none, none, none] [] h nc ns P := by
  refine g_aload_n dX7_readFact_0 rfl ?_
  refine g_getAs (c := 7) (k := 1) (b := b1) dX7_readFact_1 (by decide) (by decide) kw_414 rfl (LX7.o (h := h) F0) q1 ?_
  refine g_getNI (c := 3) (k := 2) dX7_readFact_4 (by decide) (by decide) kn_307 rfl (LX3.o (h := h) F2) ?_
  refine g_bipush (v := 8) dX7_readFact_7 (by decide) ?_
  exact g_icmp_lt (tgt := 17) dX7_readFact_9 (by decide) (fun q => Gd.wk (kt q) ⟨rfl, trivial⟩) (fun q => Gd.wk (kf q) ⟨rfl, trivial⟩)
theorem bkX7_readFact_12 {X : GX} {h : SH} {nc ns : Nat} {P : Out → SH → Prop} {n1 s1 : Nat} {Q : SH → Prop} {Z : String → SH → Prop} {a0 : Nat} (F0 : LX7 (Sk h) (a0)) (hN : Cd X mX7_fail [.ref a0, .int 5] (h) n1 s1 (oV Q Z)) (hx : ∀ E t, Z E t → P (.inr E) t) (g : ∀ t, Q t → Gd X mX7_readFact 17 [some (.ref a0), none, none, none, none] [] (t) nc ns P) : Gd X mX7_readFact 12 [some (.ref a0), none, none, none, none] [] h (n1 + nc) (s1 + ns) P := by
  refine g_aload_n dX7_readFact_12 rfl ?_
  refine g_iconst (v := 5) dX7_readFact_13 (by decide) ?_
  exact g_callV (k := 7) [.int 5] dX7_readFact_14 mfX7_fail ⟨by decide, by decide⟩ kw_606 kw_608 kw_10 rfl (by decide) (Nat.le_of_ble_eq_true rfl) (by intro x hx; cases hx) (LX7.o (h := h) F0) (Nat.le_of_ble_eq_true rfl) hN hx (oV_go (G := fun a b => Gd X mX7_readFact 17 _ a b nc ns P) (fun t q => Gd.wk (g t q) ⟨rfl, trivial⟩))
theorem bkX7_readFact_17 {X : GX} {h : SH} {nc ns : Nat} {P : Out → SH → Prop} {Q : SH → Prop} {a0 : Nat} (F0 : LX7 (Sk h) (a0)) (hN : Cd X mX9_toNext [.ref (a0 + 3)] (h) 0 0 (oV Q nX)) (g : ∀ t, Q t → Gd X mX7_readFact 24 [some (.ref a0), none, none, none, none] [] (t) nc ns P) : Gd X mX7_readFact 17 [some (.ref a0), none, none, none, none] [] h nc ns P := by
  refine g_aload_n dX7_readFact_17 rfl ?_
  refine g_getAs (c := 7) (k := 0) (b := a0 + 3) dX7_readFact_18 (by decide) (by decide) kw_413 rfl (LX7.o (h := h) F0) (LX7.r_tokens (h := h) F0) ?_
  refine Gd.z ?_
  exact g_callV (k := 9) [] dX7_readFact_21 mfX9_toNext ⟨by decide, by decide⟩ kw_675 kw_591 kw_592 rfl (by decide) (Nat.le_of_ble_eq_true rfl) (by intro x hx; cases hx) (LX9.o (h := h) (LX7.l_tokens F0)) (Nat.le_of_ble_eq_true rfl) hN (fun _ _ q => q.elim) (oV_go (G := fun a b => Gd X mX7_readFact 24 _ a b nc ns P) (fun t q => Gd.wk (g t q) ⟨rfl, trivial⟩))
theorem bkX7_readFact_24 {X : GX} {h : SH} {nc ns : Nat} {P : Out → SH → Prop} {n1 s1 : Nat} {Q : SH → Prop} {Z : String → SH → Prop} {a0 : Nat} (F0 : LX7 (Sk h) (a0)) (hN : Cd X mX7_require [.ref a0, .int 11] (h) n1 s1 (oV Q Z)) (hx : ∀ E t, Z E t → P (.inr E) t) (g : ∀ t, Q t → Gd X mX7_readFact 30 [some (.ref a0), none, none, none, none] [] (t) nc ns P) : Gd X mX7_readFact 24 [some (.ref a0), none, none, none, none] [] h (n1 + nc) (s1 + ns) P := by
  refine g_aload_n dX7_readFact_24 rfl ?_
  refine g_bipush (v := 11) dX7_readFact_25 (by decide) ?_
  exact g_callV (k := 7) [.int 11] dX7_readFact_27 mfX7_require ⟨by decide, by decide⟩ kw_676 kw_678 kw_12 rfl (by decide) (Nat.le_of_ble_eq_true rfl) (by intro x hx; cases hx) (LX7.o (h := h) F0) (Nat.le_of_ble_eq_true rfl) hN hx (oV_go (G := fun a b => Gd X mX7_readFact 30 _ a b nc ns P) (fun t q => Gd.wk (g t q) ⟨rfl, trivial⟩))
theorem bkX7_readFact_30 {X : GX} {h : SH} {nc ns : Nat} {P : Out → SH → Prop} {Q : Int32 → SH → Prop} {a0 : Nat} {b1 : Nat} (F0 : LX7 (Sk h) (a0)) (q1 : hA h a0 1 = some b1) (F2 : LX3 (Sk h) (b1)) (hN : Cd X mX3_factNamed [.ref b1, .long (hJ h (a0 + 3) 10)] (h) 0 0 (oI Q nX)) (g : ∀ r t, Q r t → Gd X mX7_readFact 46 [some (.ref a0), some (.long (hJ h (a0 + 3) 10)), none, none, none] [.int r] (t) nc ns P) : Gd X mX7_readFact 30 [some (.ref a0), none, none, none, none] [] h nc ns P := by
  refine g_aload_n dX7_readFact_30 rfl ?_
  refine g_getAs (c := 7) (k := 0) (b := a0 + 3) dX7_readFact_31 (by decide) (by decide) kw_413 rfl (LX7.o (h := h) F0) (LX7.r_tokens (h := h) F0) ?_
  refine g_getNJ (c := 9) (k := 10) dX7_readFact_34 (by decide) (by decide) kn_389 rfl (LX9.o (h := h) (LX7.l_tokens F0)) ?_
  refine g_lstore_n (L' := [some (.ref a0), some (.long (hJ h (a0 + 3) 10)), none, none, none]) dX7_readFact_37 (by decide) rfl ?_
  refine g_aload_n dX7_readFact_38 rfl ?_
  refine g_getAs (c := 7) (k := 1) (b := b1) dX7_readFact_39 (by decide) (by decide) kw_414 rfl (LX7.o (h := h) F0) q1 ?_
  refine g_lload_n dX7_readFact_42 rfl ?_
  refine Gd.z ?_
  exact g_callV (k := 3) [.long (hJ h (a0 + 3) 10)] dX7_readFact_43 mfX3_factNamed ⟨by decide, by decide⟩ kw_680 kw_681 kw_682 rfl (by decide) (Nat.le_of_ble_eq_true rfl) (by intro x hx; cases hx) (LX3.o (h := h) F2) (Nat.le_of_ble_eq_true rfl) hN (fun _ _ q => q.elim) (oI_go (G := fun a b => Gd X mX7_readFact 46 _ a b nc ns P) (fun r t q => Gd.wk (g r t q) ⟨rfl, ⟨rfl, trivial⟩⟩))
theorem bkX7_readFact_46 {X : GX} {h : SH} {nc ns : Nat} {P : Out → SH → Prop} {a0 : Nat} {y1 : Int64} {xs0 : Int32} (kt : xs0 = (-1) → Gd X mX7_readFact 55 [some (.ref a0), some (.long y1), none, none, none] [] (h) nc ns P) (kf : ¬ xs0 = (-1) → Gd X mX7_readFact 50 [some (.ref a0), some (.long y1), none, none, none] [] (h) nc ns P) : Gd X mX7_readFact 46 [some (.ref a0), some (.long y1), none, none, none] [.int xs0] h nc ns P := by
  refine g_iconst (v := (-1)) dX7_readFact_46 (by decide) ?_
  exact g_icmp_eq (tgt := 55) dX7_readFact_47 (by decide) (fun q => Gd.wk (kt q) ⟨rfl, ⟨rfl, trivial⟩⟩) (fun q => Gd.wk (kf q) ⟨rfl, ⟨rfl, trivial⟩⟩)
theorem bkX7_readFact_50 {X : GX} {h : SH} {nc ns : Nat} {P : Out → SH → Prop} {n1 s1 : Nat} {Q : SH → Prop} {Z : String → SH → Prop} {a0 : Nat} {y1 : Int64} (F0 : LX7 (Sk h) (a0)) (hN : Cd X mX7_fail [.ref a0, .int 3] (h) n1 s1 (oV Q Z)) (hx : ∀ E t, Z E t → P (.inr E) t) (g : ∀ t, Q t → Gd X mX7_readFact 55 [some (.ref a0), some (.long y1), none, none, none] [] (t) nc ns P) : Gd X mX7_readFact 50 [some (.ref a0), some (.long y1), none, none, none] [] h (n1 + nc) (s1 + ns) P := by
  refine g_aload_n dX7_readFact_50 rfl ?_
  refine g_iconst (v := 3) dX7_readFact_51 (by decide) ?_
  exact g_callV (k := 7) [.int 3] dX7_readFact_52 mfX7_fail ⟨by decide, by decide⟩ kw_606 kw_608 kw_10 rfl (by decide) (Nat.le_of_ble_eq_true rfl) (by intro x hx; cases hx) (LX7.o (h := h) F0) (Nat.le_of_ble_eq_true rfl) hN hx (oV_go (G := fun a b => Gd X mX7_readFact 55 _ a b nc ns P) (fun t q => Gd.wk (g t q) ⟨rfl, ⟨rfl, trivial⟩⟩))
theorem bkX7_readFact_55 {X : GX} {h : SH} {nc ns : Nat} {P : Out → SH → Prop} {Q : SH → Prop} {a0 : Nat} {y1 : Int64} (F0 : LX7 (Sk h) (a0)) (hN : Cd X mX9_toNext [.ref (a0 + 3)] (h) 0 0 (oV Q nX)) (g : ∀ t, Q t → Gd X mX7_readFact 62 [some (.ref a0), some (.long y1), none, none, none] [] (t) nc ns P) : Gd X mX7_readFact 55 [some (.ref a0), some (.long y1), none, none, none] [] h nc ns P := by
  refine g_aload_n dX7_readFact_55 rfl ?_
  refine g_getAs (c := 7) (k := 0) (b := a0 + 3) dX7_readFact_56 (by decide) (by decide) kw_413 rfl (LX7.o (h := h) F0) (LX7.r_tokens (h := h) F0) ?_
  refine Gd.z ?_
  exact g_callV (k := 9) [] dX7_readFact_59 mfX9_toNext ⟨by decide, by decide⟩ kw_675 kw_591 kw_592 rfl (by decide) (Nat.le_of_ble_eq_true rfl) (by intro x hx; cases hx) (LX9.o (h := h) (LX7.l_tokens F0)) (Nat.le_of_ble_eq_true rfl) hN (fun _ _ q => q.elim) (oV_go (G := fun a b => Gd X mX7_readFact 62 _ a b nc ns P) (fun t q => Gd.wk (g t q) ⟨rfl, ⟨rfl, trivial⟩⟩))
theorem bkX7_readFact_62 {X : GX} {h : SH} {nc ns : Nat} {P : Out → SH → Prop} {n1 s1 : Nat} {Q : Int32 → SH → Prop} {Z : String → SH → Prop} {a0 : Nat} {y1 : Int64} (F0 : LX7 (Sk h) (a0)) (hN : Cd X mX7_requireNumber [.ref a0, .int 0] (h) n1 s1 (oI Q Z)) (hx : ∀ E t, Z E t → P (.inr E) t) (g : ∀ r t, Q r t → Gd X mX7_readFact 67 [some (.ref a0), some (.long y1), none, none, none] [.int r] (t) nc ns P) : Gd X mX7_readFact 62 [some (.ref a0), some (.long y1), none, none, none] [] h (n1 + nc) (s1 + ns) P := by
  refine g_aload_n dX7_readFact_62 rfl ?_
  refine g_iconst (v := 0) dX7_readFact_63 (by decide) ?_
  exact g_callV (k := 7) [.int 0] dX7_readFact_64 mfX7_requireNumber ⟨by decide, by decide⟩ kw_684 kw_686 kw_13 rfl (by decide) (Nat.le_of_ble_eq_true rfl) (by intro x hx; cases hx) (LX7.o (h := h) F0) (Nat.le_of_ble_eq_true rfl) hN hx (oI_go (G := fun a b => Gd X mX7_readFact 67 _ a b nc ns P) (fun r t q => Gd.wk (g r t q) ⟨rfl, ⟨rfl, trivial⟩⟩))
theorem bkX7_readFact_67 {X : GX} {h : SH} {nc ns : Nat} {P : Out → SH → Prop} {Q : SH → Prop} {a0 : Nat} {y1 : Int64} {xs0 : Int32} (F0 : LX7 (Sk h) (a0)) (hN : Cd X mX9_toNext [.ref (a0 + 3)] (h) 0 0 (oV Q nX)) (g : ∀ t, Q t → Gd X mX7_readFact 75 [some (.ref a0), some (.long y1), none, some (.int xs0), none] [] (t) nc ns P) : Gd X mX7_readFact 67 [some (.ref a0), some (.long y1), none, none, none] [.int xs0] h nc ns P := by
  refine g_istore_n (L' := [some (.ref a0), some (.long y1), none, some (.int xs0), none]) dX7_readFact_67 (by decide) rfl ?_
  refine g_aload_n dX7_readFact_68 rfl ?_
  refine g_getAs (c := 7) (k := 0) (b := a0 + 3) dX7_readFact_69 (by decide) (by decide) kw_413 rfl (LX7.o (h := h) F0) (LX7.r_tokens (h := h) F0) ?_
  refine Gd.z ?_
  exact g_callV (k := 9) [] dX7_readFact_72 mfX9_toNext ⟨by decide, by decide⟩ kw_675 kw_591 kw_592 rfl (by decide) (Nat.le_of_ble_eq_true rfl) (by intro x hx; cases hx) (LX9.o (h := h) (LX7.l_tokens F0)) (Nat.le_of_ble_eq_true rfl) hN (fun _ _ q => q.elim) (oV_go (G := fun a b => Gd X mX7_readFact 75 _ a b nc ns P) (fun t q => Gd.wk (g t q) ⟨rfl, ⟨rfl, ⟨rfl, trivial⟩⟩⟩))
theorem bkX7_readFact_75 {X : GX} {h : SH} {nc ns : Nat} {P : Out → SH → Prop} {n1 s1 : Nat} {Q : SH → Prop} {Z : String → SH → Prop} {a0 : Nat} {y1 : Int64} {x3 : Int32} (F0 : LX7 (Sk h) (a0)) (hN : Cd X mX7_pass [.ref a0, .int 1] (h) n1 s1 (oV Q Z)) (hx : ∀ E t, Z E t → P (.inr E) t) (g : ∀ t, Q t → Gd X mX7_readFact 80 [some (.ref a0), some (.long y1), none, some (.int x3), none] [] (t) nc ns P) : Gd X mX7_readFact 75 [some (.ref a0), some (.long y1), none, some (.int x3), none] [] h (n1 + nc) (s1 + ns) P := by
  refine g_aload_n dX7_readFact_75 rfl ?_
  refine g_iconst (v := 1) dX7_readFact_76 (by decide) ?_
  exact g_callV (k := 7) [.int 1] dX7_readFact_77 mfX7_pass ⟨by decide, by decide⟩ kw_689 kw_691 kw_14 rfl (by decide) (Nat.le_of_ble_eq_true rfl) (by intro x hx; cases hx) (LX7.o (h := h) F0) (Nat.le_of_ble_eq_true rfl) hN hx (oV_go (G := fun a b => Gd X mX7_readFact 80 _ a b nc ns P) (fun t q => Gd.wk (g t q) ⟨rfl, ⟨rfl, ⟨rfl, trivial⟩⟩⟩))
theorem bkX7_readFact_80 {X : GX} {h : SH} {nc ns : Nat} {P : Out → SH → Prop} {n1 s1 : Nat} {Q : Int32 → SH → Prop} {Z : String → SH → Prop} {a0 : Nat} {y1 : Int64} {x3 : Int32} (F0 : LX7 (Sk h) (a0)) (hN : Cd X mX7_requireNumber [.ref a0, .int x3] (h) n1 s1 (oI Q Z)) (hx : ∀ E t, Z E t → P (.inr E) t) (g : ∀ r t, Q r t → Gd X mX7_readFact 85 [some (.ref a0), some (.long y1), none, some (.int x3), none] [.int r] (t) nc ns P) : Gd X mX7_readFact 80 [some (.ref a0), some (.long y1), none, some (.int x3), none] [] h (n1 + nc) (s1 + ns) P := by
  refine g_aload_n dX7_readFact_80 rfl ?_
  refine g_iload_n dX7_readFact_81 rfl ?_
  exact g_callV (k := 7) [.int x3] dX7_readFact_82 mfX7_requireNumber ⟨by decide, by decide⟩ kw_684 kw_686 kw_13 rfl (by decide) (Nat.le_of_ble_eq_true rfl) (by intro x hx; cases hx) (LX7.o (h := h) F0) (Nat.le_of_ble_eq_true rfl) hN hx (oI_go (G := fun a b => Gd X mX7_readFact 85 _ a b nc ns P) (fun r t q => Gd.wk (g r t q) ⟨rfl, ⟨rfl, ⟨rfl, trivial⟩⟩⟩))
theorem bkX7_readFact_85 {X : GX} {h : SH} {nc ns : Nat} {P : Out → SH → Prop} {a0 : Nat} {y1 : Int64} {x3 : Int32} {xs0 : Int32} {b4 : Nat} (F0 : LX7 (Sk h) (a0)) (q1 : hA h a0 1 = some b4) (F2 : LX3 (Sk h) (b4)) (kt : (hI h b4 6 * ((xs0 - x3) + 1)) ≤ 2000 → Gd X mX7_readFact 112 [some (.ref a0), some (.long y1), none, some (.int x3), some (.int xs0)] [] (h) nc ns P) (kf : ¬ (hI h b4 6 * ((xs0 - x3) + 1)) ≤ 2000 → Gd X mX7_readFact 107 [some (.ref a0), some (.long y1), none, some (.int x3), some (.int xs0)] [] (h) nc ns P) : Gd X mX7_readFact 85 [some (.ref a0), some (.long y1), none, some (.int x3), none] [.int xs0] h nc ns P := by
  refine g_istore (L' := [some (.ref a0), some (.long y1), none, some (.int x3), some (.int xs0)]) dX7_readFact_85 (by decide) rfl ?_
  refine g_aload_n dX7_readFact_87 rfl ?_
  refine g_getAs (c := 7) (k := 1) (b := b4) dX7_readFact_88 (by decide) (by decide) kw_414 rfl (LX7.o (h := h) F0) q1 ?_
  refine g_getNI (c := 3) (k := 6) dX7_readFact_91 (by decide) (by decide) kn_318 rfl (LX3.o (h := h) F2) ?_
  refine g_iload dX7_readFact_94 rfl ?_
  refine g_iload_n dX7_readFact_96 rfl ?_
  refine g_isub dX7_readFact_97 ?_
  refine g_iconst (v := 1) dX7_readFact_98 (by decide) ?_
  refine g_iadd dX7_readFact_99 ?_
  refine g_imul dX7_readFact_100 ?_
  refine g_sipush (v := 2000) dX7_readFact_101 (by decide) ?_
  exact g_icmp_le (tgt := 112) dX7_readFact_104 (by decide) (fun q => Gd.wk (kt q) ⟨rfl, ⟨rfl, ⟨rfl, ⟨rfl, trivial⟩⟩⟩⟩) (fun q => Gd.wk (kf q) ⟨rfl, ⟨rfl, ⟨rfl, ⟨rfl, trivial⟩⟩⟩⟩)
theorem bkX7_readFact_107 {X : GX} {h : SH} {nc ns : Nat} {P : Out → SH → Prop} {n1 s1 : Nat} {Q : SH → Prop} {Z : String → SH → Prop} {a0 : Nat} {y1 : Int64} {x3 : Int32} {x4 : Int32} (F0 : LX7 (Sk h) (a0)) (hN : Cd X mX7_fail [.ref a0, .int 5] (h) n1 s1 (oV Q Z)) (hx : ∀ E t, Z E t → P (.inr E) t) (g : ∀ t, Q t → Gd X mX7_readFact 112 [some (.ref a0), some (.long y1), none, some (.int x3), some (.int x4)] [] (t) nc ns P) : Gd X mX7_readFact 107 [some (.ref a0), some (.long y1), none, some (.int x3), some (.int x4)] [] h (n1 + nc) (s1 + ns) P := by
  refine g_aload_n dX7_readFact_107 rfl ?_
  refine g_iconst (v := 5) dX7_readFact_108 (by decide) ?_
  exact g_callV (k := 7) [.int 5] dX7_readFact_109 mfX7_fail ⟨by decide, by decide⟩ kw_606 kw_608 kw_10 rfl (by decide) (Nat.le_of_ble_eq_true rfl) (by intro x hx; cases hx) (LX7.o (h := h) F0) (Nat.le_of_ble_eq_true rfl) hN hx (oV_go (G := fun a b => Gd X mX7_readFact 112 _ a b nc ns P) (fun t q => Gd.wk (g t q) ⟨rfl, ⟨rfl, ⟨rfl, ⟨rfl, trivial⟩⟩⟩⟩))
theorem bkX7_readFact_112 {X : GX} {h : SH} {nc ns : Nat} {P : Out → SH → Prop} {Q : SH → Prop} {a0 : Nat} {y1 : Int64} {x3 : Int32} {x4 : Int32} (F0 : LX7 (Sk h) (a0)) (hN : Cd X mX9_toNext [.ref (a0 + 3)] (h) 0 0 (oV Q nX)) (g : ∀ t, Q t → Gd X mX7_readFact 119 [some (.ref a0), some (.long y1), none, some (.int x3), some (.int x4)] [] (t) nc ns P) : Gd X mX7_readFact 112 [some (.ref a0), some (.long y1), none, some (.int x3), some (.int x4)] [] h nc ns P := by
  refine g_aload_n dX7_readFact_112 rfl ?_
  refine g_getAs (c := 7) (k := 0) (b := a0 + 3) dX7_readFact_113 (by decide) (by decide) kw_413 rfl (LX7.o (h := h) F0) (LX7.r_tokens (h := h) F0) ?_
  refine Gd.z ?_
  exact g_callV (k := 9) [] dX7_readFact_116 mfX9_toNext ⟨by decide, by decide⟩ kw_675 kw_591 kw_592 rfl (by decide) (Nat.le_of_ble_eq_true rfl) (by intro x hx; cases hx) (LX9.o (h := h) (LX7.l_tokens F0)) (Nat.le_of_ble_eq_true rfl) hN (fun _ _ q => q.elim) (oV_go (G := fun a b => Gd X mX7_readFact 119 _ a b nc ns P) (fun t q => Gd.wk (g t q) ⟨rfl, ⟨rfl, ⟨rfl, ⟨rfl, trivial⟩⟩⟩⟩))
theorem bkX7_readFact_119 {X : GX} {h : SH} {nc ns : Nat} {P : Out → SH → Prop} {n1 s1 : Nat} {Q : SH → Prop} {Z : String → SH → Prop} {a0 : Nat} {y1 : Int64} {x3 : Int32} {x4 : Int32} (F0 : LX7 (Sk h) (a0)) (hN : Cd X mX7_pass [.ref a0, .int 59] (h) n1 s1 (oV Q Z)) (hx : ∀ E t, Z E t → P (.inr E) t) (g : ∀ t, Q t → Gd X mX7_readFact 125 [some (.ref a0), some (.long y1), none, some (.int x3), some (.int x4)] [] (t) nc ns P) : Gd X mX7_readFact 119 [some (.ref a0), some (.long y1), none, some (.int x3), some (.int x4)] [] h (n1 + nc) (s1 + ns) P := by
  refine g_aload_n dX7_readFact_119 rfl ?_
  refine g_bipush (v := 59) dX7_readFact_120 (by decide) ?_
  exact g_callV (k := 7) [.int 59] dX7_readFact_122 mfX7_pass ⟨by decide, by decide⟩ kw_689 kw_691 kw_14 rfl (by decide) (Nat.le_of_ble_eq_true rfl) (by intro x hx; cases hx) (LX7.o (h := h) F0) (Nat.le_of_ble_eq_true rfl) hN hx (oV_go (G := fun a b => Gd X mX7_readFact 125 _ a b nc ns P) (fun t q => Gd.wk (g t q) ⟨rfl, ⟨rfl, ⟨rfl, ⟨rfl, trivial⟩⟩⟩⟩))
theorem bkX7_readFact_125 {X : GX} {h : SH} {nc ns : Nat} {P : Out → SH → Prop} {Q : SH → Prop} {a0 : Nat} {y1 : Int64} {x3 : Int32} {x4 : Int32} {b4 : Nat} (F0 : LX7 (Sk h) (a0)) (q1 : hA h a0 1 = some b4) (F2 : LX3 (Sk h) (b4)) (hN : Cd X mX3_addFact [.ref b4, .long y1, .int x3, .int x4] (h) 0 0 (oV Q nX)) (g : ∀ t, Q t → Gd X mX7_readFact 136 [none, none, none, none, none] [] (t) nc ns P) : Gd X mX7_readFact 125 [some (.ref a0), some (.long y1), none, some (.int x3), some (.int x4)] [] h nc ns P := by
  refine g_aload_n dX7_readFact_125 rfl ?_
  refine g_getAs (c := 7) (k := 1) (b := b4) dX7_readFact_126 (by decide) (by decide) kw_414 rfl (LX7.o (h := h) F0) q1 ?_
  refine g_lload_n dX7_readFact_129 rfl ?_
  refine g_iload_n dX7_readFact_130 rfl ?_
  refine g_iload dX7_readFact_131 rfl ?_
  refine Gd.z ?_
  exact g_callV (k := 3) [.long y1, .int x3, .int x4] dX7_readFact_133 mfX3_addFact ⟨by decide, by decide⟩ kw_693 kw_694 kw_695 rfl (by decide) (Nat.le_of_ble_eq_true rfl) (by intro x hx; cases hx) (LX3.o (h := h) F2) (Nat.le_of_ble_eq_true rfl) hN (fun _ _ q => q.elim) (oV_go (G := fun a b => Gd X mX7_readFact 136 _ a b nc ns P) (fun t q => Gd.wk (g t q) trivial))
theorem bkX7_readFact_136 {X : GX} {h : SH} {nc ns : Nat} {P : Out → SH → Prop} (hp : P (.inl (none)) (h)) : Gd X mX7_readFact 136 [none, none, none, none, none] [] h nc ns P := by
  exact g_return (st := []) dX7_readFact_136 rfl hp
theorem bkX7_readClause_0 {X : GX} {h : SH} {nc ns : Nat} {P : Out → SH → Prop} {a0 : Nat} {b1 : Nat} (F0 : LX7 (Sk h) (a0)) (q1 : hA h a0 1 = some b1) (F2 : LX3 (Sk h) (b1)) (kt : hI h b1 7 < 12 → Gd X mX7_readClause 17 [some (.ref a0), none, none, none, none, none] [] (h) nc ns P) (kf : ¬ hI h b1 7 < 12 → Gd X mX7_readClause 12 [some (.ref a0), none, none, none, none, none] [] (h) nc ns P) : Gd X mX7_readClause 0 [some (.ref a0), none, none, none, none, none] [] h nc ns P := by
  refine g_aload_n dX7_readClause_0 rfl ?_
  refine g_getAs (c := 7) (k := 1) (b := b1) dX7_readClause_1 (by decide) (by decide) kw_414 rfl (LX7.o (h := h) F0) q1 ?_
  refine g_getNI (c := 3) (k := 7) dX7_readClause_4 (by decide) (by decide) kn_321 rfl (LX3.o (h := h) F2) ?_
  refine g_bipush (v := 12) dX7_readClause_7 (by decide) ?_
  exact g_icmp_lt (tgt := 17) dX7_readClause_9 (by decide) (fun q => Gd.wk (kt q) ⟨rfl, trivial⟩) (fun q => Gd.wk (kf q) ⟨rfl, trivial⟩)
theorem bkX7_readClause_12 {X : GX} {h : SH} {nc ns : Nat} {P : Out → SH → Prop} {n1 s1 : Nat} {Q : SH → Prop} {Z : String → SH → Prop} {a0 : Nat} (F0 : LX7 (Sk h) (a0)) (hN : Cd X mX7_fail [.ref a0, .int 5] (h) n1 s1 (oV Q Z)) (hx : ∀ E t, Z E t → P (.inr E) t) (g : ∀ t, Q t → Gd X mX7_readClause 17 [some (.ref a0), none, none, none, none, none] [] (t) nc ns P) : Gd X mX7_readClause 12 [some (.ref a0), none, none, none, none, none] [] h (n1 + nc) (s1 + ns) P := by
  refine g_aload_n dX7_readClause_12 rfl ?_
  refine g_iconst (v := 5) dX7_readClause_13 (by decide) ?_
  exact g_callV (k := 7) [.int 5] dX7_readClause_14 mfX7_fail ⟨by decide, by decide⟩ kw_606 kw_608 kw_10 rfl (by decide) (Nat.le_of_ble_eq_true rfl) (by intro x hx; cases hx) (LX7.o (h := h) F0) (Nat.le_of_ble_eq_true rfl) hN hx (oV_go (G := fun a b => Gd X mX7_readClause 17 _ a b nc ns P) (fun t q => Gd.wk (g t q) ⟨rfl, trivial⟩))
theorem bkX7_readClause_17 {X : GX} {h : SH} {nc ns : Nat} {P : Out → SH → Prop} {Q : SH → Prop} {a0 : Nat} (F0 : LX7 (Sk h) (a0)) (hN : Cd X mX9_toNext [.ref (a0 + 3)] (h) 0 0 (oV Q nX)) (g : ∀ t, Q t → Gd X mX7_readClause 24 [some (.ref a0), none, none, none, none, none] [] (t) nc ns P) : Gd X mX7_readClause 17 [some (.ref a0), none, none, none, none, none] [] h nc ns P := by
  refine g_aload_n dX7_readClause_17 rfl ?_
  refine g_getAs (c := 7) (k := 0) (b := a0 + 3) dX7_readClause_18 (by decide) (by decide) kw_413 rfl (LX7.o (h := h) F0) (LX7.r_tokens (h := h) F0) ?_
  refine Gd.z ?_
  exact g_callV (k := 9) [] dX7_readClause_21 mfX9_toNext ⟨by decide, by decide⟩ kw_675 kw_591 kw_592 rfl (by decide) (Nat.le_of_ble_eq_true rfl) (by intro x hx; cases hx) (LX9.o (h := h) (LX7.l_tokens F0)) (Nat.le_of_ble_eq_true rfl) hN (fun _ _ q => q.elim) (oV_go (G := fun a b => Gd X mX7_readClause 24 _ a b nc ns P) (fun t q => Gd.wk (g t q) ⟨rfl, trivial⟩))
theorem bkX7_readClause_24 {X : GX} {h : SH} {nc ns : Nat} {P : Out → SH → Prop} {n1 s1 : Nat} {Q : SH → Prop} {Z : String → SH → Prop} {a0 : Nat} (F0 : LX7 (Sk h) (a0)) (hN : Cd X mX7_require [.ref a0, .int 11] (h) n1 s1 (oV Q Z)) (hx : ∀ E t, Z E t → P (.inr E) t) (g : ∀ t, Q t → Gd X mX7_readClause 30 [some (.ref a0), none, none, none, none, none] [] (t) nc ns P) : Gd X mX7_readClause 24 [some (.ref a0), none, none, none, none, none] [] h (n1 + nc) (s1 + ns) P := by
  refine g_aload_n dX7_readClause_24 rfl ?_
  refine g_bipush (v := 11) dX7_readClause_25 (by decide) ?_
  exact g_callV (k := 7) [.int 11] dX7_readClause_27 mfX7_require ⟨by decide, by decide⟩ kw_676 kw_678 kw_12 rfl (by decide) (Nat.le_of_ble_eq_true rfl) (by intro x hx; cases hx) (LX7.o (h := h) F0) (Nat.le_of_ble_eq_true rfl) hN hx (oV_go (G := fun a b => Gd X mX7_readClause 30 _ a b nc ns P) (fun t q => Gd.wk (g t q) ⟨rfl, trivial⟩))
theorem bkX7_readClause_30 {X : GX} {h : SH} {nc ns : Nat} {P : Out → SH → Prop} {Q : Int32 → SH → Prop} {a0 : Nat} {b1 : Nat} (F0 : LX7 (Sk h) (a0)) (q1 : hA h a0 1 = some b1) (F2 : LX3 (Sk h) (b1)) (hN : Cd X mX3_hasClauseNamed [.ref b1, .long (hJ h (a0 + 3) 10)] (h) 0 0 (oI Q nX)) (g : ∀ r t, Q r t → Gd X mX7_readClause 46 [some (.ref a0), some (.long (hJ h (a0 + 3) 10)), none, none, none, none] [.int r] (t) nc ns P) : Gd X mX7_readClause 30 [some (.ref a0), none, none, none, none, none] [] h nc ns P := by
  refine g_aload_n dX7_readClause_30 rfl ?_
  refine g_getAs (c := 7) (k := 0) (b := a0 + 3) dX7_readClause_31 (by decide) (by decide) kw_413 rfl (LX7.o (h := h) F0) (LX7.r_tokens (h := h) F0) ?_
  refine g_getNJ (c := 9) (k := 10) dX7_readClause_34 (by decide) (by decide) kn_389 rfl (LX9.o (h := h) (LX7.l_tokens F0)) ?_
  refine g_lstore_n (L' := [some (.ref a0), some (.long (hJ h (a0 + 3) 10)), none, none, none, none]) dX7_readClause_37 (by decide) rfl ?_
  refine g_aload_n dX7_readClause_38 rfl ?_
  refine g_getAs (c := 7) (k := 1) (b := b1) dX7_readClause_39 (by decide) (by decide) kw_414 rfl (LX7.o (h := h) F0) q1 ?_
  refine g_lload_n dX7_readClause_42 rfl ?_
  refine Gd.z ?_
  exact g_callV (k := 3) [.long (hJ h (a0 + 3) 10)] dX7_readClause_43 mfX3_hasClauseNamed ⟨by decide, by decide⟩ kw_706 kw_707 kw_708 rfl (by decide) (Nat.le_of_ble_eq_true rfl) (by intro x hx; cases hx) (LX3.o (h := h) F2) (Nat.le_of_ble_eq_true rfl) hN (fun _ _ q => q.elim) (oI_go (G := fun a b => Gd X mX7_readClause 46 _ a b nc ns P) (fun r t q => Gd.wk (g r t q) ⟨rfl, ⟨rfl, trivial⟩⟩))
theorem bkX7_readClause_46 {X : GX} {h : SH} {nc ns : Nat} {P : Out → SH → Prop} {a0 : Nat} {y1 : Int64} {xs0 : Int32} (kt : xs0 = 0 → Gd X mX7_readClause 54 [some (.ref a0), some (.long y1), none, none, none, none] [] (h) nc ns P) (kf : ¬ xs0 = 0 → Gd X mX7_readClause 49 [some (.ref a0), some (.long y1), none, none, none, none] [] (h) nc ns P) : Gd X mX7_readClause 46 [some (.ref a0), some (.long y1), none, none, none, none] [.int xs0] h nc ns P := by
  exact g_if_eq (tgt := 54) dX7_readClause_46 (by decide) (fun q => Gd.wk (kt q) ⟨rfl, ⟨rfl, trivial⟩⟩) (fun q => Gd.wk (kf q) ⟨rfl, ⟨rfl, trivial⟩⟩)
theorem bkX7_readClause_49 {X : GX} {h : SH} {nc ns : Nat} {P : Out → SH → Prop} {n1 s1 : Nat} {Q : SH → Prop} {Z : String → SH → Prop} {a0 : Nat} {y1 : Int64} (F0 : LX7 (Sk h) (a0)) (hN : Cd X mX7_fail [.ref a0, .int 3] (h) n1 s1 (oV Q Z)) (hx : ∀ E t, Z E t → P (.inr E) t) (g : ∀ t, Q t → Gd X mX7_readClause 54 [some (.ref a0), some (.long y1), none, none, none, none] [] (t) nc ns P) : Gd X mX7_readClause 49 [some (.ref a0), some (.long y1), none, none, none, none] [] h (n1 + nc) (s1 + ns) P := by
  refine g_aload_n dX7_readClause_49 rfl ?_
  refine g_iconst (v := 3) dX7_readClause_50 (by decide) ?_
  exact g_callV (k := 7) [.int 3] dX7_readClause_51 mfX7_fail ⟨by decide, by decide⟩ kw_606 kw_608 kw_10 rfl (by decide) (Nat.le_of_ble_eq_true rfl) (by intro x hx; cases hx) (LX7.o (h := h) F0) (Nat.le_of_ble_eq_true rfl) hN hx (oV_go (G := fun a b => Gd X mX7_readClause 54 _ a b nc ns P) (fun t q => Gd.wk (g t q) ⟨rfl, ⟨rfl, trivial⟩⟩))
theorem bkX7_readClause_54 {X : GX} {h : SH} {nc ns : Nat} {P : Out → SH → Prop} {Q : SH → Prop} {a0 : Nat} {y1 : Int64} (F0 : LX7 (Sk h) (a0)) (hN : Cd X mX9_toNext [.ref (a0 + 3)] (h) 0 0 (oV Q nX)) (g : ∀ t, Q t → Gd X mX7_readClause 61 [some (.ref a0), some (.long y1), none, none, none, none] [] (t) nc ns P) : Gd X mX7_readClause 54 [some (.ref a0), some (.long y1), none, none, none, none] [] h nc ns P := by
  refine g_aload_n dX7_readClause_54 rfl ?_
  refine g_getAs (c := 7) (k := 0) (b := a0 + 3) dX7_readClause_55 (by decide) (by decide) kw_413 rfl (LX7.o (h := h) F0) (LX7.r_tokens (h := h) F0) ?_
  refine Gd.z ?_
  exact g_callV (k := 9) [] dX7_readClause_58 mfX9_toNext ⟨by decide, by decide⟩ kw_675 kw_591 kw_592 rfl (by decide) (Nat.le_of_ble_eq_true rfl) (by intro x hx; cases hx) (LX9.o (h := h) (LX7.l_tokens F0)) (Nat.le_of_ble_eq_true rfl) hN (fun _ _ q => q.elim) (oV_go (G := fun a b => Gd X mX7_readClause 61 _ a b nc ns P) (fun t q => Gd.wk (g t q) ⟨rfl, ⟨rfl, trivial⟩⟩))
theorem bkX7_readClause_61 {X : GX} {h : SH} {nc ns : Nat} {P : Out → SH → Prop} {n1 s1 : Nat} {Q : SH → Prop} {Z : String → SH → Prop} {a0 : Nat} {y1 : Int64} (F0 : LX7 (Sk h) (a0)) (hN : Cd X mX7_pass [.ref a0, .int 3] (h) n1 s1 (oV Q Z)) (hx : ∀ E t, Z E t → P (.inr E) t) (g : ∀ t, Q t → Gd X mX7_readClause 66 [some (.ref a0), some (.long y1), none, none, none, none] [] (t) nc ns P) : Gd X mX7_readClause 61 [some (.ref a0), some (.long y1), none, none, none, none] [] h (n1 + nc) (s1 + ns) P := by
  refine g_aload_n dX7_readClause_61 rfl ?_
  refine g_iconst (v := 3) dX7_readClause_62 (by decide) ?_
  exact g_callV (k := 7) [.int 3] dX7_readClause_63 mfX7_pass ⟨by decide, by decide⟩ kw_689 kw_691 kw_14 rfl (by decide) (Nat.le_of_ble_eq_true rfl) (by intro x hx; cases hx) (LX7.o (h := h) F0) (Nat.le_of_ble_eq_true rfl) hN hx (oV_go (G := fun a b => Gd X mX7_readClause 66 _ a b nc ns P) (fun t q => Gd.wk (g t q) ⟨rfl, ⟨rfl, trivial⟩⟩))
theorem bkX7_readClause_66 {X : GX} {h : SH} {nc ns : Nat} {P : Out → SH → Prop} {n1 s1 : Nat} {Q : Int32 → SH → Prop} {Z : String → SH → Prop} {a0 : Nat} {y1 : Int64} (F0 : LX7 (Sk h) (a0)) (hN : Cd X mX7_requireNumber [.ref a0, .int 0] (h) n1 s1 (oI Q Z)) (hx : ∀ E t, Z E t → P (.inr E) t) (g : ∀ r t, Q r t → Gd X mX7_readClause 71 [some (.ref a0), some (.long y1), none, none, none, none] [.int r] (t) nc ns P) : Gd X mX7_readClause 66 [some (.ref a0), some (.long y1), none, none, none, none] [] h (n1 + nc) (s1 + ns) P := by
  refine g_aload_n dX7_readClause_66 rfl ?_
  refine g_iconst (v := 0) dX7_readClause_67 (by decide) ?_
  exact g_callV (k := 7) [.int 0] dX7_readClause_68 mfX7_requireNumber ⟨by decide, by decide⟩ kw_684 kw_686 kw_13 rfl (by decide) (Nat.le_of_ble_eq_true rfl) (by intro x hx; cases hx) (LX7.o (h := h) F0) (Nat.le_of_ble_eq_true rfl) hN hx (oI_go (G := fun a b => Gd X mX7_readClause 71 _ a b nc ns P) (fun r t q => Gd.wk (g r t q) ⟨rfl, ⟨rfl, trivial⟩⟩))
theorem bkX7_readClause_71 {X : GX} {h : SH} {nc ns : Nat} {P : Out → SH → Prop} {Q : SH → Prop} {a0 : Nat} {y1 : Int64} {xs0 : Int32} (F0 : LX7 (Sk h) (a0)) (hN : Cd X mX9_toNext [.ref (a0 + 3)] (h) 0 0 (oV Q nX)) (g : ∀ t, Q t → Gd X mX7_readClause 79 [some (.ref a0), some (.long y1), none, some (.int xs0), none, none] [] (t) nc ns P) : Gd X mX7_readClause 71 [some (.ref a0), some (.long y1), none, none, none, none] [.int xs0] h nc ns P := by
  refine g_istore_n (L' := [some (.ref a0), some (.long y1), none, some (.int xs0), none, none]) dX7_readClause_71 (by decide) rfl ?_
  refine g_aload_n dX7_readClause_72 rfl ?_
  refine g_getAs (c := 7) (k := 0) (b := a0 + 3) dX7_readClause_73 (by decide) (by decide) kw_413 rfl (LX7.o (h := h) F0) (LX7.r_tokens (h := h) F0) ?_
  refine Gd.z ?_
  exact g_callV (k := 9) [] dX7_readClause_76 mfX9_toNext ⟨by decide, by decide⟩ kw_675 kw_591 kw_592 rfl (by decide) (Nat.le_of_ble_eq_true rfl) (by intro x hx; cases hx) (LX9.o (h := h) (LX7.l_tokens F0)) (Nat.le_of_ble_eq_true rfl) hN (fun _ _ q => q.elim) (oV_go (G := fun a b => Gd X mX7_readClause 79 _ a b nc ns P) (fun t q => Gd.wk (g t q) ⟨rfl, ⟨rfl, ⟨rfl, trivial⟩⟩⟩))
theorem bkX7_readClause_79 {X : GX} {h : SH} {nc ns : Nat} {P : Out → SH → Prop} {a0 : Nat} {y1 : Int64} {x3 : Int32} (F0 : LX7 (Sk h) (a0)) (kt : ¬ (hI h (a0 + 3) 8) = 4 → Gd X mX7_readClause 94 [some (.ref a0), some (.long y1), none, some (.int x3), none, none] [] (h) nc ns P) (kf : (hI h (a0 + 3) 8) = 4 → Gd X mX7_readClause 90 [some (.ref a0), some (.long y1), none, some (.int x3), none, none] [] (h) nc ns P) : Gd X mX7_readClause 79 [some (.ref a0), some (.long y1), none, some (.int x3), none, none] [] h nc ns P := by
  refine g_aload_n dX7_readClause_79 rfl ?_
  refine g_getAs (c := 7) (k := 0) (b := a0 + 3) dX7_readClause_80 (by decide) (by decide) kw_413 rfl (LX7.o (h := h) F0) (LX7.r_tokens (h := h) F0) ?_
  refine g_getNI (c := 9) (k := 8) dX7_readClause_83 (by decide) (by decide) kn_385 rfl (LX9.o (h := h) (LX7.l_tokens F0)) ?_
  refine g_iconst (v := 4) dX7_readClause_86 (by decide) ?_
  exact g_icmp_ne (tgt := 94) dX7_readClause_87 (by decide) (fun q => Gd.wk (kt q) ⟨rfl, ⟨rfl, ⟨rfl, trivial⟩⟩⟩) (fun q => Gd.wk (kf q) ⟨rfl, ⟨rfl, ⟨rfl, trivial⟩⟩⟩)
theorem bkX7_readClause_90 {X : GX} {h : SH} {nc ns : Nat} {P : Out → SH → Prop} {a0 : Nat} {y1 : Int64} {x3 : Int32} (g : Gd X mX7_readClause 95 [some (.ref a0), some (.long y1), none, some (.int x3), none, none] [.int 1] (h) nc ns P) : Gd X mX7_readClause 90 [some (.ref a0), some (.long y1), none, some (.int x3), none, none] [] h nc ns P := by
  refine g_iconst (v := 1) dX7_readClause_90 (by decide) ?_
  refine g_goto (tgt := 95) dX7_readClause_91 (by decide) ?_
  exact Gd.wk g ⟨rfl, ⟨rfl, ⟨rfl, trivial⟩⟩⟩
theorem bkX7_readClause_94 {X : GX} {h : SH} {nc ns : Nat} {P : Out → SH → Prop} {a0 : Nat} {y1 : Int64} {x3 : Int32} (g : Gd X mX7_readClause 95 [some (.ref a0), some (.long y1), none, some (.int x3), none, none] [.int 0] (h) nc ns P) : Gd X mX7_readClause 94 [some (.ref a0), some (.long y1), none, some (.int x3), none, none] [] h nc ns P := by
  refine g_iconst (v := 0) dX7_readClause_94 (by decide) ?_
  exact Gd.wk g ⟨rfl, ⟨rfl, ⟨rfl, trivial⟩⟩⟩
theorem bkX7_readClause_95 {X : GX} {h : SH} {nc ns : Nat} {P : Out → SH → Prop} {a0 : Nat} {y1 : Int64} {x3 : Int32} {xs0 : Int32} (kt : xs0 = 0 → Gd X mX7_readClause 109 [some (.ref a0), some (.long y1), none, some (.int x3), some (.int xs0), none] [] (h) nc ns P) (kf : ¬ xs0 = 0 → Gd X mX7_readClause 102 [some (.ref a0), some (.long y1), none, some (.int x3), some (.int xs0), none] [] (h) nc ns P) : Gd X mX7_readClause 95 [some (.ref a0), some (.long y1), none, some (.int x3), none, none] [.int xs0] h nc ns P := by
  refine g_istore (L' := [some (.ref a0), some (.long y1), none, some (.int x3), some (.int xs0), none]) dX7_readClause_95 (by decide) rfl ?_
  refine g_iload dX7_readClause_97 rfl ?_
  exact g_if_eq (tgt := 109) dX7_readClause_99 (by decide) (fun q => Gd.wk (kt q) ⟨rfl, ⟨rfl, ⟨rfl, ⟨rfl, trivial⟩⟩⟩⟩) (fun q => Gd.wk (kf q) ⟨rfl, ⟨rfl, ⟨rfl, ⟨rfl, trivial⟩⟩⟩⟩)
theorem bkX7_readClause_102 {X : GX} {h : SH} {nc ns : Nat} {P : Out → SH → Prop} {Q : SH → Prop} {a0 : Nat} {y1 : Int64} {x3 : Int32} {x4 : Int32} (F0 : LX7 (Sk h) (a0)) (hN : Cd X mX9_toNext [.ref (a0 + 3)] (h) 0 0 (oV Q nX)) (g : ∀ t, Q t → Gd X mX7_readClause 109 [some (.ref a0), some (.long y1), none, some (.int x3), some (.int x4), none] [] (t) nc ns P) : Gd X mX7_readClause 102 [some (.ref a0), some (.long y1), none, some (.int x3), some (.int x4), none] [] h nc ns P := by
  refine g_aload_n dX7_readClause_102 rfl ?_
  refine g_getAs (c := 7) (k := 0) (b := a0 + 3) dX7_readClause_103 (by decide) (by decide) kw_413 rfl (LX7.o (h := h) F0) (LX7.r_tokens (h := h) F0) ?_
  refine Gd.z ?_
  exact g_callV (k := 9) [] dX7_readClause_106 mfX9_toNext ⟨by decide, by decide⟩ kw_675 kw_591 kw_592 rfl (by decide) (Nat.le_of_ble_eq_true rfl) (by intro x hx; cases hx) (LX9.o (h := h) (LX7.l_tokens F0)) (Nat.le_of_ble_eq_true rfl) hN (fun _ _ q => q.elim) (oV_go (G := fun a b => Gd X mX7_readClause 109 _ a b nc ns P) (fun t q => Gd.wk (g t q) ⟨rfl, ⟨rfl, ⟨rfl, ⟨rfl, trivial⟩⟩⟩⟩))
theorem bkX7_readClause_109 {X : GX} {h : SH} {nc ns : Nat} {P : Out → SH → Prop} {n1 s1 : Nat} {Q : SH → Prop} {Z : String → SH → Prop} {a0 : Nat} {y1 : Int64} {x3 : Int32} {x4 : Int32} (F0 : LX7 (Sk h) (a0)) (hN : Cd X mX7_pass [.ref a0, .int 5] (h) n1 s1 (oV Q Z)) (hx : ∀ E t, Z E t → P (.inr E) t) (g : ∀ t, Q t → Gd X mX7_readClause 114 [some (.ref a0), some (.long y1), none, some (.int x3), some (.int x4), none] [] (t) nc ns P) : Gd X mX7_readClause 109 [some (.ref a0), some (.long y1), none, some (.int x3), some (.int x4), none] [] h (n1 + nc) (s1 + ns) P := by
  refine g_aload_n dX7_readClause_109 rfl ?_
  refine g_iconst (v := 5) dX7_readClause_110 (by decide) ?_
  exact g_callV (k := 7) [.int 5] dX7_readClause_111 mfX7_pass ⟨by decide, by decide⟩ kw_689 kw_691 kw_14 rfl (by decide) (Nat.le_of_ble_eq_true rfl) (by intro x hx; cases hx) (LX7.o (h := h) F0) (Nat.le_of_ble_eq_true rfl) hN hx (oV_go (G := fun a b => Gd X mX7_readClause 114 _ a b nc ns P) (fun t q => Gd.wk (g t q) ⟨rfl, ⟨rfl, ⟨rfl, ⟨rfl, trivial⟩⟩⟩⟩))
theorem bkX7_readClause_114 {X : GX} {h : SH} {nc ns : Nat} {P : Out → SH → Prop} {a0 : Nat} {y1 : Int64} {x3 : Int32} {x4 : Int32} (g : Gd X mX7_readClause 117 [some (.ref a0), some (.long y1), none, some (.int x3), some (.int x4), none] [.ref (hz h)] (nw h 2 0) nc ns P) : Gd X mX7_readClause 114 [some (.ref a0), some (.long y1), none, some (.int x3), some (.int x4), none] [] h (nc + 1) (ns + 10) P := by
  refine g_new (c := 2) dX7_readClause_114 (by decide) kw_710 kw_711 kw_112 ?_
  exact Gd.wk g ⟨rfl, ⟨rfl, ⟨rfl, ⟨rfl, trivial⟩⟩⟩⟩
theorem bkX7_readClause_126 {X : GX} {h : SH} {nc ns : Nat} {P : Out → SH → Prop} {n1 s1 : Nat} {Q : SH → Prop} {a0 : Nat} {as0 : Nat} {as1 : Nat} {ys2 : Int64} {xs3 : Int32} {xs4 : Int32} {as5 : Nat} (hN : Cd X mX2_init [.ref as1, .long ys2, .int xs3, .int xs4, .ref as5] (h) n1 s1 (oV Q nX)) (g : ∀ t, Q t → Gd X mX7_readClause 129 [some (.ref a0), none, none, none, none, none] [.ref as0] (t) nc ns P) : Gd X mX7_readClause 126 [some (.ref a0), none, none, none, none, none] [.ref as5, .int xs4, .int xs3, .long ys2, .ref as1, .ref as0] h (n1 + nc) (s1 + ns) P := by
  exact g_callI [.long ys2, .int xs3, .int xs4, .ref as5] dX7_readClause_126 mfX2_init rfl rfl ⟨by decide, by decide⟩ kw_764 kw_765 rfl (Nat.le_of_ble_eq_true rfl) (by intro x hx; cases hx) (Nat.le_of_ble_eq_true rfl) hN (fun _ _ q => q) (oV_go (G := fun a b => Gd X mX7_readClause 129 _ a b nc ns P) (fun t q => Gd.wk (g t q) ⟨rfl, trivial⟩))
theorem bkX7_readClause_129 {X : GX} {h : SH} {nc ns : Nat} {P : Out → SH → Prop} {n1 s1 : Nat} {Q : SH → Prop} {Z : String → SH → Prop} {a0 : Nat} {as0 : Nat} (F0 : LX7 (Sk h) (a0)) (hN : Cd X mX7_pass [.ref a0, .int 59] (h) n1 s1 (oV Q Z)) (hx : ∀ E t, Z E t → P (.inr E) t) (g : ∀ t, Q t → Gd X mX7_readClause 137 [some (.ref a0), none, none, none, none, some (.ref as0)] [] (t) nc ns P) : Gd X mX7_readClause 129 [some (.ref a0), none, none, none, none, none] [.ref as0] h (n1 + nc) (s1 + ns) P := by
  refine g_astore (r := (some (as0))) (L' := [some (.ref a0), none, none, none, none, some (.ref as0)]) dX7_readClause_129 (by decide) rfl ?_
  refine g_aload_n dX7_readClause_131 rfl ?_
  refine g_bipush (v := 59) dX7_readClause_132 (by decide) ?_
  exact g_callV (k := 7) [.int 59] dX7_readClause_134 mfX7_pass ⟨by decide, by decide⟩ kw_689 kw_691 kw_14 rfl (by decide) (Nat.le_of_ble_eq_true rfl) (by intro x hx; cases hx) (LX7.o (h := h) F0) (Nat.le_of_ble_eq_true rfl) hN hx (oV_go (G := fun a b => Gd X mX7_readClause 137 _ a b nc ns P) (fun t q => Gd.wk (g t q) ⟨rfl, ⟨rfl, trivial⟩⟩))
theorem bkX7_readClause_137 {X : GX} {h : SH} {nc ns : Nat} {P : Out → SH → Prop} {n1 s1 : Nat} {Q : SH → Prop} {Z : String → SH → Prop} {a0 : Nat} {a5 : Nat} (F0 : LX7 (Sk h) (a0)) (hN : Cd X mX7_readLinks [.ref a0, .ref a5] (h) n1 s1 (oV Q Z)) (hx : ∀ E t, Z E t → P (.inr E) t) (g : ∀ t, Q t → Gd X mX7_readClause 143 [some (.ref a0), none, none, none, none, some (.ref a5)] [] (t) nc ns P) : Gd X mX7_readClause 137 [some (.ref a0), none, none, none, none, some (.ref a5)] [] h (n1 + nc) (s1 + ns) P := by
  refine g_aload_n dX7_readClause_137 rfl ?_
  refine g_aload dX7_readClause_138 rfl ?_
  exact g_callV (k := 7) [.ref a5] dX7_readClause_140 mfX7_readLinks ⟨by decide, by decide⟩ kw_811 kw_813 kw_23 rfl (by decide) (Nat.le_of_ble_eq_true rfl) (by intro x hx; cases hx) (LX7.o (h := h) F0) (Nat.le_of_ble_eq_true rfl) hN hx (oV_go (G := fun a b => Gd X mX7_readClause 143 _ a b nc ns P) (fun t q => Gd.wk (g t q) ⟨rfl, ⟨rfl, trivial⟩⟩))
theorem bkX7_readClause_143 {X : GX} {h : SH} {nc ns : Nat} {P : Out → SH → Prop} {n1 s1 : Nat} {Q : SH → Prop} {Z : String → SH → Prop} {a0 : Nat} {a5 : Nat} (F0 : LX7 (Sk h) (a0)) (hN : Cd X mX7_pass [.ref a0, .int 8] (h) n1 s1 (oV Q Z)) (hx : ∀ E t, Z E t → P (.inr E) t) (g : ∀ t, Q t → Gd X mX7_readClause 149 [some (.ref a0), none, none, none, none, some (.ref a5)] [] (t) nc ns P) : Gd X mX7_readClause 143 [some (.ref a0), none, none, none, none, some (.ref a5)] [] h (n1 + nc) (s1 + ns) P := by
  refine g_aload_n dX7_readClause_143 rfl ?_
  refine g_bipush (v := 8) dX7_readClause_144 (by decide) ?_
  exact g_callV (k := 7) [.int 8] dX7_readClause_146 mfX7_pass ⟨by decide, by decide⟩ kw_689 kw_691 kw_14 rfl (by decide) (Nat.le_of_ble_eq_true rfl) (by intro x hx; cases hx) (LX7.o (h := h) F0) (Nat.le_of_ble_eq_true rfl) hN hx (oV_go (G := fun a b => Gd X mX7_readClause 149 _ a b nc ns P) (fun t q => Gd.wk (g t q) ⟨rfl, ⟨rfl, trivial⟩⟩))
theorem bkX7_readClause_149 {X : GX} {h : SH} {nc ns : Nat} {P : Out → SH → Prop} {n1 s1 : Nat} {Q : SH → Prop} {Z : String → SH → Prop} {a0 : Nat} {a5 : Nat} (F0 : LX7 (Sk h) (a0)) (hN : Cd X mX7_readItems [.ref a0, .ref a5] (h) n1 s1 (oV Q Z)) (hx : ∀ E t, Z E t → P (.inr E) t) (g : ∀ t, Q t → Gd X mX7_readClause 155 [some (.ref a0), none, none, none, none, some (.ref a5)] [] (t) nc ns P) : Gd X mX7_readClause 149 [some (.ref a0), none, none, none, none, some (.ref a5)] [] h (n1 + nc) (s1 + ns) P := by
  refine g_aload_n dX7_readClause_149 rfl ?_
  refine g_aload dX7_readClause_150 rfl ?_
  exact g_callV (k := 7) [.ref a5] dX7_readClause_152 mfX7_readItems ⟨by decide, by decide⟩ kw_835 kw_837 kw_26 rfl (by decide) (Nat.le_of_ble_eq_true rfl) (by intro x hx; cases hx) (LX7.o (h := h) F0) (Nat.le_of_ble_eq_true rfl) hN hx (oV_go (G := fun a b => Gd X mX7_readClause 155 _ a b nc ns P) (fun t q => Gd.wk (g t q) ⟨rfl, ⟨rfl, trivial⟩⟩))
theorem bkX7_readClause_155 {X : GX} {h : SH} {nc ns : Nat} {P : Out → SH → Prop} {n1 s1 : Nat} {Q : SH → Prop} {Z : String → SH → Prop} {a0 : Nat} {a5 : Nat} (F0 : LX7 (Sk h) (a0)) (hN : Cd X mX7_pass [.ref a0, .int 59] (h) n1 s1 (oV Q Z)) (hx : ∀ E t, Z E t → P (.inr E) t) (g : ∀ t, Q t → Gd X mX7_readClause 161 [some (.ref a0), none, none, none, none, some (.ref a5)] [] (t) nc ns P) : Gd X mX7_readClause 155 [some (.ref a0), none, none, none, none, some (.ref a5)] [] h (n1 + nc) (s1 + ns) P := by
  refine g_aload_n dX7_readClause_155 rfl ?_
  refine g_bipush (v := 59) dX7_readClause_156 (by decide) ?_
  exact g_callV (k := 7) [.int 59] dX7_readClause_158 mfX7_pass ⟨by decide, by decide⟩ kw_689 kw_691 kw_14 rfl (by decide) (Nat.le_of_ble_eq_true rfl) (by intro x hx; cases hx) (LX7.o (h := h) F0) (Nat.le_of_ble_eq_true rfl) hN hx (oV_go (G := fun a b => Gd X mX7_readClause 161 _ a b nc ns P) (fun t q => Gd.wk (g t q) ⟨rfl, ⟨rfl, trivial⟩⟩))
theorem bkX7_readClause_161 {X : GX} {h : SH} {nc ns : Nat} {P : Out → SH → Prop} {Q : SH → Prop} {a0 : Nat} {a5 : Nat} {b2 : Nat} (F0 : LX7 (Sk h) (a0)) (q1 : hA h a0 1 = some b2) (F2 : LX3 (Sk h) (b2)) (hN : Cd X mX3_addClause [.ref b2, .ref a5] (h) 0 0 (oV Q nX)) (g : ∀ t, Q t → Gd X mX7_readClause 170 [none, none, none, none, none, none] [] (t) nc ns P) : Gd X mX7_readClause 161 [some (.ref a0), none, none, none, none, some (.ref a5)] [] h nc ns P := by
  refine g_aload_n dX7_readClause_161 rfl ?_
  refine g_getAs (c := 7) (k := 1) (b := b2) dX7_readClause_162 (by decide) (by decide) kw_414 rfl (LX7.o (h := h) F0) q1 ?_
  refine g_aload dX7_readClause_165 rfl ?_
  refine Gd.z ?_
  exact g_callV (k := 3) [.ref a5] dX7_readClause_167 mfX3_addClause ⟨by decide, by decide⟩ kw_878 kw_879 kw_880 rfl (by decide) (Nat.le_of_ble_eq_true rfl) (by intro x hx; cases hx) (LX3.o (h := h) F2) (Nat.le_of_ble_eq_true rfl) hN (fun _ _ q => q.elim) (oV_go (G := fun a b => Gd X mX7_readClause 170 _ a b nc ns P) (fun t q => Gd.wk (g t q) trivial))
theorem bkX7_readClause_170 {X : GX} {h : SH} {nc ns : Nat} {P : Out → SH → Prop} (hp : P (.inl (none)) (h)) : Gd X mX7_readClause 170 [none, none, none, none, none, none] [] h nc ns P := by
  exact g_return (st := []) dX7_readClause_170 rfl hp
theorem bkX7_readClause_117 {X : GX} {h : SH} {nc ns : Nat} {P : Out → SH → Prop} {n1 s1 : Nat} {Q : Option Nat → SH → Prop} {Z : String → SH → Prop} {a0 : Nat} {y1 : Int64} {x3 : Int32} {x4 : Int32} {as0 : Nat} (F0 : LX7 (Sk h) (a0)) (hN : Cd X mX7_readFormula [.ref a0] (h) n1 s1 (oA Q Z)) (hx : ∀ E t, Z E t → P (.inr E) t) (g : ∀ r t, Q r t → Gd X mX7_readClause 126 [some (.ref a0), none, none, none, none, none] [va_rf r, .int x4, .int x3, .long y1, .ref as0, .ref as0] (t) nc ns P) : Gd X mX7_readClause 117 [some (.ref a0), some (.long y1), none, some (.int x3), some (.int x4), none] [.ref as0] h (n1 + nc) (s1 + ns) P := by
  refine g_dup dX7_readClause_117 rfl ?_
  refine g_lload_n dX7_readClause_118 rfl ?_
  refine g_iload_n dX7_readClause_119 rfl ?_
  refine g_iload dX7_readClause_120 rfl ?_
  refine g_aload_n dX7_readClause_122 rfl ?_
  exact g_callV (k := 7) [] dX7_readClause_123 mfX7_readFormula ⟨by decide, by decide⟩ kw_712 kw_714 kw_16 rfl (by decide) (Nat.le_of_ble_eq_true rfl) (by intro x hx; cases hx) (LX7.o (h := h) F0) (Nat.le_of_ble_eq_true rfl) hN hx (oA_go (G := fun a b => Gd X mX7_readClause 126 _ a b nc ns P) (fun r t q => Gd.wk (g r t q) ⟨rfl, trivial⟩))
theorem bkX7_readLinks_0 {X : GX} {h : SH} {nc ns : Nat} {P : Out → SH → Prop} {a0 : Nat} {a1 : Nat} (g : Gd X mX7_readLinks 2 [some (.ref a0), some (.ref a1), some (.int 0)] [] (h) nc ns P) : Gd X mX7_readLinks 0 [some (.ref a0), some (.ref a1), none] [] h nc ns P := by
  refine g_iconst (v := 0) dX7_readLinks_0 (by decide) ?_
  refine g_istore_n (L' := [some (.ref a0), some (.ref a1), some (.int 0)]) dX7_readLinks_1 (by decide) rfl ?_
  exact Gd.wk g ⟨rfl, ⟨rfl, ⟨rfl, trivial⟩⟩⟩
theorem bkX7_readLinks_2 {X : GX} {h : SH} {nc ns : Nat} {P : Out → SH → Prop} {a0 : Nat} {a1 : Nat} {x2 : Int32} (kt : (8 : Int32) < x2 → Gd X mX7_readLinks 35 [some (.ref a0), some (.ref a1), none] [] (h) nc ns P) (kf : ¬ (8 : Int32) < x2 → Gd X mX7_readLinks 8 [some (.ref a0), some (.ref a1), some (.int x2)] [] (h) nc ns P) : Gd X mX7_readLinks 2 [some (.ref a0), some (.ref a1), some (.int x2)] [] h nc ns P := by
  refine g_iload_n dX7_readLinks_2 rfl ?_
  refine g_bipush (v := 8) dX7_readLinks_3 (by decide) ?_
  exact g_icmp_gt (tgt := 35) dX7_readLinks_5 (by decide) (fun q => Gd.wk (kt q) ⟨rfl, ⟨rfl, trivial⟩⟩) (fun q => Gd.wk (kf q) ⟨rfl, ⟨rfl, ⟨rfl, trivial⟩⟩⟩)
theorem bkX7_readLinks_8 {X : GX} {h : SH} {nc ns : Nat} {P : Out → SH → Prop} {a0 : Nat} {a1 : Nat} {x2 : Int32} (F0 : LX7 (Sk h) (a0)) (kt : ¬ (hI h (a0 + 3) 8) = 6 → Gd X mX7_readLinks 35 [some (.ref a0), some (.ref a1), none] [] (h) nc ns P) (kf : (hI h (a0 + 3) 8) = 6 → Gd X mX7_readLinks 20 [some (.ref a0), some (.ref a1), some (.int x2)] [] (h) nc ns P) : Gd X mX7_readLinks 8 [some (.ref a0), some (.ref a1), some (.int x2)] [] h nc ns P := by
  refine g_aload_n dX7_readLinks_8 rfl ?_
  refine g_getAs (c := 7) (k := 0) (b := a0 + 3) dX7_readLinks_9 (by decide) (by decide) kw_413 rfl (LX7.o (h := h) F0) (LX7.r_tokens (h := h) F0) ?_
  refine g_getNI (c := 9) (k := 8) dX7_readLinks_12 (by decide) (by decide) kn_385 rfl (LX9.o (h := h) (LX7.l_tokens F0)) ?_
  refine g_bipush (v := 6) dX7_readLinks_15 (by decide) ?_
  exact g_icmp_ne (tgt := 35) dX7_readLinks_17 (by decide) (fun q => Gd.wk (kt q) ⟨rfl, ⟨rfl, trivial⟩⟩) (fun q => Gd.wk (kf q) ⟨rfl, ⟨rfl, ⟨rfl, trivial⟩⟩⟩)
theorem bkX7_readLinks_20 {X : GX} {h : SH} {nc ns : Nat} {P : Out → SH → Prop} {n1 s1 : Nat} {Q : Int32 → SH → Prop} {Z : String → SH → Prop} {a0 : Nat} {a1 : Nat} {x2 : Int32} (F0 : LX7 (Sk h) (a0)) (hN : Cd X mX7_readLink [.ref a0, .ref a1] (h) n1 s1 (oI Q Z)) (hx : ∀ E t, Z E t → P (.inr E) t) (g : ∀ r t, Q r t → Gd X mX7_readLinks 26 [some (.ref a0), some (.ref a1), some (.int x2)] [.int r, .ref a1] (t) nc ns P) : Gd X mX7_readLinks 20 [some (.ref a0), some (.ref a1), some (.int x2)] [] h (n1 + nc) (s1 + ns) P := by
  refine g_aload_n dX7_readLinks_20 rfl ?_
  refine g_aload_n dX7_readLinks_21 rfl ?_
  refine g_aload_n dX7_readLinks_22 rfl ?_
  exact g_callV (k := 7) [.ref a1] dX7_readLinks_23 mfX7_readLink ⟨by decide, by decide⟩ kw_815 kw_817 kw_24 rfl (by decide) (Nat.le_of_ble_eq_true rfl) (by intro x hx; cases hx) (LX7.o (h := h) F0) (Nat.le_of_ble_eq_true rfl) hN hx (oI_go (G := fun a b => Gd X mX7_readLinks 26 _ a b nc ns P) (fun r t q => Gd.wk (g r t q) ⟨rfl, ⟨rfl, ⟨rfl, trivial⟩⟩⟩))
theorem bkX7_readLinks_26 {X : GX} {h : SH} {nc ns : Nat} {P : Out → SH → Prop} {Q : SH → Prop} {a0 : Nat} {a1 : Nat} {x2 : Int32} {as0 : Nat} {xs1 : Int32} (F0 : LX2 (Sk h) (as0)) (hN : Cd X mX2_addNeed [.ref as0, .int xs1] (h) 0 0 (oV Q nX)) (g : ∀ t, Q t → Gd X mX7_readLinks 29 [some (.ref a0), some (.ref a1), some (.int x2)] [] (t) nc ns P) : Gd X mX7_readLinks 26 [some (.ref a0), some (.ref a1), some (.int x2)] [.int xs1, .ref as0] h nc ns P := by
  refine Gd.z ?_
  exact g_callV (k := 2) [.int xs1] dX7_readLinks_26 mfX2_addNeed ⟨by decide, by decide⟩ kw_827 kw_828 kw_829 rfl (by decide) (Nat.le_of_ble_eq_true rfl) (by intro x hx; cases hx) (LX2.o (h := h) F0) (Nat.le_of_ble_eq_true rfl) hN (fun _ _ q => q.elim) (oV_go (G := fun a b => Gd X mX7_readLinks 29 _ a b nc ns P) (fun t q => Gd.wk (g t q) ⟨rfl, ⟨rfl, ⟨rfl, trivial⟩⟩⟩))
theorem bkX7_readLinks_29 {X : GX} {h : SH} {nc ns : Nat} {P : Out → SH → Prop} {a0 : Nat} {a1 : Nat} {x2 : Int32} (g : Gd X mX7_readLinks 2 [some (.ref a0), some (.ref a1), some (.int (x2 + 1))] [] (h) nc ns P) : Gd X mX7_readLinks 29 [some (.ref a0), some (.ref a1), some (.int x2)] [] h nc ns P := by
  refine g_iinc (v := x2 + 1) (L' := [some (.ref a0), some (.ref a1), some (.int (x2 + 1))]) dX7_readLinks_29 rfl rfl (by decide) rfl ?_
  refine g_goto (tgt := 2) dX7_readLinks_32 (by decide) ?_
  exact Gd.wk g ⟨rfl, ⟨rfl, ⟨rfl, trivial⟩⟩⟩
theorem bkX7_readLinks_35 {X : GX} {h : SH} {nc ns : Nat} {P : Out → SH → Prop} {a0 : Nat} {a1 : Nat} (g : Gd X mX7_readLinks 37 [some (.ref a0), some (.ref a1), some (.int 0)] [] (h) nc ns P) : Gd X mX7_readLinks 35 [some (.ref a0), some (.ref a1), none] [] h nc ns P := by
  refine g_iconst (v := 0) dX7_readLinks_35 (by decide) ?_
  refine g_istore_n (L' := [some (.ref a0), some (.ref a1), some (.int 0)]) dX7_readLinks_36 (by decide) rfl ?_
  exact Gd.wk g ⟨rfl, ⟨rfl, ⟨rfl, trivial⟩⟩⟩
theorem bkX7_readLinks_37 {X : GX} {h : SH} {nc ns : Nat} {P : Out → SH → Prop} {a0 : Nat} {a1 : Nat} {x2 : Int32} (kt : (8 : Int32) < x2 → Gd X mX7_readLinks 70 [none, none, none] [] (h) nc ns P) (kf : ¬ (8 : Int32) < x2 → Gd X mX7_readLinks 43 [some (.ref a0), some (.ref a1), some (.int x2)] [] (h) nc ns P) : Gd X mX7_readLinks 37 [some (.ref a0), some (.ref a1), some (.int x2)] [] h nc ns P := by
  refine g_iload_n dX7_readLinks_37 rfl ?_
  refine g_bipush (v := 8) dX7_readLinks_38 (by decide) ?_
  exact g_icmp_gt (tgt := 70) dX7_readLinks_40 (by decide) (fun q => Gd.wk (kt q) trivial) (fun q => Gd.wk (kf q) ⟨rfl, ⟨rfl, ⟨rfl, trivial⟩⟩⟩)
theorem bkX7_readLinks_43 {X : GX} {h : SH} {nc ns : Nat} {P : Out → SH → Prop} {a0 : Nat} {a1 : Nat} {x2 : Int32} (F0 : LX7 (Sk h) (a0)) (kt : ¬ (hI h (a0 + 3) 8) = 7 → Gd X mX7_readLinks 70 [none, none, none] [] (h) nc ns P) (kf : (hI h (a0 + 3) 8) = 7 → Gd X mX7_readLinks 55 [some (.ref a0), some (.ref a1), some (.int x2)] [] (h) nc ns P) : Gd X mX7_readLinks 43 [some (.ref a0), some (.ref a1), some (.int x2)] [] h nc ns P := by
  refine g_aload_n dX7_readLinks_43 rfl ?_
  refine g_getAs (c := 7) (k := 0) (b := a0 + 3) dX7_readLinks_44 (by decide) (by decide) kw_413 rfl (LX7.o (h := h) F0) (LX7.r_tokens (h := h) F0) ?_
  refine g_getNI (c := 9) (k := 8) dX7_readLinks_47 (by decide) (by decide) kn_385 rfl (LX9.o (h := h) (LX7.l_tokens F0)) ?_
  refine g_bipush (v := 7) dX7_readLinks_50 (by decide) ?_
  exact g_icmp_ne (tgt := 70) dX7_readLinks_52 (by decide) (fun q => Gd.wk (kt q) trivial) (fun q => Gd.wk (kf q) ⟨rfl, ⟨rfl, ⟨rfl, trivial⟩⟩⟩)
theorem bkX7_readLinks_55 {X : GX} {h : SH} {nc ns : Nat} {P : Out → SH → Prop} {n1 s1 : Nat} {Q : Int32 → SH → Prop} {Z : String → SH → Prop} {a0 : Nat} {a1 : Nat} {x2 : Int32} (F0 : LX7 (Sk h) (a0)) (hN : Cd X mX7_readLink [.ref a0, .ref a1] (h) n1 s1 (oI Q Z)) (hx : ∀ E t, Z E t → P (.inr E) t) (g : ∀ r t, Q r t → Gd X mX7_readLinks 61 [some (.ref a0), some (.ref a1), some (.int x2)] [.int r, .ref a1] (t) nc ns P) : Gd X mX7_readLinks 55 [some (.ref a0), some (.ref a1), some (.int x2)] [] h (n1 + nc) (s1 + ns) P := by
  refine g_aload_n dX7_readLinks_55 rfl ?_
  refine g_aload_n dX7_readLinks_56 rfl ?_
  refine g_aload_n dX7_readLinks_57 rfl ?_
  exact g_callV (k := 7) [.ref a1] dX7_readLinks_58 mfX7_readLink ⟨by decide, by decide⟩ kw_815 kw_817 kw_24 rfl (by decide) (Nat.le_of_ble_eq_true rfl) (by intro x hx; cases hx) (LX7.o (h := h) F0) (Nat.le_of_ble_eq_true rfl) hN hx (oI_go (G := fun a b => Gd X mX7_readLinks 61 _ a b nc ns P) (fun r t q => Gd.wk (g r t q) ⟨rfl, ⟨rfl, ⟨rfl, trivial⟩⟩⟩))
theorem bkX7_readLinks_61 {X : GX} {h : SH} {nc ns : Nat} {P : Out → SH → Prop} {Q : SH → Prop} {a0 : Nat} {a1 : Nat} {x2 : Int32} {as0 : Nat} {xs1 : Int32} (F0 : LX2 (Sk h) (as0)) (hN : Cd X mX2_addBar [.ref as0, .int xs1] (h) 0 0 (oV Q nX)) (g : ∀ t, Q t → Gd X mX7_readLinks 64 [some (.ref a0), some (.ref a1), some (.int x2)] [] (t) nc ns P) : Gd X mX7_readLinks 61 [some (.ref a0), some (.ref a1), some (.int x2)] [.int xs1, .ref as0] h nc ns P := by
  refine Gd.z ?_
  exact g_callV (k := 2) [.int xs1] dX7_readLinks_61 mfX2_addBar ⟨by decide, by decide⟩ kw_831 kw_832 kw_833 rfl (by decide) (Nat.le_of_ble_eq_true rfl) (by intro x hx; cases hx) (LX2.o (h := h) F0) (Nat.le_of_ble_eq_true rfl) hN (fun _ _ q => q.elim) (oV_go (G := fun a b => Gd X mX7_readLinks 64 _ a b nc ns P) (fun t q => Gd.wk (g t q) ⟨rfl, ⟨rfl, ⟨rfl, trivial⟩⟩⟩))
theorem bkX7_readLinks_64 {X : GX} {h : SH} {nc ns : Nat} {P : Out → SH → Prop} {a0 : Nat} {a1 : Nat} {x2 : Int32} (g : Gd X mX7_readLinks 37 [some (.ref a0), some (.ref a1), some (.int (x2 + 1))] [] (h) nc ns P) : Gd X mX7_readLinks 64 [some (.ref a0), some (.ref a1), some (.int x2)] [] h nc ns P := by
  refine g_iinc (v := x2 + 1) (L' := [some (.ref a0), some (.ref a1), some (.int (x2 + 1))]) dX7_readLinks_64 rfl rfl (by decide) rfl ?_
  refine g_goto (tgt := 37) dX7_readLinks_67 (by decide) ?_
  exact Gd.wk g ⟨rfl, ⟨rfl, ⟨rfl, trivial⟩⟩⟩
theorem bkX7_readLinks_70 {X : GX} {h : SH} {nc ns : Nat} {P : Out → SH → Prop} (hp : P (.inl (none)) (h)) : Gd X mX7_readLinks 70 [none, none, none] [] h nc ns P := by
  exact g_return (st := []) dX7_readLinks_70 rfl hp
theorem bkX7_readLink_0 {X : GX} {h : SH} {nc ns : Nat} {P : Out → SH → Prop} {Q : Int32 → SH → Prop} {a0 : Nat} {a1 : Nat} (F0 : LX2 (Sk h) (a1)) (hN : Cd X mX2_hasAllLinks [.ref a1] (h) 0 0 (oI Q nX)) (g : ∀ r t, Q r t → Gd X mX7_readLink 4 [some (.ref a0), none, none] [.int r] (t) nc ns P) : Gd X mX7_readLink 0 [some (.ref a0), some (.ref a1), none] [] h nc ns P := by
  refine g_aload_n dX7_readLink_0 rfl ?_
  refine Gd.z ?_
  exact g_callV (k := 2) [] dX7_readLink_1 mfX2_hasAllLinks ⟨by decide, by decide⟩ kw_819 kw_820 kw_821 rfl (by decide) (Nat.le_of_ble_eq_true rfl) (by intro x hx; cases hx) (LX2.o (h := h) F0) (Nat.le_of_ble_eq_true rfl) hN (fun _ _ q => q.elim) (oI_go (G := fun a b => Gd X mX7_readLink 4 _ a b nc ns P) (fun r t q => Gd.wk (g r t q) ⟨rfl, trivial⟩))
theorem bkX7_readLink_4 {X : GX} {h : SH} {nc ns : Nat} {P : Out → SH → Prop} {a0 : Nat} {xs0 : Int32} (kt : xs0 = 0 → Gd X mX7_readLink 12 [some (.ref a0), none, none] [] (h) nc ns P) (kf : ¬ xs0 = 0 → Gd X mX7_readLink 7 [some (.ref a0), none, none] [] (h) nc ns P) : Gd X mX7_readLink 4 [some (.ref a0), none, none] [.int xs0] h nc ns P := by
  exact g_if_eq (tgt := 12) dX7_readLink_4 (by decide) (fun q => Gd.wk (kt q) ⟨rfl, trivial⟩) (fun q => Gd.wk (kf q) ⟨rfl, trivial⟩)
theorem bkX7_readLink_7 {X : GX} {h : SH} {nc ns : Nat} {P : Out → SH → Prop} {n1 s1 : Nat} {Q : SH → Prop} {Z : String → SH → Prop} {a0 : Nat} (F0 : LX7 (Sk h) (a0)) (hN : Cd X mX7_fail [.ref a0, .int 5] (h) n1 s1 (oV Q Z)) (hx : ∀ E t, Z E t → P (.inr E) t) (g : ∀ t, Q t → Gd X mX7_readLink 12 [some (.ref a0), none, none] [] (t) nc ns P) : Gd X mX7_readLink 7 [some (.ref a0), none, none] [] h (n1 + nc) (s1 + ns) P := by
  refine g_aload_n dX7_readLink_7 rfl ?_
  refine g_iconst (v := 5) dX7_readLink_8 (by decide) ?_
  exact g_callV (k := 7) [.int 5] dX7_readLink_9 mfX7_fail ⟨by decide, by decide⟩ kw_606 kw_608 kw_10 rfl (by decide) (Nat.le_of_ble_eq_true rfl) (by intro x hx; cases hx) (LX7.o (h := h) F0) (Nat.le_of_ble_eq_true rfl) hN hx (oV_go (G := fun a b => Gd X mX7_readLink 12 _ a b nc ns P) (fun t q => Gd.wk (g t q) ⟨rfl, trivial⟩))
theorem bkX7_readLink_12 {X : GX} {h : SH} {nc ns : Nat} {P : Out → SH → Prop} {Q : SH → Prop} {a0 : Nat} (F0 : LX7 (Sk h) (a0)) (hN : Cd X mX9_toNext [.ref (a0 + 3)] (h) 0 0 (oV Q nX)) (g : ∀ t, Q t → Gd X mX7_readLink 19 [some (.ref a0), none, none] [] (t) nc ns P) : Gd X mX7_readLink 12 [some (.ref a0), none, none] [] h nc ns P := by
  refine g_aload_n dX7_readLink_12 rfl ?_
  refine g_getAs (c := 7) (k := 0) (b := a0 + 3) dX7_readLink_13 (by decide) (by decide) kw_413 rfl (LX7.o (h := h) F0) (LX7.r_tokens (h := h) F0) ?_
  refine Gd.z ?_
  exact g_callV (k := 9) [] dX7_readLink_16 mfX9_toNext ⟨by decide, by decide⟩ kw_675 kw_591 kw_592 rfl (by decide) (Nat.le_of_ble_eq_true rfl) (by intro x hx; cases hx) (LX9.o (h := h) (LX7.l_tokens F0)) (Nat.le_of_ble_eq_true rfl) hN (fun _ _ q => q.elim) (oV_go (G := fun a b => Gd X mX7_readLink 19 _ a b nc ns P) (fun t q => Gd.wk (g t q) ⟨rfl, trivial⟩))
theorem bkX7_readLink_19 {X : GX} {h : SH} {nc ns : Nat} {P : Out → SH → Prop} {n1 s1 : Nat} {Q : Int32 → SH → Prop} {Z : String → SH → Prop} {a0 : Nat} (F0 : LX7 (Sk h) (a0)) (hN : Cd X mX7_readTarget [.ref a0] (h) n1 s1 (oI Q Z)) (hx : ∀ E t, Z E t → P (.inr E) t) (g : ∀ r t, Q r t → Gd X mX7_readLink 23 [some (.ref a0), none, none] [.int r] (t) nc ns P) : Gd X mX7_readLink 19 [some (.ref a0), none, none] [] h (n1 + nc) (s1 + ns) P := by
  refine g_aload_n dX7_readLink_19 rfl ?_
  exact g_callV (k := 7) [] dX7_readLink_20 mfX7_readTarget ⟨by decide, by decide⟩ kw_823 kw_825 kw_25 rfl (by decide) (Nat.le_of_ble_eq_true rfl) (by intro x hx; cases hx) (LX7.o (h := h) F0) (Nat.le_of_ble_eq_true rfl) hN hx (oI_go (G := fun a b => Gd X mX7_readLink 23 _ a b nc ns P) (fun r t q => Gd.wk (g r t q) ⟨rfl, trivial⟩))
theorem bkX7_readLink_23 {X : GX} {h : SH} {nc ns : Nat} {P : Out → SH → Prop} {n1 s1 : Nat} {Q : SH → Prop} {Z : String → SH → Prop} {a0 : Nat} {xs0 : Int32} (F0 : LX7 (Sk h) (a0)) (hN : Cd X mX7_pass [.ref a0, .int 59] (h) n1 s1 (oV Q Z)) (hx : ∀ E t, Z E t → P (.inr E) t) (g : ∀ t, Q t → Gd X mX7_readLink 30 [none, none, some (.int xs0)] [] (t) nc ns P) : Gd X mX7_readLink 23 [some (.ref a0), none, none] [.int xs0] h (n1 + nc) (s1 + ns) P := by
  refine g_istore_n (L' := [some (.ref a0), none, some (.int xs0)]) dX7_readLink_23 (by decide) rfl ?_
  refine g_aload_n dX7_readLink_24 rfl ?_
  refine g_bipush (v := 59) dX7_readLink_25 (by decide) ?_
  exact g_callV (k := 7) [.int 59] dX7_readLink_27 mfX7_pass ⟨by decide, by decide⟩ kw_689 kw_691 kw_14 rfl (by decide) (Nat.le_of_ble_eq_true rfl) (by intro x hx; cases hx) (LX7.o (h := h) F0) (Nat.le_of_ble_eq_true rfl) hN hx (oV_go (G := fun a b => Gd X mX7_readLink 30 _ a b nc ns P) (fun t q => Gd.wk (g t q) ⟨rfl, trivial⟩))
theorem bkX7_readLink_30 {X : GX} {h : SH} {nc ns : Nat} {P : Out → SH → Prop} {x2 : Int32} (hp : P (.inl (some (.int (x2)))) (h)) : Gd X mX7_readLink 30 [none, none, some (.int x2)] [] h nc ns P := by
  refine g_iload_n dX7_readLink_30 rfl ?_
  exact g_ireturn (st := []) dX7_readLink_31 rfl rfl hp
theorem bkX7_readTarget_0 {X : GX} {h : SH} {nc ns : Nat} {P : Out → SH → Prop} {n1 s1 : Nat} {Q : SH → Prop} {Z : String → SH → Prop} {a0 : Nat} (F0 : LX7 (Sk h) (a0)) (hN : Cd X mX7_require [.ref a0, .int 11] (h) n1 s1 (oV Q Z)) (hx : ∀ E t, Z E t → P (.inr E) t) (g : ∀ t, Q t → Gd X mX7_readTarget 6 [some (.ref a0), none] [] (t) nc ns P) : Gd X mX7_readTarget 0 [some (.ref a0), none] [] h (n1 + nc) (s1 + ns) P := by
  refine g_aload_n dX7_readTarget_0 rfl ?_
  refine g_bipush (v := 11) dX7_readTarget_1 (by decide) ?_
  exact g_callV (k := 7) [.int 11] dX7_readTarget_3 mfX7_require ⟨by decide, by decide⟩ kw_676 kw_678 kw_12 rfl (by decide) (Nat.le_of_ble_eq_true rfl) (by intro x hx; cases hx) (LX7.o (h := h) F0) (Nat.le_of_ble_eq_true rfl) hN hx (oV_go (G := fun a b => Gd X mX7_readTarget 6 _ a b nc ns P) (fun t q => Gd.wk (g t q) ⟨rfl, trivial⟩))
theorem bkX7_readTarget_6 {X : GX} {h : SH} {nc ns : Nat} {P : Out → SH → Prop} {a0 : Nat} (g : Gd X mX7_readTarget 8 [some (.ref a0), some (.int 0)] [] (h) nc ns P) : Gd X mX7_readTarget 6 [some (.ref a0), none] [] h nc ns P := by
  refine g_iconst (v := 0) dX7_readTarget_6 (by decide) ?_
  refine g_istore_n (L' := [some (.ref a0), some (.int 0)]) dX7_readTarget_7 (by decide) rfl ?_
  exact Gd.wk g ⟨rfl, ⟨rfl, trivial⟩⟩
theorem bkX7_readTarget_8 {X : GX} {h : SH} {nc ns : Nat} {P : Out → SH → Prop} {a0 : Nat} {x1 : Int32} (F0 : LX7 (Sk h) (a0)) (kt : hI h a0 3 ≤ x1 → Gd X mX7_readTarget 48 [some (.ref a0), none] [] (h) nc ns P) (kf : ¬ hI h a0 3 ≤ x1 → Gd X mX7_readTarget 16 [some (.ref a0), some (.int x1)] [] (h) nc ns P) : Gd X mX7_readTarget 8 [some (.ref a0), some (.int x1)] [] h nc ns P := by
  refine g_iload_n dX7_readTarget_8 rfl ?_
  refine g_aload_n dX7_readTarget_9 rfl ?_
  refine g_getI (c := 7) (k := 3) dX7_readTarget_10 (by decide) (by decide) kw_416 rfl (LX7.o (h := h) F0) ?_
  exact g_icmp_ge (tgt := 48) dX7_readTarget_13 (by decide) (fun q => Gd.wk (kt q) ⟨rfl, trivial⟩) (fun q => Gd.wk (kf q) ⟨rfl, ⟨rfl, trivial⟩⟩)
theorem bkX7_readTarget_16 {X : GX} {h : SH} {nc ns : Nat} {P : Out → SH → Prop} {a0 : Nat} {x1 : Int32} (F0 : LX7 (Sk h) (a0)) (i1 : vp_in (x1) (hN h (a0 + 8))) (kt : ¬ (lg_cmp (hJ h (a0 + 8) ((x1 : Int32).toNatClampNeg)) (hJ h (a0 + 3) 10)) = 0 → Gd X mX7_readTarget 42 [some (.ref a0), some (.int x1)] [] (h) nc ns P) (kf : (lg_cmp (hJ h (a0 + 8) ((x1 : Int32).toNatClampNeg)) (hJ h (a0 + 3) 10)) = 0 → Gd X mX7_readTarget 33 [some (.ref a0), some (.int x1)] [] (h) nc ns P) : Gd X mX7_readTarget 16 [some (.ref a0), some (.int x1)] [] h nc ns P := by
  refine g_aload_n dX7_readTarget_16 rfl ?_
  refine g_getAs (c := 7) (k := 2) (b := a0 + 8) dX7_readTarget_17 (by decide) (by decide) kw_415 rfl (LX7.o (h := h) F0) (LX7.r_toldNames (h := h) F0) ?_
  refine g_iload_n dX7_readTarget_20 rfl ?_
  refine g_laload dX7_readTarget_21 (LX7.a_toldNames (h := h) F0) i1 ?_
  refine g_aload_n dX7_readTarget_22 rfl ?_
  refine g_getAs (c := 7) (k := 0) (b := a0 + 3) dX7_readTarget_23 (by decide) (by decide) kw_413 rfl (LX7.o (h := h) F0) (LX7.r_tokens (h := h) F0) ?_
  refine g_getNJ (c := 9) (k := 10) dX7_readTarget_26 (by decide) (by decide) kn_389 rfl (LX9.o (h := h) (LX7.l_tokens F0)) ?_
  refine g_lcmp dX7_readTarget_29 ?_
  exact g_if_ne (tgt := 42) dX7_readTarget_30 (by decide) (fun q => Gd.wk (kt q) ⟨rfl, ⟨rfl, trivial⟩⟩) (fun q => Gd.wk (kf q) ⟨rfl, ⟨rfl, trivial⟩⟩)
theorem bkX7_readTarget_33 {X : GX} {h : SH} {nc ns : Nat} {P : Out → SH → Prop} {Q : SH → Prop} {a0 : Nat} {x1 : Int32} (F0 : LX7 (Sk h) (a0)) (hN : Cd X mX9_toNext [.ref (a0 + 3)] (h) 0 0 (oV Q nX)) (g : ∀ t, Q t → Gd X mX7_readTarget 40 [none, some (.int x1)] [] (t) nc ns P) : Gd X mX7_readTarget 33 [some (.ref a0), some (.int x1)] [] h nc ns P := by
  refine g_aload_n dX7_readTarget_33 rfl ?_
  refine g_getAs (c := 7) (k := 0) (b := a0 + 3) dX7_readTarget_34 (by decide) (by decide) kw_413 rfl (LX7.o (h := h) F0) (LX7.r_tokens (h := h) F0) ?_
  refine Gd.z ?_
  exact g_callV (k := 9) [] dX7_readTarget_37 mfX9_toNext ⟨by decide, by decide⟩ kw_675 kw_591 kw_592 rfl (by decide) (Nat.le_of_ble_eq_true rfl) (by intro x hx; cases hx) (LX9.o (h := h) (LX7.l_tokens F0)) (Nat.le_of_ble_eq_true rfl) hN (fun _ _ q => q.elim) (oV_go (G := fun a b => Gd X mX7_readTarget 40 _ a b nc ns P) (fun t q => Gd.wk (g t q) ⟨rfl, trivial⟩))
theorem bkX7_readTarget_40 {X : GX} {h : SH} {nc ns : Nat} {P : Out → SH → Prop} {x1 : Int32} (hp : P (.inl (some (.int (x1)))) (h)) : Gd X mX7_readTarget 40 [none, some (.int x1)] [] h nc ns P := by
  refine g_iload_n dX7_readTarget_40 rfl ?_
  exact g_ireturn (st := []) dX7_readTarget_41 rfl rfl hp
theorem bkX7_readTarget_42 {X : GX} {h : SH} {nc ns : Nat} {P : Out → SH → Prop} {a0 : Nat} {x1 : Int32} (g : Gd X mX7_readTarget 8 [some (.ref a0), some (.int (x1 + 1))] [] (h) nc ns P) : Gd X mX7_readTarget 42 [some (.ref a0), some (.int x1)] [] h nc ns P := by
  refine g_iinc (v := x1 + 1) (L' := [some (.ref a0), some (.int (x1 + 1))]) dX7_readTarget_42 rfl rfl (by decide) rfl ?_
  refine g_goto (tgt := 8) dX7_readTarget_45 (by decide) ?_
  exact Gd.wk g ⟨rfl, ⟨rfl, trivial⟩⟩
theorem bkX7_readTarget_48 {X : GX} {h : SH} {nc ns : Nat} {P : Out → SH → Prop} {n1 s1 : Nat} {Q : SH → Prop} {Z : String → SH → Prop} {a0 : Nat} (F0 : LX7 (Sk h) (a0)) (hN : Cd X mX7_fail [.ref a0, .int 2] (h) n1 s1 (oV Q Z)) (hx : ∀ E t, Z E t → P (.inr E) t) (g : ∀ t, Q t → Gd X mX7_readTarget 53 [none, none] [] (t) nc ns P) : Gd X mX7_readTarget 48 [some (.ref a0), none] [] h (n1 + nc) (s1 + ns) P := by
  refine g_aload_n dX7_readTarget_48 rfl ?_
  refine g_iconst (v := 2) dX7_readTarget_49 (by decide) ?_
  exact g_callV (k := 7) [.int 2] dX7_readTarget_50 mfX7_fail ⟨by decide, by decide⟩ kw_606 kw_608 kw_10 rfl (by decide) (Nat.le_of_ble_eq_true rfl) (by intro x hx; cases hx) (LX7.o (h := h) F0) (Nat.le_of_ble_eq_true rfl) hN hx (oV_go (G := fun a b => Gd X mX7_readTarget 53 _ a b nc ns P) (fun t q => Gd.wk (g t q) trivial))
theorem bkX7_readTarget_53 {X : GX} {h : SH} {nc ns : Nat} {P : Out → SH → Prop} (hp : P (.inl (some (.int ((-1))))) (h)) : Gd X mX7_readTarget 53 [none, none] [] h nc ns P := by
  refine g_iconst (v := (-1)) dX7_readTarget_53 (by decide) ?_
  exact g_ireturn (st := []) dX7_readTarget_54 rfl rfl hp
theorem bkX7_readItems_0 {X : GX} {h : SH} {nc ns : Nat} {P : Out → SH → Prop} {a0 : Nat} {a1 : Nat} (g : Gd X mX7_readItems 2 [some (.ref a0), some (.ref a1), some (.int 0)] [] (h) nc ns P) : Gd X mX7_readItems 0 [some (.ref a0), some (.ref a1), none] [] h nc ns P := by
  refine g_iconst (v := 0) dX7_readItems_0 (by decide) ?_
  refine g_istore_n (L' := [some (.ref a0), some (.ref a1), some (.int 0)]) dX7_readItems_1 (by decide) rfl ?_
  exact Gd.wk g ⟨rfl, ⟨rfl, ⟨rfl, trivial⟩⟩⟩
theorem bkX7_readItems_2 {X : GX} {h : SH} {nc ns : Nat} {P : Out → SH → Prop} {a0 : Nat} {a1 : Nat} {x2 : Int32} (kt : (20 : Int32) < x2 → Gd X mX7_readItems 41 [none, none, none] [] (h) nc ns P) (kf : ¬ (20 : Int32) < x2 → Gd X mX7_readItems 8 [some (.ref a0), some (.ref a1), some (.int x2)] [] (h) nc ns P) : Gd X mX7_readItems 2 [some (.ref a0), some (.ref a1), some (.int x2)] [] h nc ns P := by
  refine g_iload_n dX7_readItems_2 rfl ?_
  refine g_bipush (v := 20) dX7_readItems_3 (by decide) ?_
  exact g_icmp_gt (tgt := 41) dX7_readItems_5 (by decide) (fun q => Gd.wk (kt q) trivial) (fun q => Gd.wk (kf q) ⟨rfl, ⟨rfl, ⟨rfl, trivial⟩⟩⟩)
theorem bkX7_readItems_8 {X : GX} {h : SH} {nc ns : Nat} {P : Out → SH → Prop} {Q : Int32 → SH → Prop} {a0 : Nat} {a1 : Nat} {x2 : Int32} (F0 : LX7 (Sk h) (a0)) (hN : Cd X mX7_startsItem [.ref a0] (h) 0 0 (oI Q nX)) (g : ∀ r t, Q r t → Gd X mX7_readItems 12 [some (.ref a0), some (.ref a1), some (.int x2)] [.int r] (t) nc ns P) : Gd X mX7_readItems 8 [some (.ref a0), some (.ref a1), some (.int x2)] [] h nc ns P := by
  refine g_aload_n dX7_readItems_8 rfl ?_
  refine Gd.z ?_
  exact g_callV (k := 7) [] dX7_readItems_9 mfX7_startsItem ⟨by decide, by decide⟩ kw_839 kw_841 kw_27 rfl (by decide) (Nat.le_of_ble_eq_true rfl) (by intro x hx; cases hx) (LX7.o (h := h) F0) (Nat.le_of_ble_eq_true rfl) hN (fun _ _ q => q.elim) (oI_go (G := fun a b => Gd X mX7_readItems 12 _ a b nc ns P) (fun r t q => Gd.wk (g r t q) ⟨rfl, ⟨rfl, ⟨rfl, trivial⟩⟩⟩))
theorem bkX7_readItems_12 {X : GX} {h : SH} {nc ns : Nat} {P : Out → SH → Prop} {a0 : Nat} {a1 : Nat} {x2 : Int32} {xs0 : Int32} (kt : xs0 = 0 → Gd X mX7_readItems 41 [none, none, none] [] (h) nc ns P) (kf : ¬ xs0 = 0 → Gd X mX7_readItems 15 [some (.ref a0), some (.ref a1), some (.int x2)] [] (h) nc ns P) : Gd X mX7_readItems 12 [some (.ref a0), some (.ref a1), some (.int x2)] [.int xs0] h nc ns P := by
  exact g_if_eq (tgt := 41) dX7_readItems_12 (by decide) (fun q => Gd.wk (kt q) trivial) (fun q => Gd.wk (kf q) ⟨rfl, ⟨rfl, ⟨rfl, trivial⟩⟩⟩)
theorem bkX7_readItems_15 {X : GX} {h : SH} {nc ns : Nat} {P : Out → SH → Prop} {Q : Int32 → SH → Prop} {a0 : Nat} {a1 : Nat} {x2 : Int32} (F0 : LX2 (Sk h) (a1)) (hN : Cd X mX2_hasAllItems [.ref a1] (h) 0 0 (oI Q nX)) (g : ∀ r t, Q r t → Gd X mX7_readItems 19 [some (.ref a0), some (.ref a1), some (.int x2)] [.int r] (t) nc ns P) : Gd X mX7_readItems 15 [some (.ref a0), some (.ref a1), some (.int x2)] [] h nc ns P := by
  refine g_aload_n dX7_readItems_15 rfl ?_
  refine Gd.z ?_
  exact g_callV (k := 2) [] dX7_readItems_16 mfX2_hasAllItems ⟨by decide, by decide⟩ kw_843 kw_844 kw_845 rfl (by decide) (Nat.le_of_ble_eq_true rfl) (by intro x hx; cases hx) (LX2.o (h := h) F0) (Nat.le_of_ble_eq_true rfl) hN (fun _ _ q => q.elim) (oI_go (G := fun a b => Gd X mX7_readItems 19 _ a b nc ns P) (fun r t q => Gd.wk (g r t q) ⟨rfl, ⟨rfl, ⟨rfl, trivial⟩⟩⟩))
theorem bkX7_readItems_19 {X : GX} {h : SH} {nc ns : Nat} {P : Out → SH → Prop} {a0 : Nat} {a1 : Nat} {x2 : Int32} {xs0 : Int32} (kt : xs0 = 0 → Gd X mX7_readItems 27 [some (.ref a0), some (.ref a1), some (.int x2)] [] (h) nc ns P) (kf : ¬ xs0 = 0 → Gd X mX7_readItems 22 [some (.ref a0), some (.ref a1), some (.int x2)] [] (h) nc ns P) : Gd X mX7_readItems 19 [some (.ref a0), some (.ref a1), some (.int x2)] [.int xs0] h nc ns P := by
  exact g_if_eq (tgt := 27) dX7_readItems_19 (by decide) (fun q => Gd.wk (kt q) ⟨rfl, ⟨rfl, ⟨rfl, trivial⟩⟩⟩) (fun q => Gd.wk (kf q) ⟨rfl, ⟨rfl, ⟨rfl, trivial⟩⟩⟩)
theorem bkX7_readItems_22 {X : GX} {h : SH} {nc ns : Nat} {P : Out → SH → Prop} {n1 s1 : Nat} {Q : SH → Prop} {Z : String → SH → Prop} {a0 : Nat} {a1 : Nat} {x2 : Int32} (F0 : LX7 (Sk h) (a0)) (hN : Cd X mX7_fail [.ref a0, .int 5] (h) n1 s1 (oV Q Z)) (hx : ∀ E t, Z E t → P (.inr E) t) (g : ∀ t, Q t → Gd X mX7_readItems 27 [some (.ref a0), some (.ref a1), some (.int x2)] [] (t) nc ns P) : Gd X mX7_readItems 22 [some (.ref a0), some (.ref a1), some (.int x2)] [] h (n1 + nc) (s1 + ns) P := by
  refine g_aload_n dX7_readItems_22 rfl ?_
  refine g_iconst (v := 5) dX7_readItems_23 (by decide) ?_
  exact g_callV (k := 7) [.int 5] dX7_readItems_24 mfX7_fail ⟨by decide, by decide⟩ kw_606 kw_608 kw_10 rfl (by decide) (Nat.le_of_ble_eq_true rfl) (by intro x hx; cases hx) (LX7.o (h := h) F0) (Nat.le_of_ble_eq_true rfl) hN hx (oV_go (G := fun a b => Gd X mX7_readItems 27 _ a b nc ns P) (fun t q => Gd.wk (g t q) ⟨rfl, ⟨rfl, ⟨rfl, trivial⟩⟩⟩))
theorem bkX7_readItems_27 {X : GX} {h : SH} {nc ns : Nat} {P : Out → SH → Prop} {n1 s1 : Nat} {Q : Option Nat → SH → Prop} {Z : String → SH → Prop} {a0 : Nat} {a1 : Nat} {x2 : Int32} (F0 : LX7 (Sk h) (a0)) (hN : Cd X mX7_readItem [.ref a0] (h) n1 s1 (oA Q Z)) (hx : ∀ E t, Z E t → P (.inr E) t) (g : ∀ r t, Q r t → Gd X mX7_readItems 32 [some (.ref a0), some (.ref a1), some (.int x2)] [va_rf r, .ref a1] (t) nc ns P) : Gd X mX7_readItems 27 [some (.ref a0), some (.ref a1), some (.int x2)] [] h (n1 + nc) (s1 + ns) P := by
  refine g_aload_n dX7_readItems_27 rfl ?_
  refine g_aload_n dX7_readItems_28 rfl ?_
  exact g_callV (k := 7) [] dX7_readItems_29 mfX7_readItem ⟨by decide, by decide⟩ kw_847 kw_849 kw_28 rfl (by decide) (Nat.le_of_ble_eq_true rfl) (by intro x hx; cases hx) (LX7.o (h := h) F0) (Nat.le_of_ble_eq_true rfl) hN hx (oA_go (G := fun a b => Gd X mX7_readItems 32 _ a b nc ns P) (fun r t q => Gd.wk (g r t q) ⟨rfl, ⟨rfl, ⟨rfl, trivial⟩⟩⟩))
theorem bkX7_readItems_32 {X : GX} {h : SH} {nc ns : Nat} {P : Out → SH → Prop} {Q : SH → Prop} {a0 : Nat} {a1 : Nat} {x2 : Int32} {as0 : Nat} {as1 : Nat} (F0 : LX2 (Sk h) (as0)) (hN : Cd X mX2_addItem [.ref as0, .ref as1] (h) 0 0 (oV Q nX)) (g : ∀ t, Q t → Gd X mX7_readItems 35 [some (.ref a0), some (.ref a1), some (.int x2)] [] (t) nc ns P) : Gd X mX7_readItems 32 [some (.ref a0), some (.ref a1), some (.int x2)] [.ref as1, .ref as0] h nc ns P := by
  refine Gd.z ?_
  exact g_callV (k := 2) [.ref as1] dX7_readItems_32 mfX2_addItem ⟨by decide, by decide⟩ kw_874 kw_875 kw_876 rfl (by decide) (Nat.le_of_ble_eq_true rfl) (by intro x hx; cases hx) (LX2.o (h := h) F0) (Nat.le_of_ble_eq_true rfl) hN (fun _ _ q => q.elim) (oV_go (G := fun a b => Gd X mX7_readItems 35 _ a b nc ns P) (fun t q => Gd.wk (g t q) ⟨rfl, ⟨rfl, ⟨rfl, trivial⟩⟩⟩))
theorem bkX7_readItems_35 {X : GX} {h : SH} {nc ns : Nat} {P : Out → SH → Prop} {a0 : Nat} {a1 : Nat} {x2 : Int32} (g : Gd X mX7_readItems 2 [some (.ref a0), some (.ref a1), some (.int (x2 + 1))] [] (h) nc ns P) : Gd X mX7_readItems 35 [some (.ref a0), some (.ref a1), some (.int x2)] [] h nc ns P := by
  refine g_iinc (v := x2 + 1) (L' := [some (.ref a0), some (.ref a1), some (.int (x2 + 1))]) dX7_readItems_35 rfl rfl (by decide) rfl ?_
  refine g_goto (tgt := 2) dX7_readItems_38 (by decide) ?_
  exact Gd.wk g ⟨rfl, ⟨rfl, ⟨rfl, trivial⟩⟩⟩
theorem bkX7_readItems_41 {X : GX} {h : SH} {nc ns : Nat} {P : Out → SH → Prop} (hp : P (.inl (none)) (h)) : Gd X mX7_readItems 41 [none, none, none] [] h nc ns P := by
  exact g_return (st := []) dX7_readItems_41 rfl hp
theorem bkX7_startsItem_0 {X : GX} {h : SH} {nc ns : Nat} {P : Out → SH → Prop} {a0 : Nat} (F0 : LX7 (Sk h) (a0)) (kt : (hI h (a0 + 3) 8) = 11 → Gd X mX7_startsItem 48 [none] [] (h) nc ns P) (kf : ¬ (hI h (a0 + 3) 8) = 11 → Gd X mX7_startsItem 12 [some (.ref a0)] [] (h) nc ns P) : Gd X mX7_startsItem 0 [some (.ref a0)] [] h nc ns P := by
  refine g_aload_n dX7_startsItem_0 rfl ?_
  refine g_getAs (c := 7) (k := 0) (b := a0 + 3) dX7_startsItem_1 (by decide) (by decide) kw_413 rfl (LX7.o (h := h) F0) (LX7.r_tokens (h := h) F0) ?_
  refine g_getNI (c := 9) (k := 8) dX7_startsItem_4 (by decide) (by decide) kn_385 rfl (LX9.o (h := h) (LX7.l_tokens F0)) ?_
  refine g_bipush (v := 11) dX7_startsItem_7 (by decide) ?_
  exact g_icmp_eq (tgt := 48) dX7_startsItem_9 (by decide) (fun q => Gd.wk (kt q) trivial) (fun q => Gd.wk (kf q) ⟨rfl, trivial⟩)
theorem bkX7_startsItem_12 {X : GX} {h : SH} {nc ns : Nat} {P : Out → SH → Prop} {a0 : Nat} (F0 : LX7 (Sk h) (a0)) (kt : (hI h (a0 + 3) 8) = 61 → Gd X mX7_startsItem 48 [none] [] (h) nc ns P) (kf : ¬ (hI h (a0 + 3) 8) = 61 → Gd X mX7_startsItem 24 [some (.ref a0)] [] (h) nc ns P) : Gd X mX7_startsItem 12 [some (.ref a0)] [] h nc ns P := by
  refine g_aload_n dX7_startsItem_12 rfl ?_
  refine g_getAs (c := 7) (k := 0) (b := a0 + 3) dX7_startsItem_13 (by decide) (by decide) kw_413 rfl (LX7.o (h := h) F0) (LX7.r_tokens (h := h) F0) ?_
  refine g_getNI (c := 9) (k := 8) dX7_startsItem_16 (by decide) (by decide) kn_385 rfl (LX9.o (h := h) (LX7.l_tokens F0)) ?_
  refine g_bipush (v := 61) dX7_startsItem_19 (by decide) ?_
  exact g_icmp_eq (tgt := 48) dX7_startsItem_21 (by decide) (fun q => Gd.wk (kt q) trivial) (fun q => Gd.wk (kf q) ⟨rfl, trivial⟩)
theorem bkX7_startsItem_24 {X : GX} {h : SH} {nc ns : Nat} {P : Out → SH → Prop} {a0 : Nat} (F0 : LX7 (Sk h) (a0)) (kt : (hI h (a0 + 3) 8) = 9 → Gd X mX7_startsItem 48 [none] [] (h) nc ns P) (kf : ¬ (hI h (a0 + 3) 8) = 9 → Gd X mX7_startsItem 36 [some (.ref a0)] [] (h) nc ns P) : Gd X mX7_startsItem 24 [some (.ref a0)] [] h nc ns P := by
  refine g_aload_n dX7_startsItem_24 rfl ?_
  refine g_getAs (c := 7) (k := 0) (b := a0 + 3) dX7_startsItem_25 (by decide) (by decide) kw_413 rfl (LX7.o (h := h) F0) (LX7.r_tokens (h := h) F0) ?_
  refine g_getNI (c := 9) (k := 8) dX7_startsItem_28 (by decide) (by decide) kn_385 rfl (LX9.o (h := h) (LX7.l_tokens F0)) ?_
  refine g_bipush (v := 9) dX7_startsItem_31 (by decide) ?_
  exact g_icmp_eq (tgt := 48) dX7_startsItem_33 (by decide) (fun q => Gd.wk (kt q) trivial) (fun q => Gd.wk (kf q) ⟨rfl, trivial⟩)
theorem bkX7_startsItem_36 {X : GX} {h : SH} {nc ns : Nat} {P : Out → SH → Prop} {a0 : Nat} (F0 : LX7 (Sk h) (a0)) (kt : ¬ (hI h (a0 + 3) 8) = 10 → Gd X mX7_startsItem 52 [none] [] (h) nc ns P) (kf : (hI h (a0 + 3) 8) = 10 → Gd X mX7_startsItem 48 [none] [] (h) nc ns P) : Gd X mX7_startsItem 36 [some (.ref a0)] [] h nc ns P := by
  refine g_aload_n dX7_startsItem_36 rfl ?_
  refine g_getAs (c := 7) (k := 0) (b := a0 + 3) dX7_startsItem_37 (by decide) (by decide) kw_413 rfl (LX7.o (h := h) F0) (LX7.r_tokens (h := h) F0) ?_
  refine g_getNI (c := 9) (k := 8) dX7_startsItem_40 (by decide) (by decide) kn_385 rfl (LX9.o (h := h) (LX7.l_tokens F0)) ?_
  refine g_bipush (v := 10) dX7_startsItem_43 (by decide) ?_
  exact g_icmp_ne (tgt := 52) dX7_startsItem_45 (by decide) (fun q => Gd.wk (kt q) trivial) (fun q => Gd.wk (kf q) trivial)
theorem bkX7_startsItem_48 {X : GX} {h : SH} {nc ns : Nat} {P : Out → SH → Prop} (g : Gd X mX7_startsItem 53 [none] [.int 1] (h) nc ns P) : Gd X mX7_startsItem 48 [none] [] h nc ns P := by
  refine g_iconst (v := 1) dX7_startsItem_48 (by decide) ?_
  refine g_goto (tgt := 53) dX7_startsItem_49 (by decide) ?_
  exact Gd.wk g trivial
theorem bkX7_startsItem_52 {X : GX} {h : SH} {nc ns : Nat} {P : Out → SH → Prop} (g : Gd X mX7_startsItem 53 [none] [.int 0] (h) nc ns P) : Gd X mX7_startsItem 52 [none] [] h nc ns P := by
  refine g_iconst (v := 0) dX7_startsItem_52 (by decide) ?_
  exact Gd.wk g trivial
theorem bkX7_startsItem_53 {X : GX} {h : SH} {nc ns : Nat} {P : Out → SH → Prop} {xs0 : Int32} (w0 : xs0 = 0 ∨ xs0 = 1) (hp : P (.inl (some (.int (xs0)))) (h)) : Gd X mX7_startsItem 53 [none] [.int xs0] h nc ns P := by
  exact g_ireturn (st := []) dX7_startsItem_53 rfl (bl_n w0) hp
theorem bkX7_readItem_0 {X : GX} {h : SH} {nc ns : Nat} {P : Out → SH → Prop} {Q : SH → Prop} {a0 : Nat} (F0 : LX7 (Sk h) (a0)) (hN : Cd X mX9_toNext [.ref (a0 + 3)] (h) 0 0 (oV Q nX)) (g : ∀ t, Q t → Gd X mX7_readItem 23 [some (.ref a0), some (.int (hI h (a0 + 3) 8)), some (.long (hJ h (a0 + 3) 10)), none] [] (t) nc ns P) : Gd X mX7_readItem 0 [some (.ref a0), none, none, none] [] h nc ns P := by
  refine g_aload_n dX7_readItem_0 rfl ?_
  refine g_getAs (c := 7) (k := 0) (b := a0 + 3) dX7_readItem_1 (by decide) (by decide) kw_413 rfl (LX7.o (h := h) F0) (LX7.r_tokens (h := h) F0) ?_
  refine g_getNI (c := 9) (k := 8) dX7_readItem_4 (by decide) (by decide) kn_385 rfl (LX9.o (h := h) (LX7.l_tokens F0)) ?_
  refine g_istore_n (L' := [some (.ref a0), some (.int (hI h (a0 + 3) 8)), none, none]) dX7_readItem_7 (by decide) rfl ?_
  refine g_aload_n dX7_readItem_8 rfl ?_
  refine g_getAs (c := 7) (k := 0) (b := a0 + 3) dX7_readItem_9 (by decide) (by decide) kw_413 rfl (LX7.o (h := h) F0) (LX7.r_tokens (h := h) F0) ?_
  refine g_getNJ (c := 9) (k := 10) dX7_readItem_12 (by decide) (by decide) kn_389 rfl (LX9.o (h := h) (LX7.l_tokens F0)) ?_
  refine g_lstore_n (L' := [some (.ref a0), some (.int (hI h (a0 + 3) 8)), some (.long (hJ h (a0 + 3) 10)), none]) dX7_readItem_15 (by decide) rfl ?_
  refine g_aload_n dX7_readItem_16 rfl ?_
  refine g_getAs (c := 7) (k := 0) (b := a0 + 3) dX7_readItem_17 (by decide) (by decide) kw_413 rfl (LX7.o (h := h) F0) (LX7.r_tokens (h := h) F0) ?_
  refine Gd.z ?_
  exact g_callV (k := 9) [] dX7_readItem_20 mfX9_toNext ⟨by decide, by decide⟩ kw_675 kw_591 kw_592 rfl (by decide) (Nat.le_of_ble_eq_true rfl) (by intro x hx; cases hx) (LX9.o (h := h) (LX7.l_tokens F0)) (Nat.le_of_ble_eq_true rfl) hN (fun _ _ q => q.elim) (oV_go (G := fun a b => Gd X mX7_readItem 23 _ a b nc ns P) (fun t q => Gd.wk (g t q) ⟨rfl, ⟨rfl, ⟨rfl, trivial⟩⟩⟩))
theorem bkX7_readItem_23 {X : GX} {h : SH} {nc ns : Nat} {P : Out → SH → Prop} {a0 : Nat} {x1 : Int32} {y2 : Int64} (kt : ¬ x1 = 11 → Gd X mX7_readItem 41 [some (.ref a0), some (.int x1), some (.long y2), none] [] (h) nc ns P) (kf : x1 = 11 → Gd X mX7_readItem 29 [none, some (.int x1), some (.long y2), none] [] (h) nc ns P) : Gd X mX7_readItem 23 [some (.ref a0), some (.int x1), some (.long y2), none] [] h nc ns P := by
  refine g_iload_n dX7_readItem_23 rfl ?_
  refine g_bipush (v := 11) dX7_readItem_24 (by decide) ?_
  exact g_icmp_ne (tgt := 41) dX7_readItem_26 (by decide) (fun q => Gd.wk (kt q) ⟨rfl, ⟨rfl, ⟨rfl, trivial⟩⟩⟩) (fun q => Gd.wk (kf q) ⟨rfl, ⟨rfl, trivial⟩⟩)
theorem bkX7_readItem_29 {X : GX} {h : SH} {nc ns : Nat} {P : Out → SH → Prop} {x1 : Int32} {y2 : Int64} (g : Gd X mX7_readItem 32 [none, some (.int x1), some (.long y2), none] [.ref (hz h)] (nw h 5 0) nc ns P) : Gd X mX7_readItem 29 [none, some (.int x1), some (.long y2), none] [] h (nc + 1) (ns + 4) P := by
  refine g_new (c := 5) dX7_readItem_29 (by decide) kw_851 kw_852 kw_116 ?_
  exact Gd.wk g ⟨rfl, ⟨rfl, trivial⟩⟩
theorem bkX7_readItem_40 {X : GX} {h : SH} {nc ns : Nat} {P : Out → SH → Prop} {as0 : Nat} (hp : P (.inl (some (.ref as0))) (h)) : Gd X mX7_readItem 40 [none, none, none, none] [.ref as0] h nc ns P := by
  exact g_areturn (st := []) (r := (some (as0))) dX7_readItem_40 rfl (Or.inl ⟨_, rfl⟩) hp
theorem bkX7_readItem_41 {X : GX} {h : SH} {nc ns : Nat} {P : Out → SH → Prop} {a0 : Nat} {x1 : Int32} {y2 : Int64} (kt : ¬ x1 = 9 → Gd X mX7_readItem 62 [some (.ref a0), some (.int x1), some (.long y2), none] [] (h) nc ns P) (kf : x1 = 9 → Gd X mX7_readItem 47 [some (.ref a0), some (.int x1), some (.long y2), none] [] (h) nc ns P) : Gd X mX7_readItem 41 [some (.ref a0), some (.int x1), some (.long y2), none] [] h nc ns P := by
  refine g_iload_n dX7_readItem_41 rfl ?_
  refine g_bipush (v := 9) dX7_readItem_42 (by decide) ?_
  exact g_icmp_ne (tgt := 62) dX7_readItem_44 (by decide) (fun q => Gd.wk (kt q) ⟨rfl, ⟨rfl, ⟨rfl, trivial⟩⟩⟩) (fun q => Gd.wk (kf q) ⟨rfl, ⟨rfl, ⟨rfl, trivial⟩⟩⟩)
theorem bkX7_readItem_47 {X : GX} {h : SH} {nc ns : Nat} {P : Out → SH → Prop} {a0 : Nat} {x1 : Int32} {y2 : Int64} (g : Gd X mX7_readItem 50 [some (.ref a0), some (.int x1), some (.long y2), none] [.ref (hz h)] (nw h 5 0) nc ns P) : Gd X mX7_readItem 47 [some (.ref a0), some (.int x1), some (.long y2), none] [] h (nc + 1) (ns + 4) P := by
  refine g_new (c := 5) dX7_readItem_47 (by decide) kw_851 kw_852 kw_116 ?_
  exact Gd.wk g ⟨rfl, ⟨rfl, ⟨rfl, trivial⟩⟩⟩
theorem bkX7_readItem_57 {X : GX} {h : SH} {nc ns : Nat} {P : Out → SH → Prop} {Q : SH → Prop} {as0 : Nat} {as1 : Nat} {xs2 : Int32} {ys3 : Int64} {xs4 : Int32} (hN : Cd X mX5_init [.ref as1, .int xs2, .long ys3, .int xs4, .null] (h) 0 0 (oV Q nX)) (g : ∀ t, Q t → Gd X mX7_readItem 61 [none, none, none, none] [.ref as0] (t) nc ns P) : Gd X mX7_readItem 57 [none, none, none, none] [.int xs4, .long ys3, .int xs2, .ref as1, .ref as0] h nc ns P := by
  refine g_null dX7_readItem_57 ?_
  refine Gd.z ?_
  exact g_callI [.int xs2, .long ys3, .int xs4, .null] dX7_readItem_58 mfX5_init rfl rfl ⟨by decide, by decide⟩ kw_853 kw_854 rfl (Nat.le_of_ble_eq_true rfl) (by intro x hx; cases hx) (Nat.le_of_ble_eq_true rfl) hN (fun _ _ q => q) (oV_go (G := fun a b => Gd X mX7_readItem 61 _ a b nc ns P) (fun t q => Gd.wk (g t q) trivial))
theorem bkX7_readItem_61 {X : GX} {h : SH} {nc ns : Nat} {P : Out → SH → Prop} {as0 : Nat} (hp : P (.inl (some (.ref as0))) (h)) : Gd X mX7_readItem 61 [none, none, none, none] [.ref as0] h nc ns P := by
  exact g_areturn (st := []) (r := (some (as0))) dX7_readItem_61 rfl (Or.inl ⟨_, rfl⟩) hp
theorem bkX7_readItem_62 {X : GX} {h : SH} {nc ns : Nat} {P : Out → SH → Prop} {a0 : Nat} {x1 : Int32} {y2 : Int64} (g : Gd X mX7_readItem 65 [some (.ref a0), some (.int x1), some (.long y2), none] [.ref (hz h)] (nw h 5 0) nc ns P) : Gd X mX7_readItem 62 [some (.ref a0), some (.int x1), some (.long y2), none] [] h (nc + 1) (ns + 4) P := by
  refine g_new (c := 5) dX7_readItem_62 (by decide) kw_851 kw_852 kw_116 ?_
  exact Gd.wk g ⟨rfl, ⟨rfl, ⟨rfl, trivial⟩⟩⟩
theorem bkX7_readItem_73 {X : GX} {h : SH} {nc ns : Nat} {P : Out → SH → Prop} {Q : SH → Prop} {as0 : Nat} {as1 : Nat} {xs2 : Int32} {ys3 : Int64} {xs4 : Int32} {as5 : Nat} (hN : Cd X mX5_init [.ref as1, .int xs2, .long ys3, .int xs4, .ref as5] (h) 0 0 (oV Q nX)) (g : ∀ t, Q t → Gd X mX7_readItem 76 [none, none, none, none] [.ref as0] (t) nc ns P) : Gd X mX7_readItem 73 [none, none, none, none] [.ref as5, .int xs4, .long ys3, .int xs2, .ref as1, .ref as0] h nc ns P := by
  refine Gd.z ?_
  exact g_callI [.int xs2, .long ys3, .int xs4, .ref as5] dX7_readItem_73 mfX5_init rfl rfl ⟨by decide, by decide⟩ kw_853 kw_854 rfl (Nat.le_of_ble_eq_true rfl) (by intro x hx; cases hx) (Nat.le_of_ble_eq_true rfl) hN (fun _ _ q => q) (oV_go (G := fun a b => Gd X mX7_readItem 76 _ a b nc ns P) (fun t q => Gd.wk (g t q) trivial))
theorem bkX7_readItem_76 {X : GX} {h : SH} {nc ns : Nat} {P : Out → SH → Prop} {as0 : Nat} (hp : P (.inl (some (.ref as0))) (h)) : Gd X mX7_readItem 76 [none, none, none, none] [.ref as0] h nc ns P := by
  exact g_areturn (st := []) (r := (some (as0))) dX7_readItem_76 rfl (Or.inl ⟨_, rfl⟩) hp
theorem bkX7_readItem_32 {X : GX} {h : SH} {nc ns : Nat} {P : Out → SH → Prop} {Q : SH → Prop} {x1 : Int32} {y2 : Int64} {as0 : Nat} (hN : Cd X mX5_init [.ref as0, .int x1, .long y2, .int ((-1)), .null] (h) 0 0 (oV Q nX)) (g : ∀ t, Q t → Gd X mX7_readItem 40 [none, none, none, none] [.ref as0] (t) nc ns P) : Gd X mX7_readItem 32 [none, some (.int x1), some (.long y2), none] [.ref as0] h nc ns P := by
  refine g_dup dX7_readItem_32 rfl ?_
  refine g_iload_n dX7_readItem_33 rfl ?_
  refine g_lload_n dX7_readItem_34 rfl ?_
  refine g_iconst (v := (-1)) dX7_readItem_35 (by decide) ?_
  refine g_null dX7_readItem_36 ?_
  refine Gd.z ?_
  exact g_callI [.int x1, .long y2, .int ((-1)), .null] dX7_readItem_37 mfX5_init rfl rfl ⟨by decide, by decide⟩ kw_853 kw_854 rfl (Nat.le_of_ble_eq_true rfl) (by intro x hx; cases hx) (Nat.le_of_ble_eq_true rfl) hN (fun _ _ q => q) (oV_go (G := fun a b => Gd X mX7_readItem 40 _ a b nc ns P) (fun t q => Gd.wk (g t q) trivial))
theorem bkX7_readItem_50 {X : GX} {h : SH} {nc ns : Nat} {P : Out → SH → Prop} {n1 s1 : Nat} {Q : Int32 → SH → Prop} {Z : String → SH → Prop} {a0 : Nat} {x1 : Int32} {y2 : Int64} {as0 : Nat} (F0 : LX7 (Sk h) (a0)) (hN : Cd X mX7_readTarget [.ref a0] (h) n1 s1 (oI Q Z)) (hx : ∀ E t, Z E t → P (.inr E) t) (g : ∀ r t, Q r t → Gd X mX7_readItem 57 [none, none, none, none] [.int r, .long y2, .int x1, .ref as0, .ref as0] (t) nc ns P) : Gd X mX7_readItem 50 [some (.ref a0), some (.int x1), some (.long y2), none] [.ref as0] h (n1 + nc) (s1 + ns) P := by
  refine g_dup dX7_readItem_50 rfl ?_
  refine g_iload_n dX7_readItem_51 rfl ?_
  refine g_lload_n dX7_readItem_52 rfl ?_
  refine g_aload_n dX7_readItem_53 rfl ?_
  exact g_callV (k := 7) [] dX7_readItem_54 mfX7_readTarget ⟨by decide, by decide⟩ kw_823 kw_825 kw_25 rfl (by decide) (Nat.le_of_ble_eq_true rfl) (by intro x hx; cases hx) (LX7.o (h := h) F0) (Nat.le_of_ble_eq_true rfl) hN hx (oI_go (G := fun a b => Gd X mX7_readItem 57 _ a b nc ns P) (fun r t q => Gd.wk (g r t q) trivial))
theorem bkX7_readItem_65 {X : GX} {h : SH} {nc ns : Nat} {P : Out → SH → Prop} {n1 s1 : Nat} {Q : Option Nat → SH → Prop} {Z : String → SH → Prop} {a0 : Nat} {x1 : Int32} {y2 : Int64} {as0 : Nat} (F0 : LX7 (Sk h) (a0)) (hN : Cd X mX7_readFormula [.ref a0] (h) n1 s1 (oA Q Z)) (hx : ∀ E t, Z E t → P (.inr E) t) (g : ∀ r t, Q r t → Gd X mX7_readItem 73 [none, none, none, none] [va_rf r, .int ((-1)), .long y2, .int x1, .ref as0, .ref as0] (t) nc ns P) : Gd X mX7_readItem 65 [some (.ref a0), some (.int x1), some (.long y2), none] [.ref as0] h (n1 + nc) (s1 + ns) P := by
  refine g_dup dX7_readItem_65 rfl ?_
  refine g_iload_n dX7_readItem_66 rfl ?_
  refine g_lload_n dX7_readItem_67 rfl ?_
  refine g_iconst (v := (-1)) dX7_readItem_68 (by decide) ?_
  refine g_aload_n dX7_readItem_69 rfl ?_
  exact g_callV (k := 7) [] dX7_readItem_70 mfX7_readFormula ⟨by decide, by decide⟩ kw_712 kw_714 kw_16 rfl (by decide) (Nat.le_of_ble_eq_true rfl) (by intro x hx; cases hx) (LX7.o (h := h) F0) (Nat.le_of_ble_eq_true rfl) hN hx (oA_go (G := fun a b => Gd X mX7_readItem 73 _ a b nc ns P) (fun r t q => Gd.wk (g r t q) trivial))
theorem bkX7_readFormula_0 {X : GX} {h : SH} {nc ns : Nat} {P : Out → SH → Prop} {Q : SH → Prop} {a0 : Nat} (F0 : LX7 (Sk h) (a0)) (hN : Cd X mX7_openLevel [.ref a0, .int 0] (sI h a0 5 0) 0 0 (oV Q nX)) (g : ∀ t, Q t → Gd X mX7_readFormula 10 [some (.ref a0), none, none, none] [] (t) nc ns P) : Gd X mX7_readFormula 0 [some (.ref a0), none, none, none] [] h nc ns P := by
  refine g_aload_n dX7_readFormula_0 rfl ?_
  refine g_iconst (v := 0) dX7_readFormula_1 (by decide) ?_
  refine g_put (c := 7) (k := 5) (h1 := sI h a0 5 0) dX7_readFormula_2 (by decide) (by decide) kw_418 rfl (LX7.o (h := h) F0) rfl rfl (Put.I rfl) ?_
  refine g_aload_n dX7_readFormula_5 rfl ?_
  refine g_iconst (v := 0) dX7_readFormula_6 (by decide) ?_
  refine Gd.z ?_
  exact g_callV (k := 7) [.int 0] dX7_readFormula_7 mfX7_openLevel ⟨by decide, by decide⟩ kw_716 kw_718 kw_17 rfl (by decide) (Nat.le_of_ble_eq_true rfl) (by intro x hx; cases hx) (LX7.o (h := sI h a0 5 0) F0) (Nat.le_of_ble_eq_true rfl) hN (fun _ _ q => q.elim) (oV_go (G := fun a b => Gd X mX7_readFormula 10 _ a b nc ns P) (fun t q => Gd.wk (g t q) ⟨rfl, trivial⟩))
theorem bkX7_readFormula_10 {X : GX} {h : SH} {nc ns : Nat} {P : Out → SH → Prop} {a0 : Nat} (g : Gd X mX7_readFormula 16 [some (.ref a0), some (.int 0), some (.int 1), some (.int 0)] [] (h) nc ns P) : Gd X mX7_readFormula 10 [some (.ref a0), none, none, none] [] h nc ns P := by
  refine g_iconst (v := 0) dX7_readFormula_10 (by decide) ?_
  refine g_istore_n (L' := [some (.ref a0), some (.int 0), none, none]) dX7_readFormula_11 (by decide) rfl ?_
  refine g_iconst (v := 1) dX7_readFormula_12 (by decide) ?_
  refine g_istore_n (L' := [some (.ref a0), some (.int 0), some (.int 1), none]) dX7_readFormula_13 (by decide) rfl ?_
  refine g_iconst (v := 0) dX7_readFormula_14 (by decide) ?_
  refine g_istore_n (L' := [some (.ref a0), some (.int 0), some (.int 1), some (.int 0)]) dX7_readFormula_15 (by decide) rfl ?_
  exact Gd.wk g ⟨rfl, ⟨rfl, ⟨rfl, ⟨rfl, trivial⟩⟩⟩⟩
theorem bkX7_readFormula_16 {X : GX} {h : SH} {nc ns : Nat} {P : Out → SH → Prop} {a0 : Nat} {x1 : Int32} {x2 : Int32} {x3 : Int32} (F0 : LX7 (Sk h) (a0)) (kt : (hI h (a0 + 3) 6) ≤ x3 → Gd X mX7_readFormula 60 [some (.ref a0), some (.int x1), none, none] [] (h) nc ns P) (kf : ¬ (hI h (a0 + 3) 6) ≤ x3 → Gd X mX7_readFormula 27 [some (.ref a0), some (.int x1), some (.int x2), some (.int x3)] [] (h) nc ns P) : Gd X mX7_readFormula 16 [some (.ref a0), some (.int x1), some (.int x2), some (.int x3)] [] h nc ns P := by
  refine g_iload_n dX7_readFormula_16 rfl ?_
  refine g_aload_n dX7_readFormula_17 rfl ?_
  refine g_getAs (c := 7) (k := 0) (b := a0 + 3) dX7_readFormula_18 (by decide) (by decide) kw_413 rfl (LX7.o (h := h) F0) (LX7.r_tokens (h := h) F0) ?_
  refine g_getNI (c := 9) (k := 6) dX7_readFormula_21 (by decide) (by decide) kn_382 rfl (LX9.o (h := h) (LX7.l_tokens F0)) ?_
  exact g_icmp_ge (tgt := 60) dX7_readFormula_24 (by decide) (fun q => Gd.wk (kt q) ⟨rfl, ⟨rfl, trivial⟩⟩) (fun q => Gd.wk (kf q) ⟨rfl, ⟨rfl, ⟨rfl, ⟨rfl, trivial⟩⟩⟩⟩)
theorem bkX7_readFormula_27 {X : GX} {h : SH} {nc ns : Nat} {P : Out → SH → Prop} {a0 : Nat} {x1 : Int32} {x2 : Int32} {x3 : Int32} (kt : x2 = 0 → Gd X mX7_readFormula 60 [some (.ref a0), some (.int x1), none, none] [] (h) nc ns P) (kf : ¬ x2 = 0 → Gd X mX7_readFormula 31 [some (.ref a0), some (.int x1), none, some (.int x3)] [] (h) nc ns P) : Gd X mX7_readFormula 27 [some (.ref a0), some (.int x1), some (.int x2), some (.int x3)] [] h nc ns P := by
  refine g_iload_n dX7_readFormula_27 rfl ?_
  exact g_if_eq (tgt := 60) dX7_readFormula_28 (by decide) (fun q => Gd.wk (kt q) ⟨rfl, ⟨rfl, trivial⟩⟩) (fun q => Gd.wk (kf q) ⟨rfl, ⟨rfl, ⟨rfl, trivial⟩⟩⟩)
theorem bkX7_readFormula_31 {X : GX} {h : SH} {nc ns : Nat} {P : Out → SH → Prop} {n1 s1 : Nat} {Q : Int32 → SH → Prop} {Z : String → SH → Prop} {a0 : Nat} {x1 : Int32} {x3 : Int32} (F0 : LX7 (Sk h) (a0)) (hN : Cd X mX7_readOpenings [.ref a0, .int x1] (h) n1 s1 (oI Q Z)) (hx : ∀ E t, Z E t → P (.inr E) t) (g : ∀ r t, Q r t → Gd X mX7_readFormula 36 [some (.ref a0), none, none, some (.int x3)] [.int r] (t) nc ns P) : Gd X mX7_readFormula 31 [some (.ref a0), some (.int x1), none, some (.int x3)] [] h (n1 + nc) (s1 + ns) P := by
  refine g_aload_n dX7_readFormula_31 rfl ?_
  refine g_iload_n dX7_readFormula_32 rfl ?_
  exact g_callV (k := 7) [.int x1] dX7_readFormula_33 mfX7_readOpenings ⟨by decide, by decide⟩ kw_720 kw_722 kw_18 rfl (by decide) (Nat.le_of_ble_eq_true rfl) (by intro x hx; cases hx) (LX7.o (h := h) F0) (Nat.le_of_ble_eq_true rfl) hN hx (oI_go (G := fun a b => Gd X mX7_readFormula 36 _ a b nc ns P) (fun r t q => Gd.wk (g r t q) ⟨rfl, ⟨rfl, trivial⟩⟩))
theorem bkX7_readFormula_36 {X : GX} {h : SH} {nc ns : Nat} {P : Out → SH → Prop} {n1 s1 : Nat} {Q : SH → Prop} {Z : String → SH → Prop} {a0 : Nat} {x3 : Int32} {xs0 : Int32} (F0 : LX7 (Sk h) (a0)) (hN : Cd X mX7_readValue [.ref a0, .int xs0] (h) n1 s1 (oV Q Z)) (hx : ∀ E t, Z E t → P (.inr E) t) (g : ∀ t, Q t → Gd X mX7_readFormula 42 [some (.ref a0), some (.int xs0), none, some (.int x3)] [] (t) nc ns P) : Gd X mX7_readFormula 36 [some (.ref a0), none, none, some (.int x3)] [.int xs0] h (n1 + nc) (s1 + ns) P := by
  refine g_istore_n (L' := [some (.ref a0), some (.int xs0), none, some (.int x3)]) dX7_readFormula_36 (by decide) rfl ?_
  refine g_aload_n dX7_readFormula_37 rfl ?_
  refine g_iload_n dX7_readFormula_38 rfl ?_
  exact g_callV (k := 7) [.int xs0] dX7_readFormula_39 mfX7_readValue ⟨by decide, by decide⟩ kw_724 kw_726 kw_19 rfl (by decide) (Nat.le_of_ble_eq_true rfl) (by intro x hx; cases hx) (LX7.o (h := h) F0) (Nat.le_of_ble_eq_true rfl) hN hx (oV_go (G := fun a b => Gd X mX7_readFormula 42 _ a b nc ns P) (fun t q => Gd.wk (g t q) ⟨rfl, ⟨rfl, ⟨rfl, trivial⟩⟩⟩))
theorem bkX7_readFormula_42 {X : GX} {h : SH} {nc ns : Nat} {P : Out → SH → Prop} {Q : Int32 → SH → Prop} {a0 : Nat} {x1 : Int32} {x3 : Int32} (F0 : LX7 (Sk h) (a0)) (hN : Cd X mX7_readClosings [.ref a0, .int x1] (h) 0 0 (oI Q nX)) (g : ∀ r t, Q r t → Gd X mX7_readFormula 47 [some (.ref a0), none, none, some (.int x3)] [.int r] (t) nc ns P) : Gd X mX7_readFormula 42 [some (.ref a0), some (.int x1), none, some (.int x3)] [] h nc ns P := by
  refine g_aload_n dX7_readFormula_42 rfl ?_
  refine g_iload_n dX7_readFormula_43 rfl ?_
  refine Gd.z ?_
  exact g_callV (k := 7) [.int x1] dX7_readFormula_44 mfX7_readClosings ⟨by decide, by decide⟩ kw_732 kw_734 kw_21 rfl (by decide) (Nat.le_of_ble_eq_true rfl) (by intro x hx; cases hx) (LX7.o (h := h) F0) (Nat.le_of_ble_eq_true rfl) hN (fun _ _ q => q.elim) (oI_go (G := fun a b => Gd X mX7_readFormula 47 _ a b nc ns P) (fun r t q => Gd.wk (g r t q) ⟨rfl, ⟨rfl, trivial⟩⟩))
theorem bkX7_readFormula_47 {X : GX} {h : SH} {nc ns : Nat} {P : Out → SH → Prop} {Q : Int32 → SH → Prop} {a0 : Nat} {x3 : Int32} {xs0 : Int32} (F0 : LX7 (Sk h) (a0)) (hN : Cd X mX7_readOperator [.ref a0, .int xs0] (h) 0 0 (oI Q nX)) (g : ∀ r t, Q r t → Gd X mX7_readFormula 53 [some (.ref a0), some (.int xs0), none, some (.int x3)] [.int r] (t) nc ns P) : Gd X mX7_readFormula 47 [some (.ref a0), none, none, some (.int x3)] [.int xs0] h nc ns P := by
  refine g_istore_n (L' := [some (.ref a0), some (.int xs0), none, some (.int x3)]) dX7_readFormula_47 (by decide) rfl ?_
  refine g_aload_n dX7_readFormula_48 rfl ?_
  refine g_iload_n dX7_readFormula_49 rfl ?_
  refine Gd.z ?_
  exact g_callV (k := 7) [.int xs0] dX7_readFormula_50 mfX7_readOperator ⟨by decide, by decide⟩ kw_736 kw_738 kw_22 rfl (by decide) (Nat.le_of_ble_eq_true rfl) (by intro x hx; cases hx) (LX7.o (h := h) F0) (Nat.le_of_ble_eq_true rfl) hN (fun _ _ q => q.elim) (oI_go (G := fun a b => Gd X mX7_readFormula 53 _ a b nc ns P) (fun r t q => Gd.wk (g r t q) ⟨rfl, ⟨rfl, ⟨rfl, trivial⟩⟩⟩))
theorem bkX7_readFormula_53 {X : GX} {h : SH} {nc ns : Nat} {P : Out → SH → Prop} {a0 : Nat} {x1 : Int32} {x3 : Int32} {xs0 : Int32} (g : Gd X mX7_readFormula 16 [some (.ref a0), some (.int x1), some (.int xs0), some (.int (x3 + 1))] [] (h) nc ns P) : Gd X mX7_readFormula 53 [some (.ref a0), some (.int x1), none, some (.int x3)] [.int xs0] h nc ns P := by
  refine g_istore_n (L' := [some (.ref a0), some (.int x1), some (.int xs0), some (.int x3)]) dX7_readFormula_53 (by decide) rfl ?_
  refine g_iinc (v := x3 + 1) (L' := [some (.ref a0), some (.int x1), some (.int xs0), some (.int (x3 + 1))]) dX7_readFormula_54 rfl rfl (by decide) rfl ?_
  refine g_goto (tgt := 16) dX7_readFormula_57 (by decide) ?_
  exact Gd.wk g ⟨rfl, ⟨rfl, ⟨rfl, ⟨rfl, trivial⟩⟩⟩⟩
theorem bkX7_readFormula_60 {X : GX} {h : SH} {nc ns : Nat} {P : Out → SH → Prop} {a0 : Nat} {x1 : Int32} (kt : x1 ≤ 0 → Gd X mX7_readFormula 69 [some (.ref a0), none, none, none] [] (h) nc ns P) (kf : ¬ x1 ≤ 0 → Gd X mX7_readFormula 64 [some (.ref a0), none, none, none] [] (h) nc ns P) : Gd X mX7_readFormula 60 [some (.ref a0), some (.int x1), none, none] [] h nc ns P := by
  refine g_iload_n dX7_readFormula_60 rfl ?_
  exact g_if_le (tgt := 69) dX7_readFormula_61 (by decide) (fun q => Gd.wk (kt q) ⟨rfl, trivial⟩) (fun q => Gd.wk (kf q) ⟨rfl, trivial⟩)
theorem bkX7_readFormula_64 {X : GX} {h : SH} {nc ns : Nat} {P : Out → SH → Prop} {n1 s1 : Nat} {Q : SH → Prop} {Z : String → SH → Prop} {a0 : Nat} (F0 : LX7 (Sk h) (a0)) (hN : Cd X mX7_fail [.ref a0, .int 1] (h) n1 s1 (oV Q Z)) (hx : ∀ E t, Z E t → P (.inr E) t) (g : ∀ t, Q t → Gd X mX7_readFormula 69 [some (.ref a0), none, none, none] [] (t) nc ns P) : Gd X mX7_readFormula 64 [some (.ref a0), none, none, none] [] h (n1 + nc) (s1 + ns) P := by
  refine g_aload_n dX7_readFormula_64 rfl ?_
  refine g_iconst (v := 1) dX7_readFormula_65 (by decide) ?_
  exact g_callV (k := 7) [.int 1] dX7_readFormula_66 mfX7_fail ⟨by decide, by decide⟩ kw_606 kw_608 kw_10 rfl (by decide) (Nat.le_of_ble_eq_true rfl) (by intro x hx; cases hx) (LX7.o (h := h) F0) (Nat.le_of_ble_eq_true rfl) hN hx (oV_go (G := fun a b => Gd X mX7_readFormula 69 _ a b nc ns P) (fun t q => Gd.wk (g t q) ⟨rfl, trivial⟩))
theorem bkX7_readFormula_69 {X : GX} {h : SH} {nc ns : Nat} {P : Out → SH → Prop} {Q : SH → Prop} {a0 : Nat} (F0 : LX7 (Sk h) (a0)) (i1 : vp_in (0) 6) (hN : Cd X mX7_addOperation [.ref a0, .int (hI h (a0 + 2) ((0 : Int32).toNatClampNeg))] (h) 0 0 (oV Q nX)) (g : ∀ t, Q t → Gd X mX7_readFormula 79 [some (.ref a0), none, none, none] [] (t) nc ns P) : Gd X mX7_readFormula 69 [some (.ref a0), none, none, none] [] h nc ns P := by
  refine g_aload_n dX7_readFormula_69 rfl ?_
  refine g_aload_n dX7_readFormula_70 rfl ?_
  refine g_getAs (c := 7) (k := 7) (b := a0 + 2) dX7_readFormula_71 (by decide) (by decide) kw_420 rfl (LX7.o (h := h) F0) (LX7.r_waitingComparisons (h := h) F0) ?_
  refine g_iconst (v := 0) dX7_readFormula_74 (by decide) ?_
  refine g_iaload dX7_readFormula_75 (LX7.a_waitingComparisons (h := h) F0) i1 ?_
  refine Gd.z ?_
  exact g_callV (k := 7) [.int (hI h (a0 + 2) ((0 : Int32).toNatClampNeg))] dX7_readFormula_76 mfX7_addOperation ⟨by decide, by decide⟩ kw_728 kw_730 kw_20 rfl (by decide) (Nat.le_of_ble_eq_true rfl) (by intro x hx; cases hx) (LX7.o (h := h) F0) (Nat.le_of_ble_eq_true rfl) hN (fun _ _ q => q.elim) (oV_go (G := fun a b => Gd X mX7_readFormula 79 _ a b nc ns P) (fun t q => Gd.wk (g t q) ⟨rfl, trivial⟩))
theorem bkX7_readFormula_79 {X : GX} {h : SH} {nc ns : Nat} {P : Out → SH → Prop} {a0 : Nat} (g : Gd X mX7_readFormula 82 [some (.ref a0), none, none, none] [.ref (hz h)] (nw h 4 0) nc ns P) : Gd X mX7_readFormula 79 [some (.ref a0), none, none, none] [] h (nc + 1) (ns + 1) P := by
  refine g_new (c := 4) dX7_readFormula_79 (by decide) kw_740 kw_741 kw_113 ?_
  exact Gd.wk g ⟨rfl, trivial⟩
theorem bkX7_readFormula_94 {X : GX} {h : SH} {nc ns : Nat} {P : Out → SH → Prop} {Q : SH → Prop} {as0 : Nat} {as1 : Nat} {as2 : Nat} (hN : Cd X mX4_init [.ref as1, .ref as2] (h) 0 0 (oV Q nX)) (g : ∀ t, Q t → Gd X mX7_readFormula 97 [none, none, none, none] [.ref as0] (t) nc ns P) : Gd X mX7_readFormula 94 [none, none, none, none] [.ref as2, .ref as1, .ref as0] h nc ns P := by
  refine Gd.z ?_
  exact g_callI [.ref as2] dX7_readFormula_94 mfX4_init rfl rfl ⟨by decide, by decide⟩ kw_756 kw_757 rfl (Nat.le_of_ble_eq_true rfl) (by intro x hx; cases hx) (Nat.le_of_ble_eq_true rfl) hN (fun _ _ q => q) (oV_go (G := fun a b => Gd X mX7_readFormula 97 _ a b nc ns P) (fun t q => Gd.wk (g t q) trivial))
theorem bkX7_readFormula_97 {X : GX} {h : SH} {nc ns : Nat} {P : Out → SH → Prop} {as0 : Nat} (hp : P (.inl (some (.ref as0))) (h)) : Gd X mX7_readFormula 97 [none, none, none, none] [.ref as0] h nc ns P := by
  exact g_areturn (st := []) (r := (some (as0))) dX7_readFormula_97 rfl (Or.inl ⟨_, rfl⟩) hp
theorem bkX7_readFormula_82 {X : GX} {h : SH} {nc ns : Nat} {P : Out → SH → Prop} {n1 s1 : Nat} {Q : Option Nat → SH → Prop} {a0 : Nat} {as0 : Nat} (F0 : LX7 (Sk h) (a0)) (hN : Cd X mJ7_copyOf_59c91 [.ref (a0 + 9), .int (hI h a0 5)] (h) n1 s1 (oA Q nX)) (g : ∀ r t, Q r t → Gd X mX7_readFormula 94 [none, none, none, none] [va_rf r, .ref as0, .ref as0] (t) nc ns P) : Gd X mX7_readFormula 82 [some (.ref a0), none, none, none] [.ref as0] h (n1 + nc) (s1 + ns) P := by
  refine g_dup dX7_readFormula_82 rfl ?_
  refine g_aload_n dX7_readFormula_83 rfl ?_
  refine g_getAs (c := 7) (k := 4) (b := a0 + 9) dX7_readFormula_84 (by decide) (by decide) kw_417 rfl (LX7.o (h := h) F0) (LX7.r_operations (h := h) F0) ?_
  refine g_aload_n dX7_readFormula_87 rfl ?_
  refine g_getI (c := 7) (k := 5) dX7_readFormula_88 (by decide) (by decide) kw_418 rfl (LX7.o (h := h) F0) ?_
  exact g_callS [.ref (a0 + 9), .int (hI h a0 5)] dX7_readFormula_91 mfJ7_copyOf_59c91 ⟨by decide, by decide⟩ kw_742 kw_743 rfl (Nat.le_of_ble_eq_true rfl) (by intro x hx; cases hx) (Nat.le_of_ble_eq_true rfl) hN (fun _ _ q => q.elim) (oA_go (G := fun a b => Gd X mX7_readFormula 94 _ a b nc ns P) (fun r t q => Gd.wk (g r t q) trivial))
theorem bkX7_readOpenings_0 {X : GX} {h : SH} {nc ns : Nat} {P : Out → SH → Prop} {a0 : Nat} {x1 : Int32} (g : Gd X mX7_readOpenings 4 [some (.ref a0), none, some (.int x1), some (.int 0)] [] (h) nc ns P) : Gd X mX7_readOpenings 0 [some (.ref a0), some (.int x1), none, none] [] h nc ns P := by
  refine g_iload_n dX7_readOpenings_0 rfl ?_
  refine g_istore_n (L' := [some (.ref a0), some (.int x1), some (.int x1), none]) dX7_readOpenings_1 (by decide) rfl ?_
  refine g_iconst (v := 0) dX7_readOpenings_2 (by decide) ?_
  refine g_istore_n (L' := [some (.ref a0), some (.int x1), some (.int x1), some (.int 0)]) dX7_readOpenings_3 (by decide) rfl ?_
  exact Gd.wk g ⟨rfl, ⟨rfl, ⟨rfl, trivial⟩⟩⟩
theorem bkX7_readOpenings_4 {X : GX} {h : SH} {nc ns : Nat} {P : Out → SH → Prop} {a0 : Nat} {x2 : Int32} {x3 : Int32} (kt : (5 : Int32) < x3 → Gd X mX7_readOpenings 52 [none, none, some (.int x2), none] [] (h) nc ns P) (kf : ¬ (5 : Int32) < x3 → Gd X mX7_readOpenings 9 [some (.ref a0), none, some (.int x2), some (.int x3)] [] (h) nc ns P) : Gd X mX7_readOpenings 4 [some (.ref a0), none, some (.int x2), some (.int x3)] [] h nc ns P := by
  refine g_iload_n dX7_readOpenings_4 rfl ?_
  refine g_iconst (v := 5) dX7_readOpenings_5 (by decide) ?_
  exact g_icmp_gt (tgt := 52) dX7_readOpenings_6 (by decide) (fun q => Gd.wk (kt q) ⟨rfl, trivial⟩) (fun q => Gd.wk (kf q) ⟨rfl, ⟨rfl, ⟨rfl, trivial⟩⟩⟩)
theorem bkX7_readOpenings_9 {X : GX} {h : SH} {nc ns : Nat} {P : Out → SH → Prop} {a0 : Nat} {x2 : Int32} {x3 : Int32} (F0 : LX7 (Sk h) (a0)) (kt : ¬ (hI h (a0 + 3) 8) = 40 → Gd X mX7_readOpenings 52 [none, none, some (.int x2), none] [] (h) nc ns P) (kf : (hI h (a0 + 3) 8) = 40 → Gd X mX7_readOpenings 21 [some (.ref a0), none, some (.int x2), some (.int x3)] [] (h) nc ns P) : Gd X mX7_readOpenings 9 [some (.ref a0), none, some (.int x2), some (.int x3)] [] h nc ns P := by
  refine g_aload_n dX7_readOpenings_9 rfl ?_
  refine g_getAs (c := 7) (k := 0) (b := a0 + 3) dX7_readOpenings_10 (by decide) (by decide) kw_413 rfl (LX7.o (h := h) F0) (LX7.r_tokens (h := h) F0) ?_
  refine g_getNI (c := 9) (k := 8) dX7_readOpenings_13 (by decide) (by decide) kn_385 rfl (LX9.o (h := h) (LX7.l_tokens F0)) ?_
  refine g_bipush (v := 40) dX7_readOpenings_16 (by decide) ?_
  exact g_icmp_ne (tgt := 52) dX7_readOpenings_18 (by decide) (fun q => Gd.wk (kt q) ⟨rfl, trivial⟩) (fun q => Gd.wk (kf q) ⟨rfl, ⟨rfl, ⟨rfl, trivial⟩⟩⟩)
theorem bkX7_readOpenings_21 {X : GX} {h : SH} {nc ns : Nat} {P : Out → SH → Prop} {a0 : Nat} {x2 : Int32} {x3 : Int32} (kt : x2 < 5 → Gd X mX7_readOpenings 31 [some (.ref a0), none, some (.int x2), some (.int x3)] [] (h) nc ns P) (kf : ¬ x2 < 5 → Gd X mX7_readOpenings 26 [some (.ref a0), none, some (.int x2), some (.int x3)] [] (h) nc ns P) : Gd X mX7_readOpenings 21 [some (.ref a0), none, some (.int x2), some (.int x3)] [] h nc ns P := by
  refine g_iload_n dX7_readOpenings_21 rfl ?_
  refine g_iconst (v := 5) dX7_readOpenings_22 (by decide) ?_
  exact g_icmp_lt (tgt := 31) dX7_readOpenings_23 (by decide) (fun q => Gd.wk (kt q) ⟨rfl, ⟨rfl, ⟨rfl, trivial⟩⟩⟩) (fun q => Gd.wk (kf q) ⟨rfl, ⟨rfl, ⟨rfl, trivial⟩⟩⟩)
theorem bkX7_readOpenings_26 {X : GX} {h : SH} {nc ns : Nat} {P : Out → SH → Prop} {n1 s1 : Nat} {Q : SH → Prop} {Z : String → SH → Prop} {a0 : Nat} {x2 : Int32} {x3 : Int32} (F0 : LX7 (Sk h) (a0)) (hN : Cd X mX7_fail [.ref a0, .int 5] (h) n1 s1 (oV Q Z)) (hx : ∀ E t, Z E t → P (.inr E) t) (g : ∀ t, Q t → Gd X mX7_readOpenings 31 [some (.ref a0), none, some (.int x2), some (.int x3)] [] (t) nc ns P) : Gd X mX7_readOpenings 26 [some (.ref a0), none, some (.int x2), some (.int x3)] [] h (n1 + nc) (s1 + ns) P := by
  refine g_aload_n dX7_readOpenings_26 rfl ?_
  refine g_iconst (v := 5) dX7_readOpenings_27 (by decide) ?_
  exact g_callV (k := 7) [.int 5] dX7_readOpenings_28 mfX7_fail ⟨by decide, by decide⟩ kw_606 kw_608 kw_10 rfl (by decide) (Nat.le_of_ble_eq_true rfl) (by intro x hx; cases hx) (LX7.o (h := h) F0) (Nat.le_of_ble_eq_true rfl) hN hx (oV_go (G := fun a b => Gd X mX7_readOpenings 31 _ a b nc ns P) (fun t q => Gd.wk (g t q) ⟨rfl, ⟨rfl, ⟨rfl, trivial⟩⟩⟩))
theorem bkX7_readOpenings_31 {X : GX} {h : SH} {nc ns : Nat} {P : Out → SH → Prop} {Q : SH → Prop} {a0 : Nat} {x2 : Int32} {x3 : Int32} (F0 : LX7 (Sk h) (a0)) (hN : Cd X mX7_openLevel [.ref a0, .int (x2 + 1)] (h) 0 0 (oV Q nX)) (g : ∀ t, Q t → Gd X mX7_readOpenings 39 [some (.ref a0), none, some (.int (x2 + 1)), some (.int x3)] [] (t) nc ns P) : Gd X mX7_readOpenings 31 [some (.ref a0), none, some (.int x2), some (.int x3)] [] h nc ns P := by
  refine g_iinc (v := x2 + 1) (L' := [some (.ref a0), none, some (.int (x2 + 1)), some (.int x3)]) dX7_readOpenings_31 rfl rfl (by decide) rfl ?_
  refine g_aload_n dX7_readOpenings_34 rfl ?_
  refine g_iload_n dX7_readOpenings_35 rfl ?_
  refine Gd.z ?_
  exact g_callV (k := 7) [.int (x2 + 1)] dX7_readOpenings_36 mfX7_openLevel ⟨by decide, by decide⟩ kw_716 kw_718 kw_17 rfl (by decide) (Nat.le_of_ble_eq_true rfl) (by intro x hx; cases hx) (LX7.o (h := h) F0) (Nat.le_of_ble_eq_true rfl) hN (fun _ _ q => q.elim) (oV_go (G := fun a b => Gd X mX7_readOpenings 39 _ a b nc ns P) (fun t q => Gd.wk (g t q) ⟨rfl, ⟨rfl, ⟨rfl, trivial⟩⟩⟩))
theorem bkX7_readOpenings_39 {X : GX} {h : SH} {nc ns : Nat} {P : Out → SH → Prop} {Q : SH → Prop} {a0 : Nat} {x2 : Int32} {x3 : Int32} (F0 : LX7 (Sk h) (a0)) (hN : Cd X mX9_toNext [.ref (a0 + 3)] (h) 0 0 (oV Q nX)) (g : ∀ t, Q t → Gd X mX7_readOpenings 46 [some (.ref a0), none, some (.int x2), some (.int x3)] [] (t) nc ns P) : Gd X mX7_readOpenings 39 [some (.ref a0), none, some (.int x2), some (.int x3)] [] h nc ns P := by
  refine g_aload_n dX7_readOpenings_39 rfl ?_
  refine g_getAs (c := 7) (k := 0) (b := a0 + 3) dX7_readOpenings_40 (by decide) (by decide) kw_413 rfl (LX7.o (h := h) F0) (LX7.r_tokens (h := h) F0) ?_
  refine Gd.z ?_
  exact g_callV (k := 9) [] dX7_readOpenings_43 mfX9_toNext ⟨by decide, by decide⟩ kw_675 kw_591 kw_592 rfl (by decide) (Nat.le_of_ble_eq_true rfl) (by intro x hx; cases hx) (LX9.o (h := h) (LX7.l_tokens F0)) (Nat.le_of_ble_eq_true rfl) hN (fun _ _ q => q.elim) (oV_go (G := fun a b => Gd X mX7_readOpenings 46 _ a b nc ns P) (fun t q => Gd.wk (g t q) ⟨rfl, ⟨rfl, ⟨rfl, trivial⟩⟩⟩))
theorem bkX7_readOpenings_46 {X : GX} {h : SH} {nc ns : Nat} {P : Out → SH → Prop} {a0 : Nat} {x2 : Int32} {x3 : Int32} (g : Gd X mX7_readOpenings 4 [some (.ref a0), none, some (.int x2), some (.int (x3 + 1))] [] (h) nc ns P) : Gd X mX7_readOpenings 46 [some (.ref a0), none, some (.int x2), some (.int x3)] [] h nc ns P := by
  refine g_iinc (v := x3 + 1) (L' := [some (.ref a0), none, some (.int x2), some (.int (x3 + 1))]) dX7_readOpenings_46 rfl rfl (by decide) rfl ?_
  refine g_goto (tgt := 4) dX7_readOpenings_49 (by decide) ?_
  exact Gd.wk g ⟨rfl, ⟨rfl, ⟨rfl, trivial⟩⟩⟩
theorem bkX7_readOpenings_52 {X : GX} {h : SH} {nc ns : Nat} {P : Out → SH → Prop} {x2 : Int32} (hp : P (.inl (some (.int (x2)))) (h)) : Gd X mX7_readOpenings 52 [none, none, some (.int x2), none] [] h nc ns P := by
  refine g_iload_n dX7_readOpenings_52 rfl ?_
  exact g_ireturn (st := []) dX7_readOpenings_53 rfl rfl hp
theorem bkX7_readValue_0 {X : GX} {h : SH} {nc ns : Nat} {P : Out → SH → Prop} {a0 : Nat} {x1 : Int32} (F0 : LX7 (Sk h) (a0)) (kt : ¬ (hI h (a0 + 3) 8) = 11 → Gd X mX7_readValue 16 [some (.ref a0), some (.int x1), none, none] [] (h) nc ns P) (kf : (hI h (a0 + 3) 8) = 11 → Gd X mX7_readValue 12 [some (.ref a0), some (.int x1), none, none] [] (h) nc ns P) : Gd X mX7_readValue 0 [some (.ref a0), some (.int x1), none, none] [] h nc ns P := by
  refine g_aload_n dX7_readValue_0 rfl ?_
  refine g_getAs (c := 7) (k := 0) (b := a0 + 3) dX7_readValue_1 (by decide) (by decide) kw_413 rfl (LX7.o (h := h) F0) (LX7.r_tokens (h := h) F0) ?_
  refine g_getNI (c := 9) (k := 8) dX7_readValue_4 (by decide) (by decide) kn_385 rfl (LX9.o (h := h) (LX7.l_tokens F0)) ?_
  refine g_bipush (v := 11) dX7_readValue_7 (by decide) ?_
  exact g_icmp_ne (tgt := 16) dX7_readValue_9 (by decide) (fun q => Gd.wk (kt q) ⟨rfl, ⟨rfl, trivial⟩⟩) (fun q => Gd.wk (kf q) ⟨rfl, ⟨rfl, trivial⟩⟩)
theorem bkX7_readValue_12 {X : GX} {h : SH} {nc ns : Nat} {P : Out → SH → Prop} {a0 : Nat} {x1 : Int32} (g : Gd X mX7_readValue 17 [some (.ref a0), some (.int x1), none, none] [.int 1] (h) nc ns P) : Gd X mX7_readValue 12 [some (.ref a0), some (.int x1), none, none] [] h nc ns P := by
  refine g_iconst (v := 1) dX7_readValue_12 (by decide) ?_
  refine g_goto (tgt := 17) dX7_readValue_13 (by decide) ?_
  exact Gd.wk g ⟨rfl, ⟨rfl, trivial⟩⟩
theorem bkX7_readValue_16 {X : GX} {h : SH} {nc ns : Nat} {P : Out → SH → Prop} {a0 : Nat} {x1 : Int32} (g : Gd X mX7_readValue 17 [some (.ref a0), some (.int x1), none, none] [.int 0] (h) nc ns P) : Gd X mX7_readValue 16 [some (.ref a0), some (.int x1), none, none] [] h nc ns P := by
  refine g_iconst (v := 0) dX7_readValue_16 (by decide) ?_
  exact Gd.wk g ⟨rfl, ⟨rfl, trivial⟩⟩
theorem bkX7_readValue_17 {X : GX} {h : SH} {nc ns : Nat} {P : Out → SH → Prop} {a0 : Nat} {x1 : Int32} {xs0 : Int32} (kt : ¬ xs0 = 0 → Gd X mX7_readValue 39 [some (.ref a0), some (.int x1), some (.int xs0), none] [] (h) nc ns P) (kf : xs0 = 0 → Gd X mX7_readValue 22 [some (.ref a0), some (.int x1), some (.int xs0), none] [] (h) nc ns P) : Gd X mX7_readValue 17 [some (.ref a0), some (.int x1), none, none] [.int xs0] h nc ns P := by
  refine g_istore_n (L' := [some (.ref a0), some (.int x1), some (.int xs0), none]) dX7_readValue_17 (by decide) rfl ?_
  refine g_iload_n dX7_readValue_18 rfl ?_
  exact g_if_ne (tgt := 39) dX7_readValue_19 (by decide) (fun q => Gd.wk (kt q) ⟨rfl, ⟨rfl, ⟨rfl, trivial⟩⟩⟩) (fun q => Gd.wk (kf q) ⟨rfl, ⟨rfl, ⟨rfl, trivial⟩⟩⟩)
theorem bkX7_readValue_22 {X : GX} {h : SH} {nc ns : Nat} {P : Out → SH → Prop} {a0 : Nat} {x1 : Int32} {x2 : Int32} (F0 : LX7 (Sk h) (a0)) (kt : (hI h (a0 + 3) 8) = 12 → Gd X mX7_readValue 39 [some (.ref a0), some (.int x1), some (.int x2), none] [] (h) nc ns P) (kf : ¬ (hI h (a0 + 3) 8) = 12 → Gd X mX7_readValue 34 [some (.ref a0), some (.int x1), some (.int x2), none] [] (h) nc ns P) : Gd X mX7_readValue 22 [some (.ref a0), some (.int x1), some (.int x2), none] [] h nc ns P := by
  refine g_aload_n dX7_readValue_22 rfl ?_
  refine g_getAs (c := 7) (k := 0) (b := a0 + 3) dX7_readValue_23 (by decide) (by decide) kw_413 rfl (LX7.o (h := h) F0) (LX7.r_tokens (h := h) F0) ?_
  refine g_getNI (c := 9) (k := 8) dX7_readValue_26 (by decide) (by decide) kn_385 rfl (LX9.o (h := h) (LX7.l_tokens F0)) ?_
  refine g_bipush (v := 12) dX7_readValue_29 (by decide) ?_
  exact g_icmp_eq (tgt := 39) dX7_readValue_31 (by decide) (fun q => Gd.wk (kt q) ⟨rfl, ⟨rfl, ⟨rfl, trivial⟩⟩⟩) (fun q => Gd.wk (kf q) ⟨rfl, ⟨rfl, ⟨rfl, trivial⟩⟩⟩)
theorem bkX7_readValue_34 {X : GX} {h : SH} {nc ns : Nat} {P : Out → SH → Prop} {n1 s1 : Nat} {Q : SH → Prop} {Z : String → SH → Prop} {a0 : Nat} {x1 : Int32} {x2 : Int32} (F0 : LX7 (Sk h) (a0)) (hN : Cd X mX7_fail [.ref a0, .int 1] (h) n1 s1 (oV Q Z)) (hx : ∀ E t, Z E t → P (.inr E) t) (g : ∀ t, Q t → Gd X mX7_readValue 39 [some (.ref a0), some (.int x1), some (.int x2), none] [] (t) nc ns P) : Gd X mX7_readValue 34 [some (.ref a0), some (.int x1), some (.int x2), none] [] h (n1 + nc) (s1 + ns) P := by
  refine g_aload_n dX7_readValue_34 rfl ?_
  refine g_iconst (v := 1) dX7_readValue_35 (by decide) ?_
  exact g_callV (k := 7) [.int 1] dX7_readValue_36 mfX7_fail ⟨by decide, by decide⟩ kw_606 kw_608 kw_10 rfl (by decide) (Nat.le_of_ble_eq_true rfl) (by intro x hx; cases hx) (LX7.o (h := h) F0) (Nat.le_of_ble_eq_true rfl) hN hx (oV_go (G := fun a b => Gd X mX7_readValue 39 _ a b nc ns P) (fun t q => Gd.wk (g t q) ⟨rfl, ⟨rfl, ⟨rfl, trivial⟩⟩⟩))
theorem bkX7_readValue_39 {X : GX} {h : SH} {nc ns : Nat} {P : Out → SH → Prop} {a0 : Nat} {x1 : Int32} {x2 : Int32} (kt : x2 = 0 → Gd X mX7_readValue 60 [some (.ref a0), some (.int x1), some (.int x2), none] [] (h) nc ns P) (kf : ¬ x2 = 0 → Gd X mX7_readValue 43 [some (.ref a0), some (.int x1), some (.int x2), none] [] (h) nc ns P) : Gd X mX7_readValue 39 [some (.ref a0), some (.int x1), some (.int x2), none] [] h nc ns P := by
  refine g_iload_n dX7_readValue_39 rfl ?_
  exact g_if_eq (tgt := 60) dX7_readValue_40 (by decide) (fun q => Gd.wk (kt q) ⟨rfl, ⟨rfl, ⟨rfl, trivial⟩⟩⟩) (fun q => Gd.wk (kf q) ⟨rfl, ⟨rfl, ⟨rfl, trivial⟩⟩⟩)
theorem bkX7_readValue_43 {X : GX} {h : SH} {nc ns : Nat} {P : Out → SH → Prop} {Q : Int32 → SH → Prop} {a0 : Nat} {x1 : Int32} {x2 : Int32} {b3 : Nat} (F0 : LX7 (Sk h) (a0)) (q1 : hA h a0 1 = some b3) (F2 : LX3 (Sk h) (b3)) (hN : Cd X mX3_factNamed [.ref b3, .long (hJ h (a0 + 3) 10)] (h) 0 0 (oI Q nX)) (g : ∀ r t, Q r t → Gd X mX7_readValue 57 [some (.ref a0), some (.int x1), some (.int x2), none] [.int r] (t) nc ns P) : Gd X mX7_readValue 43 [some (.ref a0), some (.int x1), some (.int x2), none] [] h nc ns P := by
  refine g_aload_n dX7_readValue_43 rfl ?_
  refine g_getAs (c := 7) (k := 1) (b := b3) dX7_readValue_44 (by decide) (by decide) kw_414 rfl (LX7.o (h := h) F0) q1 ?_
  refine g_aload_n dX7_readValue_47 rfl ?_
  refine g_getAs (c := 7) (k := 0) (b := a0 + 3) dX7_readValue_48 (by decide) (by decide) kw_413 rfl (LX7.o (h := h) F0) (LX7.r_tokens (h := h) F0) ?_
  refine g_getNJ (c := 9) (k := 10) dX7_readValue_51 (by decide) (by decide) kn_389 rfl (LX9.o (h := h) (LX7.l_tokens F0)) ?_
  refine Gd.z ?_
  exact g_callV (k := 3) [.long (hJ h (a0 + 3) 10)] dX7_readValue_54 mfX3_factNamed ⟨by decide, by decide⟩ kw_680 kw_681 kw_682 rfl (by decide) (Nat.le_of_ble_eq_true rfl) (by intro x hx; cases hx) (LX3.o (h := h) F2) (Nat.le_of_ble_eq_true rfl) hN (fun _ _ q => q.elim) (oI_go (G := fun a b => Gd X mX7_readValue 57 _ a b nc ns P) (fun r t q => Gd.wk (g r t q) ⟨rfl, ⟨rfl, ⟨rfl, trivial⟩⟩⟩))
theorem bkX7_readValue_57 {X : GX} {h : SH} {nc ns : Nat} {P : Out → SH → Prop} {a0 : Nat} {x1 : Int32} {x2 : Int32} {xs0 : Int32} (g : Gd X mX7_readValue 68 [some (.ref a0), some (.int x1), some (.int x2), none] [.int xs0] (h) nc ns P) : Gd X mX7_readValue 57 [some (.ref a0), some (.int x1), some (.int x2), none] [.int xs0] h nc ns P := by
  refine g_goto (tgt := 68) dX7_readValue_57 (by decide) ?_
  exact Gd.wk g ⟨rfl, ⟨rfl, ⟨rfl, trivial⟩⟩⟩
theorem bkX7_readValue_60 {X : GX} {h : SH} {nc ns : Nat} {P : Out → SH → Prop} {a0 : Nat} {x1 : Int32} {x2 : Int32} (F0 : LX7 (Sk h) (a0)) (g : Gd X mX7_readValue 68 [some (.ref a0), some (.int x1), some (.int x2), none] [.int ((hJ h (a0 + 3) 10 : Int64).toInt32)] (h) nc ns P) : Gd X mX7_readValue 60 [some (.ref a0), some (.int x1), some (.int x2), none] [] h nc ns P := by
  refine g_aload_n dX7_readValue_60 rfl ?_
  refine g_getAs (c := 7) (k := 0) (b := a0 + 3) dX7_readValue_61 (by decide) (by decide) kw_413 rfl (LX7.o (h := h) F0) (LX7.r_tokens (h := h) F0) ?_
  refine g_getNJ (c := 9) (k := 10) dX7_readValue_64 (by decide) (by decide) kn_389 rfl (LX9.o (h := h) (LX7.l_tokens F0)) ?_
  refine g_l2i dX7_readValue_67 ?_
  exact Gd.wk g ⟨rfl, ⟨rfl, ⟨rfl, trivial⟩⟩⟩
theorem bkX7_readValue_68 {X : GX} {h : SH} {nc ns : Nat} {P : Out → SH → Prop} {a0 : Nat} {x1 : Int32} {x2 : Int32} {xs0 : Int32} (kt : ¬ xs0 = (-1) → Gd X mX7_readValue 79 [some (.ref a0), some (.int x1), some (.int x2), some (.int xs0)] [] (h) nc ns P) (kf : xs0 = (-1) → Gd X mX7_readValue 74 [some (.ref a0), some (.int x1), some (.int x2), some (.int xs0)] [] (h) nc ns P) : Gd X mX7_readValue 68 [some (.ref a0), some (.int x1), some (.int x2), none] [.int xs0] h nc ns P := by
  refine g_istore_n (L' := [some (.ref a0), some (.int x1), some (.int x2), some (.int xs0)]) dX7_readValue_68 (by decide) rfl ?_
  refine g_iload_n dX7_readValue_69 rfl ?_
  refine g_iconst (v := (-1)) dX7_readValue_70 (by decide) ?_
  exact g_icmp_ne (tgt := 79) dX7_readValue_71 (by decide) (fun q => Gd.wk (kt q) ⟨rfl, ⟨rfl, ⟨rfl, ⟨rfl, trivial⟩⟩⟩⟩) (fun q => Gd.wk (kf q) ⟨rfl, ⟨rfl, ⟨rfl, ⟨rfl, trivial⟩⟩⟩⟩)
theorem bkX7_readValue_74 {X : GX} {h : SH} {nc ns : Nat} {P : Out → SH → Prop} {n1 s1 : Nat} {Q : SH → Prop} {Z : String → SH → Prop} {a0 : Nat} {x1 : Int32} {x2 : Int32} {x3 : Int32} (F0 : LX7 (Sk h) (a0)) (hN : Cd X mX7_fail [.ref a0, .int 2] (h) n1 s1 (oV Q Z)) (hx : ∀ E t, Z E t → P (.inr E) t) (g : ∀ t, Q t → Gd X mX7_readValue 79 [some (.ref a0), some (.int x1), some (.int x2), some (.int x3)] [] (t) nc ns P) : Gd X mX7_readValue 74 [some (.ref a0), some (.int x1), some (.int x2), some (.int x3)] [] h (n1 + nc) (s1 + ns) P := by
  refine g_aload_n dX7_readValue_74 rfl ?_
  refine g_iconst (v := 2) dX7_readValue_75 (by decide) ?_
  exact g_callV (k := 7) [.int 2] dX7_readValue_76 mfX7_fail ⟨by decide, by decide⟩ kw_606 kw_608 kw_10 rfl (by decide) (Nat.le_of_ble_eq_true rfl) (by intro x hx; cases hx) (LX7.o (h := h) F0) (Nat.le_of_ble_eq_true rfl) hN hx (oV_go (G := fun a b => Gd X mX7_readValue 79 _ a b nc ns P) (fun t q => Gd.wk (g t q) ⟨rfl, ⟨rfl, ⟨rfl, ⟨rfl, trivial⟩⟩⟩⟩))
theorem bkX7_readValue_79 {X : GX} {h : SH} {nc ns : Nat} {P : Out → SH → Prop} {a0 : Nat} {x1 : Int32} {x2 : Int32} {x3 : Int32} (kt : x1 < 5 → Gd X mX7_readValue 89 [some (.ref a0), some (.int x1), some (.int x2), some (.int x3)] [] (h) nc ns P) (kf : ¬ x1 < 5 → Gd X mX7_readValue 84 [some (.ref a0), some (.int x1), some (.int x2), some (.int x3)] [] (h) nc ns P) : Gd X mX7_readValue 79 [some (.ref a0), some (.int x1), some (.int x2), some (.int x3)] [] h nc ns P := by
  refine g_iload_n dX7_readValue_79 rfl ?_
  refine g_iconst (v := 5) dX7_readValue_80 (by decide) ?_
  exact g_icmp_lt (tgt := 89) dX7_readValue_81 (by decide) (fun q => Gd.wk (kt q) ⟨rfl, ⟨rfl, ⟨rfl, ⟨rfl, trivial⟩⟩⟩⟩) (fun q => Gd.wk (kf q) ⟨rfl, ⟨rfl, ⟨rfl, ⟨rfl, trivial⟩⟩⟩⟩)
theorem bkX7_readValue_84 {X : GX} {h : SH} {nc ns : Nat} {P : Out → SH → Prop} {n1 s1 : Nat} {Q : SH → Prop} {Z : String → SH → Prop} {a0 : Nat} {x1 : Int32} {x2 : Int32} {x3 : Int32} (F0 : LX7 (Sk h) (a0)) (hN : Cd X mX7_fail [.ref a0, .int 5] (h) n1 s1 (oV Q Z)) (hx : ∀ E t, Z E t → P (.inr E) t) (g : ∀ t, Q t → Gd X mX7_readValue 89 [some (.ref a0), some (.int x1), some (.int x2), some (.int x3)] [] (t) nc ns P) : Gd X mX7_readValue 84 [some (.ref a0), some (.int x1), some (.int x2), some (.int x3)] [] h (n1 + nc) (s1 + ns) P := by
  refine g_aload_n dX7_readValue_84 rfl ?_
  refine g_iconst (v := 5) dX7_readValue_85 (by decide) ?_
  exact g_callV (k := 7) [.int 5] dX7_readValue_86 mfX7_fail ⟨by decide, by decide⟩ kw_606 kw_608 kw_10 rfl (by decide) (Nat.le_of_ble_eq_true rfl) (by intro x hx; cases hx) (LX7.o (h := h) F0) (Nat.le_of_ble_eq_true rfl) hN hx (oV_go (G := fun a b => Gd X mX7_readValue 89 _ a b nc ns P) (fun t q => Gd.wk (g t q) ⟨rfl, ⟨rfl, ⟨rfl, ⟨rfl, trivial⟩⟩⟩⟩))
theorem bkX7_readValue_89 {X : GX} {h : SH} {nc ns : Nat} {P : Out → SH → Prop} {a0 : Nat} {x1 : Int32} {x2 : Int32} {x3 : Int32} (kt : x2 = 0 → Gd X mX7_readValue 98 [some (.ref a0), some (.int x1), none, some (.int x3)] [.ref a0] (h) nc ns P) (kf : ¬ x2 = 0 → Gd X mX7_readValue 94 [some (.ref a0), some (.int x1), none, some (.int x3)] [.ref a0] (h) nc ns P) : Gd X mX7_readValue 89 [some (.ref a0), some (.int x1), some (.int x2), some (.int x3)] [] h nc ns P := by
  refine g_aload_n dX7_readValue_89 rfl ?_
  refine g_iload_n dX7_readValue_90 rfl ?_
  exact g_if_eq (tgt := 98) dX7_readValue_91 (by decide) (fun q => Gd.wk (kt q) ⟨rfl, ⟨rfl, ⟨rfl, trivial⟩⟩⟩) (fun q => Gd.wk (kf q) ⟨rfl, ⟨rfl, ⟨rfl, trivial⟩⟩⟩)
theorem bkX7_readValue_94 {X : GX} {h : SH} {nc ns : Nat} {P : Out → SH → Prop} {a0 : Nat} {x1 : Int32} {x3 : Int32} {as0 : Nat} (g : Gd X mX7_readValue 99 [some (.ref a0), some (.int x1), none, some (.int x3)] [.int 2, .ref as0] (h) nc ns P) : Gd X mX7_readValue 94 [some (.ref a0), some (.int x1), none, some (.int x3)] [.ref as0] h nc ns P := by
  refine g_iconst (v := 2) dX7_readValue_94 (by decide) ?_
  refine g_goto (tgt := 99) dX7_readValue_95 (by decide) ?_
  exact Gd.wk g ⟨rfl, ⟨rfl, ⟨rfl, trivial⟩⟩⟩
theorem bkX7_readValue_98 {X : GX} {h : SH} {nc ns : Nat} {P : Out → SH → Prop} {a0 : Nat} {x1 : Int32} {x3 : Int32} {as0 : Nat} (g : Gd X mX7_readValue 99 [some (.ref a0), some (.int x1), none, some (.int x3)] [.int 1, .ref as0] (h) nc ns P) : Gd X mX7_readValue 98 [some (.ref a0), some (.int x1), none, some (.int x3)] [.ref as0] h nc ns P := by
  refine g_iconst (v := 1) dX7_readValue_98 (by decide) ?_
  exact Gd.wk g ⟨rfl, ⟨rfl, ⟨rfl, trivial⟩⟩⟩
theorem bkX7_readValue_99 {X : GX} {h : SH} {nc ns : Nat} {P : Out → SH → Prop} {Q : SH → Prop} {a0 : Nat} {x1 : Int32} {x3 : Int32} {as0 : Nat} {xs1 : Int32} (F0 : LX7 (Sk h) (as0)) (hN : Cd X mX7_addOperation [.ref as0, .int (xs1 + (8 * x3))] (h) 0 0 (oV Q nX)) (g : ∀ t, Q t → Gd X mX7_readValue 107 [some (.ref a0), some (.int x1), none, none] [] (t) nc ns P) : Gd X mX7_readValue 99 [some (.ref a0), some (.int x1), none, some (.int x3)] [.int xs1, .ref as0] h nc ns P := by
  refine g_bipush (v := 8) dX7_readValue_99 (by decide) ?_
  refine g_iload_n dX7_readValue_101 rfl ?_
  refine g_imul dX7_readValue_102 ?_
  refine g_iadd dX7_readValue_103 ?_
  refine Gd.z ?_
  exact g_callV (k := 7) [.int (xs1 + (8 * x3))] dX7_readValue_104 mfX7_addOperation ⟨by decide, by decide⟩ kw_728 kw_730 kw_20 rfl (by decide) (Nat.le_of_ble_eq_true rfl) (by intro x hx; cases hx) (LX7.o (h := h) F0) (Nat.le_of_ble_eq_true rfl) hN (fun _ _ q => q.elim) (oV_go (G := fun a b => Gd X mX7_readValue 107 _ a b nc ns P) (fun t q => Gd.wk (g t q) ⟨rfl, ⟨rfl, trivial⟩⟩))
theorem bkX7_readValue_107 {X : GX} {h : SH} {nc ns : Nat} {P : Out → SH → Prop} {Q : SH → Prop} {a0 : Nat} {x1 : Int32} (F0 : LX7 (Sk h) (a0)) (i1 : vp_in (x1) 6) (hN : Cd X mX7_addOperation [.ref a0, .int (hI h (a0 + 1) ((x1 : Int32).toNatClampNeg))] (h) 0 0 (oV Q nX)) (g : ∀ t, Q t → Gd X mX7_readValue 117 [some (.ref a0), none, none, none] [] (t) nc ns P) : Gd X mX7_readValue 107 [some (.ref a0), some (.int x1), none, none] [] h nc ns P := by
  refine g_aload_n dX7_readValue_107 rfl ?_
  refine g_aload_n dX7_readValue_108 rfl ?_
  refine g_getAs (c := 7) (k := 6) (b := a0 + 1) dX7_readValue_109 (by decide) (by decide) kw_419 rfl (LX7.o (h := h) F0) (LX7.r_waitingJoins (h := h) F0) ?_
  refine g_iload_n dX7_readValue_112 rfl ?_
  refine g_iaload dX7_readValue_113 (LX7.a_waitingJoins (h := h) F0) i1 ?_
  refine Gd.z ?_
  exact g_callV (k := 7) [.int (hI h (a0 + 1) ((x1 : Int32).toNatClampNeg))] dX7_readValue_114 mfX7_addOperation ⟨by decide, by decide⟩ kw_728 kw_730 kw_20 rfl (by decide) (Nat.le_of_ble_eq_true rfl) (by intro x hx; cases hx) (LX7.o (h := h) F0) (Nat.le_of_ble_eq_true rfl) hN (fun _ _ q => q.elim) (oV_go (G := fun a b => Gd X mX7_readValue 117 _ a b nc ns P) (fun t q => Gd.wk (g t q) ⟨rfl, trivial⟩))
theorem bkX7_readValue_117 {X : GX} {h : SH} {nc ns : Nat} {P : Out → SH → Prop} {Q : SH → Prop} {a0 : Nat} (F0 : LX7 (Sk h) (a0)) (hN : Cd X mX9_toNext [.ref (a0 + 3)] (h) 0 0 (oV Q nX)) (g : ∀ t, Q t → Gd X mX7_readValue 124 [none, none, none, none] [] (t) nc ns P) : Gd X mX7_readValue 117 [some (.ref a0), none, none, none] [] h nc ns P := by
  refine g_aload_n dX7_readValue_117 rfl ?_
  refine g_getAs (c := 7) (k := 0) (b := a0 + 3) dX7_readValue_118 (by decide) (by decide) kw_413 rfl (LX7.o (h := h) F0) (LX7.r_tokens (h := h) F0) ?_
  refine Gd.z ?_
  exact g_callV (k := 9) [] dX7_readValue_121 mfX9_toNext ⟨by decide, by decide⟩ kw_675 kw_591 kw_592 rfl (by decide) (Nat.le_of_ble_eq_true rfl) (by intro x hx; cases hx) (LX9.o (h := h) (LX7.l_tokens F0)) (Nat.le_of_ble_eq_true rfl) hN (fun _ _ q => q.elim) (oV_go (G := fun a b => Gd X mX7_readValue 124 _ a b nc ns P) (fun t q => Gd.wk (g t q) trivial))
theorem bkX7_readValue_124 {X : GX} {h : SH} {nc ns : Nat} {P : Out → SH → Prop} (hp : P (.inl (none)) (h)) : Gd X mX7_readValue 124 [none, none, none, none] [] h nc ns P := by
  exact g_return (st := []) dX7_readValue_124 rfl hp
theorem bkX7_readClosings_0 {X : GX} {h : SH} {nc ns : Nat} {P : Out → SH → Prop} {a0 : Nat} {x1 : Int32} (g : Gd X mX7_readClosings 4 [some (.ref a0), none, some (.int x1), some (.int 0)] [] (h) nc ns P) : Gd X mX7_readClosings 0 [some (.ref a0), some (.int x1), none, none] [] h nc ns P := by
  refine g_iload_n dX7_readClosings_0 rfl ?_
  refine g_istore_n (L' := [some (.ref a0), some (.int x1), some (.int x1), none]) dX7_readClosings_1 (by decide) rfl ?_
  refine g_iconst (v := 0) dX7_readClosings_2 (by decide) ?_
  refine g_istore_n (L' := [some (.ref a0), some (.int x1), some (.int x1), some (.int 0)]) dX7_readClosings_3 (by decide) rfl ?_
  exact Gd.wk g ⟨rfl, ⟨rfl, ⟨rfl, trivial⟩⟩⟩
theorem bkX7_readClosings_4 {X : GX} {h : SH} {nc ns : Nat} {P : Out → SH → Prop} {a0 : Nat} {x2 : Int32} {x3 : Int32} (kt : (5 : Int32) ≤ x3 → Gd X mX7_readClosings 61 [none, none, some (.int x2), none] [] (h) nc ns P) (kf : ¬ (5 : Int32) ≤ x3 → Gd X mX7_readClosings 9 [some (.ref a0), none, some (.int x2), some (.int x3)] [] (h) nc ns P) : Gd X mX7_readClosings 4 [some (.ref a0), none, some (.int x2), some (.int x3)] [] h nc ns P := by
  refine g_iload_n dX7_readClosings_4 rfl ?_
  refine g_iconst (v := 5) dX7_readClosings_5 (by decide) ?_
  exact g_icmp_ge (tgt := 61) dX7_readClosings_6 (by decide) (fun q => Gd.wk (kt q) ⟨rfl, trivial⟩) (fun q => Gd.wk (kf q) ⟨rfl, ⟨rfl, ⟨rfl, trivial⟩⟩⟩)
theorem bkX7_readClosings_9 {X : GX} {h : SH} {nc ns : Nat} {P : Out → SH → Prop} {a0 : Nat} {x2 : Int32} {x3 : Int32} (kt : x2 ≤ 0 → Gd X mX7_readClosings 61 [none, none, some (.int x2), none] [] (h) nc ns P) (kf : ¬ x2 ≤ 0 → Gd X mX7_readClosings 13 [some (.ref a0), none, some (.int x2), some (.int x3)] [] (h) nc ns P) : Gd X mX7_readClosings 9 [some (.ref a0), none, some (.int x2), some (.int x3)] [] h nc ns P := by
  refine g_iload_n dX7_readClosings_9 rfl ?_
  exact g_if_le (tgt := 61) dX7_readClosings_10 (by decide) (fun q => Gd.wk (kt q) ⟨rfl, trivial⟩) (fun q => Gd.wk (kf q) ⟨rfl, ⟨rfl, ⟨rfl, trivial⟩⟩⟩)
theorem bkX7_readClosings_13 {X : GX} {h : SH} {nc ns : Nat} {P : Out → SH → Prop} {a0 : Nat} {x2 : Int32} {x3 : Int32} (F0 : LX7 (Sk h) (a0)) (kt : ¬ (hI h (a0 + 3) 8) = 41 → Gd X mX7_readClosings 61 [none, none, some (.int x2), none] [] (h) nc ns P) (kf : (hI h (a0 + 3) 8) = 41 → Gd X mX7_readClosings 25 [some (.ref a0), none, some (.int x2), some (.int x3)] [] (h) nc ns P) : Gd X mX7_readClosings 13 [some (.ref a0), none, some (.int x2), some (.int x3)] [] h nc ns P := by
  refine g_aload_n dX7_readClosings_13 rfl ?_
  refine g_getAs (c := 7) (k := 0) (b := a0 + 3) dX7_readClosings_14 (by decide) (by decide) kw_413 rfl (LX7.o (h := h) F0) (LX7.r_tokens (h := h) F0) ?_
  refine g_getNI (c := 9) (k := 8) dX7_readClosings_17 (by decide) (by decide) kn_385 rfl (LX9.o (h := h) (LX7.l_tokens F0)) ?_
  refine g_bipush (v := 41) dX7_readClosings_20 (by decide) ?_
  exact g_icmp_ne (tgt := 61) dX7_readClosings_22 (by decide) (fun q => Gd.wk (kt q) ⟨rfl, trivial⟩) (fun q => Gd.wk (kf q) ⟨rfl, ⟨rfl, ⟨rfl, trivial⟩⟩⟩)
theorem bkX7_readClosings_25 {X : GX} {h : SH} {nc ns : Nat} {P : Out → SH → Prop} {Q : SH → Prop} {a0 : Nat} {x2 : Int32} {x3 : Int32} (F0 : LX7 (Sk h) (a0)) (i1 : vp_in (x2) 6) (hN : Cd X mX7_addOperation [.ref a0, .int (hI h (a0 + 2) ((x2 : Int32).toNatClampNeg))] (h) 0 0 (oV Q nX)) (g : ∀ t, Q t → Gd X mX7_readClosings 35 [some (.ref a0), none, some (.int x2), some (.int x3)] [] (t) nc ns P) : Gd X mX7_readClosings 25 [some (.ref a0), none, some (.int x2), some (.int x3)] [] h nc ns P := by
  refine g_aload_n dX7_readClosings_25 rfl ?_
  refine g_aload_n dX7_readClosings_26 rfl ?_
  refine g_getAs (c := 7) (k := 7) (b := a0 + 2) dX7_readClosings_27 (by decide) (by decide) kw_420 rfl (LX7.o (h := h) F0) (LX7.r_waitingComparisons (h := h) F0) ?_
  refine g_iload_n dX7_readClosings_30 rfl ?_
  refine g_iaload dX7_readClosings_31 (LX7.a_waitingComparisons (h := h) F0) i1 ?_
  refine Gd.z ?_
  exact g_callV (k := 7) [.int (hI h (a0 + 2) ((x2 : Int32).toNatClampNeg))] dX7_readClosings_32 mfX7_addOperation ⟨by decide, by decide⟩ kw_728 kw_730 kw_20 rfl (by decide) (Nat.le_of_ble_eq_true rfl) (by intro x hx; cases hx) (LX7.o (h := h) F0) (Nat.le_of_ble_eq_true rfl) hN (fun _ _ q => q.elim) (oV_go (G := fun a b => Gd X mX7_readClosings 35 _ a b nc ns P) (fun t q => Gd.wk (g t q) ⟨rfl, ⟨rfl, ⟨rfl, trivial⟩⟩⟩))
theorem bkX7_readClosings_35 {X : GX} {h : SH} {nc ns : Nat} {P : Out → SH → Prop} {Q : SH → Prop} {a0 : Nat} {x2 : Int32} {x3 : Int32} (F0 : LX7 (Sk h) (a0)) (i1 : vp_in (x2 + (-1)) 6) (hN : Cd X mX7_addOperation [.ref a0, .int (hI h (a0 + 1) ((x2 + (-1) : Int32).toNatClampNeg))] (h) 0 0 (oV Q nX)) (g : ∀ t, Q t → Gd X mX7_readClosings 48 [some (.ref a0), none, some (.int (x2 + (-1))), some (.int x3)] [] (t) nc ns P) : Gd X mX7_readClosings 35 [some (.ref a0), none, some (.int x2), some (.int x3)] [] h nc ns P := by
  refine g_iinc (v := x2 + (-1)) (L' := [some (.ref a0), none, some (.int (x2 + (-1))), some (.int x3)]) dX7_readClosings_35 rfl rfl (by decide) rfl ?_
  refine g_aload_n dX7_readClosings_38 rfl ?_
  refine g_aload_n dX7_readClosings_39 rfl ?_
  refine g_getAs (c := 7) (k := 6) (b := a0 + 1) dX7_readClosings_40 (by decide) (by decide) kw_419 rfl (LX7.o (h := h) F0) (LX7.r_waitingJoins (h := h) F0) ?_
  refine g_iload_n dX7_readClosings_43 rfl ?_
  refine g_iaload dX7_readClosings_44 (LX7.a_waitingJoins (h := h) F0) i1 ?_
  refine Gd.z ?_
  exact g_callV (k := 7) [.int (hI h (a0 + 1) ((x2 + (-1) : Int32).toNatClampNeg))] dX7_readClosings_45 mfX7_addOperation ⟨by decide, by decide⟩ kw_728 kw_730 kw_20 rfl (by decide) (Nat.le_of_ble_eq_true rfl) (by intro x hx; cases hx) (LX7.o (h := h) F0) (Nat.le_of_ble_eq_true rfl) hN (fun _ _ q => q.elim) (oV_go (G := fun a b => Gd X mX7_readClosings 48 _ a b nc ns P) (fun t q => Gd.wk (g t q) ⟨rfl, ⟨rfl, ⟨rfl, trivial⟩⟩⟩))
theorem bkX7_readClosings_48 {X : GX} {h : SH} {nc ns : Nat} {P : Out → SH → Prop} {Q : SH → Prop} {a0 : Nat} {x2 : Int32} {x3 : Int32} (F0 : LX7 (Sk h) (a0)) (hN : Cd X mX9_toNext [.ref (a0 + 3)] (h) 0 0 (oV Q nX)) (g : ∀ t, Q t → Gd X mX7_readClosings 55 [some (.ref a0), none, some (.int x2), some (.int x3)] [] (t) nc ns P) : Gd X mX7_readClosings 48 [some (.ref a0), none, some (.int x2), some (.int x3)] [] h nc ns P := by
  refine g_aload_n dX7_readClosings_48 rfl ?_
  refine g_getAs (c := 7) (k := 0) (b := a0 + 3) dX7_readClosings_49 (by decide) (by decide) kw_413 rfl (LX7.o (h := h) F0) (LX7.r_tokens (h := h) F0) ?_
  refine Gd.z ?_
  exact g_callV (k := 9) [] dX7_readClosings_52 mfX9_toNext ⟨by decide, by decide⟩ kw_675 kw_591 kw_592 rfl (by decide) (Nat.le_of_ble_eq_true rfl) (by intro x hx; cases hx) (LX9.o (h := h) (LX7.l_tokens F0)) (Nat.le_of_ble_eq_true rfl) hN (fun _ _ q => q.elim) (oV_go (G := fun a b => Gd X mX7_readClosings 55 _ a b nc ns P) (fun t q => Gd.wk (g t q) ⟨rfl, ⟨rfl, ⟨rfl, trivial⟩⟩⟩))
theorem bkX7_readClosings_55 {X : GX} {h : SH} {nc ns : Nat} {P : Out → SH → Prop} {a0 : Nat} {x2 : Int32} {x3 : Int32} (g : Gd X mX7_readClosings 4 [some (.ref a0), none, some (.int x2), some (.int (x3 + 1))] [] (h) nc ns P) : Gd X mX7_readClosings 55 [some (.ref a0), none, some (.int x2), some (.int x3)] [] h nc ns P := by
  refine g_iinc (v := x3 + 1) (L' := [some (.ref a0), none, some (.int x2), some (.int (x3 + 1))]) dX7_readClosings_55 rfl rfl (by decide) rfl ?_
  refine g_goto (tgt := 4) dX7_readClosings_58 (by decide) ?_
  exact Gd.wk g ⟨rfl, ⟨rfl, ⟨rfl, trivial⟩⟩⟩
theorem bkX7_readClosings_61 {X : GX} {h : SH} {nc ns : Nat} {P : Out → SH → Prop} {x2 : Int32} (hp : P (.inl (some (.int (x2)))) (h)) : Gd X mX7_readClosings 61 [none, none, some (.int x2), none] [] h nc ns P := by
  refine g_iload_n dX7_readClosings_61 rfl ?_
  exact g_ireturn (st := []) dX7_readClosings_62 rfl rfl hp
theorem bkX7_readOperator_0 {X : GX} {h : SH} {nc ns : Nat} {P : Out → SH → Prop} {a0 : Nat} {x1 : Int32} (F0 : LX7 (Sk h) (a0)) (kt : (hI h (a0 + 3) 8) = 43 → Gd X mX7_readOperator 24 [some (.ref a0), some (.int x1), none, none] [] (h) nc ns P) (kf : ¬ (hI h (a0 + 3) 8) = 43 → Gd X mX7_readOperator 12 [some (.ref a0), some (.int x1), none, none] [] (h) nc ns P) : Gd X mX7_readOperator 0 [some (.ref a0), some (.int x1), none, none] [] h nc ns P := by
  refine g_aload_n dX7_readOperator_0 rfl ?_
  refine g_getAs (c := 7) (k := 0) (b := a0 + 3) dX7_readOperator_1 (by decide) (by decide) kw_413 rfl (LX7.o (h := h) F0) (LX7.r_tokens (h := h) F0) ?_
  refine g_getNI (c := 9) (k := 8) dX7_readOperator_4 (by decide) (by decide) kn_385 rfl (LX9.o (h := h) (LX7.l_tokens F0)) ?_
  refine g_bipush (v := 43) dX7_readOperator_7 (by decide) ?_
  exact g_icmp_eq (tgt := 24) dX7_readOperator_9 (by decide) (fun q => Gd.wk (kt q) ⟨rfl, ⟨rfl, trivial⟩⟩) (fun q => Gd.wk (kf q) ⟨rfl, ⟨rfl, trivial⟩⟩)
theorem bkX7_readOperator_12 {X : GX} {h : SH} {nc ns : Nat} {P : Out → SH → Prop} {a0 : Nat} {x1 : Int32} (F0 : LX7 (Sk h) (a0)) (kt : ¬ (hI h (a0 + 3) 8) = 45 → Gd X mX7_readOperator 28 [some (.ref a0), some (.int x1), none, none] [] (h) nc ns P) (kf : (hI h (a0 + 3) 8) = 45 → Gd X mX7_readOperator 24 [some (.ref a0), some (.int x1), none, none] [] (h) nc ns P) : Gd X mX7_readOperator 12 [some (.ref a0), some (.int x1), none, none] [] h nc ns P := by
  refine g_aload_n dX7_readOperator_12 rfl ?_
  refine g_getAs (c := 7) (k := 0) (b := a0 + 3) dX7_readOperator_13 (by decide) (by decide) kw_413 rfl (LX7.o (h := h) F0) (LX7.r_tokens (h := h) F0) ?_
  refine g_getNI (c := 9) (k := 8) dX7_readOperator_16 (by decide) (by decide) kn_385 rfl (LX9.o (h := h) (LX7.l_tokens F0)) ?_
  refine g_bipush (v := 45) dX7_readOperator_19 (by decide) ?_
  exact g_icmp_ne (tgt := 28) dX7_readOperator_21 (by decide) (fun q => Gd.wk (kt q) ⟨rfl, ⟨rfl, trivial⟩⟩) (fun q => Gd.wk (kf q) ⟨rfl, ⟨rfl, trivial⟩⟩)
theorem bkX7_readOperator_24 {X : GX} {h : SH} {nc ns : Nat} {P : Out → SH → Prop} {a0 : Nat} {x1 : Int32} (g : Gd X mX7_readOperator 29 [some (.ref a0), some (.int x1), none, none] [.int 1] (h) nc ns P) : Gd X mX7_readOperator 24 [some (.ref a0), some (.int x1), none, none] [] h nc ns P := by
  refine g_iconst (v := 1) dX7_readOperator_24 (by decide) ?_
  refine g_goto (tgt := 29) dX7_readOperator_25 (by decide) ?_
  exact Gd.wk g ⟨rfl, ⟨rfl, trivial⟩⟩
theorem bkX7_readOperator_28 {X : GX} {h : SH} {nc ns : Nat} {P : Out → SH → Prop} {a0 : Nat} {x1 : Int32} (g : Gd X mX7_readOperator 29 [some (.ref a0), some (.int x1), none, none] [.int 0] (h) nc ns P) : Gd X mX7_readOperator 28 [some (.ref a0), some (.int x1), none, none] [] h nc ns P := by
  refine g_iconst (v := 0) dX7_readOperator_28 (by decide) ?_
  exact Gd.wk g ⟨rfl, ⟨rfl, trivial⟩⟩
theorem bkX7_readOperator_29 {X : GX} {h : SH} {nc ns : Nat} {P : Out → SH → Prop} {a0 : Nat} {x1 : Int32} {xs0 : Int32} (F0 : LX7 (Sk h) (a0)) (kt : (hI h (a0 + 3) 8) = 60 → Gd X mX7_readOperator 54 [some (.ref a0), some (.int x1), some (.int xs0), none] [] (h) nc ns P) (kf : ¬ (hI h (a0 + 3) 8) = 60 → Gd X mX7_readOperator 42 [some (.ref a0), some (.int x1), some (.int xs0), none] [] (h) nc ns P) : Gd X mX7_readOperator 29 [some (.ref a0), some (.int x1), none, none] [.int xs0] h nc ns P := by
  refine g_istore_n (L' := [some (.ref a0), some (.int x1), some (.int xs0), none]) dX7_readOperator_29 (by decide) rfl ?_
  refine g_aload_n dX7_readOperator_30 rfl ?_
  refine g_getAs (c := 7) (k := 0) (b := a0 + 3) dX7_readOperator_31 (by decide) (by decide) kw_413 rfl (LX7.o (h := h) F0) (LX7.r_tokens (h := h) F0) ?_
  refine g_getNI (c := 9) (k := 8) dX7_readOperator_34 (by decide) (by decide) kn_385 rfl (LX9.o (h := h) (LX7.l_tokens F0)) ?_
  refine g_bipush (v := 60) dX7_readOperator_37 (by decide) ?_
  exact g_icmp_eq (tgt := 54) dX7_readOperator_39 (by decide) (fun q => Gd.wk (kt q) ⟨rfl, ⟨rfl, ⟨rfl, trivial⟩⟩⟩) (fun q => Gd.wk (kf q) ⟨rfl, ⟨rfl, ⟨rfl, trivial⟩⟩⟩)
theorem bkX7_readOperator_42 {X : GX} {h : SH} {nc ns : Nat} {P : Out → SH → Prop} {a0 : Nat} {x1 : Int32} {x2 : Int32} (F0 : LX7 (Sk h) (a0)) (kt : ¬ (hI h (a0 + 3) 8) = 61 → Gd X mX7_readOperator 58 [some (.ref a0), some (.int x1), some (.int x2), none] [] (h) nc ns P) (kf : (hI h (a0 + 3) 8) = 61 → Gd X mX7_readOperator 54 [some (.ref a0), some (.int x1), some (.int x2), none] [] (h) nc ns P) : Gd X mX7_readOperator 42 [some (.ref a0), some (.int x1), some (.int x2), none] [] h nc ns P := by
  refine g_aload_n dX7_readOperator_42 rfl ?_
  refine g_getAs (c := 7) (k := 0) (b := a0 + 3) dX7_readOperator_43 (by decide) (by decide) kw_413 rfl (LX7.o (h := h) F0) (LX7.r_tokens (h := h) F0) ?_
  refine g_getNI (c := 9) (k := 8) dX7_readOperator_46 (by decide) (by decide) kn_385 rfl (LX9.o (h := h) (LX7.l_tokens F0)) ?_
  refine g_bipush (v := 61) dX7_readOperator_49 (by decide) ?_
  exact g_icmp_ne (tgt := 58) dX7_readOperator_51 (by decide) (fun q => Gd.wk (kt q) ⟨rfl, ⟨rfl, ⟨rfl, trivial⟩⟩⟩) (fun q => Gd.wk (kf q) ⟨rfl, ⟨rfl, ⟨rfl, trivial⟩⟩⟩)
theorem bkX7_readOperator_54 {X : GX} {h : SH} {nc ns : Nat} {P : Out → SH → Prop} {a0 : Nat} {x1 : Int32} {x2 : Int32} (g : Gd X mX7_readOperator 59 [some (.ref a0), some (.int x1), some (.int x2), none] [.int 1] (h) nc ns P) : Gd X mX7_readOperator 54 [some (.ref a0), some (.int x1), some (.int x2), none] [] h nc ns P := by
  refine g_iconst (v := 1) dX7_readOperator_54 (by decide) ?_
  refine g_goto (tgt := 59) dX7_readOperator_55 (by decide) ?_
  exact Gd.wk g ⟨rfl, ⟨rfl, ⟨rfl, trivial⟩⟩⟩
theorem bkX7_readOperator_58 {X : GX} {h : SH} {nc ns : Nat} {P : Out → SH → Prop} {a0 : Nat} {x1 : Int32} {x2 : Int32} (g : Gd X mX7_readOperator 59 [some (.ref a0), some (.int x1), some (.int x2), none] [.int 0] (h) nc ns P) : Gd X mX7_readOperator 58 [some (.ref a0), some (.int x1), some (.int x2), none] [] h nc ns P := by
  refine g_iconst (v := 0) dX7_readOperator_58 (by decide) ?_
  exact Gd.wk g ⟨rfl, ⟨rfl, ⟨rfl, trivial⟩⟩⟩
theorem bkX7_readOperator_59 {X : GX} {h : SH} {nc ns : Nat} {P : Out → SH → Prop} {a0 : Nat} {x1 : Int32} {x2 : Int32} {xs0 : Int32} (kt : x2 = 0 → Gd X mX7_readOperator 90 [some (.ref a0), some (.int x1), none, some (.int xs0)] [] (h) nc ns P) (kf : ¬ x2 = 0 → Gd X mX7_readOperator 64 [some (.ref a0), some (.int x1), none, none] [] (h) nc ns P) : Gd X mX7_readOperator 59 [some (.ref a0), some (.int x1), some (.int x2), none] [.int xs0] h nc ns P := by
  refine g_istore_n (L' := [some (.ref a0), some (.int x1), some (.int x2), some (.int xs0)]) dX7_readOperator_59 (by decide) rfl ?_
  refine g_iload_n dX7_readOperator_60 rfl ?_
  exact g_if_eq (tgt := 90) dX7_readOperator_61 (by decide) (fun q => Gd.wk (kt q) ⟨rfl, ⟨rfl, ⟨rfl, trivial⟩⟩⟩) (fun q => Gd.wk (kf q) ⟨rfl, ⟨rfl, trivial⟩⟩)
theorem bkX7_readOperator_64 {X : GX} {h : SH} {nc ns : Nat} {P : Out → SH → Prop} {a0 : Nat} {x1 : Int32} (F0 : LX7 (Sk h) (a0)) (kt : ¬ (hI h (a0 + 3) 8) = 43 → Gd X mX7_readOperator 85 [some (.ref a0), none, none, none] [.int x1, .ref (a0 + 1)] (h) nc ns P) (kf : (hI h (a0 + 3) 8) = 43 → Gd X mX7_readOperator 81 [some (.ref a0), none, none, none] [.int x1, .ref (a0 + 1)] (h) nc ns P) : Gd X mX7_readOperator 64 [some (.ref a0), some (.int x1), none, none] [] h nc ns P := by
  refine g_aload_n dX7_readOperator_64 rfl ?_
  refine g_getAs (c := 7) (k := 6) (b := a0 + 1) dX7_readOperator_65 (by decide) (by decide) kw_419 rfl (LX7.o (h := h) F0) (LX7.r_waitingJoins (h := h) F0) ?_
  refine g_iload_n dX7_readOperator_68 rfl ?_
  refine g_aload_n dX7_readOperator_69 rfl ?_
  refine g_getAs (c := 7) (k := 0) (b := a0 + 3) dX7_readOperator_70 (by decide) (by decide) kw_413 rfl (LX7.o (h := h) F0) (LX7.r_tokens (h := h) F0) ?_
  refine g_getNI (c := 9) (k := 8) dX7_readOperator_73 (by decide) (by decide) kn_385 rfl (LX9.o (h := h) (LX7.l_tokens F0)) ?_
  refine g_bipush (v := 43) dX7_readOperator_76 (by decide) ?_
  exact g_icmp_ne (tgt := 85) dX7_readOperator_78 (by decide) (fun q => Gd.wk (kt q) ⟨rfl, trivial⟩) (fun q => Gd.wk (kf q) ⟨rfl, trivial⟩)
theorem bkX7_readOperator_81 {X : GX} {h : SH} {nc ns : Nat} {P : Out → SH → Prop} {a0 : Nat} {as0 : Nat} {xs1 : Int32} (g : Gd X mX7_readOperator 86 [some (.ref a0), none, none, none] [.int 3, .int xs1, .ref as0] (h) nc ns P) : Gd X mX7_readOperator 81 [some (.ref a0), none, none, none] [.int xs1, .ref as0] h nc ns P := by
  refine g_iconst (v := 3) dX7_readOperator_81 (by decide) ?_
  refine g_goto (tgt := 86) dX7_readOperator_82 (by decide) ?_
  exact Gd.wk g ⟨rfl, trivial⟩
theorem bkX7_readOperator_85 {X : GX} {h : SH} {nc ns : Nat} {P : Out → SH → Prop} {a0 : Nat} {as0 : Nat} {xs1 : Int32} (g : Gd X mX7_readOperator 86 [some (.ref a0), none, none, none] [.int 4, .int xs1, .ref as0] (h) nc ns P) : Gd X mX7_readOperator 85 [some (.ref a0), none, none, none] [.int xs1, .ref as0] h nc ns P := by
  refine g_iconst (v := 4) dX7_readOperator_85 (by decide) ?_
  exact Gd.wk g ⟨rfl, trivial⟩
theorem bkX7_readOperator_86 {X : GX} {h : SH} {nc ns : Nat} {P : Out → SH → Prop} {a0 : Nat} {as0 : Nat} {xs1 : Int32} {xs2 : Int32} {n4 : Nat} (B0 : Ar h (as0) 20 n4) (i1 : vp_in (xs1) n4) (g : Gd X mX7_readOperator 139 [some (.ref a0), none, none, none] [] (sI h as0 ((xs1 : Int32).toNatClampNeg) xs2) nc ns P) : Gd X mX7_readOperator 86 [some (.ref a0), none, none, none] [.int xs2, .int xs1, .ref as0] h nc ns P := by
  refine g_iastore dX7_readOperator_86 B0 i1 ?_
  refine g_goto (tgt := 139) dX7_readOperator_87 (by decide) ?_
  exact Gd.wk g ⟨rfl, trivial⟩
theorem bkX7_readOperator_90 {X : GX} {h : SH} {nc ns : Nat} {P : Out → SH → Prop} {a0 : Nat} {x1 : Int32} {x3 : Int32} (kt : x3 = 0 → Gd X mX7_readOperator 137 [none, none, none, none] [] (h) nc ns P) (kf : ¬ x3 = 0 → Gd X mX7_readOperator 94 [some (.ref a0), some (.int x1), none, none] [] (h) nc ns P) : Gd X mX7_readOperator 90 [some (.ref a0), some (.int x1), none, some (.int x3)] [] h nc ns P := by
  refine g_iload_n dX7_readOperator_90 rfl ?_
  exact g_if_eq (tgt := 137) dX7_readOperator_91 (by decide) (fun q => Gd.wk (kt q) trivial) (fun q => Gd.wk (kf q) ⟨rfl, ⟨rfl, trivial⟩⟩)
theorem bkX7_readOperator_94 {X : GX} {h : SH} {nc ns : Nat} {P : Out → SH → Prop} {a0 : Nat} {x1 : Int32} (F0 : LX7 (Sk h) (a0)) (i1 : vp_in (x1) 6) (kt : ¬ (hI h (a0 + 2) ((x1 : Int32).toNatClampNeg)) = 0 → Gd X mX7_readOperator 137 [none, none, none, none] [] (h) nc ns P) (kf : (hI h (a0 + 2) ((x1 : Int32).toNatClampNeg)) = 0 → Gd X mX7_readOperator 103 [some (.ref a0), some (.int x1), none, none] [] (h) nc ns P) : Gd X mX7_readOperator 94 [some (.ref a0), some (.int x1), none, none] [] h nc ns P := by
  refine g_aload_n dX7_readOperator_94 rfl ?_
  refine g_getAs (c := 7) (k := 7) (b := a0 + 2) dX7_readOperator_95 (by decide) (by decide) kw_420 rfl (LX7.o (h := h) F0) (LX7.r_waitingComparisons (h := h) F0) ?_
  refine g_iload_n dX7_readOperator_98 rfl ?_
  refine g_iaload dX7_readOperator_99 (LX7.a_waitingComparisons (h := h) F0) i1 ?_
  exact g_if_ne (tgt := 137) dX7_readOperator_100 (by decide) (fun q => Gd.wk (kt q) trivial) (fun q => Gd.wk (kf q) ⟨rfl, ⟨rfl, trivial⟩⟩)
theorem bkX7_readOperator_103 {X : GX} {h : SH} {nc ns : Nat} {P : Out → SH → Prop} {a0 : Nat} {x1 : Int32} (F0 : LX7 (Sk h) (a0)) (kt : ¬ (hI h (a0 + 3) 8) = 60 → Gd X mX7_readOperator 124 [some (.ref a0), some (.int x1), none, none] [.int x1, .ref (a0 + 2)] (h) nc ns P) (kf : (hI h (a0 + 3) 8) = 60 → Gd X mX7_readOperator 120 [some (.ref a0), some (.int x1), none, none] [.int x1, .ref (a0 + 2)] (h) nc ns P) : Gd X mX7_readOperator 103 [some (.ref a0), some (.int x1), none, none] [] h nc ns P := by
  refine g_aload_n dX7_readOperator_103 rfl ?_
  refine g_getAs (c := 7) (k := 7) (b := a0 + 2) dX7_readOperator_104 (by decide) (by decide) kw_420 rfl (LX7.o (h := h) F0) (LX7.r_waitingComparisons (h := h) F0) ?_
  refine g_iload_n dX7_readOperator_107 rfl ?_
  refine g_aload_n dX7_readOperator_108 rfl ?_
  refine g_getAs (c := 7) (k := 0) (b := a0 + 3) dX7_readOperator_109 (by decide) (by decide) kw_413 rfl (LX7.o (h := h) F0) (LX7.r_tokens (h := h) F0) ?_
  refine g_getNI (c := 9) (k := 8) dX7_readOperator_112 (by decide) (by decide) kn_385 rfl (LX9.o (h := h) (LX7.l_tokens F0)) ?_
  refine g_bipush (v := 60) dX7_readOperator_115 (by decide) ?_
  exact g_icmp_ne (tgt := 124) dX7_readOperator_117 (by decide) (fun q => Gd.wk (kt q) ⟨rfl, ⟨rfl, trivial⟩⟩) (fun q => Gd.wk (kf q) ⟨rfl, ⟨rfl, trivial⟩⟩)
theorem bkX7_readOperator_120 {X : GX} {h : SH} {nc ns : Nat} {P : Out → SH → Prop} {a0 : Nat} {x1 : Int32} {as0 : Nat} {xs1 : Int32} (g : Gd X mX7_readOperator 126 [some (.ref a0), some (.int x1), none, none] [.int 5, .int xs1, .ref as0] (h) nc ns P) : Gd X mX7_readOperator 120 [some (.ref a0), some (.int x1), none, none] [.int xs1, .ref as0] h nc ns P := by
  refine g_iconst (v := 5) dX7_readOperator_120 (by decide) ?_
  refine g_goto (tgt := 126) dX7_readOperator_121 (by decide) ?_
  exact Gd.wk g ⟨rfl, ⟨rfl, trivial⟩⟩
theorem bkX7_readOperator_124 {X : GX} {h : SH} {nc ns : Nat} {P : Out → SH → Prop} {a0 : Nat} {x1 : Int32} {as0 : Nat} {xs1 : Int32} (g : Gd X mX7_readOperator 126 [some (.ref a0), some (.int x1), none, none] [.int 6, .int xs1, .ref as0] (h) nc ns P) : Gd X mX7_readOperator 124 [some (.ref a0), some (.int x1), none, none] [.int xs1, .ref as0] h nc ns P := by
  refine g_bipush (v := 6) dX7_readOperator_124 (by decide) ?_
  exact Gd.wk g ⟨rfl, ⟨rfl, trivial⟩⟩
theorem bkX7_readOperator_126 {X : GX} {h : SH} {nc ns : Nat} {P : Out → SH → Prop} {a0 : Nat} {x1 : Int32} {as0 : Nat} {xs1 : Int32} {xs2 : Int32} {n5 : Nat} (B0 : Ar h (as0) 20 n5) (i1 : vp_in (xs1) n5) (F2 : LX7 (Sk h) (a0)) (i3 : vp_in (x1) 6) (g : Gd X mX7_readOperator 139 [some (.ref a0), none, none, none] [] (sI (sI h as0 ((xs1 : Int32).toNatClampNeg) xs2) (a0 + 1) ((x1 : Int32).toNatClampNeg) 0) nc ns P) : Gd X mX7_readOperator 126 [some (.ref a0), some (.int x1), none, none] [.int xs2, .int xs1, .ref as0] h nc ns P := by
  refine g_iastore dX7_readOperator_126 B0 i1 ?_
  refine g_aload_n dX7_readOperator_127 rfl ?_
  refine g_getAs (c := 7) (k := 6) (b := a0 + 1) dX7_readOperator_128 (by decide) (by decide) kw_419 rfl (LX7.o (h := sI h as0 ((xs1 : Int32).toNatClampNeg) xs2) F2) (LX7.r_waitingJoins (h := sI h as0 ((xs1 : Int32).toNatClampNeg) xs2) F2) ?_
  refine g_iload_n dX7_readOperator_131 rfl ?_
  refine g_iconst (v := 0) dX7_readOperator_132 (by decide) ?_
  refine g_iastore dX7_readOperator_133 (LX7.a_waitingJoins (h := sI h as0 ((xs1 : Int32).toNatClampNeg) xs2) F2) i3 ?_
  refine g_goto (tgt := 139) dX7_readOperator_134 (by decide) ?_
  exact Gd.wk g ⟨rfl, trivial⟩
theorem bkX7_readOperator_137 {X : GX} {h : SH} {nc ns : Nat} {P : Out → SH → Prop} (hp : P (.inl (some (.int (0)))) (h)) : Gd X mX7_readOperator 137 [none, none, none, none] [] h nc ns P := by
  refine g_iconst (v := 0) dX7_readOperator_137 (by decide) ?_
  exact g_ireturn (st := []) dX7_readOperator_138 rfl (bl_n (by decide)) hp
theorem bkX7_readOperator_139 {X : GX} {h : SH} {nc ns : Nat} {P : Out → SH → Prop} {Q : SH → Prop} {a0 : Nat} (F0 : LX7 (Sk h) (a0)) (hN : Cd X mX9_toNext [.ref (a0 + 3)] (h) 0 0 (oV Q nX)) (g : ∀ t, Q t → Gd X mX7_readOperator 146 [none, none, none, none] [] (t) nc ns P) : Gd X mX7_readOperator 139 [some (.ref a0), none, none, none] [] h nc ns P := by
  refine g_aload_n dX7_readOperator_139 rfl ?_
  refine g_getAs (c := 7) (k := 0) (b := a0 + 3) dX7_readOperator_140 (by decide) (by decide) kw_413 rfl (LX7.o (h := h) F0) (LX7.r_tokens (h := h) F0) ?_
  refine Gd.z ?_
  exact g_callV (k := 9) [] dX7_readOperator_143 mfX9_toNext ⟨by decide, by decide⟩ kw_675 kw_591 kw_592 rfl (by decide) (Nat.le_of_ble_eq_true rfl) (by intro x hx; cases hx) (LX9.o (h := h) (LX7.l_tokens F0)) (Nat.le_of_ble_eq_true rfl) hN (fun _ _ q => q.elim) (oV_go (G := fun a b => Gd X mX7_readOperator 146 _ a b nc ns P) (fun t q => Gd.wk (g t q) trivial))
theorem bkX7_readOperator_146 {X : GX} {h : SH} {nc ns : Nat} {P : Out → SH → Prop} (hp : P (.inl (some (.int (1)))) (h)) : Gd X mX7_readOperator 146 [none, none, none, none] [] h nc ns P := by
  refine g_iconst (v := 1) dX7_readOperator_146 (by decide) ?_
  exact g_ireturn (st := []) dX7_readOperator_147 rfl (bl_n (by decide)) hp
theorem bkX7_openLevel_0 {X : GX} {h : SH} {nc ns : Nat} {P : Out → SH → Prop} {a0 : Nat} {x1 : Int32} (F0 : LX7 (Sk h) (a0)) (i1 : vp_in (x1) 6) (hp : P (.inl (none)) (sI (sI h (a0 + 1) ((x1 : Int32).toNatClampNeg) 0) (a0 + 2) ((x1 : Int32).toNatClampNeg) 0)) : Gd X mX7_openLevel 0 [some (.ref a0), some (.int x1)] [] h nc ns P := by
  refine g_aload_n dX7_openLevel_0 rfl ?_
  refine g_getAs (c := 7) (k := 6) (b := a0 + 1) dX7_openLevel_1 (by decide) (by decide) kw_419 rfl (LX7.o (h := h) F0) (LX7.r_waitingJoins (h := h) F0) ?_
  refine g_iload_n dX7_openLevel_4 rfl ?_
  refine g_iconst (v := 0) dX7_openLevel_5 (by decide) ?_
  refine g_iastore dX7_openLevel_6 (LX7.a_waitingJoins (h := h) F0) i1 ?_
  refine g_aload_n dX7_openLevel_7 rfl ?_
  refine g_getAs (c := 7) (k := 7) (b := a0 + 2) dX7_openLevel_8 (by decide) (by decide) kw_420 rfl (LX7.o (h := sI h (a0 + 1) ((x1 : Int32).toNatClampNeg) 0) F0) (LX7.r_waitingComparisons (h := sI h (a0 + 1) ((x1 : Int32).toNatClampNeg) 0) F0) ?_
  refine g_iload_n dX7_openLevel_11 rfl ?_
  refine g_iconst (v := 0) dX7_openLevel_12 (by decide) ?_
  refine g_iastore dX7_openLevel_13 (LX7.a_waitingComparisons (h := sI h (a0 + 1) ((x1 : Int32).toNatClampNeg) 0) F0) i1 ?_
  exact g_return (st := []) dX7_openLevel_14 rfl hp
theorem bkX7_addOperation_0 {X : GX} {h : SH} {nc ns : Nat} {P : Out → SH → Prop} {a0 : Nat} {x1 : Int32} (kt : x1 = 0 → Gd X mX7_addOperation 36 [none, none] [] (h) nc ns P) (kf : ¬ x1 = 0 → Gd X mX7_addOperation 4 [some (.ref a0), some (.int x1)] [] (h) nc ns P) : Gd X mX7_addOperation 0 [some (.ref a0), some (.int x1)] [] h nc ns P := by
  refine g_iload_n dX7_addOperation_0 rfl ?_
  exact g_if_eq (tgt := 36) dX7_addOperation_1 (by decide) (fun q => Gd.wk (kt q) trivial) (fun q => Gd.wk (kf q) ⟨rfl, ⟨rfl, trivial⟩⟩)
theorem bkX7_addOperation_4 {X : GX} {h : SH} {nc ns : Nat} {P : Out → SH → Prop} {a0 : Nat} {x1 : Int32} (F0 : LX7 (Sk h) (a0)) (kt : (Int32.ofNat (hN h (a0 + 9))) ≤ hI h a0 5 → Gd X mX7_addOperation 36 [none, none] [] (h) nc ns P) (kf : ¬ (Int32.ofNat (hN h (a0 + 9))) ≤ hI h a0 5 → Gd X mX7_addOperation 16 [some (.ref a0), some (.int x1)] [] (h) nc ns P) : Gd X mX7_addOperation 4 [some (.ref a0), some (.int x1)] [] h nc ns P := by
  refine g_aload_n dX7_addOperation_4 rfl ?_
  refine g_getI (c := 7) (k := 5) dX7_addOperation_5 (by decide) (by decide) kw_418 rfl (LX7.o (h := h) F0) ?_
  refine g_aload_n dX7_addOperation_8 rfl ?_
  refine g_getAs (c := 7) (k := 4) (b := a0 + 9) dX7_addOperation_9 (by decide) (by decide) kw_417 rfl (LX7.o (h := h) F0) (LX7.r_operations (h := h) F0) ?_
  refine g_alen (k := 20) dX7_addOperation_12 (by decide) (by decide) (LX7.a_operations (h := h) F0) ?_
  exact g_icmp_ge (tgt := 36) dX7_addOperation_13 (by decide) (fun q => Gd.wk (kt q) trivial) (fun q => Gd.wk (kf q) ⟨rfl, ⟨rfl, trivial⟩⟩)
theorem bkX7_addOperation_16 {X : GX} {h : SH} {nc ns : Nat} {P : Out → SH → Prop} {a0 : Nat} {x1 : Int32} (F0 : LX7 (Sk h) (a0)) (i1 : vp_in (hI h a0 5) (hN h (a0 + 9))) (g : Gd X mX7_addOperation 36 [none, none] [] (sI (sI h (a0 + 9) ((hI h a0 5 : Int32).toNatClampNeg) x1) a0 5 ((hI (sI h (a0 + 9) ((hI h a0 5 : Int32).toNatClampNeg) x1) a0 5) + 1)) nc ns P) : Gd X mX7_addOperation 16 [some (.ref a0), some (.int x1)] [] h nc ns P := by
  refine g_aload_n dX7_addOperation_16 rfl ?_
  refine g_getAs (c := 7) (k := 4) (b := a0 + 9) dX7_addOperation_17 (by decide) (by decide) kw_417 rfl (LX7.o (h := h) F0) (LX7.r_operations (h := h) F0) ?_
  refine g_aload_n dX7_addOperation_20 rfl ?_
  refine g_getI (c := 7) (k := 5) dX7_addOperation_21 (by decide) (by decide) kw_418 rfl (LX7.o (h := h) F0) ?_
  refine g_iload_n dX7_addOperation_24 rfl ?_
  refine g_iastore dX7_addOperation_25 (LX7.a_operations (h := h) F0) i1 ?_
  refine g_aload_n dX7_addOperation_26 rfl ?_
  refine g_dup dX7_addOperation_27 rfl ?_
  refine g_getI (c := 7) (k := 5) dX7_addOperation_28 (by decide) (by decide) kw_418 rfl (LX7.o (h := sI h (a0 + 9) ((hI h a0 5 : Int32).toNatClampNeg) x1) F0) ?_
  refine g_iconst (v := 1) dX7_addOperation_31 (by decide) ?_
  refine g_iadd dX7_addOperation_32 ?_
  refine g_put (c := 7) (k := 5) (h1 := sI (sI h (a0 + 9) ((hI h a0 5 : Int32).toNatClampNeg) x1) a0 5 ((hI (sI h (a0 + 9) ((hI h a0 5 : Int32).toNatClampNeg) x1) a0 5) + 1)) dX7_addOperation_33 (by decide) (by decide) kw_418 rfl (LX7.o (h := sI h (a0 + 9) ((hI h a0 5 : Int32).toNatClampNeg) x1) F0) rfl rfl (Put.I rfl) ?_
  exact Gd.wk g trivial
theorem bkX7_addOperation_36 {X : GX} {h : SH} {nc ns : Nat} {P : Out → SH → Prop} (hp : P (.inl (none)) (h)) : Gd X mX7_addOperation 36 [none, none] [] h nc ns P := by
  exact g_return (st := []) dX7_addOperation_36 rfl hp
