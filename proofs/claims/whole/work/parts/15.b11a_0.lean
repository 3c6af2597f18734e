theorem bkX11_thrown_0 {X : GX} {h : SH} {nc ns : Nat} {P : Out → SH → Prop} {a0 : Nat} (F0 : LX11 (Sk h) (a0)) (hp : P (.inl (some (.int (hI h a0 0)))) (h)) : Gd X mX11_thrown 0 [some (.ref a0)] [] h nc ns P := by
  refine g_aload_n dX11_thrown_0 rfl ?_
  refine g_getI (c := 11) (k := 0) dX11_thrown_1 (by decide) (by decide) kw_1127 rfl (LX11.o (h := h) F0) ?_
  exact g_ireturn (st := []) dX11_thrown_4 rfl rfl hp
theorem bkX11_feed_0 {X : GX} {h : SH} {nc ns : Nat} {P : Out → SH → Prop} {Q : SH → Prop} {a0 : Nat} {y1 : Int64} {y3 : Int64} {y5 : Int64} (F0 : LX11 (Sk h) (a0)) (hN : Cd X mX11_lay [.ref a0, .long y1] (sI h a0 0 0) 0 0 (oV Q nX)) (g : ∀ t, Q t → Gd X mX11_feed 10 [some (.ref a0), none, none, some (.long y3), none, some (.long y5), none] [] (t) nc ns P) : Gd X mX11_feed 0 [some (.ref a0), some (.long y1), none, some (.long y3), none, some (.long y5), none] [] h nc ns P := by
  refine g_aload_n dX11_feed_0 rfl ?_
  refine g_iconst (v := 0) dX11_feed_1 (by decide) ?_
  refine g_put (c := 11) (k := 0) (h1 := sI h a0 0 0) dX11_feed_2 (by decide) (by decide) kw_1127 rfl (LX11.o (h := h) F0) rfl rfl (Put.I rfl) ?_
  refine g_aload_n dX11_feed_5 rfl ?_
  refine g_lload_n dX11_feed_6 rfl ?_
  refine Gd.z ?_
  exact g_callV (k := 11) [.long y1] dX11_feed_7 mfX11_lay ⟨by decide, by decide⟩ kw_1106 kw_1108 kw_43 rfl (by decide) (Nat.le_of_ble_eq_true rfl) (by intro x hx; cases hx) (LX11.o (h := sI h a0 0 0) F0) (Nat.le_of_ble_eq_true rfl) hN (fun _ _ q => q.elim) (oV_go (G := fun a b => Gd X mX11_feed 10 _ a b nc ns P) (fun t q => Gd.wk (g t q) ⟨rfl, ⟨rfl, ⟨rfl, trivial⟩⟩⟩))
theorem bkX11_feed_10 {X : GX} {h : SH} {nc ns : Nat} {P : Out → SH → Prop} {Q : SH → Prop} {a0 : Nat} {y3 : Int64} {y5 : Int64} (F0 : LX11 (Sk h) (a0)) (hN : Cd X mX11_lay [.ref a0, .long y3] (h) 0 0 (oV Q nX)) (g : ∀ t, Q t → Gd X mX11_feed 15 [some (.ref a0), none, none, none, none, some (.long y5), none] [] (t) nc ns P) : Gd X mX11_feed 10 [some (.ref a0), none, none, some (.long y3), none, some (.long y5), none] [] h nc ns P := by
  refine g_aload_n dX11_feed_10 rfl ?_
  refine g_lload_n dX11_feed_11 rfl ?_
  refine Gd.z ?_
  exact g_callV (k := 11) [.long y3] dX11_feed_12 mfX11_lay ⟨by decide, by decide⟩ kw_1106 kw_1108 kw_43 rfl (by decide) (Nat.le_of_ble_eq_true rfl) (by intro x hx; cases hx) (LX11.o (h := h) F0) (Nat.le_of_ble_eq_true rfl) hN (fun _ _ q => q.elim) (oV_go (G := fun a b => Gd X mX11_feed 15 _ a b nc ns P) (fun t q => Gd.wk (g t q) ⟨rfl, ⟨rfl, trivial⟩⟩))
theorem bkX11_feed_15 {X : GX} {h : SH} {nc ns : Nat} {P : Out → SH → Prop} {Q : SH → Prop} {a0 : Nat} {y5 : Int64} (F0 : LX11 (Sk h) (a0)) (hN : Cd X mX11_lay [.ref a0, .long y5] (h) 0 0 (oV Q nX)) (g : ∀ t, Q t → Gd X mX11_feed 21 [some (.ref a0), none, none, none, none, none, none] [] (t) nc ns P) : Gd X mX11_feed 15 [some (.ref a0), none, none, none, none, some (.long y5), none] [] h nc ns P := by
  refine g_aload_n dX11_feed_15 rfl ?_
  refine g_lload dX11_feed_16 rfl ?_
  refine Gd.z ?_
  exact g_callV (k := 11) [.long y5] dX11_feed_18 mfX11_lay ⟨by decide, by decide⟩ kw_1106 kw_1108 kw_43 rfl (by decide) (Nat.le_of_ble_eq_true rfl) (by intro x hx; cases hx) (LX11.o (h := h) F0) (Nat.le_of_ble_eq_true rfl) hN (fun _ _ q => q.elim) (oV_go (G := fun a b => Gd X mX11_feed 21 _ a b nc ns P) (fun t q => Gd.wk (g t q) ⟨rfl, trivial⟩))
theorem bkX11_feed_21 {X : GX} {h : SH} {nc ns : Nat} {P : Out → SH → Prop} {a0 : Nat} (F0 : LX11 (Sk h) (a0)) (hp : P (.inl (some (.int (hI h a0 2)))) (h)) : Gd X mX11_feed 21 [some (.ref a0), none, none, none, none, none, none] [] h nc ns P := by
  refine g_aload_n dX11_feed_21 rfl ?_
  refine g_getI (c := 11) (k := 2) dX11_feed_22 (by decide) (by decide) kw_1129 rfl (LX11.o (h := h) F0) ?_
  exact g_ireturn (st := []) dX11_feed_25 rfl rfl hp
theorem bkX11_lay_0 {X : GX} {h : SH} {nc ns : Nat} {P : Out → SH → Prop} {a0 : Nat} {y1 : Int64} (g : Gd X mX11_lay 3 [some (.ref a0), some (.long y1), none, some (.int 56), none] [] (h) nc ns P) : Gd X mX11_lay 0 [some (.ref a0), some (.long y1), none, none, none] [] h nc ns P := by
  refine g_bipush (v := 56) dX11_lay_0 (by decide) ?_
  refine g_istore_n (L' := [some (.ref a0), some (.long y1), none, some (.int 56), none]) dX11_lay_2 (by decide) rfl ?_
  exact Gd.wk g ⟨rfl, ⟨rfl, ⟨rfl, trivial⟩⟩⟩
theorem bkX11_lay_3 {X : GX} {h : SH} {nc ns : Nat} {P : Out → SH → Prop} {a0 : Nat} {y1 : Int64} {x3 : Int32} (kt : x3 < 0 → Gd X mX11_lay 75 [none, none, none, none, none] [] (h) nc ns P) (kf : ¬ x3 < 0 → Gd X mX11_lay 7 [some (.ref a0), some (.long y1), none, some (.int x3), none] [] (h) nc ns P) : Gd X mX11_lay 3 [some (.ref a0), some (.long y1), none, some (.int x3), none] [] h nc ns P := by
  refine g_iload_n dX11_lay_3 rfl ?_
  exact g_if_lt (tgt := 75) dX11_lay_4 (by decide) (fun q => Gd.wk (kt q) trivial) (fun q => Gd.wk (kf q) ⟨rfl, ⟨rfl, ⟨rfl, trivial⟩⟩⟩)
theorem bkX11_lay_7 {X : GX} {h : SH} {nc ns : Nat} {P : Out → SH → Prop} {a0 : Nat} {y1 : Int64} {x3 : Int32} (kt : (((y1 >>> ((x3 : Int32).toInt64 &&& 63) : Int64).toInt32) &&& 255) = 10 → Gd X mX11_lay 38 [some (.ref a0), some (.long y1), none, some (.int x3), some (.int (((y1 >>> ((x3 : Int32).toInt64 &&& 63) : Int64).toInt32) &&& 255))] [] (h) nc ns P) (kf : ¬ (((y1 >>> ((x3 : Int32).toInt64 &&& 63) : Int64).toInt32) &&& 255) = 10 → Gd X mX11_lay 24 [some (.ref a0), some (.long y1), none, some (.int x3), some (.int (((y1 >>> ((x3 : Int32).toInt64 &&& 63) : Int64).toInt32) &&& 255))] [] (h) nc ns P) : Gd X mX11_lay 7 [some (.ref a0), some (.long y1), none, some (.int x3), none] [] h nc ns P := by
  refine g_lload_n dX11_lay_7 rfl ?_
  refine g_iload_n dX11_lay_8 rfl ?_
  refine g_lshr dX11_lay_9 ?_
  refine g_l2i dX11_lay_10 ?_
  refine g_sipush (v := 255) dX11_lay_11 (by decide) ?_
  refine g_iand dX11_lay_14 ?_
  refine g_istore (L' := [some (.ref a0), some (.long y1), none, some (.int x3), some (.int (((y1 >>> ((x3 : Int32).toInt64 &&& 63) : Int64).toInt32) &&& 255))]) dX11_lay_15 (by decide) rfl ?_
  refine g_iload dX11_lay_17 rfl ?_
  refine g_bipush (v := 10) dX11_lay_19 (by decide) ?_
  exact g_icmp_eq (tgt := 38) dX11_lay_21 (by decide) (fun q => Gd.wk (kt q) ⟨rfl, ⟨rfl, ⟨rfl, ⟨rfl, trivial⟩⟩⟩⟩) (fun q => Gd.wk (kf q) ⟨rfl, ⟨rfl, ⟨rfl, ⟨rfl, trivial⟩⟩⟩⟩)
theorem bkX11_lay_24 {X : GX} {h : SH} {nc ns : Nat} {P : Out → SH → Prop} {a0 : Nat} {y1 : Int64} {x3 : Int32} {x4 : Int32} (kt : x4 < 32 → Gd X mX11_lay 69 [some (.ref a0), some (.long y1), none, some (.int x3), none] [] (h) nc ns P) (kf : ¬ x4 < 32 → Gd X mX11_lay 31 [some (.ref a0), some (.long y1), none, some (.int x3), some (.int x4)] [] (h) nc ns P) : Gd X mX11_lay 24 [some (.ref a0), some (.long y1), none, some (.int x3), some (.int x4)] [] h nc ns P := by
  refine g_iload dX11_lay_24 rfl ?_
  refine g_bipush (v := 32) dX11_lay_26 (by decide) ?_
  exact g_icmp_lt (tgt := 69) dX11_lay_28 (by decide) (fun q => Gd.wk (kt q) ⟨rfl, ⟨rfl, ⟨rfl, trivial⟩⟩⟩) (fun q => Gd.wk (kf q) ⟨rfl, ⟨rfl, ⟨rfl, ⟨rfl, trivial⟩⟩⟩⟩)
theorem bkX11_lay_31 {X : GX} {h : SH} {nc ns : Nat} {P : Out → SH → Prop} {a0 : Nat} {y1 : Int64} {x3 : Int32} {x4 : Int32} (kt : (126 : Int32) < x4 → Gd X mX11_lay 69 [some (.ref a0), some (.long y1), none, some (.int x3), none] [] (h) nc ns P) (kf : ¬ (126 : Int32) < x4 → Gd X mX11_lay 38 [some (.ref a0), some (.long y1), none, some (.int x3), some (.int x4)] [] (h) nc ns P) : Gd X mX11_lay 31 [some (.ref a0), some (.long y1), none, some (.int x3), some (.int x4)] [] h nc ns P := by
  refine g_iload dX11_lay_31 rfl ?_
  refine g_bipush (v := 126) dX11_lay_33 (by decide) ?_
  exact g_icmp_gt (tgt := 69) dX11_lay_35 (by decide) (fun q => Gd.wk (kt q) ⟨rfl, ⟨rfl, ⟨rfl, trivial⟩⟩⟩) (fun q => Gd.wk (kf q) ⟨rfl, ⟨rfl, ⟨rfl, ⟨rfl, trivial⟩⟩⟩⟩)
theorem bkX11_lay_38 {X : GX} {h : SH} {nc ns : Nat} {P : Out → SH → Prop} {a0 : Nat} {y1 : Int64} {x3 : Int32} {x4 : Int32} (F0 : LX11 (Sk h) (a0)) (kt : (2400 : Int32) ≤ hI h a0 2 → Gd X mX11_lay 69 [some (.ref a0), some (.long y1), none, some (.int x3), none] [] (h) nc ns P) (kf : ¬ (2400 : Int32) ≤ hI h a0 2 → Gd X mX11_lay 48 [some (.ref a0), some (.long y1), none, some (.int x3), some (.int x4)] [] (h) nc ns P) : Gd X mX11_lay 38 [some (.ref a0), some (.long y1), none, some (.int x3), some (.int x4)] [] h nc ns P := by
  refine g_aload_n dX11_lay_38 rfl ?_
  refine g_getI (c := 11) (k := 2) dX11_lay_39 (by decide) (by decide) kw_1129 rfl (LX11.o (h := h) F0) ?_
  refine g_sipush (v := 2400) dX11_lay_42 (by decide) ?_
  exact g_icmp_ge (tgt := 69) dX11_lay_45 (by decide) (fun q => Gd.wk (kt q) ⟨rfl, ⟨rfl, ⟨rfl, trivial⟩⟩⟩) (fun q => Gd.wk (kf q) ⟨rfl, ⟨rfl, ⟨rfl, ⟨rfl, trivial⟩⟩⟩⟩)
theorem bkX11_lay_48 {X : GX} {h : SH} {nc ns : Nat} {P : Out → SH → Prop} {a0 : Nat} {y1 : Int64} {x3 : Int32} {x4 : Int32} (F0 : LX11 (Sk h) (a0)) (i1 : vp_in (hI h a0 2) 2400) (g : Gd X mX11_lay 69 [some (.ref a0), some (.long y1), none, some (.int x3), none] [] (sI (sI h (a0 + 1) ((hI h a0 2 : Int32).toNatClampNeg) x4) a0 2 ((hI (sI h (a0 + 1) ((hI h a0 2 : Int32).toNatClampNeg) x4) a0 2) + 1)) nc ns P) : Gd X mX11_lay 48 [some (.ref a0), some (.long y1), none, some (.int x3), some (.int x4)] [] h nc ns P := by
  refine g_aload_n dX11_lay_48 rfl ?_
  refine g_getAs (c := 11) (k := 1) (b := a0 + 1) dX11_lay_49 (by decide) (by decide) kw_1128 rfl (LX11.o (h := h) F0) (LX11.r_tape (h := h) F0) ?_
  refine g_aload_n dX11_lay_52 rfl ?_
  refine g_getI (c := 11) (k := 2) dX11_lay_53 (by decide) (by decide) kw_1129 rfl (LX11.o (h := h) F0) ?_
  refine g_iload dX11_lay_56 rfl ?_
  refine g_iastore dX11_lay_58 (LX11.a_tape (h := h) F0) i1 ?_
  refine g_aload_n dX11_lay_59 rfl ?_
  refine g_dup dX11_lay_60 rfl ?_
  refine g_getI (c := 11) (k := 2) dX11_lay_61 (by decide) (by decide) kw_1129 rfl (LX11.o (h := sI h (a0 + 1) ((hI h a0 2 : Int32).toNatClampNeg) x4) F0) ?_
  refine g_iconst (v := 1) dX11_lay_64 (by decide) ?_
  refine g_iadd dX11_lay_65 ?_
  refine g_put (c := 11) (k := 2) (h1 := sI (sI h (a0 + 1) ((hI h a0 2 : Int32).toNatClampNeg) x4) a0 2 ((hI (sI h (a0 + 1) ((hI h a0 2 : Int32).toNatClampNeg) x4) a0 2) + 1)) dX11_lay_66 (by decide) (by decide) kw_1129 rfl (LX11.o (h := sI h (a0 + 1) ((hI h a0 2 : Int32).toNatClampNeg) x4) F0) rfl rfl (Put.I rfl) ?_
  exact Gd.wk g ⟨rfl, ⟨rfl, ⟨rfl, trivial⟩⟩⟩
theorem bkX11_lay_69 {X : GX} {h : SH} {nc ns : Nat} {P : Out → SH → Prop} {a0 : Nat} {y1 : Int64} {x3 : Int32} (g : Gd X mX11_lay 3 [some (.ref a0), some (.long y1), none, some (.int (x3 + (-8))), none] [] (h) nc ns P) : Gd X mX11_lay 69 [some (.ref a0), some (.long y1), none, some (.int x3), none] [] h nc ns P := by
  refine g_iinc (v := x3 + (-8)) (L' := [some (.ref a0), some (.long y1), none, some (.int (x3 + (-8))), none]) dX11_lay_69 rfl rfl (by decide) rfl ?_
  refine g_goto (tgt := 3) dX11_lay_72 (by decide) ?_
  exact Gd.wk g ⟨rfl, ⟨rfl, ⟨rfl, trivial⟩⟩⟩
theorem bkX11_lay_75 {X : GX} {h : SH} {nc ns : Nat} {P : Out → SH → Prop} (hp : P (.inl (none)) (h)) : Gd X mX11_lay 75 [none, none, none, none, none] [] h nc ns P := by
  exact g_return (st := []) dX11_lay_75 rfl hp
theorem bkX11_init_0 {X : GX} {h : SH} {nc ns : Nat} {P : Out → SH → Prop} {a0 : Nat} (g : Gd X mX11_init 4 [some (.ref a0)] [] (h) nc ns P) : Gd X mX11_init 0 [some (.ref a0)] [] h nc ns P := by
  refine g_aload_n dX11_init_0 rfl ?_
  refine g_objInit dX11_init_1 kw_1115 kw_124 kw_125 (by decide) (Nat.le_of_ble_eq_true rfl) ?_
  exact Gd.wk g ⟨rfl, trivial⟩
theorem bkX11_init_4 {X : GX} {h : SH} {nc ns : Nat} {P : Out → SH → Prop} {a0 : Nat} (g : Gd X mX11_init 10 [some (.ref a0)] [.ref (hz h), .ref a0] (nw h 20 2400) nc ns P) : Gd X mX11_init 4 [some (.ref a0)] [] h (nc + 1) (ns + 2400) P := by
  refine g_aload_n dX11_init_4 rfl ?_
  refine g_sipush (v := 2400) dX11_init_5 (by decide) ?_
  refine g_newarrN (k := 20) (N := 2400) dX11_init_8 (by decide) (by decide) rfl kw_145 (by decide) (by decide) (by decide) ?_
  exact Gd.wk g ⟨rfl, trivial⟩
theorem bkX11_init_10 {X : GX} {h : SH} {nc ns : Nat} {P : Out → SH → Prop} {a0 : Nat} {as0 : Nat} {as1 : Nat} (F0 : LX11 (Sk h) (as0)) (g : Gd X mX11_init 13 [some (.ref a0)] [] (sA h as0 1 (some (as1))) nc ns P) : Gd X mX11_init 10 [some (.ref a0)] [.ref as1, .ref as0] h nc ns P := by
  refine g_putF (c := 11) (k := 1) (v := va_rf (some (as1))) (h1 := sA h as0 1 (some (as1))) dX11_init_10 (by decide) (by decide) kw_1128 rfl rfl rfl (LX11.o (h := h) F0) (rf_n rfl) (rf_f rfl) (Put.A rfl) ?_
  exact Gd.wk g ⟨rfl, trivial⟩
theorem bkX11_init_13 {X : GX} {h : SH} {nc ns : Nat} {P : Out → SH → Prop} {a0 : Nat} (g : Gd X mX11_init 19 [some (.ref a0)] [.ref (hz h), .ref a0] (nw h 20 2402) nc ns P) : Gd X mX11_init 13 [some (.ref a0)] [] h (nc + 1) (ns + 2402) P := by
  refine g_aload_n dX11_init_13 rfl ?_
  refine g_sipush (v := 2402) dX11_init_14 (by decide) ?_
  refine g_newarrN (k := 20) (N := 2402) dX11_init_17 (by decide) (by decide) rfl kw_145 (by decide) (by decide) (by decide) ?_
  exact Gd.wk g ⟨rfl, trivial⟩
theorem bkX11_init_19 {X : GX} {h : SH} {nc ns : Nat} {P : Out → SH → Prop} {a0 : Nat} {as0 : Nat} {as1 : Nat} (F0 : LX11 (Sk h) (as0)) (g : Gd X mX11_init 22 [some (.ref a0)] [] (sA h as0 4 (some (as1))) nc ns P) : Gd X mX11_init 19 [some (.ref a0)] [.ref as1, .ref as0] h nc ns P := by
  refine g_putF (c := 11) (k := 4) (v := va_rf (some (as1))) (h1 := sA h as0 4 (some (as1))) dX11_init_19 (by decide) (by decide) kw_1131 rfl rfl rfl (LX11.o (h := h) F0) (rf_n rfl) (rf_f rfl) (Put.A rfl) ?_
  exact Gd.wk g ⟨rfl, trivial⟩
theorem bkX11_init_22 {X : GX} {h : SH} {nc ns : Nat} {P : Out → SH → Prop} {a0 : Nat} (g : Gd X mX11_init 28 [some (.ref a0)] [.ref (hz h), .ref a0] (nw h 20 2402) nc ns P) : Gd X mX11_init 22 [some (.ref a0)] [] h (nc + 1) (ns + 2402) P := by
  refine g_aload_n dX11_init_22 rfl ?_
  refine g_sipush (v := 2402) dX11_init_23 (by decide) ?_
  refine g_newarrN (k := 20) (N := 2402) dX11_init_26 (by decide) (by decide) rfl kw_145 (by decide) (by decide) (by decide) ?_
  exact Gd.wk g ⟨rfl, trivial⟩
theorem bkX11_init_28 {X : GX} {h : SH} {nc ns : Nat} {P : Out → SH → Prop} {a0 : Nat} {as0 : Nat} {as1 : Nat} (F0 : LX11 (Sk h) (as0)) (g : Gd X mX11_init 31 [some (.ref a0)] [] (sA h as0 5 (some (as1))) nc ns P) : Gd X mX11_init 28 [some (.ref a0)] [.ref as1, .ref as0] h nc ns P := by
  refine g_putF (c := 11) (k := 5) (v := va_rf (some (as1))) (h1 := sA h as0 5 (some (as1))) dX11_init_28 (by decide) (by decide) kw_1132 rfl rfl rfl (LX11.o (h := h) F0) (rf_n rfl) (rf_f rfl) (Put.A rfl) ?_
  exact Gd.wk g ⟨rfl, trivial⟩
theorem bkX11_init_31 {X : GX} {h : SH} {nc ns : Nat} {P : Out → SH → Prop} {a0 : Nat} (g : Gd X mX11_init 37 [some (.ref a0)] [.ref (hz h), .ref a0] (nw h 23 2402) nc ns P) : Gd X mX11_init 31 [some (.ref a0)] [] h (nc + 1) (ns + 2402) P := by
  refine g_aload_n dX11_init_31 rfl ?_
  refine g_sipush (v := 2402) dX11_init_32 (by decide) ?_
  refine g_newarrN (k := 23) (N := 2402) dX11_init_35 (by decide) (by decide) rfl kw_361 (by decide) (by decide) (by decide) ?_
  exact Gd.wk g ⟨rfl, trivial⟩
theorem bkX11_init_37 {X : GX} {h : SH} {nc ns : Nat} {P : Out → SH → Prop} {a0 : Nat} {as0 : Nat} {as1 : Nat} (F0 : LX11 (Sk h) (as0)) (g : Gd X mX11_init 40 [some (.ref a0)] [] (sA h as0 6 (some (as1))) nc ns P) : Gd X mX11_init 37 [some (.ref a0)] [.ref as1, .ref as0] h nc ns P := by
  refine g_putF (c := 11) (k := 6) (v := va_rf (some (as1))) (h1 := sA h as0 6 (some (as1))) dX11_init_37 (by decide) (by decide) kw_1133 rfl rfl rfl (LX11.o (h := h) F0) (rf_n rfl) (rf_f rfl) (Put.A rfl) ?_
  exact Gd.wk g ⟨rfl, trivial⟩
theorem bkX11_init_40 {X : GX} {h : SH} {nc ns : Nat} {P : Out → SH → Prop} {a0 : Nat} (g : Gd X mX11_init 45 [some (.ref a0)] [.ref (hz h), .ref a0] (nw h 23 11) nc ns P) : Gd X mX11_init 40 [some (.ref a0)] [] h (nc + 1) (ns + 11) P := by
  refine g_aload_n dX11_init_40 rfl ?_
  refine g_bipush (v := 11) dX11_init_41 (by decide) ?_
  refine g_newarrN (k := 23) (N := 11) dX11_init_43 (by decide) (by decide) rfl kw_361 (by decide) (by decide) (by decide) ?_
  exact Gd.wk g ⟨rfl, trivial⟩
theorem bkX11_init_45 {X : GX} {h : SH} {nc ns : Nat} {P : Out → SH → Prop} {a0 : Nat} {as0 : Nat} {as1 : Nat} {n3 : Nat} (B0 : Ar h (as1) 23 n3) (i1 : vp_in (0) n3) (i2 : vp_in (1) n3) (i3 : vp_in (2) n3) (i4 : vp_in (3) n3) (g : Gd X mX11_init 69 [some (.ref a0)] [.ref as1, .ref as0] (sJ (sJ (sJ (sJ h as1 ((0 : Int32).toNatClampNeg) 305418) as1 ((1 : Int32).toNatClampNeg) 755) as1 ((2 : Int32).toNatClampNeg) 230601913) as1 ((3 : Int32).toNatClampNeg) 57) nc ns P) : Gd X mX11_init 45 [some (.ref a0)] [.ref as1, .ref as0] h nc ns P := by
  refine g_dup dX11_init_45 rfl ?_
  refine g_iconst (v := 0) dX11_init_46 (by decide) ?_
  refine g_ldc2 (v := 305418) dX11_init_47 kw_1116 ?_
  refine g_lastore dX11_init_50 B0 i1 ?_
  refine g_dup dX11_init_51 rfl ?_
  refine g_iconst (v := 1) dX11_init_52 (by decide) ?_
  refine g_ldc2 (v := 755) dX11_init_53 kw_1117 ?_
  refine g_lastore dX11_init_56 B0 i2 ?_
  refine g_dup dX11_init_57 rfl ?_
  refine g_iconst (v := 2) dX11_init_58 (by decide) ?_
  refine g_ldc2 (v := 230601913) dX11_init_59 kw_1118 ?_
  refine g_lastore dX11_init_62 B0 i3 ?_
  refine g_dup dX11_init_63 rfl ?_
  refine g_iconst (v := 3) dX11_init_64 (by decide) ?_
  refine g_ldc2 (v := 57) dX11_init_65 kw_1119 ?_
  refine g_lastore dX11_init_68 B0 i4 ?_
  exact Gd.wk g ⟨rfl, trivial⟩
theorem bkX11_init_69 {X : GX} {h : SH} {nc ns : Nat} {P : Out → SH → Prop} {a0 : Nat} {as0 : Nat} {as1 : Nat} {n3 : Nat} (B0 : Ar h (as1) 23 n3) (i1 : vp_in (4) n3) (i2 : vp_in (5) n3) (i3 : vp_in (6) n3) (i4 : vp_in (7) n3) (g : Gd X mX11_init 95 [some (.ref a0)] [.ref as1, .ref as0] (sJ (sJ (sJ (sJ h as1 ((4 : Int32).toNatClampNeg) 687961) as1 ((5 : Int32).toNatClampNeg) 1176170) as1 ((6 : Int32).toNatClampNeg) 26498531) as1 ((7 : Int32).toNatClampNeg) 103360) nc ns P) : Gd X mX11_init 69 [some (.ref a0)] [.ref as1, .ref as0] h nc ns P := by
  refine g_dup dX11_init_69 rfl ?_
  refine g_iconst (v := 4) dX11_init_70 (by decide) ?_
  refine g_ldc2 (v := 687961) dX11_init_71 kw_1120 ?_
  refine g_lastore dX11_init_74 B0 i1 ?_
  refine g_dup dX11_init_75 rfl ?_
  refine g_iconst (v := 5) dX11_init_76 (by decide) ?_
  refine g_ldc2 (v := 1176170) dX11_init_77 kw_1121 ?_
  refine g_lastore dX11_init_80 B0 i2 ?_
  refine g_dup dX11_init_81 rfl ?_
  refine g_bipush (v := 6) dX11_init_82 (by decide) ?_
  refine g_ldc2 (v := 26498531) dX11_init_84 kw_1122 ?_
  refine g_lastore dX11_init_87 B0 i3 ?_
  refine g_dup dX11_init_88 rfl ?_
  refine g_bipush (v := 7) dX11_init_89 (by decide) ?_
  refine g_ldc2 (v := 103360) dX11_init_91 kw_1123 ?_
  refine g_lastore dX11_init_94 B0 i4 ?_
  exact Gd.wk g ⟨rfl, trivial⟩
theorem bkX11_init_95 {X : GX} {h : SH} {nc ns : Nat} {P : Out → SH → Prop} {a0 : Nat} {as0 : Nat} {as1 : Nat} {n3 : Nat} (B0 : Ar h (as1) 23 n3) (i1 : vp_in (8) n3) (i2 : vp_in (9) n3) (i3 : vp_in (10) n3) (F4 : LX11 (Sk h) (as0)) (g : Gd X mX11_init 119 [some (.ref a0)] [] (sA (sJ (sJ (sJ h as1 ((8 : Int32).toNatClampNeg) 964720) as1 ((9 : Int32).toNatClampNeg) 24833) as1 ((10 : Int32).toNatClampNeg) 5538) as0 9 (some (as1))) nc ns P) : Gd X mX11_init 95 [some (.ref a0)] [.ref as1, .ref as0] h nc ns P := by
  refine g_dup dX11_init_95 rfl ?_
  refine g_bipush (v := 8) dX11_init_96 (by decide) ?_
  refine g_ldc2 (v := 964720) dX11_init_98 kw_1124 ?_
  refine g_lastore dX11_init_101 B0 i1 ?_
  refine g_dup dX11_init_102 rfl ?_
  refine g_bipush (v := 9) dX11_init_103 (by decide) ?_
  refine g_ldc2 (v := 24833) dX11_init_105 kw_1125 ?_
  refine g_lastore dX11_init_108 B0 i2 ?_
  refine g_dup dX11_init_109 rfl ?_
  refine g_bipush (v := 10) dX11_init_110 (by decide) ?_
  refine g_ldc2 (v := 5538) dX11_init_112 kw_1126 ?_
  refine g_lastore dX11_init_115 B0 i3 ?_
  refine g_putF (c := 11) (k := 9) (v := va_rf (some (as1))) (h1 := sA (sJ (sJ (sJ h as1 ((8 : Int32).toNatClampNeg) 964720) as1 ((9 : Int32).toNatClampNeg) 24833) as1 ((10 : Int32).toNatClampNeg) 5538) as0 9 (some (as1))) dX11_init_116 (by decide) (by decide) kw_1136 rfl rfl rfl (LX11.o (h := sJ (sJ (sJ h as1 ((8 : Int32).toNatClampNeg) 964720) as1 ((9 : Int32).toNatClampNeg) 24833) as1 ((10 : Int32).toNatClampNeg) 5538) F4) (rf_n rfl) (rf_f rfl) (Put.A rfl) ?_
  exact Gd.wk g ⟨rfl, trivial⟩
theorem bkX11_init_119 {X : GX} {h : SH} {nc ns : Nat} {P : Out → SH → Prop} {a0 : Nat} (g : Gd X mX11_init 124 [some (.ref a0)] [.ref (hz h), .ref a0] (nw h 20 6) nc ns P) : Gd X mX11_init 119 [some (.ref a0)] [] h (nc + 1) (ns + 6) P := by
  refine g_aload_n dX11_init_119 rfl ?_
  refine g_bipush (v := 6) dX11_init_120 (by decide) ?_
  refine g_newarrN (k := 20) (N := 6) dX11_init_122 (by decide) (by decide) rfl kw_145 (by decide) (by decide) (by decide) ?_
  exact Gd.wk g ⟨rfl, trivial⟩
theorem bkX11_init_124 {X : GX} {h : SH} {nc ns : Nat} {P : Out → SH → Prop} {a0 : Nat} {as0 : Nat} {as1 : Nat} (F0 : LX11 (Sk h) (as0)) (g : Gd X mX11_init 127 [some (.ref a0)] [] (sA h as0 11 (some (as1))) nc ns P) : Gd X mX11_init 124 [some (.ref a0)] [.ref as1, .ref as0] h nc ns P := by
  refine g_putF (c := 11) (k := 11) (v := va_rf (some (as1))) (h1 := sA h as0 11 (some (as1))) dX11_init_124 (by decide) (by decide) kw_1138 rfl rfl rfl (LX11.o (h := h) F0) (rf_n rfl) (rf_f rfl) (Put.A rfl) ?_
  exact Gd.wk g ⟨rfl, trivial⟩
theorem bkX11_init_127 {X : GX} {h : SH} {nc ns : Nat} {P : Out → SH → Prop} {a0 : Nat} (g : Gd X mX11_init 132 [some (.ref a0)] [.ref (hz h), .ref a0] (nw h 20 7) nc ns P) : Gd X mX11_init 127 [some (.ref a0)] [] h (nc + 1) (ns + 7) P := by
  refine g_aload_n dX11_init_127 rfl ?_
  refine g_bipush (v := 7) dX11_init_128 (by decide) ?_
  refine g_newarrN (k := 20) (N := 7) dX11_init_130 (by decide) (by decide) rfl kw_145 (by decide) (by decide) (by decide) ?_
  exact Gd.wk g ⟨rfl, trivial⟩
theorem bkX11_init_132 {X : GX} {h : SH} {nc ns : Nat} {P : Out → SH → Prop} {a0 : Nat} {as0 : Nat} {as1 : Nat} (F0 : LX11 (Sk h) (as0)) (g : Gd X mX11_init 135 [some (.ref a0)] [] (sA h as0 12 (some (as1))) nc ns P) : Gd X mX11_init 132 [some (.ref a0)] [.ref as1, .ref as0] h nc ns P := by
  refine g_putF (c := 11) (k := 12) (v := va_rf (some (as1))) (h1 := sA h as0 12 (some (as1))) dX11_init_132 (by decide) (by decide) kw_1139 rfl rfl rfl (LX11.o (h := h) F0) (rf_n rfl) (rf_f rfl) (Put.A rfl) ?_
  exact Gd.wk g ⟨rfl, trivial⟩
theorem bkX11_init_135 {X : GX} {h : SH} {nc ns : Nat} {P : Out → SH → Prop} {a0 : Nat} (g : Gd X mX11_init 140 [some (.ref a0)] [.ref (hz h), .ref a0] (nw h 23 56) nc ns P) : Gd X mX11_init 135 [some (.ref a0)] [] h (nc + 1) (ns + 56) P := by
  refine g_aload_n dX11_init_135 rfl ?_
  refine g_bipush (v := 56) dX11_init_136 (by decide) ?_
  refine g_newarrN (k := 23) (N := 56) dX11_init_138 (by decide) (by decide) rfl kw_361 (by decide) (by decide) (by decide) ?_
  exact Gd.wk g ⟨rfl, trivial⟩
theorem bkX11_init_140 {X : GX} {h : SH} {nc ns : Nat} {P : Out → SH → Prop} {a0 : Nat} {as0 : Nat} {as1 : Nat} (F0 : LX11 (Sk h) (as0)) (g : Gd X mX11_init 143 [some (.ref a0)] [] (sA h as0 13 (some (as1))) nc ns P) : Gd X mX11_init 140 [some (.ref a0)] [.ref as1, .ref as0] h nc ns P := by
  refine g_putF (c := 11) (k := 13) (v := va_rf (some (as1))) (h1 := sA h as0 13 (some (as1))) dX11_init_140 (by decide) (by decide) kw_1140 rfl rfl rfl (LX11.o (h := h) F0) (rf_n rfl) (rf_f rfl) (Put.A rfl) ?_
  exact Gd.wk g ⟨rfl, trivial⟩
theorem bkX11_init_143 {X : GX} {h : SH} {nc ns : Nat} {P : Out → SH → Prop} {a0 : Nat} (g : Gd X mX11_init 148 [some (.ref a0)] [.ref (hz h), .ref a0] (nw h 20 56) nc ns P) : Gd X mX11_init 143 [some (.ref a0)] [] h (nc + 1) (ns + 56) P := by
  refine g_aload_n dX11_init_143 rfl ?_
  refine g_bipush (v := 56) dX11_init_144 (by decide) ?_
  refine g_newarrN (k := 20) (N := 56) dX11_init_146 (by decide) (by decide) rfl kw_145 (by decide) (by decide) (by decide) ?_
  exact Gd.wk g ⟨rfl, trivial⟩
theorem bkX11_init_148 {X : GX} {h : SH} {nc ns : Nat} {P : Out → SH → Prop} {a0 : Nat} {as0 : Nat} {as1 : Nat} (F0 : LX11 (Sk h) (as0)) (g : Gd X mX11_init 151 [some (.ref a0)] [] (sA h as0 14 (some (as1))) nc ns P) : Gd X mX11_init 148 [some (.ref a0)] [.ref as1, .ref as0] h nc ns P := by
  refine g_putF (c := 11) (k := 14) (v := va_rf (some (as1))) (h1 := sA h as0 14 (some (as1))) dX11_init_148 (by decide) (by decide) kw_1141 rfl rfl rfl (LX11.o (h := h) F0) (rf_n rfl) (rf_f rfl) (Put.A rfl) ?_
  exact Gd.wk g ⟨rfl, trivial⟩
theorem bkX11_init_151 {X : GX} {h : SH} {nc ns : Nat} {P : Out → SH → Prop} {a0 : Nat} (g : Gd X mX11_init 156 [some (.ref a0)] [.ref (hz h), .ref a0] (nw h 20 56) nc ns P) : Gd X mX11_init 151 [some (.ref a0)] [] h (nc + 1) (ns + 56) P := by
  refine g_aload_n dX11_init_151 rfl ?_
  refine g_bipush (v := 56) dX11_init_152 (by decide) ?_
  refine g_newarrN (k := 20) (N := 56) dX11_init_154 (by decide) (by decide) rfl kw_145 (by decide) (by decide) (by decide) ?_
  exact Gd.wk g ⟨rfl, trivial⟩
theorem bkX11_init_156 {X : GX} {h : SH} {nc ns : Nat} {P : Out → SH → Prop} {a0 : Nat} {as0 : Nat} {as1 : Nat} (F0 : LX11 (Sk h) (as0)) (g : Gd X mX11_init 159 [some (.ref a0)] [] (sA h as0 15 (some (as1))) nc ns P) : Gd X mX11_init 156 [some (.ref a0)] [.ref as1, .ref as0] h nc ns P := by
  refine g_putF (c := 11) (k := 15) (v := va_rf (some (as1))) (h1 := sA h as0 15 (some (as1))) dX11_init_156 (by decide) (by decide) kw_1142 rfl rfl rfl (LX11.o (h := h) F0) (rf_n rfl) (rf_f rfl) (Put.A rfl) ?_
  exact Gd.wk g ⟨rfl, trivial⟩
theorem bkX11_init_159 {X : GX} {h : SH} {nc ns : Nat} {P : Out → SH → Prop} {a0 : Nat} (g : Gd X mX11_init 164 [some (.ref a0)] [.ref (hz h), .ref a0] (nw h 20 7) nc ns P) : Gd X mX11_init 159 [some (.ref a0)] [] h (nc + 1) (ns + 7) P := by
  refine g_aload_n dX11_init_159 rfl ?_
  refine g_bipush (v := 7) dX11_init_160 (by decide) ?_
  refine g_newarrN (k := 20) (N := 7) dX11_init_162 (by decide) (by decide) rfl kw_145 (by decide) (by decide) (by decide) ?_
  exact Gd.wk g ⟨rfl, trivial⟩
theorem bkX11_init_164 {X : GX} {h : SH} {nc ns : Nat} {P : Out → SH → Prop} {a0 : Nat} {as0 : Nat} {as1 : Nat} (F0 : LX11 (Sk h) (as0)) (g : Gd X mX11_init 167 [some (.ref a0)] [] (sA h as0 16 (some (as1))) nc ns P) : Gd X mX11_init 164 [some (.ref a0)] [.ref as1, .ref as0] h nc ns P := by
  refine g_putF (c := 11) (k := 16) (v := va_rf (some (as1))) (h1 := sA h as0 16 (some (as1))) dX11_init_164 (by decide) (by decide) kw_1143 rfl rfl rfl (LX11.o (h := h) F0) (rf_n rfl) (rf_f rfl) (Put.A rfl) ?_
  exact Gd.wk g ⟨rfl, trivial⟩
theorem bkX11_init_167 {X : GX} {h : SH} {nc ns : Nat} {P : Out → SH → Prop} {a0 : Nat} (g : Gd X mX11_init 172 [some (.ref a0)] [.ref (hz h), .ref a0] (nw h 23 84) nc ns P) : Gd X mX11_init 167 [some (.ref a0)] [] h (nc + 1) (ns + 84) P := by
  refine g_aload_n dX11_init_167 rfl ?_
  refine g_bipush (v := 84) dX11_init_168 (by decide) ?_
  refine g_newarrN (k := 23) (N := 84) dX11_init_170 (by decide) (by decide) rfl kw_361 (by decide) (by decide) (by decide) ?_
  exact Gd.wk g ⟨rfl, trivial⟩
theorem bkX11_init_172 {X : GX} {h : SH} {nc ns : Nat} {P : Out → SH → Prop} {a0 : Nat} {as0 : Nat} {as1 : Nat} (F0 : LX11 (Sk h) (as0)) (g : Gd X mX11_init 175 [some (.ref a0)] [] (sA h as0 17 (some (as1))) nc ns P) : Gd X mX11_init 172 [some (.ref a0)] [.ref as1, .ref as0] h nc ns P := by
  refine g_putF (c := 11) (k := 17) (v := va_rf (some (as1))) (h1 := sA h as0 17 (some (as1))) dX11_init_172 (by decide) (by decide) kw_1144 rfl rfl rfl (LX11.o (h := h) F0) (rf_n rfl) (rf_f rfl) (Put.A rfl) ?_
  exact Gd.wk g ⟨rfl, trivial⟩
theorem bkX11_init_175 {X : GX} {h : SH} {nc ns : Nat} {P : Out → SH → Prop} {a0 : Nat} (g : Gd X mX11_init 180 [some (.ref a0)] [.ref (hz h), .ref a0] (nw h 20 84) nc ns P) : Gd X mX11_init 175 [some (.ref a0)] [] h (nc + 1) (ns + 84) P := by
  refine g_aload_n dX11_init_175 rfl ?_
  refine g_bipush (v := 84) dX11_init_176 (by decide) ?_
  refine g_newarrN (k := 20) (N := 84) dX11_init_178 (by decide) (by decide) rfl kw_145 (by decide) (by decide) (by decide) ?_
  exact Gd.wk g ⟨rfl, trivial⟩
theorem bkX11_init_180 {X : GX} {h : SH} {nc ns : Nat} {P : Out → SH → Prop} {a0 : Nat} {as0 : Nat} {as1 : Nat} (F0 : LX11 (Sk h) (as0)) (g : Gd X mX11_init 183 [some (.ref a0)] [] (sA h as0 18 (some (as1))) nc ns P) : Gd X mX11_init 180 [some (.ref a0)] [.ref as1, .ref as0] h nc ns P := by
  refine g_putF (c := 11) (k := 18) (v := va_rf (some (as1))) (h1 := sA h as0 18 (some (as1))) dX11_init_180 (by decide) (by decide) kw_1145 rfl rfl rfl (LX11.o (h := h) F0) (rf_n rfl) (rf_f rfl) (Put.A rfl) ?_
  exact Gd.wk g ⟨rfl, trivial⟩
theorem bkX11_init_183 {X : GX} {h : SH} {nc ns : Nat} {P : Out → SH → Prop} {a0 : Nat} (g : Gd X mX11_init 188 [some (.ref a0)] [.ref (hz h), .ref a0] (nw h 22 84) nc ns P) : Gd X mX11_init 183 [some (.ref a0)] [] h (nc + 1) (ns + 84) P := by
  refine g_aload_n dX11_init_183 rfl ?_
  refine g_bipush (v := 84) dX11_init_184 (by decide) ?_
  refine g_newarrN (k := 22) (N := 84) dX11_init_186 (by decide) (by decide) rfl kw_202 (by decide) (by decide) (by decide) ?_
  exact Gd.wk g ⟨rfl, trivial⟩
theorem bkX11_init_188 {X : GX} {h : SH} {nc ns : Nat} {P : Out → SH → Prop} {a0 : Nat} {as0 : Nat} {as1 : Nat} (F0 : LX11 (Sk h) (as0)) (g : Gd X mX11_init 191 [some (.ref a0)] [] (sA h as0 19 (some (as1))) nc ns P) : Gd X mX11_init 188 [some (.ref a0)] [.ref as1, .ref as0] h nc ns P := by
  refine g_putF (c := 11) (k := 19) (v := va_rf (some (as1))) (h1 := sA h as0 19 (some (as1))) dX11_init_188 (by decide) (by decide) kw_1146 rfl rfl rfl (LX11.o (h := h) F0) (rf_n rfl) (rf_f rfl) (Put.A rfl) ?_
  exact Gd.wk g ⟨rfl, trivial⟩
theorem bkX11_init_191 {X : GX} {h : SH} {nc ns : Nat} {P : Out → SH → Prop} {a0 : Nat} (g : Gd X mX11_init 196 [some (.ref a0)] [.ref (hz h), .ref a0] (nw h 20 84) nc ns P) : Gd X mX11_init 191 [some (.ref a0)] [] h (nc + 1) (ns + 84) P := by
  refine g_aload_n dX11_init_191 rfl ?_
  refine g_bipush (v := 84) dX11_init_192 (by decide) ?_
  refine g_newarrN (k := 20) (N := 84) dX11_init_194 (by decide) (by decide) rfl kw_145 (by decide) (by decide) (by decide) ?_
  exact Gd.wk g ⟨rfl, trivial⟩
theorem bkX11_init_196 {X : GX} {h : SH} {nc ns : Nat} {P : Out → SH → Prop} {a0 : Nat} {as0 : Nat} {as1 : Nat} (F0 : LX11 (Sk h) (as0)) (g : Gd X mX11_init 199 [some (.ref a0)] [] (sA h as0 20 (some (as1))) nc ns P) : Gd X mX11_init 196 [some (.ref a0)] [.ref as1, .ref as0] h nc ns P := by
  refine g_putF (c := 11) (k := 20) (v := va_rf (some (as1))) (h1 := sA h as0 20 (some (as1))) dX11_init_196 (by decide) (by decide) kw_1147 rfl rfl rfl (LX11.o (h := h) F0) (rf_n rfl) (rf_f rfl) (Put.A rfl) ?_
  exact Gd.wk g ⟨rfl, trivial⟩
theorem bkX11_init_199 {X : GX} {h : SH} {nc ns : Nat} {P : Out → SH → Prop} {a0 : Nat} (g : Gd X mX11_init 204 [some (.ref a0)] [.ref (hz h), .ref a0] (nw h 20 84) nc ns P) : Gd X mX11_init 199 [some (.ref a0)] [] h (nc + 1) (ns + 84) P := by
  refine g_aload_n dX11_init_199 rfl ?_
  refine g_bipush (v := 84) dX11_init_200 (by decide) ?_
  refine g_newarrN (k := 20) (N := 84) dX11_init_202 (by decide) (by decide) rfl kw_145 (by decide) (by decide) (by decide) ?_
  exact Gd.wk g ⟨rfl, trivial⟩
theorem bkX11_init_204 {X : GX} {h : SH} {nc ns : Nat} {P : Out → SH → Prop} {a0 : Nat} {as0 : Nat} {as1 : Nat} (F0 : LX11 (Sk h) (as0)) (g : Gd X mX11_init 207 [some (.ref a0)] [] (sA h as0 21 (some (as1))) nc ns P) : Gd X mX11_init 204 [some (.ref a0)] [.ref as1, .ref as0] h nc ns P := by
  refine g_putF (c := 11) (k := 21) (v := va_rf (some (as1))) (h1 := sA h as0 21 (some (as1))) dX11_init_204 (by decide) (by decide) kw_1148 rfl rfl rfl (LX11.o (h := h) F0) (rf_n rfl) (rf_f rfl) (Put.A rfl) ?_
  exact Gd.wk g ⟨rfl, trivial⟩
theorem bkX11_init_207 {X : GX} {h : SH} {nc ns : Nat} {P : Out → SH → Prop} {a0 : Nat} (g : Gd X mX11_init 213 [some (.ref a0)] [.ref (hz h), .ref a0] (nw h 20 672) nc ns P) : Gd X mX11_init 207 [some (.ref a0)] [] h (nc + 1) (ns + 672) P := by
  refine g_aload_n dX11_init_207 rfl ?_
  refine g_sipush (v := 672) dX11_init_208 (by decide) ?_
  refine g_newarrN (k := 20) (N := 672) dX11_init_211 (by decide) (by decide) rfl kw_145 (by decide) (by decide) (by decide) ?_
  exact Gd.wk g ⟨rfl, trivial⟩
theorem bkX11_init_213 {X : GX} {h : SH} {nc ns : Nat} {P : Out → SH → Prop} {a0 : Nat} {as0 : Nat} {as1 : Nat} (F0 : LX11 (Sk h) (as0)) (g : Gd X mX11_init 216 [some (.ref a0)] [] (sA h as0 22 (some (as1))) nc ns P) : Gd X mX11_init 213 [some (.ref a0)] [.ref as1, .ref as0] h nc ns P := by
  refine g_putF (c := 11) (k := 22) (v := va_rf (some (as1))) (h1 := sA h as0 22 (some (as1))) dX11_init_213 (by decide) (by decide) kw_1149 rfl rfl rfl (LX11.o (h := h) F0) (rf_n rfl) (rf_f rfl) (Put.A rfl) ?_
  exact Gd.wk g ⟨rfl, trivial⟩
theorem bkX11_init_216 {X : GX} {h : SH} {nc ns : Nat} {P : Out → SH → Prop} {a0 : Nat} (g : Gd X mX11_init 222 [some (.ref a0)] [.ref (hz h), .ref a0] (nw h 22 672) nc ns P) : Gd X mX11_init 216 [some (.ref a0)] [] h (nc + 1) (ns + 672) P := by
  refine g_aload_n dX11_init_216 rfl ?_
  refine g_sipush (v := 672) dX11_init_217 (by decide) ?_
  refine g_newarrN (k := 22) (N := 672) dX11_init_220 (by decide) (by decide) rfl kw_202 (by decide) (by decide) (by decide) ?_
  exact Gd.wk g ⟨rfl, trivial⟩
theorem bkX11_init_222 {X : GX} {h : SH} {nc ns : Nat} {P : Out → SH → Prop} {a0 : Nat} {as0 : Nat} {as1 : Nat} (F0 : LX11 (Sk h) (as0)) (g : Gd X mX11_init 225 [some (.ref a0)] [] (sA h as0 23 (some (as1))) nc ns P) : Gd X mX11_init 222 [some (.ref a0)] [.ref as1, .ref as0] h nc ns P := by
  refine g_putF (c := 11) (k := 23) (v := va_rf (some (as1))) (h1 := sA h as0 23 (some (as1))) dX11_init_222 (by decide) (by decide) kw_1150 rfl rfl rfl (LX11.o (h := h) F0) (rf_n rfl) (rf_f rfl) (Put.A rfl) ?_
  exact Gd.wk g ⟨rfl, trivial⟩
theorem bkX11_init_225 {X : GX} {h : SH} {nc ns : Nat} {P : Out → SH → Prop} {a0 : Nat} (g : Gd X mX11_init 230 [some (.ref a0)] [.ref (hz h), .ref a0] (nw h 20 84) nc ns P) : Gd X mX11_init 225 [some (.ref a0)] [] h (nc + 1) (ns + 84) P := by
  refine g_aload_n dX11_init_225 rfl ?_
  refine g_bipush (v := 84) dX11_init_226 (by decide) ?_
  refine g_newarrN (k := 20) (N := 84) dX11_init_228 (by decide) (by decide) rfl kw_145 (by decide) (by decide) (by decide) ?_
  exact Gd.wk g ⟨rfl, trivial⟩
theorem bkX11_init_230 {X : GX} {h : SH} {nc ns : Nat} {P : Out → SH → Prop} {a0 : Nat} {as0 : Nat} {as1 : Nat} (F0 : LX11 (Sk h) (as0)) (g : Gd X mX11_init 233 [some (.ref a0)] [] (sA h as0 24 (some (as1))) nc ns P) : Gd X mX11_init 230 [some (.ref a0)] [.ref as1, .ref as0] h nc ns P := by
  refine g_putF (c := 11) (k := 24) (v := va_rf (some (as1))) (h1 := sA h as0 24 (some (as1))) dX11_init_230 (by decide) (by decide) kw_1151 rfl rfl rfl (LX11.o (h := h) F0) (rf_n rfl) (rf_f rfl) (Put.A rfl) ?_
  exact Gd.wk g ⟨rfl, trivial⟩
theorem bkX11_init_233 {X : GX} {h : SH} {nc ns : Nat} {P : Out → SH → Prop} {a0 : Nat} (g : Gd X mX11_init 239 [some (.ref a0)] [.ref (hz h), .ref a0] (nw h 20 1680) nc ns P) : Gd X mX11_init 233 [some (.ref a0)] [] h (nc + 1) (ns + 1680) P := by
  refine g_aload_n dX11_init_233 rfl ?_
  refine g_sipush (v := 1680) dX11_init_234 (by decide) ?_
  refine g_newarrN (k := 20) (N := 1680) dX11_init_237 (by decide) (by decide) rfl kw_145 (by decide) (by decide) (by decide) ?_
  exact Gd.wk g ⟨rfl, trivial⟩
theorem bkX11_init_239 {X : GX} {h : SH} {nc ns : Nat} {P : Out → SH → Prop} {a0 : Nat} {as0 : Nat} {as1 : Nat} (F0 : LX11 (Sk h) (as0)) (g : Gd X mX11_init 242 [some (.ref a0)] [] (sA h as0 25 (some (as1))) nc ns P) : Gd X mX11_init 239 [some (.ref a0)] [.ref as1, .ref as0] h nc ns P := by
  refine g_putF (c := 11) (k := 25) (v := va_rf (some (as1))) (h1 := sA h as0 25 (some (as1))) dX11_init_239 (by decide) (by decide) kw_1152 rfl rfl rfl (LX11.o (h := h) F0) (rf_n rfl) (rf_f rfl) (Put.A rfl) ?_
  exact Gd.wk g ⟨rfl, trivial⟩
theorem bkX11_init_242 {X : GX} {h : SH} {nc ns : Nat} {P : Out → SH → Prop} {a0 : Nat} (g : Gd X mX11_init 248 [some (.ref a0)] [.ref (hz h), .ref a0] (nw h 20 1680) nc ns P) : Gd X mX11_init 242 [some (.ref a0)] [] h (nc + 1) (ns + 1680) P := by
  refine g_aload_n dX11_init_242 rfl ?_
  refine g_sipush (v := 1680) dX11_init_243 (by decide) ?_
  refine g_newarrN (k := 20) (N := 1680) dX11_init_246 (by decide) (by decide) rfl kw_145 (by decide) (by decide) (by decide) ?_
  exact Gd.wk g ⟨rfl, trivial⟩
theorem bkX11_init_248 {X : GX} {h : SH} {nc ns : Nat} {P : Out → SH → Prop} {a0 : Nat} {as0 : Nat} {as1 : Nat} (F0 : LX11 (Sk h) (as0)) (g : Gd X mX11_init 251 [some (.ref a0)] [] (sA h as0 26 (some (as1))) nc ns P) : Gd X mX11_init 248 [some (.ref a0)] [.ref as1, .ref as0] h nc ns P := by
  refine g_putF (c := 11) (k := 26) (v := va_rf (some (as1))) (h1 := sA h as0 26 (some (as1))) dX11_init_248 (by decide) (by decide) kw_1153 rfl rfl rfl (LX11.o (h := h) F0) (rf_n rfl) (rf_f rfl) (Put.A rfl) ?_
  exact Gd.wk g ⟨rfl, trivial⟩
theorem bkX11_init_251 {X : GX} {h : SH} {nc ns : Nat} {P : Out → SH → Prop} {a0 : Nat} (g : Gd X mX11_init 257 [some (.ref a0)] [.ref (hz h), .ref a0] (nw h 23 1680) nc ns P) : Gd X mX11_init 251 [some (.ref a0)] [] h (nc + 1) (ns + 1680) P := by
  refine g_aload_n dX11_init_251 rfl ?_
  refine g_sipush (v := 1680) dX11_init_252 (by decide) ?_
  refine g_newarrN (k := 23) (N := 1680) dX11_init_255 (by decide) (by decide) rfl kw_361 (by decide) (by decide) (by decide) ?_
  exact Gd.wk g ⟨rfl, trivial⟩
theorem bkX11_init_257 {X : GX} {h : SH} {nc ns : Nat} {P : Out → SH → Prop} {a0 : Nat} {as0 : Nat} {as1 : Nat} (F0 : LX11 (Sk h) (as0)) (g : Gd X mX11_init 260 [some (.ref a0)] [] (sA h as0 27 (some (as1))) nc ns P) : Gd X mX11_init 257 [some (.ref a0)] [.ref as1, .ref as0] h nc ns P := by
  refine g_putF (c := 11) (k := 27) (v := va_rf (some (as1))) (h1 := sA h as0 27 (some (as1))) dX11_init_257 (by decide) (by decide) kw_1154 rfl rfl rfl (LX11.o (h := h) F0) (rf_n rfl) (rf_f rfl) (Put.A rfl) ?_
  exact Gd.wk g ⟨rfl, trivial⟩
theorem bkX11_init_260 {X : GX} {h : SH} {nc ns : Nat} {P : Out → SH → Prop} {a0 : Nat} (g : Gd X mX11_init 266 [some (.ref a0)] [.ref (hz h), .ref a0] (nw h 20 18200) nc ns P) : Gd X mX11_init 260 [some (.ref a0)] [] h (nc + 1) (ns + 18200) P := by
  refine g_aload_n dX11_init_260 rfl ?_
  refine g_sipush (v := 18200) dX11_init_261 (by decide) ?_
  refine g_newarrN (k := 20) (N := 18200) dX11_init_264 (by decide) (by decide) rfl kw_145 (by decide) (by decide) (by decide) ?_
  exact Gd.wk g ⟨rfl, trivial⟩
theorem bkX11_init_266 {X : GX} {h : SH} {nc ns : Nat} {P : Out → SH → Prop} {a0 : Nat} {as0 : Nat} {as1 : Nat} (F0 : LX11 (Sk h) (as0)) (g : Gd X mX11_init 269 [some (.ref a0)] [] (sA h as0 28 (some (as1))) nc ns P) : Gd X mX11_init 266 [some (.ref a0)] [.ref as1, .ref as0] h nc ns P := by
  refine g_putF (c := 11) (k := 28) (v := va_rf (some (as1))) (h1 := sA h as0 28 (some (as1))) dX11_init_266 (by decide) (by decide) kw_1155 rfl rfl rfl (LX11.o (h := h) F0) (rf_n rfl) (rf_f rfl) (Put.A rfl) ?_
  exact Gd.wk g ⟨rfl, trivial⟩
theorem bkX11_init_269 {X : GX} {h : SH} {nc ns : Nat} {P : Out → SH → Prop} {a0 : Nat} (g : Gd X mX11_init 275 [some (.ref a0)] [.ref (hz h), .ref a0] (nw h 20 18200) nc ns P) : Gd X mX11_init 269 [some (.ref a0)] [] h (nc + 1) (ns + 18200) P := by
  refine g_aload_n dX11_init_269 rfl ?_
  refine g_sipush (v := 18200) dX11_init_270 (by decide) ?_
  refine g_newarrN (k := 20) (N := 18200) dX11_init_273 (by decide) (by decide) rfl kw_145 (by decide) (by decide) (by decide) ?_
  exact Gd.wk g ⟨rfl, trivial⟩
theorem bkX11_init_275 {X : GX} {h : SH} {nc ns : Nat} {P : Out → SH → Prop} {a0 : Nat} {as0 : Nat} {as1 : Nat} (F0 : LX11 (Sk h) (as0)) (g : Gd X mX11_init 278 [some (.ref a0)] [] (sA h as0 29 (some (as1))) nc ns P) : Gd X mX11_init 275 [some (.ref a0)] [.ref as1, .ref as0] h nc ns P := by
  refine g_putF (c := 11) (k := 29) (v := va_rf (some (as1))) (h1 := sA h as0 29 (some (as1))) dX11_init_275 (by decide) (by decide) kw_1156 rfl rfl rfl (LX11.o (h := h) F0) (rf_n rfl) (rf_f rfl) (Put.A rfl) ?_
  exact Gd.wk g ⟨rfl, trivial⟩
theorem bkX11_init_278 {X : GX} {h : SH} {nc ns : Nat} {P : Out → SH → Prop} {a0 : Nat} (g : Gd X mX11_init 283 [some (.ref a0)] [.ref (hz h), .ref a0] (nw h 20 7) nc ns P) : Gd X mX11_init 278 [some (.ref a0)] [] h (nc + 1) (ns + 7) P := by
  refine g_aload_n dX11_init_278 rfl ?_
  refine g_bipush (v := 7) dX11_init_279 (by decide) ?_
  refine g_newarrN (k := 20) (N := 7) dX11_init_281 (by decide) (by decide) rfl kw_145 (by decide) (by decide) (by decide) ?_
  exact Gd.wk g ⟨rfl, trivial⟩
theorem bkX11_init_283 {X : GX} {h : SH} {nc ns : Nat} {P : Out → SH → Prop} {a0 : Nat} {as0 : Nat} {as1 : Nat} (F0 : LX11 (Sk h) (as0)) (g : Gd X mX11_init 286 [some (.ref a0)] [] (sA h as0 32 (some (as1))) nc ns P) : Gd X mX11_init 283 [some (.ref a0)] [.ref as1, .ref as0] h nc ns P := by
  refine g_putF (c := 11) (k := 32) (v := va_rf (some (as1))) (h1 := sA h as0 32 (some (as1))) dX11_init_283 (by decide) (by decide) kw_1159 rfl rfl rfl (LX11.o (h := h) F0) (rf_n rfl) (rf_f rfl) (Put.A rfl) ?_
  exact Gd.wk g ⟨rfl, trivial⟩
theorem bkX11_init_286 {X : GX} {h : SH} {nc ns : Nat} {P : Out → SH → Prop} {a0 : Nat} (g : Gd X mX11_init 291 [some (.ref a0)] [.ref (hz h), .ref a0] (nw h 20 7) nc ns P) : Gd X mX11_init 286 [some (.ref a0)] [] h (nc + 1) (ns + 7) P := by
  refine g_aload_n dX11_init_286 rfl ?_
  refine g_bipush (v := 7) dX11_init_287 (by decide) ?_
  refine g_newarrN (k := 20) (N := 7) dX11_init_289 (by decide) (by decide) rfl kw_145 (by decide) (by decide) (by decide) ?_
  exact Gd.wk g ⟨rfl, trivial⟩
theorem bkX11_init_291 {X : GX} {h : SH} {nc ns : Nat} {P : Out → SH → Prop} {a0 : Nat} {as0 : Nat} {as1 : Nat} (F0 : LX11 (Sk h) (as0)) (g : Gd X mX11_init 294 [some (.ref a0)] [] (sA h as0 33 (some (as1))) nc ns P) : Gd X mX11_init 291 [some (.ref a0)] [.ref as1, .ref as0] h nc ns P := by
  refine g_putF (c := 11) (k := 33) (v := va_rf (some (as1))) (h1 := sA h as0 33 (some (as1))) dX11_init_291 (by decide) (by decide) kw_1160 rfl rfl rfl (LX11.o (h := h) F0) (rf_n rfl) (rf_f rfl) (Put.A rfl) ?_
  exact Gd.wk g ⟨rfl, trivial⟩
theorem bkX11_init_294 {X : GX} {h : SH} {nc ns : Nat} {P : Out → SH → Prop} {a0 : Nat} (g : Gd X mX11_init 299 [some (.ref a0)] [.ref (hz h), .ref a0] (nw h 20 8) nc ns P) : Gd X mX11_init 294 [some (.ref a0)] [] h (nc + 1) (ns + 8) P := by
  refine g_aload_n dX11_init_294 rfl ?_
  refine g_bipush (v := 8) dX11_init_295 (by decide) ?_
  refine g_newarrN (k := 20) (N := 8) dX11_init_297 (by decide) (by decide) rfl kw_145 (by decide) (by decide) (by decide) ?_
  exact Gd.wk g ⟨rfl, trivial⟩
theorem bkX11_init_299 {X : GX} {h : SH} {nc ns : Nat} {P : Out → SH → Prop} {a0 : Nat} {as0 : Nat} {as1 : Nat} (F0 : LX11 (Sk h) (as0)) (g : Gd X mX11_init 302 [some (.ref a0)] [] (sA h as0 35 (some (as1))) nc ns P) : Gd X mX11_init 299 [some (.ref a0)] [.ref as1, .ref as0] h nc ns P := by
  refine g_putF (c := 11) (k := 35) (v := va_rf (some (as1))) (h1 := sA h as0 35 (some (as1))) dX11_init_299 (by decide) (by decide) kw_1162 rfl rfl rfl (LX11.o (h := h) F0) (rf_n rfl) (rf_f rfl) (Put.A rfl) ?_
  exact Gd.wk g ⟨rfl, trivial⟩
theorem bkX11_init_302 {X : GX} {h : SH} {nc ns : Nat} {P : Out → SH → Prop} {a0 : Nat} (g : Gd X mX11_init 308 [some (.ref a0)] [.ref (hz h), .ref a0] (nw h 22 10000) nc ns P) : Gd X mX11_init 302 [some (.ref a0)] [] h (nc + 1) (ns + 10000) P := by
  refine g_aload_n dX11_init_302 rfl ?_
  refine g_sipush (v := 10000) dX11_init_303 (by decide) ?_
  refine g_newarrN (k := 22) (N := 10000) dX11_init_306 (by decide) (by decide) rfl kw_202 (by decide) (by decide) (by decide) ?_
  exact Gd.wk g ⟨rfl, trivial⟩
theorem bkX11_init_308 {X : GX} {h : SH} {nc ns : Nat} {P : Out → SH → Prop} {a0 : Nat} {as0 : Nat} {as1 : Nat} (F0 : LX11 (Sk h) (as0)) (g : Gd X mX11_init 311 [some (.ref a0)] [] (sA h as0 37 (some (as1))) nc ns P) : Gd X mX11_init 308 [some (.ref a0)] [.ref as1, .ref as0] h nc ns P := by
  refine g_putF (c := 11) (k := 37) (v := va_rf (some (as1))) (h1 := sA h as0 37 (some (as1))) dX11_init_308 (by decide) (by decide) kw_1164 rfl rfl rfl (LX11.o (h := h) F0) (rf_n rfl) (rf_f rfl) (Put.A rfl) ?_
  exact Gd.wk g ⟨rfl, trivial⟩
theorem bkX11_init_311 {X : GX} {h : SH} {nc ns : Nat} {P : Out → SH → Prop} {a0 : Nat} (g : Gd X mX11_init 317 [some (.ref a0)] [.ref (hz h), .ref a0] (nw h 20 10000) nc ns P) : Gd X mX11_init 311 [some (.ref a0)] [] h (nc + 1) (ns + 10000) P := by
  refine g_aload_n dX11_init_311 rfl ?_
  refine g_sipush (v := 10000) dX11_init_312 (by decide) ?_
  refine g_newarrN (k := 20) (N := 10000) dX11_init_315 (by decide) (by decide) rfl kw_145 (by decide) (by decide) (by decide) ?_
  exact Gd.wk g ⟨rfl, trivial⟩
theorem bkX11_init_317 {X : GX} {h : SH} {nc ns : Nat} {P : Out → SH → Prop} {a0 : Nat} {as0 : Nat} {as1 : Nat} (F0 : LX11 (Sk h) (as0)) (g : Gd X mX11_init 320 [some (.ref a0)] [] (sA h as0 39 (some (as1))) nc ns P) : Gd X mX11_init 317 [some (.ref a0)] [.ref as1, .ref as0] h nc ns P := by
  refine g_putF (c := 11) (k := 39) (v := va_rf (some (as1))) (h1 := sA h as0 39 (some (as1))) dX11_init_317 (by decide) (by decide) kw_1166 rfl rfl rfl (LX11.o (h := h) F0) (rf_n rfl) (rf_f rfl) (Put.A rfl) ?_
  exact Gd.wk g ⟨rfl, trivial⟩
theorem bkX11_init_320 {X : GX} {h : SH} {nc ns : Nat} {P : Out → SH → Prop} {a0 : Nat} (g : Gd X mX11_init 326 [some (.ref a0)] [.ref (hz h), .ref a0] (nw h 20 2600) nc ns P) : Gd X mX11_init 320 [some (.ref a0)] [] h (nc + 1) (ns + 2600) P := by
  refine g_aload_n dX11_init_320 rfl ?_
  refine g_sipush (v := 2600) dX11_init_321 (by decide) ?_
  refine g_newarrN (k := 20) (N := 2600) dX11_init_324 (by decide) (by decide) rfl kw_145 (by decide) (by decide) (by decide) ?_
  exact Gd.wk g ⟨rfl, trivial⟩
theorem bkX11_init_326 {X : GX} {h : SH} {nc ns : Nat} {P : Out → SH → Prop} {a0 : Nat} {as0 : Nat} {as1 : Nat} (F0 : LX11 (Sk h) (as0)) (g : Gd X mX11_init 329 [some (.ref a0)] [] (sA h as0 40 (some (as1))) nc ns P) : Gd X mX11_init 326 [some (.ref a0)] [.ref as1, .ref as0] h nc ns P := by
  refine g_putF (c := 11) (k := 40) (v := va_rf (some (as1))) (h1 := sA h as0 40 (some (as1))) dX11_init_326 (by decide) (by decide) kw_1167 rfl rfl rfl (LX11.o (h := h) F0) (rf_n rfl) (rf_f rfl) (Put.A rfl) ?_
  exact Gd.wk g ⟨rfl, trivial⟩
theorem bkX11_init_329 {X : GX} {h : SH} {nc ns : Nat} {P : Out → SH → Prop} {a0 : Nat} (g : Gd X mX11_init 334 [some (.ref a0)] [.ref (hz h), .ref a0] (nw h 22 12) nc ns P) : Gd X mX11_init 329 [some (.ref a0)] [] h (nc + 1) (ns + 12) P := by
  refine g_aload_n dX11_init_329 rfl ?_
  refine g_bipush (v := 12) dX11_init_330 (by decide) ?_
  refine g_newarrN (k := 22) (N := 12) dX11_init_332 (by decide) (by decide) rfl kw_202 (by decide) (by decide) (by decide) ?_
  exact Gd.wk g ⟨rfl, trivial⟩
theorem bkX11_init_334 {X : GX} {h : SH} {nc ns : Nat} {P : Out → SH → Prop} {a0 : Nat} {as0 : Nat} {as1 : Nat} (F0 : LX11 (Sk h) (as0)) (g : Gd X mX11_init 337 [some (.ref a0)] [] (sA h as0 41 (some (as1))) nc ns P) : Gd X mX11_init 334 [some (.ref a0)] [.ref as1, .ref as0] h nc ns P := by
  refine g_putF (c := 11) (k := 41) (v := va_rf (some (as1))) (h1 := sA h as0 41 (some (as1))) dX11_init_334 (by decide) (by decide) kw_1168 rfl rfl rfl (LX11.o (h := h) F0) (rf_n rfl) (rf_f rfl) (Put.A rfl) ?_
  exact Gd.wk g ⟨rfl, trivial⟩
theorem bkX11_init_337 {X : GX} {h : SH} {nc ns : Nat} {P : Out → SH → Prop} {a0 : Nat} (g : Gd X mX11_init 342 [some (.ref a0)] [.ref (hz h), .ref a0] (nw h 20 12) nc ns P) : Gd X mX11_init 337 [some (.ref a0)] [] h (nc + 1) (ns + 12) P := by
  refine g_aload_n dX11_init_337 rfl ?_
  refine g_bipush (v := 12) dX11_init_338 (by decide) ?_
  refine g_newarrN (k := 20) (N := 12) dX11_init_340 (by decide) (by decide) rfl kw_145 (by decide) (by decide) (by decide) ?_
  exact Gd.wk g ⟨rfl, trivial⟩
theorem bkX11_init_342 {X : GX} {h : SH} {nc ns : Nat} {P : Out → SH → Prop} {a0 : Nat} {as0 : Nat} {as1 : Nat} (F0 : LX11 (Sk h) (as0)) (g : Gd X mX11_init 345 [some (.ref a0)] [] (sA h as0 42 (some (as1))) nc ns P) : Gd X mX11_init 342 [some (.ref a0)] [.ref as1, .ref as0] h nc ns P := by
  refine g_putF (c := 11) (k := 42) (v := va_rf (some (as1))) (h1 := sA h as0 42 (some (as1))) dX11_init_342 (by decide) (by decide) kw_1169 rfl rfl rfl (LX11.o (h := h) F0) (rf_n rfl) (rf_f rfl) (Put.A rfl) ?_
  exact Gd.wk g ⟨rfl, trivial⟩
theorem bkX11_init_345 {X : GX} {h : SH} {nc ns : Nat} {P : Out → SH → Prop} {a0 : Nat} (g : Gd X mX11_init 351 [some (.ref a0)] [.ref (hz h), .ref a0] (nw h 20 5000) nc ns P) : Gd X mX11_init 345 [some (.ref a0)] [] h (nc + 1) (ns + 5000) P := by
  refine g_aload_n dX11_init_345 rfl ?_
  refine g_sipush (v := 5000) dX11_init_346 (by decide) ?_
  refine g_newarrN (k := 20) (N := 5000) dX11_init_349 (by decide) (by decide) rfl kw_145 (by decide) (by decide) (by decide) ?_
  exact Gd.wk g ⟨rfl, trivial⟩
theorem bkX11_init_351 {X : GX} {h : SH} {nc ns : Nat} {P : Out → SH → Prop} {a0 : Nat} {as0 : Nat} {as1 : Nat} (F0 : LX11 (Sk h) (as0)) (g : Gd X mX11_init 354 [some (.ref a0)] [] (sA h as0 47 (some (as1))) nc ns P) : Gd X mX11_init 351 [some (.ref a0)] [.ref as1, .ref as0] h nc ns P := by
  refine g_putF (c := 11) (k := 47) (v := va_rf (some (as1))) (h1 := sA h as0 47 (some (as1))) dX11_init_351 (by decide) (by decide) kw_1174 rfl rfl rfl (LX11.o (h := h) F0) (rf_n rfl) (rf_f rfl) (Put.A rfl) ?_
  exact Gd.wk g ⟨rfl, trivial⟩
theorem bkX11_init_354 {X : GX} {h : SH} {nc ns : Nat} {P : Out → SH → Prop} {a0 : Nat} (g : Gd X mX11_init 360 [some (.ref a0)] [.ref (hz h), .ref a0] (nw h 20 5000) nc ns P) : Gd X mX11_init 354 [some (.ref a0)] [] h (nc + 1) (ns + 5000) P := by
  refine g_aload_n dX11_init_354 rfl ?_
  refine g_sipush (v := 5000) dX11_init_355 (by decide) ?_
  refine g_newarrN (k := 20) (N := 5000) dX11_init_358 (by decide) (by decide) rfl kw_145 (by decide) (by decide) (by decide) ?_
  exact Gd.wk g ⟨rfl, trivial⟩
theorem bkX11_init_360 {X : GX} {h : SH} {nc ns : Nat} {P : Out → SH → Prop} {a0 : Nat} {as0 : Nat} {as1 : Nat} (F0 : LX11 (Sk h) (as0)) (g : Gd X mX11_init 363 [some (.ref a0)] [] (sA h as0 54 (some (as1))) nc ns P) : Gd X mX11_init 360 [some (.ref a0)] [.ref as1, .ref as0] h nc ns P := by
  refine g_putF (c := 11) (k := 54) (v := va_rf (some (as1))) (h1 := sA h as0 54 (some (as1))) dX11_init_360 (by decide) (by decide) kw_1181 rfl rfl rfl (LX11.o (h := h) F0) (rf_n rfl) (rf_f rfl) (Put.A rfl) ?_
  exact Gd.wk g ⟨rfl, trivial⟩
theorem bkX11_init_363 {X : GX} {h : SH} {nc ns : Nat} {P : Out → SH → Prop} {a0 : Nat} (g : Gd X mX11_init 368 [some (.ref a0)] [.ref (hz h), .ref a0] (nw h 20 12) nc ns P) : Gd X mX11_init 363 [some (.ref a0)] [] h (nc + 1) (ns + 12) P := by
  refine g_aload_n dX11_init_363 rfl ?_
  refine g_bipush (v := 12) dX11_init_364 (by decide) ?_
  refine g_newarrN (k := 20) (N := 12) dX11_init_366 (by decide) (by decide) rfl kw_145 (by decide) (by decide) (by decide) ?_
  exact Gd.wk g ⟨rfl, trivial⟩
theorem bkX11_init_368 {X : GX} {h : SH} {nc ns : Nat} {P : Out → SH → Prop} {a0 : Nat} {as0 : Nat} {as1 : Nat} (F0 : LX11 (Sk h) (as0)) (g : Gd X mX11_init 371 [some (.ref a0)] [] (sA h as0 55 (some (as1))) nc ns P) : Gd X mX11_init 368 [some (.ref a0)] [.ref as1, .ref as0] h nc ns P := by
  refine g_putF (c := 11) (k := 55) (v := va_rf (some (as1))) (h1 := sA h as0 55 (some (as1))) dX11_init_368 (by decide) (by decide) kw_1182 rfl rfl rfl (LX11.o (h := h) F0) (rf_n rfl) (rf_f rfl) (Put.A rfl) ?_
  exact Gd.wk g ⟨rfl, trivial⟩
theorem bkX11_init_371 {X : GX} {h : SH} {nc ns : Nat} {P : Out → SH → Prop} {a0 : Nat} (g : Gd X mX11_init 376 [some (.ref a0)] [.ref (hz h), .ref a0] (nw h 20 8) nc ns P) : Gd X mX11_init 371 [some (.ref a0)] [] h (nc + 1) (ns + 8) P := by
  refine g_aload_n dX11_init_371 rfl ?_
  refine g_bipush (v := 8) dX11_init_372 (by decide) ?_
  refine g_newarrN (k := 20) (N := 8) dX11_init_374 (by decide) (by decide) rfl kw_145 (by decide) (by decide) (by decide) ?_
  exact Gd.wk g ⟨rfl, trivial⟩
theorem bkX11_init_376 {X : GX} {h : SH} {nc ns : Nat} {P : Out → SH → Prop} {a0 : Nat} {as0 : Nat} {as1 : Nat} (F0 : LX11 (Sk h) (as0)) (g : Gd X mX11_init 379 [some (.ref a0)] [] (sA h as0 56 (some (as1))) nc ns P) : Gd X mX11_init 376 [some (.ref a0)] [.ref as1, .ref as0] h nc ns P := by
  refine g_putF (c := 11) (k := 56) (v := va_rf (some (as1))) (h1 := sA h as0 56 (some (as1))) dX11_init_376 (by decide) (by decide) kw_1183 rfl rfl rfl (LX11.o (h := h) F0) (rf_n rfl) (rf_f rfl) (Put.A rfl) ?_
  exact Gd.wk g ⟨rfl, trivial⟩
theorem bkX11_init_379 {X : GX} {h : SH} {nc ns : Nat} {P : Out → SH → Prop} {a0 : Nat} (g : Gd X mX11_init 385 [some (.ref a0)] [.ref (hz h), .ref a0] (nw h 20 5000) nc ns P) : Gd X mX11_init 379 [some (.ref a0)] [] h (nc + 1) (ns + 5000) P := by
  refine g_aload_n dX11_init_379 rfl ?_
  refine g_sipush (v := 5000) dX11_init_380 (by decide) ?_
  refine g_newarrN (k := 20) (N := 5000) dX11_init_383 (by decide) (by decide) rfl kw_145 (by decide) (by decide) (by decide) ?_
  exact Gd.wk g ⟨rfl, trivial⟩
theorem bkX11_init_385 {X : GX} {h : SH} {nc ns : Nat} {P : Out → SH → Prop} {a0 : Nat} {as0 : Nat} {as1 : Nat} (F0 : LX11 (Sk h) (as0)) (g : Gd X mX11_init 388 [some (.ref a0)] [] (sA h as0 57 (some (as1))) nc ns P) : Gd X mX11_init 385 [some (.ref a0)] [.ref as1, .ref as0] h nc ns P := by
  refine g_putF (c := 11) (k := 57) (v := va_rf (some (as1))) (h1 := sA h as0 57 (some (as1))) dX11_init_385 (by decide) (by decide) kw_1184 rfl rfl rfl (LX11.o (h := h) F0) (rf_n rfl) (rf_f rfl) (Put.A rfl) ?_
  exact Gd.wk g ⟨rfl, trivial⟩
theorem bkX11_init_388 {X : GX} {h : SH} {nc ns : Nat} {P : Out → SH → Prop} {a0 : Nat} (O0 : Ob h a0 11) (hp : P (.inl (none)) (sI (sI h a0 49 (-1)) a0 34 (-1))) : Gd X mX11_init 388 [some (.ref a0)] [] h nc ns P := by
  refine g_aload_n dX11_init_388 rfl ?_
  refine g_iconst (v := (-1)) dX11_init_389 (by decide) ?_
  refine g_put (c := 11) (k := 49) (h1 := sI h a0 49 (-1)) dX11_init_390 (by decide) (by decide) kw_1176 rfl O0 rfl rfl (Put.I rfl) ?_
  refine g_aload_n dX11_init_393 rfl ?_
  refine g_iconst (v := (-1)) dX11_init_394 (by decide) ?_
  refine g_put (c := 11) (k := 34) (h1 := sI (sI h a0 49 (-1)) a0 34 (-1)) dX11_init_395 (by decide) (by decide) kw_1161 rfl O0 rfl rfl (Put.I rfl) ?_
  exact g_return (st := []) dX11_init_398 rfl hp
theorem bkX11_isLetter_0 {X : GX} {h : SH} {nc ns : Nat} {P : Out → SH → Prop} {x0 : Int32} (kt : x0 < 97 → Gd X mX11_isLetter 16 [none] [] (h) nc ns P) (kf : ¬ x0 < 97 → Gd X mX11_isLetter 6 [some (.int x0)] [] (h) nc ns P) : Gd X mX11_isLetter 0 [some (.int x0)] [] h nc ns P := by
  refine g_iload_n dX11_isLetter_0 rfl ?_
  refine g_bipush (v := 97) dX11_isLetter_1 (by decide) ?_
  exact g_icmp_lt (tgt := 16) dX11_isLetter_3 (by decide) (fun q => Gd.wk (kt q) trivial) (fun q => Gd.wk (kf q) ⟨rfl, trivial⟩)
theorem bkX11_isLetter_6 {X : GX} {h : SH} {nc ns : Nat} {P : Out → SH → Prop} {x0 : Int32} (kt : (122 : Int32) < x0 → Gd X mX11_isLetter 16 [none] [] (h) nc ns P) (kf : ¬ (122 : Int32) < x0 → Gd X mX11_isLetter 12 [none] [] (h) nc ns P) : Gd X mX11_isLetter 6 [some (.int x0)] [] h nc ns P := by
  refine g_iload_n dX11_isLetter_6 rfl ?_
  refine g_bipush (v := 122) dX11_isLetter_7 (by decide) ?_
  exact g_icmp_gt (tgt := 16) dX11_isLetter_9 (by decide) (fun q => Gd.wk (kt q) trivial) (fun q => Gd.wk (kf q) trivial)
theorem bkX11_isLetter_12 {X : GX} {h : SH} {nc ns : Nat} {P : Out → SH → Prop} (g : Gd X mX11_isLetter 17 [none] [.int 1] (h) nc ns P) : Gd X mX11_isLetter 12 [none] [] h nc ns P := by
  refine g_iconst (v := 1) dX11_isLetter_12 (by decide) ?_
  refine g_goto (tgt := 17) dX11_isLetter_13 (by decide) ?_
  exact Gd.wk g trivial
theorem bkX11_isLetter_16 {X : GX} {h : SH} {nc ns : Nat} {P : Out → SH → Prop} (g : Gd X mX11_isLetter 17 [none] [.int 0] (h) nc ns P) : Gd X mX11_isLetter 16 [none] [] h nc ns P := by
  refine g_iconst (v := 0) dX11_isLetter_16 (by decide) ?_
  exact Gd.wk g trivial
theorem bkX11_isLetter_17 {X : GX} {h : SH} {nc ns : Nat} {P : Out → SH → Prop} {xs0 : Int32} (w0 : xs0 = 0 ∨ xs0 = 1) (hp : P (.inl (some (.int (xs0)))) (h)) : Gd X mX11_isLetter 17 [none] [.int xs0] h nc ns P := by
  exact g_ireturn (st := []) dX11_isLetter_17 rfl (bl_n w0) hp
theorem bkX11_isDigit_0 {X : GX} {h : SH} {nc ns : Nat} {P : Out → SH → Prop} {x0 : Int32} (kt : x0 < 48 → Gd X mX11_isDigit 16 [none] [] (h) nc ns P) (kf : ¬ x0 < 48 → Gd X mX11_isDigit 6 [some (.int x0)] [] (h) nc ns P) : Gd X mX11_isDigit 0 [some (.int x0)] [] h nc ns P := by
  refine g_iload_n dX11_isDigit_0 rfl ?_
  refine g_bipush (v := 48) dX11_isDigit_1 (by decide) ?_
  exact g_icmp_lt (tgt := 16) dX11_isDigit_3 (by decide) (fun q => Gd.wk (kt q) trivial) (fun q => Gd.wk (kf q) ⟨rfl, trivial⟩)
theorem bkX11_isDigit_6 {X : GX} {h : SH} {nc ns : Nat} {P : Out → SH → Prop} {x0 : Int32} (kt : (57 : Int32) < x0 → Gd X mX11_isDigit 16 [none] [] (h) nc ns P) (kf : ¬ (57 : Int32) < x0 → Gd X mX11_isDigit 12 [none] [] (h) nc ns P) : Gd X mX11_isDigit 6 [some (.int x0)] [] h nc ns P := by
  refine g_iload_n dX11_isDigit_6 rfl ?_
  refine g_bipush (v := 57) dX11_isDigit_7 (by decide) ?_
  exact g_icmp_gt (tgt := 16) dX11_isDigit_9 (by decide) (fun q => Gd.wk (kt q) trivial) (fun q => Gd.wk (kf q) trivial)
theorem bkX11_isDigit_12 {X : GX} {h : SH} {nc ns : Nat} {P : Out → SH → Prop} (g : Gd X mX11_isDigit 17 [none] [.int 1] (h) nc ns P) : Gd X mX11_isDigit 12 [none] [] h nc ns P := by
  refine g_iconst (v := 1) dX11_isDigit_12 (by decide) ?_
  refine g_goto (tgt := 17) dX11_isDigit_13 (by decide) ?_
  exact Gd.wk g trivial
theorem bkX11_isDigit_16 {X : GX} {h : SH} {nc ns : Nat} {P : Out → SH → Prop} (g : Gd X mX11_isDigit 17 [none] [.int 0] (h) nc ns P) : Gd X mX11_isDigit 16 [none] [] h nc ns P := by
  refine g_iconst (v := 0) dX11_isDigit_16 (by decide) ?_
  exact Gd.wk g trivial
theorem bkX11_isDigit_17 {X : GX} {h : SH} {nc ns : Nat} {P : Out → SH → Prop} {xs0 : Int32} (w0 : xs0 = 0 ∨ xs0 = 1) (hp : P (.inl (some (.int (xs0)))) (h)) : Gd X mX11_isDigit 17 [none] [.int xs0] h nc ns P := by
  exact g_ireturn (st := []) dX11_isDigit_17 rfl (bl_n w0) hp
theorem bkX11_rank_0 {X : GX} {h : SH} {nc ns : Nat} {P : Out → SH → Prop} {Q : Int32 → SH → Prop} {x0 : Int32} (hN : Cd X mX11_isLetter [.int x0] (h) 0 0 (oI Q nX)) (g : ∀ r t, Q r t → Gd X mX11_rank 4 [some (.int x0)] [.int r] (t) nc ns P) : Gd X mX11_rank 0 [some (.int x0)] [] h nc ns P := by
  refine g_iload_n dX11_rank_0 rfl ?_
  refine Gd.z ?_
  exact g_callS [.int x0] dX11_rank_1 mfX11_isLetter ⟨by decide, by decide⟩ kw_1310 kw_1311 rfl (Nat.le_of_ble_eq_true rfl) (by intro x hx; cases hx) (Nat.le_of_ble_eq_true rfl) hN (fun _ _ q => q.elim) (oI_go (G := fun a b => Gd X mX11_rank 4 _ a b nc ns P) (fun r t q => Gd.wk (g r t q) ⟨rfl, trivial⟩))
theorem bkX11_rank_4 {X : GX} {h : SH} {nc ns : Nat} {P : Out → SH → Prop} {x0 : Int32} {xs0 : Int32} (kt : xs0 = 0 → Gd X mX11_rank 14 [some (.int x0)] [] (h) nc ns P) (kf : ¬ xs0 = 0 → Gd X mX11_rank 7 [some (.int x0)] [] (h) nc ns P) : Gd X mX11_rank 4 [some (.int x0)] [.int xs0] h nc ns P := by
  exact g_if_eq (tgt := 14) dX11_rank_4 (by decide) (fun q => Gd.wk (kt q) ⟨rfl, trivial⟩) (fun q => Gd.wk (kf q) ⟨rfl, trivial⟩)
theorem bkX11_rank_7 {X : GX} {h : SH} {nc ns : Nat} {P : Out → SH → Prop} {x0 : Int32} (g : Gd X mX11_rank 18 [none] [.int (x0 - 96)] (h) nc ns P) : Gd X mX11_rank 7 [some (.int x0)] [] h nc ns P := by
  refine g_iload_n dX11_rank_7 rfl ?_
  refine g_bipush (v := 96) dX11_rank_8 (by decide) ?_
  refine g_isub dX11_rank_10 ?_
  refine g_goto (tgt := 18) dX11_rank_11 (by decide) ?_
  exact Gd.wk g trivial
theorem bkX11_rank_14 {X : GX} {h : SH} {nc ns : Nat} {P : Out → SH → Prop} {x0 : Int32} (g : Gd X mX11_rank 18 [none] [.int (x0 - 21)] (h) nc ns P) : Gd X mX11_rank 14 [some (.int x0)] [] h nc ns P := by
  refine g_iload_n dX11_rank_14 rfl ?_
  refine g_bipush (v := 21) dX11_rank_15 (by decide) ?_
  refine g_isub dX11_rank_17 ?_
  exact Gd.wk g trivial
theorem bkX11_rank_18 {X : GX} {h : SH} {nc ns : Nat} {P : Out → SH → Prop} {xs0 : Int32} (hp : P (.inl (some (.int (xs0)))) (h)) : Gd X mX11_rank 18 [none] [.int xs0] h nc ns P := by
  exact g_ireturn (st := []) dX11_rank_18 rfl rfl hp
theorem bkX11_isSignOf_0 {X : GX} {h : SH} {nc ns : Nat} {P : Out → SH → Prop} {x0 : Int32} (kt : x0 = 40 → Gd X mX11_isSignOf 42 [none] [] (h) nc ns P) (kf : ¬ x0 = 40 → Gd X mX11_isSignOf 6 [some (.int x0)] [] (h) nc ns P) : Gd X mX11_isSignOf 0 [some (.int x0)] [] h nc ns P := by
  refine g_iload_n dX11_isSignOf_0 rfl ?_
  refine g_bipush (v := 40) dX11_isSignOf_1 (by decide) ?_
  exact g_icmp_eq (tgt := 42) dX11_isSignOf_3 (by decide) (fun q => Gd.wk (kt q) trivial) (fun q => Gd.wk (kf q) ⟨rfl, trivial⟩)
theorem bkX11_isSignOf_6 {X : GX} {h : SH} {nc ns : Nat} {P : Out → SH → Prop} {x0 : Int32} (kt : x0 = 41 → Gd X mX11_isSignOf 42 [none] [] (h) nc ns P) (kf : ¬ x0 = 41 → Gd X mX11_isSignOf 12 [some (.int x0)] [] (h) nc ns P) : Gd X mX11_isSignOf 6 [some (.int x0)] [] h nc ns P := by
  refine g_iload_n dX11_isSignOf_6 rfl ?_
  refine g_bipush (v := 41) dX11_isSignOf_7 (by decide) ?_
  exact g_icmp_eq (tgt := 42) dX11_isSignOf_9 (by decide) (fun q => Gd.wk (kt q) trivial) (fun q => Gd.wk (kf q) ⟨rfl, trivial⟩)
theorem bkX11_isSignOf_12 {X : GX} {h : SH} {nc ns : Nat} {P : Out → SH → Prop} {x0 : Int32} (kt : x0 = 59 → Gd X mX11_isSignOf 42 [none] [] (h) nc ns P) (kf : ¬ x0 = 59 → Gd X mX11_isSignOf 18 [some (.int x0)] [] (h) nc ns P) : Gd X mX11_isSignOf 12 [some (.int x0)] [] h nc ns P := by
  refine g_iload_n dX11_isSignOf_12 rfl ?_
  refine g_bipush (v := 59) dX11_isSignOf_13 (by decide) ?_
  exact g_icmp_eq (tgt := 42) dX11_isSignOf_15 (by decide) (fun q => Gd.wk (kt q) trivial) (fun q => Gd.wk (kf q) ⟨rfl, trivial⟩)
theorem bkX11_isSignOf_18 {X : GX} {h : SH} {nc ns : Nat} {P : Out → SH → Prop} {x0 : Int32} (kt : x0 = 61 → Gd X mX11_isSignOf 42 [none] [] (h) nc ns P) (kf : ¬ x0 = 61 → Gd X mX11_isSignOf 24 [some (.int x0)] [] (h) nc ns P) : Gd X mX11_isSignOf 18 [some (.int x0)] [] h nc ns P := by
  refine g_iload_n dX11_isSignOf_18 rfl ?_
  refine g_bipush (v := 61) dX11_isSignOf_19 (by decide) ?_
  exact g_icmp_eq (tgt := 42) dX11_isSignOf_21 (by decide) (fun q => Gd.wk (kt q) trivial) (fun q => Gd.wk (kf q) ⟨rfl, trivial⟩)
theorem bkX11_isSignOf_24 {X : GX} {h : SH} {nc ns : Nat} {P : Out → SH → Prop} {x0 : Int32} (kt : x0 = 60 → Gd X mX11_isSignOf 42 [none] [] (h) nc ns P) (kf : ¬ x0 = 60 → Gd X mX11_isSignOf 30 [some (.int x0)] [] (h) nc ns P) : Gd X mX11_isSignOf 24 [some (.int x0)] [] h nc ns P := by
  refine g_iload_n dX11_isSignOf_24 rfl ?_
  refine g_bipush (v := 60) dX11_isSignOf_25 (by decide) ?_
  exact g_icmp_eq (tgt := 42) dX11_isSignOf_27 (by decide) (fun q => Gd.wk (kt q) trivial) (fun q => Gd.wk (kf q) ⟨rfl, trivial⟩)
theorem bkX11_isSignOf_30 {X : GX} {h : SH} {nc ns : Nat} {P : Out → SH → Prop} {x0 : Int32} (kt : x0 = 43 → Gd X mX11_isSignOf 42 [none] [] (h) nc ns P) (kf : ¬ x0 = 43 → Gd X mX11_isSignOf 36 [some (.int x0)] [] (h) nc ns P) : Gd X mX11_isSignOf 30 [some (.int x0)] [] h nc ns P := by
  refine g_iload_n dX11_isSignOf_30 rfl ?_
  refine g_bipush (v := 43) dX11_isSignOf_31 (by decide) ?_
  exact g_icmp_eq (tgt := 42) dX11_isSignOf_33 (by decide) (fun q => Gd.wk (kt q) trivial) (fun q => Gd.wk (kf q) ⟨rfl, trivial⟩)
theorem bkX11_isSignOf_36 {X : GX} {h : SH} {nc ns : Nat} {P : Out → SH → Prop} {x0 : Int32} (kt : ¬ x0 = 45 → Gd X mX11_isSignOf 46 [none] [] (h) nc ns P) (kf : x0 = 45 → Gd X mX11_isSignOf 42 [none] [] (h) nc ns P) : Gd X mX11_isSignOf 36 [some (.int x0)] [] h nc ns P := by
  refine g_iload_n dX11_isSignOf_36 rfl ?_
  refine g_bipush (v := 45) dX11_isSignOf_37 (by decide) ?_
  exact g_icmp_ne (tgt := 46) dX11_isSignOf_39 (by decide) (fun q => Gd.wk (kt q) trivial) (fun q => Gd.wk (kf q) trivial)
theorem bkX11_isSignOf_42 {X : GX} {h : SH} {nc ns : Nat} {P : Out → SH → Prop} (g : Gd X mX11_isSignOf 47 [none] [.int 1] (h) nc ns P) : Gd X mX11_isSignOf 42 [none] [] h nc ns P := by
  refine g_iconst (v := 1) dX11_isSignOf_42 (by decide) ?_
  refine g_goto (tgt := 47) dX11_isSignOf_43 (by decide) ?_
  exact Gd.wk g trivial
theorem bkX11_isSignOf_46 {X : GX} {h : SH} {nc ns : Nat} {P : Out → SH → Prop} (g : Gd X mX11_isSignOf 47 [none] [.int 0] (h) nc ns P) : Gd X mX11_isSignOf 46 [none] [] h nc ns P := by
  refine g_iconst (v := 0) dX11_isSignOf_46 (by decide) ?_
  exact Gd.wk g trivial
theorem bkX11_isSignOf_47 {X : GX} {h : SH} {nc ns : Nat} {P : Out → SH → Prop} {xs0 : Int32} (w0 : xs0 = 0 ∨ xs0 = 1) (hp : P (.inl (some (.int (xs0)))) (h)) : Gd X mX11_isSignOf 47 [none] [.int xs0] h nc ns P := by
  exact g_ireturn (st := []) dX11_isSignOf_47 rfl (bl_n w0) hp
theorem bkX11_cutAll_0 {X : GX} {h : SH} {nc ns : Nat} {P : Out → SH → Prop} {a0 : Nat} (F0 : LX11 (Sk h) (a0)) (g : Gd X mX11_cutAll 17 [some (.ref a0), some (.int 0), some (.int 0), none, none, none, none] [] (sI (sI h a0 3 (hI h a0 2)) a0 2 0) nc ns P) : Gd X mX11_cutAll 0 [some (.ref a0), none, none, none, none, none, none] [] h nc ns P := by
  refine g_aload_n dX11_cutAll_0 rfl ?_
  refine g_aload_n dX11_cutAll_1 rfl ?_
  refine g_getI (c := 11) (k := 2) dX11_cutAll_2 (by decide) (by decide) kw_1129 rfl (LX11.o (h := h) F0) ?_
  refine g_put (c := 11) (k := 3) (h1 := sI h a0 3 (hI h a0 2)) dX11_cutAll_5 (by decide) (by decide) kw_1130 rfl (LX11.o (h := h) F0) rfl rfl (Put.I rfl) ?_
  refine g_aload_n dX11_cutAll_8 rfl ?_
  refine g_iconst (v := 0) dX11_cutAll_9 (by decide) ?_
  refine g_put (c := 11) (k := 2) (h1 := sI (sI h a0 3 (hI h a0 2)) a0 2 0) dX11_cutAll_10 (by decide) (by decide) kw_1129 rfl (LX11.o (h := sI h a0 3 (hI h a0 2)) F0) rfl rfl (Put.I rfl) ?_
  refine g_iconst (v := 0) dX11_cutAll_13 (by decide) ?_
  refine g_istore_n (L' := [some (.ref a0), some (.int 0), none, none, none, none, none]) dX11_cutAll_14 (by decide) rfl ?_
  refine g_iconst (v := 0) dX11_cutAll_15 (by decide) ?_
  refine g_istore_n (L' := [some (.ref a0), some (.int 0), some (.int 0), none, none, none, none]) dX11_cutAll_16 (by decide) rfl ?_
  exact Gd.wk g ⟨rfl, ⟨rfl, ⟨rfl, trivial⟩⟩⟩
theorem bkX11_cutAll_17 {X : GX} {h : SH} {nc ns : Nat} {P : Out → SH → Prop} {a0 : Nat} {x1 : Int32} {x2 : Int32} (F0 : LX11 (Sk h) (a0)) (kt : hI h a0 3 ≤ x2 → Gd X mX11_cutAll 279 [some (.ref a0), some (.int x1), none, none, none, none, none] [] (h) nc ns P) (kf : ¬ hI h a0 3 ≤ x2 → Gd X mX11_cutAll 25 [some (.ref a0), some (.int x1), some (.int x2), none, none, none, none] [] (h) nc ns P) : Gd X mX11_cutAll 17 [some (.ref a0), some (.int x1), some (.int x2), none, none, none, none] [] h nc ns P := by
  refine g_iload_n dX11_cutAll_17 rfl ?_
  refine g_aload_n dX11_cutAll_18 rfl ?_
  refine g_getI (c := 11) (k := 3) dX11_cutAll_19 (by decide) (by decide) kw_1130 rfl (LX11.o (h := h) F0) ?_
  exact g_icmp_ge (tgt := 279) dX11_cutAll_22 (by decide) (fun q => Gd.wk (kt q) ⟨rfl, ⟨rfl, trivial⟩⟩) (fun q => Gd.wk (kf q) ⟨rfl, ⟨rfl, ⟨rfl, trivial⟩⟩⟩)
theorem bkX11_cutAll_25 {X : GX} {h : SH} {nc ns : Nat} {P : Out → SH → Prop} {a0 : Nat} {x1 : Int32} {x2 : Int32} (F0 : LX11 (Sk h) (a0)) (i1 : vp_in (x2) 2400) (kt : (hI h (a0 + 1) ((x2 : Int32).toNatClampNeg)) = 10 → Gd X mX11_cutAll 44 [some (.ref a0), some (.int x1), some (.int x2), none, none, none, none] [] (h) nc ns P) (kf : ¬ (hI h (a0 + 1) ((x2 : Int32).toNatClampNeg)) = 10 → Gd X mX11_cutAll 38 [some (.ref a0), some (.int x1), some (.int x2), some (.int (hI h (a0 + 1) ((x2 : Int32).toNatClampNeg))), none, none, none] [] (h) nc ns P) : Gd X mX11_cutAll 25 [some (.ref a0), some (.int x1), some (.int x2), none, none, none, none] [] h nc ns P := by
  refine g_aload_n dX11_cutAll_25 rfl ?_
  refine g_getAs (c := 11) (k := 1) (b := a0 + 1) dX11_cutAll_26 (by decide) (by decide) kw_1128 rfl (LX11.o (h := h) F0) (LX11.r_tape (h := h) F0) ?_
  refine g_iload_n dX11_cutAll_29 rfl ?_
  refine g_iaload dX11_cutAll_30 (LX11.a_tape (h := h) F0) i1 ?_
  refine g_istore_n (L' := [some (.ref a0), some (.int x1), some (.int x2), some (.int (hI h (a0 + 1) ((x2 : Int32).toNatClampNeg))), none, none, none]) dX11_cutAll_31 (by decide) rfl ?_
  refine g_iload_n dX11_cutAll_32 rfl ?_
  refine g_bipush (v := 10) dX11_cutAll_33 (by decide) ?_
  exact g_icmp_eq (tgt := 44) dX11_cutAll_35 (by decide) (fun q => Gd.wk (kt q) ⟨rfl, ⟨rfl, ⟨rfl, trivial⟩⟩⟩) (fun q => Gd.wk (kf q) ⟨rfl, ⟨rfl, ⟨rfl, ⟨rfl, trivial⟩⟩⟩⟩)
theorem bkX11_cutAll_38 {X : GX} {h : SH} {nc ns : Nat} {P : Out → SH → Prop} {a0 : Nat} {x1 : Int32} {x2 : Int32} {x3 : Int32} (kt : ¬ x3 = 32 → Gd X mX11_cutAll 50 [some (.ref a0), some (.int x1), some (.int x2), some (.int x3), none, none, none] [] (h) nc ns P) (kf : x3 = 32 → Gd X mX11_cutAll 44 [some (.ref a0), some (.int x1), some (.int x2), none, none, none, none] [] (h) nc ns P) : Gd X mX11_cutAll 38 [some (.ref a0), some (.int x1), some (.int x2), some (.int x3), none, none, none] [] h nc ns P := by
  refine g_iload_n dX11_cutAll_38 rfl ?_
  refine g_bipush (v := 32) dX11_cutAll_39 (by decide) ?_
  exact g_icmp_ne (tgt := 50) dX11_cutAll_41 (by decide) (fun q => Gd.wk (kt q) ⟨rfl, ⟨rfl, ⟨rfl, ⟨rfl, trivial⟩⟩⟩⟩) (fun q => Gd.wk (kf q) ⟨rfl, ⟨rfl, ⟨rfl, trivial⟩⟩⟩)
theorem bkX11_cutAll_44 {X : GX} {h : SH} {nc ns : Nat} {P : Out → SH → Prop} {a0 : Nat} {x1 : Int32} {x2 : Int32} (g : Gd X mX11_cutAll 17 [some (.ref a0), some (.int x1), some (.int (x2 + 1)), none, none, none, none] [] (h) nc ns P) : Gd X mX11_cutAll 44 [some (.ref a0), some (.int x1), some (.int x2), none, none, none, none] [] h nc ns P := by
  refine g_iinc (v := x2 + 1) (L' := [some (.ref a0), some (.int x1), some (.int (x2 + 1)), none, none, none, none]) dX11_cutAll_44 rfl rfl (by decide) rfl ?_
  refine g_goto (tgt := 17) dX11_cutAll_47 (by decide) ?_
  exact Gd.wk g ⟨rfl, ⟨rfl, ⟨rfl, trivial⟩⟩⟩
theorem bkX11_cutAll_50 {X : GX} {h : SH} {nc ns : Nat} {P : Out → SH → Prop} {Q : Int32 → SH → Prop} {a0 : Nat} {x1 : Int32} {x2 : Int32} {x3 : Int32} (F0 : LX11 (Sk h) (a0)) (i1 : vp_in (x1) 2402) (hN : Cd X mX11_isLetter [.int x3] (sI h (a0 + 3) ((x1 : Int32).toNatClampNeg) x2) 0 0 (oI Q nX)) (g : ∀ r t, Q r t → Gd X mX11_cutAll 67 [some (.ref a0), some (.int x1), some (.int x2), some (.int x3), some (.int x2), some (.long 0), none] [.int r] (t) nc ns P) : Gd X mX11_cutAll 50 [some (.ref a0), some (.int x1), some (.int x2), some (.int x3), none, none, none] [] h nc ns P := by
  refine g_iload_n dX11_cutAll_50 rfl ?_
  refine g_istore (L' := [some (.ref a0), some (.int x1), some (.int x2), some (.int x3), some (.int x2), none, none]) dX11_cutAll_51 (by decide) rfl ?_
  refine g_lconst (v := 0) dX11_cutAll_53 (by decide) ?_
  refine g_lstore (L' := [some (.ref a0), some (.int x1), some (.int x2), some (.int x3), some (.int x2), some (.long 0), none]) dX11_cutAll_54 (by decide) rfl ?_
  refine g_aload_n dX11_cutAll_56 rfl ?_
  refine g_getAs (c := 11) (k := 5) (b := a0 + 3) dX11_cutAll_57 (by decide) (by decide) kw_1132 rfl (LX11.o (h := h) F0) (LX11.r_place (h := h) F0) ?_
  refine g_iload_n dX11_cutAll_60 rfl ?_
  refine g_iload_n dX11_cutAll_61 rfl ?_
  refine g_iastore dX11_cutAll_62 (LX11.a_place (h := h) F0) i1 ?_
  refine g_iload_n dX11_cutAll_63 rfl ?_
  refine Gd.z ?_
  exact g_callS [.int x3] dX11_cutAll_64 mfX11_isLetter ⟨by decide, by decide⟩ kw_1310 kw_1311 rfl (Nat.le_of_ble_eq_true rfl) (by intro x hx; cases hx) (Nat.le_of_ble_eq_true rfl) hN (fun _ _ q => q.elim) (oI_go (G := fun a b => Gd X mX11_cutAll 67 _ a b nc ns P) (fun r t q => Gd.wk (g r t q) ⟨rfl, ⟨rfl, ⟨rfl, ⟨rfl, ⟨rfl, ⟨rfl, trivial⟩⟩⟩⟩⟩⟩))
theorem bkX11_cutAll_67 {X : GX} {h : SH} {nc ns : Nat} {P : Out → SH → Prop} {a0 : Nat} {x1 : Int32} {x2 : Int32} {x3 : Int32} {x4 : Int32} {y5 : Int64} {xs0 : Int32} (kt : xs0 = 0 → Gd X mX11_cutAll 152 [some (.ref a0), some (.int x1), some (.int x2), some (.int x3), some (.int x4), some (.long y5), none] [] (h) nc ns P) (kf : ¬ xs0 = 0 → Gd X mX11_cutAll 70 [some (.ref a0), some (.int x1), some (.int x2), none, some (.int x4), some (.long y5), none] [] (h) nc ns P) : Gd X mX11_cutAll 67 [some (.ref a0), some (.int x1), some (.int x2), some (.int x3), some (.int x4), some (.long y5), none] [.int xs0] h nc ns P := by
  exact g_if_eq (tgt := 152) dX11_cutAll_67 (by decide) (fun q => Gd.wk (kt q) ⟨rfl, ⟨rfl, ⟨rfl, ⟨rfl, ⟨rfl, ⟨rfl, trivial⟩⟩⟩⟩⟩⟩) (fun q => Gd.wk (kf q) ⟨rfl, ⟨rfl, ⟨rfl, ⟨rfl, ⟨rfl, trivial⟩⟩⟩⟩⟩)
theorem bkX11_cutAll_70 {X : GX} {h : SH} {nc ns : Nat} {P : Out → SH → Prop} {a0 : Nat} {x1 : Int32} {x2 : Int32} {x4 : Int32} {y5 : Int64} (F0 : LX11 (Sk h) (a0)) (kt : hI h a0 3 ≤ x2 → Gd X mX11_cutAll 129 [some (.ref a0), some (.int x1), some (.int x2), none, some (.int x4), some (.long y5), none] [] (h) nc ns P) (kf : ¬ hI h a0 3 ≤ x2 → Gd X mX11_cutAll 78 [some (.ref a0), some (.int x1), some (.int x2), none, some (.int x4), some (.long y5), none] [] (h) nc ns P) : Gd X mX11_cutAll 70 [some (.ref a0), some (.int x1), some (.int x2), none, some (.int x4), some (.long y5), none] [] h nc ns P := by
  refine g_iload_n dX11_cutAll_70 rfl ?_
  refine g_aload_n dX11_cutAll_71 rfl ?_
  refine g_getI (c := 11) (k := 3) dX11_cutAll_72 (by decide) (by decide) kw_1130 rfl (LX11.o (h := h) F0) ?_
  exact g_icmp_ge (tgt := 129) dX11_cutAll_75 (by decide) (fun q => Gd.wk (kt q) ⟨rfl, ⟨rfl, ⟨rfl, ⟨rfl, ⟨rfl, trivial⟩⟩⟩⟩⟩) (fun q => Gd.wk (kf q) ⟨rfl, ⟨rfl, ⟨rfl, ⟨rfl, ⟨rfl, trivial⟩⟩⟩⟩⟩)
theorem bkX11_cutAll_78 {X : GX} {h : SH} {nc ns : Nat} {P : Out → SH → Prop} {Q : Int32 → SH → Prop} {a0 : Nat} {x1 : Int32} {x2 : Int32} {x4 : Int32} {y5 : Int64} (F0 : LX11 (Sk h) (a0)) (i1 : vp_in (x2) 2400) (hN : Cd X mX11_isLetter [.int (hI h (a0 + 1) ((x2 : Int32).toNatClampNeg))] (h) 0 0 (oI Q nX)) (g : ∀ r t, Q r t → Gd X mX11_cutAll 87 [some (.ref a0), some (.int x1), some (.int x2), none, some (.int x4), some (.long y5), none] [.int r] (t) nc ns P) : Gd X mX11_cutAll 78 [some (.ref a0), some (.int x1), some (.int x2), none, some (.int x4), some (.long y5), none] [] h nc ns P := by
  refine g_aload_n dX11_cutAll_78 rfl ?_
  refine g_getAs (c := 11) (k := 1) (b := a0 + 1) dX11_cutAll_79 (by decide) (by decide) kw_1128 rfl (LX11.o (h := h) F0) (LX11.r_tape (h := h) F0) ?_
  refine g_iload_n dX11_cutAll_82 rfl ?_
  refine g_iaload dX11_cutAll_83 (LX11.a_tape (h := h) F0) i1 ?_
  refine Gd.z ?_
  exact g_callS [.int (hI h (a0 + 1) ((x2 : Int32).toNatClampNeg))] dX11_cutAll_84 mfX11_isLetter ⟨by decide, by decide⟩ kw_1310 kw_1311 rfl (Nat.le_of_ble_eq_true rfl) (by intro x hx; cases hx) (Nat.le_of_ble_eq_true rfl) hN (fun _ _ q => q.elim) (oI_go (G := fun a b => Gd X mX11_cutAll 87 _ a b nc ns P) (fun r t q => Gd.wk (g r t q) ⟨rfl, ⟨rfl, ⟨rfl, ⟨rfl, ⟨rfl, trivial⟩⟩⟩⟩⟩))
theorem bkX11_cutAll_87 {X : GX} {h : SH} {nc ns : Nat} {P : Out → SH → Prop} {a0 : Nat} {x1 : Int32} {x2 : Int32} {x4 : Int32} {y5 : Int64} {xs0 : Int32} (kt : xs0 = 0 → Gd X mX11_cutAll 129 [some (.ref a0), some (.int x1), some (.int x2), none, some (.int x4), some (.long y5), none] [] (h) nc ns P) (kf : ¬ xs0 = 0 → Gd X mX11_cutAll 90 [some (.ref a0), some (.int x1), some (.int x2), none, some (.int x4), some (.long y5), none] [] (h) nc ns P) : Gd X mX11_cutAll 87 [some (.ref a0), some (.int x1), some (.int x2), none, some (.int x4), some (.long y5), none] [.int xs0] h nc ns P := by
  exact g_if_eq (tgt := 129) dX11_cutAll_87 (by decide) (fun q => Gd.wk (kt q) ⟨rfl, ⟨rfl, ⟨rfl, ⟨rfl, ⟨rfl, trivial⟩⟩⟩⟩⟩) (fun q => Gd.wk (kf q) ⟨rfl, ⟨rfl, ⟨rfl, ⟨rfl, ⟨rfl, trivial⟩⟩⟩⟩⟩)
theorem bkX11_cutAll_90 {X : GX} {h : SH} {nc ns : Nat} {P : Out → SH → Prop} {a0 : Nat} {x1 : Int32} {x2 : Int32} {x4 : Int32} {y5 : Int64} (kt : (10 : Int32) ≤ (x2 - x4) → Gd X mX11_cutAll 119 [some (.ref a0), some (.int x1), some (.int x2), none, some (.int x4), some (.long y5), none] [] (h) nc ns P) (kf : ¬ (10 : Int32) ≤ (x2 - x4) → Gd X mX11_cutAll 99 [some (.ref a0), some (.int x1), some (.int x2), none, some (.int x4), some (.long y5), none] [] (h) nc ns P) : Gd X mX11_cutAll 90 [some (.ref a0), some (.int x1), some (.int x2), none, some (.int x4), some (.long y5), none] [] h nc ns P := by
  refine g_iload_n dX11_cutAll_90 rfl ?_
  refine g_iload dX11_cutAll_91 rfl ?_
  refine g_isub dX11_cutAll_93 ?_
  refine g_bipush (v := 10) dX11_cutAll_94 (by decide) ?_
  exact g_icmp_ge (tgt := 119) dX11_cutAll_96 (by decide) (fun q => Gd.wk (kt q) ⟨rfl, ⟨rfl, ⟨rfl, ⟨rfl, ⟨rfl, trivial⟩⟩⟩⟩⟩) (fun q => Gd.wk (kf q) ⟨rfl, ⟨rfl, ⟨rfl, ⟨rfl, ⟨rfl, trivial⟩⟩⟩⟩⟩)
theorem bkX11_cutAll_99 {X : GX} {h : SH} {nc ns : Nat} {P : Out → SH → Prop} {Q : Int32 → SH → Prop} {a0 : Nat} {x1 : Int32} {x2 : Int32} {x4 : Int32} {y5 : Int64} (F0 : LX11 (Sk h) (a0)) (i1 : vp_in (x2) 2400) (hN : Cd X mX11_rank [.int (hI h (a0 + 1) ((x2 : Int32).toNatClampNeg))] (h) 0 0 (oI Q nX)) (g : ∀ r t, Q r t → Gd X mX11_cutAll 114 [some (.ref a0), some (.int x1), some (.int x2), none, some (.int x4), none, none] [.int r, .long (37 * y5)] (t) nc ns P) : Gd X mX11_cutAll 99 [some (.ref a0), some (.int x1), some (.int x2), none, some (.int x4), some (.long y5), none] [] h nc ns P := by
  refine g_ldc2 (v := 37) dX11_cutAll_99 kw_1313 ?_
  refine g_lload dX11_cutAll_102 rfl ?_
  refine g_lmul dX11_cutAll_104 ?_
  refine g_aload_n dX11_cutAll_105 rfl ?_
  refine g_getAs (c := 11) (k := 1) (b := a0 + 1) dX11_cutAll_106 (by decide) (by decide) kw_1128 rfl (LX11.o (h := h) F0) (LX11.r_tape (h := h) F0) ?_
  refine g_iload_n dX11_cutAll_109 rfl ?_
  refine g_iaload dX11_cutAll_110 (LX11.a_tape (h := h) F0) i1 ?_
  refine Gd.z ?_
  exact g_callS [.int (hI h (a0 + 1) ((x2 : Int32).toNatClampNeg))] dX11_cutAll_111 mfX11_rank ⟨by decide, by decide⟩ kw_1314 kw_1315 rfl (Nat.le_of_ble_eq_true rfl) (by intro x hx; cases hx) (Nat.le_of_ble_eq_true rfl) hN (fun _ _ q => q.elim) (oI_go (G := fun a b => Gd X mX11_cutAll 114 _ a b nc ns P) (fun r t q => Gd.wk (g r t q) ⟨rfl, ⟨rfl, ⟨rfl, ⟨rfl, trivial⟩⟩⟩⟩))
theorem bkX11_cutAll_114 {X : GX} {h : SH} {nc ns : Nat} {P : Out → SH → Prop} {a0 : Nat} {x1 : Int32} {x2 : Int32} {x4 : Int32} {ys0 : Int64} {xs1 : Int32} (g : Gd X mX11_cutAll 121 [some (.ref a0), some (.int x1), some (.int x2), none, some (.int x4), none, none] [.long (ys0 + ((xs1 : Int32).toInt64))] (h) nc ns P) : Gd X mX11_cutAll 114 [some (.ref a0), some (.int x1), some (.int x2), none, some (.int x4), none, none] [.int xs1, .long ys0] h nc ns P := by
  refine g_i2l dX11_cutAll_114 ?_
  refine g_ladd dX11_cutAll_115 ?_
  refine g_goto (tgt := 121) dX11_cutAll_116 (by decide) ?_
  exact Gd.wk g ⟨rfl, ⟨rfl, ⟨rfl, ⟨rfl, trivial⟩⟩⟩⟩
theorem bkX11_cutAll_119 {X : GX} {h : SH} {nc ns : Nat} {P : Out → SH → Prop} {a0 : Nat} {x1 : Int32} {x2 : Int32} {x4 : Int32} {y5 : Int64} (g : Gd X mX11_cutAll 121 [some (.ref a0), some (.int x1), some (.int x2), none, some (.int x4), none, none] [.long y5] (h) nc ns P) : Gd X mX11_cutAll 119 [some (.ref a0), some (.int x1), some (.int x2), none, some (.int x4), some (.long y5), none] [] h nc ns P := by
  refine g_lload dX11_cutAll_119 rfl ?_
  exact Gd.wk g ⟨rfl, ⟨rfl, ⟨rfl, ⟨rfl, trivial⟩⟩⟩⟩
theorem bkX11_cutAll_121 {X : GX} {h : SH} {nc ns : Nat} {P : Out → SH → Prop} {a0 : Nat} {x1 : Int32} {x2 : Int32} {x4 : Int32} {ys0 : Int64} (g : Gd X mX11_cutAll 70 [some (.ref a0), some (.int x1), some (.int (x2 + 1)), none, some (.int x4), some (.long ys0), none] [] (h) nc ns P) : Gd X mX11_cutAll 121 [some (.ref a0), some (.int x1), some (.int x2), none, some (.int x4), none, none] [.long ys0] h nc ns P := by
  refine g_lstore (L' := [some (.ref a0), some (.int x1), some (.int x2), none, some (.int x4), some (.long ys0), none]) dX11_cutAll_121 (by decide) rfl ?_
  refine g_iinc (v := x2 + 1) (L' := [some (.ref a0), some (.int x1), some (.int (x2 + 1)), none, some (.int x4), some (.long ys0), none]) dX11_cutAll_123 rfl rfl (by decide) rfl ?_
  refine g_goto (tgt := 70) dX11_cutAll_126 (by decide) ?_
  exact Gd.wk g ⟨rfl, ⟨rfl, ⟨rfl, ⟨rfl, ⟨rfl, trivial⟩⟩⟩⟩⟩
theorem bkX11_cutAll_129 {X : GX} {h : SH} {nc ns : Nat} {P : Out → SH → Prop} {a0 : Nat} {x1 : Int32} {x2 : Int32} {x4 : Int32} {y5 : Int64} (F0 : LX11 (Sk h) (a0)) (kt : (x2 - x4) ≤ 10 → Gd X mX11_cutAll 147 [some (.ref a0), some (.int x1), some (.int x2), none, none, some (.long y5), none] [.int x1, .ref (a0 + 2)] (h) nc ns P) (kf : ¬ (x2 - x4) ≤ 10 → Gd X mX11_cutAll 143 [some (.ref a0), some (.int x1), some (.int x2), none, none, some (.long y5), none] [.int x1, .ref (a0 + 2)] (h) nc ns P) : Gd X mX11_cutAll 129 [some (.ref a0), some (.int x1), some (.int x2), none, some (.int x4), some (.long y5), none] [] h nc ns P := by
  refine g_aload_n dX11_cutAll_129 rfl ?_
  refine g_getAs (c := 11) (k := 4) (b := a0 + 2) dX11_cutAll_130 (by decide) (by decide) kw_1131 rfl (LX11.o (h := h) F0) (LX11.r_sort (h := h) F0) ?_
  refine g_iload_n dX11_cutAll_133 rfl ?_
  refine g_iload_n dX11_cutAll_134 rfl ?_
  refine g_iload dX11_cutAll_135 rfl ?_
  refine g_isub dX11_cutAll_137 ?_
  refine g_bipush (v := 10) dX11_cutAll_138 (by decide) ?_
  exact g_icmp_le (tgt := 147) dX11_cutAll_140 (by decide) (fun q => Gd.wk (kt q) ⟨rfl, ⟨rfl, ⟨rfl, ⟨rfl, trivial⟩⟩⟩⟩) (fun q => Gd.wk (kf q) ⟨rfl, ⟨rfl, ⟨rfl, ⟨rfl, trivial⟩⟩⟩⟩)
theorem bkX11_cutAll_143 {X : GX} {h : SH} {nc ns : Nat} {P : Out → SH → Prop} {a0 : Nat} {x1 : Int32} {x2 : Int32} {y5 : Int64} {as0 : Nat} {xs1 : Int32} (g : Gd X mX11_cutAll 148 [some (.ref a0), some (.int x1), some (.int x2), none, none, some (.long y5), none] [.int 4, .int xs1, .ref as0] (h) nc ns P) : Gd X mX11_cutAll 143 [some (.ref a0), some (.int x1), some (.int x2), none, none, some (.long y5), none] [.int xs1, .ref as0] h nc ns P := by
  refine g_iconst (v := 4) dX11_cutAll_143 (by decide) ?_
  refine g_goto (tgt := 148) dX11_cutAll_144 (by decide) ?_
  exact Gd.wk g ⟨rfl, ⟨rfl, ⟨rfl, ⟨rfl, trivial⟩⟩⟩⟩
theorem bkX11_cutAll_147 {X : GX} {h : SH} {nc ns : Nat} {P : Out → SH → Prop} {a0 : Nat} {x1 : Int32} {x2 : Int32} {y5 : Int64} {as0 : Nat} {xs1 : Int32} (g : Gd X mX11_cutAll 148 [some (.ref a0), some (.int x1), some (.int x2), none, none, some (.long y5), none] [.int 1, .int xs1, .ref as0] (h) nc ns P) : Gd X mX11_cutAll 147 [some (.ref a0), some (.int x1), some (.int x2), none, none, some (.long y5), none] [.int xs1, .ref as0] h nc ns P := by
  refine g_iconst (v := 1) dX11_cutAll_147 (by decide) ?_
  exact Gd.wk g ⟨rfl, ⟨rfl, ⟨rfl, ⟨rfl, trivial⟩⟩⟩⟩
theorem bkX11_cutAll_148 {X : GX} {h : SH} {nc ns : Nat} {P : Out → SH → Prop} {a0 : Nat} {x1 : Int32} {x2 : Int32} {y5 : Int64} {as0 : Nat} {xs1 : Int32} {xs2 : Int32} {n7 : Nat} (B0 : Ar h (as0) 20 n7) (i1 : vp_in (xs1) n7) (g : Gd X mX11_cutAll 265 [some (.ref a0), some (.int x1), some (.int x2), none, none, some (.long y5), none] [] (sI h as0 ((xs1 : Int32).toNatClampNeg) xs2) nc ns P) : Gd X mX11_cutAll 148 [some (.ref a0), some (.int x1), some (.int x2), none, none, some (.long y5), none] [.int xs2, .int xs1, .ref as0] h nc ns P := by
  refine g_iastore dX11_cutAll_148 B0 i1 ?_
  refine g_goto (tgt := 265) dX11_cutAll_149 (by decide) ?_
  exact Gd.wk g ⟨rfl, ⟨rfl, ⟨rfl, ⟨rfl, trivial⟩⟩⟩⟩
theorem bkX11_cutAll_152 {X : GX} {h : SH} {nc ns : Nat} {P : Out → SH → Prop} {Q : Int32 → SH → Prop} {a0 : Nat} {x1 : Int32} {x2 : Int32} {x3 : Int32} {x4 : Int32} {y5 : Int64} (hN : Cd X mX11_isDigit [.int x3] (h) 0 0 (oI Q nX)) (g : ∀ r t, Q r t → Gd X mX11_cutAll 156 [some (.ref a0), some (.int x1), some (.int x2), some (.int x3), some (.int x4), some (.long y5), none] [.int r] (t) nc ns P) : Gd X mX11_cutAll 152 [some (.ref a0), some (.int x1), some (.int x2), some (.int x3), some (.int x4), some (.long y5), none] [] h nc ns P := by
  refine g_iload_n dX11_cutAll_152 rfl ?_
  refine Gd.z ?_
  exact g_callS [.int x3] dX11_cutAll_153 mfX11_isDigit ⟨by decide, by decide⟩ kw_1317 kw_1318 rfl (Nat.le_of_ble_eq_true rfl) (by intro x hx; cases hx) (Nat.le_of_ble_eq_true rfl) hN (fun _ _ q => q.elim) (oI_go (G := fun a b => Gd X mX11_cutAll 156 _ a b nc ns P) (fun r t q => Gd.wk (g r t q) ⟨rfl, ⟨rfl, ⟨rfl, ⟨rfl, ⟨rfl, ⟨rfl, trivial⟩⟩⟩⟩⟩⟩))
theorem bkX11_cutAll_156 {X : GX} {h : SH} {nc ns : Nat} {P : Out → SH → Prop} {a0 : Nat} {x1 : Int32} {x2 : Int32} {x3 : Int32} {x4 : Int32} {y5 : Int64} {xs0 : Int32} (kt : xs0 = 0 → Gd X mX11_cutAll 240 [some (.ref a0), some (.int x1), some (.int x2), some (.int x3), none, none, none] [] (h) nc ns P) (kf : ¬ xs0 = 0 → Gd X mX11_cutAll 159 [some (.ref a0), some (.int x1), some (.int x2), none, some (.int x4), some (.long y5), none] [] (h) nc ns P) : Gd X mX11_cutAll 156 [some (.ref a0), some (.int x1), some (.int x2), some (.int x3), some (.int x4), some (.long y5), none] [.int xs0] h nc ns P := by
  exact g_if_eq (tgt := 240) dX11_cutAll_156 (by decide) (fun q => Gd.wk (kt q) ⟨rfl, ⟨rfl, ⟨rfl, ⟨rfl, trivial⟩⟩⟩⟩) (fun q => Gd.wk (kf q) ⟨rfl, ⟨rfl, ⟨rfl, ⟨rfl, ⟨rfl, trivial⟩⟩⟩⟩⟩)
theorem bkX11_cutAll_159 {X : GX} {h : SH} {nc ns : Nat} {P : Out → SH → Prop} {a0 : Nat} {x1 : Int32} {x2 : Int32} {x4 : Int32} {y5 : Int64} (F0 : LX11 (Sk h) (a0)) (kt : hI h a0 3 ≤ x2 → Gd X mX11_cutAll 218 [some (.ref a0), some (.int x1), some (.int x2), none, some (.int x4), some (.long y5), none] [] (h) nc ns P) (kf : ¬ hI h a0 3 ≤ x2 → Gd X mX11_cutAll 167 [some (.ref a0), some (.int x1), some (.int x2), none, some (.int x4), some (.long y5), none] [] (h) nc ns P) : Gd X mX11_cutAll 159 [some (.ref a0), some (.int x1), some (.int x2), none, some (.int x4), some (.long y5), none] [] h nc ns P := by
  refine g_iload_n dX11_cutAll_159 rfl ?_
  refine g_aload_n dX11_cutAll_160 rfl ?_
  refine g_getI (c := 11) (k := 3) dX11_cutAll_161 (by decide) (by decide) kw_1130 rfl (LX11.o (h := h) F0) ?_
  exact g_icmp_ge (tgt := 218) dX11_cutAll_164 (by decide) (fun q => Gd.wk (kt q) ⟨rfl, ⟨rfl, ⟨rfl, ⟨rfl, ⟨rfl, trivial⟩⟩⟩⟩⟩) (fun q => Gd.wk (kf q) ⟨rfl, ⟨rfl, ⟨rfl, ⟨rfl, ⟨rfl, trivial⟩⟩⟩⟩⟩)
theorem bkX11_cutAll_167 {X : GX} {h : SH} {nc ns : Nat} {P : Out → SH → Prop} {Q : Int32 → SH → Prop} {a0 : Nat} {x1 : Int32} {x2 : Int32} {x4 : Int32} {y5 : Int64} (F0 : LX11 (Sk h) (a0)) (i1 : vp_in (x2) 2400) (hN : Cd X mX11_isDigit [.int (hI h (a0 + 1) ((x2 : Int32).toNatClampNeg))] (h) 0 0 (oI Q nX)) (g : ∀ r t, Q r t → Gd X mX11_cutAll 176 [some (.ref a0), some (.int x1), some (.int x2), none, some (.int x4), some (.long y5), none] [.int r] (t) nc ns P) : Gd X mX11_cutAll 167 [some (.ref a0), some (.int x1), some (.int x2), none, some (.int x4), some (.long y5), none] [] h nc ns P := by
  refine g_aload_n dX11_cutAll_167 rfl ?_
  refine g_getAs (c := 11) (k := 1) (b := a0 + 1) dX11_cutAll_168 (by decide) (by decide) kw_1128 rfl (LX11.o (h := h) F0) (LX11.r_tape (h := h) F0) ?_
  refine g_iload_n dX11_cutAll_171 rfl ?_
  refine g_iaload dX11_cutAll_172 (LX11.a_tape (h := h) F0) i1 ?_
  refine Gd.z ?_
  exact g_callS [.int (hI h (a0 + 1) ((x2 : Int32).toNatClampNeg))] dX11_cutAll_173 mfX11_isDigit ⟨by decide, by decide⟩ kw_1317 kw_1318 rfl (Nat.le_of_ble_eq_true rfl) (by intro x hx; cases hx) (Nat.le_of_ble_eq_true rfl) hN (fun _ _ q => q.elim) (oI_go (G := fun a b => Gd X mX11_cutAll 176 _ a b nc ns P) (fun r t q => Gd.wk (g r t q) ⟨rfl, ⟨rfl, ⟨rfl, ⟨rfl, ⟨rfl, trivial⟩⟩⟩⟩⟩))
theorem bkX11_cutAll_176 {X : GX} {h : SH} {nc ns : Nat} {P : Out → SH → Prop} {a0 : Nat} {x1 : Int32} {x2 : Int32} {x4 : Int32} {y5 : Int64} {xs0 : Int32} (kt : xs0 = 0 → Gd X mX11_cutAll 218 [some (.ref a0), some (.int x1), some (.int x2), none, some (.int x4), some (.long y5), none] [] (h) nc ns P) (kf : ¬ xs0 = 0 → Gd X mX11_cutAll 179 [some (.ref a0), some (.int x1), some (.int x2), none, some (.int x4), some (.long y5), none] [] (h) nc ns P) : Gd X mX11_cutAll 176 [some (.ref a0), some (.int x1), some (.int x2), none, some (.int x4), some (.long y5), none] [.int xs0] h nc ns P := by
  exact g_if_eq (tgt := 218) dX11_cutAll_176 (by decide) (fun q => Gd.wk (kt q) ⟨rfl, ⟨rfl, ⟨rfl, ⟨rfl, ⟨rfl, trivial⟩⟩⟩⟩⟩) (fun q => Gd.wk (kf q) ⟨rfl, ⟨rfl, ⟨rfl, ⟨rfl, ⟨rfl, trivial⟩⟩⟩⟩⟩)
theorem bkX11_cutAll_179 {X : GX} {h : SH} {nc ns : Nat} {P : Out → SH → Prop} {a0 : Nat} {x1 : Int32} {x2 : Int32} {x4 : Int32} {y5 : Int64} (kt : (4 : Int32) ≤ (x2 - x4) → Gd X mX11_cutAll 208 [some (.ref a0), some (.int x1), some (.int x2), none, some (.int x4), some (.long y5), none] [] (h) nc ns P) (kf : ¬ (4 : Int32) ≤ (x2 - x4) → Gd X mX11_cutAll 187 [some (.ref a0), some (.int x1), some (.int x2), none, some (.int x4), some (.long y5), none] [] (h) nc ns P) : Gd X mX11_cutAll 179 [some (.ref a0), some (.int x1), some (.int x2), none, some (.int x4), some (.long y5), none] [] h nc ns P := by
  refine g_iload_n dX11_cutAll_179 rfl ?_
  refine g_iload dX11_cutAll_180 rfl ?_
  refine g_isub dX11_cutAll_182 ?_
  refine g_iconst (v := 4) dX11_cutAll_183 (by decide) ?_
  exact g_icmp_ge (tgt := 208) dX11_cutAll_184 (by decide) (fun q => Gd.wk (kt q) ⟨rfl, ⟨rfl, ⟨rfl, ⟨rfl, ⟨rfl, trivial⟩⟩⟩⟩⟩) (fun q => Gd.wk (kf q) ⟨rfl, ⟨rfl, ⟨rfl, ⟨rfl, ⟨rfl, trivial⟩⟩⟩⟩⟩)
theorem bkX11_cutAll_187 {X : GX} {h : SH} {nc ns : Nat} {P : Out → SH → Prop} {a0 : Nat} {x1 : Int32} {x2 : Int32} {x4 : Int32} {y5 : Int64} (F0 : LX11 (Sk h) (a0)) (i1 : vp_in (x2) 2400) (g : Gd X mX11_cutAll 210 [some (.ref a0), some (.int x1), some (.int x2), none, some (.int x4), none, none] [.long (((10 * y5) + ((hI h (a0 + 1) ((x2 : Int32).toNatClampNeg) : Int32).toInt64)) - 48)] (h) nc ns P) : Gd X mX11_cutAll 187 [some (.ref a0), some (.int x1), some (.int x2), none, some (.int x4), some (.long y5), none] [] h nc ns P := by
  refine g_ldc2 (v := 10) dX11_cutAll_187 kw_1320 ?_
  refine g_lload dX11_cutAll_190 rfl ?_
  refine g_lmul dX11_cutAll_192 ?_
  refine g_aload_n dX11_cutAll_193 rfl ?_
  refine g_getAs (c := 11) (k := 1) (b := a0 + 1) dX11_cutAll_194 (by decide) (by decide) kw_1128 rfl (LX11.o (h := h) F0) (LX11.r_tape (h := h) F0) ?_
  refine g_iload_n dX11_cutAll_197 rfl ?_
  refine g_iaload dX11_cutAll_198 (LX11.a_tape (h := h) F0) i1 ?_
  refine g_i2l dX11_cutAll_199 ?_
  refine g_ladd dX11_cutAll_200 ?_
  refine g_ldc2 (v := 48) dX11_cutAll_201 kw_1321 ?_
  refine g_lsub dX11_cutAll_204 ?_
  refine g_goto (tgt := 210) dX11_cutAll_205 (by decide) ?_
  exact Gd.wk g ⟨rfl, ⟨rfl, ⟨rfl, ⟨rfl, trivial⟩⟩⟩⟩
theorem bkX11_cutAll_208 {X : GX} {h : SH} {nc ns : Nat} {P : Out → SH → Prop} {a0 : Nat} {x1 : Int32} {x2 : Int32} {x4 : Int32} {y5 : Int64} (g : Gd X mX11_cutAll 210 [some (.ref a0), some (.int x1), some (.int x2), none, some (.int x4), none, none] [.long y5] (h) nc ns P) : Gd X mX11_cutAll 208 [some (.ref a0), some (.int x1), some (.int x2), none, some (.int x4), some (.long y5), none] [] h nc ns P := by
  refine g_lload dX11_cutAll_208 rfl ?_
  exact Gd.wk g ⟨rfl, ⟨rfl, ⟨rfl, ⟨rfl, trivial⟩⟩⟩⟩
theorem bkX11_cutAll_210 {X : GX} {h : SH} {nc ns : Nat} {P : Out → SH → Prop} {a0 : Nat} {x1 : Int32} {x2 : Int32} {x4 : Int32} {ys0 : Int64} (g : Gd X mX11_cutAll 159 [some (.ref a0), some (.int x1), some (.int (x2 + 1)), none, some (.int x4), some (.long ys0), none] [] (h) nc ns P) : Gd X mX11_cutAll 210 [some (.ref a0), some (.int x1), some (.int x2), none, some (.int x4), none, none] [.long ys0] h nc ns P := by
  refine g_lstore (L' := [some (.ref a0), some (.int x1), some (.int x2), none, some (.int x4), some (.long ys0), none]) dX11_cutAll_210 (by decide) rfl ?_
  refine g_iinc (v := x2 + 1) (L' := [some (.ref a0), some (.int x1), some (.int (x2 + 1)), none, some (.int x4), some (.long ys0), none]) dX11_cutAll_212 rfl rfl (by decide) rfl ?_
  refine g_goto (tgt := 159) dX11_cutAll_215 (by decide) ?_
  exact Gd.wk g ⟨rfl, ⟨rfl, ⟨rfl, ⟨rfl, ⟨rfl, trivial⟩⟩⟩⟩⟩
theorem bkX11_cutAll_218 {X : GX} {h : SH} {nc ns : Nat} {P : Out → SH → Prop} {a0 : Nat} {x1 : Int32} {x2 : Int32} {x4 : Int32} {y5 : Int64} (F0 : LX11 (Sk h) (a0)) (kt : (x2 - x4) ≤ 4 → Gd X mX11_cutAll 235 [some (.ref a0), some (.int x1), some (.int x2), none, none, some (.long y5), none] [.int x1, .ref (a0 + 2)] (h) nc ns P) (kf : ¬ (x2 - x4) ≤ 4 → Gd X mX11_cutAll 231 [some (.ref a0), some (.int x1), some (.int x2), none, none, some (.long y5), none] [.int x1, .ref (a0 + 2)] (h) nc ns P) : Gd X mX11_cutAll 218 [some (.ref a0), some (.int x1), some (.int x2), none, some (.int x4), some (.long y5), none] [] h nc ns P := by
  refine g_aload_n dX11_cutAll_218 rfl ?_
  refine g_getAs (c := 11) (k := 4) (b := a0 + 2) dX11_cutAll_219 (by decide) (by decide) kw_1131 rfl (LX11.o (h := h) F0) (LX11.r_sort (h := h) F0) ?_
  refine g_iload_n dX11_cutAll_222 rfl ?_
  refine g_iload_n dX11_cutAll_223 rfl ?_
  refine g_iload dX11_cutAll_224 rfl ?_
  refine g_isub dX11_cutAll_226 ?_
  refine g_iconst (v := 4) dX11_cutAll_227 (by decide) ?_
  exact g_icmp_le (tgt := 235) dX11_cutAll_228 (by decide) (fun q => Gd.wk (kt q) ⟨rfl, ⟨rfl, ⟨rfl, ⟨rfl, trivial⟩⟩⟩⟩) (fun q => Gd.wk (kf q) ⟨rfl, ⟨rfl, ⟨rfl, ⟨rfl, trivial⟩⟩⟩⟩)
theorem bkX11_cutAll_231 {X : GX} {h : SH} {nc ns : Nat} {P : Out → SH → Prop} {a0 : Nat} {x1 : Int32} {x2 : Int32} {y5 : Int64} {as0 : Nat} {xs1 : Int32} (g : Gd X mX11_cutAll 236 [some (.ref a0), some (.int x1), some (.int x2), none, none, some (.long y5), none] [.int 4, .int xs1, .ref as0] (h) nc ns P) : Gd X mX11_cutAll 231 [some (.ref a0), some (.int x1), some (.int x2), none, none, some (.long y5), none] [.int xs1, .ref as0] h nc ns P := by
  refine g_iconst (v := 4) dX11_cutAll_231 (by decide) ?_
  refine g_goto (tgt := 236) dX11_cutAll_232 (by decide) ?_
  exact Gd.wk g ⟨rfl, ⟨rfl, ⟨rfl, ⟨rfl, trivial⟩⟩⟩⟩
theorem bkX11_cutAll_235 {X : GX} {h : SH} {nc ns : Nat} {P : Out → SH → Prop} {a0 : Nat} {x1 : Int32} {x2 : Int32} {y5 : Int64} {as0 : Nat} {xs1 : Int32} (g : Gd X mX11_cutAll 236 [some (.ref a0), some (.int x1), some (.int x2), none, none, some (.long y5), none] [.int 2, .int xs1, .ref as0] (h) nc ns P) : Gd X mX11_cutAll 235 [some (.ref a0), some (.int x1), some (.int x2), none, none, some (.long y5), none] [.int xs1, .ref as0] h nc ns P := by
  refine g_iconst (v := 2) dX11_cutAll_235 (by decide) ?_
  exact Gd.wk g ⟨rfl, ⟨rfl, ⟨rfl, ⟨rfl, trivial⟩⟩⟩⟩
theorem bkX11_cutAll_236 {X : GX} {h : SH} {nc ns : Nat} {P : Out → SH → Prop} {a0 : Nat} {x1 : Int32} {x2 : Int32} {y5 : Int64} {as0 : Nat} {xs1 : Int32} {xs2 : Int32} {n7 : Nat} (B0 : Ar h (as0) 20 n7) (i1 : vp_in (xs1) n7) (g : Gd X mX11_cutAll 265 [some (.ref a0), some (.int x1), some (.int x2), none, none, some (.long y5), none] [] (sI h as0 ((xs1 : Int32).toNatClampNeg) xs2) nc ns P) : Gd X mX11_cutAll 236 [some (.ref a0), some (.int x1), some (.int x2), none, none, some (.long y5), none] [.int xs2, .int xs1, .ref as0] h nc ns P := by
  refine g_iastore dX11_cutAll_236 B0 i1 ?_
  refine g_goto (tgt := 265) dX11_cutAll_237 (by decide) ?_
  exact Gd.wk g ⟨rfl, ⟨rfl, ⟨rfl, ⟨rfl, trivial⟩⟩⟩⟩
theorem bkX11_cutAll_240 {X : GX} {h : SH} {nc ns : Nat} {P : Out → SH → Prop} {Q : Int32 → SH → Prop} {a0 : Nat} {x1 : Int32} {x2 : Int32} {x3 : Int32} (F0 : LX11 (Sk h) (a0)) (hN : Cd X mX11_isSignOf [.int x3] (h) 0 0 (oI Q nX)) (g : ∀ r t, Q r t → Gd X mX11_cutAll 253 [some (.ref a0), some (.int x1), some (.int x2), none, none, some (.long ((x3 : Int32).toInt64)), none] [.int r, .int x1, .ref (a0 + 2)] (t) nc ns P) : Gd X mX11_cutAll 240 [some (.ref a0), some (.int x1), some (.int x2), some (.int x3), none, none, none] [] h nc ns P := by
  refine g_iload_n dX11_cutAll_240 rfl ?_
  refine g_i2l dX11_cutAll_241 ?_
  refine g_lstore (L' := [some (.ref a0), some (.int x1), some (.int x2), some (.int x3), none, some (.long ((x3 : Int32).toInt64)), none]) dX11_cutAll_242 (by decide) rfl ?_
  refine g_aload_n dX11_cutAll_244 rfl ?_
  refine g_getAs (c := 11) (k := 4) (b := a0 + 2) dX11_cutAll_245 (by decide) (by decide) kw_1131 rfl (LX11.o (h := h) F0) (LX11.r_sort (h := h) F0) ?_
  refine g_iload_n dX11_cutAll_248 rfl ?_
  refine g_iload_n dX11_cutAll_249 rfl ?_
  refine Gd.z ?_
  exact g_callS [.int x3] dX11_cutAll_250 mfX11_isSignOf ⟨by decide, by decide⟩ kw_1322 kw_1323 rfl (Nat.le_of_ble_eq_true rfl) (by intro x hx; cases hx) (Nat.le_of_ble_eq_true rfl) hN (fun _ _ q => q.elim) (oI_go (G := fun a b => Gd X mX11_cutAll 253 _ a b nc ns P) (fun r t q => Gd.wk (g r t q) ⟨rfl, ⟨rfl, ⟨rfl, ⟨rfl, trivial⟩⟩⟩⟩))
theorem bkX11_cutAll_253 {X : GX} {h : SH} {nc ns : Nat} {P : Out → SH → Prop} {a0 : Nat} {x1 : Int32} {x2 : Int32} {y5 : Int64} {as0 : Nat} {xs1 : Int32} {xs2 : Int32} (kt : xs2 = 0 → Gd X mX11_cutAll 260 [some (.ref a0), some (.int x1), some (.int x2), none, none, some (.long y5), none] [.int xs1, .ref as0] (h) nc ns P) (kf : ¬ xs2 = 0 → Gd X mX11_cutAll 256 [some (.ref a0), some (.int x1), some (.int x2), none, none, some (.long y5), none] [.int xs1, .ref as0] (h) nc ns P) : Gd X mX11_cutAll 253 [some (.ref a0), some (.int x1), some (.int x2), none, none, some (.long y5), none] [.int xs2, .int xs1, .ref as0] h nc ns P := by
  exact g_if_eq (tgt := 260) dX11_cutAll_253 (by decide) (fun q => Gd.wk (kt q) ⟨rfl, ⟨rfl, ⟨rfl, ⟨rfl, trivial⟩⟩⟩⟩) (fun q => Gd.wk (kf q) ⟨rfl, ⟨rfl, ⟨rfl, ⟨rfl, trivial⟩⟩⟩⟩)
theorem bkX11_cutAll_256 {X : GX} {h : SH} {nc ns : Nat} {P : Out → SH → Prop} {a0 : Nat} {x1 : Int32} {x2 : Int32} {y5 : Int64} {as0 : Nat} {xs1 : Int32} (g : Gd X mX11_cutAll 261 [some (.ref a0), some (.int x1), some (.int x2), none, none, some (.long y5), none] [.int 3, .int xs1, .ref as0] (h) nc ns P) : Gd X mX11_cutAll 256 [some (.ref a0), some (.int x1), some (.int x2), none, none, some (.long y5), none] [.int xs1, .ref as0] h nc ns P := by
  refine g_iconst (v := 3) dX11_cutAll_256 (by decide) ?_
  refine g_goto (tgt := 261) dX11_cutAll_257 (by decide) ?_
  exact Gd.wk g ⟨rfl, ⟨rfl, ⟨rfl, ⟨rfl, trivial⟩⟩⟩⟩
theorem bkX11_cutAll_260 {X : GX} {h : SH} {nc ns : Nat} {P : Out → SH → Prop} {a0 : Nat} {x1 : Int32} {x2 : Int32} {y5 : Int64} {as0 : Nat} {xs1 : Int32} (g : Gd X mX11_cutAll 261 [some (.ref a0), some (.int x1), some (.int x2), none, none, some (.long y5), none] [.int 4, .int xs1, .ref as0] (h) nc ns P) : Gd X mX11_cutAll 260 [some (.ref a0), some (.int x1), some (.int x2), none, none, some (.long y5), none] [.int xs1, .ref as0] h nc ns P := by
  refine g_iconst (v := 4) dX11_cutAll_260 (by decide) ?_
  exact Gd.wk g ⟨rfl, ⟨rfl, ⟨rfl, ⟨rfl, trivial⟩⟩⟩⟩
theorem bkX11_cutAll_261 {X : GX} {h : SH} {nc ns : Nat} {P : Out → SH → Prop} {a0 : Nat} {x1 : Int32} {x2 : Int32} {y5 : Int64} {as0 : Nat} {xs1 : Int32} {xs2 : Int32} {n7 : Nat} (B0 : Ar h (as0) 20 n7) (i1 : vp_in (xs1) n7) (g : Gd X mX11_cutAll 265 [some (.ref a0), some (.int x1), some (.int (x2 + 1)), none, none, some (.long y5), none] [] (sI h as0 ((xs1 : Int32).toNatClampNeg) xs2) nc ns P) : Gd X mX11_cutAll 261 [some (.ref a0), some (.int x1), some (.int x2), none, none, some (.long y5), none] [.int xs2, .int xs1, .ref as0] h nc ns P := by
  refine g_iastore dX11_cutAll_261 B0 i1 ?_
  refine g_iinc (v := x2 + 1) (L' := [some (.ref a0), some (.int x1), some (.int (x2 + 1)), none, none, some (.long y5), none]) dX11_cutAll_262 rfl rfl (by decide) rfl ?_
  exact Gd.wk g ⟨rfl, ⟨rfl, ⟨rfl, ⟨rfl, trivial⟩⟩⟩⟩
theorem bkX11_cutAll_265 {X : GX} {h : SH} {nc ns : Nat} {P : Out → SH → Prop} {a0 : Nat} {x1 : Int32} {x2 : Int32} {y5 : Int64} (F0 : LX11 (Sk h) (a0)) (i1 : vp_in (x1) 2402) (g : Gd X mX11_cutAll 17 [some (.ref a0), some (.int (x1 + 1)), some (.int x2), none, none, none, none] [] (sJ h (a0 + 4) ((x1 : Int32).toNatClampNeg) y5) nc ns P) : Gd X mX11_cutAll 265 [some (.ref a0), some (.int x1), some (.int x2), none, none, some (.long y5), none] [] h nc ns P := by
  refine g_aload_n dX11_cutAll_265 rfl ?_
  refine g_getAs (c := 11) (k := 6) (b := a0 + 4) dX11_cutAll_266 (by decide) (by decide) kw_1133 rfl (LX11.o (h := h) F0) (LX11.r_value (h := h) F0) ?_
  refine g_iload_n dX11_cutAll_269 rfl ?_
  refine g_lload dX11_cutAll_270 rfl ?_
  refine g_lastore dX11_cutAll_272 (LX11.a_value (h := h) F0) i1 ?_
  refine g_iinc (v := x1 + 1) (L' := [some (.ref a0), some (.int (x1 + 1)), some (.int x2), none, none, some (.long y5), none]) dX11_cutAll_273 rfl rfl (by decide) rfl ?_
  refine g_goto (tgt := 17) dX11_cutAll_276 (by decide) ?_
  exact Gd.wk g ⟨rfl, ⟨rfl, ⟨rfl, trivial⟩⟩⟩
theorem bkX11_cutAll_279 {X : GX} {h : SH} {nc ns : Nat} {P : Out → SH → Prop} {a0 : Nat} {x1 : Int32} (F0 : LX11 (Sk h) (a0)) (i1 : vp_in (x1) 2402) (g : Gd X mX11_cutAll 301 [some (.ref a0), none, none, none, none, none, none] [] (sI (sI (sI h (a0 + 2) ((x1 : Int32).toNatClampNeg) 0) (a0 + 3) ((x1 : Int32).toNatClampNeg) (hI (sI h (a0 + 2) ((x1 : Int32).toNatClampNeg) 0) a0 3)) a0 7 0) nc ns P) : Gd X mX11_cutAll 279 [some (.ref a0), some (.int x1), none, none, none, none, none] [] h nc ns P := by
  refine g_aload_n dX11_cutAll_279 rfl ?_
  refine g_getAs (c := 11) (k := 4) (b := a0 + 2) dX11_cutAll_280 (by decide) (by decide) kw_1131 rfl (LX11.o (h := h) F0) (LX11.r_sort (h := h) F0) ?_
  refine g_iload_n dX11_cutAll_283 rfl ?_
  refine g_iconst (v := 0) dX11_cutAll_284 (by decide) ?_
  refine g_iastore dX11_cutAll_285 (LX11.a_sort (h := h) F0) i1 ?_
  refine g_aload_n dX11_cutAll_286 rfl ?_
  refine g_getAs (c := 11) (k := 5) (b := a0 + 3) dX11_cutAll_287 (by decide) (by decide) kw_1132 rfl (LX11.o (h := sI h (a0 + 2) ((x1 : Int32).toNatClampNeg) 0) F0) (LX11.r_place (h := sI h (a0 + 2) ((x1 : Int32).toNatClampNeg) 0) F0) ?_
  refine g_iload_n dX11_cutAll_290 rfl ?_
  refine g_aload_n dX11_cutAll_291 rfl ?_
  refine g_getI (c := 11) (k := 3) dX11_cutAll_292 (by decide) (by decide) kw_1130 rfl (LX11.o (h := sI h (a0 + 2) ((x1 : Int32).toNatClampNeg) 0) F0) ?_
  refine g_iastore dX11_cutAll_295 (LX11.a_place (h := sI h (a0 + 2) ((x1 : Int32).toNatClampNeg) 0) F0) i1 ?_
  refine g_aload_n dX11_cutAll_296 rfl ?_
  refine g_iconst (v := 0) dX11_cutAll_297 (by decide) ?_
  refine g_put (c := 11) (k := 7) (h1 := sI (sI (sI h (a0 + 2) ((x1 : Int32).toNatClampNeg) 0) (a0 + 3) ((x1 : Int32).toNatClampNeg) (hI (sI h (a0 + 2) ((x1 : Int32).toNatClampNeg) 0) a0 3)) a0 7 0) dX11_cutAll_298 (by decide) (by decide) kw_1134 rfl (LX11.o (h := sI (sI h (a0 + 2) ((x1 : Int32).toNatClampNeg) 0) (a0 + 3) ((x1 : Int32).toNatClampNeg) (hI (sI h (a0 + 2) ((x1 : Int32).toNatClampNeg) 0) a0 3)) F0) rfl rfl (Put.I rfl) ?_
  exact Gd.wk g ⟨rfl, trivial⟩
theorem bkX11_cutAll_301 {X : GX} {h : SH} {nc ns : Nat} {P : Out → SH → Prop} {a0 : Nat} (F0 : LX11 (Sk h) (a0)) (hp : P (.inl (none)) (sI h a0 8 0)) : Gd X mX11_cutAll 301 [some (.ref a0), none, none, none, none, none, none] [] h nc ns P := by
  refine g_aload_n dX11_cutAll_301 rfl ?_
  refine g_iconst (v := 0) dX11_cutAll_302 (by decide) ?_
  refine g_put (c := 11) (k := 8) (h1 := sI h a0 8 0) dX11_cutAll_303 (by decide) (by decide) kw_1135 rfl (LX11.o (h := h) F0) rfl rfl (Put.I rfl) ?_
  exact g_return (st := []) dX11_cutAll_306 rfl hp
theorem bkX11_wrong_0 {X : GX} {h : SH} {nc ns : Nat} {P : Out → SH → Prop} {a0 : Nat} {x1 : Int32} (F0 : LX11 (Sk h) (a0)) (kt : ¬ hI h a0 8 = 0 → Gd X mX11_wrong 25 [none, none] [] (h) nc ns P) (kf : hI h a0 8 = 0 → Gd X mX11_wrong 7 [some (.ref a0), some (.int x1)] [] (h) nc ns P) : Gd X mX11_wrong 0 [some (.ref a0), some (.int x1)] [] h nc ns P := by
  refine g_aload_n dX11_wrong_0 rfl ?_
  refine g_getI (c := 11) (k := 8) dX11_wrong_1 (by decide) (by decide) kw_1135 rfl (LX11.o (h := h) F0) ?_
  exact g_if_ne (tgt := 25) dX11_wrong_4 (by decide) (fun q => Gd.wk (kt q) trivial) (fun q => Gd.wk (kf q) ⟨rfl, ⟨rfl, trivial⟩⟩)
theorem bkX11_wrong_7 {X : GX} {h : SH} {nc ns : Nat} {P : Out → SH → Prop} {a0 : Nat} {x1 : Int32} (F0 : LX11 (Sk h) (a0)) (i1 : vp_in (hI h a0 7) 2402) (g : Gd X mX11_wrong 25 [none, none] [] (sI h a0 8 (x1 + (16 * (hI h (a0 + 3) ((hI h a0 7 : Int32).toNatClampNeg))))) nc ns P) : Gd X mX11_wrong 7 [some (.ref a0), some (.int x1)] [] h nc ns P := by
  refine g_aload_n dX11_wrong_7 rfl ?_
  refine g_iload_n dX11_wrong_8 rfl ?_
  refine g_bipush (v := 16) dX11_wrong_9 (by decide) ?_
  refine g_aload_n dX11_wrong_11 rfl ?_
  refine g_getAs (c := 11) (k := 5) (b := a0 + 3) dX11_wrong_12 (by decide) (by decide) kw_1132 rfl (LX11.o (h := h) F0) (LX11.r_place (h := h) F0) ?_
  refine g_aload_n dX11_wrong_15 rfl ?_
  refine g_getI (c := 11) (k := 7) dX11_wrong_16 (by decide) (by decide) kw_1134 rfl (LX11.o (h := h) F0) ?_
  refine g_iaload dX11_wrong_19 (LX11.a_place (h := h) F0) i1 ?_
  refine g_imul dX11_wrong_20 ?_
  refine g_iadd dX11_wrong_21 ?_
  refine g_put (c := 11) (k := 8) (h1 := sI h a0 8 (x1 + (16 * (hI h (a0 + 3) ((hI h a0 7 : Int32).toNatClampNeg))))) dX11_wrong_22 (by decide) (by decide) kw_1135 rfl (LX11.o (h := h) F0) rfl rfl (Put.I rfl) ?_
  exact Gd.wk g trivial
theorem bkX11_wrong_25 {X : GX} {h : SH} {nc ns : Nat} {P : Out → SH → Prop} (hp : P (.inl (none)) (h)) : Gd X mX11_wrong 25 [none, none] [] h nc ns P := by
  exact g_return (st := []) dX11_wrong_25 rfl hp
theorem bkX11_isSign_0 {X : GX} {h : SH} {nc ns : Nat} {P : Out → SH → Prop} {a0 : Nat} {x1 : Int32} (F0 : LX11 (Sk h) (a0)) (kt : ¬ hI h a0 8 = 0 → Gd X mX11_isSign 39 [none, none] [] (h) nc ns P) (kf : hI h a0 8 = 0 → Gd X mX11_isSign 7 [some (.ref a0), some (.int x1)] [] (h) nc ns P) : Gd X mX11_isSign 0 [some (.ref a0), some (.int x1)] [] h nc ns P := by
  refine g_aload_n dX11_isSign_0 rfl ?_
  refine g_getI (c := 11) (k := 8) dX11_isSign_1 (by decide) (by decide) kw_1135 rfl (LX11.o (h := h) F0) ?_
  exact g_if_ne (tgt := 39) dX11_isSign_4 (by decide) (fun q => Gd.wk (kt q) trivial) (fun q => Gd.wk (kf q) ⟨rfl, ⟨rfl, trivial⟩⟩)
theorem bkX11_isSign_7 {X : GX} {h : SH} {nc ns : Nat} {P : Out → SH → Prop} {a0 : Nat} {x1 : Int32} (F0 : LX11 (Sk h) (a0)) (i1 : vp_in (hI h a0 7) 2402) (kt : ¬ (hI h (a0 + 2) ((hI h a0 7 : Int32).toNatClampNeg)) = 3 → Gd X mX11_isSign 39 [none, none] [] (h) nc ns P) (kf : (hI h (a0 + 2) ((hI h a0 7 : Int32).toNatClampNeg)) = 3 → Gd X mX11_isSign 20 [some (.ref a0), some (.int x1)] [] (h) nc ns P) : Gd X mX11_isSign 7 [some (.ref a0), some (.int x1)] [] h nc ns P := by
  refine g_aload_n dX11_isSign_7 rfl ?_
  refine g_getAs (c := 11) (k := 4) (b := a0 + 2) dX11_isSign_8 (by decide) (by decide) kw_1131 rfl (LX11.o (h := h) F0) (LX11.r_sort (h := h) F0) ?_
  refine g_aload_n dX11_isSign_11 rfl ?_
  refine g_getI (c := 11) (k := 7) dX11_isSign_12 (by decide) (by decide) kw_1134 rfl (LX11.o (h := h) F0) ?_
  refine g_iaload dX11_isSign_15 (LX11.a_sort (h := h) F0) i1 ?_
  refine g_iconst (v := 3) dX11_isSign_16 (by decide) ?_
  exact g_icmp_ne (tgt := 39) dX11_isSign_17 (by decide) (fun q => Gd.wk (kt q) trivial) (fun q => Gd.wk (kf q) ⟨rfl, ⟨rfl, trivial⟩⟩)
theorem bkX11_isSign_20 {X : GX} {h : SH} {nc ns : Nat} {P : Out → SH → Prop} {a0 : Nat} {x1 : Int32} (F0 : LX11 (Sk h) (a0)) (i1 : vp_in (hI h a0 7) 2402) (kt : ¬ (lg_cmp (hJ h (a0 + 4) ((hI h a0 7 : Int32).toNatClampNeg)) ((x1 : Int32).toInt64)) = 0 → Gd X mX11_isSign 39 [none, none] [] (h) nc ns P) (kf : (lg_cmp (hJ h (a0 + 4) ((hI h a0 7 : Int32).toNatClampNeg)) ((x1 : Int32).toInt64)) = 0 → Gd X mX11_isSign 35 [none, none] [] (h) nc ns P) : Gd X mX11_isSign 20 [some (.ref a0), some (.int x1)] [] h nc ns P := by
  refine g_aload_n dX11_isSign_20 rfl ?_
  refine g_getAs (c := 11) (k := 6) (b := a0 + 4) dX11_isSign_21 (by decide) (by decide) kw_1133 rfl (LX11.o (h := h) F0) (LX11.r_value (h := h) F0) ?_
  refine g_aload_n dX11_isSign_24 rfl ?_
  refine g_getI (c := 11) (k := 7) dX11_isSign_25 (by decide) (by decide) kw_1134 rfl (LX11.o (h := h) F0) ?_
  refine g_laload dX11_isSign_28 (LX11.a_value (h := h) F0) i1 ?_
  refine g_iload_n dX11_isSign_29 rfl ?_
  refine g_i2l dX11_isSign_30 ?_
  refine g_lcmp dX11_isSign_31 ?_
  exact g_if_ne (tgt := 39) dX11_isSign_32 (by decide) (fun q => Gd.wk (kt q) trivial) (fun q => Gd.wk (kf q) trivial)
theorem bkX11_isSign_35 {X : GX} {h : SH} {nc ns : Nat} {P : Out → SH → Prop} (g : Gd X mX11_isSign 40 [none, none] [.int 1] (h) nc ns P) : Gd X mX11_isSign 35 [none, none] [] h nc ns P := by
  refine g_iconst (v := 1) dX11_isSign_35 (by decide) ?_
  refine g_goto (tgt := 40) dX11_isSign_36 (by decide) ?_
  exact Gd.wk g trivial
theorem bkX11_isSign_39 {X : GX} {h : SH} {nc ns : Nat} {P : Out → SH → Prop} (g : Gd X mX11_isSign 40 [none, none] [.int 0] (h) nc ns P) : Gd X mX11_isSign 39 [none, none] [] h nc ns P := by
  refine g_iconst (v := 0) dX11_isSign_39 (by decide) ?_
  exact Gd.wk g trivial
theorem bkX11_isSign_40 {X : GX} {h : SH} {nc ns : Nat} {P : Out → SH → Prop} {xs0 : Int32} (w0 : xs0 = 0 ∨ xs0 = 1) (hp : P (.inl (some (.int (xs0)))) (h)) : Gd X mX11_isSign 40 [none, none] [.int xs0] h nc ns P := by
  exact g_ireturn (st := []) dX11_isSign_40 rfl (bl_n w0) hp
theorem bkX11_isWord_0 {X : GX} {h : SH} {nc ns : Nat} {P : Out → SH → Prop} {a0 : Nat} {x1 : Int32} (F0 : LX11 (Sk h) (a0)) (kt : ¬ hI h a0 8 = 0 → Gd X mX11_isWord 43 [none, none] [] (h) nc ns P) (kf : hI h a0 8 = 0 → Gd X mX11_isWord 7 [some (.ref a0), some (.int x1)] [] (h) nc ns P) : Gd X mX11_isWord 0 [some (.ref a0), some (.int x1)] [] h nc ns P := by
  refine g_aload_n dX11_isWord_0 rfl ?_
  refine g_getI (c := 11) (k := 8) dX11_isWord_1 (by decide) (by decide) kw_1135 rfl (LX11.o (h := h) F0) ?_
  exact g_if_ne (tgt := 43) dX11_isWord_4 (by decide) (fun q => Gd.wk (kt q) trivial) (fun q => Gd.wk (kf q) ⟨rfl, ⟨rfl, trivial⟩⟩)
theorem bkX11_isWord_7 {X : GX} {h : SH} {nc ns : Nat} {P : Out → SH → Prop} {a0 : Nat} {x1 : Int32} (F0 : LX11 (Sk h) (a0)) (i1 : vp_in (hI h a0 7) 2402) (kt : ¬ (hI h (a0 + 2) ((hI h a0 7 : Int32).toNatClampNeg)) = 1 → Gd X mX11_isWord 43 [none, none] [] (h) nc ns P) (kf : (hI h (a0 + 2) ((hI h a0 7 : Int32).toNatClampNeg)) = 1 → Gd X mX11_isWord 20 [some (.ref a0), some (.int x1)] [] (h) nc ns P) : Gd X mX11_isWord 7 [some (.ref a0), some (.int x1)] [] h nc ns P := by
  refine g_aload_n dX11_isWord_7 rfl ?_
  refine g_getAs (c := 11) (k := 4) (b := a0 + 2) dX11_isWord_8 (by decide) (by decide) kw_1131 rfl (LX11.o (h := h) F0) (LX11.r_sort (h := h) F0) ?_
  refine g_aload_n dX11_isWord_11 rfl ?_
  refine g_getI (c := 11) (k := 7) dX11_isWord_12 (by decide) (by decide) kw_1134 rfl (LX11.o (h := h) F0) ?_
  refine g_iaload dX11_isWord_15 (LX11.a_sort (h := h) F0) i1 ?_
  refine g_iconst (v := 1) dX11_isWord_16 (by decide) ?_
  exact g_icmp_ne (tgt := 43) dX11_isWord_17 (by decide) (fun q => Gd.wk (kt q) trivial) (fun q => Gd.wk (kf q) ⟨rfl, ⟨rfl, trivial⟩⟩)
theorem bkX11_isWord_20 {X : GX} {h : SH} {nc ns : Nat} {P : Out → SH → Prop} {a0 : Nat} {x1 : Int32} (F0 : LX11 (Sk h) (a0)) (i1 : vp_in (hI h a0 7) 2402) (i2 : vp_in (x1) 11) (kt : ¬ (lg_cmp (hJ h (a0 + 4) ((hI h a0 7 : Int32).toNatClampNeg)) (hJ h (a0 + 5) ((x1 : Int32).toNatClampNeg))) = 0 → Gd X mX11_isWord 43 [none, none] [] (h) nc ns P) (kf : (lg_cmp (hJ h (a0 + 4) ((hI h a0 7 : Int32).toNatClampNeg)) (hJ h (a0 + 5) ((x1 : Int32).toNatClampNeg))) = 0 → Gd X mX11_isWord 39 [none, none] [] (h) nc ns P) : Gd X mX11_isWord 20 [some (.ref a0), some (.int x1)] [] h nc ns P := by
  refine g_aload_n dX11_isWord_20 rfl ?_
  refine g_getAs (c := 11) (k := 6) (b := a0 + 4) dX11_isWord_21 (by decide) (by decide) kw_1133 rfl (LX11.o (h := h) F0) (LX11.r_value (h := h) F0) ?_
  refine g_aload_n dX11_isWord_24 rfl ?_
  refine g_getI (c := 11) (k := 7) dX11_isWord_25 (by decide) (by decide) kw_1134 rfl (LX11.o (h := h) F0) ?_
  refine g_laload dX11_isWord_28 (LX11.a_value (h := h) F0) i1 ?_
  refine g_aload_n dX11_isWord_29 rfl ?_
  refine g_getAs (c := 11) (k := 9) (b := a0 + 5) dX11_isWord_30 (by decide) (by decide) kw_1136 rfl (LX11.o (h := h) F0) (LX11.r_words (h := h) F0) ?_
  refine g_iload_n dX11_isWord_33 rfl ?_
  refine g_laload dX11_isWord_34 (LX11.a_words (h := h) F0) i2 ?_
  refine g_lcmp dX11_isWord_35 ?_
  exact g_if_ne (tgt := 43) dX11_isWord_36 (by decide) (fun q => Gd.wk (kt q) trivial) (fun q => Gd.wk (kf q) trivial)
theorem bkX11_isWord_39 {X : GX} {h : SH} {nc ns : Nat} {P : Out → SH → Prop} (g : Gd X mX11_isWord 44 [none, none] [.int 1] (h) nc ns P) : Gd X mX11_isWord 39 [none, none] [] h nc ns P := by
  refine g_iconst (v := 1) dX11_isWord_39 (by decide) ?_
  refine g_goto (tgt := 44) dX11_isWord_40 (by decide) ?_
  exact Gd.wk g trivial
theorem bkX11_isWord_43 {X : GX} {h : SH} {nc ns : Nat} {P : Out → SH → Prop} (g : Gd X mX11_isWord 44 [none, none] [.int 0] (h) nc ns P) : Gd X mX11_isWord 43 [none, none] [] h nc ns P := by
  refine g_iconst (v := 0) dX11_isWord_43 (by decide) ?_
  exact Gd.wk g trivial
theorem bkX11_isWord_44 {X : GX} {h : SH} {nc ns : Nat} {P : Out → SH → Prop} {xs0 : Int32} (w0 : xs0 = 0 ∨ xs0 = 1) (hp : P (.inl (some (.int (xs0)))) (h)) : Gd X mX11_isWord 44 [none, none] [.int xs0] h nc ns P := by
  exact g_ireturn (st := []) dX11_isWord_44 rfl (bl_n w0) hp
theorem bkX11_takeSign_0 {X : GX} {h : SH} {nc ns : Nat} {P : Out → SH → Prop} {Q : Int32 → SH → Prop} {a0 : Nat} {x1 : Int32} (F0 : LX11 (Sk h) (a0)) (hN : Cd X mX11_isSign [.ref a0, .int x1] (h) 0 0 (oI Q nX)) (g : ∀ r t, Q r t → Gd X mX11_takeSign 5 [some (.ref a0), none] [.int r] (t) nc ns P) : Gd X mX11_takeSign 0 [some (.ref a0), some (.int x1)] [] h nc ns P := by
  refine g_aload_n dX11_takeSign_0 rfl ?_
  refine g_iload_n dX11_takeSign_1 rfl ?_
  refine Gd.z ?_
  exact g_callV (k := 11) [.int x1] dX11_takeSign_2 mfX11_isSign ⟨by decide, by decide⟩ kw_1367 kw_1369 kw_55 rfl (by decide) (Nat.le_of_ble_eq_true rfl) (by intro x hx; cases hx) (LX11.o (h := h) F0) (Nat.le_of_ble_eq_true rfl) hN (fun _ _ q => q.elim) (oI_go (G := fun a b => Gd X mX11_takeSign 5 _ a b nc ns P) (fun r t q => Gd.wk (g r t q) ⟨rfl, trivial⟩))
theorem bkX11_takeSign_5 {X : GX} {h : SH} {nc ns : Nat} {P : Out → SH → Prop} {a0 : Nat} {xs0 : Int32} (kt : xs0 = 0 → Gd X mX11_takeSign 21 [some (.ref a0), none] [] (h) nc ns P) (kf : ¬ xs0 = 0 → Gd X mX11_takeSign 8 [some (.ref a0), none] [] (h) nc ns P) : Gd X mX11_takeSign 5 [some (.ref a0), none] [.int xs0] h nc ns P := by
  exact g_if_eq (tgt := 21) dX11_takeSign_5 (by decide) (fun q => Gd.wk (kt q) ⟨rfl, trivial⟩) (fun q => Gd.wk (kf q) ⟨rfl, trivial⟩)
theorem bkX11_takeSign_8 {X : GX} {h : SH} {nc ns : Nat} {P : Out → SH → Prop} {a0 : Nat} (F0 : LX11 (Sk h) (a0)) (g : Gd X mX11_takeSign 26 [none, none] [] (sI h a0 7 (hI h a0 7 + 1)) nc ns P) : Gd X mX11_takeSign 8 [some (.ref a0), none] [] h nc ns P := by
  refine g_aload_n dX11_takeSign_8 rfl ?_
  refine g_dup dX11_takeSign_9 rfl ?_
  refine g_getI (c := 11) (k := 7) dX11_takeSign_10 (by decide) (by decide) kw_1134 rfl (LX11.o (h := h) F0) ?_
  refine g_iconst (v := 1) dX11_takeSign_13 (by decide) ?_
  refine g_iadd dX11_takeSign_14 ?_
  refine g_put (c := 11) (k := 7) (h1 := sI h a0 7 (hI h a0 7 + 1)) dX11_takeSign_15 (by decide) (by decide) kw_1134 rfl (LX11.o (h := h) F0) rfl rfl (Put.I rfl) ?_
  refine g_goto (tgt := 26) dX11_takeSign_18 (by decide) ?_
  exact Gd.wk g trivial
theorem bkX11_takeSign_21 {X : GX} {h : SH} {nc ns : Nat} {P : Out → SH → Prop} {Q : SH → Prop} {a0 : Nat} (F0 : LX11 (Sk h) (a0)) (hN : Cd X mX11_wrong [.ref a0, .int 1] (h) 0 0 (oV Q nX)) (g : ∀ t, Q t → Gd X mX11_takeSign 26 [none, none] [] (t) nc ns P) : Gd X mX11_takeSign 21 [some (.ref a0), none] [] h nc ns P := by
  refine g_aload_n dX11_takeSign_21 rfl ?_
  refine g_iconst (v := 1) dX11_takeSign_22 (by decide) ?_
  refine Gd.z ?_
  exact g_callV (k := 11) [.int 1] dX11_takeSign_23 mfX11_wrong ⟨by decide, by decide⟩ kw_1333 kw_1335 kw_47 rfl (by decide) (Nat.le_of_ble_eq_true rfl) (by intro x hx; cases hx) (LX11.o (h := h) F0) (Nat.le_of_ble_eq_true rfl) hN (fun _ _ q => q.elim) (oV_go (G := fun a b => Gd X mX11_takeSign 26 _ a b nc ns P) (fun t q => Gd.wk (g t q) trivial))
theorem bkX11_takeSign_26 {X : GX} {h : SH} {nc ns : Nat} {P : Out → SH → Prop} (hp : P (.inl (none)) (h)) : Gd X mX11_takeSign 26 [none, none] [] h nc ns P := by
  exact g_return (st := []) dX11_takeSign_26 rfl hp
theorem bkX11_hasSign_0 {X : GX} {h : SH} {nc ns : Nat} {P : Out → SH → Prop} {Q : Int32 → SH → Prop} {a0 : Nat} {x1 : Int32} (F0 : LX11 (Sk h) (a0)) (hN : Cd X mX11_isSign [.ref a0, .int x1] (h) 0 0 (oI Q nX)) (g : ∀ r t, Q r t → Gd X mX11_hasSign 5 [some (.ref a0), none, none] [.int r] (t) nc ns P) : Gd X mX11_hasSign 0 [some (.ref a0), some (.int x1), none] [] h nc ns P := by
  refine g_aload_n dX11_hasSign_0 rfl ?_
  refine g_iload_n dX11_hasSign_1 rfl ?_
  refine Gd.z ?_
  exact g_callV (k := 11) [.int x1] dX11_hasSign_2 mfX11_isSign ⟨by decide, by decide⟩ kw_1367 kw_1369 kw_55 rfl (by decide) (Nat.le_of_ble_eq_true rfl) (by intro x hx; cases hx) (LX11.o (h := h) F0) (Nat.le_of_ble_eq_true rfl) hN (fun _ _ q => q.elim) (oI_go (G := fun a b => Gd X mX11_hasSign 5 _ a b nc ns P) (fun r t q => Gd.wk (g r t q) ⟨rfl, trivial⟩))
theorem bkX11_hasSign_5 {X : GX} {h : SH} {nc ns : Nat} {P : Out → SH → Prop} {a0 : Nat} {xs0 : Int32} (F0 : LX11 (Sk h) (a0)) (kt : xs0 = 0 → Gd X mX11_hasSign 19 [none, none, some (.int xs0)] [.int (hI h a0 7), .ref a0] (h) nc ns P) (kf : ¬ xs0 = 0 → Gd X mX11_hasSign 15 [none, none, some (.int xs0)] [.int (hI h a0 7), .ref a0] (h) nc ns P) : Gd X mX11_hasSign 5 [some (.ref a0), none, none] [.int xs0] h nc ns P := by
  refine g_istore_n (L' := [some (.ref a0), none, some (.int xs0)]) dX11_hasSign_5 (by decide) rfl ?_
  refine g_aload_n dX11_hasSign_6 rfl ?_
  refine g_dup dX11_hasSign_7 rfl ?_
  refine g_getI (c := 11) (k := 7) dX11_hasSign_8 (by decide) (by decide) kw_1134 rfl (LX11.o (h := h) F0) ?_
  refine g_iload_n dX11_hasSign_11 rfl ?_
  exact g_if_eq (tgt := 19) dX11_hasSign_12 (by decide) (fun q => Gd.wk (kt q) ⟨rfl, trivial⟩) (fun q => Gd.wk (kf q) ⟨rfl, trivial⟩)
theorem bkX11_hasSign_15 {X : GX} {h : SH} {nc ns : Nat} {P : Out → SH → Prop} {x2 : Int32} {as0 : Nat} {xs1 : Int32} (g : Gd X mX11_hasSign 20 [none, none, some (.int x2)] [.int 1, .int xs1, .ref as0] (h) nc ns P) : Gd X mX11_hasSign 15 [none, none, some (.int x2)] [.int xs1, .ref as0] h nc ns P := by
  refine g_iconst (v := 1) dX11_hasSign_15 (by decide) ?_
  refine g_goto (tgt := 20) dX11_hasSign_16 (by decide) ?_
  exact Gd.wk g ⟨rfl, trivial⟩
theorem bkX11_hasSign_19 {X : GX} {h : SH} {nc ns : Nat} {P : Out → SH → Prop} {x2 : Int32} {as0 : Nat} {xs1 : Int32} (g : Gd X mX11_hasSign 20 [none, none, some (.int x2)] [.int 0, .int xs1, .ref as0] (h) nc ns P) : Gd X mX11_hasSign 19 [none, none, some (.int x2)] [.int xs1, .ref as0] h nc ns P := by
  refine g_iconst (v := 0) dX11_hasSign_19 (by decide) ?_
  exact Gd.wk g ⟨rfl, trivial⟩
theorem bkX11_hasSign_20 {X : GX} {h : SH} {nc ns : Nat} {P : Out → SH → Prop} {x2 : Int32} {as0 : Nat} {xs1 : Int32} {xs2 : Int32} (F0 : LX11 (Sk h) (as0)) (w1 : x2 = 0 ∨ x2 = 1) (hp : P (.inl (some (.int (x2)))) (sI h as0 7 (xs1 + xs2))) : Gd X mX11_hasSign 20 [none, none, some (.int x2)] [.int xs2, .int xs1, .ref as0] h nc ns P := by
  refine g_iadd dX11_hasSign_20 ?_
  refine g_put (c := 11) (k := 7) (h1 := sI h as0 7 (xs1 + xs2)) dX11_hasSign_21 (by decide) (by decide) kw_1134 rfl (LX11.o (h := h) F0) rfl rfl (Put.I rfl) ?_
  refine g_iload_n dX11_hasSign_24 rfl ?_
  exact g_ireturn (st := []) dX11_hasSign_25 rfl (bl_n w1) hp
theorem bkX11_hasWord_0 {X : GX} {h : SH} {nc ns : Nat} {P : Out → SH → Prop} {Q : Int32 → SH → Prop} {a0 : Nat} {x1 : Int32} (F0 : LX11 (Sk h) (a0)) (hN : Cd X mX11_isWord [.ref a0, .int x1] (h) 0 0 (oI Q nX)) (g : ∀ r t, Q r t → Gd X mX11_hasWord 5 [some (.ref a0), none, none] [.int r] (t) nc ns P) : Gd X mX11_hasWord 0 [some (.ref a0), some (.int x1), none] [] h nc ns P := by
  refine g_aload_n dX11_hasWord_0 rfl ?_
  refine g_iload_n dX11_hasWord_1 rfl ?_
  refine Gd.z ?_
  exact g_callV (k := 11) [.int x1] dX11_hasWord_2 mfX11_isWord ⟨by decide, by decide⟩ kw_1325 kw_1327 kw_45 rfl (by decide) (Nat.le_of_ble_eq_true rfl) (by intro x hx; cases hx) (LX11.o (h := h) F0) (Nat.le_of_ble_eq_true rfl) hN (fun _ _ q => q.elim) (oI_go (G := fun a b => Gd X mX11_hasWord 5 _ a b nc ns P) (fun r t q => Gd.wk (g r t q) ⟨rfl, trivial⟩))
theorem bkX11_hasWord_5 {X : GX} {h : SH} {nc ns : Nat} {P : Out → SH → Prop} {a0 : Nat} {xs0 : Int32} (F0 : LX11 (Sk h) (a0)) (kt : xs0 = 0 → Gd X mX11_hasWord 19 [none, none, some (.int xs0)] [.int (hI h a0 7), .ref a0] (h) nc ns P) (kf : ¬ xs0 = 0 → Gd X mX11_hasWord 15 [none, none, some (.int xs0)] [.int (hI h a0 7), .ref a0] (h) nc ns P) : Gd X mX11_hasWord 5 [some (.ref a0), none, none] [.int xs0] h nc ns P := by
  refine g_istore_n (L' := [some (.ref a0), none, some (.int xs0)]) dX11_hasWord_5 (by decide) rfl ?_
  refine g_aload_n dX11_hasWord_6 rfl ?_
  refine g_dup dX11_hasWord_7 rfl ?_
  refine g_getI (c := 11) (k := 7) dX11_hasWord_8 (by decide) (by decide) kw_1134 rfl (LX11.o (h := h) F0) ?_
  refine g_iload_n dX11_hasWord_11 rfl ?_
  exact g_if_eq (tgt := 19) dX11_hasWord_12 (by decide) (fun q => Gd.wk (kt q) ⟨rfl, trivial⟩) (fun q => Gd.wk (kf q) ⟨rfl, trivial⟩)
theorem bkX11_hasWord_15 {X : GX} {h : SH} {nc ns : Nat} {P : Out → SH → Prop} {x2 : Int32} {as0 : Nat} {xs1 : Int32} (g : Gd X mX11_hasWord 20 [none, none, some (.int x2)] [.int 1, .int xs1, .ref as0] (h) nc ns P) : Gd X mX11_hasWord 15 [none, none, some (.int x2)] [.int xs1, .ref as0] h nc ns P := by
  refine g_iconst (v := 1) dX11_hasWord_15 (by decide) ?_
  refine g_goto (tgt := 20) dX11_hasWord_16 (by decide) ?_
  exact Gd.wk g ⟨rfl, trivial⟩
theorem bkX11_hasWord_19 {X : GX} {h : SH} {nc ns : Nat} {P : Out → SH → Prop} {x2 : Int32} {as0 : Nat} {xs1 : Int32} (g : Gd X mX11_hasWord 20 [none, none, some (.int x2)] [.int 0, .int xs1, .ref as0] (h) nc ns P) : Gd X mX11_hasWord 19 [none, none, some (.int x2)] [.int xs1, .ref as0] h nc ns P := by
  refine g_iconst (v := 0) dX11_hasWord_19 (by decide) ?_
  exact Gd.wk g ⟨rfl, trivial⟩
theorem bkX11_hasWord_20 {X : GX} {h : SH} {nc ns : Nat} {P : Out → SH → Prop} {x2 : Int32} {as0 : Nat} {xs1 : Int32} {xs2 : Int32} (F0 : LX11 (Sk h) (as0)) (w1 : x2 = 0 ∨ x2 = 1) (hp : P (.inl (some (.int (x2)))) (sI h as0 7 (xs1 + xs2))) : Gd X mX11_hasWord 20 [none, none, some (.int x2)] [.int xs2, .int xs1, .ref as0] h nc ns P := by
  refine g_iadd dX11_hasWord_20 ?_
  refine g_put (c := 11) (k := 7) (h1 := sI h as0 7 (xs1 + xs2)) dX11_hasWord_21 (by decide) (by decide) kw_1134 rfl (LX11.o (h := h) F0) rfl rfl (Put.I rfl) ?_
  refine g_iload_n dX11_hasWord_24 rfl ?_
  exact g_ireturn (st := []) dX11_hasWord_25 rfl (bl_n w1) hp
theorem bkX11_takeWord_0 {X : GX} {h : SH} {nc ns : Nat} {P : Out → SH → Prop} {Q : Int32 → SH → Prop} {a0 : Nat} {x1 : Int32} (F0 : LX11 (Sk h) (a0)) (hN : Cd X mX11_hasWord [.ref a0, .int x1] (h) 0 0 (oI Q nX)) (g : ∀ r t, Q r t → Gd X mX11_takeWord 5 [some (.ref a0), none] [.int r] (t) nc ns P) : Gd X mX11_takeWord 0 [some (.ref a0), some (.int x1)] [] h nc ns P := by
  refine g_aload_n dX11_takeWord_0 rfl ?_
  refine g_iload_n dX11_takeWord_1 rfl ?_
  refine Gd.z ?_
  exact g_callV (k := 11) [.int x1] dX11_takeWord_2 mfX11_hasWord ⟨by decide, by decide⟩ kw_1353 kw_1355 kw_52 rfl (by decide) (Nat.le_of_ble_eq_true rfl) (by intro x hx; cases hx) (LX11.o (h := h) F0) (Nat.le_of_ble_eq_true rfl) hN (fun _ _ q => q.elim) (oI_go (G := fun a b => Gd X mX11_takeWord 5 _ a b nc ns P) (fun r t q => Gd.wk (g r t q) ⟨rfl, trivial⟩))
theorem bkX11_takeWord_5 {X : GX} {h : SH} {nc ns : Nat} {P : Out → SH → Prop} {a0 : Nat} {xs0 : Int32} (kt : ¬ xs0 = 0 → Gd X mX11_takeWord 13 [none, none] [] (h) nc ns P) (kf : xs0 = 0 → Gd X mX11_takeWord 8 [some (.ref a0), none] [] (h) nc ns P) : Gd X mX11_takeWord 5 [some (.ref a0), none] [.int xs0] h nc ns P := by
  exact g_if_ne (tgt := 13) dX11_takeWord_5 (by decide) (fun q => Gd.wk (kt q) trivial) (fun q => Gd.wk (kf q) ⟨rfl, trivial⟩)
theorem bkX11_takeWord_8 {X : GX} {h : SH} {nc ns : Nat} {P : Out → SH → Prop} {Q : SH → Prop} {a0 : Nat} (F0 : LX11 (Sk h) (a0)) (hN : Cd X mX11_wrong [.ref a0, .int 1] (h) 0 0 (oV Q nX)) (g : ∀ t, Q t → Gd X mX11_takeWord 13 [none, none] [] (t) nc ns P) : Gd X mX11_takeWord 8 [some (.ref a0), none] [] h nc ns P := by
  refine g_aload_n dX11_takeWord_8 rfl ?_
  refine g_iconst (v := 1) dX11_takeWord_9 (by decide) ?_
  refine Gd.z ?_
  exact g_callV (k := 11) [.int 1] dX11_takeWord_10 mfX11_wrong ⟨by decide, by decide⟩ kw_1333 kw_1335 kw_47 rfl (by decide) (Nat.le_of_ble_eq_true rfl) (by intro x hx; cases hx) (LX11.o (h := h) F0) (Nat.le_of_ble_eq_true rfl) hN (fun _ _ q => q.elim) (oV_go (G := fun a b => Gd X mX11_takeWord 13 _ a b nc ns P) (fun t q => Gd.wk (g t q) trivial))
theorem bkX11_takeWord_13 {X : GX} {h : SH} {nc ns : Nat} {P : Out → SH → Prop} (hp : P (.inl (none)) (h)) : Gd X mX11_takeWord 13 [none, none] [] h nc ns P := by
  exact g_return (st := []) dX11_takeWord_13 rfl hp
theorem bkX11_takeNumber_0 {X : GX} {h : SH} {nc ns : Nat} {P : Out → SH → Prop} {a0 : Nat} {x1 : Int32} {x2 : Int32} (F0 : LX11 (Sk h) (a0)) (kt : ¬ hI h a0 8 = 0 → Gd X mX11_takeNumber 28 [some (.ref a0), some (.int x1), some (.int x2)] [] (h) nc ns P) (kf : hI h a0 8 = 0 → Gd X mX11_takeNumber 7 [some (.ref a0), some (.int x1), some (.int x2)] [] (h) nc ns P) : Gd X mX11_takeNumber 0 [some (.ref a0), some (.int x1), some (.int x2)] [] h nc ns P := by
  refine g_aload_n dX11_takeNumber_0 rfl ?_
  refine g_getI (c := 11) (k := 8) dX11_takeNumber_1 (by decide) (by decide) kw_1135 rfl (LX11.o (h := h) F0) ?_
  exact g_if_ne (tgt := 28) dX11_takeNumber_4 (by decide) (fun q => Gd.wk (kt q) ⟨rfl, ⟨rfl, ⟨rfl, trivial⟩⟩⟩) (fun q => Gd.wk (kf q) ⟨rfl, ⟨rfl, ⟨rfl, trivial⟩⟩⟩)
theorem bkX11_takeNumber_7 {X : GX} {h : SH} {nc ns : Nat} {P : Out → SH → Prop} {a0 : Nat} {x1 : Int32} {x2 : Int32} (F0 : LX11 (Sk h) (a0)) (i1 : vp_in (hI h a0 7) 2402) (kt : (hI h (a0 + 2) ((hI h a0 7 : Int32).toNatClampNeg)) = 2 → Gd X mX11_takeNumber 28 [some (.ref a0), some (.int x1), some (.int x2)] [] (h) nc ns P) (kf : ¬ (hI h (a0 + 2) ((hI h a0 7 : Int32).toNatClampNeg)) = 2 → Gd X mX11_takeNumber 20 [some (.ref a0), none, none] [] (h) nc ns P) : Gd X mX11_takeNumber 7 [some (.ref a0), some (.int x1), some (.int x2)] [] h nc ns P := by
  refine g_aload_n dX11_takeNumber_7 rfl ?_
  refine g_getAs (c := 11) (k := 4) (b := a0 + 2) dX11_takeNumber_8 (by decide) (by decide) kw_1131 rfl (LX11.o (h := h) F0) (LX11.r_sort (h := h) F0) ?_
  refine g_aload_n dX11_takeNumber_11 rfl ?_
  refine g_getI (c := 11) (k := 7) dX11_takeNumber_12 (by decide) (by decide) kw_1134 rfl (LX11.o (h := h) F0) ?_
  refine g_iaload dX11_takeNumber_15 (LX11.a_sort (h := h) F0) i1 ?_
  refine g_iconst (v := 2) dX11_takeNumber_16 (by decide) ?_
  exact g_icmp_eq (tgt := 28) dX11_takeNumber_17 (by decide) (fun q => Gd.wk (kt q) ⟨rfl, ⟨rfl, ⟨rfl, trivial⟩⟩⟩) (fun q => Gd.wk (kf q) ⟨rfl, trivial⟩)
theorem bkX11_takeNumber_20 {X : GX} {h : SH} {nc ns : Nat} {P : Out → SH → Prop} {Q : SH → Prop} {a0 : Nat} (F0 : LX11 (Sk h) (a0)) (hN : Cd X mX11_wrong [.ref a0, .int 1] (h) 0 0 (oV Q nX)) (g : ∀ t, Q t → Gd X mX11_takeNumber 25 [some (.ref a0), none, none] [] (t) nc ns P) : Gd X mX11_takeNumber 20 [some (.ref a0), none, none] [] h nc ns P := by
  refine g_aload_n dX11_takeNumber_20 rfl ?_
  refine g_iconst (v := 1) dX11_takeNumber_21 (by decide) ?_
  refine Gd.z ?_
  exact g_callV (k := 11) [.int 1] dX11_takeNumber_22 mfX11_wrong ⟨by decide, by decide⟩ kw_1333 kw_1335 kw_47 rfl (by decide) (Nat.le_of_ble_eq_true rfl) (by intro x hx; cases hx) (LX11.o (h := h) F0) (Nat.le_of_ble_eq_true rfl) hN (fun _ _ q => q.elim) (oV_go (G := fun a b => Gd X mX11_takeNumber 25 _ a b nc ns P) (fun t q => Gd.wk (g t q) ⟨rfl, trivial⟩))
theorem bkX11_takeNumber_25 {X : GX} {h : SH} {nc ns : Nat} {P : Out → SH → Prop} {a0 : Nat} (g : Gd X mX11_takeNumber 70 [some (.ref a0), none, none] [] (h) nc ns P) : Gd X mX11_takeNumber 25 [some (.ref a0), none, none] [] h nc ns P := by
  refine g_goto (tgt := 70) dX11_takeNumber_25 (by decide) ?_
  exact Gd.wk g ⟨rfl, trivial⟩
theorem bkX11_takeNumber_28 {X : GX} {h : SH} {nc ns : Nat} {P : Out → SH → Prop} {a0 : Nat} {x1 : Int32} {x2 : Int32} (F0 : LX11 (Sk h) (a0)) (kt : ¬ hI h a0 8 = 0 → Gd X mX11_takeNumber 70 [some (.ref a0), none, none] [] (h) nc ns P) (kf : hI h a0 8 = 0 → Gd X mX11_takeNumber 35 [some (.ref a0), some (.int x1), some (.int x2)] [] (h) nc ns P) : Gd X mX11_takeNumber 28 [some (.ref a0), some (.int x1), some (.int x2)] [] h nc ns P := by
  refine g_aload_n dX11_takeNumber_28 rfl ?_
  refine g_getI (c := 11) (k := 8) dX11_takeNumber_29 (by decide) (by decide) kw_1135 rfl (LX11.o (h := h) F0) ?_
  exact g_if_ne (tgt := 70) dX11_takeNumber_32 (by decide) (fun q => Gd.wk (kt q) ⟨rfl, trivial⟩) (fun q => Gd.wk (kf q) ⟨rfl, ⟨rfl, ⟨rfl, trivial⟩⟩⟩)
theorem bkX11_takeNumber_35 {X : GX} {h : SH} {nc ns : Nat} {P : Out → SH → Prop} {a0 : Nat} {x1 : Int32} {x2 : Int32} (F0 : LX11 (Sk h) (a0)) (i1 : vp_in (hI h a0 7) 2402) (kt : (lg_cmp (hJ h (a0 + 4) ((hI h a0 7 : Int32).toNatClampNeg)) ((x1 : Int32).toInt64)) < 0 → Gd X mX11_takeNumber 65 [some (.ref a0), none, none] [] (h) nc ns P) (kf : ¬ (lg_cmp (hJ h (a0 + 4) ((hI h a0 7 : Int32).toNatClampNeg)) ((x1 : Int32).toInt64)) < 0 → Gd X mX11_takeNumber 50 [some (.ref a0), none, some (.int x2)] [] (h) nc ns P) : Gd X mX11_takeNumber 35 [some (.ref a0), some (.int x1), some (.int x2)] [] h nc ns P := by
  refine g_aload_n dX11_takeNumber_35 rfl ?_
  refine g_getAs (c := 11) (k := 6) (b := a0 + 4) dX11_takeNumber_36 (by decide) (by decide) kw_1133 rfl (LX11.o (h := h) F0) (LX11.r_value (h := h) F0) ?_
  refine g_aload_n dX11_takeNumber_39 rfl ?_
  refine g_getI (c := 11) (k := 7) dX11_takeNumber_40 (by decide) (by decide) kw_1134 rfl (LX11.o (h := h) F0) ?_
  refine g_laload dX11_takeNumber_43 (LX11.a_value (h := h) F0) i1 ?_
  refine g_iload_n dX11_takeNumber_44 rfl ?_
  refine g_i2l dX11_takeNumber_45 ?_
  refine g_lcmp dX11_takeNumber_46 ?_
  exact g_if_lt (tgt := 65) dX11_takeNumber_47 (by decide) (fun q => Gd.wk (kt q) ⟨rfl, trivial⟩) (fun q => Gd.wk (kf q) ⟨rfl, ⟨rfl, trivial⟩⟩)
theorem bkX11_takeNumber_50 {X : GX} {h : SH} {nc ns : Nat} {P : Out → SH → Prop} {a0 : Nat} {x2 : Int32} (F0 : LX11 (Sk h) (a0)) (i1 : vp_in (hI h a0 7) 2402) (kt : (lg_cmp (hJ h (a0 + 4) ((hI h a0 7 : Int32).toNatClampNeg)) ((x2 : Int32).toInt64)) ≤ 0 → Gd X mX11_takeNumber 70 [some (.ref a0), none, none] [] (h) nc ns P) (kf : ¬ (lg_cmp (hJ h (a0 + 4) ((hI h a0 7 : Int32).toNatClampNeg)) ((x2 : Int32).toInt64)) ≤ 0 → Gd X mX11_takeNumber 65 [some (.ref a0), none, none] [] (h) nc ns P) : Gd X mX11_takeNumber 50 [some (.ref a0), none, some (.int x2)] [] h nc ns P := by
  refine g_aload_n dX11_takeNumber_50 rfl ?_
  refine g_getAs (c := 11) (k := 6) (b := a0 + 4) dX11_takeNumber_51 (by decide) (by decide) kw_1133 rfl (LX11.o (h := h) F0) (LX11.r_value (h := h) F0) ?_
  refine g_aload_n dX11_takeNumber_54 rfl ?_
  refine g_getI (c := 11) (k := 7) dX11_takeNumber_55 (by decide) (by decide) kw_1134 rfl (LX11.o (h := h) F0) ?_
  refine g_laload dX11_takeNumber_58 (LX11.a_value (h := h) F0) i1 ?_
  refine g_iload_n dX11_takeNumber_59 rfl ?_
  refine g_i2l dX11_takeNumber_60 ?_
  refine g_lcmp dX11_takeNumber_61 ?_
  exact g_if_le (tgt := 70) dX11_takeNumber_62 (by decide) (fun q => Gd.wk (kt q) ⟨rfl, trivial⟩) (fun q => Gd.wk (kf q) ⟨rfl, trivial⟩)
theorem bkX11_takeNumber_65 {X : GX} {h : SH} {nc ns : Nat} {P : Out → SH → Prop} {Q : SH → Prop} {a0 : Nat} (F0 : LX11 (Sk h) (a0)) (hN : Cd X mX11_wrong [.ref a0, .int 4] (h) 0 0 (oV Q nX)) (g : ∀ t, Q t → Gd X mX11_takeNumber 70 [some (.ref a0), none, none] [] (t) nc ns P) : Gd X mX11_takeNumber 65 [some (.ref a0), none, none] [] h nc ns P := by
  refine g_aload_n dX11_takeNumber_65 rfl ?_
  refine g_iconst (v := 4) dX11_takeNumber_66 (by decide) ?_
  refine Gd.z ?_
  exact g_callV (k := 11) [.int 4] dX11_takeNumber_67 mfX11_wrong ⟨by decide, by decide⟩ kw_1333 kw_1335 kw_47 rfl (by decide) (Nat.le_of_ble_eq_true rfl) (by intro x hx; cases hx) (LX11.o (h := h) F0) (Nat.le_of_ble_eq_true rfl) hN (fun _ _ q => q.elim) (oV_go (G := fun a b => Gd X mX11_takeNumber 70 _ a b nc ns P) (fun t q => Gd.wk (g t q) ⟨rfl, trivial⟩))
theorem bkX11_takeNumber_70 {X : GX} {h : SH} {nc ns : Nat} {P : Out → SH → Prop} {a0 : Nat} (F0 : LX11 (Sk h) (a0)) (kt : (hI (sI h a0 7 (hI h a0 7 + 1)) a0 8) ≤ 0 → Gd X mX11_takeNumber 91 [some (.ref a0), none, none] [] (sI h a0 7 (hI h a0 7 + 1)) nc ns P) (kf : ¬ (hI (sI h a0 7 (hI h a0 7 + 1)) a0 8) ≤ 0 → Gd X mX11_takeNumber 87 [none, none, none] [] (sI h a0 7 (hI h a0 7 + 1)) nc ns P) : Gd X mX11_takeNumber 70 [some (.ref a0), none, none] [] h nc ns P := by
  refine g_aload_n dX11_takeNumber_70 rfl ?_
  refine g_dup dX11_takeNumber_71 rfl ?_
  refine g_getI (c := 11) (k := 7) dX11_takeNumber_72 (by decide) (by decide) kw_1134 rfl (LX11.o (h := h) F0) ?_
  refine g_iconst (v := 1) dX11_takeNumber_75 (by decide) ?_
  refine g_iadd dX11_takeNumber_76 ?_
  refine g_put (c := 11) (k := 7) (h1 := sI h a0 7 (hI h a0 7 + 1)) dX11_takeNumber_77 (by decide) (by decide) kw_1134 rfl (LX11.o (h := h) F0) rfl rfl (Put.I rfl) ?_
  refine g_aload_n dX11_takeNumber_80 rfl ?_
  refine g_getI (c := 11) (k := 8) dX11_takeNumber_81 (by decide) (by decide) kw_1135 rfl (LX11.o (h := sI h a0 7 (hI h a0 7 + 1)) F0) ?_
  exact g_if_le (tgt := 91) dX11_takeNumber_84 (by decide) (fun q => Gd.wk (kt q) ⟨rfl, trivial⟩) (fun q => Gd.wk (kf q) trivial)
theorem bkX11_takeNumber_87 {X : GX} {h : SH} {nc ns : Nat} {P : Out → SH → Prop} (g : Gd X mX11_takeNumber 103 [none, none, none] [.int 0] (h) nc ns P) : Gd X mX11_takeNumber 87 [none, none, none] [] h nc ns P := by
  refine g_iconst (v := 0) dX11_takeNumber_87 (by decide) ?_
  refine g_goto (tgt := 103) dX11_takeNumber_88 (by decide) ?_
  exact Gd.wk g trivial
theorem bkX11_takeNumber_91 {X : GX} {h : SH} {nc ns : Nat} {P : Out → SH → Prop} {a0 : Nat} (F0 : LX11 (Sk h) (a0)) (i1 : vp_in (hI h a0 7 - 1) 2402) (g : Gd X mX11_takeNumber 103 [none, none, none] [.int ((hJ h (a0 + 4) ((hI h a0 7 - 1 : Int32).toNatClampNeg) : Int64).toInt32)] (h) nc ns P) : Gd X mX11_takeNumber 91 [some (.ref a0), none, none] [] h nc ns P := by
  refine g_aload_n dX11_takeNumber_91 rfl ?_
  refine g_getAs (c := 11) (k := 6) (b := a0 + 4) dX11_takeNumber_92 (by decide) (by decide) kw_1133 rfl (LX11.o (h := h) F0) (LX11.r_value (h := h) F0) ?_
  refine g_aload_n dX11_takeNumber_95 rfl ?_
  refine g_getI (c := 11) (k := 7) dX11_takeNumber_96 (by decide) (by decide) kw_1134 rfl (LX11.o (h := h) F0) ?_
  refine g_iconst (v := 1) dX11_takeNumber_99 (by decide) ?_
  refine g_isub dX11_takeNumber_100 ?_
  refine g_laload dX11_takeNumber_101 (LX11.a_value (h := h) F0) i1 ?_
  refine g_l2i dX11_takeNumber_102 ?_
  exact Gd.wk g trivial
theorem bkX11_takeNumber_103 {X : GX} {h : SH} {nc ns : Nat} {P : Out → SH → Prop} {xs0 : Int32} (hp : P (.inl (some (.int (xs0)))) (h)) : Gd X mX11_takeNumber 103 [none, none, none] [.int xs0] h nc ns P := by
  exact g_ireturn (st := []) dX11_takeNumber_103 rfl rfl hp
theorem bkX11_isName_0 {X : GX} {h : SH} {nc ns : Nat} {P : Out → SH → Prop} {a0 : Nat} (F0 : LX11 (Sk h) (a0)) (kt : ¬ hI h a0 8 = 0 → Gd X mX11_isName 24 [some (.ref a0), none, none] [] (h) nc ns P) (kf : hI h a0 8 = 0 → Gd X mX11_isName 7 [some (.ref a0), none, none] [] (h) nc ns P) : Gd X mX11_isName 0 [some (.ref a0), none, none] [] h nc ns P := by
  refine g_aload_n dX11_isName_0 rfl ?_
  refine g_getI (c := 11) (k := 8) dX11_isName_1 (by decide) (by decide) kw_1135 rfl (LX11.o (h := h) F0) ?_
  exact g_if_ne (tgt := 24) dX11_isName_4 (by decide) (fun q => Gd.wk (kt q) ⟨rfl, trivial⟩) (fun q => Gd.wk (kf q) ⟨rfl, trivial⟩)
theorem bkX11_isName_7 {X : GX} {h : SH} {nc ns : Nat} {P : Out → SH → Prop} {a0 : Nat} (F0 : LX11 (Sk h) (a0)) (i1 : vp_in (hI h a0 7) 2402) (kt : ¬ (hI h (a0 + 2) ((hI h a0 7 : Int32).toNatClampNeg)) = 1 → Gd X mX11_isName 24 [some (.ref a0), none, none] [] (h) nc ns P) (kf : (hI h (a0 + 2) ((hI h a0 7 : Int32).toNatClampNeg)) = 1 → Gd X mX11_isName 20 [some (.ref a0), none, none] [] (h) nc ns P) : Gd X mX11_isName 7 [some (.ref a0), none, none] [] h nc ns P := by
  refine g_aload_n dX11_isName_7 rfl ?_
  refine g_getAs (c := 11) (k := 4) (b := a0 + 2) dX11_isName_8 (by decide) (by decide) kw_1131 rfl (LX11.o (h := h) F0) (LX11.r_sort (h := h) F0) ?_
  refine g_aload_n dX11_isName_11 rfl ?_
  refine g_getI (c := 11) (k := 7) dX11_isName_12 (by decide) (by decide) kw_1134 rfl (LX11.o (h := h) F0) ?_
  refine g_iaload dX11_isName_15 (LX11.a_sort (h := h) F0) i1 ?_
  refine g_iconst (v := 1) dX11_isName_16 (by decide) ?_
  exact g_icmp_ne (tgt := 24) dX11_isName_17 (by decide) (fun q => Gd.wk (kt q) ⟨rfl, trivial⟩) (fun q => Gd.wk (kf q) ⟨rfl, trivial⟩)
theorem bkX11_isName_20 {X : GX} {h : SH} {nc ns : Nat} {P : Out → SH → Prop} {a0 : Nat} (g : Gd X mX11_isName 25 [some (.ref a0), none, none] [.int 1] (h) nc ns P) : Gd X mX11_isName 20 [some (.ref a0), none, none] [] h nc ns P := by
  refine g_iconst (v := 1) dX11_isName_20 (by decide) ?_
  refine g_goto (tgt := 25) dX11_isName_21 (by decide) ?_
  exact Gd.wk g ⟨rfl, trivial⟩
theorem bkX11_isName_24 {X : GX} {h : SH} {nc ns : Nat} {P : Out → SH → Prop} {a0 : Nat} (g : Gd X mX11_isName 25 [some (.ref a0), none, none] [.int 0] (h) nc ns P) : Gd X mX11_isName 24 [some (.ref a0), none, none] [] h nc ns P := by
  refine g_iconst (v := 0) dX11_isName_24 (by decide) ?_
  exact Gd.wk g ⟨rfl, trivial⟩
theorem bkX11_isName_25 {X : GX} {h : SH} {nc ns : Nat} {P : Out → SH → Prop} {a0 : Nat} {xs0 : Int32} (g : Gd X mX11_isName 28 [some (.ref a0), some (.int xs0), some (.int 0)] [] (h) nc ns P) : Gd X mX11_isName 25 [some (.ref a0), none, none] [.int xs0] h nc ns P := by
  refine g_istore_n (L' := [some (.ref a0), some (.int xs0), none]) dX11_isName_25 (by decide) rfl ?_
  refine g_iconst (v := 0) dX11_isName_26 (by decide) ?_
  refine g_istore_n (L' := [some (.ref a0), some (.int xs0), some (.int 0)]) dX11_isName_27 (by decide) rfl ?_
  exact Gd.wk g ⟨rfl, ⟨rfl, ⟨rfl, trivial⟩⟩⟩
theorem bkX11_isName_28 {X : GX} {h : SH} {nc ns : Nat} {P : Out → SH → Prop} {a0 : Nat} {x1 : Int32} {x2 : Int32} (kt : (11 : Int32) ≤ x2 → Gd X mX11_isName 69 [none, some (.int x1), none] [] (h) nc ns P) (kf : ¬ (11 : Int32) ≤ x2 → Gd X mX11_isName 34 [some (.ref a0), some (.int x1), some (.int x2)] [] (h) nc ns P) : Gd X mX11_isName 28 [some (.ref a0), some (.int x1), some (.int x2)] [] h nc ns P := by
  refine g_iload_n dX11_isName_28 rfl ?_
  refine g_bipush (v := 11) dX11_isName_29 (by decide) ?_
  exact g_icmp_ge (tgt := 69) dX11_isName_31 (by decide) (fun q => Gd.wk (kt q) ⟨rfl, trivial⟩) (fun q => Gd.wk (kf q) ⟨rfl, ⟨rfl, ⟨rfl, trivial⟩⟩⟩)
theorem bkX11_isName_34 {X : GX} {h : SH} {nc ns : Nat} {P : Out → SH → Prop} {a0 : Nat} {x1 : Int32} {x2 : Int32} (kt : x1 = 0 → Gd X mX11_isName 61 [some (.ref a0), none, some (.int x2)] [] (h) nc ns P) (kf : ¬ x1 = 0 → Gd X mX11_isName 38 [some (.ref a0), none, some (.int x2)] [] (h) nc ns P) : Gd X mX11_isName 34 [some (.ref a0), some (.int x1), some (.int x2)] [] h nc ns P := by
  refine g_iload_n dX11_isName_34 rfl ?_
  exact g_if_eq (tgt := 61) dX11_isName_35 (by decide) (fun q => Gd.wk (kt q) ⟨rfl, ⟨rfl, trivial⟩⟩) (fun q => Gd.wk (kf q) ⟨rfl, ⟨rfl, trivial⟩⟩)
theorem bkX11_isName_38 {X : GX} {h : SH} {nc ns : Nat} {P : Out → SH → Prop} {a0 : Nat} {x2 : Int32} (F0 : LX11 (Sk h) (a0)) (i1 : vp_in (hI h a0 7) 2402) (i2 : vp_in (x2) 11) (kt : (lg_cmp (hJ h (a0 + 4) ((hI h a0 7 : Int32).toNatClampNeg)) (hJ h (a0 + 5) ((x2 : Int32).toNatClampNeg))) = 0 → Gd X mX11_isName 61 [some (.ref a0), none, some (.int x2)] [] (h) nc ns P) (kf : ¬ (lg_cmp (hJ h (a0 + 4) ((hI h a0 7 : Int32).toNatClampNeg)) (hJ h (a0 + 5) ((x2 : Int32).toNatClampNeg))) = 0 → Gd X mX11_isName 57 [some (.ref a0), none, some (.int x2)] [] (h) nc ns P) : Gd X mX11_isName 38 [some (.ref a0), none, some (.int x2)] [] h nc ns P := by
  refine g_aload_n dX11_isName_38 rfl ?_
  refine g_getAs (c := 11) (k := 6) (b := a0 + 4) dX11_isName_39 (by decide) (by decide) kw_1133 rfl (LX11.o (h := h) F0) (LX11.r_value (h := h) F0) ?_
  refine g_aload_n dX11_isName_42 rfl ?_
  refine g_getI (c := 11) (k := 7) dX11_isName_43 (by decide) (by decide) kw_1134 rfl (LX11.o (h := h) F0) ?_
  refine g_laload dX11_isName_46 (LX11.a_value (h := h) F0) i1 ?_
  refine g_aload_n dX11_isName_47 rfl ?_
  refine g_getAs (c := 11) (k := 9) (b := a0 + 5) dX11_isName_48 (by decide) (by decide) kw_1136 rfl (LX11.o (h := h) F0) (LX11.r_words (h := h) F0) ?_
  refine g_iload_n dX11_isName_51 rfl ?_
  refine g_laload dX11_isName_52 (LX11.a_words (h := h) F0) i2 ?_
  refine g_lcmp dX11_isName_53 ?_
  exact g_if_eq (tgt := 61) dX11_isName_54 (by decide) (fun q => Gd.wk (kt q) ⟨rfl, ⟨rfl, trivial⟩⟩) (fun q => Gd.wk (kf q) ⟨rfl, ⟨rfl, trivial⟩⟩)
theorem bkX11_isName_57 {X : GX} {h : SH} {nc ns : Nat} {P : Out → SH → Prop} {a0 : Nat} {x2 : Int32} (g : Gd X mX11_isName 62 [some (.ref a0), none, some (.int x2)] [.int 1] (h) nc ns P) : Gd X mX11_isName 57 [some (.ref a0), none, some (.int x2)] [] h nc ns P := by
  refine g_iconst (v := 1) dX11_isName_57 (by decide) ?_
  refine g_goto (tgt := 62) dX11_isName_58 (by decide) ?_
  exact Gd.wk g ⟨rfl, ⟨rfl, trivial⟩⟩
theorem bkX11_isName_61 {X : GX} {h : SH} {nc ns : Nat} {P : Out → SH → Prop} {a0 : Nat} {x2 : Int32} (g : Gd X mX11_isName 62 [some (.ref a0), none, some (.int x2)] [.int 0] (h) nc ns P) : Gd X mX11_isName 61 [some (.ref a0), none, some (.int x2)] [] h nc ns P := by
  refine g_iconst (v := 0) dX11_isName_61 (by decide) ?_
  exact Gd.wk g ⟨rfl, ⟨rfl, trivial⟩⟩
theorem bkX11_isName_62 {X : GX} {h : SH} {nc ns : Nat} {P : Out → SH → Prop} {a0 : Nat} {x2 : Int32} {xs0 : Int32} (g : Gd X mX11_isName 28 [some (.ref a0), some (.int xs0), some (.int (x2 + 1))] [] (h) nc ns P) : Gd X mX11_isName 62 [some (.ref a0), none, some (.int x2)] [.int xs0] h nc ns P := by
  refine g_istore_n (L' := [some (.ref a0), some (.int xs0), some (.int x2)]) dX11_isName_62 (by decide) rfl ?_
  refine g_iinc (v := x2 + 1) (L' := [some (.ref a0), some (.int xs0), some (.int (x2 + 1))]) dX11_isName_63 rfl rfl (by decide) rfl ?_
  refine g_goto (tgt := 28) dX11_isName_66 (by decide) ?_
  exact Gd.wk g ⟨rfl, ⟨rfl, ⟨rfl, trivial⟩⟩⟩
theorem bkX11_isName_69 {X : GX} {h : SH} {nc ns : Nat} {P : Out → SH → Prop} {x1 : Int32} (w0 : x1 = 0 ∨ x1 = 1) (hp : P (.inl (some (.int (x1)))) (h)) : Gd X mX11_isName 69 [none, some (.int x1), none] [] h nc ns P := by
  refine g_iload_n dX11_isName_69 rfl ?_
  exact g_ireturn (st := []) dX11_isName_70 rfl (bl_n w0) hp
theorem bkX11_emit_0 {X : GX} {h : SH} {nc ns : Nat} {P : Out → SH → Prop} {a0 : Nat} {x1 : Int32} {x2 : Int32} (F0 : LX11 (Sk h) (a0)) (i1 : vp_in (15600 + hI h a0 30) 18200) (i2 : vp_in (15600 + (hI (sI h (a0 + 23) ((15600 + hI h a0 30 : Int32).toNatClampNeg) x1) a0 30)) 18200) (g : Gd X mX11_emit 38 [none, none, none] [] (sI (sI (sI h (a0 + 23) ((15600 + hI h a0 30 : Int32).toNatClampNeg) x1) (a0 + 24) ((15600 + (hI (sI h (a0 + 23) ((15600 + hI h a0 30 : Int32).toNatClampNeg) x1) a0 30) : Int32).toNatClampNeg) x2) a0 30 ((hI (sI (sI h (a0 + 23) ((15600 + hI h a0 30 : Int32).toNatClampNeg) x1) (a0 + 24) ((15600 + (hI (sI h (a0 + 23) ((15600 + hI h a0 30 : Int32).toNatClampNeg) x1) a0 30) : Int32).toNatClampNeg) x2) a0 30) + 1)) nc ns P) : Gd X mX11_emit 0 [some (.ref a0), some (.int x1), some (.int x2)] [] h nc ns P := by
  refine g_aload_n dX11_emit_0 rfl ?_
  refine g_getAs (c := 11) (k := 28) (b := a0 + 23) dX11_emit_1 (by decide) (by decide) kw_1155 rfl (LX11.o (h := h) F0) (LX11.r_op (h := h) F0) ?_
  refine g_sipush (v := 15600) dX11_emit_4 (by decide) ?_
  refine g_aload_n dX11_emit_7 rfl ?_
  refine g_getI (c := 11) (k := 30) dX11_emit_8 (by decide) (by decide) kw_1157 rfl (LX11.o (h := h) F0) ?_
  refine g_iadd dX11_emit_11 ?_
  refine g_iload_n dX11_emit_12 rfl ?_
  refine g_iastore dX11_emit_13 (LX11.a_op (h := h) F0) i1 ?_
  refine g_aload_n dX11_emit_14 rfl ?_
  refine g_getAs (c := 11) (k := 29) (b := a0 + 24) dX11_emit_15 (by decide) (by decide) kw_1156 rfl (LX11.o (h := sI h (a0 + 23) ((15600 + hI h a0 30 : Int32).toNatClampNeg) x1) F0) (LX11.r_one (h := sI h (a0 + 23) ((15600 + hI h a0 30 : Int32).toNatClampNeg) x1) F0) ?_
  refine g_sipush (v := 15600) dX11_emit_18 (by decide) ?_
  refine g_aload_n dX11_emit_21 rfl ?_
  refine g_getI (c := 11) (k := 30) dX11_emit_22 (by decide) (by decide) kw_1157 rfl (LX11.o (h := sI h (a0 + 23) ((15600 + hI h a0 30 : Int32).toNatClampNeg) x1) F0) ?_
  refine g_iadd dX11_emit_25 ?_
  refine g_iload_n dX11_emit_26 rfl ?_
  refine g_iastore dX11_emit_27 (LX11.a_one (h := sI h (a0 + 23) ((15600 + hI h a0 30 : Int32).toNatClampNeg) x1) F0) i2 ?_
  refine g_aload_n dX11_emit_28 rfl ?_
  refine g_dup dX11_emit_29 rfl ?_
  refine g_getI (c := 11) (k := 30) dX11_emit_30 (by decide) (by decide) kw_1157 rfl (LX11.o (h := sI (sI h (a0 + 23) ((15600 + hI h a0 30 : Int32).toNatClampNeg) x1) (a0 + 24) ((15600 + (hI (sI h (a0 + 23) ((15600 + hI h a0 30 : Int32).toNatClampNeg) x1) a0 30) : Int32).toNatClampNeg) x2) F0) ?_
  refine g_iconst (v := 1) dX11_emit_33 (by decide) ?_
  refine g_iadd dX11_emit_34 ?_
  refine g_put (c := 11) (k := 30) (h1 := sI (sI (sI h (a0 + 23) ((15600 + hI h a0 30 : Int32).toNatClampNeg) x1) (a0 + 24) ((15600 + (hI (sI h (a0 + 23) ((15600 + hI h a0 30 : Int32).toNatClampNeg) x1) a0 30) : Int32).toNatClampNeg) x2) a0 30 ((hI (sI (sI h (a0 + 23) ((15600 + hI h a0 30 : Int32).toNatClampNeg) x1) (a0 + 24) ((15600 + (hI (sI h (a0 + 23) ((15600 + hI h a0 30 : Int32).toNatClampNeg) x1) a0 30) : Int32).toNatClampNeg) x2) a0 30) + 1)) dX11_emit_35 (by decide) (by decide) kw_1157 rfl (LX11.o (h := sI (sI h (a0 + 23) ((15600 + hI h a0 30 : Int32).toNatClampNeg) x1) (a0 + 24) ((15600 + (hI (sI h (a0 + 23) ((15600 + hI h a0 30 : Int32).toNatClampNeg) x1) a0 30) : Int32).toNatClampNeg) x2) F0) rfl rfl (Put.I rfl) ?_
  exact Gd.wk g trivial
theorem bkX11_emit_38 {X : GX} {h : SH} {nc ns : Nat} {P : Out → SH → Prop} (hp : P (.inl (none)) (h)) : Gd X mX11_emit 38 [none, none, none] [] h nc ns P := by
  exact g_return (st := []) dX11_emit_38 rfl hp
theorem bkX11_edition_0 {X : GX} {h : SH} {nc ns : Nat} {P : Out → SH → Prop} {a0 : Nat} {x1 : Int32} (F0 : LX11 (Sk h) (a0)) (kt : x1 < 0 → Gd X mX11_edition 47 [some (.ref a0), none] [] (sI h a0 0 0) nc ns P) (kf : ¬ x1 < 0 → Gd X mX11_edition 9 [some (.ref a0), some (.int x1)] [] (sI h a0 0 0) nc ns P) : Gd X mX11_edition 0 [some (.ref a0), some (.int x1)] [] h nc ns P := by
  refine g_aload_n dX11_edition_0 rfl ?_
  refine g_iconst (v := 0) dX11_edition_1 (by decide) ?_
  refine g_put (c := 11) (k := 0) (h1 := sI h a0 0 0) dX11_edition_2 (by decide) (by decide) kw_1127 rfl (LX11.o (h := h) F0) rfl rfl (Put.I rfl) ?_
  refine g_iload_n dX11_edition_5 rfl ?_
  exact g_if_lt (tgt := 47) dX11_edition_6 (by decide) (fun q => Gd.wk (kt q) ⟨rfl, trivial⟩) (fun q => Gd.wk (kf q) ⟨rfl, ⟨rfl, trivial⟩⟩)
theorem bkX11_edition_9 {X : GX} {h : SH} {nc ns : Nat} {P : Out → SH → Prop} {a0 : Nat} {x1 : Int32} (kt : (9999 : Int32) < x1 → Gd X mX11_edition 47 [some (.ref a0), none] [] (h) nc ns P) (kf : ¬ (9999 : Int32) < x1 → Gd X mX11_edition 16 [some (.ref a0), some (.int x1)] [] (h) nc ns P) : Gd X mX11_edition 9 [some (.ref a0), some (.int x1)] [] h nc ns P := by
  refine g_iload_n dX11_edition_9 rfl ?_
  refine g_sipush (v := 9999) dX11_edition_10 (by decide) ?_
  exact g_icmp_gt (tgt := 47) dX11_edition_13 (by decide) (fun q => Gd.wk (kt q) ⟨rfl, trivial⟩) (fun q => Gd.wk (kf q) ⟨rfl, ⟨rfl, trivial⟩⟩)
theorem bkX11_edition_16 {X : GX} {h : SH} {nc ns : Nat} {P : Out → SH → Prop} {a0 : Nat} {x1 : Int32} (F0 : LX11 (Sk h) (a0)) (kt : hI h a0 10 = 6 → Gd X mX11_edition 47 [some (.ref a0), none] [] (h) nc ns P) (kf : ¬ hI h a0 10 = 6 → Gd X mX11_edition 25 [some (.ref a0), some (.int x1)] [] (h) nc ns P) : Gd X mX11_edition 16 [some (.ref a0), some (.int x1)] [] h nc ns P := by
  refine g_aload_n dX11_edition_16 rfl ?_
  refine g_getI (c := 11) (k := 10) dX11_edition_17 (by decide) (by decide) kw_1137 rfl (LX11.o (h := h) F0) ?_
  refine g_bipush (v := 6) dX11_edition_20 (by decide) ?_
  exact g_icmp_eq (tgt := 47) dX11_edition_22 (by decide) (fun q => Gd.wk (kt q) ⟨rfl, trivial⟩) (fun q => Gd.wk (kf q) ⟨rfl, ⟨rfl, trivial⟩⟩)
theorem bkX11_edition_25 {X : GX} {h : SH} {nc ns : Nat} {P : Out → SH → Prop} {a0 : Nat} {x1 : Int32} (F0 : LX11 (Sk h) (a0)) (kt : hI h a0 10 ≤ 0 → Gd X mX11_edition 54 [some (.ref a0), some (.int x1)] [] (h) nc ns P) (kf : ¬ hI h a0 10 ≤ 0 → Gd X mX11_edition 32 [some (.ref a0), some (.int x1)] [] (h) nc ns P) : Gd X mX11_edition 25 [some (.ref a0), some (.int x1)] [] h nc ns P := by
  refine g_aload_n dX11_edition_25 rfl ?_
  refine g_getI (c := 11) (k := 10) dX11_edition_26 (by decide) (by decide) kw_1137 rfl (LX11.o (h := h) F0) ?_
  exact g_if_le (tgt := 54) dX11_edition_29 (by decide) (fun q => Gd.wk (kt q) ⟨rfl, ⟨rfl, trivial⟩⟩) (fun q => Gd.wk (kf q) ⟨rfl, ⟨rfl, trivial⟩⟩)
theorem bkX11_edition_32 {X : GX} {h : SH} {nc ns : Nat} {P : Out → SH → Prop} {a0 : Nat} {x1 : Int32} (F0 : LX11 (Sk h) (a0)) (i1 : vp_in (hI h a0 10 - 1) 6) (kt : (hI h (a0 + 6) ((hI h a0 10 - 1 : Int32).toNatClampNeg)) < x1 → Gd X mX11_edition 54 [some (.ref a0), some (.int x1)] [] (h) nc ns P) (kf : ¬ (hI h (a0 + 6) ((hI h a0 10 - 1 : Int32).toNatClampNeg)) < x1 → Gd X mX11_edition 47 [some (.ref a0), none] [] (h) nc ns P) : Gd X mX11_edition 32 [some (.ref a0), some (.int x1)] [] h nc ns P := by
  refine g_iload_n dX11_edition_32 rfl ?_
  refine g_aload_n dX11_edition_33 rfl ?_
  refine g_getAs (c := 11) (k := 11) (b := a0 + 6) dX11_edition_34 (by decide) (by decide) kw_1138 rfl (LX11.o (h := h) F0) (LX11.r_from (h := h) F0) ?_
  refine g_aload_n dX11_edition_37 rfl ?_
  refine g_getI (c := 11) (k := 10) dX11_edition_38 (by decide) (by decide) kw_1137 rfl (LX11.o (h := h) F0) ?_
  refine g_iconst (v := 1) dX11_edition_41 (by decide) ?_
  refine g_isub dX11_edition_42 ?_
  refine g_iaload dX11_edition_43 (LX11.a_from (h := h) F0) i1 ?_
  exact g_icmp_gt (tgt := 54) dX11_edition_44 (by decide) (fun q => Gd.wk (kt q) ⟨rfl, ⟨rfl, trivial⟩⟩) (fun q => Gd.wk (kf q) ⟨rfl, trivial⟩)
theorem bkX11_edition_47 {X : GX} {h : SH} {nc ns : Nat} {P : Out → SH → Prop} {a0 : Nat} (F0 : LX11 (Sk h) (a0)) (hp : P (.inl (some (.int ((-1))))) (sI h a0 2 0)) : Gd X mX11_edition 47 [some (.ref a0), none] [] h nc ns P := by
  refine g_aload_n dX11_edition_47 rfl ?_
  refine g_iconst (v := 0) dX11_edition_48 (by decide) ?_
  refine g_put (c := 11) (k := 2) (h1 := sI h a0 2 0) dX11_edition_49 (by decide) (by decide) kw_1129 rfl (LX11.o (h := h) F0) rfl rfl (Put.I rfl) ?_
  refine g_iconst (v := (-1)) dX11_edition_52 (by decide) ?_
  exact g_ireturn (st := []) dX11_edition_53 rfl rfl hp
theorem bkX11_edition_54 {X : GX} {h : SH} {nc ns : Nat} {P : Out → SH → Prop} {Q : SH → Prop} {a0 : Nat} {x1 : Int32} (F0 : LX11 (Sk h) (a0)) (hN : Cd X mX11_cutAll [.ref a0] (h) 0 0 (oV Q nX)) (g : ∀ t, Q t → Gd X mX11_edition 58 [some (.ref a0), some (.int x1)] [] (t) nc ns P) : Gd X mX11_edition 54 [some (.ref a0), some (.int x1)] [] h nc ns P := by
  refine g_aload_n dX11_edition_54 rfl ?_
  refine Gd.z ?_
  exact g_callV (k := 11) [] dX11_edition_55 mfX11_cutAll ⟨by decide, by decide⟩ kw_1306 kw_1308 kw_44 rfl (by decide) (Nat.le_of_ble_eq_true rfl) (by intro x hx; cases hx) (LX11.o (h := h) F0) (Nat.le_of_ble_eq_true rfl) hN (fun _ _ q => q.elim) (oV_go (G := fun a b => Gd X mX11_edition 58 _ a b nc ns P) (fun t q => Gd.wk (g t q) ⟨rfl, ⟨rfl, trivial⟩⟩))
theorem bkX11_edition_58 {X : GX} {h : SH} {nc ns : Nat} {P : Out → SH → Prop} {a0 : Nat} {x1 : Int32} (F0 : LX11 (Sk h) (a0)) (i1 : vp_in (6) 7) (g : Gd X mX11_edition 79 [some (.ref a0), some (.int x1)] [] (sI (sI (sI h (a0 + 7) ((6 : Int32).toNatClampNeg) 0) (a0 + 11) ((6 : Int32).toNatClampNeg) 0) a0 30 0) nc ns P) : Gd X mX11_edition 58 [some (.ref a0), some (.int x1)] [] h nc ns P := by
  refine g_aload_n dX11_edition_58 rfl ?_
  refine g_getAs (c := 11) (k := 12) (b := a0 + 7) dX11_edition_59 (by decide) (by decide) kw_1139 rfl (LX11.o (h := h) F0) (LX11.r_facts (h := h) F0) ?_
  refine g_bipush (v := 6) dX11_edition_62 (by decide) ?_
  refine g_iconst (v := 0) dX11_edition_64 (by decide) ?_
  refine g_iastore dX11_edition_65 (LX11.a_facts (h := h) F0) i1 ?_
  refine g_aload_n dX11_edition_66 rfl ?_
  refine g_getAs (c := 11) (k := 16) (b := a0 + 11) dX11_edition_67 (by decide) (by decide) kw_1143 rfl (LX11.o (h := sI h (a0 + 7) ((6 : Int32).toNatClampNeg) 0) F0) (LX11.r_clauses (h := sI h (a0 + 7) ((6 : Int32).toNatClampNeg) 0) F0) ?_
  refine g_bipush (v := 6) dX11_edition_70 (by decide) ?_
  refine g_iconst (v := 0) dX11_edition_72 (by decide) ?_
  refine g_iastore dX11_edition_73 (LX11.a_clauses (h := sI h (a0 + 7) ((6 : Int32).toNatClampNeg) 0) F0) i1 ?_
  refine g_aload_n dX11_edition_74 rfl ?_
  refine g_iconst (v := 0) dX11_edition_75 (by decide) ?_
  refine g_put (c := 11) (k := 30) (h1 := sI (sI (sI h (a0 + 7) ((6 : Int32).toNatClampNeg) 0) (a0 + 11) ((6 : Int32).toNatClampNeg) 0) a0 30 0) dX11_edition_76 (by decide) (by decide) kw_1157 rfl (LX11.o (h := sI (sI h (a0 + 7) ((6 : Int32).toNatClampNeg) 0) (a0 + 11) ((6 : Int32).toNatClampNeg) 0) F0) rfl rfl (Put.I rfl) ?_
  exact Gd.wk g ⟨rfl, ⟨rfl, trivial⟩⟩
theorem bkX11_edition_79 {X : GX} {h : SH} {nc ns : Nat} {P : Out → SH → Prop} {Q : Int32 → SH → Prop} {a0 : Nat} {x1 : Int32} (F0 : LX11 (Sk h) (a0)) (hN : Cd X mX11_isWord [.ref a0, .int 0] (h) 0 0 (oI Q nX)) (g : ∀ r t, Q r t → Gd X mX11_edition 84 [some (.ref a0), some (.int x1)] [.int r] (t) nc ns P) : Gd X mX11_edition 79 [some (.ref a0), some (.int x1)] [] h nc ns P := by
  refine g_aload_n dX11_edition_79 rfl ?_
  refine g_iconst (v := 0) dX11_edition_80 (by decide) ?_
  refine Gd.z ?_
  exact g_callV (k := 11) [.int 0] dX11_edition_81 mfX11_isWord ⟨by decide, by decide⟩ kw_1325 kw_1327 kw_45 rfl (by decide) (Nat.le_of_ble_eq_true rfl) (by intro x hx; cases hx) (LX11.o (h := h) F0) (Nat.le_of_ble_eq_true rfl) hN (fun _ _ q => q.elim) (oI_go (G := fun a b => Gd X mX11_edition 84 _ a b nc ns P) (fun r t q => Gd.wk (g r t q) ⟨rfl, ⟨rfl, trivial⟩⟩))
theorem bkX11_edition_84 {X : GX} {h : SH} {nc ns : Nat} {P : Out → SH → Prop} {a0 : Nat} {x1 : Int32} {xs0 : Int32} (kt : xs0 = 0 → Gd X mX11_edition 94 [some (.ref a0), some (.int x1)] [] (h) nc ns P) (kf : ¬ xs0 = 0 → Gd X mX11_edition 87 [some (.ref a0), some (.int x1)] [] (h) nc ns P) : Gd X mX11_edition 84 [some (.ref a0), some (.int x1)] [.int xs0] h nc ns P := by
  exact g_if_eq (tgt := 94) dX11_edition_84 (by decide) (fun q => Gd.wk (kt q) ⟨rfl, ⟨rfl, trivial⟩⟩) (fun q => Gd.wk (kf q) ⟨rfl, ⟨rfl, trivial⟩⟩)
theorem bkX11_edition_87 {X : GX} {h : SH} {nc ns : Nat} {P : Out → SH → Prop} {Q : SH → Prop} {a0 : Nat} {x1 : Int32} (F0 : LX11 (Sk h) (a0)) (hN : Cd X mX11_factIs [.ref a0] (h) 0 0 (oV Q nX)) (g : ∀ t, Q t → Gd X mX11_edition 91 [some (.ref a0), some (.int x1)] [] (t) nc ns P) : Gd X mX11_edition 87 [some (.ref a0), some (.int x1)] [] h nc ns P := by
  refine g_aload_n dX11_edition_87 rfl ?_
  refine Gd.z ?_
  exact g_callV (k := 11) [] dX11_edition_88 mfX11_factIs ⟨by decide, by decide⟩ kw_1329 kw_1331 kw_46 rfl (by decide) (Nat.le_of_ble_eq_true rfl) (by intro x hx; cases hx) (LX11.o (h := h) F0) (Nat.le_of_ble_eq_true rfl) hN (fun _ _ q => q.elim) (oV_go (G := fun a b => Gd X mX11_edition 91 _ a b nc ns P) (fun t q => Gd.wk (g t q) ⟨rfl, ⟨rfl, trivial⟩⟩))
theorem bkX11_edition_91 {X : GX} {h : SH} {nc ns : Nat} {P : Out → SH → Prop} {a0 : Nat} {x1 : Int32} (g : Gd X mX11_edition 79 [some (.ref a0), some (.int x1)] [] (h) nc ns P) : Gd X mX11_edition 91 [some (.ref a0), some (.int x1)] [] h nc ns P := by
  refine g_goto (tgt := 79) dX11_edition_91 (by decide) ?_
  exact Gd.wk g ⟨rfl, ⟨rfl, trivial⟩⟩
theorem bkX11_edition_94 {X : GX} {h : SH} {nc ns : Nat} {P : Out → SH → Prop} {Q : Int32 → SH → Prop} {a0 : Nat} {x1 : Int32} (F0 : LX11 (Sk h) (a0)) (hN : Cd X mX11_isWord [.ref a0, .int 2] (h) 0 0 (oI Q nX)) (g : ∀ r t, Q r t → Gd X mX11_edition 99 [some (.ref a0), some (.int x1)] [.int r] (t) nc ns P) : Gd X mX11_edition 94 [some (.ref a0), some (.int x1)] [] h nc ns P := by
  refine g_aload_n dX11_edition_94 rfl ?_
  refine g_iconst (v := 2) dX11_edition_95 (by decide) ?_
  refine Gd.z ?_
  exact g_callV (k := 11) [.int 2] dX11_edition_96 mfX11_isWord ⟨by decide, by decide⟩ kw_1325 kw_1327 kw_45 rfl (by decide) (Nat.le_of_ble_eq_true rfl) (by intro x hx; cases hx) (LX11.o (h := h) F0) (Nat.le_of_ble_eq_true rfl) hN (fun _ _ q => q.elim) (oI_go (G := fun a b => Gd X mX11_edition 99 _ a b nc ns P) (fun r t q => Gd.wk (g r t q) ⟨rfl, ⟨rfl, trivial⟩⟩))
theorem bkX11_edition_99 {X : GX} {h : SH} {nc ns : Nat} {P : Out → SH → Prop} {a0 : Nat} {x1 : Int32} {xs0 : Int32} (kt : xs0 = 0 → Gd X mX11_edition 109 [some (.ref a0), some (.int x1)] [] (h) nc ns P) (kf : ¬ xs0 = 0 → Gd X mX11_edition 102 [some (.ref a0), some (.int x1)] [] (h) nc ns P) : Gd X mX11_edition 99 [some (.ref a0), some (.int x1)] [.int xs0] h nc ns P := by
  exact g_if_eq (tgt := 109) dX11_edition_99 (by decide) (fun q => Gd.wk (kt q) ⟨rfl, ⟨rfl, trivial⟩⟩) (fun q => Gd.wk (kf q) ⟨rfl, ⟨rfl, trivial⟩⟩)
theorem bkX11_edition_102 {X : GX} {h : SH} {nc ns : Nat} {P : Out → SH → Prop} {Q : SH → Prop} {a0 : Nat} {x1 : Int32} (F0 : LX11 (Sk h) (a0)) (hN : Cd X mX11_clauseIs [.ref a0] (h) 0 0 (oV Q nX)) (g : ∀ t, Q t → Gd X mX11_edition 106 [some (.ref a0), some (.int x1)] [] (t) nc ns P) : Gd X mX11_edition 102 [some (.ref a0), some (.int x1)] [] h nc ns P := by
  refine g_aload_n dX11_edition_102 rfl ?_
  refine Gd.z ?_
  exact g_callV (k := 11) [] dX11_edition_103 mfX11_clauseIs ⟨by decide, by decide⟩ kw_1371 kw_1373 kw_56 rfl (by decide) (Nat.le_of_ble_eq_true rfl) (by intro x hx; cases hx) (LX11.o (h := h) F0) (Nat.le_of_ble_eq_true rfl) hN (fun _ _ q => q.elim) (oV_go (G := fun a b => Gd X mX11_edition 106 _ a b nc ns P) (fun t q => Gd.wk (g t q) ⟨rfl, ⟨rfl, trivial⟩⟩))
theorem bkX11_edition_106 {X : GX} {h : SH} {nc ns : Nat} {P : Out → SH → Prop} {a0 : Nat} {x1 : Int32} (g : Gd X mX11_edition 94 [some (.ref a0), some (.int x1)] [] (h) nc ns P) : Gd X mX11_edition 106 [some (.ref a0), some (.int x1)] [] h nc ns P := by
  refine g_goto (tgt := 94) dX11_edition_106 (by decide) ?_
  exact Gd.wk g ⟨rfl, ⟨rfl, trivial⟩⟩
theorem bkX11_edition_109 {X : GX} {h : SH} {nc ns : Nat} {P : Out → SH → Prop} {a0 : Nat} {x1 : Int32} (F0 : LX11 (Sk h) (a0)) (kt : ¬ hI h a0 8 = 0 → Gd X mX11_edition 133 [some (.ref a0), some (.int x1)] [] (h) nc ns P) (kf : hI h a0 8 = 0 → Gd X mX11_edition 116 [some (.ref a0), some (.int x1)] [] (h) nc ns P) : Gd X mX11_edition 109 [some (.ref a0), some (.int x1)] [] h nc ns P := by
  refine g_aload_n dX11_edition_109 rfl ?_
  refine g_getI (c := 11) (k := 8) dX11_edition_110 (by decide) (by decide) kw_1135 rfl (LX11.o (h := h) F0) ?_
  exact g_if_ne (tgt := 133) dX11_edition_113 (by decide) (fun q => Gd.wk (kt q) ⟨rfl, ⟨rfl, trivial⟩⟩) (fun q => Gd.wk (kf q) ⟨rfl, ⟨rfl, trivial⟩⟩)
theorem bkX11_edition_116 {X : GX} {h : SH} {nc ns : Nat} {P : Out → SH → Prop} {a0 : Nat} {x1 : Int32} (F0 : LX11 (Sk h) (a0)) (i1 : vp_in (hI h a0 7) 2402) (kt : (hI h (a0 + 2) ((hI h a0 7 : Int32).toNatClampNeg)) = 0 → Gd X mX11_edition 133 [some (.ref a0), some (.int x1)] [] (h) nc ns P) (kf : ¬ (hI h (a0 + 2) ((hI h a0 7 : Int32).toNatClampNeg)) = 0 → Gd X mX11_edition 128 [some (.ref a0), some (.int x1)] [] (h) nc ns P) : Gd X mX11_edition 116 [some (.ref a0), some (.int x1)] [] h nc ns P := by
  refine g_aload_n dX11_edition_116 rfl ?_
  refine g_getAs (c := 11) (k := 4) (b := a0 + 2) dX11_edition_117 (by decide) (by decide) kw_1131 rfl (LX11.o (h := h) F0) (LX11.r_sort (h := h) F0) ?_
  refine g_aload_n dX11_edition_120 rfl ?_
  refine g_getI (c := 11) (k := 7) dX11_edition_121 (by decide) (by decide) kw_1134 rfl (LX11.o (h := h) F0) ?_
  refine g_iaload dX11_edition_124 (LX11.a_sort (h := h) F0) i1 ?_
  exact g_if_eq (tgt := 133) dX11_edition_125 (by decide) (fun q => Gd.wk (kt q) ⟨rfl, ⟨rfl, trivial⟩⟩) (fun q => Gd.wk (kf q) ⟨rfl, ⟨rfl, trivial⟩⟩)
theorem bkX11_edition_128 {X : GX} {h : SH} {nc ns : Nat} {P : Out → SH → Prop} {Q : SH → Prop} {a0 : Nat} {x1 : Int32} (F0 : LX11 (Sk h) (a0)) (hN : Cd X mX11_wrong [.ref a0, .int 1] (h) 0 0 (oV Q nX)) (g : ∀ t, Q t → Gd X mX11_edition 133 [some (.ref a0), some (.int x1)] [] (t) nc ns P) : Gd X mX11_edition 128 [some (.ref a0), some (.int x1)] [] h nc ns P := by
  refine g_aload_n dX11_edition_128 rfl ?_
  refine g_iconst (v := 1) dX11_edition_129 (by decide) ?_
  refine Gd.z ?_
  exact g_callV (k := 11) [.int 1] dX11_edition_130 mfX11_wrong ⟨by decide, by decide⟩ kw_1333 kw_1335 kw_47 rfl (by decide) (Nat.le_of_ble_eq_true rfl) (by intro x hx; cases hx) (LX11.o (h := h) F0) (Nat.le_of_ble_eq_true rfl) hN (fun _ _ q => q.elim) (oV_go (G := fun a b => Gd X mX11_edition 133 _ a b nc ns P) (fun t q => Gd.wk (g t q) ⟨rfl, ⟨rfl, trivial⟩⟩))
theorem bkX11_edition_133 {X : GX} {h : SH} {nc ns : Nat} {P : Out → SH → Prop} {a0 : Nat} {x1 : Int32} (F0 : LX11 (Sk h) (a0)) (kt : ¬ hI h a0 8 = 0 → Gd X mX11_edition 178 [some (.ref a0), none] [] (h) nc ns P) (kf : hI h a0 8 = 0 → Gd X mX11_edition 140 [some (.ref a0), some (.int x1)] [] (h) nc ns P) : Gd X mX11_edition 133 [some (.ref a0), some (.int x1)] [] h nc ns P := by
  refine g_aload_n dX11_edition_133 rfl ?_
  refine g_getI (c := 11) (k := 8) dX11_edition_134 (by decide) (by decide) kw_1135 rfl (LX11.o (h := h) F0) ?_
  exact g_if_ne (tgt := 178) dX11_edition_137 (by decide) (fun q => Gd.wk (kt q) ⟨rfl, trivial⟩) (fun q => Gd.wk (kf q) ⟨rfl, ⟨rfl, trivial⟩⟩)
theorem bkX11_edition_140 {X : GX} {h : SH} {nc ns : Nat} {P : Out → SH → Prop} {Q : SH → Prop} {a0 : Nat} {x1 : Int32} (F0 : LX11 (Sk h) (a0)) (i1 : vp_in (hI h a0 10) 6) (hN : Cd X mX11_keeps [.ref a0, .int (hI (sI h (a0 + 6) ((hI h a0 10 : Int32).toNatClampNeg) x1) a0 10)] (sI h (a0 + 6) ((hI h a0 10 : Int32).toNatClampNeg) x1) 0 0 (oV Q nX)) (g : ∀ t, Q t → Gd X mX11_edition 158 [some (.ref a0), none] [] (t) nc ns P) : Gd X mX11_edition 140 [some (.ref a0), some (.int x1)] [] h nc ns P := by
  refine g_aload_n dX11_edition_140 rfl ?_
  refine g_getAs (c := 11) (k := 11) (b := a0 + 6) dX11_edition_141 (by decide) (by decide) kw_1138 rfl (LX11.o (h := h) F0) (LX11.r_from (h := h) F0) ?_
  refine g_aload_n dX11_edition_144 rfl ?_
  refine g_getI (c := 11) (k := 10) dX11_edition_145 (by decide) (by decide) kw_1137 rfl (LX11.o (h := h) F0) ?_
  refine g_iload_n dX11_edition_148 rfl ?_
  refine g_iastore dX11_edition_149 (LX11.a_from (h := h) F0) i1 ?_
  refine g_aload_n dX11_edition_150 rfl ?_
  refine g_aload_n dX11_edition_151 rfl ?_
  refine g_getI (c := 11) (k := 10) dX11_edition_152 (by decide) (by decide) kw_1137 rfl (LX11.o (h := sI h (a0 + 6) ((hI h a0 10 : Int32).toNatClampNeg) x1) F0) ?_
  refine Gd.z ?_
  exact g_callV (k := 11) [.int (hI (sI h (a0 + 6) ((hI h a0 10 : Int32).toNatClampNeg) x1) a0 10)] dX11_edition_155 mfX11_keeps ⟨by decide, by decide⟩ kw_1419 kw_1421 kw_68 rfl (by decide) (Nat.le_of_ble_eq_true rfl) (by intro x hx; cases hx) (LX11.o (h := sI h (a0 + 6) ((hI h a0 10 : Int32).toNatClampNeg) x1) F0) (Nat.le_of_ble_eq_true rfl) hN (fun _ _ q => q.elim) (oV_go (G := fun a b => Gd X mX11_edition 158 _ a b nc ns P) (fun t q => Gd.wk (g t q) ⟨rfl, trivial⟩))
theorem bkX11_edition_158 {X : GX} {h : SH} {nc ns : Nat} {P : Out → SH → Prop} {Q : SH → Prop} {a0 : Nat} (F0 : LX11 (Sk h) (a0)) (hN : Cd X mX11_takes [.ref a0, .int ((hI (sI h a0 10 (hI h a0 10 + 1)) a0 10) - 1)] (sI h a0 10 (hI h a0 10 + 1)) 0 0 (oV Q nX)) (g : ∀ t, Q t → Gd X mX11_edition 178 [some (.ref a0), none] [] (t) nc ns P) : Gd X mX11_edition 158 [some (.ref a0), none] [] h nc ns P := by
  refine g_aload_n dX11_edition_158 rfl ?_
  refine g_dup dX11_edition_159 rfl ?_
  refine g_getI (c := 11) (k := 10) dX11_edition_160 (by decide) (by decide) kw_1137 rfl (LX11.o (h := h) F0) ?_
  refine g_iconst (v := 1) dX11_edition_163 (by decide) ?_
  refine g_iadd dX11_edition_164 ?_
  refine g_put (c := 11) (k := 10) (h1 := sI h a0 10 (hI h a0 10 + 1)) dX11_edition_165 (by decide) (by decide) kw_1137 rfl (LX11.o (h := h) F0) rfl rfl (Put.I rfl) ?_
  refine g_aload_n dX11_edition_168 rfl ?_
  refine g_aload_n dX11_edition_169 rfl ?_
  refine g_getI (c := 11) (k := 10) dX11_edition_170 (by decide) (by decide) kw_1137 rfl (LX11.o (h := sI h a0 10 (hI h a0 10 + 1)) F0) ?_
  refine g_iconst (v := 1) dX11_edition_173 (by decide) ?_
  refine g_isub dX11_edition_174 ?_
  refine Gd.z ?_
  exact g_callV (k := 11) [.int ((hI (sI h a0 10 (hI h a0 10 + 1)) a0 10) - 1)] dX11_edition_175 mfX11_takes ⟨by decide, by decide⟩ kw_1423 kw_1425 kw_69 rfl (by decide) (Nat.le_of_ble_eq_true rfl) (by intro x hx; cases hx) (LX11.o (h := sI h a0 10 (hI h a0 10 + 1)) F0) (Nat.le_of_ble_eq_true rfl) hN (fun _ _ q => q.elim) (oV_go (G := fun a b => Gd X mX11_edition 178 _ a b nc ns P) (fun t q => Gd.wk (g t q) ⟨rfl, trivial⟩))
theorem bkX11_edition_178 {X : GX} {h : SH} {nc ns : Nat} {P : Out → SH → Prop} {a0 : Nat} (F0 : LX11 (Sk h) (a0)) (hp : P (.inl (some (.int (hI h a0 8)))) (h)) : Gd X mX11_edition 178 [some (.ref a0), none] [] h nc ns P := by
  refine g_aload_n dX11_edition_178 rfl ?_
  refine g_getI (c := 11) (k := 8) dX11_edition_179 (by decide) (by decide) kw_1135 rfl (LX11.o (h := h) F0) ?_
  exact g_ireturn (st := []) dX11_edition_182 rfl rfl hp
theorem bkX11_factIs_0 {X : GX} {h : SH} {nc ns : Nat} {P : Out → SH → Prop} {a0 : Nat} (F0 : LX11 (Sk h) (a0)) (i1 : vp_in (6) 7) (kt : ¬ (hI h (a0 + 7) ((6 : Int32).toNatClampNeg)) = 8 → Gd X mX11_factIs 20 [some (.ref a0), some (.int (hI h (a0 + 7) ((6 : Int32).toNatClampNeg))), none, none] [] (h) nc ns P) (kf : (hI h (a0 + 7) ((6 : Int32).toNatClampNeg)) = 8 → Gd X mX11_factIs 14 [some (.ref a0), none, none, none] [] (h) nc ns P) : Gd X mX11_factIs 0 [some (.ref a0), none, none, none] [] h nc ns P := by
  refine g_aload_n dX11_factIs_0 rfl ?_
  refine g_getAs (c := 11) (k := 12) (b := a0 + 7) dX11_factIs_1 (by decide) (by decide) kw_1139 rfl (LX11.o (h := h) F0) (LX11.r_facts (h := h) F0) ?_
  refine g_bipush (v := 6) dX11_factIs_4 (by decide) ?_
  refine g_iaload dX11_factIs_6 (LX11.a_facts (h := h) F0) i1 ?_
  refine g_istore_n (L' := [some (.ref a0), some (.int (hI h (a0 + 7) ((6 : Int32).toNatClampNeg))), none, none]) dX11_factIs_7 (by decide) rfl ?_
  refine g_iload_n dX11_factIs_8 rfl ?_
  refine g_bipush (v := 8) dX11_factIs_9 (by decide) ?_
  exact g_icmp_ne (tgt := 20) dX11_factIs_11 (by decide) (fun q => Gd.wk (kt q) ⟨rfl, ⟨rfl, trivial⟩⟩) (fun q => Gd.wk (kf q) ⟨rfl, trivial⟩)
theorem bkX11_factIs_14 {X : GX} {h : SH} {nc ns : Nat} {P : Out → SH → Prop} {Q : SH → Prop} {a0 : Nat} (F0 : LX11 (Sk h) (a0)) (hN : Cd X mX11_wrong [.ref a0, .int 5] (h) 0 0 (oV Q nX)) (g : ∀ t, Q t → Gd X mX11_factIs 19 [none, none, none, none] [] (t) nc ns P) : Gd X mX11_factIs 14 [some (.ref a0), none, none, none] [] h nc ns P := by
  refine g_aload_n dX11_factIs_14 rfl ?_
  refine g_iconst (v := 5) dX11_factIs_15 (by decide) ?_
  refine Gd.z ?_
  exact g_callV (k := 11) [.int 5] dX11_factIs_16 mfX11_wrong ⟨by decide, by decide⟩ kw_1333 kw_1335 kw_47 rfl (by decide) (Nat.le_of_ble_eq_true rfl) (by intro x hx; cases hx) (LX11.o (h := h) F0) (Nat.le_of_ble_eq_true rfl) hN (fun _ _ q => q.elim) (oV_go (G := fun a b => Gd X mX11_factIs 19 _ a b nc ns P) (fun t q => Gd.wk (g t q) trivial))
theorem bkX11_factIs_19 {X : GX} {h : SH} {nc ns : Nat} {P : Out → SH → Prop} (hp : P (.inl (none)) (h)) : Gd X mX11_factIs 19 [none, none, none, none] [] h nc ns P := by
  exact g_return (st := []) dX11_factIs_19 rfl hp
theorem bkX11_factIs_20 {X : GX} {h : SH} {nc ns : Nat} {P : Out → SH → Prop} {Q : Int32 → SH → Prop} {a0 : Nat} {x1 : Int32} (F0 : LX11 (Sk h) (a0)) (hN : Cd X mX11_isName [.ref a0] (sI h a0 7 (hI h a0 7 + 1)) 0 0 (oI Q nX)) (g : ∀ r t, Q r t → Gd X mX11_factIs 39 [some (.ref a0), none, some (.int (48 + x1)), none] [.int r] (t) nc ns P) : Gd X mX11_factIs 20 [some (.ref a0), some (.int x1), none, none] [] h nc ns P := by
  refine g_aload_n dX11_factIs_20 rfl ?_
  refine g_dup dX11_factIs_21 rfl ?_
  refine g_getI (c := 11) (k := 7) dX11_factIs_22 (by decide) (by decide) kw_1134 rfl (LX11.o (h := h) F0) ?_
  refine g_iconst (v := 1) dX11_factIs_25 (by decide) ?_
  refine g_iadd dX11_factIs_26 ?_
  refine g_put (c := 11) (k := 7) (h1 := sI h a0 7 (hI h a0 7 + 1)) dX11_factIs_27 (by decide) (by decide) kw_1134 rfl (LX11.o (h := h) F0) rfl rfl (Put.I rfl) ?_
  refine g_bipush (v := 48) dX11_factIs_30 (by decide) ?_
  refine g_iload_n dX11_factIs_32 rfl ?_
  refine g_iadd dX11_factIs_33 ?_
  refine g_istore_n (L' := [some (.ref a0), some (.int x1), some (.int (48 + x1)), none]) dX11_factIs_34 (by decide) rfl ?_
  refine g_aload_n dX11_factIs_35 rfl ?_
  refine Gd.z ?_
  exact g_callV (k := 11) [] dX11_factIs_36 mfX11_isName ⟨by decide, by decide⟩ kw_1337 kw_1339 kw_48 rfl (by decide) (Nat.le_of_ble_eq_true rfl) (by intro x hx; cases hx) (LX11.o (h := sI h a0 7 (hI h a0 7 + 1)) F0) (Nat.le_of_ble_eq_true rfl) hN (fun _ _ q => q.elim) (oI_go (G := fun a b => Gd X mX11_factIs 39 _ a b nc ns P) (fun r t q => Gd.wk (g r t q) ⟨rfl, ⟨rfl, trivial⟩⟩))
theorem bkX11_factIs_39 {X : GX} {h : SH} {nc ns : Nat} {P : Out → SH → Prop} {a0 : Nat} {x2 : Int32} {xs0 : Int32} (kt : ¬ xs0 = 0 → Gd X mX11_factIs 50 [some (.ref a0), none, some (.int x2), none] [] (h) nc ns P) (kf : xs0 = 0 → Gd X mX11_factIs 42 [some (.ref a0), none, some (.int x2), none] [] (h) nc ns P) : Gd X mX11_factIs 39 [some (.ref a0), none, some (.int x2), none] [.int xs0] h nc ns P := by
  exact g_if_ne (tgt := 50) dX11_factIs_39 (by decide) (fun q => Gd.wk (kt q) ⟨rfl, ⟨rfl, trivial⟩⟩) (fun q => Gd.wk (kf q) ⟨rfl, ⟨rfl, trivial⟩⟩)
theorem bkX11_factIs_42 {X : GX} {h : SH} {nc ns : Nat} {P : Out → SH → Prop} {Q : SH → Prop} {a0 : Nat} {x2 : Int32} (F0 : LX11 (Sk h) (a0)) (hN : Cd X mX11_wrong [.ref a0, .int 1] (h) 0 0 (oV Q nX)) (g : ∀ t, Q t → Gd X mX11_factIs 47 [some (.ref a0), none, some (.int x2), none] [] (t) nc ns P) : Gd X mX11_factIs 42 [some (.ref a0), none, some (.int x2), none] [] h nc ns P := by
  refine g_aload_n dX11_factIs_42 rfl ?_
  refine g_iconst (v := 1) dX11_factIs_43 (by decide) ?_
  refine Gd.z ?_
  exact g_callV (k := 11) [.int 1] dX11_factIs_44 mfX11_wrong ⟨by decide, by decide⟩ kw_1333 kw_1335 kw_47 rfl (by decide) (Nat.le_of_ble_eq_true rfl) (by intro x hx; cases hx) (LX11.o (h := h) F0) (Nat.le_of_ble_eq_true rfl) hN (fun _ _ q => q.elim) (oV_go (G := fun a b => Gd X mX11_factIs 47 _ a b nc ns P) (fun t q => Gd.wk (g t q) ⟨rfl, ⟨rfl, trivial⟩⟩))
theorem bkX11_factIs_47 {X : GX} {h : SH} {nc ns : Nat} {P : Out → SH → Prop} {a0 : Nat} {x2 : Int32} (g : Gd X mX11_factIs 71 [some (.ref a0), none, some (.int x2), none] [] (h) nc ns P) : Gd X mX11_factIs 47 [some (.ref a0), none, some (.int x2), none] [] h nc ns P := by
  refine g_goto (tgt := 71) dX11_factIs_47 (by decide) ?_
  exact Gd.wk g ⟨rfl, ⟨rfl, trivial⟩⟩
theorem bkX11_factIs_50 {X : GX} {h : SH} {nc ns : Nat} {P : Out → SH → Prop} {Q : Int32 → SH → Prop} {a0 : Nat} {x2 : Int32} (F0 : LX11 (Sk h) (a0)) (i1 : vp_in (hI h a0 7) 2402) (hN : Cd X mX11_findFact [.ref a0, .long (hJ h (a0 + 4) ((hI h a0 7 : Int32).toNatClampNeg))] (h) 0 0 (oI Q nX)) (g : ∀ r t, Q r t → Gd X mX11_factIs 63 [some (.ref a0), none, some (.int x2), none] [.int r] (t) nc ns P) : Gd X mX11_factIs 50 [some (.ref a0), none, some (.int x2), none] [] h nc ns P := by
  refine g_aload_n dX11_factIs_50 rfl ?_
  refine g_aload_n dX11_factIs_51 rfl ?_
  refine g_getAs (c := 11) (k := 6) (b := a0 + 4) dX11_factIs_52 (by decide) (by decide) kw_1133 rfl (LX11.o (h := h) F0) (LX11.r_value (h := h) F0) ?_
  refine g_aload_n dX11_factIs_55 rfl ?_
  refine g_getI (c := 11) (k := 7) dX11_factIs_56 (by decide) (by decide) kw_1134 rfl (LX11.o (h := h) F0) ?_
  refine g_laload dX11_factIs_59 (LX11.a_value (h := h) F0) i1 ?_
  refine Gd.z ?_
  exact g_callV (k := 11) [.long (hJ h (a0 + 4) ((hI h a0 7 : Int32).toNatClampNeg))] dX11_factIs_60 mfX11_findFact ⟨by decide, by decide⟩ kw_1341 kw_1343 kw_49 rfl (by decide) (Nat.le_of_ble_eq_true rfl) (by intro x hx; cases hx) (LX11.o (h := h) F0) (Nat.le_of_ble_eq_true rfl) hN (fun _ _ q => q.elim) (oI_go (G := fun a b => Gd X mX11_factIs 63 _ a b nc ns P) (fun r t q => Gd.wk (g r t q) ⟨rfl, ⟨rfl, trivial⟩⟩))
theorem bkX11_factIs_63 {X : GX} {h : SH} {nc ns : Nat} {P : Out → SH → Prop} {a0 : Nat} {x2 : Int32} {xs0 : Int32} (kt : xs0 < 0 → Gd X mX11_factIs 71 [some (.ref a0), none, some (.int x2), none] [] (h) nc ns P) (kf : ¬ xs0 < 0 → Gd X mX11_factIs 66 [some (.ref a0), none, some (.int x2), none] [] (h) nc ns P) : Gd X mX11_factIs 63 [some (.ref a0), none, some (.int x2), none] [.int xs0] h nc ns P := by
  exact g_if_lt (tgt := 71) dX11_factIs_63 (by decide) (fun q => Gd.wk (kt q) ⟨rfl, ⟨rfl, trivial⟩⟩) (fun q => Gd.wk (kf q) ⟨rfl, ⟨rfl, trivial⟩⟩)
theorem bkX11_factIs_66 {X : GX} {h : SH} {nc ns : Nat} {P : Out → SH → Prop} {Q : SH → Prop} {a0 : Nat} {x2 : Int32} (F0 : LX11 (Sk h) (a0)) (hN : Cd X mX11_wrong [.ref a0, .int 3] (h) 0 0 (oV Q nX)) (g : ∀ t, Q t → Gd X mX11_factIs 71 [some (.ref a0), none, some (.int x2), none] [] (t) nc ns P) : Gd X mX11_factIs 66 [some (.ref a0), none, some (.int x2), none] [] h nc ns P := by
  refine g_aload_n dX11_factIs_66 rfl ?_
  refine g_iconst (v := 3) dX11_factIs_67 (by decide) ?_
  refine Gd.z ?_
  exact g_callV (k := 11) [.int 3] dX11_factIs_68 mfX11_wrong ⟨by decide, by decide⟩ kw_1333 kw_1335 kw_47 rfl (by decide) (Nat.le_of_ble_eq_true rfl) (by intro x hx; cases hx) (LX11.o (h := h) F0) (Nat.le_of_ble_eq_true rfl) hN (fun _ _ q => q.elim) (oV_go (G := fun a b => Gd X mX11_factIs 71 _ a b nc ns P) (fun t q => Gd.wk (g t q) ⟨rfl, ⟨rfl, trivial⟩⟩))
theorem bkX11_factIs_71 {X : GX} {h : SH} {nc ns : Nat} {P : Out → SH → Prop} {a0 : Nat} {x2 : Int32} (F0 : LX11 (Sk h) (a0)) (i1 : vp_in (hI h a0 7) 2402) (i2 : vp_in (x2) 56) (kt : ¬ (hI (sJ h (a0 + 8) ((x2 : Int32).toNatClampNeg) (hJ h (a0 + 4) ((hI h a0 7 : Int32).toNatClampNeg))) a0 8) = 0 → Gd X mX11_factIs 102 [some (.ref a0), none, some (.int x2), none] [.int (hI (sJ h (a0 + 8) ((x2 : Int32).toNatClampNeg) (hJ h (a0 + 4) ((hI h a0 7 : Int32).toNatClampNeg))) a0 7), .ref a0] (sJ h (a0 + 8) ((x2 : Int32).toNatClampNeg) (hJ h (a0 + 4) ((hI h a0 7 : Int32).toNatClampNeg))) nc ns P) (kf : (hI (sJ h (a0 + 8) ((x2 : Int32).toNatClampNeg) (hJ h (a0 + 4) ((hI h a0 7 : Int32).toNatClampNeg))) a0 8) = 0 → Gd X mX11_factIs 98 [some (.ref a0), none, some (.int x2), none] [.int (hI (sJ h (a0 + 8) ((x2 : Int32).toNatClampNeg) (hJ h (a0 + 4) ((hI h a0 7 : Int32).toNatClampNeg))) a0 7), .ref a0] (sJ h (a0 + 8) ((x2 : Int32).toNatClampNeg) (hJ h (a0 + 4) ((hI h a0 7 : Int32).toNatClampNeg))) nc ns P) : Gd X mX11_factIs 71 [some (.ref a0), none, some (.int x2), none] [] h nc ns P := by
  refine g_aload_n dX11_factIs_71 rfl ?_
  refine g_getAs (c := 11) (k := 13) (b := a0 + 8) dX11_factIs_72 (by decide) (by decide) kw_1140 rfl (LX11.o (h := h) F0) (LX11.r_factName (h := h) F0) ?_
  refine g_iload_n dX11_factIs_75 rfl ?_
  refine g_aload_n dX11_factIs_76 rfl ?_
  refine g_getAs (c := 11) (k := 6) (b := a0 + 4) dX11_factIs_77 (by decide) (by decide) kw_1133 rfl (LX11.o (h := h) F0) (LX11.r_value (h := h) F0) ?_
  refine g_aload_n dX11_factIs_80 rfl ?_
  refine g_getI (c := 11) (k := 7) dX11_factIs_81 (by decide) (by decide) kw_1134 rfl (LX11.o (h := h) F0) ?_
  refine g_laload dX11_factIs_84 (LX11.a_value (h := h) F0) i1 ?_
  refine g_lastore dX11_factIs_85 (LX11.a_factName (h := h) F0) i2 ?_
  refine g_aload_n dX11_factIs_86 rfl ?_
  refine g_dup dX11_factIs_87 rfl ?_
  refine g_getI (c := 11) (k := 7) dX11_factIs_88 (by decide) (by decide) kw_1134 rfl (LX11.o (h := sJ h (a0 + 8) ((x2 : Int32).toNatClampNeg) (hJ h (a0 + 4) ((hI h a0 7 : Int32).toNatClampNeg))) F0) ?_
  refine g_aload_n dX11_factIs_91 rfl ?_
  refine g_getI (c := 11) (k := 8) dX11_factIs_92 (by decide) (by decide) kw_1135 rfl (LX11.o (h := sJ h (a0 + 8) ((x2 : Int32).toNatClampNeg) (hJ h (a0 + 4) ((hI h a0 7 : Int32).toNatClampNeg))) F0) ?_
  exact g_if_ne (tgt := 102) dX11_factIs_95 (by decide) (fun q => Gd.wk (kt q) ⟨rfl, ⟨rfl, trivial⟩⟩) (fun q => Gd.wk (kf q) ⟨rfl, ⟨rfl, trivial⟩⟩)
theorem bkX11_factIs_98 {X : GX} {h : SH} {nc ns : Nat} {P : Out → SH → Prop} {a0 : Nat} {x2 : Int32} {as0 : Nat} {xs1 : Int32} (g : Gd X mX11_factIs 103 [some (.ref a0), none, some (.int x2), none] [.int 1, .int xs1, .ref as0] (h) nc ns P) : Gd X mX11_factIs 98 [some (.ref a0), none, some (.int x2), none] [.int xs1, .ref as0] h nc ns P := by
  refine g_iconst (v := 1) dX11_factIs_98 (by decide) ?_
  refine g_goto (tgt := 103) dX11_factIs_99 (by decide) ?_
  exact Gd.wk g ⟨rfl, ⟨rfl, trivial⟩⟩
theorem bkX11_factIs_102 {X : GX} {h : SH} {nc ns : Nat} {P : Out → SH → Prop} {a0 : Nat} {x2 : Int32} {as0 : Nat} {xs1 : Int32} (g : Gd X mX11_factIs 103 [some (.ref a0), none, some (.int x2), none] [.int 0, .int xs1, .ref as0] (h) nc ns P) : Gd X mX11_factIs 102 [some (.ref a0), none, some (.int x2), none] [.int xs1, .ref as0] h nc ns P := by
  refine g_iconst (v := 0) dX11_factIs_102 (by decide) ?_
  exact Gd.wk g ⟨rfl, ⟨rfl, trivial⟩⟩
theorem bkX11_factIs_103 {X : GX} {h : SH} {nc ns : Nat} {P : Out → SH → Prop} {Q : Int32 → SH → Prop} {a0 : Nat} {x2 : Int32} {as0 : Nat} {xs1 : Int32} {xs2 : Int32} (F0 : LX11 (Sk h) (as0)) (F1 : LX11 (Sk h) (a0)) (hN : Cd X mX11_takeNumber [.ref a0, .int 0, .int 99] (sI h as0 7 (xs1 + xs2)) 0 0 (oI Q nX)) (g : ∀ r t, Q r t → Gd X mX11_factIs 119 [some (.ref a0), none, some (.int x2), none] [.int r, .int x2, .ref (a0 + 9)] (t) nc ns P) : Gd X mX11_factIs 103 [some (.ref a0), none, some (.int x2), none] [.int xs2, .int xs1, .ref as0] h nc ns P := by
  refine g_iadd dX11_factIs_103 ?_
  refine g_put (c := 11) (k := 7) (h1 := sI h as0 7 (xs1 + xs2)) dX11_factIs_104 (by decide) (by decide) kw_1134 rfl (LX11.o (h := h) F0) rfl rfl (Put.I rfl) ?_
  refine g_aload_n dX11_factIs_107 rfl ?_
  refine g_getAs (c := 11) (k := 14) (b := a0 + 9) dX11_factIs_108 (by decide) (by decide) kw_1141 rfl (LX11.o (h := sI h as0 7 (xs1 + xs2)) F1) (LX11.r_least (h := sI h as0 7 (xs1 + xs2)) F1) ?_
  refine g_iload_n dX11_factIs_111 rfl ?_
  refine g_aload_n dX11_factIs_112 rfl ?_
  refine g_iconst (v := 0) dX11_factIs_113 (by decide) ?_
  refine g_bipush (v := 99) dX11_factIs_114 (by decide) ?_
  refine Gd.z ?_
  exact g_callV (k := 11) [.int 0, .int 99] dX11_factIs_116 mfX11_takeNumber ⟨by decide, by decide⟩ kw_1345 kw_1347 kw_50 rfl (by decide) (Nat.le_of_ble_eq_true rfl) (by intro x hx; cases hx) (LX11.o (h := sI h as0 7 (xs1 + xs2)) F1) (Nat.le_of_ble_eq_true rfl) hN (fun _ _ q => q.elim) (oI_go (G := fun a b => Gd X mX11_factIs 119 _ a b nc ns P) (fun r t q => Gd.wk (g r t q) ⟨rfl, ⟨rfl, trivial⟩⟩))
theorem bkX11_factIs_119 {X : GX} {h : SH} {nc ns : Nat} {P : Out → SH → Prop} {Q : SH → Prop} {a0 : Nat} {x2 : Int32} {as0 : Nat} {xs1 : Int32} {xs2 : Int32} {n5 : Nat} (B0 : Ar h (as0) 20 n5) (i1 : vp_in (xs1) n5) (F2 : LX11 (Sk h) (a0)) (hN : Cd X mX11_takeWord [.ref a0, .int 1] (sI h as0 ((xs1 : Int32).toNatClampNeg) xs2) 0 0 (oV Q nX)) (g : ∀ t, Q t → Gd X mX11_factIs 125 [some (.ref a0), none, some (.int x2), none] [] (t) nc ns P) : Gd X mX11_factIs 119 [some (.ref a0), none, some (.int x2), none] [.int xs2, .int xs1, .ref as0] h nc ns P := by
  refine g_iastore dX11_factIs_119 B0 i1 ?_
  refine g_aload_n dX11_factIs_120 rfl ?_
  refine g_iconst (v := 1) dX11_factIs_121 (by decide) ?_
  refine Gd.z ?_
  exact g_callV (k := 11) [.int 1] dX11_factIs_122 mfX11_takeWord ⟨by decide, by decide⟩ kw_1349 kw_1351 kw_51 rfl (by decide) (Nat.le_of_ble_eq_true rfl) (by intro x hx; cases hx) (LX11.o (h := sI h as0 ((xs1 : Int32).toNatClampNeg) xs2) F2) (Nat.le_of_ble_eq_true rfl) hN (fun _ _ q => q.elim) (oV_go (G := fun a b => Gd X mX11_factIs 125 _ a b nc ns P) (fun t q => Gd.wk (g t q) ⟨rfl, ⟨rfl, trivial⟩⟩))
theorem bkX11_factIs_125 {X : GX} {h : SH} {nc ns : Nat} {P : Out → SH → Prop} {a0 : Nat} {x2 : Int32} (F0 : LX11 (Sk h) (a0)) (kt : ¬ hI h a0 8 = 0 → Gd X mX11_factIs 149 [some (.ref a0), none, some (.int x2), none] [] (h) nc ns P) (kf : hI h a0 8 = 0 → Gd X mX11_factIs 132 [some (.ref a0), none, some (.int x2), none] [] (h) nc ns P) : Gd X mX11_factIs 125 [some (.ref a0), none, some (.int x2), none] [] h nc ns P := by
  refine g_aload_n dX11_factIs_125 rfl ?_
  refine g_getI (c := 11) (k := 8) dX11_factIs_126 (by decide) (by decide) kw_1135 rfl (LX11.o (h := h) F0) ?_
  exact g_if_ne (tgt := 149) dX11_factIs_129 (by decide) (fun q => Gd.wk (kt q) ⟨rfl, ⟨rfl, trivial⟩⟩) (fun q => Gd.wk (kf q) ⟨rfl, ⟨rfl, trivial⟩⟩)
theorem bkX11_factIs_132 {X : GX} {h : SH} {nc ns : Nat} {P : Out → SH → Prop} {a0 : Nat} {x2 : Int32} (F0 : LX11 (Sk h) (a0)) (i1 : vp_in (hI h a0 7) 2402) (kt : ¬ (hI h (a0 + 2) ((hI h a0 7 : Int32).toNatClampNeg)) = 2 → Gd X mX11_factIs 149 [some (.ref a0), none, some (.int x2), none] [] (h) nc ns P) (kf : (hI h (a0 + 2) ((hI h a0 7 : Int32).toNatClampNeg)) = 2 → Gd X mX11_factIs 145 [some (.ref a0), none, some (.int x2), none] [] (h) nc ns P) : Gd X mX11_factIs 132 [some (.ref a0), none, some (.int x2), none] [] h nc ns P := by
  refine g_aload_n dX11_factIs_132 rfl ?_
  refine g_getAs (c := 11) (k := 4) (b := a0 + 2) dX11_factIs_133 (by decide) (by decide) kw_1131 rfl (LX11.o (h := h) F0) (LX11.r_sort (h := h) F0) ?_
  refine g_aload_n dX11_factIs_136 rfl ?_
  refine g_getI (c := 11) (k := 7) dX11_factIs_137 (by decide) (by decide) kw_1134 rfl (LX11.o (h := h) F0) ?_
  refine g_iaload dX11_factIs_140 (LX11.a_sort (h := h) F0) i1 ?_
  refine g_iconst (v := 2) dX11_factIs_141 (by decide) ?_
  exact g_icmp_ne (tgt := 149) dX11_factIs_142 (by decide) (fun q => Gd.wk (kt q) ⟨rfl, ⟨rfl, trivial⟩⟩) (fun q => Gd.wk (kf q) ⟨rfl, ⟨rfl, trivial⟩⟩)
theorem bkX11_factIs_145 {X : GX} {h : SH} {nc ns : Nat} {P : Out → SH → Prop} {a0 : Nat} {x2 : Int32} (g : Gd X mX11_factIs 150 [some (.ref a0), none, some (.int x2), none] [.int 1] (h) nc ns P) : Gd X mX11_factIs 145 [some (.ref a0), none, some (.int x2), none] [] h nc ns P := by
  refine g_iconst (v := 1) dX11_factIs_145 (by decide) ?_
  refine g_goto (tgt := 150) dX11_factIs_146 (by decide) ?_
  exact Gd.wk g ⟨rfl, ⟨rfl, trivial⟩⟩
theorem bkX11_factIs_149 {X : GX} {h : SH} {nc ns : Nat} {P : Out → SH → Prop} {a0 : Nat} {x2 : Int32} (g : Gd X mX11_factIs 150 [some (.ref a0), none, some (.int x2), none] [.int 0] (h) nc ns P) : Gd X mX11_factIs 149 [some (.ref a0), none, some (.int x2), none] [] h nc ns P := by
  refine g_iconst (v := 0) dX11_factIs_149 (by decide) ?_
  exact Gd.wk g ⟨rfl, ⟨rfl, trivial⟩⟩
theorem bkX11_factIs_150 {X : GX} {h : SH} {nc ns : Nat} {P : Out → SH → Prop} {a0 : Nat} {x2 : Int32} {xs0 : Int32} (kt : xs0 = 0 → Gd X mX11_factIs 229 [some (.ref a0), none, some (.int x2), none] [] (h) nc ns P) (kf : ¬ xs0 = 0 → Gd X mX11_factIs 155 [some (.ref a0), none, some (.int x2), none] [] (h) nc ns P) : Gd X mX11_factIs 150 [some (.ref a0), none, some (.int x2), none] [.int xs0] h nc ns P := by
  refine g_istore_n (L' := [some (.ref a0), none, some (.int x2), some (.int xs0)]) dX11_factIs_150 (by decide) rfl ?_
  refine g_iload_n dX11_factIs_151 rfl ?_
  exact g_if_eq (tgt := 229) dX11_factIs_152 (by decide) (fun q => Gd.wk (kt q) ⟨rfl, ⟨rfl, trivial⟩⟩) (fun q => Gd.wk (kf q) ⟨rfl, ⟨rfl, trivial⟩⟩)
