theorem bkX10_init_0 {X : GX} {h : SH} {nc ns : Nat} {P : Out → SH → Prop} {a0 : Nat} (g : Gd X mX10_init 4 [some (.ref a0)] [] (h) nc ns P) : Gd X mX10_init 0 [some (.ref a0)] [] h nc ns P := by
  refine g_aload_n dX10_init_0 rfl ?_
  refine g_objInit dX10_init_1 kw_123 kw_124 kw_125 (by decide) (Nat.le_of_ble_eq_true rfl) ?_
  exact Gd.wk g ⟨rfl, trivial⟩
theorem bkX10_init_4 {X : GX} {h : SH} {nc ns : Nat} {P : Out → SH → Prop} {a0 : Nat} (g : Gd X mX10_init 10 [some (.ref a0)] [.ref (hz h), .ref a0] (nw h 21 2400) nc ns P) : Gd X mX10_init 4 [some (.ref a0)] [] h (nc + 1) (ns + 2400) P := by
  refine g_aload_n dX10_init_4 rfl ?_
  refine g_sipush (v := 2400) dX10_init_5 (by decide) ?_
  refine g_newarrN (k := 21) (N := 2400) dX10_init_8 (by decide) (by decide) rfl kw_144 (by decide) (by decide) (by decide) ?_
  exact Gd.wk g ⟨rfl, trivial⟩
theorem bkX10_init_30 {X : GX} {h : SH} {nc ns : Nat} {P : Out → SH → Prop} {a0 : Nat} {as0 : Nat} {as1 : Nat} (F0 : LX10 (Sk h) (as0)) (g : Gd X mX10_init 33 [some (.ref a0)] [] (sA h as0 5 (some (as1))) nc ns P) : Gd X mX10_init 30 [some (.ref a0)] [.ref as1, .ref as0] h nc ns P := by
  refine g_putF (c := 10) (k := 5) (v := va_rf (some (as1))) (h1 := sA h as0 5 (some (as1))) dX10_init_30 (by decide) (by decide) kw_245 rfl rfl rfl (LX10.o (h := h) F0) (rf_n rfl) (rf_f rfl) (Put.A rfl) ?_
  exact Gd.wk g ⟨rfl, trivial⟩
theorem bkX10_init_41 {X : GX} {h : SH} {nc ns : Nat} {P : Out → SH → Prop} {a0 : Nat} {as0 : Nat} {as1 : Nat} (F0 : LX10 (Sk h) (as0)) (g : Gd X mX10_init 44 [some (.ref a0)] [] (sA h as0 6 (some (as1))) nc ns P) : Gd X mX10_init 41 [some (.ref a0)] [.ref as1, .ref as0] h nc ns P := by
  refine g_putF (c := 10) (k := 6) (v := va_rf (some (as1))) (h1 := sA h as0 6 (some (as1))) dX10_init_41 (by decide) (by decide) kw_246 rfl rfl rfl (LX10.o (h := h) F0) (rf_n rfl) (rf_f rfl) (Put.A rfl) ?_
  exact Gd.wk g ⟨rfl, trivial⟩
theorem bkX10_init_52 {X : GX} {h : SH} {nc ns : Nat} {P : Out → SH → Prop} {a0 : Nat} {as0 : Nat} {as1 : Nat} (F0 : LX10 (Sk h) (as0)) (g : Gd X mX10_init 55 [some (.ref a0)] [] (sA h as0 7 (some (as1))) nc ns P) : Gd X mX10_init 52 [some (.ref a0)] [.ref as1, .ref as0] h nc ns P := by
  refine g_putF (c := 10) (k := 7) (v := va_rf (some (as1))) (h1 := sA h as0 7 (some (as1))) dX10_init_52 (by decide) (by decide) kw_247 rfl rfl rfl (LX10.o (h := h) F0) (rf_n rfl) (rf_f rfl) (Put.A rfl) ?_
  exact Gd.wk g ⟨rfl, trivial⟩
theorem bkX10_init_63 {X : GX} {h : SH} {nc ns : Nat} {P : Out → SH → Prop} {as0 : Nat} {as1 : Nat} (F0 : LX10 (Sk h) (as0)) (g : Gd X mX10_init 66 [none] [] (sA h as0 9 (some (as1))) nc ns P) : Gd X mX10_init 63 [none] [.ref as1, .ref as0] h nc ns P := by
  refine g_putF (c := 10) (k := 9) (v := va_rf (some (as1))) (h1 := sA h as0 9 (some (as1))) dX10_init_63 (by decide) (by decide) kw_249 rfl rfl rfl (LX10.o (h := h) F0) (rf_n rfl) (rf_f rfl) (Put.A rfl) ?_
  exact Gd.wk g trivial
theorem bkX10_init_10 {X : GX} {h : SH} {nc ns : Nat} {P : Out → SH → Prop} {a0 : Nat} {as0 : Nat} {as1 : Nat} (F0 : LX10 (Sk h) (as0)) (g : Gd X mX10_init 13 [some (.ref a0)] [] (sA h as0 0 (some (as1))) nc ns P) : Gd X mX10_init 10 [some (.ref a0)] [.ref as1, .ref as0] h nc ns P := by
  refine g_putF (c := 10) (k := 0) (v := va_rf (some (as1))) (h1 := sA h as0 0 (some (as1))) dX10_init_10 (by decide) (by decide) kw_240 rfl rfl rfl (LX10.o (h := h) F0) (rf_n rfl) (rf_f rfl) (Put.A rfl) ?_
  exact Gd.wk g ⟨rfl, trivial⟩
theorem bkX10_init_33 {X : GX} {h : SH} {nc ns : Nat} {P : Out → SH → Prop} {a0 : Nat} (g : Gd X mX10_init 37 [some (.ref a0)] [.ref (hz h), .ref a0] (nw h 0 0) nc ns P) : Gd X mX10_init 33 [some (.ref a0)] [] h (nc + 1) (ns + 2) P := by
  refine g_aload_n dX10_init_33 rfl ?_
  refine g_new (c := 0) dX10_init_34 (by decide) kw_146 kw_147 kw_95 ?_
  exact Gd.wk g ⟨rfl, trivial⟩
theorem bkX10_init_44 {X : GX} {h : SH} {nc ns : Nat} {P : Out → SH → Prop} {a0 : Nat} (g : Gd X mX10_init 48 [some (.ref a0)] [.ref (hz h), .ref a0] (nw h 6 0) nc ns P) : Gd X mX10_init 44 [some (.ref a0)] [] h (nc + 1) (ns + 9) P := by
  refine g_aload_n dX10_init_44 rfl ?_
  refine g_new (c := 6) dX10_init_45 (by decide) kw_160 kw_161 kw_96 ?_
  exact Gd.wk g ⟨rfl, trivial⟩
theorem bkX10_init_55 {X : GX} {h : SH} {nc ns : Nat} {P : Out → SH → Prop} {a0 : Nat} (g : Gd X mX10_init 59 [none] [.ref (hz h), .ref a0] (nw h 8 0) nc ns P) : Gd X mX10_init 55 [some (.ref a0)] [] h (nc + 1) (ns + 8) P := by
  refine g_aload_n dX10_init_55 rfl ?_
  refine g_new (c := 8) dX10_init_56 (by decide) kw_203 kw_204 kw_97 ?_
  exact Gd.wk g trivial
theorem bkX10_init_66 {X : GX} {h : SH} {nc ns : Nat} {P : Out → SH → Prop} (hp : P (.inl (none)) (h)) : Gd X mX10_init 66 [none] [] h nc ns P := by
  exact g_return (st := []) dX10_init_66 rfl hp
theorem bkX10_init_13 {X : GX} {h : SH} {nc ns : Nat} {P : Out → SH → Prop} {a0 : Nat} (g : Gd X mX10_init 19 [some (.ref a0)] [.ref (hz h), .ref a0] (nw h 24 6) nc ns P) : Gd X mX10_init 13 [some (.ref a0)] [] h (nc + 1) (ns + 6) P := by
  refine g_aload_n dX10_init_13 rfl ?_
  refine g_bipush (v := 6) dX10_init_14 (by decide) ?_
  refine g_anewarrN (k := 24) (N := 6) dX10_init_16 (by decide) (by decide) kw_126 kn_127 (by decide) (by decide) (by decide) ?_
  exact Gd.wk g ⟨rfl, trivial⟩
theorem bkX10_init_37 {X : GX} {h : SH} {nc ns : Nat} {P : Out → SH → Prop} {n1 s1 : Nat} {Q : SH → Prop} {a0 : Nat} {as0 : Nat} {as1 : Nat} (hN : Cd X mX0_init [.ref as1] (h) n1 s1 (oV Q nX)) (g : ∀ t, Q t → Gd X mX10_init 41 [some (.ref a0)] [.ref as1, .ref as0] (t) nc ns P) : Gd X mX10_init 37 [some (.ref a0)] [.ref as1, .ref as0] h (n1 + nc) (s1 + ns) P := by
  refine g_dup dX10_init_37 rfl ?_
  exact g_callIN [] dX10_init_38 mfX0_init rfl rfl ⟨by decide, by decide⟩ kn_148 kw_149 rfl (Nat.le_of_ble_eq_true rfl) (by intro x hx; cases hx) (Nat.le_of_ble_eq_true rfl) hN (fun _ _ q => q) (oV_go (G := fun a b => Gd X mX10_init 41 _ a b nc ns P) (fun t q => Gd.wk (g t q) ⟨rfl, trivial⟩))
theorem bkX10_init_48 {X : GX} {h : SH} {nc ns : Nat} {P : Out → SH → Prop} {n1 s1 : Nat} {Q : SH → Prop} {a0 : Nat} {as0 : Nat} {as1 : Nat} (hN : Cd X mX6_init [.ref as1] (h) n1 s1 (oV Q nX)) (g : ∀ t, Q t → Gd X mX10_init 52 [some (.ref a0)] [.ref as1, .ref as0] (t) nc ns P) : Gd X mX10_init 48 [some (.ref a0)] [.ref as1, .ref as0] h (n1 + nc) (s1 + ns) P := by
  refine g_dup dX10_init_48 rfl ?_
  exact g_callIN [] dX10_init_49 mfX6_init rfl rfl ⟨by decide, by decide⟩ kn_162 kw_163 rfl (Nat.le_of_ble_eq_true rfl) (by intro x hx; cases hx) (Nat.le_of_ble_eq_true rfl) hN (fun _ _ q => q) (oV_go (G := fun a b => Gd X mX10_init 52 _ a b nc ns P) (fun t q => Gd.wk (g t q) ⟨rfl, trivial⟩))
theorem bkX10_init_59 {X : GX} {h : SH} {nc ns : Nat} {P : Out → SH → Prop} {n1 s1 : Nat} {Q : SH → Prop} {as0 : Nat} {as1 : Nat} (hN : Cd X mX8_init [.ref as1] (h) n1 s1 (oV Q nX)) (g : ∀ t, Q t → Gd X mX10_init 63 [none] [.ref as1, .ref as0] (t) nc ns P) : Gd X mX10_init 59 [none] [.ref as1, .ref as0] h (n1 + nc) (s1 + ns) P := by
  refine g_dup dX10_init_59 rfl ?_
  exact g_callIN [] dX10_init_60 mfX8_init rfl rfl ⟨by decide, by decide⟩ kn_205 kw_206 rfl (Nat.le_of_ble_eq_true rfl) (by intro x hx; cases hx) (Nat.le_of_ble_eq_true rfl) hN (fun _ _ q => q) (oV_go (G := fun a b => Gd X mX10_init 63 _ a b nc ns P) (fun t q => Gd.wk (g t q) trivial))
theorem bkX10_init_19 {X : GX} {h : SH} {nc ns : Nat} {P : Out → SH → Prop} {a0 : Nat} {as0 : Nat} {as1 : Nat} (F0 : LX10 (Sk h) (as0)) (g : Gd X mX10_init 22 [some (.ref a0)] [] (sA h as0 2 (some (as1))) nc ns P) : Gd X mX10_init 19 [some (.ref a0)] [.ref as1, .ref as0] h nc ns P := by
  refine g_putF (c := 10) (k := 2) (v := va_rf (some (as1))) (h1 := sA h as0 2 (some (as1))) dX10_init_19 (by decide) (by decide) kw_242 rfl rfl rfl (LX10.o (h := h) F0) (rf_n rfl) (rf_f rfl) (Put.A rfl) ?_
  exact Gd.wk g ⟨rfl, trivial⟩
theorem bkX10_init_22 {X : GX} {h : SH} {nc ns : Nat} {P : Out → SH → Prop} {a0 : Nat} (g : Gd X mX10_init 26 [some (.ref a0)] [.ref (hz h), .ref a0] (nw h 1 0) nc ns P) : Gd X mX10_init 22 [some (.ref a0)] [] h (nc + 1) (ns + 2) P := by
  refine g_aload_n dX10_init_22 rfl ?_
  refine g_new (c := 1) dX10_init_23 (by decide) kw_128 kw_129 kw_94 ?_
  exact Gd.wk g ⟨rfl, trivial⟩
theorem bkX10_init_26 {X : GX} {h : SH} {nc ns : Nat} {P : Out → SH → Prop} {n1 s1 : Nat} {Q : SH → Prop} {a0 : Nat} {as0 : Nat} {as1 : Nat} (hN : Cd X mX1_init [.ref as1] (h) n1 s1 (oV Q nX)) (g : ∀ t, Q t → Gd X mX10_init 30 [some (.ref a0)] [.ref as1, .ref as0] (t) nc ns P) : Gd X mX10_init 26 [some (.ref a0)] [.ref as1, .ref as0] h (n1 + nc) (s1 + ns) P := by
  refine g_dup dX10_init_26 rfl ?_
  exact g_callIN [] dX10_init_27 mfX1_init rfl rfl ⟨by decide, by decide⟩ kn_130 kw_131 rfl (Nat.le_of_ble_eq_true rfl) (by intro x hx; cases hx) (Nat.le_of_ble_eq_true rfl) hN (fun _ _ q => q) (oV_go (G := fun a b => Gd X mX10_init 30 _ a b nc ns P) (fun t q => Gd.wk (g t q) ⟨rfl, trivial⟩))
theorem bkX10_feed_0 {X : GX} {h : SH} {nc ns : Nat} {P : Out → SH → Prop} {Q : SH → Prop} {a0 : Nat} {y1 : Int64} {y3 : Int64} {y5 : Int64} (F0 : LX10 (Sk h) (a0)) (hN : Cd X mX10_feedBytes [.ref a0, .long y1] (h) 0 0 (oV Q nX)) (g : ∀ t, Q t → Gd X mX10_feed 5 [some (.ref a0), none, none, some (.long y3), none, some (.long y5), none] [] (t) nc ns P) : Gd X mX10_feed 0 [some (.ref a0), some (.long y1), none, some (.long y3), none, some (.long y5), none] [] h nc ns P := by
  refine g_aload_n dX10_feed_0 rfl ?_
  refine g_lload_n dX10_feed_1 rfl ?_
  refine Gd.z ?_
  exact g_callV (k := 10) [.long y1] dX10_feed_2 mfX10_feedBytes ⟨by decide, by decide⟩ kw_275 kw_277 kw_0 rfl (by decide) (Nat.le_of_ble_eq_true rfl) (by intro x hx; cases hx) (LX10.o (h := h) F0) (Nat.le_of_ble_eq_true rfl) hN (fun _ _ q => q.elim) (oV_go (G := fun a b => Gd X mX10_feed 5 _ a b nc ns P) (fun t q => Gd.wk (g t q) ⟨rfl, ⟨rfl, ⟨rfl, trivial⟩⟩⟩))
theorem bkX10_feed_5 {X : GX} {h : SH} {nc ns : Nat} {P : Out → SH → Prop} {Q : SH → Prop} {a0 : Nat} {y3 : Int64} {y5 : Int64} (F0 : LX10 (Sk h) (a0)) (hN : Cd X mX10_feedBytes [.ref a0, .long y3] (h) 0 0 (oV Q nX)) (g : ∀ t, Q t → Gd X mX10_feed 10 [some (.ref a0), none, none, none, none, some (.long y5), none] [] (t) nc ns P) : Gd X mX10_feed 5 [some (.ref a0), none, none, some (.long y3), none, some (.long y5), none] [] h nc ns P := by
  refine g_aload_n dX10_feed_5 rfl ?_
  refine g_lload_n dX10_feed_6 rfl ?_
  refine Gd.z ?_
  exact g_callV (k := 10) [.long y3] dX10_feed_7 mfX10_feedBytes ⟨by decide, by decide⟩ kw_275 kw_277 kw_0 rfl (by decide) (Nat.le_of_ble_eq_true rfl) (by intro x hx; cases hx) (LX10.o (h := h) F0) (Nat.le_of_ble_eq_true rfl) hN (fun _ _ q => q.elim) (oV_go (G := fun a b => Gd X mX10_feed 10 _ a b nc ns P) (fun t q => Gd.wk (g t q) ⟨rfl, ⟨rfl, trivial⟩⟩))
theorem bkX10_feed_10 {X : GX} {h : SH} {nc ns : Nat} {P : Out → SH → Prop} {Q : SH → Prop} {a0 : Nat} {y5 : Int64} (F0 : LX10 (Sk h) (a0)) (hN : Cd X mX10_feedBytes [.ref a0, .long y5] (h) 0 0 (oV Q nX)) (g : ∀ t, Q t → Gd X mX10_feed 16 [some (.ref a0), none, none, none, none, none, none] [] (t) nc ns P) : Gd X mX10_feed 10 [some (.ref a0), none, none, none, none, some (.long y5), none] [] h nc ns P := by
  refine g_aload_n dX10_feed_10 rfl ?_
  refine g_lload dX10_feed_11 rfl ?_
  refine Gd.z ?_
  exact g_callV (k := 10) [.long y5] dX10_feed_13 mfX10_feedBytes ⟨by decide, by decide⟩ kw_275 kw_277 kw_0 rfl (by decide) (Nat.le_of_ble_eq_true rfl) (by intro x hx; cases hx) (LX10.o (h := h) F0) (Nat.le_of_ble_eq_true rfl) hN (fun _ _ q => q.elim) (oV_go (G := fun a b => Gd X mX10_feed 16 _ a b nc ns P) (fun t q => Gd.wk (g t q) ⟨rfl, trivial⟩))
theorem bkX10_feed_16 {X : GX} {h : SH} {nc ns : Nat} {P : Out → SH → Prop} {a0 : Nat} (F0 : LX10 (Sk h) (a0)) (hp : P (.inl (some (.int (hI h a0 1)))) (h)) : Gd X mX10_feed 16 [some (.ref a0), none, none, none, none, none, none] [] h nc ns P := by
  refine g_aload_n dX10_feed_16 rfl ?_
  refine g_getI (c := 10) (k := 1) dX10_feed_17 (by decide) (by decide) kw_241 rfl (LX10.o (h := h) F0) ?_
  exact g_ireturn (st := []) dX10_feed_20 rfl rfl hp
theorem bkX10_edition_0 {X : GX} {h : SH} {nc ns : Nat} {P : Out → SH → Prop} {Q : Int32 → SH → Prop} {a0 : Nat} {x1 : Int32} (F0 : LX10 (Sk h) (a0)) (hN : Cd X mX10_isDay [.int x1] (sI h a0 1 0) 0 0 (oI Q nX)) (g : ∀ r t, Q r t → Gd X mX10_edition 14 [some (.ref a0), some (.int x1), some (.int (hI h a0 1)), none, none] [.int r] (t) nc ns P) : Gd X mX10_edition 0 [some (.ref a0), some (.int x1), none, none, none] [] h nc ns P := by
  refine g_aload_n dX10_edition_0 rfl ?_
  refine g_getI (c := 10) (k := 1) dX10_edition_1 (by decide) (by decide) kw_241 rfl (LX10.o (h := h) F0) ?_
  refine g_istore_n (L' := [some (.ref a0), some (.int x1), some (.int (hI h a0 1)), none, none]) dX10_edition_4 (by decide) rfl ?_
  refine g_aload_n dX10_edition_5 rfl ?_
  refine g_iconst (v := 0) dX10_edition_6 (by decide) ?_
  refine g_put (c := 10) (k := 1) (h1 := sI h a0 1 0) dX10_edition_7 (by decide) (by decide) kw_241 rfl (LX10.o (h := h) F0) rfl rfl (Put.I rfl) ?_
  refine g_iload_n dX10_edition_10 rfl ?_
  refine Gd.z ?_
  exact g_callS [.int x1] dX10_edition_11 mfX10_isDay ⟨by decide, by decide⟩ kw_283 kw_284 rfl (Nat.le_of_ble_eq_true rfl) (by intro x hx; cases hx) (Nat.le_of_ble_eq_true rfl) hN (fun _ _ q => q.elim) (oI_go (G := fun a b => Gd X mX10_edition 14 _ a b nc ns P) (fun r t q => Gd.wk (g r t q) ⟨rfl, ⟨rfl, ⟨rfl, trivial⟩⟩⟩))
theorem bkX10_edition_14 {X : GX} {h : SH} {nc ns : Nat} {P : Out → SH → Prop} {a0 : Nat} {x1 : Int32} {x2 : Int32} {xs0 : Int32} (kt : xs0 = 0 → Gd X mX10_edition 34 [none, none, none, none, none] [] (h) nc ns P) (kf : ¬ xs0 = 0 → Gd X mX10_edition 17 [some (.ref a0), some (.int x1), some (.int x2), none, none] [] (h) nc ns P) : Gd X mX10_edition 14 [some (.ref a0), some (.int x1), some (.int x2), none, none] [.int xs0] h nc ns P := by
  exact g_if_eq (tgt := 34) dX10_edition_14 (by decide) (fun q => Gd.wk (kt q) trivial) (fun q => Gd.wk (kf q) ⟨rfl, ⟨rfl, ⟨rfl, trivial⟩⟩⟩)
theorem bkX10_edition_17 {X : GX} {h : SH} {nc ns : Nat} {P : Out → SH → Prop} {a0 : Nat} {x1 : Int32} {x2 : Int32} (F0 : LX10 (Sk h) (a0)) (kt : (6 : Int32) ≤ hI h a0 3 → Gd X mX10_edition 34 [none, none, none, none, none] [] (h) nc ns P) (kf : ¬ (6 : Int32) ≤ hI h a0 3 → Gd X mX10_edition 26 [some (.ref a0), some (.int x1), some (.int x2), none, none] [] (h) nc ns P) : Gd X mX10_edition 17 [some (.ref a0), some (.int x1), some (.int x2), none, none] [] h nc ns P := by
  refine g_aload_n dX10_edition_17 rfl ?_
  refine g_getI (c := 10) (k := 3) dX10_edition_18 (by decide) (by decide) kw_243 rfl (LX10.o (h := h) F0) ?_
  refine g_bipush (v := 6) dX10_edition_21 (by decide) ?_
  exact g_icmp_ge (tgt := 34) dX10_edition_23 (by decide) (fun q => Gd.wk (kt q) trivial) (fun q => Gd.wk (kf q) ⟨rfl, ⟨rfl, ⟨rfl, trivial⟩⟩⟩)
theorem bkX10_edition_26 {X : GX} {h : SH} {nc ns : Nat} {P : Out → SH → Prop} {Q : Int32 → SH → Prop} {a0 : Nat} {x1 : Int32} {x2 : Int32} (F0 : LX10 (Sk h) (a0)) (hN : Cd X mX10_latestStart [.ref a0] (h) 0 0 (oI Q nX)) (g : ∀ r t, Q r t → Gd X mX10_edition 31 [some (.ref a0), some (.int x1), some (.int x2), none, none] [.int r, .int x1] (t) nc ns P) : Gd X mX10_edition 26 [some (.ref a0), some (.int x1), some (.int x2), none, none] [] h nc ns P := by
  refine g_iload_n dX10_edition_26 rfl ?_
  refine g_aload_n dX10_edition_27 rfl ?_
  refine Gd.z ?_
  exact g_callV (k := 10) [] dX10_edition_28 mfX10_latestStart ⟨by decide, by decide⟩ kw_286 kw_288 kw_1 rfl (by decide) (Nat.le_of_ble_eq_true rfl) (by intro x hx; cases hx) (LX10.o (h := h) F0) (Nat.le_of_ble_eq_true rfl) hN (fun _ _ q => q.elim) (oI_go (G := fun a b => Gd X mX10_edition 31 _ a b nc ns P) (fun r t q => Gd.wk (g r t q) ⟨rfl, ⟨rfl, ⟨rfl, trivial⟩⟩⟩))
theorem bkX10_edition_31 {X : GX} {h : SH} {nc ns : Nat} {P : Out → SH → Prop} {a0 : Nat} {x1 : Int32} {x2 : Int32} {xs0 : Int32} {xs1 : Int32} (kt : xs1 < xs0 → Gd X mX10_edition 36 [some (.ref a0), some (.int x1), some (.int x2), none, none] [] (h) nc ns P) (kf : ¬ xs1 < xs0 → Gd X mX10_edition 34 [none, none, none, none, none] [] (h) nc ns P) : Gd X mX10_edition 31 [some (.ref a0), some (.int x1), some (.int x2), none, none] [.int xs1, .int xs0] h nc ns P := by
  exact g_icmp_gt (tgt := 36) dX10_edition_31 (by decide) (fun q => Gd.wk (kt q) ⟨rfl, ⟨rfl, ⟨rfl, trivial⟩⟩⟩) (fun q => Gd.wk (kf q) trivial)
theorem bkX10_edition_34 {X : GX} {h : SH} {nc ns : Nat} {P : Out → SH → Prop} (hp : P (.inl (some (.int ((-1))))) (h)) : Gd X mX10_edition 34 [none, none, none, none, none] [] h nc ns P := by
  refine g_iconst (v := (-1)) dX10_edition_34 (by decide) ?_
  exact g_ireturn (st := []) dX10_edition_35 rfl rfl hp
theorem bkX10_edition_36 {X : GX} {h : SH} {nc ns : Nat} {P : Out → SH → Prop} {a0 : Nat} {x1 : Int32} {x2 : Int32} (g : Gd X mX10_edition 39 [some (.ref a0), some (.int x1), some (.int x2), none, none] [.ref (hz h)] (nw h 3 0) nc ns P) : Gd X mX10_edition 36 [some (.ref a0), some (.int x1), some (.int x2), none, none] [] h (nc + 1) (ns + 13) P := by
  refine g_new (c := 3) dX10_edition_36 (by decide) kw_126 kw_294 kw_99 ?_
  exact Gd.wk g ⟨rfl, ⟨rfl, ⟨rfl, trivial⟩⟩⟩
theorem bkX10_edition_48 {X : GX} {h : SH} {nc ns : Nat} {P : Out → SH → Prop} {a0 : Nat} {x2 : Int32} {as0 : Nat} (g : Gd X mX10_edition 52 [some (.ref a0), none, some (.int x2), some (.ref as0), none] [.ref (hz h)] (nw h 7 0) nc ns P) : Gd X mX10_edition 48 [some (.ref a0), none, some (.int x2), none, none] [.ref as0] h (nc + 1) (ns + 9) P := by
  refine g_astore_n (r := (some (as0))) (L' := [some (.ref a0), none, some (.int x2), some (.ref as0), none]) dX10_edition_48 (by decide) rfl ?_
  refine g_new (c := 7) dX10_edition_49 (by decide) kw_362 kw_363 kw_100 ?_
  exact Gd.wk g ⟨rfl, ⟨rfl, ⟨rfl, trivial⟩⟩⟩
theorem bkX10_edition_65 {X : GX} {h : SH} {nc ns : Nat} {P : Out → SH → Prop} {a0 : Nat} {a3 : Nat} {xs0 : Int32} (kt : xs0 = 0 → Gd X mX10_edition 75 [some (.ref a0), none, none, some (.ref a3), none] [] (h) nc ns P) (kf : ¬ xs0 = 0 → Gd X mX10_edition 72 [none, none, none, none, some (.int xs0)] [] (h) nc ns P) : Gd X mX10_edition 65 [some (.ref a0), none, none, some (.ref a3), none] [.int xs0] h nc ns P := by
  refine g_istore (L' := [some (.ref a0), none, none, some (.ref a3), some (.int xs0)]) dX10_edition_65 (by decide) rfl ?_
  refine g_iload dX10_edition_67 rfl ?_
  exact g_if_eq (tgt := 75) dX10_edition_69 (by decide) (fun q => Gd.wk (kt q) ⟨rfl, ⟨rfl, trivial⟩⟩) (fun q => Gd.wk (kf q) ⟨rfl, trivial⟩)
theorem bkX10_edition_72 {X : GX} {h : SH} {nc ns : Nat} {P : Out → SH → Prop} {x4 : Int32} (hp : P (.inl (some (.int (x4)))) (h)) : Gd X mX10_edition 72 [none, none, none, none, some (.int x4)] [] h nc ns P := by
  refine g_iload dX10_edition_72 rfl ?_
  exact g_ireturn (st := []) dX10_edition_74 rfl rfl hp
theorem bkX10_edition_75 {X : GX} {h : SH} {nc ns : Nat} {P : Out → SH → Prop} {a0 : Nat} {a3 : Nat} (F0 : LX10 (Sk h) (a0)) (i1 : vp_in (hI h a0 3) 6) (F2 : LX3 (Sk h) (a3)) (g : Gd X mX10_edition 85 [some (.ref a0), none, none, some (.ref a3), none] [] (sA h (a0 + 2) ((hI h a0 3 : Int32).toNatClampNeg) (some (a3))) nc ns P) : Gd X mX10_edition 75 [some (.ref a0), none, none, some (.ref a3), none] [] h nc ns P := by
  refine g_aload_n dX10_edition_75 rfl ?_
  refine g_getAs (c := 10) (k := 2) (b := a0 + 2) dX10_edition_76 (by decide) (by decide) kw_242 rfl (LX10.o (h := h) F0) (LX10.r_editions (h := h) F0) ?_
  refine g_aload_n dX10_edition_79 rfl ?_
  refine g_getI (c := 10) (k := 3) dX10_edition_80 (by decide) (by decide) kw_243 rfl (LX10.o (h := h) F0) ?_
  refine g_aload_n dX10_edition_83 rfl ?_
  refine g_aastore (k := 24) dX10_edition_84 (by decide) (by decide) (LX10.a_editions (h := h) F0) (LX3.o (h := h) F2) i1 ?_
  exact Gd.wk g ⟨rfl, ⟨rfl, trivial⟩⟩
theorem bkX10_edition_100 {X : GX} {h : SH} {nc ns : Nat} {P : Out → SH → Prop} (hp : P (.inl (some (.int (0)))) (h)) : Gd X mX10_edition 100 [none, none, none, none, none] [] h nc ns P := by
  refine g_iconst (v := 0) dX10_edition_100 (by decide) ?_
  exact g_ireturn (st := []) dX10_edition_101 rfl rfl hp
theorem bkX10_edition_39 {X : GX} {h : SH} {nc ns : Nat} {P : Out → SH → Prop} {n1 s1 : Nat} {Q : SH → Prop} {a0 : Nat} {x1 : Int32} {x2 : Int32} {as0 : Nat} (F0 : LX10 (Sk h) (a0)) (hN : Cd X mX3_init [.ref as0, .int (hI h a0 3), .int x1] (h) n1 s1 (oV Q nX)) (g : ∀ t, Q t → Gd X mX10_edition 48 [some (.ref a0), none, some (.int x2), none, none] [.ref as0] (t) nc ns P) : Gd X mX10_edition 39 [some (.ref a0), some (.int x1), some (.int x2), none, none] [.ref as0] h (n1 + nc) (s1 + ns) P := by
  refine g_dup dX10_edition_39 rfl ?_
  refine g_aload_n dX10_edition_40 rfl ?_
  refine g_getI (c := 10) (k := 3) dX10_edition_41 (by decide) (by decide) kw_243 rfl (LX10.o (h := h) F0) ?_
  refine g_iload_n dX10_edition_44 rfl ?_
  exact g_callI [.int (hI h a0 3), .int x1] dX10_edition_45 mfX3_init rfl rfl ⟨by decide, by decide⟩ kw_295 kw_296 rfl (Nat.le_of_ble_eq_true rfl) (by intro x hx; cases hx) (Nat.le_of_ble_eq_true rfl) hN (fun _ _ q => q) (oV_go (G := fun a b => Gd X mX10_edition 48 _ a b nc ns P) (fun t q => Gd.wk (g t q) ⟨rfl, ⟨rfl, trivial⟩⟩))
theorem bkX10_edition_52 {X : GX} {h : SH} {nc ns : Nat} {P : Out → SH → Prop} {n1 s1 : Nat} {Q : SH → Prop} {a0 : Nat} {x2 : Int32} {a3 : Nat} {as0 : Nat} (F0 : LX10 (Sk h) (a0)) (hN : Cd X mX7_init [.ref as0, .ref (a0 + 1), .int x2, .ref a3] (h) n1 s1 (oV Q nX)) (g : ∀ t, Q t → Gd X mX10_edition 62 [some (.ref a0), none, none, some (.ref a3), none] [.ref as0] (t) nc ns P) : Gd X mX10_edition 52 [some (.ref a0), none, some (.int x2), some (.ref a3), none] [.ref as0] h (n1 + nc) (s1 + ns) P := by
  refine g_dup dX10_edition_52 rfl ?_
  refine g_aload_n dX10_edition_53 rfl ?_
  refine g_getAs (c := 10) (k := 0) (b := a0 + 1) dX10_edition_54 (by decide) (by decide) kw_240 rfl (LX10.o (h := h) F0) (LX10.r_tape (h := h) F0) ?_
  refine g_iload_n dX10_edition_57 rfl ?_
  refine g_aload_n dX10_edition_58 rfl ?_
  exact g_callI [.ref (a0 + 1), .int x2, .ref a3] dX10_edition_59 mfX7_init rfl rfl ⟨by decide, by decide⟩ kw_364 kw_365 rfl (Nat.le_of_ble_eq_true rfl) (by intro x hx; cases hx) (Nat.le_of_ble_eq_true rfl) hN (fun _ _ q => q) (oV_go (G := fun a b => Gd X mX10_edition 62 _ a b nc ns P) (fun t q => Gd.wk (g t q) ⟨rfl, ⟨rfl, trivial⟩⟩))
theorem bkX10_edition_85 {X : GX} {h : SH} {nc ns : Nat} {P : Out → SH → Prop} {Q : SH → Prop} {a0 : Nat} {a3 : Nat} (F0 : LX10 (Sk h) (a0)) (hN : Cd X mX10_takeInHand [.ref a0, .ref a3] (sI h a0 3 (hI h a0 3 + 1)) 0 0 (oV Q nX)) (g : ∀ t, Q t → Gd X mX10_edition 100 [none, none, none, none, none] [] (t) nc ns P) : Gd X mX10_edition 85 [some (.ref a0), none, none, some (.ref a3), none] [] h nc ns P := by
  refine g_aload_n dX10_edition_85 rfl ?_
  refine g_dup dX10_edition_86 rfl ?_
  refine g_getI (c := 10) (k := 3) dX10_edition_87 (by decide) (by decide) kw_243 rfl (LX10.o (h := h) F0) ?_
  refine g_iconst (v := 1) dX10_edition_90 (by decide) ?_
  refine g_iadd dX10_edition_91 ?_
  refine g_put (c := 10) (k := 3) (h1 := sI h a0 3 (hI h a0 3 + 1)) dX10_edition_92 (by decide) (by decide) kw_243 rfl (LX10.o (h := h) F0) rfl rfl (Put.I rfl) ?_
  refine g_aload_n dX10_edition_95 rfl ?_
  refine g_aload_n dX10_edition_96 rfl ?_
  refine Gd.z ?_
  exact g_callV (k := 10) [.ref a3] dX10_edition_97 mfX10_takeInHand ⟨by decide, by decide⟩ kw_882 kw_884 kw_29 rfl (by decide) (Nat.le_of_ble_eq_true rfl) (by intro x hx; cases hx) (LX10.o (h := sI h a0 3 (hI h a0 3 + 1)) F0) (Nat.le_of_ble_eq_true rfl) hN (fun _ _ q => q.elim) (oV_go (G := fun a b => Gd X mX10_edition 100 _ a b nc ns P) (fun t q => Gd.wk (g t q) trivial))
theorem bkX10_take_0 {X : GX} {h : SH} {nc ns : Nat} {P : Out → SH → Prop} {Q : Option Nat → SH → Prop} {a0 : Nat} {x1 : Int32} (F0 : LX10 (Sk h) (a0)) (hN : Cd X mX10_editionAt [.ref a0, .int x1] (h) 0 0 (oA Q nX)) (g : ∀ r t, Q r t → Gd X mX10_take 5 [some (.ref a0), none, none] [va_rf r] (t) nc ns P) : Gd X mX10_take 0 [some (.ref a0), some (.int x1), none] [] h nc ns P := by
  refine g_aload_n dX10_take_0 rfl ?_
  refine g_iload_n dX10_take_1 rfl ?_
  refine Gd.z ?_
  exact g_callV (k := 10) [.int x1] dX10_take_2 mfX10_editionAt ⟨by decide, by decide⟩ kw_290 kw_292 kw_2 rfl (by decide) (Nat.le_of_ble_eq_true rfl) (by intro x hx; cases hx) (LX10.o (h := h) F0) (Nat.le_of_ble_eq_true rfl) hN (fun _ _ q => q.elim) (oA_go (G := fun a b => Gd X mX10_take 5 _ a b nc ns P) (fun r t q => Gd.wk (g r t q) ⟨rfl, trivial⟩))
theorem bkX10_take_5 {X : GX} {h : SH} {nc ns : Nat} {P : Out → SH → Prop} {a0 : Nat} {rs0 : Option Nat} (kt : ∀ z, (rs0) = some z → Gd X mX10_take 12 [some (.ref a0), none, some (va_rf rs0)] [] (h) nc ns P) (kf : (rs0) = none → Gd X mX10_take 10 [none, none, none] [] (h) nc ns P) : Gd X mX10_take 5 [some (.ref a0), none, none] [va_rf rs0] h nc ns P := by
  refine g_astore_n (r := (rs0)) (L' := [some (.ref a0), none, some (va_rf rs0)]) dX10_take_5 (by decide) rfl ?_
  refine g_aload_nq (r := (rs0)) dX10_take_6 rfl ?_
  exact g_ifnonnull (r := (rs0)) (tgt := 12) dX10_take_7 (by decide) (fun z q => Gd.wk (kt z q) ⟨rfl, ⟨rfl, trivial⟩⟩) (fun q => Gd.wk (kf q) trivial)
theorem bkX10_take_10 {X : GX} {h : SH} {nc ns : Nat} {P : Out → SH → Prop} (hp : P (.inl (some (.int (0)))) (h)) : Gd X mX10_take 10 [none, none, none] [] h nc ns P := by
  refine g_iconst (v := 0) dX10_take_10 (by decide) ?_
  exact g_ireturn (st := []) dX10_take_11 rfl (bl_n (by decide)) hp
theorem bkX10_take_12 {X : GX} {h : SH} {nc ns : Nat} {P : Out → SH → Prop} {Q : SH → Prop} {a0 : Nat} {a2 : Nat} (F0 : LX10 (Sk h) (a0)) (hN : Cd X mX10_takeInHand [.ref a0, .ref a2] (h) 0 0 (oV Q nX)) (g : ∀ t, Q t → Gd X mX10_take 17 [none, none, none] [] (t) nc ns P) : Gd X mX10_take 12 [some (.ref a0), none, some (.ref a2)] [] h nc ns P := by
  refine g_aload_n dX10_take_12 rfl ?_
  refine g_aload_n dX10_take_13 rfl ?_
  refine Gd.z ?_
  exact g_callV (k := 10) [.ref a2] dX10_take_14 mfX10_takeInHand ⟨by decide, by decide⟩ kw_882 kw_884 kw_29 rfl (by decide) (Nat.le_of_ble_eq_true rfl) (by intro x hx; cases hx) (LX10.o (h := h) F0) (Nat.le_of_ble_eq_true rfl) hN (fun _ _ q => q.elim) (oV_go (G := fun a b => Gd X mX10_take 17 _ a b nc ns P) (fun t q => Gd.wk (g t q) trivial))
theorem bkX10_take_17 {X : GX} {h : SH} {nc ns : Nat} {P : Out → SH → Prop} (hp : P (.inl (some (.int (1)))) (h)) : Gd X mX10_take 17 [none, none, none] [] h nc ns P := by
  refine g_iconst (v := 1) dX10_take_17 (by decide) ?_
  exact g_ireturn (st := []) dX10_take_18 rfl (bl_n (by decide)) hp
theorem bkX10_inForce_0 {X : GX} {h : SH} {nc ns : Nat} {P : Out → SH → Prop} {Q : Int32 → SH → Prop} {a0 : Nat} {x1 : Int32} (hN : Cd X mX10_isDay [.int x1] (h) 0 0 (oI Q nX)) (g : ∀ r t, Q r t → Gd X mX10_inForce 4 [some (.ref a0), some (.int x1), none, none] [.int r] (t) nc ns P) : Gd X mX10_inForce 0 [some (.ref a0), some (.int x1), none, none] [] h nc ns P := by
  refine g_iload_n dX10_inForce_0 rfl ?_
  refine Gd.z ?_
  exact g_callS [.int x1] dX10_inForce_1 mfX10_isDay ⟨by decide, by decide⟩ kw_283 kw_284 rfl (Nat.le_of_ble_eq_true rfl) (by intro x hx; cases hx) (Nat.le_of_ble_eq_true rfl) hN (fun _ _ q => q.elim) (oI_go (G := fun a b => Gd X mX10_inForce 4 _ a b nc ns P) (fun r t q => Gd.wk (g r t q) ⟨rfl, ⟨rfl, trivial⟩⟩))
theorem bkX10_inForce_4 {X : GX} {h : SH} {nc ns : Nat} {P : Out → SH → Prop} {a0 : Nat} {x1 : Int32} {xs0 : Int32} (kt : ¬ xs0 = 0 → Gd X mX10_inForce 9 [some (.ref a0), some (.int x1), none, none] [] (h) nc ns P) (kf : xs0 = 0 → Gd X mX10_inForce 7 [none, none, none, none] [] (h) nc ns P) : Gd X mX10_inForce 4 [some (.ref a0), some (.int x1), none, none] [.int xs0] h nc ns P := by
  exact g_if_ne (tgt := 9) dX10_inForce_4 (by decide) (fun q => Gd.wk (kt q) ⟨rfl, ⟨rfl, trivial⟩⟩) (fun q => Gd.wk (kf q) trivial)
theorem bkX10_inForce_7 {X : GX} {h : SH} {nc ns : Nat} {P : Out → SH → Prop} (hp : P (.inl (some (.int ((-1))))) (h)) : Gd X mX10_inForce 7 [none, none, none, none] [] h nc ns P := by
  refine g_iconst (v := (-1)) dX10_inForce_7 (by decide) ?_
  exact g_ireturn (st := []) dX10_inForce_8 rfl rfl hp
theorem bkX10_inForce_9 {X : GX} {h : SH} {nc ns : Nat} {P : Out → SH → Prop} {a0 : Nat} {x1 : Int32} (F0 : LX10 (Sk h) (a0)) (g : Gd X mX10_inForce 16 [some (.ref a0), some (.int x1), some (.int (hI h a0 3 - 1)), none] [] (h) nc ns P) : Gd X mX10_inForce 9 [some (.ref a0), some (.int x1), none, none] [] h nc ns P := by
  refine g_aload_n dX10_inForce_9 rfl ?_
  refine g_getI (c := 10) (k := 3) dX10_inForce_10 (by decide) (by decide) kw_243 rfl (LX10.o (h := h) F0) ?_
  refine g_iconst (v := 1) dX10_inForce_13 (by decide) ?_
  refine g_isub dX10_inForce_14 ?_
  refine g_istore_n (L' := [some (.ref a0), some (.int x1), some (.int (hI h a0 3 - 1)), none]) dX10_inForce_15 (by decide) rfl ?_
  exact Gd.wk g ⟨rfl, ⟨rfl, ⟨rfl, trivial⟩⟩⟩
theorem bkX10_inForce_16 {X : GX} {h : SH} {nc ns : Nat} {P : Out → SH → Prop} {a0 : Nat} {x1 : Int32} {x2 : Int32} (kt : x2 < 0 → Gd X mX10_inForce 51 [none, none, none, none] [] (h) nc ns P) (kf : ¬ x2 < 0 → Gd X mX10_inForce 20 [some (.ref a0), some (.int x1), some (.int x2), none] [] (h) nc ns P) : Gd X mX10_inForce 16 [some (.ref a0), some (.int x1), some (.int x2), none] [] h nc ns P := by
  refine g_iload_n dX10_inForce_16 rfl ?_
  exact g_if_lt (tgt := 51) dX10_inForce_17 (by decide) (fun q => Gd.wk (kt q) trivial) (fun q => Gd.wk (kf q) ⟨rfl, ⟨rfl, ⟨rfl, trivial⟩⟩⟩)
theorem bkX10_inForce_20 {X : GX} {h : SH} {nc ns : Nat} {P : Out → SH → Prop} {Q : Option Nat → SH → Prop} {a0 : Nat} {x1 : Int32} {x2 : Int32} (F0 : LX10 (Sk h) (a0)) (hN : Cd X mX10_editionAt [.ref a0, .int x2] (h) 0 0 (oA Q nX)) (g : ∀ r t, Q r t → Gd X mX10_inForce 25 [some (.ref a0), some (.int x1), some (.int x2), none] [va_rf r] (t) nc ns P) : Gd X mX10_inForce 20 [some (.ref a0), some (.int x1), some (.int x2), none] [] h nc ns P := by
  refine g_aload_n dX10_inForce_20 rfl ?_
  refine g_iload_n dX10_inForce_21 rfl ?_
  refine Gd.z ?_
  exact g_callV (k := 10) [.int x2] dX10_inForce_22 mfX10_editionAt ⟨by decide, by decide⟩ kw_290 kw_292 kw_2 rfl (by decide) (Nat.le_of_ble_eq_true rfl) (by intro x hx; cases hx) (LX10.o (h := h) F0) (Nat.le_of_ble_eq_true rfl) hN (fun _ _ q => q.elim) (oA_go (G := fun a b => Gd X mX10_inForce 25 _ a b nc ns P) (fun r t q => Gd.wk (g r t q) ⟨rfl, ⟨rfl, ⟨rfl, trivial⟩⟩⟩))
theorem bkX10_inForce_25 {X : GX} {h : SH} {nc ns : Nat} {P : Out → SH → Prop} {a0 : Nat} {x1 : Int32} {x2 : Int32} {rs0 : Option Nat} (kt : (rs0) = none → Gd X mX10_inForce 45 [some (.ref a0), some (.int x1), some (.int x2), none] [] (h) nc ns P) (kf : ∀ z, (rs0) = some z → Gd X mX10_inForce 30 [some (.ref a0), some (.int x1), some (.int x2), some (va_rf rs0)] [] (h) nc ns P) : Gd X mX10_inForce 25 [some (.ref a0), some (.int x1), some (.int x2), none] [va_rf rs0] h nc ns P := by
  refine g_astore_n (r := (rs0)) (L' := [some (.ref a0), some (.int x1), some (.int x2), some (va_rf rs0)]) dX10_inForce_25 (by decide) rfl ?_
  refine g_aload_nq (r := (rs0)) dX10_inForce_26 rfl ?_
  exact g_ifnull (r := (rs0)) (tgt := 45) dX10_inForce_27 (by decide) (fun q => Gd.wk (kt q) ⟨rfl, ⟨rfl, ⟨rfl, trivial⟩⟩⟩) (fun z q => Gd.wk (kf z q) ⟨rfl, ⟨rfl, ⟨rfl, ⟨rfl, trivial⟩⟩⟩⟩)
theorem bkX10_inForce_30 {X : GX} {h : SH} {nc ns : Nat} {P : Out → SH → Prop} {a0 : Nat} {x1 : Int32} {x2 : Int32} {a3 : Nat} (F0 : LX3 (Sk h) (a3)) (kt : x1 < hI h a3 1 → Gd X mX10_inForce 45 [some (.ref a0), some (.int x1), some (.int x2), none] [] (h) nc ns P) (kf : ¬ x1 < hI h a3 1 → Gd X mX10_inForce 38 [some (.ref a0), none, some (.int x2), some (.ref a3)] [] (h) nc ns P) : Gd X mX10_inForce 30 [some (.ref a0), some (.int x1), some (.int x2), some (.ref a3)] [] h nc ns P := by
  refine g_aload_n dX10_inForce_30 rfl ?_
  refine g_getNI (c := 3) (k := 1) dX10_inForce_31 (by decide) (by decide) kn_304 rfl (LX3.o (h := h) F0) ?_
  refine g_iload_n dX10_inForce_34 rfl ?_
  exact g_icmp_gt (tgt := 45) dX10_inForce_35 (by decide) (fun q => Gd.wk (kt q) ⟨rfl, ⟨rfl, ⟨rfl, trivial⟩⟩⟩) (fun q => Gd.wk (kf q) ⟨rfl, ⟨rfl, ⟨rfl, trivial⟩⟩⟩)
theorem bkX10_inForce_38 {X : GX} {h : SH} {nc ns : Nat} {P : Out → SH → Prop} {Q : SH → Prop} {a0 : Nat} {x2 : Int32} {a3 : Nat} (F0 : LX10 (Sk h) (a0)) (hN : Cd X mX10_takeInHand [.ref a0, .ref a3] (h) 0 0 (oV Q nX)) (g : ∀ t, Q t → Gd X mX10_inForce 43 [none, none, some (.int x2), none] [] (t) nc ns P) : Gd X mX10_inForce 38 [some (.ref a0), none, some (.int x2), some (.ref a3)] [] h nc ns P := by
  refine g_aload_n dX10_inForce_38 rfl ?_
  refine g_aload_n dX10_inForce_39 rfl ?_
  refine Gd.z ?_
  exact g_callV (k := 10) [.ref a3] dX10_inForce_40 mfX10_takeInHand ⟨by decide, by decide⟩ kw_882 kw_884 kw_29 rfl (by decide) (Nat.le_of_ble_eq_true rfl) (by intro x hx; cases hx) (LX10.o (h := h) F0) (Nat.le_of_ble_eq_true rfl) hN (fun _ _ q => q.elim) (oV_go (G := fun a b => Gd X mX10_inForce 43 _ a b nc ns P) (fun t q => Gd.wk (g t q) ⟨rfl, trivial⟩))
theorem bkX10_inForce_43 {X : GX} {h : SH} {nc ns : Nat} {P : Out → SH → Prop} {x2 : Int32} (hp : P (.inl (some (.int (x2)))) (h)) : Gd X mX10_inForce 43 [none, none, some (.int x2), none] [] h nc ns P := by
  refine g_iload_n dX10_inForce_43 rfl ?_
  exact g_ireturn (st := []) dX10_inForce_44 rfl rfl hp
theorem bkX10_inForce_45 {X : GX} {h : SH} {nc ns : Nat} {P : Out → SH → Prop} {a0 : Nat} {x1 : Int32} {x2 : Int32} (g : Gd X mX10_inForce 16 [some (.ref a0), some (.int x1), some (.int (x2 + (-1))), none] [] (h) nc ns P) : Gd X mX10_inForce 45 [some (.ref a0), some (.int x1), some (.int x2), none] [] h nc ns P := by
  refine g_iinc (v := x2 + (-1)) (L' := [some (.ref a0), some (.int x1), some (.int (x2 + (-1))), none]) dX10_inForce_45 rfl rfl (by decide) rfl ?_
  refine g_goto (tgt := 16) dX10_inForce_48 (by decide) ?_
  exact Gd.wk g ⟨rfl, ⟨rfl, ⟨rfl, trivial⟩⟩⟩
theorem bkX10_inForce_51 {X : GX} {h : SH} {nc ns : Nat} {P : Out → SH → Prop} (hp : P (.inl (some (.int ((-1))))) (h)) : Gd X mX10_inForce 51 [none, none, none, none] [] h nc ns P := by
  refine g_iconst (v := (-1)) dX10_inForce_51 (by decide) ?_
  exact g_ireturn (st := []) dX10_inForce_52 rfl rfl hp
theorem bkX10_fact_0 {X : GX} {h : SH} {nc ns : Nat} {P : Out → SH → Prop} {a0 : Nat} {x1 : Int32} {x2 : Int32} (F0 : LX10 (Sk h) (a0)) (kt : (hA h a0 4) = none → Gd X mX10_fact 44 [none, none, none] [] (h) nc ns P) (kf : ∀ z, (hA h a0 4) = some z → Gd X mX10_fact 7 [some (.ref a0), some (.int x1), some (.int x2)] [] (h) nc ns P) : Gd X mX10_fact 0 [some (.ref a0), some (.int x1), some (.int x2)] [] h nc ns P := by
  refine g_aload_n dX10_fact_0 rfl ?_
  refine g_getA (c := 10) (k := 4) dX10_fact_1 (by decide) (by decide) kw_244 rfl (LX10.o (h := h) F0) ?_
  exact g_ifnull (r := (hA h a0 4)) (tgt := 44) dX10_fact_4 (by decide) (fun q => Gd.wk (kt q) trivial) (fun z q => Gd.wk (kf z q) ⟨rfl, ⟨rfl, ⟨rfl, trivial⟩⟩⟩)
theorem bkX10_fact_7 {X : GX} {h : SH} {nc ns : Nat} {P : Out → SH → Prop} {Q : Int32 → SH → Prop} {a0 : Nat} {x1 : Int32} {x2 : Int32} {b3 : Nat} (F0 : LX10 (Sk h) (a0)) (q1 : hA h a0 4 = some b3) (F2 : LX3 (Sk h) (b3)) (hN : Cd X mX3_hasFact [.ref b3, .int x1] (h) 0 0 (oI Q nX)) (g : ∀ r t, Q r t → Gd X mX10_fact 15 [some (.ref a0), some (.int x1), some (.int x2)] [.int r] (t) nc ns P) : Gd X mX10_fact 7 [some (.ref a0), some (.int x1), some (.int x2)] [] h nc ns P := by
  refine g_aload_n dX10_fact_7 rfl ?_
  refine g_getAs (c := 10) (k := 4) (b := b3) dX10_fact_8 (by decide) (by decide) kw_244 rfl (LX10.o (h := h) F0) q1 ?_
  refine g_iload_n dX10_fact_11 rfl ?_
  refine Gd.z ?_
  exact g_callV (k := 3) [.int x1] dX10_fact_12 mfX3_hasFact ⟨by decide, by decide⟩ kw_903 kw_904 kw_905 rfl (by decide) (Nat.le_of_ble_eq_true rfl) (by intro x hx; cases hx) (LX3.o (h := h) F2) (Nat.le_of_ble_eq_true rfl) hN (fun _ _ q => q.elim) (oI_go (G := fun a b => Gd X mX10_fact 15 _ a b nc ns P) (fun r t q => Gd.wk (g r t q) ⟨rfl, ⟨rfl, ⟨rfl, trivial⟩⟩⟩))
theorem bkX10_fact_15 {X : GX} {h : SH} {nc ns : Nat} {P : Out → SH → Prop} {a0 : Nat} {x1 : Int32} {x2 : Int32} {xs0 : Int32} (kt : xs0 = 0 → Gd X mX10_fact 44 [none, none, none] [] (h) nc ns P) (kf : ¬ xs0 = 0 → Gd X mX10_fact 18 [some (.ref a0), some (.int x1), some (.int x2)] [] (h) nc ns P) : Gd X mX10_fact 15 [some (.ref a0), some (.int x1), some (.int x2)] [.int xs0] h nc ns P := by
  exact g_if_eq (tgt := 44) dX10_fact_15 (by decide) (fun q => Gd.wk (kt q) trivial) (fun q => Gd.wk (kf q) ⟨rfl, ⟨rfl, ⟨rfl, trivial⟩⟩⟩)
theorem bkX10_fact_18 {X : GX} {h : SH} {nc ns : Nat} {P : Out → SH → Prop} {a0 : Nat} {x1 : Int32} {x2 : Int32} {b3 : Nat} (F0 : LX10 (Sk h) (a0)) (q1 : hA h a0 4 = some b3) (F2 : LX3 (Sk h) (b3)) (i3 : vp_in (x1) 8) (kt : x2 < (hI h (b3 + 2) ((x1 : Int32).toNatClampNeg)) → Gd X mX10_fact 44 [none, none, none] [] (h) nc ns P) (kf : ¬ x2 < (hI h (b3 + 2) ((x1 : Int32).toNatClampNeg)) → Gd X mX10_fact 31 [some (.ref a0), some (.int x1), some (.int x2)] [] (h) nc ns P) : Gd X mX10_fact 18 [some (.ref a0), some (.int x1), some (.int x2)] [] h nc ns P := by
  refine g_iload_n dX10_fact_18 rfl ?_
  refine g_aload_n dX10_fact_19 rfl ?_
  refine g_getAs (c := 10) (k := 4) (b := b3) dX10_fact_20 (by decide) (by decide) kw_244 rfl (LX10.o (h := h) F0) q1 ?_
  refine g_getNAs (c := 3) (k := 4) (b := b3 + 2) dX10_fact_23 (by decide) (by decide) kn_312 rfl (LX3.o (h := h) F2) (LX3.r_least (h := h) F2) ?_
  refine g_iload_n dX10_fact_26 rfl ?_
  refine g_iaload dX10_fact_27 (LX3.a_least (h := h) F2) i3 ?_
  exact g_icmp_lt (tgt := 44) dX10_fact_28 (by decide) (fun q => Gd.wk (kt q) trivial) (fun q => Gd.wk (kf q) ⟨rfl, ⟨rfl, ⟨rfl, trivial⟩⟩⟩)
theorem bkX10_fact_31 {X : GX} {h : SH} {nc ns : Nat} {P : Out → SH → Prop} {a0 : Nat} {x1 : Int32} {x2 : Int32} {b3 : Nat} (F0 : LX10 (Sk h) (a0)) (q1 : hA h a0 4 = some b3) (F2 : LX3 (Sk h) (b3)) (i3 : vp_in (x1) 8) (kt : x2 ≤ (hI h (b3 + 3) ((x1 : Int32).toNatClampNeg)) → Gd X mX10_fact 46 [some (.ref a0), some (.int x1), some (.int x2)] [] (h) nc ns P) (kf : ¬ x2 ≤ (hI h (b3 + 3) ((x1 : Int32).toNatClampNeg)) → Gd X mX10_fact 44 [none, none, none] [] (h) nc ns P) : Gd X mX10_fact 31 [some (.ref a0), some (.int x1), some (.int x2)] [] h nc ns P := by
  refine g_iload_n dX10_fact_31 rfl ?_
  refine g_aload_n dX10_fact_32 rfl ?_
  refine g_getAs (c := 10) (k := 4) (b := b3) dX10_fact_33 (by decide) (by decide) kw_244 rfl (LX10.o (h := h) F0) q1 ?_
  refine g_getNAs (c := 3) (k := 5) (b := b3 + 3) dX10_fact_36 (by decide) (by decide) kn_314 rfl (LX3.o (h := h) F2) (LX3.r_greatest (h := h) F2) ?_
  refine g_iload_n dX10_fact_39 rfl ?_
  refine g_iaload dX10_fact_40 (LX3.a_greatest (h := h) F2) i3 ?_
  exact g_icmp_le (tgt := 46) dX10_fact_41 (by decide) (fun q => Gd.wk (kt q) ⟨rfl, ⟨rfl, ⟨rfl, trivial⟩⟩⟩) (fun q => Gd.wk (kf q) trivial)
theorem bkX10_fact_44 {X : GX} {h : SH} {nc ns : Nat} {P : Out → SH → Prop} (hp : P (.inl (some (.int (0)))) (h)) : Gd X mX10_fact 44 [none, none, none] [] h nc ns P := by
  refine g_iconst (v := 0) dX10_fact_44 (by decide) ?_
  exact g_ireturn (st := []) dX10_fact_45 rfl (bl_n (by decide)) hp
theorem bkX10_fact_46 {X : GX} {h : SH} {nc ns : Nat} {P : Out → SH → Prop} {a0 : Nat} {x1 : Int32} {x2 : Int32} (F0 : LX10 (Sk h) (a0)) (i1 : vp_in (x1) 8) (hp : P (.inl (some (.int (1)))) (sI h (a0 + 3 + 1) ((x1 : Int32).toNatClampNeg) x2)) : Gd X mX10_fact 46 [some (.ref a0), some (.int x1), some (.int x2)] [] h nc ns P := by
  refine g_aload_n dX10_fact_46 rfl ?_
  refine g_getAs (c := 10) (k := 5) (b := a0 + 3) dX10_fact_47 (by decide) (by decide) kw_245 rfl (LX10.o (h := h) F0) (LX10.r_facts (h := h) F0) ?_
  refine g_getNAs (c := 1) (k := 0) (b := a0 + 3 + 1) dX10_fact_50 (by decide) (by decide) kn_136 rfl (LX1.o (h := h) (LX10.l_facts F0)) (LX1.r_numbers (h := h) (LX10.l_facts F0)) ?_
  refine g_iload_n dX10_fact_53 rfl ?_
  refine g_iload_n dX10_fact_54 rfl ?_
  refine g_iastore dX10_fact_55 (LX1.a_numbers (h := h) (LX10.l_facts F0)) i1 ?_
  refine g_iconst (v := 1) dX10_fact_56 (by decide) ?_
  exact g_ireturn (st := []) dX10_fact_57 rfl (bl_n (by decide)) hp
theorem bkX10_world_0 {X : GX} {h : SH} {nc ns : Nat} {P : Out → SH → Prop} {a0 : Nat} {x1 : Int32} (F0 : LX10 (Sk h) (a0)) (kt : (hA h a0 4) = none → Gd X mX10_world 22 [none, none] [] (h) nc ns P) (kf : ∀ z, (hA h a0 4) = some z → Gd X mX10_world 7 [some (.ref a0), some (.int x1)] [] (h) nc ns P) : Gd X mX10_world 0 [some (.ref a0), some (.int x1)] [] h nc ns P := by
  refine g_aload_n dX10_world_0 rfl ?_
  refine g_getA (c := 10) (k := 4) dX10_world_1 (by decide) (by decide) kw_244 rfl (LX10.o (h := h) F0) ?_
  exact g_ifnull (r := (hA h a0 4)) (tgt := 22) dX10_world_4 (by decide) (fun q => Gd.wk (kt q) trivial) (fun z q => Gd.wk (kf z q) ⟨rfl, ⟨rfl, trivial⟩⟩)
theorem bkX10_world_7 {X : GX} {h : SH} {nc ns : Nat} {P : Out → SH → Prop} {a0 : Nat} {x1 : Int32} (kt : x1 < 0 → Gd X mX10_world 22 [none, none] [] (h) nc ns P) (kf : ¬ x1 < 0 → Gd X mX10_world 11 [some (.ref a0), some (.int x1)] [] (h) nc ns P) : Gd X mX10_world 7 [some (.ref a0), some (.int x1)] [] h nc ns P := by
  refine g_iload_n dX10_world_7 rfl ?_
  exact g_if_lt (tgt := 22) dX10_world_8 (by decide) (fun q => Gd.wk (kt q) trivial) (fun q => Gd.wk (kf q) ⟨rfl, ⟨rfl, trivial⟩⟩)
theorem bkX10_world_11 {X : GX} {h : SH} {nc ns : Nat} {P : Out → SH → Prop} {a0 : Nat} {x1 : Int32} {b2 : Nat} (F0 : LX10 (Sk h) (a0)) (q1 : hA h a0 4 = some b2) (F2 : LX3 (Sk h) (b2)) (kt : x1 < hI h b2 6 → Gd X mX10_world 24 [some (.ref a0), some (.int x1)] [] (h) nc ns P) (kf : ¬ x1 < hI h b2 6 → Gd X mX10_world 22 [none, none] [] (h) nc ns P) : Gd X mX10_world 11 [some (.ref a0), some (.int x1)] [] h nc ns P := by
  refine g_iload_n dX10_world_11 rfl ?_
  refine g_aload_n dX10_world_12 rfl ?_
  refine g_getAs (c := 10) (k := 4) (b := b2) dX10_world_13 (by decide) (by decide) kw_244 rfl (LX10.o (h := h) F0) q1 ?_
  refine g_getNI (c := 3) (k := 6) dX10_world_16 (by decide) (by decide) kn_317 rfl (LX3.o (h := h) F2) ?_
  exact g_icmp_lt (tgt := 24) dX10_world_19 (by decide) (fun q => Gd.wk (kt q) ⟨rfl, ⟨rfl, trivial⟩⟩) (fun q => Gd.wk (kf q) trivial)
theorem bkX10_world_22 {X : GX} {h : SH} {nc ns : Nat} {P : Out → SH → Prop} (hp : P (.inl (some (.int (0)))) (h)) : Gd X mX10_world 22 [none, none] [] h nc ns P := by
  refine g_iconst (v := 0) dX10_world_22 (by decide) ?_
  exact g_ireturn (st := []) dX10_world_23 rfl (bl_n (by decide)) hp
theorem bkX10_world_24 {X : GX} {h : SH} {nc ns : Nat} {P : Out → SH → Prop} {Q : SH → Prop} {a0 : Nat} {x1 : Int32} {b2 : Nat} (F0 : LX10 (Sk h) (a0)) (q1 : hA h a0 4 = some b2) (hN : Cd X mX1_setWorld [.ref (a0 + 3), .ref b2, .int x1] (h) 0 0 (oV Q nX)) (g : ∀ t, Q t → Gd X mX10_world 36 [none, none] [] (t) nc ns P) : Gd X mX10_world 24 [some (.ref a0), some (.int x1)] [] h nc ns P := by
  refine g_aload_n dX10_world_24 rfl ?_
  refine g_getAs (c := 10) (k := 5) (b := a0 + 3) dX10_world_25 (by decide) (by decide) kw_245 rfl (LX10.o (h := h) F0) (LX10.r_facts (h := h) F0) ?_
  refine g_aload_n dX10_world_28 rfl ?_
  refine g_getAs (c := 10) (k := 4) (b := b2) dX10_world_29 (by decide) (by decide) kw_244 rfl (LX10.o (h := h) F0) q1 ?_
  refine g_iload_n dX10_world_32 rfl ?_
  refine Gd.z ?_
  exact g_callV (k := 1) [.ref b2, .int x1] dX10_world_33 mfX1_setWorld ⟨by decide, by decide⟩ kw_886 kw_887 kw_888 rfl (by decide) (Nat.le_of_ble_eq_true rfl) (by intro x hx; cases hx) (LX1.o (h := h) (LX10.l_facts F0)) (Nat.le_of_ble_eq_true rfl) hN (fun _ _ q => q.elim) (oV_go (G := fun a b => Gd X mX10_world 36 _ a b nc ns P) (fun t q => Gd.wk (g t q) trivial))
theorem bkX10_world_36 {X : GX} {h : SH} {nc ns : Nat} {P : Out → SH → Prop} (hp : P (.inl (some (.int (1)))) (h)) : Gd X mX10_world 36 [none, none] [] h nc ns P := by
  refine g_iconst (v := 1) dX10_world_36 (by decide) ?_
  exact g_ireturn (st := []) dX10_world_37 rfl (bl_n (by decide)) hp
theorem bkX10_free_0 {X : GX} {h : SH} {nc ns : Nat} {P : Out → SH → Prop} {Q : Int32 → SH → Prop} {a0 : Nat} {x1 : Int32} {x2 : Int32} (hN : Cd X mX10_isDay [.int x1] (h) 0 0 (oI Q nX)) (g : ∀ r t, Q r t → Gd X mX10_free 4 [some (.ref a0), some (.int x1), some (.int x2), none] [.int r] (t) nc ns P) : Gd X mX10_free 0 [some (.ref a0), some (.int x1), some (.int x2), none] [] h nc ns P := by
  refine g_iload_n dX10_free_0 rfl ?_
  refine Gd.z ?_
  exact g_callS [.int x1] dX10_free_1 mfX10_isDay ⟨by decide, by decide⟩ kw_283 kw_284 rfl (Nat.le_of_ble_eq_true rfl) (by intro x hx; cases hx) (Nat.le_of_ble_eq_true rfl) hN (fun _ _ q => q.elim) (oI_go (G := fun a b => Gd X mX10_free 4 _ a b nc ns P) (fun r t q => Gd.wk (g r t q) ⟨rfl, ⟨rfl, ⟨rfl, trivial⟩⟩⟩))
theorem bkX10_free_4 {X : GX} {h : SH} {nc ns : Nat} {P : Out → SH → Prop} {a0 : Nat} {x1 : Int32} {x2 : Int32} {xs0 : Int32} (kt : ¬ xs0 = 0 → Gd X mX10_free 9 [some (.ref a0), some (.int x1), some (.int x2), none] [] (h) nc ns P) (kf : xs0 = 0 → Gd X mX10_free 7 [none, none, none, none] [] (h) nc ns P) : Gd X mX10_free 4 [some (.ref a0), some (.int x1), some (.int x2), none] [.int xs0] h nc ns P := by
  exact g_if_ne (tgt := 9) dX10_free_4 (by decide) (fun q => Gd.wk (kt q) ⟨rfl, ⟨rfl, ⟨rfl, trivial⟩⟩⟩) (fun q => Gd.wk (kf q) trivial)
theorem bkX10_free_7 {X : GX} {h : SH} {nc ns : Nat} {P : Out → SH → Prop} (hp : P (.inl (some (.int (0)))) (h)) : Gd X mX10_free 7 [none, none, none, none] [] h nc ns P := by
  refine g_iconst (v := 0) dX10_free_7 (by decide) ?_
  exact g_ireturn (st := []) dX10_free_8 rfl (bl_n (by decide)) hp
theorem bkX10_free_9 {X : GX} {h : SH} {nc ns : Nat} {P : Out → SH → Prop} {a0 : Nat} {x1 : Int32} {x2 : Int32} (kt : x2 = 0 → Gd X mX10_free 24 [some (.ref a0), some (.int x1), none, none] [] (h) nc ns P) (kf : ¬ x2 = 0 → Gd X mX10_free 13 [some (.ref a0), some (.int x1), none, none] [] (h) nc ns P) : Gd X mX10_free 9 [some (.ref a0), some (.int x1), some (.int x2), none] [] h nc ns P := by
  refine g_iload_n dX10_free_9 rfl ?_
  exact g_if_eq (tgt := 24) dX10_free_10 (by decide) (fun q => Gd.wk (kt q) ⟨rfl, ⟨rfl, trivial⟩⟩) (fun q => Gd.wk (kf q) ⟨rfl, ⟨rfl, trivial⟩⟩)
theorem bkX10_free_13 {X : GX} {h : SH} {nc ns : Nat} {P : Out → SH → Prop} {Q : Int32 → SH → Prop} {a0 : Nat} {x1 : Int32} (F0 : LX10 (Sk h) (a0)) (hN : Cd X mX0_addFree [.ref (a0 + 6), .int x1] (h) 0 0 (oI Q nX)) (g : ∀ r t, Q r t → Gd X mX10_free 21 [some (.ref a0), none, none, none] [.int r] (t) nc ns P) : Gd X mX10_free 13 [some (.ref a0), some (.int x1), none, none] [] h nc ns P := by
  refine g_aload_n dX10_free_13 rfl ?_
  refine g_getAs (c := 10) (k := 6) (b := a0 + 6) dX10_free_14 (by decide) (by decide) kw_246 rfl (LX10.o (h := h) F0) (LX10.r_calendar (h := h) F0) ?_
  refine g_iload_n dX10_free_17 rfl ?_
  refine Gd.z ?_
  exact g_callV (k := 0) [.int x1] dX10_free_18 mfX0_addFree ⟨by decide, by decide⟩ kw_915 kw_916 kw_917 rfl (by decide) (Nat.le_of_ble_eq_true rfl) (by intro x hx; cases hx) (LX0.o (h := h) (LX10.l_calendar F0)) (Nat.le_of_ble_eq_true rfl) hN (fun _ _ q => q.elim) (oI_go (G := fun a b => Gd X mX10_free 21 _ a b nc ns P) (fun r t q => Gd.wk (g r t q) ⟨rfl, trivial⟩))
theorem bkX10_free_21 {X : GX} {h : SH} {nc ns : Nat} {P : Out → SH → Prop} {a0 : Nat} {xs0 : Int32} (g : Gd X mX10_free 32 [some (.ref a0), none, none, none] [.int xs0] (h) nc ns P) : Gd X mX10_free 21 [some (.ref a0), none, none, none] [.int xs0] h nc ns P := by
  refine g_goto (tgt := 32) dX10_free_21 (by decide) ?_
  exact Gd.wk g ⟨rfl, trivial⟩
theorem bkX10_free_24 {X : GX} {h : SH} {nc ns : Nat} {P : Out → SH → Prop} {Q : Int32 → SH → Prop} {a0 : Nat} {x1 : Int32} (F0 : LX10 (Sk h) (a0)) (hN : Cd X mX0_removeFree [.ref (a0 + 6), .int x1] (h) 0 0 (oI Q nX)) (g : ∀ r t, Q r t → Gd X mX10_free 32 [some (.ref a0), none, none, none] [.int r] (t) nc ns P) : Gd X mX10_free 24 [some (.ref a0), some (.int x1), none, none] [] h nc ns P := by
  refine g_aload_n dX10_free_24 rfl ?_
  refine g_getAs (c := 10) (k := 6) (b := a0 + 6) dX10_free_25 (by decide) (by decide) kw_246 rfl (LX10.o (h := h) F0) (LX10.r_calendar (h := h) F0) ?_
  refine g_iload_n dX10_free_28 rfl ?_
  refine Gd.z ?_
  exact g_callV (k := 0) [.int x1] dX10_free_29 mfX0_removeFree ⟨by decide, by decide⟩ kw_923 kw_924 kw_925 rfl (by decide) (Nat.le_of_ble_eq_true rfl) (by intro x hx; cases hx) (LX0.o (h := h) (LX10.l_calendar F0)) (Nat.le_of_ble_eq_true rfl) hN (fun _ _ q => q.elim) (oI_go (G := fun a b => Gd X mX10_free 32 _ a b nc ns P) (fun r t q => Gd.wk (g r t q) ⟨rfl, trivial⟩))
theorem bkX10_free_32 {X : GX} {h : SH} {nc ns : Nat} {P : Out → SH → Prop} {a0 : Nat} {xs0 : Int32} (kt : xs0 = 0 → Gd X mX10_free 44 [none, none, none, some (.int xs0)] [] (h) nc ns P) (kf : ¬ xs0 = 0 → Gd X mX10_free 37 [some (.ref a0), none, none, some (.int xs0)] [] (h) nc ns P) : Gd X mX10_free 32 [some (.ref a0), none, none, none] [.int xs0] h nc ns P := by
  refine g_istore_n (L' := [some (.ref a0), none, none, some (.int xs0)]) dX10_free_32 (by decide) rfl ?_
  refine g_iload_n dX10_free_33 rfl ?_
  exact g_if_eq (tgt := 44) dX10_free_34 (by decide) (fun q => Gd.wk (kt q) ⟨rfl, trivial⟩) (fun q => Gd.wk (kf q) ⟨rfl, ⟨rfl, trivial⟩⟩)
theorem bkX10_free_37 {X : GX} {h : SH} {nc ns : Nat} {P : Out → SH → Prop} {Q : SH → Prop} {a0 : Nat} {x3 : Int32} (F0 : LX10 (Sk h) (a0)) (hN : Cd X mX8_forgetComparison [.ref (a0 + 13)] (h) 0 0 (oV Q nX)) (g : ∀ t, Q t → Gd X mX10_free 44 [none, none, none, some (.int x3)] [] (t) nc ns P) : Gd X mX10_free 37 [some (.ref a0), none, none, some (.int x3)] [] h nc ns P := by
  refine g_aload_n dX10_free_37 rfl ?_
  refine g_getAs (c := 10) (k := 9) (b := a0 + 13) dX10_free_38 (by decide) (by decide) kw_249 rfl (LX10.o (h := h) F0) (LX10.r_survey (h := h) F0) ?_
  refine Gd.z ?_
  exact g_callV (k := 8) [] dX10_free_41 mfX8_forgetComparison ⟨by decide, by decide⟩ kw_927 kw_928 kw_929 rfl (by decide) (Nat.le_of_ble_eq_true rfl) (by intro x hx; cases hx) (LX8.o (h := h) (LX10.l_survey F0)) (Nat.le_of_ble_eq_true rfl) hN (fun _ _ q => q.elim) (oV_go (G := fun a b => Gd X mX10_free 44 _ a b nc ns P) (fun t q => Gd.wk (g t q) ⟨rfl, trivial⟩))
theorem bkX10_free_44 {X : GX} {h : SH} {nc ns : Nat} {P : Out → SH → Prop} {x3 : Int32} (w0 : x3 = 0 ∨ x3 = 1) (hp : P (.inl (some (.int (x3)))) (h)) : Gd X mX10_free 44 [none, none, none, some (.int x3)] [] h nc ns P := by
  refine g_iload_n dX10_free_44 rfl ?_
  exact g_ireturn (st := []) dX10_free_45 rfl (bl_n w0) hp
theorem bkX10_make_0 {X : GX} {h : SH} {nc ns : Nat} {P : Out → SH → Prop} {a0 : Nat} {x1 : Int32} (F0 : LX10 (Sk h) (a0)) (kt : (hA h a0 4) = none → Gd X mX10_make 14 [none, none] [] (h) nc ns P) (kf : ∀ z, (hA h a0 4) = some z → Gd X mX10_make 7 [some (.ref a0), some (.int x1)] [] (h) nc ns P) : Gd X mX10_make 0 [some (.ref a0), some (.int x1)] [] h nc ns P := by
  refine g_aload_n dX10_make_0 rfl ?_
  refine g_getA (c := 10) (k := 4) dX10_make_1 (by decide) (by decide) kw_244 rfl (LX10.o (h := h) F0) ?_
  exact g_ifnull (r := (hA h a0 4)) (tgt := 14) dX10_make_4 (by decide) (fun q => Gd.wk (kt q) trivial) (fun z q => Gd.wk (kf z q) ⟨rfl, ⟨rfl, trivial⟩⟩)
theorem bkX10_make_7 {X : GX} {h : SH} {nc ns : Nat} {P : Out → SH → Prop} {Q : Int32 → SH → Prop} {a0 : Nat} {x1 : Int32} (hN : Cd X mX10_isDay [.int x1] (h) 0 0 (oI Q nX)) (g : ∀ r t, Q r t → Gd X mX10_make 11 [some (.ref a0), some (.int x1)] [.int r] (t) nc ns P) : Gd X mX10_make 7 [some (.ref a0), some (.int x1)] [] h nc ns P := by
  refine g_iload_n dX10_make_7 rfl ?_
  refine Gd.z ?_
  exact g_callS [.int x1] dX10_make_8 mfX10_isDay ⟨by decide, by decide⟩ kw_283 kw_284 rfl (Nat.le_of_ble_eq_true rfl) (by intro x hx; cases hx) (Nat.le_of_ble_eq_true rfl) hN (fun _ _ q => q.elim) (oI_go (G := fun a b => Gd X mX10_make 11 _ a b nc ns P) (fun r t q => Gd.wk (g r t q) ⟨rfl, ⟨rfl, trivial⟩⟩))
theorem bkX10_make_11 {X : GX} {h : SH} {nc ns : Nat} {P : Out → SH → Prop} {a0 : Nat} {x1 : Int32} {xs0 : Int32} (kt : ¬ xs0 = 0 → Gd X mX10_make 16 [some (.ref a0), some (.int x1)] [] (h) nc ns P) (kf : xs0 = 0 → Gd X mX10_make 14 [none, none] [] (h) nc ns P) : Gd X mX10_make 11 [some (.ref a0), some (.int x1)] [.int xs0] h nc ns P := by
  exact g_if_ne (tgt := 16) dX10_make_11 (by decide) (fun q => Gd.wk (kt q) ⟨rfl, ⟨rfl, trivial⟩⟩) (fun q => Gd.wk (kf q) trivial)
theorem bkX10_make_14 {X : GX} {h : SH} {nc ns : Nat} {P : Out → SH → Prop} (hp : P (.inl (some (.int ((-1))))) (h)) : Gd X mX10_make 14 [none, none] [] h nc ns P := by
  refine g_iconst (v := (-1)) dX10_make_14 (by decide) ?_
  exact g_ireturn (st := []) dX10_make_15 rfl rfl hp
theorem bkX10_make_16 {X : GX} {h : SH} {nc ns : Nat} {P : Out → SH → Prop} {Q : SH → Prop} {a0 : Nat} {x1 : Int32} {b2 : Nat} (F0 : LX10 (Sk h) (a0)) (q1 : hA (sI h a0 8 1) a0 4 = some b2) (hN : Cd X mX6_compose [.ref (a0 + 8), .ref b2, .ref (a0 + 3), .int x1, .ref (a0 + 6)] (sI h a0 8 1) 0 0 (oV Q nX)) (g : ∀ t, Q t → Gd X mX10_make 41 [some (.ref a0), none] [] (t) nc ns P) : Gd X mX10_make 16 [some (.ref a0), some (.int x1)] [] h nc ns P := by
  refine g_aload_n dX10_make_16 rfl ?_
  refine g_iconst (v := 1) dX10_make_17 (by decide) ?_
  refine g_put (c := 10) (k := 8) (h1 := sI h a0 8 1) dX10_make_18 (by decide) (by decide) kw_248 rfl (LX10.o (h := h) F0) (bl_n (by decide)) (bl_f (by decide)) (Put.I rfl) ?_
  refine g_aload_n dX10_make_21 rfl ?_
  refine g_getAs (c := 10) (k := 7) (b := a0 + 8) dX10_make_22 (by decide) (by decide) kw_247 rfl (LX10.o (h := sI h a0 8 1) F0) (LX10.r_latest (h := sI h a0 8 1) F0) ?_
  refine g_aload_n dX10_make_25 rfl ?_
  refine g_getAs (c := 10) (k := 4) (b := b2) dX10_make_26 (by decide) (by decide) kw_244 rfl (LX10.o (h := sI h a0 8 1) F0) q1 ?_
  refine g_aload_n dX10_make_29 rfl ?_
  refine g_getAs (c := 10) (k := 5) (b := a0 + 3) dX10_make_30 (by decide) (by decide) kw_245 rfl (LX10.o (h := sI h a0 8 1) F0) (LX10.r_facts (h := sI h a0 8 1) F0) ?_
  refine g_iload_n dX10_make_33 rfl ?_
  refine g_aload_n dX10_make_34 rfl ?_
  refine g_getAs (c := 10) (k := 6) (b := a0 + 6) dX10_make_35 (by decide) (by decide) kw_246 rfl (LX10.o (h := sI h a0 8 1) F0) (LX10.r_calendar (h := sI h a0 8 1) F0) ?_
  refine Gd.z ?_
  exact g_callV (k := 6) [.ref b2, .ref (a0 + 3), .int x1, .ref (a0 + 6)] dX10_make_38 mfX6_compose ⟨by decide, by decide⟩ kw_935 kw_936 kw_937 rfl (by decide) (Nat.le_of_ble_eq_true rfl) (by intro x hx; cases hx) (LX6.o (h := sI h a0 8 1) (LX10.l_latest F0)) (Nat.le_of_ble_eq_true rfl) hN (fun _ _ q => q.elim) (oV_go (G := fun a b => Gd X mX10_make 41 _ a b nc ns P) (fun t q => Gd.wk (g t q) ⟨rfl, trivial⟩))
theorem bkX10_make_41 {X : GX} {h : SH} {nc ns : Nat} {P : Out → SH → Prop} {a0 : Nat} (F0 : LX10 (Sk h) (a0)) (hp : P (.inl (some (.int (hI h (a0 + 8) 6)))) (h)) : Gd X mX10_make 41 [some (.ref a0), none] [] h nc ns P := by
  refine g_aload_n dX10_make_41 rfl ?_
  refine g_getAs (c := 10) (k := 7) (b := a0 + 8) dX10_make_42 (by decide) (by decide) kw_247 rfl (LX10.o (h := h) F0) (LX10.r_latest (h := h) F0) ?_
  refine g_getNI (c := 6) (k := 6) dX10_make_45 (by decide) (by decide) kn_178 rfl (LX6.o (h := h) (LX10.l_latest F0)) ?_
  exact g_ireturn (st := []) dX10_make_48 rfl rfl hp
theorem bkX10_letter_0 {X : GX} {h : SH} {nc ns : Nat} {P : Out → SH → Prop} {a0 : Nat} {x1 : Int32} (F0 : LX10 (Sk h) (a0)) (kt : ¬ hI h a0 8 = 0 → Gd X mX10_letter 9 [some (.ref a0), some (.int x1)] [] (h) nc ns P) (kf : hI h a0 8 = 0 → Gd X mX10_letter 7 [none, none] [] (h) nc ns P) : Gd X mX10_letter 0 [some (.ref a0), some (.int x1)] [] h nc ns P := by
  refine g_aload_n dX10_letter_0 rfl ?_
  refine g_getI (c := 10) (k := 8) dX10_letter_1 (by decide) (by decide) kw_248 rfl (LX10.o (h := h) F0) ?_
  exact g_if_ne (tgt := 9) dX10_letter_4 (by decide) (fun q => Gd.wk (kt q) ⟨rfl, ⟨rfl, trivial⟩⟩) (fun q => Gd.wk (kf q) trivial)
theorem bkX10_letter_7 {X : GX} {h : SH} {nc ns : Nat} {P : Out → SH → Prop} (hp : P (.inl (some (.int ((-1))))) (h)) : Gd X mX10_letter 7 [none, none] [] h nc ns P := by
  refine g_iconst (v := (-1)) dX10_letter_7 (by decide) ?_
  exact g_ireturn (st := []) dX10_letter_8 rfl rfl hp
theorem bkX10_letter_9 {X : GX} {h : SH} {nc ns : Nat} {P : Out → SH → Prop} {a0 : Nat} {x1 : Int32} (k0 : x1 = 0 → Gd X mX10_letter 40 [some (.ref a0), none] [] (h) nc ns P) (k1 : x1 = 1 → Gd X mX10_letter 48 [some (.ref a0), none] [] (h) nc ns P) (k2 : x1 = 2 → Gd X mX10_letter 56 [some (.ref a0), none] [] (h) nc ns P) (k3 : x1 = 3 → Gd X mX10_letter 64 [some (.ref a0), none] [] (h) nc ns P) (kd : ¬ x1 = 0 → ¬ x1 = 1 → ¬ x1 = 2 → ¬ x1 = 3 → Gd X mX10_letter 72 [none, none] [] (h) nc ns P) : Gd X mX10_letter 9 [some (.ref a0), some (.int x1)] [] h nc ns P := by
  refine g_iload_n dX10_letter_9 rfl ?_
  generalize x1 = xx at *
  by_cases q0 : xx = 0
  · subst q0; exact g_tswI (off := 30) (tgt := 40) dX10_letter_10 (by decide) (by decide) (by decide) (by decide) (Gd.wk (k0 rfl) ⟨rfl, trivial⟩)
  by_cases q1 : xx = 1
  · subst q1; exact g_tswI (off := 38) (tgt := 48) dX10_letter_10 (by decide) (by decide) (by decide) (by decide) (Gd.wk (k1 rfl) ⟨rfl, trivial⟩)
  by_cases q2 : xx = 2
  · subst q2; exact g_tswI (off := 46) (tgt := 56) dX10_letter_10 (by decide) (by decide) (by decide) (by decide) (Gd.wk (k2 rfl) ⟨rfl, trivial⟩)
  by_cases q3 : xx = 3
  · subst q3; exact g_tswI (off := 54) (tgt := 64) dX10_letter_10 (by decide) (by decide) (by decide) (by decide) (Gd.wk (k3 rfl) ⟨rfl, trivial⟩)
  have t0 : ¬ xx.toInt = 0 := fun z => q0 (Int32.toInt_inj.mp (z.trans (by decide)))
  have t1 : ¬ xx.toInt = 1 := fun z => q1 (Int32.toInt_inj.mp (z.trans (by decide)))
  have t2 : ¬ xx.toInt = 2 := fun z => q2 (Int32.toInt_inj.mp (z.trans (by decide)))
  have t3 : ¬ xx.toInt = 3 := fun z => q3 (Int32.toInt_inj.mp (z.trans (by decide)))
  exact g_tswO (tgt := 72) dX10_letter_10 (by omega) (by decide) (Gd.wk (kd q0 q1 q2 q3) trivial)
theorem bkX10_letter_40 {X : GX} {h : SH} {nc ns : Nat} {P : Out → SH → Prop} {a0 : Nat} (F0 : LX10 (Sk h) (a0)) (hp : P (.inl (some (.int (hI h (a0 + 8) 5)))) (h)) : Gd X mX10_letter 40 [some (.ref a0), none] [] h nc ns P := by
  refine g_aload_n dX10_letter_40 rfl ?_
  refine g_getAs (c := 10) (k := 7) (b := a0 + 8) dX10_letter_41 (by decide) (by decide) kw_247 rfl (LX10.o (h := h) F0) (LX10.r_latest (h := h) F0) ?_
  refine g_getNI (c := 6) (k := 5) dX10_letter_44 (by decide) (by decide) kn_175 rfl (LX6.o (h := h) (LX10.l_latest F0)) ?_
  exact g_ireturn (st := []) dX10_letter_47 rfl rfl hp
theorem bkX10_letter_48 {X : GX} {h : SH} {nc ns : Nat} {P : Out → SH → Prop} {a0 : Nat} (F0 : LX10 (Sk h) (a0)) (hp : P (.inl (some (.int (hI h (a0 + 8) 3)))) (h)) : Gd X mX10_letter 48 [some (.ref a0), none] [] h nc ns P := by
  refine g_aload_n dX10_letter_48 rfl ?_
  refine g_getAs (c := 10) (k := 7) (b := a0 + 8) dX10_letter_49 (by decide) (by decide) kw_247 rfl (LX10.o (h := h) F0) (LX10.r_latest (h := h) F0) ?_
  refine g_getNI (c := 6) (k := 3) dX10_letter_52 (by decide) (by decide) kn_171 rfl (LX6.o (h := h) (LX10.l_latest F0)) ?_
  exact g_ireturn (st := []) dX10_letter_55 rfl rfl hp
theorem bkX10_letter_56 {X : GX} {h : SH} {nc ns : Nat} {P : Out → SH → Prop} {a0 : Nat} (F0 : LX10 (Sk h) (a0)) (hp : P (.inl (some (.int (hI h (a0 + 8) 7)))) (h)) : Gd X mX10_letter 56 [some (.ref a0), none] [] h nc ns P := by
  refine g_aload_n dX10_letter_56 rfl ?_
  refine g_getAs (c := 10) (k := 7) (b := a0 + 8) dX10_letter_57 (by decide) (by decide) kw_247 rfl (LX10.o (h := h) F0) (LX10.r_latest (h := h) F0) ?_
  refine g_getNI (c := 6) (k := 7) dX10_letter_60 (by decide) (by decide) kn_180 rfl (LX6.o (h := h) (LX10.l_latest F0)) ?_
  exact g_ireturn (st := []) dX10_letter_63 rfl rfl hp
theorem bkX10_letter_64 {X : GX} {h : SH} {nc ns : Nat} {P : Out → SH → Prop} {a0 : Nat} (F0 : LX10 (Sk h) (a0)) (hp : P (.inl (some (.int (hI h (a0 + 8) 8)))) (h)) : Gd X mX10_letter 64 [some (.ref a0), none] [] h nc ns P := by
  refine g_aload_n dX10_letter_64 rfl ?_
  refine g_getAs (c := 10) (k := 7) (b := a0 + 8) dX10_letter_65 (by decide) (by decide) kw_247 rfl (LX10.o (h := h) F0) (LX10.r_latest (h := h) F0) ?_
  refine g_getNI (c := 6) (k := 8) dX10_letter_68 (by decide) (by decide) kn_182 rfl (LX6.o (h := h) (LX10.l_latest F0)) ?_
  exact g_ireturn (st := []) dX10_letter_71 rfl rfl hp
theorem bkX10_letter_72 {X : GX} {h : SH} {nc ns : Nat} {P : Out → SH → Prop} (hp : P (.inl (some (.int ((-1))))) (h)) : Gd X mX10_letter 72 [none, none] [] h nc ns P := by
  refine g_iconst (v := (-1)) dX10_letter_72 (by decide) ?_
  exact g_ireturn (st := []) dX10_letter_73 rfl rfl hp
theorem bkX10_out_0 {X : GX} {h : SH} {nc ns : Nat} {P : Out → SH → Prop} {a0 : Nat} {x1 : Int32} (kt : x1 < 0 → Gd X mX10_out 15 [none, none] [] (h) nc ns P) (kf : ¬ x1 < 0 → Gd X mX10_out 4 [some (.ref a0), some (.int x1)] [] (h) nc ns P) : Gd X mX10_out 0 [some (.ref a0), some (.int x1)] [] h nc ns P := by
  refine g_iload_n dX10_out_0 rfl ?_
  exact g_if_lt (tgt := 15) dX10_out_1 (by decide) (fun q => Gd.wk (kt q) trivial) (fun q => Gd.wk (kf q) ⟨rfl, ⟨rfl, trivial⟩⟩)
theorem bkX10_out_4 {X : GX} {h : SH} {nc ns : Nat} {P : Out → SH → Prop} {a0 : Nat} {x1 : Int32} (F0 : LX10 (Sk h) (a0)) (kt : x1 < (hI h (a0 + 8) 5) → Gd X mX10_out 17 [some (.ref a0), some (.int x1)] [] (h) nc ns P) (kf : ¬ x1 < (hI h (a0 + 8) 5) → Gd X mX10_out 15 [none, none] [] (h) nc ns P) : Gd X mX10_out 4 [some (.ref a0), some (.int x1)] [] h nc ns P := by
  refine g_iload_n dX10_out_4 rfl ?_
  refine g_aload_n dX10_out_5 rfl ?_
  refine g_getAs (c := 10) (k := 7) (b := a0 + 8) dX10_out_6 (by decide) (by decide) kw_247 rfl (LX10.o (h := h) F0) (LX10.r_latest (h := h) F0) ?_
  refine g_getNI (c := 6) (k := 5) dX10_out_9 (by decide) (by decide) kn_175 rfl (LX6.o (h := h) (LX10.l_latest F0)) ?_
  exact g_icmp_lt (tgt := 17) dX10_out_12 (by decide) (fun q => Gd.wk (kt q) ⟨rfl, ⟨rfl, trivial⟩⟩) (fun q => Gd.wk (kf q) trivial)
theorem bkX10_out_15 {X : GX} {h : SH} {nc ns : Nat} {P : Out → SH → Prop} (hp : P (.inl (some (.int ((-1))))) (h)) : Gd X mX10_out 15 [none, none] [] h nc ns P := by
  refine g_iconst (v := (-1)) dX10_out_15 (by decide) ?_
  exact g_ireturn (st := []) dX10_out_16 rfl rfl hp
theorem bkX10_out_17 {X : GX} {h : SH} {nc ns : Nat} {P : Out → SH → Prop} {a0 : Nat} {x1 : Int32} (F0 : LX10 (Sk h) (a0)) (i1 : vp_in (x1) 2772) (hp : P (.inl (some (.int (hI h (a0 + 8 + 4) ((x1 : Int32).toNatClampNeg))))) (h)) : Gd X mX10_out 17 [some (.ref a0), some (.int x1)] [] h nc ns P := by
  refine g_aload_n dX10_out_17 rfl ?_
  refine g_getAs (c := 10) (k := 7) (b := a0 + 8) dX10_out_18 (by decide) (by decide) kw_247 rfl (LX10.o (h := h) F0) (LX10.r_latest (h := h) F0) ?_
  refine g_getNAs (c := 6) (k := 4) (b := a0 + 8 + 4) dX10_out_21 (by decide) (by decide) kn_173 rfl (LX6.o (h := h) (LX10.l_latest F0)) (LX6.r_signs (h := h) (LX10.l_latest F0)) ?_
  refine g_iload_n dX10_out_24 rfl ?_
  refine g_baload dX10_out_25 (LX6.a_signs (h := h) (LX10.l_latest F0)) i1 ?_
  exact g_ireturn (st := []) dX10_out_26 rfl rfl hp
theorem bkX10_part_0 {X : GX} {h : SH} {nc ns : Nat} {P : Out → SH → Prop} {a0 : Nat} {x1 : Int32} (kt : x1 < 1 → Gd X mX10_part 16 [none, none] [] (h) nc ns P) (kf : ¬ x1 < 1 → Gd X mX10_part 5 [some (.ref a0), some (.int x1)] [] (h) nc ns P) : Gd X mX10_part 0 [some (.ref a0), some (.int x1)] [] h nc ns P := by
  refine g_iload_n dX10_part_0 rfl ?_
  refine g_iconst (v := 1) dX10_part_1 (by decide) ?_
  exact g_icmp_lt (tgt := 16) dX10_part_2 (by decide) (fun q => Gd.wk (kt q) trivial) (fun q => Gd.wk (kf q) ⟨rfl, ⟨rfl, trivial⟩⟩)
theorem bkX10_part_5 {X : GX} {h : SH} {nc ns : Nat} {P : Out → SH → Prop} {a0 : Nat} {x1 : Int32} (F0 : LX10 (Sk h) (a0)) (kt : x1 ≤ (hI h (a0 + 8) 3) → Gd X mX10_part 18 [some (.ref a0), some (.int x1)] [] (h) nc ns P) (kf : ¬ x1 ≤ (hI h (a0 + 8) 3) → Gd X mX10_part 16 [none, none] [] (h) nc ns P) : Gd X mX10_part 5 [some (.ref a0), some (.int x1)] [] h nc ns P := by
  refine g_iload_n dX10_part_5 rfl ?_
  refine g_aload_n dX10_part_6 rfl ?_
  refine g_getAs (c := 10) (k := 7) (b := a0 + 8) dX10_part_7 (by decide) (by decide) kw_247 rfl (LX10.o (h := h) F0) (LX10.r_latest (h := h) F0) ?_
  refine g_getNI (c := 6) (k := 3) dX10_part_10 (by decide) (by decide) kn_171 rfl (LX6.o (h := h) (LX10.l_latest F0)) ?_
  exact g_icmp_le (tgt := 18) dX10_part_13 (by decide) (fun q => Gd.wk (kt q) ⟨rfl, ⟨rfl, trivial⟩⟩) (fun q => Gd.wk (kf q) trivial)
theorem bkX10_part_16 {X : GX} {h : SH} {nc ns : Nat} {P : Out → SH → Prop} (hp : P (.inl (some (.int ((-1))))) (h)) : Gd X mX10_part 16 [none, none] [] h nc ns P := by
  refine g_iconst (v := (-1)) dX10_part_16 (by decide) ?_
  exact g_ireturn (st := []) dX10_part_17 rfl rfl hp
theorem bkX10_part_18 {X : GX} {h : SH} {nc ns : Nat} {P : Out → SH → Prop} {a0 : Nat} {x1 : Int32} (F0 : LX10 (Sk h) (a0)) (i1 : vp_in (x1 - 1) 12) (hp : P (.inl (some (.int (hI h (a0 + 8 + 2) ((x1 - 1 : Int32).toNatClampNeg))))) (h)) : Gd X mX10_part 18 [some (.ref a0), some (.int x1)] [] h nc ns P := by
  refine g_aload_n dX10_part_18 rfl ?_
  refine g_getAs (c := 10) (k := 7) (b := a0 + 8) dX10_part_19 (by decide) (by decide) kw_247 rfl (LX10.o (h := h) F0) (LX10.r_latest (h := h) F0) ?_
  refine g_getNAs (c := 6) (k := 1) (b := a0 + 8 + 2) dX10_part_22 (by decide) (by decide) kn_168 rfl (LX6.o (h := h) (LX10.l_latest F0)) (LX6.r_parts (h := h) (LX10.l_latest F0)) ?_
  refine g_iload_n dX10_part_25 rfl ?_
  refine g_iconst (v := 1) dX10_part_26 (by decide) ?_
  refine g_isub dX10_part_27 ?_
  refine g_iaload dX10_part_28 (LX6.a_parts (h := h) (LX10.l_latest F0)) i1 ?_
  exact g_ireturn (st := []) dX10_part_29 rfl rfl hp
theorem bkX10_working_0 {X : GX} {h : SH} {nc ns : Nat} {P : Out → SH → Prop} {Q : Int32 → SH → Prop} {a0 : Nat} {x1 : Int32} {x2 : Int32} (hN : Cd X mX10_isDay [.int x1] (h) 0 0 (oI Q nX)) (g : ∀ r t, Q r t → Gd X mX10_working 4 [some (.ref a0), some (.int x1), some (.int x2)] [.int r] (t) nc ns P) : Gd X mX10_working 0 [some (.ref a0), some (.int x1), some (.int x2)] [] h nc ns P := by
  refine g_iload_n dX10_working_0 rfl ?_
  refine Gd.z ?_
  exact g_callS [.int x1] dX10_working_1 mfX10_isDay ⟨by decide, by decide⟩ kw_283 kw_284 rfl (Nat.le_of_ble_eq_true rfl) (by intro x hx; cases hx) (Nat.le_of_ble_eq_true rfl) hN (fun _ _ q => q.elim) (oI_go (G := fun a b => Gd X mX10_working 4 _ a b nc ns P) (fun r t q => Gd.wk (g r t q) ⟨rfl, ⟨rfl, ⟨rfl, trivial⟩⟩⟩))
theorem bkX10_working_4 {X : GX} {h : SH} {nc ns : Nat} {P : Out → SH → Prop} {a0 : Nat} {x1 : Int32} {x2 : Int32} {xs0 : Int32} (kt : xs0 = 0 → Gd X mX10_working 19 [none, none, none] [] (h) nc ns P) (kf : ¬ xs0 = 0 → Gd X mX10_working 7 [some (.ref a0), some (.int x1), some (.int x2)] [] (h) nc ns P) : Gd X mX10_working 4 [some (.ref a0), some (.int x1), some (.int x2)] [.int xs0] h nc ns P := by
  exact g_if_eq (tgt := 19) dX10_working_4 (by decide) (fun q => Gd.wk (kt q) trivial) (fun q => Gd.wk (kf q) ⟨rfl, ⟨rfl, ⟨rfl, trivial⟩⟩⟩)
theorem bkX10_working_7 {X : GX} {h : SH} {nc ns : Nat} {P : Out → SH → Prop} {Q : Int32 → SH → Prop} {a0 : Nat} {x1 : Int32} {x2 : Int32} (hN : Cd X mX10_isDay [.int x2] (h) 0 0 (oI Q nX)) (g : ∀ r t, Q r t → Gd X mX10_working 11 [some (.ref a0), some (.int x1), some (.int x2)] [.int r] (t) nc ns P) : Gd X mX10_working 7 [some (.ref a0), some (.int x1), some (.int x2)] [] h nc ns P := by
  refine g_iload_n dX10_working_7 rfl ?_
  refine Gd.z ?_
  exact g_callS [.int x2] dX10_working_8 mfX10_isDay ⟨by decide, by decide⟩ kw_283 kw_284 rfl (Nat.le_of_ble_eq_true rfl) (by intro x hx; cases hx) (Nat.le_of_ble_eq_true rfl) hN (fun _ _ q => q.elim) (oI_go (G := fun a b => Gd X mX10_working 11 _ a b nc ns P) (fun r t q => Gd.wk (g r t q) ⟨rfl, ⟨rfl, ⟨rfl, trivial⟩⟩⟩))
theorem bkX10_working_11 {X : GX} {h : SH} {nc ns : Nat} {P : Out → SH → Prop} {a0 : Nat} {x1 : Int32} {x2 : Int32} {xs0 : Int32} (kt : xs0 = 0 → Gd X mX10_working 19 [none, none, none] [] (h) nc ns P) (kf : ¬ xs0 = 0 → Gd X mX10_working 14 [some (.ref a0), some (.int x1), some (.int x2)] [] (h) nc ns P) : Gd X mX10_working 11 [some (.ref a0), some (.int x1), some (.int x2)] [.int xs0] h nc ns P := by
  exact g_if_eq (tgt := 19) dX10_working_11 (by decide) (fun q => Gd.wk (kt q) trivial) (fun q => Gd.wk (kf q) ⟨rfl, ⟨rfl, ⟨rfl, trivial⟩⟩⟩)
theorem bkX10_working_14 {X : GX} {h : SH} {nc ns : Nat} {P : Out → SH → Prop} {a0 : Nat} {x1 : Int32} {x2 : Int32} (kt : x1 ≤ x2 → Gd X mX10_working 21 [some (.ref a0), some (.int x1), some (.int x2)] [] (h) nc ns P) (kf : ¬ x1 ≤ x2 → Gd X mX10_working 19 [none, none, none] [] (h) nc ns P) : Gd X mX10_working 14 [some (.ref a0), some (.int x1), some (.int x2)] [] h nc ns P := by
  refine g_iload_n dX10_working_14 rfl ?_
  refine g_iload_n dX10_working_15 rfl ?_
  exact g_icmp_le (tgt := 21) dX10_working_16 (by decide) (fun q => Gd.wk (kt q) ⟨rfl, ⟨rfl, ⟨rfl, trivial⟩⟩⟩) (fun q => Gd.wk (kf q) trivial)
theorem bkX10_working_19 {X : GX} {h : SH} {nc ns : Nat} {P : Out → SH → Prop} (hp : P (.inl (some (.int ((-1))))) (h)) : Gd X mX10_working 19 [none, none, none] [] h nc ns P := by
  refine g_iconst (v := (-1)) dX10_working_19 (by decide) ?_
  exact g_ireturn (st := []) dX10_working_20 rfl rfl hp
theorem bkX10_working_21 {X : GX} {h : SH} {nc ns : Nat} {P : Out → SH → Prop} {Q : Int32 → SH → Prop} {a0 : Nat} {x1 : Int32} {x2 : Int32} (F0 : LX10 (Sk h) (a0)) (hN : Cd X mX0_workingDays [.ref (a0 + 6), .int x1, .int x2] (h) 0 0 (oI Q nX)) (g : ∀ r t, Q r t → Gd X mX10_working 30 [none, none, none] [.int r] (t) nc ns P) : Gd X mX10_working 21 [some (.ref a0), some (.int x1), some (.int x2)] [] h nc ns P := by
  refine g_aload_n dX10_working_21 rfl ?_
  refine g_getAs (c := 10) (k := 6) (b := a0 + 6) dX10_working_22 (by decide) (by decide) kw_246 rfl (LX10.o (h := h) F0) (LX10.r_calendar (h := h) F0) ?_
  refine g_iload_n dX10_working_25 rfl ?_
  refine g_iload_n dX10_working_26 rfl ?_
  refine Gd.z ?_
  exact g_callV (k := 0) [.int x1, .int x2] dX10_working_27 mfX0_workingDays ⟨by decide, by decide⟩ kw_1028 kw_1029 kw_1030 rfl (by decide) (Nat.le_of_ble_eq_true rfl) (by intro x hx; cases hx) (LX0.o (h := h) (LX10.l_calendar F0)) (Nat.le_of_ble_eq_true rfl) hN (fun _ _ q => q.elim) (oI_go (G := fun a b => Gd X mX10_working 30 _ a b nc ns P) (fun r t q => Gd.wk (g r t q) trivial))
theorem bkX10_working_30 {X : GX} {h : SH} {nc ns : Nat} {P : Out → SH → Prop} {xs0 : Int32} (hp : P (.inl (some (.int (xs0)))) (h)) : Gd X mX10_working 30 [none, none, none] [.int xs0] h nc ns P := by
  exact g_ireturn (st := []) dX10_working_30 rfl rfl hp
theorem bkX10_judge_0 {X : GX} {h : SH} {nc ns : Nat} {P : Out → SH → Prop} {a0 : Nat} {x1 : Int32} {x2 : Int32} (F0 : LX10 (Sk h) (a0)) (kt : (hA h a0 4) = none → Gd X mX10_judge 26 [none, none, none] [] (h) nc ns P) (kf : ∀ z, (hA h a0 4) = some z → Gd X mX10_judge 7 [some (.ref a0), some (.int x1), some (.int x2)] [] (h) nc ns P) : Gd X mX10_judge 0 [some (.ref a0), some (.int x1), some (.int x2)] [] h nc ns P := by
  refine g_aload_n dX10_judge_0 rfl ?_
  refine g_getA (c := 10) (k := 4) dX10_judge_1 (by decide) (by decide) kw_244 rfl (LX10.o (h := h) F0) ?_
  exact g_ifnull (r := (hA h a0 4)) (tgt := 26) dX10_judge_4 (by decide) (fun q => Gd.wk (kt q) trivial) (fun z q => Gd.wk (kf z q) ⟨rfl, ⟨rfl, ⟨rfl, trivial⟩⟩⟩)
theorem bkX10_judge_7 {X : GX} {h : SH} {nc ns : Nat} {P : Out → SH → Prop} {a0 : Nat} {x1 : Int32} {x2 : Int32} (kt : x1 < 1 → Gd X mX10_judge 26 [none, none, none] [] (h) nc ns P) (kf : ¬ x1 < 1 → Gd X mX10_judge 12 [some (.ref a0), some (.int x1), some (.int x2)] [] (h) nc ns P) : Gd X mX10_judge 7 [some (.ref a0), some (.int x1), some (.int x2)] [] h nc ns P := by
  refine g_iload_n dX10_judge_7 rfl ?_
  refine g_iconst (v := 1) dX10_judge_8 (by decide) ?_
  exact g_icmp_lt (tgt := 26) dX10_judge_9 (by decide) (fun q => Gd.wk (kt q) trivial) (fun q => Gd.wk (kf q) ⟨rfl, ⟨rfl, ⟨rfl, trivial⟩⟩⟩)
theorem bkX10_judge_12 {X : GX} {h : SH} {nc ns : Nat} {P : Out → SH → Prop} {a0 : Nat} {x1 : Int32} {x2 : Int32} (kt : (4 : Int32) < x1 → Gd X mX10_judge 26 [none, none, none] [] (h) nc ns P) (kf : ¬ (4 : Int32) < x1 → Gd X mX10_judge 17 [some (.ref a0), some (.int x1), some (.int x2)] [] (h) nc ns P) : Gd X mX10_judge 12 [some (.ref a0), some (.int x1), some (.int x2)] [] h nc ns P := by
  refine g_iload_n dX10_judge_12 rfl ?_
  refine g_iconst (v := 4) dX10_judge_13 (by decide) ?_
  exact g_icmp_gt (tgt := 26) dX10_judge_14 (by decide) (fun q => Gd.wk (kt q) trivial) (fun q => Gd.wk (kf q) ⟨rfl, ⟨rfl, ⟨rfl, trivial⟩⟩⟩)
theorem bkX10_judge_17 {X : GX} {h : SH} {nc ns : Nat} {P : Out → SH → Prop} {a0 : Nat} {x1 : Int32} {x2 : Int32} (kt : x2 < 0 → Gd X mX10_judge 26 [none, none, none] [] (h) nc ns P) (kf : ¬ x2 < 0 → Gd X mX10_judge 21 [some (.ref a0), some (.int x1), some (.int x2)] [] (h) nc ns P) : Gd X mX10_judge 17 [some (.ref a0), some (.int x1), some (.int x2)] [] h nc ns P := by
  refine g_iload_n dX10_judge_17 rfl ?_
  exact g_if_lt (tgt := 26) dX10_judge_18 (by decide) (fun q => Gd.wk (kt q) trivial) (fun q => Gd.wk (kf q) ⟨rfl, ⟨rfl, ⟨rfl, trivial⟩⟩⟩)
theorem bkX10_judge_21 {X : GX} {h : SH} {nc ns : Nat} {P : Out → SH → Prop} {a0 : Nat} {x1 : Int32} {x2 : Int32} (kt : x2 ≤ 1 → Gd X mX10_judge 28 [some (.ref a0), some (.int x1), some (.int x2)] [] (h) nc ns P) (kf : ¬ x2 ≤ 1 → Gd X mX10_judge 26 [none, none, none] [] (h) nc ns P) : Gd X mX10_judge 21 [some (.ref a0), some (.int x1), some (.int x2)] [] h nc ns P := by
  refine g_iload_n dX10_judge_21 rfl ?_
  refine g_iconst (v := 1) dX10_judge_22 (by decide) ?_
  exact g_icmp_le (tgt := 28) dX10_judge_23 (by decide) (fun q => Gd.wk (kt q) ⟨rfl, ⟨rfl, ⟨rfl, trivial⟩⟩⟩) (fun q => Gd.wk (kf q) trivial)
theorem bkX10_judge_26 {X : GX} {h : SH} {nc ns : Nat} {P : Out → SH → Prop} (hp : P (.inl (some (.int ((-1))))) (h)) : Gd X mX10_judge 26 [none, none, none] [] h nc ns P := by
  refine g_iconst (v := (-1)) dX10_judge_26 (by decide) ?_
  exact g_ireturn (st := []) dX10_judge_27 rfl rfl hp
theorem bkX10_judge_28 {X : GX} {h : SH} {nc ns : Nat} {P : Out → SH → Prop} {Q : SH → Prop} {a0 : Nat} {x1 : Int32} {x2 : Int32} {b3 : Nat} (F0 : LX10 (Sk h) (a0)) (q1 : hA h a0 4 = some b3) (hN : Cd X mX8_judgeWorlds [.ref (a0 + 13), .ref b3] (h) 0 0 (oV Q nX)) (g : ∀ t, Q t → Gd X mX10_judge 39 [some (.ref a0), some (.int x1), some (.int x2)] [] (t) nc ns P) : Gd X mX10_judge 28 [some (.ref a0), some (.int x1), some (.int x2)] [] h nc ns P := by
  refine g_aload_n dX10_judge_28 rfl ?_
  refine g_getAs (c := 10) (k := 9) (b := a0 + 13) dX10_judge_29 (by decide) (by decide) kw_249 rfl (LX10.o (h := h) F0) (LX10.r_survey (h := h) F0) ?_
  refine g_aload_n dX10_judge_32 rfl ?_
  refine g_getAs (c := 10) (k := 4) (b := b3) dX10_judge_33 (by decide) (by decide) kw_244 rfl (LX10.o (h := h) F0) q1 ?_
  refine Gd.z ?_
  exact g_callV (k := 8) [.ref b3] dX10_judge_36 mfX8_judgeWorlds ⟨by decide, by decide⟩ kw_1036 kw_1037 kw_1038 rfl (by decide) (Nat.le_of_ble_eq_true rfl) (by intro x hx; cases hx) (LX8.o (h := h) (LX10.l_survey F0)) (Nat.le_of_ble_eq_true rfl) hN (fun _ _ q => q.elim) (oV_go (G := fun a b => Gd X mX10_judge 39 _ a b nc ns P) (fun t q => Gd.wk (g t q) ⟨rfl, ⟨rfl, ⟨rfl, trivial⟩⟩⟩))
theorem bkX10_judge_39 {X : GX} {h : SH} {nc ns : Nat} {P : Out → SH → Prop} {a0 : Nat} {x1 : Int32} {x2 : Int32} (kt : ¬ x2 = 0 → Gd X mX10_judge 55 [some (.ref a0), some (.int x1), none] [] (h) nc ns P) (kf : x2 = 0 → Gd X mX10_judge 43 [some (.ref a0), some (.int x1), none] [] (h) nc ns P) : Gd X mX10_judge 39 [some (.ref a0), some (.int x1), some (.int x2)] [] h nc ns P := by
  refine g_iload_n dX10_judge_39 rfl ?_
  exact g_if_ne (tgt := 55) dX10_judge_40 (by decide) (fun q => Gd.wk (kt q) ⟨rfl, ⟨rfl, trivial⟩⟩) (fun q => Gd.wk (kf q) ⟨rfl, ⟨rfl, trivial⟩⟩)
theorem bkX10_judge_43 {X : GX} {h : SH} {nc ns : Nat} {P : Out → SH → Prop} {a0 : Nat} {x1 : Int32} {b2 : Nat} (F0 : LX10 (Sk h) (a0)) (q1 : hA h a0 4 = some b2) (F2 : LX3 (Sk h) (b2)) (i3 : vp_in (x1) 5) (g : Gd X mX10_judge 64 [none, none, none] [.int (hI h (b2 + 6) ((x1 : Int32).toNatClampNeg))] (h) nc ns P) : Gd X mX10_judge 43 [some (.ref a0), some (.int x1), none] [] h nc ns P := by
  refine g_aload_n dX10_judge_43 rfl ?_
  refine g_getAs (c := 10) (k := 4) (b := b2) dX10_judge_44 (by decide) (by decide) kw_244 rfl (LX10.o (h := h) F0) q1 ?_
  refine g_getNAs (c := 3) (k := 11) (b := b2 + 6) dX10_judge_47 (by decide) (by decide) kn_330 rfl (LX3.o (h := h) F2) (LX3.r_quarrelWorlds (h := h) F2) ?_
  refine g_iload_n dX10_judge_50 rfl ?_
  refine g_iaload dX10_judge_51 (LX3.a_quarrelWorlds (h := h) F2) i3 ?_
  refine g_goto (tgt := 64) dX10_judge_52 (by decide) ?_
  exact Gd.wk g trivial
theorem bkX10_judge_55 {X : GX} {h : SH} {nc ns : Nat} {P : Out → SH → Prop} {a0 : Nat} {x1 : Int32} {b2 : Nat} (F0 : LX10 (Sk h) (a0)) (q1 : hA h a0 4 = some b2) (F2 : LX3 (Sk h) (b2)) (i3 : vp_in (x1) 5) (g : Gd X mX10_judge 64 [none, none, none] [.int (hI h (b2 + 7) ((x1 : Int32).toNatClampNeg))] (h) nc ns P) : Gd X mX10_judge 55 [some (.ref a0), some (.int x1), none] [] h nc ns P := by
  refine g_aload_n dX10_judge_55 rfl ?_
  refine g_getAs (c := 10) (k := 4) (b := b2) dX10_judge_56 (by decide) (by decide) kw_244 rfl (LX10.o (h := h) F0) q1 ?_
  refine g_getNAs (c := 3) (k := 12) (b := b2 + 7) dX10_judge_59 (by decide) (by decide) kn_333 rfl (LX3.o (h := h) F2) (LX3.r_quarrelLeast (h := h) F2) ?_
  refine g_iload_n dX10_judge_62 rfl ?_
  refine g_iaload dX10_judge_63 (LX3.a_quarrelLeast (h := h) F2) i3 ?_
  exact Gd.wk g trivial
theorem bkX10_judge_64 {X : GX} {h : SH} {nc ns : Nat} {P : Out → SH → Prop} {xs0 : Int32} (hp : P (.inl (some (.int (xs0)))) (h)) : Gd X mX10_judge 64 [none, none, none] [.int xs0] h nc ns P := by
  exact g_ireturn (st := []) dX10_judge_64 rfl rfl hp
theorem bkX10_changed_0 {X : GX} {h : SH} {nc ns : Nat} {P : Out → SH → Prop} {Q : Option Nat → SH → Prop} {a0 : Nat} {x1 : Int32} {x2 : Int32} {x3 : Int32} {x4 : Int32} (F0 : LX10 (Sk h) (a0)) (hN : Cd X mX10_editionAt [.ref a0, .int x1] (h) 0 0 (oA Q nX)) (g : ∀ r t, Q r t → Gd X mX10_changed 5 [some (.ref a0), none, some (.int x2), some (.int x3), some (.int x4), none, none] [va_rf r] (t) nc ns P) : Gd X mX10_changed 0 [some (.ref a0), some (.int x1), some (.int x2), some (.int x3), some (.int x4), none, none] [] h nc ns P := by
  refine g_aload_n dX10_changed_0 rfl ?_
  refine g_iload_n dX10_changed_1 rfl ?_
  refine Gd.z ?_
  exact g_callV (k := 10) [.int x1] dX10_changed_2 mfX10_editionAt ⟨by decide, by decide⟩ kw_290 kw_292 kw_2 rfl (by decide) (Nat.le_of_ble_eq_true rfl) (by intro x hx; cases hx) (LX10.o (h := h) F0) (Nat.le_of_ble_eq_true rfl) hN (fun _ _ q => q.elim) (oA_go (G := fun a b => Gd X mX10_changed 5 _ a b nc ns P) (fun r t q => Gd.wk (g r t q) ⟨rfl, ⟨rfl, ⟨rfl, ⟨rfl, trivial⟩⟩⟩⟩))
theorem bkX10_changed_5 {X : GX} {h : SH} {nc ns : Nat} {P : Out → SH → Prop} {Q : Option Nat → SH → Prop} {a0 : Nat} {x2 : Int32} {x3 : Int32} {x4 : Int32} {rs0 : Option Nat} (F0 : LX10 (Sk h) (a0)) (hN : Cd X mX10_editionAt [.ref a0, .int x2] (h) 0 0 (oA Q nX)) (g : ∀ r t, Q r t → Gd X mX10_changed 12 [some (.ref a0), none, none, some (.int x3), some (.int x4), some (va_rf rs0), none] [va_rf r] (t) nc ns P) : Gd X mX10_changed 5 [some (.ref a0), none, some (.int x2), some (.int x3), some (.int x4), none, none] [va_rf rs0] h nc ns P := by
  refine g_astore (r := (rs0)) (L' := [some (.ref a0), none, some (.int x2), some (.int x3), some (.int x4), some (va_rf rs0), none]) dX10_changed_5 (by decide) rfl ?_
  refine g_aload_n dX10_changed_7 rfl ?_
  refine g_iload_n dX10_changed_8 rfl ?_
  refine Gd.z ?_
  exact g_callV (k := 10) [.int x2] dX10_changed_9 mfX10_editionAt ⟨by decide, by decide⟩ kw_290 kw_292 kw_2 rfl (by decide) (Nat.le_of_ble_eq_true rfl) (by intro x hx; cases hx) (LX10.o (h := h) F0) (Nat.le_of_ble_eq_true rfl) hN (fun _ _ q => q.elim) (oA_go (G := fun a b => Gd X mX10_changed 12 _ a b nc ns P) (fun r t q => Gd.wk (g r t q) ⟨rfl, ⟨rfl, ⟨rfl, ⟨rfl, trivial⟩⟩⟩⟩))
theorem bkX10_changed_12 {X : GX} {h : SH} {nc ns : Nat} {P : Out → SH → Prop} {a0 : Nat} {x3 : Int32} {x4 : Int32} {r5 : Option Nat} {rs0 : Option Nat} (kt : (r5) = none → Gd X mX10_changed 42 [none, none, none, none, none, none, none] [] (h) nc ns P) (kf : ∀ z, (r5) = some z → Gd X mX10_changed 19 [some (.ref a0), none, none, some (.int x3), some (.int x4), some (va_rf r5), some (va_rf rs0)] [] (h) nc ns P) : Gd X mX10_changed 12 [some (.ref a0), none, none, some (.int x3), some (.int x4), some (va_rf r5), none] [va_rf rs0] h nc ns P := by
  refine g_astore (r := (rs0)) (L' := [some (.ref a0), none, none, some (.int x3), some (.int x4), some (va_rf r5), some (va_rf rs0)]) dX10_changed_12 (by decide) (by simp only [st1, st2, cl2_rf]) ?_
  refine g_aloadq (r := (r5)) dX10_changed_14 rfl ?_
  exact g_ifnull (r := (r5)) (tgt := 42) dX10_changed_16 (by decide) (fun q => Gd.wk (kt q) trivial) (fun z q => Gd.wk (kf z q) ⟨rfl, ⟨rfl, ⟨rfl, ⟨rfl, ⟨rfl, trivial⟩⟩⟩⟩⟩)
theorem bkX10_changed_19 {X : GX} {h : SH} {nc ns : Nat} {P : Out → SH → Prop} {a0 : Nat} {x3 : Int32} {x4 : Int32} {r5 : Option Nat} {r6 : Option Nat} (kt : (r6) = none → Gd X mX10_changed 42 [none, none, none, none, none, none, none] [] (h) nc ns P) (kf : ∀ z, (r6) = some z → Gd X mX10_changed 24 [some (.ref a0), none, none, some (.int x3), some (.int x4), some (va_rf r5), some (va_rf r6)] [] (h) nc ns P) : Gd X mX10_changed 19 [some (.ref a0), none, none, some (.int x3), some (.int x4), some (va_rf r5), some (va_rf r6)] [] h nc ns P := by
  refine g_aloadq (r := (r6)) dX10_changed_19 rfl ?_
  exact g_ifnull (r := (r6)) (tgt := 42) dX10_changed_21 (by decide) (fun q => Gd.wk (kt q) trivial) (fun z q => Gd.wk (kf z q) ⟨rfl, ⟨rfl, ⟨rfl, ⟨rfl, ⟨rfl, trivial⟩⟩⟩⟩⟩)
theorem bkX10_changed_24 {X : GX} {h : SH} {nc ns : Nat} {P : Out → SH → Prop} {Q : Int32 → SH → Prop} {a0 : Nat} {x3 : Int32} {x4 : Int32} {r5 : Option Nat} {r6 : Option Nat} (hN : Cd X mX10_isDay [.int x3] (h) 0 0 (oI Q nX)) (g : ∀ r t, Q r t → Gd X mX10_changed 28 [some (.ref a0), none, none, some (.int x3), some (.int x4), some (va_rf r5), some (va_rf r6)] [.int r] (t) nc ns P) : Gd X mX10_changed 24 [some (.ref a0), none, none, some (.int x3), some (.int x4), some (va_rf r5), some (va_rf r6)] [] h nc ns P := by
  refine g_iload_n dX10_changed_24 rfl ?_
  refine Gd.z ?_
  exact g_callS [.int x3] dX10_changed_25 mfX10_isDay ⟨by decide, by decide⟩ kw_283 kw_284 rfl (Nat.le_of_ble_eq_true rfl) (by intro x hx; cases hx) (Nat.le_of_ble_eq_true rfl) hN (fun _ _ q => q.elim) (oI_go (G := fun a b => Gd X mX10_changed 28 _ a b nc ns P) (fun r t q => Gd.wk (g r t q) ⟨rfl, ⟨rfl, ⟨rfl, ⟨rfl, ⟨rfl, trivial⟩⟩⟩⟩⟩))
theorem bkX10_changed_28 {X : GX} {h : SH} {nc ns : Nat} {P : Out → SH → Prop} {a0 : Nat} {x3 : Int32} {x4 : Int32} {r5 : Option Nat} {r6 : Option Nat} {xs0 : Int32} (kt : xs0 = 0 → Gd X mX10_changed 42 [none, none, none, none, none, none, none] [] (h) nc ns P) (kf : ¬ xs0 = 0 → Gd X mX10_changed 31 [some (.ref a0), none, none, some (.int x3), some (.int x4), some (va_rf r5), some (va_rf r6)] [] (h) nc ns P) : Gd X mX10_changed 28 [some (.ref a0), none, none, some (.int x3), some (.int x4), some (va_rf r5), some (va_rf r6)] [.int xs0] h nc ns P := by
  exact g_if_eq (tgt := 42) dX10_changed_28 (by decide) (fun q => Gd.wk (kt q) trivial) (fun q => Gd.wk (kf q) ⟨rfl, ⟨rfl, ⟨rfl, ⟨rfl, ⟨rfl, trivial⟩⟩⟩⟩⟩)
theorem bkX10_changed_31 {X : GX} {h : SH} {nc ns : Nat} {P : Out → SH → Prop} {a0 : Nat} {x3 : Int32} {x4 : Int32} {r5 : Option Nat} {r6 : Option Nat} (kt : x4 < 0 → Gd X mX10_changed 42 [none, none, none, none, none, none, none] [] (h) nc ns P) (kf : ¬ x4 < 0 → Gd X mX10_changed 36 [some (.ref a0), none, none, some (.int x3), some (.int x4), some (va_rf r5), some (va_rf r6)] [] (h) nc ns P) : Gd X mX10_changed 31 [some (.ref a0), none, none, some (.int x3), some (.int x4), some (va_rf r5), some (va_rf r6)] [] h nc ns P := by
  refine g_iload dX10_changed_31 rfl ?_
  exact g_if_lt (tgt := 42) dX10_changed_33 (by decide) (fun q => Gd.wk (kt q) trivial) (fun q => Gd.wk (kf q) ⟨rfl, ⟨rfl, ⟨rfl, ⟨rfl, ⟨rfl, trivial⟩⟩⟩⟩⟩)
theorem bkX10_changed_36 {X : GX} {h : SH} {nc ns : Nat} {P : Out → SH → Prop} {a0 : Nat} {x3 : Int32} {x4 : Int32} {r5 : Option Nat} {r6 : Option Nat} (kt : x4 ≤ 1 → Gd X mX10_changed 44 [some (.ref a0), none, none, some (.int x3), some (.int x4), some (va_rf r5), some (va_rf r6)] [] (h) nc ns P) (kf : ¬ x4 ≤ 1 → Gd X mX10_changed 42 [none, none, none, none, none, none, none] [] (h) nc ns P) : Gd X mX10_changed 36 [some (.ref a0), none, none, some (.int x3), some (.int x4), some (va_rf r5), some (va_rf r6)] [] h nc ns P := by
  refine g_iload dX10_changed_36 rfl ?_
  refine g_iconst (v := 1) dX10_changed_38 (by decide) ?_
  exact g_icmp_le (tgt := 44) dX10_changed_39 (by decide) (fun q => Gd.wk (kt q) ⟨rfl, ⟨rfl, ⟨rfl, ⟨rfl, ⟨rfl, trivial⟩⟩⟩⟩⟩) (fun q => Gd.wk (kf q) trivial)
theorem bkX10_changed_42 {X : GX} {h : SH} {nc ns : Nat} {P : Out → SH → Prop} (hp : P (.inl (some (.int ((-1))))) (h)) : Gd X mX10_changed 42 [none, none, none, none, none, none, none] [] h nc ns P := by
  refine g_iconst (v := (-1)) dX10_changed_42 (by decide) ?_
  exact g_ireturn (st := []) dX10_changed_43 rfl rfl hp
theorem bkX10_changed_44 {X : GX} {h : SH} {nc ns : Nat} {P : Out → SH → Prop} {Q : Int32 → SH → Prop} {a0 : Nat} {x3 : Int32} {x4 : Int32} {a5 : Nat} {a6 : Nat} (F0 : LX3 (Sk h) (a5)) (hN : Cd X mX3_hasFactsOf [.ref a5, .ref a6] (h) 0 0 (oI Q nX)) (g : ∀ r t, Q r t → Gd X mX10_changed 51 [some (.ref a0), none, none, some (.int x3), some (.int x4), some (.ref a5), some (.ref a6)] [.int r] (t) nc ns P) : Gd X mX10_changed 44 [some (.ref a0), none, none, some (.int x3), some (.int x4), some (.ref a5), some (.ref a6)] [] h nc ns P := by
  refine g_aload dX10_changed_44 rfl ?_
  refine g_aload dX10_changed_46 rfl ?_
  refine Gd.z ?_
  exact g_callV (k := 3) [.ref a6] dX10_changed_48 mfX3_hasFactsOf ⟨by decide, by decide⟩ kw_1049 kw_1050 kw_1051 rfl (by decide) (Nat.le_of_ble_eq_true rfl) (by intro x hx; cases hx) (LX3.o (h := h) F0) (Nat.le_of_ble_eq_true rfl) hN (fun _ _ q => q.elim) (oI_go (G := fun a b => Gd X mX10_changed 51 _ a b nc ns P) (fun r t q => Gd.wk (g r t q) ⟨rfl, ⟨rfl, ⟨rfl, ⟨rfl, ⟨rfl, trivial⟩⟩⟩⟩⟩))
theorem bkX10_changed_51 {X : GX} {h : SH} {nc ns : Nat} {P : Out → SH → Prop} {a0 : Nat} {x3 : Int32} {x4 : Int32} {r5 : Option Nat} {r6 : Option Nat} {xs0 : Int32} (kt : ¬ xs0 = 0 → Gd X mX10_changed 57 [some (.ref a0), none, none, some (.int x3), some (.int x4), some (va_rf r5), some (va_rf r6)] [] (h) nc ns P) (kf : xs0 = 0 → Gd X mX10_changed 54 [none, none, none, none, none, none, none] [] (h) nc ns P) : Gd X mX10_changed 51 [some (.ref a0), none, none, some (.int x3), some (.int x4), some (va_rf r5), some (va_rf r6)] [.int xs0] h nc ns P := by
  exact g_if_ne (tgt := 57) dX10_changed_51 (by decide) (fun q => Gd.wk (kt q) ⟨rfl, ⟨rfl, ⟨rfl, ⟨rfl, ⟨rfl, trivial⟩⟩⟩⟩⟩) (fun q => Gd.wk (kf q) trivial)
theorem bkX10_changed_54 {X : GX} {h : SH} {nc ns : Nat} {P : Out → SH → Prop} (hp : P (.inl (some (.int ((-2))))) (h)) : Gd X mX10_changed 54 [none, none, none, none, none, none, none] [] h nc ns P := by
  refine g_bipush (v := (-2)) dX10_changed_54 (by decide) ?_
  exact g_ireturn (st := []) dX10_changed_56 rfl rfl hp
theorem bkX10_changed_57 {X : GX} {h : SH} {nc ns : Nat} {P : Out → SH → Prop} {Q : SH → Prop} {a0 : Nat} {x3 : Int32} {x4 : Int32} {a5 : Nat} {a6 : Nat} (F0 : LX10 (Sk h) (a0)) (hN : Cd X mX8_compareWorlds [.ref (a0 + 13), .ref a5, .ref a6, .int x3, .ref (a0 + 6)] (h) 0 0 (oV Q nX)) (g : ∀ t, Q t → Gd X mX10_changed 73 [some (.ref a0), none, none, none, some (.int x4), none, none] [] (t) nc ns P) : Gd X mX10_changed 57 [some (.ref a0), none, none, some (.int x3), some (.int x4), some (.ref a5), some (.ref a6)] [] h nc ns P := by
  refine g_aload_n dX10_changed_57 rfl ?_
  refine g_getAs (c := 10) (k := 9) (b := a0 + 13) dX10_changed_58 (by decide) (by decide) kw_249 rfl (LX10.o (h := h) F0) (LX10.r_survey (h := h) F0) ?_
  refine g_aload dX10_changed_61 rfl ?_
  refine g_aload dX10_changed_63 rfl ?_
  refine g_iload_n dX10_changed_65 rfl ?_
  refine g_aload_n dX10_changed_66 rfl ?_
  refine g_getAs (c := 10) (k := 6) (b := a0 + 6) dX10_changed_67 (by decide) (by decide) kw_246 rfl (LX10.o (h := h) F0) (LX10.r_calendar (h := h) F0) ?_
  refine Gd.z ?_
  exact g_callV (k := 8) [.ref a5, .ref a6, .int x3, .ref (a0 + 6)] dX10_changed_70 mfX8_compareWorlds ⟨by decide, by decide⟩ kw_1053 kw_1054 kw_1055 rfl (by decide) (Nat.le_of_ble_eq_true rfl) (by intro x hx; cases hx) (LX8.o (h := h) (LX10.l_survey F0)) (Nat.le_of_ble_eq_true rfl) hN (fun _ _ q => q.elim) (oV_go (G := fun a b => Gd X mX10_changed 73 _ a b nc ns P) (fun t q => Gd.wk (g t q) ⟨rfl, ⟨rfl, trivial⟩⟩))
theorem bkX10_changed_73 {X : GX} {h : SH} {nc ns : Nat} {P : Out → SH → Prop} {a0 : Nat} {x4 : Int32} (kt : ¬ x4 = 0 → Gd X mX10_changed 88 [some (.ref a0), none, none, none, none, none, none] [] (h) nc ns P) (kf : x4 = 0 → Gd X mX10_changed 78 [some (.ref a0), none, none, none, none, none, none] [] (h) nc ns P) : Gd X mX10_changed 73 [some (.ref a0), none, none, none, some (.int x4), none, none] [] h nc ns P := by
  refine g_iload dX10_changed_73 rfl ?_
  exact g_if_ne (tgt := 88) dX10_changed_75 (by decide) (fun q => Gd.wk (kt q) ⟨rfl, trivial⟩) (fun q => Gd.wk (kf q) ⟨rfl, trivial⟩)
theorem bkX10_changed_78 {X : GX} {h : SH} {nc ns : Nat} {P : Out → SH → Prop} {a0 : Nat} (F0 : LX10 (Sk h) (a0)) (g : Gd X mX10_changed 95 [none, none, none, none, none, none, none] [.int (hI h (a0 + 13) 6)] (h) nc ns P) : Gd X mX10_changed 78 [some (.ref a0), none, none, none, none, none, none] [] h nc ns P := by
  refine g_aload_n dX10_changed_78 rfl ?_
  refine g_getAs (c := 10) (k := 9) (b := a0 + 13) dX10_changed_79 (by decide) (by decide) kw_249 rfl (LX10.o (h := h) F0) (LX10.r_survey (h := h) F0) ?_
  refine g_getNI (c := 8) (k := 6) dX10_changed_82 (by decide) (by decide) kn_220 rfl (LX8.o (h := h) (LX10.l_survey F0)) ?_
  refine g_goto (tgt := 95) dX10_changed_85 (by decide) ?_
  exact Gd.wk g trivial
theorem bkX10_changed_88 {X : GX} {h : SH} {nc ns : Nat} {P : Out → SH → Prop} {a0 : Nat} (F0 : LX10 (Sk h) (a0)) (g : Gd X mX10_changed 95 [none, none, none, none, none, none, none] [.int (hI h (a0 + 13) 7)] (h) nc ns P) : Gd X mX10_changed 88 [some (.ref a0), none, none, none, none, none, none] [] h nc ns P := by
  refine g_aload_n dX10_changed_88 rfl ?_
  refine g_getAs (c := 10) (k := 9) (b := a0 + 13) dX10_changed_89 (by decide) (by decide) kw_249 rfl (LX10.o (h := h) F0) (LX10.r_survey (h := h) F0) ?_
  refine g_getNI (c := 8) (k := 7) dX10_changed_92 (by decide) (by decide) kn_222 rfl (LX8.o (h := h) (LX10.l_survey F0)) ?_
  exact Gd.wk g trivial
theorem bkX10_changed_95 {X : GX} {h : SH} {nc ns : Nat} {P : Out → SH → Prop} {xs0 : Int32} (hp : P (.inl (some (.int (xs0)))) (h)) : Gd X mX10_changed 95 [none, none, none, none, none, none, none] [.int xs0] h nc ns P := by
  exact g_ireturn (st := []) dX10_changed_95 rfl rfl hp
theorem bkX10_look_0 {X : GX} {h : SH} {nc ns : Nat} {P : Out → SH → Prop} {a0 : Nat} {x1 : Int32} (F0 : LX10 (Sk h) (a0)) (kt : ∀ z, (hA h a0 4) = some z → Gd X mX10_look 9 [some (.ref a0), some (.int x1)] [] (h) nc ns P) (kf : (hA h a0 4) = none → Gd X mX10_look 7 [none, none] [] (h) nc ns P) : Gd X mX10_look 0 [some (.ref a0), some (.int x1)] [] h nc ns P := by
  refine g_aload_n dX10_look_0 rfl ?_
  refine g_getA (c := 10) (k := 4) dX10_look_1 (by decide) (by decide) kw_244 rfl (LX10.o (h := h) F0) ?_
  exact g_ifnonnull (r := (hA h a0 4)) (tgt := 9) dX10_look_4 (by decide) (fun z q => Gd.wk (kt z q) ⟨rfl, ⟨rfl, trivial⟩⟩) (fun q => Gd.wk (kf q) trivial)
theorem bkX10_look_7 {X : GX} {h : SH} {nc ns : Nat} {P : Out → SH → Prop} (hp : P (.inl (some (.int ((-1))))) (h)) : Gd X mX10_look 7 [none, none] [] h nc ns P := by
  refine g_iconst (v := (-1)) dX10_look_7 (by decide) ?_
  exact g_ireturn (st := []) dX10_look_8 rfl rfl hp
theorem bkX10_look_9 {X : GX} {h : SH} {nc ns : Nat} {P : Out → SH → Prop} {a0 : Nat} {x1 : Int32} (k0 : x1 = 0 → Gd X mX10_look 48 [some (.ref a0), none] [] (h) nc ns P) (k1 : x1 = 1 → Gd X mX10_look 56 [some (.ref a0), none] [] (h) nc ns P) (k2 : x1 = 2 → Gd X mX10_look 64 [some (.ref a0), none] [] (h) nc ns P) (k3 : x1 = 3 → Gd X mX10_look 72 [some (.ref a0), none] [] (h) nc ns P) (k4 : x1 = 4 → Gd X mX10_look 80 [some (.ref a0), none] [] (h) nc ns P) (k5 : x1 = 5 → Gd X mX10_look 88 [some (.ref a0), none] [] (h) nc ns P) (kd : ¬ x1 = 0 → ¬ x1 = 1 → ¬ x1 = 2 → ¬ x1 = 3 → ¬ x1 = 4 → ¬ x1 = 5 → Gd X mX10_look 100 [none, none] [] (h) nc ns P) : Gd X mX10_look 9 [some (.ref a0), some (.int x1)] [] h nc ns P := by
  refine g_iload_n dX10_look_9 rfl ?_
  generalize x1 = xx at *
  by_cases q0 : xx = 0
  · subst q0; exact g_tswI (off := 38) (tgt := 48) dX10_look_10 (by decide) (by decide) (by decide) (by decide) (Gd.wk (k0 rfl) ⟨rfl, trivial⟩)
  by_cases q1 : xx = 1
  · subst q1; exact g_tswI (off := 46) (tgt := 56) dX10_look_10 (by decide) (by decide) (by decide) (by decide) (Gd.wk (k1 rfl) ⟨rfl, trivial⟩)
  by_cases q2 : xx = 2
  · subst q2; exact g_tswI (off := 54) (tgt := 64) dX10_look_10 (by decide) (by decide) (by decide) (by decide) (Gd.wk (k2 rfl) ⟨rfl, trivial⟩)
  by_cases q3 : xx = 3
  · subst q3; exact g_tswI (off := 62) (tgt := 72) dX10_look_10 (by decide) (by decide) (by decide) (by decide) (Gd.wk (k3 rfl) ⟨rfl, trivial⟩)
  by_cases q4 : xx = 4
  · subst q4; exact g_tswI (off := 70) (tgt := 80) dX10_look_10 (by decide) (by decide) (by decide) (by decide) (Gd.wk (k4 rfl) ⟨rfl, trivial⟩)
  by_cases q5 : xx = 5
  · subst q5; exact g_tswI (off := 78) (tgt := 88) dX10_look_10 (by decide) (by decide) (by decide) (by decide) (Gd.wk (k5 rfl) ⟨rfl, trivial⟩)
  have t0 : ¬ xx.toInt = 0 := fun z => q0 (Int32.toInt_inj.mp (z.trans (by decide)))
  have t1 : ¬ xx.toInt = 1 := fun z => q1 (Int32.toInt_inj.mp (z.trans (by decide)))
  have t2 : ¬ xx.toInt = 2 := fun z => q2 (Int32.toInt_inj.mp (z.trans (by decide)))
  have t3 : ¬ xx.toInt = 3 := fun z => q3 (Int32.toInt_inj.mp (z.trans (by decide)))
  have t4 : ¬ xx.toInt = 4 := fun z => q4 (Int32.toInt_inj.mp (z.trans (by decide)))
  have t5 : ¬ xx.toInt = 5 := fun z => q5 (Int32.toInt_inj.mp (z.trans (by decide)))
  exact g_tswO (tgt := 100) dX10_look_10 (by omega) (by decide) (Gd.wk (kd q0 q1 q2 q3 q4 q5) trivial)
theorem bkX10_look_48 {X : GX} {h : SH} {nc ns : Nat} {P : Out → SH → Prop} {a0 : Nat} {b1 : Nat} (F0 : LX10 (Sk h) (a0)) (q1 : hA h a0 4 = some b1) (F2 : LX3 (Sk h) (b1)) (hp : P (.inl (some (.int (hI h b1 0)))) (h)) : Gd X mX10_look 48 [some (.ref a0), none] [] h nc ns P := by
  refine g_aload_n dX10_look_48 rfl ?_
  refine g_getAs (c := 10) (k := 4) (b := b1) dX10_look_49 (by decide) (by decide) kw_244 rfl (LX10.o (h := h) F0) q1 ?_
  refine g_getNI (c := 3) (k := 0) dX10_look_52 (by decide) (by decide) kn_302 rfl (LX3.o (h := h) F2) ?_
  exact g_ireturn (st := []) dX10_look_55 rfl rfl hp
theorem bkX10_look_56 {X : GX} {h : SH} {nc ns : Nat} {P : Out → SH → Prop} {a0 : Nat} {b1 : Nat} (F0 : LX10 (Sk h) (a0)) (q1 : hA h a0 4 = some b1) (F2 : LX3 (Sk h) (b1)) (hp : P (.inl (some (.int (hI h b1 2)))) (h)) : Gd X mX10_look 56 [some (.ref a0), none] [] h nc ns P := by
  refine g_aload_n dX10_look_56 rfl ?_
  refine g_getAs (c := 10) (k := 4) (b := b1) dX10_look_57 (by decide) (by decide) kw_244 rfl (LX10.o (h := h) F0) q1 ?_
  refine g_getNI (c := 3) (k := 2) dX10_look_60 (by decide) (by decide) kn_308 rfl (LX3.o (h := h) F2) ?_
  exact g_ireturn (st := []) dX10_look_63 rfl rfl hp
theorem bkX10_look_64 {X : GX} {h : SH} {nc ns : Nat} {P : Out → SH → Prop} {a0 : Nat} {b1 : Nat} (F0 : LX10 (Sk h) (a0)) (q1 : hA h a0 4 = some b1) (F2 : LX3 (Sk h) (b1)) (hp : P (.inl (some (.int (hI h b1 7)))) (h)) : Gd X mX10_look 64 [some (.ref a0), none] [] h nc ns P := by
  refine g_aload_n dX10_look_64 rfl ?_
  refine g_getAs (c := 10) (k := 4) (b := b1) dX10_look_65 (by decide) (by decide) kw_244 rfl (LX10.o (h := h) F0) q1 ?_
  refine g_getNI (c := 3) (k := 7) dX10_look_68 (by decide) (by decide) kn_322 rfl (LX3.o (h := h) F2) ?_
  exact g_ireturn (st := []) dX10_look_71 rfl rfl hp
theorem bkX10_look_72 {X : GX} {h : SH} {nc ns : Nat} {P : Out → SH → Prop} {a0 : Nat} {b1 : Nat} (F0 : LX10 (Sk h) (a0)) (q1 : hA h a0 4 = some b1) (F2 : LX3 (Sk h) (b1)) (hp : P (.inl (some (.int (hI h b1 6)))) (h)) : Gd X mX10_look 72 [some (.ref a0), none] [] h nc ns P := by
  refine g_aload_n dX10_look_72 rfl ?_
  refine g_getAs (c := 10) (k := 4) (b := b1) dX10_look_73 (by decide) (by decide) kw_244 rfl (LX10.o (h := h) F0) q1 ?_
  refine g_getNI (c := 3) (k := 6) dX10_look_76 (by decide) (by decide) kn_317 rfl (LX3.o (h := h) F2) ?_
  exact g_ireturn (st := []) dX10_look_79 rfl rfl hp
theorem bkX10_look_80 {X : GX} {h : SH} {nc ns : Nat} {P : Out → SH → Prop} {a0 : Nat} {b1 : Nat} (F0 : LX10 (Sk h) (a0)) (q1 : hA h a0 4 = some b1) (F2 : LX3 (Sk h) (b1)) (hp : P (.inl (some (.int (hI h b1 1)))) (h)) : Gd X mX10_look 80 [some (.ref a0), none] [] h nc ns P := by
  refine g_aload_n dX10_look_80 rfl ?_
  refine g_getAs (c := 10) (k := 4) (b := b1) dX10_look_81 (by decide) (by decide) kw_244 rfl (LX10.o (h := h) F0) q1 ?_
  refine g_getNI (c := 3) (k := 1) dX10_look_84 (by decide) (by decide) kn_304 rfl (LX3.o (h := h) F2) ?_
  exact g_ireturn (st := []) dX10_look_87 rfl rfl hp
theorem bkX10_look_88 {X : GX} {h : SH} {nc ns : Nat} {P : Out → SH → Prop} {Q : Int32 → SH → Prop} {a0 : Nat} {b1 : Nat} (F0 : LX10 (Sk h) (a0)) (q1 : hA h a0 4 = some b1) (hN : Cd X mX1_worldOf [.ref (a0 + 3), .ref b1] (h) 0 0 (oI Q nX)) (g : ∀ r t, Q r t → Gd X mX10_look 99 [none, none] [.int r] (t) nc ns P) : Gd X mX10_look 88 [some (.ref a0), none] [] h nc ns P := by
  refine g_aload_n dX10_look_88 rfl ?_
  refine g_getAs (c := 10) (k := 5) (b := a0 + 3) dX10_look_89 (by decide) (by decide) kw_245 rfl (LX10.o (h := h) F0) (LX10.r_facts (h := h) F0) ?_
  refine g_aload_n dX10_look_92 rfl ?_
  refine g_getAs (c := 10) (k := 4) (b := b1) dX10_look_93 (by decide) (by decide) kw_244 rfl (LX10.o (h := h) F0) q1 ?_
  refine Gd.z ?_
  exact g_callV (k := 1) [.ref b1] dX10_look_96 mfX1_worldOf ⟨by decide, by decide⟩ kw_1066 kw_1067 kw_1068 rfl (by decide) (Nat.le_of_ble_eq_true rfl) (by intro x hx; cases hx) (LX1.o (h := h) (LX10.l_facts F0)) (Nat.le_of_ble_eq_true rfl) hN (fun _ _ q => q.elim) (oI_go (G := fun a b => Gd X mX10_look 99 _ a b nc ns P) (fun r t q => Gd.wk (g r t q) trivial))
theorem bkX10_look_99 {X : GX} {h : SH} {nc ns : Nat} {P : Out → SH → Prop} {xs0 : Int32} (hp : P (.inl (some (.int (xs0)))) (h)) : Gd X mX10_look 99 [none, none] [.int xs0] h nc ns P := by
  exact g_ireturn (st := []) dX10_look_99 rfl rfl hp
theorem bkX10_look_100 {X : GX} {h : SH} {nc ns : Nat} {P : Out → SH → Prop} (hp : P (.inl (some (.int ((-1))))) (h)) : Gd X mX10_look 100 [none, none] [] h nc ns P := by
  refine g_iconst (v := (-1)) dX10_look_100 (by decide) ?_
  exact g_ireturn (st := []) dX10_look_101 rfl rfl hp
theorem bkX10_told_0 {X : GX} {h : SH} {nc ns : Nat} {P : Out → SH → Prop} {a0 : Nat} {x1 : Int32} {x2 : Int32} (F0 : LX10 (Sk h) (a0)) (kt : (hA h a0 4) = none → Gd X mX10_told 27 [none, none, none] [] (h) nc ns P) (kf : ∀ z, (hA h a0 4) = some z → Gd X mX10_told 7 [some (.ref a0), some (.int x1), some (.int x2)] [] (h) nc ns P) : Gd X mX10_told 0 [some (.ref a0), some (.int x1), some (.int x2)] [] h nc ns P := by
  refine g_aload_n dX10_told_0 rfl ?_
  refine g_getA (c := 10) (k := 4) dX10_told_1 (by decide) (by decide) kw_244 rfl (LX10.o (h := h) F0) ?_
  exact g_ifnull (r := (hA h a0 4)) (tgt := 27) dX10_told_4 (by decide) (fun q => Gd.wk (kt q) trivial) (fun z q => Gd.wk (kf z q) ⟨rfl, ⟨rfl, ⟨rfl, trivial⟩⟩⟩)
theorem bkX10_told_7 {X : GX} {h : SH} {nc ns : Nat} {P : Out → SH → Prop} {Q : Int32 → SH → Prop} {a0 : Nat} {x1 : Int32} {x2 : Int32} {b3 : Nat} (F0 : LX10 (Sk h) (a0)) (q1 : hA h a0 4 = some b3) (F2 : LX3 (Sk h) (b3)) (hN : Cd X mX3_hasFact [.ref b3, .int x1] (h) 0 0 (oI Q nX)) (g : ∀ r t, Q r t → Gd X mX10_told 15 [some (.ref a0), some (.int x1), some (.int x2)] [.int r] (t) nc ns P) : Gd X mX10_told 7 [some (.ref a0), some (.int x1), some (.int x2)] [] h nc ns P := by
  refine g_aload_n dX10_told_7 rfl ?_
  refine g_getAs (c := 10) (k := 4) (b := b3) dX10_told_8 (by decide) (by decide) kw_244 rfl (LX10.o (h := h) F0) q1 ?_
  refine g_iload_n dX10_told_11 rfl ?_
  refine Gd.z ?_
  exact g_callV (k := 3) [.int x1] dX10_told_12 mfX3_hasFact ⟨by decide, by decide⟩ kw_903 kw_904 kw_905 rfl (by decide) (Nat.le_of_ble_eq_true rfl) (by intro x hx; cases hx) (LX3.o (h := h) F2) (Nat.le_of_ble_eq_true rfl) hN (fun _ _ q => q.elim) (oI_go (G := fun a b => Gd X mX10_told 15 _ a b nc ns P) (fun r t q => Gd.wk (g r t q) ⟨rfl, ⟨rfl, ⟨rfl, trivial⟩⟩⟩))
theorem bkX10_told_15 {X : GX} {h : SH} {nc ns : Nat} {P : Out → SH → Prop} {a0 : Nat} {x1 : Int32} {x2 : Int32} {xs0 : Int32} (kt : xs0 = 0 → Gd X mX10_told 27 [none, none, none] [] (h) nc ns P) (kf : ¬ xs0 = 0 → Gd X mX10_told 18 [some (.ref a0), some (.int x1), some (.int x2)] [] (h) nc ns P) : Gd X mX10_told 15 [some (.ref a0), some (.int x1), some (.int x2)] [.int xs0] h nc ns P := by
  exact g_if_eq (tgt := 27) dX10_told_15 (by decide) (fun q => Gd.wk (kt q) trivial) (fun q => Gd.wk (kf q) ⟨rfl, ⟨rfl, ⟨rfl, trivial⟩⟩⟩)
theorem bkX10_told_18 {X : GX} {h : SH} {nc ns : Nat} {P : Out → SH → Prop} {a0 : Nat} {x1 : Int32} {x2 : Int32} (kt : x2 < 0 → Gd X mX10_told 27 [none, none, none] [] (h) nc ns P) (kf : ¬ x2 < 0 → Gd X mX10_told 22 [some (.ref a0), some (.int x1), some (.int x2)] [] (h) nc ns P) : Gd X mX10_told 18 [some (.ref a0), some (.int x1), some (.int x2)] [] h nc ns P := by
  refine g_iload_n dX10_told_18 rfl ?_
  exact g_if_lt (tgt := 27) dX10_told_19 (by decide) (fun q => Gd.wk (kt q) trivial) (fun q => Gd.wk (kf q) ⟨rfl, ⟨rfl, ⟨rfl, trivial⟩⟩⟩)
theorem bkX10_told_22 {X : GX} {h : SH} {nc ns : Nat} {P : Out → SH → Prop} {a0 : Nat} {x1 : Int32} {x2 : Int32} (kt : x2 ≤ 2 → Gd X mX10_told 37 [some (.ref a0), some (.int x1), some (.int x2)] [] (h) nc ns P) (kf : ¬ x2 ≤ 2 → Gd X mX10_told 27 [none, none, none] [] (h) nc ns P) : Gd X mX10_told 22 [some (.ref a0), some (.int x1), some (.int x2)] [] h nc ns P := by
  refine g_iload_n dX10_told_22 rfl ?_
  refine g_iconst (v := 2) dX10_told_23 (by decide) ?_
  exact g_icmp_le (tgt := 37) dX10_told_24 (by decide) (fun q => Gd.wk (kt q) ⟨rfl, ⟨rfl, ⟨rfl, trivial⟩⟩⟩) (fun q => Gd.wk (kf q) trivial)
theorem bkX10_told_37 {X : GX} {h : SH} {nc ns : Nat} {P : Out → SH → Prop} {a0 : Nat} {x1 : Int32} {x2 : Int32} (kt : ¬ x2 = 0 → Gd X mX10_told 51 [some (.ref a0), some (.int x1), some (.int x2)] [] (h) nc ns P) (kf : x2 = 0 → Gd X mX10_told 41 [some (.ref a0), some (.int x1), none] [] (h) nc ns P) : Gd X mX10_told 37 [some (.ref a0), some (.int x1), some (.int x2)] [] h nc ns P := by
  refine g_iload_n dX10_told_37 rfl ?_
  exact g_if_ne (tgt := 51) dX10_told_38 (by decide) (fun q => Gd.wk (kt q) ⟨rfl, ⟨rfl, ⟨rfl, trivial⟩⟩⟩) (fun q => Gd.wk (kf q) ⟨rfl, ⟨rfl, trivial⟩⟩)
theorem bkX10_told_41 {X : GX} {h : SH} {nc ns : Nat} {P : Out → SH → Prop} {a0 : Nat} {x1 : Int32} {b2 : Nat} (F0 : LX10 (Sk h) (a0)) (q1 : hA h a0 4 = some b2) (F2 : LX3 (Sk h) (b2)) (i3 : vp_in (x1) 8) (hp : P (.inl (some (.int (hI h (b2 + 2) ((x1 : Int32).toNatClampNeg))))) (h)) : Gd X mX10_told 41 [some (.ref a0), some (.int x1), none] [] h nc ns P := by
  refine g_aload_n dX10_told_41 rfl ?_
  refine g_getAs (c := 10) (k := 4) (b := b2) dX10_told_42 (by decide) (by decide) kw_244 rfl (LX10.o (h := h) F0) q1 ?_
  refine g_getNAs (c := 3) (k := 4) (b := b2 + 2) dX10_told_45 (by decide) (by decide) kn_312 rfl (LX3.o (h := h) F2) (LX3.r_least (h := h) F2) ?_
  refine g_iload_n dX10_told_48 rfl ?_
  refine g_iaload dX10_told_49 (LX3.a_least (h := h) F2) i3 ?_
  exact g_ireturn (st := []) dX10_told_50 rfl rfl hp
theorem bkX10_told_51 {X : GX} {h : SH} {nc ns : Nat} {P : Out → SH → Prop} {a0 : Nat} {x1 : Int32} {x2 : Int32} (kt : ¬ x2 = 1 → Gd X mX10_told 68 [some (.ref a0), some (.int x1), none] [] (h) nc ns P) (kf : x2 = 1 → Gd X mX10_told 56 [some (.ref a0), some (.int x1), none] [] (h) nc ns P) : Gd X mX10_told 51 [some (.ref a0), some (.int x1), some (.int x2)] [] h nc ns P := by
  refine g_iload_n dX10_told_51 rfl ?_
  refine g_iconst (v := 1) dX10_told_52 (by decide) ?_
  exact g_icmp_ne (tgt := 68) dX10_told_53 (by decide) (fun q => Gd.wk (kt q) ⟨rfl, ⟨rfl, trivial⟩⟩) (fun q => Gd.wk (kf q) ⟨rfl, ⟨rfl, trivial⟩⟩)
theorem bkX10_told_56 {X : GX} {h : SH} {nc ns : Nat} {P : Out → SH → Prop} {a0 : Nat} {x1 : Int32} {b2 : Nat} (F0 : LX10 (Sk h) (a0)) (q1 : hA h a0 4 = some b2) (F2 : LX3 (Sk h) (b2)) (i3 : vp_in (x1) 8) (g : Gd X mX10_told 77 [none, none, none] [.int (hI h (b2 + 3) ((x1 : Int32).toNatClampNeg))] (h) nc ns P) : Gd X mX10_told 56 [some (.ref a0), some (.int x1), none] [] h nc ns P := by
  refine g_aload_n dX10_told_56 rfl ?_
  refine g_getAs (c := 10) (k := 4) (b := b2) dX10_told_57 (by decide) (by decide) kw_244 rfl (LX10.o (h := h) F0) q1 ?_
  refine g_getNAs (c := 3) (k := 5) (b := b2 + 3) dX10_told_60 (by decide) (by decide) kn_314 rfl (LX3.o (h := h) F2) (LX3.r_greatest (h := h) F2) ?_
  refine g_iload_n dX10_told_63 rfl ?_
  refine g_iaload dX10_told_64 (LX3.a_greatest (h := h) F2) i3 ?_
  refine g_goto (tgt := 77) dX10_told_65 (by decide) ?_
  exact Gd.wk g trivial
theorem bkX10_told_68 {X : GX} {h : SH} {nc ns : Nat} {P : Out → SH → Prop} {a0 : Nat} {x1 : Int32} (F0 : LX10 (Sk h) (a0)) (i1 : vp_in (x1) 8) (g : Gd X mX10_told 77 [none, none, none] [.int (hI h (a0 + 3 + 1) ((x1 : Int32).toNatClampNeg))] (h) nc ns P) : Gd X mX10_told 68 [some (.ref a0), some (.int x1), none] [] h nc ns P := by
  refine g_aload_n dX10_told_68 rfl ?_
  refine g_getAs (c := 10) (k := 5) (b := a0 + 3) dX10_told_69 (by decide) (by decide) kw_245 rfl (LX10.o (h := h) F0) (LX10.r_facts (h := h) F0) ?_
  refine g_getNAs (c := 1) (k := 0) (b := a0 + 3 + 1) dX10_told_72 (by decide) (by decide) kn_136 rfl (LX1.o (h := h) (LX10.l_facts F0)) (LX1.r_numbers (h := h) (LX10.l_facts F0)) ?_
  refine g_iload_n dX10_told_75 rfl ?_
  refine g_iaload dX10_told_76 (LX1.a_numbers (h := h) (LX10.l_facts F0)) i1 ?_
  exact Gd.wk g trivial
theorem bkX10_told_77 {X : GX} {h : SH} {nc ns : Nat} {P : Out → SH → Prop} {xs0 : Int32} (hp : P (.inl (some (.int (xs0)))) (h)) : Gd X mX10_told 77 [none, none, none] [.int xs0] h nc ns P := by
  exact g_ireturn (st := []) dX10_told_77 rfl rfl hp
theorem bkX10_count_0 {X : GX} {h : SH} {nc ns : Nat} {P : Out → SH → Prop} {a0 : Nat} {x1 : Int32} (k0 : x1 = 0 → Gd X mX10_count 28 [some (.ref a0), none] [] (h) nc ns P) (k1 : x1 = 1 → Gd X mX10_count 33 [some (.ref a0), none] [] (h) nc ns P) (k2 : x1 = 2 → Gd X mX10_count 38 [some (.ref a0), none] [] (h) nc ns P) (kd : ¬ x1 = 0 → ¬ x1 = 1 → ¬ x1 = 2 → Gd X mX10_count 46 [none, none] [] (h) nc ns P) : Gd X mX10_count 0 [some (.ref a0), some (.int x1)] [] h nc ns P := by
  refine g_iload_n dX10_count_0 rfl ?_
  generalize x1 = xx at *
  by_cases q0 : xx = 0
  · subst q0; exact g_tswI (off := 27) (tgt := 28) dX10_count_1 (by decide) (by decide) (by decide) (by decide) (Gd.wk (k0 rfl) ⟨rfl, trivial⟩)
  by_cases q1 : xx = 1
  · subst q1; exact g_tswI (off := 32) (tgt := 33) dX10_count_1 (by decide) (by decide) (by decide) (by decide) (Gd.wk (k1 rfl) ⟨rfl, trivial⟩)
  by_cases q2 : xx = 2
  · subst q2; exact g_tswI (off := 37) (tgt := 38) dX10_count_1 (by decide) (by decide) (by decide) (by decide) (Gd.wk (k2 rfl) ⟨rfl, trivial⟩)
  have t0 : ¬ xx.toInt = 0 := fun z => q0 (Int32.toInt_inj.mp (z.trans (by decide)))
  have t1 : ¬ xx.toInt = 1 := fun z => q1 (Int32.toInt_inj.mp (z.trans (by decide)))
  have t2 : ¬ xx.toInt = 2 := fun z => q2 (Int32.toInt_inj.mp (z.trans (by decide)))
  exact g_tswO (tgt := 46) dX10_count_1 (by omega) (by decide) (Gd.wk (kd q0 q1 q2) trivial)
theorem bkX10_count_28 {X : GX} {h : SH} {nc ns : Nat} {P : Out → SH → Prop} {a0 : Nat} (F0 : LX10 (Sk h) (a0)) (hp : P (.inl (some (.int (hI h a0 3)))) (h)) : Gd X mX10_count 28 [some (.ref a0), none] [] h nc ns P := by
  refine g_aload_n dX10_count_28 rfl ?_
  refine g_getI (c := 10) (k := 3) dX10_count_29 (by decide) (by decide) kw_243 rfl (LX10.o (h := h) F0) ?_
  exact g_ireturn (st := []) dX10_count_32 rfl rfl hp
theorem bkX10_count_33 {X : GX} {h : SH} {nc ns : Nat} {P : Out → SH → Prop} {a0 : Nat} (F0 : LX10 (Sk h) (a0)) (hp : P (.inl (some (.int (hI h a0 1)))) (h)) : Gd X mX10_count 33 [some (.ref a0), none] [] h nc ns P := by
  refine g_aload_n dX10_count_33 rfl ?_
  refine g_getI (c := 10) (k := 1) dX10_count_34 (by decide) (by decide) kw_241 rfl (LX10.o (h := h) F0) ?_
  exact g_ireturn (st := []) dX10_count_37 rfl rfl hp
theorem bkX10_count_38 {X : GX} {h : SH} {nc ns : Nat} {P : Out → SH → Prop} {a0 : Nat} (F0 : LX10 (Sk h) (a0)) (hp : P (.inl (some (.int (hI h (a0 + 6) 1)))) (h)) : Gd X mX10_count 38 [some (.ref a0), none] [] h nc ns P := by
  refine g_aload_n dX10_count_38 rfl ?_
  refine g_getAs (c := 10) (k := 6) (b := a0 + 6) dX10_count_39 (by decide) (by decide) kw_246 rfl (LX10.o (h := h) F0) (LX10.r_calendar (h := h) F0) ?_
  refine g_getNI (c := 0) (k := 1) dX10_count_42 (by decide) (by decide) kn_154 rfl (LX0.o (h := h) (LX10.l_calendar F0)) ?_
  exact g_ireturn (st := []) dX10_count_45 rfl rfl hp
theorem bkX10_count_46 {X : GX} {h : SH} {nc ns : Nat} {P : Out → SH → Prop} (hp : P (.inl (some (.int ((-1))))) (h)) : Gd X mX10_count 46 [none, none] [] h nc ns P := by
  refine g_iconst (v := (-1)) dX10_count_46 (by decide) ?_
  exact g_ireturn (st := []) dX10_count_47 rfl rfl hp
theorem bkX10_feedBytes_0 {X : GX} {h : SH} {nc ns : Nat} {P : Out → SH → Prop} {a0 : Nat} {y1 : Int64} (g : Gd X mX10_feedBytes 3 [some (.ref a0), some (.long y1), none, some (.int 56), none, none] [] (h) nc ns P) : Gd X mX10_feedBytes 0 [some (.ref a0), some (.long y1), none, none, none, none] [] h nc ns P := by
  refine g_bipush (v := 56) dX10_feedBytes_0 (by decide) ?_
  refine g_istore_n (L' := [some (.ref a0), some (.long y1), none, some (.int 56), none, none]) dX10_feedBytes_2 (by decide) rfl ?_
  exact Gd.wk g ⟨rfl, ⟨rfl, ⟨rfl, trivial⟩⟩⟩
theorem bkX10_feedBytes_3 {X : GX} {h : SH} {nc ns : Nat} {P : Out → SH → Prop} {a0 : Nat} {y1 : Int64} {x3 : Int32} (kt : x3 < 0 → Gd X mX10_feedBytes 88 [none, none, none, none, none, none] [] (h) nc ns P) (kf : ¬ x3 < 0 → Gd X mX10_feedBytes 7 [some (.ref a0), some (.long y1), none, some (.int x3), none, none] [] (h) nc ns P) : Gd X mX10_feedBytes 3 [some (.ref a0), some (.long y1), none, some (.int x3), none, none] [] h nc ns P := by
  refine g_iload_n dX10_feedBytes_3 rfl ?_
  exact g_if_lt (tgt := 88) dX10_feedBytes_4 (by decide) (fun q => Gd.wk (kt q) trivial) (fun q => Gd.wk (kf q) ⟨rfl, ⟨rfl, ⟨rfl, trivial⟩⟩⟩)
theorem bkX10_feedBytes_7 {X : GX} {h : SH} {nc ns : Nat} {P : Out → SH → Prop} {a0 : Nat} {y1 : Int64} {x3 : Int32} (kt : (((((y1 : Int64).toUInt64 >>> ((x3 : Int32).toInt64.toUInt64 &&& Int64.toUInt64 63)).toInt64 : Int64).toInt32) &&& 255) = 10 → Gd X mX10_feedBytes 38 [some (.ref a0), some (.long y1), none, some (.int x3), some (.int (((((y1 : Int64).toUInt64 >>> ((x3 : Int32).toInt64.toUInt64 &&& Int64.toUInt64 63)).toInt64 : Int64).toInt32) &&& 255)), none] [] (h) nc ns P) (kf : ¬ (((((y1 : Int64).toUInt64 >>> ((x3 : Int32).toInt64.toUInt64 &&& Int64.toUInt64 63)).toInt64 : Int64).toInt32) &&& 255) = 10 → Gd X mX10_feedBytes 24 [some (.ref a0), some (.long y1), none, some (.int x3), some (.int (((((y1 : Int64).toUInt64 >>> ((x3 : Int32).toInt64.toUInt64 &&& Int64.toUInt64 63)).toInt64 : Int64).toInt32) &&& 255)), none] [] (h) nc ns P) : Gd X mX10_feedBytes 7 [some (.ref a0), some (.long y1), none, some (.int x3), none, none] [] h nc ns P := by
  refine g_lload_n dX10_feedBytes_7 rfl ?_
  refine g_iload_n dX10_feedBytes_8 rfl ?_
  refine g_lushr dX10_feedBytes_9 ?_
  refine g_l2i dX10_feedBytes_10 ?_
  refine g_sipush (v := 255) dX10_feedBytes_11 (by decide) ?_
  refine g_iand dX10_feedBytes_14 ?_
  refine g_istore (L' := [some (.ref a0), some (.long y1), none, some (.int x3), some (.int (((((y1 : Int64).toUInt64 >>> ((x3 : Int32).toInt64.toUInt64 &&& Int64.toUInt64 63)).toInt64 : Int64).toInt32) &&& 255)), none]) dX10_feedBytes_15 (by decide) rfl ?_
  refine g_iload dX10_feedBytes_17 rfl ?_
  refine g_bipush (v := 10) dX10_feedBytes_19 (by decide) ?_
  exact g_icmp_eq (tgt := 38) dX10_feedBytes_21 (by decide) (fun q => Gd.wk (kt q) ⟨rfl, ⟨rfl, ⟨rfl, ⟨rfl, trivial⟩⟩⟩⟩) (fun q => Gd.wk (kf q) ⟨rfl, ⟨rfl, ⟨rfl, ⟨rfl, trivial⟩⟩⟩⟩)
theorem bkX10_feedBytes_24 {X : GX} {h : SH} {nc ns : Nat} {P : Out → SH → Prop} {a0 : Nat} {y1 : Int64} {x3 : Int32} {x4 : Int32} (kt : x4 < 32 → Gd X mX10_feedBytes 42 [some (.ref a0), some (.long y1), none, some (.int x3), some (.int x4), none] [] (h) nc ns P) (kf : ¬ x4 < 32 → Gd X mX10_feedBytes 31 [some (.ref a0), some (.long y1), none, some (.int x3), some (.int x4), none] [] (h) nc ns P) : Gd X mX10_feedBytes 24 [some (.ref a0), some (.long y1), none, some (.int x3), some (.int x4), none] [] h nc ns P := by
  refine g_iload dX10_feedBytes_24 rfl ?_
  refine g_bipush (v := 32) dX10_feedBytes_26 (by decide) ?_
  exact g_icmp_lt (tgt := 42) dX10_feedBytes_28 (by decide) (fun q => Gd.wk (kt q) ⟨rfl, ⟨rfl, ⟨rfl, ⟨rfl, trivial⟩⟩⟩⟩) (fun q => Gd.wk (kf q) ⟨rfl, ⟨rfl, ⟨rfl, ⟨rfl, trivial⟩⟩⟩⟩)
theorem bkX10_feedBytes_31 {X : GX} {h : SH} {nc ns : Nat} {P : Out → SH → Prop} {a0 : Nat} {y1 : Int64} {x3 : Int32} {x4 : Int32} (kt : (126 : Int32) < x4 → Gd X mX10_feedBytes 42 [some (.ref a0), some (.long y1), none, some (.int x3), some (.int x4), none] [] (h) nc ns P) (kf : ¬ (126 : Int32) < x4 → Gd X mX10_feedBytes 38 [some (.ref a0), some (.long y1), none, some (.int x3), some (.int x4), none] [] (h) nc ns P) : Gd X mX10_feedBytes 31 [some (.ref a0), some (.long y1), none, some (.int x3), some (.int x4), none] [] h nc ns P := by
  refine g_iload dX10_feedBytes_31 rfl ?_
  refine g_bipush (v := 126) dX10_feedBytes_33 (by decide) ?_
  exact g_icmp_gt (tgt := 42) dX10_feedBytes_35 (by decide) (fun q => Gd.wk (kt q) ⟨rfl, ⟨rfl, ⟨rfl, ⟨rfl, trivial⟩⟩⟩⟩) (fun q => Gd.wk (kf q) ⟨rfl, ⟨rfl, ⟨rfl, ⟨rfl, trivial⟩⟩⟩⟩)
theorem bkX10_feedBytes_38 {X : GX} {h : SH} {nc ns : Nat} {P : Out → SH → Prop} {a0 : Nat} {y1 : Int64} {x3 : Int32} {x4 : Int32} (g : Gd X mX10_feedBytes 43 [some (.ref a0), some (.long y1), none, some (.int x3), some (.int x4), none] [.int 1] (h) nc ns P) : Gd X mX10_feedBytes 38 [some (.ref a0), some (.long y1), none, some (.int x3), some (.int x4), none] [] h nc ns P := by
  refine g_iconst (v := 1) dX10_feedBytes_38 (by decide) ?_
  refine g_goto (tgt := 43) dX10_feedBytes_39 (by decide) ?_
  exact Gd.wk g ⟨rfl, ⟨rfl, ⟨rfl, ⟨rfl, trivial⟩⟩⟩⟩
theorem bkX10_feedBytes_42 {X : GX} {h : SH} {nc ns : Nat} {P : Out → SH → Prop} {a0 : Nat} {y1 : Int64} {x3 : Int32} {x4 : Int32} (g : Gd X mX10_feedBytes 43 [some (.ref a0), some (.long y1), none, some (.int x3), some (.int x4), none] [.int 0] (h) nc ns P) : Gd X mX10_feedBytes 42 [some (.ref a0), some (.long y1), none, some (.int x3), some (.int x4), none] [] h nc ns P := by
  refine g_iconst (v := 0) dX10_feedBytes_42 (by decide) ?_
  exact Gd.wk g ⟨rfl, ⟨rfl, ⟨rfl, ⟨rfl, trivial⟩⟩⟩⟩
theorem bkX10_feedBytes_43 {X : GX} {h : SH} {nc ns : Nat} {P : Out → SH → Prop} {a0 : Nat} {y1 : Int64} {x3 : Int32} {x4 : Int32} {xs0 : Int32} (kt : xs0 = 0 → Gd X mX10_feedBytes 82 [some (.ref a0), some (.long y1), none, some (.int x3), none, none] [] (h) nc ns P) (kf : ¬ xs0 = 0 → Gd X mX10_feedBytes 50 [some (.ref a0), some (.long y1), none, some (.int x3), some (.int x4), none] [] (h) nc ns P) : Gd X mX10_feedBytes 43 [some (.ref a0), some (.long y1), none, some (.int x3), some (.int x4), none] [.int xs0] h nc ns P := by
  refine g_istore (L' := [some (.ref a0), some (.long y1), none, some (.int x3), some (.int x4), some (.int xs0)]) dX10_feedBytes_43 (by decide) rfl ?_
  refine g_iload dX10_feedBytes_45 rfl ?_
  exact g_if_eq (tgt := 82) dX10_feedBytes_47 (by decide) (fun q => Gd.wk (kt q) ⟨rfl, ⟨rfl, ⟨rfl, trivial⟩⟩⟩) (fun q => Gd.wk (kf q) ⟨rfl, ⟨rfl, ⟨rfl, ⟨rfl, trivial⟩⟩⟩⟩)
theorem bkX10_feedBytes_50 {X : GX} {h : SH} {nc ns : Nat} {P : Out → SH → Prop} {a0 : Nat} {y1 : Int64} {x3 : Int32} {x4 : Int32} (F0 : LX10 (Sk h) (a0)) (kt : (2400 : Int32) ≤ hI h a0 1 → Gd X mX10_feedBytes 82 [some (.ref a0), some (.long y1), none, some (.int x3), none, none] [] (h) nc ns P) (kf : ¬ (2400 : Int32) ≤ hI h a0 1 → Gd X mX10_feedBytes 60 [some (.ref a0), some (.long y1), none, some (.int x3), some (.int x4), none] [] (h) nc ns P) : Gd X mX10_feedBytes 50 [some (.ref a0), some (.long y1), none, some (.int x3), some (.int x4), none] [] h nc ns P := by
  refine g_aload_n dX10_feedBytes_50 rfl ?_
  refine g_getI (c := 10) (k := 1) dX10_feedBytes_51 (by decide) (by decide) kw_241 rfl (LX10.o (h := h) F0) ?_
  refine g_sipush (v := 2400) dX10_feedBytes_54 (by decide) ?_
  exact g_icmp_ge (tgt := 82) dX10_feedBytes_57 (by decide) (fun q => Gd.wk (kt q) ⟨rfl, ⟨rfl, ⟨rfl, trivial⟩⟩⟩) (fun q => Gd.wk (kf q) ⟨rfl, ⟨rfl, ⟨rfl, ⟨rfl, trivial⟩⟩⟩⟩)
theorem bkX10_feedBytes_60 {X : GX} {h : SH} {nc ns : Nat} {P : Out → SH → Prop} {a0 : Nat} {y1 : Int64} {x3 : Int32} {x4 : Int32} (F0 : LX10 (Sk h) (a0)) (i1 : vp_in (hI h a0 1) 2400) (g : Gd X mX10_feedBytes 82 [some (.ref a0), some (.long y1), none, some (.int x3), none, none] [] (sI (sI h (a0 + 1) ((hI h a0 1 : Int32).toNatClampNeg) (vp_nar .byte ((x4 : Int32).toInt8.toInt32))) a0 1 ((hI (sI h (a0 + 1) ((hI h a0 1 : Int32).toNatClampNeg) (vp_nar .byte ((x4 : Int32).toInt8.toInt32))) a0 1) + 1)) nc ns P) : Gd X mX10_feedBytes 60 [some (.ref a0), some (.long y1), none, some (.int x3), some (.int x4), none] [] h nc ns P := by
  refine g_aload_n dX10_feedBytes_60 rfl ?_
  refine g_getAs (c := 10) (k := 0) (b := a0 + 1) dX10_feedBytes_61 (by decide) (by decide) kw_240 rfl (LX10.o (h := h) F0) (LX10.r_tape (h := h) F0) ?_
  refine g_aload_n dX10_feedBytes_64 rfl ?_
  refine g_getI (c := 10) (k := 1) dX10_feedBytes_65 (by decide) (by decide) kw_241 rfl (LX10.o (h := h) F0) ?_
  refine g_iload dX10_feedBytes_68 rfl ?_
  refine g_i2b dX10_feedBytes_70 ?_
  refine g_bastore dX10_feedBytes_71 (LX10.a_tape (h := h) F0) i1 ?_
  refine g_aload_n dX10_feedBytes_72 rfl ?_
  refine g_dup dX10_feedBytes_73 rfl ?_
  refine g_getI (c := 10) (k := 1) dX10_feedBytes_74 (by decide) (by decide) kw_241 rfl (LX10.o (h := sI h (a0 + 1) ((hI h a0 1 : Int32).toNatClampNeg) (vp_nar .byte ((x4 : Int32).toInt8.toInt32))) F0) ?_
  refine g_iconst (v := 1) dX10_feedBytes_77 (by decide) ?_
  refine g_iadd dX10_feedBytes_78 ?_
  refine g_put (c := 10) (k := 1) (h1 := sI (sI h (a0 + 1) ((hI h a0 1 : Int32).toNatClampNeg) (vp_nar .byte ((x4 : Int32).toInt8.toInt32))) a0 1 ((hI (sI h (a0 + 1) ((hI h a0 1 : Int32).toNatClampNeg) (vp_nar .byte ((x4 : Int32).toInt8.toInt32))) a0 1) + 1)) dX10_feedBytes_79 (by decide) (by decide) kw_241 rfl (LX10.o (h := sI h (a0 + 1) ((hI h a0 1 : Int32).toNatClampNeg) (vp_nar .byte ((x4 : Int32).toInt8.toInt32))) F0) rfl rfl (Put.I rfl) ?_
  exact Gd.wk g ⟨rfl, ⟨rfl, ⟨rfl, trivial⟩⟩⟩
theorem bkX10_feedBytes_82 {X : GX} {h : SH} {nc ns : Nat} {P : Out → SH → Prop} {a0 : Nat} {y1 : Int64} {x3 : Int32} (g : Gd X mX10_feedBytes 3 [some (.ref a0), some (.long y1), none, some (.int (x3 + (-8))), none, none] [] (h) nc ns P) : Gd X mX10_feedBytes 82 [some (.ref a0), some (.long y1), none, some (.int x3), none, none] [] h nc ns P := by
  refine g_iinc (v := x3 + (-8)) (L' := [some (.ref a0), some (.long y1), none, some (.int (x3 + (-8))), none, none]) dX10_feedBytes_82 rfl rfl (by decide) rfl ?_
  refine g_goto (tgt := 3) dX10_feedBytes_85 (by decide) ?_
  exact Gd.wk g ⟨rfl, ⟨rfl, ⟨rfl, trivial⟩⟩⟩
theorem bkX10_feedBytes_88 {X : GX} {h : SH} {nc ns : Nat} {P : Out → SH → Prop} (hp : P (.inl (none)) (h)) : Gd X mX10_feedBytes 88 [none, none, none, none, none, none] [] h nc ns P := by
  exact g_return (st := []) dX10_feedBytes_88 rfl hp
theorem bkX10_takeInHand_0 {X : GX} {h : SH} {nc ns : Nat} {P : Out → SH → Prop} {a0 : Nat} {a1 : Nat} (F0 : LX10 (Sk h) (a0)) (g : Gd X mX10_takeInHand 5 [some (.ref a0), some (.ref a1)] [] (sA h a0 4 (some (a1))) nc ns P) : Gd X mX10_takeInHand 0 [some (.ref a0), some (.ref a1)] [] h nc ns P := by
  refine g_aload_n dX10_takeInHand_0 rfl ?_
  refine g_aload_n dX10_takeInHand_1 rfl ?_
  refine g_put (c := 10) (k := 4) (v := va_rf (some (a1))) (h1 := sA h a0 4 (some (a1))) dX10_takeInHand_2 (by decide) (by decide) kw_244 rfl (LX10.o (h := h) F0) (rf_n rfl) (rf_f rfl) (Put.A rfl) ?_
  exact Gd.wk g ⟨rfl, ⟨rfl, trivial⟩⟩
theorem bkX10_takeInHand_14 {X : GX} {h : SH} {nc ns : Nat} {P : Out → SH → Prop} (hp : P (.inl (none)) (h)) : Gd X mX10_takeInHand 14 [none, none] [] h nc ns P := by
  exact g_return (st := []) dX10_takeInHand_14 rfl hp
theorem bkX10_takeInHand_5 {X : GX} {h : SH} {nc ns : Nat} {P : Out → SH → Prop} {Q : SH → Prop} {a0 : Nat} {a1 : Nat} (F0 : LX10 (Sk h) (a0)) (hN : Cd X mX1_setWorld [.ref (a0 + 3), .ref a1, .int 0] (h) 0 0 (oV Q nX)) (g : ∀ t, Q t → Gd X mX10_takeInHand 14 [none, none] [] (t) nc ns P) : Gd X mX10_takeInHand 5 [some (.ref a0), some (.ref a1)] [] h nc ns P := by
  refine g_aload_n dX10_takeInHand_5 rfl ?_
  refine g_getAs (c := 10) (k := 5) (b := a0 + 3) dX10_takeInHand_6 (by decide) (by decide) kw_245 rfl (LX10.o (h := h) F0) (LX10.r_facts (h := h) F0) ?_
  refine g_aload_n dX10_takeInHand_9 rfl ?_
  refine g_iconst (v := 0) dX10_takeInHand_10 (by decide) ?_
  refine Gd.z ?_
  exact g_callV (k := 1) [.ref a1, .int 0] dX10_takeInHand_11 mfX1_setWorld ⟨by decide, by decide⟩ kw_886 kw_887 kw_888 rfl (by decide) (Nat.le_of_ble_eq_true rfl) (by intro x hx; cases hx) (LX1.o (h := h) (LX10.l_facts F0)) (Nat.le_of_ble_eq_true rfl) hN (fun _ _ q => q.elim) (oV_go (G := fun a b => Gd X mX10_takeInHand 14 _ a b nc ns P) (fun t q => Gd.wk (g t q) trivial))
theorem bkX10_editionAt_0 {X : GX} {h : SH} {nc ns : Nat} {P : Out → SH → Prop} {a0 : Nat} {x1 : Int32} (kt : x1 < 0 → Gd X mX10_editionAt 12 [none, none] [] (h) nc ns P) (kf : ¬ x1 < 0 → Gd X mX10_editionAt 4 [some (.ref a0), some (.int x1)] [] (h) nc ns P) : Gd X mX10_editionAt 0 [some (.ref a0), some (.int x1)] [] h nc ns P := by
  refine g_iload_n dX10_editionAt_0 rfl ?_
  exact g_if_lt (tgt := 12) dX10_editionAt_1 (by decide) (fun q => Gd.wk (kt q) trivial) (fun q => Gd.wk (kf q) ⟨rfl, ⟨rfl, trivial⟩⟩)
theorem bkX10_editionAt_4 {X : GX} {h : SH} {nc ns : Nat} {P : Out → SH → Prop} {a0 : Nat} {x1 : Int32} (F0 : LX10 (Sk h) (a0)) (kt : x1 < hI h a0 3 → Gd X mX10_editionAt 16 [some (.ref a0), some (.int x1)] [] (h) nc ns P) (kf : ¬ x1 < hI h a0 3 → Gd X mX10_editionAt 12 [none, none] [] (h) nc ns P) : Gd X mX10_editionAt 4 [some (.ref a0), some (.int x1)] [] h nc ns P := by
  refine g_iload_n dX10_editionAt_4 rfl ?_
  refine g_aload_n dX10_editionAt_5 rfl ?_
  refine g_getI (c := 10) (k := 3) dX10_editionAt_6 (by decide) (by decide) kw_243 rfl (LX10.o (h := h) F0) ?_
  exact g_icmp_lt (tgt := 16) dX10_editionAt_9 (by decide) (fun q => Gd.wk (kt q) ⟨rfl, ⟨rfl, trivial⟩⟩) (fun q => Gd.wk (kf q) trivial)
theorem bkX10_editionAt_12 {X : GX} {h : SH} {nc ns : Nat} {P : Out → SH → Prop} (g : Gd X mX10_editionAt 22 [none, none] [.null] (h) nc ns P) : Gd X mX10_editionAt 12 [none, none] [] h nc ns P := by
  refine g_null dX10_editionAt_12 ?_
  refine g_goto (tgt := 22) dX10_editionAt_13 (by decide) ?_
  exact Gd.wk g trivial
theorem bkX10_editionAt_16 {X : GX} {h : SH} {nc ns : Nat} {P : Out → SH → Prop} {a0 : Nat} {x1 : Int32} (F0 : LX10 (Sk h) (a0)) (i1 : vp_in (x1) 6) (g : Gd X mX10_editionAt 22 [none, none] [va_rf (hA h (a0 + 2) ((x1 : Int32).toNatClampNeg))] (h) nc ns P) : Gd X mX10_editionAt 16 [some (.ref a0), some (.int x1)] [] h nc ns P := by
  refine g_aload_n dX10_editionAt_16 rfl ?_
  refine g_getAs (c := 10) (k := 2) (b := a0 + 2) dX10_editionAt_17 (by decide) (by decide) kw_242 rfl (LX10.o (h := h) F0) (LX10.r_editions (h := h) F0) ?_
  refine g_iload_n dX10_editionAt_20 rfl ?_
  refine g_aaload (k := 24) dX10_editionAt_21 (by decide) (by decide) (LX10.a_editions (h := h) F0) i1 ?_
  exact Gd.wk g trivial
theorem bkX10_editionAt_22 {X : GX} {h : SH} {nc ns : Nat} {P : Out → SH → Prop} {rs0 : Option Nat} (hp : P (.inl (some (va_rf rs0))) (h)) : Gd X mX10_editionAt 22 [none, none] [va_rf rs0] h nc ns P := by
  exact g_areturn (st := []) (r := (rs0)) dX10_editionAt_22 rfl (Or.inl ⟨_, rfl⟩) hp
theorem bkX10_latestStart_0 {X : GX} {h : SH} {nc ns : Nat} {P : Out → SH → Prop} {Q : Option Nat → SH → Prop} {a0 : Nat} (F0 : LX10 (Sk h) (a0)) (hN : Cd X mX10_editionAt [.ref a0, .int (hI h a0 3 - 1)] (h) 0 0 (oA Q nX)) (g : ∀ r t, Q r t → Gd X mX10_latestStart 10 [none, none] [va_rf r] (t) nc ns P) : Gd X mX10_latestStart 0 [some (.ref a0), none] [] h nc ns P := by
  refine g_aload_n dX10_latestStart_0 rfl ?_
  refine g_aload_n dX10_latestStart_1 rfl ?_
  refine g_getI (c := 10) (k := 3) dX10_latestStart_2 (by decide) (by decide) kw_243 rfl (LX10.o (h := h) F0) ?_
  refine g_iconst (v := 1) dX10_latestStart_5 (by decide) ?_
  refine g_isub dX10_latestStart_6 ?_
  refine Gd.z ?_
  exact g_callV (k := 10) [.int (hI h a0 3 - 1)] dX10_latestStart_7 mfX10_editionAt ⟨by decide, by decide⟩ kw_290 kw_292 kw_2 rfl (by decide) (Nat.le_of_ble_eq_true rfl) (by intro x hx; cases hx) (LX10.o (h := h) F0) (Nat.le_of_ble_eq_true rfl) hN (fun _ _ q => q.elim) (oA_go (G := fun a b => Gd X mX10_latestStart 10 _ a b nc ns P) (fun r t q => Gd.wk (g r t q) trivial))
theorem bkX10_latestStart_10 {X : GX} {h : SH} {nc ns : Nat} {P : Out → SH → Prop} {rs0 : Option Nat} (kt : ∀ z, (rs0) = some z → Gd X mX10_latestStart 19 [none, some (va_rf rs0)] [] (h) nc ns P) (kf : (rs0) = none → Gd X mX10_latestStart 15 [none, none] [] (h) nc ns P) : Gd X mX10_latestStart 10 [none, none] [va_rf rs0] h nc ns P := by
  refine g_astore_n (r := (rs0)) (L' := [none, some (va_rf rs0)]) dX10_latestStart_10 (by decide) rfl ?_
  refine g_aload_nq (r := (rs0)) dX10_latestStart_11 rfl ?_
  exact g_ifnonnull (r := (rs0)) (tgt := 19) dX10_latestStart_12 (by decide) (fun z q => Gd.wk (kt z q) ⟨rfl, trivial⟩) (fun q => Gd.wk (kf q) trivial)
theorem bkX10_latestStart_15 {X : GX} {h : SH} {nc ns : Nat} {P : Out → SH → Prop} (g : Gd X mX10_latestStart 23 [none, none] [.int ((-1))] (h) nc ns P) : Gd X mX10_latestStart 15 [none, none] [] h nc ns P := by
  refine g_iconst (v := (-1)) dX10_latestStart_15 (by decide) ?_
  refine g_goto (tgt := 23) dX10_latestStart_16 (by decide) ?_
  exact Gd.wk g trivial
theorem bkX10_latestStart_19 {X : GX} {h : SH} {nc ns : Nat} {P : Out → SH → Prop} {a1 : Nat} (F0 : LX3 (Sk h) (a1)) (g : Gd X mX10_latestStart 23 [none, none] [.int (hI h a1 1)] (h) nc ns P) : Gd X mX10_latestStart 19 [none, some (.ref a1)] [] h nc ns P := by
  refine g_aload_n dX10_latestStart_19 rfl ?_
  refine g_getNI (c := 3) (k := 1) dX10_latestStart_20 (by decide) (by decide) kn_304 rfl (LX3.o (h := h) F0) ?_
  exact Gd.wk g trivial
theorem bkX10_latestStart_23 {X : GX} {h : SH} {nc ns : Nat} {P : Out → SH → Prop} {xs0 : Int32} (hp : P (.inl (some (.int (xs0)))) (h)) : Gd X mX10_latestStart 23 [none, none] [.int xs0] h nc ns P := by
  exact g_ireturn (st := []) dX10_latestStart_23 rfl rfl hp
theorem bkX10_isDay_0 {X : GX} {h : SH} {nc ns : Nat} {P : Out → SH → Prop} {x0 : Int32} (kt : x0 < 0 → Gd X mX10_isDay 15 [none] [] (h) nc ns P) (kf : ¬ x0 < 0 → Gd X mX10_isDay 4 [some (.int x0)] [] (h) nc ns P) : Gd X mX10_isDay 0 [some (.int x0)] [] h nc ns P := by
  refine g_iload_n dX10_isDay_0 rfl ?_
  exact g_if_lt (tgt := 15) dX10_isDay_1 (by decide) (fun q => Gd.wk (kt q) trivial) (fun q => Gd.wk (kf q) ⟨rfl, trivial⟩)
theorem bkX10_isDay_4 {X : GX} {h : SH} {nc ns : Nat} {P : Out → SH → Prop} {x0 : Int32} (kt : (9999 : Int32) < x0 → Gd X mX10_isDay 15 [none] [] (h) nc ns P) (kf : ¬ (9999 : Int32) < x0 → Gd X mX10_isDay 11 [none] [] (h) nc ns P) : Gd X mX10_isDay 4 [some (.int x0)] [] h nc ns P := by
  refine g_iload_n dX10_isDay_4 rfl ?_
  refine g_sipush (v := 9999) dX10_isDay_5 (by decide) ?_
  exact g_icmp_gt (tgt := 15) dX10_isDay_8 (by decide) (fun q => Gd.wk (kt q) trivial) (fun q => Gd.wk (kf q) trivial)
theorem bkX10_isDay_11 {X : GX} {h : SH} {nc ns : Nat} {P : Out → SH → Prop} (g : Gd X mX10_isDay 16 [none] [.int 1] (h) nc ns P) : Gd X mX10_isDay 11 [none] [] h nc ns P := by
  refine g_iconst (v := 1) dX10_isDay_11 (by decide) ?_
  refine g_goto (tgt := 16) dX10_isDay_12 (by decide) ?_
  exact Gd.wk g trivial
theorem bkX10_isDay_15 {X : GX} {h : SH} {nc ns : Nat} {P : Out → SH → Prop} (g : Gd X mX10_isDay 16 [none] [.int 0] (h) nc ns P) : Gd X mX10_isDay 15 [none] [] h nc ns P := by
  refine g_iconst (v := 0) dX10_isDay_15 (by decide) ?_
  exact Gd.wk g trivial
theorem bkX10_isDay_16 {X : GX} {h : SH} {nc ns : Nat} {P : Out → SH → Prop} {xs0 : Int32} (w0 : xs0 = 0 ∨ xs0 = 1) (hp : P (.inl (some (.int (xs0)))) (h)) : Gd X mX10_isDay 16 [none] [.int xs0] h nc ns P := by
  exact g_ireturn (st := []) dX10_isDay_16 rfl (bl_n w0) hp
