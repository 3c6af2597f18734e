theorem bkX11_haveSameFacts_20 {X : GX} {h : SH} {nc ns : Nat} {P : Out → SH → Prop} {a0 : Nat} {x1 : Int32} {x2 : Int32} {xs0 : Int32} (g : Gd X mX11_haveSameFacts 24 [some (.ref a0), some (.int x1), some (.int x2), some (.int xs0), some (.int 0)] [] (h) nc ns P) : Gd X mX11_haveSameFacts 20 [some (.ref a0), some (.int x1), some (.int x2), none, none] [.int xs0] h nc ns P := by
  refine g_istore_n (L' := [some (.ref a0), some (.int x1), some (.int x2), some (.int xs0), none]) dX11_haveSameFacts_20 (by decide) rfl ?_
  refine g_iconst (v := 0) dX11_haveSameFacts_21 (by decide) ?_
  refine g_istore (L' := [some (.ref a0), some (.int x1), some (.int x2), some (.int xs0), some (.int 0)]) dX11_haveSameFacts_22 (by decide) rfl ?_
  exact Gd.wk g ⟨rfl, ⟨rfl, ⟨rfl, ⟨rfl, ⟨rfl, trivial⟩⟩⟩⟩⟩
theorem bkX11_haveSameFacts_24 {X : GX} {h : SH} {nc ns : Nat} {P : Out → SH → Prop} {a0 : Nat} {x1 : Int32} {x2 : Int32} {x3 : Int32} {x4 : Int32} (F0 : LX11 (Sk h) (a0)) (i1 : vp_in (x1) 7) (kt : (hI h (a0 + 7) ((x1 : Int32).toNatClampNeg)) ≤ x4 → Gd X mX11_haveSameFacts 133 [none, none, none, some (.int x3), none] [] (h) nc ns P) (kf : ¬ (hI h (a0 + 7) ((x1 : Int32).toNatClampNeg)) ≤ x4 → Gd X mX11_haveSameFacts 35 [some (.ref a0), some (.int x1), some (.int x2), some (.int x3), some (.int x4)] [] (h) nc ns P) : Gd X mX11_haveSameFacts 24 [some (.ref a0), some (.int x1), some (.int x2), some (.int x3), some (.int x4)] [] h nc ns P := by
  refine g_iload dX11_haveSameFacts_24 rfl ?_
  refine g_aload_n dX11_haveSameFacts_26 rfl ?_
  refine g_getAs (c := 11) (k := 12) (b := a0 + 7) dX11_haveSameFacts_27 (by decide) (by decide) kw_1139 rfl (LX11.o (h := h) F0) (LX11.r_facts (h := h) F0) ?_
  refine g_iload_n dX11_haveSameFacts_30 rfl ?_
  refine g_iaload dX11_haveSameFacts_31 (LX11.a_facts (h := h) F0) i1 ?_
  exact g_icmp_ge (tgt := 133) dX11_haveSameFacts_32 (by decide) (fun q => Gd.wk (kt q) ⟨rfl, trivial⟩) (fun q => Gd.wk (kf q) ⟨rfl, ⟨rfl, ⟨rfl, ⟨rfl, ⟨rfl, trivial⟩⟩⟩⟩⟩)
theorem bkX11_haveSameFacts_35 {X : GX} {h : SH} {nc ns : Nat} {P : Out → SH → Prop} {a0 : Nat} {x1 : Int32} {x2 : Int32} {x3 : Int32} {x4 : Int32} (kt : x3 = 0 → Gd X mX11_haveSameFacts 133 [none, none, none, some (.int x3), none] [] (h) nc ns P) (kf : ¬ x3 = 0 → Gd X mX11_haveSameFacts 39 [some (.ref a0), some (.int x1), some (.int x2), none, some (.int x4)] [] (h) nc ns P) : Gd X mX11_haveSameFacts 35 [some (.ref a0), some (.int x1), some (.int x2), some (.int x3), some (.int x4)] [] h nc ns P := by
  refine g_iload_n dX11_haveSameFacts_35 rfl ?_
  exact g_if_eq (tgt := 133) dX11_haveSameFacts_36 (by decide) (fun q => Gd.wk (kt q) ⟨rfl, trivial⟩) (fun q => Gd.wk (kf q) ⟨rfl, ⟨rfl, ⟨rfl, ⟨rfl, trivial⟩⟩⟩⟩)
theorem bkX11_haveSameFacts_39 {X : GX} {h : SH} {nc ns : Nat} {P : Out → SH → Prop} {a0 : Nat} {x1 : Int32} {x2 : Int32} {x4 : Int32} (F0 : LX11 (Sk h) (a0)) (i1 : vp_in ((8 * x1) + x4) 56) (i2 : vp_in ((8 * x2) + x4) 56) (kt : ¬ (lg_cmp (hJ h (a0 + 8) (((8 * x1) + x4 : Int32).toNatClampNeg)) (hJ h (a0 + 8) (((8 * x2) + x4 : Int32).toNatClampNeg))) = 0 → Gd X mX11_haveSameFacts 125 [some (.ref a0), some (.int x1), some (.int x2), none, some (.int x4)] [] (h) nc ns P) (kf : (lg_cmp (hJ h (a0 + 8) (((8 * x1) + x4 : Int32).toNatClampNeg)) (hJ h (a0 + 8) (((8 * x2) + x4 : Int32).toNatClampNeg))) = 0 → Gd X mX11_haveSameFacts 67 [some (.ref a0), some (.int x1), some (.int x2), none, some (.int x4)] [] (h) nc ns P) : Gd X mX11_haveSameFacts 39 [some (.ref a0), some (.int x1), some (.int x2), none, some (.int x4)] [] h nc ns P := by
  refine g_aload_n dX11_haveSameFacts_39 rfl ?_
  refine g_getAs (c := 11) (k := 13) (b := a0 + 8) dX11_haveSameFacts_40 (by decide) (by decide) kw_1140 rfl (LX11.o (h := h) F0) (LX11.r_factName (h := h) F0) ?_
  refine g_bipush (v := 8) dX11_haveSameFacts_43 (by decide) ?_
  refine g_iload_n dX11_haveSameFacts_45 rfl ?_
  refine g_imul dX11_haveSameFacts_46 ?_
  refine g_iload dX11_haveSameFacts_47 rfl ?_
  refine g_iadd dX11_haveSameFacts_49 ?_
  refine g_laload dX11_haveSameFacts_50 (LX11.a_factName (h := h) F0) i1 ?_
  refine g_aload_n dX11_haveSameFacts_51 rfl ?_
  refine g_getAs (c := 11) (k := 13) (b := a0 + 8) dX11_haveSameFacts_52 (by decide) (by decide) kw_1140 rfl (LX11.o (h := h) F0) (LX11.r_factName (h := h) F0) ?_
  refine g_bipush (v := 8) dX11_haveSameFacts_55 (by decide) ?_
  refine g_iload_n dX11_haveSameFacts_57 rfl ?_
  refine g_imul dX11_haveSameFacts_58 ?_
  refine g_iload dX11_haveSameFacts_59 rfl ?_
  refine g_iadd dX11_haveSameFacts_61 ?_
  refine g_laload dX11_haveSameFacts_62 (LX11.a_factName (h := h) F0) i2 ?_
  refine g_lcmp dX11_haveSameFacts_63 ?_
  exact g_if_ne (tgt := 125) dX11_haveSameFacts_64 (by decide) (fun q => Gd.wk (kt q) ⟨rfl, ⟨rfl, ⟨rfl, ⟨rfl, trivial⟩⟩⟩⟩) (fun q => Gd.wk (kf q) ⟨rfl, ⟨rfl, ⟨rfl, ⟨rfl, trivial⟩⟩⟩⟩)
theorem bkX11_haveSameFacts_67 {X : GX} {h : SH} {nc ns : Nat} {P : Out → SH → Prop} {a0 : Nat} {x1 : Int32} {x2 : Int32} {x4 : Int32} (F0 : LX11 (Sk h) (a0)) (i1 : vp_in ((8 * x1) + x4) 56) (i2 : vp_in ((8 * x2) + x4) 56) (kt : ¬ (hI h (a0 + 9) (((8 * x1) + x4 : Int32).toNatClampNeg)) = (hI h (a0 + 9) (((8 * x2) + x4 : Int32).toNatClampNeg)) → Gd X mX11_haveSameFacts 125 [some (.ref a0), some (.int x1), some (.int x2), none, some (.int x4)] [] (h) nc ns P) (kf : (hI h (a0 + 9) (((8 * x1) + x4 : Int32).toNatClampNeg)) = (hI h (a0 + 9) (((8 * x2) + x4 : Int32).toNatClampNeg)) → Gd X mX11_haveSameFacts 94 [some (.ref a0), some (.int x1), some (.int x2), none, some (.int x4)] [] (h) nc ns P) : Gd X mX11_haveSameFacts 67 [some (.ref a0), some (.int x1), some (.int x2), none, some (.int x4)] [] h nc ns P := by
  refine g_aload_n dX11_haveSameFacts_67 rfl ?_
  refine g_getAs (c := 11) (k := 14) (b := a0 + 9) dX11_haveSameFacts_68 (by decide) (by decide) kw_1141 rfl (LX11.o (h := h) F0) (LX11.r_least (h := h) F0) ?_
  refine g_bipush (v := 8) dX11_haveSameFacts_71 (by decide) ?_
  refine g_iload_n dX11_haveSameFacts_73 rfl ?_
  refine g_imul dX11_haveSameFacts_74 ?_
  refine g_iload dX11_haveSameFacts_75 rfl ?_
  refine g_iadd dX11_haveSameFacts_77 ?_
  refine g_iaload dX11_haveSameFacts_78 (LX11.a_least (h := h) F0) i1 ?_
  refine g_aload_n dX11_haveSameFacts_79 rfl ?_
  refine g_getAs (c := 11) (k := 14) (b := a0 + 9) dX11_haveSameFacts_80 (by decide) (by decide) kw_1141 rfl (LX11.o (h := h) F0) (LX11.r_least (h := h) F0) ?_
  refine g_bipush (v := 8) dX11_haveSameFacts_83 (by decide) ?_
  refine g_iload_n dX11_haveSameFacts_85 rfl ?_
  refine g_imul dX11_haveSameFacts_86 ?_
  refine g_iload dX11_haveSameFacts_87 rfl ?_
  refine g_iadd dX11_haveSameFacts_89 ?_
  refine g_iaload dX11_haveSameFacts_90 (LX11.a_least (h := h) F0) i2 ?_
  exact g_icmp_ne (tgt := 125) dX11_haveSameFacts_91 (by decide) (fun q => Gd.wk (kt q) ⟨rfl, ⟨rfl, ⟨rfl, ⟨rfl, trivial⟩⟩⟩⟩) (fun q => Gd.wk (kf q) ⟨rfl, ⟨rfl, ⟨rfl, ⟨rfl, trivial⟩⟩⟩⟩)
theorem bkX11_haveSameFacts_94 {X : GX} {h : SH} {nc ns : Nat} {P : Out → SH → Prop} {a0 : Nat} {x1 : Int32} {x2 : Int32} {x4 : Int32} (F0 : LX11 (Sk h) (a0)) (i1 : vp_in ((8 * x1) + x4) 56) (i2 : vp_in ((8 * x2) + x4) 56) (kt : ¬ (hI h (a0 + 10) (((8 * x1) + x4 : Int32).toNatClampNeg)) = (hI h (a0 + 10) (((8 * x2) + x4 : Int32).toNatClampNeg)) → Gd X mX11_haveSameFacts 125 [some (.ref a0), some (.int x1), some (.int x2), none, some (.int x4)] [] (h) nc ns P) (kf : (hI h (a0 + 10) (((8 * x1) + x4 : Int32).toNatClampNeg)) = (hI h (a0 + 10) (((8 * x2) + x4 : Int32).toNatClampNeg)) → Gd X mX11_haveSameFacts 121 [some (.ref a0), some (.int x1), some (.int x2), none, some (.int x4)] [] (h) nc ns P) : Gd X mX11_haveSameFacts 94 [some (.ref a0), some (.int x1), some (.int x2), none, some (.int x4)] [] h nc ns P := by
  refine g_aload_n dX11_haveSameFacts_94 rfl ?_
  refine g_getAs (c := 11) (k := 15) (b := a0 + 10) dX11_haveSameFacts_95 (by decide) (by decide) kw_1142 rfl (LX11.o (h := h) F0) (LX11.r_most (h := h) F0) ?_
  refine g_bipush (v := 8) dX11_haveSameFacts_98 (by decide) ?_
  refine g_iload_n dX11_haveSameFacts_100 rfl ?_
  refine g_imul dX11_haveSameFacts_101 ?_
  refine g_iload dX11_haveSameFacts_102 rfl ?_
  refine g_iadd dX11_haveSameFacts_104 ?_
  refine g_iaload dX11_haveSameFacts_105 (LX11.a_most (h := h) F0) i1 ?_
  refine g_aload_n dX11_haveSameFacts_106 rfl ?_
  refine g_getAs (c := 11) (k := 15) (b := a0 + 10) dX11_haveSameFacts_107 (by decide) (by decide) kw_1142 rfl (LX11.o (h := h) F0) (LX11.r_most (h := h) F0) ?_
  refine g_bipush (v := 8) dX11_haveSameFacts_110 (by decide) ?_
  refine g_iload_n dX11_haveSameFacts_112 rfl ?_
  refine g_imul dX11_haveSameFacts_113 ?_
  refine g_iload dX11_haveSameFacts_114 rfl ?_
  refine g_iadd dX11_haveSameFacts_116 ?_
  refine g_iaload dX11_haveSameFacts_117 (LX11.a_most (h := h) F0) i2 ?_
  exact g_icmp_ne (tgt := 125) dX11_haveSameFacts_118 (by decide) (fun q => Gd.wk (kt q) ⟨rfl, ⟨rfl, ⟨rfl, ⟨rfl, trivial⟩⟩⟩⟩) (fun q => Gd.wk (kf q) ⟨rfl, ⟨rfl, ⟨rfl, ⟨rfl, trivial⟩⟩⟩⟩)
theorem bkX11_haveSameFacts_121 {X : GX} {h : SH} {nc ns : Nat} {P : Out → SH → Prop} {a0 : Nat} {x1 : Int32} {x2 : Int32} {x4 : Int32} (g : Gd X mX11_haveSameFacts 126 [some (.ref a0), some (.int x1), some (.int x2), none, some (.int x4)] [.int 1] (h) nc ns P) : Gd X mX11_haveSameFacts 121 [some (.ref a0), some (.int x1), some (.int x2), none, some (.int x4)] [] h nc ns P := by
  refine g_iconst (v := 1) dX11_haveSameFacts_121 (by decide) ?_
  refine g_goto (tgt := 126) dX11_haveSameFacts_122 (by decide) ?_
  exact Gd.wk g ⟨rfl, ⟨rfl, ⟨rfl, ⟨rfl, trivial⟩⟩⟩⟩
theorem bkX11_haveSameFacts_125 {X : GX} {h : SH} {nc ns : Nat} {P : Out → SH → Prop} {a0 : Nat} {x1 : Int32} {x2 : Int32} {x4 : Int32} (g : Gd X mX11_haveSameFacts 126 [some (.ref a0), some (.int x1), some (.int x2), none, some (.int x4)] [.int 0] (h) nc ns P) : Gd X mX11_haveSameFacts 125 [some (.ref a0), some (.int x1), some (.int x2), none, some (.int x4)] [] h nc ns P := by
  refine g_iconst (v := 0) dX11_haveSameFacts_125 (by decide) ?_
  exact Gd.wk g ⟨rfl, ⟨rfl, ⟨rfl, ⟨rfl, trivial⟩⟩⟩⟩
theorem bkX11_haveSameFacts_126 {X : GX} {h : SH} {nc ns : Nat} {P : Out → SH → Prop} {a0 : Nat} {x1 : Int32} {x2 : Int32} {x4 : Int32} {xs0 : Int32} (g : Gd X mX11_haveSameFacts 24 [some (.ref a0), some (.int x1), some (.int x2), some (.int xs0), some (.int (x4 + 1))] [] (h) nc ns P) : Gd X mX11_haveSameFacts 126 [some (.ref a0), some (.int x1), some (.int x2), none, some (.int x4)] [.int xs0] h nc ns P := by
  refine g_istore_n (L' := [some (.ref a0), some (.int x1), some (.int x2), some (.int xs0), some (.int x4)]) dX11_haveSameFacts_126 (by decide) rfl ?_
  refine g_iinc (v := x4 + 1) (L' := [some (.ref a0), some (.int x1), some (.int x2), some (.int xs0), some (.int (x4 + 1))]) dX11_haveSameFacts_127 rfl rfl (by decide) rfl ?_
  refine g_goto (tgt := 24) dX11_haveSameFacts_130 (by decide) ?_
  exact Gd.wk g ⟨rfl, ⟨rfl, ⟨rfl, ⟨rfl, ⟨rfl, trivial⟩⟩⟩⟩⟩
theorem bkX11_haveSameFacts_133 {X : GX} {h : SH} {nc ns : Nat} {P : Out → SH → Prop} {x3 : Int32} (w0 : x3 = 0 ∨ x3 = 1) (hp : P (.inl (some (.int (x3)))) (h)) : Gd X mX11_haveSameFacts 133 [none, none, none, some (.int x3), none] [] h nc ns P := by
  refine g_iload_n dX11_haveSameFacts_133 rfl ?_
  exact g_ireturn (st := []) dX11_haveSameFacts_134 rfl (bl_n w0) hp
theorem bkX11_areAlike_0 {X : GX} {h : SH} {nc ns : Nat} {P : Out → SH → Prop} {Q : SH → Prop} {a0 : Nat} {x1 : Int32} {x2 : Int32} {x3 : Int32} (F0 : LX11 (Sk h) (a0)) (hN : Cd X mX11_makes [.ref a0, .int x1, .int x3] (h) 0 0 (oV Q nX)) (g : ∀ t, Q t → Gd X mX11_areAlike 6 [some (.ref a0), none, some (.int x2), some (.int x3), none, none, none, none, none, none] [] (t) nc ns P) : Gd X mX11_areAlike 0 [some (.ref a0), some (.int x1), some (.int x2), some (.int x3), none, none, none, none, none, none] [] h nc ns P := by
  refine g_aload_n dX11_areAlike_0 rfl ?_
  refine g_iload_n dX11_areAlike_1 rfl ?_
  refine g_iload_n dX11_areAlike_2 rfl ?_
  refine Gd.z ?_
  exact g_callV (k := 11) [.int x1, .int x3] dX11_areAlike_3 mfX11_makes ⟨by decide, by decide⟩ kw_1471 kw_1473 kw_74 rfl (by decide) (Nat.le_of_ble_eq_true rfl) (by intro x hx; cases hx) (LX11.o (h := h) F0) (Nat.le_of_ble_eq_true rfl) hN (fun _ _ q => q.elim) (oV_go (G := fun a b => Gd X mX11_areAlike 6 _ a b nc ns P) (fun t q => Gd.wk (g t q) ⟨rfl, ⟨rfl, ⟨rfl, trivial⟩⟩⟩))
theorem bkX11_areAlike_6 {X : GX} {h : SH} {nc ns : Nat} {P : Out → SH → Prop} {a0 : Nat} {x2 : Int32} {x3 : Int32} (F0 : LX11 (Sk h) (a0)) (g : Gd X mX11_areAlike 33 [some (.ref a0), none, some (.int x2), some (.int x3), some (.int (hI h a0 44)), some (.int (hI h a0 45)), some (.int (hI h a0 46)), some (.int (hI h a0 48)), some (.int 0), none] [] (h) nc ns P) : Gd X mX11_areAlike 6 [some (.ref a0), none, some (.int x2), some (.int x3), none, none, none, none, none, none] [] h nc ns P := by
  refine g_aload_n dX11_areAlike_6 rfl ?_
  refine g_getI (c := 11) (k := 44) dX11_areAlike_7 (by decide) (by decide) kw_1171 rfl (LX11.o (h := h) F0) ?_
  refine g_istore (L' := [some (.ref a0), none, some (.int x2), some (.int x3), some (.int (hI h a0 44)), none, none, none, none, none]) dX11_areAlike_10 (by decide) rfl ?_
  refine g_aload_n dX11_areAlike_12 rfl ?_
  refine g_getI (c := 11) (k := 45) dX11_areAlike_13 (by decide) (by decide) kw_1172 rfl (LX11.o (h := h) F0) ?_
  refine g_istore (L' := [some (.ref a0), none, some (.int x2), some (.int x3), some (.int (hI h a0 44)), some (.int (hI h a0 45)), none, none, none, none]) dX11_areAlike_16 (by decide) rfl ?_
  refine g_aload_n dX11_areAlike_18 rfl ?_
  refine g_getI (c := 11) (k := 46) dX11_areAlike_19 (by decide) (by decide) kw_1173 rfl (LX11.o (h := h) F0) ?_
  refine g_istore (L' := [some (.ref a0), none, some (.int x2), some (.int x3), some (.int (hI h a0 44)), some (.int (hI h a0 45)), some (.int (hI h a0 46)), none, none, none]) dX11_areAlike_22 (by decide) rfl ?_
  refine g_aload_n dX11_areAlike_24 rfl ?_
  refine g_getI (c := 11) (k := 48) dX11_areAlike_25 (by decide) (by decide) kw_1175 rfl (LX11.o (h := h) F0) ?_
  refine g_istore (L' := [some (.ref a0), none, some (.int x2), some (.int x3), some (.int (hI h a0 44)), some (.int (hI h a0 45)), some (.int (hI h a0 46)), some (.int (hI h a0 48)), none, none]) dX11_areAlike_28 (by decide) rfl ?_
  refine g_iconst (v := 0) dX11_areAlike_30 (by decide) ?_
  refine g_istore (L' := [some (.ref a0), none, some (.int x2), some (.int x3), some (.int (hI h a0 44)), some (.int (hI h a0 45)), some (.int (hI h a0 46)), some (.int (hI h a0 48)), some (.int 0), none]) dX11_areAlike_31 (by decide) rfl ?_
  exact Gd.wk g ⟨rfl, ⟨rfl, ⟨rfl, ⟨rfl, ⟨rfl, ⟨rfl, ⟨rfl, ⟨rfl, trivial⟩⟩⟩⟩⟩⟩⟩⟩
theorem bkX11_areAlike_33 {X : GX} {h : SH} {nc ns : Nat} {P : Out → SH → Prop} {a0 : Nat} {x2 : Int32} {x3 : Int32} {x4 : Int32} {x5 : Int32} {x6 : Int32} {x7 : Int32} {x8 : Int32} (kt : x7 ≤ x8 → Gd X mX11_areAlike 60 [some (.ref a0), none, some (.int x2), some (.int x3), some (.int x4), some (.int x5), some (.int x6), some (.int x7), none, none] [] (h) nc ns P) (kf : ¬ x7 ≤ x8 → Gd X mX11_areAlike 40 [some (.ref a0), none, some (.int x2), some (.int x3), some (.int x4), some (.int x5), some (.int x6), some (.int x7), some (.int x8), none] [] (h) nc ns P) : Gd X mX11_areAlike 33 [some (.ref a0), none, some (.int x2), some (.int x3), some (.int x4), some (.int x5), some (.int x6), some (.int x7), some (.int x8), none] [] h nc ns P := by
  refine g_iload dX11_areAlike_33 rfl ?_
  refine g_iload dX11_areAlike_35 rfl ?_
  exact g_icmp_ge (tgt := 60) dX11_areAlike_37 (by decide) (fun q => Gd.wk (kt q) ⟨rfl, ⟨rfl, ⟨rfl, ⟨rfl, ⟨rfl, ⟨rfl, ⟨rfl, trivial⟩⟩⟩⟩⟩⟩⟩) (fun q => Gd.wk (kf q) ⟨rfl, ⟨rfl, ⟨rfl, ⟨rfl, ⟨rfl, ⟨rfl, ⟨rfl, ⟨rfl, trivial⟩⟩⟩⟩⟩⟩⟩⟩)
theorem bkX11_areAlike_40 {X : GX} {h : SH} {nc ns : Nat} {P : Out → SH → Prop} {a0 : Nat} {x2 : Int32} {x3 : Int32} {x4 : Int32} {x5 : Int32} {x6 : Int32} {x7 : Int32} {x8 : Int32} (F0 : LX11 (Sk h) (a0)) (i1 : vp_in (x8) 5000) (g : Gd X mX11_areAlike 33 [some (.ref a0), none, some (.int x2), some (.int x3), some (.int x4), some (.int x5), some (.int x6), some (.int x7), some (.int (x8 + 1)), none] [] (sI h (a0 + 37) ((x8 : Int32).toNatClampNeg) (hI h (a0 + 33) ((x8 : Int32).toNatClampNeg))) nc ns P) : Gd X mX11_areAlike 40 [some (.ref a0), none, some (.int x2), some (.int x3), some (.int x4), some (.int x5), some (.int x6), some (.int x7), some (.int x8), none] [] h nc ns P := by
  refine g_aload_n dX11_areAlike_40 rfl ?_
  refine g_getAs (c := 11) (k := 57) (b := a0 + 37) dX11_areAlike_41 (by decide) (by decide) kw_1184 rfl (LX11.o (h := h) F0) (LX11.r_otherOut (h := h) F0) ?_
  refine g_iload dX11_areAlike_44 rfl ?_
  refine g_aload_n dX11_areAlike_46 rfl ?_
  refine g_getAs (c := 11) (k := 47) (b := a0 + 33) dX11_areAlike_47 (by decide) (by decide) kw_1174 rfl (LX11.o (h := h) F0) (LX11.r_out (h := h) F0) ?_
  refine g_iload dX11_areAlike_50 rfl ?_
  refine g_iaload dX11_areAlike_52 (LX11.a_out (h := h) F0) i1 ?_
  refine g_iastore dX11_areAlike_53 (LX11.a_otherOut (h := h) F0) i1 ?_
  refine g_iinc (v := x8 + 1) (L' := [some (.ref a0), none, some (.int x2), some (.int x3), some (.int x4), some (.int x5), some (.int x6), some (.int x7), some (.int (x8 + 1)), none]) dX11_areAlike_54 rfl rfl (by decide) rfl ?_
  refine g_goto (tgt := 33) dX11_areAlike_57 (by decide) ?_
  exact Gd.wk g ⟨rfl, ⟨rfl, ⟨rfl, ⟨rfl, ⟨rfl, ⟨rfl, ⟨rfl, ⟨rfl, trivial⟩⟩⟩⟩⟩⟩⟩⟩
theorem bkX11_areAlike_60 {X : GX} {h : SH} {nc ns : Nat} {P : Out → SH → Prop} {Q : SH → Prop} {a0 : Nat} {x2 : Int32} {x3 : Int32} {x4 : Int32} {x5 : Int32} {x6 : Int32} {x7 : Int32} (F0 : LX11 (Sk h) (a0)) (hN : Cd X mX11_makes [.ref a0, .int x2, .int x3] (h) 0 0 (oV Q nX)) (g : ∀ t, Q t → Gd X mX11_areAlike 66 [some (.ref a0), none, none, none, some (.int x4), some (.int x5), some (.int x6), some (.int x7), none, none] [] (t) nc ns P) : Gd X mX11_areAlike 60 [some (.ref a0), none, some (.int x2), some (.int x3), some (.int x4), some (.int x5), some (.int x6), some (.int x7), none, none] [] h nc ns P := by
  refine g_aload_n dX11_areAlike_60 rfl ?_
  refine g_iload_n dX11_areAlike_61 rfl ?_
  refine g_iload_n dX11_areAlike_62 rfl ?_
  refine Gd.z ?_
  exact g_callV (k := 11) [.int x2, .int x3] dX11_areAlike_63 mfX11_makes ⟨by decide, by decide⟩ kw_1471 kw_1473 kw_74 rfl (by decide) (Nat.le_of_ble_eq_true rfl) (by intro x hx; cases hx) (LX11.o (h := h) F0) (Nat.le_of_ble_eq_true rfl) hN (fun _ _ q => q.elim) (oV_go (G := fun a b => Gd X mX11_areAlike 66 _ a b nc ns P) (fun t q => Gd.wk (g t q) ⟨rfl, ⟨rfl, ⟨rfl, ⟨rfl, ⟨rfl, trivial⟩⟩⟩⟩⟩))
theorem bkX11_areAlike_66 {X : GX} {h : SH} {nc ns : Nat} {P : Out → SH → Prop} {a0 : Nat} {x4 : Int32} {x5 : Int32} {x6 : Int32} {x7 : Int32} (F0 : LX11 (Sk h) (a0)) (kt : ¬ x4 = hI h a0 44 → Gd X mX11_areAlike 106 [some (.ref a0), none, none, none, none, none, none, some (.int x7), none, none] [] (h) nc ns P) (kf : x4 = hI h a0 44 → Gd X mX11_areAlike 75 [some (.ref a0), none, none, none, none, some (.int x5), some (.int x6), some (.int x7), none, none] [] (h) nc ns P) : Gd X mX11_areAlike 66 [some (.ref a0), none, none, none, some (.int x4), some (.int x5), some (.int x6), some (.int x7), none, none] [] h nc ns P := by
  refine g_iload dX11_areAlike_66 rfl ?_
  refine g_aload_n dX11_areAlike_68 rfl ?_
  refine g_getI (c := 11) (k := 44) dX11_areAlike_69 (by decide) (by decide) kw_1171 rfl (LX11.o (h := h) F0) ?_
  exact g_icmp_ne (tgt := 106) dX11_areAlike_72 (by decide) (fun q => Gd.wk (kt q) ⟨rfl, ⟨rfl, trivial⟩⟩) (fun q => Gd.wk (kf q) ⟨rfl, ⟨rfl, ⟨rfl, ⟨rfl, trivial⟩⟩⟩⟩)
theorem bkX11_areAlike_75 {X : GX} {h : SH} {nc ns : Nat} {P : Out → SH → Prop} {a0 : Nat} {x5 : Int32} {x6 : Int32} {x7 : Int32} (F0 : LX11 (Sk h) (a0)) (kt : ¬ x5 = hI h a0 45 → Gd X mX11_areAlike 106 [some (.ref a0), none, none, none, none, none, none, some (.int x7), none, none] [] (h) nc ns P) (kf : x5 = hI h a0 45 → Gd X mX11_areAlike 84 [some (.ref a0), none, none, none, none, none, some (.int x6), some (.int x7), none, none] [] (h) nc ns P) : Gd X mX11_areAlike 75 [some (.ref a0), none, none, none, none, some (.int x5), some (.int x6), some (.int x7), none, none] [] h nc ns P := by
  refine g_iload dX11_areAlike_75 rfl ?_
  refine g_aload_n dX11_areAlike_77 rfl ?_
  refine g_getI (c := 11) (k := 45) dX11_areAlike_78 (by decide) (by decide) kw_1172 rfl (LX11.o (h := h) F0) ?_
  exact g_icmp_ne (tgt := 106) dX11_areAlike_81 (by decide) (fun q => Gd.wk (kt q) ⟨rfl, ⟨rfl, trivial⟩⟩) (fun q => Gd.wk (kf q) ⟨rfl, ⟨rfl, ⟨rfl, trivial⟩⟩⟩)
theorem bkX11_areAlike_84 {X : GX} {h : SH} {nc ns : Nat} {P : Out → SH → Prop} {a0 : Nat} {x6 : Int32} {x7 : Int32} (F0 : LX11 (Sk h) (a0)) (kt : ¬ x6 = hI h a0 46 → Gd X mX11_areAlike 106 [some (.ref a0), none, none, none, none, none, none, some (.int x7), none, none] [] (h) nc ns P) (kf : x6 = hI h a0 46 → Gd X mX11_areAlike 93 [some (.ref a0), none, none, none, none, none, none, some (.int x7), none, none] [] (h) nc ns P) : Gd X mX11_areAlike 84 [some (.ref a0), none, none, none, none, none, some (.int x6), some (.int x7), none, none] [] h nc ns P := by
  refine g_iload dX11_areAlike_84 rfl ?_
  refine g_aload_n dX11_areAlike_86 rfl ?_
  refine g_getI (c := 11) (k := 46) dX11_areAlike_87 (by decide) (by decide) kw_1173 rfl (LX11.o (h := h) F0) ?_
  exact g_icmp_ne (tgt := 106) dX11_areAlike_90 (by decide) (fun q => Gd.wk (kt q) ⟨rfl, ⟨rfl, trivial⟩⟩) (fun q => Gd.wk (kf q) ⟨rfl, ⟨rfl, trivial⟩⟩)
theorem bkX11_areAlike_93 {X : GX} {h : SH} {nc ns : Nat} {P : Out → SH → Prop} {a0 : Nat} {x7 : Int32} (F0 : LX11 (Sk h) (a0)) (kt : ¬ x7 = hI h a0 48 → Gd X mX11_areAlike 106 [some (.ref a0), none, none, none, none, none, none, some (.int x7), none, none] [] (h) nc ns P) (kf : x7 = hI h a0 48 → Gd X mX11_areAlike 102 [some (.ref a0), none, none, none, none, none, none, some (.int x7), none, none] [] (h) nc ns P) : Gd X mX11_areAlike 93 [some (.ref a0), none, none, none, none, none, none, some (.int x7), none, none] [] h nc ns P := by
  refine g_iload dX11_areAlike_93 rfl ?_
  refine g_aload_n dX11_areAlike_95 rfl ?_
  refine g_getI (c := 11) (k := 48) dX11_areAlike_96 (by decide) (by decide) kw_1175 rfl (LX11.o (h := h) F0) ?_
  exact g_icmp_ne (tgt := 106) dX11_areAlike_99 (by decide) (fun q => Gd.wk (kt q) ⟨rfl, ⟨rfl, trivial⟩⟩) (fun q => Gd.wk (kf q) ⟨rfl, ⟨rfl, trivial⟩⟩)
theorem bkX11_areAlike_102 {X : GX} {h : SH} {nc ns : Nat} {P : Out → SH → Prop} {a0 : Nat} {x7 : Int32} (g : Gd X mX11_areAlike 107 [some (.ref a0), none, none, none, none, none, none, some (.int x7), none, none] [.int 1] (h) nc ns P) : Gd X mX11_areAlike 102 [some (.ref a0), none, none, none, none, none, none, some (.int x7), none, none] [] h nc ns P := by
  refine g_iconst (v := 1) dX11_areAlike_102 (by decide) ?_
  refine g_goto (tgt := 107) dX11_areAlike_103 (by decide) ?_
  exact Gd.wk g ⟨rfl, ⟨rfl, trivial⟩⟩
theorem bkX11_areAlike_106 {X : GX} {h : SH} {nc ns : Nat} {P : Out → SH → Prop} {a0 : Nat} {x7 : Int32} (g : Gd X mX11_areAlike 107 [some (.ref a0), none, none, none, none, none, none, some (.int x7), none, none] [.int 0] (h) nc ns P) : Gd X mX11_areAlike 106 [some (.ref a0), none, none, none, none, none, none, some (.int x7), none, none] [] h nc ns P := by
  refine g_iconst (v := 0) dX11_areAlike_106 (by decide) ?_
  exact Gd.wk g ⟨rfl, ⟨rfl, trivial⟩⟩
theorem bkX11_areAlike_107 {X : GX} {h : SH} {nc ns : Nat} {P : Out → SH → Prop} {a0 : Nat} {x7 : Int32} {xs0 : Int32} (g : Gd X mX11_areAlike 112 [some (.ref a0), none, none, none, none, none, none, some (.int x7), some (.int xs0), some (.int 0)] [] (h) nc ns P) : Gd X mX11_areAlike 107 [some (.ref a0), none, none, none, none, none, none, some (.int x7), none, none] [.int xs0] h nc ns P := by
  refine g_istore (L' := [some (.ref a0), none, none, none, none, none, none, some (.int x7), some (.int xs0), none]) dX11_areAlike_107 (by decide) rfl ?_
  refine g_iconst (v := 0) dX11_areAlike_109 (by decide) ?_
  refine g_istore (L' := [some (.ref a0), none, none, none, none, none, none, some (.int x7), some (.int xs0), some (.int 0)]) dX11_areAlike_110 (by decide) rfl ?_
  exact Gd.wk g ⟨rfl, ⟨rfl, ⟨rfl, ⟨rfl, trivial⟩⟩⟩⟩
theorem bkX11_areAlike_112 {X : GX} {h : SH} {nc ns : Nat} {P : Out → SH → Prop} {a0 : Nat} {x7 : Int32} {x8 : Int32} {x9 : Int32} (kt : x7 ≤ x9 → Gd X mX11_areAlike 154 [none, none, none, none, none, none, none, none, some (.int x8), none] [] (h) nc ns P) (kf : ¬ x7 ≤ x9 → Gd X mX11_areAlike 119 [some (.ref a0), none, none, none, none, none, none, some (.int x7), some (.int x8), some (.int x9)] [] (h) nc ns P) : Gd X mX11_areAlike 112 [some (.ref a0), none, none, none, none, none, none, some (.int x7), some (.int x8), some (.int x9)] [] h nc ns P := by
  refine g_iload dX11_areAlike_112 rfl ?_
  refine g_iload dX11_areAlike_114 rfl ?_
  exact g_icmp_ge (tgt := 154) dX11_areAlike_116 (by decide) (fun q => Gd.wk (kt q) ⟨rfl, trivial⟩) (fun q => Gd.wk (kf q) ⟨rfl, ⟨rfl, ⟨rfl, ⟨rfl, trivial⟩⟩⟩⟩)
theorem bkX11_areAlike_119 {X : GX} {h : SH} {nc ns : Nat} {P : Out → SH → Prop} {a0 : Nat} {x7 : Int32} {x8 : Int32} {x9 : Int32} (kt : x8 = 0 → Gd X mX11_areAlike 154 [none, none, none, none, none, none, none, none, some (.int x8), none] [] (h) nc ns P) (kf : ¬ x8 = 0 → Gd X mX11_areAlike 124 [some (.ref a0), none, none, none, none, none, none, some (.int x7), none, some (.int x9)] [] (h) nc ns P) : Gd X mX11_areAlike 119 [some (.ref a0), none, none, none, none, none, none, some (.int x7), some (.int x8), some (.int x9)] [] h nc ns P := by
  refine g_iload dX11_areAlike_119 rfl ?_
  exact g_if_eq (tgt := 154) dX11_areAlike_121 (by decide) (fun q => Gd.wk (kt q) ⟨rfl, trivial⟩) (fun q => Gd.wk (kf q) ⟨rfl, ⟨rfl, ⟨rfl, trivial⟩⟩⟩)
theorem bkX11_areAlike_124 {X : GX} {h : SH} {nc ns : Nat} {P : Out → SH → Prop} {a0 : Nat} {x7 : Int32} {x9 : Int32} (F0 : LX11 (Sk h) (a0)) (i1 : vp_in (x9) 5000) (kt : ¬ (hI h (a0 + 37) ((x9 : Int32).toNatClampNeg)) = (hI h (a0 + 33) ((x9 : Int32).toNatClampNeg)) → Gd X mX11_areAlike 145 [some (.ref a0), none, none, none, none, none, none, some (.int x7), none, some (.int x9)] [] (h) nc ns P) (kf : (hI h (a0 + 37) ((x9 : Int32).toNatClampNeg)) = (hI h (a0 + 33) ((x9 : Int32).toNatClampNeg)) → Gd X mX11_areAlike 141 [some (.ref a0), none, none, none, none, none, none, some (.int x7), none, some (.int x9)] [] (h) nc ns P) : Gd X mX11_areAlike 124 [some (.ref a0), none, none, none, none, none, none, some (.int x7), none, some (.int x9)] [] h nc ns P := by
  refine g_aload_n dX11_areAlike_124 rfl ?_
  refine g_getAs (c := 11) (k := 57) (b := a0 + 37) dX11_areAlike_125 (by decide) (by decide) kw_1184 rfl (LX11.o (h := h) F0) (LX11.r_otherOut (h := h) F0) ?_
  refine g_iload dX11_areAlike_128 rfl ?_
  refine g_iaload dX11_areAlike_130 (LX11.a_otherOut (h := h) F0) i1 ?_
  refine g_aload_n dX11_areAlike_131 rfl ?_
  refine g_getAs (c := 11) (k := 47) (b := a0 + 33) dX11_areAlike_132 (by decide) (by decide) kw_1174 rfl (LX11.o (h := h) F0) (LX11.r_out (h := h) F0) ?_
  refine g_iload dX11_areAlike_135 rfl ?_
  refine g_iaload dX11_areAlike_137 (LX11.a_out (h := h) F0) i1 ?_
  exact g_icmp_ne (tgt := 145) dX11_areAlike_138 (by decide) (fun q => Gd.wk (kt q) ⟨rfl, ⟨rfl, ⟨rfl, trivial⟩⟩⟩) (fun q => Gd.wk (kf q) ⟨rfl, ⟨rfl, ⟨rfl, trivial⟩⟩⟩)
theorem bkX11_areAlike_141 {X : GX} {h : SH} {nc ns : Nat} {P : Out → SH → Prop} {a0 : Nat} {x7 : Int32} {x9 : Int32} (g : Gd X mX11_areAlike 146 [some (.ref a0), none, none, none, none, none, none, some (.int x7), none, some (.int x9)] [.int 1] (h) nc ns P) : Gd X mX11_areAlike 141 [some (.ref a0), none, none, none, none, none, none, some (.int x7), none, some (.int x9)] [] h nc ns P := by
  refine g_iconst (v := 1) dX11_areAlike_141 (by decide) ?_
  refine g_goto (tgt := 146) dX11_areAlike_142 (by decide) ?_
  exact Gd.wk g ⟨rfl, ⟨rfl, ⟨rfl, trivial⟩⟩⟩
theorem bkX11_areAlike_145 {X : GX} {h : SH} {nc ns : Nat} {P : Out → SH → Prop} {a0 : Nat} {x7 : Int32} {x9 : Int32} (g : Gd X mX11_areAlike 146 [some (.ref a0), none, none, none, none, none, none, some (.int x7), none, some (.int x9)] [.int 0] (h) nc ns P) : Gd X mX11_areAlike 145 [some (.ref a0), none, none, none, none, none, none, some (.int x7), none, some (.int x9)] [] h nc ns P := by
  refine g_iconst (v := 0) dX11_areAlike_145 (by decide) ?_
  exact Gd.wk g ⟨rfl, ⟨rfl, ⟨rfl, trivial⟩⟩⟩
theorem bkX11_areAlike_146 {X : GX} {h : SH} {nc ns : Nat} {P : Out → SH → Prop} {a0 : Nat} {x7 : Int32} {x9 : Int32} {xs0 : Int32} (g : Gd X mX11_areAlike 112 [some (.ref a0), none, none, none, none, none, none, some (.int x7), some (.int xs0), some (.int (x9 + 1))] [] (h) nc ns P) : Gd X mX11_areAlike 146 [some (.ref a0), none, none, none, none, none, none, some (.int x7), none, some (.int x9)] [.int xs0] h nc ns P := by
  refine g_istore (L' := [some (.ref a0), none, none, none, none, none, none, some (.int x7), some (.int xs0), some (.int x9)]) dX11_areAlike_146 (by decide) rfl ?_
  refine g_iinc (v := x9 + 1) (L' := [some (.ref a0), none, none, none, none, none, none, some (.int x7), some (.int xs0), some (.int (x9 + 1))]) dX11_areAlike_148 rfl rfl (by decide) rfl ?_
  refine g_goto (tgt := 112) dX11_areAlike_151 (by decide) ?_
  exact Gd.wk g ⟨rfl, ⟨rfl, ⟨rfl, ⟨rfl, trivial⟩⟩⟩⟩
theorem bkX11_areAlike_154 {X : GX} {h : SH} {nc ns : Nat} {P : Out → SH → Prop} {x8 : Int32} (w0 : x8 = 0 ∨ x8 = 1) (hp : P (.inl (some (.int (x8)))) (h)) : Gd X mX11_areAlike 154 [none, none, none, none, none, none, none, none, some (.int x8), none] [] h nc ns P := by
  refine g_iload dX11_areAlike_154 rfl ?_
  exact g_ireturn (st := []) dX11_areAlike_156 rfl (bl_n w0) hp
theorem bkX11_changed_0 {X : GX} {h : SH} {nc ns : Nat} {P : Out → SH → Prop} {a0 : Nat} {x1 : Int32} {x2 : Int32} {x3 : Int32} {x4 : Int32} (F0 : LX11 (Sk h) (a0)) (kt : x1 < 0 → Gd X mX11_changed 51 [none, none, none, none, none, none, none, none] [] (sI h a0 0 0) nc ns P) (kf : ¬ x1 < 0 → Gd X mX11_changed 9 [some (.ref a0), some (.int x1), some (.int x2), some (.int x3), some (.int x4), none, none, none] [] (sI h a0 0 0) nc ns P) : Gd X mX11_changed 0 [some (.ref a0), some (.int x1), some (.int x2), some (.int x3), some (.int x4), none, none, none] [] h nc ns P := by
  refine g_aload_n dX11_changed_0 rfl ?_
  refine g_iconst (v := 0) dX11_changed_1 (by decide) ?_
  refine g_put (c := 11) (k := 0) (h1 := sI h a0 0 0) dX11_changed_2 (by decide) (by decide) kw_1127 rfl (LX11.o (h := h) F0) rfl rfl (Put.I rfl) ?_
  refine g_iload_n dX11_changed_5 rfl ?_
  exact g_if_lt (tgt := 51) dX11_changed_6 (by decide) (fun q => Gd.wk (kt q) trivial) (fun q => Gd.wk (kf q) ⟨rfl, ⟨rfl, ⟨rfl, ⟨rfl, ⟨rfl, trivial⟩⟩⟩⟩⟩)
theorem bkX11_changed_9 {X : GX} {h : SH} {nc ns : Nat} {P : Out → SH → Prop} {a0 : Nat} {x1 : Int32} {x2 : Int32} {x3 : Int32} {x4 : Int32} (F0 : LX11 (Sk h) (a0)) (kt : hI h a0 10 ≤ x1 → Gd X mX11_changed 51 [none, none, none, none, none, none, none, none] [] (h) nc ns P) (kf : ¬ hI h a0 10 ≤ x1 → Gd X mX11_changed 17 [some (.ref a0), some (.int x1), some (.int x2), some (.int x3), some (.int x4), none, none, none] [] (h) nc ns P) : Gd X mX11_changed 9 [some (.ref a0), some (.int x1), some (.int x2), some (.int x3), some (.int x4), none, none, none] [] h nc ns P := by
  refine g_iload_n dX11_changed_9 rfl ?_
  refine g_aload_n dX11_changed_10 rfl ?_
  refine g_getI (c := 11) (k := 10) dX11_changed_11 (by decide) (by decide) kw_1137 rfl (LX11.o (h := h) F0) ?_
  exact g_icmp_ge (tgt := 51) dX11_changed_14 (by decide) (fun q => Gd.wk (kt q) trivial) (fun q => Gd.wk (kf q) ⟨rfl, ⟨rfl, ⟨rfl, ⟨rfl, ⟨rfl, trivial⟩⟩⟩⟩⟩)
theorem bkX11_changed_17 {X : GX} {h : SH} {nc ns : Nat} {P : Out → SH → Prop} {a0 : Nat} {x1 : Int32} {x2 : Int32} {x3 : Int32} {x4 : Int32} (kt : x2 < 0 → Gd X mX11_changed 51 [none, none, none, none, none, none, none, none] [] (h) nc ns P) (kf : ¬ x2 < 0 → Gd X mX11_changed 21 [some (.ref a0), some (.int x1), some (.int x2), some (.int x3), some (.int x4), none, none, none] [] (h) nc ns P) : Gd X mX11_changed 17 [some (.ref a0), some (.int x1), some (.int x2), some (.int x3), some (.int x4), none, none, none] [] h nc ns P := by
  refine g_iload_n dX11_changed_17 rfl ?_
  exact g_if_lt (tgt := 51) dX11_changed_18 (by decide) (fun q => Gd.wk (kt q) trivial) (fun q => Gd.wk (kf q) ⟨rfl, ⟨rfl, ⟨rfl, ⟨rfl, ⟨rfl, trivial⟩⟩⟩⟩⟩)
theorem bkX11_changed_21 {X : GX} {h : SH} {nc ns : Nat} {P : Out → SH → Prop} {a0 : Nat} {x1 : Int32} {x2 : Int32} {x3 : Int32} {x4 : Int32} (F0 : LX11 (Sk h) (a0)) (kt : hI h a0 10 ≤ x2 → Gd X mX11_changed 51 [none, none, none, none, none, none, none, none] [] (h) nc ns P) (kf : ¬ hI h a0 10 ≤ x2 → Gd X mX11_changed 29 [some (.ref a0), some (.int x1), some (.int x2), some (.int x3), some (.int x4), none, none, none] [] (h) nc ns P) : Gd X mX11_changed 21 [some (.ref a0), some (.int x1), some (.int x2), some (.int x3), some (.int x4), none, none, none] [] h nc ns P := by
  refine g_iload_n dX11_changed_21 rfl ?_
  refine g_aload_n dX11_changed_22 rfl ?_
  refine g_getI (c := 11) (k := 10) dX11_changed_23 (by decide) (by decide) kw_1137 rfl (LX11.o (h := h) F0) ?_
  exact g_icmp_ge (tgt := 51) dX11_changed_26 (by decide) (fun q => Gd.wk (kt q) trivial) (fun q => Gd.wk (kf q) ⟨rfl, ⟨rfl, ⟨rfl, ⟨rfl, ⟨rfl, trivial⟩⟩⟩⟩⟩)
theorem bkX11_changed_29 {X : GX} {h : SH} {nc ns : Nat} {P : Out → SH → Prop} {a0 : Nat} {x1 : Int32} {x2 : Int32} {x3 : Int32} {x4 : Int32} (kt : x3 < 0 → Gd X mX11_changed 51 [none, none, none, none, none, none, none, none] [] (h) nc ns P) (kf : ¬ x3 < 0 → Gd X mX11_changed 33 [some (.ref a0), some (.int x1), some (.int x2), some (.int x3), some (.int x4), none, none, none] [] (h) nc ns P) : Gd X mX11_changed 29 [some (.ref a0), some (.int x1), some (.int x2), some (.int x3), some (.int x4), none, none, none] [] h nc ns P := by
  refine g_iload_n dX11_changed_29 rfl ?_
  exact g_if_lt (tgt := 51) dX11_changed_30 (by decide) (fun q => Gd.wk (kt q) trivial) (fun q => Gd.wk (kf q) ⟨rfl, ⟨rfl, ⟨rfl, ⟨rfl, ⟨rfl, trivial⟩⟩⟩⟩⟩)
theorem bkX11_changed_33 {X : GX} {h : SH} {nc ns : Nat} {P : Out → SH → Prop} {a0 : Nat} {x1 : Int32} {x2 : Int32} {x3 : Int32} {x4 : Int32} (kt : (9999 : Int32) < x3 → Gd X mX11_changed 51 [none, none, none, none, none, none, none, none] [] (h) nc ns P) (kf : ¬ (9999 : Int32) < x3 → Gd X mX11_changed 40 [some (.ref a0), some (.int x1), some (.int x2), some (.int x3), some (.int x4), none, none, none] [] (h) nc ns P) : Gd X mX11_changed 33 [some (.ref a0), some (.int x1), some (.int x2), some (.int x3), some (.int x4), none, none, none] [] h nc ns P := by
  refine g_iload_n dX11_changed_33 rfl ?_
  refine g_sipush (v := 9999) dX11_changed_34 (by decide) ?_
  exact g_icmp_gt (tgt := 51) dX11_changed_37 (by decide) (fun q => Gd.wk (kt q) trivial) (fun q => Gd.wk (kf q) ⟨rfl, ⟨rfl, ⟨rfl, ⟨rfl, ⟨rfl, trivial⟩⟩⟩⟩⟩)
theorem bkX11_changed_40 {X : GX} {h : SH} {nc ns : Nat} {P : Out → SH → Prop} {a0 : Nat} {x1 : Int32} {x2 : Int32} {x3 : Int32} {x4 : Int32} (kt : x4 < 0 → Gd X mX11_changed 51 [none, none, none, none, none, none, none, none] [] (h) nc ns P) (kf : ¬ x4 < 0 → Gd X mX11_changed 45 [some (.ref a0), some (.int x1), some (.int x2), some (.int x3), some (.int x4), none, none, none] [] (h) nc ns P) : Gd X mX11_changed 40 [some (.ref a0), some (.int x1), some (.int x2), some (.int x3), some (.int x4), none, none, none] [] h nc ns P := by
  refine g_iload dX11_changed_40 rfl ?_
  exact g_if_lt (tgt := 51) dX11_changed_42 (by decide) (fun q => Gd.wk (kt q) trivial) (fun q => Gd.wk (kf q) ⟨rfl, ⟨rfl, ⟨rfl, ⟨rfl, ⟨rfl, trivial⟩⟩⟩⟩⟩)
theorem bkX11_changed_45 {X : GX} {h : SH} {nc ns : Nat} {P : Out → SH → Prop} {a0 : Nat} {x1 : Int32} {x2 : Int32} {x3 : Int32} {x4 : Int32} (kt : x4 ≤ 1 → Gd X mX11_changed 53 [some (.ref a0), some (.int x1), some (.int x2), some (.int x3), some (.int x4), none, none, none] [] (h) nc ns P) (kf : ¬ x4 ≤ 1 → Gd X mX11_changed 51 [none, none, none, none, none, none, none, none] [] (h) nc ns P) : Gd X mX11_changed 45 [some (.ref a0), some (.int x1), some (.int x2), some (.int x3), some (.int x4), none, none, none] [] h nc ns P := by
  refine g_iload dX11_changed_45 rfl ?_
  refine g_iconst (v := 1) dX11_changed_47 (by decide) ?_
  exact g_icmp_le (tgt := 53) dX11_changed_48 (by decide) (fun q => Gd.wk (kt q) ⟨rfl, ⟨rfl, ⟨rfl, ⟨rfl, ⟨rfl, trivial⟩⟩⟩⟩⟩) (fun q => Gd.wk (kf q) trivial)
theorem bkX11_changed_51 {X : GX} {h : SH} {nc ns : Nat} {P : Out → SH → Prop} (hp : P (.inl (some (.int ((-1))))) (h)) : Gd X mX11_changed 51 [none, none, none, none, none, none, none, none] [] h nc ns P := by
  refine g_iconst (v := (-1)) dX11_changed_51 (by decide) ?_
  exact g_ireturn (st := []) dX11_changed_52 rfl rfl hp
theorem bkX11_changed_53 {X : GX} {h : SH} {nc ns : Nat} {P : Out → SH → Prop} {Q : Int32 → SH → Prop} {a0 : Nat} {x1 : Int32} {x2 : Int32} {x3 : Int32} {x4 : Int32} (F0 : LX11 (Sk h) (a0)) (hN : Cd X mX11_haveSameFacts [.ref a0, .int x1, .int x2] (h) 0 0 (oI Q nX)) (g : ∀ r t, Q r t → Gd X mX11_changed 59 [some (.ref a0), some (.int x1), some (.int x2), some (.int x3), some (.int x4), none, none, none] [.int r] (t) nc ns P) : Gd X mX11_changed 53 [some (.ref a0), some (.int x1), some (.int x2), some (.int x3), some (.int x4), none, none, none] [] h nc ns P := by
  refine g_aload_n dX11_changed_53 rfl ?_
  refine g_iload_n dX11_changed_54 rfl ?_
  refine g_iload_n dX11_changed_55 rfl ?_
  refine Gd.z ?_
  exact g_callV (k := 11) [.int x1, .int x2] dX11_changed_56 mfX11_haveSameFacts ⟨by decide, by decide⟩ kw_1553 kw_1555 kw_89 rfl (by decide) (Nat.le_of_ble_eq_true rfl) (by intro x hx; cases hx) (LX11.o (h := h) F0) (Nat.le_of_ble_eq_true rfl) hN (fun _ _ q => q.elim) (oI_go (G := fun a b => Gd X mX11_changed 59 _ a b nc ns P) (fun r t q => Gd.wk (g r t q) ⟨rfl, ⟨rfl, ⟨rfl, ⟨rfl, ⟨rfl, trivial⟩⟩⟩⟩⟩))
theorem bkX11_changed_59 {X : GX} {h : SH} {nc ns : Nat} {P : Out → SH → Prop} {a0 : Nat} {x1 : Int32} {x2 : Int32} {x3 : Int32} {x4 : Int32} {xs0 : Int32} (kt : ¬ xs0 = 0 → Gd X mX11_changed 65 [some (.ref a0), some (.int x1), some (.int x2), some (.int x3), some (.int x4), none, none, none] [] (h) nc ns P) (kf : xs0 = 0 → Gd X mX11_changed 62 [none, none, none, none, none, none, none, none] [] (h) nc ns P) : Gd X mX11_changed 59 [some (.ref a0), some (.int x1), some (.int x2), some (.int x3), some (.int x4), none, none, none] [.int xs0] h nc ns P := by
  exact g_if_ne (tgt := 65) dX11_changed_59 (by decide) (fun q => Gd.wk (kt q) ⟨rfl, ⟨rfl, ⟨rfl, ⟨rfl, ⟨rfl, trivial⟩⟩⟩⟩⟩) (fun q => Gd.wk (kf q) trivial)
theorem bkX11_changed_62 {X : GX} {h : SH} {nc ns : Nat} {P : Out → SH → Prop} (hp : P (.inl (some (.int ((-2))))) (h)) : Gd X mX11_changed 62 [none, none, none, none, none, none, none, none] [] h nc ns P := by
  refine g_bipush (v := (-2)) dX11_changed_62 (by decide) ?_
  exact g_ireturn (st := []) dX11_changed_64 rfl rfl hp
theorem bkX11_changed_65 {X : GX} {h : SH} {nc ns : Nat} {P : Out → SH → Prop} {Q : SH → Prop} {a0 : Nat} {x1 : Int32} {x2 : Int32} {x3 : Int32} {x4 : Int32} (F0 : LX11 (Sk h) (a0)) (hN : Cd X mX11_keepsFacts [.ref a0, .int 0] (h) 0 0 (oV Q nX)) (g : ∀ t, Q t → Gd X mX11_changed 70 [some (.ref a0), some (.int x1), some (.int x2), some (.int x3), some (.int x4), none, none, none] [] (t) nc ns P) : Gd X mX11_changed 65 [some (.ref a0), some (.int x1), some (.int x2), some (.int x3), some (.int x4), none, none, none] [] h nc ns P := by
  refine g_aload_n dX11_changed_65 rfl ?_
  refine g_iconst (v := 0) dX11_changed_66 (by decide) ?_
  refine Gd.z ?_
  exact g_callV (k := 11) [.int 0] dX11_changed_67 mfX11_keepsFacts ⟨by decide, by decide⟩ kw_1545 kw_1547 kw_88 rfl (by decide) (Nat.le_of_ble_eq_true rfl) (by intro x hx; cases hx) (LX11.o (h := h) F0) (Nat.le_of_ble_eq_true rfl) hN (fun _ _ q => q.elim) (oV_go (G := fun a b => Gd X mX11_changed 70 _ a b nc ns P) (fun t q => Gd.wk (g t q) ⟨rfl, ⟨rfl, ⟨rfl, ⟨rfl, ⟨rfl, trivial⟩⟩⟩⟩⟩))
theorem bkX11_changed_70 {X : GX} {h : SH} {nc ns : Nat} {P : Out → SH → Prop} {Q : SH → Prop} {a0 : Nat} {x1 : Int32} {x2 : Int32} {x3 : Int32} {x4 : Int32} (F0 : LX11 (Sk h) (a0)) (hN : Cd X mX11_findBehind [.ref a0, .int x3] (h) 0 0 (oV Q nX)) (g : ∀ t, Q t → Gd X mX11_changed 75 [some (.ref a0), some (.int x1), some (.int x2), some (.int x3), some (.int x4), none, none, none] [] (t) nc ns P) : Gd X mX11_changed 70 [some (.ref a0), some (.int x1), some (.int x2), some (.int x3), some (.int x4), none, none, none] [] h nc ns P := by
  refine g_aload_n dX11_changed_70 rfl ?_
  refine g_iload_n dX11_changed_71 rfl ?_
  refine Gd.z ?_
  exact g_callV (k := 11) [.int x3] dX11_changed_72 mfX11_findBehind ⟨by decide, by decide⟩ kw_1467 kw_1469 kw_73 rfl (by decide) (Nat.le_of_ble_eq_true rfl) (by intro x hx; cases hx) (LX11.o (h := h) F0) (Nat.le_of_ble_eq_true rfl) hN (fun _ _ q => q.elim) (oV_go (G := fun a b => Gd X mX11_changed 75 _ a b nc ns P) (fun t q => Gd.wk (g t q) ⟨rfl, ⟨rfl, ⟨rfl, ⟨rfl, ⟨rfl, trivial⟩⟩⟩⟩⟩))
theorem bkX11_changed_75 {X : GX} {h : SH} {nc ns : Nat} {P : Out → SH → Prop} {a0 : Nat} {x1 : Int32} {x2 : Int32} {x3 : Int32} {x4 : Int32} (g : Gd X mX11_changed 84 [some (.ref a0), some (.int x1), some (.int x2), some (.int x3), some (.int x4), some (.int 0), some (.int ((-1))), some (.int 0)] [] (h) nc ns P) : Gd X mX11_changed 75 [some (.ref a0), some (.int x1), some (.int x2), some (.int x3), some (.int x4), none, none, none] [] h nc ns P := by
  refine g_iconst (v := 0) dX11_changed_75 (by decide) ?_
  refine g_istore (L' := [some (.ref a0), some (.int x1), some (.int x2), some (.int x3), some (.int x4), some (.int 0), none, none]) dX11_changed_76 (by decide) rfl ?_
  refine g_iconst (v := (-1)) dX11_changed_78 (by decide) ?_
  refine g_istore (L' := [some (.ref a0), some (.int x1), some (.int x2), some (.int x3), some (.int x4), some (.int 0), some (.int ((-1))), none]) dX11_changed_79 (by decide) rfl ?_
  refine g_iconst (v := 0) dX11_changed_81 (by decide) ?_
  refine g_istore (L' := [some (.ref a0), some (.int x1), some (.int x2), some (.int x3), some (.int x4), some (.int 0), some (.int ((-1))), some (.int 0)]) dX11_changed_82 (by decide) rfl ?_
  exact Gd.wk g ⟨rfl, ⟨rfl, ⟨rfl, ⟨rfl, ⟨rfl, ⟨rfl, ⟨rfl, ⟨rfl, trivial⟩⟩⟩⟩⟩⟩⟩⟩
theorem bkX11_changed_84 {X : GX} {h : SH} {nc ns : Nat} {P : Out → SH → Prop} {Q : Int64 → SH → Prop} {a0 : Nat} {x1 : Int32} {x2 : Int32} {x3 : Int32} {x4 : Int32} {x5 : Int32} {x6 : Int32} {x7 : Int32} (F0 : LX11 (Sk h) (a0)) (hN : Cd X mX11_worlds [.ref a0, .int x1] (h) 0 0 (oJ Q nX)) (g : ∀ r t, Q r t → Gd X mX11_changed 92 [some (.ref a0), some (.int x1), some (.int x2), some (.int x3), some (.int x4), some (.int x5), some (.int x6), some (.int x7)] [.long r, .long ((x7 : Int32).toInt64)] (t) nc ns P) : Gd X mX11_changed 84 [some (.ref a0), some (.int x1), some (.int x2), some (.int x3), some (.int x4), some (.int x5), some (.int x6), some (.int x7)] [] h nc ns P := by
  refine g_iload dX11_changed_84 rfl ?_
  refine g_i2l dX11_changed_86 ?_
  refine g_aload_n dX11_changed_87 rfl ?_
  refine g_iload_n dX11_changed_88 rfl ?_
  refine Gd.z ?_
  exact g_callV (k := 11) [.int x1] dX11_changed_89 mfX11_worlds ⟨by decide, by decide⟩ kw_1358 kw_1360 kw_53 rfl (by decide) (Nat.le_of_ble_eq_true rfl) (by intro x hx; cases hx) (LX11.o (h := h) F0) (Nat.le_of_ble_eq_true rfl) hN (fun _ _ q => q.elim) (oJ_go (G := fun a b => Gd X mX11_changed 92 _ a b nc ns P) (fun r t q => Gd.wk (g r t q) ⟨rfl, ⟨rfl, ⟨rfl, ⟨rfl, ⟨rfl, ⟨rfl, ⟨rfl, ⟨rfl, trivial⟩⟩⟩⟩⟩⟩⟩⟩))
theorem bkX11_changed_92 {X : GX} {h : SH} {nc ns : Nat} {P : Out → SH → Prop} {a0 : Nat} {x1 : Int32} {x2 : Int32} {x3 : Int32} {x4 : Int32} {x5 : Int32} {x6 : Int32} {x7 : Int32} {ys0 : Int64} {ys1 : Int64} (kt : (0 : Int32) ≤ (lg_cmp ys0 ys1) → Gd X mX11_changed 136 [some (.ref a0), none, none, none, some (.int x4), some (.int x5), some (.int x6), none] [] (h) nc ns P) (kf : ¬ (0 : Int32) ≤ (lg_cmp ys0 ys1) → Gd X mX11_changed 96 [some (.ref a0), some (.int x1), some (.int x2), some (.int x3), some (.int x4), some (.int x5), some (.int x6), some (.int x7)] [] (h) nc ns P) : Gd X mX11_changed 92 [some (.ref a0), some (.int x1), some (.int x2), some (.int x3), some (.int x4), some (.int x5), some (.int x6), some (.int x7)] [.long ys1, .long ys0] h nc ns P := by
  refine g_lcmp dX11_changed_92 ?_
  exact g_if_ge (tgt := 136) dX11_changed_93 (by decide) (fun q => Gd.wk (kt q) ⟨rfl, ⟨rfl, ⟨rfl, ⟨rfl, trivial⟩⟩⟩⟩) (fun q => Gd.wk (kf q) ⟨rfl, ⟨rfl, ⟨rfl, ⟨rfl, ⟨rfl, ⟨rfl, ⟨rfl, ⟨rfl, trivial⟩⟩⟩⟩⟩⟩⟩⟩)
theorem bkX11_changed_96 {X : GX} {h : SH} {nc ns : Nat} {P : Out → SH → Prop} {Q : SH → Prop} {a0 : Nat} {x1 : Int32} {x2 : Int32} {x3 : Int32} {x4 : Int32} {x5 : Int32} {x6 : Int32} {x7 : Int32} (F0 : LX11 (Sk h) (a0)) (hN : Cd X mX11_comes [.ref a0, .int x1, .int x7] (h) 0 0 (oV Q nX)) (g : ∀ t, Q t → Gd X mX11_changed 103 [some (.ref a0), some (.int x1), some (.int x2), some (.int x3), some (.int x4), some (.int x5), some (.int x6), some (.int x7)] [] (t) nc ns P) : Gd X mX11_changed 96 [some (.ref a0), some (.int x1), some (.int x2), some (.int x3), some (.int x4), some (.int x5), some (.int x6), some (.int x7)] [] h nc ns P := by
  refine g_aload_n dX11_changed_96 rfl ?_
  refine g_iload_n dX11_changed_97 rfl ?_
  refine g_iload dX11_changed_98 rfl ?_
  refine Gd.z ?_
  exact g_callV (k := 11) [.int x1, .int x7] dX11_changed_100 mfX11_comes ⟨by decide, by decide⟩ kw_1443 kw_1445 kw_70 rfl (by decide) (Nat.le_of_ble_eq_true rfl) (by intro x hx; cases hx) (LX11.o (h := h) F0) (Nat.le_of_ble_eq_true rfl) hN (fun _ _ q => q.elim) (oV_go (G := fun a b => Gd X mX11_changed 103 _ a b nc ns P) (fun t q => Gd.wk (g t q) ⟨rfl, ⟨rfl, ⟨rfl, ⟨rfl, ⟨rfl, ⟨rfl, ⟨rfl, ⟨rfl, trivial⟩⟩⟩⟩⟩⟩⟩⟩))
theorem bkX11_changed_103 {X : GX} {h : SH} {nc ns : Nat} {P : Out → SH → Prop} {Q : Int32 → SH → Prop} {a0 : Nat} {x1 : Int32} {x2 : Int32} {x3 : Int32} {x4 : Int32} {x5 : Int32} {x6 : Int32} {x7 : Int32} (F0 : LX11 (Sk h) (a0)) (hN : Cd X mX11_areAlike [.ref a0, .int x1, .int x2, .int x3] (h) 0 0 (oI Q nX)) (g : ∀ r t, Q r t → Gd X mX11_changed 110 [some (.ref a0), some (.int x1), some (.int x2), some (.int x3), some (.int x4), some (.int x5), some (.int x6), some (.int x7)] [.int r] (t) nc ns P) : Gd X mX11_changed 103 [some (.ref a0), some (.int x1), some (.int x2), some (.int x3), some (.int x4), some (.int x5), some (.int x6), some (.int x7)] [] h nc ns P := by
  refine g_aload_n dX11_changed_103 rfl ?_
  refine g_iload_n dX11_changed_104 rfl ?_
  refine g_iload_n dX11_changed_105 rfl ?_
  refine g_iload_n dX11_changed_106 rfl ?_
  refine Gd.z ?_
  exact g_callV (k := 11) [.int x1, .int x2, .int x3] dX11_changed_107 mfX11_areAlike ⟨by decide, by decide⟩ kw_1557 kw_1559 kw_90 rfl (by decide) (Nat.le_of_ble_eq_true rfl) (by intro x hx; cases hx) (LX11.o (h := h) F0) (Nat.le_of_ble_eq_true rfl) hN (fun _ _ q => q.elim) (oI_go (G := fun a b => Gd X mX11_changed 110 _ a b nc ns P) (fun r t q => Gd.wk (g r t q) ⟨rfl, ⟨rfl, ⟨rfl, ⟨rfl, ⟨rfl, ⟨rfl, ⟨rfl, ⟨rfl, trivial⟩⟩⟩⟩⟩⟩⟩⟩))
theorem bkX11_changed_110 {X : GX} {h : SH} {nc ns : Nat} {P : Out → SH → Prop} {a0 : Nat} {x1 : Int32} {x2 : Int32} {x3 : Int32} {x4 : Int32} {x5 : Int32} {x6 : Int32} {x7 : Int32} {xs0 : Int32} (kt : ¬ xs0 = 0 → Gd X mX11_changed 130 [some (.ref a0), some (.int x1), some (.int x2), some (.int x3), some (.int x4), some (.int x5), some (.int x6), some (.int x7)] [] (h) nc ns P) (kf : xs0 = 0 → Gd X mX11_changed 113 [some (.ref a0), some (.int x1), some (.int x2), some (.int x3), some (.int x4), some (.int x5), some (.int x6), some (.int x7)] [] (h) nc ns P) : Gd X mX11_changed 110 [some (.ref a0), some (.int x1), some (.int x2), some (.int x3), some (.int x4), some (.int x5), some (.int x6), some (.int x7)] [.int xs0] h nc ns P := by
  exact g_if_ne (tgt := 130) dX11_changed_110 (by decide) (fun q => Gd.wk (kt q) ⟨rfl, ⟨rfl, ⟨rfl, ⟨rfl, ⟨rfl, ⟨rfl, ⟨rfl, ⟨rfl, trivial⟩⟩⟩⟩⟩⟩⟩⟩) (fun q => Gd.wk (kf q) ⟨rfl, ⟨rfl, ⟨rfl, ⟨rfl, ⟨rfl, ⟨rfl, ⟨rfl, ⟨rfl, trivial⟩⟩⟩⟩⟩⟩⟩⟩)
theorem bkX11_changed_113 {X : GX} {h : SH} {nc ns : Nat} {P : Out → SH → Prop} {a0 : Nat} {x1 : Int32} {x2 : Int32} {x3 : Int32} {x4 : Int32} {x5 : Int32} {x6 : Int32} {x7 : Int32} (kt : (0 : Int32) ≤ x6 → Gd X mX11_changed 126 [some (.ref a0), some (.int x1), some (.int x2), some (.int x3), some (.int x4), some (.int (x5 + 1)), some (.int x6), some (.int x7)] [] (h) nc ns P) (kf : ¬ (0 : Int32) ≤ x6 → Gd X mX11_changed 121 [some (.ref a0), some (.int x1), some (.int x2), some (.int x3), some (.int x4), some (.int (x5 + 1)), none, some (.int x7)] [] (h) nc ns P) : Gd X mX11_changed 113 [some (.ref a0), some (.int x1), some (.int x2), some (.int x3), some (.int x4), some (.int x5), some (.int x6), some (.int x7)] [] h nc ns P := by
  refine g_iinc (v := x5 + 1) (L' := [some (.ref a0), some (.int x1), some (.int x2), some (.int x3), some (.int x4), some (.int (x5 + 1)), some (.int x6), some (.int x7)]) dX11_changed_113 rfl rfl (by decide) rfl ?_
  refine g_iload dX11_changed_116 rfl ?_
  exact g_if_ge (tgt := 126) dX11_changed_118 (by decide) (fun q => Gd.wk (kt q) ⟨rfl, ⟨rfl, ⟨rfl, ⟨rfl, ⟨rfl, ⟨rfl, ⟨rfl, ⟨rfl, trivial⟩⟩⟩⟩⟩⟩⟩⟩) (fun q => Gd.wk (kf q) ⟨rfl, ⟨rfl, ⟨rfl, ⟨rfl, ⟨rfl, ⟨rfl, ⟨rfl, trivial⟩⟩⟩⟩⟩⟩⟩)
theorem bkX11_changed_121 {X : GX} {h : SH} {nc ns : Nat} {P : Out → SH → Prop} {a0 : Nat} {x1 : Int32} {x2 : Int32} {x3 : Int32} {x4 : Int32} {x5 : Int32} {x7 : Int32} (g : Gd X mX11_changed 128 [some (.ref a0), some (.int x1), some (.int x2), some (.int x3), some (.int x4), some (.int x5), none, some (.int x7)] [.int x7] (h) nc ns P) : Gd X mX11_changed 121 [some (.ref a0), some (.int x1), some (.int x2), some (.int x3), some (.int x4), some (.int x5), none, some (.int x7)] [] h nc ns P := by
  refine g_iload dX11_changed_121 rfl ?_
  refine g_goto (tgt := 128) dX11_changed_123 (by decide) ?_
  exact Gd.wk g ⟨rfl, ⟨rfl, ⟨rfl, ⟨rfl, ⟨rfl, ⟨rfl, ⟨rfl, trivial⟩⟩⟩⟩⟩⟩⟩
theorem bkX11_changed_126 {X : GX} {h : SH} {nc ns : Nat} {P : Out → SH → Prop} {a0 : Nat} {x1 : Int32} {x2 : Int32} {x3 : Int32} {x4 : Int32} {x5 : Int32} {x6 : Int32} {x7 : Int32} (g : Gd X mX11_changed 128 [some (.ref a0), some (.int x1), some (.int x2), some (.int x3), some (.int x4), some (.int x5), none, some (.int x7)] [.int x6] (h) nc ns P) : Gd X mX11_changed 126 [some (.ref a0), some (.int x1), some (.int x2), some (.int x3), some (.int x4), some (.int x5), some (.int x6), some (.int x7)] [] h nc ns P := by
  refine g_iload dX11_changed_126 rfl ?_
  exact Gd.wk g ⟨rfl, ⟨rfl, ⟨rfl, ⟨rfl, ⟨rfl, ⟨rfl, ⟨rfl, trivial⟩⟩⟩⟩⟩⟩⟩
theorem bkX11_changed_128 {X : GX} {h : SH} {nc ns : Nat} {P : Out → SH → Prop} {a0 : Nat} {x1 : Int32} {x2 : Int32} {x3 : Int32} {x4 : Int32} {x5 : Int32} {x7 : Int32} {xs0 : Int32} (g : Gd X mX11_changed 130 [some (.ref a0), some (.int x1), some (.int x2), some (.int x3), some (.int x4), some (.int x5), some (.int xs0), some (.int x7)] [] (h) nc ns P) : Gd X mX11_changed 128 [some (.ref a0), some (.int x1), some (.int x2), some (.int x3), some (.int x4), some (.int x5), none, some (.int x7)] [.int xs0] h nc ns P := by
  refine g_istore (L' := [some (.ref a0), some (.int x1), some (.int x2), some (.int x3), some (.int x4), some (.int x5), some (.int xs0), some (.int x7)]) dX11_changed_128 (by decide) rfl ?_
  exact Gd.wk g ⟨rfl, ⟨rfl, ⟨rfl, ⟨rfl, ⟨rfl, ⟨rfl, ⟨rfl, ⟨rfl, trivial⟩⟩⟩⟩⟩⟩⟩⟩
theorem bkX11_changed_130 {X : GX} {h : SH} {nc ns : Nat} {P : Out → SH → Prop} {a0 : Nat} {x1 : Int32} {x2 : Int32} {x3 : Int32} {x4 : Int32} {x5 : Int32} {x6 : Int32} {x7 : Int32} (g : Gd X mX11_changed 84 [some (.ref a0), some (.int x1), some (.int x2), some (.int x3), some (.int x4), some (.int x5), some (.int x6), some (.int (x7 + 1))] [] (h) nc ns P) : Gd X mX11_changed 130 [some (.ref a0), some (.int x1), some (.int x2), some (.int x3), some (.int x4), some (.int x5), some (.int x6), some (.int x7)] [] h nc ns P := by
  refine g_iinc (v := x7 + 1) (L' := [some (.ref a0), some (.int x1), some (.int x2), some (.int x3), some (.int x4), some (.int x5), some (.int x6), some (.int (x7 + 1))]) dX11_changed_130 rfl rfl (by decide) rfl ?_
  refine g_goto (tgt := 84) dX11_changed_133 (by decide) ?_
  exact Gd.wk g ⟨rfl, ⟨rfl, ⟨rfl, ⟨rfl, ⟨rfl, ⟨rfl, ⟨rfl, ⟨rfl, trivial⟩⟩⟩⟩⟩⟩⟩⟩
theorem bkX11_changed_136 {X : GX} {h : SH} {nc ns : Nat} {P : Out → SH → Prop} {Q : SH → Prop} {a0 : Nat} {x4 : Int32} {x5 : Int32} {x6 : Int32} (F0 : LX11 (Sk h) (a0)) (hN : Cd X mX11_keepsFacts [.ref a0, .int 1] (h) 0 0 (oV Q nX)) (g : ∀ t, Q t → Gd X mX11_changed 141 [none, none, none, none, some (.int x4), some (.int x5), some (.int x6), none] [] (t) nc ns P) : Gd X mX11_changed 136 [some (.ref a0), none, none, none, some (.int x4), some (.int x5), some (.int x6), none] [] h nc ns P := by
  refine g_aload_n dX11_changed_136 rfl ?_
  refine g_iconst (v := 1) dX11_changed_137 (by decide) ?_
  refine Gd.z ?_
  exact g_callV (k := 11) [.int 1] dX11_changed_138 mfX11_keepsFacts ⟨by decide, by decide⟩ kw_1545 kw_1547 kw_88 rfl (by decide) (Nat.le_of_ble_eq_true rfl) (by intro x hx; cases hx) (LX11.o (h := h) F0) (Nat.le_of_ble_eq_true rfl) hN (fun _ _ q => q.elim) (oV_go (G := fun a b => Gd X mX11_changed 141 _ a b nc ns P) (fun t q => Gd.wk (g t q) ⟨rfl, ⟨rfl, ⟨rfl, trivial⟩⟩⟩))
theorem bkX11_changed_141 {X : GX} {h : SH} {nc ns : Nat} {P : Out → SH → Prop} {x4 : Int32} {x5 : Int32} {x6 : Int32} (kt : ¬ x4 = 0 → Gd X mX11_changed 151 [none, none, none, none, none, none, some (.int x6), none] [] (h) nc ns P) (kf : x4 = 0 → Gd X mX11_changed 146 [none, none, none, none, none, some (.int x5), none, none] [] (h) nc ns P) : Gd X mX11_changed 141 [none, none, none, none, some (.int x4), some (.int x5), some (.int x6), none] [] h nc ns P := by
  refine g_iload dX11_changed_141 rfl ?_
  exact g_if_ne (tgt := 151) dX11_changed_143 (by decide) (fun q => Gd.wk (kt q) ⟨rfl, trivial⟩) (fun q => Gd.wk (kf q) ⟨rfl, trivial⟩)
theorem bkX11_changed_146 {X : GX} {h : SH} {nc ns : Nat} {P : Out → SH → Prop} {x5 : Int32} (g : Gd X mX11_changed 153 [none, none, none, none, none, none, none, none] [.int x5] (h) nc ns P) : Gd X mX11_changed 146 [none, none, none, none, none, some (.int x5), none, none] [] h nc ns P := by
  refine g_iload dX11_changed_146 rfl ?_
  refine g_goto (tgt := 153) dX11_changed_148 (by decide) ?_
  exact Gd.wk g trivial
theorem bkX11_changed_151 {X : GX} {h : SH} {nc ns : Nat} {P : Out → SH → Prop} {x6 : Int32} (g : Gd X mX11_changed 153 [none, none, none, none, none, none, none, none] [.int x6] (h) nc ns P) : Gd X mX11_changed 151 [none, none, none, none, none, none, some (.int x6), none] [] h nc ns P := by
  refine g_iload dX11_changed_151 rfl ?_
  exact Gd.wk g trivial
theorem bkX11_changed_153 {X : GX} {h : SH} {nc ns : Nat} {P : Out → SH → Prop} {xs0 : Int32} (hp : P (.inl (some (.int (xs0)))) (h)) : Gd X mX11_changed 153 [none, none, none, none, none, none, none, none] [.int xs0] h nc ns P := by
  exact g_ireturn (st := []) dX11_changed_153 rfl rfl hp
theorem bkX11_look_0 {X : GX} {h : SH} {nc ns : Nat} {P : Out → SH → Prop} {a0 : Nat} {x1 : Int32} (F0 : LX11 (Sk h) (a0)) (kt : (0 : Int32) ≤ (hI (sI h a0 0 0) a0 34) → Gd X mX11_look 14 [some (.ref a0), some (.int x1)] [] (sI h a0 0 0) nc ns P) (kf : ¬ (0 : Int32) ≤ (hI (sI h a0 0 0) a0 34) → Gd X mX11_look 12 [none, none] [] (sI h a0 0 0) nc ns P) : Gd X mX11_look 0 [some (.ref a0), some (.int x1)] [] h nc ns P := by
  refine g_aload_n dX11_look_0 rfl ?_
  refine g_iconst (v := 0) dX11_look_1 (by decide) ?_
  refine g_put (c := 11) (k := 0) (h1 := sI h a0 0 0) dX11_look_2 (by decide) (by decide) kw_1127 rfl (LX11.o (h := h) F0) rfl rfl (Put.I rfl) ?_
  refine g_aload_n dX11_look_5 rfl ?_
  refine g_getI (c := 11) (k := 34) dX11_look_6 (by decide) (by decide) kw_1161 rfl (LX11.o (h := sI h a0 0 0) F0) ?_
  exact g_if_ge (tgt := 14) dX11_look_9 (by decide) (fun q => Gd.wk (kt q) ⟨rfl, ⟨rfl, trivial⟩⟩) (fun q => Gd.wk (kf q) trivial)
theorem bkX11_look_12 {X : GX} {h : SH} {nc ns : Nat} {P : Out → SH → Prop} (hp : P (.inl (some (.int ((-1))))) (h)) : Gd X mX11_look 12 [none, none] [] h nc ns P := by
  refine g_iconst (v := (-1)) dX11_look_12 (by decide) ?_
  exact g_ireturn (st := []) dX11_look_13 rfl rfl hp
theorem bkX11_look_14 {X : GX} {h : SH} {nc ns : Nat} {P : Out → SH → Prop} {a0 : Nat} {x1 : Int32} (kt : ¬ x1 = 0 → Gd X mX11_look 25 [some (.ref a0), some (.int x1)] [] (h) nc ns P) (kf : x1 = 0 → Gd X mX11_look 18 [some (.ref a0), none] [] (h) nc ns P) : Gd X mX11_look 14 [some (.ref a0), some (.int x1)] [] h nc ns P := by
  refine g_iload_n dX11_look_14 rfl ?_
  exact g_if_ne (tgt := 25) dX11_look_15 (by decide) (fun q => Gd.wk (kt q) ⟨rfl, ⟨rfl, trivial⟩⟩) (fun q => Gd.wk (kf q) ⟨rfl, trivial⟩)
theorem bkX11_look_18 {X : GX} {h : SH} {nc ns : Nat} {P : Out → SH → Prop} {a0 : Nat} (F0 : LX11 (Sk h) (a0)) (g : Gd X mX11_look 106 [none, none] [.int (hI h a0 34)] (h) nc ns P) : Gd X mX11_look 18 [some (.ref a0), none] [] h nc ns P := by
  refine g_aload_n dX11_look_18 rfl ?_
  refine g_getI (c := 11) (k := 34) dX11_look_19 (by decide) (by decide) kw_1161 rfl (LX11.o (h := h) F0) ?_
  refine g_goto (tgt := 106) dX11_look_22 (by decide) ?_
  exact Gd.wk g trivial
theorem bkX11_look_25 {X : GX} {h : SH} {nc ns : Nat} {P : Out → SH → Prop} {a0 : Nat} {x1 : Int32} (kt : ¬ x1 = 1 → Gd X mX11_look 42 [some (.ref a0), some (.int x1)] [] (h) nc ns P) (kf : x1 = 1 → Gd X mX11_look 30 [some (.ref a0), none] [] (h) nc ns P) : Gd X mX11_look 25 [some (.ref a0), some (.int x1)] [] h nc ns P := by
  refine g_iload_n dX11_look_25 rfl ?_
  refine g_iconst (v := 1) dX11_look_26 (by decide) ?_
  exact g_icmp_ne (tgt := 42) dX11_look_27 (by decide) (fun q => Gd.wk (kt q) ⟨rfl, ⟨rfl, trivial⟩⟩) (fun q => Gd.wk (kf q) ⟨rfl, trivial⟩)
theorem bkX11_look_30 {X : GX} {h : SH} {nc ns : Nat} {P : Out → SH → Prop} {a0 : Nat} (F0 : LX11 (Sk h) (a0)) (i1 : vp_in (hI h a0 34) 7) (g : Gd X mX11_look 106 [none, none] [.int (hI h (a0 + 7) ((hI h a0 34 : Int32).toNatClampNeg))] (h) nc ns P) : Gd X mX11_look 30 [some (.ref a0), none] [] h nc ns P := by
  refine g_aload_n dX11_look_30 rfl ?_
  refine g_getAs (c := 11) (k := 12) (b := a0 + 7) dX11_look_31 (by decide) (by decide) kw_1139 rfl (LX11.o (h := h) F0) (LX11.r_facts (h := h) F0) ?_
  refine g_aload_n dX11_look_34 rfl ?_
  refine g_getI (c := 11) (k := 34) dX11_look_35 (by decide) (by decide) kw_1161 rfl (LX11.o (h := h) F0) ?_
  refine g_iaload dX11_look_38 (LX11.a_facts (h := h) F0) i1 ?_
  refine g_goto (tgt := 106) dX11_look_39 (by decide) ?_
  exact Gd.wk g trivial
theorem bkX11_look_42 {X : GX} {h : SH} {nc ns : Nat} {P : Out → SH → Prop} {a0 : Nat} {x1 : Int32} (kt : ¬ x1 = 2 → Gd X mX11_look 59 [some (.ref a0), some (.int x1)] [] (h) nc ns P) (kf : x1 = 2 → Gd X mX11_look 47 [some (.ref a0), none] [] (h) nc ns P) : Gd X mX11_look 42 [some (.ref a0), some (.int x1)] [] h nc ns P := by
  refine g_iload_n dX11_look_42 rfl ?_
  refine g_iconst (v := 2) dX11_look_43 (by decide) ?_
  exact g_icmp_ne (tgt := 59) dX11_look_44 (by decide) (fun q => Gd.wk (kt q) ⟨rfl, ⟨rfl, trivial⟩⟩) (fun q => Gd.wk (kf q) ⟨rfl, trivial⟩)
theorem bkX11_look_47 {X : GX} {h : SH} {nc ns : Nat} {P : Out → SH → Prop} {a0 : Nat} (F0 : LX11 (Sk h) (a0)) (i1 : vp_in (hI h a0 34) 7) (g : Gd X mX11_look 106 [none, none] [.int (hI h (a0 + 11) ((hI h a0 34 : Int32).toNatClampNeg))] (h) nc ns P) : Gd X mX11_look 47 [some (.ref a0), none] [] h nc ns P := by
  refine g_aload_n dX11_look_47 rfl ?_
  refine g_getAs (c := 11) (k := 16) (b := a0 + 11) dX11_look_48 (by decide) (by decide) kw_1143 rfl (LX11.o (h := h) F0) (LX11.r_clauses (h := h) F0) ?_
  refine g_aload_n dX11_look_51 rfl ?_
  refine g_getI (c := 11) (k := 34) dX11_look_52 (by decide) (by decide) kw_1161 rfl (LX11.o (h := h) F0) ?_
  refine g_iaload dX11_look_55 (LX11.a_clauses (h := h) F0) i1 ?_
  refine g_goto (tgt := 106) dX11_look_56 (by decide) ?_
  exact Gd.wk g trivial
theorem bkX11_look_59 {X : GX} {h : SH} {nc ns : Nat} {P : Out → SH → Prop} {a0 : Nat} {x1 : Int32} (kt : ¬ x1 = 3 → Gd X mX11_look 76 [some (.ref a0), some (.int x1)] [] (h) nc ns P) (kf : x1 = 3 → Gd X mX11_look 64 [some (.ref a0), none] [] (h) nc ns P) : Gd X mX11_look 59 [some (.ref a0), some (.int x1)] [] h nc ns P := by
  refine g_iload_n dX11_look_59 rfl ?_
  refine g_iconst (v := 3) dX11_look_60 (by decide) ?_
  exact g_icmp_ne (tgt := 76) dX11_look_61 (by decide) (fun q => Gd.wk (kt q) ⟨rfl, ⟨rfl, trivial⟩⟩) (fun q => Gd.wk (kf q) ⟨rfl, trivial⟩)
theorem bkX11_look_64 {X : GX} {h : SH} {nc ns : Nat} {P : Out → SH → Prop} {Q : Int64 → SH → Prop} {a0 : Nat} (F0 : LX11 (Sk h) (a0)) (hN : Cd X mX11_worlds [.ref a0, .int (hI h a0 34)] (h) 0 0 (oJ Q nX)) (g : ∀ r t, Q r t → Gd X mX11_look 72 [none, none] [.long r] (t) nc ns P) : Gd X mX11_look 64 [some (.ref a0), none] [] h nc ns P := by
  refine g_aload_n dX11_look_64 rfl ?_
  refine g_aload_n dX11_look_65 rfl ?_
  refine g_getI (c := 11) (k := 34) dX11_look_66 (by decide) (by decide) kw_1161 rfl (LX11.o (h := h) F0) ?_
  refine Gd.z ?_
  exact g_callV (k := 11) [.int (hI h a0 34)] dX11_look_69 mfX11_worlds ⟨by decide, by decide⟩ kw_1358 kw_1360 kw_53 rfl (by decide) (Nat.le_of_ble_eq_true rfl) (by intro x hx; cases hx) (LX11.o (h := h) F0) (Nat.le_of_ble_eq_true rfl) hN (fun _ _ q => q.elim) (oJ_go (G := fun a b => Gd X mX11_look 72 _ a b nc ns P) (fun r t q => Gd.wk (g r t q) trivial))
theorem bkX11_look_72 {X : GX} {h : SH} {nc ns : Nat} {P : Out → SH → Prop} {ys0 : Int64} (g : Gd X mX11_look 106 [none, none] [.int ((ys0 : Int64).toInt32)] (h) nc ns P) : Gd X mX11_look 72 [none, none] [.long ys0] h nc ns P := by
  refine g_l2i dX11_look_72 ?_
  refine g_goto (tgt := 106) dX11_look_73 (by decide) ?_
  exact Gd.wk g trivial
theorem bkX11_look_76 {X : GX} {h : SH} {nc ns : Nat} {P : Out → SH → Prop} {a0 : Nat} {x1 : Int32} (kt : ¬ x1 = 4 → Gd X mX11_look 93 [some (.ref a0), some (.int x1)] [] (h) nc ns P) (kf : x1 = 4 → Gd X mX11_look 81 [some (.ref a0), none] [] (h) nc ns P) : Gd X mX11_look 76 [some (.ref a0), some (.int x1)] [] h nc ns P := by
  refine g_iload_n dX11_look_76 rfl ?_
  refine g_iconst (v := 4) dX11_look_77 (by decide) ?_
  exact g_icmp_ne (tgt := 93) dX11_look_78 (by decide) (fun q => Gd.wk (kt q) ⟨rfl, ⟨rfl, trivial⟩⟩) (fun q => Gd.wk (kf q) ⟨rfl, trivial⟩)
theorem bkX11_look_81 {X : GX} {h : SH} {nc ns : Nat} {P : Out → SH → Prop} {a0 : Nat} (F0 : LX11 (Sk h) (a0)) (i1 : vp_in (hI h a0 34) 6) (g : Gd X mX11_look 106 [none, none] [.int (hI h (a0 + 6) ((hI h a0 34 : Int32).toNatClampNeg))] (h) nc ns P) : Gd X mX11_look 81 [some (.ref a0), none] [] h nc ns P := by
  refine g_aload_n dX11_look_81 rfl ?_
  refine g_getAs (c := 11) (k := 11) (b := a0 + 6) dX11_look_82 (by decide) (by decide) kw_1138 rfl (LX11.o (h := h) F0) (LX11.r_from (h := h) F0) ?_
  refine g_aload_n dX11_look_85 rfl ?_
  refine g_getI (c := 11) (k := 34) dX11_look_86 (by decide) (by decide) kw_1161 rfl (LX11.o (h := h) F0) ?_
  refine g_iaload dX11_look_89 (LX11.a_from (h := h) F0) i1 ?_
  refine g_goto (tgt := 106) dX11_look_90 (by decide) ?_
  exact Gd.wk g trivial
theorem bkX11_look_93 {X : GX} {h : SH} {nc ns : Nat} {P : Out → SH → Prop} {a0 : Nat} {x1 : Int32} (kt : ¬ x1 = 5 → Gd X mX11_look 105 [none, none] [] (h) nc ns P) (kf : x1 = 5 → Gd X mX11_look 98 [some (.ref a0), none] [] (h) nc ns P) : Gd X mX11_look 93 [some (.ref a0), some (.int x1)] [] h nc ns P := by
  refine g_iload_n dX11_look_93 rfl ?_
  refine g_iconst (v := 5) dX11_look_94 (by decide) ?_
  exact g_icmp_ne (tgt := 105) dX11_look_95 (by decide) (fun q => Gd.wk (kt q) trivial) (fun q => Gd.wk (kf q) ⟨rfl, trivial⟩)
theorem bkX11_look_98 {X : GX} {h : SH} {nc ns : Nat} {P : Out → SH → Prop} {Q : Int32 → SH → Prop} {a0 : Nat} (F0 : LX11 (Sk h) (a0)) (hN : Cd X mX11_worldNow [.ref a0] (h) 0 0 (oI Q nX)) (g : ∀ r t, Q r t → Gd X mX11_look 102 [none, none] [.int r] (t) nc ns P) : Gd X mX11_look 98 [some (.ref a0), none] [] h nc ns P := by
  refine g_aload_n dX11_look_98 rfl ?_
  refine Gd.z ?_
  exact g_callV (k := 11) [] dX11_look_99 mfX11_worldNow ⟨by decide, by decide⟩ kw_1565 kw_1567 kw_91 rfl (by decide) (Nat.le_of_ble_eq_true rfl) (by intro x hx; cases hx) (LX11.o (h := h) F0) (Nat.le_of_ble_eq_true rfl) hN (fun _ _ q => q.elim) (oI_go (G := fun a b => Gd X mX11_look 102 _ a b nc ns P) (fun r t q => Gd.wk (g r t q) trivial))
theorem bkX11_look_102 {X : GX} {h : SH} {nc ns : Nat} {P : Out → SH → Prop} {xs0 : Int32} (g : Gd X mX11_look 106 [none, none] [.int xs0] (h) nc ns P) : Gd X mX11_look 102 [none, none] [.int xs0] h nc ns P := by
  refine g_goto (tgt := 106) dX11_look_102 (by decide) ?_
  exact Gd.wk g trivial
theorem bkX11_look_105 {X : GX} {h : SH} {nc ns : Nat} {P : Out → SH → Prop} (g : Gd X mX11_look 106 [none, none] [.int ((-1))] (h) nc ns P) : Gd X mX11_look 105 [none, none] [] h nc ns P := by
  refine g_iconst (v := (-1)) dX11_look_105 (by decide) ?_
  exact Gd.wk g trivial
theorem bkX11_look_106 {X : GX} {h : SH} {nc ns : Nat} {P : Out → SH → Prop} {xs0 : Int32} (hp : P (.inl (some (.int (xs0)))) (h)) : Gd X mX11_look 106 [none, none] [.int xs0] h nc ns P := by
  exact g_ireturn (st := []) dX11_look_106 rfl rfl hp
theorem bkX11_told_0 {X : GX} {h : SH} {nc ns : Nat} {P : Out → SH → Prop} {a0 : Nat} {x1 : Int32} {x2 : Int32} (F0 : LX11 (Sk h) (a0)) (kt : hI h a0 34 < 0 → Gd X mX11_told 38 [some (.ref a0), some (.int x1), some (.int x2)] [.ref a0] (h) nc ns P) (kf : ¬ hI h a0 34 < 0 → Gd X mX11_told 8 [some (.ref a0), some (.int x1), some (.int x2)] [.ref a0] (h) nc ns P) : Gd X mX11_told 0 [some (.ref a0), some (.int x1), some (.int x2)] [] h nc ns P := by
  refine g_aload_n dX11_told_0 rfl ?_
  refine g_aload_n dX11_told_1 rfl ?_
  refine g_getI (c := 11) (k := 34) dX11_told_2 (by decide) (by decide) kw_1161 rfl (LX11.o (h := h) F0) ?_
  exact g_if_lt (tgt := 38) dX11_told_5 (by decide) (fun q => Gd.wk (kt q) ⟨rfl, ⟨rfl, ⟨rfl, trivial⟩⟩⟩) (fun q => Gd.wk (kf q) ⟨rfl, ⟨rfl, ⟨rfl, trivial⟩⟩⟩)
theorem bkX11_told_8 {X : GX} {h : SH} {nc ns : Nat} {P : Out → SH → Prop} {a0 : Nat} {x1 : Int32} {x2 : Int32} {as0 : Nat} (kt : x1 < 0 → Gd X mX11_told 38 [some (.ref a0), some (.int x1), some (.int x2)] [.ref as0] (h) nc ns P) (kf : ¬ x1 < 0 → Gd X mX11_told 12 [some (.ref a0), some (.int x1), some (.int x2)] [.ref as0] (h) nc ns P) : Gd X mX11_told 8 [some (.ref a0), some (.int x1), some (.int x2)] [.ref as0] h nc ns P := by
  refine g_iload_n dX11_told_8 rfl ?_
  exact g_if_lt (tgt := 38) dX11_told_9 (by decide) (fun q => Gd.wk (kt q) ⟨rfl, ⟨rfl, ⟨rfl, trivial⟩⟩⟩) (fun q => Gd.wk (kf q) ⟨rfl, ⟨rfl, ⟨rfl, trivial⟩⟩⟩)
theorem bkX11_told_12 {X : GX} {h : SH} {nc ns : Nat} {P : Out → SH → Prop} {a0 : Nat} {x1 : Int32} {x2 : Int32} {as0 : Nat} (F0 : LX11 (Sk h) (a0)) (i1 : vp_in (hI h a0 34) 7) (kt : (hI h (a0 + 7) ((hI h a0 34 : Int32).toNatClampNeg)) ≤ x1 → Gd X mX11_told 38 [some (.ref a0), some (.int x1), some (.int x2)] [.ref as0] (h) nc ns P) (kf : ¬ (hI h (a0 + 7) ((hI h a0 34 : Int32).toNatClampNeg)) ≤ x1 → Gd X mX11_told 25 [some (.ref a0), some (.int x1), some (.int x2)] [.ref as0] (h) nc ns P) : Gd X mX11_told 12 [some (.ref a0), some (.int x1), some (.int x2)] [.ref as0] h nc ns P := by
  refine g_iload_n dX11_told_12 rfl ?_
  refine g_aload_n dX11_told_13 rfl ?_
  refine g_getAs (c := 11) (k := 12) (b := a0 + 7) dX11_told_14 (by decide) (by decide) kw_1139 rfl (LX11.o (h := h) F0) (LX11.r_facts (h := h) F0) ?_
  refine g_aload_n dX11_told_17 rfl ?_
  refine g_getI (c := 11) (k := 34) dX11_told_18 (by decide) (by decide) kw_1161 rfl (LX11.o (h := h) F0) ?_
  refine g_iaload dX11_told_21 (LX11.a_facts (h := h) F0) i1 ?_
  exact g_icmp_ge (tgt := 38) dX11_told_22 (by decide) (fun q => Gd.wk (kt q) ⟨rfl, ⟨rfl, ⟨rfl, trivial⟩⟩⟩) (fun q => Gd.wk (kf q) ⟨rfl, ⟨rfl, ⟨rfl, trivial⟩⟩⟩)
theorem bkX11_told_25 {X : GX} {h : SH} {nc ns : Nat} {P : Out → SH → Prop} {a0 : Nat} {x1 : Int32} {x2 : Int32} {as0 : Nat} (kt : x2 < 0 → Gd X mX11_told 38 [some (.ref a0), some (.int x1), some (.int x2)] [.ref as0] (h) nc ns P) (kf : ¬ x2 < 0 → Gd X mX11_told 29 [some (.ref a0), some (.int x1), some (.int x2)] [.ref as0] (h) nc ns P) : Gd X mX11_told 25 [some (.ref a0), some (.int x1), some (.int x2)] [.ref as0] h nc ns P := by
  refine g_iload_n dX11_told_25 rfl ?_
  exact g_if_lt (tgt := 38) dX11_told_26 (by decide) (fun q => Gd.wk (kt q) ⟨rfl, ⟨rfl, ⟨rfl, trivial⟩⟩⟩) (fun q => Gd.wk (kf q) ⟨rfl, ⟨rfl, ⟨rfl, trivial⟩⟩⟩)
theorem bkX11_told_29 {X : GX} {h : SH} {nc ns : Nat} {P : Out → SH → Prop} {a0 : Nat} {x1 : Int32} {x2 : Int32} {as0 : Nat} (kt : (2 : Int32) < x2 → Gd X mX11_told 38 [some (.ref a0), some (.int x1), some (.int x2)] [.ref as0] (h) nc ns P) (kf : ¬ (2 : Int32) < x2 → Gd X mX11_told 34 [some (.ref a0), some (.int x1), some (.int x2)] [.ref as0] (h) nc ns P) : Gd X mX11_told 29 [some (.ref a0), some (.int x1), some (.int x2)] [.ref as0] h nc ns P := by
  refine g_iload_n dX11_told_29 rfl ?_
  refine g_iconst (v := 2) dX11_told_30 (by decide) ?_
  exact g_icmp_gt (tgt := 38) dX11_told_31 (by decide) (fun q => Gd.wk (kt q) ⟨rfl, ⟨rfl, ⟨rfl, trivial⟩⟩⟩) (fun q => Gd.wk (kf q) ⟨rfl, ⟨rfl, ⟨rfl, trivial⟩⟩⟩)
theorem bkX11_told_34 {X : GX} {h : SH} {nc ns : Nat} {P : Out → SH → Prop} {a0 : Nat} {x1 : Int32} {x2 : Int32} {as0 : Nat} (g : Gd X mX11_told 39 [some (.ref a0), some (.int x1), some (.int x2)] [.int 0, .ref as0] (h) nc ns P) : Gd X mX11_told 34 [some (.ref a0), some (.int x1), some (.int x2)] [.ref as0] h nc ns P := by
  refine g_iconst (v := 0) dX11_told_34 (by decide) ?_
  refine g_goto (tgt := 39) dX11_told_35 (by decide) ?_
  exact Gd.wk g ⟨rfl, ⟨rfl, ⟨rfl, trivial⟩⟩⟩
theorem bkX11_told_38 {X : GX} {h : SH} {nc ns : Nat} {P : Out → SH → Prop} {a0 : Nat} {x1 : Int32} {x2 : Int32} {as0 : Nat} (g : Gd X mX11_told 39 [some (.ref a0), some (.int x1), some (.int x2)] [.int 1, .ref as0] (h) nc ns P) : Gd X mX11_told 38 [some (.ref a0), some (.int x1), some (.int x2)] [.ref as0] h nc ns P := by
  refine g_iconst (v := 1) dX11_told_38 (by decide) ?_
  exact Gd.wk g ⟨rfl, ⟨rfl, ⟨rfl, trivial⟩⟩⟩
theorem bkX11_told_39 {X : GX} {h : SH} {nc ns : Nat} {P : Out → SH → Prop} {a0 : Nat} {x1 : Int32} {x2 : Int32} {as0 : Nat} {xs1 : Int32} (F0 : LX11 (Sk h) (as0)) (F1 : LX11 (Sk h) (a0)) (kt : (hI (sI h as0 0 xs1) a0 0) ≤ 0 → Gd X mX11_told 51 [some (.ref a0), some (.int x1), some (.int x2)] [] (sI h as0 0 xs1) nc ns P) (kf : ¬ (hI (sI h as0 0 xs1) a0 0) ≤ 0 → Gd X mX11_told 49 [none, none, none] [] (sI h as0 0 xs1) nc ns P) : Gd X mX11_told 39 [some (.ref a0), some (.int x1), some (.int x2)] [.int xs1, .ref as0] h nc ns P := by
  refine g_put (c := 11) (k := 0) (h1 := sI h as0 0 xs1) dX11_told_39 (by decide) (by decide) kw_1127 rfl (LX11.o (h := h) F0) rfl rfl (Put.I rfl) ?_
  refine g_aload_n dX11_told_42 rfl ?_
  refine g_getI (c := 11) (k := 0) dX11_told_43 (by decide) (by decide) kw_1127 rfl (LX11.o (h := sI h as0 0 xs1) F1) ?_
  exact g_if_le (tgt := 51) dX11_told_46 (by decide) (fun q => Gd.wk (kt q) ⟨rfl, ⟨rfl, ⟨rfl, trivial⟩⟩⟩) (fun q => Gd.wk (kf q) trivial)
theorem bkX11_told_49 {X : GX} {h : SH} {nc ns : Nat} {P : Out → SH → Prop} (hp : P (.inl (some (.int (0)))) (h)) : Gd X mX11_told 49 [none, none, none] [] h nc ns P := by
  refine g_iconst (v := 0) dX11_told_49 (by decide) ?_
  exact g_ireturn (st := []) dX11_told_50 rfl rfl hp
theorem bkX11_told_51 {X : GX} {h : SH} {nc ns : Nat} {P : Out → SH → Prop} {a0 : Nat} {x1 : Int32} {x2 : Int32} (kt : ¬ x2 = 0 → Gd X mX11_told 72 [some (.ref a0), some (.int x1), some (.int x2)] [] (h) nc ns P) (kf : x2 = 0 → Gd X mX11_told 55 [some (.ref a0), some (.int x1), none] [] (h) nc ns P) : Gd X mX11_told 51 [some (.ref a0), some (.int x1), some (.int x2)] [] h nc ns P := by
  refine g_iload_n dX11_told_51 rfl ?_
  exact g_if_ne (tgt := 72) dX11_told_52 (by decide) (fun q => Gd.wk (kt q) ⟨rfl, ⟨rfl, ⟨rfl, trivial⟩⟩⟩) (fun q => Gd.wk (kf q) ⟨rfl, ⟨rfl, trivial⟩⟩)
theorem bkX11_told_55 {X : GX} {h : SH} {nc ns : Nat} {P : Out → SH → Prop} {a0 : Nat} {x1 : Int32} (F0 : LX11 (Sk h) (a0)) (i1 : vp_in ((8 * hI h a0 34) + x1) 56) (g : Gd X mX11_told 100 [none, none, none] [.int (hI h (a0 + 9) (((8 * hI h a0 34) + x1 : Int32).toNatClampNeg))] (h) nc ns P) : Gd X mX11_told 55 [some (.ref a0), some (.int x1), none] [] h nc ns P := by
  refine g_aload_n dX11_told_55 rfl ?_
  refine g_getAs (c := 11) (k := 14) (b := a0 + 9) dX11_told_56 (by decide) (by decide) kw_1141 rfl (LX11.o (h := h) F0) (LX11.r_least (h := h) F0) ?_
  refine g_bipush (v := 8) dX11_told_59 (by decide) ?_
  refine g_aload_n dX11_told_61 rfl ?_
  refine g_getI (c := 11) (k := 34) dX11_told_62 (by decide) (by decide) kw_1161 rfl (LX11.o (h := h) F0) ?_
  refine g_imul dX11_told_65 ?_
  refine g_iload_n dX11_told_66 rfl ?_
  refine g_iadd dX11_told_67 ?_
  refine g_iaload dX11_told_68 (LX11.a_least (h := h) F0) i1 ?_
  refine g_goto (tgt := 100) dX11_told_69 (by decide) ?_
  exact Gd.wk g trivial
theorem bkX11_told_72 {X : GX} {h : SH} {nc ns : Nat} {P : Out → SH → Prop} {a0 : Nat} {x1 : Int32} {x2 : Int32} (kt : ¬ x2 = 1 → Gd X mX11_told 94 [some (.ref a0), some (.int x1), none] [] (h) nc ns P) (kf : x2 = 1 → Gd X mX11_told 77 [some (.ref a0), some (.int x1), none] [] (h) nc ns P) : Gd X mX11_told 72 [some (.ref a0), some (.int x1), some (.int x2)] [] h nc ns P := by
  refine g_iload_n dX11_told_72 rfl ?_
  refine g_iconst (v := 1) dX11_told_73 (by decide) ?_
  exact g_icmp_ne (tgt := 94) dX11_told_74 (by decide) (fun q => Gd.wk (kt q) ⟨rfl, ⟨rfl, trivial⟩⟩) (fun q => Gd.wk (kf q) ⟨rfl, ⟨rfl, trivial⟩⟩)
theorem bkX11_told_77 {X : GX} {h : SH} {nc ns : Nat} {P : Out → SH → Prop} {a0 : Nat} {x1 : Int32} (F0 : LX11 (Sk h) (a0)) (i1 : vp_in ((8 * hI h a0 34) + x1) 56) (g : Gd X mX11_told 100 [none, none, none] [.int (hI h (a0 + 10) (((8 * hI h a0 34) + x1 : Int32).toNatClampNeg))] (h) nc ns P) : Gd X mX11_told 77 [some (.ref a0), some (.int x1), none] [] h nc ns P := by
  refine g_aload_n dX11_told_77 rfl ?_
  refine g_getAs (c := 11) (k := 15) (b := a0 + 10) dX11_told_78 (by decide) (by decide) kw_1142 rfl (LX11.o (h := h) F0) (LX11.r_most (h := h) F0) ?_
  refine g_bipush (v := 8) dX11_told_81 (by decide) ?_
  refine g_aload_n dX11_told_83 rfl ?_
  refine g_getI (c := 11) (k := 34) dX11_told_84 (by decide) (by decide) kw_1161 rfl (LX11.o (h := h) F0) ?_
  refine g_imul dX11_told_87 ?_
  refine g_iload_n dX11_told_88 rfl ?_
  refine g_iadd dX11_told_89 ?_
  refine g_iaload dX11_told_90 (LX11.a_most (h := h) F0) i1 ?_
  refine g_goto (tgt := 100) dX11_told_91 (by decide) ?_
  exact Gd.wk g trivial
theorem bkX11_told_94 {X : GX} {h : SH} {nc ns : Nat} {P : Out → SH → Prop} {a0 : Nat} {x1 : Int32} (F0 : LX11 (Sk h) (a0)) (i1 : vp_in (x1) 8) (g : Gd X mX11_told 100 [none, none, none] [.int (hI h (a0 + 27) ((x1 : Int32).toNatClampNeg))] (h) nc ns P) : Gd X mX11_told 94 [some (.ref a0), some (.int x1), none] [] h nc ns P := by
  refine g_aload_n dX11_told_94 rfl ?_
  refine g_getAs (c := 11) (k := 35) (b := a0 + 27) dX11_told_95 (by decide) (by decide) kw_1162 rfl (LX11.o (h := h) F0) (LX11.r_told (h := h) F0) ?_
  refine g_iload_n dX11_told_98 rfl ?_
  refine g_iaload dX11_told_99 (LX11.a_told (h := h) F0) i1 ?_
  exact Gd.wk g trivial
theorem bkX11_told_100 {X : GX} {h : SH} {nc ns : Nat} {P : Out → SH → Prop} {xs0 : Int32} (hp : P (.inl (some (.int (xs0)))) (h)) : Gd X mX11_told 100 [none, none, none] [.int xs0] h nc ns P := by
  exact g_ireturn (st := []) dX11_told_100 rfl rfl hp
theorem bkX11_count_0 {X : GX} {h : SH} {nc ns : Nat} {P : Out → SH → Prop} {a0 : Nat} {x1 : Int32} (F0 : LX11 (Sk h) (a0)) (kt : ¬ x1 = 0 → Gd X mX11_count 16 [some (.ref a0), some (.int x1)] [] (sI h a0 0 0) nc ns P) (kf : x1 = 0 → Gd X mX11_count 9 [some (.ref a0), none] [] (sI h a0 0 0) nc ns P) : Gd X mX11_count 0 [some (.ref a0), some (.int x1)] [] h nc ns P := by
  refine g_aload_n dX11_count_0 rfl ?_
  refine g_iconst (v := 0) dX11_count_1 (by decide) ?_
  refine g_put (c := 11) (k := 0) (h1 := sI h a0 0 0) dX11_count_2 (by decide) (by decide) kw_1127 rfl (LX11.o (h := h) F0) rfl rfl (Put.I rfl) ?_
  refine g_iload_n dX11_count_5 rfl ?_
  exact g_if_ne (tgt := 16) dX11_count_6 (by decide) (fun q => Gd.wk (kt q) ⟨rfl, ⟨rfl, trivial⟩⟩) (fun q => Gd.wk (kf q) ⟨rfl, trivial⟩)
theorem bkX11_count_9 {X : GX} {h : SH} {nc ns : Nat} {P : Out → SH → Prop} {a0 : Nat} (F0 : LX11 (Sk h) (a0)) (g : Gd X mX11_count 41 [none, none] [.int (hI h a0 10)] (h) nc ns P) : Gd X mX11_count 9 [some (.ref a0), none] [] h nc ns P := by
  refine g_aload_n dX11_count_9 rfl ?_
  refine g_getI (c := 11) (k := 10) dX11_count_10 (by decide) (by decide) kw_1137 rfl (LX11.o (h := h) F0) ?_
  refine g_goto (tgt := 41) dX11_count_13 (by decide) ?_
  exact Gd.wk g trivial
theorem bkX11_count_16 {X : GX} {h : SH} {nc ns : Nat} {P : Out → SH → Prop} {a0 : Nat} {x1 : Int32} (kt : ¬ x1 = 1 → Gd X mX11_count 28 [some (.ref a0), some (.int x1)] [] (h) nc ns P) (kf : x1 = 1 → Gd X mX11_count 21 [some (.ref a0), none] [] (h) nc ns P) : Gd X mX11_count 16 [some (.ref a0), some (.int x1)] [] h nc ns P := by
  refine g_iload_n dX11_count_16 rfl ?_
  refine g_iconst (v := 1) dX11_count_17 (by decide) ?_
  exact g_icmp_ne (tgt := 28) dX11_count_18 (by decide) (fun q => Gd.wk (kt q) ⟨rfl, ⟨rfl, trivial⟩⟩) (fun q => Gd.wk (kf q) ⟨rfl, trivial⟩)
theorem bkX11_count_21 {X : GX} {h : SH} {nc ns : Nat} {P : Out → SH → Prop} {a0 : Nat} (F0 : LX11 (Sk h) (a0)) (g : Gd X mX11_count 41 [none, none] [.int (hI h a0 2)] (h) nc ns P) : Gd X mX11_count 21 [some (.ref a0), none] [] h nc ns P := by
  refine g_aload_n dX11_count_21 rfl ?_
  refine g_getI (c := 11) (k := 2) dX11_count_22 (by decide) (by decide) kw_1129 rfl (LX11.o (h := h) F0) ?_
  refine g_goto (tgt := 41) dX11_count_25 (by decide) ?_
  exact Gd.wk g trivial
theorem bkX11_count_28 {X : GX} {h : SH} {nc ns : Nat} {P : Out → SH → Prop} {a0 : Nat} {x1 : Int32} (kt : ¬ x1 = 2 → Gd X mX11_count 40 [none, none] [] (h) nc ns P) (kf : x1 = 2 → Gd X mX11_count 33 [some (.ref a0), none] [] (h) nc ns P) : Gd X mX11_count 28 [some (.ref a0), some (.int x1)] [] h nc ns P := by
  refine g_iload_n dX11_count_28 rfl ?_
  refine g_iconst (v := 2) dX11_count_29 (by decide) ?_
  exact g_icmp_ne (tgt := 40) dX11_count_30 (by decide) (fun q => Gd.wk (kt q) trivial) (fun q => Gd.wk (kf q) ⟨rfl, trivial⟩)
theorem bkX11_count_33 {X : GX} {h : SH} {nc ns : Nat} {P : Out → SH → Prop} {a0 : Nat} (F0 : LX11 (Sk h) (a0)) (g : Gd X mX11_count 41 [none, none] [.int (hI h a0 36)] (h) nc ns P) : Gd X mX11_count 33 [some (.ref a0), none] [] h nc ns P := by
  refine g_aload_n dX11_count_33 rfl ?_
  refine g_getI (c := 11) (k := 36) dX11_count_34 (by decide) (by decide) kw_1163 rfl (LX11.o (h := h) F0) ?_
  refine g_goto (tgt := 41) dX11_count_37 (by decide) ?_
  exact Gd.wk g trivial
theorem bkX11_count_40 {X : GX} {h : SH} {nc ns : Nat} {P : Out → SH → Prop} (g : Gd X mX11_count 41 [none, none] [.int ((-1))] (h) nc ns P) : Gd X mX11_count 40 [none, none] [] h nc ns P := by
  refine g_iconst (v := (-1)) dX11_count_40 (by decide) ?_
  exact Gd.wk g trivial
theorem bkX11_count_41 {X : GX} {h : SH} {nc ns : Nat} {P : Out → SH → Prop} {xs0 : Int32} (hp : P (.inl (some (.int (xs0)))) (h)) : Gd X mX11_count 41 [none, none] [.int xs0] h nc ns P := by
  exact g_ireturn (st := []) dX11_count_41 rfl rfl hp
