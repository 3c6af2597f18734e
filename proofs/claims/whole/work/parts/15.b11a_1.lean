theorem bkX11_factIs_155 {X : GX} {h : SH} {nc ns : Nat} {P : Out → SH → Prop} {a0 : Nat} {x2 : Int32} (F0 : LX11 (Sk h) (a0)) (i1 : vp_in (hI h a0 7) 2402) (i2 : vp_in (x2) 56) (kt : (lg_cmp (hJ h (a0 + 4) ((hI h a0 7 : Int32).toNatClampNeg)) ((hI h (a0 + 9) ((x2 : Int32).toNatClampNeg) : Int32).toInt64)) < 0 → Gd X mX11_factIs 229 [some (.ref a0), none, some (.int x2), none] [] (h) nc ns P) (kf : ¬ (lg_cmp (hJ h (a0 + 4) ((hI h a0 7 : Int32).toNatClampNeg)) ((hI h (a0 + 9) ((x2 : Int32).toNatClampNeg) : Int32).toInt64)) < 0 → Gd X mX11_factIs 175 [some (.ref a0), none, some (.int x2), none] [] (h) nc ns P) : Gd X mX11_factIs 155 [some (.ref a0), none, some (.int x2), none] [] h nc ns P := by
  refine g_aload_n dX11_factIs_155 rfl ?_
  refine g_getAs (c := 11) (k := 6) (b := a0 + 4) dX11_factIs_156 (by decide) (by decide) kw_1133 rfl (LX11.o (h := h) F0) (LX11.r_value (h := h) F0) ?_
  refine g_aload_n dX11_factIs_159 rfl ?_
  refine g_getI (c := 11) (k := 7) dX11_factIs_160 (by decide) (by decide) kw_1134 rfl (LX11.o (h := h) F0) ?_
  refine g_laload dX11_factIs_163 (LX11.a_value (h := h) F0) i1 ?_
  refine g_aload_n dX11_factIs_164 rfl ?_
  refine g_getAs (c := 11) (k := 14) (b := a0 + 9) dX11_factIs_165 (by decide) (by decide) kw_1141 rfl (LX11.o (h := h) F0) (LX11.r_least (h := h) F0) ?_
  refine g_iload_n dX11_factIs_168 rfl ?_
  refine g_iaload dX11_factIs_169 (LX11.a_least (h := h) F0) i2 ?_
  refine g_i2l dX11_factIs_170 ?_
  refine g_lcmp dX11_factIs_171 ?_
  exact g_if_lt (tgt := 229) dX11_factIs_172 (by decide) (fun q => Gd.wk (kt q) ⟨rfl, ⟨rfl, trivial⟩⟩) (fun q => Gd.wk (kf q) ⟨rfl, ⟨rfl, trivial⟩⟩)
theorem bkX11_factIs_175 {X : GX} {h : SH} {nc ns : Nat} {P : Out → SH → Prop} {a0 : Nat} {x2 : Int32} (F0 : LX11 (Sk h) (a0)) (i1 : vp_in (hI h a0 7) 2402) (kt : (0 : Int32) < (lg_cmp (hJ h (a0 + 4) ((hI h a0 7 : Int32).toNatClampNeg)) 99) → Gd X mX11_factIs 229 [some (.ref a0), none, some (.int x2), none] [] (h) nc ns P) (kf : ¬ (0 : Int32) < (lg_cmp (hJ h (a0 + 4) ((hI h a0 7 : Int32).toNatClampNeg)) 99) → Gd X mX11_factIs 191 [some (.ref a0), none, some (.int x2), none] [] (h) nc ns P) : Gd X mX11_factIs 175 [some (.ref a0), none, some (.int x2), none] [] h nc ns P := by
  refine g_aload_n dX11_factIs_175 rfl ?_
  refine g_getAs (c := 11) (k := 6) (b := a0 + 4) dX11_factIs_176 (by decide) (by decide) kw_1133 rfl (LX11.o (h := h) F0) (LX11.r_value (h := h) F0) ?_
  refine g_aload_n dX11_factIs_179 rfl ?_
  refine g_getI (c := 11) (k := 7) dX11_factIs_180 (by decide) (by decide) kw_1134 rfl (LX11.o (h := h) F0) ?_
  refine g_laload dX11_factIs_183 (LX11.a_value (h := h) F0) i1 ?_
  refine g_ldc2 (v := 99) dX11_factIs_184 kw_1357 ?_
  refine g_lcmp dX11_factIs_187 ?_
  exact g_if_gt (tgt := 229) dX11_factIs_188 (by decide) (fun q => Gd.wk (kt q) ⟨rfl, ⟨rfl, trivial⟩⟩) (fun q => Gd.wk (kf q) ⟨rfl, ⟨rfl, trivial⟩⟩)
theorem bkX11_factIs_191 {X : GX} {h : SH} {nc ns : Nat} {P : Out → SH → Prop} {Q : Int64 → SH → Prop} {a0 : Nat} {x2 : Int32} (F0 : LX11 (Sk h) (a0)) (hN : Cd X mX11_worlds [.ref a0, .int 6] (h) 0 0 (oJ Q nX)) (g : ∀ r t, Q r t → Gd X mX11_factIs 197 [some (.ref a0), none, some (.int x2), none] [.long r] (t) nc ns P) : Gd X mX11_factIs 191 [some (.ref a0), none, some (.int x2), none] [] h nc ns P := by
  refine g_aload_n dX11_factIs_191 rfl ?_
  refine g_bipush (v := 6) dX11_factIs_192 (by decide) ?_
  refine Gd.z ?_
  exact g_callV (k := 11) [.int 6] dX11_factIs_194 mfX11_worlds ⟨by decide, by decide⟩ kw_1358 kw_1360 kw_53 rfl (by decide) (Nat.le_of_ble_eq_true rfl) (by intro x hx; cases hx) (LX11.o (h := h) F0) (Nat.le_of_ble_eq_true rfl) hN (fun _ _ q => q.elim) (oJ_go (G := fun a b => Gd X mX11_factIs 197 _ a b nc ns P) (fun r t q => Gd.wk (g r t q) ⟨rfl, ⟨rfl, trivial⟩⟩))
theorem bkX11_factIs_197 {X : GX} {h : SH} {nc ns : Nat} {P : Out → SH → Prop} {a0 : Nat} {x2 : Int32} {ys0 : Int64} (F0 : LX11 (Sk h) (a0)) (i1 : vp_in (hI h a0 7) 2402) (i2 : vp_in (x2) 56) (kt : (lg_cmp (ys0 * (((hJ h (a0 + 4) ((hI h a0 7 : Int32).toNatClampNeg)) - ((hI h (a0 + 9) ((x2 : Int32).toNatClampNeg) : Int32).toInt64)) + 1)) 2000) ≤ 0 → Gd X mX11_factIs 229 [some (.ref a0), none, some (.int x2), none] [] (h) nc ns P) (kf : ¬ (lg_cmp (ys0 * (((hJ h (a0 + 4) ((hI h a0 7 : Int32).toNatClampNeg)) - ((hI h (a0 + 9) ((x2 : Int32).toNatClampNeg) : Int32).toInt64)) + 1)) 2000) ≤ 0 → Gd X mX11_factIs 224 [some (.ref a0), none, some (.int x2), none] [] (h) nc ns P) : Gd X mX11_factIs 197 [some (.ref a0), none, some (.int x2), none] [.long ys0] h nc ns P := by
  refine g_aload_n dX11_factIs_197 rfl ?_
  refine g_getAs (c := 11) (k := 6) (b := a0 + 4) dX11_factIs_198 (by decide) (by decide) kw_1133 rfl (LX11.o (h := h) F0) (LX11.r_value (h := h) F0) ?_
  refine g_aload_n dX11_factIs_201 rfl ?_
  refine g_getI (c := 11) (k := 7) dX11_factIs_202 (by decide) (by decide) kw_1134 rfl (LX11.o (h := h) F0) ?_
  refine g_laload dX11_factIs_205 (LX11.a_value (h := h) F0) i1 ?_
  refine g_aload_n dX11_factIs_206 rfl ?_
  refine g_getAs (c := 11) (k := 14) (b := a0 + 9) dX11_factIs_207 (by decide) (by decide) kw_1141 rfl (LX11.o (h := h) F0) (LX11.r_least (h := h) F0) ?_
  refine g_iload_n dX11_factIs_210 rfl ?_
  refine g_iaload dX11_factIs_211 (LX11.a_least (h := h) F0) i2 ?_
  refine g_i2l dX11_factIs_212 ?_
  refine g_lsub dX11_factIs_213 ?_
  refine g_lconst (v := 1) dX11_factIs_214 (by decide) ?_
  refine g_ladd dX11_factIs_215 ?_
  refine g_lmul dX11_factIs_216 ?_
  refine g_ldc2 (v := 2000) dX11_factIs_217 kw_1362 ?_
  refine g_lcmp dX11_factIs_220 ?_
  exact g_if_le (tgt := 229) dX11_factIs_221 (by decide) (fun q => Gd.wk (kt q) ⟨rfl, ⟨rfl, trivial⟩⟩) (fun q => Gd.wk (kf q) ⟨rfl, ⟨rfl, trivial⟩⟩)
theorem bkX11_factIs_224 {X : GX} {h : SH} {nc ns : Nat} {P : Out → SH → Prop} {Q : SH → Prop} {a0 : Nat} {x2 : Int32} (F0 : LX11 (Sk h) (a0)) (hN : Cd X mX11_wrong [.ref a0, .int 5] (h) 0 0 (oV Q nX)) (g : ∀ t, Q t → Gd X mX11_factIs 229 [some (.ref a0), none, some (.int x2), none] [] (t) nc ns P) : Gd X mX11_factIs 224 [some (.ref a0), none, some (.int x2), none] [] h nc ns P := by
  refine g_aload_n dX11_factIs_224 rfl ?_
  refine g_iconst (v := 5) dX11_factIs_225 (by decide) ?_
  refine Gd.z ?_
  exact g_callV (k := 11) [.int 5] dX11_factIs_226 mfX11_wrong ⟨by decide, by decide⟩ kw_1333 kw_1335 kw_47 rfl (by decide) (Nat.le_of_ble_eq_true rfl) (by intro x hx; cases hx) (LX11.o (h := h) F0) (Nat.le_of_ble_eq_true rfl) hN (fun _ _ q => q.elim) (oV_go (G := fun a b => Gd X mX11_factIs 229 _ a b nc ns P) (fun t q => Gd.wk (g t q) ⟨rfl, ⟨rfl, trivial⟩⟩))
theorem bkX11_factIs_229 {X : GX} {h : SH} {nc ns : Nat} {P : Out → SH → Prop} {Q : Int32 → SH → Prop} {a0 : Nat} {x2 : Int32} (F0 : LX11 (Sk h) (a0)) (i1 : vp_in (x2) 56) (hN : Cd X mX11_takeNumber [.ref a0, .int (hI h (a0 + 9) ((x2 : Int32).toNatClampNeg)), .int 99] (h) 0 0 (oI Q nX)) (g : ∀ r t, Q r t → Gd X mX11_factIs 246 [some (.ref a0), none, none, none] [.int r, .int x2, .ref (a0 + 10)] (t) nc ns P) : Gd X mX11_factIs 229 [some (.ref a0), none, some (.int x2), none] [] h nc ns P := by
  refine g_aload_n dX11_factIs_229 rfl ?_
  refine g_getAs (c := 11) (k := 15) (b := a0 + 10) dX11_factIs_230 (by decide) (by decide) kw_1142 rfl (LX11.o (h := h) F0) (LX11.r_most (h := h) F0) ?_
  refine g_iload_n dX11_factIs_233 rfl ?_
  refine g_aload_n dX11_factIs_234 rfl ?_
  refine g_aload_n dX11_factIs_235 rfl ?_
  refine g_getAs (c := 11) (k := 14) (b := a0 + 9) dX11_factIs_236 (by decide) (by decide) kw_1141 rfl (LX11.o (h := h) F0) (LX11.r_least (h := h) F0) ?_
  refine g_iload_n dX11_factIs_239 rfl ?_
  refine g_iaload dX11_factIs_240 (LX11.a_least (h := h) F0) i1 ?_
  refine g_bipush (v := 99) dX11_factIs_241 (by decide) ?_
  refine Gd.z ?_
  exact g_callV (k := 11) [.int (hI h (a0 + 9) ((x2 : Int32).toNatClampNeg)), .int 99] dX11_factIs_243 mfX11_takeNumber ⟨by decide, by decide⟩ kw_1345 kw_1347 kw_50 rfl (by decide) (Nat.le_of_ble_eq_true rfl) (by intro x hx; cases hx) (LX11.o (h := h) F0) (Nat.le_of_ble_eq_true rfl) hN (fun _ _ q => q.elim) (oI_go (G := fun a b => Gd X mX11_factIs 246 _ a b nc ns P) (fun r t q => Gd.wk (g r t q) ⟨rfl, trivial⟩))
theorem bkX11_factIs_246 {X : GX} {h : SH} {nc ns : Nat} {P : Out → SH → Prop} {Q : SH → Prop} {a0 : Nat} {as0 : Nat} {xs1 : Int32} {xs2 : Int32} {n4 : Nat} (B0 : Ar h (as0) 20 n4) (i1 : vp_in (xs1) n4) (F2 : LX11 (Sk h) (a0)) (hN : Cd X mX11_takeSign [.ref a0, .int 59] (sI h as0 ((xs1 : Int32).toNatClampNeg) xs2) 0 0 (oV Q nX)) (g : ∀ t, Q t → Gd X mX11_factIs 253 [some (.ref a0), none, none, none] [] (t) nc ns P) : Gd X mX11_factIs 246 [some (.ref a0), none, none, none] [.int xs2, .int xs1, .ref as0] h nc ns P := by
  refine g_iastore dX11_factIs_246 B0 i1 ?_
  refine g_aload_n dX11_factIs_247 rfl ?_
  refine g_bipush (v := 59) dX11_factIs_248 (by decide) ?_
  refine Gd.z ?_
  exact g_callV (k := 11) [.int 59] dX11_factIs_250 mfX11_takeSign ⟨by decide, by decide⟩ kw_1363 kw_1365 kw_54 rfl (by decide) (Nat.le_of_ble_eq_true rfl) (by intro x hx; cases hx) (LX11.o (h := sI h as0 ((xs1 : Int32).toNatClampNeg) xs2) F2) (Nat.le_of_ble_eq_true rfl) hN (fun _ _ q => q.elim) (oV_go (G := fun a b => Gd X mX11_factIs 253 _ a b nc ns P) (fun t q => Gd.wk (g t q) ⟨rfl, trivial⟩))
theorem bkX11_factIs_253 {X : GX} {h : SH} {nc ns : Nat} {P : Out → SH → Prop} {a0 : Nat} (F0 : LX11 (Sk h) (a0)) (i1 : vp_in (6) 7) (hp : P (.inl (none)) (sI h (a0 + 7) ((6 : Int32).toNatClampNeg) ((hI h (a0 + 7) ((6 : Int32).toNatClampNeg)) + 1))) : Gd X mX11_factIs 253 [some (.ref a0), none, none, none] [] h nc ns P := by
  refine g_aload_n dX11_factIs_253 rfl ?_
  refine g_getAs (c := 11) (k := 12) (b := a0 + 7) dX11_factIs_254 (by decide) (by decide) kw_1139 rfl (LX11.o (h := h) F0) (LX11.r_facts (h := h) F0) ?_
  refine g_bipush (v := 6) dX11_factIs_257 (by decide) ?_
  refine g_dup2 dX11_factIs_259 rfl rfl ?_
  refine g_iaload dX11_factIs_260 (LX11.a_facts (h := h) F0) i1 ?_
  refine g_iconst (v := 1) dX11_factIs_261 (by decide) ?_
  refine g_iadd dX11_factIs_262 ?_
  refine g_iastore dX11_factIs_263 (LX11.a_facts (h := h) F0) i1 ?_
  exact g_return (st := []) dX11_factIs_264 rfl hp
theorem bkX11_findFact_0 {X : GX} {h : SH} {nc ns : Nat} {P : Out → SH → Prop} {a0 : Nat} {y1 : Int64} (g : Gd X mX11_findFact 5 [some (.ref a0), some (.long y1), none, some (.int ((-1))), some (.int 0)] [] (h) nc ns P) : Gd X mX11_findFact 0 [some (.ref a0), some (.long y1), none, none, none] [] h nc ns P := by
  refine g_iconst (v := (-1)) dX11_findFact_0 (by decide) ?_
  refine g_istore_n (L' := [some (.ref a0), some (.long y1), none, some (.int ((-1))), none]) dX11_findFact_1 (by decide) rfl ?_
  refine g_iconst (v := 0) dX11_findFact_2 (by decide) ?_
  refine g_istore (L' := [some (.ref a0), some (.long y1), none, some (.int ((-1))), some (.int 0)]) dX11_findFact_3 (by decide) rfl ?_
  exact Gd.wk g ⟨rfl, ⟨rfl, ⟨rfl, ⟨rfl, trivial⟩⟩⟩⟩
theorem bkX11_findFact_5 {X : GX} {h : SH} {nc ns : Nat} {P : Out → SH → Prop} {a0 : Nat} {y1 : Int64} {x3 : Int32} {x4 : Int32} (F0 : LX11 (Sk h) (a0)) (i1 : vp_in (6) 7) (kt : (hI h (a0 + 7) ((6 : Int32).toNatClampNeg)) ≤ x4 → Gd X mX11_findFact 45 [none, none, none, some (.int x3), none] [] (h) nc ns P) (kf : ¬ (hI h (a0 + 7) ((6 : Int32).toNatClampNeg)) ≤ x4 → Gd X mX11_findFact 17 [some (.ref a0), some (.long y1), none, some (.int x3), some (.int x4)] [] (h) nc ns P) : Gd X mX11_findFact 5 [some (.ref a0), some (.long y1), none, some (.int x3), some (.int x4)] [] h nc ns P := by
  refine g_iload dX11_findFact_5 rfl ?_
  refine g_aload_n dX11_findFact_7 rfl ?_
  refine g_getAs (c := 11) (k := 12) (b := a0 + 7) dX11_findFact_8 (by decide) (by decide) kw_1139 rfl (LX11.o (h := h) F0) (LX11.r_facts (h := h) F0) ?_
  refine g_bipush (v := 6) dX11_findFact_11 (by decide) ?_
  refine g_iaload dX11_findFact_13 (LX11.a_facts (h := h) F0) i1 ?_
  exact g_icmp_ge (tgt := 45) dX11_findFact_14 (by decide) (fun q => Gd.wk (kt q) ⟨rfl, trivial⟩) (fun q => Gd.wk (kf q) ⟨rfl, ⟨rfl, ⟨rfl, ⟨rfl, trivial⟩⟩⟩⟩)
theorem bkX11_findFact_17 {X : GX} {h : SH} {nc ns : Nat} {P : Out → SH → Prop} {a0 : Nat} {y1 : Int64} {x3 : Int32} {x4 : Int32} (F0 : LX11 (Sk h) (a0)) (i1 : vp_in (48 + x4) 56) (kt : ¬ (lg_cmp (hJ h (a0 + 8) ((48 + x4 : Int32).toNatClampNeg)) y1) = 0 → Gd X mX11_findFact 37 [some (.ref a0), some (.long y1), none, some (.int x3), some (.int x4)] [] (h) nc ns P) (kf : (lg_cmp (hJ h (a0 + 8) ((48 + x4 : Int32).toNatClampNeg)) y1) = 0 → Gd X mX11_findFact 32 [some (.ref a0), some (.long y1), none, none, some (.int x4)] [] (h) nc ns P) : Gd X mX11_findFact 17 [some (.ref a0), some (.long y1), none, some (.int x3), some (.int x4)] [] h nc ns P := by
  refine g_aload_n dX11_findFact_17 rfl ?_
  refine g_getAs (c := 11) (k := 13) (b := a0 + 8) dX11_findFact_18 (by decide) (by decide) kw_1140 rfl (LX11.o (h := h) F0) (LX11.r_factName (h := h) F0) ?_
  refine g_bipush (v := 48) dX11_findFact_21 (by decide) ?_
  refine g_iload dX11_findFact_23 rfl ?_
  refine g_iadd dX11_findFact_25 ?_
  refine g_laload dX11_findFact_26 (LX11.a_factName (h := h) F0) i1 ?_
  refine g_lload_n dX11_findFact_27 rfl ?_
  refine g_lcmp dX11_findFact_28 ?_
  exact g_if_ne (tgt := 37) dX11_findFact_29 (by decide) (fun q => Gd.wk (kt q) ⟨rfl, ⟨rfl, ⟨rfl, ⟨rfl, trivial⟩⟩⟩⟩) (fun q => Gd.wk (kf q) ⟨rfl, ⟨rfl, ⟨rfl, trivial⟩⟩⟩)
theorem bkX11_findFact_32 {X : GX} {h : SH} {nc ns : Nat} {P : Out → SH → Prop} {a0 : Nat} {y1 : Int64} {x4 : Int32} (g : Gd X mX11_findFact 38 [some (.ref a0), some (.long y1), none, none, some (.int x4)] [.int x4] (h) nc ns P) : Gd X mX11_findFact 32 [some (.ref a0), some (.long y1), none, none, some (.int x4)] [] h nc ns P := by
  refine g_iload dX11_findFact_32 rfl ?_
  refine g_goto (tgt := 38) dX11_findFact_34 (by decide) ?_
  exact Gd.wk g ⟨rfl, ⟨rfl, ⟨rfl, trivial⟩⟩⟩
theorem bkX11_findFact_37 {X : GX} {h : SH} {nc ns : Nat} {P : Out → SH → Prop} {a0 : Nat} {y1 : Int64} {x3 : Int32} {x4 : Int32} (g : Gd X mX11_findFact 38 [some (.ref a0), some (.long y1), none, none, some (.int x4)] [.int x3] (h) nc ns P) : Gd X mX11_findFact 37 [some (.ref a0), some (.long y1), none, some (.int x3), some (.int x4)] [] h nc ns P := by
  refine g_iload_n dX11_findFact_37 rfl ?_
  exact Gd.wk g ⟨rfl, ⟨rfl, ⟨rfl, trivial⟩⟩⟩
theorem bkX11_findFact_38 {X : GX} {h : SH} {nc ns : Nat} {P : Out → SH → Prop} {a0 : Nat} {y1 : Int64} {x4 : Int32} {xs0 : Int32} (g : Gd X mX11_findFact 5 [some (.ref a0), some (.long y1), none, some (.int xs0), some (.int (x4 + 1))] [] (h) nc ns P) : Gd X mX11_findFact 38 [some (.ref a0), some (.long y1), none, none, some (.int x4)] [.int xs0] h nc ns P := by
  refine g_istore_n (L' := [some (.ref a0), some (.long y1), none, some (.int xs0), some (.int x4)]) dX11_findFact_38 (by decide) rfl ?_
  refine g_iinc (v := x4 + 1) (L' := [some (.ref a0), some (.long y1), none, some (.int xs0), some (.int (x4 + 1))]) dX11_findFact_39 rfl rfl (by decide) rfl ?_
  refine g_goto (tgt := 5) dX11_findFact_42 (by decide) ?_
  exact Gd.wk g ⟨rfl, ⟨rfl, ⟨rfl, ⟨rfl, trivial⟩⟩⟩⟩
theorem bkX11_findFact_45 {X : GX} {h : SH} {nc ns : Nat} {P : Out → SH → Prop} {x3 : Int32} (hp : P (.inl (some (.int (x3)))) (h)) : Gd X mX11_findFact 45 [none, none, none, some (.int x3), none] [] h nc ns P := by
  refine g_iload_n dX11_findFact_45 rfl ?_
  exact g_ireturn (st := []) dX11_findFact_46 rfl rfl hp
theorem bkX11_worlds_0 {X : GX} {h : SH} {nc ns : Nat} {P : Out → SH → Prop} {a0 : Nat} {x1 : Int32} (g : Gd X mX11_worlds 8 [some (.ref a0), some (.int x1), some (.long 1), none, some (.int (8 * x1))] [] (h) nc ns P) : Gd X mX11_worlds 0 [some (.ref a0), some (.int x1), none, none, none] [] h nc ns P := by
  refine g_lconst (v := 1) dX11_worlds_0 (by decide) ?_
  refine g_lstore_n (L' := [some (.ref a0), some (.int x1), some (.long 1), none, none]) dX11_worlds_1 (by decide) rfl ?_
  refine g_bipush (v := 8) dX11_worlds_2 (by decide) ?_
  refine g_iload_n dX11_worlds_4 rfl ?_
  refine g_imul dX11_worlds_5 ?_
  refine g_istore (L' := [some (.ref a0), some (.int x1), some (.long 1), none, some (.int (8 * x1))]) dX11_worlds_6 (by decide) rfl ?_
  exact Gd.wk g ⟨rfl, ⟨rfl, ⟨rfl, ⟨rfl, trivial⟩⟩⟩⟩
theorem bkX11_worlds_8 {X : GX} {h : SH} {nc ns : Nat} {P : Out → SH → Prop} {a0 : Nat} {x1 : Int32} {y2 : Int64} {x4 : Int32} (F0 : LX11 (Sk h) (a0)) (i1 : vp_in (x1) 7) (kt : ((8 * x1) + (hI h (a0 + 7) ((x1 : Int32).toNatClampNeg))) ≤ x4 → Gd X mX11_worlds 51 [none, none, some (.long y2), none, none] [] (h) nc ns P) (kf : ¬ ((8 * x1) + (hI h (a0 + 7) ((x1 : Int32).toNatClampNeg))) ≤ x4 → Gd X mX11_worlds 24 [some (.ref a0), some (.int x1), some (.long y2), none, some (.int x4)] [] (h) nc ns P) : Gd X mX11_worlds 8 [some (.ref a0), some (.int x1), some (.long y2), none, some (.int x4)] [] h nc ns P := by
  refine g_iload dX11_worlds_8 rfl ?_
  refine g_bipush (v := 8) dX11_worlds_10 (by decide) ?_
  refine g_iload_n dX11_worlds_12 rfl ?_
  refine g_imul dX11_worlds_13 ?_
  refine g_aload_n dX11_worlds_14 rfl ?_
  refine g_getAs (c := 11) (k := 12) (b := a0 + 7) dX11_worlds_15 (by decide) (by decide) kw_1139 rfl (LX11.o (h := h) F0) (LX11.r_facts (h := h) F0) ?_
  refine g_iload_n dX11_worlds_18 rfl ?_
  refine g_iaload dX11_worlds_19 (LX11.a_facts (h := h) F0) i1 ?_
  refine g_iadd dX11_worlds_20 ?_
  exact g_icmp_ge (tgt := 51) dX11_worlds_21 (by decide) (fun q => Gd.wk (kt q) ⟨rfl, trivial⟩) (fun q => Gd.wk (kf q) ⟨rfl, ⟨rfl, ⟨rfl, ⟨rfl, trivial⟩⟩⟩⟩)
theorem bkX11_worlds_24 {X : GX} {h : SH} {nc ns : Nat} {P : Out → SH → Prop} {a0 : Nat} {x1 : Int32} {y2 : Int64} {x4 : Int32} (F0 : LX11 (Sk h) (a0)) (i1 : vp_in (x4) 56) (g : Gd X mX11_worlds 8 [some (.ref a0), some (.int x1), some (.long (y2 * ((((hI h (a0 + 10) ((x4 : Int32).toNatClampNeg)) - (hI h (a0 + 9) ((x4 : Int32).toNatClampNeg))) + 1 : Int32).toInt64))), none, some (.int (x4 + 1))] [] (h) nc ns P) : Gd X mX11_worlds 24 [some (.ref a0), some (.int x1), some (.long y2), none, some (.int x4)] [] h nc ns P := by
  refine g_lload_n dX11_worlds_24 rfl ?_
  refine g_aload_n dX11_worlds_25 rfl ?_
  refine g_getAs (c := 11) (k := 15) (b := a0 + 10) dX11_worlds_26 (by decide) (by decide) kw_1142 rfl (LX11.o (h := h) F0) (LX11.r_most (h := h) F0) ?_
  refine g_iload dX11_worlds_29 rfl ?_
  refine g_iaload dX11_worlds_31 (LX11.a_most (h := h) F0) i1 ?_
  refine g_aload_n dX11_worlds_32 rfl ?_
  refine g_getAs (c := 11) (k := 14) (b := a0 + 9) dX11_worlds_33 (by decide) (by decide) kw_1141 rfl (LX11.o (h := h) F0) (LX11.r_least (h := h) F0) ?_
  refine g_iload dX11_worlds_36 rfl ?_
  refine g_iaload dX11_worlds_38 (LX11.a_least (h := h) F0) i1 ?_
  refine g_isub dX11_worlds_39 ?_
  refine g_iconst (v := 1) dX11_worlds_40 (by decide) ?_
  refine g_iadd dX11_worlds_41 ?_
  refine g_i2l dX11_worlds_42 ?_
  refine g_lmul dX11_worlds_43 ?_
  refine g_lstore_n (L' := [some (.ref a0), some (.int x1), some (.long (y2 * ((((hI h (a0 + 10) ((x4 : Int32).toNatClampNeg)) - (hI h (a0 + 9) ((x4 : Int32).toNatClampNeg))) + 1 : Int32).toInt64))), none, some (.int x4)]) dX11_worlds_44 (by decide) rfl ?_
  refine g_iinc (v := x4 + 1) (L' := [some (.ref a0), some (.int x1), some (.long (y2 * ((((hI h (a0 + 10) ((x4 : Int32).toNatClampNeg)) - (hI h (a0 + 9) ((x4 : Int32).toNatClampNeg))) + 1 : Int32).toInt64))), none, some (.int (x4 + 1))]) dX11_worlds_45 rfl rfl (by decide) rfl ?_
  refine g_goto (tgt := 8) dX11_worlds_48 (by decide) ?_
  exact Gd.wk g ⟨rfl, ⟨rfl, ⟨rfl, ⟨rfl, trivial⟩⟩⟩⟩
theorem bkX11_worlds_51 {X : GX} {h : SH} {nc ns : Nat} {P : Out → SH → Prop} {y2 : Int64} (hp : P (.inl (some (.long (y2)))) (h)) : Gd X mX11_worlds 51 [none, none, some (.long y2), none, none] [] h nc ns P := by
  refine g_lload_n dX11_worlds_51 rfl ?_
  exact g_lreturn (st := []) dX11_worlds_52 rfl hp
theorem bkX11_findClause_0 {X : GX} {h : SH} {nc ns : Nat} {P : Out → SH → Prop} {a0 : Nat} {y1 : Int64} (g : Gd X mX11_findClause 5 [some (.ref a0), some (.long y1), none, some (.int 0), some (.int 0)] [] (h) nc ns P) : Gd X mX11_findClause 0 [some (.ref a0), some (.long y1), none, none, none] [] h nc ns P := by
  refine g_iconst (v := 0) dX11_findClause_0 (by decide) ?_
  refine g_istore_n (L' := [some (.ref a0), some (.long y1), none, some (.int 0), none]) dX11_findClause_1 (by decide) rfl ?_
  refine g_iconst (v := 0) dX11_findClause_2 (by decide) ?_
  refine g_istore (L' := [some (.ref a0), some (.long y1), none, some (.int 0), some (.int 0)]) dX11_findClause_3 (by decide) rfl ?_
  exact Gd.wk g ⟨rfl, ⟨rfl, ⟨rfl, ⟨rfl, trivial⟩⟩⟩⟩
theorem bkX11_findClause_5 {X : GX} {h : SH} {nc ns : Nat} {P : Out → SH → Prop} {a0 : Nat} {y1 : Int64} {x3 : Int32} {x4 : Int32} (F0 : LX11 (Sk h) (a0)) (i1 : vp_in (x4) 2402) (kt : (hI h (a0 + 2) ((x4 : Int32).toNatClampNeg)) = 0 → Gd X mX11_findClause 81 [none, none, none, none, none] [] (h) nc ns P) (kf : ¬ (hI h (a0 + 2) ((x4 : Int32).toNatClampNeg)) = 0 → Gd X mX11_findClause 15 [some (.ref a0), some (.long y1), none, some (.int x3), some (.int x4)] [] (h) nc ns P) : Gd X mX11_findClause 5 [some (.ref a0), some (.long y1), none, some (.int x3), some (.int x4)] [] h nc ns P := by
  refine g_aload_n dX11_findClause_5 rfl ?_
  refine g_getAs (c := 11) (k := 4) (b := a0 + 2) dX11_findClause_6 (by decide) (by decide) kw_1131 rfl (LX11.o (h := h) F0) (LX11.r_sort (h := h) F0) ?_
  refine g_iload dX11_findClause_9 rfl ?_
  refine g_iaload dX11_findClause_11 (LX11.a_sort (h := h) F0) i1 ?_
  exact g_if_eq (tgt := 81) dX11_findClause_12 (by decide) (fun q => Gd.wk (kt q) trivial) (fun q => Gd.wk (kf q) ⟨rfl, ⟨rfl, ⟨rfl, ⟨rfl, trivial⟩⟩⟩⟩)
theorem bkX11_findClause_15 {X : GX} {h : SH} {nc ns : Nat} {P : Out → SH → Prop} {a0 : Nat} {y1 : Int64} {x3 : Int32} {x4 : Int32} (F0 : LX11 (Sk h) (a0)) (i1 : vp_in (x4) 2402) (kt : ¬ (hI h (a0 + 2) ((x4 : Int32).toNatClampNeg)) = 1 → Gd X mX11_findClause 75 [some (.ref a0), some (.long y1), none, some (.int x3), some (.int x4)] [] (h) nc ns P) (kf : (hI h (a0 + 2) ((x4 : Int32).toNatClampNeg)) = 1 → Gd X mX11_findClause 26 [some (.ref a0), some (.long y1), none, some (.int x3), some (.int x4)] [] (h) nc ns P) : Gd X mX11_findClause 15 [some (.ref a0), some (.long y1), none, some (.int x3), some (.int x4)] [] h nc ns P := by
  refine g_aload_n dX11_findClause_15 rfl ?_
  refine g_getAs (c := 11) (k := 4) (b := a0 + 2) dX11_findClause_16 (by decide) (by decide) kw_1131 rfl (LX11.o (h := h) F0) (LX11.r_sort (h := h) F0) ?_
  refine g_iload dX11_findClause_19 rfl ?_
  refine g_iaload dX11_findClause_21 (LX11.a_sort (h := h) F0) i1 ?_
  refine g_iconst (v := 1) dX11_findClause_22 (by decide) ?_
  exact g_icmp_ne (tgt := 75) dX11_findClause_23 (by decide) (fun q => Gd.wk (kt q) ⟨rfl, ⟨rfl, ⟨rfl, ⟨rfl, trivial⟩⟩⟩⟩) (fun q => Gd.wk (kf q) ⟨rfl, ⟨rfl, ⟨rfl, ⟨rfl, trivial⟩⟩⟩⟩)
theorem bkX11_findClause_26 {X : GX} {h : SH} {nc ns : Nat} {P : Out → SH → Prop} {a0 : Nat} {y1 : Int64} {x3 : Int32} {x4 : Int32} (F0 : LX11 (Sk h) (a0)) (i1 : vp_in (x4) 2402) (i2 : vp_in (2) 11) (kt : ¬ (lg_cmp (hJ h (a0 + 4) ((x4 : Int32).toNatClampNeg)) (hJ h (a0 + 5) ((2 : Int32).toNatClampNeg))) = 0 → Gd X mX11_findClause 75 [some (.ref a0), some (.long y1), none, some (.int x3), some (.int x4)] [] (h) nc ns P) (kf : (lg_cmp (hJ h (a0 + 4) ((x4 : Int32).toNatClampNeg)) (hJ h (a0 + 5) ((2 : Int32).toNatClampNeg))) = 0 → Gd X mX11_findClause 43 [some (.ref a0), some (.long y1), none, some (.int x3), some (.int x4)] [] (h) nc ns P) : Gd X mX11_findClause 26 [some (.ref a0), some (.long y1), none, some (.int x3), some (.int x4)] [] h nc ns P := by
  refine g_aload_n dX11_findClause_26 rfl ?_
  refine g_getAs (c := 11) (k := 6) (b := a0 + 4) dX11_findClause_27 (by decide) (by decide) kw_1133 rfl (LX11.o (h := h) F0) (LX11.r_value (h := h) F0) ?_
  refine g_iload dX11_findClause_30 rfl ?_
  refine g_laload dX11_findClause_32 (LX11.a_value (h := h) F0) i1 ?_
  refine g_aload_n dX11_findClause_33 rfl ?_
  refine g_getAs (c := 11) (k := 9) (b := a0 + 5) dX11_findClause_34 (by decide) (by decide) kw_1136 rfl (LX11.o (h := h) F0) (LX11.r_words (h := h) F0) ?_
  refine g_iconst (v := 2) dX11_findClause_37 (by decide) ?_
  refine g_laload dX11_findClause_38 (LX11.a_words (h := h) F0) i2 ?_
  refine g_lcmp dX11_findClause_39 ?_
  exact g_if_ne (tgt := 75) dX11_findClause_40 (by decide) (fun q => Gd.wk (kt q) ⟨rfl, ⟨rfl, ⟨rfl, ⟨rfl, trivial⟩⟩⟩⟩) (fun q => Gd.wk (kf q) ⟨rfl, ⟨rfl, ⟨rfl, ⟨rfl, trivial⟩⟩⟩⟩)
theorem bkX11_findClause_43 {X : GX} {h : SH} {nc ns : Nat} {P : Out → SH → Prop} {a0 : Nat} {y1 : Int64} {x3 : Int32} {x4 : Int32} (F0 : LX11 (Sk h) (a0)) (i1 : vp_in (x4 + 1) 2402) (kt : ¬ (hI h (a0 + 2) ((x4 + 1 : Int32).toNatClampNeg)) = 1 → Gd X mX11_findClause 72 [some (.ref a0), some (.long y1), none, some (.int x3), some (.int x4)] [] (h) nc ns P) (kf : (hI h (a0 + 2) ((x4 + 1 : Int32).toNatClampNeg)) = 1 → Gd X mX11_findClause 56 [some (.ref a0), some (.long y1), none, some (.int x3), some (.int x4)] [] (h) nc ns P) : Gd X mX11_findClause 43 [some (.ref a0), some (.long y1), none, some (.int x3), some (.int x4)] [] h nc ns P := by
  refine g_aload_n dX11_findClause_43 rfl ?_
  refine g_getAs (c := 11) (k := 4) (b := a0 + 2) dX11_findClause_44 (by decide) (by decide) kw_1131 rfl (LX11.o (h := h) F0) (LX11.r_sort (h := h) F0) ?_
  refine g_iload dX11_findClause_47 rfl ?_
  refine g_iconst (v := 1) dX11_findClause_49 (by decide) ?_
  refine g_iadd dX11_findClause_50 ?_
  refine g_iaload dX11_findClause_51 (LX11.a_sort (h := h) F0) i1 ?_
  refine g_iconst (v := 1) dX11_findClause_52 (by decide) ?_
  exact g_icmp_ne (tgt := 72) dX11_findClause_53 (by decide) (fun q => Gd.wk (kt q) ⟨rfl, ⟨rfl, ⟨rfl, ⟨rfl, trivial⟩⟩⟩⟩) (fun q => Gd.wk (kf q) ⟨rfl, ⟨rfl, ⟨rfl, ⟨rfl, trivial⟩⟩⟩⟩)
theorem bkX11_findClause_56 {X : GX} {h : SH} {nc ns : Nat} {P : Out → SH → Prop} {a0 : Nat} {y1 : Int64} {x3 : Int32} {x4 : Int32} (F0 : LX11 (Sk h) (a0)) (i1 : vp_in (x4 + 1) 2402) (kt : ¬ (lg_cmp (hJ h (a0 + 4) ((x4 + 1 : Int32).toNatClampNeg)) y1) = 0 → Gd X mX11_findClause 72 [some (.ref a0), some (.long y1), none, some (.int x3), some (.int x4)] [] (h) nc ns P) (kf : (lg_cmp (hJ h (a0 + 4) ((x4 + 1 : Int32).toNatClampNeg)) y1) = 0 → Gd X mX11_findClause 70 [none, none, none, some (.int x3), none] [] (h) nc ns P) : Gd X mX11_findClause 56 [some (.ref a0), some (.long y1), none, some (.int x3), some (.int x4)] [] h nc ns P := by
  refine g_aload_n dX11_findClause_56 rfl ?_
  refine g_getAs (c := 11) (k := 6) (b := a0 + 4) dX11_findClause_57 (by decide) (by decide) kw_1133 rfl (LX11.o (h := h) F0) (LX11.r_value (h := h) F0) ?_
  refine g_iload dX11_findClause_60 rfl ?_
  refine g_iconst (v := 1) dX11_findClause_62 (by decide) ?_
  refine g_iadd dX11_findClause_63 ?_
  refine g_laload dX11_findClause_64 (LX11.a_value (h := h) F0) i1 ?_
  refine g_lload_n dX11_findClause_65 rfl ?_
  refine g_lcmp dX11_findClause_66 ?_
  exact g_if_ne (tgt := 72) dX11_findClause_67 (by decide) (fun q => Gd.wk (kt q) ⟨rfl, ⟨rfl, ⟨rfl, ⟨rfl, trivial⟩⟩⟩⟩) (fun q => Gd.wk (kf q) ⟨rfl, trivial⟩)
theorem bkX11_findClause_70 {X : GX} {h : SH} {nc ns : Nat} {P : Out → SH → Prop} {x3 : Int32} (hp : P (.inl (some (.int (x3)))) (h)) : Gd X mX11_findClause 70 [none, none, none, some (.int x3), none] [] h nc ns P := by
  refine g_iload_n dX11_findClause_70 rfl ?_
  exact g_ireturn (st := []) dX11_findClause_71 rfl rfl hp
theorem bkX11_findClause_72 {X : GX} {h : SH} {nc ns : Nat} {P : Out → SH → Prop} {a0 : Nat} {y1 : Int64} {x3 : Int32} {x4 : Int32} (g : Gd X mX11_findClause 75 [some (.ref a0), some (.long y1), none, some (.int (x3 + 1)), some (.int x4)] [] (h) nc ns P) : Gd X mX11_findClause 72 [some (.ref a0), some (.long y1), none, some (.int x3), some (.int x4)] [] h nc ns P := by
  refine g_iinc (v := x3 + 1) (L' := [some (.ref a0), some (.long y1), none, some (.int (x3 + 1)), some (.int x4)]) dX11_findClause_72 rfl rfl (by decide) rfl ?_
  exact Gd.wk g ⟨rfl, ⟨rfl, ⟨rfl, ⟨rfl, trivial⟩⟩⟩⟩
theorem bkX11_findClause_75 {X : GX} {h : SH} {nc ns : Nat} {P : Out → SH → Prop} {a0 : Nat} {y1 : Int64} {x3 : Int32} {x4 : Int32} (g : Gd X mX11_findClause 5 [some (.ref a0), some (.long y1), none, some (.int x3), some (.int (x4 + 1))] [] (h) nc ns P) : Gd X mX11_findClause 75 [some (.ref a0), some (.long y1), none, some (.int x3), some (.int x4)] [] h nc ns P := by
  refine g_iinc (v := x4 + 1) (L' := [some (.ref a0), some (.long y1), none, some (.int x3), some (.int (x4 + 1))]) dX11_findClause_75 rfl rfl (by decide) rfl ?_
  refine g_goto (tgt := 5) dX11_findClause_78 (by decide) ?_
  exact Gd.wk g ⟨rfl, ⟨rfl, ⟨rfl, ⟨rfl, trivial⟩⟩⟩⟩
theorem bkX11_findClause_81 {X : GX} {h : SH} {nc ns : Nat} {P : Out → SH → Prop} (hp : P (.inl (some (.int ((-1))))) (h)) : Gd X mX11_findClause 81 [none, none, none, none, none] [] h nc ns P := by
  refine g_iconst (v := (-1)) dX11_findClause_81 (by decide) ?_
  exact g_ireturn (st := []) dX11_findClause_82 rfl rfl hp
theorem bkX11_takeClause_0 {X : GX} {h : SH} {nc ns : Nat} {P : Out → SH → Prop} {Q : Int32 → SH → Prop} {a0 : Nat} (F0 : LX11 (Sk h) (a0)) (hN : Cd X mX11_isName [.ref a0] (h) 0 0 (oI Q nX)) (g : ∀ r t, Q r t → Gd X mX11_takeClause 4 [some (.ref a0), none] [.int r] (t) nc ns P) : Gd X mX11_takeClause 0 [some (.ref a0), none] [] h nc ns P := by
  refine g_aload_n dX11_takeClause_0 rfl ?_
  refine Gd.z ?_
  exact g_callV (k := 11) [] dX11_takeClause_1 mfX11_isName ⟨by decide, by decide⟩ kw_1337 kw_1339 kw_48 rfl (by decide) (Nat.le_of_ble_eq_true rfl) (by intro x hx; cases hx) (LX11.o (h := h) F0) (Nat.le_of_ble_eq_true rfl) hN (fun _ _ q => q.elim) (oI_go (G := fun a b => Gd X mX11_takeClause 4 _ a b nc ns P) (fun r t q => Gd.wk (g r t q) ⟨rfl, trivial⟩))
theorem bkX11_takeClause_4 {X : GX} {h : SH} {nc ns : Nat} {P : Out → SH → Prop} {a0 : Nat} {xs0 : Int32} (kt : xs0 = 0 → Gd X mX11_takeClause 23 [some (.ref a0), none] [] (h) nc ns P) (kf : ¬ xs0 = 0 → Gd X mX11_takeClause 7 [some (.ref a0), none] [] (h) nc ns P) : Gd X mX11_takeClause 4 [some (.ref a0), none] [.int xs0] h nc ns P := by
  exact g_if_eq (tgt := 23) dX11_takeClause_4 (by decide) (fun q => Gd.wk (kt q) ⟨rfl, trivial⟩) (fun q => Gd.wk (kf q) ⟨rfl, trivial⟩)
theorem bkX11_takeClause_7 {X : GX} {h : SH} {nc ns : Nat} {P : Out → SH → Prop} {Q : Int32 → SH → Prop} {a0 : Nat} (F0 : LX11 (Sk h) (a0)) (i1 : vp_in (hI h a0 7) 2402) (hN : Cd X mX11_findClause [.ref a0, .long (hJ h (a0 + 4) ((hI h a0 7 : Int32).toNatClampNeg))] (h) 0 0 (oI Q nX)) (g : ∀ r t, Q r t → Gd X mX11_takeClause 20 [some (.ref a0), none] [.int r] (t) nc ns P) : Gd X mX11_takeClause 7 [some (.ref a0), none] [] h nc ns P := by
  refine g_aload_n dX11_takeClause_7 rfl ?_
  refine g_aload_n dX11_takeClause_8 rfl ?_
  refine g_getAs (c := 11) (k := 6) (b := a0 + 4) dX11_takeClause_9 (by decide) (by decide) kw_1133 rfl (LX11.o (h := h) F0) (LX11.r_value (h := h) F0) ?_
  refine g_aload_n dX11_takeClause_12 rfl ?_
  refine g_getI (c := 11) (k := 7) dX11_takeClause_13 (by decide) (by decide) kw_1134 rfl (LX11.o (h := h) F0) ?_
  refine g_laload dX11_takeClause_16 (LX11.a_value (h := h) F0) i1 ?_
  refine Gd.z ?_
  exact g_callV (k := 11) [.long (hJ h (a0 + 4) ((hI h a0 7 : Int32).toNatClampNeg))] dX11_takeClause_17 mfX11_findClause ⟨by decide, by decide⟩ kw_1375 kw_1377 kw_57 rfl (by decide) (Nat.le_of_ble_eq_true rfl) (by intro x hx; cases hx) (LX11.o (h := h) F0) (Nat.le_of_ble_eq_true rfl) hN (fun _ _ q => q.elim) (oI_go (G := fun a b => Gd X mX11_takeClause 20 _ a b nc ns P) (fun r t q => Gd.wk (g r t q) ⟨rfl, trivial⟩))
theorem bkX11_takeClause_20 {X : GX} {h : SH} {nc ns : Nat} {P : Out → SH → Prop} {a0 : Nat} {xs0 : Int32} (g : Gd X mX11_takeClause 24 [some (.ref a0), none] [.int xs0] (h) nc ns P) : Gd X mX11_takeClause 20 [some (.ref a0), none] [.int xs0] h nc ns P := by
  refine g_goto (tgt := 24) dX11_takeClause_20 (by decide) ?_
  exact Gd.wk g ⟨rfl, trivial⟩
theorem bkX11_takeClause_23 {X : GX} {h : SH} {nc ns : Nat} {P : Out → SH → Prop} {a0 : Nat} (g : Gd X mX11_takeClause 24 [some (.ref a0), none] [.int ((-1))] (h) nc ns P) : Gd X mX11_takeClause 23 [some (.ref a0), none] [] h nc ns P := by
  refine g_iconst (v := (-1)) dX11_takeClause_23 (by decide) ?_
  exact Gd.wk g ⟨rfl, trivial⟩
theorem bkX11_takeClause_24 {X : GX} {h : SH} {nc ns : Nat} {P : Out → SH → Prop} {Q : Int32 → SH → Prop} {a0 : Nat} {xs0 : Int32} (F0 : LX11 (Sk h) (a0)) (hN : Cd X mX11_isName [.ref a0] (h) 0 0 (oI Q nX)) (g : ∀ r t, Q r t → Gd X mX11_takeClause 29 [some (.ref a0), some (.int xs0)] [.int r] (t) nc ns P) : Gd X mX11_takeClause 24 [some (.ref a0), none] [.int xs0] h nc ns P := by
  refine g_istore_n (L' := [some (.ref a0), some (.int xs0)]) dX11_takeClause_24 (by decide) rfl ?_
  refine g_aload_n dX11_takeClause_25 rfl ?_
  refine Gd.z ?_
  exact g_callV (k := 11) [] dX11_takeClause_26 mfX11_isName ⟨by decide, by decide⟩ kw_1337 kw_1339 kw_48 rfl (by decide) (Nat.le_of_ble_eq_true rfl) (by intro x hx; cases hx) (LX11.o (h := h) F0) (Nat.le_of_ble_eq_true rfl) hN (fun _ _ q => q.elim) (oI_go (G := fun a b => Gd X mX11_takeClause 29 _ a b nc ns P) (fun r t q => Gd.wk (g r t q) ⟨rfl, ⟨rfl, trivial⟩⟩))
theorem bkX11_takeClause_29 {X : GX} {h : SH} {nc ns : Nat} {P : Out → SH → Prop} {a0 : Nat} {x1 : Int32} {xs0 : Int32} (kt : ¬ xs0 = 0 → Gd X mX11_takeClause 40 [some (.ref a0), some (.int x1)] [] (h) nc ns P) (kf : xs0 = 0 → Gd X mX11_takeClause 32 [some (.ref a0), some (.int x1)] [] (h) nc ns P) : Gd X mX11_takeClause 29 [some (.ref a0), some (.int x1)] [.int xs0] h nc ns P := by
  exact g_if_ne (tgt := 40) dX11_takeClause_29 (by decide) (fun q => Gd.wk (kt q) ⟨rfl, ⟨rfl, trivial⟩⟩) (fun q => Gd.wk (kf q) ⟨rfl, ⟨rfl, trivial⟩⟩)
theorem bkX11_takeClause_32 {X : GX} {h : SH} {nc ns : Nat} {P : Out → SH → Prop} {Q : SH → Prop} {a0 : Nat} {x1 : Int32} (F0 : LX11 (Sk h) (a0)) (hN : Cd X mX11_wrong [.ref a0, .int 1] (h) 0 0 (oV Q nX)) (g : ∀ t, Q t → Gd X mX11_takeClause 37 [some (.ref a0), some (.int x1)] [] (t) nc ns P) : Gd X mX11_takeClause 32 [some (.ref a0), some (.int x1)] [] h nc ns P := by
  refine g_aload_n dX11_takeClause_32 rfl ?_
  refine g_iconst (v := 1) dX11_takeClause_33 (by decide) ?_
  refine Gd.z ?_
  exact g_callV (k := 11) [.int 1] dX11_takeClause_34 mfX11_wrong ⟨by decide, by decide⟩ kw_1333 kw_1335 kw_47 rfl (by decide) (Nat.le_of_ble_eq_true rfl) (by intro x hx; cases hx) (LX11.o (h := h) F0) (Nat.le_of_ble_eq_true rfl) hN (fun _ _ q => q.elim) (oV_go (G := fun a b => Gd X mX11_takeClause 37 _ a b nc ns P) (fun t q => Gd.wk (g t q) ⟨rfl, ⟨rfl, trivial⟩⟩))
theorem bkX11_takeClause_37 {X : GX} {h : SH} {nc ns : Nat} {P : Out → SH → Prop} {a0 : Nat} {x1 : Int32} (g : Gd X mX11_takeClause 49 [some (.ref a0), some (.int x1)] [] (h) nc ns P) : Gd X mX11_takeClause 37 [some (.ref a0), some (.int x1)] [] h nc ns P := by
  refine g_goto (tgt := 49) dX11_takeClause_37 (by decide) ?_
  exact Gd.wk g ⟨rfl, ⟨rfl, trivial⟩⟩
theorem bkX11_takeClause_40 {X : GX} {h : SH} {nc ns : Nat} {P : Out → SH → Prop} {a0 : Nat} {x1 : Int32} (kt : (0 : Int32) ≤ x1 → Gd X mX11_takeClause 49 [some (.ref a0), some (.int x1)] [] (h) nc ns P) (kf : ¬ (0 : Int32) ≤ x1 → Gd X mX11_takeClause 44 [some (.ref a0), some (.int x1)] [] (h) nc ns P) : Gd X mX11_takeClause 40 [some (.ref a0), some (.int x1)] [] h nc ns P := by
  refine g_iload_n dX11_takeClause_40 rfl ?_
  exact g_if_ge (tgt := 49) dX11_takeClause_41 (by decide) (fun q => Gd.wk (kt q) ⟨rfl, ⟨rfl, trivial⟩⟩) (fun q => Gd.wk (kf q) ⟨rfl, ⟨rfl, trivial⟩⟩)
theorem bkX11_takeClause_44 {X : GX} {h : SH} {nc ns : Nat} {P : Out → SH → Prop} {Q : SH → Prop} {a0 : Nat} {x1 : Int32} (F0 : LX11 (Sk h) (a0)) (hN : Cd X mX11_wrong [.ref a0, .int 2] (h) 0 0 (oV Q nX)) (g : ∀ t, Q t → Gd X mX11_takeClause 49 [some (.ref a0), some (.int x1)] [] (t) nc ns P) : Gd X mX11_takeClause 44 [some (.ref a0), some (.int x1)] [] h nc ns P := by
  refine g_aload_n dX11_takeClause_44 rfl ?_
  refine g_iconst (v := 2) dX11_takeClause_45 (by decide) ?_
  refine Gd.z ?_
  exact g_callV (k := 11) [.int 2] dX11_takeClause_46 mfX11_wrong ⟨by decide, by decide⟩ kw_1333 kw_1335 kw_47 rfl (by decide) (Nat.le_of_ble_eq_true rfl) (by intro x hx; cases hx) (LX11.o (h := h) F0) (Nat.le_of_ble_eq_true rfl) hN (fun _ _ q => q.elim) (oV_go (G := fun a b => Gd X mX11_takeClause 49 _ a b nc ns P) (fun t q => Gd.wk (g t q) ⟨rfl, ⟨rfl, trivial⟩⟩))
theorem bkX11_takeClause_49 {X : GX} {h : SH} {nc ns : Nat} {P : Out → SH → Prop} {a0 : Nat} {x1 : Int32} (F0 : LX11 (Sk h) (a0)) (kt : ¬ hI h a0 8 = 0 → Gd X mX11_takeClause 65 [none, some (.int x1)] [.int (hI h a0 7), .ref a0] (h) nc ns P) (kf : hI h a0 8 = 0 → Gd X mX11_takeClause 61 [none, some (.int x1)] [.int (hI h a0 7), .ref a0] (h) nc ns P) : Gd X mX11_takeClause 49 [some (.ref a0), some (.int x1)] [] h nc ns P := by
  refine g_aload_n dX11_takeClause_49 rfl ?_
  refine g_dup dX11_takeClause_50 rfl ?_
  refine g_getI (c := 11) (k := 7) dX11_takeClause_51 (by decide) (by decide) kw_1134 rfl (LX11.o (h := h) F0) ?_
  refine g_aload_n dX11_takeClause_54 rfl ?_
  refine g_getI (c := 11) (k := 8) dX11_takeClause_55 (by decide) (by decide) kw_1135 rfl (LX11.o (h := h) F0) ?_
  exact g_if_ne (tgt := 65) dX11_takeClause_58 (by decide) (fun q => Gd.wk (kt q) ⟨rfl, trivial⟩) (fun q => Gd.wk (kf q) ⟨rfl, trivial⟩)
theorem bkX11_takeClause_61 {X : GX} {h : SH} {nc ns : Nat} {P : Out → SH → Prop} {x1 : Int32} {as0 : Nat} {xs1 : Int32} (g : Gd X mX11_takeClause 66 [none, some (.int x1)] [.int 1, .int xs1, .ref as0] (h) nc ns P) : Gd X mX11_takeClause 61 [none, some (.int x1)] [.int xs1, .ref as0] h nc ns P := by
  refine g_iconst (v := 1) dX11_takeClause_61 (by decide) ?_
  refine g_goto (tgt := 66) dX11_takeClause_62 (by decide) ?_
  exact Gd.wk g ⟨rfl, trivial⟩
theorem bkX11_takeClause_65 {X : GX} {h : SH} {nc ns : Nat} {P : Out → SH → Prop} {x1 : Int32} {as0 : Nat} {xs1 : Int32} (g : Gd X mX11_takeClause 66 [none, some (.int x1)] [.int 0, .int xs1, .ref as0] (h) nc ns P) : Gd X mX11_takeClause 65 [none, some (.int x1)] [.int xs1, .ref as0] h nc ns P := by
  refine g_iconst (v := 0) dX11_takeClause_65 (by decide) ?_
  exact Gd.wk g ⟨rfl, trivial⟩
theorem bkX11_takeClause_66 {X : GX} {h : SH} {nc ns : Nat} {P : Out → SH → Prop} {x1 : Int32} {as0 : Nat} {xs1 : Int32} {xs2 : Int32} (F0 : LX11 (Sk h) (as0)) (hp : P (.inl (some (.int (x1)))) (sI h as0 7 (xs1 + xs2))) : Gd X mX11_takeClause 66 [none, some (.int x1)] [.int xs2, .int xs1, .ref as0] h nc ns P := by
  refine g_iadd dX11_takeClause_66 ?_
  refine g_put (c := 11) (k := 7) (h1 := sI h as0 7 (xs1 + xs2)) dX11_takeClause_67 (by decide) (by decide) kw_1134 rfl (LX11.o (h := h) F0) rfl rfl (Put.I rfl) ?_
  refine g_iload_n dX11_takeClause_70 rfl ?_
  exact g_ireturn (st := []) dX11_takeClause_71 rfl rfl hp
theorem bkX11_clauseIs_0 {X : GX} {h : SH} {nc ns : Nat} {P : Out → SH → Prop} {a0 : Nat} (F0 : LX11 (Sk h) (a0)) (i1 : vp_in (6) 7) (kt : ¬ (hI h (a0 + 11) ((6 : Int32).toNatClampNeg)) = 12 → Gd X mX11_clauseIs 20 [some (.ref a0), some (.int (hI h (a0 + 11) ((6 : Int32).toNatClampNeg))), none] [] (h) nc ns P) (kf : (hI h (a0 + 11) ((6 : Int32).toNatClampNeg)) = 12 → Gd X mX11_clauseIs 14 [some (.ref a0), none, none] [] (h) nc ns P) : Gd X mX11_clauseIs 0 [some (.ref a0), none, none] [] h nc ns P := by
  refine g_aload_n dX11_clauseIs_0 rfl ?_
  refine g_getAs (c := 11) (k := 16) (b := a0 + 11) dX11_clauseIs_1 (by decide) (by decide) kw_1143 rfl (LX11.o (h := h) F0) (LX11.r_clauses (h := h) F0) ?_
  refine g_bipush (v := 6) dX11_clauseIs_4 (by decide) ?_
  refine g_iaload dX11_clauseIs_6 (LX11.a_clauses (h := h) F0) i1 ?_
  refine g_istore_n (L' := [some (.ref a0), some (.int (hI h (a0 + 11) ((6 : Int32).toNatClampNeg))), none]) dX11_clauseIs_7 (by decide) rfl ?_
  refine g_iload_n dX11_clauseIs_8 rfl ?_
  refine g_bipush (v := 12) dX11_clauseIs_9 (by decide) ?_
  exact g_icmp_ne (tgt := 20) dX11_clauseIs_11 (by decide) (fun q => Gd.wk (kt q) ⟨rfl, ⟨rfl, trivial⟩⟩) (fun q => Gd.wk (kf q) ⟨rfl, trivial⟩)
theorem bkX11_clauseIs_14 {X : GX} {h : SH} {nc ns : Nat} {P : Out → SH → Prop} {Q : SH → Prop} {a0 : Nat} (F0 : LX11 (Sk h) (a0)) (hN : Cd X mX11_wrong [.ref a0, .int 5] (h) 0 0 (oV Q nX)) (g : ∀ t, Q t → Gd X mX11_clauseIs 19 [none, none, none] [] (t) nc ns P) : Gd X mX11_clauseIs 14 [some (.ref a0), none, none] [] h nc ns P := by
  refine g_aload_n dX11_clauseIs_14 rfl ?_
  refine g_iconst (v := 5) dX11_clauseIs_15 (by decide) ?_
  refine Gd.z ?_
  exact g_callV (k := 11) [.int 5] dX11_clauseIs_16 mfX11_wrong ⟨by decide, by decide⟩ kw_1333 kw_1335 kw_47 rfl (by decide) (Nat.le_of_ble_eq_true rfl) (by intro x hx; cases hx) (LX11.o (h := h) F0) (Nat.le_of_ble_eq_true rfl) hN (fun _ _ q => q.elim) (oV_go (G := fun a b => Gd X mX11_clauseIs 19 _ a b nc ns P) (fun t q => Gd.wk (g t q) trivial))
theorem bkX11_clauseIs_19 {X : GX} {h : SH} {nc ns : Nat} {P : Out → SH → Prop} (hp : P (.inl (none)) (h)) : Gd X mX11_clauseIs 19 [none, none, none] [] h nc ns P := by
  exact g_return (st := []) dX11_clauseIs_19 rfl hp
theorem bkX11_clauseIs_20 {X : GX} {h : SH} {nc ns : Nat} {P : Out → SH → Prop} {Q : Int32 → SH → Prop} {a0 : Nat} {x1 : Int32} (F0 : LX11 (Sk h) (a0)) (hN : Cd X mX11_isName [.ref a0] (sI h a0 7 (hI h a0 7 + 1)) 0 0 (oI Q nX)) (g : ∀ r t, Q r t → Gd X mX11_clauseIs 39 [some (.ref a0), some (.int x1), some (.int (72 + x1))] [.int r] (t) nc ns P) : Gd X mX11_clauseIs 20 [some (.ref a0), some (.int x1), none] [] h nc ns P := by
  refine g_aload_n dX11_clauseIs_20 rfl ?_
  refine g_dup dX11_clauseIs_21 rfl ?_
  refine g_getI (c := 11) (k := 7) dX11_clauseIs_22 (by decide) (by decide) kw_1134 rfl (LX11.o (h := h) F0) ?_
  refine g_iconst (v := 1) dX11_clauseIs_25 (by decide) ?_
  refine g_iadd dX11_clauseIs_26 ?_
  refine g_put (c := 11) (k := 7) (h1 := sI h a0 7 (hI h a0 7 + 1)) dX11_clauseIs_27 (by decide) (by decide) kw_1134 rfl (LX11.o (h := h) F0) rfl rfl (Put.I rfl) ?_
  refine g_bipush (v := 72) dX11_clauseIs_30 (by decide) ?_
  refine g_iload_n dX11_clauseIs_32 rfl ?_
  refine g_iadd dX11_clauseIs_33 ?_
  refine g_istore_n (L' := [some (.ref a0), some (.int x1), some (.int (72 + x1))]) dX11_clauseIs_34 (by decide) rfl ?_
  refine g_aload_n dX11_clauseIs_35 rfl ?_
  refine Gd.z ?_
  exact g_callV (k := 11) [] dX11_clauseIs_36 mfX11_isName ⟨by decide, by decide⟩ kw_1337 kw_1339 kw_48 rfl (by decide) (Nat.le_of_ble_eq_true rfl) (by intro x hx; cases hx) (LX11.o (h := sI h a0 7 (hI h a0 7 + 1)) F0) (Nat.le_of_ble_eq_true rfl) hN (fun _ _ q => q.elim) (oI_go (G := fun a b => Gd X mX11_clauseIs 39 _ a b nc ns P) (fun r t q => Gd.wk (g r t q) ⟨rfl, ⟨rfl, ⟨rfl, trivial⟩⟩⟩))
theorem bkX11_clauseIs_39 {X : GX} {h : SH} {nc ns : Nat} {P : Out → SH → Prop} {a0 : Nat} {x1 : Int32} {x2 : Int32} {xs0 : Int32} (kt : ¬ xs0 = 0 → Gd X mX11_clauseIs 50 [some (.ref a0), some (.int x1), some (.int x2)] [] (h) nc ns P) (kf : xs0 = 0 → Gd X mX11_clauseIs 42 [some (.ref a0), none, some (.int x2)] [] (h) nc ns P) : Gd X mX11_clauseIs 39 [some (.ref a0), some (.int x1), some (.int x2)] [.int xs0] h nc ns P := by
  exact g_if_ne (tgt := 50) dX11_clauseIs_39 (by decide) (fun q => Gd.wk (kt q) ⟨rfl, ⟨rfl, ⟨rfl, trivial⟩⟩⟩) (fun q => Gd.wk (kf q) ⟨rfl, ⟨rfl, trivial⟩⟩)
theorem bkX11_clauseIs_42 {X : GX} {h : SH} {nc ns : Nat} {P : Out → SH → Prop} {Q : SH → Prop} {a0 : Nat} {x2 : Int32} (F0 : LX11 (Sk h) (a0)) (hN : Cd X mX11_wrong [.ref a0, .int 1] (h) 0 0 (oV Q nX)) (g : ∀ t, Q t → Gd X mX11_clauseIs 47 [some (.ref a0), none, some (.int x2)] [] (t) nc ns P) : Gd X mX11_clauseIs 42 [some (.ref a0), none, some (.int x2)] [] h nc ns P := by
  refine g_aload_n dX11_clauseIs_42 rfl ?_
  refine g_iconst (v := 1) dX11_clauseIs_43 (by decide) ?_
  refine Gd.z ?_
  exact g_callV (k := 11) [.int 1] dX11_clauseIs_44 mfX11_wrong ⟨by decide, by decide⟩ kw_1333 kw_1335 kw_47 rfl (by decide) (Nat.le_of_ble_eq_true rfl) (by intro x hx; cases hx) (LX11.o (h := h) F0) (Nat.le_of_ble_eq_true rfl) hN (fun _ _ q => q.elim) (oV_go (G := fun a b => Gd X mX11_clauseIs 47 _ a b nc ns P) (fun t q => Gd.wk (g t q) ⟨rfl, ⟨rfl, trivial⟩⟩))
theorem bkX11_clauseIs_47 {X : GX} {h : SH} {nc ns : Nat} {P : Out → SH → Prop} {a0 : Nat} {x2 : Int32} (g : Gd X mX11_clauseIs 72 [some (.ref a0), none, some (.int x2)] [] (h) nc ns P) : Gd X mX11_clauseIs 47 [some (.ref a0), none, some (.int x2)] [] h nc ns P := by
  refine g_goto (tgt := 72) dX11_clauseIs_47 (by decide) ?_
  exact Gd.wk g ⟨rfl, ⟨rfl, trivial⟩⟩
theorem bkX11_clauseIs_50 {X : GX} {h : SH} {nc ns : Nat} {P : Out → SH → Prop} {Q : Int32 → SH → Prop} {a0 : Nat} {x1 : Int32} {x2 : Int32} (F0 : LX11 (Sk h) (a0)) (i1 : vp_in (hI h a0 7) 2402) (hN : Cd X mX11_findClause [.ref a0, .long (hJ h (a0 + 4) ((hI h a0 7 : Int32).toNatClampNeg))] (h) 0 0 (oI Q nX)) (g : ∀ r t, Q r t → Gd X mX11_clauseIs 63 [some (.ref a0), some (.int x1), some (.int x2)] [.int r] (t) nc ns P) : Gd X mX11_clauseIs 50 [some (.ref a0), some (.int x1), some (.int x2)] [] h nc ns P := by
  refine g_aload_n dX11_clauseIs_50 rfl ?_
  refine g_aload_n dX11_clauseIs_51 rfl ?_
  refine g_getAs (c := 11) (k := 6) (b := a0 + 4) dX11_clauseIs_52 (by decide) (by decide) kw_1133 rfl (LX11.o (h := h) F0) (LX11.r_value (h := h) F0) ?_
  refine g_aload_n dX11_clauseIs_55 rfl ?_
  refine g_getI (c := 11) (k := 7) dX11_clauseIs_56 (by decide) (by decide) kw_1134 rfl (LX11.o (h := h) F0) ?_
  refine g_laload dX11_clauseIs_59 (LX11.a_value (h := h) F0) i1 ?_
  refine Gd.z ?_
  exact g_callV (k := 11) [.long (hJ h (a0 + 4) ((hI h a0 7 : Int32).toNatClampNeg))] dX11_clauseIs_60 mfX11_findClause ⟨by decide, by decide⟩ kw_1375 kw_1377 kw_57 rfl (by decide) (Nat.le_of_ble_eq_true rfl) (by intro x hx; cases hx) (LX11.o (h := h) F0) (Nat.le_of_ble_eq_true rfl) hN (fun _ _ q => q.elim) (oI_go (G := fun a b => Gd X mX11_clauseIs 63 _ a b nc ns P) (fun r t q => Gd.wk (g r t q) ⟨rfl, ⟨rfl, ⟨rfl, trivial⟩⟩⟩))
theorem bkX11_clauseIs_63 {X : GX} {h : SH} {nc ns : Nat} {P : Out → SH → Prop} {a0 : Nat} {x1 : Int32} {x2 : Int32} {xs0 : Int32} (kt : x1 ≤ xs0 → Gd X mX11_clauseIs 72 [some (.ref a0), none, some (.int x2)] [] (h) nc ns P) (kf : ¬ x1 ≤ xs0 → Gd X mX11_clauseIs 67 [some (.ref a0), none, some (.int x2)] [] (h) nc ns P) : Gd X mX11_clauseIs 63 [some (.ref a0), some (.int x1), some (.int x2)] [.int xs0] h nc ns P := by
  refine g_iload_n dX11_clauseIs_63 rfl ?_
  exact g_icmp_ge (tgt := 72) dX11_clauseIs_64 (by decide) (fun q => Gd.wk (kt q) ⟨rfl, ⟨rfl, trivial⟩⟩) (fun q => Gd.wk (kf q) ⟨rfl, ⟨rfl, trivial⟩⟩)
theorem bkX11_clauseIs_67 {X : GX} {h : SH} {nc ns : Nat} {P : Out → SH → Prop} {Q : SH → Prop} {a0 : Nat} {x2 : Int32} (F0 : LX11 (Sk h) (a0)) (hN : Cd X mX11_wrong [.ref a0, .int 3] (h) 0 0 (oV Q nX)) (g : ∀ t, Q t → Gd X mX11_clauseIs 72 [some (.ref a0), none, some (.int x2)] [] (t) nc ns P) : Gd X mX11_clauseIs 67 [some (.ref a0), none, some (.int x2)] [] h nc ns P := by
  refine g_aload_n dX11_clauseIs_67 rfl ?_
  refine g_iconst (v := 3) dX11_clauseIs_68 (by decide) ?_
  refine Gd.z ?_
  exact g_callV (k := 11) [.int 3] dX11_clauseIs_69 mfX11_wrong ⟨by decide, by decide⟩ kw_1333 kw_1335 kw_47 rfl (by decide) (Nat.le_of_ble_eq_true rfl) (by intro x hx; cases hx) (LX11.o (h := h) F0) (Nat.le_of_ble_eq_true rfl) hN (fun _ _ q => q.elim) (oV_go (G := fun a b => Gd X mX11_clauseIs 72 _ a b nc ns P) (fun t q => Gd.wk (g t q) ⟨rfl, ⟨rfl, trivial⟩⟩))
theorem bkX11_clauseIs_72 {X : GX} {h : SH} {nc ns : Nat} {P : Out → SH → Prop} {a0 : Nat} {x2 : Int32} (F0 : LX11 (Sk h) (a0)) (i1 : vp_in (hI h a0 7) 2402) (i2 : vp_in (x2) 84) (kt : ¬ (hI (sJ h (a0 + 12) ((x2 : Int32).toNatClampNeg) (hJ h (a0 + 4) ((hI h a0 7 : Int32).toNatClampNeg))) a0 8) = 0 → Gd X mX11_clauseIs 103 [some (.ref a0), none, some (.int x2)] [.int (hI (sJ h (a0 + 12) ((x2 : Int32).toNatClampNeg) (hJ h (a0 + 4) ((hI h a0 7 : Int32).toNatClampNeg))) a0 7), .ref a0] (sJ h (a0 + 12) ((x2 : Int32).toNatClampNeg) (hJ h (a0 + 4) ((hI h a0 7 : Int32).toNatClampNeg))) nc ns P) (kf : (hI (sJ h (a0 + 12) ((x2 : Int32).toNatClampNeg) (hJ h (a0 + 4) ((hI h a0 7 : Int32).toNatClampNeg))) a0 8) = 0 → Gd X mX11_clauseIs 99 [some (.ref a0), none, some (.int x2)] [.int (hI (sJ h (a0 + 12) ((x2 : Int32).toNatClampNeg) (hJ h (a0 + 4) ((hI h a0 7 : Int32).toNatClampNeg))) a0 7), .ref a0] (sJ h (a0 + 12) ((x2 : Int32).toNatClampNeg) (hJ h (a0 + 4) ((hI h a0 7 : Int32).toNatClampNeg))) nc ns P) : Gd X mX11_clauseIs 72 [some (.ref a0), none, some (.int x2)] [] h nc ns P := by
  refine g_aload_n dX11_clauseIs_72 rfl ?_
  refine g_getAs (c := 11) (k := 17) (b := a0 + 12) dX11_clauseIs_73 (by decide) (by decide) kw_1144 rfl (LX11.o (h := h) F0) (LX11.r_clauseName (h := h) F0) ?_
  refine g_iload_n dX11_clauseIs_76 rfl ?_
  refine g_aload_n dX11_clauseIs_77 rfl ?_
  refine g_getAs (c := 11) (k := 6) (b := a0 + 4) dX11_clauseIs_78 (by decide) (by decide) kw_1133 rfl (LX11.o (h := h) F0) (LX11.r_value (h := h) F0) ?_
  refine g_aload_n dX11_clauseIs_81 rfl ?_
  refine g_getI (c := 11) (k := 7) dX11_clauseIs_82 (by decide) (by decide) kw_1134 rfl (LX11.o (h := h) F0) ?_
  refine g_laload dX11_clauseIs_85 (LX11.a_value (h := h) F0) i1 ?_
  refine g_lastore dX11_clauseIs_86 (LX11.a_clauseName (h := h) F0) i2 ?_
  refine g_aload_n dX11_clauseIs_87 rfl ?_
  refine g_dup dX11_clauseIs_88 rfl ?_
  refine g_getI (c := 11) (k := 7) dX11_clauseIs_89 (by decide) (by decide) kw_1134 rfl (LX11.o (h := sJ h (a0 + 12) ((x2 : Int32).toNatClampNeg) (hJ h (a0 + 4) ((hI h a0 7 : Int32).toNatClampNeg))) F0) ?_
  refine g_aload_n dX11_clauseIs_92 rfl ?_
  refine g_getI (c := 11) (k := 8) dX11_clauseIs_93 (by decide) (by decide) kw_1135 rfl (LX11.o (h := sJ h (a0 + 12) ((x2 : Int32).toNatClampNeg) (hJ h (a0 + 4) ((hI h a0 7 : Int32).toNatClampNeg))) F0) ?_
  exact g_if_ne (tgt := 103) dX11_clauseIs_96 (by decide) (fun q => Gd.wk (kt q) ⟨rfl, ⟨rfl, trivial⟩⟩) (fun q => Gd.wk (kf q) ⟨rfl, ⟨rfl, trivial⟩⟩)
theorem bkX11_clauseIs_99 {X : GX} {h : SH} {nc ns : Nat} {P : Out → SH → Prop} {a0 : Nat} {x2 : Int32} {as0 : Nat} {xs1 : Int32} (g : Gd X mX11_clauseIs 104 [some (.ref a0), none, some (.int x2)] [.int 1, .int xs1, .ref as0] (h) nc ns P) : Gd X mX11_clauseIs 99 [some (.ref a0), none, some (.int x2)] [.int xs1, .ref as0] h nc ns P := by
  refine g_iconst (v := 1) dX11_clauseIs_99 (by decide) ?_
  refine g_goto (tgt := 104) dX11_clauseIs_100 (by decide) ?_
  exact Gd.wk g ⟨rfl, ⟨rfl, trivial⟩⟩
theorem bkX11_clauseIs_103 {X : GX} {h : SH} {nc ns : Nat} {P : Out → SH → Prop} {a0 : Nat} {x2 : Int32} {as0 : Nat} {xs1 : Int32} (g : Gd X mX11_clauseIs 104 [some (.ref a0), none, some (.int x2)] [.int 0, .int xs1, .ref as0] (h) nc ns P) : Gd X mX11_clauseIs 103 [some (.ref a0), none, some (.int x2)] [.int xs1, .ref as0] h nc ns P := by
  refine g_iconst (v := 0) dX11_clauseIs_103 (by decide) ?_
  exact Gd.wk g ⟨rfl, ⟨rfl, trivial⟩⟩
theorem bkX11_clauseIs_104 {X : GX} {h : SH} {nc ns : Nat} {P : Out → SH → Prop} {Q : SH → Prop} {a0 : Nat} {x2 : Int32} {as0 : Nat} {xs1 : Int32} {xs2 : Int32} (F0 : LX11 (Sk h) (as0)) (F1 : LX11 (Sk h) (a0)) (hN : Cd X mX11_takeWord [.ref a0, .int 3] (sI h as0 7 (xs1 + xs2)) 0 0 (oV Q nX)) (g : ∀ t, Q t → Gd X mX11_clauseIs 113 [some (.ref a0), none, some (.int x2)] [] (t) nc ns P) : Gd X mX11_clauseIs 104 [some (.ref a0), none, some (.int x2)] [.int xs2, .int xs1, .ref as0] h nc ns P := by
  refine g_iadd dX11_clauseIs_104 ?_
  refine g_put (c := 11) (k := 7) (h1 := sI h as0 7 (xs1 + xs2)) dX11_clauseIs_105 (by decide) (by decide) kw_1134 rfl (LX11.o (h := h) F0) rfl rfl (Put.I rfl) ?_
  refine g_aload_n dX11_clauseIs_108 rfl ?_
  refine g_iconst (v := 3) dX11_clauseIs_109 (by decide) ?_
  refine Gd.z ?_
  exact g_callV (k := 11) [.int 3] dX11_clauseIs_110 mfX11_takeWord ⟨by decide, by decide⟩ kw_1349 kw_1351 kw_51 rfl (by decide) (Nat.le_of_ble_eq_true rfl) (by intro x hx; cases hx) (LX11.o (h := sI h as0 7 (xs1 + xs2)) F1) (Nat.le_of_ble_eq_true rfl) hN (fun _ _ q => q.elim) (oV_go (G := fun a b => Gd X mX11_clauseIs 113 _ a b nc ns P) (fun t q => Gd.wk (g t q) ⟨rfl, ⟨rfl, trivial⟩⟩))
theorem bkX11_clauseIs_113 {X : GX} {h : SH} {nc ns : Nat} {P : Out → SH → Prop} {Q : Int32 → SH → Prop} {a0 : Nat} {x2 : Int32} (F0 : LX11 (Sk h) (a0)) (hN : Cd X mX11_takeNumber [.ref a0, .int 0, .int 99] (h) 0 0 (oI Q nX)) (g : ∀ r t, Q r t → Gd X mX11_clauseIs 125 [some (.ref a0), none, some (.int x2)] [.int r, .int x2, .ref (a0 + 13)] (t) nc ns P) : Gd X mX11_clauseIs 113 [some (.ref a0), none, some (.int x2)] [] h nc ns P := by
  refine g_aload_n dX11_clauseIs_113 rfl ?_
  refine g_getAs (c := 11) (k := 18) (b := a0 + 13) dX11_clauseIs_114 (by decide) (by decide) kw_1145 rfl (LX11.o (h := h) F0) (LX11.r_placeOf (h := h) F0) ?_
  refine g_iload_n dX11_clauseIs_117 rfl ?_
  refine g_aload_n dX11_clauseIs_118 rfl ?_
  refine g_iconst (v := 0) dX11_clauseIs_119 (by decide) ?_
  refine g_bipush (v := 99) dX11_clauseIs_120 (by decide) ?_
  refine Gd.z ?_
  exact g_callV (k := 11) [.int 0, .int 99] dX11_clauseIs_122 mfX11_takeNumber ⟨by decide, by decide⟩ kw_1345 kw_1347 kw_50 rfl (by decide) (Nat.le_of_ble_eq_true rfl) (by intro x hx; cases hx) (LX11.o (h := h) F0) (Nat.le_of_ble_eq_true rfl) hN (fun _ _ q => q.elim) (oI_go (G := fun a b => Gd X mX11_clauseIs 125 _ a b nc ns P) (fun r t q => Gd.wk (g r t q) ⟨rfl, ⟨rfl, trivial⟩⟩))
theorem bkX11_clauseIs_125 {X : GX} {h : SH} {nc ns : Nat} {P : Out → SH → Prop} {Q : Int32 → SH → Prop} {a0 : Nat} {x2 : Int32} {as0 : Nat} {xs1 : Int32} {xs2 : Int32} {n5 : Nat} (B0 : Ar h (as0) 20 n5) (i1 : vp_in (xs1) n5) (F2 : LX11 (Sk h) (a0)) (hN : Cd X mX11_hasWord [.ref a0, .int 4] (sI h as0 ((xs1 : Int32).toNatClampNeg) xs2) 0 0 (oI Q nX)) (g : ∀ r t, Q r t → Gd X mX11_clauseIs 136 [some (.ref a0), none, some (.int x2)] [.int r, .int x2, .ref (a0 + 14)] (t) nc ns P) : Gd X mX11_clauseIs 125 [some (.ref a0), none, some (.int x2)] [.int xs2, .int xs1, .ref as0] h nc ns P := by
  refine g_iastore dX11_clauseIs_125 B0 i1 ?_
  refine g_aload_n dX11_clauseIs_126 rfl ?_
  refine g_getAs (c := 11) (k := 19) (b := a0 + 14) dX11_clauseIs_127 (by decide) (by decide) kw_1146 rfl (LX11.o (h := sI h as0 ((xs1 : Int32).toNatClampNeg) xs2) F2) (LX11.r_isMust (h := sI h as0 ((xs1 : Int32).toNatClampNeg) xs2) F2) ?_
  refine g_iload_n dX11_clauseIs_130 rfl ?_
  refine g_aload_n dX11_clauseIs_131 rfl ?_
  refine g_iconst (v := 4) dX11_clauseIs_132 (by decide) ?_
  refine Gd.z ?_
  exact g_callV (k := 11) [.int 4] dX11_clauseIs_133 mfX11_hasWord ⟨by decide, by decide⟩ kw_1353 kw_1355 kw_52 rfl (by decide) (Nat.le_of_ble_eq_true rfl) (by intro x hx; cases hx) (LX11.o (h := sI h as0 ((xs1 : Int32).toNatClampNeg) xs2) F2) (Nat.le_of_ble_eq_true rfl) hN (fun _ _ q => q.elim) (oI_go (G := fun a b => Gd X mX11_clauseIs 136 _ a b nc ns P) (fun r t q => Gd.wk (g r t q) ⟨rfl, ⟨rfl, trivial⟩⟩))
theorem bkX11_clauseIs_136 {X : GX} {h : SH} {nc ns : Nat} {P : Out → SH → Prop} {Q : SH → Prop} {a0 : Nat} {x2 : Int32} {as0 : Nat} {xs1 : Int32} {xs2 : Int32} {n5 : Nat} (B0 : Ar h (as0) 22 n5) (i1 : vp_in (xs1) n5) (F2 : LX11 (Sk h) (a0)) (hN : Cd X mX11_takeWord [.ref a0, .int 5] (sI h as0 ((xs1 : Int32).toNatClampNeg) (vp_nar .boolean xs2)) 0 0 (oV Q nX)) (g : ∀ t, Q t → Gd X mX11_clauseIs 142 [some (.ref a0), none, some (.int x2)] [] (t) nc ns P) : Gd X mX11_clauseIs 136 [some (.ref a0), none, some (.int x2)] [.int xs2, .int xs1, .ref as0] h nc ns P := by
  refine g_zastore dX11_clauseIs_136 B0 i1 ?_
  refine g_aload_n dX11_clauseIs_137 rfl ?_
  refine g_iconst (v := 5) dX11_clauseIs_138 (by decide) ?_
  refine Gd.z ?_
  exact g_callV (k := 11) [.int 5] dX11_clauseIs_139 mfX11_takeWord ⟨by decide, by decide⟩ kw_1349 kw_1351 kw_51 rfl (by decide) (Nat.le_of_ble_eq_true rfl) (by intro x hx; cases hx) (LX11.o (h := sI h as0 ((xs1 : Int32).toNatClampNeg) (vp_nar .boolean xs2)) F2) (Nat.le_of_ble_eq_true rfl) hN (fun _ _ q => q.elim) (oV_go (G := fun a b => Gd X mX11_clauseIs 142 _ a b nc ns P) (fun t q => Gd.wk (g t q) ⟨rfl, ⟨rfl, trivial⟩⟩))
theorem bkX11_clauseIs_142 {X : GX} {h : SH} {nc ns : Nat} {P : Out → SH → Prop} {Q : SH → Prop} {a0 : Nat} {x2 : Int32} (F0 : LX11 (Sk h) (a0)) (i1 : vp_in (x2) 84) (hN : Cd X mX11_expression [.ref a0] (sI h (a0 + 15) ((x2 : Int32).toNatClampNeg) (hI h a0 30)) 0 0 (oV Q nX)) (g : ∀ t, Q t → Gd X mX11_clauseIs 156 [some (.ref a0), none, some (.int x2)] [] (t) nc ns P) : Gd X mX11_clauseIs 142 [some (.ref a0), none, some (.int x2)] [] h nc ns P := by
  refine g_aload_n dX11_clauseIs_142 rfl ?_
  refine g_getAs (c := 11) (k := 20) (b := a0 + 15) dX11_clauseIs_143 (by decide) (by decide) kw_1147 rfl (LX11.o (h := h) F0) (LX11.r_whenAt (h := h) F0) ?_
  refine g_iload_n dX11_clauseIs_146 rfl ?_
  refine g_aload_n dX11_clauseIs_147 rfl ?_
  refine g_getI (c := 11) (k := 30) dX11_clauseIs_148 (by decide) (by decide) kw_1157 rfl (LX11.o (h := h) F0) ?_
  refine g_iastore dX11_clauseIs_151 (LX11.a_whenAt (h := h) F0) i1 ?_
  refine g_aload_n dX11_clauseIs_152 rfl ?_
  refine Gd.z ?_
  exact g_callV (k := 11) [] dX11_clauseIs_153 mfX11_expression ⟨by decide, by decide⟩ kw_1379 kw_1381 kw_58 rfl (by decide) (Nat.le_of_ble_eq_true rfl) (by intro x hx; cases hx) (LX11.o (h := sI h (a0 + 15) ((x2 : Int32).toNatClampNeg) (hI h a0 30)) F0) (Nat.le_of_ble_eq_true rfl) hN (fun _ _ q => q.elim) (oV_go (G := fun a b => Gd X mX11_clauseIs 156 _ a b nc ns P) (fun t q => Gd.wk (g t q) ⟨rfl, ⟨rfl, trivial⟩⟩))
theorem bkX11_clauseIs_156 {X : GX} {h : SH} {nc ns : Nat} {P : Out → SH → Prop} {Q : SH → Prop} {a0 : Nat} {x2 : Int32} (F0 : LX11 (Sk h) (a0)) (hN : Cd X mX11_takeSign [.ref a0, .int 59] (h) 0 0 (oV Q nX)) (g : ∀ t, Q t → Gd X mX11_clauseIs 162 [some (.ref a0), none, some (.int x2)] [] (t) nc ns P) : Gd X mX11_clauseIs 156 [some (.ref a0), none, some (.int x2)] [] h nc ns P := by
  refine g_aload_n dX11_clauseIs_156 rfl ?_
  refine g_bipush (v := 59) dX11_clauseIs_157 (by decide) ?_
  refine Gd.z ?_
  exact g_callV (k := 11) [.int 59] dX11_clauseIs_159 mfX11_takeSign ⟨by decide, by decide⟩ kw_1363 kw_1365 kw_54 rfl (by decide) (Nat.le_of_ble_eq_true rfl) (by intro x hx; cases hx) (LX11.o (h := h) F0) (Nat.le_of_ble_eq_true rfl) hN (fun _ _ q => q.elim) (oV_go (G := fun a b => Gd X mX11_clauseIs 162 _ a b nc ns P) (fun t q => Gd.wk (g t q) ⟨rfl, ⟨rfl, trivial⟩⟩))
theorem bkX11_clauseIs_162 {X : GX} {h : SH} {nc ns : Nat} {P : Out → SH → Prop} {a0 : Nat} {x2 : Int32} (F0 : LX11 (Sk h) (a0)) (i1 : vp_in (x2) 84) (g : Gd X mX11_clauseIs 169 [some (.ref a0), none, some (.int x2)] [] (sI h (a0 + 16) ((x2 : Int32).toNatClampNeg) 0) nc ns P) : Gd X mX11_clauseIs 162 [some (.ref a0), none, some (.int x2)] [] h nc ns P := by
  refine g_aload_n dX11_clauseIs_162 rfl ?_
  refine g_getAs (c := 11) (k := 21) (b := a0 + 16) dX11_clauseIs_163 (by decide) (by decide) kw_1148 rfl (LX11.o (h := h) F0) (LX11.r_links (h := h) F0) ?_
  refine g_iload_n dX11_clauseIs_166 rfl ?_
  refine g_iconst (v := 0) dX11_clauseIs_167 (by decide) ?_
  refine g_iastore dX11_clauseIs_168 (LX11.a_links (h := h) F0) i1 ?_
  exact Gd.wk g ⟨rfl, ⟨rfl, trivial⟩⟩
theorem bkX11_clauseIs_169 {X : GX} {h : SH} {nc ns : Nat} {P : Out → SH → Prop} {Q : Int32 → SH → Prop} {a0 : Nat} {x2 : Int32} (F0 : LX11 (Sk h) (a0)) (hN : Cd X mX11_isWord [.ref a0, .int 6] (h) 0 0 (oI Q nX)) (g : ∀ r t, Q r t → Gd X mX11_clauseIs 175 [some (.ref a0), none, some (.int x2)] [.int r] (t) nc ns P) : Gd X mX11_clauseIs 169 [some (.ref a0), none, some (.int x2)] [] h nc ns P := by
  refine g_aload_n dX11_clauseIs_169 rfl ?_
  refine g_bipush (v := 6) dX11_clauseIs_170 (by decide) ?_
  refine Gd.z ?_
  exact g_callV (k := 11) [.int 6] dX11_clauseIs_172 mfX11_isWord ⟨by decide, by decide⟩ kw_1325 kw_1327 kw_45 rfl (by decide) (Nat.le_of_ble_eq_true rfl) (by intro x hx; cases hx) (LX11.o (h := h) F0) (Nat.le_of_ble_eq_true rfl) hN (fun _ _ q => q.elim) (oI_go (G := fun a b => Gd X mX11_clauseIs 175 _ a b nc ns P) (fun r t q => Gd.wk (g r t q) ⟨rfl, ⟨rfl, trivial⟩⟩))
theorem bkX11_clauseIs_175 {X : GX} {h : SH} {nc ns : Nat} {P : Out → SH → Prop} {a0 : Nat} {x2 : Int32} {xs0 : Int32} (kt : xs0 = 0 → Gd X mX11_clauseIs 187 [some (.ref a0), none, some (.int x2)] [] (h) nc ns P) (kf : ¬ xs0 = 0 → Gd X mX11_clauseIs 178 [some (.ref a0), none, some (.int x2)] [] (h) nc ns P) : Gd X mX11_clauseIs 175 [some (.ref a0), none, some (.int x2)] [.int xs0] h nc ns P := by
  exact g_if_eq (tgt := 187) dX11_clauseIs_175 (by decide) (fun q => Gd.wk (kt q) ⟨rfl, ⟨rfl, trivial⟩⟩) (fun q => Gd.wk (kf q) ⟨rfl, ⟨rfl, trivial⟩⟩)
theorem bkX11_clauseIs_178 {X : GX} {h : SH} {nc ns : Nat} {P : Out → SH → Prop} {Q : SH → Prop} {a0 : Nat} {x2 : Int32} (F0 : LX11 (Sk h) (a0)) (hN : Cd X mX11_link [.ref a0, .int x2, .int 0] (h) 0 0 (oV Q nX)) (g : ∀ t, Q t → Gd X mX11_clauseIs 184 [some (.ref a0), none, some (.int x2)] [] (t) nc ns P) : Gd X mX11_clauseIs 178 [some (.ref a0), none, some (.int x2)] [] h nc ns P := by
  refine g_aload_n dX11_clauseIs_178 rfl ?_
  refine g_iload_n dX11_clauseIs_179 rfl ?_
  refine g_iconst (v := 0) dX11_clauseIs_180 (by decide) ?_
  refine Gd.z ?_
  exact g_callV (k := 11) [.int x2, .int 0] dX11_clauseIs_181 mfX11_link ⟨by decide, by decide⟩ kw_1403 kw_1405 kw_64 rfl (by decide) (Nat.le_of_ble_eq_true rfl) (by intro x hx; cases hx) (LX11.o (h := h) F0) (Nat.le_of_ble_eq_true rfl) hN (fun _ _ q => q.elim) (oV_go (G := fun a b => Gd X mX11_clauseIs 184 _ a b nc ns P) (fun t q => Gd.wk (g t q) ⟨rfl, ⟨rfl, trivial⟩⟩))
theorem bkX11_clauseIs_184 {X : GX} {h : SH} {nc ns : Nat} {P : Out → SH → Prop} {a0 : Nat} {x2 : Int32} (g : Gd X mX11_clauseIs 169 [some (.ref a0), none, some (.int x2)] [] (h) nc ns P) : Gd X mX11_clauseIs 184 [some (.ref a0), none, some (.int x2)] [] h nc ns P := by
  refine g_goto (tgt := 169) dX11_clauseIs_184 (by decide) ?_
  exact Gd.wk g ⟨rfl, ⟨rfl, trivial⟩⟩
theorem bkX11_clauseIs_187 {X : GX} {h : SH} {nc ns : Nat} {P : Out → SH → Prop} {Q : Int32 → SH → Prop} {a0 : Nat} {x2 : Int32} (F0 : LX11 (Sk h) (a0)) (hN : Cd X mX11_isWord [.ref a0, .int 7] (h) 0 0 (oI Q nX)) (g : ∀ r t, Q r t → Gd X mX11_clauseIs 193 [some (.ref a0), none, some (.int x2)] [.int r] (t) nc ns P) : Gd X mX11_clauseIs 187 [some (.ref a0), none, some (.int x2)] [] h nc ns P := by
  refine g_aload_n dX11_clauseIs_187 rfl ?_
  refine g_bipush (v := 7) dX11_clauseIs_188 (by decide) ?_
  refine Gd.z ?_
  exact g_callV (k := 11) [.int 7] dX11_clauseIs_190 mfX11_isWord ⟨by decide, by decide⟩ kw_1325 kw_1327 kw_45 rfl (by decide) (Nat.le_of_ble_eq_true rfl) (by intro x hx; cases hx) (LX11.o (h := h) F0) (Nat.le_of_ble_eq_true rfl) hN (fun _ _ q => q.elim) (oI_go (G := fun a b => Gd X mX11_clauseIs 193 _ a b nc ns P) (fun r t q => Gd.wk (g r t q) ⟨rfl, ⟨rfl, trivial⟩⟩))
theorem bkX11_clauseIs_193 {X : GX} {h : SH} {nc ns : Nat} {P : Out → SH → Prop} {a0 : Nat} {x2 : Int32} {xs0 : Int32} (kt : xs0 = 0 → Gd X mX11_clauseIs 205 [some (.ref a0), none, some (.int x2)] [] (h) nc ns P) (kf : ¬ xs0 = 0 → Gd X mX11_clauseIs 196 [some (.ref a0), none, some (.int x2)] [] (h) nc ns P) : Gd X mX11_clauseIs 193 [some (.ref a0), none, some (.int x2)] [.int xs0] h nc ns P := by
  exact g_if_eq (tgt := 205) dX11_clauseIs_193 (by decide) (fun q => Gd.wk (kt q) ⟨rfl, ⟨rfl, trivial⟩⟩) (fun q => Gd.wk (kf q) ⟨rfl, ⟨rfl, trivial⟩⟩)
theorem bkX11_clauseIs_196 {X : GX} {h : SH} {nc ns : Nat} {P : Out → SH → Prop} {Q : SH → Prop} {a0 : Nat} {x2 : Int32} (F0 : LX11 (Sk h) (a0)) (hN : Cd X mX11_link [.ref a0, .int x2, .int 1] (h) 0 0 (oV Q nX)) (g : ∀ t, Q t → Gd X mX11_clauseIs 202 [some (.ref a0), none, some (.int x2)] [] (t) nc ns P) : Gd X mX11_clauseIs 196 [some (.ref a0), none, some (.int x2)] [] h nc ns P := by
  refine g_aload_n dX11_clauseIs_196 rfl ?_
  refine g_iload_n dX11_clauseIs_197 rfl ?_
  refine g_iconst (v := 1) dX11_clauseIs_198 (by decide) ?_
  refine Gd.z ?_
  exact g_callV (k := 11) [.int x2, .int 1] dX11_clauseIs_199 mfX11_link ⟨by decide, by decide⟩ kw_1403 kw_1405 kw_64 rfl (by decide) (Nat.le_of_ble_eq_true rfl) (by intro x hx; cases hx) (LX11.o (h := h) F0) (Nat.le_of_ble_eq_true rfl) hN (fun _ _ q => q.elim) (oV_go (G := fun a b => Gd X mX11_clauseIs 202 _ a b nc ns P) (fun t q => Gd.wk (g t q) ⟨rfl, ⟨rfl, trivial⟩⟩))
theorem bkX11_clauseIs_202 {X : GX} {h : SH} {nc ns : Nat} {P : Out → SH → Prop} {a0 : Nat} {x2 : Int32} (g : Gd X mX11_clauseIs 187 [some (.ref a0), none, some (.int x2)] [] (h) nc ns P) : Gd X mX11_clauseIs 202 [some (.ref a0), none, some (.int x2)] [] h nc ns P := by
  refine g_goto (tgt := 187) dX11_clauseIs_202 (by decide) ?_
  exact Gd.wk g ⟨rfl, ⟨rfl, trivial⟩⟩
theorem bkX11_clauseIs_205 {X : GX} {h : SH} {nc ns : Nat} {P : Out → SH → Prop} {Q : SH → Prop} {a0 : Nat} {x2 : Int32} (F0 : LX11 (Sk h) (a0)) (hN : Cd X mX11_takeWord [.ref a0, .int 8] (h) 0 0 (oV Q nX)) (g : ∀ t, Q t → Gd X mX11_clauseIs 211 [some (.ref a0), none, some (.int x2)] [] (t) nc ns P) : Gd X mX11_clauseIs 205 [some (.ref a0), none, some (.int x2)] [] h nc ns P := by
  refine g_aload_n dX11_clauseIs_205 rfl ?_
  refine g_bipush (v := 8) dX11_clauseIs_206 (by decide) ?_
  refine Gd.z ?_
  exact g_callV (k := 11) [.int 8] dX11_clauseIs_208 mfX11_takeWord ⟨by decide, by decide⟩ kw_1349 kw_1351 kw_51 rfl (by decide) (Nat.le_of_ble_eq_true rfl) (by intro x hx; cases hx) (LX11.o (h := h) F0) (Nat.le_of_ble_eq_true rfl) hN (fun _ _ q => q.elim) (oV_go (G := fun a b => Gd X mX11_clauseIs 211 _ a b nc ns P) (fun t q => Gd.wk (g t q) ⟨rfl, ⟨rfl, trivial⟩⟩))
theorem bkX11_clauseIs_211 {X : GX} {h : SH} {nc ns : Nat} {P : Out → SH → Prop} {a0 : Nat} {x2 : Int32} (F0 : LX11 (Sk h) (a0)) (i1 : vp_in (x2) 84) (g : Gd X mX11_clauseIs 218 [some (.ref a0), none, some (.int x2)] [] (sI h (a0 + 19) ((x2 : Int32).toNatClampNeg) 0) nc ns P) : Gd X mX11_clauseIs 211 [some (.ref a0), none, some (.int x2)] [] h nc ns P := by
  refine g_aload_n dX11_clauseIs_211 rfl ?_
  refine g_getAs (c := 11) (k := 24) (b := a0 + 19) dX11_clauseIs_212 (by decide) (by decide) kw_1151 rfl (LX11.o (h := h) F0) (LX11.r_items (h := h) F0) ?_
  refine g_iload_n dX11_clauseIs_215 rfl ?_
  refine g_iconst (v := 0) dX11_clauseIs_216 (by decide) ?_
  refine g_iastore dX11_clauseIs_217 (LX11.a_items (h := h) F0) i1 ?_
  exact Gd.wk g ⟨rfl, ⟨rfl, trivial⟩⟩
theorem bkX11_clauseIs_218 {X : GX} {h : SH} {nc ns : Nat} {P : Out → SH → Prop} {Q : Int32 → SH → Prop} {a0 : Nat} {x2 : Int32} (F0 : LX11 (Sk h) (a0)) (hN : Cd X mX11_isItem [.ref a0] (h) 0 0 (oI Q nX)) (g : ∀ r t, Q r t → Gd X mX11_clauseIs 222 [some (.ref a0), none, some (.int x2)] [.int r] (t) nc ns P) : Gd X mX11_clauseIs 218 [some (.ref a0), none, some (.int x2)] [] h nc ns P := by
  refine g_aload_n dX11_clauseIs_218 rfl ?_
  refine Gd.z ?_
  exact g_callV (k := 11) [] dX11_clauseIs_219 mfX11_isItem ⟨by decide, by decide⟩ kw_1411 kw_1413 kw_66 rfl (by decide) (Nat.le_of_ble_eq_true rfl) (by intro x hx; cases hx) (LX11.o (h := h) F0) (Nat.le_of_ble_eq_true rfl) hN (fun _ _ q => q.elim) (oI_go (G := fun a b => Gd X mX11_clauseIs 222 _ a b nc ns P) (fun r t q => Gd.wk (g r t q) ⟨rfl, ⟨rfl, trivial⟩⟩))
theorem bkX11_clauseIs_222 {X : GX} {h : SH} {nc ns : Nat} {P : Out → SH → Prop} {a0 : Nat} {x2 : Int32} {xs0 : Int32} (kt : xs0 = 0 → Gd X mX11_clauseIs 233 [some (.ref a0), none, none] [] (h) nc ns P) (kf : ¬ xs0 = 0 → Gd X mX11_clauseIs 225 [some (.ref a0), none, some (.int x2)] [] (h) nc ns P) : Gd X mX11_clauseIs 222 [some (.ref a0), none, some (.int x2)] [.int xs0] h nc ns P := by
  exact g_if_eq (tgt := 233) dX11_clauseIs_222 (by decide) (fun q => Gd.wk (kt q) ⟨rfl, trivial⟩) (fun q => Gd.wk (kf q) ⟨rfl, ⟨rfl, trivial⟩⟩)
theorem bkX11_clauseIs_225 {X : GX} {h : SH} {nc ns : Nat} {P : Out → SH → Prop} {Q : SH → Prop} {a0 : Nat} {x2 : Int32} (F0 : LX11 (Sk h) (a0)) (hN : Cd X mX11_item [.ref a0, .int x2] (h) 0 0 (oV Q nX)) (g : ∀ t, Q t → Gd X mX11_clauseIs 230 [some (.ref a0), none, some (.int x2)] [] (t) nc ns P) : Gd X mX11_clauseIs 225 [some (.ref a0), none, some (.int x2)] [] h nc ns P := by
  refine g_aload_n dX11_clauseIs_225 rfl ?_
  refine g_iload_n dX11_clauseIs_226 rfl ?_
  refine Gd.z ?_
  exact g_callV (k := 11) [.int x2] dX11_clauseIs_227 mfX11_item ⟨by decide, by decide⟩ kw_1415 kw_1417 kw_67 rfl (by decide) (Nat.le_of_ble_eq_true rfl) (by intro x hx; cases hx) (LX11.o (h := h) F0) (Nat.le_of_ble_eq_true rfl) hN (fun _ _ q => q.elim) (oV_go (G := fun a b => Gd X mX11_clauseIs 230 _ a b nc ns P) (fun t q => Gd.wk (g t q) ⟨rfl, ⟨rfl, trivial⟩⟩))
theorem bkX11_clauseIs_230 {X : GX} {h : SH} {nc ns : Nat} {P : Out → SH → Prop} {a0 : Nat} {x2 : Int32} (g : Gd X mX11_clauseIs 218 [some (.ref a0), none, some (.int x2)] [] (h) nc ns P) : Gd X mX11_clauseIs 230 [some (.ref a0), none, some (.int x2)] [] h nc ns P := by
  refine g_goto (tgt := 218) dX11_clauseIs_230 (by decide) ?_
  exact Gd.wk g ⟨rfl, ⟨rfl, trivial⟩⟩
theorem bkX11_clauseIs_233 {X : GX} {h : SH} {nc ns : Nat} {P : Out → SH → Prop} {Q : SH → Prop} {a0 : Nat} (F0 : LX11 (Sk h) (a0)) (hN : Cd X mX11_takeSign [.ref a0, .int 59] (h) 0 0 (oV Q nX)) (g : ∀ t, Q t → Gd X mX11_clauseIs 239 [some (.ref a0), none, none] [] (t) nc ns P) : Gd X mX11_clauseIs 233 [some (.ref a0), none, none] [] h nc ns P := by
  refine g_aload_n dX11_clauseIs_233 rfl ?_
  refine g_bipush (v := 59) dX11_clauseIs_234 (by decide) ?_
  refine Gd.z ?_
  exact g_callV (k := 11) [.int 59] dX11_clauseIs_236 mfX11_takeSign ⟨by decide, by decide⟩ kw_1363 kw_1365 kw_54 rfl (by decide) (Nat.le_of_ble_eq_true rfl) (by intro x hx; cases hx) (LX11.o (h := h) F0) (Nat.le_of_ble_eq_true rfl) hN (fun _ _ q => q.elim) (oV_go (G := fun a b => Gd X mX11_clauseIs 239 _ a b nc ns P) (fun t q => Gd.wk (g t q) ⟨rfl, trivial⟩))
theorem bkX11_clauseIs_239 {X : GX} {h : SH} {nc ns : Nat} {P : Out → SH → Prop} {a0 : Nat} (F0 : LX11 (Sk h) (a0)) (i1 : vp_in (6) 7) (hp : P (.inl (none)) (sI h (a0 + 11) ((6 : Int32).toNatClampNeg) ((hI h (a0 + 11) ((6 : Int32).toNatClampNeg)) + 1))) : Gd X mX11_clauseIs 239 [some (.ref a0), none, none] [] h nc ns P := by
  refine g_aload_n dX11_clauseIs_239 rfl ?_
  refine g_getAs (c := 11) (k := 16) (b := a0 + 11) dX11_clauseIs_240 (by decide) (by decide) kw_1143 rfl (LX11.o (h := h) F0) (LX11.r_clauses (h := h) F0) ?_
  refine g_bipush (v := 6) dX11_clauseIs_243 (by decide) ?_
  refine g_dup2 dX11_clauseIs_245 rfl rfl ?_
  refine g_iaload dX11_clauseIs_246 (LX11.a_clauses (h := h) F0) i1 ?_
  refine g_iconst (v := 1) dX11_clauseIs_247 (by decide) ?_
  refine g_iadd dX11_clauseIs_248 ?_
  refine g_iastore dX11_clauseIs_249 (LX11.a_clauses (h := h) F0) i1 ?_
  exact g_return (st := []) dX11_clauseIs_250 rfl hp
theorem bkX11_link_0 {X : GX} {h : SH} {nc ns : Nat} {P : Out → SH → Prop} {a0 : Nat} {x1 : Int32} {x2 : Int32} (F0 : LX11 (Sk h) (a0)) (i1 : vp_in (x1) 84) (kt : ¬ (hI h (a0 + 16) ((x1 : Int32).toNatClampNeg)) = 8 → Gd X mX11_link 17 [some (.ref a0), some (.int x1), some (.int x2)] [] (h) nc ns P) (kf : (hI h (a0 + 16) ((x1 : Int32).toNatClampNeg)) = 8 → Gd X mX11_link 11 [some (.ref a0), none, none] [] (h) nc ns P) : Gd X mX11_link 0 [some (.ref a0), some (.int x1), some (.int x2)] [] h nc ns P := by
  refine g_aload_n dX11_link_0 rfl ?_
  refine g_getAs (c := 11) (k := 21) (b := a0 + 16) dX11_link_1 (by decide) (by decide) kw_1148 rfl (LX11.o (h := h) F0) (LX11.r_links (h := h) F0) ?_
  refine g_iload_n dX11_link_4 rfl ?_
  refine g_iaload dX11_link_5 (LX11.a_links (h := h) F0) i1 ?_
  refine g_bipush (v := 8) dX11_link_6 (by decide) ?_
  exact g_icmp_ne (tgt := 17) dX11_link_8 (by decide) (fun q => Gd.wk (kt q) ⟨rfl, ⟨rfl, ⟨rfl, trivial⟩⟩⟩) (fun q => Gd.wk (kf q) ⟨rfl, trivial⟩)
theorem bkX11_link_11 {X : GX} {h : SH} {nc ns : Nat} {P : Out → SH → Prop} {Q : SH → Prop} {a0 : Nat} (F0 : LX11 (Sk h) (a0)) (hN : Cd X mX11_wrong [.ref a0, .int 5] (h) 0 0 (oV Q nX)) (g : ∀ t, Q t → Gd X mX11_link 16 [none, none, none] [] (t) nc ns P) : Gd X mX11_link 11 [some (.ref a0), none, none] [] h nc ns P := by
  refine g_aload_n dX11_link_11 rfl ?_
  refine g_iconst (v := 5) dX11_link_12 (by decide) ?_
  refine Gd.z ?_
  exact g_callV (k := 11) [.int 5] dX11_link_13 mfX11_wrong ⟨by decide, by decide⟩ kw_1333 kw_1335 kw_47 rfl (by decide) (Nat.le_of_ble_eq_true rfl) (by intro x hx; cases hx) (LX11.o (h := h) F0) (Nat.le_of_ble_eq_true rfl) hN (fun _ _ q => q.elim) (oV_go (G := fun a b => Gd X mX11_link 16 _ a b nc ns P) (fun t q => Gd.wk (g t q) trivial))
theorem bkX11_link_16 {X : GX} {h : SH} {nc ns : Nat} {P : Out → SH → Prop} (hp : P (.inl (none)) (h)) : Gd X mX11_link 16 [none, none, none] [] h nc ns P := by
  exact g_return (st := []) dX11_link_16 rfl hp
theorem bkX11_link_17 {X : GX} {h : SH} {nc ns : Nat} {P : Out → SH → Prop} {Q : Int32 → SH → Prop} {a0 : Nat} {x1 : Int32} {x2 : Int32} (F0 : LX11 (Sk h) (a0)) (i1 : vp_in (x1) 84) (i2 : vp_in ((8 * x1) + (hI (sI h a0 7 (hI h a0 7 + 1)) (a0 + 16) ((x1 : Int32).toNatClampNeg))) 672) (hN : Cd X mX11_takeClause [.ref a0] (sI (sI h a0 7 (hI h a0 7 + 1)) (a0 + 18) (((8 * x1) + (hI (sI h a0 7 (hI h a0 7 + 1)) (a0 + 16) ((x1 : Int32).toNatClampNeg)) : Int32).toNatClampNeg) (vp_nar .boolean x2)) 0 0 (oI Q nX)) (g : ∀ r t, Q r t → Gd X mX11_link 63 [some (.ref a0), some (.int x1), none] [.int r, .int ((8 * x1) + (hI (sI (sI h a0 7 (hI h a0 7 + 1)) (a0 + 18) (((8 * x1) + (hI (sI h a0 7 (hI h a0 7 + 1)) (a0 + 16) ((x1 : Int32).toNatClampNeg)) : Int32).toNatClampNeg) (vp_nar .boolean x2)) (a0 + 16) ((x1 : Int32).toNatClampNeg))), .ref (a0 + 17)] (t) nc ns P) : Gd X mX11_link 17 [some (.ref a0), some (.int x1), some (.int x2)] [] h nc ns P := by
  refine g_aload_n dX11_link_17 rfl ?_
  refine g_dup dX11_link_18 rfl ?_
  refine g_getI (c := 11) (k := 7) dX11_link_19 (by decide) (by decide) kw_1134 rfl (LX11.o (h := h) F0) ?_
  refine g_iconst (v := 1) dX11_link_22 (by decide) ?_
  refine g_iadd dX11_link_23 ?_
  refine g_put (c := 11) (k := 7) (h1 := sI h a0 7 (hI h a0 7 + 1)) dX11_link_24 (by decide) (by decide) kw_1134 rfl (LX11.o (h := h) F0) rfl rfl (Put.I rfl) ?_
  refine g_aload_n dX11_link_27 rfl ?_
  refine g_getAs (c := 11) (k := 23) (b := a0 + 18) dX11_link_28 (by decide) (by decide) kw_1150 rfl (LX11.o (h := sI h a0 7 (hI h a0 7 + 1)) F0) (LX11.r_isBar (h := sI h a0 7 (hI h a0 7 + 1)) F0) ?_
  refine g_bipush (v := 8) dX11_link_31 (by decide) ?_
  refine g_iload_n dX11_link_33 rfl ?_
  refine g_imul dX11_link_34 ?_
  refine g_aload_n dX11_link_35 rfl ?_
  refine g_getAs (c := 11) (k := 21) (b := a0 + 16) dX11_link_36 (by decide) (by decide) kw_1148 rfl (LX11.o (h := sI h a0 7 (hI h a0 7 + 1)) F0) (LX11.r_links (h := sI h a0 7 (hI h a0 7 + 1)) F0) ?_
  refine g_iload_n dX11_link_39 rfl ?_
  refine g_iaload dX11_link_40 (LX11.a_links (h := sI h a0 7 (hI h a0 7 + 1)) F0) i1 ?_
  refine g_iadd dX11_link_41 ?_
  refine g_iload_n dX11_link_42 rfl ?_
  refine g_zastore dX11_link_43 (LX11.a_isBar (h := sI h a0 7 (hI h a0 7 + 1)) F0) i2 ?_
  refine g_aload_n dX11_link_44 rfl ?_
  refine g_getAs (c := 11) (k := 22) (b := a0 + 17) dX11_link_45 (by decide) (by decide) kw_1149 rfl (LX11.o (h := sI (sI h a0 7 (hI h a0 7 + 1)) (a0 + 18) (((8 * x1) + (hI (sI h a0 7 (hI h a0 7 + 1)) (a0 + 16) ((x1 : Int32).toNatClampNeg)) : Int32).toNatClampNeg) (vp_nar .boolean x2)) F0) (LX11.r_linkTo (h := sI (sI h a0 7 (hI h a0 7 + 1)) (a0 + 18) (((8 * x1) + (hI (sI h a0 7 (hI h a0 7 + 1)) (a0 + 16) ((x1 : Int32).toNatClampNeg)) : Int32).toNatClampNeg) (vp_nar .boolean x2)) F0) ?_
  refine g_bipush (v := 8) dX11_link_48 (by decide) ?_
  refine g_iload_n dX11_link_50 rfl ?_
  refine g_imul dX11_link_51 ?_
  refine g_aload_n dX11_link_52 rfl ?_
  refine g_getAs (c := 11) (k := 21) (b := a0 + 16) dX11_link_53 (by decide) (by decide) kw_1148 rfl (LX11.o (h := sI (sI h a0 7 (hI h a0 7 + 1)) (a0 + 18) (((8 * x1) + (hI (sI h a0 7 (hI h a0 7 + 1)) (a0 + 16) ((x1 : Int32).toNatClampNeg)) : Int32).toNatClampNeg) (vp_nar .boolean x2)) F0) (LX11.r_links (h := sI (sI h a0 7 (hI h a0 7 + 1)) (a0 + 18) (((8 * x1) + (hI (sI h a0 7 (hI h a0 7 + 1)) (a0 + 16) ((x1 : Int32).toNatClampNeg)) : Int32).toNatClampNeg) (vp_nar .boolean x2)) F0) ?_
  refine g_iload_n dX11_link_56 rfl ?_
  refine g_iaload dX11_link_57 (LX11.a_links (h := sI (sI h a0 7 (hI h a0 7 + 1)) (a0 + 18) (((8 * x1) + (hI (sI h a0 7 (hI h a0 7 + 1)) (a0 + 16) ((x1 : Int32).toNatClampNeg)) : Int32).toNatClampNeg) (vp_nar .boolean x2)) F0) i1 ?_
  refine g_iadd dX11_link_58 ?_
  refine g_aload_n dX11_link_59 rfl ?_
  refine Gd.z ?_
  exact g_callV (k := 11) [] dX11_link_60 mfX11_takeClause ⟨by decide, by decide⟩ kw_1407 kw_1409 kw_65 rfl (by decide) (Nat.le_of_ble_eq_true rfl) (by intro x hx; cases hx) (LX11.o (h := sI (sI h a0 7 (hI h a0 7 + 1)) (a0 + 18) (((8 * x1) + (hI (sI h a0 7 (hI h a0 7 + 1)) (a0 + 16) ((x1 : Int32).toNatClampNeg)) : Int32).toNatClampNeg) (vp_nar .boolean x2)) F0) (Nat.le_of_ble_eq_true rfl) hN (fun _ _ q => q.elim) (oI_go (G := fun a b => Gd X mX11_link 63 _ a b nc ns P) (fun r t q => Gd.wk (g r t q) ⟨rfl, ⟨rfl, trivial⟩⟩))
theorem bkX11_link_63 {X : GX} {h : SH} {nc ns : Nat} {P : Out → SH → Prop} {Q : SH → Prop} {a0 : Nat} {x1 : Int32} {as0 : Nat} {xs1 : Int32} {xs2 : Int32} {n5 : Nat} (B0 : Ar h (as0) 20 n5) (i1 : vp_in (xs1) n5) (F2 : LX11 (Sk h) (a0)) (hN : Cd X mX11_takeSign [.ref a0, .int 59] (sI h as0 ((xs1 : Int32).toNatClampNeg) xs2) 0 0 (oV Q nX)) (g : ∀ t, Q t → Gd X mX11_link 70 [some (.ref a0), some (.int x1), none] [] (t) nc ns P) : Gd X mX11_link 63 [some (.ref a0), some (.int x1), none] [.int xs2, .int xs1, .ref as0] h nc ns P := by
  refine g_iastore dX11_link_63 B0 i1 ?_
  refine g_aload_n dX11_link_64 rfl ?_
  refine g_bipush (v := 59) dX11_link_65 (by decide) ?_
  refine Gd.z ?_
  exact g_callV (k := 11) [.int 59] dX11_link_67 mfX11_takeSign ⟨by decide, by decide⟩ kw_1363 kw_1365 kw_54 rfl (by decide) (Nat.le_of_ble_eq_true rfl) (by intro x hx; cases hx) (LX11.o (h := sI h as0 ((xs1 : Int32).toNatClampNeg) xs2) F2) (Nat.le_of_ble_eq_true rfl) hN (fun _ _ q => q.elim) (oV_go (G := fun a b => Gd X mX11_link 70 _ a b nc ns P) (fun t q => Gd.wk (g t q) ⟨rfl, ⟨rfl, trivial⟩⟩))
theorem bkX11_link_70 {X : GX} {h : SH} {nc ns : Nat} {P : Out → SH → Prop} {a0 : Nat} {x1 : Int32} (F0 : LX11 (Sk h) (a0)) (i1 : vp_in (x1) 84) (hp : P (.inl (none)) (sI h (a0 + 16) ((x1 : Int32).toNatClampNeg) ((hI h (a0 + 16) ((x1 : Int32).toNatClampNeg)) + 1))) : Gd X mX11_link 70 [some (.ref a0), some (.int x1), none] [] h nc ns P := by
  refine g_aload_n dX11_link_70 rfl ?_
  refine g_getAs (c := 11) (k := 21) (b := a0 + 16) dX11_link_71 (by decide) (by decide) kw_1148 rfl (LX11.o (h := h) F0) (LX11.r_links (h := h) F0) ?_
  refine g_iload_n dX11_link_74 rfl ?_
  refine g_dup2 dX11_link_75 rfl rfl ?_
  refine g_iaload dX11_link_76 (LX11.a_links (h := h) F0) i1 ?_
  refine g_iconst (v := 1) dX11_link_77 (by decide) ?_
  refine g_iadd dX11_link_78 ?_
  refine g_iastore dX11_link_79 (LX11.a_links (h := h) F0) i1 ?_
  exact g_return (st := []) dX11_link_80 rfl hp
theorem bkX11_isItem_0 {X : GX} {h : SH} {nc ns : Nat} {P : Out → SH → Prop} {Q : Int32 → SH → Prop} {a0 : Nat} (F0 : LX11 (Sk h) (a0)) (hN : Cd X mX11_isName [.ref a0] (h) 0 0 (oI Q nX)) (g : ∀ r t, Q r t → Gd X mX11_isItem 4 [some (.ref a0)] [.int r] (t) nc ns P) : Gd X mX11_isItem 0 [some (.ref a0)] [] h nc ns P := by
  refine g_aload_n dX11_isItem_0 rfl ?_
  refine Gd.z ?_
  exact g_callV (k := 11) [] dX11_isItem_1 mfX11_isName ⟨by decide, by decide⟩ kw_1337 kw_1339 kw_48 rfl (by decide) (Nat.le_of_ble_eq_true rfl) (by intro x hx; cases hx) (LX11.o (h := h) F0) (Nat.le_of_ble_eq_true rfl) hN (fun _ _ q => q.elim) (oI_go (G := fun a b => Gd X mX11_isItem 4 _ a b nc ns P) (fun r t q => Gd.wk (g r t q) ⟨rfl, trivial⟩))
theorem bkX11_isItem_4 {X : GX} {h : SH} {nc ns : Nat} {P : Out → SH → Prop} {a0 : Nat} {xs0 : Int32} (kt : ¬ xs0 = 0 → Gd X mX11_isItem 34 [none] [] (h) nc ns P) (kf : xs0 = 0 → Gd X mX11_isItem 7 [some (.ref a0)] [] (h) nc ns P) : Gd X mX11_isItem 4 [some (.ref a0)] [.int xs0] h nc ns P := by
  exact g_if_ne (tgt := 34) dX11_isItem_4 (by decide) (fun q => Gd.wk (kt q) trivial) (fun q => Gd.wk (kf q) ⟨rfl, trivial⟩)
theorem bkX11_isItem_7 {X : GX} {h : SH} {nc ns : Nat} {P : Out → SH → Prop} {Q : Int32 → SH → Prop} {a0 : Nat} (F0 : LX11 (Sk h) (a0)) (hN : Cd X mX11_isSign [.ref a0, .int 61] (h) 0 0 (oI Q nX)) (g : ∀ r t, Q r t → Gd X mX11_isItem 13 [some (.ref a0)] [.int r] (t) nc ns P) : Gd X mX11_isItem 7 [some (.ref a0)] [] h nc ns P := by
  refine g_aload_n dX11_isItem_7 rfl ?_
  refine g_bipush (v := 61) dX11_isItem_8 (by decide) ?_
  refine Gd.z ?_
  exact g_callV (k := 11) [.int 61] dX11_isItem_10 mfX11_isSign ⟨by decide, by decide⟩ kw_1367 kw_1369 kw_55 rfl (by decide) (Nat.le_of_ble_eq_true rfl) (by intro x hx; cases hx) (LX11.o (h := h) F0) (Nat.le_of_ble_eq_true rfl) hN (fun _ _ q => q.elim) (oI_go (G := fun a b => Gd X mX11_isItem 13 _ a b nc ns P) (fun r t q => Gd.wk (g r t q) ⟨rfl, trivial⟩))
theorem bkX11_isItem_13 {X : GX} {h : SH} {nc ns : Nat} {P : Out → SH → Prop} {a0 : Nat} {xs0 : Int32} (kt : ¬ xs0 = 0 → Gd X mX11_isItem 34 [none] [] (h) nc ns P) (kf : xs0 = 0 → Gd X mX11_isItem 16 [some (.ref a0)] [] (h) nc ns P) : Gd X mX11_isItem 13 [some (.ref a0)] [.int xs0] h nc ns P := by
  exact g_if_ne (tgt := 34) dX11_isItem_13 (by decide) (fun q => Gd.wk (kt q) trivial) (fun q => Gd.wk (kf q) ⟨rfl, trivial⟩)
theorem bkX11_isItem_16 {X : GX} {h : SH} {nc ns : Nat} {P : Out → SH → Prop} {Q : Int32 → SH → Prop} {a0 : Nat} (F0 : LX11 (Sk h) (a0)) (hN : Cd X mX11_isWord [.ref a0, .int 9] (h) 0 0 (oI Q nX)) (g : ∀ r t, Q r t → Gd X mX11_isItem 22 [some (.ref a0)] [.int r] (t) nc ns P) : Gd X mX11_isItem 16 [some (.ref a0)] [] h nc ns P := by
  refine g_aload_n dX11_isItem_16 rfl ?_
  refine g_bipush (v := 9) dX11_isItem_17 (by decide) ?_
  refine Gd.z ?_
  exact g_callV (k := 11) [.int 9] dX11_isItem_19 mfX11_isWord ⟨by decide, by decide⟩ kw_1325 kw_1327 kw_45 rfl (by decide) (Nat.le_of_ble_eq_true rfl) (by intro x hx; cases hx) (LX11.o (h := h) F0) (Nat.le_of_ble_eq_true rfl) hN (fun _ _ q => q.elim) (oI_go (G := fun a b => Gd X mX11_isItem 22 _ a b nc ns P) (fun r t q => Gd.wk (g r t q) ⟨rfl, trivial⟩))
theorem bkX11_isItem_22 {X : GX} {h : SH} {nc ns : Nat} {P : Out → SH → Prop} {a0 : Nat} {xs0 : Int32} (kt : ¬ xs0 = 0 → Gd X mX11_isItem 34 [none] [] (h) nc ns P) (kf : xs0 = 0 → Gd X mX11_isItem 25 [some (.ref a0)] [] (h) nc ns P) : Gd X mX11_isItem 22 [some (.ref a0)] [.int xs0] h nc ns P := by
  exact g_if_ne (tgt := 34) dX11_isItem_22 (by decide) (fun q => Gd.wk (kt q) trivial) (fun q => Gd.wk (kf q) ⟨rfl, trivial⟩)
theorem bkX11_isItem_25 {X : GX} {h : SH} {nc ns : Nat} {P : Out → SH → Prop} {Q : Int32 → SH → Prop} {a0 : Nat} (F0 : LX11 (Sk h) (a0)) (hN : Cd X mX11_isWord [.ref a0, .int 10] (h) 0 0 (oI Q nX)) (g : ∀ r t, Q r t → Gd X mX11_isItem 31 [none] [.int r] (t) nc ns P) : Gd X mX11_isItem 25 [some (.ref a0)] [] h nc ns P := by
  refine g_aload_n dX11_isItem_25 rfl ?_
  refine g_bipush (v := 10) dX11_isItem_26 (by decide) ?_
  refine Gd.z ?_
  exact g_callV (k := 11) [.int 10] dX11_isItem_28 mfX11_isWord ⟨by decide, by decide⟩ kw_1325 kw_1327 kw_45 rfl (by decide) (Nat.le_of_ble_eq_true rfl) (by intro x hx; cases hx) (LX11.o (h := h) F0) (Nat.le_of_ble_eq_true rfl) hN (fun _ _ q => q.elim) (oI_go (G := fun a b => Gd X mX11_isItem 31 _ a b nc ns P) (fun r t q => Gd.wk (g r t q) trivial))
theorem bkX11_isItem_31 {X : GX} {h : SH} {nc ns : Nat} {P : Out → SH → Prop} {xs0 : Int32} (kt : xs0 = 0 → Gd X mX11_isItem 38 [none] [] (h) nc ns P) (kf : ¬ xs0 = 0 → Gd X mX11_isItem 34 [none] [] (h) nc ns P) : Gd X mX11_isItem 31 [none] [.int xs0] h nc ns P := by
  exact g_if_eq (tgt := 38) dX11_isItem_31 (by decide) (fun q => Gd.wk (kt q) trivial) (fun q => Gd.wk (kf q) trivial)
theorem bkX11_isItem_34 {X : GX} {h : SH} {nc ns : Nat} {P : Out → SH → Prop} (g : Gd X mX11_isItem 39 [none] [.int 1] (h) nc ns P) : Gd X mX11_isItem 34 [none] [] h nc ns P := by
  refine g_iconst (v := 1) dX11_isItem_34 (by decide) ?_
  refine g_goto (tgt := 39) dX11_isItem_35 (by decide) ?_
  exact Gd.wk g trivial
theorem bkX11_isItem_38 {X : GX} {h : SH} {nc ns : Nat} {P : Out → SH → Prop} (g : Gd X mX11_isItem 39 [none] [.int 0] (h) nc ns P) : Gd X mX11_isItem 38 [none] [] h nc ns P := by
  refine g_iconst (v := 0) dX11_isItem_38 (by decide) ?_
  exact Gd.wk g trivial
theorem bkX11_isItem_39 {X : GX} {h : SH} {nc ns : Nat} {P : Out → SH → Prop} {xs0 : Int32} (w0 : xs0 = 0 ∨ xs0 = 1) (hp : P (.inl (some (.int (xs0)))) (h)) : Gd X mX11_isItem 39 [none] [.int xs0] h nc ns P := by
  exact g_ireturn (st := []) dX11_isItem_39 rfl (bl_n w0) hp
theorem bkX11_item_0 {X : GX} {h : SH} {nc ns : Nat} {P : Out → SH → Prop} {a0 : Nat} {x1 : Int32} (F0 : LX11 (Sk h) (a0)) (i1 : vp_in (x1) 84) (kt : ¬ (hI h (a0 + 19) ((x1 : Int32).toNatClampNeg)) = 20 → Gd X mX11_item 17 [some (.ref a0), some (.int x1), none] [] (h) nc ns P) (kf : (hI h (a0 + 19) ((x1 : Int32).toNatClampNeg)) = 20 → Gd X mX11_item 11 [some (.ref a0), none, none] [] (h) nc ns P) : Gd X mX11_item 0 [some (.ref a0), some (.int x1), none] [] h nc ns P := by
  refine g_aload_n dX11_item_0 rfl ?_
  refine g_getAs (c := 11) (k := 24) (b := a0 + 19) dX11_item_1 (by decide) (by decide) kw_1151 rfl (LX11.o (h := h) F0) (LX11.r_items (h := h) F0) ?_
  refine g_iload_n dX11_item_4 rfl ?_
  refine g_iaload dX11_item_5 (LX11.a_items (h := h) F0) i1 ?_
  refine g_bipush (v := 20) dX11_item_6 (by decide) ?_
  exact g_icmp_ne (tgt := 17) dX11_item_8 (by decide) (fun q => Gd.wk (kt q) ⟨rfl, ⟨rfl, trivial⟩⟩) (fun q => Gd.wk (kf q) ⟨rfl, trivial⟩)
theorem bkX11_item_11 {X : GX} {h : SH} {nc ns : Nat} {P : Out → SH → Prop} {Q : SH → Prop} {a0 : Nat} (F0 : LX11 (Sk h) (a0)) (hN : Cd X mX11_wrong [.ref a0, .int 5] (h) 0 0 (oV Q nX)) (g : ∀ t, Q t → Gd X mX11_item 16 [none, none, none] [] (t) nc ns P) : Gd X mX11_item 11 [some (.ref a0), none, none] [] h nc ns P := by
  refine g_aload_n dX11_item_11 rfl ?_
  refine g_iconst (v := 5) dX11_item_12 (by decide) ?_
  refine Gd.z ?_
  exact g_callV (k := 11) [.int 5] dX11_item_13 mfX11_wrong ⟨by decide, by decide⟩ kw_1333 kw_1335 kw_47 rfl (by decide) (Nat.le_of_ble_eq_true rfl) (by intro x hx; cases hx) (LX11.o (h := h) F0) (Nat.le_of_ble_eq_true rfl) hN (fun _ _ q => q.elim) (oV_go (G := fun a b => Gd X mX11_item 16 _ a b nc ns P) (fun t q => Gd.wk (g t q) trivial))
theorem bkX11_item_16 {X : GX} {h : SH} {nc ns : Nat} {P : Out → SH → Prop} (hp : P (.inl (none)) (h)) : Gd X mX11_item 16 [none, none, none] [] h nc ns P := by
  exact g_return (st := []) dX11_item_16 rfl hp
theorem bkX11_item_17 {X : GX} {h : SH} {nc ns : Nat} {P : Out → SH → Prop} {Q : Int32 → SH → Prop} {a0 : Nat} {x1 : Int32} (F0 : LX11 (Sk h) (a0)) (i1 : vp_in (x1) 84) (i2 : vp_in (hI h a0 7) 2402) (i3 : vp_in ((20 * x1) + (hI h (a0 + 19) ((x1 : Int32).toNatClampNeg))) 1680) (hN : Cd X mX11_isName [.ref a0] (sJ h (a0 + 22) (((20 * x1) + (hI h (a0 + 19) ((x1 : Int32).toNatClampNeg)) : Int32).toNatClampNeg) (hJ h (a0 + 4) ((hI h a0 7 : Int32).toNatClampNeg))) 0 0 (oI Q nX)) (g : ∀ r t, Q r t → Gd X mX11_item 53 [some (.ref a0), some (.int x1), some (.int ((20 * x1) + (hI h (a0 + 19) ((x1 : Int32).toNatClampNeg))))] [.int r, .int ((20 * x1) + (hI h (a0 + 19) ((x1 : Int32).toNatClampNeg))), .ref (a0 + 20)] (t) nc ns P) : Gd X mX11_item 17 [some (.ref a0), some (.int x1), none] [] h nc ns P := by
  refine g_bipush (v := 20) dX11_item_17 (by decide) ?_
  refine g_iload_n dX11_item_19 rfl ?_
  refine g_imul dX11_item_20 ?_
  refine g_aload_n dX11_item_21 rfl ?_
  refine g_getAs (c := 11) (k := 24) (b := a0 + 19) dX11_item_22 (by decide) (by decide) kw_1151 rfl (LX11.o (h := h) F0) (LX11.r_items (h := h) F0) ?_
  refine g_iload_n dX11_item_25 rfl ?_
  refine g_iaload dX11_item_26 (LX11.a_items (h := h) F0) i1 ?_
  refine g_iadd dX11_item_27 ?_
  refine g_istore_n (L' := [some (.ref a0), some (.int x1), some (.int ((20 * x1) + (hI h (a0 + 19) ((x1 : Int32).toNatClampNeg))))]) dX11_item_28 (by decide) rfl ?_
  refine g_aload_n dX11_item_29 rfl ?_
  refine g_getAs (c := 11) (k := 27) (b := a0 + 22) dX11_item_30 (by decide) (by decide) kw_1154 rfl (LX11.o (h := h) F0) (LX11.r_itemWord (h := h) F0) ?_
  refine g_iload_n dX11_item_33 rfl ?_
  refine g_aload_n dX11_item_34 rfl ?_
  refine g_getAs (c := 11) (k := 6) (b := a0 + 4) dX11_item_35 (by decide) (by decide) kw_1133 rfl (LX11.o (h := h) F0) (LX11.r_value (h := h) F0) ?_
  refine g_aload_n dX11_item_38 rfl ?_
  refine g_getI (c := 11) (k := 7) dX11_item_39 (by decide) (by decide) kw_1134 rfl (LX11.o (h := h) F0) ?_
  refine g_laload dX11_item_42 (LX11.a_value (h := h) F0) i2 ?_
  refine g_lastore dX11_item_43 (LX11.a_itemWord (h := h) F0) i3 ?_
  refine g_aload_n dX11_item_44 rfl ?_
  refine g_getAs (c := 11) (k := 25) (b := a0 + 20) dX11_item_45 (by decide) (by decide) kw_1152 rfl (LX11.o (h := sJ h (a0 + 22) (((20 * x1) + (hI h (a0 + 19) ((x1 : Int32).toNatClampNeg)) : Int32).toNatClampNeg) (hJ h (a0 + 4) ((hI h a0 7 : Int32).toNatClampNeg))) F0) (LX11.r_itemKind (h := sJ h (a0 + 22) (((20 * x1) + (hI h (a0 + 19) ((x1 : Int32).toNatClampNeg)) : Int32).toNatClampNeg) (hJ h (a0 + 4) ((hI h a0 7 : Int32).toNatClampNeg))) F0) ?_
  refine g_iload_n dX11_item_48 rfl ?_
  refine g_aload_n dX11_item_49 rfl ?_
  refine Gd.z ?_
  exact g_callV (k := 11) [] dX11_item_50 mfX11_isName ⟨by decide, by decide⟩ kw_1337 kw_1339 kw_48 rfl (by decide) (Nat.le_of_ble_eq_true rfl) (by intro x hx; cases hx) (LX11.o (h := sJ h (a0 + 22) (((20 * x1) + (hI h (a0 + 19) ((x1 : Int32).toNatClampNeg)) : Int32).toNatClampNeg) (hJ h (a0 + 4) ((hI h a0 7 : Int32).toNatClampNeg))) F0) (Nat.le_of_ble_eq_true rfl) hN (fun _ _ q => q.elim) (oI_go (G := fun a b => Gd X mX11_item 53 _ a b nc ns P) (fun r t q => Gd.wk (g r t q) ⟨rfl, ⟨rfl, ⟨rfl, trivial⟩⟩⟩))
theorem bkX11_item_53 {X : GX} {h : SH} {nc ns : Nat} {P : Out → SH → Prop} {a0 : Nat} {x1 : Int32} {x2 : Int32} {as0 : Nat} {xs1 : Int32} {xs2 : Int32} (kt : xs2 = 0 → Gd X mX11_item 60 [some (.ref a0), some (.int x1), some (.int x2)] [.int xs1, .ref as0] (h) nc ns P) (kf : ¬ xs2 = 0 → Gd X mX11_item 56 [some (.ref a0), some (.int x1), some (.int x2)] [.int xs1, .ref as0] (h) nc ns P) : Gd X mX11_item 53 [some (.ref a0), some (.int x1), some (.int x2)] [.int xs2, .int xs1, .ref as0] h nc ns P := by
  exact g_if_eq (tgt := 60) dX11_item_53 (by decide) (fun q => Gd.wk (kt q) ⟨rfl, ⟨rfl, ⟨rfl, trivial⟩⟩⟩) (fun q => Gd.wk (kf q) ⟨rfl, ⟨rfl, ⟨rfl, trivial⟩⟩⟩)
theorem bkX11_item_56 {X : GX} {h : SH} {nc ns : Nat} {P : Out → SH → Prop} {a0 : Nat} {x1 : Int32} {x2 : Int32} {as0 : Nat} {xs1 : Int32} (g : Gd X mX11_item 87 [some (.ref a0), some (.int x1), some (.int x2)] [.int 0, .int xs1, .ref as0] (h) nc ns P) : Gd X mX11_item 56 [some (.ref a0), some (.int x1), some (.int x2)] [.int xs1, .ref as0] h nc ns P := by
  refine g_iconst (v := 0) dX11_item_56 (by decide) ?_
  refine g_goto (tgt := 87) dX11_item_57 (by decide) ?_
  exact Gd.wk g ⟨rfl, ⟨rfl, ⟨rfl, trivial⟩⟩⟩
theorem bkX11_item_60 {X : GX} {h : SH} {nc ns : Nat} {P : Out → SH → Prop} {Q : Int32 → SH → Prop} {a0 : Nat} {x1 : Int32} {x2 : Int32} {as0 : Nat} {xs1 : Int32} (F0 : LX11 (Sk h) (a0)) (hN : Cd X mX11_isSign [.ref a0, .int 61] (h) 0 0 (oI Q nX)) (g : ∀ r t, Q r t → Gd X mX11_item 66 [some (.ref a0), some (.int x1), some (.int x2)] [.int r, .int xs1, .ref as0] (t) nc ns P) : Gd X mX11_item 60 [some (.ref a0), some (.int x1), some (.int x2)] [.int xs1, .ref as0] h nc ns P := by
  refine g_aload_n dX11_item_60 rfl ?_
  refine g_bipush (v := 61) dX11_item_61 (by decide) ?_
  refine Gd.z ?_
  exact g_callV (k := 11) [.int 61] dX11_item_63 mfX11_isSign ⟨by decide, by decide⟩ kw_1367 kw_1369 kw_55 rfl (by decide) (Nat.le_of_ble_eq_true rfl) (by intro x hx; cases hx) (LX11.o (h := h) F0) (Nat.le_of_ble_eq_true rfl) hN (fun _ _ q => q.elim) (oI_go (G := fun a b => Gd X mX11_item 66 _ a b nc ns P) (fun r t q => Gd.wk (g r t q) ⟨rfl, ⟨rfl, ⟨rfl, trivial⟩⟩⟩))
theorem bkX11_item_66 {X : GX} {h : SH} {nc ns : Nat} {P : Out → SH → Prop} {a0 : Nat} {x1 : Int32} {x2 : Int32} {as0 : Nat} {xs1 : Int32} {xs2 : Int32} (kt : xs2 = 0 → Gd X mX11_item 73 [some (.ref a0), some (.int x1), some (.int x2)] [.int xs1, .ref as0] (h) nc ns P) (kf : ¬ xs2 = 0 → Gd X mX11_item 69 [some (.ref a0), some (.int x1), some (.int x2)] [.int xs1, .ref as0] (h) nc ns P) : Gd X mX11_item 66 [some (.ref a0), some (.int x1), some (.int x2)] [.int xs2, .int xs1, .ref as0] h nc ns P := by
  exact g_if_eq (tgt := 73) dX11_item_66 (by decide) (fun q => Gd.wk (kt q) ⟨rfl, ⟨rfl, ⟨rfl, trivial⟩⟩⟩) (fun q => Gd.wk (kf q) ⟨rfl, ⟨rfl, ⟨rfl, trivial⟩⟩⟩)
theorem bkX11_item_69 {X : GX} {h : SH} {nc ns : Nat} {P : Out → SH → Prop} {a0 : Nat} {x1 : Int32} {x2 : Int32} {as0 : Nat} {xs1 : Int32} (g : Gd X mX11_item 87 [some (.ref a0), some (.int x1), some (.int x2)] [.int 1, .int xs1, .ref as0] (h) nc ns P) : Gd X mX11_item 69 [some (.ref a0), some (.int x1), some (.int x2)] [.int xs1, .ref as0] h nc ns P := by
  refine g_iconst (v := 1) dX11_item_69 (by decide) ?_
  refine g_goto (tgt := 87) dX11_item_70 (by decide) ?_
  exact Gd.wk g ⟨rfl, ⟨rfl, ⟨rfl, trivial⟩⟩⟩
theorem bkX11_item_73 {X : GX} {h : SH} {nc ns : Nat} {P : Out → SH → Prop} {Q : Int32 → SH → Prop} {a0 : Nat} {x1 : Int32} {x2 : Int32} {as0 : Nat} {xs1 : Int32} (F0 : LX11 (Sk h) (a0)) (hN : Cd X mX11_isWord [.ref a0, .int 9] (h) 0 0 (oI Q nX)) (g : ∀ r t, Q r t → Gd X mX11_item 79 [some (.ref a0), some (.int x1), some (.int x2)] [.int r, .int xs1, .ref as0] (t) nc ns P) : Gd X mX11_item 73 [some (.ref a0), some (.int x1), some (.int x2)] [.int xs1, .ref as0] h nc ns P := by
  refine g_aload_n dX11_item_73 rfl ?_
  refine g_bipush (v := 9) dX11_item_74 (by decide) ?_
  refine Gd.z ?_
  exact g_callV (k := 11) [.int 9] dX11_item_76 mfX11_isWord ⟨by decide, by decide⟩ kw_1325 kw_1327 kw_45 rfl (by decide) (Nat.le_of_ble_eq_true rfl) (by intro x hx; cases hx) (LX11.o (h := h) F0) (Nat.le_of_ble_eq_true rfl) hN (fun _ _ q => q.elim) (oI_go (G := fun a b => Gd X mX11_item 79 _ a b nc ns P) (fun r t q => Gd.wk (g r t q) ⟨rfl, ⟨rfl, ⟨rfl, trivial⟩⟩⟩))
theorem bkX11_item_79 {X : GX} {h : SH} {nc ns : Nat} {P : Out → SH → Prop} {a0 : Nat} {x1 : Int32} {x2 : Int32} {as0 : Nat} {xs1 : Int32} {xs2 : Int32} (kt : xs2 = 0 → Gd X mX11_item 86 [some (.ref a0), some (.int x1), some (.int x2)] [.int xs1, .ref as0] (h) nc ns P) (kf : ¬ xs2 = 0 → Gd X mX11_item 82 [some (.ref a0), some (.int x1), some (.int x2)] [.int xs1, .ref as0] (h) nc ns P) : Gd X mX11_item 79 [some (.ref a0), some (.int x1), some (.int x2)] [.int xs2, .int xs1, .ref as0] h nc ns P := by
  exact g_if_eq (tgt := 86) dX11_item_79 (by decide) (fun q => Gd.wk (kt q) ⟨rfl, ⟨rfl, ⟨rfl, trivial⟩⟩⟩) (fun q => Gd.wk (kf q) ⟨rfl, ⟨rfl, ⟨rfl, trivial⟩⟩⟩)
theorem bkX11_item_82 {X : GX} {h : SH} {nc ns : Nat} {P : Out → SH → Prop} {a0 : Nat} {x1 : Int32} {x2 : Int32} {as0 : Nat} {xs1 : Int32} (g : Gd X mX11_item 87 [some (.ref a0), some (.int x1), some (.int x2)] [.int 2, .int xs1, .ref as0] (h) nc ns P) : Gd X mX11_item 82 [some (.ref a0), some (.int x1), some (.int x2)] [.int xs1, .ref as0] h nc ns P := by
  refine g_iconst (v := 2) dX11_item_82 (by decide) ?_
  refine g_goto (tgt := 87) dX11_item_83 (by decide) ?_
  exact Gd.wk g ⟨rfl, ⟨rfl, ⟨rfl, trivial⟩⟩⟩
theorem bkX11_item_86 {X : GX} {h : SH} {nc ns : Nat} {P : Out → SH → Prop} {a0 : Nat} {x1 : Int32} {x2 : Int32} {as0 : Nat} {xs1 : Int32} (g : Gd X mX11_item 87 [some (.ref a0), some (.int x1), some (.int x2)] [.int 3, .int xs1, .ref as0] (h) nc ns P) : Gd X mX11_item 86 [some (.ref a0), some (.int x1), some (.int x2)] [.int xs1, .ref as0] h nc ns P := by
  refine g_iconst (v := 3) dX11_item_86 (by decide) ?_
  exact Gd.wk g ⟨rfl, ⟨rfl, ⟨rfl, trivial⟩⟩⟩
theorem bkX11_item_87 {X : GX} {h : SH} {nc ns : Nat} {P : Out → SH → Prop} {a0 : Nat} {x1 : Int32} {x2 : Int32} {as0 : Nat} {xs1 : Int32} {xs2 : Int32} {n6 : Nat} (B0 : Ar h (as0) 20 n6) (i1 : vp_in (xs1) n6) (F2 : LX11 (Sk h) (a0)) (i3 : vp_in (x2) 1680) (g : Gd X mX11_item 108 [some (.ref a0), some (.int x1), some (.int x2)] [] (sI (sI (sI h as0 ((xs1 : Int32).toNatClampNeg) xs2) a0 7 ((hI (sI h as0 ((xs1 : Int32).toNatClampNeg) xs2) a0 7) + 1)) (a0 + 21) ((x2 : Int32).toNatClampNeg) (hI (sI (sI h as0 ((xs1 : Int32).toNatClampNeg) xs2) a0 7 ((hI (sI h as0 ((xs1 : Int32).toNatClampNeg) xs2) a0 7) + 1)) a0 30)) nc ns P) : Gd X mX11_item 87 [some (.ref a0), some (.int x1), some (.int x2)] [.int xs2, .int xs1, .ref as0] h nc ns P := by
  refine g_iastore dX11_item_87 B0 i1 ?_
  refine g_aload_n dX11_item_88 rfl ?_
  refine g_dup dX11_item_89 rfl ?_
  refine g_getI (c := 11) (k := 7) dX11_item_90 (by decide) (by decide) kw_1134 rfl (LX11.o (h := sI h as0 ((xs1 : Int32).toNatClampNeg) xs2) F2) ?_
  refine g_iconst (v := 1) dX11_item_93 (by decide) ?_
  refine g_iadd dX11_item_94 ?_
  refine g_put (c := 11) (k := 7) (h1 := sI (sI h as0 ((xs1 : Int32).toNatClampNeg) xs2) a0 7 ((hI (sI h as0 ((xs1 : Int32).toNatClampNeg) xs2) a0 7) + 1)) dX11_item_95 (by decide) (by decide) kw_1134 rfl (LX11.o (h := sI h as0 ((xs1 : Int32).toNatClampNeg) xs2) F2) rfl rfl (Put.I rfl) ?_
  refine g_aload_n dX11_item_98 rfl ?_
  refine g_getAs (c := 11) (k := 26) (b := a0 + 21) dX11_item_99 (by decide) (by decide) kw_1153 rfl (LX11.o (h := sI (sI h as0 ((xs1 : Int32).toNatClampNeg) xs2) a0 7 ((hI (sI h as0 ((xs1 : Int32).toNatClampNeg) xs2) a0 7) + 1)) F2) (LX11.r_itemAt (h := sI (sI h as0 ((xs1 : Int32).toNatClampNeg) xs2) a0 7 ((hI (sI h as0 ((xs1 : Int32).toNatClampNeg) xs2) a0 7) + 1)) F2) ?_
  refine g_iload_n dX11_item_102 rfl ?_
  refine g_aload_n dX11_item_103 rfl ?_
  refine g_getI (c := 11) (k := 30) dX11_item_104 (by decide) (by decide) kw_1157 rfl (LX11.o (h := sI (sI h as0 ((xs1 : Int32).toNatClampNeg) xs2) a0 7 ((hI (sI h as0 ((xs1 : Int32).toNatClampNeg) xs2) a0 7) + 1)) F2) ?_
  refine g_iastore dX11_item_107 (LX11.a_itemAt (h := sI (sI h as0 ((xs1 : Int32).toNatClampNeg) xs2) a0 7 ((hI (sI h as0 ((xs1 : Int32).toNatClampNeg) xs2) a0 7) + 1)) F2) i3 ?_
  exact Gd.wk g ⟨rfl, ⟨rfl, ⟨rfl, trivial⟩⟩⟩
theorem bkX11_item_118 {X : GX} {h : SH} {nc ns : Nat} {P : Out → SH → Prop} {Q : Int32 → SH → Prop} {a0 : Nat} {x1 : Int32} {x2 : Int32} (F0 : LX11 (Sk h) (a0)) (hN : Cd X mX11_takeClause [.ref a0] (h) 0 0 (oI Q nX)) (g : ∀ r t, Q r t → Gd X mX11_item 127 [some (.ref a0), some (.int x1), none] [.int r, .int x2, .ref (a0 + 21)] (t) nc ns P) : Gd X mX11_item 118 [some (.ref a0), some (.int x1), some (.int x2)] [] h nc ns P := by
  refine g_aload_n dX11_item_118 rfl ?_
  refine g_getAs (c := 11) (k := 26) (b := a0 + 21) dX11_item_119 (by decide) (by decide) kw_1153 rfl (LX11.o (h := h) F0) (LX11.r_itemAt (h := h) F0) ?_
  refine g_iload_n dX11_item_122 rfl ?_
  refine g_aload_n dX11_item_123 rfl ?_
  refine Gd.z ?_
  exact g_callV (k := 11) [] dX11_item_124 mfX11_takeClause ⟨by decide, by decide⟩ kw_1407 kw_1409 kw_65 rfl (by decide) (Nat.le_of_ble_eq_true rfl) (by intro x hx; cases hx) (LX11.o (h := h) F0) (Nat.le_of_ble_eq_true rfl) hN (fun _ _ q => q.elim) (oI_go (G := fun a b => Gd X mX11_item 127 _ a b nc ns P) (fun r t q => Gd.wk (g r t q) ⟨rfl, ⟨rfl, trivial⟩⟩))
theorem bkX11_item_127 {X : GX} {h : SH} {nc ns : Nat} {P : Out → SH → Prop} {a0 : Nat} {x1 : Int32} {as0 : Nat} {xs1 : Int32} {xs2 : Int32} {n5 : Nat} (B0 : Ar h (as0) 20 n5) (i1 : vp_in (xs1) n5) (g : Gd X mX11_item 144 [some (.ref a0), some (.int x1), none] [] (sI h as0 ((xs1 : Int32).toNatClampNeg) xs2) nc ns P) : Gd X mX11_item 127 [some (.ref a0), some (.int x1), none] [.int xs2, .int xs1, .ref as0] h nc ns P := by
  refine g_iastore dX11_item_127 B0 i1 ?_
  refine g_goto (tgt := 144) dX11_item_128 (by decide) ?_
  exact Gd.wk g ⟨rfl, ⟨rfl, trivial⟩⟩
theorem bkX11_item_131 {X : GX} {h : SH} {nc ns : Nat} {P : Out → SH → Prop} {a0 : Nat} {x1 : Int32} {x2 : Int32} (F0 : LX11 (Sk h) (a0)) (i1 : vp_in (x2) 1680) (kt : (hI h (a0 + 20) ((x2 : Int32).toNatClampNeg)) ≤ 0 → Gd X mX11_item 144 [some (.ref a0), some (.int x1), none] [] (h) nc ns P) (kf : ¬ (hI h (a0 + 20) ((x2 : Int32).toNatClampNeg)) ≤ 0 → Gd X mX11_item 140 [some (.ref a0), some (.int x1), none] [] (h) nc ns P) : Gd X mX11_item 131 [some (.ref a0), some (.int x1), some (.int x2)] [] h nc ns P := by
  refine g_aload_n dX11_item_131 rfl ?_
  refine g_getAs (c := 11) (k := 25) (b := a0 + 20) dX11_item_132 (by decide) (by decide) kw_1152 rfl (LX11.o (h := h) F0) (LX11.r_itemKind (h := h) F0) ?_
  refine g_iload_n dX11_item_135 rfl ?_
  refine g_iaload dX11_item_136 (LX11.a_itemKind (h := h) F0) i1 ?_
  exact g_if_le (tgt := 144) dX11_item_137 (by decide) (fun q => Gd.wk (kt q) ⟨rfl, ⟨rfl, trivial⟩⟩) (fun q => Gd.wk (kf q) ⟨rfl, ⟨rfl, trivial⟩⟩)
theorem bkX11_item_140 {X : GX} {h : SH} {nc ns : Nat} {P : Out → SH → Prop} {Q : SH → Prop} {a0 : Nat} {x1 : Int32} (F0 : LX11 (Sk h) (a0)) (hN : Cd X mX11_expression [.ref a0] (h) 0 0 (oV Q nX)) (g : ∀ t, Q t → Gd X mX11_item 144 [some (.ref a0), some (.int x1), none] [] (t) nc ns P) : Gd X mX11_item 140 [some (.ref a0), some (.int x1), none] [] h nc ns P := by
  refine g_aload_n dX11_item_140 rfl ?_
  refine Gd.z ?_
  exact g_callV (k := 11) [] dX11_item_141 mfX11_expression ⟨by decide, by decide⟩ kw_1379 kw_1381 kw_58 rfl (by decide) (Nat.le_of_ble_eq_true rfl) (by intro x hx; cases hx) (LX11.o (h := h) F0) (Nat.le_of_ble_eq_true rfl) hN (fun _ _ q => q.elim) (oV_go (G := fun a b => Gd X mX11_item 144 _ a b nc ns P) (fun t q => Gd.wk (g t q) ⟨rfl, ⟨rfl, trivial⟩⟩))
theorem bkX11_item_144 {X : GX} {h : SH} {nc ns : Nat} {P : Out → SH → Prop} {a0 : Nat} {x1 : Int32} (F0 : LX11 (Sk h) (a0)) (i1 : vp_in (x1) 84) (hp : P (.inl (none)) (sI h (a0 + 19) ((x1 : Int32).toNatClampNeg) ((hI h (a0 + 19) ((x1 : Int32).toNatClampNeg)) + 1))) : Gd X mX11_item 144 [some (.ref a0), some (.int x1), none] [] h nc ns P := by
  refine g_aload_n dX11_item_144 rfl ?_
  refine g_getAs (c := 11) (k := 24) (b := a0 + 19) dX11_item_145 (by decide) (by decide) kw_1151 rfl (LX11.o (h := h) F0) (LX11.r_items (h := h) F0) ?_
  refine g_iload_n dX11_item_148 rfl ?_
  refine g_dup2 dX11_item_149 rfl rfl ?_
  refine g_iaload dX11_item_150 (LX11.a_items (h := h) F0) i1 ?_
  refine g_iconst (v := 1) dX11_item_151 (by decide) ?_
  refine g_iadd dX11_item_152 ?_
  refine g_iastore dX11_item_153 (LX11.a_items (h := h) F0) i1 ?_
  exact g_return (st := []) dX11_item_154 rfl hp
theorem bkX11_item_108 {X : GX} {h : SH} {nc ns : Nat} {P : Out → SH → Prop} {a0 : Nat} {x1 : Int32} {x2 : Int32} (F0 : LX11 (Sk h) (a0)) (i1 : vp_in (x2) 1680) (kt : ¬ (hI h (a0 + 20) ((x2 : Int32).toNatClampNeg)) = 2 → Gd X mX11_item 131 [some (.ref a0), some (.int x1), some (.int x2)] [] (h) nc ns P) (kf : (hI h (a0 + 20) ((x2 : Int32).toNatClampNeg)) = 2 → Gd X mX11_item 118 [some (.ref a0), some (.int x1), some (.int x2)] [] (h) nc ns P) : Gd X mX11_item 108 [some (.ref a0), some (.int x1), some (.int x2)] [] h nc ns P := by
  refine g_aload_n dX11_item_108 rfl ?_
  refine g_getAs (c := 11) (k := 25) (b := a0 + 20) dX11_item_109 (by decide) (by decide) kw_1152 rfl (LX11.o (h := h) F0) (LX11.r_itemKind (h := h) F0) ?_
  refine g_iload_n dX11_item_112 rfl ?_
  refine g_iaload dX11_item_113 (LX11.a_itemKind (h := h) F0) i1 ?_
  refine g_iconst (v := 2) dX11_item_114 (by decide) ?_
  exact g_icmp_ne (tgt := 131) dX11_item_115 (by decide) (fun q => Gd.wk (kt q) ⟨rfl, ⟨rfl, ⟨rfl, trivial⟩⟩⟩) (fun q => Gd.wk (kf q) ⟨rfl, ⟨rfl, ⟨rfl, trivial⟩⟩⟩)
theorem bkX11_expression_0 {X : GX} {h : SH} {nc ns : Nat} {P : Out → SH → Prop} {Q : SH → Prop} {a0 : Nat} (F0 : LX11 (Sk h) (a0)) (hN : Cd X mX11_opens [.ref a0] (sI h a0 31 0) 0 0 (oV Q nX)) (g : ∀ t, Q t → Gd X mX11_expression 9 [some (.ref a0), none] [] (t) nc ns P) : Gd X mX11_expression 0 [some (.ref a0), none] [] h nc ns P := by
  refine g_aload_n dX11_expression_0 rfl ?_
  refine g_iconst (v := 0) dX11_expression_1 (by decide) ?_
  refine g_put (c := 11) (k := 31) (h1 := sI h a0 31 0) dX11_expression_2 (by decide) (by decide) kw_1158 rfl (LX11.o (h := h) F0) rfl rfl (Put.I rfl) ?_
  refine g_aload_n dX11_expression_5 rfl ?_
  refine Gd.z ?_
  exact g_callV (k := 11) [] dX11_expression_6 mfX11_opens ⟨by decide, by decide⟩ kw_1383 kw_1385 kw_59 rfl (by decide) (Nat.le_of_ble_eq_true rfl) (by intro x hx; cases hx) (LX11.o (h := sI h a0 31 0) F0) (Nat.le_of_ble_eq_true rfl) hN (fun _ _ q => q.elim) (oV_go (G := fun a b => Gd X mX11_expression 9 _ a b nc ns P) (fun t q => Gd.wk (g t q) ⟨rfl, trivial⟩))
theorem bkX11_expression_9 {X : GX} {h : SH} {nc ns : Nat} {P : Out → SH → Prop} {a0 : Nat} (g : Gd X mX11_expression 11 [some (.ref a0), some (.int 1)] [] (h) nc ns P) : Gd X mX11_expression 9 [some (.ref a0), none] [] h nc ns P := by
  refine g_iconst (v := 1) dX11_expression_9 (by decide) ?_
  refine g_istore_n (L' := [some (.ref a0), some (.int 1)]) dX11_expression_10 (by decide) rfl ?_
  exact Gd.wk g ⟨rfl, ⟨rfl, trivial⟩⟩
theorem bkX11_expression_11 {X : GX} {h : SH} {nc ns : Nat} {P : Out → SH → Prop} {a0 : Nat} {x1 : Int32} (kt : x1 = 0 → Gd X mX11_expression 45 [some (.ref a0), none] [] (h) nc ns P) (kf : ¬ x1 = 0 → Gd X mX11_expression 15 [some (.ref a0), none] [] (h) nc ns P) : Gd X mX11_expression 11 [some (.ref a0), some (.int x1)] [] h nc ns P := by
  refine g_iload_n dX11_expression_11 rfl ?_
  exact g_if_eq (tgt := 45) dX11_expression_12 (by decide) (fun q => Gd.wk (kt q) ⟨rfl, trivial⟩) (fun q => Gd.wk (kf q) ⟨rfl, trivial⟩)
theorem bkX11_expression_15 {X : GX} {h : SH} {nc ns : Nat} {P : Out → SH → Prop} {a0 : Nat} (F0 : LX11 (Sk h) (a0)) (kt : ¬ hI h a0 8 = 0 → Gd X mX11_expression 45 [some (.ref a0), none] [] (h) nc ns P) (kf : hI h a0 8 = 0 → Gd X mX11_expression 22 [some (.ref a0), none] [] (h) nc ns P) : Gd X mX11_expression 15 [some (.ref a0), none] [] h nc ns P := by
  refine g_aload_n dX11_expression_15 rfl ?_
  refine g_getI (c := 11) (k := 8) dX11_expression_16 (by decide) (by decide) kw_1135 rfl (LX11.o (h := h) F0) ?_
  exact g_if_ne (tgt := 45) dX11_expression_19 (by decide) (fun q => Gd.wk (kt q) ⟨rfl, trivial⟩) (fun q => Gd.wk (kf q) ⟨rfl, trivial⟩)
theorem bkX11_expression_22 {X : GX} {h : SH} {nc ns : Nat} {P : Out → SH → Prop} {Q : Int32 → SH → Prop} {a0 : Nat} (F0 : LX11 (Sk h) (a0)) (hN : Cd X mX11_part [.ref a0] (h) 0 0 (oI Q nX)) (g : ∀ r t, Q r t → Gd X mX11_expression 26 [some (.ref a0), none] [.int r] (t) nc ns P) : Gd X mX11_expression 22 [some (.ref a0), none] [] h nc ns P := by
  refine g_aload_n dX11_expression_22 rfl ?_
  refine Gd.z ?_
  exact g_callV (k := 11) [] dX11_expression_23 mfX11_part ⟨by decide, by decide⟩ kw_1387 kw_1389 kw_60 rfl (by decide) (Nat.le_of_ble_eq_true rfl) (by intro x hx; cases hx) (LX11.o (h := h) F0) (Nat.le_of_ble_eq_true rfl) hN (fun _ _ q => q.elim) (oI_go (G := fun a b => Gd X mX11_expression 26 _ a b nc ns P) (fun r t q => Gd.wk (g r t q) ⟨rfl, trivial⟩))
theorem bkX11_expression_26 {X : GX} {h : SH} {nc ns : Nat} {P : Out → SH → Prop} {a0 : Nat} {xs0 : Int32} (kt : ¬ xs0 = 0 → Gd X mX11_expression 36 [some (.ref a0), none] [] (h) nc ns P) (kf : xs0 = 0 → Gd X mX11_expression 29 [some (.ref a0), none] [] (h) nc ns P) : Gd X mX11_expression 26 [some (.ref a0), none] [.int xs0] h nc ns P := by
  exact g_if_ne (tgt := 36) dX11_expression_26 (by decide) (fun q => Gd.wk (kt q) ⟨rfl, trivial⟩) (fun q => Gd.wk (kf q) ⟨rfl, trivial⟩)
theorem bkX11_expression_29 {X : GX} {h : SH} {nc ns : Nat} {P : Out → SH → Prop} {Q : Int32 → SH → Prop} {a0 : Nat} (F0 : LX11 (Sk h) (a0)) (hN : Cd X mX11_goesOnBehind [.ref a0] (h) 0 0 (oI Q nX)) (g : ∀ r t, Q r t → Gd X mX11_expression 33 [some (.ref a0), none] [.int r] (t) nc ns P) : Gd X mX11_expression 29 [some (.ref a0), none] [] h nc ns P := by
  refine g_aload_n dX11_expression_29 rfl ?_
  refine Gd.z ?_
  exact g_callV (k := 11) [] dX11_expression_30 mfX11_goesOnBehind ⟨by decide, by decide⟩ kw_1399 kw_1401 kw_63 rfl (by decide) (Nat.le_of_ble_eq_true rfl) (by intro x hx; cases hx) (LX11.o (h := h) F0) (Nat.le_of_ble_eq_true rfl) hN (fun _ _ q => q.elim) (oI_go (G := fun a b => Gd X mX11_expression 33 _ a b nc ns P) (fun r t q => Gd.wk (g r t q) ⟨rfl, trivial⟩))
theorem bkX11_expression_33 {X : GX} {h : SH} {nc ns : Nat} {P : Out → SH → Prop} {a0 : Nat} {xs0 : Int32} (kt : xs0 = 0 → Gd X mX11_expression 40 [some (.ref a0), none] [] (h) nc ns P) (kf : ¬ xs0 = 0 → Gd X mX11_expression 36 [some (.ref a0), none] [] (h) nc ns P) : Gd X mX11_expression 33 [some (.ref a0), none] [.int xs0] h nc ns P := by
  exact g_if_eq (tgt := 40) dX11_expression_33 (by decide) (fun q => Gd.wk (kt q) ⟨rfl, trivial⟩) (fun q => Gd.wk (kf q) ⟨rfl, trivial⟩)
theorem bkX11_expression_36 {X : GX} {h : SH} {nc ns : Nat} {P : Out → SH → Prop} {a0 : Nat} (g : Gd X mX11_expression 41 [some (.ref a0), none] [.int 1] (h) nc ns P) : Gd X mX11_expression 36 [some (.ref a0), none] [] h nc ns P := by
  refine g_iconst (v := 1) dX11_expression_36 (by decide) ?_
  refine g_goto (tgt := 41) dX11_expression_37 (by decide) ?_
  exact Gd.wk g ⟨rfl, trivial⟩
theorem bkX11_expression_40 {X : GX} {h : SH} {nc ns : Nat} {P : Out → SH → Prop} {a0 : Nat} (g : Gd X mX11_expression 41 [some (.ref a0), none] [.int 0] (h) nc ns P) : Gd X mX11_expression 40 [some (.ref a0), none] [] h nc ns P := by
  refine g_iconst (v := 0) dX11_expression_40 (by decide) ?_
  exact Gd.wk g ⟨rfl, trivial⟩
theorem bkX11_expression_41 {X : GX} {h : SH} {nc ns : Nat} {P : Out → SH → Prop} {a0 : Nat} {xs0 : Int32} (g : Gd X mX11_expression 11 [some (.ref a0), some (.int xs0)] [] (h) nc ns P) : Gd X mX11_expression 41 [some (.ref a0), none] [.int xs0] h nc ns P := by
  refine g_istore_n (L' := [some (.ref a0), some (.int xs0)]) dX11_expression_41 (by decide) rfl ?_
  refine g_goto (tgt := 11) dX11_expression_42 (by decide) ?_
  exact Gd.wk g ⟨rfl, ⟨rfl, trivial⟩⟩
theorem bkX11_expression_45 {X : GX} {h : SH} {nc ns : Nat} {P : Out → SH → Prop} {Q : SH → Prop} {a0 : Nat} (F0 : LX11 (Sk h) (a0)) (hN : Cd X mX11_emit [.ref a0, .int 0, .int 0] (h) 0 0 (oV Q nX)) (g : ∀ t, Q t → Gd X mX11_expression 51 [none, none] [] (t) nc ns P) : Gd X mX11_expression 45 [some (.ref a0), none] [] h nc ns P := by
  refine g_aload_n dX11_expression_45 rfl ?_
  refine g_iconst (v := 0) dX11_expression_46 (by decide) ?_
  refine g_iconst (v := 0) dX11_expression_47 (by decide) ?_
  refine Gd.z ?_
  exact g_callV (k := 11) [.int 0, .int 0] dX11_expression_48 mfX11_emit ⟨by decide, by decide⟩ kw_1395 kw_1397 kw_62 rfl (by decide) (Nat.le_of_ble_eq_true rfl) (by intro x hx; cases hx) (LX11.o (h := h) F0) (Nat.le_of_ble_eq_true rfl) hN (fun _ _ q => q.elim) (oV_go (G := fun a b => Gd X mX11_expression 51 _ a b nc ns P) (fun t q => Gd.wk (g t q) trivial))
theorem bkX11_expression_51 {X : GX} {h : SH} {nc ns : Nat} {P : Out → SH → Prop} (hp : P (.inl (none)) (h)) : Gd X mX11_expression 51 [none, none] [] h nc ns P := by
  exact g_return (st := []) dX11_expression_51 rfl hp
theorem bkX11_opens_0 {X : GX} {h : SH} {nc ns : Nat} {P : Out → SH → Prop} {a0 : Nat} (F0 : LX11 (Sk h) (a0)) (i1 : vp_in (hI h a0 31) 7) (i2 : vp_in (hI (sI h (a0 + 25) ((hI h a0 31 : Int32).toNatClampNeg) 0) a0 31) 7) (hp : P (.inl (none)) (sI (sI h (a0 + 25) ((hI h a0 31 : Int32).toNatClampNeg) 0) (a0 + 26) ((hI (sI h (a0 + 25) ((hI h a0 31 : Int32).toNatClampNeg) 0) a0 31 : Int32).toNatClampNeg) 0)) : Gd X mX11_opens 0 [some (.ref a0)] [] h nc ns P := by
  refine g_aload_n dX11_opens_0 rfl ?_
  refine g_getAs (c := 11) (k := 32) (b := a0 + 25) dX11_opens_1 (by decide) (by decide) kw_1159 rfl (LX11.o (h := h) F0) (LX11.r_sumWaits (h := h) F0) ?_
  refine g_aload_n dX11_opens_4 rfl ?_
  refine g_getI (c := 11) (k := 31) dX11_opens_5 (by decide) (by decide) kw_1158 rfl (LX11.o (h := h) F0) ?_
  refine g_iconst (v := 0) dX11_opens_8 (by decide) ?_
  refine g_iastore dX11_opens_9 (LX11.a_sumWaits (h := h) F0) i1 ?_
  refine g_aload_n dX11_opens_10 rfl ?_
  refine g_getAs (c := 11) (k := 33) (b := a0 + 26) dX11_opens_11 (by decide) (by decide) kw_1160 rfl (LX11.o (h := sI h (a0 + 25) ((hI h a0 31 : Int32).toNatClampNeg) 0) F0) (LX11.r_signWaits (h := sI h (a0 + 25) ((hI h a0 31 : Int32).toNatClampNeg) 0) F0) ?_
  refine g_aload_n dX11_opens_14 rfl ?_
  refine g_getI (c := 11) (k := 31) dX11_opens_15 (by decide) (by decide) kw_1158 rfl (LX11.o (h := sI h (a0 + 25) ((hI h a0 31 : Int32).toNatClampNeg) 0) F0) ?_
  refine g_iconst (v := 0) dX11_opens_18 (by decide) ?_
  refine g_iastore dX11_opens_19 (LX11.a_signWaits (h := sI h (a0 + 25) ((hI h a0 31 : Int32).toNatClampNeg) 0) F0) i2 ?_
  exact g_return (st := []) dX11_opens_20 rfl hp
theorem bkX11_part_0 {X : GX} {h : SH} {nc ns : Nat} {P : Out → SH → Prop} {a0 : Nat} (F0 : LX11 (Sk h) (a0)) (kt : ¬ hI h a0 8 = 0 → Gd X mX11_part 44 [some (.ref a0)] [] (h) nc ns P) (kf : hI h a0 8 = 0 → Gd X mX11_part 7 [some (.ref a0)] [] (h) nc ns P) : Gd X mX11_part 0 [some (.ref a0)] [] h nc ns P := by
  refine g_aload_n dX11_part_0 rfl ?_
  refine g_getI (c := 11) (k := 8) dX11_part_1 (by decide) (by decide) kw_1135 rfl (LX11.o (h := h) F0) ?_
  exact g_if_ne (tgt := 44) dX11_part_4 (by decide) (fun q => Gd.wk (kt q) ⟨rfl, trivial⟩) (fun q => Gd.wk (kf q) ⟨rfl, trivial⟩)
theorem bkX11_part_7 {X : GX} {h : SH} {nc ns : Nat} {P : Out → SH → Prop} {a0 : Nat} (F0 : LX11 (Sk h) (a0)) (i1 : vp_in (hI h a0 7) 2402) (kt : (hI h (a0 + 2) ((hI h a0 7 : Int32).toNatClampNeg)) = 2 → Gd X mX11_part 44 [some (.ref a0)] [] (h) nc ns P) (kf : ¬ (hI h (a0 + 2) ((hI h a0 7 : Int32).toNatClampNeg)) = 2 → Gd X mX11_part 20 [some (.ref a0)] [] (h) nc ns P) : Gd X mX11_part 7 [some (.ref a0)] [] h nc ns P := by
  refine g_aload_n dX11_part_7 rfl ?_
  refine g_getAs (c := 11) (k := 4) (b := a0 + 2) dX11_part_8 (by decide) (by decide) kw_1131 rfl (LX11.o (h := h) F0) (LX11.r_sort (h := h) F0) ?_
  refine g_aload_n dX11_part_11 rfl ?_
  refine g_getI (c := 11) (k := 7) dX11_part_12 (by decide) (by decide) kw_1134 rfl (LX11.o (h := h) F0) ?_
  refine g_iaload dX11_part_15 (LX11.a_sort (h := h) F0) i1 ?_
  refine g_iconst (v := 2) dX11_part_16 (by decide) ?_
  exact g_icmp_eq (tgt := 44) dX11_part_17 (by decide) (fun q => Gd.wk (kt q) ⟨rfl, trivial⟩) (fun q => Gd.wk (kf q) ⟨rfl, trivial⟩)
theorem bkX11_part_20 {X : GX} {h : SH} {nc ns : Nat} {P : Out → SH → Prop} {Q : Int32 → SH → Prop} {a0 : Nat} (F0 : LX11 (Sk h) (a0)) (hN : Cd X mX11_isSign [.ref a0, .int 40] (h) 0 0 (oI Q nX)) (g : ∀ r t, Q r t → Gd X mX11_part 26 [some (.ref a0)] [.int r] (t) nc ns P) : Gd X mX11_part 20 [some (.ref a0)] [] h nc ns P := by
  refine g_aload_n dX11_part_20 rfl ?_
  refine g_bipush (v := 40) dX11_part_21 (by decide) ?_
  refine Gd.z ?_
  exact g_callV (k := 11) [.int 40] dX11_part_23 mfX11_isSign ⟨by decide, by decide⟩ kw_1367 kw_1369 kw_55 rfl (by decide) (Nat.le_of_ble_eq_true rfl) (by intro x hx; cases hx) (LX11.o (h := h) F0) (Nat.le_of_ble_eq_true rfl) hN (fun _ _ q => q.elim) (oI_go (G := fun a b => Gd X mX11_part 26 _ a b nc ns P) (fun r t q => Gd.wk (g r t q) ⟨rfl, trivial⟩))
theorem bkX11_part_26 {X : GX} {h : SH} {nc ns : Nat} {P : Out → SH → Prop} {a0 : Nat} {xs0 : Int32} (kt : ¬ xs0 = 0 → Gd X mX11_part 44 [some (.ref a0)] [] (h) nc ns P) (kf : xs0 = 0 → Gd X mX11_part 29 [some (.ref a0)] [] (h) nc ns P) : Gd X mX11_part 26 [some (.ref a0)] [.int xs0] h nc ns P := by
  exact g_if_ne (tgt := 44) dX11_part_26 (by decide) (fun q => Gd.wk (kt q) ⟨rfl, trivial⟩) (fun q => Gd.wk (kf q) ⟨rfl, trivial⟩)
theorem bkX11_part_29 {X : GX} {h : SH} {nc ns : Nat} {P : Out → SH → Prop} {Q : Int32 → SH → Prop} {a0 : Nat} (F0 : LX11 (Sk h) (a0)) (hN : Cd X mX11_isName [.ref a0] (h) 0 0 (oI Q nX)) (g : ∀ r t, Q r t → Gd X mX11_part 33 [some (.ref a0)] [.int r] (t) nc ns P) : Gd X mX11_part 29 [some (.ref a0)] [] h nc ns P := by
  refine g_aload_n dX11_part_29 rfl ?_
  refine Gd.z ?_
  exact g_callV (k := 11) [] dX11_part_30 mfX11_isName ⟨by decide, by decide⟩ kw_1337 kw_1339 kw_48 rfl (by decide) (Nat.le_of_ble_eq_true rfl) (by intro x hx; cases hx) (LX11.o (h := h) F0) (Nat.le_of_ble_eq_true rfl) hN (fun _ _ q => q.elim) (oI_go (G := fun a b => Gd X mX11_part 33 _ a b nc ns P) (fun r t q => Gd.wk (g r t q) ⟨rfl, trivial⟩))
theorem bkX11_part_33 {X : GX} {h : SH} {nc ns : Nat} {P : Out → SH → Prop} {a0 : Nat} {xs0 : Int32} (kt : ¬ xs0 = 0 → Gd X mX11_part 44 [some (.ref a0)] [] (h) nc ns P) (kf : xs0 = 0 → Gd X mX11_part 36 [some (.ref a0)] [] (h) nc ns P) : Gd X mX11_part 33 [some (.ref a0)] [.int xs0] h nc ns P := by
  exact g_if_ne (tgt := 44) dX11_part_33 (by decide) (fun q => Gd.wk (kt q) ⟨rfl, trivial⟩) (fun q => Gd.wk (kf q) ⟨rfl, trivial⟩)
theorem bkX11_part_36 {X : GX} {h : SH} {nc ns : Nat} {P : Out → SH → Prop} {Q : SH → Prop} {a0 : Nat} (F0 : LX11 (Sk h) (a0)) (hN : Cd X mX11_wrong [.ref a0, .int 1] (h) 0 0 (oV Q nX)) (g : ∀ t, Q t → Gd X mX11_part 41 [some (.ref a0)] [] (t) nc ns P) : Gd X mX11_part 36 [some (.ref a0)] [] h nc ns P := by
  refine g_aload_n dX11_part_36 rfl ?_
  refine g_iconst (v := 1) dX11_part_37 (by decide) ?_
  refine Gd.z ?_
  exact g_callV (k := 11) [.int 1] dX11_part_38 mfX11_wrong ⟨by decide, by decide⟩ kw_1333 kw_1335 kw_47 rfl (by decide) (Nat.le_of_ble_eq_true rfl) (by intro x hx; cases hx) (LX11.o (h := h) F0) (Nat.le_of_ble_eq_true rfl) hN (fun _ _ q => q.elim) (oV_go (G := fun a b => Gd X mX11_part 41 _ a b nc ns P) (fun t q => Gd.wk (g t q) ⟨rfl, trivial⟩))
theorem bkX11_part_41 {X : GX} {h : SH} {nc ns : Nat} {P : Out → SH → Prop} {a0 : Nat} (g : Gd X mX11_part 88 [some (.ref a0)] [] (h) nc ns P) : Gd X mX11_part 41 [some (.ref a0)] [] h nc ns P := by
  refine g_goto (tgt := 88) dX11_part_41 (by decide) ?_
  exact Gd.wk g ⟨rfl, trivial⟩
theorem bkX11_part_44 {X : GX} {h : SH} {nc ns : Nat} {P : Out → SH → Prop} {Q : Int32 → SH → Prop} {a0 : Nat} (F0 : LX11 (Sk h) (a0)) (hN : Cd X mX11_isName [.ref a0] (h) 0 0 (oI Q nX)) (g : ∀ r t, Q r t → Gd X mX11_part 48 [some (.ref a0)] [.int r] (t) nc ns P) : Gd X mX11_part 44 [some (.ref a0)] [] h nc ns P := by
  refine g_aload_n dX11_part_44 rfl ?_
  refine Gd.z ?_
  exact g_callV (k := 11) [] dX11_part_45 mfX11_isName ⟨by decide, by decide⟩ kw_1337 kw_1339 kw_48 rfl (by decide) (Nat.le_of_ble_eq_true rfl) (by intro x hx; cases hx) (LX11.o (h := h) F0) (Nat.le_of_ble_eq_true rfl) hN (fun _ _ q => q.elim) (oI_go (G := fun a b => Gd X mX11_part 48 _ a b nc ns P) (fun r t q => Gd.wk (g r t q) ⟨rfl, trivial⟩))
theorem bkX11_part_48 {X : GX} {h : SH} {nc ns : Nat} {P : Out → SH → Prop} {a0 : Nat} {xs0 : Int32} (kt : xs0 = 0 → Gd X mX11_part 75 [some (.ref a0)] [] (h) nc ns P) (kf : ¬ xs0 = 0 → Gd X mX11_part 51 [some (.ref a0)] [] (h) nc ns P) : Gd X mX11_part 48 [some (.ref a0)] [.int xs0] h nc ns P := by
  exact g_if_eq (tgt := 75) dX11_part_48 (by decide) (fun q => Gd.wk (kt q) ⟨rfl, trivial⟩) (fun q => Gd.wk (kf q) ⟨rfl, trivial⟩)
theorem bkX11_part_51 {X : GX} {h : SH} {nc ns : Nat} {P : Out → SH → Prop} {Q : Int32 → SH → Prop} {a0 : Nat} (F0 : LX11 (Sk h) (a0)) (i1 : vp_in (hI h a0 7) 2402) (hN : Cd X mX11_findFact [.ref a0, .long (hJ h (a0 + 4) ((hI h a0 7 : Int32).toNatClampNeg))] (h) 0 0 (oI Q nX)) (g : ∀ r t, Q r t → Gd X mX11_part 64 [some (.ref a0)] [.int r] (t) nc ns P) : Gd X mX11_part 51 [some (.ref a0)] [] h nc ns P := by
  refine g_aload_n dX11_part_51 rfl ?_
  refine g_aload_n dX11_part_52 rfl ?_
  refine g_getAs (c := 11) (k := 6) (b := a0 + 4) dX11_part_53 (by decide) (by decide) kw_1133 rfl (LX11.o (h := h) F0) (LX11.r_value (h := h) F0) ?_
  refine g_aload_n dX11_part_56 rfl ?_
  refine g_getI (c := 11) (k := 7) dX11_part_57 (by decide) (by decide) kw_1134 rfl (LX11.o (h := h) F0) ?_
  refine g_laload dX11_part_60 (LX11.a_value (h := h) F0) i1 ?_
  refine Gd.z ?_
  exact g_callV (k := 11) [.long (hJ h (a0 + 4) ((hI h a0 7 : Int32).toNatClampNeg))] dX11_part_61 mfX11_findFact ⟨by decide, by decide⟩ kw_1341 kw_1343 kw_49 rfl (by decide) (Nat.le_of_ble_eq_true rfl) (by intro x hx; cases hx) (LX11.o (h := h) F0) (Nat.le_of_ble_eq_true rfl) hN (fun _ _ q => q.elim) (oI_go (G := fun a b => Gd X mX11_part 64 _ a b nc ns P) (fun r t q => Gd.wk (g r t q) ⟨rfl, trivial⟩))
theorem bkX11_part_64 {X : GX} {h : SH} {nc ns : Nat} {P : Out → SH → Prop} {a0 : Nat} {xs0 : Int32} (kt : (0 : Int32) ≤ xs0 → Gd X mX11_part 75 [some (.ref a0)] [] (h) nc ns P) (kf : ¬ (0 : Int32) ≤ xs0 → Gd X mX11_part 67 [some (.ref a0)] [] (h) nc ns P) : Gd X mX11_part 64 [some (.ref a0)] [.int xs0] h nc ns P := by
  exact g_if_ge (tgt := 75) dX11_part_64 (by decide) (fun q => Gd.wk (kt q) ⟨rfl, trivial⟩) (fun q => Gd.wk (kf q) ⟨rfl, trivial⟩)
theorem bkX11_part_67 {X : GX} {h : SH} {nc ns : Nat} {P : Out → SH → Prop} {Q : SH → Prop} {a0 : Nat} (F0 : LX11 (Sk h) (a0)) (hN : Cd X mX11_wrong [.ref a0, .int 2] (h) 0 0 (oV Q nX)) (g : ∀ t, Q t → Gd X mX11_part 72 [some (.ref a0)] [] (t) nc ns P) : Gd X mX11_part 67 [some (.ref a0)] [] h nc ns P := by
  refine g_aload_n dX11_part_67 rfl ?_
  refine g_iconst (v := 2) dX11_part_68 (by decide) ?_
  refine Gd.z ?_
  exact g_callV (k := 11) [.int 2] dX11_part_69 mfX11_wrong ⟨by decide, by decide⟩ kw_1333 kw_1335 kw_47 rfl (by decide) (Nat.le_of_ble_eq_true rfl) (by intro x hx; cases hx) (LX11.o (h := h) F0) (Nat.le_of_ble_eq_true rfl) hN (fun _ _ q => q.elim) (oV_go (G := fun a b => Gd X mX11_part 72 _ a b nc ns P) (fun t q => Gd.wk (g t q) ⟨rfl, trivial⟩))
theorem bkX11_part_72 {X : GX} {h : SH} {nc ns : Nat} {P : Out → SH → Prop} {a0 : Nat} (g : Gd X mX11_part 88 [some (.ref a0)] [] (h) nc ns P) : Gd X mX11_part 72 [some (.ref a0)] [] h nc ns P := by
  refine g_goto (tgt := 88) dX11_part_72 (by decide) ?_
  exact Gd.wk g ⟨rfl, trivial⟩
theorem bkX11_part_75 {X : GX} {h : SH} {nc ns : Nat} {P : Out → SH → Prop} {a0 : Nat} (F0 : LX11 (Sk h) (a0)) (kt : ¬ hI h a0 31 = 5 → Gd X mX11_part 88 [some (.ref a0)] [] (h) nc ns P) (kf : hI h a0 31 = 5 → Gd X mX11_part 83 [some (.ref a0)] [] (h) nc ns P) : Gd X mX11_part 75 [some (.ref a0)] [] h nc ns P := by
  refine g_aload_n dX11_part_75 rfl ?_
  refine g_getI (c := 11) (k := 31) dX11_part_76 (by decide) (by decide) kw_1158 rfl (LX11.o (h := h) F0) ?_
  refine g_iconst (v := 5) dX11_part_79 (by decide) ?_
  exact g_icmp_ne (tgt := 88) dX11_part_80 (by decide) (fun q => Gd.wk (kt q) ⟨rfl, trivial⟩) (fun q => Gd.wk (kf q) ⟨rfl, trivial⟩)
theorem bkX11_part_83 {X : GX} {h : SH} {nc ns : Nat} {P : Out → SH → Prop} {Q : SH → Prop} {a0 : Nat} (F0 : LX11 (Sk h) (a0)) (hN : Cd X mX11_wrong [.ref a0, .int 5] (h) 0 0 (oV Q nX)) (g : ∀ t, Q t → Gd X mX11_part 88 [some (.ref a0)] [] (t) nc ns P) : Gd X mX11_part 83 [some (.ref a0)] [] h nc ns P := by
  refine g_aload_n dX11_part_83 rfl ?_
  refine g_iconst (v := 5) dX11_part_84 (by decide) ?_
  refine Gd.z ?_
  exact g_callV (k := 11) [.int 5] dX11_part_85 mfX11_wrong ⟨by decide, by decide⟩ kw_1333 kw_1335 kw_47 rfl (by decide) (Nat.le_of_ble_eq_true rfl) (by intro x hx; cases hx) (LX11.o (h := h) F0) (Nat.le_of_ble_eq_true rfl) hN (fun _ _ q => q.elim) (oV_go (G := fun a b => Gd X mX11_part 88 _ a b nc ns P) (fun t q => Gd.wk (g t q) ⟨rfl, trivial⟩))
theorem bkX11_part_88 {X : GX} {h : SH} {nc ns : Nat} {P : Out → SH → Prop} {a0 : Nat} (F0 : LX11 (Sk h) (a0)) (kt : hI h a0 8 ≤ 0 → Gd X mX11_part 97 [some (.ref a0)] [] (h) nc ns P) (kf : ¬ hI h a0 8 ≤ 0 → Gd X mX11_part 95 [none] [] (h) nc ns P) : Gd X mX11_part 88 [some (.ref a0)] [] h nc ns P := by
  refine g_aload_n dX11_part_88 rfl ?_
  refine g_getI (c := 11) (k := 8) dX11_part_89 (by decide) (by decide) kw_1135 rfl (LX11.o (h := h) F0) ?_
  exact g_if_le (tgt := 97) dX11_part_92 (by decide) (fun q => Gd.wk (kt q) ⟨rfl, trivial⟩) (fun q => Gd.wk (kf q) trivial)
theorem bkX11_part_95 {X : GX} {h : SH} {nc ns : Nat} {P : Out → SH → Prop} (hp : P (.inl (some (.int (0)))) (h)) : Gd X mX11_part 95 [none] [] h nc ns P := by
  refine g_iconst (v := 0) dX11_part_95 (by decide) ?_
  exact g_ireturn (st := []) dX11_part_96 rfl (bl_n (by decide)) hp
theorem bkX11_part_97 {X : GX} {h : SH} {nc ns : Nat} {P : Out → SH → Prop} {Q : Int32 → SH → Prop} {a0 : Nat} (F0 : LX11 (Sk h) (a0)) (hN : Cd X mX11_hasSign [.ref a0, .int 40] (h) 0 0 (oI Q nX)) (g : ∀ r t, Q r t → Gd X mX11_part 103 [some (.ref a0)] [.int r] (t) nc ns P) : Gd X mX11_part 97 [some (.ref a0)] [] h nc ns P := by
  refine g_aload_n dX11_part_97 rfl ?_
  refine g_bipush (v := 40) dX11_part_98 (by decide) ?_
  refine Gd.z ?_
  exact g_callV (k := 11) [.int 40] dX11_part_100 mfX11_hasSign ⟨by decide, by decide⟩ kw_1391 kw_1393 kw_61 rfl (by decide) (Nat.le_of_ble_eq_true rfl) (by intro x hx; cases hx) (LX11.o (h := h) F0) (Nat.le_of_ble_eq_true rfl) hN (fun _ _ q => q.elim) (oI_go (G := fun a b => Gd X mX11_part 103 _ a b nc ns P) (fun r t q => Gd.wk (g r t q) ⟨rfl, trivial⟩))
theorem bkX11_part_103 {X : GX} {h : SH} {nc ns : Nat} {P : Out → SH → Prop} {a0 : Nat} {xs0 : Int32} (kt : xs0 = 0 → Gd X mX11_part 122 [some (.ref a0)] [] (h) nc ns P) (kf : ¬ xs0 = 0 → Gd X mX11_part 106 [some (.ref a0)] [] (h) nc ns P) : Gd X mX11_part 103 [some (.ref a0)] [.int xs0] h nc ns P := by
  exact g_if_eq (tgt := 122) dX11_part_103 (by decide) (fun q => Gd.wk (kt q) ⟨rfl, trivial⟩) (fun q => Gd.wk (kf q) ⟨rfl, trivial⟩)
theorem bkX11_part_106 {X : GX} {h : SH} {nc ns : Nat} {P : Out → SH → Prop} {Q : SH → Prop} {a0 : Nat} (F0 : LX11 (Sk h) (a0)) (hN : Cd X mX11_opens [.ref a0] (sI h a0 31 (hI h a0 31 + 1)) 0 0 (oV Q nX)) (g : ∀ t, Q t → Gd X mX11_part 120 [none] [] (t) nc ns P) : Gd X mX11_part 106 [some (.ref a0)] [] h nc ns P := by
  refine g_aload_n dX11_part_106 rfl ?_
  refine g_dup dX11_part_107 rfl ?_
  refine g_getI (c := 11) (k := 31) dX11_part_108 (by decide) (by decide) kw_1158 rfl (LX11.o (h := h) F0) ?_
  refine g_iconst (v := 1) dX11_part_111 (by decide) ?_
  refine g_iadd dX11_part_112 ?_
  refine g_put (c := 11) (k := 31) (h1 := sI h a0 31 (hI h a0 31 + 1)) dX11_part_113 (by decide) (by decide) kw_1158 rfl (LX11.o (h := h) F0) rfl rfl (Put.I rfl) ?_
  refine g_aload_n dX11_part_116 rfl ?_
  refine Gd.z ?_
  exact g_callV (k := 11) [] dX11_part_117 mfX11_opens ⟨by decide, by decide⟩ kw_1383 kw_1385 kw_59 rfl (by decide) (Nat.le_of_ble_eq_true rfl) (by intro x hx; cases hx) (LX11.o (h := sI h a0 31 (hI h a0 31 + 1)) F0) (Nat.le_of_ble_eq_true rfl) hN (fun _ _ q => q.elim) (oV_go (G := fun a b => Gd X mX11_part 120 _ a b nc ns P) (fun t q => Gd.wk (g t q) trivial))
theorem bkX11_part_120 {X : GX} {h : SH} {nc ns : Nat} {P : Out → SH → Prop} (hp : P (.inl (some (.int (1)))) (h)) : Gd X mX11_part 120 [none] [] h nc ns P := by
  refine g_iconst (v := 1) dX11_part_120 (by decide) ?_
  exact g_ireturn (st := []) dX11_part_121 rfl (bl_n (by decide)) hp
theorem bkX11_part_122 {X : GX} {h : SH} {nc ns : Nat} {P : Out → SH → Prop} {a0 : Nat} (F0 : LX11 (Sk h) (a0)) (i1 : vp_in (hI h a0 7) 2402) (kt : ¬ (hI h (a0 + 2) ((hI h a0 7 : Int32).toNatClampNeg)) = 2 → Gd X mX11_part 140 [some (.ref a0)] [.ref a0] (h) nc ns P) (kf : (hI h (a0 + 2) ((hI h a0 7 : Int32).toNatClampNeg)) = 2 → Gd X mX11_part 136 [some (.ref a0)] [.ref a0] (h) nc ns P) : Gd X mX11_part 122 [some (.ref a0)] [] h nc ns P := by
  refine g_aload_n dX11_part_122 rfl ?_
  refine g_aload_n dX11_part_123 rfl ?_
  refine g_getAs (c := 11) (k := 4) (b := a0 + 2) dX11_part_124 (by decide) (by decide) kw_1131 rfl (LX11.o (h := h) F0) (LX11.r_sort (h := h) F0) ?_
  refine g_aload_n dX11_part_127 rfl ?_
  refine g_getI (c := 11) (k := 7) dX11_part_128 (by decide) (by decide) kw_1134 rfl (LX11.o (h := h) F0) ?_
  refine g_iaload dX11_part_131 (LX11.a_sort (h := h) F0) i1 ?_
  refine g_iconst (v := 2) dX11_part_132 (by decide) ?_
  exact g_icmp_ne (tgt := 140) dX11_part_133 (by decide) (fun q => Gd.wk (kt q) ⟨rfl, trivial⟩) (fun q => Gd.wk (kf q) ⟨rfl, trivial⟩)
theorem bkX11_part_136 {X : GX} {h : SH} {nc ns : Nat} {P : Out → SH → Prop} {a0 : Nat} {as0 : Nat} (g : Gd X mX11_part 141 [some (.ref a0)] [.int 1, .ref as0] (h) nc ns P) : Gd X mX11_part 136 [some (.ref a0)] [.ref as0] h nc ns P := by
  refine g_iconst (v := 1) dX11_part_136 (by decide) ?_
  refine g_goto (tgt := 141) dX11_part_137 (by decide) ?_
  exact Gd.wk g ⟨rfl, trivial⟩
theorem bkX11_part_140 {X : GX} {h : SH} {nc ns : Nat} {P : Out → SH → Prop} {a0 : Nat} {as0 : Nat} (g : Gd X mX11_part 141 [some (.ref a0)] [.int 2, .ref as0] (h) nc ns P) : Gd X mX11_part 140 [some (.ref a0)] [.ref as0] h nc ns P := by
  refine g_iconst (v := 2) dX11_part_140 (by decide) ?_
  exact Gd.wk g ⟨rfl, trivial⟩
theorem bkX11_part_141 {X : GX} {h : SH} {nc ns : Nat} {P : Out → SH → Prop} {a0 : Nat} {as0 : Nat} {xs1 : Int32} (F0 : LX11 (Sk h) (a0)) (i1 : vp_in (hI h a0 7) 2402) (kt : ¬ (hI h (a0 + 2) ((hI h a0 7 : Int32).toNatClampNeg)) = 2 → Gd X mX11_part 167 [some (.ref a0)] [.int xs1, .ref as0] (h) nc ns P) (kf : (hI h (a0 + 2) ((hI h a0 7 : Int32).toNatClampNeg)) = 2 → Gd X mX11_part 154 [some (.ref a0)] [.int xs1, .ref as0] (h) nc ns P) : Gd X mX11_part 141 [some (.ref a0)] [.int xs1, .ref as0] h nc ns P := by
  refine g_aload_n dX11_part_141 rfl ?_
  refine g_getAs (c := 11) (k := 4) (b := a0 + 2) dX11_part_142 (by decide) (by decide) kw_1131 rfl (LX11.o (h := h) F0) (LX11.r_sort (h := h) F0) ?_
  refine g_aload_n dX11_part_145 rfl ?_
  refine g_getI (c := 11) (k := 7) dX11_part_146 (by decide) (by decide) kw_1134 rfl (LX11.o (h := h) F0) ?_
  refine g_iaload dX11_part_149 (LX11.a_sort (h := h) F0) i1 ?_
  refine g_iconst (v := 2) dX11_part_150 (by decide) ?_
  exact g_icmp_ne (tgt := 167) dX11_part_151 (by decide) (fun q => Gd.wk (kt q) ⟨rfl, trivial⟩) (fun q => Gd.wk (kf q) ⟨rfl, trivial⟩)
theorem bkX11_part_154 {X : GX} {h : SH} {nc ns : Nat} {P : Out → SH → Prop} {a0 : Nat} {as0 : Nat} {xs1 : Int32} (F0 : LX11 (Sk h) (a0)) (i1 : vp_in (hI h a0 7) 2402) (g : Gd X mX11_part 180 [some (.ref a0)] [.int ((hJ h (a0 + 4) ((hI h a0 7 : Int32).toNatClampNeg) : Int64).toInt32), .int xs1, .ref as0] (h) nc ns P) : Gd X mX11_part 154 [some (.ref a0)] [.int xs1, .ref as0] h nc ns P := by
  refine g_aload_n dX11_part_154 rfl ?_
  refine g_getAs (c := 11) (k := 6) (b := a0 + 4) dX11_part_155 (by decide) (by decide) kw_1133 rfl (LX11.o (h := h) F0) (LX11.r_value (h := h) F0) ?_
  refine g_aload_n dX11_part_158 rfl ?_
  refine g_getI (c := 11) (k := 7) dX11_part_159 (by decide) (by decide) kw_1134 rfl (LX11.o (h := h) F0) ?_
  refine g_laload dX11_part_162 (LX11.a_value (h := h) F0) i1 ?_
  refine g_l2i dX11_part_163 ?_
  refine g_goto (tgt := 180) dX11_part_164 (by decide) ?_
  exact Gd.wk g ⟨rfl, trivial⟩
theorem bkX11_part_167 {X : GX} {h : SH} {nc ns : Nat} {P : Out → SH → Prop} {Q : Int32 → SH → Prop} {a0 : Nat} {as0 : Nat} {xs1 : Int32} (F0 : LX11 (Sk h) (a0)) (i1 : vp_in (hI h a0 7) 2402) (hN : Cd X mX11_findFact [.ref a0, .long (hJ h (a0 + 4) ((hI h a0 7 : Int32).toNatClampNeg))] (h) 0 0 (oI Q nX)) (g : ∀ r t, Q r t → Gd X mX11_part 180 [some (.ref a0)] [.int r, .int xs1, .ref as0] (t) nc ns P) : Gd X mX11_part 167 [some (.ref a0)] [.int xs1, .ref as0] h nc ns P := by
  refine g_aload_n dX11_part_167 rfl ?_
  refine g_aload_n dX11_part_168 rfl ?_
  refine g_getAs (c := 11) (k := 6) (b := a0 + 4) dX11_part_169 (by decide) (by decide) kw_1133 rfl (LX11.o (h := h) F0) (LX11.r_value (h := h) F0) ?_
  refine g_aload_n dX11_part_172 rfl ?_
  refine g_getI (c := 11) (k := 7) dX11_part_173 (by decide) (by decide) kw_1134 rfl (LX11.o (h := h) F0) ?_
  refine g_laload dX11_part_176 (LX11.a_value (h := h) F0) i1 ?_
  refine Gd.z ?_
  exact g_callV (k := 11) [.long (hJ h (a0 + 4) ((hI h a0 7 : Int32).toNatClampNeg))] dX11_part_177 mfX11_findFact ⟨by decide, by decide⟩ kw_1341 kw_1343 kw_49 rfl (by decide) (Nat.le_of_ble_eq_true rfl) (by intro x hx; cases hx) (LX11.o (h := h) F0) (Nat.le_of_ble_eq_true rfl) hN (fun _ _ q => q.elim) (oI_go (G := fun a b => Gd X mX11_part 180 _ a b nc ns P) (fun r t q => Gd.wk (g r t q) ⟨rfl, trivial⟩))
theorem bkX11_part_180 {X : GX} {h : SH} {nc ns : Nat} {P : Out → SH → Prop} {Q : SH → Prop} {a0 : Nat} {as0 : Nat} {xs1 : Int32} {xs2 : Int32} (F0 : LX11 (Sk h) (as0)) (hN : Cd X mX11_emit [.ref as0, .int xs1, .int xs2] (h) 0 0 (oV Q nX)) (g : ∀ t, Q t → Gd X mX11_part 183 [some (.ref a0)] [] (t) nc ns P) : Gd X mX11_part 180 [some (.ref a0)] [.int xs2, .int xs1, .ref as0] h nc ns P := by
  refine Gd.z ?_
  exact g_callV (k := 11) [.int xs1, .int xs2] dX11_part_180 mfX11_emit ⟨by decide, by decide⟩ kw_1395 kw_1397 kw_62 rfl (by decide) (Nat.le_of_ble_eq_true rfl) (by intro x hx; cases hx) (LX11.o (h := h) F0) (Nat.le_of_ble_eq_true rfl) hN (fun _ _ q => q.elim) (oV_go (G := fun a b => Gd X mX11_part 183 _ a b nc ns P) (fun t q => Gd.wk (g t q) ⟨rfl, trivial⟩))
theorem bkX11_part_183 {X : GX} {h : SH} {nc ns : Nat} {P : Out → SH → Prop} {a0 : Nat} (F0 : LX11 (Sk h) (a0)) (hp : P (.inl (some (.int (0)))) (sI h a0 7 (hI h a0 7 + 1))) : Gd X mX11_part 183 [some (.ref a0)] [] h nc ns P := by
  refine g_aload_n dX11_part_183 rfl ?_
  refine g_dup dX11_part_184 rfl ?_
  refine g_getI (c := 11) (k := 7) dX11_part_185 (by decide) (by decide) kw_1134 rfl (LX11.o (h := h) F0) ?_
  refine g_iconst (v := 1) dX11_part_188 (by decide) ?_
  refine g_iadd dX11_part_189 ?_
  refine g_put (c := 11) (k := 7) (h1 := sI h a0 7 (hI h a0 7 + 1)) dX11_part_190 (by decide) (by decide) kw_1134 rfl (LX11.o (h := h) F0) rfl rfl (Put.I rfl) ?_
  refine g_iconst (v := 0) dX11_part_193 (by decide) ?_
  exact g_ireturn (st := []) dX11_part_194 rfl (bl_n (by decide)) hp
theorem bkX11_goesOnBehind_0 {X : GX} {h : SH} {nc ns : Nat} {P : Out → SH → Prop} {a0 : Nat} (F0 : LX11 (Sk h) (a0)) (kt : ¬ hI h a0 8 = 0 → Gd X mX11_goesOnBehind 207 [none] [] (h) nc ns P) (kf : hI h a0 8 = 0 → Gd X mX11_goesOnBehind 7 [some (.ref a0)] [] (h) nc ns P) : Gd X mX11_goesOnBehind 0 [some (.ref a0)] [] h nc ns P := by
  refine g_aload_n dX11_goesOnBehind_0 rfl ?_
  refine g_getI (c := 11) (k := 8) dX11_goesOnBehind_1 (by decide) (by decide) kw_1135 rfl (LX11.o (h := h) F0) ?_
  exact g_if_ne (tgt := 207) dX11_goesOnBehind_4 (by decide) (fun q => Gd.wk (kt q) trivial) (fun q => Gd.wk (kf q) ⟨rfl, trivial⟩)
theorem bkX11_goesOnBehind_7 {X : GX} {h : SH} {nc ns : Nat} {P : Out → SH → Prop} {a0 : Nat} (F0 : LX11 (Sk h) (a0)) (i1 : vp_in (hI h a0 31) 7) (kt : (hI h (a0 + 25) ((hI h a0 31 : Int32).toNatClampNeg)) = 0 → Gd X mX11_goesOnBehind 43 [some (.ref a0)] [] (h) nc ns P) (kf : ¬ (hI h (a0 + 25) ((hI h a0 31 : Int32).toNatClampNeg)) = 0 → Gd X mX11_goesOnBehind 19 [some (.ref a0)] [] (h) nc ns P) : Gd X mX11_goesOnBehind 7 [some (.ref a0)] [] h nc ns P := by
  refine g_aload_n dX11_goesOnBehind_7 rfl ?_
  refine g_getAs (c := 11) (k := 32) (b := a0 + 25) dX11_goesOnBehind_8 (by decide) (by decide) kw_1159 rfl (LX11.o (h := h) F0) (LX11.r_sumWaits (h := h) F0) ?_
  refine g_aload_n dX11_goesOnBehind_11 rfl ?_
  refine g_getI (c := 11) (k := 31) dX11_goesOnBehind_12 (by decide) (by decide) kw_1158 rfl (LX11.o (h := h) F0) ?_
  refine g_iaload dX11_goesOnBehind_15 (LX11.a_sumWaits (h := h) F0) i1 ?_
  exact g_if_eq (tgt := 43) dX11_goesOnBehind_16 (by decide) (fun q => Gd.wk (kt q) ⟨rfl, trivial⟩) (fun q => Gd.wk (kf q) ⟨rfl, trivial⟩)
theorem bkX11_goesOnBehind_19 {X : GX} {h : SH} {nc ns : Nat} {P : Out → SH → Prop} {Q : SH → Prop} {a0 : Nat} (F0 : LX11 (Sk h) (a0)) (i1 : vp_in (hI h a0 31) 7) (hN : Cd X mX11_emit [.ref a0, .int (hI h (a0 + 25) ((hI h a0 31 : Int32).toNatClampNeg)), .int 0] (h) 0 0 (oV Q nX)) (g : ∀ t, Q t → Gd X mX11_goesOnBehind 33 [some (.ref a0)] [] (t) nc ns P) : Gd X mX11_goesOnBehind 19 [some (.ref a0)] [] h nc ns P := by
  refine g_aload_n dX11_goesOnBehind_19 rfl ?_
  refine g_aload_n dX11_goesOnBehind_20 rfl ?_
  refine g_getAs (c := 11) (k := 32) (b := a0 + 25) dX11_goesOnBehind_21 (by decide) (by decide) kw_1159 rfl (LX11.o (h := h) F0) (LX11.r_sumWaits (h := h) F0) ?_
  refine g_aload_n dX11_goesOnBehind_24 rfl ?_
  refine g_getI (c := 11) (k := 31) dX11_goesOnBehind_25 (by decide) (by decide) kw_1158 rfl (LX11.o (h := h) F0) ?_
  refine g_iaload dX11_goesOnBehind_28 (LX11.a_sumWaits (h := h) F0) i1 ?_
  refine g_iconst (v := 0) dX11_goesOnBehind_29 (by decide) ?_
  refine Gd.z ?_
  exact g_callV (k := 11) [.int (hI h (a0 + 25) ((hI h a0 31 : Int32).toNatClampNeg)), .int 0] dX11_goesOnBehind_30 mfX11_emit ⟨by decide, by decide⟩ kw_1395 kw_1397 kw_62 rfl (by decide) (Nat.le_of_ble_eq_true rfl) (by intro x hx; cases hx) (LX11.o (h := h) F0) (Nat.le_of_ble_eq_true rfl) hN (fun _ _ q => q.elim) (oV_go (G := fun a b => Gd X mX11_goesOnBehind 33 _ a b nc ns P) (fun t q => Gd.wk (g t q) ⟨rfl, trivial⟩))
theorem bkX11_goesOnBehind_33 {X : GX} {h : SH} {nc ns : Nat} {P : Out → SH → Prop} {a0 : Nat} (F0 : LX11 (Sk h) (a0)) (i1 : vp_in (hI h a0 31) 7) (g : Gd X mX11_goesOnBehind 43 [some (.ref a0)] [] (sI h (a0 + 25) ((hI h a0 31 : Int32).toNatClampNeg) 0) nc ns P) : Gd X mX11_goesOnBehind 33 [some (.ref a0)] [] h nc ns P := by
  refine g_aload_n dX11_goesOnBehind_33 rfl ?_
  refine g_getAs (c := 11) (k := 32) (b := a0 + 25) dX11_goesOnBehind_34 (by decide) (by decide) kw_1159 rfl (LX11.o (h := h) F0) (LX11.r_sumWaits (h := h) F0) ?_
  refine g_aload_n dX11_goesOnBehind_37 rfl ?_
  refine g_getI (c := 11) (k := 31) dX11_goesOnBehind_38 (by decide) (by decide) kw_1158 rfl (LX11.o (h := h) F0) ?_
  refine g_iconst (v := 0) dX11_goesOnBehind_41 (by decide) ?_
  refine g_iastore dX11_goesOnBehind_42 (LX11.a_sumWaits (h := h) F0) i1 ?_
  exact Gd.wk g ⟨rfl, trivial⟩
theorem bkX11_goesOnBehind_43 {X : GX} {h : SH} {nc ns : Nat} {P : Out → SH → Prop} {Q : Int32 → SH → Prop} {a0 : Nat} (F0 : LX11 (Sk h) (a0)) (hN : Cd X mX11_isSign [.ref a0, .int 43] (h) 0 0 (oI Q nX)) (g : ∀ r t, Q r t → Gd X mX11_goesOnBehind 49 [some (.ref a0)] [.int r] (t) nc ns P) : Gd X mX11_goesOnBehind 43 [some (.ref a0)] [] h nc ns P := by
  refine g_aload_n dX11_goesOnBehind_43 rfl ?_
  refine g_bipush (v := 43) dX11_goesOnBehind_44 (by decide) ?_
  refine Gd.z ?_
  exact g_callV (k := 11) [.int 43] dX11_goesOnBehind_46 mfX11_isSign ⟨by decide, by decide⟩ kw_1367 kw_1369 kw_55 rfl (by decide) (Nat.le_of_ble_eq_true rfl) (by intro x hx; cases hx) (LX11.o (h := h) F0) (Nat.le_of_ble_eq_true rfl) hN (fun _ _ q => q.elim) (oI_go (G := fun a b => Gd X mX11_goesOnBehind 49 _ a b nc ns P) (fun r t q => Gd.wk (g r t q) ⟨rfl, trivial⟩))
theorem bkX11_goesOnBehind_49 {X : GX} {h : SH} {nc ns : Nat} {P : Out → SH → Prop} {a0 : Nat} {xs0 : Int32} (kt : ¬ xs0 = 0 → Gd X mX11_goesOnBehind 61 [some (.ref a0)] [] (h) nc ns P) (kf : xs0 = 0 → Gd X mX11_goesOnBehind 52 [some (.ref a0)] [] (h) nc ns P) : Gd X mX11_goesOnBehind 49 [some (.ref a0)] [.int xs0] h nc ns P := by
  exact g_if_ne (tgt := 61) dX11_goesOnBehind_49 (by decide) (fun q => Gd.wk (kt q) ⟨rfl, trivial⟩) (fun q => Gd.wk (kf q) ⟨rfl, trivial⟩)
theorem bkX11_goesOnBehind_52 {X : GX} {h : SH} {nc ns : Nat} {P : Out → SH → Prop} {Q : Int32 → SH → Prop} {a0 : Nat} (F0 : LX11 (Sk h) (a0)) (hN : Cd X mX11_isSign [.ref a0, .int 45] (h) 0 0 (oI Q nX)) (g : ∀ r t, Q r t → Gd X mX11_goesOnBehind 58 [some (.ref a0)] [.int r] (t) nc ns P) : Gd X mX11_goesOnBehind 52 [some (.ref a0)] [] h nc ns P := by
  refine g_aload_n dX11_goesOnBehind_52 rfl ?_
  refine g_bipush (v := 45) dX11_goesOnBehind_53 (by decide) ?_
  refine Gd.z ?_
  exact g_callV (k := 11) [.int 45] dX11_goesOnBehind_55 mfX11_isSign ⟨by decide, by decide⟩ kw_1367 kw_1369 kw_55 rfl (by decide) (Nat.le_of_ble_eq_true rfl) (by intro x hx; cases hx) (LX11.o (h := h) F0) (Nat.le_of_ble_eq_true rfl) hN (fun _ _ q => q.elim) (oI_go (G := fun a b => Gd X mX11_goesOnBehind 58 _ a b nc ns P) (fun r t q => Gd.wk (g r t q) ⟨rfl, trivial⟩))
theorem bkX11_goesOnBehind_58 {X : GX} {h : SH} {nc ns : Nat} {P : Out → SH → Prop} {a0 : Nat} {xs0 : Int32} (kt : xs0 = 0 → Gd X mX11_goesOnBehind 96 [some (.ref a0)] [] (h) nc ns P) (kf : ¬ xs0 = 0 → Gd X mX11_goesOnBehind 61 [some (.ref a0)] [] (h) nc ns P) : Gd X mX11_goesOnBehind 58 [some (.ref a0)] [.int xs0] h nc ns P := by
  exact g_if_eq (tgt := 96) dX11_goesOnBehind_58 (by decide) (fun q => Gd.wk (kt q) ⟨rfl, trivial⟩) (fun q => Gd.wk (kf q) ⟨rfl, trivial⟩)
theorem bkX11_goesOnBehind_61 {X : GX} {h : SH} {nc ns : Nat} {P : Out → SH → Prop} {Q : Int32 → SH → Prop} {a0 : Nat} (F0 : LX11 (Sk h) (a0)) (hN : Cd X mX11_isSign [.ref a0, .int 43] (h) 0 0 (oI Q nX)) (g : ∀ r t, Q r t → Gd X mX11_goesOnBehind 75 [some (.ref a0)] [.int r, .int (hI h a0 31), .ref (a0 + 25)] (t) nc ns P) : Gd X mX11_goesOnBehind 61 [some (.ref a0)] [] h nc ns P := by
  refine g_aload_n dX11_goesOnBehind_61 rfl ?_
  refine g_getAs (c := 11) (k := 32) (b := a0 + 25) dX11_goesOnBehind_62 (by decide) (by decide) kw_1159 rfl (LX11.o (h := h) F0) (LX11.r_sumWaits (h := h) F0) ?_
  refine g_aload_n dX11_goesOnBehind_65 rfl ?_
  refine g_getI (c := 11) (k := 31) dX11_goesOnBehind_66 (by decide) (by decide) kw_1158 rfl (LX11.o (h := h) F0) ?_
  refine g_aload_n dX11_goesOnBehind_69 rfl ?_
  refine g_bipush (v := 43) dX11_goesOnBehind_70 (by decide) ?_
  refine Gd.z ?_
  exact g_callV (k := 11) [.int 43] dX11_goesOnBehind_72 mfX11_isSign ⟨by decide, by decide⟩ kw_1367 kw_1369 kw_55 rfl (by decide) (Nat.le_of_ble_eq_true rfl) (by intro x hx; cases hx) (LX11.o (h := h) F0) (Nat.le_of_ble_eq_true rfl) hN (fun _ _ q => q.elim) (oI_go (G := fun a b => Gd X mX11_goesOnBehind 75 _ a b nc ns P) (fun r t q => Gd.wk (g r t q) ⟨rfl, trivial⟩))
theorem bkX11_goesOnBehind_75 {X : GX} {h : SH} {nc ns : Nat} {P : Out → SH → Prop} {a0 : Nat} {as0 : Nat} {xs1 : Int32} {xs2 : Int32} (kt : xs2 = 0 → Gd X mX11_goesOnBehind 82 [some (.ref a0)] [.int xs1, .ref as0] (h) nc ns P) (kf : ¬ xs2 = 0 → Gd X mX11_goesOnBehind 78 [some (.ref a0)] [.int xs1, .ref as0] (h) nc ns P) : Gd X mX11_goesOnBehind 75 [some (.ref a0)] [.int xs2, .int xs1, .ref as0] h nc ns P := by
  exact g_if_eq (tgt := 82) dX11_goesOnBehind_75 (by decide) (fun q => Gd.wk (kt q) ⟨rfl, trivial⟩) (fun q => Gd.wk (kf q) ⟨rfl, trivial⟩)
theorem bkX11_goesOnBehind_78 {X : GX} {h : SH} {nc ns : Nat} {P : Out → SH → Prop} {a0 : Nat} {as0 : Nat} {xs1 : Int32} (g : Gd X mX11_goesOnBehind 83 [some (.ref a0)] [.int 3, .int xs1, .ref as0] (h) nc ns P) : Gd X mX11_goesOnBehind 78 [some (.ref a0)] [.int xs1, .ref as0] h nc ns P := by
  refine g_iconst (v := 3) dX11_goesOnBehind_78 (by decide) ?_
  refine g_goto (tgt := 83) dX11_goesOnBehind_79 (by decide) ?_
  exact Gd.wk g ⟨rfl, trivial⟩
theorem bkX11_goesOnBehind_82 {X : GX} {h : SH} {nc ns : Nat} {P : Out → SH → Prop} {a0 : Nat} {as0 : Nat} {xs1 : Int32} (g : Gd X mX11_goesOnBehind 83 [some (.ref a0)] [.int 4, .int xs1, .ref as0] (h) nc ns P) : Gd X mX11_goesOnBehind 82 [some (.ref a0)] [.int xs1, .ref as0] h nc ns P := by
  refine g_iconst (v := 4) dX11_goesOnBehind_82 (by decide) ?_
  exact Gd.wk g ⟨rfl, trivial⟩
theorem bkX11_goesOnBehind_83 {X : GX} {h : SH} {nc ns : Nat} {P : Out → SH → Prop} {a0 : Nat} {as0 : Nat} {xs1 : Int32} {xs2 : Int32} {n4 : Nat} (B0 : Ar h (as0) 20 n4) (i1 : vp_in (xs1) n4) (F2 : LX11 (Sk h) (a0)) (hp : P (.inl (some (.int (1)))) (sI (sI h as0 ((xs1 : Int32).toNatClampNeg) xs2) a0 7 ((hI (sI h as0 ((xs1 : Int32).toNatClampNeg) xs2) a0 7) + 1))) : Gd X mX11_goesOnBehind 83 [some (.ref a0)] [.int xs2, .int xs1, .ref as0] h nc ns P := by
  refine g_iastore dX11_goesOnBehind_83 B0 i1 ?_
  refine g_aload_n dX11_goesOnBehind_84 rfl ?_
  refine g_dup dX11_goesOnBehind_85 rfl ?_
  refine g_getI (c := 11) (k := 7) dX11_goesOnBehind_86 (by decide) (by decide) kw_1134 rfl (LX11.o (h := sI h as0 ((xs1 : Int32).toNatClampNeg) xs2) F2) ?_
  refine g_iconst (v := 1) dX11_goesOnBehind_89 (by decide) ?_
  refine g_iadd dX11_goesOnBehind_90 ?_
  refine g_put (c := 11) (k := 7) (h1 := sI (sI h as0 ((xs1 : Int32).toNatClampNeg) xs2) a0 7 ((hI (sI h as0 ((xs1 : Int32).toNatClampNeg) xs2) a0 7) + 1)) dX11_goesOnBehind_91 (by decide) (by decide) kw_1134 rfl (LX11.o (h := sI h as0 ((xs1 : Int32).toNatClampNeg) xs2) F2) rfl rfl (Put.I rfl) ?_
  refine g_iconst (v := 1) dX11_goesOnBehind_94 (by decide) ?_
  exact g_ireturn (st := []) dX11_goesOnBehind_95 rfl (bl_n (by decide)) hp
theorem bkX11_goesOnBehind_96 {X : GX} {h : SH} {nc ns : Nat} {P : Out → SH → Prop} {a0 : Nat} (F0 : LX11 (Sk h) (a0)) (i1 : vp_in (hI h a0 31) 7) (kt : (hI h (a0 + 26) ((hI h a0 31 : Int32).toNatClampNeg)) = 0 → Gd X mX11_goesOnBehind 125 [some (.ref a0)] [] (h) nc ns P) (kf : ¬ (hI h (a0 + 26) ((hI h a0 31 : Int32).toNatClampNeg)) = 0 → Gd X mX11_goesOnBehind 108 [some (.ref a0)] [] (h) nc ns P) : Gd X mX11_goesOnBehind 96 [some (.ref a0)] [] h nc ns P := by
  refine g_aload_n dX11_goesOnBehind_96 rfl ?_
  refine g_getAs (c := 11) (k := 33) (b := a0 + 26) dX11_goesOnBehind_97 (by decide) (by decide) kw_1160 rfl (LX11.o (h := h) F0) (LX11.r_signWaits (h := h) F0) ?_
  refine g_aload_n dX11_goesOnBehind_100 rfl ?_
  refine g_getI (c := 11) (k := 31) dX11_goesOnBehind_101 (by decide) (by decide) kw_1158 rfl (LX11.o (h := h) F0) ?_
  refine g_iaload dX11_goesOnBehind_104 (LX11.a_signWaits (h := h) F0) i1 ?_
  exact g_if_eq (tgt := 125) dX11_goesOnBehind_105 (by decide) (fun q => Gd.wk (kt q) ⟨rfl, trivial⟩) (fun q => Gd.wk (kf q) ⟨rfl, trivial⟩)
theorem bkX11_goesOnBehind_108 {X : GX} {h : SH} {nc ns : Nat} {P : Out → SH → Prop} {Q : SH → Prop} {a0 : Nat} (F0 : LX11 (Sk h) (a0)) (i1 : vp_in (hI h a0 31) 7) (hN : Cd X mX11_emit [.ref a0, .int (hI h (a0 + 26) ((hI h a0 31 : Int32).toNatClampNeg)), .int 0] (h) 0 0 (oV Q nX)) (g : ∀ t, Q t → Gd X mX11_goesOnBehind 122 [some (.ref a0)] [] (t) nc ns P) : Gd X mX11_goesOnBehind 108 [some (.ref a0)] [] h nc ns P := by
  refine g_aload_n dX11_goesOnBehind_108 rfl ?_
  refine g_aload_n dX11_goesOnBehind_109 rfl ?_
  refine g_getAs (c := 11) (k := 33) (b := a0 + 26) dX11_goesOnBehind_110 (by decide) (by decide) kw_1160 rfl (LX11.o (h := h) F0) (LX11.r_signWaits (h := h) F0) ?_
  refine g_aload_n dX11_goesOnBehind_113 rfl ?_
  refine g_getI (c := 11) (k := 31) dX11_goesOnBehind_114 (by decide) (by decide) kw_1158 rfl (LX11.o (h := h) F0) ?_
  refine g_iaload dX11_goesOnBehind_117 (LX11.a_signWaits (h := h) F0) i1 ?_
  refine g_iconst (v := 0) dX11_goesOnBehind_118 (by decide) ?_
  refine Gd.z ?_
  exact g_callV (k := 11) [.int (hI h (a0 + 26) ((hI h a0 31 : Int32).toNatClampNeg)), .int 0] dX11_goesOnBehind_119 mfX11_emit ⟨by decide, by decide⟩ kw_1395 kw_1397 kw_62 rfl (by decide) (Nat.le_of_ble_eq_true rfl) (by intro x hx; cases hx) (LX11.o (h := h) F0) (Nat.le_of_ble_eq_true rfl) hN (fun _ _ q => q.elim) (oV_go (G := fun a b => Gd X mX11_goesOnBehind 122 _ a b nc ns P) (fun t q => Gd.wk (g t q) ⟨rfl, trivial⟩))
theorem bkX11_goesOnBehind_122 {X : GX} {h : SH} {nc ns : Nat} {P : Out → SH → Prop} {a0 : Nat} (g : Gd X mX11_goesOnBehind 179 [some (.ref a0)] [] (h) nc ns P) : Gd X mX11_goesOnBehind 122 [some (.ref a0)] [] h nc ns P := by
  refine g_goto (tgt := 179) dX11_goesOnBehind_122 (by decide) ?_
  exact Gd.wk g ⟨rfl, trivial⟩
theorem bkX11_goesOnBehind_125 {X : GX} {h : SH} {nc ns : Nat} {P : Out → SH → Prop} {Q : Int32 → SH → Prop} {a0 : Nat} (F0 : LX11 (Sk h) (a0)) (hN : Cd X mX11_isSign [.ref a0, .int 60] (h) 0 0 (oI Q nX)) (g : ∀ r t, Q r t → Gd X mX11_goesOnBehind 131 [some (.ref a0)] [.int r] (t) nc ns P) : Gd X mX11_goesOnBehind 125 [some (.ref a0)] [] h nc ns P := by
  refine g_aload_n dX11_goesOnBehind_125 rfl ?_
  refine g_bipush (v := 60) dX11_goesOnBehind_126 (by decide) ?_
  refine Gd.z ?_
  exact g_callV (k := 11) [.int 60] dX11_goesOnBehind_128 mfX11_isSign ⟨by decide, by decide⟩ kw_1367 kw_1369 kw_55 rfl (by decide) (Nat.le_of_ble_eq_true rfl) (by intro x hx; cases hx) (LX11.o (h := h) F0) (Nat.le_of_ble_eq_true rfl) hN (fun _ _ q => q.elim) (oI_go (G := fun a b => Gd X mX11_goesOnBehind 131 _ a b nc ns P) (fun r t q => Gd.wk (g r t q) ⟨rfl, trivial⟩))
theorem bkX11_goesOnBehind_131 {X : GX} {h : SH} {nc ns : Nat} {P : Out → SH → Prop} {a0 : Nat} {xs0 : Int32} (kt : ¬ xs0 = 0 → Gd X mX11_goesOnBehind 143 [some (.ref a0)] [] (h) nc ns P) (kf : xs0 = 0 → Gd X mX11_goesOnBehind 134 [some (.ref a0)] [] (h) nc ns P) : Gd X mX11_goesOnBehind 131 [some (.ref a0)] [.int xs0] h nc ns P := by
  exact g_if_ne (tgt := 143) dX11_goesOnBehind_131 (by decide) (fun q => Gd.wk (kt q) ⟨rfl, trivial⟩) (fun q => Gd.wk (kf q) ⟨rfl, trivial⟩)
theorem bkX11_goesOnBehind_134 {X : GX} {h : SH} {nc ns : Nat} {P : Out → SH → Prop} {Q : Int32 → SH → Prop} {a0 : Nat} (F0 : LX11 (Sk h) (a0)) (hN : Cd X mX11_isSign [.ref a0, .int 61] (h) 0 0 (oI Q nX)) (g : ∀ r t, Q r t → Gd X mX11_goesOnBehind 140 [some (.ref a0)] [.int r] (t) nc ns P) : Gd X mX11_goesOnBehind 134 [some (.ref a0)] [] h nc ns P := by
  refine g_aload_n dX11_goesOnBehind_134 rfl ?_
  refine g_bipush (v := 61) dX11_goesOnBehind_135 (by decide) ?_
  refine Gd.z ?_
  exact g_callV (k := 11) [.int 61] dX11_goesOnBehind_137 mfX11_isSign ⟨by decide, by decide⟩ kw_1367 kw_1369 kw_55 rfl (by decide) (Nat.le_of_ble_eq_true rfl) (by intro x hx; cases hx) (LX11.o (h := h) F0) (Nat.le_of_ble_eq_true rfl) hN (fun _ _ q => q.elim) (oI_go (G := fun a b => Gd X mX11_goesOnBehind 140 _ a b nc ns P) (fun r t q => Gd.wk (g r t q) ⟨rfl, trivial⟩))
theorem bkX11_goesOnBehind_140 {X : GX} {h : SH} {nc ns : Nat} {P : Out → SH → Prop} {a0 : Nat} {xs0 : Int32} (kt : xs0 = 0 → Gd X mX11_goesOnBehind 179 [some (.ref a0)] [] (h) nc ns P) (kf : ¬ xs0 = 0 → Gd X mX11_goesOnBehind 143 [some (.ref a0)] [] (h) nc ns P) : Gd X mX11_goesOnBehind 140 [some (.ref a0)] [.int xs0] h nc ns P := by
  exact g_if_eq (tgt := 179) dX11_goesOnBehind_140 (by decide) (fun q => Gd.wk (kt q) ⟨rfl, trivial⟩) (fun q => Gd.wk (kf q) ⟨rfl, trivial⟩)
theorem bkX11_goesOnBehind_143 {X : GX} {h : SH} {nc ns : Nat} {P : Out → SH → Prop} {Q : Int32 → SH → Prop} {a0 : Nat} (F0 : LX11 (Sk h) (a0)) (hN : Cd X mX11_isSign [.ref a0, .int 60] (h) 0 0 (oI Q nX)) (g : ∀ r t, Q r t → Gd X mX11_goesOnBehind 157 [some (.ref a0)] [.int r, .int (hI h a0 31), .ref (a0 + 26)] (t) nc ns P) : Gd X mX11_goesOnBehind 143 [some (.ref a0)] [] h nc ns P := by
  refine g_aload_n dX11_goesOnBehind_143 rfl ?_
  refine g_getAs (c := 11) (k := 33) (b := a0 + 26) dX11_goesOnBehind_144 (by decide) (by decide) kw_1160 rfl (LX11.o (h := h) F0) (LX11.r_signWaits (h := h) F0) ?_
  refine g_aload_n dX11_goesOnBehind_147 rfl ?_
  refine g_getI (c := 11) (k := 31) dX11_goesOnBehind_148 (by decide) (by decide) kw_1158 rfl (LX11.o (h := h) F0) ?_
  refine g_aload_n dX11_goesOnBehind_151 rfl ?_
  refine g_bipush (v := 60) dX11_goesOnBehind_152 (by decide) ?_
  refine Gd.z ?_
  exact g_callV (k := 11) [.int 60] dX11_goesOnBehind_154 mfX11_isSign ⟨by decide, by decide⟩ kw_1367 kw_1369 kw_55 rfl (by decide) (Nat.le_of_ble_eq_true rfl) (by intro x hx; cases hx) (LX11.o (h := h) F0) (Nat.le_of_ble_eq_true rfl) hN (fun _ _ q => q.elim) (oI_go (G := fun a b => Gd X mX11_goesOnBehind 157 _ a b nc ns P) (fun r t q => Gd.wk (g r t q) ⟨rfl, trivial⟩))
theorem bkX11_goesOnBehind_157 {X : GX} {h : SH} {nc ns : Nat} {P : Out → SH → Prop} {a0 : Nat} {as0 : Nat} {xs1 : Int32} {xs2 : Int32} (kt : xs2 = 0 → Gd X mX11_goesOnBehind 164 [some (.ref a0)] [.int xs1, .ref as0] (h) nc ns P) (kf : ¬ xs2 = 0 → Gd X mX11_goesOnBehind 160 [some (.ref a0)] [.int xs1, .ref as0] (h) nc ns P) : Gd X mX11_goesOnBehind 157 [some (.ref a0)] [.int xs2, .int xs1, .ref as0] h nc ns P := by
  exact g_if_eq (tgt := 164) dX11_goesOnBehind_157 (by decide) (fun q => Gd.wk (kt q) ⟨rfl, trivial⟩) (fun q => Gd.wk (kf q) ⟨rfl, trivial⟩)
theorem bkX11_goesOnBehind_160 {X : GX} {h : SH} {nc ns : Nat} {P : Out → SH → Prop} {a0 : Nat} {as0 : Nat} {xs1 : Int32} (g : Gd X mX11_goesOnBehind 166 [some (.ref a0)] [.int 5, .int xs1, .ref as0] (h) nc ns P) : Gd X mX11_goesOnBehind 160 [some (.ref a0)] [.int xs1, .ref as0] h nc ns P := by
  refine g_iconst (v := 5) dX11_goesOnBehind_160 (by decide) ?_
  refine g_goto (tgt := 166) dX11_goesOnBehind_161 (by decide) ?_
  exact Gd.wk g ⟨rfl, trivial⟩
theorem bkX11_goesOnBehind_164 {X : GX} {h : SH} {nc ns : Nat} {P : Out → SH → Prop} {a0 : Nat} {as0 : Nat} {xs1 : Int32} (g : Gd X mX11_goesOnBehind 166 [some (.ref a0)] [.int 6, .int xs1, .ref as0] (h) nc ns P) : Gd X mX11_goesOnBehind 164 [some (.ref a0)] [.int xs1, .ref as0] h nc ns P := by
  refine g_bipush (v := 6) dX11_goesOnBehind_164 (by decide) ?_
  exact Gd.wk g ⟨rfl, trivial⟩
theorem bkX11_goesOnBehind_166 {X : GX} {h : SH} {nc ns : Nat} {P : Out → SH → Prop} {a0 : Nat} {as0 : Nat} {xs1 : Int32} {xs2 : Int32} {n4 : Nat} (B0 : Ar h (as0) 20 n4) (i1 : vp_in (xs1) n4) (F2 : LX11 (Sk h) (a0)) (hp : P (.inl (some (.int (1)))) (sI (sI h as0 ((xs1 : Int32).toNatClampNeg) xs2) a0 7 ((hI (sI h as0 ((xs1 : Int32).toNatClampNeg) xs2) a0 7) + 1))) : Gd X mX11_goesOnBehind 166 [some (.ref a0)] [.int xs2, .int xs1, .ref as0] h nc ns P := by
  refine g_iastore dX11_goesOnBehind_166 B0 i1 ?_
  refine g_aload_n dX11_goesOnBehind_167 rfl ?_
  refine g_dup dX11_goesOnBehind_168 rfl ?_
  refine g_getI (c := 11) (k := 7) dX11_goesOnBehind_169 (by decide) (by decide) kw_1134 rfl (LX11.o (h := sI h as0 ((xs1 : Int32).toNatClampNeg) xs2) F2) ?_
  refine g_iconst (v := 1) dX11_goesOnBehind_172 (by decide) ?_
  refine g_iadd dX11_goesOnBehind_173 ?_
  refine g_put (c := 11) (k := 7) (h1 := sI (sI h as0 ((xs1 : Int32).toNatClampNeg) xs2) a0 7 ((hI (sI h as0 ((xs1 : Int32).toNatClampNeg) xs2) a0 7) + 1)) dX11_goesOnBehind_174 (by decide) (by decide) kw_1134 rfl (LX11.o (h := sI h as0 ((xs1 : Int32).toNatClampNeg) xs2) F2) rfl rfl (Put.I rfl) ?_
  refine g_iconst (v := 1) dX11_goesOnBehind_177 (by decide) ?_
  exact g_ireturn (st := []) dX11_goesOnBehind_178 rfl (bl_n (by decide)) hp
theorem bkX11_goesOnBehind_179 {X : GX} {h : SH} {nc ns : Nat} {P : Out → SH → Prop} {a0 : Nat} (F0 : LX11 (Sk h) (a0)) (kt : ¬ hI h a0 31 = 0 → Gd X mX11_goesOnBehind 188 [some (.ref a0)] [] (h) nc ns P) (kf : hI h a0 31 = 0 → Gd X mX11_goesOnBehind 186 [none] [] (h) nc ns P) : Gd X mX11_goesOnBehind 179 [some (.ref a0)] [] h nc ns P := by
  refine g_aload_n dX11_goesOnBehind_179 rfl ?_
  refine g_getI (c := 11) (k := 31) dX11_goesOnBehind_180 (by decide) (by decide) kw_1158 rfl (LX11.o (h := h) F0) ?_
  exact g_if_ne (tgt := 188) dX11_goesOnBehind_183 (by decide) (fun q => Gd.wk (kt q) ⟨rfl, trivial⟩) (fun q => Gd.wk (kf q) trivial)
theorem bkX11_goesOnBehind_186 {X : GX} {h : SH} {nc ns : Nat} {P : Out → SH → Prop} (hp : P (.inl (some (.int (0)))) (h)) : Gd X mX11_goesOnBehind 186 [none] [] h nc ns P := by
  refine g_iconst (v := 0) dX11_goesOnBehind_186 (by decide) ?_
  exact g_ireturn (st := []) dX11_goesOnBehind_187 rfl (bl_n (by decide)) hp
theorem bkX11_goesOnBehind_188 {X : GX} {h : SH} {nc ns : Nat} {P : Out → SH → Prop} {Q : SH → Prop} {a0 : Nat} (F0 : LX11 (Sk h) (a0)) (hN : Cd X mX11_takeSign [.ref a0, .int 41] (h) 0 0 (oV Q nX)) (g : ∀ t, Q t → Gd X mX11_goesOnBehind 194 [some (.ref a0)] [] (t) nc ns P) : Gd X mX11_goesOnBehind 188 [some (.ref a0)] [] h nc ns P := by
  refine g_aload_n dX11_goesOnBehind_188 rfl ?_
  refine g_bipush (v := 41) dX11_goesOnBehind_189 (by decide) ?_
  refine Gd.z ?_
  exact g_callV (k := 11) [.int 41] dX11_goesOnBehind_191 mfX11_takeSign ⟨by decide, by decide⟩ kw_1363 kw_1365 kw_54 rfl (by decide) (Nat.le_of_ble_eq_true rfl) (by intro x hx; cases hx) (LX11.o (h := h) F0) (Nat.le_of_ble_eq_true rfl) hN (fun _ _ q => q.elim) (oV_go (G := fun a b => Gd X mX11_goesOnBehind 194 _ a b nc ns P) (fun t q => Gd.wk (g t q) ⟨rfl, trivial⟩))
theorem bkX11_goesOnBehind_194 {X : GX} {h : SH} {nc ns : Nat} {P : Out → SH → Prop} {a0 : Nat} (F0 : LX11 (Sk h) (a0)) (g : Gd X mX11_goesOnBehind 0 [some (.ref a0)] [] (sI h a0 31 (hI h a0 31 - 1)) nc ns P) : Gd X mX11_goesOnBehind 194 [some (.ref a0)] [] h nc ns P := by
  refine g_aload_n dX11_goesOnBehind_194 rfl ?_
  refine g_dup dX11_goesOnBehind_195 rfl ?_
  refine g_getI (c := 11) (k := 31) dX11_goesOnBehind_196 (by decide) (by decide) kw_1158 rfl (LX11.o (h := h) F0) ?_
  refine g_iconst (v := 1) dX11_goesOnBehind_199 (by decide) ?_
  refine g_isub dX11_goesOnBehind_200 ?_
  refine g_put (c := 11) (k := 31) (h1 := sI h a0 31 (hI h a0 31 - 1)) dX11_goesOnBehind_201 (by decide) (by decide) kw_1158 rfl (LX11.o (h := h) F0) rfl rfl (Put.I rfl) ?_
  refine g_goto (tgt := 0) dX11_goesOnBehind_204 (by decide) ?_
  exact Gd.wk g ⟨rfl, trivial⟩
theorem bkX11_goesOnBehind_207 {X : GX} {h : SH} {nc ns : Nat} {P : Out → SH → Prop} (hp : P (.inl (some (.int (0)))) (h)) : Gd X mX11_goesOnBehind 207 [none] [] h nc ns P := by
  refine g_iconst (v := 0) dX11_goesOnBehind_207 (by decide) ?_
  exact g_ireturn (st := []) dX11_goesOnBehind_208 rfl (bl_n (by decide)) hp
theorem bkX11_keeps_0 {X : GX} {h : SH} {nc ns : Nat} {P : Out → SH → Prop} {a0 : Nat} {x1 : Int32} (F0 : LX11 (Sk h) (a0)) (i1 : vp_in (6) 7) (i2 : vp_in (x1) 7) (g : Gd X mX11_keeps 28 [some (.ref a0), some (.int x1), some (.int 0), none, none] [] (sI (sI h (a0 + 7) ((x1 : Int32).toNatClampNeg) (hI h (a0 + 7) ((6 : Int32).toNatClampNeg))) (a0 + 11) ((x1 : Int32).toNatClampNeg) (hI (sI h (a0 + 7) ((x1 : Int32).toNatClampNeg) (hI h (a0 + 7) ((6 : Int32).toNatClampNeg))) (a0 + 11) ((6 : Int32).toNatClampNeg))) nc ns P) : Gd X mX11_keeps 0 [some (.ref a0), some (.int x1), none, none, none] [] h nc ns P := by
  refine g_aload_n dX11_keeps_0 rfl ?_
  refine g_getAs (c := 11) (k := 12) (b := a0 + 7) dX11_keeps_1 (by decide) (by decide) kw_1139 rfl (LX11.o (h := h) F0) (LX11.r_facts (h := h) F0) ?_
  refine g_iload_n dX11_keeps_4 rfl ?_
  refine g_aload_n dX11_keeps_5 rfl ?_
  refine g_getAs (c := 11) (k := 12) (b := a0 + 7) dX11_keeps_6 (by decide) (by decide) kw_1139 rfl (LX11.o (h := h) F0) (LX11.r_facts (h := h) F0) ?_
  refine g_bipush (v := 6) dX11_keeps_9 (by decide) ?_
  refine g_iaload dX11_keeps_11 (LX11.a_facts (h := h) F0) i1 ?_
  refine g_iastore dX11_keeps_12 (LX11.a_facts (h := h) F0) i2 ?_
  refine g_aload_n dX11_keeps_13 rfl ?_
  refine g_getAs (c := 11) (k := 16) (b := a0 + 11) dX11_keeps_14 (by decide) (by decide) kw_1143 rfl (LX11.o (h := sI h (a0 + 7) ((x1 : Int32).toNatClampNeg) (hI h (a0 + 7) ((6 : Int32).toNatClampNeg))) F0) (LX11.r_clauses (h := sI h (a0 + 7) ((x1 : Int32).toNatClampNeg) (hI h (a0 + 7) ((6 : Int32).toNatClampNeg))) F0) ?_
  refine g_iload_n dX11_keeps_17 rfl ?_
  refine g_aload_n dX11_keeps_18 rfl ?_
  refine g_getAs (c := 11) (k := 16) (b := a0 + 11) dX11_keeps_19 (by decide) (by decide) kw_1143 rfl (LX11.o (h := sI h (a0 + 7) ((x1 : Int32).toNatClampNeg) (hI h (a0 + 7) ((6 : Int32).toNatClampNeg))) F0) (LX11.r_clauses (h := sI h (a0 + 7) ((x1 : Int32).toNatClampNeg) (hI h (a0 + 7) ((6 : Int32).toNatClampNeg))) F0) ?_
  refine g_bipush (v := 6) dX11_keeps_22 (by decide) ?_
  refine g_iaload dX11_keeps_24 (LX11.a_clauses (h := sI h (a0 + 7) ((x1 : Int32).toNatClampNeg) (hI h (a0 + 7) ((6 : Int32).toNatClampNeg))) F0) i1 ?_
  refine g_iastore dX11_keeps_25 (LX11.a_clauses (h := sI h (a0 + 7) ((x1 : Int32).toNatClampNeg) (hI h (a0 + 7) ((6 : Int32).toNatClampNeg))) F0) i2 ?_
  refine g_iconst (v := 0) dX11_keeps_26 (by decide) ?_
  refine g_istore_n (L' := [some (.ref a0), some (.int x1), some (.int 0), none, none]) dX11_keeps_27 (by decide) rfl ?_
  exact Gd.wk g ⟨rfl, ⟨rfl, ⟨rfl, trivial⟩⟩⟩
theorem bkX11_keeps_28 {X : GX} {h : SH} {nc ns : Nat} {P : Out → SH → Prop} {a0 : Nat} {x1 : Int32} {x2 : Int32} (kt : (8 : Int32) ≤ x2 → Gd X mX11_keeps 100 [some (.ref a0), some (.int x1), none, none, none] [] (h) nc ns P) (kf : ¬ (8 : Int32) ≤ x2 → Gd X mX11_keeps 34 [some (.ref a0), some (.int x1), some (.int x2), none, none] [] (h) nc ns P) : Gd X mX11_keeps 28 [some (.ref a0), some (.int x1), some (.int x2), none, none] [] h nc ns P := by
  refine g_iload_n dX11_keeps_28 rfl ?_
  refine g_bipush (v := 8) dX11_keeps_29 (by decide) ?_
  exact g_icmp_ge (tgt := 100) dX11_keeps_31 (by decide) (fun q => Gd.wk (kt q) ⟨rfl, ⟨rfl, trivial⟩⟩) (fun q => Gd.wk (kf q) ⟨rfl, ⟨rfl, ⟨rfl, trivial⟩⟩⟩)
theorem bkX11_keeps_34 {X : GX} {h : SH} {nc ns : Nat} {P : Out → SH → Prop} {a0 : Nat} {x1 : Int32} {x2 : Int32} (F0 : LX11 (Sk h) (a0)) (i1 : vp_in (48 + x2) 56) (i2 : vp_in ((8 * x1) + x2) 56) (g : Gd X mX11_keeps 94 [some (.ref a0), some (.int x1), some (.int x2), none, none] [] (sI (sI (sJ h (a0 + 8) (((8 * x1) + x2 : Int32).toNatClampNeg) (hJ h (a0 + 8) ((48 + x2 : Int32).toNatClampNeg))) (a0 + 9) (((8 * x1) + x2 : Int32).toNatClampNeg) (hI (sJ h (a0 + 8) (((8 * x1) + x2 : Int32).toNatClampNeg) (hJ h (a0 + 8) ((48 + x2 : Int32).toNatClampNeg))) (a0 + 9) ((48 + x2 : Int32).toNatClampNeg))) (a0 + 10) (((8 * x1) + x2 : Int32).toNatClampNeg) (hI (sI (sJ h (a0 + 8) (((8 * x1) + x2 : Int32).toNatClampNeg) (hJ h (a0 + 8) ((48 + x2 : Int32).toNatClampNeg))) (a0 + 9) (((8 * x1) + x2 : Int32).toNatClampNeg) (hI (sJ h (a0 + 8) (((8 * x1) + x2 : Int32).toNatClampNeg) (hJ h (a0 + 8) ((48 + x2 : Int32).toNatClampNeg))) (a0 + 9) ((48 + x2 : Int32).toNatClampNeg))) (a0 + 10) ((48 + x2 : Int32).toNatClampNeg))) nc ns P) : Gd X mX11_keeps 34 [some (.ref a0), some (.int x1), some (.int x2), none, none] [] h nc ns P := by
  refine g_aload_n dX11_keeps_34 rfl ?_
  refine g_getAs (c := 11) (k := 13) (b := a0 + 8) dX11_keeps_35 (by decide) (by decide) kw_1140 rfl (LX11.o (h := h) F0) (LX11.r_factName (h := h) F0) ?_
  refine g_bipush (v := 8) dX11_keeps_38 (by decide) ?_
  refine g_iload_n dX11_keeps_40 rfl ?_
  refine g_imul dX11_keeps_41 ?_
  refine g_iload_n dX11_keeps_42 rfl ?_
  refine g_iadd dX11_keeps_43 ?_
  refine g_aload_n dX11_keeps_44 rfl ?_
  refine g_getAs (c := 11) (k := 13) (b := a0 + 8) dX11_keeps_45 (by decide) (by decide) kw_1140 rfl (LX11.o (h := h) F0) (LX11.r_factName (h := h) F0) ?_
  refine g_bipush (v := 48) dX11_keeps_48 (by decide) ?_
  refine g_iload_n dX11_keeps_50 rfl ?_
  refine g_iadd dX11_keeps_51 ?_
  refine g_laload dX11_keeps_52 (LX11.a_factName (h := h) F0) i1 ?_
  refine g_lastore dX11_keeps_53 (LX11.a_factName (h := h) F0) i2 ?_
  refine g_aload_n dX11_keeps_54 rfl ?_
  refine g_getAs (c := 11) (k := 14) (b := a0 + 9) dX11_keeps_55 (by decide) (by decide) kw_1141 rfl (LX11.o (h := sJ h (a0 + 8) (((8 * x1) + x2 : Int32).toNatClampNeg) (hJ h (a0 + 8) ((48 + x2 : Int32).toNatClampNeg))) F0) (LX11.r_least (h := sJ h (a0 + 8) (((8 * x1) + x2 : Int32).toNatClampNeg) (hJ h (a0 + 8) ((48 + x2 : Int32).toNatClampNeg))) F0) ?_
  refine g_bipush (v := 8) dX11_keeps_58 (by decide) ?_
  refine g_iload_n dX11_keeps_60 rfl ?_
  refine g_imul dX11_keeps_61 ?_
  refine g_iload_n dX11_keeps_62 rfl ?_
  refine g_iadd dX11_keeps_63 ?_
  refine g_aload_n dX11_keeps_64 rfl ?_
  refine g_getAs (c := 11) (k := 14) (b := a0 + 9) dX11_keeps_65 (by decide) (by decide) kw_1141 rfl (LX11.o (h := sJ h (a0 + 8) (((8 * x1) + x2 : Int32).toNatClampNeg) (hJ h (a0 + 8) ((48 + x2 : Int32).toNatClampNeg))) F0) (LX11.r_least (h := sJ h (a0 + 8) (((8 * x1) + x2 : Int32).toNatClampNeg) (hJ h (a0 + 8) ((48 + x2 : Int32).toNatClampNeg))) F0) ?_
  refine g_bipush (v := 48) dX11_keeps_68 (by decide) ?_
  refine g_iload_n dX11_keeps_70 rfl ?_
  refine g_iadd dX11_keeps_71 ?_
  refine g_iaload dX11_keeps_72 (LX11.a_least (h := sJ h (a0 + 8) (((8 * x1) + x2 : Int32).toNatClampNeg) (hJ h (a0 + 8) ((48 + x2 : Int32).toNatClampNeg))) F0) i1 ?_
  refine g_iastore dX11_keeps_73 (LX11.a_least (h := sJ h (a0 + 8) (((8 * x1) + x2 : Int32).toNatClampNeg) (hJ h (a0 + 8) ((48 + x2 : Int32).toNatClampNeg))) F0) i2 ?_
  refine g_aload_n dX11_keeps_74 rfl ?_
  refine g_getAs (c := 11) (k := 15) (b := a0 + 10) dX11_keeps_75 (by decide) (by decide) kw_1142 rfl (LX11.o (h := sI (sJ h (a0 + 8) (((8 * x1) + x2 : Int32).toNatClampNeg) (hJ h (a0 + 8) ((48 + x2 : Int32).toNatClampNeg))) (a0 + 9) (((8 * x1) + x2 : Int32).toNatClampNeg) (hI (sJ h (a0 + 8) (((8 * x1) + x2 : Int32).toNatClampNeg) (hJ h (a0 + 8) ((48 + x2 : Int32).toNatClampNeg))) (a0 + 9) ((48 + x2 : Int32).toNatClampNeg))) F0) (LX11.r_most (h := sI (sJ h (a0 + 8) (((8 * x1) + x2 : Int32).toNatClampNeg) (hJ h (a0 + 8) ((48 + x2 : Int32).toNatClampNeg))) (a0 + 9) (((8 * x1) + x2 : Int32).toNatClampNeg) (hI (sJ h (a0 + 8) (((8 * x1) + x2 : Int32).toNatClampNeg) (hJ h (a0 + 8) ((48 + x2 : Int32).toNatClampNeg))) (a0 + 9) ((48 + x2 : Int32).toNatClampNeg))) F0) ?_
  refine g_bipush (v := 8) dX11_keeps_78 (by decide) ?_
  refine g_iload_n dX11_keeps_80 rfl ?_
  refine g_imul dX11_keeps_81 ?_
  refine g_iload_n dX11_keeps_82 rfl ?_
  refine g_iadd dX11_keeps_83 ?_
  refine g_aload_n dX11_keeps_84 rfl ?_
  refine g_getAs (c := 11) (k := 15) (b := a0 + 10) dX11_keeps_85 (by decide) (by decide) kw_1142 rfl (LX11.o (h := sI (sJ h (a0 + 8) (((8 * x1) + x2 : Int32).toNatClampNeg) (hJ h (a0 + 8) ((48 + x2 : Int32).toNatClampNeg))) (a0 + 9) (((8 * x1) + x2 : Int32).toNatClampNeg) (hI (sJ h (a0 + 8) (((8 * x1) + x2 : Int32).toNatClampNeg) (hJ h (a0 + 8) ((48 + x2 : Int32).toNatClampNeg))) (a0 + 9) ((48 + x2 : Int32).toNatClampNeg))) F0) (LX11.r_most (h := sI (sJ h (a0 + 8) (((8 * x1) + x2 : Int32).toNatClampNeg) (hJ h (a0 + 8) ((48 + x2 : Int32).toNatClampNeg))) (a0 + 9) (((8 * x1) + x2 : Int32).toNatClampNeg) (hI (sJ h (a0 + 8) (((8 * x1) + x2 : Int32).toNatClampNeg) (hJ h (a0 + 8) ((48 + x2 : Int32).toNatClampNeg))) (a0 + 9) ((48 + x2 : Int32).toNatClampNeg))) F0) ?_
  refine g_bipush (v := 48) dX11_keeps_88 (by decide) ?_
  refine g_iload_n dX11_keeps_90 rfl ?_
  refine g_iadd dX11_keeps_91 ?_
  refine g_iaload dX11_keeps_92 (LX11.a_most (h := sI (sJ h (a0 + 8) (((8 * x1) + x2 : Int32).toNatClampNeg) (hJ h (a0 + 8) ((48 + x2 : Int32).toNatClampNeg))) (a0 + 9) (((8 * x1) + x2 : Int32).toNatClampNeg) (hI (sJ h (a0 + 8) (((8 * x1) + x2 : Int32).toNatClampNeg) (hJ h (a0 + 8) ((48 + x2 : Int32).toNatClampNeg))) (a0 + 9) ((48 + x2 : Int32).toNatClampNeg))) F0) i1 ?_
  refine g_iastore dX11_keeps_93 (LX11.a_most (h := sI (sJ h (a0 + 8) (((8 * x1) + x2 : Int32).toNatClampNeg) (hJ h (a0 + 8) ((48 + x2 : Int32).toNatClampNeg))) (a0 + 9) (((8 * x1) + x2 : Int32).toNatClampNeg) (hI (sJ h (a0 + 8) (((8 * x1) + x2 : Int32).toNatClampNeg) (hJ h (a0 + 8) ((48 + x2 : Int32).toNatClampNeg))) (a0 + 9) ((48 + x2 : Int32).toNatClampNeg))) F0) i2 ?_
  exact Gd.wk g ⟨rfl, ⟨rfl, ⟨rfl, trivial⟩⟩⟩
theorem bkX11_keeps_100 {X : GX} {h : SH} {nc ns : Nat} {P : Out → SH → Prop} {a0 : Nat} {x1 : Int32} (g : Gd X mX11_keeps 102 [some (.ref a0), some (.int x1), some (.int 0), none, none] [] (h) nc ns P) : Gd X mX11_keeps 100 [some (.ref a0), some (.int x1), none, none, none] [] h nc ns P := by
  refine g_iconst (v := 0) dX11_keeps_100 (by decide) ?_
  refine g_istore_n (L' := [some (.ref a0), some (.int x1), some (.int 0), none, none]) dX11_keeps_101 (by decide) rfl ?_
  exact Gd.wk g ⟨rfl, ⟨rfl, ⟨rfl, trivial⟩⟩⟩
theorem bkX11_keeps_102 {X : GX} {h : SH} {nc ns : Nat} {P : Out → SH → Prop} {a0 : Nat} {x1 : Int32} {x2 : Int32} (kt : (12 : Int32) ≤ x2 → Gd X mX11_keeps 192 [some (.ref a0), some (.int x1), none, none, none] [] (h) nc ns P) (kf : ¬ (12 : Int32) ≤ x2 → Gd X mX11_keeps 108 [some (.ref a0), some (.int x1), some (.int x2), none, none] [] (h) nc ns P) : Gd X mX11_keeps 102 [some (.ref a0), some (.int x1), some (.int x2), none, none] [] h nc ns P := by
  refine g_iload_n dX11_keeps_102 rfl ?_
  refine g_bipush (v := 12) dX11_keeps_103 (by decide) ?_
  exact g_icmp_ge (tgt := 192) dX11_keeps_105 (by decide) (fun q => Gd.wk (kt q) ⟨rfl, ⟨rfl, trivial⟩⟩) (fun q => Gd.wk (kf q) ⟨rfl, ⟨rfl, ⟨rfl, trivial⟩⟩⟩)
theorem bkX11_keeps_108 {X : GX} {h : SH} {nc ns : Nat} {P : Out → SH → Prop} {a0 : Nat} {x1 : Int32} {x2 : Int32} (F0 : LX11 (Sk h) (a0)) (i1 : vp_in (72 + x2) 84) (i2 : vp_in ((12 * x1) + x2) 84) (g : Gd X mX11_keeps 160 [some (.ref a0), some (.int x1), some (.int x2), some (.int ((12 * x1) + x2)), some (.int (72 + x2))] [] (sI (sI (sI h (a0 + 13) (((12 * x1) + x2 : Int32).toNatClampNeg) (hI h (a0 + 13) ((72 + x2 : Int32).toNatClampNeg))) (a0 + 14) (((12 * x1) + x2 : Int32).toNatClampNeg) (vp_nar .boolean (hI (sI h (a0 + 13) (((12 * x1) + x2 : Int32).toNatClampNeg) (hI h (a0 + 13) ((72 + x2 : Int32).toNatClampNeg))) (a0 + 14) ((72 + x2 : Int32).toNatClampNeg)))) (a0 + 15) (((12 * x1) + x2 : Int32).toNatClampNeg) (hI (sI (sI h (a0 + 13) (((12 * x1) + x2 : Int32).toNatClampNeg) (hI h (a0 + 13) ((72 + x2 : Int32).toNatClampNeg))) (a0 + 14) (((12 * x1) + x2 : Int32).toNatClampNeg) (vp_nar .boolean (hI (sI h (a0 + 13) (((12 * x1) + x2 : Int32).toNatClampNeg) (hI h (a0 + 13) ((72 + x2 : Int32).toNatClampNeg))) (a0 + 14) ((72 + x2 : Int32).toNatClampNeg)))) (a0 + 15) ((72 + x2 : Int32).toNatClampNeg))) nc ns P) : Gd X mX11_keeps 108 [some (.ref a0), some (.int x1), some (.int x2), none, none] [] h nc ns P := by
  refine g_bipush (v := 12) dX11_keeps_108 (by decide) ?_
  refine g_iload_n dX11_keeps_110 rfl ?_
  refine g_imul dX11_keeps_111 ?_
  refine g_iload_n dX11_keeps_112 rfl ?_
  refine g_iadd dX11_keeps_113 ?_
  refine g_istore_n (L' := [some (.ref a0), some (.int x1), some (.int x2), some (.int ((12 * x1) + x2)), none]) dX11_keeps_114 (by decide) rfl ?_
  refine g_bipush (v := 72) dX11_keeps_115 (by decide) ?_
  refine g_iload_n dX11_keeps_117 rfl ?_
  refine g_iadd dX11_keeps_118 ?_
  refine g_istore (L' := [some (.ref a0), some (.int x1), some (.int x2), some (.int ((12 * x1) + x2)), some (.int (72 + x2))]) dX11_keeps_119 (by decide) rfl ?_
  refine g_aload_n dX11_keeps_121 rfl ?_
  refine g_getAs (c := 11) (k := 18) (b := a0 + 13) dX11_keeps_122 (by decide) (by decide) kw_1145 rfl (LX11.o (h := h) F0) (LX11.r_placeOf (h := h) F0) ?_
  refine g_iload_n dX11_keeps_125 rfl ?_
  refine g_aload_n dX11_keeps_126 rfl ?_
  refine g_getAs (c := 11) (k := 18) (b := a0 + 13) dX11_keeps_127 (by decide) (by decide) kw_1145 rfl (LX11.o (h := h) F0) (LX11.r_placeOf (h := h) F0) ?_
  refine g_iload dX11_keeps_130 rfl ?_
  refine g_iaload dX11_keeps_132 (LX11.a_placeOf (h := h) F0) i1 ?_
  refine g_iastore dX11_keeps_133 (LX11.a_placeOf (h := h) F0) i2 ?_
  refine g_aload_n dX11_keeps_134 rfl ?_
  refine g_getAs (c := 11) (k := 19) (b := a0 + 14) dX11_keeps_135 (by decide) (by decide) kw_1146 rfl (LX11.o (h := sI h (a0 + 13) (((12 * x1) + x2 : Int32).toNatClampNeg) (hI h (a0 + 13) ((72 + x2 : Int32).toNatClampNeg))) F0) (LX11.r_isMust (h := sI h (a0 + 13) (((12 * x1) + x2 : Int32).toNatClampNeg) (hI h (a0 + 13) ((72 + x2 : Int32).toNatClampNeg))) F0) ?_
  refine g_iload_n dX11_keeps_138 rfl ?_
  refine g_aload_n dX11_keeps_139 rfl ?_
  refine g_getAs (c := 11) (k := 19) (b := a0 + 14) dX11_keeps_140 (by decide) (by decide) kw_1146 rfl (LX11.o (h := sI h (a0 + 13) (((12 * x1) + x2 : Int32).toNatClampNeg) (hI h (a0 + 13) ((72 + x2 : Int32).toNatClampNeg))) F0) (LX11.r_isMust (h := sI h (a0 + 13) (((12 * x1) + x2 : Int32).toNatClampNeg) (hI h (a0 + 13) ((72 + x2 : Int32).toNatClampNeg))) F0) ?_
  refine g_iload dX11_keeps_143 rfl ?_
  refine g_zaload dX11_keeps_145 (LX11.a_isMust (h := sI h (a0 + 13) (((12 * x1) + x2 : Int32).toNatClampNeg) (hI h (a0 + 13) ((72 + x2 : Int32).toNatClampNeg))) F0) i1 ?_
  refine g_zastore dX11_keeps_146 (LX11.a_isMust (h := sI h (a0 + 13) (((12 * x1) + x2 : Int32).toNatClampNeg) (hI h (a0 + 13) ((72 + x2 : Int32).toNatClampNeg))) F0) i2 ?_
  refine g_aload_n dX11_keeps_147 rfl ?_
  refine g_getAs (c := 11) (k := 20) (b := a0 + 15) dX11_keeps_148 (by decide) (by decide) kw_1147 rfl (LX11.o (h := sI (sI h (a0 + 13) (((12 * x1) + x2 : Int32).toNatClampNeg) (hI h (a0 + 13) ((72 + x2 : Int32).toNatClampNeg))) (a0 + 14) (((12 * x1) + x2 : Int32).toNatClampNeg) (vp_nar .boolean (hI (sI h (a0 + 13) (((12 * x1) + x2 : Int32).toNatClampNeg) (hI h (a0 + 13) ((72 + x2 : Int32).toNatClampNeg))) (a0 + 14) ((72 + x2 : Int32).toNatClampNeg)))) F0) (LX11.r_whenAt (h := sI (sI h (a0 + 13) (((12 * x1) + x2 : Int32).toNatClampNeg) (hI h (a0 + 13) ((72 + x2 : Int32).toNatClampNeg))) (a0 + 14) (((12 * x1) + x2 : Int32).toNatClampNeg) (vp_nar .boolean (hI (sI h (a0 + 13) (((12 * x1) + x2 : Int32).toNatClampNeg) (hI h (a0 + 13) ((72 + x2 : Int32).toNatClampNeg))) (a0 + 14) ((72 + x2 : Int32).toNatClampNeg)))) F0) ?_
  refine g_iload_n dX11_keeps_151 rfl ?_
  refine g_aload_n dX11_keeps_152 rfl ?_
  refine g_getAs (c := 11) (k := 20) (b := a0 + 15) dX11_keeps_153 (by decide) (by decide) kw_1147 rfl (LX11.o (h := sI (sI h (a0 + 13) (((12 * x1) + x2 : Int32).toNatClampNeg) (hI h (a0 + 13) ((72 + x2 : Int32).toNatClampNeg))) (a0 + 14) (((12 * x1) + x2 : Int32).toNatClampNeg) (vp_nar .boolean (hI (sI h (a0 + 13) (((12 * x1) + x2 : Int32).toNatClampNeg) (hI h (a0 + 13) ((72 + x2 : Int32).toNatClampNeg))) (a0 + 14) ((72 + x2 : Int32).toNatClampNeg)))) F0) (LX11.r_whenAt (h := sI (sI h (a0 + 13) (((12 * x1) + x2 : Int32).toNatClampNeg) (hI h (a0 + 13) ((72 + x2 : Int32).toNatClampNeg))) (a0 + 14) (((12 * x1) + x2 : Int32).toNatClampNeg) (vp_nar .boolean (hI (sI h (a0 + 13) (((12 * x1) + x2 : Int32).toNatClampNeg) (hI h (a0 + 13) ((72 + x2 : Int32).toNatClampNeg))) (a0 + 14) ((72 + x2 : Int32).toNatClampNeg)))) F0) ?_
  refine g_iload dX11_keeps_156 rfl ?_
  refine g_iaload dX11_keeps_158 (LX11.a_whenAt (h := sI (sI h (a0 + 13) (((12 * x1) + x2 : Int32).toNatClampNeg) (hI h (a0 + 13) ((72 + x2 : Int32).toNatClampNeg))) (a0 + 14) (((12 * x1) + x2 : Int32).toNatClampNeg) (vp_nar .boolean (hI (sI h (a0 + 13) (((12 * x1) + x2 : Int32).toNatClampNeg) (hI h (a0 + 13) ((72 + x2 : Int32).toNatClampNeg))) (a0 + 14) ((72 + x2 : Int32).toNatClampNeg)))) F0) i1 ?_
  refine g_iastore dX11_keeps_159 (LX11.a_whenAt (h := sI (sI h (a0 + 13) (((12 * x1) + x2 : Int32).toNatClampNeg) (hI h (a0 + 13) ((72 + x2 : Int32).toNatClampNeg))) (a0 + 14) (((12 * x1) + x2 : Int32).toNatClampNeg) (vp_nar .boolean (hI (sI h (a0 + 13) (((12 * x1) + x2 : Int32).toNatClampNeg) (hI h (a0 + 13) ((72 + x2 : Int32).toNatClampNeg))) (a0 + 14) ((72 + x2 : Int32).toNatClampNeg)))) F0) i2 ?_
  exact Gd.wk g ⟨rfl, ⟨rfl, ⟨rfl, ⟨rfl, ⟨rfl, trivial⟩⟩⟩⟩⟩
theorem bkX11_keeps_192 {X : GX} {h : SH} {nc ns : Nat} {P : Out → SH → Prop} {a0 : Nat} {x1 : Int32} (g : Gd X mX11_keeps 194 [some (.ref a0), some (.int x1), some (.int 0), none, none] [] (h) nc ns P) : Gd X mX11_keeps 192 [some (.ref a0), some (.int x1), none, none, none] [] h nc ns P := by
  refine g_iconst (v := 0) dX11_keeps_192 (by decide) ?_
  refine g_istore_n (L' := [some (.ref a0), some (.int x1), some (.int 0), none, none]) dX11_keeps_193 (by decide) rfl ?_
  exact Gd.wk g ⟨rfl, ⟨rfl, ⟨rfl, trivial⟩⟩⟩
theorem bkX11_keeps_194 {X : GX} {h : SH} {nc ns : Nat} {P : Out → SH → Prop} {a0 : Nat} {x1 : Int32} {x2 : Int32} (kt : (96 : Int32) ≤ x2 → Gd X mX11_keeps 248 [some (.ref a0), some (.int x1), none, none, none] [] (h) nc ns P) (kf : ¬ (96 : Int32) ≤ x2 → Gd X mX11_keeps 200 [some (.ref a0), some (.int x1), some (.int x2), none, none] [] (h) nc ns P) : Gd X mX11_keeps 194 [some (.ref a0), some (.int x1), some (.int x2), none, none] [] h nc ns P := by
  refine g_iload_n dX11_keeps_194 rfl ?_
  refine g_bipush (v := 96) dX11_keeps_195 (by decide) ?_
  exact g_icmp_ge (tgt := 248) dX11_keeps_197 (by decide) (fun q => Gd.wk (kt q) ⟨rfl, ⟨rfl, trivial⟩⟩) (fun q => Gd.wk (kf q) ⟨rfl, ⟨rfl, ⟨rfl, trivial⟩⟩⟩)
theorem bkX11_keeps_200 {X : GX} {h : SH} {nc ns : Nat} {P : Out → SH → Prop} {a0 : Nat} {x1 : Int32} {x2 : Int32} (F0 : LX11 (Sk h) (a0)) (i1 : vp_in (576 + x2) 672) (i2 : vp_in ((96 * x1) + x2) 672) (g : Gd X mX11_keeps 194 [some (.ref a0), some (.int x1), some (.int (x2 + 1)), none, none] [] (sI (sI h (a0 + 17) (((96 * x1) + x2 : Int32).toNatClampNeg) (hI h (a0 + 17) ((576 + x2 : Int32).toNatClampNeg))) (a0 + 18) (((96 * x1) + x2 : Int32).toNatClampNeg) (vp_nar .boolean (hI (sI h (a0 + 17) (((96 * x1) + x2 : Int32).toNatClampNeg) (hI h (a0 + 17) ((576 + x2 : Int32).toNatClampNeg))) (a0 + 18) ((576 + x2 : Int32).toNatClampNeg)))) nc ns P) : Gd X mX11_keeps 200 [some (.ref a0), some (.int x1), some (.int x2), none, none] [] h nc ns P := by
  refine g_aload_n dX11_keeps_200 rfl ?_
  refine g_getAs (c := 11) (k := 22) (b := a0 + 17) dX11_keeps_201 (by decide) (by decide) kw_1149 rfl (LX11.o (h := h) F0) (LX11.r_linkTo (h := h) F0) ?_
  refine g_bipush (v := 96) dX11_keeps_204 (by decide) ?_
  refine g_iload_n dX11_keeps_206 rfl ?_
  refine g_imul dX11_keeps_207 ?_
  refine g_iload_n dX11_keeps_208 rfl ?_
  refine g_iadd dX11_keeps_209 ?_
  refine g_aload_n dX11_keeps_210 rfl ?_
  refine g_getAs (c := 11) (k := 22) (b := a0 + 17) dX11_keeps_211 (by decide) (by decide) kw_1149 rfl (LX11.o (h := h) F0) (LX11.r_linkTo (h := h) F0) ?_
  refine g_sipush (v := 576) dX11_keeps_214 (by decide) ?_
  refine g_iload_n dX11_keeps_217 rfl ?_
  refine g_iadd dX11_keeps_218 ?_
  refine g_iaload dX11_keeps_219 (LX11.a_linkTo (h := h) F0) i1 ?_
  refine g_iastore dX11_keeps_220 (LX11.a_linkTo (h := h) F0) i2 ?_
  refine g_aload_n dX11_keeps_221 rfl ?_
  refine g_getAs (c := 11) (k := 23) (b := a0 + 18) dX11_keeps_222 (by decide) (by decide) kw_1150 rfl (LX11.o (h := sI h (a0 + 17) (((96 * x1) + x2 : Int32).toNatClampNeg) (hI h (a0 + 17) ((576 + x2 : Int32).toNatClampNeg))) F0) (LX11.r_isBar (h := sI h (a0 + 17) (((96 * x1) + x2 : Int32).toNatClampNeg) (hI h (a0 + 17) ((576 + x2 : Int32).toNatClampNeg))) F0) ?_
  refine g_bipush (v := 96) dX11_keeps_225 (by decide) ?_
  refine g_iload_n dX11_keeps_227 rfl ?_
  refine g_imul dX11_keeps_228 ?_
  refine g_iload_n dX11_keeps_229 rfl ?_
  refine g_iadd dX11_keeps_230 ?_
  refine g_aload_n dX11_keeps_231 rfl ?_
  refine g_getAs (c := 11) (k := 23) (b := a0 + 18) dX11_keeps_232 (by decide) (by decide) kw_1150 rfl (LX11.o (h := sI h (a0 + 17) (((96 * x1) + x2 : Int32).toNatClampNeg) (hI h (a0 + 17) ((576 + x2 : Int32).toNatClampNeg))) F0) (LX11.r_isBar (h := sI h (a0 + 17) (((96 * x1) + x2 : Int32).toNatClampNeg) (hI h (a0 + 17) ((576 + x2 : Int32).toNatClampNeg))) F0) ?_
  refine g_sipush (v := 576) dX11_keeps_235 (by decide) ?_
  refine g_iload_n dX11_keeps_238 rfl ?_
  refine g_iadd dX11_keeps_239 ?_
  refine g_zaload dX11_keeps_240 (LX11.a_isBar (h := sI h (a0 + 17) (((96 * x1) + x2 : Int32).toNatClampNeg) (hI h (a0 + 17) ((576 + x2 : Int32).toNatClampNeg))) F0) i1 ?_
  refine g_zastore dX11_keeps_241 (LX11.a_isBar (h := sI h (a0 + 17) (((96 * x1) + x2 : Int32).toNatClampNeg) (hI h (a0 + 17) ((576 + x2 : Int32).toNatClampNeg))) F0) i2 ?_
  refine g_iinc (v := x2 + 1) (L' := [some (.ref a0), some (.int x1), some (.int (x2 + 1)), none, none]) dX11_keeps_242 rfl rfl (by decide) rfl ?_
  refine g_goto (tgt := 194) dX11_keeps_245 (by decide) ?_
  exact Gd.wk g ⟨rfl, ⟨rfl, ⟨rfl, trivial⟩⟩⟩
theorem bkX11_keeps_248 {X : GX} {h : SH} {nc ns : Nat} {P : Out → SH → Prop} {a0 : Nat} {x1 : Int32} (g : Gd X mX11_keeps 250 [some (.ref a0), some (.int x1), some (.int 0), none, none] [] (h) nc ns P) : Gd X mX11_keeps 248 [some (.ref a0), some (.int x1), none, none, none] [] h nc ns P := by
  refine g_iconst (v := 0) dX11_keeps_248 (by decide) ?_
  refine g_istore_n (L' := [some (.ref a0), some (.int x1), some (.int 0), none, none]) dX11_keeps_249 (by decide) rfl ?_
  exact Gd.wk g ⟨rfl, ⟨rfl, ⟨rfl, trivial⟩⟩⟩
theorem bkX11_keeps_250 {X : GX} {h : SH} {nc ns : Nat} {P : Out → SH → Prop} {a0 : Nat} {x1 : Int32} {x2 : Int32} (kt : (240 : Int32) ≤ x2 → Gd X mX11_keeps 329 [some (.ref a0), some (.int x1), none, none, none] [] (h) nc ns P) (kf : ¬ (240 : Int32) ≤ x2 → Gd X mX11_keeps 257 [some (.ref a0), some (.int x1), some (.int x2), none, none] [] (h) nc ns P) : Gd X mX11_keeps 250 [some (.ref a0), some (.int x1), some (.int x2), none, none] [] h nc ns P := by
  refine g_iload_n dX11_keeps_250 rfl ?_
  refine g_sipush (v := 240) dX11_keeps_251 (by decide) ?_
  exact g_icmp_ge (tgt := 329) dX11_keeps_254 (by decide) (fun q => Gd.wk (kt q) ⟨rfl, ⟨rfl, trivial⟩⟩) (fun q => Gd.wk (kf q) ⟨rfl, ⟨rfl, ⟨rfl, trivial⟩⟩⟩)
theorem bkX11_keeps_257 {X : GX} {h : SH} {nc ns : Nat} {P : Out → SH → Prop} {a0 : Nat} {x1 : Int32} {x2 : Int32} (F0 : LX11 (Sk h) (a0)) (i1 : vp_in (1440 + x2) 1680) (i2 : vp_in ((240 * x1) + x2) 1680) (g : Gd X mX11_keeps 323 [some (.ref a0), some (.int x1), some (.int x2), none, none] [] (sJ (sI (sI h (a0 + 20) (((240 * x1) + x2 : Int32).toNatClampNeg) (hI h (a0 + 20) ((1440 + x2 : Int32).toNatClampNeg))) (a0 + 21) (((240 * x1) + x2 : Int32).toNatClampNeg) (hI (sI h (a0 + 20) (((240 * x1) + x2 : Int32).toNatClampNeg) (hI h (a0 + 20) ((1440 + x2 : Int32).toNatClampNeg))) (a0 + 21) ((1440 + x2 : Int32).toNatClampNeg))) (a0 + 22) (((240 * x1) + x2 : Int32).toNatClampNeg) (hJ (sI (sI h (a0 + 20) (((240 * x1) + x2 : Int32).toNatClampNeg) (hI h (a0 + 20) ((1440 + x2 : Int32).toNatClampNeg))) (a0 + 21) (((240 * x1) + x2 : Int32).toNatClampNeg) (hI (sI h (a0 + 20) (((240 * x1) + x2 : Int32).toNatClampNeg) (hI h (a0 + 20) ((1440 + x2 : Int32).toNatClampNeg))) (a0 + 21) ((1440 + x2 : Int32).toNatClampNeg))) (a0 + 22) ((1440 + x2 : Int32).toNatClampNeg))) nc ns P) : Gd X mX11_keeps 257 [some (.ref a0), some (.int x1), some (.int x2), none, none] [] h nc ns P := by
  refine g_aload_n dX11_keeps_257 rfl ?_
  refine g_getAs (c := 11) (k := 25) (b := a0 + 20) dX11_keeps_258 (by decide) (by decide) kw_1152 rfl (LX11.o (h := h) F0) (LX11.r_itemKind (h := h) F0) ?_
  refine g_sipush (v := 240) dX11_keeps_261 (by decide) ?_
  refine g_iload_n dX11_keeps_264 rfl ?_
  refine g_imul dX11_keeps_265 ?_
  refine g_iload_n dX11_keeps_266 rfl ?_
  refine g_iadd dX11_keeps_267 ?_
  refine g_aload_n dX11_keeps_268 rfl ?_
  refine g_getAs (c := 11) (k := 25) (b := a0 + 20) dX11_keeps_269 (by decide) (by decide) kw_1152 rfl (LX11.o (h := h) F0) (LX11.r_itemKind (h := h) F0) ?_
  refine g_sipush (v := 1440) dX11_keeps_272 (by decide) ?_
  refine g_iload_n dX11_keeps_275 rfl ?_
  refine g_iadd dX11_keeps_276 ?_
  refine g_iaload dX11_keeps_277 (LX11.a_itemKind (h := h) F0) i1 ?_
  refine g_iastore dX11_keeps_278 (LX11.a_itemKind (h := h) F0) i2 ?_
  refine g_aload_n dX11_keeps_279 rfl ?_
  refine g_getAs (c := 11) (k := 26) (b := a0 + 21) dX11_keeps_280 (by decide) (by decide) kw_1153 rfl (LX11.o (h := sI h (a0 + 20) (((240 * x1) + x2 : Int32).toNatClampNeg) (hI h (a0 + 20) ((1440 + x2 : Int32).toNatClampNeg))) F0) (LX11.r_itemAt (h := sI h (a0 + 20) (((240 * x1) + x2 : Int32).toNatClampNeg) (hI h (a0 + 20) ((1440 + x2 : Int32).toNatClampNeg))) F0) ?_
  refine g_sipush (v := 240) dX11_keeps_283 (by decide) ?_
  refine g_iload_n dX11_keeps_286 rfl ?_
  refine g_imul dX11_keeps_287 ?_
  refine g_iload_n dX11_keeps_288 rfl ?_
  refine g_iadd dX11_keeps_289 ?_
  refine g_aload_n dX11_keeps_290 rfl ?_
  refine g_getAs (c := 11) (k := 26) (b := a0 + 21) dX11_keeps_291 (by decide) (by decide) kw_1153 rfl (LX11.o (h := sI h (a0 + 20) (((240 * x1) + x2 : Int32).toNatClampNeg) (hI h (a0 + 20) ((1440 + x2 : Int32).toNatClampNeg))) F0) (LX11.r_itemAt (h := sI h (a0 + 20) (((240 * x1) + x2 : Int32).toNatClampNeg) (hI h (a0 + 20) ((1440 + x2 : Int32).toNatClampNeg))) F0) ?_
  refine g_sipush (v := 1440) dX11_keeps_294 (by decide) ?_
  refine g_iload_n dX11_keeps_297 rfl ?_
  refine g_iadd dX11_keeps_298 ?_
  refine g_iaload dX11_keeps_299 (LX11.a_itemAt (h := sI h (a0 + 20) (((240 * x1) + x2 : Int32).toNatClampNeg) (hI h (a0 + 20) ((1440 + x2 : Int32).toNatClampNeg))) F0) i1 ?_
  refine g_iastore dX11_keeps_300 (LX11.a_itemAt (h := sI h (a0 + 20) (((240 * x1) + x2 : Int32).toNatClampNeg) (hI h (a0 + 20) ((1440 + x2 : Int32).toNatClampNeg))) F0) i2 ?_
  refine g_aload_n dX11_keeps_301 rfl ?_
  refine g_getAs (c := 11) (k := 27) (b := a0 + 22) dX11_keeps_302 (by decide) (by decide) kw_1154 rfl (LX11.o (h := sI (sI h (a0 + 20) (((240 * x1) + x2 : Int32).toNatClampNeg) (hI h (a0 + 20) ((1440 + x2 : Int32).toNatClampNeg))) (a0 + 21) (((240 * x1) + x2 : Int32).toNatClampNeg) (hI (sI h (a0 + 20) (((240 * x1) + x2 : Int32).toNatClampNeg) (hI h (a0 + 20) ((1440 + x2 : Int32).toNatClampNeg))) (a0 + 21) ((1440 + x2 : Int32).toNatClampNeg))) F0) (LX11.r_itemWord (h := sI (sI h (a0 + 20) (((240 * x1) + x2 : Int32).toNatClampNeg) (hI h (a0 + 20) ((1440 + x2 : Int32).toNatClampNeg))) (a0 + 21) (((240 * x1) + x2 : Int32).toNatClampNeg) (hI (sI h (a0 + 20) (((240 * x1) + x2 : Int32).toNatClampNeg) (hI h (a0 + 20) ((1440 + x2 : Int32).toNatClampNeg))) (a0 + 21) ((1440 + x2 : Int32).toNatClampNeg))) F0) ?_
  refine g_sipush (v := 240) dX11_keeps_305 (by decide) ?_
  refine g_iload_n dX11_keeps_308 rfl ?_
  refine g_imul dX11_keeps_309 ?_
  refine g_iload_n dX11_keeps_310 rfl ?_
  refine g_iadd dX11_keeps_311 ?_
  refine g_aload_n dX11_keeps_312 rfl ?_
  refine g_getAs (c := 11) (k := 27) (b := a0 + 22) dX11_keeps_313 (by decide) (by decide) kw_1154 rfl (LX11.o (h := sI (sI h (a0 + 20) (((240 * x1) + x2 : Int32).toNatClampNeg) (hI h (a0 + 20) ((1440 + x2 : Int32).toNatClampNeg))) (a0 + 21) (((240 * x1) + x2 : Int32).toNatClampNeg) (hI (sI h (a0 + 20) (((240 * x1) + x2 : Int32).toNatClampNeg) (hI h (a0 + 20) ((1440 + x2 : Int32).toNatClampNeg))) (a0 + 21) ((1440 + x2 : Int32).toNatClampNeg))) F0) (LX11.r_itemWord (h := sI (sI h (a0 + 20) (((240 * x1) + x2 : Int32).toNatClampNeg) (hI h (a0 + 20) ((1440 + x2 : Int32).toNatClampNeg))) (a0 + 21) (((240 * x1) + x2 : Int32).toNatClampNeg) (hI (sI h (a0 + 20) (((240 * x1) + x2 : Int32).toNatClampNeg) (hI h (a0 + 20) ((1440 + x2 : Int32).toNatClampNeg))) (a0 + 21) ((1440 + x2 : Int32).toNatClampNeg))) F0) ?_
  refine g_sipush (v := 1440) dX11_keeps_316 (by decide) ?_
  refine g_iload_n dX11_keeps_319 rfl ?_
  refine g_iadd dX11_keeps_320 ?_
  refine g_laload dX11_keeps_321 (LX11.a_itemWord (h := sI (sI h (a0 + 20) (((240 * x1) + x2 : Int32).toNatClampNeg) (hI h (a0 + 20) ((1440 + x2 : Int32).toNatClampNeg))) (a0 + 21) (((240 * x1) + x2 : Int32).toNatClampNeg) (hI (sI h (a0 + 20) (((240 * x1) + x2 : Int32).toNatClampNeg) (hI h (a0 + 20) ((1440 + x2 : Int32).toNatClampNeg))) (a0 + 21) ((1440 + x2 : Int32).toNatClampNeg))) F0) i1 ?_
  refine g_lastore dX11_keeps_322 (LX11.a_itemWord (h := sI (sI h (a0 + 20) (((240 * x1) + x2 : Int32).toNatClampNeg) (hI h (a0 + 20) ((1440 + x2 : Int32).toNatClampNeg))) (a0 + 21) (((240 * x1) + x2 : Int32).toNatClampNeg) (hI (sI h (a0 + 20) (((240 * x1) + x2 : Int32).toNatClampNeg) (hI h (a0 + 20) ((1440 + x2 : Int32).toNatClampNeg))) (a0 + 21) ((1440 + x2 : Int32).toNatClampNeg))) F0) i2 ?_
  exact Gd.wk g ⟨rfl, ⟨rfl, ⟨rfl, trivial⟩⟩⟩
theorem bkX11_keeps_329 {X : GX} {h : SH} {nc ns : Nat} {P : Out → SH → Prop} {a0 : Nat} {x1 : Int32} (g : Gd X mX11_keeps 331 [some (.ref a0), some (.int x1), some (.int 0), none, none] [] (h) nc ns P) : Gd X mX11_keeps 329 [some (.ref a0), some (.int x1), none, none, none] [] h nc ns P := by
  refine g_iconst (v := 0) dX11_keeps_329 (by decide) ?_
  refine g_istore_n (L' := [some (.ref a0), some (.int x1), some (.int 0), none, none]) dX11_keeps_330 (by decide) rfl ?_
  exact Gd.wk g ⟨rfl, ⟨rfl, ⟨rfl, trivial⟩⟩⟩
theorem bkX11_keeps_331 {X : GX} {h : SH} {nc ns : Nat} {P : Out → SH → Prop} {a0 : Nat} {x1 : Int32} {x2 : Int32} (F0 : LX11 (Sk h) (a0)) (kt : hI h a0 30 ≤ x2 → Gd X mX11_keeps 389 [none, none, none, none, none] [] (h) nc ns P) (kf : ¬ hI h a0 30 ≤ x2 → Gd X mX11_keeps 339 [some (.ref a0), some (.int x1), some (.int x2), none, none] [] (h) nc ns P) : Gd X mX11_keeps 331 [some (.ref a0), some (.int x1), some (.int x2), none, none] [] h nc ns P := by
  refine g_iload_n dX11_keeps_331 rfl ?_
  refine g_aload_n dX11_keeps_332 rfl ?_
  refine g_getI (c := 11) (k := 30) dX11_keeps_333 (by decide) (by decide) kw_1157 rfl (LX11.o (h := h) F0) ?_
  exact g_icmp_ge (tgt := 389) dX11_keeps_336 (by decide) (fun q => Gd.wk (kt q) trivial) (fun q => Gd.wk (kf q) ⟨rfl, ⟨rfl, ⟨rfl, trivial⟩⟩⟩)
theorem bkX11_keeps_339 {X : GX} {h : SH} {nc ns : Nat} {P : Out → SH → Prop} {a0 : Nat} {x1 : Int32} {x2 : Int32} (F0 : LX11 (Sk h) (a0)) (i1 : vp_in (15600 + x2) 18200) (i2 : vp_in ((2600 * x1) + x2) 18200) (g : Gd X mX11_keeps 331 [some (.ref a0), some (.int x1), some (.int (x2 + 1)), none, none] [] (sI (sI h (a0 + 23) (((2600 * x1) + x2 : Int32).toNatClampNeg) (hI h (a0 + 23) ((15600 + x2 : Int32).toNatClampNeg))) (a0 + 24) (((2600 * x1) + x2 : Int32).toNatClampNeg) (hI (sI h (a0 + 23) (((2600 * x1) + x2 : Int32).toNatClampNeg) (hI h (a0 + 23) ((15600 + x2 : Int32).toNatClampNeg))) (a0 + 24) ((15600 + x2 : Int32).toNatClampNeg))) nc ns P) : Gd X mX11_keeps 339 [some (.ref a0), some (.int x1), some (.int x2), none, none] [] h nc ns P := by
  refine g_aload_n dX11_keeps_339 rfl ?_
  refine g_getAs (c := 11) (k := 28) (b := a0 + 23) dX11_keeps_340 (by decide) (by decide) kw_1155 rfl (LX11.o (h := h) F0) (LX11.r_op (h := h) F0) ?_
  refine g_sipush (v := 2600) dX11_keeps_343 (by decide) ?_
  refine g_iload_n dX11_keeps_346 rfl ?_
  refine g_imul dX11_keeps_347 ?_
  refine g_iload_n dX11_keeps_348 rfl ?_
  refine g_iadd dX11_keeps_349 ?_
  refine g_aload_n dX11_keeps_350 rfl ?_
  refine g_getAs (c := 11) (k := 28) (b := a0 + 23) dX11_keeps_351 (by decide) (by decide) kw_1155 rfl (LX11.o (h := h) F0) (LX11.r_op (h := h) F0) ?_
  refine g_sipush (v := 15600) dX11_keeps_354 (by decide) ?_
  refine g_iload_n dX11_keeps_357 rfl ?_
  refine g_iadd dX11_keeps_358 ?_
  refine g_iaload dX11_keeps_359 (LX11.a_op (h := h) F0) i1 ?_
  refine g_iastore dX11_keeps_360 (LX11.a_op (h := h) F0) i2 ?_
  refine g_aload_n dX11_keeps_361 rfl ?_
  refine g_getAs (c := 11) (k := 29) (b := a0 + 24) dX11_keeps_362 (by decide) (by decide) kw_1156 rfl (LX11.o (h := sI h (a0 + 23) (((2600 * x1) + x2 : Int32).toNatClampNeg) (hI h (a0 + 23) ((15600 + x2 : Int32).toNatClampNeg))) F0) (LX11.r_one (h := sI h (a0 + 23) (((2600 * x1) + x2 : Int32).toNatClampNeg) (hI h (a0 + 23) ((15600 + x2 : Int32).toNatClampNeg))) F0) ?_
  refine g_sipush (v := 2600) dX11_keeps_365 (by decide) ?_
  refine g_iload_n dX11_keeps_368 rfl ?_
  refine g_imul dX11_keeps_369 ?_
  refine g_iload_n dX11_keeps_370 rfl ?_
  refine g_iadd dX11_keeps_371 ?_
  refine g_aload_n dX11_keeps_372 rfl ?_
  refine g_getAs (c := 11) (k := 29) (b := a0 + 24) dX11_keeps_373 (by decide) (by decide) kw_1156 rfl (LX11.o (h := sI h (a0 + 23) (((2600 * x1) + x2 : Int32).toNatClampNeg) (hI h (a0 + 23) ((15600 + x2 : Int32).toNatClampNeg))) F0) (LX11.r_one (h := sI h (a0 + 23) (((2600 * x1) + x2 : Int32).toNatClampNeg) (hI h (a0 + 23) ((15600 + x2 : Int32).toNatClampNeg))) F0) ?_
  refine g_sipush (v := 15600) dX11_keeps_376 (by decide) ?_
  refine g_iload_n dX11_keeps_379 rfl ?_
  refine g_iadd dX11_keeps_380 ?_
  refine g_iaload dX11_keeps_381 (LX11.a_one (h := sI h (a0 + 23) (((2600 * x1) + x2 : Int32).toNatClampNeg) (hI h (a0 + 23) ((15600 + x2 : Int32).toNatClampNeg))) F0) i1 ?_
  refine g_iastore dX11_keeps_382 (LX11.a_one (h := sI h (a0 + 23) (((2600 * x1) + x2 : Int32).toNatClampNeg) (hI h (a0 + 23) ((15600 + x2 : Int32).toNatClampNeg))) F0) i2 ?_
  refine g_iinc (v := x2 + 1) (L' := [some (.ref a0), some (.int x1), some (.int (x2 + 1)), none, none]) dX11_keeps_383 rfl rfl (by decide) rfl ?_
  refine g_goto (tgt := 331) dX11_keeps_386 (by decide) ?_
  exact Gd.wk g ⟨rfl, ⟨rfl, ⟨rfl, trivial⟩⟩⟩
theorem bkX11_keeps_389 {X : GX} {h : SH} {nc ns : Nat} {P : Out → SH → Prop} (hp : P (.inl (none)) (h)) : Gd X mX11_keeps 389 [none, none, none, none, none] [] h nc ns P := by
  exact g_return (st := []) dX11_keeps_389 rfl hp
theorem bkX11_keeps_94 {X : GX} {h : SH} {nc ns : Nat} {P : Out → SH → Prop} {a0 : Nat} {x1 : Int32} {x2 : Int32} (g : Gd X mX11_keeps 28 [some (.ref a0), some (.int x1), some (.int (x2 + 1)), none, none] [] (h) nc ns P) : Gd X mX11_keeps 94 [some (.ref a0), some (.int x1), some (.int x2), none, none] [] h nc ns P := by
  refine g_iinc (v := x2 + 1) (L' := [some (.ref a0), some (.int x1), some (.int (x2 + 1)), none, none]) dX11_keeps_94 rfl rfl (by decide) rfl ?_
  refine g_goto (tgt := 28) dX11_keeps_97 (by decide) ?_
  exact Gd.wk g ⟨rfl, ⟨rfl, ⟨rfl, trivial⟩⟩⟩
theorem bkX11_keeps_160 {X : GX} {h : SH} {nc ns : Nat} {P : Out → SH → Prop} {a0 : Nat} {x1 : Int32} {x2 : Int32} {x3 : Int32} {x4 : Int32} (F0 : LX11 (Sk h) (a0)) (i1 : vp_in (x4) 84) (i2 : vp_in (x3) 84) (g : Gd X mX11_keeps 102 [some (.ref a0), some (.int x1), some (.int (x2 + 1)), none, none] [] (sI (sI h (a0 + 16) ((x3 : Int32).toNatClampNeg) (hI h (a0 + 16) ((x4 : Int32).toNatClampNeg))) (a0 + 19) ((x3 : Int32).toNatClampNeg) (hI (sI h (a0 + 16) ((x3 : Int32).toNatClampNeg) (hI h (a0 + 16) ((x4 : Int32).toNatClampNeg))) (a0 + 19) ((x4 : Int32).toNatClampNeg))) nc ns P) : Gd X mX11_keeps 160 [some (.ref a0), some (.int x1), some (.int x2), some (.int x3), some (.int x4)] [] h nc ns P := by
  refine g_aload_n dX11_keeps_160 rfl ?_
  refine g_getAs (c := 11) (k := 21) (b := a0 + 16) dX11_keeps_161 (by decide) (by decide) kw_1148 rfl (LX11.o (h := h) F0) (LX11.r_links (h := h) F0) ?_
  refine g_iload_n dX11_keeps_164 rfl ?_
  refine g_aload_n dX11_keeps_165 rfl ?_
  refine g_getAs (c := 11) (k := 21) (b := a0 + 16) dX11_keeps_166 (by decide) (by decide) kw_1148 rfl (LX11.o (h := h) F0) (LX11.r_links (h := h) F0) ?_
  refine g_iload dX11_keeps_169 rfl ?_
  refine g_iaload dX11_keeps_171 (LX11.a_links (h := h) F0) i1 ?_
  refine g_iastore dX11_keeps_172 (LX11.a_links (h := h) F0) i2 ?_
  refine g_aload_n dX11_keeps_173 rfl ?_
  refine g_getAs (c := 11) (k := 24) (b := a0 + 19) dX11_keeps_174 (by decide) (by decide) kw_1151 rfl (LX11.o (h := sI h (a0 + 16) ((x3 : Int32).toNatClampNeg) (hI h (a0 + 16) ((x4 : Int32).toNatClampNeg))) F0) (LX11.r_items (h := sI h (a0 + 16) ((x3 : Int32).toNatClampNeg) (hI h (a0 + 16) ((x4 : Int32).toNatClampNeg))) F0) ?_
  refine g_iload_n dX11_keeps_177 rfl ?_
  refine g_aload_n dX11_keeps_178 rfl ?_
  refine g_getAs (c := 11) (k := 24) (b := a0 + 19) dX11_keeps_179 (by decide) (by decide) kw_1151 rfl (LX11.o (h := sI h (a0 + 16) ((x3 : Int32).toNatClampNeg) (hI h (a0 + 16) ((x4 : Int32).toNatClampNeg))) F0) (LX11.r_items (h := sI h (a0 + 16) ((x3 : Int32).toNatClampNeg) (hI h (a0 + 16) ((x4 : Int32).toNatClampNeg))) F0) ?_
  refine g_iload dX11_keeps_182 rfl ?_
  refine g_iaload dX11_keeps_184 (LX11.a_items (h := sI h (a0 + 16) ((x3 : Int32).toNatClampNeg) (hI h (a0 + 16) ((x4 : Int32).toNatClampNeg))) F0) i1 ?_
  refine g_iastore dX11_keeps_185 (LX11.a_items (h := sI h (a0 + 16) ((x3 : Int32).toNatClampNeg) (hI h (a0 + 16) ((x4 : Int32).toNatClampNeg))) F0) i2 ?_
  refine g_iinc (v := x2 + 1) (L' := [some (.ref a0), some (.int x1), some (.int (x2 + 1)), some (.int x3), some (.int x4)]) dX11_keeps_186 rfl rfl (by decide) rfl ?_
  refine g_goto (tgt := 102) dX11_keeps_189 (by decide) ?_
  exact Gd.wk g ⟨rfl, ⟨rfl, ⟨rfl, trivial⟩⟩⟩
theorem bkX11_keeps_323 {X : GX} {h : SH} {nc ns : Nat} {P : Out → SH → Prop} {a0 : Nat} {x1 : Int32} {x2 : Int32} (g : Gd X mX11_keeps 250 [some (.ref a0), some (.int x1), some (.int (x2 + 1)), none, none] [] (h) nc ns P) : Gd X mX11_keeps 323 [some (.ref a0), some (.int x1), some (.int x2), none, none] [] h nc ns P := by
  refine g_iinc (v := x2 + 1) (L' := [some (.ref a0), some (.int x1), some (.int (x2 + 1)), none, none]) dX11_keeps_323 rfl rfl (by decide) rfl ?_
  refine g_goto (tgt := 250) dX11_keeps_326 (by decide) ?_
  exact Gd.wk g ⟨rfl, ⟨rfl, ⟨rfl, trivial⟩⟩⟩
theorem bkX11_takes_0 {X : GX} {h : SH} {nc ns : Nat} {P : Out → SH → Prop} {a0 : Nat} {x1 : Int32} (F0 : LX11 (Sk h) (a0)) (g : Gd X mX11_takes 7 [some (.ref a0), some (.int x1), some (.int 0)] [] (sI h a0 34 x1) nc ns P) : Gd X mX11_takes 0 [some (.ref a0), some (.int x1), none] [] h nc ns P := by
  refine g_aload_n dX11_takes_0 rfl ?_
  refine g_iload_n dX11_takes_1 rfl ?_
  refine g_put (c := 11) (k := 34) (h1 := sI h a0 34 x1) dX11_takes_2 (by decide) (by decide) kw_1161 rfl (LX11.o (h := h) F0) rfl rfl (Put.I rfl) ?_
  refine g_iconst (v := 0) dX11_takes_5 (by decide) ?_
  refine g_istore_n (L' := [some (.ref a0), some (.int x1), some (.int 0)]) dX11_takes_6 (by decide) rfl ?_
  exact Gd.wk g ⟨rfl, ⟨rfl, ⟨rfl, trivial⟩⟩⟩
theorem bkX11_takes_7 {X : GX} {h : SH} {nc ns : Nat} {P : Out → SH → Prop} {a0 : Nat} {x1 : Int32} {x2 : Int32} (F0 : LX11 (Sk h) (a0)) (i1 : vp_in (x1) 7) (kt : (hI h (a0 + 7) ((x1 : Int32).toNatClampNeg)) ≤ x2 → Gd X mX11_takes 40 [none, none, none] [] (h) nc ns P) (kf : ¬ (hI h (a0 + 7) ((x1 : Int32).toNatClampNeg)) ≤ x2 → Gd X mX11_takes 17 [some (.ref a0), some (.int x1), some (.int x2)] [] (h) nc ns P) : Gd X mX11_takes 7 [some (.ref a0), some (.int x1), some (.int x2)] [] h nc ns P := by
  refine g_iload_n dX11_takes_7 rfl ?_
  refine g_aload_n dX11_takes_8 rfl ?_
  refine g_getAs (c := 11) (k := 12) (b := a0 + 7) dX11_takes_9 (by decide) (by decide) kw_1139 rfl (LX11.o (h := h) F0) (LX11.r_facts (h := h) F0) ?_
  refine g_iload_n dX11_takes_12 rfl ?_
  refine g_iaload dX11_takes_13 (LX11.a_facts (h := h) F0) i1 ?_
  exact g_icmp_ge (tgt := 40) dX11_takes_14 (by decide) (fun q => Gd.wk (kt q) trivial) (fun q => Gd.wk (kf q) ⟨rfl, ⟨rfl, ⟨rfl, trivial⟩⟩⟩)
theorem bkX11_takes_17 {X : GX} {h : SH} {nc ns : Nat} {P : Out → SH → Prop} {a0 : Nat} {x1 : Int32} {x2 : Int32} (F0 : LX11 (Sk h) (a0)) (i1 : vp_in ((8 * x1) + x2) 56) (i2 : vp_in (x2) 8) (g : Gd X mX11_takes 7 [some (.ref a0), some (.int x1), some (.int (x2 + 1))] [] (sI h (a0 + 27) ((x2 : Int32).toNatClampNeg) (hI h (a0 + 9) (((8 * x1) + x2 : Int32).toNatClampNeg))) nc ns P) : Gd X mX11_takes 17 [some (.ref a0), some (.int x1), some (.int x2)] [] h nc ns P := by
  refine g_aload_n dX11_takes_17 rfl ?_
  refine g_getAs (c := 11) (k := 35) (b := a0 + 27) dX11_takes_18 (by decide) (by decide) kw_1162 rfl (LX11.o (h := h) F0) (LX11.r_told (h := h) F0) ?_
  refine g_iload_n dX11_takes_21 rfl ?_
  refine g_aload_n dX11_takes_22 rfl ?_
  refine g_getAs (c := 11) (k := 14) (b := a0 + 9) dX11_takes_23 (by decide) (by decide) kw_1141 rfl (LX11.o (h := h) F0) (LX11.r_least (h := h) F0) ?_
  refine g_bipush (v := 8) dX11_takes_26 (by decide) ?_
  refine g_iload_n dX11_takes_28 rfl ?_
  refine g_imul dX11_takes_29 ?_
  refine g_iload_n dX11_takes_30 rfl ?_
  refine g_iadd dX11_takes_31 ?_
  refine g_iaload dX11_takes_32 (LX11.a_least (h := h) F0) i1 ?_
  refine g_iastore dX11_takes_33 (LX11.a_told (h := h) F0) i2 ?_
  refine g_iinc (v := x2 + 1) (L' := [some (.ref a0), some (.int x1), some (.int (x2 + 1))]) dX11_takes_34 rfl rfl (by decide) rfl ?_
  refine g_goto (tgt := 7) dX11_takes_37 (by decide) ?_
  exact Gd.wk g ⟨rfl, ⟨rfl, ⟨rfl, trivial⟩⟩⟩
theorem bkX11_takes_40 {X : GX} {h : SH} {nc ns : Nat} {P : Out → SH → Prop} (hp : P (.inl (none)) (h)) : Gd X mX11_takes 40 [none, none, none] [] h nc ns P := by
  exact g_return (st := []) dX11_takes_40 rfl hp
theorem bkX11_take_0 {X : GX} {h : SH} {nc ns : Nat} {P : Out → SH → Prop} {a0 : Nat} {x1 : Int32} (F0 : LX11 (Sk h) (a0)) (kt : x1 < 0 → Gd X mX11_take 17 [none, none] [] (sI h a0 0 0) nc ns P) (kf : ¬ x1 < 0 → Gd X mX11_take 9 [some (.ref a0), some (.int x1)] [] (sI h a0 0 0) nc ns P) : Gd X mX11_take 0 [some (.ref a0), some (.int x1)] [] h nc ns P := by
  refine g_aload_n dX11_take_0 rfl ?_
  refine g_iconst (v := 0) dX11_take_1 (by decide) ?_
  refine g_put (c := 11) (k := 0) (h1 := sI h a0 0 0) dX11_take_2 (by decide) (by decide) kw_1127 rfl (LX11.o (h := h) F0) rfl rfl (Put.I rfl) ?_
  refine g_iload_n dX11_take_5 rfl ?_
  exact g_if_lt (tgt := 17) dX11_take_6 (by decide) (fun q => Gd.wk (kt q) trivial) (fun q => Gd.wk (kf q) ⟨rfl, ⟨rfl, trivial⟩⟩)
theorem bkX11_take_9 {X : GX} {h : SH} {nc ns : Nat} {P : Out → SH → Prop} {a0 : Nat} {x1 : Int32} (F0 : LX11 (Sk h) (a0)) (kt : x1 < hI h a0 10 → Gd X mX11_take 19 [some (.ref a0), some (.int x1)] [] (h) nc ns P) (kf : ¬ x1 < hI h a0 10 → Gd X mX11_take 17 [none, none] [] (h) nc ns P) : Gd X mX11_take 9 [some (.ref a0), some (.int x1)] [] h nc ns P := by
  refine g_iload_n dX11_take_9 rfl ?_
  refine g_aload_n dX11_take_10 rfl ?_
  refine g_getI (c := 11) (k := 10) dX11_take_11 (by decide) (by decide) kw_1137 rfl (LX11.o (h := h) F0) ?_
  exact g_icmp_lt (tgt := 19) dX11_take_14 (by decide) (fun q => Gd.wk (kt q) ⟨rfl, ⟨rfl, trivial⟩⟩) (fun q => Gd.wk (kf q) trivial)
theorem bkX11_take_17 {X : GX} {h : SH} {nc ns : Nat} {P : Out → SH → Prop} (hp : P (.inl (some (.int (0)))) (h)) : Gd X mX11_take 17 [none, none] [] h nc ns P := by
  refine g_iconst (v := 0) dX11_take_17 (by decide) ?_
  exact g_ireturn (st := []) dX11_take_18 rfl (bl_n (by decide)) hp
theorem bkX11_take_19 {X : GX} {h : SH} {nc ns : Nat} {P : Out → SH → Prop} {Q : SH → Prop} {a0 : Nat} {x1 : Int32} (F0 : LX11 (Sk h) (a0)) (hN : Cd X mX11_takes [.ref a0, .int x1] (h) 0 0 (oV Q nX)) (g : ∀ t, Q t → Gd X mX11_take 24 [none, none] [] (t) nc ns P) : Gd X mX11_take 19 [some (.ref a0), some (.int x1)] [] h nc ns P := by
  refine g_aload_n dX11_take_19 rfl ?_
  refine g_iload_n dX11_take_20 rfl ?_
  refine Gd.z ?_
  exact g_callV (k := 11) [.int x1] dX11_take_21 mfX11_takes ⟨by decide, by decide⟩ kw_1423 kw_1425 kw_69 rfl (by decide) (Nat.le_of_ble_eq_true rfl) (by intro x hx; cases hx) (LX11.o (h := h) F0) (Nat.le_of_ble_eq_true rfl) hN (fun _ _ q => q.elim) (oV_go (G := fun a b => Gd X mX11_take 24 _ a b nc ns P) (fun t q => Gd.wk (g t q) trivial))
theorem bkX11_take_24 {X : GX} {h : SH} {nc ns : Nat} {P : Out → SH → Prop} (hp : P (.inl (some (.int (1)))) (h)) : Gd X mX11_take 24 [none, none] [] h nc ns P := by
  refine g_iconst (v := 1) dX11_take_24 (by decide) ?_
  exact g_ireturn (st := []) dX11_take_25 rfl (bl_n (by decide)) hp
theorem bkX11_inForce_0 {X : GX} {h : SH} {nc ns : Nat} {P : Out → SH → Prop} {a0 : Nat} {x1 : Int32} (F0 : LX11 (Sk h) (a0)) (g : Gd X mX11_inForce 9 [some (.ref a0), some (.int x1), some (.int ((-1))), some (.int 0)] [] (sI h a0 0 0) nc ns P) : Gd X mX11_inForce 0 [some (.ref a0), some (.int x1), none, none] [] h nc ns P := by
  refine g_aload_n dX11_inForce_0 rfl ?_
  refine g_iconst (v := 0) dX11_inForce_1 (by decide) ?_
  refine g_put (c := 11) (k := 0) (h1 := sI h a0 0 0) dX11_inForce_2 (by decide) (by decide) kw_1127 rfl (LX11.o (h := h) F0) rfl rfl (Put.I rfl) ?_
  refine g_iconst (v := (-1)) dX11_inForce_5 (by decide) ?_
  refine g_istore_n (L' := [some (.ref a0), some (.int x1), some (.int ((-1))), none]) dX11_inForce_6 (by decide) rfl ?_
  refine g_iconst (v := 0) dX11_inForce_7 (by decide) ?_
  refine g_istore_n (L' := [some (.ref a0), some (.int x1), some (.int ((-1))), some (.int 0)]) dX11_inForce_8 (by decide) rfl ?_
  exact Gd.wk g ⟨rfl, ⟨rfl, ⟨rfl, ⟨rfl, trivial⟩⟩⟩⟩
theorem bkX11_inForce_9 {X : GX} {h : SH} {nc ns : Nat} {P : Out → SH → Prop} {a0 : Nat} {x1 : Int32} {x2 : Int32} {x3 : Int32} (F0 : LX11 (Sk h) (a0)) (kt : hI h a0 10 ≤ x3 → Gd X mX11_inForce 50 [some (.ref a0), none, some (.int x2), none] [] (h) nc ns P) (kf : ¬ hI h a0 10 ≤ x3 → Gd X mX11_inForce 17 [some (.ref a0), some (.int x1), some (.int x2), some (.int x3)] [] (h) nc ns P) : Gd X mX11_inForce 9 [some (.ref a0), some (.int x1), some (.int x2), some (.int x3)] [] h nc ns P := by
  refine g_iload_n dX11_inForce_9 rfl ?_
  refine g_aload_n dX11_inForce_10 rfl ?_
  refine g_getI (c := 11) (k := 10) dX11_inForce_11 (by decide) (by decide) kw_1137 rfl (LX11.o (h := h) F0) ?_
  exact g_icmp_ge (tgt := 50) dX11_inForce_14 (by decide) (fun q => Gd.wk (kt q) ⟨rfl, ⟨rfl, trivial⟩⟩) (fun q => Gd.wk (kf q) ⟨rfl, ⟨rfl, ⟨rfl, ⟨rfl, trivial⟩⟩⟩⟩)
theorem bkX11_inForce_17 {X : GX} {h : SH} {nc ns : Nat} {P : Out → SH → Prop} {a0 : Nat} {x1 : Int32} {x2 : Int32} {x3 : Int32} (kt : x1 < 0 → Gd X mX11_inForce 50 [some (.ref a0), none, some (.int x2), none] [] (h) nc ns P) (kf : ¬ x1 < 0 → Gd X mX11_inForce 21 [some (.ref a0), some (.int x1), some (.int x2), some (.int x3)] [] (h) nc ns P) : Gd X mX11_inForce 17 [some (.ref a0), some (.int x1), some (.int x2), some (.int x3)] [] h nc ns P := by
  refine g_iload_n dX11_inForce_17 rfl ?_
  exact g_if_lt (tgt := 50) dX11_inForce_18 (by decide) (fun q => Gd.wk (kt q) ⟨rfl, ⟨rfl, trivial⟩⟩) (fun q => Gd.wk (kf q) ⟨rfl, ⟨rfl, ⟨rfl, ⟨rfl, trivial⟩⟩⟩⟩)
theorem bkX11_inForce_21 {X : GX} {h : SH} {nc ns : Nat} {P : Out → SH → Prop} {a0 : Nat} {x1 : Int32} {x2 : Int32} {x3 : Int32} (kt : (9999 : Int32) < x1 → Gd X mX11_inForce 50 [some (.ref a0), none, some (.int x2), none] [] (h) nc ns P) (kf : ¬ (9999 : Int32) < x1 → Gd X mX11_inForce 28 [some (.ref a0), some (.int x1), some (.int x2), some (.int x3)] [] (h) nc ns P) : Gd X mX11_inForce 21 [some (.ref a0), some (.int x1), some (.int x2), some (.int x3)] [] h nc ns P := by
  refine g_iload_n dX11_inForce_21 rfl ?_
  refine g_sipush (v := 9999) dX11_inForce_22 (by decide) ?_
  exact g_icmp_gt (tgt := 50) dX11_inForce_25 (by decide) (fun q => Gd.wk (kt q) ⟨rfl, ⟨rfl, trivial⟩⟩) (fun q => Gd.wk (kf q) ⟨rfl, ⟨rfl, ⟨rfl, ⟨rfl, trivial⟩⟩⟩⟩)
theorem bkX11_inForce_28 {X : GX} {h : SH} {nc ns : Nat} {P : Out → SH → Prop} {a0 : Nat} {x1 : Int32} {x2 : Int32} {x3 : Int32} (F0 : LX11 (Sk h) (a0)) (i1 : vp_in (x3) 6) (kt : x1 < (hI h (a0 + 6) ((x3 : Int32).toNatClampNeg)) → Gd X mX11_inForce 42 [some (.ref a0), some (.int x1), some (.int x2), some (.int x3)] [] (h) nc ns P) (kf : ¬ x1 < (hI h (a0 + 6) ((x3 : Int32).toNatClampNeg)) → Gd X mX11_inForce 38 [some (.ref a0), some (.int x1), none, some (.int x3)] [] (h) nc ns P) : Gd X mX11_inForce 28 [some (.ref a0), some (.int x1), some (.int x2), some (.int x3)] [] h nc ns P := by
  refine g_aload_n dX11_inForce_28 rfl ?_
  refine g_getAs (c := 11) (k := 11) (b := a0 + 6) dX11_inForce_29 (by decide) (by decide) kw_1138 rfl (LX11.o (h := h) F0) (LX11.r_from (h := h) F0) ?_
  refine g_iload_n dX11_inForce_32 rfl ?_
  refine g_iaload dX11_inForce_33 (LX11.a_from (h := h) F0) i1 ?_
  refine g_iload_n dX11_inForce_34 rfl ?_
  exact g_icmp_gt (tgt := 42) dX11_inForce_35 (by decide) (fun q => Gd.wk (kt q) ⟨rfl, ⟨rfl, ⟨rfl, ⟨rfl, trivial⟩⟩⟩⟩) (fun q => Gd.wk (kf q) ⟨rfl, ⟨rfl, ⟨rfl, trivial⟩⟩⟩)
theorem bkX11_inForce_38 {X : GX} {h : SH} {nc ns : Nat} {P : Out → SH → Prop} {a0 : Nat} {x1 : Int32} {x3 : Int32} (g : Gd X mX11_inForce 43 [some (.ref a0), some (.int x1), none, some (.int x3)] [.int x3] (h) nc ns P) : Gd X mX11_inForce 38 [some (.ref a0), some (.int x1), none, some (.int x3)] [] h nc ns P := by
  refine g_iload_n dX11_inForce_38 rfl ?_
  refine g_goto (tgt := 43) dX11_inForce_39 (by decide) ?_
  exact Gd.wk g ⟨rfl, ⟨rfl, ⟨rfl, trivial⟩⟩⟩
theorem bkX11_inForce_42 {X : GX} {h : SH} {nc ns : Nat} {P : Out → SH → Prop} {a0 : Nat} {x1 : Int32} {x2 : Int32} {x3 : Int32} (g : Gd X mX11_inForce 43 [some (.ref a0), some (.int x1), none, some (.int x3)] [.int x2] (h) nc ns P) : Gd X mX11_inForce 42 [some (.ref a0), some (.int x1), some (.int x2), some (.int x3)] [] h nc ns P := by
  refine g_iload_n dX11_inForce_42 rfl ?_
  exact Gd.wk g ⟨rfl, ⟨rfl, ⟨rfl, trivial⟩⟩⟩
theorem bkX11_inForce_43 {X : GX} {h : SH} {nc ns : Nat} {P : Out → SH → Prop} {a0 : Nat} {x1 : Int32} {x3 : Int32} {xs0 : Int32} (g : Gd X mX11_inForce 9 [some (.ref a0), some (.int x1), some (.int xs0), some (.int (x3 + 1))] [] (h) nc ns P) : Gd X mX11_inForce 43 [some (.ref a0), some (.int x1), none, some (.int x3)] [.int xs0] h nc ns P := by
  refine g_istore_n (L' := [some (.ref a0), some (.int x1), some (.int xs0), some (.int x3)]) dX11_inForce_43 (by decide) rfl ?_
  refine g_iinc (v := x3 + 1) (L' := [some (.ref a0), some (.int x1), some (.int xs0), some (.int (x3 + 1))]) dX11_inForce_44 rfl rfl (by decide) rfl ?_
  refine g_goto (tgt := 9) dX11_inForce_47 (by decide) ?_
  exact Gd.wk g ⟨rfl, ⟨rfl, ⟨rfl, ⟨rfl, trivial⟩⟩⟩⟩
theorem bkX11_inForce_50 {X : GX} {h : SH} {nc ns : Nat} {P : Out → SH → Prop} {a0 : Nat} {x2 : Int32} (kt : x2 < 0 → Gd X mX11_inForce 59 [none, none, some (.int x2), none] [] (h) nc ns P) (kf : ¬ x2 < 0 → Gd X mX11_inForce 54 [some (.ref a0), none, some (.int x2), none] [] (h) nc ns P) : Gd X mX11_inForce 50 [some (.ref a0), none, some (.int x2), none] [] h nc ns P := by
  refine g_iload_n dX11_inForce_50 rfl ?_
  exact g_if_lt (tgt := 59) dX11_inForce_51 (by decide) (fun q => Gd.wk (kt q) ⟨rfl, trivial⟩) (fun q => Gd.wk (kf q) ⟨rfl, ⟨rfl, trivial⟩⟩)
theorem bkX11_inForce_54 {X : GX} {h : SH} {nc ns : Nat} {P : Out → SH → Prop} {Q : SH → Prop} {a0 : Nat} {x2 : Int32} (F0 : LX11 (Sk h) (a0)) (hN : Cd X mX11_takes [.ref a0, .int x2] (h) 0 0 (oV Q nX)) (g : ∀ t, Q t → Gd X mX11_inForce 59 [none, none, some (.int x2), none] [] (t) nc ns P) : Gd X mX11_inForce 54 [some (.ref a0), none, some (.int x2), none] [] h nc ns P := by
  refine g_aload_n dX11_inForce_54 rfl ?_
  refine g_iload_n dX11_inForce_55 rfl ?_
  refine Gd.z ?_
  exact g_callV (k := 11) [.int x2] dX11_inForce_56 mfX11_takes ⟨by decide, by decide⟩ kw_1423 kw_1425 kw_69 rfl (by decide) (Nat.le_of_ble_eq_true rfl) (by intro x hx; cases hx) (LX11.o (h := h) F0) (Nat.le_of_ble_eq_true rfl) hN (fun _ _ q => q.elim) (oV_go (G := fun a b => Gd X mX11_inForce 59 _ a b nc ns P) (fun t q => Gd.wk (g t q) ⟨rfl, trivial⟩))
theorem bkX11_inForce_59 {X : GX} {h : SH} {nc ns : Nat} {P : Out → SH → Prop} {x2 : Int32} (hp : P (.inl (some (.int (x2)))) (h)) : Gd X mX11_inForce 59 [none, none, some (.int x2), none] [] h nc ns P := by
  refine g_iload_n dX11_inForce_59 rfl ?_
  exact g_ireturn (st := []) dX11_inForce_60 rfl rfl hp
theorem bkX11_fact_0 {X : GX} {h : SH} {nc ns : Nat} {P : Out → SH → Prop} {a0 : Nat} {x1 : Int32} {x2 : Int32} (F0 : LX11 (Sk h) (a0)) (kt : (hI (sI h a0 0 0) a0 34) < 0 → Gd X mX11_fact 65 [none, none, none] [] (sI h a0 0 0) nc ns P) (kf : ¬ (hI (sI h a0 0 0) a0 34) < 0 → Gd X mX11_fact 12 [some (.ref a0), some (.int x1), some (.int x2)] [] (sI h a0 0 0) nc ns P) : Gd X mX11_fact 0 [some (.ref a0), some (.int x1), some (.int x2)] [] h nc ns P := by
  refine g_aload_n dX11_fact_0 rfl ?_
  refine g_iconst (v := 0) dX11_fact_1 (by decide) ?_
  refine g_put (c := 11) (k := 0) (h1 := sI h a0 0 0) dX11_fact_2 (by decide) (by decide) kw_1127 rfl (LX11.o (h := h) F0) rfl rfl (Put.I rfl) ?_
  refine g_aload_n dX11_fact_5 rfl ?_
  refine g_getI (c := 11) (k := 34) dX11_fact_6 (by decide) (by decide) kw_1161 rfl (LX11.o (h := sI h a0 0 0) F0) ?_
  exact g_if_lt (tgt := 65) dX11_fact_9 (by decide) (fun q => Gd.wk (kt q) trivial) (fun q => Gd.wk (kf q) ⟨rfl, ⟨rfl, ⟨rfl, trivial⟩⟩⟩)
theorem bkX11_fact_12 {X : GX} {h : SH} {nc ns : Nat} {P : Out → SH → Prop} {a0 : Nat} {x1 : Int32} {x2 : Int32} (kt : x1 < 0 → Gd X mX11_fact 65 [none, none, none] [] (h) nc ns P) (kf : ¬ x1 < 0 → Gd X mX11_fact 16 [some (.ref a0), some (.int x1), some (.int x2)] [] (h) nc ns P) : Gd X mX11_fact 12 [some (.ref a0), some (.int x1), some (.int x2)] [] h nc ns P := by
  refine g_iload_n dX11_fact_12 rfl ?_
  exact g_if_lt (tgt := 65) dX11_fact_13 (by decide) (fun q => Gd.wk (kt q) trivial) (fun q => Gd.wk (kf q) ⟨rfl, ⟨rfl, ⟨rfl, trivial⟩⟩⟩)
theorem bkX11_fact_16 {X : GX} {h : SH} {nc ns : Nat} {P : Out → SH → Prop} {a0 : Nat} {x1 : Int32} {x2 : Int32} (F0 : LX11 (Sk h) (a0)) (i1 : vp_in (hI h a0 34) 7) (kt : (hI h (a0 + 7) ((hI h a0 34 : Int32).toNatClampNeg)) ≤ x1 → Gd X mX11_fact 65 [none, none, none] [] (h) nc ns P) (kf : ¬ (hI h (a0 + 7) ((hI h a0 34 : Int32).toNatClampNeg)) ≤ x1 → Gd X mX11_fact 29 [some (.ref a0), some (.int x1), some (.int x2)] [] (h) nc ns P) : Gd X mX11_fact 16 [some (.ref a0), some (.int x1), some (.int x2)] [] h nc ns P := by
  refine g_iload_n dX11_fact_16 rfl ?_
  refine g_aload_n dX11_fact_17 rfl ?_
  refine g_getAs (c := 11) (k := 12) (b := a0 + 7) dX11_fact_18 (by decide) (by decide) kw_1139 rfl (LX11.o (h := h) F0) (LX11.r_facts (h := h) F0) ?_
  refine g_aload_n dX11_fact_21 rfl ?_
  refine g_getI (c := 11) (k := 34) dX11_fact_22 (by decide) (by decide) kw_1161 rfl (LX11.o (h := h) F0) ?_
  refine g_iaload dX11_fact_25 (LX11.a_facts (h := h) F0) i1 ?_
  exact g_icmp_ge (tgt := 65) dX11_fact_26 (by decide) (fun q => Gd.wk (kt q) trivial) (fun q => Gd.wk (kf q) ⟨rfl, ⟨rfl, ⟨rfl, trivial⟩⟩⟩)
theorem bkX11_fact_29 {X : GX} {h : SH} {nc ns : Nat} {P : Out → SH → Prop} {a0 : Nat} {x1 : Int32} {x2 : Int32} (F0 : LX11 (Sk h) (a0)) (i1 : vp_in ((8 * hI h a0 34) + x1) 56) (kt : x2 < (hI h (a0 + 9) (((8 * hI h a0 34) + x1 : Int32).toNatClampNeg)) → Gd X mX11_fact 65 [none, none, none] [] (h) nc ns P) (kf : ¬ x2 < (hI h (a0 + 9) (((8 * hI h a0 34) + x1 : Int32).toNatClampNeg)) → Gd X mX11_fact 47 [some (.ref a0), some (.int x1), some (.int x2)] [] (h) nc ns P) : Gd X mX11_fact 29 [some (.ref a0), some (.int x1), some (.int x2)] [] h nc ns P := by
  refine g_iload_n dX11_fact_29 rfl ?_
  refine g_aload_n dX11_fact_30 rfl ?_
  refine g_getAs (c := 11) (k := 14) (b := a0 + 9) dX11_fact_31 (by decide) (by decide) kw_1141 rfl (LX11.o (h := h) F0) (LX11.r_least (h := h) F0) ?_
  refine g_bipush (v := 8) dX11_fact_34 (by decide) ?_
  refine g_aload_n dX11_fact_36 rfl ?_
  refine g_getI (c := 11) (k := 34) dX11_fact_37 (by decide) (by decide) kw_1161 rfl (LX11.o (h := h) F0) ?_
  refine g_imul dX11_fact_40 ?_
  refine g_iload_n dX11_fact_41 rfl ?_
  refine g_iadd dX11_fact_42 ?_
  refine g_iaload dX11_fact_43 (LX11.a_least (h := h) F0) i1 ?_
  exact g_icmp_lt (tgt := 65) dX11_fact_44 (by decide) (fun q => Gd.wk (kt q) trivial) (fun q => Gd.wk (kf q) ⟨rfl, ⟨rfl, ⟨rfl, trivial⟩⟩⟩)
theorem bkX11_fact_47 {X : GX} {h : SH} {nc ns : Nat} {P : Out → SH → Prop} {a0 : Nat} {x1 : Int32} {x2 : Int32} (F0 : LX11 (Sk h) (a0)) (i1 : vp_in ((8 * hI h a0 34) + x1) 56) (kt : x2 ≤ (hI h (a0 + 10) (((8 * hI h a0 34) + x1 : Int32).toNatClampNeg)) → Gd X mX11_fact 67 [some (.ref a0), some (.int x1), some (.int x2)] [] (h) nc ns P) (kf : ¬ x2 ≤ (hI h (a0 + 10) (((8 * hI h a0 34) + x1 : Int32).toNatClampNeg)) → Gd X mX11_fact 65 [none, none, none] [] (h) nc ns P) : Gd X mX11_fact 47 [some (.ref a0), some (.int x1), some (.int x2)] [] h nc ns P := by
  refine g_iload_n dX11_fact_47 rfl ?_
  refine g_aload_n dX11_fact_48 rfl ?_
  refine g_getAs (c := 11) (k := 15) (b := a0 + 10) dX11_fact_49 (by decide) (by decide) kw_1142 rfl (LX11.o (h := h) F0) (LX11.r_most (h := h) F0) ?_
  refine g_bipush (v := 8) dX11_fact_52 (by decide) ?_
  refine g_aload_n dX11_fact_54 rfl ?_
  refine g_getI (c := 11) (k := 34) dX11_fact_55 (by decide) (by decide) kw_1161 rfl (LX11.o (h := h) F0) ?_
  refine g_imul dX11_fact_58 ?_
  refine g_iload_n dX11_fact_59 rfl ?_
  refine g_iadd dX11_fact_60 ?_
  refine g_iaload dX11_fact_61 (LX11.a_most (h := h) F0) i1 ?_
  exact g_icmp_le (tgt := 67) dX11_fact_62 (by decide) (fun q => Gd.wk (kt q) ⟨rfl, ⟨rfl, ⟨rfl, trivial⟩⟩⟩) (fun q => Gd.wk (kf q) trivial)
theorem bkX11_fact_65 {X : GX} {h : SH} {nc ns : Nat} {P : Out → SH → Prop} (hp : P (.inl (some (.int (0)))) (h)) : Gd X mX11_fact 65 [none, none, none] [] h nc ns P := by
  refine g_iconst (v := 0) dX11_fact_65 (by decide) ?_
  exact g_ireturn (st := []) dX11_fact_66 rfl (bl_n (by decide)) hp
theorem bkX11_fact_67 {X : GX} {h : SH} {nc ns : Nat} {P : Out → SH → Prop} {a0 : Nat} {x1 : Int32} {x2 : Int32} (F0 : LX11 (Sk h) (a0)) (i1 : vp_in (x1) 8) (hp : P (.inl (some (.int (1)))) (sI h (a0 + 27) ((x1 : Int32).toNatClampNeg) x2)) : Gd X mX11_fact 67 [some (.ref a0), some (.int x1), some (.int x2)] [] h nc ns P := by
  refine g_aload_n dX11_fact_67 rfl ?_
  refine g_getAs (c := 11) (k := 35) (b := a0 + 27) dX11_fact_68 (by decide) (by decide) kw_1162 rfl (LX11.o (h := h) F0) (LX11.r_told (h := h) F0) ?_
  refine g_iload_n dX11_fact_71 rfl ?_
  refine g_iload_n dX11_fact_72 rfl ?_
  refine g_iastore dX11_fact_73 (LX11.a_told (h := h) F0) i1 ?_
  refine g_iconst (v := 1) dX11_fact_74 (by decide) ?_
  exact g_ireturn (st := []) dX11_fact_75 rfl (bl_n (by decide)) hp
theorem bkX11_comes_0 {X : GX} {h : SH} {nc ns : Nat} {P : Out → SH → Prop} {a0 : Nat} {x1 : Int32} {x2 : Int32} (F0 : LX11 (Sk h) (a0)) (i1 : vp_in (x1) 7) (g : Gd X mX11_comes 12 [some (.ref a0), some (.int x1), none, some (.int x2), some (.int ((hI h (a0 + 7) ((x1 : Int32).toNatClampNeg)) - 1)), none] [] (h) nc ns P) : Gd X mX11_comes 0 [some (.ref a0), some (.int x1), some (.int x2), none, none, none] [] h nc ns P := by
  refine g_iload_n dX11_comes_0 rfl ?_
  refine g_istore_n (L' := [some (.ref a0), some (.int x1), some (.int x2), some (.int x2), none, none]) dX11_comes_1 (by decide) rfl ?_
  refine g_aload_n dX11_comes_2 rfl ?_
  refine g_getAs (c := 11) (k := 12) (b := a0 + 7) dX11_comes_3 (by decide) (by decide) kw_1139 rfl (LX11.o (h := h) F0) (LX11.r_facts (h := h) F0) ?_
  refine g_iload_n dX11_comes_6 rfl ?_
  refine g_iaload dX11_comes_7 (LX11.a_facts (h := h) F0) i1 ?_
  refine g_iconst (v := 1) dX11_comes_8 (by decide) ?_
  refine g_isub dX11_comes_9 ?_
  refine g_istore (L' := [some (.ref a0), some (.int x1), some (.int x2), some (.int x2), some (.int ((hI h (a0 + 7) ((x1 : Int32).toNatClampNeg)) - 1)), none]) dX11_comes_10 (by decide) rfl ?_
  exact Gd.wk g ⟨rfl, ⟨rfl, ⟨rfl, ⟨rfl, trivial⟩⟩⟩⟩
theorem bkX11_comes_12 {X : GX} {h : SH} {nc ns : Nat} {P : Out → SH → Prop} {a0 : Nat} {x1 : Int32} {x3 : Int32} {x4 : Int32} (kt : x4 < 0 → Gd X mX11_comes 81 [none, none, none, none, none, none] [] (h) nc ns P) (kf : ¬ x4 < 0 → Gd X mX11_comes 17 [some (.ref a0), some (.int x1), none, some (.int x3), some (.int x4), none] [] (h) nc ns P) : Gd X mX11_comes 12 [some (.ref a0), some (.int x1), none, some (.int x3), some (.int x4), none] [] h nc ns P := by
  refine g_iload dX11_comes_12 rfl ?_
  exact g_if_lt (tgt := 81) dX11_comes_14 (by decide) (fun q => Gd.wk (kt q) trivial) (fun q => Gd.wk (kf q) ⟨rfl, ⟨rfl, ⟨rfl, ⟨rfl, trivial⟩⟩⟩⟩)
theorem bkX11_comes_17 {X : GX} {h : SH} {nc ns : Nat} {P : Out → SH → Prop} {a0 : Nat} {x1 : Int32} {x3 : Int32} {x4 : Int32} (F0 : LX11 (Sk h) (a0)) (i1 : vp_in ((8 * x1) + x4) 56) (z2 : ¬ (((hI h (a0 + 10) (((8 * x1) + x4 : Int32).toNatClampNeg)) - (hI h (a0 + 9) (((8 * x1) + x4 : Int32).toNatClampNeg))) + 1 : Int32) = 0) (i3 : vp_in (x4) 8) (g : Gd X mX11_comes 12 [some (.ref a0), some (.int x1), none, some (.int (x3 / (((hI h (a0 + 10) (((8 * x1) + x4 : Int32).toNatClampNeg)) - (hI h (a0 + 9) (((8 * x1) + x4 : Int32).toNatClampNeg))) + 1))), some (.int (x4 + (-1))), none] [] (sI h (a0 + 27) ((x4 : Int32).toNatClampNeg) ((hI h (a0 + 9) (((8 * x1) + x4 : Int32).toNatClampNeg)) + (x3 - x3 / (((hI h (a0 + 10) (((8 * x1) + x4 : Int32).toNatClampNeg)) - (hI h (a0 + 9) (((8 * x1) + x4 : Int32).toNatClampNeg))) + 1) * (((hI h (a0 + 10) (((8 * x1) + x4 : Int32).toNatClampNeg)) - (hI h (a0 + 9) (((8 * x1) + x4 : Int32).toNatClampNeg))) + 1)))) nc ns P) : Gd X mX11_comes 17 [some (.ref a0), some (.int x1), none, some (.int x3), some (.int x4), none] [] h nc ns P := by
  refine g_aload_n dX11_comes_17 rfl ?_
  refine g_getAs (c := 11) (k := 15) (b := a0 + 10) dX11_comes_18 (by decide) (by decide) kw_1142 rfl (LX11.o (h := h) F0) (LX11.r_most (h := h) F0) ?_
  refine g_bipush (v := 8) dX11_comes_21 (by decide) ?_
  refine g_iload_n dX11_comes_23 rfl ?_
  refine g_imul dX11_comes_24 ?_
  refine g_iload dX11_comes_25 rfl ?_
  refine g_iadd dX11_comes_27 ?_
  refine g_iaload dX11_comes_28 (LX11.a_most (h := h) F0) i1 ?_
  refine g_aload_n dX11_comes_29 rfl ?_
  refine g_getAs (c := 11) (k := 14) (b := a0 + 9) dX11_comes_30 (by decide) (by decide) kw_1141 rfl (LX11.o (h := h) F0) (LX11.r_least (h := h) F0) ?_
  refine g_bipush (v := 8) dX11_comes_33 (by decide) ?_
  refine g_iload_n dX11_comes_35 rfl ?_
  refine g_imul dX11_comes_36 ?_
  refine g_iload dX11_comes_37 rfl ?_
  refine g_iadd dX11_comes_39 ?_
  refine g_iaload dX11_comes_40 (LX11.a_least (h := h) F0) i1 ?_
  refine g_isub dX11_comes_41 ?_
  refine g_iconst (v := 1) dX11_comes_42 (by decide) ?_
  refine g_iadd dX11_comes_43 ?_
  refine g_istore (L' := [some (.ref a0), some (.int x1), none, some (.int x3), some (.int x4), some (.int (((hI h (a0 + 10) (((8 * x1) + x4 : Int32).toNatClampNeg)) - (hI h (a0 + 9) (((8 * x1) + x4 : Int32).toNatClampNeg))) + 1))]) dX11_comes_44 (by decide) rfl ?_
  refine g_aload_n dX11_comes_46 rfl ?_
  refine g_getAs (c := 11) (k := 35) (b := a0 + 27) dX11_comes_47 (by decide) (by decide) kw_1162 rfl (LX11.o (h := h) F0) (LX11.r_told (h := h) F0) ?_
  refine g_iload dX11_comes_50 rfl ?_
  refine g_aload_n dX11_comes_52 rfl ?_
  refine g_getAs (c := 11) (k := 14) (b := a0 + 9) dX11_comes_53 (by decide) (by decide) kw_1141 rfl (LX11.o (h := h) F0) (LX11.r_least (h := h) F0) ?_
  refine g_bipush (v := 8) dX11_comes_56 (by decide) ?_
  refine g_iload_n dX11_comes_58 rfl ?_
  refine g_imul dX11_comes_59 ?_
  refine g_iload dX11_comes_60 rfl ?_
  refine g_iadd dX11_comes_62 ?_
  refine g_iaload dX11_comes_63 (LX11.a_least (h := h) F0) i1 ?_
  refine g_iload_n dX11_comes_64 rfl ?_
  refine g_iload dX11_comes_65 rfl ?_
  refine g_irem dX11_comes_67 z2 ?_
  refine g_iadd dX11_comes_68 ?_
  refine g_iastore dX11_comes_69 (LX11.a_told (h := h) F0) i3 ?_
  refine g_iload_n dX11_comes_70 rfl ?_
  refine g_iload dX11_comes_71 rfl ?_
  refine g_idiv dX11_comes_73 z2 ?_
  refine g_istore_n (L' := [some (.ref a0), some (.int x1), none, some (.int (x3 / (((hI h (a0 + 10) (((8 * x1) + x4 : Int32).toNatClampNeg)) - (hI h (a0 + 9) (((8 * x1) + x4 : Int32).toNatClampNeg))) + 1))), some (.int x4), some (.int (((hI h (a0 + 10) (((8 * x1) + x4 : Int32).toNatClampNeg)) - (hI h (a0 + 9) (((8 * x1) + x4 : Int32).toNatClampNeg))) + 1))]) dX11_comes_74 (by decide) rfl ?_
  refine g_iinc (v := x4 + (-1)) (L' := [some (.ref a0), some (.int x1), none, some (.int (x3 / (((hI h (a0 + 10) (((8 * x1) + x4 : Int32).toNatClampNeg)) - (hI h (a0 + 9) (((8 * x1) + x4 : Int32).toNatClampNeg))) + 1))), some (.int (x4 + (-1))), some (.int (((hI h (a0 + 10) (((8 * x1) + x4 : Int32).toNatClampNeg)) - (hI h (a0 + 9) (((8 * x1) + x4 : Int32).toNatClampNeg))) + 1))]) dX11_comes_75 rfl rfl (by decide) rfl ?_
  refine g_goto (tgt := 12) dX11_comes_78 (by decide) ?_
  exact Gd.wk g ⟨rfl, ⟨rfl, ⟨rfl, ⟨rfl, trivial⟩⟩⟩⟩
theorem bkX11_comes_81 {X : GX} {h : SH} {nc ns : Nat} {P : Out → SH → Prop} (hp : P (.inl (none)) (h)) : Gd X mX11_comes 81 [none, none, none, none, none, none] [] h nc ns P := by
  exact g_return (st := []) dX11_comes_81 rfl hp
theorem bkX11_worldNow_0 {X : GX} {h : SH} {nc ns : Nat} {P : Out → SH → Prop} {a0 : Nat} (F0 : LX11 (Sk h) (a0)) (g : Gd X mX11_worldNow 10 [some (.ref a0), some (.int 0), some (.int (8 * hI h a0 34))] [] (h) nc ns P) : Gd X mX11_worldNow 0 [some (.ref a0), none, none] [] h nc ns P := by
  refine g_iconst (v := 0) dX11_worldNow_0 (by decide) ?_
  refine g_istore_n (L' := [some (.ref a0), some (.int 0), none]) dX11_worldNow_1 (by decide) rfl ?_
  refine g_bipush (v := 8) dX11_worldNow_2 (by decide) ?_
  refine g_aload_n dX11_worldNow_4 rfl ?_
  refine g_getI (c := 11) (k := 34) dX11_worldNow_5 (by decide) (by decide) kw_1161 rfl (LX11.o (h := h) F0) ?_
  refine g_imul dX11_worldNow_8 ?_
  refine g_istore_n (L' := [some (.ref a0), some (.int 0), some (.int (8 * hI h a0 34))]) dX11_worldNow_9 (by decide) rfl ?_
  exact Gd.wk g ⟨rfl, ⟨rfl, ⟨rfl, trivial⟩⟩⟩
theorem bkX11_worldNow_10 {X : GX} {h : SH} {nc ns : Nat} {P : Out → SH → Prop} {a0 : Nat} {x1 : Int32} {x2 : Int32} (F0 : LX11 (Sk h) (a0)) (i1 : vp_in (hI h a0 34) 7) (kt : ((8 * hI h a0 34) + (hI h (a0 + 7) ((hI h a0 34 : Int32).toNatClampNeg))) ≤ x2 → Gd X mX11_worldNow 77 [none, some (.int x1), none] [] (h) nc ns P) (kf : ¬ ((8 * hI h a0 34) + (hI h (a0 + 7) ((hI h a0 34 : Int32).toNatClampNeg))) ≤ x2 → Gd X mX11_worldNow 31 [some (.ref a0), some (.int x1), some (.int x2)] [] (h) nc ns P) : Gd X mX11_worldNow 10 [some (.ref a0), some (.int x1), some (.int x2)] [] h nc ns P := by
  refine g_iload_n dX11_worldNow_10 rfl ?_
  refine g_bipush (v := 8) dX11_worldNow_11 (by decide) ?_
  refine g_aload_n dX11_worldNow_13 rfl ?_
  refine g_getI (c := 11) (k := 34) dX11_worldNow_14 (by decide) (by decide) kw_1161 rfl (LX11.o (h := h) F0) ?_
  refine g_imul dX11_worldNow_17 ?_
  refine g_aload_n dX11_worldNow_18 rfl ?_
  refine g_getAs (c := 11) (k := 12) (b := a0 + 7) dX11_worldNow_19 (by decide) (by decide) kw_1139 rfl (LX11.o (h := h) F0) (LX11.r_facts (h := h) F0) ?_
  refine g_aload_n dX11_worldNow_22 rfl ?_
  refine g_getI (c := 11) (k := 34) dX11_worldNow_23 (by decide) (by decide) kw_1161 rfl (LX11.o (h := h) F0) ?_
  refine g_iaload dX11_worldNow_26 (LX11.a_facts (h := h) F0) i1 ?_
  refine g_iadd dX11_worldNow_27 ?_
  exact g_icmp_ge (tgt := 77) dX11_worldNow_28 (by decide) (fun q => Gd.wk (kt q) ⟨rfl, trivial⟩) (fun q => Gd.wk (kf q) ⟨rfl, ⟨rfl, ⟨rfl, trivial⟩⟩⟩)
theorem bkX11_worldNow_31 {X : GX} {h : SH} {nc ns : Nat} {P : Out → SH → Prop} {a0 : Nat} {x1 : Int32} {x2 : Int32} (F0 : LX11 (Sk h) (a0)) (i1 : vp_in (x2) 56) (i2 : vp_in (x2 - (8 * hI h a0 34)) 8) (g : Gd X mX11_worldNow 10 [some (.ref a0), some (.int (((x1 * (((hI h (a0 + 10) ((x2 : Int32).toNatClampNeg)) - (hI h (a0 + 9) ((x2 : Int32).toNatClampNeg))) + 1)) + (hI h (a0 + 27) ((x2 - (8 * hI h a0 34) : Int32).toNatClampNeg))) - (hI h (a0 + 9) ((x2 : Int32).toNatClampNeg)))), some (.int (x2 + 1))] [] (h) nc ns P) : Gd X mX11_worldNow 31 [some (.ref a0), some (.int x1), some (.int x2)] [] h nc ns P := by
  refine g_iload_n dX11_worldNow_31 rfl ?_
  refine g_aload_n dX11_worldNow_32 rfl ?_
  refine g_getAs (c := 11) (k := 15) (b := a0 + 10) dX11_worldNow_33 (by decide) (by decide) kw_1142 rfl (LX11.o (h := h) F0) (LX11.r_most (h := h) F0) ?_
  refine g_iload_n dX11_worldNow_36 rfl ?_
  refine g_iaload dX11_worldNow_37 (LX11.a_most (h := h) F0) i1 ?_
  refine g_aload_n dX11_worldNow_38 rfl ?_
  refine g_getAs (c := 11) (k := 14) (b := a0 + 9) dX11_worldNow_39 (by decide) (by decide) kw_1141 rfl (LX11.o (h := h) F0) (LX11.r_least (h := h) F0) ?_
  refine g_iload_n dX11_worldNow_42 rfl ?_
  refine g_iaload dX11_worldNow_43 (LX11.a_least (h := h) F0) i1 ?_
  refine g_isub dX11_worldNow_44 ?_
  refine g_iconst (v := 1) dX11_worldNow_45 (by decide) ?_
  refine g_iadd dX11_worldNow_46 ?_
  refine g_imul dX11_worldNow_47 ?_
  refine g_aload_n dX11_worldNow_48 rfl ?_
  refine g_getAs (c := 11) (k := 35) (b := a0 + 27) dX11_worldNow_49 (by decide) (by decide) kw_1162 rfl (LX11.o (h := h) F0) (LX11.r_told (h := h) F0) ?_
  refine g_iload_n dX11_worldNow_52 rfl ?_
  refine g_bipush (v := 8) dX11_worldNow_53 (by decide) ?_
  refine g_aload_n dX11_worldNow_55 rfl ?_
  refine g_getI (c := 11) (k := 34) dX11_worldNow_56 (by decide) (by decide) kw_1161 rfl (LX11.o (h := h) F0) ?_
  refine g_imul dX11_worldNow_59 ?_
  refine g_isub dX11_worldNow_60 ?_
  refine g_iaload dX11_worldNow_61 (LX11.a_told (h := h) F0) i2 ?_
  refine g_iadd dX11_worldNow_62 ?_
  refine g_aload_n dX11_worldNow_63 rfl ?_
  refine g_getAs (c := 11) (k := 14) (b := a0 + 9) dX11_worldNow_64 (by decide) (by decide) kw_1141 rfl (LX11.o (h := h) F0) (LX11.r_least (h := h) F0) ?_
  refine g_iload_n dX11_worldNow_67 rfl ?_
  refine g_iaload dX11_worldNow_68 (LX11.a_least (h := h) F0) i1 ?_
  refine g_isub dX11_worldNow_69 ?_
  refine g_istore_n (L' := [some (.ref a0), some (.int (((x1 * (((hI h (a0 + 10) ((x2 : Int32).toNatClampNeg)) - (hI h (a0 + 9) ((x2 : Int32).toNatClampNeg))) + 1)) + (hI h (a0 + 27) ((x2 - (8 * hI h a0 34) : Int32).toNatClampNeg))) - (hI h (a0 + 9) ((x2 : Int32).toNatClampNeg)))), some (.int x2)]) dX11_worldNow_70 (by decide) rfl ?_
  refine g_iinc (v := x2 + 1) (L' := [some (.ref a0), some (.int (((x1 * (((hI h (a0 + 10) ((x2 : Int32).toNatClampNeg)) - (hI h (a0 + 9) ((x2 : Int32).toNatClampNeg))) + 1)) + (hI h (a0 + 27) ((x2 - (8 * hI h a0 34) : Int32).toNatClampNeg))) - (hI h (a0 + 9) ((x2 : Int32).toNatClampNeg)))), some (.int (x2 + 1))]) dX11_worldNow_71 rfl rfl (by decide) rfl ?_
  refine g_goto (tgt := 10) dX11_worldNow_74 (by decide) ?_
  exact Gd.wk g ⟨rfl, ⟨rfl, ⟨rfl, trivial⟩⟩⟩
theorem bkX11_worldNow_77 {X : GX} {h : SH} {nc ns : Nat} {P : Out → SH → Prop} {x1 : Int32} (hp : P (.inl (some (.int (x1)))) (h)) : Gd X mX11_worldNow 77 [none, some (.int x1), none] [] h nc ns P := by
  refine g_iload_n dX11_worldNow_77 rfl ?_
  exact g_ireturn (st := []) dX11_worldNow_78 rfl rfl hp
theorem bkX11_world_0 {X : GX} {h : SH} {nc ns : Nat} {P : Out → SH → Prop} {a0 : Nat} {x1 : Int32} (F0 : LX11 (Sk h) (a0)) (kt : (hI (sI h a0 0 0) a0 34) < 0 → Gd X mX11_world 30 [none, none] [] (sI h a0 0 0) nc ns P) (kf : ¬ (hI (sI h a0 0 0) a0 34) < 0 → Gd X mX11_world 12 [some (.ref a0), some (.int x1)] [] (sI h a0 0 0) nc ns P) : Gd X mX11_world 0 [some (.ref a0), some (.int x1)] [] h nc ns P := by
  refine g_aload_n dX11_world_0 rfl ?_
  refine g_iconst (v := 0) dX11_world_1 (by decide) ?_
  refine g_put (c := 11) (k := 0) (h1 := sI h a0 0 0) dX11_world_2 (by decide) (by decide) kw_1127 rfl (LX11.o (h := h) F0) rfl rfl (Put.I rfl) ?_
  refine g_aload_n dX11_world_5 rfl ?_
  refine g_getI (c := 11) (k := 34) dX11_world_6 (by decide) (by decide) kw_1161 rfl (LX11.o (h := sI h a0 0 0) F0) ?_
  exact g_if_lt (tgt := 30) dX11_world_9 (by decide) (fun q => Gd.wk (kt q) trivial) (fun q => Gd.wk (kf q) ⟨rfl, ⟨rfl, trivial⟩⟩)
theorem bkX11_world_12 {X : GX} {h : SH} {nc ns : Nat} {P : Out → SH → Prop} {a0 : Nat} {x1 : Int32} (kt : x1 < 0 → Gd X mX11_world 30 [none, none] [] (h) nc ns P) (kf : ¬ x1 < 0 → Gd X mX11_world 16 [some (.ref a0), some (.int x1)] [] (h) nc ns P) : Gd X mX11_world 12 [some (.ref a0), some (.int x1)] [] h nc ns P := by
  refine g_iload_n dX11_world_12 rfl ?_
  exact g_if_lt (tgt := 30) dX11_world_13 (by decide) (fun q => Gd.wk (kt q) trivial) (fun q => Gd.wk (kf q) ⟨rfl, ⟨rfl, trivial⟩⟩)
theorem bkX11_world_16 {X : GX} {h : SH} {nc ns : Nat} {P : Out → SH → Prop} {Q : Int64 → SH → Prop} {a0 : Nat} {x1 : Int32} (F0 : LX11 (Sk h) (a0)) (hN : Cd X mX11_worlds [.ref a0, .int (hI h a0 34)] (h) 0 0 (oJ Q nX)) (g : ∀ r t, Q r t → Gd X mX11_world 26 [some (.ref a0), some (.int x1)] [.long r, .long ((x1 : Int32).toInt64)] (t) nc ns P) : Gd X mX11_world 16 [some (.ref a0), some (.int x1)] [] h nc ns P := by
  refine g_iload_n dX11_world_16 rfl ?_
  refine g_i2l dX11_world_17 ?_
  refine g_aload_n dX11_world_18 rfl ?_
  refine g_aload_n dX11_world_19 rfl ?_
  refine g_getI (c := 11) (k := 34) dX11_world_20 (by decide) (by decide) kw_1161 rfl (LX11.o (h := h) F0) ?_
  refine Gd.z ?_
  exact g_callV (k := 11) [.int (hI h a0 34)] dX11_world_23 mfX11_worlds ⟨by decide, by decide⟩ kw_1358 kw_1360 kw_53 rfl (by decide) (Nat.le_of_ble_eq_true rfl) (by intro x hx; cases hx) (LX11.o (h := h) F0) (Nat.le_of_ble_eq_true rfl) hN (fun _ _ q => q.elim) (oJ_go (G := fun a b => Gd X mX11_world 26 _ a b nc ns P) (fun r t q => Gd.wk (g r t q) ⟨rfl, ⟨rfl, trivial⟩⟩))
theorem bkX11_world_26 {X : GX} {h : SH} {nc ns : Nat} {P : Out → SH → Prop} {a0 : Nat} {x1 : Int32} {ys0 : Int64} {ys1 : Int64} (kt : (lg_cmp ys0 ys1) < 0 → Gd X mX11_world 32 [some (.ref a0), some (.int x1)] [] (h) nc ns P) (kf : ¬ (lg_cmp ys0 ys1) < 0 → Gd X mX11_world 30 [none, none] [] (h) nc ns P) : Gd X mX11_world 26 [some (.ref a0), some (.int x1)] [.long ys1, .long ys0] h nc ns P := by
  refine g_lcmp dX11_world_26 ?_
  exact g_if_lt (tgt := 32) dX11_world_27 (by decide) (fun q => Gd.wk (kt q) ⟨rfl, ⟨rfl, trivial⟩⟩) (fun q => Gd.wk (kf q) trivial)
theorem bkX11_world_30 {X : GX} {h : SH} {nc ns : Nat} {P : Out → SH → Prop} (hp : P (.inl (some (.int (0)))) (h)) : Gd X mX11_world 30 [none, none] [] h nc ns P := by
  refine g_iconst (v := 0) dX11_world_30 (by decide) ?_
  exact g_ireturn (st := []) dX11_world_31 rfl (bl_n (by decide)) hp
theorem bkX11_world_32 {X : GX} {h : SH} {nc ns : Nat} {P : Out → SH → Prop} {Q : SH → Prop} {a0 : Nat} {x1 : Int32} (F0 : LX11 (Sk h) (a0)) (hN : Cd X mX11_comes [.ref a0, .int (hI h a0 34), .int x1] (h) 0 0 (oV Q nX)) (g : ∀ t, Q t → Gd X mX11_world 41 [none, none] [] (t) nc ns P) : Gd X mX11_world 32 [some (.ref a0), some (.int x1)] [] h nc ns P := by
  refine g_aload_n dX11_world_32 rfl ?_
  refine g_aload_n dX11_world_33 rfl ?_
  refine g_getI (c := 11) (k := 34) dX11_world_34 (by decide) (by decide) kw_1161 rfl (LX11.o (h := h) F0) ?_
  refine g_iload_n dX11_world_37 rfl ?_
  refine Gd.z ?_
  exact g_callV (k := 11) [.int (hI h a0 34), .int x1] dX11_world_38 mfX11_comes ⟨by decide, by decide⟩ kw_1443 kw_1445 kw_70 rfl (by decide) (Nat.le_of_ble_eq_true rfl) (by intro x hx; cases hx) (LX11.o (h := h) F0) (Nat.le_of_ble_eq_true rfl) hN (fun _ _ q => q.elim) (oV_go (G := fun a b => Gd X mX11_world 41 _ a b nc ns P) (fun t q => Gd.wk (g t q) trivial))
theorem bkX11_world_41 {X : GX} {h : SH} {nc ns : Nat} {P : Out → SH → Prop} (hp : P (.inl (some (.int (1)))) (h)) : Gd X mX11_world 41 [none, none] [] h nc ns P := by
  refine g_iconst (v := 1) dX11_world_41 (by decide) ?_
  exact g_ireturn (st := []) dX11_world_42 rfl (bl_n (by decide)) hp
theorem bkX11_free_0 {X : GX} {h : SH} {nc ns : Nat} {P : Out → SH → Prop} {a0 : Nat} {x1 : Int32} {x2 : Int32} (F0 : LX11 (Sk h) (a0)) (kt : x1 < 0 → Gd X mX11_free 39 [none, none, none] [] (sI h a0 0 0) nc ns P) (kf : ¬ x1 < 0 → Gd X mX11_free 9 [some (.ref a0), some (.int x1), some (.int x2)] [] (sI h a0 0 0) nc ns P) : Gd X mX11_free 0 [some (.ref a0), some (.int x1), some (.int x2)] [] h nc ns P := by
  refine g_aload_n dX11_free_0 rfl ?_
  refine g_iconst (v := 0) dX11_free_1 (by decide) ?_
  refine g_put (c := 11) (k := 0) (h1 := sI h a0 0 0) dX11_free_2 (by decide) (by decide) kw_1127 rfl (LX11.o (h := h) F0) rfl rfl (Put.I rfl) ?_
  refine g_iload_n dX11_free_5 rfl ?_
  exact g_if_lt (tgt := 39) dX11_free_6 (by decide) (fun q => Gd.wk (kt q) trivial) (fun q => Gd.wk (kf q) ⟨rfl, ⟨rfl, ⟨rfl, trivial⟩⟩⟩)
theorem bkX11_free_9 {X : GX} {h : SH} {nc ns : Nat} {P : Out → SH → Prop} {a0 : Nat} {x1 : Int32} {x2 : Int32} (kt : (9999 : Int32) < x1 → Gd X mX11_free 39 [none, none, none] [] (h) nc ns P) (kf : ¬ (9999 : Int32) < x1 → Gd X mX11_free 16 [some (.ref a0), some (.int x1), some (.int x2)] [] (h) nc ns P) : Gd X mX11_free 9 [some (.ref a0), some (.int x1), some (.int x2)] [] h nc ns P := by
  refine g_iload_n dX11_free_9 rfl ?_
  refine g_sipush (v := 9999) dX11_free_10 (by decide) ?_
  exact g_icmp_gt (tgt := 39) dX11_free_13 (by decide) (fun q => Gd.wk (kt q) trivial) (fun q => Gd.wk (kf q) ⟨rfl, ⟨rfl, ⟨rfl, trivial⟩⟩⟩)
theorem bkX11_free_16 {X : GX} {h : SH} {nc ns : Nat} {P : Out → SH → Prop} {a0 : Nat} {x1 : Int32} {x2 : Int32} (F0 : LX11 (Sk h) (a0)) (i1 : vp_in (x1) 10000) (kt : (hI h (a0 + 28) ((x1 : Int32).toNatClampNeg)) = x2 → Gd X mX11_free 39 [none, none, none] [] (h) nc ns P) (kf : ¬ (hI h (a0 + 28) ((x1 : Int32).toNatClampNeg)) = x2 → Gd X mX11_free 26 [some (.ref a0), some (.int x1), some (.int x2)] [] (h) nc ns P) : Gd X mX11_free 16 [some (.ref a0), some (.int x1), some (.int x2)] [] h nc ns P := by
  refine g_aload_n dX11_free_16 rfl ?_
  refine g_getAs (c := 11) (k := 37) (b := a0 + 28) dX11_free_17 (by decide) (by decide) kw_1164 rfl (LX11.o (h := h) F0) (LX11.r_isFree (h := h) F0) ?_
  refine g_iload_n dX11_free_20 rfl ?_
  refine g_zaload dX11_free_21 (LX11.a_isFree (h := h) F0) i1 ?_
  refine g_iload_n dX11_free_22 rfl ?_
  exact g_icmp_eq (tgt := 39) dX11_free_23 (by decide) (fun q => Gd.wk (kt q) trivial) (fun q => Gd.wk (kf q) ⟨rfl, ⟨rfl, ⟨rfl, trivial⟩⟩⟩)
theorem bkX11_free_26 {X : GX} {h : SH} {nc ns : Nat} {P : Out → SH → Prop} {a0 : Nat} {x1 : Int32} {x2 : Int32} (kt : x2 = 0 → Gd X mX11_free 41 [some (.ref a0), some (.int x1), some (.int x2)] [] (h) nc ns P) (kf : ¬ x2 = 0 → Gd X mX11_free 30 [some (.ref a0), some (.int x1), some (.int x2)] [] (h) nc ns P) : Gd X mX11_free 26 [some (.ref a0), some (.int x1), some (.int x2)] [] h nc ns P := by
  refine g_iload_n dX11_free_26 rfl ?_
  exact g_if_eq (tgt := 41) dX11_free_27 (by decide) (fun q => Gd.wk (kt q) ⟨rfl, ⟨rfl, ⟨rfl, trivial⟩⟩⟩) (fun q => Gd.wk (kf q) ⟨rfl, ⟨rfl, ⟨rfl, trivial⟩⟩⟩)
theorem bkX11_free_30 {X : GX} {h : SH} {nc ns : Nat} {P : Out → SH → Prop} {a0 : Nat} {x1 : Int32} {x2 : Int32} (F0 : LX11 (Sk h) (a0)) (kt : ¬ hI h a0 36 = 40 → Gd X mX11_free 41 [some (.ref a0), some (.int x1), some (.int x2)] [] (h) nc ns P) (kf : hI h a0 36 = 40 → Gd X mX11_free 39 [none, none, none] [] (h) nc ns P) : Gd X mX11_free 30 [some (.ref a0), some (.int x1), some (.int x2)] [] h nc ns P := by
  refine g_aload_n dX11_free_30 rfl ?_
  refine g_getI (c := 11) (k := 36) dX11_free_31 (by decide) (by decide) kw_1163 rfl (LX11.o (h := h) F0) ?_
  refine g_bipush (v := 40) dX11_free_34 (by decide) ?_
  exact g_icmp_ne (tgt := 41) dX11_free_36 (by decide) (fun q => Gd.wk (kt q) ⟨rfl, ⟨rfl, ⟨rfl, trivial⟩⟩⟩) (fun q => Gd.wk (kf q) trivial)
theorem bkX11_free_39 {X : GX} {h : SH} {nc ns : Nat} {P : Out → SH → Prop} (hp : P (.inl (some (.int (0)))) (h)) : Gd X mX11_free 39 [none, none, none] [] h nc ns P := by
  refine g_iconst (v := 0) dX11_free_39 (by decide) ?_
  exact g_ireturn (st := []) dX11_free_40 rfl (bl_n (by decide)) hp
theorem bkX11_free_41 {X : GX} {h : SH} {nc ns : Nat} {P : Out → SH → Prop} {a0 : Nat} {x1 : Int32} {x2 : Int32} (F0 : LX11 (Sk h) (a0)) (i1 : vp_in (x1) 10000) (kt : x2 = 0 → Gd X mX11_free 61 [none, none, none] [.int (hI (sI h (a0 + 28) ((x1 : Int32).toNatClampNeg) (vp_nar .boolean x2)) a0 36), .ref a0] (sI h (a0 + 28) ((x1 : Int32).toNatClampNeg) (vp_nar .boolean x2)) nc ns P) (kf : ¬ x2 = 0 → Gd X mX11_free 57 [none, none, none] [.int (hI (sI h (a0 + 28) ((x1 : Int32).toNatClampNeg) (vp_nar .boolean x2)) a0 36), .ref a0] (sI h (a0 + 28) ((x1 : Int32).toNatClampNeg) (vp_nar .boolean x2)) nc ns P) : Gd X mX11_free 41 [some (.ref a0), some (.int x1), some (.int x2)] [] h nc ns P := by
  refine g_aload_n dX11_free_41 rfl ?_
  refine g_getAs (c := 11) (k := 37) (b := a0 + 28) dX11_free_42 (by decide) (by decide) kw_1164 rfl (LX11.o (h := h) F0) (LX11.r_isFree (h := h) F0) ?_
  refine g_iload_n dX11_free_45 rfl ?_
  refine g_iload_n dX11_free_46 rfl ?_
  refine g_zastore dX11_free_47 (LX11.a_isFree (h := h) F0) i1 ?_
  refine g_aload_n dX11_free_48 rfl ?_
  refine g_dup dX11_free_49 rfl ?_
  refine g_getI (c := 11) (k := 36) dX11_free_50 (by decide) (by decide) kw_1163 rfl (LX11.o (h := sI h (a0 + 28) ((x1 : Int32).toNatClampNeg) (vp_nar .boolean x2)) F0) ?_
  refine g_iload_n dX11_free_53 rfl ?_
  exact g_if_eq (tgt := 61) dX11_free_54 (by decide) (fun q => Gd.wk (kt q) trivial) (fun q => Gd.wk (kf q) trivial)
theorem bkX11_free_57 {X : GX} {h : SH} {nc ns : Nat} {P : Out → SH → Prop} {as0 : Nat} {xs1 : Int32} (g : Gd X mX11_free 62 [none, none, none] [.int 1, .int xs1, .ref as0] (h) nc ns P) : Gd X mX11_free 57 [none, none, none] [.int xs1, .ref as0] h nc ns P := by
  refine g_iconst (v := 1) dX11_free_57 (by decide) ?_
  refine g_goto (tgt := 62) dX11_free_58 (by decide) ?_
  exact Gd.wk g trivial
