/-! ===== the constructors of the desk and of the model (wip/gen/gen8.py) ===== -/
/-- cells and fields may have changed as they like, old kinds stay -/
abbrev gT (h t : SH) : Prop := gr (fun _ => True) (fun _ => True) h t
theorem nwF_T {h : SH} {b j c n : Nat} : gT h (nwF h b j c n) := nwF_g.up (fun _ _ _ => trivial) (fun _ _ _ => trivial)
theorem nw_T {h : SH} {c n : Nat} : gT h (nw h c n) := gr.rf.nw
theorem sA_T {h : SH} {b j : Nat} {v : Option Nat} : gT h (sA h b j v) := gr.rf.a (Or.inl trivial)
theorem sI_T {h : SH} {b j : Nat} {v : Int32} : gT h (sI h b j v) := gr.rf.s (Or.inl trivial)
/-- a new object, made by f, put into field j of b -/
def mkF (h : SH) (b j c : Nat) (f : SH → Nat → SH) : SH := sA (f (nw h c 0) (hz h)) b j (some (hz h))
def Ca1 (h : SH) (b : Nat) : SH := nwF (nwF h b 0 20 8) b 1 20 12
def Ca0 (h : SH) (b : Nat) : SH := nwF h b 0 20 40
def Ca6 (h : SH) (b : Nat) : SH := sI (sI (nwF (nwF (nwF (nwF h b 0 22 12) b 1 20 12) b 2 20 12) b 4 21 2772) b 7 (-1)) b 8 (-1)
def Ca8 (h : SH) (b : Nat) : SH := mkF (mkF (mkF h b 0 1 Ca1) b 1 6 Ca6) b 2 6 Ca6
def Ca10 (h : SH) (b : Nat) : SH := mkF (mkF (mkF (mkF (nwF (nwF h b 0 21 2400) b 2 24 6) b 5 1 Ca1) b 6 0 Ca0) b 7 6 Ca6) b 9 8 Ca8
theorem Ca1_T {h : SH} {b : Nat} : gT h (Ca1 h b) := nwF_T.tr nwF_T
theorem Ca0_T {h : SH} {b : Nat} : gT h (Ca0 h b) := nwF_T
theorem Ca6_T {h : SH} {b : Nat} : gT h (Ca6 h b) := ((((nwF_T.tr nwF_T).tr nwF_T).tr nwF_T).tr sI_T).tr sI_T
theorem mkF_T {h : SH} {b j c : Nat} {f : SH → Nat → SH} (hf : ∀ h b, gT h (f h b)) : gT h (mkF h b j c f) := (nw_T.tr (hf _ _)).tr sA_T
theorem Ca8_T {h : SH} {b : Nat} : gT h (Ca8 h b) := ((mkF_T (fun _ _ => Ca1_T)).tr (mkF_T (fun _ _ => Ca6_T))).tr (mkF_T (fun _ _ => Ca6_T))
section CT
variable {X : GX} {h : SH} {b : Nat}
theorem c_X1init (h8 : 8 ≤ hz h) (O : Ob h b 1) : Cd X mX1_init [.ref b] h 2 20 (oV (fun t => t = Ca1 h b) nX) :=
  bkX1_init_0 (bkX1_init_4 (boX1_init_9 (nwO O) (bkX1_init_12 (boX1_init_17 (nwO (nwFO O)) (bkX1_init_20 rfl)))))
theorem c_X0init (h8 : 8 ≤ hz h) (O : Ob h b 0) : Cd X mX0_init [.ref b] h 1 40 (oV (fun t => t = Ca0 h b) nX) :=
  bkX0_init_0 (bkX0_init_4 (boX0_init_9 (nwO O) (bkX0_init_12 rfl)))
theorem c_X6init (h8 : 8 ≤ hz h) (O : Ob h b 6) : Cd X mX6_init [.ref b] h 4 2808 (oV (fun t => t = Ca6 h b) nX) :=
  bkX6_init_0 (bkX6_init_4 (boX6_init_9 (nwO O) (bkX6_init_12 (boX6_init_17 (nwO (nwFO O)) (bkX6_init_20 (boX6_init_25 (nwO (nwFO (nwFO O))) (bkX6_init_28 (boX6_init_34 (nwO (nwFO (nwFO (nwFO O)))) (bkX6_init_37 (nwFO (nwFO (nwFO (nwFO O)))) rfl)))))))))
theorem c_X8init (h8 : 8 ≤ hz h) (O : Ob h b 8) : Cd X mX8_init [.ref b] h 13 5656 (oV (fun t => t = Ca8 h b) nX) := by
  refine Gd.le (nc := 2 + (4 + (4 + 0 + 1) + 1) + 1) (ns := 20 + (2808 + (2808 + 0 + 9) + 9) + 2) (by omega) (by omega) (bkX8_init_0 (bkX8_init_4 (bkX8_init_8 (c_X1init (by show 8 ≤ hz h + 1; omega) (nw_ob h8)) (fun t q => ?_))))
  have O1 : Ob t b 8 := by rw [q]; exact Ca1_T.ob (nw_T.ob O)
  refine boX8_init_12 O1 ?_
  generalize e1 : sA t b 0 (some (hz h)) = h1
  have O1 : Ob h1 b 8 := by rw [← e1]; exact O1
  have z1 : 8 ≤ hz h1 := by rw [← e1, q]; exact Nat.le_trans h8 ((nw_T.tr Ca1_T).1)
  refine Gd.le (nc := 4 + 5 + 1) (ns := 2808 + 2817 + 9) (by decide) (by decide) ?_
  refine bkX8_init_15 (bkX8_init_19 (c_X6init (by show 8 ≤ hz h1 + 1; omega) (nw_ob z1)) (fun u p => ?_))
  have O2 : Ob u b 8 := by rw [p]; exact Ca6_T.ob (nw_T.ob O1)
  refine boX8_init_23 O2 ?_
  generalize e2 : sA u b 1 (some (hz h1)) = h2
  have O2 : Ob h2 b 8 := by rw [← e2]; exact O2
  have z2 : 8 ≤ hz h2 := by rw [← e2, p]; exact Nat.le_trans z1 ((nw_T.tr Ca6_T).1)
  refine Gd.le (nc := 4 + 0 + 1) (ns := 2808 + 0 + 9) (by decide) (by decide) ?_
  refine bkX8_init_26 (bkX8_init_30 (nc := 0) (ns := 0) (c_X6init (by show 8 ≤ hz h2 + 1; omega) (nw_ob z2)) (fun v r => ?_))
  have O3 : Ob v b 8 := by rw [r]; exact Ca6_T.ob (nw_T.ob O2)
  refine boX8_init_34 O3 (bkX8_init_37 ?_)
  subst r e2 p e1 q
  exact rfl
theorem c_X10init (h8 : 8 ≤ hz h) (O : Ob h b 10) : Cd X mX10_init [.ref b] h 26 10951 (oV (fun t => t = Ca10 h b) nX) := by
  refine Gd.le (nc := 2 + (1 + (4 + (13 + 0 + 1) + 1) + 1) + 1 + 1 + 1) (ns := 20 + (40 + (2808 + (5656 + 0 + 8) + 9) + 2) + 2 + 6 + 2400) (by omega) (by omega) (bkX10_init_0 (bkX10_init_4 (boX10_init_10 (nwO O) (bkX10_init_13 (boX10_init_19 (nwO (nwFO O)) ?_)))))
  generalize e0 : sA (nw (sA (nw h 21 2400) b 0 (some (hz h))) 24 6) b 2 (some (hz (sA (nw h 21 2400) b 0 (some (hz h))))) = h0
  have O0 : Ob h0 b 10 := by rw [← e0]; exact nwFO (nwFO O)
  have z0 : 8 ≤ hz h0 := by rw [← e0]; show 8 ≤ hz h + 1 + 1; omega
  refine Gd.le (nc := 2 + 21 + 1) (ns := 20 + 8523 + 2) (by decide) (by decide) ?_
  refine bkX10_init_22 (bkX10_init_26 (c_X1init (by show 8 ≤ hz h0 + 1; omega) (nw_ob z0)) (fun t q => ?_))
  have O1 : Ob t b 10 := by rw [q]; exact Ca1_T.ob (nw_T.ob O0)
  refine boX10_init_30 O1 ?_
  generalize e1 : sA t b 5 (some (hz h0)) = h1
  have O1 : Ob h1 b 10 := by rw [← e1]; exact O1
  have z1 : 8 ≤ hz h1 := by rw [← e1, q]; exact Nat.le_trans z0 ((nw_T.tr Ca1_T).1)
  refine Gd.le (nc := 1 + 19 + 1) (ns := 40 + 8481 + 2) (by decide) (by decide) ?_
  refine bkX10_init_33 (bkX10_init_37 (c_X0init (by show 8 ≤ hz h1 + 1; omega) (nw_ob z1)) (fun u p => ?_))
  have O2 : Ob u b 10 := by rw [p]; exact (Ca0_T (h := nw h1 0 0) (b := hz h1)).ob (nw_T.ob O1)
  refine boX10_init_41 O2 ?_
  generalize e2 : sA u b 6 (some (hz h1)) = h2
  have O2 : Ob h2 b 10 := by rw [← e2]; exact O2
  have z2 : 8 ≤ hz h2 := by rw [← e2, p]; exact Nat.le_trans z1 ((nw_T.tr (Ca0_T (h := nw h1 0 0) (b := hz h1))).1)
  refine Gd.le (nc := 4 + 14 + 1) (ns := 2808 + 5664 + 9) (by decide) (by decide) ?_
  refine bkX10_init_44 (bkX10_init_48 (c_X6init (by show 8 ≤ hz h2 + 1; omega) (nw_ob z2)) (fun v r => ?_))
  have O3 : Ob v b 10 := by rw [r]; exact Ca6_T.ob (nw_T.ob O2)
  refine boX10_init_52 O3 ?_
  generalize e3 : sA v b 7 (some (hz h2)) = h3
  have O3 : Ob h3 b 10 := by rw [← e3]; exact O3
  have z3 : 8 ≤ hz h3 := by rw [← e3, r]; exact Nat.le_trans z2 ((nw_T.tr Ca6_T).1)
  refine Gd.le (nc := 13 + 0 + 1) (ns := 5656 + 0 + 8) (by decide) (by decide) ?_
  refine bkX10_init_55 (bkX10_init_59 (nc := 0) (ns := 0) (c_X8init (by show 8 ≤ hz h3 + 1; omega) (nw_ob z3)) (fun w s => ?_))
  have O4 : Ob w b 10 := by rw [s]; exact Ca8_T.ob (nw_T.ob O3)
  refine boX10_init_63 O4 (bkX10_init_66 ?_)
  subst s e3 r e2 p e1 q e0
  exact rfl
/-- rows put into fields of b, one after the other -/
def rwsF (b : Nat) : List (Nat × Nat × Nat) → SH → SH
  | [], h => h
  | r :: l, h => rwsF b l (nwF h b r.1 r.2.1 r.2.2)
def rwA : List (Nat × Nat × Nat) := [(1, 20, 2400), (4, 20, 2402), (5, 20, 2402), (6, 23, 2402)]
def rwB : List (Nat × Nat × Nat) := [(11, 20, 6), (12, 20, 7), (13, 23, 56), (14, 20, 56), (15, 20, 56), (16, 20, 7), (17, 23, 84), (18, 20, 84), (19, 22, 84), (20, 20, 84), (21, 20, 84), (22, 20, 672), (23, 22, 672), (24, 20, 84), (25, 20, 1680), (26, 20, 1680), (27, 23, 1680), (28, 20, 18200), (29, 20, 18200), (32, 20, 7), (33, 20, 7), (35, 20, 8), (37, 22, 10000), (39, 20, 10000), (40, 20, 2600), (41, 22, 12), (42, 20, 12), (47, 20, 5000), (54, 20, 5000), (55, 20, 12), (56, 20, 8), (57, 20, 5000)]
def wdW : List Int64 := [305418, 755, 230601913, 57, 687961, 1176170, 26498531, 103360, 964720, 24833, 5538]
/-- the reserved words -/
def Ca9 (h : SH) (b : Nat) : SH := sA (sJ (sJ (sJ (sJ (sJ (sJ (sJ (sJ (sJ (sJ (sJ (nw h 23 11) (hz h) 0 305418) (hz h) 1 755) (hz h) 2 230601913) (hz h) 3 57) (hz h) 4 687961) (hz h) 5 1176170) (hz h) 6 26498531) (hz h) 7 103360) (hz h) 8 964720) (hz h) 9 24833) (hz h) 10 5538) b 9 (some (hz h))
def Ca11 (h : SH) (b : Nat) : SH := sI (sI (rwsF b rwB (Ca9 (rwsF b rwA h) b)) b 49 (-1)) b 34 (-1)
theorem vi11 {i : Nat} (hi : i < 11) : vp_in (nI i) 11 := vp_in_nI hi (by decide)
theorem c_X11init (hh8 : 8 ≤ hz h) (O : Ob h b 11) : Cd X mX11_init [.ref b] h 37 90759 (oV (fun t => t = Ca11 h b) nX) := by
  refine bkX11_init_0 ?_
  refine bkX11_init_4 (boX11_init_10 (nwO O) ?_)
  generalize e1 : sA (nw h 20 2400) b 1 (some (hz h)) = h1
  replace O : Ob h1 b 11 := by rw [← e1]; exact nwFO O
  replace hh8 : 8 ≤ hz h1 := by rw [← e1]; exact Nat.le_succ_of_le hh8
  refine bkX11_init_13 (boX11_init_19 (nwO O) ?_)
  generalize e2 : sA (nw h1 20 2402) b 4 (some (hz h1)) = h2
  replace O : Ob h2 b 11 := by rw [← e2]; exact nwFO O
  replace hh8 : 8 ≤ hz h2 := by rw [← e2]; exact Nat.le_succ_of_le hh8
  refine bkX11_init_22 (boX11_init_28 (nwO O) ?_)
  generalize e3 : sA (nw h2 20 2402) b 5 (some (hz h2)) = h3
  replace O : Ob h3 b 11 := by rw [← e3]; exact nwFO O
  replace hh8 : 8 ≤ hz h3 := by rw [← e3]; exact Nat.le_succ_of_le hh8
  refine bkX11_init_31 (boX11_init_37 (nwO O) ?_)
  generalize e4 : sA (nw h3 23 2402) b 6 (some (hz h3)) = h4
  replace O : Ob h4 b 11 := by rw [← e4]; exact nwFO O
  replace hh8 : 8 ≤ hz h4 := by rw [← e4]; exact Nat.le_succ_of_le hh8
  refine bkX11_init_40 (bkX11_init_45 (n3 := 11) (nw_ar hh8) (vi11 (i := 0) (by decide)) (vi11 (i := 1) (by decide)) (vi11 (i := 2) (by decide)) (vi11 (i := 3) (by decide)) (bkX11_init_69 (n3 := 11) (nw_ar (h := h4) hh8) (vi11 (i := 4) (by decide)) (vi11 (i := 5) (by decide)) (vi11 (i := 6) (by decide)) (vi11 (i := 7) (by decide)) (boX11_init_95 (n3 := 11) (nw_ar (h := h4) hh8) (vi11 (i := 8) (by decide)) (vi11 (i := 9) (by decide)) (vi11 (i := 10) (by decide)) (nwO O) ?_)))
  change Gd X mX11_init 119 _ [] (Ca9 h4 b) _ _ _
  generalize e5 : Ca9 h4 b = h5
  replace O : Ob h5 b 11 := by rw [← e5]; exact nwFO (j := 9) (c := 23) (n := 11) O
  replace hh8 : 8 ≤ hz h5 := by rw [← e5]; exact Nat.le_succ_of_le hh8
  refine bkX11_init_119 (boX11_init_124 (nwO O) ?_)
  generalize e6 : sA (nw h5 20 6) b 11 (some (hz h5)) = h6
  replace O : Ob h6 b 11 := by rw [← e6]; exact nwFO O
  replace hh8 : 8 ≤ hz h6 := by rw [← e6]; exact Nat.le_succ_of_le hh8
  refine bkX11_init_127 (boX11_init_132 (nwO O) ?_)
  generalize e7 : sA (nw h6 20 7) b 12 (some (hz h6)) = h7
  replace O : Ob h7 b 11 := by rw [← e7]; exact nwFO O
  replace hh8 : 8 ≤ hz h7 := by rw [← e7]; exact Nat.le_succ_of_le hh8
  refine bkX11_init_135 (boX11_init_140 (nwO O) ?_)
  generalize e8 : sA (nw h7 23 56) b 13 (some (hz h7)) = h8
  replace O : Ob h8 b 11 := by rw [← e8]; exact nwFO O
  replace hh8 : 8 ≤ hz h8 := by rw [← e8]; exact Nat.le_succ_of_le hh8
  refine bkX11_init_143 (boX11_init_148 (nwO O) ?_)
  generalize e9 : sA (nw h8 20 56) b 14 (some (hz h8)) = h9
  replace O : Ob h9 b 11 := by rw [← e9]; exact nwFO O
  replace hh8 : 8 ≤ hz h9 := by rw [← e9]; exact Nat.le_succ_of_le hh8
  refine bkX11_init_151 (boX11_init_156 (nwO O) ?_)
  generalize e10 : sA (nw h9 20 56) b 15 (some (hz h9)) = h10
  replace O : Ob h10 b 11 := by rw [← e10]; exact nwFO O
  replace hh8 : 8 ≤ hz h10 := by rw [← e10]; exact Nat.le_succ_of_le hh8
  refine bkX11_init_159 (boX11_init_164 (nwO O) ?_)
  generalize e11 : sA (nw h10 20 7) b 16 (some (hz h10)) = h11
  replace O : Ob h11 b 11 := by rw [← e11]; exact nwFO O
  replace hh8 : 8 ≤ hz h11 := by rw [← e11]; exact Nat.le_succ_of_le hh8
  refine bkX11_init_167 (boX11_init_172 (nwO O) ?_)
  generalize e12 : sA (nw h11 23 84) b 17 (some (hz h11)) = h12
  replace O : Ob h12 b 11 := by rw [← e12]; exact nwFO O
  replace hh8 : 8 ≤ hz h12 := by rw [← e12]; exact Nat.le_succ_of_le hh8
  refine bkX11_init_175 (boX11_init_180 (nwO O) ?_)
  generalize e13 : sA (nw h12 20 84) b 18 (some (hz h12)) = h13
  replace O : Ob h13 b 11 := by rw [← e13]; exact nwFO O
  replace hh8 : 8 ≤ hz h13 := by rw [← e13]; exact Nat.le_succ_of_le hh8
  refine bkX11_init_183 (boX11_init_188 (nwO O) ?_)
  generalize e14 : sA (nw h13 22 84) b 19 (some (hz h13)) = h14
  replace O : Ob h14 b 11 := by rw [← e14]; exact nwFO O
  replace hh8 : 8 ≤ hz h14 := by rw [← e14]; exact Nat.le_succ_of_le hh8
  refine bkX11_init_191 (boX11_init_196 (nwO O) ?_)
  generalize e15 : sA (nw h14 20 84) b 20 (some (hz h14)) = h15
  replace O : Ob h15 b 11 := by rw [← e15]; exact nwFO O
  replace hh8 : 8 ≤ hz h15 := by rw [← e15]; exact Nat.le_succ_of_le hh8
  refine bkX11_init_199 (boX11_init_204 (nwO O) ?_)
  generalize e16 : sA (nw h15 20 84) b 21 (some (hz h15)) = h16
  replace O : Ob h16 b 11 := by rw [← e16]; exact nwFO O
  replace hh8 : 8 ≤ hz h16 := by rw [← e16]; exact Nat.le_succ_of_le hh8
  refine bkX11_init_207 (boX11_init_213 (nwO O) ?_)
  generalize e17 : sA (nw h16 20 672) b 22 (some (hz h16)) = h17
  replace O : Ob h17 b 11 := by rw [← e17]; exact nwFO O
  replace hh8 : 8 ≤ hz h17 := by rw [← e17]; exact Nat.le_succ_of_le hh8
  refine bkX11_init_216 (boX11_init_222 (nwO O) ?_)
  generalize e18 : sA (nw h17 22 672) b 23 (some (hz h17)) = h18
  replace O : Ob h18 b 11 := by rw [← e18]; exact nwFO O
  replace hh8 : 8 ≤ hz h18 := by rw [← e18]; exact Nat.le_succ_of_le hh8
  refine bkX11_init_225 (boX11_init_230 (nwO O) ?_)
  generalize e19 : sA (nw h18 20 84) b 24 (some (hz h18)) = h19
  replace O : Ob h19 b 11 := by rw [← e19]; exact nwFO O
  replace hh8 : 8 ≤ hz h19 := by rw [← e19]; exact Nat.le_succ_of_le hh8
  refine bkX11_init_233 (boX11_init_239 (nwO O) ?_)
  generalize e20 : sA (nw h19 20 1680) b 25 (some (hz h19)) = h20
  replace O : Ob h20 b 11 := by rw [← e20]; exact nwFO O
  replace hh8 : 8 ≤ hz h20 := by rw [← e20]; exact Nat.le_succ_of_le hh8
  refine bkX11_init_242 (boX11_init_248 (nwO O) ?_)
  generalize e21 : sA (nw h20 20 1680) b 26 (some (hz h20)) = h21
  replace O : Ob h21 b 11 := by rw [← e21]; exact nwFO O
  replace hh8 : 8 ≤ hz h21 := by rw [← e21]; exact Nat.le_succ_of_le hh8
  refine bkX11_init_251 (boX11_init_257 (nwO O) ?_)
  generalize e22 : sA (nw h21 23 1680) b 27 (some (hz h21)) = h22
  replace O : Ob h22 b 11 := by rw [← e22]; exact nwFO O
  replace hh8 : 8 ≤ hz h22 := by rw [← e22]; exact Nat.le_succ_of_le hh8
  refine bkX11_init_260 (boX11_init_266 (nwO O) ?_)
  generalize e23 : sA (nw h22 20 18200) b 28 (some (hz h22)) = h23
  replace O : Ob h23 b 11 := by rw [← e23]; exact nwFO O
  replace hh8 : 8 ≤ hz h23 := by rw [← e23]; exact Nat.le_succ_of_le hh8
  refine bkX11_init_269 (boX11_init_275 (nwO O) ?_)
  generalize e24 : sA (nw h23 20 18200) b 29 (some (hz h23)) = h24
  replace O : Ob h24 b 11 := by rw [← e24]; exact nwFO O
  replace hh8 : 8 ≤ hz h24 := by rw [← e24]; exact Nat.le_succ_of_le hh8
  refine bkX11_init_278 (boX11_init_283 (nwO O) ?_)
  generalize e25 : sA (nw h24 20 7) b 32 (some (hz h24)) = h25
  replace O : Ob h25 b 11 := by rw [← e25]; exact nwFO O
  replace hh8 : 8 ≤ hz h25 := by rw [← e25]; exact Nat.le_succ_of_le hh8
  refine bkX11_init_286 (boX11_init_291 (nwO O) ?_)
  generalize e26 : sA (nw h25 20 7) b 33 (some (hz h25)) = h26
  replace O : Ob h26 b 11 := by rw [← e26]; exact nwFO O
  replace hh8 : 8 ≤ hz h26 := by rw [← e26]; exact Nat.le_succ_of_le hh8
  refine bkX11_init_294 (boX11_init_299 (nwO O) ?_)
  generalize e27 : sA (nw h26 20 8) b 35 (some (hz h26)) = h27
  replace O : Ob h27 b 11 := by rw [← e27]; exact nwFO O
  replace hh8 : 8 ≤ hz h27 := by rw [← e27]; exact Nat.le_succ_of_le hh8
  refine bkX11_init_302 (boX11_init_308 (nwO O) ?_)
  generalize e28 : sA (nw h27 22 10000) b 37 (some (hz h27)) = h28
  replace O : Ob h28 b 11 := by rw [← e28]; exact nwFO O
  replace hh8 : 8 ≤ hz h28 := by rw [← e28]; exact Nat.le_succ_of_le hh8
  refine bkX11_init_311 (boX11_init_317 (nwO O) ?_)
  generalize e29 : sA (nw h28 20 10000) b 39 (some (hz h28)) = h29
  replace O : Ob h29 b 11 := by rw [← e29]; exact nwFO O
  replace hh8 : 8 ≤ hz h29 := by rw [← e29]; exact Nat.le_succ_of_le hh8
  refine bkX11_init_320 (boX11_init_326 (nwO O) ?_)
  generalize e30 : sA (nw h29 20 2600) b 40 (some (hz h29)) = h30
  replace O : Ob h30 b 11 := by rw [← e30]; exact nwFO O
  replace hh8 : 8 ≤ hz h30 := by rw [← e30]; exact Nat.le_succ_of_le hh8
  refine bkX11_init_329 (boX11_init_334 (nwO O) ?_)
  generalize e31 : sA (nw h30 22 12) b 41 (some (hz h30)) = h31
  replace O : Ob h31 b 11 := by rw [← e31]; exact nwFO O
  replace hh8 : 8 ≤ hz h31 := by rw [← e31]; exact Nat.le_succ_of_le hh8
  refine bkX11_init_337 (boX11_init_342 (nwO O) ?_)
  generalize e32 : sA (nw h31 20 12) b 42 (some (hz h31)) = h32
  replace O : Ob h32 b 11 := by rw [← e32]; exact nwFO O
  replace hh8 : 8 ≤ hz h32 := by rw [← e32]; exact Nat.le_succ_of_le hh8
  refine bkX11_init_345 (boX11_init_351 (nwO O) ?_)
  generalize e33 : sA (nw h32 20 5000) b 47 (some (hz h32)) = h33
  replace O : Ob h33 b 11 := by rw [← e33]; exact nwFO O
  replace hh8 : 8 ≤ hz h33 := by rw [← e33]; exact Nat.le_succ_of_le hh8
  refine bkX11_init_354 (boX11_init_360 (nwO O) ?_)
  generalize e34 : sA (nw h33 20 5000) b 54 (some (hz h33)) = h34
  replace O : Ob h34 b 11 := by rw [← e34]; exact nwFO O
  replace hh8 : 8 ≤ hz h34 := by rw [← e34]; exact Nat.le_succ_of_le hh8
  refine bkX11_init_363 (boX11_init_368 (nwO O) ?_)
  generalize e35 : sA (nw h34 20 12) b 55 (some (hz h34)) = h35
  replace O : Ob h35 b 11 := by rw [← e35]; exact nwFO O
  replace hh8 : 8 ≤ hz h35 := by rw [← e35]; exact Nat.le_succ_of_le hh8
  refine bkX11_init_371 (boX11_init_376 (nwO O) ?_)
  generalize e36 : sA (nw h35 20 8) b 56 (some (hz h35)) = h36
  replace O : Ob h36 b 11 := by rw [← e36]; exact nwFO O
  replace hh8 : 8 ≤ hz h36 := by rw [← e36]; exact Nat.le_succ_of_le hh8
  refine bkX11_init_379 (boX11_init_385 (nwO O) ?_)
  generalize e37 : sA (nw h36 20 5000) b 57 (some (hz h36)) = h37
  replace O : Ob h37 b 11 := by rw [← e37]; exact nwFO O
  replace hh8 : 8 ≤ hz h37 := by rw [← e37]; exact Nat.le_succ_of_le hh8
  refine bkX11_init_388 O ?_
  subst e37 e36 e35 e34 e33 e32 e31 e30 e29 e28 e27 e26 e25 e24 e23 e22 e21 e20 e19 e18 e17 e16 e15 e14 e13 e12 e11 e10 e9 e8 e7 e6 e5 e4 e3 e2 e1
  exact rfl
end CT
