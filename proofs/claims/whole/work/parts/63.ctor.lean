/-! ===== constructors: fields put before the rows stand ===== -/
theorem boX0_init_9 {X : GX} {h : SH} {nc ns : Nat} {P : Out → SH → Prop} {as0 : Nat} {as1 : Nat} (O0 : Ob h as0 0) (g : Gd X mX0_init 12 [none] [] (sA h as0 0 (some (as1))) nc ns P) : Gd X mX0_init 9 [none] [.ref as1, .ref as0] h nc ns P := by
  refine g_putF (c := 0) (k := 0) (v := va_rf (some (as1))) (h1 := sA h as0 0 (some (as1))) dX0_init_9 (by decide) (by decide) kw_152 rfl rfl rfl O0 (rf_n rfl) (rf_f rfl) (Put.A rfl) ?_
  exact Gd.wk g trivial
theorem boX1_init_9 {X : GX} {h : SH} {nc ns : Nat} {P : Out → SH → Prop} {a0 : Nat} {as0 : Nat} {as1 : Nat} (O0 : Ob h as0 1) (g : Gd X mX1_init 12 [some (.ref a0)] [] (sA h as0 0 (some (as1))) nc ns P) : Gd X mX1_init 9 [some (.ref a0)] [.ref as1, .ref as0] h nc ns P := by
  refine g_putF (c := 1) (k := 0) (v := va_rf (some (as1))) (h1 := sA h as0 0 (some (as1))) dX1_init_9 (by decide) (by decide) kw_134 rfl rfl rfl O0 (rf_n rfl) (rf_f rfl) (Put.A rfl) ?_
  exact Gd.wk g ⟨rfl, trivial⟩
theorem boX1_init_17 {X : GX} {h : SH} {nc ns : Nat} {P : Out → SH → Prop} {as0 : Nat} {as1 : Nat} (O0 : Ob h as0 1) (g : Gd X mX1_init 20 [none] [] (sA h as0 1 (some (as1))) nc ns P) : Gd X mX1_init 17 [none] [.ref as1, .ref as0] h nc ns P := by
  refine g_putF (c := 1) (k := 1) (v := va_rf (some (as1))) (h1 := sA h as0 1 (some (as1))) dX1_init_17 (by decide) (by decide) kw_137 rfl rfl rfl O0 (rf_n rfl) (rf_f rfl) (Put.A rfl) ?_
  exact Gd.wk g trivial
theorem boX2_init_9 {X : GX} {h : SH} {nc ns : Nat} {P : Out → SH → Prop} {a0 : Nat} {y1 : Int64} {x3 : Int32} {x4 : Int32} {r5 : Option Nat} {as0 : Nat} {as1 : Nat} (O0 : Ob h as0 2) (g : Gd X mX2_init 12 [some (.ref a0), some (.long y1), none, some (.int x3), some (.int x4), some (va_rf r5)] [] (sA h as0 4 (some (as1))) nc ns P) : Gd X mX2_init 9 [some (.ref a0), some (.long y1), none, some (.int x3), some (.int x4), some (va_rf r5)] [.ref as1, .ref as0] h nc ns P := by
  refine g_putF (c := 2) (k := 4) (v := va_rf (some (as1))) (h1 := sA h as0 4 (some (as1))) dX2_init_9 (by decide) (by decide) kw_778 rfl rfl rfl O0 (rf_n rfl) (rf_f rfl) (Put.A rfl) ?_
  exact Gd.wk g ⟨rfl, ⟨rfl, ⟨rfl, ⟨rfl, ⟨rfl, trivial⟩⟩⟩⟩⟩
theorem boX2_init_17 {X : GX} {h : SH} {nc ns : Nat} {P : Out → SH → Prop} {a0 : Nat} {y1 : Int64} {x3 : Int32} {x4 : Int32} {r5 : Option Nat} {as0 : Nat} {as1 : Nat} (O0 : Ob h as0 2) (g : Gd X mX2_init 20 [some (.ref a0), some (.long y1), none, some (.int x3), some (.int x4), some (va_rf r5)] [] (sA h as0 6 (some (as1))) nc ns P) : Gd X mX2_init 17 [some (.ref a0), some (.long y1), none, some (.int x3), some (.int x4), some (va_rf r5)] [.ref as1, .ref as0] h nc ns P := by
  refine g_putF (c := 2) (k := 6) (v := va_rf (some (as1))) (h1 := sA h as0 6 (some (as1))) dX2_init_17 (by decide) (by decide) kw_782 rfl rfl rfl O0 (rf_n rfl) (rf_f rfl) (Put.A rfl) ?_
  exact Gd.wk g ⟨rfl, ⟨rfl, ⟨rfl, ⟨rfl, ⟨rfl, trivial⟩⟩⟩⟩⟩
theorem boX2_init_26 {X : GX} {h : SH} {nc ns : Nat} {P : Out → SH → Prop} {a0 : Nat} {y1 : Int64} {x3 : Int32} {x4 : Int32} {r5 : Option Nat} {as0 : Nat} {as1 : Nat} (O0 : Ob h as0 2) (g : Gd X mX2_init 29 [some (.ref a0), some (.long y1), none, some (.int x3), some (.int x4), some (va_rf r5)] [] (sA h as0 8 (some (as1))) nc ns P) : Gd X mX2_init 26 [some (.ref a0), some (.long y1), none, some (.int x3), some (.int x4), some (va_rf r5)] [.ref as1, .ref as0] h nc ns P := by
  refine g_putF (c := 2) (k := 8) (v := va_rf (some (as1))) (h1 := sA h as0 8 (some (as1))) dX2_init_26 (by decide) (by decide) kw_786 rfl rfl rfl O0 (rf_n rfl) (rf_f rfl) (Put.A rfl) ?_
  exact Gd.wk g ⟨rfl, ⟨rfl, ⟨rfl, ⟨rfl, ⟨rfl, trivial⟩⟩⟩⟩⟩
theorem boX3_init_9 {X : GX} {h : SH} {nc ns : Nat} {P : Out → SH → Prop} {a0 : Nat} {x1 : Int32} {x2 : Int32} {as0 : Nat} {as1 : Nat} (O0 : Ob h as0 3) (g : Gd X mX3_init 12 [some (.ref a0), some (.int x1), some (.int x2)] [] (sA h as0 3 (some (as1))) nc ns P) : Gd X mX3_init 9 [some (.ref a0), some (.int x1), some (.int x2)] [.ref as1, .ref as0] h nc ns P := by
  refine g_putF (c := 3) (k := 3) (v := va_rf (some (as1))) (h1 := sA h as0 3 (some (as1))) dX3_init_9 (by decide) (by decide) kw_309 rfl rfl rfl O0 (rf_n rfl) (rf_f rfl) (Put.A rfl) ?_
  exact Gd.wk g ⟨rfl, ⟨rfl, ⟨rfl, trivial⟩⟩⟩
theorem boX3_init_17 {X : GX} {h : SH} {nc ns : Nat} {P : Out → SH → Prop} {a0 : Nat} {x1 : Int32} {x2 : Int32} {as0 : Nat} {as1 : Nat} (O0 : Ob h as0 3) (g : Gd X mX3_init 20 [some (.ref a0), some (.int x1), some (.int x2)] [] (sA h as0 4 (some (as1))) nc ns P) : Gd X mX3_init 17 [some (.ref a0), some (.int x1), some (.int x2)] [.ref as1, .ref as0] h nc ns P := by
  refine g_putF (c := 3) (k := 4) (v := va_rf (some (as1))) (h1 := sA h as0 4 (some (as1))) dX3_init_17 (by decide) (by decide) kw_310 rfl rfl rfl O0 (rf_n rfl) (rf_f rfl) (Put.A rfl) ?_
  exact Gd.wk g ⟨rfl, ⟨rfl, ⟨rfl, trivial⟩⟩⟩
theorem boX3_init_25 {X : GX} {h : SH} {nc ns : Nat} {P : Out → SH → Prop} {a0 : Nat} {x1 : Int32} {x2 : Int32} {as0 : Nat} {as1 : Nat} (O0 : Ob h as0 3) (g : Gd X mX3_init 28 [some (.ref a0), some (.int x1), some (.int x2)] [] (sA h as0 5 (some (as1))) nc ns P) : Gd X mX3_init 25 [some (.ref a0), some (.int x1), some (.int x2)] [.ref as1, .ref as0] h nc ns P := by
  refine g_putF (c := 3) (k := 5) (v := va_rf (some (as1))) (h1 := sA h as0 5 (some (as1))) dX3_init_25 (by decide) (by decide) kw_313 rfl rfl rfl O0 (rf_n rfl) (rf_f rfl) (Put.A rfl) ?_
  exact Gd.wk g ⟨rfl, ⟨rfl, ⟨rfl, trivial⟩⟩⟩
theorem boX3_init_39 {X : GX} {h : SH} {nc ns : Nat} {P : Out → SH → Prop} {a0 : Nat} {x1 : Int32} {x2 : Int32} {as0 : Nat} {as1 : Nat} (O0 : Ob h as0 3) (g : Gd X mX3_init 42 [some (.ref a0), some (.int x1), some (.int x2)] [] (sA h as0 8 (some (as1))) nc ns P) : Gd X mX3_init 39 [some (.ref a0), some (.int x1), some (.int x2)] [.ref as1, .ref as0] h nc ns P := by
  refine g_putF (c := 3) (k := 8) (v := va_rf (some (as1))) (h1 := sA h as0 8 (some (as1))) dX3_init_39 (by decide) (by decide) kw_323 rfl rfl rfl O0 (rf_n rfl) (rf_f rfl) (Put.A rfl) ?_
  exact Gd.wk g ⟨rfl, ⟨rfl, ⟨rfl, trivial⟩⟩⟩
theorem boX3_init_47 {X : GX} {h : SH} {nc ns : Nat} {P : Out → SH → Prop} {a0 : Nat} {x1 : Int32} {x2 : Int32} {as0 : Nat} {as1 : Nat} (O0 : Ob h as0 3) (g : Gd X mX3_init 50 [some (.ref a0), some (.int x1), some (.int x2)] [] (sA h as0 9 (some (as1))) nc ns P) : Gd X mX3_init 47 [some (.ref a0), some (.int x1), some (.int x2)] [.ref as1, .ref as0] h nc ns P := by
  refine g_putF (c := 3) (k := 9) (v := va_rf (some (as1))) (h1 := sA h as0 9 (some (as1))) dX3_init_47 (by decide) (by decide) kw_325 rfl rfl rfl O0 (rf_n rfl) (rf_f rfl) (Put.A rfl) ?_
  exact Gd.wk g ⟨rfl, ⟨rfl, ⟨rfl, trivial⟩⟩⟩
theorem boX3_init_54 {X : GX} {h : SH} {nc ns : Nat} {P : Out → SH → Prop} {a0 : Nat} {x1 : Int32} {x2 : Int32} {as0 : Nat} {as1 : Nat} (O0 : Ob h as0 3) (g : Gd X mX3_init 57 [some (.ref a0), some (.int x1), some (.int x2)] [] (sA h as0 11 (some (as1))) nc ns P) : Gd X mX3_init 54 [some (.ref a0), some (.int x1), some (.int x2)] [.ref as1, .ref as0] h nc ns P := by
  refine g_putF (c := 3) (k := 11) (v := va_rf (some (as1))) (h1 := sA h as0 11 (some (as1))) dX3_init_54 (by decide) (by decide) kw_328 rfl rfl rfl O0 (rf_n rfl) (rf_f rfl) (Put.A rfl) ?_
  exact Gd.wk g ⟨rfl, ⟨rfl, ⟨rfl, trivial⟩⟩⟩
theorem boX3_init_61 {X : GX} {h : SH} {nc ns : Nat} {P : Out → SH → Prop} {a0 : Nat} {x1 : Int32} {x2 : Int32} {as0 : Nat} {as1 : Nat} (O0 : Ob h as0 3) (g : Gd X mX3_init 64 [some (.ref a0), some (.int x1), some (.int x2)] [] (sA h as0 12 (some (as1))) nc ns P) : Gd X mX3_init 61 [some (.ref a0), some (.int x1), some (.int x2)] [.ref as1, .ref as0] h nc ns P := by
  refine g_putF (c := 3) (k := 12) (v := va_rf (some (as1))) (h1 := sA h as0 12 (some (as1))) dX3_init_61 (by decide) (by decide) kw_331 rfl rfl rfl O0 (rf_n rfl) (rf_f rfl) (Put.A rfl) ?_
  exact Gd.wk g ⟨rfl, ⟨rfl, ⟨rfl, trivial⟩⟩⟩
theorem boX6_init_9 {X : GX} {h : SH} {nc ns : Nat} {P : Out → SH → Prop} {a0 : Nat} {as0 : Nat} {as1 : Nat} (O0 : Ob h as0 6) (g : Gd X mX6_init 12 [some (.ref a0)] [] (sA h as0 0 (some (as1))) nc ns P) : Gd X mX6_init 9 [some (.ref a0)] [.ref as1, .ref as0] h nc ns P := by
  refine g_putF (c := 6) (k := 0) (v := va_rf (some (as1))) (h1 := sA h as0 0 (some (as1))) dX6_init_9 (by decide) (by decide) kw_166 rfl rfl rfl O0 (rf_n rfl) (rf_f rfl) (Put.A rfl) ?_
  exact Gd.wk g ⟨rfl, trivial⟩
theorem boX6_init_17 {X : GX} {h : SH} {nc ns : Nat} {P : Out → SH → Prop} {a0 : Nat} {as0 : Nat} {as1 : Nat} (O0 : Ob h as0 6) (g : Gd X mX6_init 20 [some (.ref a0)] [] (sA h as0 1 (some (as1))) nc ns P) : Gd X mX6_init 17 [some (.ref a0)] [.ref as1, .ref as0] h nc ns P := by
  refine g_putF (c := 6) (k := 1) (v := va_rf (some (as1))) (h1 := sA h as0 1 (some (as1))) dX6_init_17 (by decide) (by decide) kw_167 rfl rfl rfl O0 (rf_n rfl) (rf_f rfl) (Put.A rfl) ?_
  exact Gd.wk g ⟨rfl, trivial⟩
theorem boX6_init_25 {X : GX} {h : SH} {nc ns : Nat} {P : Out → SH → Prop} {a0 : Nat} {as0 : Nat} {as1 : Nat} (O0 : Ob h as0 6) (g : Gd X mX6_init 28 [some (.ref a0)] [] (sA h as0 2 (some (as1))) nc ns P) : Gd X mX6_init 25 [some (.ref a0)] [.ref as1, .ref as0] h nc ns P := by
  refine g_putF (c := 6) (k := 2) (v := va_rf (some (as1))) (h1 := sA h as0 2 (some (as1))) dX6_init_25 (by decide) (by decide) kw_169 rfl rfl rfl O0 (rf_n rfl) (rf_f rfl) (Put.A rfl) ?_
  exact Gd.wk g ⟨rfl, trivial⟩
theorem boX6_init_34 {X : GX} {h : SH} {nc ns : Nat} {P : Out → SH → Prop} {a0 : Nat} {as0 : Nat} {as1 : Nat} (O0 : Ob h as0 6) (g : Gd X mX6_init 37 [some (.ref a0)] [] (sA h as0 4 (some (as1))) nc ns P) : Gd X mX6_init 34 [some (.ref a0)] [.ref as1, .ref as0] h nc ns P := by
  refine g_putF (c := 6) (k := 4) (v := va_rf (some (as1))) (h1 := sA h as0 4 (some (as1))) dX6_init_34 (by decide) (by decide) kw_172 rfl rfl rfl O0 (rf_n rfl) (rf_f rfl) (Put.A rfl) ?_
  exact Gd.wk g ⟨rfl, trivial⟩
theorem boX7_init_30 {X : GX} {h : SH} {nc ns : Nat} {P : Out → SH → Prop} {a0 : Nat} {x2 : Int32} {a3 : Nat} {as0 : Nat} {as1 : Nat} (O0 : Ob h as0 7) (g : Gd X mX7_init 33 [some (.ref a0), none, some (.int x2), some (.ref a3)] [] (sA h as0 0 (some (as1))) nc ns P) : Gd X mX7_init 30 [some (.ref a0), none, some (.int x2), some (.ref a3)] [.ref as1, .ref as0] h nc ns P := by
  refine g_putF (c := 7) (k := 0) (v := va_rf (some (as1))) (h1 := sA h as0 0 (some (as1))) dX7_init_30 (by decide) (by decide) kw_413 rfl rfl rfl O0 (rf_n rfl) (rf_f rfl) (Put.A rfl) ?_
  exact Gd.wk g ⟨rfl, ⟨rfl, ⟨rfl, trivial⟩⟩⟩
theorem boX7_init_9 {X : GX} {h : SH} {nc ns : Nat} {P : Out → SH → Prop} {a0 : Nat} {a1 : Nat} {x2 : Int32} {a3 : Nat} {as0 : Nat} {as1 : Nat} (O0 : Ob h as0 7) (g : Gd X mX7_init 12 [some (.ref a0), some (.ref a1), some (.int x2), some (.ref a3)] [] (sA h as0 6 (some (as1))) nc ns P) : Gd X mX7_init 9 [some (.ref a0), some (.ref a1), some (.int x2), some (.ref a3)] [.ref as1, .ref as0] h nc ns P := by
  refine g_putF (c := 7) (k := 6) (v := va_rf (some (as1))) (h1 := sA h as0 6 (some (as1))) dX7_init_9 (by decide) (by decide) kw_419 rfl rfl rfl O0 (rf_n rfl) (rf_f rfl) (Put.A rfl) ?_
  exact Gd.wk g ⟨rfl, ⟨rfl, ⟨rfl, ⟨rfl, trivial⟩⟩⟩⟩
theorem boX7_init_17 {X : GX} {h : SH} {nc ns : Nat} {P : Out → SH → Prop} {a0 : Nat} {a1 : Nat} {x2 : Int32} {a3 : Nat} {as0 : Nat} {as1 : Nat} (O0 : Ob h as0 7) (g : Gd X mX7_init 20 [some (.ref a0), some (.ref a1), some (.int x2), some (.ref a3)] [] (sA h as0 7 (some (as1))) nc ns P) : Gd X mX7_init 17 [some (.ref a0), some (.ref a1), some (.int x2), some (.ref a3)] [.ref as1, .ref as0] h nc ns P := by
  refine g_putF (c := 7) (k := 7) (v := va_rf (some (as1))) (h1 := sA h as0 7 (some (as1))) dX7_init_17 (by decide) (by decide) kw_420 rfl rfl rfl O0 (rf_n rfl) (rf_f rfl) (Put.A rfl) ?_
  exact Gd.wk g ⟨rfl, ⟨rfl, ⟨rfl, ⟨rfl, trivial⟩⟩⟩⟩
theorem boX7_init_47 {X : GX} {h : SH} {nc ns : Nat} {P : Out → SH → Prop} {a0 : Nat} {x2 : Int32} {as0 : Nat} {as1 : Nat} (O0 : Ob h as0 7) (g : Gd X mX7_init 50 [some (.ref a0), none, some (.int x2), none] [] (sA h as0 2 (some (as1))) nc ns P) : Gd X mX7_init 47 [some (.ref a0), none, some (.int x2), none] [.ref as1, .ref as0] h nc ns P := by
  refine g_putF (c := 7) (k := 2) (v := va_rf (some (as1))) (h1 := sA h as0 2 (some (as1))) dX7_init_47 (by decide) (by decide) kw_415 rfl rfl rfl O0 (rf_n rfl) (rf_f rfl) (Put.A rfl) ?_
  exact Gd.wk g ⟨rfl, ⟨rfl, trivial⟩⟩
theorem boX7_init_54 {X : GX} {h : SH} {nc ns : Nat} {P : Out → SH → Prop} {as0 : Nat} {as1 : Nat} (O0 : Ob h as0 7) (g : Gd X mX7_init 57 [none, none, none, none] [] (sA h as0 4 (some (as1))) nc ns P) : Gd X mX7_init 54 [none, none, none, none] [.ref as1, .ref as0] h nc ns P := by
  refine g_putF (c := 7) (k := 4) (v := va_rf (some (as1))) (h1 := sA h as0 4 (some (as1))) dX7_init_54 (by decide) (by decide) kw_417 rfl rfl rfl O0 (rf_n rfl) (rf_f rfl) (Put.A rfl) ?_
  exact Gd.wk g trivial
theorem boX8_init_12 {X : GX} {h : SH} {nc ns : Nat} {P : Out → SH → Prop} {a0 : Nat} {as0 : Nat} {as1 : Nat} (O0 : Ob h as0 8) (g : Gd X mX8_init 15 [some (.ref a0)] [] (sA h as0 0 (some (as1))) nc ns P) : Gd X mX8_init 12 [some (.ref a0)] [.ref as1, .ref as0] h nc ns P := by
  refine g_putF (c := 8) (k := 0) (v := va_rf (some (as1))) (h1 := sA h as0 0 (some (as1))) dX8_init_12 (by decide) (by decide) kw_213 rfl rfl rfl O0 (rf_n rfl) (rf_f rfl) (Put.A rfl) ?_
  exact Gd.wk g ⟨rfl, trivial⟩
theorem boX8_init_23 {X : GX} {h : SH} {nc ns : Nat} {P : Out → SH → Prop} {a0 : Nat} {as0 : Nat} {as1 : Nat} (O0 : Ob h as0 8) (g : Gd X mX8_init 26 [some (.ref a0)] [] (sA h as0 1 (some (as1))) nc ns P) : Gd X mX8_init 23 [some (.ref a0)] [.ref as1, .ref as0] h nc ns P := by
  refine g_putF (c := 8) (k := 1) (v := va_rf (some (as1))) (h1 := sA h as0 1 (some (as1))) dX8_init_23 (by decide) (by decide) kw_214 rfl rfl rfl O0 (rf_n rfl) (rf_f rfl) (Put.A rfl) ?_
  exact Gd.wk g ⟨rfl, trivial⟩
theorem boX8_init_34 {X : GX} {h : SH} {nc ns : Nat} {P : Out → SH → Prop} {as0 : Nat} {as1 : Nat} (O0 : Ob h as0 8) (g : Gd X mX8_init 37 [none] [] (sA h as0 2 (some (as1))) nc ns P) : Gd X mX8_init 34 [none] [.ref as1, .ref as0] h nc ns P := by
  refine g_putF (c := 8) (k := 2) (v := va_rf (some (as1))) (h1 := sA h as0 2 (some (as1))) dX8_init_34 (by decide) (by decide) kw_215 rfl rfl rfl O0 (rf_n rfl) (rf_f rfl) (Put.A rfl) ?_
  exact Gd.wk g trivial
theorem boX9_init_9 {X : GX} {h : SH} {nc ns : Nat} {P : Out → SH → Prop} {a0 : Nat} {a1 : Nat} {x2 : Int32} {as0 : Nat} {as1 : Nat} (O0 : Ob h as0 9) (g : Gd X mX9_init 12 [some (.ref a0), some (.ref a1), some (.int x2)] [] (sA h as0 2 (some (as1))) nc ns P) : Gd X mX9_init 9 [some (.ref a0), some (.ref a1), some (.int x2)] [.ref as1, .ref as0] h nc ns P := by
  refine g_putF (c := 9) (k := 2) (v := va_rf (some (as1))) (h1 := sA h as0 2 (some (as1))) dX9_init_9 (by decide) (by decide) kw_376 rfl rfl rfl O0 (rf_n rfl) (rf_f rfl) (Put.A rfl) ?_
  exact Gd.wk g ⟨rfl, ⟨rfl, ⟨rfl, trivial⟩⟩⟩
theorem boX9_init_34 {X : GX} {h : SH} {nc ns : Nat} {P : Out → SH → Prop} {a0 : Nat} {x2 : Int32} {as0 : Nat} {as1 : Nat} (O0 : Ob h as0 9) (g : Gd X mX9_init 37 [some (.ref a0), none, some (.int x2)] [] (sA h as0 3 (some (as1))) nc ns P) : Gd X mX9_init 34 [some (.ref a0), none, some (.int x2)] [.ref as1, .ref as0] h nc ns P := by
  refine g_putF (c := 9) (k := 3) (v := va_rf (some (as1))) (h1 := sA h as0 3 (some (as1))) dX9_init_34 (by decide) (by decide) kw_377 rfl rfl rfl O0 (rf_n rfl) (rf_f rfl) (Put.A rfl) ?_
  exact Gd.wk g ⟨rfl, ⟨rfl, trivial⟩⟩
theorem boX9_init_43 {X : GX} {h : SH} {nc ns : Nat} {P : Out → SH → Prop} {a0 : Nat} {x2 : Int32} {as0 : Nat} {as1 : Nat} (O0 : Ob h as0 9) (g : Gd X mX9_init 46 [some (.ref a0), none, some (.int x2)] [] (sA h as0 4 (some (as1))) nc ns P) : Gd X mX9_init 43 [some (.ref a0), none, some (.int x2)] [.ref as1, .ref as0] h nc ns P := by
  refine g_putF (c := 9) (k := 4) (v := va_rf (some (as1))) (h1 := sA h as0 4 (some (as1))) dX9_init_43 (by decide) (by decide) kw_378 rfl rfl rfl O0 (rf_n rfl) (rf_f rfl) (Put.A rfl) ?_
  exact Gd.wk g ⟨rfl, ⟨rfl, trivial⟩⟩
theorem boX9_init_52 {X : GX} {h : SH} {nc ns : Nat} {P : Out → SH → Prop} {as0 : Nat} {as1 : Nat} (O0 : Ob h as0 9) (g : Gd X mX9_init 55 [none, none, none] [] (sA h as0 5 (some (as1))) nc ns P) : Gd X mX9_init 52 [none, none, none] [.ref as1, .ref as0] h nc ns P := by
  refine g_putF (c := 9) (k := 5) (v := va_rf (some (as1))) (h1 := sA h as0 5 (some (as1))) dX9_init_52 (by decide) (by decide) kw_379 rfl rfl rfl O0 (rf_n rfl) (rf_f rfl) (Put.A rfl) ?_
  exact Gd.wk g trivial
theorem boX10_init_30 {X : GX} {h : SH} {nc ns : Nat} {P : Out → SH → Prop} {a0 : Nat} {as0 : Nat} {as1 : Nat} (O0 : Ob h as0 10) (g : Gd X mX10_init 33 [some (.ref a0)] [] (sA h as0 5 (some (as1))) nc ns P) : Gd X mX10_init 30 [some (.ref a0)] [.ref as1, .ref as0] h nc ns P := by
  refine g_putF (c := 10) (k := 5) (v := va_rf (some (as1))) (h1 := sA h as0 5 (some (as1))) dX10_init_30 (by decide) (by decide) kw_245 rfl rfl rfl O0 (rf_n rfl) (rf_f rfl) (Put.A rfl) ?_
  exact Gd.wk g ⟨rfl, trivial⟩
theorem boX10_init_41 {X : GX} {h : SH} {nc ns : Nat} {P : Out → SH → Prop} {a0 : Nat} {as0 : Nat} {as1 : Nat} (O0 : Ob h as0 10) (g : Gd X mX10_init 44 [some (.ref a0)] [] (sA h as0 6 (some (as1))) nc ns P) : Gd X mX10_init 41 [some (.ref a0)] [.ref as1, .ref as0] h nc ns P := by
  refine g_putF (c := 10) (k := 6) (v := va_rf (some (as1))) (h1 := sA h as0 6 (some (as1))) dX10_init_41 (by decide) (by decide) kw_246 rfl rfl rfl O0 (rf_n rfl) (rf_f rfl) (Put.A rfl) ?_
  exact Gd.wk g ⟨rfl, trivial⟩
theorem boX10_init_52 {X : GX} {h : SH} {nc ns : Nat} {P : Out → SH → Prop} {a0 : Nat} {as0 : Nat} {as1 : Nat} (O0 : Ob h as0 10) (g : Gd X mX10_init 55 [some (.ref a0)] [] (sA h as0 7 (some (as1))) nc ns P) : Gd X mX10_init 52 [some (.ref a0)] [.ref as1, .ref as0] h nc ns P := by
  refine g_putF (c := 10) (k := 7) (v := va_rf (some (as1))) (h1 := sA h as0 7 (some (as1))) dX10_init_52 (by decide) (by decide) kw_247 rfl rfl rfl O0 (rf_n rfl) (rf_f rfl) (Put.A rfl) ?_
  exact Gd.wk g ⟨rfl, trivial⟩
theorem boX10_init_63 {X : GX} {h : SH} {nc ns : Nat} {P : Out → SH → Prop} {as0 : Nat} {as1 : Nat} (O0 : Ob h as0 10) (g : Gd X mX10_init 66 [none] [] (sA h as0 9 (some (as1))) nc ns P) : Gd X mX10_init 63 [none] [.ref as1, .ref as0] h nc ns P := by
  refine g_putF (c := 10) (k := 9) (v := va_rf (some (as1))) (h1 := sA h as0 9 (some (as1))) dX10_init_63 (by decide) (by decide) kw_249 rfl rfl rfl O0 (rf_n rfl) (rf_f rfl) (Put.A rfl) ?_
  exact Gd.wk g trivial
theorem boX10_init_10 {X : GX} {h : SH} {nc ns : Nat} {P : Out → SH → Prop} {a0 : Nat} {as0 : Nat} {as1 : Nat} (O0 : Ob h as0 10) (g : Gd X mX10_init 13 [some (.ref a0)] [] (sA h as0 0 (some (as1))) nc ns P) : Gd X mX10_init 10 [some (.ref a0)] [.ref as1, .ref as0] h nc ns P := by
  refine g_putF (c := 10) (k := 0) (v := va_rf (some (as1))) (h1 := sA h as0 0 (some (as1))) dX10_init_10 (by decide) (by decide) kw_240 rfl rfl rfl O0 (rf_n rfl) (rf_f rfl) (Put.A rfl) ?_
  exact Gd.wk g ⟨rfl, trivial⟩
theorem boX10_init_19 {X : GX} {h : SH} {nc ns : Nat} {P : Out → SH → Prop} {a0 : Nat} {as0 : Nat} {as1 : Nat} (O0 : Ob h as0 10) (g : Gd X mX10_init 22 [some (.ref a0)] [] (sA h as0 2 (some (as1))) nc ns P) : Gd X mX10_init 19 [some (.ref a0)] [.ref as1, .ref as0] h nc ns P := by
  refine g_putF (c := 10) (k := 2) (v := va_rf (some (as1))) (h1 := sA h as0 2 (some (as1))) dX10_init_19 (by decide) (by decide) kw_242 rfl rfl rfl O0 (rf_n rfl) (rf_f rfl) (Put.A rfl) ?_
  exact Gd.wk g ⟨rfl, trivial⟩
theorem boX11_init_10 {X : GX} {h : SH} {nc ns : Nat} {P : Out → SH → Prop} {a0 : Nat} {as0 : Nat} {as1 : Nat} (O0 : Ob h as0 11) (g : Gd X mX11_init 13 [some (.ref a0)] [] (sA h as0 1 (some (as1))) nc ns P) : Gd X mX11_init 10 [some (.ref a0)] [.ref as1, .ref as0] h nc ns P := by
  refine g_putF (c := 11) (k := 1) (v := va_rf (some (as1))) (h1 := sA h as0 1 (some (as1))) dX11_init_10 (by decide) (by decide) kw_1128 rfl rfl rfl O0 (rf_n rfl) (rf_f rfl) (Put.A rfl) ?_
  exact Gd.wk g ⟨rfl, trivial⟩
theorem boX11_init_19 {X : GX} {h : SH} {nc ns : Nat} {P : Out → SH → Prop} {a0 : Nat} {as0 : Nat} {as1 : Nat} (O0 : Ob h as0 11) (g : Gd X mX11_init 22 [some (.ref a0)] [] (sA h as0 4 (some (as1))) nc ns P) : Gd X mX11_init 19 [some (.ref a0)] [.ref as1, .ref as0] h nc ns P := by
  refine g_putF (c := 11) (k := 4) (v := va_rf (some (as1))) (h1 := sA h as0 4 (some (as1))) dX11_init_19 (by decide) (by decide) kw_1131 rfl rfl rfl O0 (rf_n rfl) (rf_f rfl) (Put.A rfl) ?_
  exact Gd.wk g ⟨rfl, trivial⟩
theorem boX11_init_28 {X : GX} {h : SH} {nc ns : Nat} {P : Out → SH → Prop} {a0 : Nat} {as0 : Nat} {as1 : Nat} (O0 : Ob h as0 11) (g : Gd X mX11_init 31 [some (.ref a0)] [] (sA h as0 5 (some (as1))) nc ns P) : Gd X mX11_init 28 [some (.ref a0)] [.ref as1, .ref as0] h nc ns P := by
  refine g_putF (c := 11) (k := 5) (v := va_rf (some (as1))) (h1 := sA h as0 5 (some (as1))) dX11_init_28 (by decide) (by decide) kw_1132 rfl rfl rfl O0 (rf_n rfl) (rf_f rfl) (Put.A rfl) ?_
  exact Gd.wk g ⟨rfl, trivial⟩
theorem boX11_init_37 {X : GX} {h : SH} {nc ns : Nat} {P : Out → SH → Prop} {a0 : Nat} {as0 : Nat} {as1 : Nat} (O0 : Ob h as0 11) (g : Gd X mX11_init 40 [some (.ref a0)] [] (sA h as0 6 (some (as1))) nc ns P) : Gd X mX11_init 37 [some (.ref a0)] [.ref as1, .ref as0] h nc ns P := by
  refine g_putF (c := 11) (k := 6) (v := va_rf (some (as1))) (h1 := sA h as0 6 (some (as1))) dX11_init_37 (by decide) (by decide) kw_1133 rfl rfl rfl O0 (rf_n rfl) (rf_f rfl) (Put.A rfl) ?_
  exact Gd.wk g ⟨rfl, trivial⟩
theorem boX11_init_95 {X : GX} {h : SH} {nc ns : Nat} {P : Out → SH → Prop} {a0 : Nat} {as0 : Nat} {as1 : Nat} {n3 : Nat} (B0 : Ar h (as1) 23 n3) (i1 : vp_in (8) n3) (i2 : vp_in (9) n3) (i3 : vp_in (10) n3) (O4 : Ob h as0 11) (g : Gd X mX11_init 119 [some (.ref a0)] [] (sA (sJ (sJ (sJ h as1 ((8 : Int32).toNatClampNeg) 964720) as1 ((9 : Int32).toNatClampNeg) 24833) as1 ((10 : Int32).toNatClampNeg) 5538) as0 9 (some (as1))) nc ns P) : Gd X mX11_init 95 [some (.ref a0)] [.ref as1, .ref as0] h nc ns P := by
  refine g_dup dX11_init_95 rfl ?_
  refine g_bipush (v := 8) dX11_init_96 (by decide) ?_
  refine g_ldc2 (v := 964720) dX11_init_98 kw_1124 ?_
  refine g_lastore dX11_init_101 B0 i1 ?_
  refine g_dup dX11_init_102 rfl ?_
  refine g_bipush (v := 9) dX11_init_103 (by decide) ?_
  refine g_ldc2 (v := 24833) dX11_init_105 kw_1125 ?_
  refine g_lastore dX11_init_108 B0 i2 ?_
  refine g_dup dX11_init_109 rfl ?_
  refine g_bipush (v := 10) dX11_init_110 (by decide) ?_
  refine g_ldc2 (v := 5538) dX11_init_112 kw_1126 ?_
  refine g_lastore dX11_init_115 B0 i3 ?_
  refine g_putF (c := 11) (k := 9) (v := va_rf (some (as1))) (h1 := sA (sJ (sJ (sJ h as1 ((8 : Int32).toNatClampNeg) 964720) as1 ((9 : Int32).toNatClampNeg) 24833) as1 ((10 : Int32).toNatClampNeg) 5538) as0 9 (some (as1))) dX11_init_116 (by decide) (by decide) kw_1136 rfl rfl rfl O4 (rf_n rfl) (rf_f rfl) (Put.A rfl) ?_
  exact Gd.wk g ⟨rfl, trivial⟩
theorem boX11_init_124 {X : GX} {h : SH} {nc ns : Nat} {P : Out → SH → Prop} {a0 : Nat} {as0 : Nat} {as1 : Nat} (O0 : Ob h as0 11) (g : Gd X mX11_init 127 [some (.ref a0)] [] (sA h as0 11 (some (as1))) nc ns P) : Gd X mX11_init 124 [some (.ref a0)] [.ref as1, .ref as0] h nc ns P := by
  refine g_putF (c := 11) (k := 11) (v := va_rf (some (as1))) (h1 := sA h as0 11 (some (as1))) dX11_init_124 (by decide) (by decide) kw_1138 rfl rfl rfl O0 (rf_n rfl) (rf_f rfl) (Put.A rfl) ?_
  exact Gd.wk g ⟨rfl, trivial⟩
theorem boX11_init_132 {X : GX} {h : SH} {nc ns : Nat} {P : Out → SH → Prop} {a0 : Nat} {as0 : Nat} {as1 : Nat} (O0 : Ob h as0 11) (g : Gd X mX11_init 135 [some (.ref a0)] [] (sA h as0 12 (some (as1))) nc ns P) : Gd X mX11_init 132 [some (.ref a0)] [.ref as1, .ref as0] h nc ns P := by
  refine g_putF (c := 11) (k := 12) (v := va_rf (some (as1))) (h1 := sA h as0 12 (some (as1))) dX11_init_132 (by decide) (by decide) kw_1139 rfl rfl rfl O0 (rf_n rfl) (rf_f rfl) (Put.A rfl) ?_
  exact Gd.wk g ⟨rfl, trivial⟩
theorem boX11_init_140 {X : GX} {h : SH} {nc ns : Nat} {P : Out → SH → Prop} {a0 : Nat} {as0 : Nat} {as1 : Nat} (O0 : Ob h as0 11) (g : Gd X mX11_init 143 [some (.ref a0)] [] (sA h as0 13 (some (as1))) nc ns P) : Gd X mX11_init 140 [some (.ref a0)] [.ref as1, .ref as0] h nc ns P := by
  refine g_putF (c := 11) (k := 13) (v := va_rf (some (as1))) (h1 := sA h as0 13 (some (as1))) dX11_init_140 (by decide) (by decide) kw_1140 rfl rfl rfl O0 (rf_n rfl) (rf_f rfl) (Put.A rfl) ?_
  exact Gd.wk g ⟨rfl, trivial⟩
theorem boX11_init_148 {X : GX} {h : SH} {nc ns : Nat} {P : Out → SH → Prop} {a0 : Nat} {as0 : Nat} {as1 : Nat} (O0 : Ob h as0 11) (g : Gd X mX11_init 151 [some (.ref a0)] [] (sA h as0 14 (some (as1))) nc ns P) : Gd X mX11_init 148 [some (.ref a0)] [.ref as1, .ref as0] h nc ns P := by
  refine g_putF (c := 11) (k := 14) (v := va_rf (some (as1))) (h1 := sA h as0 14 (some (as1))) dX11_init_148 (by decide) (by decide) kw_1141 rfl rfl rfl O0 (rf_n rfl) (rf_f rfl) (Put.A rfl) ?_
  exact Gd.wk g ⟨rfl, trivial⟩
theorem boX11_init_156 {X : GX} {h : SH} {nc ns : Nat} {P : Out → SH → Prop} {a0 : Nat} {as0 : Nat} {as1 : Nat} (O0 : Ob h as0 11) (g : Gd X mX11_init 159 [some (.ref a0)] [] (sA h as0 15 (some (as1))) nc ns P) : Gd X mX11_init 156 [some (.ref a0)] [.ref as1, .ref as0] h nc ns P := by
  refine g_putF (c := 11) (k := 15) (v := va_rf (some (as1))) (h1 := sA h as0 15 (some (as1))) dX11_init_156 (by decide) (by decide) kw_1142 rfl rfl rfl O0 (rf_n rfl) (rf_f rfl) (Put.A rfl) ?_
  exact Gd.wk g ⟨rfl, trivial⟩
theorem boX11_init_164 {X : GX} {h : SH} {nc ns : Nat} {P : Out → SH → Prop} {a0 : Nat} {as0 : Nat} {as1 : Nat} (O0 : Ob h as0 11) (g : Gd X mX11_init 167 [some (.ref a0)] [] (sA h as0 16 (some (as1))) nc ns P) : Gd X mX11_init 164 [some (.ref a0)] [.ref as1, .ref as0] h nc ns P := by
  refine g_putF (c := 11) (k := 16) (v := va_rf (some (as1))) (h1 := sA h as0 16 (some (as1))) dX11_init_164 (by decide) (by decide) kw_1143 rfl rfl rfl O0 (rf_n rfl) (rf_f rfl) (Put.A rfl) ?_
  exact Gd.wk g ⟨rfl, trivial⟩
theorem boX11_init_172 {X : GX} {h : SH} {nc ns : Nat} {P : Out → SH → Prop} {a0 : Nat} {as0 : Nat} {as1 : Nat} (O0 : Ob h as0 11) (g : Gd X mX11_init 175 [some (.ref a0)] [] (sA h as0 17 (some (as1))) nc ns P) : Gd X mX11_init 172 [some (.ref a0)] [.ref as1, .ref as0] h nc ns P := by
  refine g_putF (c := 11) (k := 17) (v := va_rf (some (as1))) (h1 := sA h as0 17 (some (as1))) dX11_init_172 (by decide) (by decide) kw_1144 rfl rfl rfl O0 (rf_n rfl) (rf_f rfl) (Put.A rfl) ?_
  exact Gd.wk g ⟨rfl, trivial⟩
theorem boX11_init_180 {X : GX} {h : SH} {nc ns : Nat} {P : Out → SH → Prop} {a0 : Nat} {as0 : Nat} {as1 : Nat} (O0 : Ob h as0 11) (g : Gd X mX11_init 183 [some (.ref a0)] [] (sA h as0 18 (some (as1))) nc ns P) : Gd X mX11_init 180 [some (.ref a0)] [.ref as1, .ref as0] h nc ns P := by
  refine g_putF (c := 11) (k := 18) (v := va_rf (some (as1))) (h1 := sA h as0 18 (some (as1))) dX11_init_180 (by decide) (by decide) kw_1145 rfl rfl rfl O0 (rf_n rfl) (rf_f rfl) (Put.A rfl) ?_
  exact Gd.wk g ⟨rfl, trivial⟩
theorem boX11_init_188 {X : GX} {h : SH} {nc ns : Nat} {P : Out → SH → Prop} {a0 : Nat} {as0 : Nat} {as1 : Nat} (O0 : Ob h as0 11) (g : Gd X mX11_init 191 [some (.ref a0)] [] (sA h as0 19 (some (as1))) nc ns P) : Gd X mX11_init 188 [some (.ref a0)] [.ref as1, .ref as0] h nc ns P := by
  refine g_putF (c := 11) (k := 19) (v := va_rf (some (as1))) (h1 := sA h as0 19 (some (as1))) dX11_init_188 (by decide) (by decide) kw_1146 rfl rfl rfl O0 (rf_n rfl) (rf_f rfl) (Put.A rfl) ?_
  exact Gd.wk g ⟨rfl, trivial⟩
theorem boX11_init_196 {X : GX} {h : SH} {nc ns : Nat} {P : Out → SH → Prop} {a0 : Nat} {as0 : Nat} {as1 : Nat} (O0 : Ob h as0 11) (g : Gd X mX11_init 199 [some (.ref a0)] [] (sA h as0 20 (some (as1))) nc ns P) : Gd X mX11_init 196 [some (.ref a0)] [.ref as1, .ref as0] h nc ns P := by
  refine g_putF (c := 11) (k := 20) (v := va_rf (some (as1))) (h1 := sA h as0 20 (some (as1))) dX11_init_196 (by decide) (by decide) kw_1147 rfl rfl rfl O0 (rf_n rfl) (rf_f rfl) (Put.A rfl) ?_
  exact Gd.wk g ⟨rfl, trivial⟩
theorem boX11_init_204 {X : GX} {h : SH} {nc ns : Nat} {P : Out → SH → Prop} {a0 : Nat} {as0 : Nat} {as1 : Nat} (O0 : Ob h as0 11) (g : Gd X mX11_init 207 [some (.ref a0)] [] (sA h as0 21 (some (as1))) nc ns P) : Gd X mX11_init 204 [some (.ref a0)] [.ref as1, .ref as0] h nc ns P := by
  refine g_putF (c := 11) (k := 21) (v := va_rf (some (as1))) (h1 := sA h as0 21 (some (as1))) dX11_init_204 (by decide) (by decide) kw_1148 rfl rfl rfl O0 (rf_n rfl) (rf_f rfl) (Put.A rfl) ?_
  exact Gd.wk g ⟨rfl, trivial⟩
theorem boX11_init_213 {X : GX} {h : SH} {nc ns : Nat} {P : Out → SH → Prop} {a0 : Nat} {as0 : Nat} {as1 : Nat} (O0 : Ob h as0 11) (g : Gd X mX11_init 216 [some (.ref a0)] [] (sA h as0 22 (some (as1))) nc ns P) : Gd X mX11_init 213 [some (.ref a0)] [.ref as1, .ref as0] h nc ns P := by
  refine g_putF (c := 11) (k := 22) (v := va_rf (some (as1))) (h1 := sA h as0 22 (some (as1))) dX11_init_213 (by decide) (by decide) kw_1149 rfl rfl rfl O0 (rf_n rfl) (rf_f rfl) (Put.A rfl) ?_
  exact Gd.wk g ⟨rfl, trivial⟩
theorem boX11_init_222 {X : GX} {h : SH} {nc ns : Nat} {P : Out → SH → Prop} {a0 : Nat} {as0 : Nat} {as1 : Nat} (O0 : Ob h as0 11) (g : Gd X mX11_init 225 [some (.ref a0)] [] (sA h as0 23 (some (as1))) nc ns P) : Gd X mX11_init 222 [some (.ref a0)] [.ref as1, .ref as0] h nc ns P := by
  refine g_putF (c := 11) (k := 23) (v := va_rf (some (as1))) (h1 := sA h as0 23 (some (as1))) dX11_init_222 (by decide) (by decide) kw_1150 rfl rfl rfl O0 (rf_n rfl) (rf_f rfl) (Put.A rfl) ?_
  exact Gd.wk g ⟨rfl, trivial⟩
theorem boX11_init_230 {X : GX} {h : SH} {nc ns : Nat} {P : Out → SH → Prop} {a0 : Nat} {as0 : Nat} {as1 : Nat} (O0 : Ob h as0 11) (g : Gd X mX11_init 233 [some (.ref a0)] [] (sA h as0 24 (some (as1))) nc ns P) : Gd X mX11_init 230 [some (.ref a0)] [.ref as1, .ref as0] h nc ns P := by
  refine g_putF (c := 11) (k := 24) (v := va_rf (some (as1))) (h1 := sA h as0 24 (some (as1))) dX11_init_230 (by decide) (by decide) kw_1151 rfl rfl rfl O0 (rf_n rfl) (rf_f rfl) (Put.A rfl) ?_
  exact Gd.wk g ⟨rfl, trivial⟩
theorem boX11_init_239 {X : GX} {h : SH} {nc ns : Nat} {P : Out → SH → Prop} {a0 : Nat} {as0 : Nat} {as1 : Nat} (O0 : Ob h as0 11) (g : Gd X mX11_init 242 [some (.ref a0)] [] (sA h as0 25 (some (as1))) nc ns P) : Gd X mX11_init 239 [some (.ref a0)] [.ref as1, .ref as0] h nc ns P := by
  refine g_putF (c := 11) (k := 25) (v := va_rf (some (as1))) (h1 := sA h as0 25 (some (as1))) dX11_init_239 (by decide) (by decide) kw_1152 rfl rfl rfl O0 (rf_n rfl) (rf_f rfl) (Put.A rfl) ?_
  exact Gd.wk g ⟨rfl, trivial⟩
theorem boX11_init_248 {X : GX} {h : SH} {nc ns : Nat} {P : Out → SH → Prop} {a0 : Nat} {as0 : Nat} {as1 : Nat} (O0 : Ob h as0 11) (g : Gd X mX11_init 251 [some (.ref a0)] [] (sA h as0 26 (some (as1))) nc ns P) : Gd X mX11_init 248 [some (.ref a0)] [.ref as1, .ref as0] h nc ns P := by
  refine g_putF (c := 11) (k := 26) (v := va_rf (some (as1))) (h1 := sA h as0 26 (some (as1))) dX11_init_248 (by decide) (by decide) kw_1153 rfl rfl rfl O0 (rf_n rfl) (rf_f rfl) (Put.A rfl) ?_
  exact Gd.wk g ⟨rfl, trivial⟩
theorem boX11_init_257 {X : GX} {h : SH} {nc ns : Nat} {P : Out → SH → Prop} {a0 : Nat} {as0 : Nat} {as1 : Nat} (O0 : Ob h as0 11) (g : Gd X mX11_init 260 [some (.ref a0)] [] (sA h as0 27 (some (as1))) nc ns P) : Gd X mX11_init 257 [some (.ref a0)] [.ref as1, .ref as0] h nc ns P := by
  refine g_putF (c := 11) (k := 27) (v := va_rf (some (as1))) (h1 := sA h as0 27 (some (as1))) dX11_init_257 (by decide) (by decide) kw_1154 rfl rfl rfl O0 (rf_n rfl) (rf_f rfl) (Put.A rfl) ?_
  exact Gd.wk g ⟨rfl, trivial⟩
theorem boX11_init_266 {X : GX} {h : SH} {nc ns : Nat} {P : Out → SH → Prop} {a0 : Nat} {as0 : Nat} {as1 : Nat} (O0 : Ob h as0 11) (g : Gd X mX11_init 269 [some (.ref a0)] [] (sA h as0 28 (some (as1))) nc ns P) : Gd X mX11_init 266 [some (.ref a0)] [.ref as1, .ref as0] h nc ns P := by
  refine g_putF (c := 11) (k := 28) (v := va_rf (some (as1))) (h1 := sA h as0 28 (some (as1))) dX11_init_266 (by decide) (by decide) kw_1155 rfl rfl rfl O0 (rf_n rfl) (rf_f rfl) (Put.A rfl) ?_
  exact Gd.wk g ⟨rfl, trivial⟩
theorem boX11_init_275 {X : GX} {h : SH} {nc ns : Nat} {P : Out → SH → Prop} {a0 : Nat} {as0 : Nat} {as1 : Nat} (O0 : Ob h as0 11) (g : Gd X mX11_init 278 [some (.ref a0)] [] (sA h as0 29 (some (as1))) nc ns P) : Gd X mX11_init 275 [some (.ref a0)] [.ref as1, .ref as0] h nc ns P := by
  refine g_putF (c := 11) (k := 29) (v := va_rf (some (as1))) (h1 := sA h as0 29 (some (as1))) dX11_init_275 (by decide) (by decide) kw_1156 rfl rfl rfl O0 (rf_n rfl) (rf_f rfl) (Put.A rfl) ?_
  exact Gd.wk g ⟨rfl, trivial⟩
theorem boX11_init_283 {X : GX} {h : SH} {nc ns : Nat} {P : Out → SH → Prop} {a0 : Nat} {as0 : Nat} {as1 : Nat} (O0 : Ob h as0 11) (g : Gd X mX11_init 286 [some (.ref a0)] [] (sA h as0 32 (some (as1))) nc ns P) : Gd X mX11_init 283 [some (.ref a0)] [.ref as1, .ref as0] h nc ns P := by
  refine g_putF (c := 11) (k := 32) (v := va_rf (some (as1))) (h1 := sA h as0 32 (some (as1))) dX11_init_283 (by decide) (by decide) kw_1159 rfl rfl rfl O0 (rf_n rfl) (rf_f rfl) (Put.A rfl) ?_
  exact Gd.wk g ⟨rfl, trivial⟩
theorem boX11_init_291 {X : GX} {h : SH} {nc ns : Nat} {P : Out → SH → Prop} {a0 : Nat} {as0 : Nat} {as1 : Nat} (O0 : Ob h as0 11) (g : Gd X mX11_init 294 [some (.ref a0)] [] (sA h as0 33 (some (as1))) nc ns P) : Gd X mX11_init 291 [some (.ref a0)] [.ref as1, .ref as0] h nc ns P := by
  refine g_putF (c := 11) (k := 33) (v := va_rf (some (as1))) (h1 := sA h as0 33 (some (as1))) dX11_init_291 (by decide) (by decide) kw_1160 rfl rfl rfl O0 (rf_n rfl) (rf_f rfl) (Put.A rfl) ?_
  exact Gd.wk g ⟨rfl, trivial⟩
theorem boX11_init_299 {X : GX} {h : SH} {nc ns : Nat} {P : Out → SH → Prop} {a0 : Nat} {as0 : Nat} {as1 : Nat} (O0 : Ob h as0 11) (g : Gd X mX11_init 302 [some (.ref a0)] [] (sA h as0 35 (some (as1))) nc ns P) : Gd X mX11_init 299 [some (.ref a0)] [.ref as1, .ref as0] h nc ns P := by
  refine g_putF (c := 11) (k := 35) (v := va_rf (some (as1))) (h1 := sA h as0 35 (some (as1))) dX11_init_299 (by decide) (by decide) kw_1162 rfl rfl rfl O0 (rf_n rfl) (rf_f rfl) (Put.A rfl) ?_
  exact Gd.wk g ⟨rfl, trivial⟩
theorem boX11_init_308 {X : GX} {h : SH} {nc ns : Nat} {P : Out → SH → Prop} {a0 : Nat} {as0 : Nat} {as1 : Nat} (O0 : Ob h as0 11) (g : Gd X mX11_init 311 [some (.ref a0)] [] (sA h as0 37 (some (as1))) nc ns P) : Gd X mX11_init 308 [some (.ref a0)] [.ref as1, .ref as0] h nc ns P := by
  refine g_putF (c := 11) (k := 37) (v := va_rf (some (as1))) (h1 := sA h as0 37 (some (as1))) dX11_init_308 (by decide) (by decide) kw_1164 rfl rfl rfl O0 (rf_n rfl) (rf_f rfl) (Put.A rfl) ?_
  exact Gd.wk g ⟨rfl, trivial⟩
theorem boX11_init_317 {X : GX} {h : SH} {nc ns : Nat} {P : Out → SH → Prop} {a0 : Nat} {as0 : Nat} {as1 : Nat} (O0 : Ob h as0 11) (g : Gd X mX11_init 320 [some (.ref a0)] [] (sA h as0 39 (some (as1))) nc ns P) : Gd X mX11_init 317 [some (.ref a0)] [.ref as1, .ref as0] h nc ns P := by
  refine g_putF (c := 11) (k := 39) (v := va_rf (some (as1))) (h1 := sA h as0 39 (some (as1))) dX11_init_317 (by decide) (by decide) kw_1166 rfl rfl rfl O0 (rf_n rfl) (rf_f rfl) (Put.A rfl) ?_
  exact Gd.wk g ⟨rfl, trivial⟩
theorem boX11_init_326 {X : GX} {h : SH} {nc ns : Nat} {P : Out → SH → Prop} {a0 : Nat} {as0 : Nat} {as1 : Nat} (O0 : Ob h as0 11) (g : Gd X mX11_init 329 [some (.ref a0)] [] (sA h as0 40 (some (as1))) nc ns P) : Gd X mX11_init 326 [some (.ref a0)] [.ref as1, .ref as0] h nc ns P := by
  refine g_putF (c := 11) (k := 40) (v := va_rf (some (as1))) (h1 := sA h as0 40 (some (as1))) dX11_init_326 (by decide) (by decide) kw_1167 rfl rfl rfl O0 (rf_n rfl) (rf_f rfl) (Put.A rfl) ?_
  exact Gd.wk g ⟨rfl, trivial⟩
theorem boX11_init_334 {X : GX} {h : SH} {nc ns : Nat} {P : Out → SH → Prop} {a0 : Nat} {as0 : Nat} {as1 : Nat} (O0 : Ob h as0 11) (g : Gd X mX11_init 337 [some (.ref a0)] [] (sA h as0 41 (some (as1))) nc ns P) : Gd X mX11_init 334 [some (.ref a0)] [.ref as1, .ref as0] h nc ns P := by
  refine g_putF (c := 11) (k := 41) (v := va_rf (some (as1))) (h1 := sA h as0 41 (some (as1))) dX11_init_334 (by decide) (by decide) kw_1168 rfl rfl rfl O0 (rf_n rfl) (rf_f rfl) (Put.A rfl) ?_
  exact Gd.wk g ⟨rfl, trivial⟩
theorem boX11_init_342 {X : GX} {h : SH} {nc ns : Nat} {P : Out → SH → Prop} {a0 : Nat} {as0 : Nat} {as1 : Nat} (O0 : Ob h as0 11) (g : Gd X mX11_init 345 [some (.ref a0)] [] (sA h as0 42 (some (as1))) nc ns P) : Gd X mX11_init 342 [some (.ref a0)] [.ref as1, .ref as0] h nc ns P := by
  refine g_putF (c := 11) (k := 42) (v := va_rf (some (as1))) (h1 := sA h as0 42 (some (as1))) dX11_init_342 (by decide) (by decide) kw_1169 rfl rfl rfl O0 (rf_n rfl) (rf_f rfl) (Put.A rfl) ?_
  exact Gd.wk g ⟨rfl, trivial⟩
theorem boX11_init_351 {X : GX} {h : SH} {nc ns : Nat} {P : Out → SH → Prop} {a0 : Nat} {as0 : Nat} {as1 : Nat} (O0 : Ob h as0 11) (g : Gd X mX11_init 354 [some (.ref a0)] [] (sA h as0 47 (some (as1))) nc ns P) : Gd X mX11_init 351 [some (.ref a0)] [.ref as1, .ref as0] h nc ns P := by
  refine g_putF (c := 11) (k := 47) (v := va_rf (some (as1))) (h1 := sA h as0 47 (some (as1))) dX11_init_351 (by decide) (by decide) kw_1174 rfl rfl rfl O0 (rf_n rfl) (rf_f rfl) (Put.A rfl) ?_
  exact Gd.wk g ⟨rfl, trivial⟩
theorem boX11_init_360 {X : GX} {h : SH} {nc ns : Nat} {P : Out → SH → Prop} {a0 : Nat} {as0 : Nat} {as1 : Nat} (O0 : Ob h as0 11) (g : Gd X mX11_init 363 [some (.ref a0)] [] (sA h as0 54 (some (as1))) nc ns P) : Gd X mX11_init 360 [some (.ref a0)] [.ref as1, .ref as0] h nc ns P := by
  refine g_putF (c := 11) (k := 54) (v := va_rf (some (as1))) (h1 := sA h as0 54 (some (as1))) dX11_init_360 (by decide) (by decide) kw_1181 rfl rfl rfl O0 (rf_n rfl) (rf_f rfl) (Put.A rfl) ?_
  exact Gd.wk g ⟨rfl, trivial⟩
theorem boX11_init_368 {X : GX} {h : SH} {nc ns : Nat} {P : Out → SH → Prop} {a0 : Nat} {as0 : Nat} {as1 : Nat} (O0 : Ob h as0 11) (g : Gd X mX11_init 371 [some (.ref a0)] [] (sA h as0 55 (some (as1))) nc ns P) : Gd X mX11_init 368 [some (.ref a0)] [.ref as1, .ref as0] h nc ns P := by
  refine g_putF (c := 11) (k := 55) (v := va_rf (some (as1))) (h1 := sA h as0 55 (some (as1))) dX11_init_368 (by decide) (by decide) kw_1182 rfl rfl rfl O0 (rf_n rfl) (rf_f rfl) (Put.A rfl) ?_
  exact Gd.wk g ⟨rfl, trivial⟩
theorem boX11_init_376 {X : GX} {h : SH} {nc ns : Nat} {P : Out → SH → Prop} {a0 : Nat} {as0 : Nat} {as1 : Nat} (O0 : Ob h as0 11) (g : Gd X mX11_init 379 [some (.ref a0)] [] (sA h as0 56 (some (as1))) nc ns P) : Gd X mX11_init 376 [some (.ref a0)] [.ref as1, .ref as0] h nc ns P := by
  refine g_putF (c := 11) (k := 56) (v := va_rf (some (as1))) (h1 := sA h as0 56 (some (as1))) dX11_init_376 (by decide) (by decide) kw_1183 rfl rfl rfl O0 (rf_n rfl) (rf_f rfl) (Put.A rfl) ?_
  exact Gd.wk g ⟨rfl, trivial⟩
theorem boX11_init_385 {X : GX} {h : SH} {nc ns : Nat} {P : Out → SH → Prop} {a0 : Nat} {as0 : Nat} {as1 : Nat} (O0 : Ob h as0 11) (g : Gd X mX11_init 388 [some (.ref a0)] [] (sA h as0 57 (some (as1))) nc ns P) : Gd X mX11_init 385 [some (.ref a0)] [.ref as1, .ref as0] h nc ns P := by
  refine g_putF (c := 11) (k := 57) (v := va_rf (some (as1))) (h1 := sA h as0 57 (some (as1))) dX11_init_385 (by decide) (by decide) kw_1184 rfl rfl rfl O0 (rf_n rfl) (rf_f rfl) (Put.A rfl) ?_
  exact Gd.wk g ⟨rfl, trivial⟩
