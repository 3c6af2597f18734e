theorem bkX11_free_61 {X : GX} {h : SH} {nc ns : Nat} {P : Out → SH → Prop} {as0 : Nat} {xs1 : Int32} (g : Gd X mX11_free 62 [none, none, none] [.int ((-1)), .int xs1, .ref as0] (h) nc ns P) : Gd X mX11_free 61 [none, none, none] [.int xs1, .ref as0] h nc ns P := by
  refine g_iconst (v := (-1)) dX11_free_61 (by decide) ?_
  exact Gd.wk g trivial
theorem bkX11_free_62 {X : GX} {h : SH} {nc ns : Nat} {P : Out → SH → Prop} {as0 : Nat} {xs1 : Int32} {xs2 : Int32} (F0 : LX11 (Sk h) (as0)) (hp : P (.inl (some (.int (1)))) (sI h as0 36 (xs1 + xs2))) : Gd X mX11_free 62 [none, none, none] [.int xs2, .int xs1, .ref as0] h nc ns P := by
  refine g_iadd dX11_free_62 ?_
  refine g_put (c := 11) (k := 36) (h1 := sI h as0 36 (xs1 + xs2)) dX11_free_63 (by decide) (by decide) kw_1163 rfl (LX11.o (h := h) F0) rfl rfl (Put.I rfl) ?_
  refine g_iconst (v := 1) dX11_free_66 (by decide) ?_
  exact g_ireturn (st := []) dX11_free_67 rfl (bl_n (by decide)) hp
theorem bkX11_isWorking_0 {X : GX} {h : SH} {nc ns : Nat} {P : Out → SH → Prop} {a0 : Nat} {x1 : Int32} (kt : (5 : Int32) ≤ (x1 - x1 / 7 * 7) → Gd X mX11_isWorking 21 [none, none] [] (h) nc ns P) (kf : ¬ (5 : Int32) ≤ (x1 - x1 / 7 * 7) → Gd X mX11_isWorking 8 [some (.ref a0), some (.int x1)] [] (h) nc ns P) : Gd X mX11_isWorking 0 [some (.ref a0), some (.int x1)] [] h nc ns P := by
  refine g_iload_n dX11_isWorking_0 rfl ?_
  refine g_bipush (v := 7) dX11_isWorking_1 (by decide) ?_
  refine g_irem dX11_isWorking_3 (by decide) ?_
  refine g_iconst (v := 5) dX11_isWorking_4 (by decide) ?_
  exact g_icmp_ge (tgt := 21) dX11_isWorking_5 (by decide) (fun q => Gd.wk (kt q) trivial) (fun q => Gd.wk (kf q) ⟨rfl, ⟨rfl, trivial⟩⟩)
theorem bkX11_isWorking_8 {X : GX} {h : SH} {nc ns : Nat} {P : Out → SH → Prop} {a0 : Nat} {x1 : Int32} (F0 : LX11 (Sk h) (a0)) (i1 : vp_in (x1) 10000) (kt : ¬ (hI h (a0 + 28) ((x1 : Int32).toNatClampNeg)) = 0 → Gd X mX11_isWorking 21 [none, none] [] (h) nc ns P) (kf : (hI h (a0 + 28) ((x1 : Int32).toNatClampNeg)) = 0 → Gd X mX11_isWorking 17 [none, none] [] (h) nc ns P) : Gd X mX11_isWorking 8 [some (.ref a0), some (.int x1)] [] h nc ns P := by
  refine g_aload_n dX11_isWorking_8 rfl ?_
  refine g_getAs (c := 11) (k := 37) (b := a0 + 28) dX11_isWorking_9 (by decide) (by decide) kw_1164 rfl (LX11.o (h := h) F0) (LX11.r_isFree (h := h) F0) ?_
  refine g_iload_n dX11_isWorking_12 rfl ?_
  refine g_zaload dX11_isWorking_13 (LX11.a_isFree (h := h) F0) i1 ?_
  exact g_if_ne (tgt := 21) dX11_isWorking_14 (by decide) (fun q => Gd.wk (kt q) trivial) (fun q => Gd.wk (kf q) trivial)
theorem bkX11_isWorking_17 {X : GX} {h : SH} {nc ns : Nat} {P : Out → SH → Prop} (g : Gd X mX11_isWorking 22 [none, none] [.int 1] (h) nc ns P) : Gd X mX11_isWorking 17 [none, none] [] h nc ns P := by
  refine g_iconst (v := 1) dX11_isWorking_17 (by decide) ?_
  refine g_goto (tgt := 22) dX11_isWorking_18 (by decide) ?_
  exact Gd.wk g trivial
theorem bkX11_isWorking_21 {X : GX} {h : SH} {nc ns : Nat} {P : Out → SH → Prop} (g : Gd X mX11_isWorking 22 [none, none] [.int 0] (h) nc ns P) : Gd X mX11_isWorking 21 [none, none] [] h nc ns P := by
  refine g_iconst (v := 0) dX11_isWorking_21 (by decide) ?_
  exact Gd.wk g trivial
theorem bkX11_isWorking_22 {X : GX} {h : SH} {nc ns : Nat} {P : Out → SH → Prop} {xs0 : Int32} (w0 : xs0 = 0 ∨ xs0 = 1) (hp : P (.inl (some (.int (xs0)))) (h)) : Gd X mX11_isWorking 22 [none, none] [.int xs0] h nc ns P := by
  exact g_ireturn (st := []) dX11_isWorking_22 rfl (bl_n w0) hp
theorem bkX11_workingIn_0 {X : GX} {h : SH} {nc ns : Nat} {P : Out → SH → Prop} {a0 : Nat} {x1 : Int32} {x2 : Int32} (g : Gd X mX11_workingIn 7 [some (.ref a0), none, some (.int x2), some (.int 0), some (.int (x1 + 1))] [] (h) nc ns P) : Gd X mX11_workingIn 0 [some (.ref a0), some (.int x1), some (.int x2), none, none] [] h nc ns P := by
  refine g_iconst (v := 0) dX11_workingIn_0 (by decide) ?_
  refine g_istore_n (L' := [some (.ref a0), some (.int x1), some (.int x2), some (.int 0), none]) dX11_workingIn_1 (by decide) rfl ?_
  refine g_iload_n dX11_workingIn_2 rfl ?_
  refine g_iconst (v := 1) dX11_workingIn_3 (by decide) ?_
  refine g_iadd dX11_workingIn_4 ?_
  refine g_istore (L' := [some (.ref a0), some (.int x1), some (.int x2), some (.int 0), some (.int (x1 + 1))]) dX11_workingIn_5 (by decide) rfl ?_
  exact Gd.wk g ⟨rfl, ⟨rfl, ⟨rfl, ⟨rfl, trivial⟩⟩⟩⟩
theorem bkX11_workingIn_7 {X : GX} {h : SH} {nc ns : Nat} {P : Out → SH → Prop} {a0 : Nat} {x2 : Int32} {x3 : Int32} {x4 : Int32} (kt : x2 < x4 → Gd X mX11_workingIn 36 [none, none, none, some (.int x3), none] [] (h) nc ns P) (kf : ¬ x2 < x4 → Gd X mX11_workingIn 13 [some (.ref a0), none, some (.int x2), some (.int x3), some (.int x4)] [] (h) nc ns P) : Gd X mX11_workingIn 7 [some (.ref a0), none, some (.int x2), some (.int x3), some (.int x4)] [] h nc ns P := by
  refine g_iload dX11_workingIn_7 rfl ?_
  refine g_iload_n dX11_workingIn_9 rfl ?_
  exact g_icmp_gt (tgt := 36) dX11_workingIn_10 (by decide) (fun q => Gd.wk (kt q) ⟨rfl, trivial⟩) (fun q => Gd.wk (kf q) ⟨rfl, ⟨rfl, ⟨rfl, ⟨rfl, trivial⟩⟩⟩⟩)
theorem bkX11_workingIn_13 {X : GX} {h : SH} {nc ns : Nat} {P : Out → SH → Prop} {Q : Int32 → SH → Prop} {a0 : Nat} {x2 : Int32} {x3 : Int32} {x4 : Int32} (F0 : LX11 (Sk h) (a0)) (hN : Cd X mX11_isWorking [.ref a0, .int x4] (h) 0 0 (oI Q nX)) (g : ∀ r t, Q r t → Gd X mX11_workingIn 20 [some (.ref a0), none, some (.int x2), none, some (.int x4)] [.int r, .int x3] (t) nc ns P) : Gd X mX11_workingIn 13 [some (.ref a0), none, some (.int x2), some (.int x3), some (.int x4)] [] h nc ns P := by
  refine g_iload_n dX11_workingIn_13 rfl ?_
  refine g_aload_n dX11_workingIn_14 rfl ?_
  refine g_iload dX11_workingIn_15 rfl ?_
  refine Gd.z ?_
  exact g_callV (k := 11) [.int x4] dX11_workingIn_17 mfX11_isWorking ⟨by decide, by decide⟩ kw_1459 kw_1461 kw_72 rfl (by decide) (Nat.le_of_ble_eq_true rfl) (by intro x hx; cases hx) (LX11.o (h := h) F0) (Nat.le_of_ble_eq_true rfl) hN (fun _ _ q => q.elim) (oI_go (G := fun a b => Gd X mX11_workingIn 20 _ a b nc ns P) (fun r t q => Gd.wk (g r t q) ⟨rfl, ⟨rfl, ⟨rfl, trivial⟩⟩⟩))
theorem bkX11_workingIn_20 {X : GX} {h : SH} {nc ns : Nat} {P : Out → SH → Prop} {a0 : Nat} {x2 : Int32} {x4 : Int32} {xs0 : Int32} {xs1 : Int32} (kt : xs1 = 0 → Gd X mX11_workingIn 27 [some (.ref a0), none, some (.int x2), none, some (.int x4)] [.int xs0] (h) nc ns P) (kf : ¬ xs1 = 0 → Gd X mX11_workingIn 23 [some (.ref a0), none, some (.int x2), none, some (.int x4)] [.int xs0] (h) nc ns P) : Gd X mX11_workingIn 20 [some (.ref a0), none, some (.int x2), none, some (.int x4)] [.int xs1, .int xs0] h nc ns P := by
  exact g_if_eq (tgt := 27) dX11_workingIn_20 (by decide) (fun q => Gd.wk (kt q) ⟨rfl, ⟨rfl, ⟨rfl, trivial⟩⟩⟩) (fun q => Gd.wk (kf q) ⟨rfl, ⟨rfl, ⟨rfl, trivial⟩⟩⟩)
theorem bkX11_workingIn_23 {X : GX} {h : SH} {nc ns : Nat} {P : Out → SH → Prop} {a0 : Nat} {x2 : Int32} {x4 : Int32} {xs0 : Int32} (g : Gd X mX11_workingIn 28 [some (.ref a0), none, some (.int x2), none, some (.int x4)] [.int 1, .int xs0] (h) nc ns P) : Gd X mX11_workingIn 23 [some (.ref a0), none, some (.int x2), none, some (.int x4)] [.int xs0] h nc ns P := by
  refine g_iconst (v := 1) dX11_workingIn_23 (by decide) ?_
  refine g_goto (tgt := 28) dX11_workingIn_24 (by decide) ?_
  exact Gd.wk g ⟨rfl, ⟨rfl, ⟨rfl, trivial⟩⟩⟩
theorem bkX11_workingIn_27 {X : GX} {h : SH} {nc ns : Nat} {P : Out → SH → Prop} {a0 : Nat} {x2 : Int32} {x4 : Int32} {xs0 : Int32} (g : Gd X mX11_workingIn 28 [some (.ref a0), none, some (.int x2), none, some (.int x4)] [.int 0, .int xs0] (h) nc ns P) : Gd X mX11_workingIn 27 [some (.ref a0), none, some (.int x2), none, some (.int x4)] [.int xs0] h nc ns P := by
  refine g_iconst (v := 0) dX11_workingIn_27 (by decide) ?_
  exact Gd.wk g ⟨rfl, ⟨rfl, ⟨rfl, trivial⟩⟩⟩
theorem bkX11_workingIn_28 {X : GX} {h : SH} {nc ns : Nat} {P : Out → SH → Prop} {a0 : Nat} {x2 : Int32} {x4 : Int32} {xs0 : Int32} {xs1 : Int32} (g : Gd X mX11_workingIn 7 [some (.ref a0), none, some (.int x2), some (.int (xs0 + xs1)), some (.int (x4 + 1))] [] (h) nc ns P) : Gd X mX11_workingIn 28 [some (.ref a0), none, some (.int x2), none, some (.int x4)] [.int xs1, .int xs0] h nc ns P := by
  refine g_iadd dX11_workingIn_28 ?_
  refine g_istore_n (L' := [some (.ref a0), none, some (.int x2), some (.int (xs0 + xs1)), some (.int x4)]) dX11_workingIn_29 (by decide) rfl ?_
  refine g_iinc (v := x4 + 1) (L' := [some (.ref a0), none, some (.int x2), some (.int (xs0 + xs1)), some (.int (x4 + 1))]) dX11_workingIn_30 rfl rfl (by decide) rfl ?_
  refine g_goto (tgt := 7) dX11_workingIn_33 (by decide) ?_
  exact Gd.wk g ⟨rfl, ⟨rfl, ⟨rfl, ⟨rfl, trivial⟩⟩⟩⟩
theorem bkX11_workingIn_36 {X : GX} {h : SH} {nc ns : Nat} {P : Out → SH → Prop} {x3 : Int32} (hp : P (.inl (some (.int (x3)))) (h)) : Gd X mX11_workingIn 36 [none, none, none, some (.int x3), none] [] h nc ns P := by
  refine g_iload_n dX11_workingIn_36 rfl ?_
  exact g_ireturn (st := []) dX11_workingIn_37 rfl rfl hp
theorem bkX11_working_0 {X : GX} {h : SH} {nc ns : Nat} {P : Out → SH → Prop} {a0 : Nat} {x1 : Int32} {x2 : Int32} (F0 : LX11 (Sk h) (a0)) (kt : x1 < 0 → Gd X mX11_working 21 [none, none, none] [] (sI h a0 0 0) nc ns P) (kf : ¬ x1 < 0 → Gd X mX11_working 9 [some (.ref a0), some (.int x1), some (.int x2)] [] (sI h a0 0 0) nc ns P) : Gd X mX11_working 0 [some (.ref a0), some (.int x1), some (.int x2)] [] h nc ns P := by
  refine g_aload_n dX11_working_0 rfl ?_
  refine g_iconst (v := 0) dX11_working_1 (by decide) ?_
  refine g_put (c := 11) (k := 0) (h1 := sI h a0 0 0) dX11_working_2 (by decide) (by decide) kw_1127 rfl (LX11.o (h := h) F0) rfl rfl (Put.I rfl) ?_
  refine g_iload_n dX11_working_5 rfl ?_
  exact g_if_lt (tgt := 21) dX11_working_6 (by decide) (fun q => Gd.wk (kt q) trivial) (fun q => Gd.wk (kf q) ⟨rfl, ⟨rfl, ⟨rfl, trivial⟩⟩⟩)
theorem bkX11_working_9 {X : GX} {h : SH} {nc ns : Nat} {P : Out → SH → Prop} {a0 : Nat} {x1 : Int32} {x2 : Int32} (kt : (9999 : Int32) < x2 → Gd X mX11_working 21 [none, none, none] [] (h) nc ns P) (kf : ¬ (9999 : Int32) < x2 → Gd X mX11_working 16 [some (.ref a0), some (.int x1), some (.int x2)] [] (h) nc ns P) : Gd X mX11_working 9 [some (.ref a0), some (.int x1), some (.int x2)] [] h nc ns P := by
  refine g_iload_n dX11_working_9 rfl ?_
  refine g_sipush (v := 9999) dX11_working_10 (by decide) ?_
  exact g_icmp_gt (tgt := 21) dX11_working_13 (by decide) (fun q => Gd.wk (kt q) trivial) (fun q => Gd.wk (kf q) ⟨rfl, ⟨rfl, ⟨rfl, trivial⟩⟩⟩)
theorem bkX11_working_16 {X : GX} {h : SH} {nc ns : Nat} {P : Out → SH → Prop} {a0 : Nat} {x1 : Int32} {x2 : Int32} (kt : x1 ≤ x2 → Gd X mX11_working 25 [some (.ref a0), some (.int x1), some (.int x2)] [] (h) nc ns P) (kf : ¬ x1 ≤ x2 → Gd X mX11_working 21 [none, none, none] [] (h) nc ns P) : Gd X mX11_working 16 [some (.ref a0), some (.int x1), some (.int x2)] [] h nc ns P := by
  refine g_iload_n dX11_working_16 rfl ?_
  refine g_iload_n dX11_working_17 rfl ?_
  exact g_icmp_le (tgt := 25) dX11_working_18 (by decide) (fun q => Gd.wk (kt q) ⟨rfl, ⟨rfl, ⟨rfl, trivial⟩⟩⟩) (fun q => Gd.wk (kf q) trivial)
theorem bkX11_working_21 {X : GX} {h : SH} {nc ns : Nat} {P : Out → SH → Prop} (g : Gd X mX11_working 31 [none, none, none] [.int ((-1))] (h) nc ns P) : Gd X mX11_working 21 [none, none, none] [] h nc ns P := by
  refine g_iconst (v := (-1)) dX11_working_21 (by decide) ?_
  refine g_goto (tgt := 31) dX11_working_22 (by decide) ?_
  exact Gd.wk g trivial
theorem bkX11_working_25 {X : GX} {h : SH} {nc ns : Nat} {P : Out → SH → Prop} {Q : Int32 → SH → Prop} {a0 : Nat} {x1 : Int32} {x2 : Int32} (F0 : LX11 (Sk h) (a0)) (hN : Cd X mX11_workingIn [.ref a0, .int x1, .int x2] (h) 0 0 (oI Q nX)) (g : ∀ r t, Q r t → Gd X mX11_working 31 [none, none, none] [.int r] (t) nc ns P) : Gd X mX11_working 25 [some (.ref a0), some (.int x1), some (.int x2)] [] h nc ns P := by
  refine g_aload_n dX11_working_25 rfl ?_
  refine g_iload_n dX11_working_26 rfl ?_
  refine g_iload_n dX11_working_27 rfl ?_
  refine Gd.z ?_
  exact g_callV (k := 11) [.int x1, .int x2] dX11_working_28 mfX11_workingIn ⟨by decide, by decide⟩ kw_1455 kw_1457 kw_71 rfl (by decide) (Nat.le_of_ble_eq_true rfl) (by intro x hx; cases hx) (LX11.o (h := h) F0) (Nat.le_of_ble_eq_true rfl) hN (fun _ _ q => q.elim) (oI_go (G := fun a b => Gd X mX11_working 31 _ a b nc ns P) (fun r t q => Gd.wk (g r t q) trivial))
theorem bkX11_working_31 {X : GX} {h : SH} {nc ns : Nat} {P : Out → SH → Prop} {xs0 : Int32} (hp : P (.inl (some (.int (xs0)))) (h)) : Gd X mX11_working 31 [none, none, none] [.int xs0] h nc ns P := by
  exact g_ireturn (st := []) dX11_working_31 rfl rfl hp
theorem bkX11_findBehind_0 {X : GX} {h : SH} {nc ns : Nat} {P : Out → SH → Prop} {a0 : Nat} {x1 : Int32} (F0 : LX11 (Sk h) (a0)) (g : Gd X mX11_findBehind 9 [some (.ref a0), none, some (.int (x1 + 1))] [] (sI h a0 38 0) nc ns P) : Gd X mX11_findBehind 0 [some (.ref a0), some (.int x1), none] [] h nc ns P := by
  refine g_aload_n dX11_findBehind_0 rfl ?_
  refine g_iconst (v := 0) dX11_findBehind_1 (by decide) ?_
  refine g_put (c := 11) (k := 38) (h1 := sI h a0 38 0) dX11_findBehind_2 (by decide) (by decide) kw_1165 rfl (LX11.o (h := h) F0) rfl rfl (Put.I rfl) ?_
  refine g_iload_n dX11_findBehind_5 rfl ?_
  refine g_iconst (v := 1) dX11_findBehind_6 (by decide) ?_
  refine g_iadd dX11_findBehind_7 ?_
  refine g_istore_n (L' := [some (.ref a0), some (.int x1), some (.int (x1 + 1))]) dX11_findBehind_8 (by decide) rfl ?_
  exact Gd.wk g ⟨rfl, ⟨rfl, trivial⟩⟩
theorem bkX11_findBehind_9 {X : GX} {h : SH} {nc ns : Nat} {P : Out → SH → Prop} {a0 : Nat} {x2 : Int32} (kt : (9999 : Int32) < x2 → Gd X mX11_findBehind 50 [none, none, none] [] (h) nc ns P) (kf : ¬ (9999 : Int32) < x2 → Gd X mX11_findBehind 16 [some (.ref a0), none, some (.int x2)] [] (h) nc ns P) : Gd X mX11_findBehind 9 [some (.ref a0), none, some (.int x2)] [] h nc ns P := by
  refine g_iload_n dX11_findBehind_9 rfl ?_
  refine g_sipush (v := 9999) dX11_findBehind_10 (by decide) ?_
  exact g_icmp_gt (tgt := 50) dX11_findBehind_13 (by decide) (fun q => Gd.wk (kt q) trivial) (fun q => Gd.wk (kf q) ⟨rfl, ⟨rfl, trivial⟩⟩)
theorem bkX11_findBehind_16 {X : GX} {h : SH} {nc ns : Nat} {P : Out → SH → Prop} {Q : Int32 → SH → Prop} {a0 : Nat} {x2 : Int32} (F0 : LX11 (Sk h) (a0)) (hN : Cd X mX11_isWorking [.ref a0, .int x2] (h) 0 0 (oI Q nX)) (g : ∀ r t, Q r t → Gd X mX11_findBehind 21 [some (.ref a0), none, some (.int x2)] [.int r] (t) nc ns P) : Gd X mX11_findBehind 16 [some (.ref a0), none, some (.int x2)] [] h nc ns P := by
  refine g_aload_n dX11_findBehind_16 rfl ?_
  refine g_iload_n dX11_findBehind_17 rfl ?_
  refine Gd.z ?_
  exact g_callV (k := 11) [.int x2] dX11_findBehind_18 mfX11_isWorking ⟨by decide, by decide⟩ kw_1459 kw_1461 kw_72 rfl (by decide) (Nat.le_of_ble_eq_true rfl) (by intro x hx; cases hx) (LX11.o (h := h) F0) (Nat.le_of_ble_eq_true rfl) hN (fun _ _ q => q.elim) (oI_go (G := fun a b => Gd X mX11_findBehind 21 _ a b nc ns P) (fun r t q => Gd.wk (g r t q) ⟨rfl, ⟨rfl, trivial⟩⟩))
theorem bkX11_findBehind_21 {X : GX} {h : SH} {nc ns : Nat} {P : Out → SH → Prop} {a0 : Nat} {x2 : Int32} {xs0 : Int32} (kt : xs0 = 0 → Gd X mX11_findBehind 44 [some (.ref a0), none, some (.int x2)] [] (h) nc ns P) (kf : ¬ xs0 = 0 → Gd X mX11_findBehind 24 [some (.ref a0), none, some (.int x2)] [] (h) nc ns P) : Gd X mX11_findBehind 21 [some (.ref a0), none, some (.int x2)] [.int xs0] h nc ns P := by
  exact g_if_eq (tgt := 44) dX11_findBehind_21 (by decide) (fun q => Gd.wk (kt q) ⟨rfl, ⟨rfl, trivial⟩⟩) (fun q => Gd.wk (kf q) ⟨rfl, ⟨rfl, trivial⟩⟩)
theorem bkX11_findBehind_24 {X : GX} {h : SH} {nc ns : Nat} {P : Out → SH → Prop} {a0 : Nat} {x2 : Int32} (F0 : LX11 (Sk h) (a0)) (i1 : vp_in (hI h a0 38) 10000) (g : Gd X mX11_findBehind 44 [some (.ref a0), none, some (.int x2)] [] (sI (sI h (a0 + 29) ((hI h a0 38 : Int32).toNatClampNeg) x2) a0 38 ((hI (sI h (a0 + 29) ((hI h a0 38 : Int32).toNatClampNeg) x2) a0 38) + 1)) nc ns P) : Gd X mX11_findBehind 24 [some (.ref a0), none, some (.int x2)] [] h nc ns P := by
  refine g_aload_n dX11_findBehind_24 rfl ?_
  refine g_getAs (c := 11) (k := 39) (b := a0 + 29) dX11_findBehind_25 (by decide) (by decide) kw_1166 rfl (LX11.o (h := h) F0) (LX11.r_behind (h := h) F0) ?_
  refine g_aload_n dX11_findBehind_28 rfl ?_
  refine g_getI (c := 11) (k := 38) dX11_findBehind_29 (by decide) (by decide) kw_1165 rfl (LX11.o (h := h) F0) ?_
  refine g_iload_n dX11_findBehind_32 rfl ?_
  refine g_iastore dX11_findBehind_33 (LX11.a_behind (h := h) F0) i1 ?_
  refine g_aload_n dX11_findBehind_34 rfl ?_
  refine g_dup dX11_findBehind_35 rfl ?_
  refine g_getI (c := 11) (k := 38) dX11_findBehind_36 (by decide) (by decide) kw_1165 rfl (LX11.o (h := sI h (a0 + 29) ((hI h a0 38 : Int32).toNatClampNeg) x2) F0) ?_
  refine g_iconst (v := 1) dX11_findBehind_39 (by decide) ?_
  refine g_iadd dX11_findBehind_40 ?_
  refine g_put (c := 11) (k := 38) (h1 := sI (sI h (a0 + 29) ((hI h a0 38 : Int32).toNatClampNeg) x2) a0 38 ((hI (sI h (a0 + 29) ((hI h a0 38 : Int32).toNatClampNeg) x2) a0 38) + 1)) dX11_findBehind_41 (by decide) (by decide) kw_1165 rfl (LX11.o (h := sI h (a0 + 29) ((hI h a0 38 : Int32).toNatClampNeg) x2) F0) rfl rfl (Put.I rfl) ?_
  exact Gd.wk g ⟨rfl, ⟨rfl, trivial⟩⟩
theorem bkX11_findBehind_44 {X : GX} {h : SH} {nc ns : Nat} {P : Out → SH → Prop} {a0 : Nat} {x2 : Int32} (g : Gd X mX11_findBehind 9 [some (.ref a0), none, some (.int (x2 + 1))] [] (h) nc ns P) : Gd X mX11_findBehind 44 [some (.ref a0), none, some (.int x2)] [] h nc ns P := by
  refine g_iinc (v := x2 + 1) (L' := [some (.ref a0), none, some (.int (x2 + 1))]) dX11_findBehind_44 rfl rfl (by decide) rfl ?_
  refine g_goto (tgt := 9) dX11_findBehind_47 (by decide) ?_
  exact Gd.wk g ⟨rfl, ⟨rfl, trivial⟩⟩
theorem bkX11_findBehind_50 {X : GX} {h : SH} {nc ns : Nat} {P : Out → SH → Prop} (hp : P (.inl (none)) (h)) : Gd X mX11_findBehind 50 [none, none, none] [] h nc ns P := by
  exact g_return (st := []) dX11_findBehind_50 rfl hp
theorem bkX11_dayOf_0 {X : GX} {h : SH} {nc ns : Nat} {P : Out → SH → Prop} {a0 : Nat} {x1 : Int32} {x2 : Int32} (kt : (1 : Int32) ≤ x2 → Gd X mX11_dayOf 9 [some (.ref a0), none, some (.int x2)] [] (h) nc ns P) (kf : ¬ (1 : Int32) ≤ x2 → Gd X mX11_dayOf 5 [none, some (.int x1), none] [] (h) nc ns P) : Gd X mX11_dayOf 0 [some (.ref a0), some (.int x1), some (.int x2)] [] h nc ns P := by
  refine g_iload_n dX11_dayOf_0 rfl ?_
  refine g_iconst (v := 1) dX11_dayOf_1 (by decide) ?_
  exact g_icmp_ge (tgt := 9) dX11_dayOf_2 (by decide) (fun q => Gd.wk (kt q) ⟨rfl, ⟨rfl, trivial⟩⟩) (fun q => Gd.wk (kf q) ⟨rfl, trivial⟩)
theorem bkX11_dayOf_5 {X : GX} {h : SH} {nc ns : Nat} {P : Out → SH → Prop} {x1 : Int32} (g : Gd X mX11_dayOf 31 [none, none, none] [.int x1] (h) nc ns P) : Gd X mX11_dayOf 5 [none, some (.int x1), none] [] h nc ns P := by
  refine g_iload_n dX11_dayOf_5 rfl ?_
  refine g_goto (tgt := 31) dX11_dayOf_6 (by decide) ?_
  exact Gd.wk g trivial
theorem bkX11_dayOf_9 {X : GX} {h : SH} {nc ns : Nat} {P : Out → SH → Prop} {a0 : Nat} {x2 : Int32} (F0 : LX11 (Sk h) (a0)) (kt : x2 ≤ hI h a0 38 → Gd X mX11_dayOf 23 [some (.ref a0), none, some (.int x2)] [] (h) nc ns P) (kf : ¬ x2 ≤ hI h a0 38 → Gd X mX11_dayOf 17 [none, none, none] [] (h) nc ns P) : Gd X mX11_dayOf 9 [some (.ref a0), none, some (.int x2)] [] h nc ns P := by
  refine g_iload_n dX11_dayOf_9 rfl ?_
  refine g_aload_n dX11_dayOf_10 rfl ?_
  refine g_getI (c := 11) (k := 38) dX11_dayOf_11 (by decide) (by decide) kw_1165 rfl (LX11.o (h := h) F0) ?_
  exact g_icmp_le (tgt := 23) dX11_dayOf_14 (by decide) (fun q => Gd.wk (kt q) ⟨rfl, ⟨rfl, trivial⟩⟩) (fun q => Gd.wk (kf q) trivial)
theorem bkX11_dayOf_17 {X : GX} {h : SH} {nc ns : Nat} {P : Out → SH → Prop} (g : Gd X mX11_dayOf 31 [none, none, none] [.int 9999] (h) nc ns P) : Gd X mX11_dayOf 17 [none, none, none] [] h nc ns P := by
  refine g_sipush (v := 9999) dX11_dayOf_17 (by decide) ?_
  refine g_goto (tgt := 31) dX11_dayOf_20 (by decide) ?_
  exact Gd.wk g trivial
theorem bkX11_dayOf_23 {X : GX} {h : SH} {nc ns : Nat} {P : Out → SH → Prop} {a0 : Nat} {x2 : Int32} (F0 : LX11 (Sk h) (a0)) (i1 : vp_in (x2 - 1) 10000) (g : Gd X mX11_dayOf 31 [none, none, none] [.int (hI h (a0 + 29) ((x2 - 1 : Int32).toNatClampNeg))] (h) nc ns P) : Gd X mX11_dayOf 23 [some (.ref a0), none, some (.int x2)] [] h nc ns P := by
  refine g_aload_n dX11_dayOf_23 rfl ?_
  refine g_getAs (c := 11) (k := 39) (b := a0 + 29) dX11_dayOf_24 (by decide) (by decide) kw_1166 rfl (LX11.o (h := h) F0) (LX11.r_behind (h := h) F0) ?_
  refine g_iload_n dX11_dayOf_27 rfl ?_
  refine g_iconst (v := 1) dX11_dayOf_28 (by decide) ?_
  refine g_isub dX11_dayOf_29 ?_
  refine g_iaload dX11_dayOf_30 (LX11.a_behind (h := h) F0) i1 ?_
  exact Gd.wk g trivial
theorem bkX11_dayOf_31 {X : GX} {h : SH} {nc ns : Nat} {P : Out → SH → Prop} {xs0 : Int32} (hp : P (.inl (some (.int (xs0)))) (h)) : Gd X mX11_dayOf 31 [none, none, none] [.int xs0] h nc ns P := by
  exact g_ireturn (st := []) dX11_dayOf_31 rfl rfl hp
theorem bkX11_worth_0 {X : GX} {h : SH} {nc ns : Nat} {P : Out → SH → Prop} {a0 : Nat} {x1 : Int32} {x2 : Int32} (g : Gd X mX11_worth 11 [some (.ref a0), none, none, some (.int ((2600 * x1) + x2)), some (.int 0), none, none, none] [] (h) nc ns P) : Gd X mX11_worth 0 [some (.ref a0), some (.int x1), some (.int x2), none, none, none, none, none] [] h nc ns P := by
  refine g_sipush (v := 2600) dX11_worth_0 (by decide) ?_
  refine g_iload_n dX11_worth_3 rfl ?_
  refine g_imul dX11_worth_4 ?_
  refine g_iload_n dX11_worth_5 rfl ?_
  refine g_iadd dX11_worth_6 ?_
  refine g_istore_n (L' := [some (.ref a0), some (.int x1), some (.int x2), some (.int ((2600 * x1) + x2)), none, none, none, none]) dX11_worth_7 (by decide) rfl ?_
  refine g_iconst (v := 0) dX11_worth_8 (by decide) ?_
  refine g_istore (L' := [some (.ref a0), some (.int x1), some (.int x2), some (.int ((2600 * x1) + x2)), some (.int 0), none, none, none]) dX11_worth_9 (by decide) rfl ?_
  exact Gd.wk g ⟨rfl, ⟨rfl, ⟨rfl, trivial⟩⟩⟩
theorem bkX11_worth_11 {X : GX} {h : SH} {nc ns : Nat} {P : Out → SH → Prop} {a0 : Nat} {x3 : Int32} {x4 : Int32} (F0 : LX11 (Sk h) (a0)) (i1 : vp_in (x3) 18200) (kt : (hI h (a0 + 23) ((x3 : Int32).toNatClampNeg)) = 0 → Gd X mX11_worth 178 [some (.ref a0), none, none, none, none, none, none, none] [] (h) nc ns P) (kf : ¬ (hI h (a0 + 23) ((x3 : Int32).toNatClampNeg)) = 0 → Gd X mX11_worth 20 [some (.ref a0), none, none, some (.int x3), some (.int x4), none, none, none] [] (h) nc ns P) : Gd X mX11_worth 11 [some (.ref a0), none, none, some (.int x3), some (.int x4), none, none, none] [] h nc ns P := by
  refine g_aload_n dX11_worth_11 rfl ?_
  refine g_getAs (c := 11) (k := 28) (b := a0 + 23) dX11_worth_12 (by decide) (by decide) kw_1155 rfl (LX11.o (h := h) F0) (LX11.r_op (h := h) F0) ?_
  refine g_iload_n dX11_worth_15 rfl ?_
  refine g_iaload dX11_worth_16 (LX11.a_op (h := h) F0) i1 ?_
  exact g_if_eq (tgt := 178) dX11_worth_17 (by decide) (fun q => Gd.wk (kt q) ⟨rfl, trivial⟩) (fun q => Gd.wk (kf q) ⟨rfl, ⟨rfl, ⟨rfl, trivial⟩⟩⟩)
theorem bkX11_worth_20 {X : GX} {h : SH} {nc ns : Nat} {P : Out → SH → Prop} {a0 : Nat} {x3 : Int32} {x4 : Int32} (F0 : LX11 (Sk h) (a0)) (i1 : vp_in (x3) 18200) (kt : (hI h (a0 + 23) ((x3 : Int32).toNatClampNeg)) = 1 → Gd X mX11_worth 40 [some (.ref a0), none, none, some (.int x3), some (.int x4), some (.int (hI h (a0 + 23) ((x3 : Int32).toNatClampNeg))), none, none] [] (h) nc ns P) (kf : ¬ (hI h (a0 + 23) ((x3 : Int32).toNatClampNeg)) = 1 → Gd X mX11_worth 34 [some (.ref a0), none, none, some (.int x3), some (.int x4), some (.int (hI h (a0 + 23) ((x3 : Int32).toNatClampNeg))), none, none] [] (h) nc ns P) : Gd X mX11_worth 20 [some (.ref a0), none, none, some (.int x3), some (.int x4), none, none, none] [] h nc ns P := by
  refine g_aload_n dX11_worth_20 rfl ?_
  refine g_getAs (c := 11) (k := 28) (b := a0 + 23) dX11_worth_21 (by decide) (by decide) kw_1155 rfl (LX11.o (h := h) F0) (LX11.r_op (h := h) F0) ?_
  refine g_iload_n dX11_worth_24 rfl ?_
  refine g_iaload dX11_worth_25 (LX11.a_op (h := h) F0) i1 ?_
  refine g_istore (L' := [some (.ref a0), none, none, some (.int x3), some (.int x4), some (.int (hI h (a0 + 23) ((x3 : Int32).toNatClampNeg))), none, none]) dX11_worth_26 (by decide) rfl ?_
  refine g_iload dX11_worth_28 rfl ?_
  refine g_iconst (v := 1) dX11_worth_30 (by decide) ?_
  exact g_icmp_eq (tgt := 40) dX11_worth_31 (by decide) (fun q => Gd.wk (kt q) ⟨rfl, ⟨rfl, ⟨rfl, ⟨rfl, trivial⟩⟩⟩⟩) (fun q => Gd.wk (kf q) ⟨rfl, ⟨rfl, ⟨rfl, ⟨rfl, trivial⟩⟩⟩⟩)
theorem bkX11_worth_34 {X : GX} {h : SH} {nc ns : Nat} {P : Out → SH → Prop} {a0 : Nat} {x3 : Int32} {x4 : Int32} {x5 : Int32} (kt : ¬ x5 = 2 → Gd X mX11_worth 79 [some (.ref a0), none, none, some (.int x3), some (.int x4), some (.int x5), none, none] [] (h) nc ns P) (kf : x5 = 2 → Gd X mX11_worth 40 [some (.ref a0), none, none, some (.int x3), some (.int x4), some (.int x5), none, none] [] (h) nc ns P) : Gd X mX11_worth 34 [some (.ref a0), none, none, some (.int x3), some (.int x4), some (.int x5), none, none] [] h nc ns P := by
  refine g_iload dX11_worth_34 rfl ?_
  refine g_iconst (v := 2) dX11_worth_36 (by decide) ?_
  exact g_icmp_ne (tgt := 79) dX11_worth_37 (by decide) (fun q => Gd.wk (kt q) ⟨rfl, ⟨rfl, ⟨rfl, ⟨rfl, trivial⟩⟩⟩⟩) (fun q => Gd.wk (kf q) ⟨rfl, ⟨rfl, ⟨rfl, ⟨rfl, trivial⟩⟩⟩⟩)
theorem bkX11_worth_40 {X : GX} {h : SH} {nc ns : Nat} {P : Out → SH → Prop} {a0 : Nat} {x3 : Int32} {x4 : Int32} {x5 : Int32} (F0 : LX11 (Sk h) (a0)) (kt : ¬ x5 = 1 → Gd X mX11_worth 61 [some (.ref a0), none, none, some (.int x3), some (.int x4), none, none, none] [.int x4, .ref (a0 + 30)] (h) nc ns P) (kf : x5 = 1 → Gd X mX11_worth 52 [some (.ref a0), none, none, some (.int x3), some (.int x4), none, none, none] [.int x4, .ref (a0 + 30)] (h) nc ns P) : Gd X mX11_worth 40 [some (.ref a0), none, none, some (.int x3), some (.int x4), some (.int x5), none, none] [] h nc ns P := by
  refine g_aload_n dX11_worth_40 rfl ?_
  refine g_getAs (c := 11) (k := 40) (b := a0 + 30) dX11_worth_41 (by decide) (by decide) kw_1167 rfl (LX11.o (h := h) F0) (LX11.r_pile (h := h) F0) ?_
  refine g_iload dX11_worth_44 rfl ?_
  refine g_iload dX11_worth_46 rfl ?_
  refine g_iconst (v := 1) dX11_worth_48 (by decide) ?_
  exact g_icmp_ne (tgt := 61) dX11_worth_49 (by decide) (fun q => Gd.wk (kt q) ⟨rfl, ⟨rfl, ⟨rfl, trivial⟩⟩⟩) (fun q => Gd.wk (kf q) ⟨rfl, ⟨rfl, ⟨rfl, trivial⟩⟩⟩)
theorem bkX11_worth_52 {X : GX} {h : SH} {nc ns : Nat} {P : Out → SH → Prop} {a0 : Nat} {x3 : Int32} {x4 : Int32} {as0 : Nat} {xs1 : Int32} (F0 : LX11 (Sk h) (a0)) (i1 : vp_in (x3) 18200) (g : Gd X mX11_worth 72 [some (.ref a0), none, none, some (.int x3), some (.int x4), none, none, none] [.int (hI h (a0 + 24) ((x3 : Int32).toNatClampNeg)), .int xs1, .ref as0] (h) nc ns P) : Gd X mX11_worth 52 [some (.ref a0), none, none, some (.int x3), some (.int x4), none, none, none] [.int xs1, .ref as0] h nc ns P := by
  refine g_aload_n dX11_worth_52 rfl ?_
  refine g_getAs (c := 11) (k := 29) (b := a0 + 24) dX11_worth_53 (by decide) (by decide) kw_1156 rfl (LX11.o (h := h) F0) (LX11.r_one (h := h) F0) ?_
  refine g_iload_n dX11_worth_56 rfl ?_
  refine g_iaload dX11_worth_57 (LX11.a_one (h := h) F0) i1 ?_
  refine g_goto (tgt := 72) dX11_worth_58 (by decide) ?_
  exact Gd.wk g ⟨rfl, ⟨rfl, ⟨rfl, trivial⟩⟩⟩
theorem bkX11_worth_61 {X : GX} {h : SH} {nc ns : Nat} {P : Out → SH → Prop} {a0 : Nat} {x3 : Int32} {x4 : Int32} {as0 : Nat} {xs1 : Int32} (F0 : LX11 (Sk h) (a0)) (i1 : vp_in (x3) 18200) (i2 : vp_in (hI h (a0 + 24) ((x3 : Int32).toNatClampNeg)) 8) (g : Gd X mX11_worth 72 [some (.ref a0), none, none, some (.int x3), some (.int x4), none, none, none] [.int (hI h (a0 + 27) ((hI h (a0 + 24) ((x3 : Int32).toNatClampNeg) : Int32).toNatClampNeg)), .int xs1, .ref as0] (h) nc ns P) : Gd X mX11_worth 61 [some (.ref a0), none, none, some (.int x3), some (.int x4), none, none, none] [.int xs1, .ref as0] h nc ns P := by
  refine g_aload_n dX11_worth_61 rfl ?_
  refine g_getAs (c := 11) (k := 35) (b := a0 + 27) dX11_worth_62 (by decide) (by decide) kw_1162 rfl (LX11.o (h := h) F0) (LX11.r_told (h := h) F0) ?_
  refine g_aload_n dX11_worth_65 rfl ?_
  refine g_getAs (c := 11) (k := 29) (b := a0 + 24) dX11_worth_66 (by decide) (by decide) kw_1156 rfl (LX11.o (h := h) F0) (LX11.r_one (h := h) F0) ?_
  refine g_iload_n dX11_worth_69 rfl ?_
  refine g_iaload dX11_worth_70 (LX11.a_one (h := h) F0) i1 ?_
  refine g_iaload dX11_worth_71 (LX11.a_told (h := h) F0) i2 ?_
  exact Gd.wk g ⟨rfl, ⟨rfl, ⟨rfl, trivial⟩⟩⟩
theorem bkX11_worth_72 {X : GX} {h : SH} {nc ns : Nat} {P : Out → SH → Prop} {a0 : Nat} {x3 : Int32} {x4 : Int32} {as0 : Nat} {xs1 : Int32} {xs2 : Int32} {n6 : Nat} (B0 : Ar h (as0) 20 n6) (i1 : vp_in (xs1) n6) (g : Gd X mX11_worth 172 [some (.ref a0), none, none, some (.int x3), some (.int (x4 + 1)), none, none, none] [] (sI h as0 ((xs1 : Int32).toNatClampNeg) xs2) nc ns P) : Gd X mX11_worth 72 [some (.ref a0), none, none, some (.int x3), some (.int x4), none, none, none] [.int xs2, .int xs1, .ref as0] h nc ns P := by
  refine g_iastore dX11_worth_72 B0 i1 ?_
  refine g_iinc (v := x4 + 1) (L' := [some (.ref a0), none, none, some (.int x3), some (.int (x4 + 1)), none, none, none]) dX11_worth_73 rfl rfl (by decide) rfl ?_
  refine g_goto (tgt := 172) dX11_worth_76 (by decide) ?_
  exact Gd.wk g ⟨rfl, ⟨rfl, ⟨rfl, trivial⟩⟩⟩
theorem bkX11_worth_79 {X : GX} {h : SH} {nc ns : Nat} {P : Out → SH → Prop} {a0 : Nat} {x3 : Int32} {x4 : Int32} {x5 : Int32} (F0 : LX11 (Sk h) (a0)) (i1 : vp_in (x4 + (-1)) 2600) (i2 : vp_in ((x4 + (-1)) - 1) 2600) (kt : ¬ x5 = 3 → Gd X mX11_worth 124 [some (.ref a0), none, none, some (.int x3), some (.int (x4 + (-1))), some (.int x5), some (.int (hI h (a0 + 30) ((x4 + (-1) : Int32).toNatClampNeg))), some (.int (hI h (a0 + 30) (((x4 + (-1)) - 1 : Int32).toNatClampNeg)))] [.int ((x4 + (-1)) - 1), .ref (a0 + 30)] (h) nc ns P) (kf : x5 = 3 → Gd X mX11_worth 116 [some (.ref a0), none, none, some (.int x3), some (.int (x4 + (-1))), none, some (.int (hI h (a0 + 30) ((x4 + (-1) : Int32).toNatClampNeg))), some (.int (hI h (a0 + 30) (((x4 + (-1)) - 1 : Int32).toNatClampNeg)))] [.int ((x4 + (-1)) - 1), .ref (a0 + 30)] (h) nc ns P) : Gd X mX11_worth 79 [some (.ref a0), none, none, some (.int x3), some (.int x4), some (.int x5), none, none] [] h nc ns P := by
  refine g_iinc (v := x4 + (-1)) (L' := [some (.ref a0), none, none, some (.int x3), some (.int (x4 + (-1))), some (.int x5), none, none]) dX11_worth_79 rfl rfl (by decide) rfl ?_
  refine g_aload_n dX11_worth_82 rfl ?_
  refine g_getAs (c := 11) (k := 40) (b := a0 + 30) dX11_worth_83 (by decide) (by decide) kw_1167 rfl (LX11.o (h := h) F0) (LX11.r_pile (h := h) F0) ?_
  refine g_iload dX11_worth_86 rfl ?_
  refine g_iaload dX11_worth_88 (LX11.a_pile (h := h) F0) i1 ?_
  refine g_istore (L' := [some (.ref a0), none, none, some (.int x3), some (.int (x4 + (-1))), some (.int x5), some (.int (hI h (a0 + 30) ((x4 + (-1) : Int32).toNatClampNeg))), none]) dX11_worth_89 (by decide) rfl ?_
  refine g_aload_n dX11_worth_91 rfl ?_
  refine g_getAs (c := 11) (k := 40) (b := a0 + 30) dX11_worth_92 (by decide) (by decide) kw_1167 rfl (LX11.o (h := h) F0) (LX11.r_pile (h := h) F0) ?_
  refine g_iload dX11_worth_95 rfl ?_
  refine g_iconst (v := 1) dX11_worth_97 (by decide) ?_
  refine g_isub dX11_worth_98 ?_
  refine g_iaload dX11_worth_99 (LX11.a_pile (h := h) F0) i2 ?_
  refine g_istore (L' := [some (.ref a0), none, none, some (.int x3), some (.int (x4 + (-1))), some (.int x5), some (.int (hI h (a0 + 30) ((x4 + (-1) : Int32).toNatClampNeg))), some (.int (hI h (a0 + 30) (((x4 + (-1)) - 1 : Int32).toNatClampNeg)))]) dX11_worth_100 (by decide) rfl ?_
  refine g_aload_n dX11_worth_102 rfl ?_
  refine g_getAs (c := 11) (k := 40) (b := a0 + 30) dX11_worth_103 (by decide) (by decide) kw_1167 rfl (LX11.o (h := h) F0) (LX11.r_pile (h := h) F0) ?_
  refine g_iload dX11_worth_106 rfl ?_
  refine g_iconst (v := 1) dX11_worth_108 (by decide) ?_
  refine g_isub dX11_worth_109 ?_
  refine g_iload dX11_worth_110 rfl ?_
  refine g_iconst (v := 3) dX11_worth_112 (by decide) ?_
  exact g_icmp_ne (tgt := 124) dX11_worth_113 (by decide) (fun q => Gd.wk (kt q) ⟨rfl, ⟨rfl, ⟨rfl, ⟨rfl, ⟨rfl, ⟨rfl, trivial⟩⟩⟩⟩⟩⟩) (fun q => Gd.wk (kf q) ⟨rfl, ⟨rfl, ⟨rfl, ⟨rfl, ⟨rfl, trivial⟩⟩⟩⟩⟩)
theorem bkX11_worth_116 {X : GX} {h : SH} {nc ns : Nat} {P : Out → SH → Prop} {a0 : Nat} {x3 : Int32} {x4 : Int32} {x6 : Int32} {x7 : Int32} {as0 : Nat} {xs1 : Int32} (g : Gd X mX11_worth 171 [some (.ref a0), none, none, some (.int x3), some (.int x4), none, none, none] [.int (x7 + x6), .int xs1, .ref as0] (h) nc ns P) : Gd X mX11_worth 116 [some (.ref a0), none, none, some (.int x3), some (.int x4), none, some (.int x6), some (.int x7)] [.int xs1, .ref as0] h nc ns P := by
  refine g_iload dX11_worth_116 rfl ?_
  refine g_iload dX11_worth_118 rfl ?_
  refine g_iadd dX11_worth_120 ?_
  refine g_goto (tgt := 171) dX11_worth_121 (by decide) ?_
  exact Gd.wk g ⟨rfl, ⟨rfl, ⟨rfl, trivial⟩⟩⟩
theorem bkX11_worth_124 {X : GX} {h : SH} {nc ns : Nat} {P : Out → SH → Prop} {a0 : Nat} {x3 : Int32} {x4 : Int32} {x5 : Int32} {x6 : Int32} {x7 : Int32} {as0 : Nat} {xs1 : Int32} (kt : ¬ x5 = 4 → Gd X mX11_worth 138 [some (.ref a0), none, none, some (.int x3), some (.int x4), some (.int x5), some (.int x6), some (.int x7)] [.int xs1, .ref as0] (h) nc ns P) (kf : x5 = 4 → Gd X mX11_worth 130 [some (.ref a0), none, none, some (.int x3), some (.int x4), none, some (.int x6), some (.int x7)] [.int xs1, .ref as0] (h) nc ns P) : Gd X mX11_worth 124 [some (.ref a0), none, none, some (.int x3), some (.int x4), some (.int x5), some (.int x6), some (.int x7)] [.int xs1, .ref as0] h nc ns P := by
  refine g_iload dX11_worth_124 rfl ?_
  refine g_iconst (v := 4) dX11_worth_126 (by decide) ?_
  exact g_icmp_ne (tgt := 138) dX11_worth_127 (by decide) (fun q => Gd.wk (kt q) ⟨rfl, ⟨rfl, ⟨rfl, ⟨rfl, ⟨rfl, ⟨rfl, trivial⟩⟩⟩⟩⟩⟩) (fun q => Gd.wk (kf q) ⟨rfl, ⟨rfl, ⟨rfl, ⟨rfl, ⟨rfl, trivial⟩⟩⟩⟩⟩)
theorem bkX11_worth_130 {X : GX} {h : SH} {nc ns : Nat} {P : Out → SH → Prop} {a0 : Nat} {x3 : Int32} {x4 : Int32} {x6 : Int32} {x7 : Int32} {as0 : Nat} {xs1 : Int32} (g : Gd X mX11_worth 171 [some (.ref a0), none, none, some (.int x3), some (.int x4), none, none, none] [.int (x7 - x6), .int xs1, .ref as0] (h) nc ns P) : Gd X mX11_worth 130 [some (.ref a0), none, none, some (.int x3), some (.int x4), none, some (.int x6), some (.int x7)] [.int xs1, .ref as0] h nc ns P := by
  refine g_iload dX11_worth_130 rfl ?_
  refine g_iload dX11_worth_132 rfl ?_
  refine g_isub dX11_worth_134 ?_
  refine g_goto (tgt := 171) dX11_worth_135 (by decide) ?_
  exact Gd.wk g ⟨rfl, ⟨rfl, ⟨rfl, trivial⟩⟩⟩
theorem bkX11_worth_138 {X : GX} {h : SH} {nc ns : Nat} {P : Out → SH → Prop} {a0 : Nat} {x3 : Int32} {x4 : Int32} {x5 : Int32} {x6 : Int32} {x7 : Int32} {as0 : Nat} {xs1 : Int32} (kt : ¬ x5 = 5 → Gd X mX11_worth 159 [some (.ref a0), none, none, some (.int x3), some (.int x4), none, some (.int x6), some (.int x7)] [.int xs1, .ref as0] (h) nc ns P) (kf : x5 = 5 → Gd X mX11_worth 144 [some (.ref a0), none, none, some (.int x3), some (.int x4), none, some (.int x6), some (.int x7)] [.int xs1, .ref as0] (h) nc ns P) : Gd X mX11_worth 138 [some (.ref a0), none, none, some (.int x3), some (.int x4), some (.int x5), some (.int x6), some (.int x7)] [.int xs1, .ref as0] h nc ns P := by
  refine g_iload dX11_worth_138 rfl ?_
  refine g_iconst (v := 5) dX11_worth_140 (by decide) ?_
  exact g_icmp_ne (tgt := 159) dX11_worth_141 (by decide) (fun q => Gd.wk (kt q) ⟨rfl, ⟨rfl, ⟨rfl, ⟨rfl, ⟨rfl, trivial⟩⟩⟩⟩⟩) (fun q => Gd.wk (kf q) ⟨rfl, ⟨rfl, ⟨rfl, ⟨rfl, ⟨rfl, trivial⟩⟩⟩⟩⟩)
theorem bkX11_worth_144 {X : GX} {h : SH} {nc ns : Nat} {P : Out → SH → Prop} {a0 : Nat} {x3 : Int32} {x4 : Int32} {x6 : Int32} {x7 : Int32} {as0 : Nat} {xs1 : Int32} (kt : x6 ≤ x7 → Gd X mX11_worth 155 [some (.ref a0), none, none, some (.int x3), some (.int x4), none, none, none] [.int xs1, .ref as0] (h) nc ns P) (kf : ¬ x6 ≤ x7 → Gd X mX11_worth 151 [some (.ref a0), none, none, some (.int x3), some (.int x4), none, none, none] [.int xs1, .ref as0] (h) nc ns P) : Gd X mX11_worth 144 [some (.ref a0), none, none, some (.int x3), some (.int x4), none, some (.int x6), some (.int x7)] [.int xs1, .ref as0] h nc ns P := by
  refine g_iload dX11_worth_144 rfl ?_
  refine g_iload dX11_worth_146 rfl ?_
  exact g_icmp_ge (tgt := 155) dX11_worth_148 (by decide) (fun q => Gd.wk (kt q) ⟨rfl, ⟨rfl, ⟨rfl, trivial⟩⟩⟩) (fun q => Gd.wk (kf q) ⟨rfl, ⟨rfl, ⟨rfl, trivial⟩⟩⟩)
theorem bkX11_worth_151 {X : GX} {h : SH} {nc ns : Nat} {P : Out → SH → Prop} {a0 : Nat} {x3 : Int32} {x4 : Int32} {as0 : Nat} {xs1 : Int32} (g : Gd X mX11_worth 171 [some (.ref a0), none, none, some (.int x3), some (.int x4), none, none, none] [.int 1, .int xs1, .ref as0] (h) nc ns P) : Gd X mX11_worth 151 [some (.ref a0), none, none, some (.int x3), some (.int x4), none, none, none] [.int xs1, .ref as0] h nc ns P := by
  refine g_iconst (v := 1) dX11_worth_151 (by decide) ?_
  refine g_goto (tgt := 171) dX11_worth_152 (by decide) ?_
  exact Gd.wk g ⟨rfl, ⟨rfl, ⟨rfl, trivial⟩⟩⟩
theorem bkX11_worth_155 {X : GX} {h : SH} {nc ns : Nat} {P : Out → SH → Prop} {a0 : Nat} {x3 : Int32} {x4 : Int32} {as0 : Nat} {xs1 : Int32} (g : Gd X mX11_worth 171 [some (.ref a0), none, none, some (.int x3), some (.int x4), none, none, none] [.int 0, .int xs1, .ref as0] (h) nc ns P) : Gd X mX11_worth 155 [some (.ref a0), none, none, some (.int x3), some (.int x4), none, none, none] [.int xs1, .ref as0] h nc ns P := by
  refine g_iconst (v := 0) dX11_worth_155 (by decide) ?_
  refine g_goto (tgt := 171) dX11_worth_156 (by decide) ?_
  exact Gd.wk g ⟨rfl, ⟨rfl, ⟨rfl, trivial⟩⟩⟩
theorem bkX11_worth_159 {X : GX} {h : SH} {nc ns : Nat} {P : Out → SH → Prop} {a0 : Nat} {x3 : Int32} {x4 : Int32} {x6 : Int32} {x7 : Int32} {as0 : Nat} {xs1 : Int32} (kt : ¬ x7 = x6 → Gd X mX11_worth 170 [some (.ref a0), none, none, some (.int x3), some (.int x4), none, none, none] [.int xs1, .ref as0] (h) nc ns P) (kf : x7 = x6 → Gd X mX11_worth 166 [some (.ref a0), none, none, some (.int x3), some (.int x4), none, none, none] [.int xs1, .ref as0] (h) nc ns P) : Gd X mX11_worth 159 [some (.ref a0), none, none, some (.int x3), some (.int x4), none, some (.int x6), some (.int x7)] [.int xs1, .ref as0] h nc ns P := by
  refine g_iload dX11_worth_159 rfl ?_
  refine g_iload dX11_worth_161 rfl ?_
  exact g_icmp_ne (tgt := 170) dX11_worth_163 (by decide) (fun q => Gd.wk (kt q) ⟨rfl, ⟨rfl, ⟨rfl, trivial⟩⟩⟩) (fun q => Gd.wk (kf q) ⟨rfl, ⟨rfl, ⟨rfl, trivial⟩⟩⟩)
theorem bkX11_worth_166 {X : GX} {h : SH} {nc ns : Nat} {P : Out → SH → Prop} {a0 : Nat} {x3 : Int32} {x4 : Int32} {as0 : Nat} {xs1 : Int32} (g : Gd X mX11_worth 171 [some (.ref a0), none, none, some (.int x3), some (.int x4), none, none, none] [.int 1, .int xs1, .ref as0] (h) nc ns P) : Gd X mX11_worth 166 [some (.ref a0), none, none, some (.int x3), some (.int x4), none, none, none] [.int xs1, .ref as0] h nc ns P := by
  refine g_iconst (v := 1) dX11_worth_166 (by decide) ?_
  refine g_goto (tgt := 171) dX11_worth_167 (by decide) ?_
  exact Gd.wk g ⟨rfl, ⟨rfl, ⟨rfl, trivial⟩⟩⟩
theorem bkX11_worth_170 {X : GX} {h : SH} {nc ns : Nat} {P : Out → SH → Prop} {a0 : Nat} {x3 : Int32} {x4 : Int32} {as0 : Nat} {xs1 : Int32} (g : Gd X mX11_worth 171 [some (.ref a0), none, none, some (.int x3), some (.int x4), none, none, none] [.int 0, .int xs1, .ref as0] (h) nc ns P) : Gd X mX11_worth 170 [some (.ref a0), none, none, some (.int x3), some (.int x4), none, none, none] [.int xs1, .ref as0] h nc ns P := by
  refine g_iconst (v := 0) dX11_worth_170 (by decide) ?_
  exact Gd.wk g ⟨rfl, ⟨rfl, ⟨rfl, trivial⟩⟩⟩
theorem bkX11_worth_171 {X : GX} {h : SH} {nc ns : Nat} {P : Out → SH → Prop} {a0 : Nat} {x3 : Int32} {x4 : Int32} {as0 : Nat} {xs1 : Int32} {xs2 : Int32} {n6 : Nat} (B0 : Ar h (as0) 20 n6) (i1 : vp_in (xs1) n6) (g : Gd X mX11_worth 172 [some (.ref a0), none, none, some (.int x3), some (.int x4), none, none, none] [] (sI h as0 ((xs1 : Int32).toNatClampNeg) xs2) nc ns P) : Gd X mX11_worth 171 [some (.ref a0), none, none, some (.int x3), some (.int x4), none, none, none] [.int xs2, .int xs1, .ref as0] h nc ns P := by
  refine g_iastore dX11_worth_171 B0 i1 ?_
  exact Gd.wk g ⟨rfl, ⟨rfl, ⟨rfl, trivial⟩⟩⟩
theorem bkX11_worth_172 {X : GX} {h : SH} {nc ns : Nat} {P : Out → SH → Prop} {a0 : Nat} {x3 : Int32} {x4 : Int32} (g : Gd X mX11_worth 11 [some (.ref a0), none, none, some (.int (x3 + 1)), some (.int x4), none, none, none] [] (h) nc ns P) : Gd X mX11_worth 172 [some (.ref a0), none, none, some (.int x3), some (.int x4), none, none, none] [] h nc ns P := by
  refine g_iinc (v := x3 + 1) (L' := [some (.ref a0), none, none, some (.int (x3 + 1)), some (.int x4), none, none, none]) dX11_worth_172 rfl rfl (by decide) rfl ?_
  refine g_goto (tgt := 11) dX11_worth_175 (by decide) ?_
  exact Gd.wk g ⟨rfl, ⟨rfl, ⟨rfl, trivial⟩⟩⟩
theorem bkX11_worth_178 {X : GX} {h : SH} {nc ns : Nat} {P : Out → SH → Prop} {a0 : Nat} (F0 : LX11 (Sk h) (a0)) (i1 : vp_in (0) 2600) (hp : P (.inl (some (.int (hI h (a0 + 30) ((0 : Int32).toNatClampNeg))))) (h)) : Gd X mX11_worth 178 [some (.ref a0), none, none, none, none, none, none, none] [] h nc ns P := by
  refine g_aload_n dX11_worth_178 rfl ?_
  refine g_getAs (c := 11) (k := 40) (b := a0 + 30) dX11_worth_179 (by decide) (by decide) kw_1167 rfl (LX11.o (h := h) F0) (LX11.r_pile (h := h) F0) ?_
  refine g_iconst (v := 0) dX11_worth_182 (by decide) ?_
  refine g_iaload dX11_worth_183 (LX11.a_pile (h := h) F0) i1 ?_
  exact g_ireturn (st := []) dX11_worth_184 rfl rfl hp
theorem bkX11_gathers_0 {X : GX} {h : SH} {nc ns : Nat} {P : Out → SH → Prop} {a0 : Nat} {x1 : Int32} (g : Gd X mX11_gathers 2 [some (.ref a0), some (.int x1), some (.int 0), none, none] [] (h) nc ns P) : Gd X mX11_gathers 0 [some (.ref a0), some (.int x1), none, none, none] [] h nc ns P := by
  refine g_iconst (v := 0) dX11_gathers_0 (by decide) ?_
  refine g_istore_n (L' := [some (.ref a0), some (.int x1), some (.int 0), none, none]) dX11_gathers_1 (by decide) rfl ?_
  exact Gd.wk g ⟨rfl, ⟨rfl, ⟨rfl, trivial⟩⟩⟩
theorem bkX11_gathers_2 {X : GX} {h : SH} {nc ns : Nat} {P : Out → SH → Prop} {a0 : Nat} {x1 : Int32} {x2 : Int32} (kt : (12 : Int32) ≤ x2 → Gd X mX11_gathers 54 [some (.ref a0), some (.int x1), none, none, none] [] (h) nc ns P) (kf : ¬ (12 : Int32) ≤ x2 → Gd X mX11_gathers 8 [some (.ref a0), some (.int x1), some (.int x2), none, none] [] (h) nc ns P) : Gd X mX11_gathers 2 [some (.ref a0), some (.int x1), some (.int x2), none, none] [] h nc ns P := by
  refine g_iload_n dX11_gathers_2 rfl ?_
  refine g_bipush (v := 12) dX11_gathers_3 (by decide) ?_
  exact g_icmp_ge (tgt := 54) dX11_gathers_5 (by decide) (fun q => Gd.wk (kt q) ⟨rfl, ⟨rfl, trivial⟩⟩) (fun q => Gd.wk (kf q) ⟨rfl, ⟨rfl, ⟨rfl, trivial⟩⟩⟩)
theorem bkX11_gathers_8 {X : GX} {h : SH} {nc ns : Nat} {P : Out → SH → Prop} {a0 : Nat} {x1 : Int32} {x2 : Int32} (F0 : LX11 (Sk h) (a0)) (i1 : vp_in (x1) 7) (kt : (hI h (a0 + 11) ((x1 : Int32).toNatClampNeg)) ≤ x2 → Gd X mX11_gathers 46 [some (.ref a0), some (.int x1), some (.int x2), none, none] [.int x2, .ref (a0 + 31)] (h) nc ns P) (kf : ¬ (hI h (a0 + 11) ((x1 : Int32).toNatClampNeg)) ≤ x2 → Gd X mX11_gathers 23 [some (.ref a0), some (.int x1), some (.int x2), none, none] [.int x2, .ref (a0 + 31)] (h) nc ns P) : Gd X mX11_gathers 8 [some (.ref a0), some (.int x1), some (.int x2), none, none] [] h nc ns P := by
  refine g_aload_n dX11_gathers_8 rfl ?_
  refine g_getAs (c := 11) (k := 41) (b := a0 + 31) dX11_gathers_9 (by decide) (by decide) kw_1168 rfl (LX11.o (h := h) F0) (LX11.r_isIn (h := h) F0) ?_
  refine g_iload_n dX11_gathers_12 rfl ?_
  refine g_iload_n dX11_gathers_13 rfl ?_
  refine g_aload_n dX11_gathers_14 rfl ?_
  refine g_getAs (c := 11) (k := 16) (b := a0 + 11) dX11_gathers_15 (by decide) (by decide) kw_1143 rfl (LX11.o (h := h) F0) (LX11.r_clauses (h := h) F0) ?_
  refine g_iload_n dX11_gathers_18 rfl ?_
  refine g_iaload dX11_gathers_19 (LX11.a_clauses (h := h) F0) i1 ?_
  exact g_icmp_ge (tgt := 46) dX11_gathers_20 (by decide) (fun q => Gd.wk (kt q) ⟨rfl, ⟨rfl, ⟨rfl, trivial⟩⟩⟩) (fun q => Gd.wk (kf q) ⟨rfl, ⟨rfl, ⟨rfl, trivial⟩⟩⟩)
theorem bkX11_gathers_23 {X : GX} {h : SH} {nc ns : Nat} {P : Out → SH → Prop} {Q : Int32 → SH → Prop} {a0 : Nat} {x1 : Int32} {x2 : Int32} {as0 : Nat} {xs1 : Int32} (F0 : LX11 (Sk h) (a0)) (i1 : vp_in ((12 * x1) + x2) 84) (hN : Cd X mX11_worth [.ref a0, .int x1, .int (hI h (a0 + 15) (((12 * x1) + x2 : Int32).toNatClampNeg))] (h) 0 0 (oI Q nX)) (g : ∀ r t, Q r t → Gd X mX11_gathers 39 [some (.ref a0), some (.int x1), some (.int x2), none, none] [.int r, .int xs1, .ref as0] (t) nc ns P) : Gd X mX11_gathers 23 [some (.ref a0), some (.int x1), some (.int x2), none, none] [.int xs1, .ref as0] h nc ns P := by
  refine g_aload_n dX11_gathers_23 rfl ?_
  refine g_iload_n dX11_gathers_24 rfl ?_
  refine g_aload_n dX11_gathers_25 rfl ?_
  refine g_getAs (c := 11) (k := 20) (b := a0 + 15) dX11_gathers_26 (by decide) (by decide) kw_1147 rfl (LX11.o (h := h) F0) (LX11.r_whenAt (h := h) F0) ?_
  refine g_bipush (v := 12) dX11_gathers_29 (by decide) ?_
  refine g_iload_n dX11_gathers_31 rfl ?_
  refine g_imul dX11_gathers_32 ?_
  refine g_iload_n dX11_gathers_33 rfl ?_
  refine g_iadd dX11_gathers_34 ?_
  refine g_iaload dX11_gathers_35 (LX11.a_whenAt (h := h) F0) i1 ?_
  refine Gd.z ?_
  exact g_callV (k := 11) [.int x1, .int (hI h (a0 + 15) (((12 * x1) + x2 : Int32).toNatClampNeg))] dX11_gathers_36 mfX11_worth ⟨by decide, by decide⟩ kw_1479 kw_1481 kw_76 rfl (by decide) (Nat.le_of_ble_eq_true rfl) (by intro x hx; cases hx) (LX11.o (h := h) F0) (Nat.le_of_ble_eq_true rfl) hN (fun _ _ q => q.elim) (oI_go (G := fun a b => Gd X mX11_gathers 39 _ a b nc ns P) (fun r t q => Gd.wk (g r t q) ⟨rfl, ⟨rfl, ⟨rfl, trivial⟩⟩⟩))
theorem bkX11_gathers_39 {X : GX} {h : SH} {nc ns : Nat} {P : Out → SH → Prop} {a0 : Nat} {x1 : Int32} {x2 : Int32} {as0 : Nat} {xs1 : Int32} {xs2 : Int32} (kt : xs2 = 0 → Gd X mX11_gathers 46 [some (.ref a0), some (.int x1), some (.int x2), none, none] [.int xs1, .ref as0] (h) nc ns P) (kf : ¬ xs2 = 0 → Gd X mX11_gathers 42 [some (.ref a0), some (.int x1), some (.int x2), none, none] [.int xs1, .ref as0] (h) nc ns P) : Gd X mX11_gathers 39 [some (.ref a0), some (.int x1), some (.int x2), none, none] [.int xs2, .int xs1, .ref as0] h nc ns P := by
  exact g_if_eq (tgt := 46) dX11_gathers_39 (by decide) (fun q => Gd.wk (kt q) ⟨rfl, ⟨rfl, ⟨rfl, trivial⟩⟩⟩) (fun q => Gd.wk (kf q) ⟨rfl, ⟨rfl, ⟨rfl, trivial⟩⟩⟩)
theorem bkX11_gathers_42 {X : GX} {h : SH} {nc ns : Nat} {P : Out → SH → Prop} {a0 : Nat} {x1 : Int32} {x2 : Int32} {as0 : Nat} {xs1 : Int32} (g : Gd X mX11_gathers 47 [some (.ref a0), some (.int x1), some (.int x2), none, none] [.int 1, .int xs1, .ref as0] (h) nc ns P) : Gd X mX11_gathers 42 [some (.ref a0), some (.int x1), some (.int x2), none, none] [.int xs1, .ref as0] h nc ns P := by
  refine g_iconst (v := 1) dX11_gathers_42 (by decide) ?_
  refine g_goto (tgt := 47) dX11_gathers_43 (by decide) ?_
  exact Gd.wk g ⟨rfl, ⟨rfl, ⟨rfl, trivial⟩⟩⟩
theorem bkX11_gathers_46 {X : GX} {h : SH} {nc ns : Nat} {P : Out → SH → Prop} {a0 : Nat} {x1 : Int32} {x2 : Int32} {as0 : Nat} {xs1 : Int32} (g : Gd X mX11_gathers 47 [some (.ref a0), some (.int x1), some (.int x2), none, none] [.int 0, .int xs1, .ref as0] (h) nc ns P) : Gd X mX11_gathers 46 [some (.ref a0), some (.int x1), some (.int x2), none, none] [.int xs1, .ref as0] h nc ns P := by
  refine g_iconst (v := 0) dX11_gathers_46 (by decide) ?_
  exact Gd.wk g ⟨rfl, ⟨rfl, ⟨rfl, trivial⟩⟩⟩
theorem bkX11_gathers_47 {X : GX} {h : SH} {nc ns : Nat} {P : Out → SH → Prop} {a0 : Nat} {x1 : Int32} {x2 : Int32} {as0 : Nat} {xs1 : Int32} {xs2 : Int32} {n6 : Nat} (B0 : Ar h (as0) 22 n6) (i1 : vp_in (xs1) n6) (g : Gd X mX11_gathers 2 [some (.ref a0), some (.int x1), some (.int (x2 + 1)), none, none] [] (sI h as0 ((xs1 : Int32).toNatClampNeg) (vp_nar .boolean xs2)) nc ns P) : Gd X mX11_gathers 47 [some (.ref a0), some (.int x1), some (.int x2), none, none] [.int xs2, .int xs1, .ref as0] h nc ns P := by
  refine g_zastore dX11_gathers_47 B0 i1 ?_
  refine g_iinc (v := x2 + 1) (L' := [some (.ref a0), some (.int x1), some (.int (x2 + 1)), none, none]) dX11_gathers_48 rfl rfl (by decide) rfl ?_
  refine g_goto (tgt := 2) dX11_gathers_51 (by decide) ?_
  exact Gd.wk g ⟨rfl, ⟨rfl, ⟨rfl, trivial⟩⟩⟩
theorem bkX11_gathers_54 {X : GX} {h : SH} {nc ns : Nat} {P : Out → SH → Prop} {a0 : Nat} {x1 : Int32} (g : Gd X mX11_gathers 56 [some (.ref a0), some (.int x1), some (.int 1), none, none] [] (h) nc ns P) : Gd X mX11_gathers 54 [some (.ref a0), some (.int x1), none, none, none] [] h nc ns P := by
  refine g_iconst (v := 1) dX11_gathers_54 (by decide) ?_
  refine g_istore_n (L' := [some (.ref a0), some (.int x1), some (.int 1), none, none]) dX11_gathers_55 (by decide) rfl ?_
  exact Gd.wk g ⟨rfl, ⟨rfl, ⟨rfl, trivial⟩⟩⟩
theorem bkX11_gathers_56 {X : GX} {h : SH} {nc ns : Nat} {P : Out → SH → Prop} {a0 : Nat} {x1 : Int32} {x2 : Int32} (kt : x2 = 0 → Gd X mX11_gathers 175 [none, none, none, none, none] [] (h) nc ns P) (kf : ¬ x2 = 0 → Gd X mX11_gathers 60 [some (.ref a0), some (.int x1), none, none, none] [] (h) nc ns P) : Gd X mX11_gathers 56 [some (.ref a0), some (.int x1), some (.int x2), none, none] [] h nc ns P := by
  refine g_iload_n dX11_gathers_56 rfl ?_
  exact g_if_eq (tgt := 175) dX11_gathers_57 (by decide) (fun q => Gd.wk (kt q) trivial) (fun q => Gd.wk (kf q) ⟨rfl, ⟨rfl, trivial⟩⟩)
theorem bkX11_gathers_60 {X : GX} {h : SH} {nc ns : Nat} {P : Out → SH → Prop} {a0 : Nat} {x1 : Int32} (g : Gd X mX11_gathers 64 [some (.ref a0), some (.int x1), some (.int 0), some (.int 0), none] [] (h) nc ns P) : Gd X mX11_gathers 60 [some (.ref a0), some (.int x1), none, none, none] [] h nc ns P := by
  refine g_iconst (v := 0) dX11_gathers_60 (by decide) ?_
  refine g_istore_n (L' := [some (.ref a0), some (.int x1), some (.int 0), none, none]) dX11_gathers_61 (by decide) rfl ?_
  refine g_iconst (v := 0) dX11_gathers_62 (by decide) ?_
  refine g_istore_n (L' := [some (.ref a0), some (.int x1), some (.int 0), some (.int 0), none]) dX11_gathers_63 (by decide) rfl ?_
  exact Gd.wk g ⟨rfl, ⟨rfl, ⟨rfl, ⟨rfl, trivial⟩⟩⟩⟩
theorem bkX11_gathers_64 {X : GX} {h : SH} {nc ns : Nat} {P : Out → SH → Prop} {a0 : Nat} {x1 : Int32} {x2 : Int32} {x3 : Int32} (F0 : LX11 (Sk h) (a0)) (i1 : vp_in (x1) 7) (kt : (hI h (a0 + 11) ((x1 : Int32).toNatClampNeg)) ≤ x3 → Gd X mX11_gathers 172 [some (.ref a0), some (.int x1), some (.int x2), none, none] [] (h) nc ns P) (kf : ¬ (hI h (a0 + 11) ((x1 : Int32).toNatClampNeg)) ≤ x3 → Gd X mX11_gathers 74 [some (.ref a0), some (.int x1), some (.int x2), some (.int x3), none] [] (h) nc ns P) : Gd X mX11_gathers 64 [some (.ref a0), some (.int x1), some (.int x2), some (.int x3), none] [] h nc ns P := by
  refine g_iload_n dX11_gathers_64 rfl ?_
  refine g_aload_n dX11_gathers_65 rfl ?_
  refine g_getAs (c := 11) (k := 16) (b := a0 + 11) dX11_gathers_66 (by decide) (by decide) kw_1143 rfl (LX11.o (h := h) F0) (LX11.r_clauses (h := h) F0) ?_
  refine g_iload_n dX11_gathers_69 rfl ?_
  refine g_iaload dX11_gathers_70 (LX11.a_clauses (h := h) F0) i1 ?_
  exact g_icmp_ge (tgt := 172) dX11_gathers_71 (by decide) (fun q => Gd.wk (kt q) ⟨rfl, ⟨rfl, ⟨rfl, trivial⟩⟩⟩) (fun q => Gd.wk (kf q) ⟨rfl, ⟨rfl, ⟨rfl, ⟨rfl, trivial⟩⟩⟩⟩)
theorem bkX11_gathers_74 {X : GX} {h : SH} {nc ns : Nat} {P : Out → SH → Prop} {a0 : Nat} {x1 : Int32} {x2 : Int32} {x3 : Int32} (g : Gd X mX11_gathers 85 [some (.ref a0), some (.int x1), some (.int x2), some (.int x3), some (.int (8 * ((12 * x1) + x3)))] [] (h) nc ns P) : Gd X mX11_gathers 74 [some (.ref a0), some (.int x1), some (.int x2), some (.int x3), none] [] h nc ns P := by
  refine g_bipush (v := 8) dX11_gathers_74 (by decide) ?_
  refine g_bipush (v := 12) dX11_gathers_76 (by decide) ?_
  refine g_iload_n dX11_gathers_78 rfl ?_
  refine g_imul dX11_gathers_79 ?_
  refine g_iload_n dX11_gathers_80 rfl ?_
  refine g_iadd dX11_gathers_81 ?_
  refine g_imul dX11_gathers_82 ?_
  refine g_istore (L' := [some (.ref a0), some (.int x1), some (.int x2), some (.int x3), some (.int (8 * ((12 * x1) + x3)))]) dX11_gathers_83 (by decide) rfl ?_
  exact Gd.wk g ⟨rfl, ⟨rfl, ⟨rfl, ⟨rfl, ⟨rfl, trivial⟩⟩⟩⟩⟩
theorem bkX11_gathers_85 {X : GX} {h : SH} {nc ns : Nat} {P : Out → SH → Prop} {a0 : Nat} {x1 : Int32} {x2 : Int32} {x3 : Int32} {x4 : Int32} (F0 : LX11 (Sk h) (a0)) (i1 : vp_in ((12 * x1) + x3) 84) (kt : ((8 * ((12 * x1) + x3)) + (hI h (a0 + 16) (((12 * x1) + x3 : Int32).toNatClampNeg))) ≤ x4 → Gd X mX11_gathers 166 [some (.ref a0), some (.int x1), some (.int x2), some (.int x3), none] [] (h) nc ns P) (kf : ¬ ((8 * ((12 * x1) + x3)) + (hI h (a0 + 16) (((12 * x1) + x3 : Int32).toNatClampNeg))) ≤ x4 → Gd X mX11_gathers 111 [some (.ref a0), some (.int x1), some (.int x2), some (.int x3), some (.int x4)] [] (h) nc ns P) : Gd X mX11_gathers 85 [some (.ref a0), some (.int x1), some (.int x2), some (.int x3), some (.int x4)] [] h nc ns P := by
  refine g_iload dX11_gathers_85 rfl ?_
  refine g_bipush (v := 8) dX11_gathers_87 (by decide) ?_
  refine g_bipush (v := 12) dX11_gathers_89 (by decide) ?_
  refine g_iload_n dX11_gathers_91 rfl ?_
  refine g_imul dX11_gathers_92 ?_
  refine g_iload_n dX11_gathers_93 rfl ?_
  refine g_iadd dX11_gathers_94 ?_
  refine g_imul dX11_gathers_95 ?_
  refine g_aload_n dX11_gathers_96 rfl ?_
  refine g_getAs (c := 11) (k := 21) (b := a0 + 16) dX11_gathers_97 (by decide) (by decide) kw_1148 rfl (LX11.o (h := h) F0) (LX11.r_links (h := h) F0) ?_
  refine g_bipush (v := 12) dX11_gathers_100 (by decide) ?_
  refine g_iload_n dX11_gathers_102 rfl ?_
  refine g_imul dX11_gathers_103 ?_
  refine g_iload_n dX11_gathers_104 rfl ?_
  refine g_iadd dX11_gathers_105 ?_
  refine g_iaload dX11_gathers_106 (LX11.a_links (h := h) F0) i1 ?_
  refine g_iadd dX11_gathers_107 ?_
  exact g_icmp_ge (tgt := 166) dX11_gathers_108 (by decide) (fun q => Gd.wk (kt q) ⟨rfl, ⟨rfl, ⟨rfl, ⟨rfl, trivial⟩⟩⟩⟩) (fun q => Gd.wk (kf q) ⟨rfl, ⟨rfl, ⟨rfl, ⟨rfl, ⟨rfl, trivial⟩⟩⟩⟩⟩)
theorem bkX11_gathers_111 {X : GX} {h : SH} {nc ns : Nat} {P : Out → SH → Prop} {a0 : Nat} {x1 : Int32} {x2 : Int32} {x3 : Int32} {x4 : Int32} (F0 : LX11 (Sk h) (a0)) (i1 : vp_in (x3) 12) (kt : (hI h (a0 + 31) ((x3 : Int32).toNatClampNeg)) = 0 → Gd X mX11_gathers 166 [some (.ref a0), some (.int x1), some (.int x2), some (.int x3), none] [] (h) nc ns P) (kf : ¬ (hI h (a0 + 31) ((x3 : Int32).toNatClampNeg)) = 0 → Gd X mX11_gathers 120 [some (.ref a0), some (.int x1), some (.int x2), some (.int x3), some (.int x4)] [] (h) nc ns P) : Gd X mX11_gathers 111 [some (.ref a0), some (.int x1), some (.int x2), some (.int x3), some (.int x4)] [] h nc ns P := by
  refine g_aload_n dX11_gathers_111 rfl ?_
  refine g_getAs (c := 11) (k := 41) (b := a0 + 31) dX11_gathers_112 (by decide) (by decide) kw_1168 rfl (LX11.o (h := h) F0) (LX11.r_isIn (h := h) F0) ?_
  refine g_iload_n dX11_gathers_115 rfl ?_
  refine g_zaload dX11_gathers_116 (LX11.a_isIn (h := h) F0) i1 ?_
  exact g_if_eq (tgt := 166) dX11_gathers_117 (by decide) (fun q => Gd.wk (kt q) ⟨rfl, ⟨rfl, ⟨rfl, ⟨rfl, trivial⟩⟩⟩⟩) (fun q => Gd.wk (kf q) ⟨rfl, ⟨rfl, ⟨rfl, ⟨rfl, ⟨rfl, trivial⟩⟩⟩⟩⟩)
theorem bkX11_gathers_120 {X : GX} {h : SH} {nc ns : Nat} {P : Out → SH → Prop} {a0 : Nat} {x1 : Int32} {x2 : Int32} {x3 : Int32} {x4 : Int32} (F0 : LX11 (Sk h) (a0)) (i1 : vp_in (x4) 672) (kt : ¬ (hI h (a0 + 18) ((x4 : Int32).toNatClampNeg)) = 0 → Gd X mX11_gathers 160 [some (.ref a0), some (.int x1), some (.int x2), some (.int x3), some (.int x4)] [] (h) nc ns P) (kf : (hI h (a0 + 18) ((x4 : Int32).toNatClampNeg)) = 0 → Gd X mX11_gathers 130 [some (.ref a0), some (.int x1), some (.int x2), some (.int x3), some (.int x4)] [] (h) nc ns P) : Gd X mX11_gathers 120 [some (.ref a0), some (.int x1), some (.int x2), some (.int x3), some (.int x4)] [] h nc ns P := by
  refine g_aload_n dX11_gathers_120 rfl ?_
  refine g_getAs (c := 11) (k := 23) (b := a0 + 18) dX11_gathers_121 (by decide) (by decide) kw_1150 rfl (LX11.o (h := h) F0) (LX11.r_isBar (h := h) F0) ?_
  refine g_iload dX11_gathers_124 rfl ?_
  refine g_zaload dX11_gathers_126 (LX11.a_isBar (h := h) F0) i1 ?_
  exact g_if_ne (tgt := 160) dX11_gathers_127 (by decide) (fun q => Gd.wk (kt q) ⟨rfl, ⟨rfl, ⟨rfl, ⟨rfl, ⟨rfl, trivial⟩⟩⟩⟩⟩) (fun q => Gd.wk (kf q) ⟨rfl, ⟨rfl, ⟨rfl, ⟨rfl, ⟨rfl, trivial⟩⟩⟩⟩⟩)
theorem bkX11_gathers_130 {X : GX} {h : SH} {nc ns : Nat} {P : Out → SH → Prop} {a0 : Nat} {x1 : Int32} {x2 : Int32} {x3 : Int32} {x4 : Int32} (F0 : LX11 (Sk h) (a0)) (i1 : vp_in (x4) 672) (i2 : vp_in (hI h (a0 + 17) ((x4 : Int32).toNatClampNeg)) 12) (kt : ¬ (hI h (a0 + 31) ((hI h (a0 + 17) ((x4 : Int32).toNatClampNeg) : Int32).toNatClampNeg)) = 0 → Gd X mX11_gathers 160 [some (.ref a0), some (.int x1), some (.int x2), some (.int x3), some (.int x4)] [] (h) nc ns P) (kf : (hI h (a0 + 31) ((hI h (a0 + 17) ((x4 : Int32).toNatClampNeg) : Int32).toNatClampNeg)) = 0 → Gd X mX11_gathers 145 [some (.ref a0), some (.int x1), none, some (.int x3), some (.int x4)] [] (h) nc ns P) : Gd X mX11_gathers 130 [some (.ref a0), some (.int x1), some (.int x2), some (.int x3), some (.int x4)] [] h nc ns P := by
  refine g_aload_n dX11_gathers_130 rfl ?_
  refine g_getAs (c := 11) (k := 41) (b := a0 + 31) dX11_gathers_131 (by decide) (by decide) kw_1168 rfl (LX11.o (h := h) F0) (LX11.r_isIn (h := h) F0) ?_
  refine g_aload_n dX11_gathers_134 rfl ?_
  refine g_getAs (c := 11) (k := 22) (b := a0 + 17) dX11_gathers_135 (by decide) (by decide) kw_1149 rfl (LX11.o (h := h) F0) (LX11.r_linkTo (h := h) F0) ?_
  refine g_iload dX11_gathers_138 rfl ?_
  refine g_iaload dX11_gathers_140 (LX11.a_linkTo (h := h) F0) i1 ?_
  refine g_zaload dX11_gathers_141 (LX11.a_isIn (h := h) F0) i2 ?_
  exact g_if_ne (tgt := 160) dX11_gathers_142 (by decide) (fun q => Gd.wk (kt q) ⟨rfl, ⟨rfl, ⟨rfl, ⟨rfl, ⟨rfl, trivial⟩⟩⟩⟩⟩) (fun q => Gd.wk (kf q) ⟨rfl, ⟨rfl, ⟨rfl, ⟨rfl, trivial⟩⟩⟩⟩)
theorem bkX11_gathers_145 {X : GX} {h : SH} {nc ns : Nat} {P : Out → SH → Prop} {a0 : Nat} {x1 : Int32} {x3 : Int32} {x4 : Int32} (F0 : LX11 (Sk h) (a0)) (i1 : vp_in (x4) 672) (i2 : vp_in (hI h (a0 + 17) ((x4 : Int32).toNatClampNeg)) 12) (g : Gd X mX11_gathers 160 [some (.ref a0), some (.int x1), some (.int 1), some (.int x3), some (.int x4)] [] (sI h (a0 + 31) ((hI h (a0 + 17) ((x4 : Int32).toNatClampNeg) : Int32).toNatClampNeg) (vp_nar .boolean 1)) nc ns P) : Gd X mX11_gathers 145 [some (.ref a0), some (.int x1), none, some (.int x3), some (.int x4)] [] h nc ns P := by
  refine g_aload_n dX11_gathers_145 rfl ?_
  refine g_getAs (c := 11) (k := 41) (b := a0 + 31) dX11_gathers_146 (by decide) (by decide) kw_1168 rfl (LX11.o (h := h) F0) (LX11.r_isIn (h := h) F0) ?_
  refine g_aload_n dX11_gathers_149 rfl ?_
  refine g_getAs (c := 11) (k := 22) (b := a0 + 17) dX11_gathers_150 (by decide) (by decide) kw_1149 rfl (LX11.o (h := h) F0) (LX11.r_linkTo (h := h) F0) ?_
  refine g_iload dX11_gathers_153 rfl ?_
  refine g_iaload dX11_gathers_155 (LX11.a_linkTo (h := h) F0) i1 ?_
  refine g_iconst (v := 1) dX11_gathers_156 (by decide) ?_
  refine g_zastore dX11_gathers_157 (LX11.a_isIn (h := h) F0) i2 ?_
  refine g_iconst (v := 1) dX11_gathers_158 (by decide) ?_
  refine g_istore_n (L' := [some (.ref a0), some (.int x1), some (.int 1), some (.int x3), some (.int x4)]) dX11_gathers_159 (by decide) rfl ?_
  exact Gd.wk g ⟨rfl, ⟨rfl, ⟨rfl, ⟨rfl, ⟨rfl, trivial⟩⟩⟩⟩⟩
theorem bkX11_gathers_160 {X : GX} {h : SH} {nc ns : Nat} {P : Out → SH → Prop} {a0 : Nat} {x1 : Int32} {x2 : Int32} {x3 : Int32} {x4 : Int32} (g : Gd X mX11_gathers 85 [some (.ref a0), some (.int x1), some (.int x2), some (.int x3), some (.int (x4 + 1))] [] (h) nc ns P) : Gd X mX11_gathers 160 [some (.ref a0), some (.int x1), some (.int x2), some (.int x3), some (.int x4)] [] h nc ns P := by
  refine g_iinc (v := x4 + 1) (L' := [some (.ref a0), some (.int x1), some (.int x2), some (.int x3), some (.int (x4 + 1))]) dX11_gathers_160 rfl rfl (by decide) rfl ?_
  refine g_goto (tgt := 85) dX11_gathers_163 (by decide) ?_
  exact Gd.wk g ⟨rfl, ⟨rfl, ⟨rfl, ⟨rfl, ⟨rfl, trivial⟩⟩⟩⟩⟩
theorem bkX11_gathers_166 {X : GX} {h : SH} {nc ns : Nat} {P : Out → SH → Prop} {a0 : Nat} {x1 : Int32} {x2 : Int32} {x3 : Int32} (g : Gd X mX11_gathers 64 [some (.ref a0), some (.int x1), some (.int x2), some (.int (x3 + 1)), none] [] (h) nc ns P) : Gd X mX11_gathers 166 [some (.ref a0), some (.int x1), some (.int x2), some (.int x3), none] [] h nc ns P := by
  refine g_iinc (v := x3 + 1) (L' := [some (.ref a0), some (.int x1), some (.int x2), some (.int (x3 + 1)), none]) dX11_gathers_166 rfl rfl (by decide) rfl ?_
  refine g_goto (tgt := 64) dX11_gathers_169 (by decide) ?_
  exact Gd.wk g ⟨rfl, ⟨rfl, ⟨rfl, ⟨rfl, trivial⟩⟩⟩⟩
theorem bkX11_gathers_172 {X : GX} {h : SH} {nc ns : Nat} {P : Out → SH → Prop} {a0 : Nat} {x1 : Int32} {x2 : Int32} (g : Gd X mX11_gathers 56 [some (.ref a0), some (.int x1), some (.int x2), none, none] [] (h) nc ns P) : Gd X mX11_gathers 172 [some (.ref a0), some (.int x1), some (.int x2), none, none] [] h nc ns P := by
  refine g_goto (tgt := 56) dX11_gathers_172 (by decide) ?_
  exact Gd.wk g ⟨rfl, ⟨rfl, ⟨rfl, trivial⟩⟩⟩
theorem bkX11_gathers_175 {X : GX} {h : SH} {nc ns : Nat} {P : Out → SH → Prop} (hp : P (.inl (none)) (h)) : Gd X mX11_gathers 175 [none, none, none, none, none] [] h nc ns P := by
  exact g_return (st := []) dX11_gathers_175 rfl hp
theorem bkX11_quarrels_0 {X : GX} {h : SH} {nc ns : Nat} {P : Out → SH → Prop} {a0 : Nat} {x1 : Int32} (F0 : LX11 (Sk h) (a0)) (g : Gd X mX11_quarrels 19 [some (.ref a0), some (.int x1), some (.int 0), some (.int 0)] [] (sI (sI (sI h a0 44 0) a0 45 (-1)) a0 46 (-1)) nc ns P) : Gd X mX11_quarrels 0 [some (.ref a0), some (.int x1), none, none] [] h nc ns P := by
  refine g_aload_n dX11_quarrels_0 rfl ?_
  refine g_iconst (v := 0) dX11_quarrels_1 (by decide) ?_
  refine g_put (c := 11) (k := 44) (h1 := sI h a0 44 0) dX11_quarrels_2 (by decide) (by decide) kw_1171 rfl (LX11.o (h := h) F0) rfl rfl (Put.I rfl) ?_
  refine g_aload_n dX11_quarrels_5 rfl ?_
  refine g_iconst (v := (-1)) dX11_quarrels_6 (by decide) ?_
  refine g_put (c := 11) (k := 45) (h1 := sI (sI h a0 44 0) a0 45 (-1)) dX11_quarrels_7 (by decide) (by decide) kw_1172 rfl (LX11.o (h := sI h a0 44 0) F0) rfl rfl (Put.I rfl) ?_
  refine g_aload_n dX11_quarrels_10 rfl ?_
  refine g_iconst (v := (-1)) dX11_quarrels_11 (by decide) ?_
  refine g_put (c := 11) (k := 46) (h1 := sI (sI (sI h a0 44 0) a0 45 (-1)) a0 46 (-1)) dX11_quarrels_12 (by decide) (by decide) kw_1173 rfl (LX11.o (h := sI (sI h a0 44 0) a0 45 (-1)) F0) rfl rfl (Put.I rfl) ?_
  refine g_iconst (v := 0) dX11_quarrels_15 (by decide) ?_
  refine g_istore_n (L' := [some (.ref a0), some (.int x1), some (.int 0), none]) dX11_quarrels_16 (by decide) rfl ?_
  refine g_iconst (v := 0) dX11_quarrels_17 (by decide) ?_
  refine g_istore_n (L' := [some (.ref a0), some (.int x1), some (.int 0), some (.int 0)]) dX11_quarrels_18 (by decide) rfl ?_
  exact Gd.wk g ⟨rfl, ⟨rfl, ⟨rfl, ⟨rfl, trivial⟩⟩⟩⟩
theorem bkX11_quarrels_19 {X : GX} {h : SH} {nc ns : Nat} {P : Out → SH → Prop} {a0 : Nat} {x1 : Int32} {x2 : Int32} {x3 : Int32} (F0 : LX11 (Sk h) (a0)) (i1 : vp_in (x1) 7) (kt : (hI h (a0 + 11) ((x1 : Int32).toNatClampNeg)) ≤ x3 → Gd X mX11_quarrels 94 [some (.ref a0), some (.int x1), some (.int x2), none] [] (h) nc ns P) (kf : ¬ (hI h (a0 + 11) ((x1 : Int32).toNatClampNeg)) ≤ x3 → Gd X mX11_quarrels 29 [some (.ref a0), some (.int x1), some (.int x2), some (.int x3)] [] (h) nc ns P) : Gd X mX11_quarrels 19 [some (.ref a0), some (.int x1), some (.int x2), some (.int x3)] [] h nc ns P := by
  refine g_iload_n dX11_quarrels_19 rfl ?_
  refine g_aload_n dX11_quarrels_20 rfl ?_
  refine g_getAs (c := 11) (k := 16) (b := a0 + 11) dX11_quarrels_21 (by decide) (by decide) kw_1143 rfl (LX11.o (h := h) F0) (LX11.r_clauses (h := h) F0) ?_
  refine g_iload_n dX11_quarrels_24 rfl ?_
  refine g_iaload dX11_quarrels_25 (LX11.a_clauses (h := h) F0) i1 ?_
  exact g_icmp_ge (tgt := 94) dX11_quarrels_26 (by decide) (fun q => Gd.wk (kt q) ⟨rfl, ⟨rfl, ⟨rfl, trivial⟩⟩⟩) (fun q => Gd.wk (kf q) ⟨rfl, ⟨rfl, ⟨rfl, ⟨rfl, trivial⟩⟩⟩⟩)
theorem bkX11_quarrels_29 {X : GX} {h : SH} {nc ns : Nat} {P : Out → SH → Prop} {a0 : Nat} {x1 : Int32} {x2 : Int32} {x3 : Int32} (kt : ¬ x2 = 0 → Gd X mX11_quarrels 42 [some (.ref a0), some (.int x1), none, some (.int x3)] [] (h) nc ns P) (kf : x2 = 0 → Gd X mX11_quarrels 33 [some (.ref a0), some (.int x1), none, some (.int x3)] [] (h) nc ns P) : Gd X mX11_quarrels 29 [some (.ref a0), some (.int x1), some (.int x2), some (.int x3)] [] h nc ns P := by
  refine g_iload_n dX11_quarrels_29 rfl ?_
  exact g_if_ne (tgt := 42) dX11_quarrels_30 (by decide) (fun q => Gd.wk (kt q) ⟨rfl, ⟨rfl, ⟨rfl, trivial⟩⟩⟩) (fun q => Gd.wk (kf q) ⟨rfl, ⟨rfl, ⟨rfl, trivial⟩⟩⟩)
theorem bkX11_quarrels_33 {X : GX} {h : SH} {nc ns : Nat} {P : Out → SH → Prop} {a0 : Nat} {x1 : Int32} {x3 : Int32} (F0 : LX11 (Sk h) (a0)) (i1 : vp_in (x3) 12) (kt : (hI h (a0 + 31) ((x3 : Int32).toNatClampNeg)) = 0 → Gd X mX11_quarrels 46 [some (.ref a0), some (.int x1), none, some (.int x3)] [] (h) nc ns P) (kf : ¬ (hI h (a0 + 31) ((x3 : Int32).toNatClampNeg)) = 0 → Gd X mX11_quarrels 42 [some (.ref a0), some (.int x1), none, some (.int x3)] [] (h) nc ns P) : Gd X mX11_quarrels 33 [some (.ref a0), some (.int x1), none, some (.int x3)] [] h nc ns P := by
  refine g_aload_n dX11_quarrels_33 rfl ?_
  refine g_getAs (c := 11) (k := 41) (b := a0 + 31) dX11_quarrels_34 (by decide) (by decide) kw_1168 rfl (LX11.o (h := h) F0) (LX11.r_isIn (h := h) F0) ?_
  refine g_iload_n dX11_quarrels_37 rfl ?_
  refine g_zaload dX11_quarrels_38 (LX11.a_isIn (h := h) F0) i1 ?_
  exact g_if_eq (tgt := 46) dX11_quarrels_39 (by decide) (fun q => Gd.wk (kt q) ⟨rfl, ⟨rfl, ⟨rfl, trivial⟩⟩⟩) (fun q => Gd.wk (kf q) ⟨rfl, ⟨rfl, ⟨rfl, trivial⟩⟩⟩)
theorem bkX11_quarrels_42 {X : GX} {h : SH} {nc ns : Nat} {P : Out → SH → Prop} {a0 : Nat} {x1 : Int32} {x3 : Int32} (g : Gd X mX11_quarrels 47 [some (.ref a0), some (.int x1), none, some (.int x3)] [.int 1] (h) nc ns P) : Gd X mX11_quarrels 42 [some (.ref a0), some (.int x1), none, some (.int x3)] [] h nc ns P := by
  refine g_iconst (v := 1) dX11_quarrels_42 (by decide) ?_
  refine g_goto (tgt := 47) dX11_quarrels_43 (by decide) ?_
  exact Gd.wk g ⟨rfl, ⟨rfl, ⟨rfl, trivial⟩⟩⟩
theorem bkX11_quarrels_46 {X : GX} {h : SH} {nc ns : Nat} {P : Out → SH → Prop} {a0 : Nat} {x1 : Int32} {x3 : Int32} (g : Gd X mX11_quarrels 47 [some (.ref a0), some (.int x1), none, some (.int x3)] [.int 0] (h) nc ns P) : Gd X mX11_quarrels 46 [some (.ref a0), some (.int x1), none, some (.int x3)] [] h nc ns P := by
  refine g_iconst (v := 0) dX11_quarrels_46 (by decide) ?_
  exact Gd.wk g ⟨rfl, ⟨rfl, ⟨rfl, trivial⟩⟩⟩
theorem bkX11_quarrels_47 {X : GX} {h : SH} {nc ns : Nat} {P : Out → SH → Prop} {a0 : Nat} {x1 : Int32} {x3 : Int32} {xs0 : Int32} (F0 : LX11 (Sk h) (a0)) (kt : ¬ hI h a0 44 = 0 → Gd X mX11_quarrels 88 [some (.ref a0), some (.int x1), some (.int xs0), some (.int x3)] [] (h) nc ns P) (kf : hI h a0 44 = 0 → Gd X mX11_quarrels 55 [some (.ref a0), some (.int x1), some (.int xs0), some (.int x3)] [] (h) nc ns P) : Gd X mX11_quarrels 47 [some (.ref a0), some (.int x1), none, some (.int x3)] [.int xs0] h nc ns P := by
  refine g_istore_n (L' := [some (.ref a0), some (.int x1), some (.int xs0), some (.int x3)]) dX11_quarrels_47 (by decide) rfl ?_
  refine g_aload_n dX11_quarrels_48 rfl ?_
  refine g_getI (c := 11) (k := 44) dX11_quarrels_49 (by decide) (by decide) kw_1171 rfl (LX11.o (h := h) F0) ?_
  exact g_if_ne (tgt := 88) dX11_quarrels_52 (by decide) (fun q => Gd.wk (kt q) ⟨rfl, ⟨rfl, ⟨rfl, ⟨rfl, trivial⟩⟩⟩⟩) (fun q => Gd.wk (kf q) ⟨rfl, ⟨rfl, ⟨rfl, ⟨rfl, trivial⟩⟩⟩⟩)
theorem bkX11_quarrels_55 {X : GX} {h : SH} {nc ns : Nat} {P : Out → SH → Prop} {a0 : Nat} {x1 : Int32} {x2 : Int32} {x3 : Int32} (F0 : LX11 (Sk h) (a0)) (i1 : vp_in ((12 * x1) + x3) 84) (kt : (hI h (a0 + 14) (((12 * x1) + x3 : Int32).toNatClampNeg)) = 0 → Gd X mX11_quarrels 88 [some (.ref a0), some (.int x1), some (.int x2), some (.int x3)] [] (h) nc ns P) (kf : ¬ (hI h (a0 + 14) (((12 * x1) + x3 : Int32).toNatClampNeg)) = 0 → Gd X mX11_quarrels 69 [some (.ref a0), some (.int x1), some (.int x2), some (.int x3)] [] (h) nc ns P) : Gd X mX11_quarrels 55 [some (.ref a0), some (.int x1), some (.int x2), some (.int x3)] [] h nc ns P := by
  refine g_aload_n dX11_quarrels_55 rfl ?_
  refine g_getAs (c := 11) (k := 19) (b := a0 + 14) dX11_quarrels_56 (by decide) (by decide) kw_1146 rfl (LX11.o (h := h) F0) (LX11.r_isMust (h := h) F0) ?_
  refine g_bipush (v := 12) dX11_quarrels_59 (by decide) ?_
  refine g_iload_n dX11_quarrels_61 rfl ?_
  refine g_imul dX11_quarrels_62 ?_
  refine g_iload_n dX11_quarrels_63 rfl ?_
  refine g_iadd dX11_quarrels_64 ?_
  refine g_zaload dX11_quarrels_65 (LX11.a_isMust (h := h) F0) i1 ?_
  exact g_if_eq (tgt := 88) dX11_quarrels_66 (by decide) (fun q => Gd.wk (kt q) ⟨rfl, ⟨rfl, ⟨rfl, ⟨rfl, trivial⟩⟩⟩⟩) (fun q => Gd.wk (kf q) ⟨rfl, ⟨rfl, ⟨rfl, ⟨rfl, trivial⟩⟩⟩⟩)
theorem bkX11_quarrels_69 {X : GX} {h : SH} {nc ns : Nat} {P : Out → SH → Prop} {a0 : Nat} {x1 : Int32} {x2 : Int32} {x3 : Int32} (F0 : LX11 (Sk h) (a0)) (i1 : vp_in (x3) 12) (kt : ¬ (hI h (a0 + 31) ((x3 : Int32).toNatClampNeg)) = 0 → Gd X mX11_quarrels 88 [some (.ref a0), some (.int x1), some (.int x2), some (.int x3)] [] (h) nc ns P) (kf : (hI h (a0 + 31) ((x3 : Int32).toNatClampNeg)) = 0 → Gd X mX11_quarrels 78 [some (.ref a0), some (.int x1), some (.int x2), some (.int x3)] [] (h) nc ns P) : Gd X mX11_quarrels 69 [some (.ref a0), some (.int x1), some (.int x2), some (.int x3)] [] h nc ns P := by
  refine g_aload_n dX11_quarrels_69 rfl ?_
  refine g_getAs (c := 11) (k := 41) (b := a0 + 31) dX11_quarrels_70 (by decide) (by decide) kw_1168 rfl (LX11.o (h := h) F0) (LX11.r_isIn (h := h) F0) ?_
  refine g_iload_n dX11_quarrels_73 rfl ?_
  refine g_zaload dX11_quarrels_74 (LX11.a_isIn (h := h) F0) i1 ?_
  exact g_if_ne (tgt := 88) dX11_quarrels_75 (by decide) (fun q => Gd.wk (kt q) ⟨rfl, ⟨rfl, ⟨rfl, ⟨rfl, trivial⟩⟩⟩⟩) (fun q => Gd.wk (kf q) ⟨rfl, ⟨rfl, ⟨rfl, ⟨rfl, trivial⟩⟩⟩⟩)
theorem bkX11_quarrels_78 {X : GX} {h : SH} {nc ns : Nat} {P : Out → SH → Prop} {a0 : Nat} {x1 : Int32} {x2 : Int32} {x3 : Int32} (F0 : LX11 (Sk h) (a0)) (g : Gd X mX11_quarrels 88 [some (.ref a0), some (.int x1), some (.int x2), some (.int x3)] [] (sI (sI h a0 44 1) a0 45 x3) nc ns P) : Gd X mX11_quarrels 78 [some (.ref a0), some (.int x1), some (.int x2), some (.int x3)] [] h nc ns P := by
  refine g_aload_n dX11_quarrels_78 rfl ?_
  refine g_iconst (v := 1) dX11_quarrels_79 (by decide) ?_
  refine g_put (c := 11) (k := 44) (h1 := sI h a0 44 1) dX11_quarrels_80 (by decide) (by decide) kw_1171 rfl (LX11.o (h := h) F0) rfl rfl (Put.I rfl) ?_
  refine g_aload_n dX11_quarrels_83 rfl ?_
  refine g_iload_n dX11_quarrels_84 rfl ?_
  refine g_put (c := 11) (k := 45) (h1 := sI (sI h a0 44 1) a0 45 x3) dX11_quarrels_85 (by decide) (by decide) kw_1172 rfl (LX11.o (h := sI h a0 44 1) F0) rfl rfl (Put.I rfl) ?_
  exact Gd.wk g ⟨rfl, ⟨rfl, ⟨rfl, ⟨rfl, trivial⟩⟩⟩⟩
theorem bkX11_quarrels_88 {X : GX} {h : SH} {nc ns : Nat} {P : Out → SH → Prop} {a0 : Nat} {x1 : Int32} {x2 : Int32} {x3 : Int32} (g : Gd X mX11_quarrels 19 [some (.ref a0), some (.int x1), some (.int x2), some (.int (x3 + 1))] [] (h) nc ns P) : Gd X mX11_quarrels 88 [some (.ref a0), some (.int x1), some (.int x2), some (.int x3)] [] h nc ns P := by
  refine g_iinc (v := x3 + 1) (L' := [some (.ref a0), some (.int x1), some (.int x2), some (.int (x3 + 1))]) dX11_quarrels_88 rfl rfl (by decide) rfl ?_
  refine g_goto (tgt := 19) dX11_quarrels_91 (by decide) ?_
  exact Gd.wk g ⟨rfl, ⟨rfl, ⟨rfl, ⟨rfl, trivial⟩⟩⟩⟩
theorem bkX11_quarrels_94 {X : GX} {h : SH} {nc ns : Nat} {P : Out → SH → Prop} {a0 : Nat} {x1 : Int32} {x2 : Int32} (g : Gd X mX11_quarrels 96 [some (.ref a0), some (.int x1), some (.int x2), some (.int 0)] [] (h) nc ns P) : Gd X mX11_quarrels 94 [some (.ref a0), some (.int x1), some (.int x2), none] [] h nc ns P := by
  refine g_iconst (v := 0) dX11_quarrels_94 (by decide) ?_
  refine g_istore_n (L' := [some (.ref a0), some (.int x1), some (.int x2), some (.int 0)]) dX11_quarrels_95 (by decide) rfl ?_
  exact Gd.wk g ⟨rfl, ⟨rfl, ⟨rfl, ⟨rfl, trivial⟩⟩⟩⟩
theorem bkX11_quarrels_96 {X : GX} {h : SH} {nc ns : Nat} {P : Out → SH → Prop} {a0 : Nat} {x1 : Int32} {x2 : Int32} {x3 : Int32} (F0 : LX11 (Sk h) (a0)) (i1 : vp_in (x1) 7) (kt : (hI h (a0 + 11) ((x1 : Int32).toNatClampNeg)) ≤ x3 → Gd X mX11_quarrels 125 [some (.ref a0), some (.int x1), some (.int x2), none] [] (h) nc ns P) (kf : ¬ (hI h (a0 + 11) ((x1 : Int32).toNatClampNeg)) ≤ x3 → Gd X mX11_quarrels 106 [some (.ref a0), some (.int x1), some (.int x2), some (.int x3)] [] (h) nc ns P) : Gd X mX11_quarrels 96 [some (.ref a0), some (.int x1), some (.int x2), some (.int x3)] [] h nc ns P := by
  refine g_iload_n dX11_quarrels_96 rfl ?_
  refine g_aload_n dX11_quarrels_97 rfl ?_
  refine g_getAs (c := 11) (k := 16) (b := a0 + 11) dX11_quarrels_98 (by decide) (by decide) kw_1143 rfl (LX11.o (h := h) F0) (LX11.r_clauses (h := h) F0) ?_
  refine g_iload_n dX11_quarrels_101 rfl ?_
  refine g_iaload dX11_quarrels_102 (LX11.a_clauses (h := h) F0) i1 ?_
  exact g_icmp_ge (tgt := 125) dX11_quarrels_103 (by decide) (fun q => Gd.wk (kt q) ⟨rfl, ⟨rfl, ⟨rfl, trivial⟩⟩⟩) (fun q => Gd.wk (kf q) ⟨rfl, ⟨rfl, ⟨rfl, ⟨rfl, trivial⟩⟩⟩⟩)
theorem bkX11_quarrels_106 {X : GX} {h : SH} {nc ns : Nat} {P : Out → SH → Prop} {a0 : Nat} {x1 : Int32} {x2 : Int32} {x3 : Int32} (F0 : LX11 (Sk h) (a0)) (kt : ¬ hI h a0 44 = 0 → Gd X mX11_quarrels 125 [some (.ref a0), some (.int x1), some (.int x2), none] [] (h) nc ns P) (kf : hI h a0 44 = 0 → Gd X mX11_quarrels 113 [some (.ref a0), some (.int x1), some (.int x2), some (.int x3)] [] (h) nc ns P) : Gd X mX11_quarrels 106 [some (.ref a0), some (.int x1), some (.int x2), some (.int x3)] [] h nc ns P := by
  refine g_aload_n dX11_quarrels_106 rfl ?_
  refine g_getI (c := 11) (k := 44) dX11_quarrels_107 (by decide) (by decide) kw_1171 rfl (LX11.o (h := h) F0) ?_
  exact g_if_ne (tgt := 125) dX11_quarrels_110 (by decide) (fun q => Gd.wk (kt q) ⟨rfl, ⟨rfl, ⟨rfl, trivial⟩⟩⟩) (fun q => Gd.wk (kf q) ⟨rfl, ⟨rfl, ⟨rfl, ⟨rfl, trivial⟩⟩⟩⟩)
theorem bkX11_quarrels_113 {X : GX} {h : SH} {nc ns : Nat} {P : Out → SH → Prop} {Q : SH → Prop} {a0 : Nat} {x1 : Int32} {x2 : Int32} {x3 : Int32} (F0 : LX11 (Sk h) (a0)) (hN : Cd X mX11_barsOf [.ref a0, .int x1, .int x3] (h) 0 0 (oV Q nX)) (g : ∀ t, Q t → Gd X mX11_quarrels 119 [some (.ref a0), some (.int x1), some (.int x2), some (.int x3)] [] (t) nc ns P) : Gd X mX11_quarrels 113 [some (.ref a0), some (.int x1), some (.int x2), some (.int x3)] [] h nc ns P := by
  refine g_aload_n dX11_quarrels_113 rfl ?_
  refine g_iload_n dX11_quarrels_114 rfl ?_
  refine g_iload_n dX11_quarrels_115 rfl ?_
  refine Gd.z ?_
  exact g_callV (k := 11) [.int x1, .int x3] dX11_quarrels_116 mfX11_barsOf ⟨by decide, by decide⟩ kw_1487 kw_1489 kw_78 rfl (by decide) (Nat.le_of_ble_eq_true rfl) (by intro x hx; cases hx) (LX11.o (h := h) F0) (Nat.le_of_ble_eq_true rfl) hN (fun _ _ q => q.elim) (oV_go (G := fun a b => Gd X mX11_quarrels 119 _ a b nc ns P) (fun t q => Gd.wk (g t q) ⟨rfl, ⟨rfl, ⟨rfl, ⟨rfl, trivial⟩⟩⟩⟩))
theorem bkX11_quarrels_119 {X : GX} {h : SH} {nc ns : Nat} {P : Out → SH → Prop} {a0 : Nat} {x1 : Int32} {x2 : Int32} {x3 : Int32} (g : Gd X mX11_quarrels 96 [some (.ref a0), some (.int x1), some (.int x2), some (.int (x3 + 1))] [] (h) nc ns P) : Gd X mX11_quarrels 119 [some (.ref a0), some (.int x1), some (.int x2), some (.int x3)] [] h nc ns P := by
  refine g_iinc (v := x3 + 1) (L' := [some (.ref a0), some (.int x1), some (.int x2), some (.int (x3 + 1))]) dX11_quarrels_119 rfl rfl (by decide) rfl ?_
  refine g_goto (tgt := 96) dX11_quarrels_122 (by decide) ?_
  exact Gd.wk g ⟨rfl, ⟨rfl, ⟨rfl, ⟨rfl, trivial⟩⟩⟩⟩
theorem bkX11_quarrels_125 {X : GX} {h : SH} {nc ns : Nat} {P : Out → SH → Prop} {a0 : Nat} {x1 : Int32} {x2 : Int32} (g : Gd X mX11_quarrels 127 [some (.ref a0), some (.int x1), some (.int x2), some (.int 0)] [] (h) nc ns P) : Gd X mX11_quarrels 125 [some (.ref a0), some (.int x1), some (.int x2), none] [] h nc ns P := by
  refine g_iconst (v := 0) dX11_quarrels_125 (by decide) ?_
  refine g_istore_n (L' := [some (.ref a0), some (.int x1), some (.int x2), some (.int 0)]) dX11_quarrels_126 (by decide) rfl ?_
  exact Gd.wk g ⟨rfl, ⟨rfl, ⟨rfl, ⟨rfl, trivial⟩⟩⟩⟩
theorem bkX11_quarrels_127 {X : GX} {h : SH} {nc ns : Nat} {P : Out → SH → Prop} {a0 : Nat} {x1 : Int32} {x2 : Int32} {x3 : Int32} (F0 : LX11 (Sk h) (a0)) (i1 : vp_in (x1) 7) (kt : (hI h (a0 + 11) ((x1 : Int32).toNatClampNeg)) ≤ x3 → Gd X mX11_quarrels 156 [some (.ref a0), none, some (.int x2), none] [] (h) nc ns P) (kf : ¬ (hI h (a0 + 11) ((x1 : Int32).toNatClampNeg)) ≤ x3 → Gd X mX11_quarrels 137 [some (.ref a0), some (.int x1), some (.int x2), some (.int x3)] [] (h) nc ns P) : Gd X mX11_quarrels 127 [some (.ref a0), some (.int x1), some (.int x2), some (.int x3)] [] h nc ns P := by
  refine g_iload_n dX11_quarrels_127 rfl ?_
  refine g_aload_n dX11_quarrels_128 rfl ?_
  refine g_getAs (c := 11) (k := 16) (b := a0 + 11) dX11_quarrels_129 (by decide) (by decide) kw_1143 rfl (LX11.o (h := h) F0) (LX11.r_clauses (h := h) F0) ?_
  refine g_iload_n dX11_quarrels_132 rfl ?_
  refine g_iaload dX11_quarrels_133 (LX11.a_clauses (h := h) F0) i1 ?_
  exact g_icmp_ge (tgt := 156) dX11_quarrels_134 (by decide) (fun q => Gd.wk (kt q) ⟨rfl, ⟨rfl, trivial⟩⟩) (fun q => Gd.wk (kf q) ⟨rfl, ⟨rfl, ⟨rfl, ⟨rfl, trivial⟩⟩⟩⟩)
theorem bkX11_quarrels_137 {X : GX} {h : SH} {nc ns : Nat} {P : Out → SH → Prop} {a0 : Nat} {x1 : Int32} {x2 : Int32} {x3 : Int32} (F0 : LX11 (Sk h) (a0)) (kt : ¬ hI h a0 44 = 0 → Gd X mX11_quarrels 156 [some (.ref a0), none, some (.int x2), none] [] (h) nc ns P) (kf : hI h a0 44 = 0 → Gd X mX11_quarrels 144 [some (.ref a0), some (.int x1), some (.int x2), some (.int x3)] [] (h) nc ns P) : Gd X mX11_quarrels 137 [some (.ref a0), some (.int x1), some (.int x2), some (.int x3)] [] h nc ns P := by
  refine g_aload_n dX11_quarrels_137 rfl ?_
  refine g_getI (c := 11) (k := 44) dX11_quarrels_138 (by decide) (by decide) kw_1171 rfl (LX11.o (h := h) F0) ?_
  exact g_if_ne (tgt := 156) dX11_quarrels_141 (by decide) (fun q => Gd.wk (kt q) ⟨rfl, ⟨rfl, trivial⟩⟩) (fun q => Gd.wk (kf q) ⟨rfl, ⟨rfl, ⟨rfl, ⟨rfl, trivial⟩⟩⟩⟩)
theorem bkX11_quarrels_144 {X : GX} {h : SH} {nc ns : Nat} {P : Out → SH → Prop} {Q : SH → Prop} {a0 : Nat} {x1 : Int32} {x2 : Int32} {x3 : Int32} (F0 : LX11 (Sk h) (a0)) (hN : Cd X mX11_refsOf [.ref a0, .int x1, .int x3] (h) 0 0 (oV Q nX)) (g : ∀ t, Q t → Gd X mX11_quarrels 150 [some (.ref a0), some (.int x1), some (.int x2), some (.int x3)] [] (t) nc ns P) : Gd X mX11_quarrels 144 [some (.ref a0), some (.int x1), some (.int x2), some (.int x3)] [] h nc ns P := by
  refine g_aload_n dX11_quarrels_144 rfl ?_
  refine g_iload_n dX11_quarrels_145 rfl ?_
  refine g_iload_n dX11_quarrels_146 rfl ?_
  refine Gd.z ?_
  exact g_callV (k := 11) [.int x1, .int x3] dX11_quarrels_147 mfX11_refsOf ⟨by decide, by decide⟩ kw_1491 kw_1493 kw_79 rfl (by decide) (Nat.le_of_ble_eq_true rfl) (by intro x hx; cases hx) (LX11.o (h := h) F0) (Nat.le_of_ble_eq_true rfl) hN (fun _ _ q => q.elim) (oV_go (G := fun a b => Gd X mX11_quarrels 150 _ a b nc ns P) (fun t q => Gd.wk (g t q) ⟨rfl, ⟨rfl, ⟨rfl, ⟨rfl, trivial⟩⟩⟩⟩))
theorem bkX11_quarrels_150 {X : GX} {h : SH} {nc ns : Nat} {P : Out → SH → Prop} {a0 : Nat} {x1 : Int32} {x2 : Int32} {x3 : Int32} (g : Gd X mX11_quarrels 127 [some (.ref a0), some (.int x1), some (.int x2), some (.int (x3 + 1))] [] (h) nc ns P) : Gd X mX11_quarrels 150 [some (.ref a0), some (.int x1), some (.int x2), some (.int x3)] [] h nc ns P := by
  refine g_iinc (v := x3 + 1) (L' := [some (.ref a0), some (.int x1), some (.int x2), some (.int (x3 + 1))]) dX11_quarrels_150 rfl rfl (by decide) rfl ?_
  refine g_goto (tgt := 127) dX11_quarrels_153 (by decide) ?_
  exact Gd.wk g ⟨rfl, ⟨rfl, ⟨rfl, ⟨rfl, trivial⟩⟩⟩⟩
theorem bkX11_quarrels_156 {X : GX} {h : SH} {nc ns : Nat} {P : Out → SH → Prop} {a0 : Nat} {x2 : Int32} (F0 : LX11 (Sk h) (a0)) (kt : ¬ hI h a0 44 = 0 → Gd X mX11_quarrels 172 [some (.ref a0), none, none, none] [.ref a0] (h) nc ns P) (kf : hI h a0 44 = 0 → Gd X mX11_quarrels 164 [some (.ref a0), none, some (.int x2), none] [.ref a0] (h) nc ns P) : Gd X mX11_quarrels 156 [some (.ref a0), none, some (.int x2), none] [] h nc ns P := by
  refine g_aload_n dX11_quarrels_156 rfl ?_
  refine g_aload_n dX11_quarrels_157 rfl ?_
  refine g_getI (c := 11) (k := 44) dX11_quarrels_158 (by decide) (by decide) kw_1171 rfl (LX11.o (h := h) F0) ?_
  exact g_if_ne (tgt := 172) dX11_quarrels_161 (by decide) (fun q => Gd.wk (kt q) ⟨rfl, trivial⟩) (fun q => Gd.wk (kf q) ⟨rfl, ⟨rfl, trivial⟩⟩)
theorem bkX11_quarrels_164 {X : GX} {h : SH} {nc ns : Nat} {P : Out → SH → Prop} {a0 : Nat} {x2 : Int32} {as0 : Nat} (kt : ¬ x2 = 0 → Gd X mX11_quarrels 172 [some (.ref a0), none, none, none] [.ref as0] (h) nc ns P) (kf : x2 = 0 → Gd X mX11_quarrels 168 [none, none, none, none] [.ref as0] (h) nc ns P) : Gd X mX11_quarrels 164 [some (.ref a0), none, some (.int x2), none] [.ref as0] h nc ns P := by
  refine g_iload_n dX11_quarrels_164 rfl ?_
  exact g_if_ne (tgt := 172) dX11_quarrels_165 (by decide) (fun q => Gd.wk (kt q) ⟨rfl, trivial⟩) (fun q => Gd.wk (kf q) trivial)
theorem bkX11_quarrels_168 {X : GX} {h : SH} {nc ns : Nat} {P : Out → SH → Prop} {as0 : Nat} (g : Gd X mX11_quarrels 176 [none, none, none, none] [.int 4, .ref as0] (h) nc ns P) : Gd X mX11_quarrels 168 [none, none, none, none] [.ref as0] h nc ns P := by
  refine g_iconst (v := 4) dX11_quarrels_168 (by decide) ?_
  refine g_goto (tgt := 176) dX11_quarrels_169 (by decide) ?_
  exact Gd.wk g trivial
theorem bkX11_quarrels_172 {X : GX} {h : SH} {nc ns : Nat} {P : Out → SH → Prop} {a0 : Nat} {as0 : Nat} (F0 : LX11 (Sk h) (a0)) (g : Gd X mX11_quarrels 176 [none, none, none, none] [.int (hI h a0 44), .ref as0] (h) nc ns P) : Gd X mX11_quarrels 172 [some (.ref a0), none, none, none] [.ref as0] h nc ns P := by
  refine g_aload_n dX11_quarrels_172 rfl ?_
  refine g_getI (c := 11) (k := 44) dX11_quarrels_173 (by decide) (by decide) kw_1171 rfl (LX11.o (h := h) F0) ?_
  exact Gd.wk g trivial
theorem bkX11_quarrels_176 {X : GX} {h : SH} {nc ns : Nat} {P : Out → SH → Prop} {as0 : Nat} {xs1 : Int32} (F0 : LX11 (Sk h) (as0)) (hp : P (.inl (none)) (sI h as0 44 xs1)) : Gd X mX11_quarrels 176 [none, none, none, none] [.int xs1, .ref as0] h nc ns P := by
  refine g_put (c := 11) (k := 44) (h1 := sI h as0 44 xs1) dX11_quarrels_176 (by decide) (by decide) kw_1171 rfl (LX11.o (h := h) F0) rfl rfl (Put.I rfl) ?_
  exact g_return (st := []) dX11_quarrels_179 rfl hp
theorem bkX11_barsOf_0 {X : GX} {h : SH} {nc ns : Nat} {P : Out → SH → Prop} {a0 : Nat} {x1 : Int32} {x2 : Int32} (g : Gd X mX11_barsOf 13 [some (.ref a0), none, some (.int x2), some (.int ((12 * x1) + x2)), some (.int (8 * ((12 * x1) + x2)))] [] (h) nc ns P) : Gd X mX11_barsOf 0 [some (.ref a0), some (.int x1), some (.int x2), none, none] [] h nc ns P := by
  refine g_bipush (v := 12) dX11_barsOf_0 (by decide) ?_
  refine g_iload_n dX11_barsOf_2 rfl ?_
  refine g_imul dX11_barsOf_3 ?_
  refine g_iload_n dX11_barsOf_4 rfl ?_
  refine g_iadd dX11_barsOf_5 ?_
  refine g_istore_n (L' := [some (.ref a0), some (.int x1), some (.int x2), some (.int ((12 * x1) + x2)), none]) dX11_barsOf_6 (by decide) rfl ?_
  refine g_bipush (v := 8) dX11_barsOf_7 (by decide) ?_
  refine g_iload_n dX11_barsOf_9 rfl ?_
  refine g_imul dX11_barsOf_10 ?_
  refine g_istore (L' := [some (.ref a0), some (.int x1), some (.int x2), some (.int ((12 * x1) + x2)), some (.int (8 * ((12 * x1) + x2)))]) dX11_barsOf_11 (by decide) rfl ?_
  exact Gd.wk g ⟨rfl, ⟨rfl, ⟨rfl, ⟨rfl, trivial⟩⟩⟩⟩
theorem bkX11_barsOf_13 {X : GX} {h : SH} {nc ns : Nat} {P : Out → SH → Prop} {a0 : Nat} {x2 : Int32} {x3 : Int32} {x4 : Int32} (F0 : LX11 (Sk h) (a0)) (i1 : vp_in (x3) 84) (kt : ((8 * x3) + (hI h (a0 + 16) ((x3 : Int32).toNatClampNeg))) ≤ x4 → Gd X mX11_barsOf 108 [none, none, none, none, none] [] (h) nc ns P) (kf : ¬ ((8 * x3) + (hI h (a0 + 16) ((x3 : Int32).toNatClampNeg))) ≤ x4 → Gd X mX11_barsOf 29 [some (.ref a0), none, some (.int x2), some (.int x3), some (.int x4)] [] (h) nc ns P) : Gd X mX11_barsOf 13 [some (.ref a0), none, some (.int x2), some (.int x3), some (.int x4)] [] h nc ns P := by
  refine g_iload dX11_barsOf_13 rfl ?_
  refine g_bipush (v := 8) dX11_barsOf_15 (by decide) ?_
  refine g_iload_n dX11_barsOf_17 rfl ?_
  refine g_imul dX11_barsOf_18 ?_
  refine g_aload_n dX11_barsOf_19 rfl ?_
  refine g_getAs (c := 11) (k := 21) (b := a0 + 16) dX11_barsOf_20 (by decide) (by decide) kw_1148 rfl (LX11.o (h := h) F0) (LX11.r_links (h := h) F0) ?_
  refine g_iload_n dX11_barsOf_23 rfl ?_
  refine g_iaload dX11_barsOf_24 (LX11.a_links (h := h) F0) i1 ?_
  refine g_iadd dX11_barsOf_25 ?_
  exact g_icmp_ge (tgt := 108) dX11_barsOf_26 (by decide) (fun q => Gd.wk (kt q) trivial) (fun q => Gd.wk (kf q) ⟨rfl, ⟨rfl, ⟨rfl, ⟨rfl, trivial⟩⟩⟩⟩)
theorem bkX11_barsOf_29 {X : GX} {h : SH} {nc ns : Nat} {P : Out → SH → Prop} {a0 : Nat} {x2 : Int32} {x3 : Int32} {x4 : Int32} (F0 : LX11 (Sk h) (a0)) (i1 : vp_in (x2) 12) (kt : (hI h (a0 + 31) ((x2 : Int32).toNatClampNeg)) = 0 → Gd X mX11_barsOf 108 [none, none, none, none, none] [] (h) nc ns P) (kf : ¬ (hI h (a0 + 31) ((x2 : Int32).toNatClampNeg)) = 0 → Gd X mX11_barsOf 38 [some (.ref a0), none, some (.int x2), some (.int x3), some (.int x4)] [] (h) nc ns P) : Gd X mX11_barsOf 29 [some (.ref a0), none, some (.int x2), some (.int x3), some (.int x4)] [] h nc ns P := by
  refine g_aload_n dX11_barsOf_29 rfl ?_
  refine g_getAs (c := 11) (k := 41) (b := a0 + 31) dX11_barsOf_30 (by decide) (by decide) kw_1168 rfl (LX11.o (h := h) F0) (LX11.r_isIn (h := h) F0) ?_
  refine g_iload_n dX11_barsOf_33 rfl ?_
  refine g_zaload dX11_barsOf_34 (LX11.a_isIn (h := h) F0) i1 ?_
  exact g_if_eq (tgt := 108) dX11_barsOf_35 (by decide) (fun q => Gd.wk (kt q) trivial) (fun q => Gd.wk (kf q) ⟨rfl, ⟨rfl, ⟨rfl, ⟨rfl, trivial⟩⟩⟩⟩)
theorem bkX11_barsOf_38 {X : GX} {h : SH} {nc ns : Nat} {P : Out → SH → Prop} {a0 : Nat} {x2 : Int32} {x3 : Int32} {x4 : Int32} (F0 : LX11 (Sk h) (a0)) (kt : ¬ hI h a0 44 = 0 → Gd X mX11_barsOf 108 [none, none, none, none, none] [] (h) nc ns P) (kf : hI h a0 44 = 0 → Gd X mX11_barsOf 45 [some (.ref a0), none, some (.int x2), some (.int x3), some (.int x4)] [] (h) nc ns P) : Gd X mX11_barsOf 38 [some (.ref a0), none, some (.int x2), some (.int x3), some (.int x4)] [] h nc ns P := by
  refine g_aload_n dX11_barsOf_38 rfl ?_
  refine g_getI (c := 11) (k := 44) dX11_barsOf_39 (by decide) (by decide) kw_1171 rfl (LX11.o (h := h) F0) ?_
  exact g_if_ne (tgt := 108) dX11_barsOf_42 (by decide) (fun q => Gd.wk (kt q) trivial) (fun q => Gd.wk (kf q) ⟨rfl, ⟨rfl, ⟨rfl, ⟨rfl, trivial⟩⟩⟩⟩)
theorem bkX11_barsOf_45 {X : GX} {h : SH} {nc ns : Nat} {P : Out → SH → Prop} {a0 : Nat} {x2 : Int32} {x3 : Int32} {x4 : Int32} (F0 : LX11 (Sk h) (a0)) (i1 : vp_in (x4) 672) (kt : (hI h (a0 + 18) ((x4 : Int32).toNatClampNeg)) = 0 → Gd X mX11_barsOf 102 [some (.ref a0), none, some (.int x2), some (.int x3), some (.int x4)] [] (h) nc ns P) (kf : ¬ (hI h (a0 + 18) ((x4 : Int32).toNatClampNeg)) = 0 → Gd X mX11_barsOf 55 [some (.ref a0), none, some (.int x2), some (.int x3), some (.int x4)] [] (h) nc ns P) : Gd X mX11_barsOf 45 [some (.ref a0), none, some (.int x2), some (.int x3), some (.int x4)] [] h nc ns P := by
  refine g_aload_n dX11_barsOf_45 rfl ?_
  refine g_getAs (c := 11) (k := 23) (b := a0 + 18) dX11_barsOf_46 (by decide) (by decide) kw_1150 rfl (LX11.o (h := h) F0) (LX11.r_isBar (h := h) F0) ?_
  refine g_iload dX11_barsOf_49 rfl ?_
  refine g_zaload dX11_barsOf_51 (LX11.a_isBar (h := h) F0) i1 ?_
  exact g_if_eq (tgt := 102) dX11_barsOf_52 (by decide) (fun q => Gd.wk (kt q) ⟨rfl, ⟨rfl, ⟨rfl, ⟨rfl, trivial⟩⟩⟩⟩) (fun q => Gd.wk (kf q) ⟨rfl, ⟨rfl, ⟨rfl, ⟨rfl, trivial⟩⟩⟩⟩)
theorem bkX11_barsOf_55 {X : GX} {h : SH} {nc ns : Nat} {P : Out → SH → Prop} {a0 : Nat} {x2 : Int32} {x3 : Int32} {x4 : Int32} (F0 : LX11 (Sk h) (a0)) (i1 : vp_in (x4) 672) (kt : (hI h (a0 + 17) ((x4 : Int32).toNatClampNeg)) = x2 → Gd X mX11_barsOf 102 [some (.ref a0), none, some (.int x2), some (.int x3), some (.int x4)] [] (h) nc ns P) (kf : ¬ (hI h (a0 + 17) ((x4 : Int32).toNatClampNeg)) = x2 → Gd X mX11_barsOf 66 [some (.ref a0), none, some (.int x2), some (.int x3), some (.int x4)] [] (h) nc ns P) : Gd X mX11_barsOf 55 [some (.ref a0), none, some (.int x2), some (.int x3), some (.int x4)] [] h nc ns P := by
  refine g_aload_n dX11_barsOf_55 rfl ?_
  refine g_getAs (c := 11) (k := 22) (b := a0 + 17) dX11_barsOf_56 (by decide) (by decide) kw_1149 rfl (LX11.o (h := h) F0) (LX11.r_linkTo (h := h) F0) ?_
  refine g_iload dX11_barsOf_59 rfl ?_
  refine g_iaload dX11_barsOf_61 (LX11.a_linkTo (h := h) F0) i1 ?_
  refine g_iload_n dX11_barsOf_62 rfl ?_
  exact g_icmp_eq (tgt := 102) dX11_barsOf_63 (by decide) (fun q => Gd.wk (kt q) ⟨rfl, ⟨rfl, ⟨rfl, ⟨rfl, trivial⟩⟩⟩⟩) (fun q => Gd.wk (kf q) ⟨rfl, ⟨rfl, ⟨rfl, ⟨rfl, trivial⟩⟩⟩⟩)
theorem bkX11_barsOf_66 {X : GX} {h : SH} {nc ns : Nat} {P : Out → SH → Prop} {a0 : Nat} {x2 : Int32} {x3 : Int32} {x4 : Int32} (F0 : LX11 (Sk h) (a0)) (i1 : vp_in (x4) 672) (i2 : vp_in (hI h (a0 + 17) ((x4 : Int32).toNatClampNeg)) 12) (kt : (hI h (a0 + 31) ((hI h (a0 + 17) ((x4 : Int32).toNatClampNeg) : Int32).toNatClampNeg)) = 0 → Gd X mX11_barsOf 102 [some (.ref a0), none, some (.int x2), some (.int x3), some (.int x4)] [] (h) nc ns P) (kf : ¬ (hI h (a0 + 31) ((hI h (a0 + 17) ((x4 : Int32).toNatClampNeg) : Int32).toNatClampNeg)) = 0 → Gd X mX11_barsOf 81 [some (.ref a0), none, some (.int x2), some (.int x3), some (.int x4)] [] (h) nc ns P) : Gd X mX11_barsOf 66 [some (.ref a0), none, some (.int x2), some (.int x3), some (.int x4)] [] h nc ns P := by
  refine g_aload_n dX11_barsOf_66 rfl ?_
  refine g_getAs (c := 11) (k := 41) (b := a0 + 31) dX11_barsOf_67 (by decide) (by decide) kw_1168 rfl (LX11.o (h := h) F0) (LX11.r_isIn (h := h) F0) ?_
  refine g_aload_n dX11_barsOf_70 rfl ?_
  refine g_getAs (c := 11) (k := 22) (b := a0 + 17) dX11_barsOf_71 (by decide) (by decide) kw_1149 rfl (LX11.o (h := h) F0) (LX11.r_linkTo (h := h) F0) ?_
  refine g_iload dX11_barsOf_74 rfl ?_
  refine g_iaload dX11_barsOf_76 (LX11.a_linkTo (h := h) F0) i1 ?_
  refine g_zaload dX11_barsOf_77 (LX11.a_isIn (h := h) F0) i2 ?_
  exact g_if_eq (tgt := 102) dX11_barsOf_78 (by decide) (fun q => Gd.wk (kt q) ⟨rfl, ⟨rfl, ⟨rfl, ⟨rfl, trivial⟩⟩⟩⟩) (fun q => Gd.wk (kf q) ⟨rfl, ⟨rfl, ⟨rfl, ⟨rfl, trivial⟩⟩⟩⟩)
theorem bkX11_barsOf_81 {X : GX} {h : SH} {nc ns : Nat} {P : Out → SH → Prop} {a0 : Nat} {x2 : Int32} {x3 : Int32} {x4 : Int32} (F0 : LX11 (Sk h) (a0)) (i1 : vp_in (x4) 672) (g : Gd X mX11_barsOf 102 [some (.ref a0), none, some (.int x2), some (.int x3), some (.int x4)] [] (sI (sI (sI h a0 44 2) a0 45 x2) a0 46 (hI (sI (sI h a0 44 2) a0 45 x2) (a0 + 17) ((x4 : Int32).toNatClampNeg))) nc ns P) : Gd X mX11_barsOf 81 [some (.ref a0), none, some (.int x2), some (.int x3), some (.int x4)] [] h nc ns P := by
  refine g_aload_n dX11_barsOf_81 rfl ?_
  refine g_iconst (v := 2) dX11_barsOf_82 (by decide) ?_
  refine g_put (c := 11) (k := 44) (h1 := sI h a0 44 2) dX11_barsOf_83 (by decide) (by decide) kw_1171 rfl (LX11.o (h := h) F0) rfl rfl (Put.I rfl) ?_
  refine g_aload_n dX11_barsOf_86 rfl ?_
  refine g_iload_n dX11_barsOf_87 rfl ?_
  refine g_put (c := 11) (k := 45) (h1 := sI (sI h a0 44 2) a0 45 x2) dX11_barsOf_88 (by decide) (by decide) kw_1172 rfl (LX11.o (h := sI h a0 44 2) F0) rfl rfl (Put.I rfl) ?_
  refine g_aload_n dX11_barsOf_91 rfl ?_
  refine g_aload_n dX11_barsOf_92 rfl ?_
  refine g_getAs (c := 11) (k := 22) (b := a0 + 17) dX11_barsOf_93 (by decide) (by decide) kw_1149 rfl (LX11.o (h := sI (sI h a0 44 2) a0 45 x2) F0) (LX11.r_linkTo (h := sI (sI h a0 44 2) a0 45 x2) F0) ?_
  refine g_iload dX11_barsOf_96 rfl ?_
  refine g_iaload dX11_barsOf_98 (LX11.a_linkTo (h := sI (sI h a0 44 2) a0 45 x2) F0) i1 ?_
  refine g_put (c := 11) (k := 46) (h1 := sI (sI (sI h a0 44 2) a0 45 x2) a0 46 (hI (sI (sI h a0 44 2) a0 45 x2) (a0 + 17) ((x4 : Int32).toNatClampNeg))) dX11_barsOf_99 (by decide) (by decide) kw_1173 rfl (LX11.o (h := sI (sI h a0 44 2) a0 45 x2) F0) rfl rfl (Put.I rfl) ?_
  exact Gd.wk g ⟨rfl, ⟨rfl, ⟨rfl, ⟨rfl, trivial⟩⟩⟩⟩
theorem bkX11_barsOf_102 {X : GX} {h : SH} {nc ns : Nat} {P : Out → SH → Prop} {a0 : Nat} {x2 : Int32} {x3 : Int32} {x4 : Int32} (g : Gd X mX11_barsOf 13 [some (.ref a0), none, some (.int x2), some (.int x3), some (.int (x4 + 1))] [] (h) nc ns P) : Gd X mX11_barsOf 102 [some (.ref a0), none, some (.int x2), some (.int x3), some (.int x4)] [] h nc ns P := by
  refine g_iinc (v := x4 + 1) (L' := [some (.ref a0), none, some (.int x2), some (.int x3), some (.int (x4 + 1))]) dX11_barsOf_102 rfl rfl (by decide) rfl ?_
  refine g_goto (tgt := 13) dX11_barsOf_105 (by decide) ?_
  exact Gd.wk g ⟨rfl, ⟨rfl, ⟨rfl, ⟨rfl, trivial⟩⟩⟩⟩
theorem bkX11_barsOf_108 {X : GX} {h : SH} {nc ns : Nat} {P : Out → SH → Prop} (hp : P (.inl (none)) (h)) : Gd X mX11_barsOf 108 [none, none, none, none, none] [] h nc ns P := by
  exact g_return (st := []) dX11_barsOf_108 rfl hp
theorem bkX11_refsOf_0 {X : GX} {h : SH} {nc ns : Nat} {P : Out → SH → Prop} {a0 : Nat} {x1 : Int32} {x2 : Int32} (g : Gd X mX11_refsOf 13 [some (.ref a0), none, some (.int x2), some (.int ((12 * x1) + x2)), some (.int (20 * ((12 * x1) + x2)))] [] (h) nc ns P) : Gd X mX11_refsOf 0 [some (.ref a0), some (.int x1), some (.int x2), none, none] [] h nc ns P := by
  refine g_bipush (v := 12) dX11_refsOf_0 (by decide) ?_
  refine g_iload_n dX11_refsOf_2 rfl ?_
  refine g_imul dX11_refsOf_3 ?_
  refine g_iload_n dX11_refsOf_4 rfl ?_
  refine g_iadd dX11_refsOf_5 ?_
  refine g_istore_n (L' := [some (.ref a0), some (.int x1), some (.int x2), some (.int ((12 * x1) + x2)), none]) dX11_refsOf_6 (by decide) rfl ?_
  refine g_bipush (v := 20) dX11_refsOf_7 (by decide) ?_
  refine g_iload_n dX11_refsOf_9 rfl ?_
  refine g_imul dX11_refsOf_10 ?_
  refine g_istore (L' := [some (.ref a0), some (.int x1), some (.int x2), some (.int ((12 * x1) + x2)), some (.int (20 * ((12 * x1) + x2)))]) dX11_refsOf_11 (by decide) rfl ?_
  exact Gd.wk g ⟨rfl, ⟨rfl, ⟨rfl, ⟨rfl, trivial⟩⟩⟩⟩
theorem bkX11_refsOf_13 {X : GX} {h : SH} {nc ns : Nat} {P : Out → SH → Prop} {a0 : Nat} {x2 : Int32} {x3 : Int32} {x4 : Int32} (F0 : LX11 (Sk h) (a0)) (i1 : vp_in (x3) 84) (kt : ((20 * x3) + (hI h (a0 + 19) ((x3 : Int32).toNatClampNeg))) ≤ x4 → Gd X mX11_refsOf 98 [none, none, none, none, none] [] (h) nc ns P) (kf : ¬ ((20 * x3) + (hI h (a0 + 19) ((x3 : Int32).toNatClampNeg))) ≤ x4 → Gd X mX11_refsOf 29 [some (.ref a0), none, some (.int x2), some (.int x3), some (.int x4)] [] (h) nc ns P) : Gd X mX11_refsOf 13 [some (.ref a0), none, some (.int x2), some (.int x3), some (.int x4)] [] h nc ns P := by
  refine g_iload dX11_refsOf_13 rfl ?_
  refine g_bipush (v := 20) dX11_refsOf_15 (by decide) ?_
  refine g_iload_n dX11_refsOf_17 rfl ?_
  refine g_imul dX11_refsOf_18 ?_
  refine g_aload_n dX11_refsOf_19 rfl ?_
  refine g_getAs (c := 11) (k := 24) (b := a0 + 19) dX11_refsOf_20 (by decide) (by decide) kw_1151 rfl (LX11.o (h := h) F0) (LX11.r_items (h := h) F0) ?_
  refine g_iload_n dX11_refsOf_23 rfl ?_
  refine g_iaload dX11_refsOf_24 (LX11.a_items (h := h) F0) i1 ?_
  refine g_iadd dX11_refsOf_25 ?_
  exact g_icmp_ge (tgt := 98) dX11_refsOf_26 (by decide) (fun q => Gd.wk (kt q) trivial) (fun q => Gd.wk (kf q) ⟨rfl, ⟨rfl, ⟨rfl, ⟨rfl, trivial⟩⟩⟩⟩)
theorem bkX11_refsOf_29 {X : GX} {h : SH} {nc ns : Nat} {P : Out → SH → Prop} {a0 : Nat} {x2 : Int32} {x3 : Int32} {x4 : Int32} (F0 : LX11 (Sk h) (a0)) (i1 : vp_in (x2) 12) (kt : (hI h (a0 + 31) ((x2 : Int32).toNatClampNeg)) = 0 → Gd X mX11_refsOf 98 [none, none, none, none, none] [] (h) nc ns P) (kf : ¬ (hI h (a0 + 31) ((x2 : Int32).toNatClampNeg)) = 0 → Gd X mX11_refsOf 38 [some (.ref a0), none, some (.int x2), some (.int x3), some (.int x4)] [] (h) nc ns P) : Gd X mX11_refsOf 29 [some (.ref a0), none, some (.int x2), some (.int x3), some (.int x4)] [] h nc ns P := by
  refine g_aload_n dX11_refsOf_29 rfl ?_
  refine g_getAs (c := 11) (k := 41) (b := a0 + 31) dX11_refsOf_30 (by decide) (by decide) kw_1168 rfl (LX11.o (h := h) F0) (LX11.r_isIn (h := h) F0) ?_
  refine g_iload_n dX11_refsOf_33 rfl ?_
  refine g_zaload dX11_refsOf_34 (LX11.a_isIn (h := h) F0) i1 ?_
  exact g_if_eq (tgt := 98) dX11_refsOf_35 (by decide) (fun q => Gd.wk (kt q) trivial) (fun q => Gd.wk (kf q) ⟨rfl, ⟨rfl, ⟨rfl, ⟨rfl, trivial⟩⟩⟩⟩)
theorem bkX11_refsOf_38 {X : GX} {h : SH} {nc ns : Nat} {P : Out → SH → Prop} {a0 : Nat} {x2 : Int32} {x3 : Int32} {x4 : Int32} (F0 : LX11 (Sk h) (a0)) (kt : ¬ hI h a0 44 = 0 → Gd X mX11_refsOf 98 [none, none, none, none, none] [] (h) nc ns P) (kf : hI h a0 44 = 0 → Gd X mX11_refsOf 45 [some (.ref a0), none, some (.int x2), some (.int x3), some (.int x4)] [] (h) nc ns P) : Gd X mX11_refsOf 38 [some (.ref a0), none, some (.int x2), some (.int x3), some (.int x4)] [] h nc ns P := by
  refine g_aload_n dX11_refsOf_38 rfl ?_
  refine g_getI (c := 11) (k := 44) dX11_refsOf_39 (by decide) (by decide) kw_1171 rfl (LX11.o (h := h) F0) ?_
  exact g_if_ne (tgt := 98) dX11_refsOf_42 (by decide) (fun q => Gd.wk (kt q) trivial) (fun q => Gd.wk (kf q) ⟨rfl, ⟨rfl, ⟨rfl, ⟨rfl, trivial⟩⟩⟩⟩)
theorem bkX11_refsOf_45 {X : GX} {h : SH} {nc ns : Nat} {P : Out → SH → Prop} {a0 : Nat} {x2 : Int32} {x3 : Int32} {x4 : Int32} (F0 : LX11 (Sk h) (a0)) (i1 : vp_in (x4) 1680) (kt : ¬ (hI h (a0 + 20) ((x4 : Int32).toNatClampNeg)) = 2 → Gd X mX11_refsOf 92 [some (.ref a0), none, some (.int x2), some (.int x3), some (.int x4)] [] (h) nc ns P) (kf : (hI h (a0 + 20) ((x4 : Int32).toNatClampNeg)) = 2 → Gd X mX11_refsOf 56 [some (.ref a0), none, some (.int x2), some (.int x3), some (.int x4)] [] (h) nc ns P) : Gd X mX11_refsOf 45 [some (.ref a0), none, some (.int x2), some (.int x3), some (.int x4)] [] h nc ns P := by
  refine g_aload_n dX11_refsOf_45 rfl ?_
  refine g_getAs (c := 11) (k := 25) (b := a0 + 20) dX11_refsOf_46 (by decide) (by decide) kw_1152 rfl (LX11.o (h := h) F0) (LX11.r_itemKind (h := h) F0) ?_
  refine g_iload dX11_refsOf_49 rfl ?_
  refine g_iaload dX11_refsOf_51 (LX11.a_itemKind (h := h) F0) i1 ?_
  refine g_iconst (v := 2) dX11_refsOf_52 (by decide) ?_
  exact g_icmp_ne (tgt := 92) dX11_refsOf_53 (by decide) (fun q => Gd.wk (kt q) ⟨rfl, ⟨rfl, ⟨rfl, ⟨rfl, trivial⟩⟩⟩⟩) (fun q => Gd.wk (kf q) ⟨rfl, ⟨rfl, ⟨rfl, ⟨rfl, trivial⟩⟩⟩⟩)
theorem bkX11_refsOf_56 {X : GX} {h : SH} {nc ns : Nat} {P : Out → SH → Prop} {a0 : Nat} {x2 : Int32} {x3 : Int32} {x4 : Int32} (F0 : LX11 (Sk h) (a0)) (i1 : vp_in (x4) 1680) (i2 : vp_in (hI h (a0 + 21) ((x4 : Int32).toNatClampNeg)) 12) (kt : ¬ (hI h (a0 + 31) ((hI h (a0 + 21) ((x4 : Int32).toNatClampNeg) : Int32).toNatClampNeg)) = 0 → Gd X mX11_refsOf 92 [some (.ref a0), none, some (.int x2), some (.int x3), some (.int x4)] [] (h) nc ns P) (kf : (hI h (a0 + 31) ((hI h (a0 + 21) ((x4 : Int32).toNatClampNeg) : Int32).toNatClampNeg)) = 0 → Gd X mX11_refsOf 71 [some (.ref a0), none, some (.int x2), some (.int x3), some (.int x4)] [] (h) nc ns P) : Gd X mX11_refsOf 56 [some (.ref a0), none, some (.int x2), some (.int x3), some (.int x4)] [] h nc ns P := by
  refine g_aload_n dX11_refsOf_56 rfl ?_
  refine g_getAs (c := 11) (k := 41) (b := a0 + 31) dX11_refsOf_57 (by decide) (by decide) kw_1168 rfl (LX11.o (h := h) F0) (LX11.r_isIn (h := h) F0) ?_
  refine g_aload_n dX11_refsOf_60 rfl ?_
  refine g_getAs (c := 11) (k := 26) (b := a0 + 21) dX11_refsOf_61 (by decide) (by decide) kw_1153 rfl (LX11.o (h := h) F0) (LX11.r_itemAt (h := h) F0) ?_
  refine g_iload dX11_refsOf_64 rfl ?_
  refine g_iaload dX11_refsOf_66 (LX11.a_itemAt (h := h) F0) i1 ?_
  refine g_zaload dX11_refsOf_67 (LX11.a_isIn (h := h) F0) i2 ?_
  exact g_if_ne (tgt := 92) dX11_refsOf_68 (by decide) (fun q => Gd.wk (kt q) ⟨rfl, ⟨rfl, ⟨rfl, ⟨rfl, trivial⟩⟩⟩⟩) (fun q => Gd.wk (kf q) ⟨rfl, ⟨rfl, ⟨rfl, ⟨rfl, trivial⟩⟩⟩⟩)
theorem bkX11_refsOf_71 {X : GX} {h : SH} {nc ns : Nat} {P : Out → SH → Prop} {a0 : Nat} {x2 : Int32} {x3 : Int32} {x4 : Int32} (F0 : LX11 (Sk h) (a0)) (i1 : vp_in (x4) 1680) (g : Gd X mX11_refsOf 92 [some (.ref a0), none, some (.int x2), some (.int x3), some (.int x4)] [] (sI (sI (sI h a0 44 3) a0 45 x2) a0 46 (hI (sI (sI h a0 44 3) a0 45 x2) (a0 + 21) ((x4 : Int32).toNatClampNeg))) nc ns P) : Gd X mX11_refsOf 71 [some (.ref a0), none, some (.int x2), some (.int x3), some (.int x4)] [] h nc ns P := by
  refine g_aload_n dX11_refsOf_71 rfl ?_
  refine g_iconst (v := 3) dX11_refsOf_72 (by decide) ?_
  refine g_put (c := 11) (k := 44) (h1 := sI h a0 44 3) dX11_refsOf_73 (by decide) (by decide) kw_1171 rfl (LX11.o (h := h) F0) rfl rfl (Put.I rfl) ?_
  refine g_aload_n dX11_refsOf_76 rfl ?_
  refine g_iload_n dX11_refsOf_77 rfl ?_
  refine g_put (c := 11) (k := 45) (h1 := sI (sI h a0 44 3) a0 45 x2) dX11_refsOf_78 (by decide) (by decide) kw_1172 rfl (LX11.o (h := sI h a0 44 3) F0) rfl rfl (Put.I rfl) ?_
  refine g_aload_n dX11_refsOf_81 rfl ?_
  refine g_aload_n dX11_refsOf_82 rfl ?_
  refine g_getAs (c := 11) (k := 26) (b := a0 + 21) dX11_refsOf_83 (by decide) (by decide) kw_1153 rfl (LX11.o (h := sI (sI h a0 44 3) a0 45 x2) F0) (LX11.r_itemAt (h := sI (sI h a0 44 3) a0 45 x2) F0) ?_
  refine g_iload dX11_refsOf_86 rfl ?_
  refine g_iaload dX11_refsOf_88 (LX11.a_itemAt (h := sI (sI h a0 44 3) a0 45 x2) F0) i1 ?_
  refine g_put (c := 11) (k := 46) (h1 := sI (sI (sI h a0 44 3) a0 45 x2) a0 46 (hI (sI (sI h a0 44 3) a0 45 x2) (a0 + 21) ((x4 : Int32).toNatClampNeg))) dX11_refsOf_89 (by decide) (by decide) kw_1173 rfl (LX11.o (h := sI (sI h a0 44 3) a0 45 x2) F0) rfl rfl (Put.I rfl) ?_
  exact Gd.wk g ⟨rfl, ⟨rfl, ⟨rfl, ⟨rfl, trivial⟩⟩⟩⟩
theorem bkX11_refsOf_92 {X : GX} {h : SH} {nc ns : Nat} {P : Out → SH → Prop} {a0 : Nat} {x2 : Int32} {x3 : Int32} {x4 : Int32} (g : Gd X mX11_refsOf 13 [some (.ref a0), none, some (.int x2), some (.int x3), some (.int (x4 + 1))] [] (h) nc ns P) : Gd X mX11_refsOf 92 [some (.ref a0), none, some (.int x2), some (.int x3), some (.int x4)] [] h nc ns P := by
  refine g_iinc (v := x4 + 1) (L' := [some (.ref a0), none, some (.int x2), some (.int x3), some (.int (x4 + 1))]) dX11_refsOf_92 rfl rfl (by decide) rfl ?_
  refine g_goto (tgt := 13) dX11_refsOf_95 (by decide) ?_
  exact Gd.wk g ⟨rfl, ⟨rfl, ⟨rfl, ⟨rfl, trivial⟩⟩⟩⟩
theorem bkX11_refsOf_98 {X : GX} {h : SH} {nc ns : Nat} {P : Out → SH → Prop} (hp : P (.inl (none)) (h)) : Gd X mX11_refsOf 98 [none, none, none, none, none] [] h nc ns P := by
  exact g_return (st := []) dX11_refsOf_98 rfl hp
theorem bkX11_orders_0 {X : GX} {h : SH} {nc ns : Nat} {P : Out → SH → Prop} {a0 : Nat} {x1 : Int32} (F0 : LX11 (Sk h) (a0)) (g : Gd X mX11_orders 7 [some (.ref a0), some (.int x1), some (.int 0), none] [] (sI h a0 43 0) nc ns P) : Gd X mX11_orders 0 [some (.ref a0), some (.int x1), none, none] [] h nc ns P := by
  refine g_aload_n dX11_orders_0 rfl ?_
  refine g_iconst (v := 0) dX11_orders_1 (by decide) ?_
  refine g_put (c := 11) (k := 43) (h1 := sI h a0 43 0) dX11_orders_2 (by decide) (by decide) kw_1170 rfl (LX11.o (h := h) F0) rfl rfl (Put.I rfl) ?_
  refine g_iconst (v := 0) dX11_orders_5 (by decide) ?_
  refine g_istore_n (L' := [some (.ref a0), some (.int x1), some (.int 0), none]) dX11_orders_6 (by decide) rfl ?_
  exact Gd.wk g ⟨rfl, ⟨rfl, ⟨rfl, trivial⟩⟩⟩
theorem bkX11_orders_7 {X : GX} {h : SH} {nc ns : Nat} {P : Out → SH → Prop} {a0 : Nat} {x1 : Int32} {x2 : Int32} (kt : (100 : Int32) ≤ x2 → Gd X mX11_orders 81 [none, none, none, none] [] (h) nc ns P) (kf : ¬ (100 : Int32) ≤ x2 → Gd X mX11_orders 13 [some (.ref a0), some (.int x1), some (.int x2), none] [] (h) nc ns P) : Gd X mX11_orders 7 [some (.ref a0), some (.int x1), some (.int x2), none] [] h nc ns P := by
  refine g_iload_n dX11_orders_7 rfl ?_
  refine g_bipush (v := 100) dX11_orders_8 (by decide) ?_
  exact g_icmp_ge (tgt := 81) dX11_orders_10 (by decide) (fun q => Gd.wk (kt q) trivial) (fun q => Gd.wk (kf q) ⟨rfl, ⟨rfl, ⟨rfl, trivial⟩⟩⟩)
theorem bkX11_orders_13 {X : GX} {h : SH} {nc ns : Nat} {P : Out → SH → Prop} {a0 : Nat} {x1 : Int32} {x2 : Int32} (g : Gd X mX11_orders 15 [some (.ref a0), some (.int x1), some (.int x2), some (.int 0)] [] (h) nc ns P) : Gd X mX11_orders 13 [some (.ref a0), some (.int x1), some (.int x2), none] [] h nc ns P := by
  refine g_iconst (v := 0) dX11_orders_13 (by decide) ?_
  refine g_istore_n (L' := [some (.ref a0), some (.int x1), some (.int x2), some (.int 0)]) dX11_orders_14 (by decide) rfl ?_
  exact Gd.wk g ⟨rfl, ⟨rfl, ⟨rfl, ⟨rfl, trivial⟩⟩⟩⟩
theorem bkX11_orders_15 {X : GX} {h : SH} {nc ns : Nat} {P : Out → SH → Prop} {a0 : Nat} {x1 : Int32} {x2 : Int32} {x3 : Int32} (F0 : LX11 (Sk h) (a0)) (i1 : vp_in (x1) 7) (kt : (hI h (a0 + 11) ((x1 : Int32).toNatClampNeg)) ≤ x3 → Gd X mX11_orders 75 [some (.ref a0), some (.int x1), some (.int x2), none] [] (h) nc ns P) (kf : ¬ (hI h (a0 + 11) ((x1 : Int32).toNatClampNeg)) ≤ x3 → Gd X mX11_orders 25 [some (.ref a0), some (.int x1), some (.int x2), some (.int x3)] [] (h) nc ns P) : Gd X mX11_orders 15 [some (.ref a0), some (.int x1), some (.int x2), some (.int x3)] [] h nc ns P := by
  refine g_iload_n dX11_orders_15 rfl ?_
  refine g_aload_n dX11_orders_16 rfl ?_
  refine g_getAs (c := 11) (k := 16) (b := a0 + 11) dX11_orders_17 (by decide) (by decide) kw_1143 rfl (LX11.o (h := h) F0) (LX11.r_clauses (h := h) F0) ?_
  refine g_iload_n dX11_orders_20 rfl ?_
  refine g_iaload dX11_orders_21 (LX11.a_clauses (h := h) F0) i1 ?_
  exact g_icmp_ge (tgt := 75) dX11_orders_22 (by decide) (fun q => Gd.wk (kt q) ⟨rfl, ⟨rfl, ⟨rfl, trivial⟩⟩⟩) (fun q => Gd.wk (kf q) ⟨rfl, ⟨rfl, ⟨rfl, ⟨rfl, trivial⟩⟩⟩⟩)
theorem bkX11_orders_25 {X : GX} {h : SH} {nc ns : Nat} {P : Out → SH → Prop} {a0 : Nat} {x1 : Int32} {x2 : Int32} {x3 : Int32} (F0 : LX11 (Sk h) (a0)) (i1 : vp_in (x3) 12) (kt : (hI h (a0 + 31) ((x3 : Int32).toNatClampNeg)) = 0 → Gd X mX11_orders 69 [some (.ref a0), some (.int x1), some (.int x2), some (.int x3)] [] (h) nc ns P) (kf : ¬ (hI h (a0 + 31) ((x3 : Int32).toNatClampNeg)) = 0 → Gd X mX11_orders 34 [some (.ref a0), some (.int x1), some (.int x2), some (.int x3)] [] (h) nc ns P) : Gd X mX11_orders 25 [some (.ref a0), some (.int x1), some (.int x2), some (.int x3)] [] h nc ns P := by
  refine g_aload_n dX11_orders_25 rfl ?_
  refine g_getAs (c := 11) (k := 41) (b := a0 + 31) dX11_orders_26 (by decide) (by decide) kw_1168 rfl (LX11.o (h := h) F0) (LX11.r_isIn (h := h) F0) ?_
  refine g_iload_n dX11_orders_29 rfl ?_
  refine g_zaload dX11_orders_30 (LX11.a_isIn (h := h) F0) i1 ?_
  exact g_if_eq (tgt := 69) dX11_orders_31 (by decide) (fun q => Gd.wk (kt q) ⟨rfl, ⟨rfl, ⟨rfl, ⟨rfl, trivial⟩⟩⟩⟩) (fun q => Gd.wk (kf q) ⟨rfl, ⟨rfl, ⟨rfl, ⟨rfl, trivial⟩⟩⟩⟩)
theorem bkX11_orders_34 {X : GX} {h : SH} {nc ns : Nat} {P : Out → SH → Prop} {a0 : Nat} {x1 : Int32} {x2 : Int32} {x3 : Int32} (F0 : LX11 (Sk h) (a0)) (i1 : vp_in ((12 * x1) + x3) 84) (kt : ¬ (hI h (a0 + 13) (((12 * x1) + x3 : Int32).toNatClampNeg)) = x2 → Gd X mX11_orders 69 [some (.ref a0), some (.int x1), some (.int x2), some (.int x3)] [] (h) nc ns P) (kf : (hI h (a0 + 13) (((12 * x1) + x3 : Int32).toNatClampNeg)) = x2 → Gd X mX11_orders 49 [some (.ref a0), some (.int x1), some (.int x2), some (.int x3)] [] (h) nc ns P) : Gd X mX11_orders 34 [some (.ref a0), some (.int x1), some (.int x2), some (.int x3)] [] h nc ns P := by
  refine g_aload_n dX11_orders_34 rfl ?_
  refine g_getAs (c := 11) (k := 18) (b := a0 + 13) dX11_orders_35 (by decide) (by decide) kw_1145 rfl (LX11.o (h := h) F0) (LX11.r_placeOf (h := h) F0) ?_
  refine g_bipush (v := 12) dX11_orders_38 (by decide) ?_
  refine g_iload_n dX11_orders_40 rfl ?_
  refine g_imul dX11_orders_41 ?_
  refine g_iload_n dX11_orders_42 rfl ?_
  refine g_iadd dX11_orders_43 ?_
  refine g_iaload dX11_orders_44 (LX11.a_placeOf (h := h) F0) i1 ?_
  refine g_iload_n dX11_orders_45 rfl ?_
  exact g_icmp_ne (tgt := 69) dX11_orders_46 (by decide) (fun q => Gd.wk (kt q) ⟨rfl, ⟨rfl, ⟨rfl, ⟨rfl, trivial⟩⟩⟩⟩) (fun q => Gd.wk (kf q) ⟨rfl, ⟨rfl, ⟨rfl, ⟨rfl, trivial⟩⟩⟩⟩)
theorem bkX11_orders_49 {X : GX} {h : SH} {nc ns : Nat} {P : Out → SH → Prop} {a0 : Nat} {x1 : Int32} {x2 : Int32} {x3 : Int32} (F0 : LX11 (Sk h) (a0)) (i1 : vp_in (hI h a0 43) 12) (g : Gd X mX11_orders 69 [some (.ref a0), some (.int x1), some (.int x2), some (.int x3)] [] (sI (sI h (a0 + 32) ((hI h a0 43 : Int32).toNatClampNeg) x3) a0 43 ((hI (sI h (a0 + 32) ((hI h a0 43 : Int32).toNatClampNeg) x3) a0 43) + 1)) nc ns P) : Gd X mX11_orders 49 [some (.ref a0), some (.int x1), some (.int x2), some (.int x3)] [] h nc ns P := by
  refine g_aload_n dX11_orders_49 rfl ?_
  refine g_getAs (c := 11) (k := 42) (b := a0 + 32) dX11_orders_50 (by decide) (by decide) kw_1169 rfl (LX11.o (h := h) F0) (LX11.r_part (h := h) F0) ?_
  refine g_aload_n dX11_orders_53 rfl ?_
  refine g_getI (c := 11) (k := 43) dX11_orders_54 (by decide) (by decide) kw_1170 rfl (LX11.o (h := h) F0) ?_
  refine g_iload_n dX11_orders_57 rfl ?_
  refine g_iastore dX11_orders_58 (LX11.a_part (h := h) F0) i1 ?_
  refine g_aload_n dX11_orders_59 rfl ?_
  refine g_dup dX11_orders_60 rfl ?_
  refine g_getI (c := 11) (k := 43) dX11_orders_61 (by decide) (by decide) kw_1170 rfl (LX11.o (h := sI h (a0 + 32) ((hI h a0 43 : Int32).toNatClampNeg) x3) F0) ?_
  refine g_iconst (v := 1) dX11_orders_64 (by decide) ?_
  refine g_iadd dX11_orders_65 ?_
  refine g_put (c := 11) (k := 43) (h1 := sI (sI h (a0 + 32) ((hI h a0 43 : Int32).toNatClampNeg) x3) a0 43 ((hI (sI h (a0 + 32) ((hI h a0 43 : Int32).toNatClampNeg) x3) a0 43) + 1)) dX11_orders_66 (by decide) (by decide) kw_1170 rfl (LX11.o (h := sI h (a0 + 32) ((hI h a0 43 : Int32).toNatClampNeg) x3) F0) rfl rfl (Put.I rfl) ?_
  exact Gd.wk g ⟨rfl, ⟨rfl, ⟨rfl, ⟨rfl, trivial⟩⟩⟩⟩
theorem bkX11_orders_69 {X : GX} {h : SH} {nc ns : Nat} {P : Out → SH → Prop} {a0 : Nat} {x1 : Int32} {x2 : Int32} {x3 : Int32} (g : Gd X mX11_orders 15 [some (.ref a0), some (.int x1), some (.int x2), some (.int (x3 + 1))] [] (h) nc ns P) : Gd X mX11_orders 69 [some (.ref a0), some (.int x1), some (.int x2), some (.int x3)] [] h nc ns P := by
  refine g_iinc (v := x3 + 1) (L' := [some (.ref a0), some (.int x1), some (.int x2), some (.int (x3 + 1))]) dX11_orders_69 rfl rfl (by decide) rfl ?_
  refine g_goto (tgt := 15) dX11_orders_72 (by decide) ?_
  exact Gd.wk g ⟨rfl, ⟨rfl, ⟨rfl, ⟨rfl, trivial⟩⟩⟩⟩
theorem bkX11_orders_75 {X : GX} {h : SH} {nc ns : Nat} {P : Out → SH → Prop} {a0 : Nat} {x1 : Int32} {x2 : Int32} (g : Gd X mX11_orders 7 [some (.ref a0), some (.int x1), some (.int (x2 + 1)), none] [] (h) nc ns P) : Gd X mX11_orders 75 [some (.ref a0), some (.int x1), some (.int x2), none] [] h nc ns P := by
  refine g_iinc (v := x2 + 1) (L' := [some (.ref a0), some (.int x1), some (.int (x2 + 1)), none]) dX11_orders_75 rfl rfl (by decide) rfl ?_
  refine g_goto (tgt := 7) dX11_orders_78 (by decide) ?_
  exact Gd.wk g ⟨rfl, ⟨rfl, ⟨rfl, trivial⟩⟩⟩
theorem bkX11_orders_81 {X : GX} {h : SH} {nc ns : Nat} {P : Out → SH → Prop} (hp : P (.inl (none)) (h)) : Gd X mX11_orders 81 [none, none, none, none] [] h nc ns P := by
  exact g_return (st := []) dX11_orders_81 rfl hp
theorem bkX11_partOf_0 {X : GX} {h : SH} {nc ns : Nat} {P : Out → SH → Prop} {a0 : Nat} {x1 : Int32} (g : Gd X mX11_partOf 2 [some (.ref a0), some (.int x1), some (.int 0)] [] (h) nc ns P) : Gd X mX11_partOf 0 [some (.ref a0), some (.int x1), none] [] h nc ns P := by
  refine g_iconst (v := 0) dX11_partOf_0 (by decide) ?_
  refine g_istore_n (L' := [some (.ref a0), some (.int x1), some (.int 0)]) dX11_partOf_1 (by decide) rfl ?_
  exact Gd.wk g ⟨rfl, ⟨rfl, ⟨rfl, trivial⟩⟩⟩
theorem bkX11_partOf_2 {X : GX} {h : SH} {nc ns : Nat} {P : Out → SH → Prop} {a0 : Nat} {x1 : Int32} {x2 : Int32} (F0 : LX11 (Sk h) (a0)) (i1 : vp_in (x2) 12) (kt : (hI h (a0 + 32) ((x2 : Int32).toNatClampNeg)) = x1 → Gd X mX11_partOf 18 [none, none, some (.int x2)] [] (h) nc ns P) (kf : ¬ (hI h (a0 + 32) ((x2 : Int32).toNatClampNeg)) = x1 → Gd X mX11_partOf 12 [some (.ref a0), some (.int x1), some (.int x2)] [] (h) nc ns P) : Gd X mX11_partOf 2 [some (.ref a0), some (.int x1), some (.int x2)] [] h nc ns P := by
  refine g_aload_n dX11_partOf_2 rfl ?_
  refine g_getAs (c := 11) (k := 42) (b := a0 + 32) dX11_partOf_3 (by decide) (by decide) kw_1169 rfl (LX11.o (h := h) F0) (LX11.r_part (h := h) F0) ?_
  refine g_iload_n dX11_partOf_6 rfl ?_
  refine g_iaload dX11_partOf_7 (LX11.a_part (h := h) F0) i1 ?_
  refine g_iload_n dX11_partOf_8 rfl ?_
  exact g_icmp_eq (tgt := 18) dX11_partOf_9 (by decide) (fun q => Gd.wk (kt q) ⟨rfl, trivial⟩) (fun q => Gd.wk (kf q) ⟨rfl, ⟨rfl, ⟨rfl, trivial⟩⟩⟩)
theorem bkX11_partOf_12 {X : GX} {h : SH} {nc ns : Nat} {P : Out → SH → Prop} {a0 : Nat} {x1 : Int32} {x2 : Int32} (g : Gd X mX11_partOf 2 [some (.ref a0), some (.int x1), some (.int (x2 + 1))] [] (h) nc ns P) : Gd X mX11_partOf 12 [some (.ref a0), some (.int x1), some (.int x2)] [] h nc ns P := by
  refine g_iinc (v := x2 + 1) (L' := [some (.ref a0), some (.int x1), some (.int (x2 + 1))]) dX11_partOf_12 rfl rfl (by decide) rfl ?_
  refine g_goto (tgt := 2) dX11_partOf_15 (by decide) ?_
  exact Gd.wk g ⟨rfl, ⟨rfl, ⟨rfl, trivial⟩⟩⟩
theorem bkX11_partOf_18 {X : GX} {h : SH} {nc ns : Nat} {P : Out → SH → Prop} {x2 : Int32} (hp : P (.inl (some (.int (x2 + 1)))) (h)) : Gd X mX11_partOf 18 [none, none, some (.int x2)] [] h nc ns P := by
  refine g_iload_n dX11_partOf_18 rfl ?_
  refine g_iconst (v := 1) dX11_partOf_19 (by decide) ?_
  refine g_iadd dX11_partOf_20 ?_
  exact g_ireturn (st := []) dX11_partOf_21 rfl rfl hp
theorem bkX11_put_0 {X : GX} {h : SH} {nc ns : Nat} {P : Out → SH → Prop} {a0 : Nat} {x1 : Int32} (F0 : LX11 (Sk h) (a0)) (i1 : vp_in (hI h a0 48) 5000) (hp : P (.inl (none)) (sI (sI h (a0 + 33) ((hI h a0 48 : Int32).toNatClampNeg) x1) a0 48 ((hI (sI h (a0 + 33) ((hI h a0 48 : Int32).toNatClampNeg) x1) a0 48) + 1))) : Gd X mX11_put 0 [some (.ref a0), some (.int x1)] [] h nc ns P := by
  refine g_aload_n dX11_put_0 rfl ?_
  refine g_getAs (c := 11) (k := 47) (b := a0 + 33) dX11_put_1 (by decide) (by decide) kw_1174 rfl (LX11.o (h := h) F0) (LX11.r_out (h := h) F0) ?_
  refine g_aload_n dX11_put_4 rfl ?_
  refine g_getI (c := 11) (k := 48) dX11_put_5 (by decide) (by decide) kw_1175 rfl (LX11.o (h := h) F0) ?_
  refine g_iload_n dX11_put_8 rfl ?_
  refine g_iastore dX11_put_9 (LX11.a_out (h := h) F0) i1 ?_
  refine g_aload_n dX11_put_10 rfl ?_
  refine g_dup dX11_put_11 rfl ?_
  refine g_getI (c := 11) (k := 48) dX11_put_12 (by decide) (by decide) kw_1175 rfl (LX11.o (h := sI h (a0 + 33) ((hI h a0 48 : Int32).toNatClampNeg) x1) F0) ?_
  refine g_iconst (v := 1) dX11_put_15 (by decide) ?_
  refine g_iadd dX11_put_16 ?_
  refine g_put (c := 11) (k := 48) (h1 := sI (sI h (a0 + 33) ((hI h a0 48 : Int32).toNatClampNeg) x1) a0 48 ((hI (sI h (a0 + 33) ((hI h a0 48 : Int32).toNatClampNeg) x1) a0 48) + 1)) dX11_put_17 (by decide) (by decide) kw_1175 rfl (LX11.o (h := sI h (a0 + 33) ((hI h a0 48 : Int32).toNatClampNeg) x1) F0) rfl rfl (Put.I rfl) ?_
  exact g_return (st := []) dX11_put_20 rfl hp
theorem bkX11_blank_0 {X : GX} {h : SH} {nc ns : Nat} {P : Out → SH → Prop} {a0 : Nat} (F0 : LX11 (Sk h) (a0)) (kt : hI h a0 48 ≤ 0 → Gd X mX11_blank 13 [none] [] (h) nc ns P) (kf : ¬ hI h a0 48 ≤ 0 → Gd X mX11_blank 7 [some (.ref a0)] [] (h) nc ns P) : Gd X mX11_blank 0 [some (.ref a0)] [] h nc ns P := by
  refine g_aload_n dX11_blank_0 rfl ?_
  refine g_getI (c := 11) (k := 48) dX11_blank_1 (by decide) (by decide) kw_1175 rfl (LX11.o (h := h) F0) ?_
  exact g_if_le (tgt := 13) dX11_blank_4 (by decide) (fun q => Gd.wk (kt q) trivial) (fun q => Gd.wk (kf q) ⟨rfl, trivial⟩)
theorem bkX11_blank_7 {X : GX} {h : SH} {nc ns : Nat} {P : Out → SH → Prop} {Q : SH → Prop} {a0 : Nat} (F0 : LX11 (Sk h) (a0)) (hN : Cd X mX11_put [.ref a0, .int 32] (h) 0 0 (oV Q nX)) (g : ∀ t, Q t → Gd X mX11_blank 13 [none] [] (t) nc ns P) : Gd X mX11_blank 7 [some (.ref a0)] [] h nc ns P := by
  refine g_aload_n dX11_blank_7 rfl ?_
  refine g_bipush (v := 32) dX11_blank_8 (by decide) ?_
  refine Gd.z ?_
  exact g_callV (k := 11) [.int 32] dX11_blank_10 mfX11_put ⟨by decide, by decide⟩ kw_1511 kw_1513 kw_84 rfl (by decide) (Nat.le_of_ble_eq_true rfl) (by intro x hx; cases hx) (LX11.o (h := h) F0) (Nat.le_of_ble_eq_true rfl) hN (fun _ _ q => q.elim) (oV_go (G := fun a b => Gd X mX11_blank 13 _ a b nc ns P) (fun t q => Gd.wk (g t q) trivial))
theorem bkX11_blank_13 {X : GX} {h : SH} {nc ns : Nat} {P : Out → SH → Prop} (hp : P (.inl (none)) (h)) : Gd X mX11_blank 13 [none] [] h nc ns P := by
  exact g_return (st := []) dX11_blank_13 rfl hp
theorem bkX11_prints_0 {X : GX} {h : SH} {nc ns : Nat} {P : Out → SH → Prop} {Q : SH → Prop} {a0 : Nat} {x1 : Int32} (F0 : LX11 (Sk h) (a0)) (hN : Cd X mX11_blank [.ref a0] (h) 0 0 (oV Q nX)) (g : ∀ t, Q t → Gd X mX11_prints 4 [some (.ref a0), some (.int x1), none, none, none, none] [] (t) nc ns P) : Gd X mX11_prints 0 [some (.ref a0), some (.int x1), none, none, none, none] [] h nc ns P := by
  refine g_aload_n dX11_prints_0 rfl ?_
  refine Gd.z ?_
  exact g_callV (k := 11) [] dX11_prints_1 mfX11_blank ⟨by decide, by decide⟩ kw_1507 kw_1509 kw_83 rfl (by decide) (Nat.le_of_ble_eq_true rfl) (by intro x hx; cases hx) (LX11.o (h := h) F0) (Nat.le_of_ble_eq_true rfl) hN (fun _ _ q => q.elim) (oV_go (G := fun a b => Gd X mX11_prints 4 _ a b nc ns P) (fun t q => Gd.wk (g t q) ⟨rfl, ⟨rfl, trivial⟩⟩))
theorem bkX11_prints_4 {X : GX} {h : SH} {nc ns : Nat} {P : Out → SH → Prop} {a0 : Nat} {x1 : Int32} (kt : (0 : Int32) ≤ x1 → Gd X mX11_prints 14 [some (.ref a0), some (.int x1), none, none, none, none] [] (h) nc ns P) (kf : ¬ (0 : Int32) ≤ x1 → Gd X mX11_prints 8 [some (.ref a0), some (.int x1), none, none, none, none] [] (h) nc ns P) : Gd X mX11_prints 4 [some (.ref a0), some (.int x1), none, none, none, none] [] h nc ns P := by
  refine g_iload_n dX11_prints_4 rfl ?_
  exact g_if_ge (tgt := 14) dX11_prints_5 (by decide) (fun q => Gd.wk (kt q) ⟨rfl, ⟨rfl, trivial⟩⟩) (fun q => Gd.wk (kf q) ⟨rfl, ⟨rfl, trivial⟩⟩)
theorem bkX11_prints_8 {X : GX} {h : SH} {nc ns : Nat} {P : Out → SH → Prop} {a0 : Nat} {x1 : Int32} (g : Gd X mX11_prints 16 [some (.ref a0), some (.int x1), none, none, none, none] [.long (-((x1 : Int32).toInt64))] (h) nc ns P) : Gd X mX11_prints 8 [some (.ref a0), some (.int x1), none, none, none, none] [] h nc ns P := by
  refine g_iload_n dX11_prints_8 rfl ?_
  refine g_i2l dX11_prints_9 ?_
  refine g_lneg dX11_prints_10 ?_
  refine g_goto (tgt := 16) dX11_prints_11 (by decide) ?_
  exact Gd.wk g ⟨rfl, ⟨rfl, trivial⟩⟩
theorem bkX11_prints_14 {X : GX} {h : SH} {nc ns : Nat} {P : Out → SH → Prop} {a0 : Nat} {x1 : Int32} (g : Gd X mX11_prints 16 [some (.ref a0), some (.int x1), none, none, none, none] [.long ((x1 : Int32).toInt64)] (h) nc ns P) : Gd X mX11_prints 14 [some (.ref a0), some (.int x1), none, none, none, none] [] h nc ns P := by
  refine g_iload_n dX11_prints_14 rfl ?_
  refine g_i2l dX11_prints_15 ?_
  exact Gd.wk g ⟨rfl, ⟨rfl, trivial⟩⟩
theorem bkX11_prints_16 {X : GX} {h : SH} {nc ns : Nat} {P : Out → SH → Prop} {a0 : Nat} {x1 : Int32} {ys0 : Int64} (kt : (0 : Int32) ≤ x1 → Gd X mX11_prints 27 [some (.ref a0), none, some (.long ys0), none, none, none] [] (h) nc ns P) (kf : ¬ (0 : Int32) ≤ x1 → Gd X mX11_prints 21 [some (.ref a0), none, some (.long ys0), none, none, none] [] (h) nc ns P) : Gd X mX11_prints 16 [some (.ref a0), some (.int x1), none, none, none, none] [.long ys0] h nc ns P := by
  refine g_lstore_n (L' := [some (.ref a0), some (.int x1), some (.long ys0), none, none, none]) dX11_prints_16 (by decide) rfl ?_
  refine g_iload_n dX11_prints_17 rfl ?_
  exact g_if_ge (tgt := 27) dX11_prints_18 (by decide) (fun q => Gd.wk (kt q) ⟨rfl, ⟨rfl, trivial⟩⟩) (fun q => Gd.wk (kf q) ⟨rfl, ⟨rfl, trivial⟩⟩)
theorem bkX11_prints_21 {X : GX} {h : SH} {nc ns : Nat} {P : Out → SH → Prop} {Q : SH → Prop} {a0 : Nat} {y2 : Int64} (F0 : LX11 (Sk h) (a0)) (hN : Cd X mX11_put [.ref a0, .int 45] (h) 0 0 (oV Q nX)) (g : ∀ t, Q t → Gd X mX11_prints 27 [some (.ref a0), none, some (.long y2), none, none, none] [] (t) nc ns P) : Gd X mX11_prints 21 [some (.ref a0), none, some (.long y2), none, none, none] [] h nc ns P := by
  refine g_aload_n dX11_prints_21 rfl ?_
  refine g_bipush (v := 45) dX11_prints_22 (by decide) ?_
  refine Gd.z ?_
  exact g_callV (k := 11) [.int 45] dX11_prints_24 mfX11_put ⟨by decide, by decide⟩ kw_1511 kw_1513 kw_84 rfl (by decide) (Nat.le_of_ble_eq_true rfl) (by intro x hx; cases hx) (LX11.o (h := h) F0) (Nat.le_of_ble_eq_true rfl) hN (fun _ _ q => q.elim) (oV_go (G := fun a b => Gd X mX11_prints 27 _ a b nc ns P) (fun t q => Gd.wk (g t q) ⟨rfl, ⟨rfl, trivial⟩⟩))
theorem bkX11_prints_27 {X : GX} {h : SH} {nc ns : Nat} {P : Out → SH → Prop} {a0 : Nat} {y2 : Int64} (g : Gd X mX11_prints 30 [some (.ref a0), none, some (.long y2), none, some (.long 1), none] [] (h) nc ns P) : Gd X mX11_prints 27 [some (.ref a0), none, some (.long y2), none, none, none] [] h nc ns P := by
  refine g_lconst (v := 1) dX11_prints_27 (by decide) ?_
  refine g_lstore (L' := [some (.ref a0), none, some (.long y2), none, some (.long 1), none]) dX11_prints_28 (by decide) rfl ?_
  exact Gd.wk g ⟨rfl, ⟨rfl, ⟨rfl, trivial⟩⟩⟩
theorem bkX11_prints_30 {X : GX} {h : SH} {nc ns : Nat} {P : Out → SH → Prop} {a0 : Nat} {y2 : Int64} {y4 : Int64} (z0 : ¬ (y4 : Int64) = 0) (kt : (lg_cmp (y2 / y4) 9) ≤ 0 → Gd X mX11_prints 52 [some (.ref a0), none, some (.long y2), none, some (.long y4), none] [] (h) nc ns P) (kf : ¬ (lg_cmp (y2 / y4) 9) ≤ 0 → Gd X mX11_prints 41 [some (.ref a0), none, some (.long y2), none, some (.long y4), none] [] (h) nc ns P) : Gd X mX11_prints 30 [some (.ref a0), none, some (.long y2), none, some (.long y4), none] [] h nc ns P := by
  refine g_lload_n dX11_prints_30 rfl ?_
  refine g_lload dX11_prints_31 rfl ?_
  refine g_ldiv dX11_prints_33 z0 ?_
  refine g_ldc2 (v := 9) dX11_prints_34 kw_1515 ?_
  refine g_lcmp dX11_prints_37 ?_
  exact g_if_le (tgt := 52) dX11_prints_38 (by decide) (fun q => Gd.wk (kt q) ⟨rfl, ⟨rfl, ⟨rfl, trivial⟩⟩⟩) (fun q => Gd.wk (kf q) ⟨rfl, ⟨rfl, ⟨rfl, trivial⟩⟩⟩)
theorem bkX11_prints_41 {X : GX} {h : SH} {nc ns : Nat} {P : Out → SH → Prop} {a0 : Nat} {y2 : Int64} {y4 : Int64} (g : Gd X mX11_prints 30 [some (.ref a0), none, some (.long y2), none, some (.long (y4 * 10)), none] [] (h) nc ns P) : Gd X mX11_prints 41 [some (.ref a0), none, some (.long y2), none, some (.long y4), none] [] h nc ns P := by
  refine g_lload dX11_prints_41 rfl ?_
  refine g_ldc2 (v := 10) dX11_prints_43 kw_1320 ?_
  refine g_lmul dX11_prints_46 ?_
  refine g_lstore (L' := [some (.ref a0), none, some (.long y2), none, some (.long (y4 * 10)), none]) dX11_prints_47 (by decide) rfl ?_
  refine g_goto (tgt := 30) dX11_prints_49 (by decide) ?_
  exact Gd.wk g ⟨rfl, ⟨rfl, ⟨rfl, trivial⟩⟩⟩
theorem bkX11_prints_52 {X : GX} {h : SH} {nc ns : Nat} {P : Out → SH → Prop} {a0 : Nat} {y2 : Int64} {y4 : Int64} (kt : (lg_cmp y4 0) ≤ 0 → Gd X mX11_prints 87 [none, none, none, none, none, none] [] (h) nc ns P) (kf : ¬ (lg_cmp y4 0) ≤ 0 → Gd X mX11_prints 59 [some (.ref a0), none, some (.long y2), none, some (.long y4), none] [] (h) nc ns P) : Gd X mX11_prints 52 [some (.ref a0), none, some (.long y2), none, some (.long y4), none] [] h nc ns P := by
  refine g_lload dX11_prints_52 rfl ?_
  refine g_lconst (v := 0) dX11_prints_54 (by decide) ?_
  refine g_lcmp dX11_prints_55 ?_
  exact g_if_le (tgt := 87) dX11_prints_56 (by decide) (fun q => Gd.wk (kt q) trivial) (fun q => Gd.wk (kf q) ⟨rfl, ⟨rfl, ⟨rfl, trivial⟩⟩⟩)
theorem bkX11_prints_59 {X : GX} {h : SH} {nc ns : Nat} {P : Out → SH → Prop} {Q : SH → Prop} {a0 : Nat} {y2 : Int64} {y4 : Int64} (z0 : ¬ (y4 : Int64) = 0) (F1 : LX11 (Sk h) (a0)) (hN : Cd X mX11_put [.ref a0, .int ((48 + ((y2 / y4) - (y2 / y4) / 10 * 10) : Int64).toInt32)] (h) 0 0 (oV Q nX)) (g : ∀ t, Q t → Gd X mX11_prints 76 [some (.ref a0), none, some (.long y2), none, some (.long y4), none] [] (t) nc ns P) : Gd X mX11_prints 59 [some (.ref a0), none, some (.long y2), none, some (.long y4), none] [] h nc ns P := by
  refine g_aload_n dX11_prints_59 rfl ?_
  refine g_ldc2 (v := 48) dX11_prints_60 kw_1321 ?_
  refine g_lload_n dX11_prints_63 rfl ?_
  refine g_lload dX11_prints_64 rfl ?_
  refine g_ldiv dX11_prints_66 z0 ?_
  refine g_ldc2 (v := 10) dX11_prints_67 kw_1320 ?_
  refine g_lrem dX11_prints_70 (by decide) ?_
  refine g_ladd dX11_prints_71 ?_
  refine g_l2i dX11_prints_72 ?_
  refine Gd.z ?_
  exact g_callV (k := 11) [.int ((48 + ((y2 / y4) - (y2 / y4) / 10 * 10) : Int64).toInt32)] dX11_prints_73 mfX11_put ⟨by decide, by decide⟩ kw_1511 kw_1513 kw_84 rfl (by decide) (Nat.le_of_ble_eq_true rfl) (by intro x hx; cases hx) (LX11.o (h := h) F1) (Nat.le_of_ble_eq_true rfl) hN (fun _ _ q => q.elim) (oV_go (G := fun a b => Gd X mX11_prints 76 _ a b nc ns P) (fun t q => Gd.wk (g t q) ⟨rfl, ⟨rfl, ⟨rfl, trivial⟩⟩⟩))
theorem bkX11_prints_76 {X : GX} {h : SH} {nc ns : Nat} {P : Out → SH → Prop} {a0 : Nat} {y2 : Int64} {y4 : Int64} (g : Gd X mX11_prints 52 [some (.ref a0), none, some (.long y2), none, some (.long (y4 / 10)), none] [] (h) nc ns P) : Gd X mX11_prints 76 [some (.ref a0), none, some (.long y2), none, some (.long y4), none] [] h nc ns P := by
  refine g_lload dX11_prints_76 rfl ?_
  refine g_ldc2 (v := 10) dX11_prints_78 kw_1320 ?_
  refine g_ldiv dX11_prints_81 (by decide) ?_
  refine g_lstore (L' := [some (.ref a0), none, some (.long y2), none, some (.long (y4 / 10)), none]) dX11_prints_82 (by decide) rfl ?_
  refine g_goto (tgt := 52) dX11_prints_84 (by decide) ?_
  exact Gd.wk g ⟨rfl, ⟨rfl, ⟨rfl, trivial⟩⟩⟩
theorem bkX11_prints_87 {X : GX} {h : SH} {nc ns : Nat} {P : Out → SH → Prop} (hp : P (.inl (none)) (h)) : Gd X mX11_prints 87 [none, none, none, none, none, none] [] h nc ns P := by
  exact g_return (st := []) dX11_prints_87 rfl hp
theorem bkX11_printsWord_0 {X : GX} {h : SH} {nc ns : Nat} {P : Out → SH → Prop} {Q : SH → Prop} {a0 : Nat} {y1 : Int64} (F0 : LX11 (Sk h) (a0)) (hN : Cd X mX11_blank [.ref a0] (h) 0 0 (oV Q nX)) (g : ∀ t, Q t → Gd X mX11_printsWord 4 [some (.ref a0), some (.long y1), none, none, none] [] (t) nc ns P) : Gd X mX11_printsWord 0 [some (.ref a0), some (.long y1), none, none, none] [] h nc ns P := by
  refine g_aload_n dX11_printsWord_0 rfl ?_
  refine Gd.z ?_
  exact g_callV (k := 11) [] dX11_printsWord_1 mfX11_blank ⟨by decide, by decide⟩ kw_1507 kw_1509 kw_83 rfl (by decide) (Nat.le_of_ble_eq_true rfl) (by intro x hx; cases hx) (LX11.o (h := h) F0) (Nat.le_of_ble_eq_true rfl) hN (fun _ _ q => q.elim) (oV_go (G := fun a b => Gd X mX11_printsWord 4 _ a b nc ns P) (fun t q => Gd.wk (g t q) ⟨rfl, ⟨rfl, trivial⟩⟩))
theorem bkX11_printsWord_4 {X : GX} {h : SH} {nc ns : Nat} {P : Out → SH → Prop} {a0 : Nat} {y1 : Int64} (g : Gd X mX11_printsWord 6 [some (.ref a0), some (.long y1), none, some (.long 1), none] [] (h) nc ns P) : Gd X mX11_printsWord 4 [some (.ref a0), some (.long y1), none, none, none] [] h nc ns P := by
  refine g_lconst (v := 1) dX11_printsWord_4 (by decide) ?_
  refine g_lstore_n (L' := [some (.ref a0), some (.long y1), none, some (.long 1), none]) dX11_printsWord_5 (by decide) rfl ?_
  exact Gd.wk g ⟨rfl, ⟨rfl, ⟨rfl, trivial⟩⟩⟩
theorem bkX11_printsWord_6 {X : GX} {h : SH} {nc ns : Nat} {P : Out → SH → Prop} {a0 : Nat} {y1 : Int64} {y3 : Int64} (z0 : ¬ (y3 : Int64) = 0) (kt : (lg_cmp (y1 / y3) 37) < 0 → Gd X mX11_printsWord 25 [some (.ref a0), some (.long y1), none, some (.long y3), none] [] (h) nc ns P) (kf : ¬ (lg_cmp (y1 / y3) 37) < 0 → Gd X mX11_printsWord 16 [some (.ref a0), some (.long y1), none, some (.long y3), none] [] (h) nc ns P) : Gd X mX11_printsWord 6 [some (.ref a0), some (.long y1), none, some (.long y3), none] [] h nc ns P := by
  refine g_lload_n dX11_printsWord_6 rfl ?_
  refine g_lload_n dX11_printsWord_7 rfl ?_
  refine g_ldiv dX11_printsWord_8 z0 ?_
  refine g_ldc2 (v := 37) dX11_printsWord_9 kw_1313 ?_
  refine g_lcmp dX11_printsWord_12 ?_
  exact g_if_lt (tgt := 25) dX11_printsWord_13 (by decide) (fun q => Gd.wk (kt q) ⟨rfl, ⟨rfl, ⟨rfl, trivial⟩⟩⟩) (fun q => Gd.wk (kf q) ⟨rfl, ⟨rfl, ⟨rfl, trivial⟩⟩⟩)
theorem bkX11_printsWord_16 {X : GX} {h : SH} {nc ns : Nat} {P : Out → SH → Prop} {a0 : Nat} {y1 : Int64} {y3 : Int64} (g : Gd X mX11_printsWord 6 [some (.ref a0), some (.long y1), none, some (.long (y3 * 37)), none] [] (h) nc ns P) : Gd X mX11_printsWord 16 [some (.ref a0), some (.long y1), none, some (.long y3), none] [] h nc ns P := by
  refine g_lload_n dX11_printsWord_16 rfl ?_
  refine g_ldc2 (v := 37) dX11_printsWord_17 kw_1313 ?_
  refine g_lmul dX11_printsWord_20 ?_
  refine g_lstore_n (L' := [some (.ref a0), some (.long y1), none, some (.long (y3 * 37)), none]) dX11_printsWord_21 (by decide) rfl ?_
  refine g_goto (tgt := 6) dX11_printsWord_22 (by decide) ?_
  exact Gd.wk g ⟨rfl, ⟨rfl, ⟨rfl, trivial⟩⟩⟩
theorem bkX11_printsWord_25 {X : GX} {h : SH} {nc ns : Nat} {P : Out → SH → Prop} {a0 : Nat} {y1 : Int64} {y3 : Int64} (kt : (lg_cmp y3 0) ≤ 0 → Gd X mX11_printsWord 56 [none, none, none, none, none] [] (h) nc ns P) (kf : ¬ (lg_cmp y3 0) ≤ 0 → Gd X mX11_printsWord 31 [some (.ref a0), some (.long y1), none, some (.long y3), none] [] (h) nc ns P) : Gd X mX11_printsWord 25 [some (.ref a0), some (.long y1), none, some (.long y3), none] [] h nc ns P := by
  refine g_lload_n dX11_printsWord_25 rfl ?_
  refine g_lconst (v := 0) dX11_printsWord_26 (by decide) ?_
  refine g_lcmp dX11_printsWord_27 ?_
  exact g_if_le (tgt := 56) dX11_printsWord_28 (by decide) (fun q => Gd.wk (kt q) trivial) (fun q => Gd.wk (kf q) ⟨rfl, ⟨rfl, ⟨rfl, trivial⟩⟩⟩)
theorem bkX11_printsWord_31 {X : GX} {h : SH} {nc ns : Nat} {P : Out → SH → Prop} {Q : SH → Prop} {a0 : Nat} {y1 : Int64} {y3 : Int64} (z0 : ¬ (y3 : Int64) = 0) (F1 : LX11 (Sk h) (a0)) (hN : Cd X mX11_put [.ref a0, .int ((96 + ((y1 / y3) - (y1 / y3) / 37 * 37) : Int64).toInt32)] (h) 0 0 (oV Q nX)) (g : ∀ t, Q t → Gd X mX11_printsWord 47 [some (.ref a0), some (.long y1), none, some (.long y3), none] [] (t) nc ns P) : Gd X mX11_printsWord 31 [some (.ref a0), some (.long y1), none, some (.long y3), none] [] h nc ns P := by
  refine g_aload_n dX11_printsWord_31 rfl ?_
  refine g_ldc2 (v := 96) dX11_printsWord_32 kw_1520 ?_
  refine g_lload_n dX11_printsWord_35 rfl ?_
  refine g_lload_n dX11_printsWord_36 rfl ?_
  refine g_ldiv dX11_printsWord_37 z0 ?_
  refine g_ldc2 (v := 37) dX11_printsWord_38 kw_1313 ?_
  refine g_lrem dX11_printsWord_41 (by decide) ?_
  refine g_ladd dX11_printsWord_42 ?_
  refine g_l2i dX11_printsWord_43 ?_
  refine Gd.z ?_
  exact g_callV (k := 11) [.int ((96 + ((y1 / y3) - (y1 / y3) / 37 * 37) : Int64).toInt32)] dX11_printsWord_44 mfX11_put ⟨by decide, by decide⟩ kw_1511 kw_1513 kw_84 rfl (by decide) (Nat.le_of_ble_eq_true rfl) (by intro x hx; cases hx) (LX11.o (h := h) F1) (Nat.le_of_ble_eq_true rfl) hN (fun _ _ q => q.elim) (oV_go (G := fun a b => Gd X mX11_printsWord 47 _ a b nc ns P) (fun t q => Gd.wk (g t q) ⟨rfl, ⟨rfl, ⟨rfl, trivial⟩⟩⟩))
theorem bkX11_printsWord_47 {X : GX} {h : SH} {nc ns : Nat} {P : Out → SH → Prop} {a0 : Nat} {y1 : Int64} {y3 : Int64} (g : Gd X mX11_printsWord 25 [some (.ref a0), some (.long y1), none, some (.long (y3 / 37)), none] [] (h) nc ns P) : Gd X mX11_printsWord 47 [some (.ref a0), some (.long y1), none, some (.long y3), none] [] h nc ns P := by
  refine g_lload_n dX11_printsWord_47 rfl ?_
  refine g_ldc2 (v := 37) dX11_printsWord_48 kw_1313 ?_
  refine g_ldiv dX11_printsWord_51 (by decide) ?_
  refine g_lstore_n (L' := [some (.ref a0), some (.long y1), none, some (.long (y3 / 37)), none]) dX11_printsWord_52 (by decide) rfl ?_
  refine g_goto (tgt := 25) dX11_printsWord_53 (by decide) ?_
  exact Gd.wk g ⟨rfl, ⟨rfl, ⟨rfl, trivial⟩⟩⟩
theorem bkX11_printsWord_56 {X : GX} {h : SH} {nc ns : Nat} {P : Out → SH → Prop} (hp : P (.inl (none)) (h)) : Gd X mX11_printsWord 56 [none, none, none, none, none] [] h nc ns P := by
  exact g_return (st := []) dX11_printsWord_56 rfl hp
theorem bkX11_printsPart_0 {X : GX} {h : SH} {nc ns : Nat} {P : Out → SH → Prop} {Q : SH → Prop} {a0 : Nat} {x1 : Int32} {x2 : Int32} {x3 : Int32} (F0 : LX11 (Sk h) (a0)) (i1 : vp_in (x2) 12) (hN : Cd X mX11_prints [.ref a0, .int (x2 + 1)] (h) 0 0 (oV Q nX)) (g : ∀ t, Q t → Gd X mX11_printsPart 15 [some (.ref a0), some (.int x1), none, some (.int x3), some (.int (hI h (a0 + 32) ((x2 : Int32).toNatClampNeg))), none, none] [] (t) nc ns P) : Gd X mX11_printsPart 0 [some (.ref a0), some (.int x1), some (.int x2), some (.int x3), none, none, none] [] h nc ns P := by
  refine g_aload_n dX11_printsPart_0 rfl ?_
  refine g_getAs (c := 11) (k := 42) (b := a0 + 32) dX11_printsPart_1 (by decide) (by decide) kw_1169 rfl (LX11.o (h := h) F0) (LX11.r_part (h := h) F0) ?_
  refine g_iload_n dX11_printsPart_4 rfl ?_
  refine g_iaload dX11_printsPart_5 (LX11.a_part (h := h) F0) i1 ?_
  refine g_istore (L' := [some (.ref a0), some (.int x1), some (.int x2), some (.int x3), some (.int (hI h (a0 + 32) ((x2 : Int32).toNatClampNeg))), none, none]) dX11_printsPart_6 (by decide) rfl ?_
  refine g_aload_n dX11_printsPart_8 rfl ?_
  refine g_iload_n dX11_printsPart_9 rfl ?_
  refine g_iconst (v := 1) dX11_printsPart_10 (by decide) ?_
  refine g_iadd dX11_printsPart_11 ?_
  refine Gd.z ?_
  exact g_callV (k := 11) [.int (x2 + 1)] dX11_printsPart_12 mfX11_prints ⟨by decide, by decide⟩ kw_1503 kw_1505 kw_82 rfl (by decide) (Nat.le_of_ble_eq_true rfl) (by intro x hx; cases hx) (LX11.o (h := h) F0) (Nat.le_of_ble_eq_true rfl) hN (fun _ _ q => q.elim) (oV_go (G := fun a b => Gd X mX11_printsPart 15 _ a b nc ns P) (fun t q => Gd.wk (g t q) ⟨rfl, ⟨rfl, ⟨rfl, ⟨rfl, trivial⟩⟩⟩⟩))
theorem bkX11_printsPart_15 {X : GX} {h : SH} {nc ns : Nat} {P : Out → SH → Prop} {a0 : Nat} {x1 : Int32} {x3 : Int32} {x4 : Int32} (g : Gd X mX11_printsPart 27 [some (.ref a0), some (.int x1), none, some (.int x3), some (.int x4), some (.int (20 * ((12 * x1) + x4))), none] [] (h) nc ns P) : Gd X mX11_printsPart 15 [some (.ref a0), some (.int x1), none, some (.int x3), some (.int x4), none, none] [] h nc ns P := by
  refine g_bipush (v := 20) dX11_printsPart_15 (by decide) ?_
  refine g_bipush (v := 12) dX11_printsPart_17 (by decide) ?_
  refine g_iload_n dX11_printsPart_19 rfl ?_
  refine g_imul dX11_printsPart_20 ?_
  refine g_iload dX11_printsPart_21 rfl ?_
  refine g_iadd dX11_printsPart_23 ?_
  refine g_imul dX11_printsPart_24 ?_
  refine g_istore (L' := [some (.ref a0), some (.int x1), none, some (.int x3), some (.int x4), some (.int (20 * ((12 * x1) + x4))), none]) dX11_printsPart_25 (by decide) rfl ?_
  exact Gd.wk g ⟨rfl, ⟨rfl, ⟨rfl, ⟨rfl, ⟨rfl, trivial⟩⟩⟩⟩⟩
theorem bkX11_printsPart_27 {X : GX} {h : SH} {nc ns : Nat} {P : Out → SH → Prop} {a0 : Nat} {x1 : Int32} {x3 : Int32} {x4 : Int32} {x5 : Int32} (F0 : LX11 (Sk h) (a0)) (i1 : vp_in ((12 * x1) + x4) 84) (kt : ((20 * ((12 * x1) + x4)) + (hI h (a0 + 19) (((12 * x1) + x4 : Int32).toNatClampNeg))) ≤ x5 → Gd X mX11_printsPart 155 [none, none, none, none, none, none, none] [] (h) nc ns P) (kf : ¬ ((20 * ((12 * x1) + x4)) + (hI h (a0 + 19) (((12 * x1) + x4 : Int32).toNatClampNeg))) ≤ x5 → Gd X mX11_printsPart 55 [some (.ref a0), some (.int x1), none, some (.int x3), some (.int x4), some (.int x5), none] [] (h) nc ns P) : Gd X mX11_printsPart 27 [some (.ref a0), some (.int x1), none, some (.int x3), some (.int x4), some (.int x5), none] [] h nc ns P := by
  refine g_iload dX11_printsPart_27 rfl ?_
  refine g_bipush (v := 20) dX11_printsPart_29 (by decide) ?_
  refine g_bipush (v := 12) dX11_printsPart_31 (by decide) ?_
  refine g_iload_n dX11_printsPart_33 rfl ?_
  refine g_imul dX11_printsPart_34 ?_
  refine g_iload dX11_printsPart_35 rfl ?_
  refine g_iadd dX11_printsPart_37 ?_
  refine g_imul dX11_printsPart_38 ?_
  refine g_aload_n dX11_printsPart_39 rfl ?_
  refine g_getAs (c := 11) (k := 24) (b := a0 + 19) dX11_printsPart_40 (by decide) (by decide) kw_1151 rfl (LX11.o (h := h) F0) (LX11.r_items (h := h) F0) ?_
  refine g_bipush (v := 12) dX11_printsPart_43 (by decide) ?_
  refine g_iload_n dX11_printsPart_45 rfl ?_
  refine g_imul dX11_printsPart_46 ?_
  refine g_iload dX11_printsPart_47 rfl ?_
  refine g_iadd dX11_printsPart_49 ?_
  refine g_iaload dX11_printsPart_50 (LX11.a_items (h := h) F0) i1 ?_
  refine g_iadd dX11_printsPart_51 ?_
  exact g_icmp_ge (tgt := 155) dX11_printsPart_52 (by decide) (fun q => Gd.wk (kt q) trivial) (fun q => Gd.wk (kf q) ⟨rfl, ⟨rfl, ⟨rfl, ⟨rfl, ⟨rfl, trivial⟩⟩⟩⟩⟩)
theorem bkX11_printsPart_55 {X : GX} {h : SH} {nc ns : Nat} {P : Out → SH → Prop} {a0 : Nat} {x1 : Int32} {x3 : Int32} {x4 : Int32} {x5 : Int32} (F0 : LX11 (Sk h) (a0)) (i1 : vp_in (x5) 1680) (kt : ¬ (hI h (a0 + 20) ((x5 : Int32).toNatClampNeg)) = 0 → Gd X mX11_printsPart 79 [some (.ref a0), some (.int x1), none, some (.int x3), some (.int x4), some (.int x5), none] [] (h) nc ns P) (kf : (hI h (a0 + 20) ((x5 : Int32).toNatClampNeg)) = 0 → Gd X mX11_printsPart 65 [some (.ref a0), some (.int x1), none, some (.int x3), some (.int x4), some (.int x5), none] [] (h) nc ns P) : Gd X mX11_printsPart 55 [some (.ref a0), some (.int x1), none, some (.int x3), some (.int x4), some (.int x5), none] [] h nc ns P := by
  refine g_aload_n dX11_printsPart_55 rfl ?_
  refine g_getAs (c := 11) (k := 25) (b := a0 + 20) dX11_printsPart_56 (by decide) (by decide) kw_1152 rfl (LX11.o (h := h) F0) (LX11.r_itemKind (h := h) F0) ?_
  refine g_iload dX11_printsPart_59 rfl ?_
  refine g_iaload dX11_printsPart_61 (LX11.a_itemKind (h := h) F0) i1 ?_
  exact g_if_ne (tgt := 79) dX11_printsPart_62 (by decide) (fun q => Gd.wk (kt q) ⟨rfl, ⟨rfl, ⟨rfl, ⟨rfl, ⟨rfl, trivial⟩⟩⟩⟩⟩) (fun q => Gd.wk (kf q) ⟨rfl, ⟨rfl, ⟨rfl, ⟨rfl, ⟨rfl, trivial⟩⟩⟩⟩⟩)
theorem bkX11_printsPart_65 {X : GX} {h : SH} {nc ns : Nat} {P : Out → SH → Prop} {Q : SH → Prop} {a0 : Nat} {x1 : Int32} {x3 : Int32} {x4 : Int32} {x5 : Int32} (F0 : LX11 (Sk h) (a0)) (i1 : vp_in (x5) 1680) (hN : Cd X mX11_printsWord [.ref a0, .long (hJ h (a0 + 22) ((x5 : Int32).toNatClampNeg))] (h) 0 0 (oV Q nX)) (g : ∀ t, Q t → Gd X mX11_printsPart 76 [some (.ref a0), some (.int x1), none, some (.int x3), some (.int x4), some (.int x5), none] [] (t) nc ns P) : Gd X mX11_printsPart 65 [some (.ref a0), some (.int x1), none, some (.int x3), some (.int x4), some (.int x5), none] [] h nc ns P := by
  refine g_aload_n dX11_printsPart_65 rfl ?_
  refine g_aload_n dX11_printsPart_66 rfl ?_
  refine g_getAs (c := 11) (k := 27) (b := a0 + 22) dX11_printsPart_67 (by decide) (by decide) kw_1154 rfl (LX11.o (h := h) F0) (LX11.r_itemWord (h := h) F0) ?_
  refine g_iload dX11_printsPart_70 rfl ?_
  refine g_laload dX11_printsPart_72 (LX11.a_itemWord (h := h) F0) i1 ?_
  refine Gd.z ?_
  exact g_callV (k := 11) [.long (hJ h (a0 + 22) ((x5 : Int32).toNatClampNeg))] dX11_printsPart_73 mfX11_printsWord ⟨by decide, by decide⟩ kw_1516 kw_1518 kw_85 rfl (by decide) (Nat.le_of_ble_eq_true rfl) (by intro x hx; cases hx) (LX11.o (h := h) F0) (Nat.le_of_ble_eq_true rfl) hN (fun _ _ q => q.elim) (oV_go (G := fun a b => Gd X mX11_printsPart 76 _ a b nc ns P) (fun t q => Gd.wk (g t q) ⟨rfl, ⟨rfl, ⟨rfl, ⟨rfl, ⟨rfl, trivial⟩⟩⟩⟩⟩))
theorem bkX11_printsPart_76 {X : GX} {h : SH} {nc ns : Nat} {P : Out → SH → Prop} {a0 : Nat} {x1 : Int32} {x3 : Int32} {x4 : Int32} {x5 : Int32} (g : Gd X mX11_printsPart 149 [some (.ref a0), some (.int x1), none, some (.int x3), some (.int x4), some (.int x5), none] [] (h) nc ns P) : Gd X mX11_printsPart 76 [some (.ref a0), some (.int x1), none, some (.int x3), some (.int x4), some (.int x5), none] [] h nc ns P := by
  refine g_goto (tgt := 149) dX11_printsPart_76 (by decide) ?_
  exact Gd.wk g ⟨rfl, ⟨rfl, ⟨rfl, ⟨rfl, ⟨rfl, trivial⟩⟩⟩⟩⟩
theorem bkX11_printsPart_79 {X : GX} {h : SH} {nc ns : Nat} {P : Out → SH → Prop} {a0 : Nat} {x1 : Int32} {x3 : Int32} {x4 : Int32} {x5 : Int32} (F0 : LX11 (Sk h) (a0)) (i1 : vp_in (x5) 1680) (kt : ¬ (hI h (a0 + 20) ((x5 : Int32).toNatClampNeg)) = 2 → Gd X mX11_printsPart 108 [some (.ref a0), some (.int x1), none, some (.int x3), some (.int x4), some (.int x5), none] [] (h) nc ns P) (kf : (hI h (a0 + 20) ((x5 : Int32).toNatClampNeg)) = 2 → Gd X mX11_printsPart 90 [some (.ref a0), some (.int x1), none, some (.int x3), some (.int x4), some (.int x5), none] [] (h) nc ns P) : Gd X mX11_printsPart 79 [some (.ref a0), some (.int x1), none, some (.int x3), some (.int x4), some (.int x5), none] [] h nc ns P := by
  refine g_aload_n dX11_printsPart_79 rfl ?_
  refine g_getAs (c := 11) (k := 25) (b := a0 + 20) dX11_printsPart_80 (by decide) (by decide) kw_1152 rfl (LX11.o (h := h) F0) (LX11.r_itemKind (h := h) F0) ?_
  refine g_iload dX11_printsPart_83 rfl ?_
  refine g_iaload dX11_printsPart_85 (LX11.a_itemKind (h := h) F0) i1 ?_
  refine g_iconst (v := 2) dX11_printsPart_86 (by decide) ?_
  exact g_icmp_ne (tgt := 108) dX11_printsPart_87 (by decide) (fun q => Gd.wk (kt q) ⟨rfl, ⟨rfl, ⟨rfl, ⟨rfl, ⟨rfl, trivial⟩⟩⟩⟩⟩) (fun q => Gd.wk (kf q) ⟨rfl, ⟨rfl, ⟨rfl, ⟨rfl, ⟨rfl, trivial⟩⟩⟩⟩⟩)
theorem bkX11_printsPart_90 {X : GX} {h : SH} {nc ns : Nat} {P : Out → SH → Prop} {Q : Int32 → SH → Prop} {a0 : Nat} {x1 : Int32} {x3 : Int32} {x4 : Int32} {x5 : Int32} (F0 : LX11 (Sk h) (a0)) (i1 : vp_in (x5) 1680) (hN : Cd X mX11_partOf [.ref a0, .int (hI h (a0 + 21) ((x5 : Int32).toNatClampNeg))] (h) 0 0 (oI Q nX)) (g : ∀ r t, Q r t → Gd X mX11_printsPart 102 [some (.ref a0), some (.int x1), none, some (.int x3), some (.int x4), some (.int x5), none] [.int r, .ref a0] (t) nc ns P) : Gd X mX11_printsPart 90 [some (.ref a0), some (.int x1), none, some (.int x3), some (.int x4), some (.int x5), none] [] h nc ns P := by
  refine g_aload_n dX11_printsPart_90 rfl ?_
  refine g_aload_n dX11_printsPart_91 rfl ?_
  refine g_aload_n dX11_printsPart_92 rfl ?_
  refine g_getAs (c := 11) (k := 26) (b := a0 + 21) dX11_printsPart_93 (by decide) (by decide) kw_1153 rfl (LX11.o (h := h) F0) (LX11.r_itemAt (h := h) F0) ?_
  refine g_iload dX11_printsPart_96 rfl ?_
  refine g_iaload dX11_printsPart_98 (LX11.a_itemAt (h := h) F0) i1 ?_
  refine Gd.z ?_
  exact g_callV (k := 11) [.int (hI h (a0 + 21) ((x5 : Int32).toNatClampNeg))] dX11_printsPart_99 mfX11_partOf ⟨by decide, by decide⟩ kw_1521 kw_1523 kw_86 rfl (by decide) (Nat.le_of_ble_eq_true rfl) (by intro x hx; cases hx) (LX11.o (h := h) F0) (Nat.le_of_ble_eq_true rfl) hN (fun _ _ q => q.elim) (oI_go (G := fun a b => Gd X mX11_printsPart 102 _ a b nc ns P) (fun r t q => Gd.wk (g r t q) ⟨rfl, ⟨rfl, ⟨rfl, ⟨rfl, ⟨rfl, trivial⟩⟩⟩⟩⟩))
theorem bkX11_printsPart_102 {X : GX} {h : SH} {nc ns : Nat} {P : Out → SH → Prop} {Q : SH → Prop} {a0 : Nat} {x1 : Int32} {x3 : Int32} {x4 : Int32} {x5 : Int32} {as0 : Nat} {xs1 : Int32} (F0 : LX11 (Sk h) (as0)) (hN : Cd X mX11_prints [.ref as0, .int xs1] (h) 0 0 (oV Q nX)) (g : ∀ t, Q t → Gd X mX11_printsPart 105 [some (.ref a0), some (.int x1), none, some (.int x3), some (.int x4), some (.int x5), none] [] (t) nc ns P) : Gd X mX11_printsPart 102 [some (.ref a0), some (.int x1), none, some (.int x3), some (.int x4), some (.int x5), none] [.int xs1, .ref as0] h nc ns P := by
  refine Gd.z ?_
  exact g_callV (k := 11) [.int xs1] dX11_printsPart_102 mfX11_prints ⟨by decide, by decide⟩ kw_1503 kw_1505 kw_82 rfl (by decide) (Nat.le_of_ble_eq_true rfl) (by intro x hx; cases hx) (LX11.o (h := h) F0) (Nat.le_of_ble_eq_true rfl) hN (fun _ _ q => q.elim) (oV_go (G := fun a b => Gd X mX11_printsPart 105 _ a b nc ns P) (fun t q => Gd.wk (g t q) ⟨rfl, ⟨rfl, ⟨rfl, ⟨rfl, ⟨rfl, trivial⟩⟩⟩⟩⟩))
theorem bkX11_printsPart_105 {X : GX} {h : SH} {nc ns : Nat} {P : Out → SH → Prop} {a0 : Nat} {x1 : Int32} {x3 : Int32} {x4 : Int32} {x5 : Int32} (g : Gd X mX11_printsPart 149 [some (.ref a0), some (.int x1), none, some (.int x3), some (.int x4), some (.int x5), none] [] (h) nc ns P) : Gd X mX11_printsPart 105 [some (.ref a0), some (.int x1), none, some (.int x3), some (.int x4), some (.int x5), none] [] h nc ns P := by
  refine g_goto (tgt := 149) dX11_printsPart_105 (by decide) ?_
  exact Gd.wk g ⟨rfl, ⟨rfl, ⟨rfl, ⟨rfl, ⟨rfl, trivial⟩⟩⟩⟩⟩
theorem bkX11_printsPart_108 {X : GX} {h : SH} {nc ns : Nat} {P : Out → SH → Prop} {Q : Int32 → SH → Prop} {a0 : Nat} {x1 : Int32} {x3 : Int32} {x4 : Int32} {x5 : Int32} (F0 : LX11 (Sk h) (a0)) (i1 : vp_in (x5) 1680) (hN : Cd X mX11_worth [.ref a0, .int x1, .int (hI h (a0 + 21) ((x5 : Int32).toNatClampNeg))] (h) 0 0 (oI Q nX)) (g : ∀ r t, Q r t → Gd X mX11_printsPart 120 [some (.ref a0), some (.int x1), none, some (.int x3), some (.int x4), some (.int x5), none] [.int r] (t) nc ns P) : Gd X mX11_printsPart 108 [some (.ref a0), some (.int x1), none, some (.int x3), some (.int x4), some (.int x5), none] [] h nc ns P := by
  refine g_aload_n dX11_printsPart_108 rfl ?_
  refine g_iload_n dX11_printsPart_109 rfl ?_
  refine g_aload_n dX11_printsPart_110 rfl ?_
  refine g_getAs (c := 11) (k := 26) (b := a0 + 21) dX11_printsPart_111 (by decide) (by decide) kw_1153 rfl (LX11.o (h := h) F0) (LX11.r_itemAt (h := h) F0) ?_
  refine g_iload dX11_printsPart_114 rfl ?_
  refine g_iaload dX11_printsPart_116 (LX11.a_itemAt (h := h) F0) i1 ?_
  refine Gd.z ?_
  exact g_callV (k := 11) [.int x1, .int (hI h (a0 + 21) ((x5 : Int32).toNatClampNeg))] dX11_printsPart_117 mfX11_worth ⟨by decide, by decide⟩ kw_1479 kw_1481 kw_76 rfl (by decide) (Nat.le_of_ble_eq_true rfl) (by intro x hx; cases hx) (LX11.o (h := h) F0) (Nat.le_of_ble_eq_true rfl) hN (fun _ _ q => q.elim) (oI_go (G := fun a b => Gd X mX11_printsPart 120 _ a b nc ns P) (fun r t q => Gd.wk (g r t q) ⟨rfl, ⟨rfl, ⟨rfl, ⟨rfl, ⟨rfl, trivial⟩⟩⟩⟩⟩))
theorem bkX11_printsPart_120 {X : GX} {h : SH} {nc ns : Nat} {P : Out → SH → Prop} {a0 : Nat} {x1 : Int32} {x3 : Int32} {x4 : Int32} {x5 : Int32} {xs0 : Int32} (F0 : LX11 (Sk h) (a0)) (i1 : vp_in (x5) 1680) (kt : ¬ (hI h (a0 + 20) ((x5 : Int32).toNatClampNeg)) = 1 → Gd X mX11_printsPart 139 [some (.ref a0), some (.int x1), none, some (.int x3), some (.int x4), some (.int x5), some (.int xs0)] [.ref a0] (h) nc ns P) (kf : (hI h (a0 + 20) ((x5 : Int32).toNatClampNeg)) = 1 → Gd X mX11_printsPart 134 [some (.ref a0), some (.int x1), none, some (.int x3), some (.int x4), some (.int x5), some (.int xs0)] [.ref a0] (h) nc ns P) : Gd X mX11_printsPart 120 [some (.ref a0), some (.int x1), none, some (.int x3), some (.int x4), some (.int x5), none] [.int xs0] h nc ns P := by
  refine g_istore (L' := [some (.ref a0), some (.int x1), none, some (.int x3), some (.int x4), some (.int x5), some (.int xs0)]) dX11_printsPart_120 (by decide) rfl ?_
  refine g_aload_n dX11_printsPart_122 rfl ?_
  refine g_aload_n dX11_printsPart_123 rfl ?_
  refine g_getAs (c := 11) (k := 25) (b := a0 + 20) dX11_printsPart_124 (by decide) (by decide) kw_1152 rfl (LX11.o (h := h) F0) (LX11.r_itemKind (h := h) F0) ?_
  refine g_iload dX11_printsPart_127 rfl ?_
  refine g_iaload dX11_printsPart_129 (LX11.a_itemKind (h := h) F0) i1 ?_
  refine g_iconst (v := 1) dX11_printsPart_130 (by decide) ?_
  exact g_icmp_ne (tgt := 139) dX11_printsPart_131 (by decide) (fun q => Gd.wk (kt q) ⟨rfl, ⟨rfl, ⟨rfl, ⟨rfl, ⟨rfl, ⟨rfl, trivial⟩⟩⟩⟩⟩⟩) (fun q => Gd.wk (kf q) ⟨rfl, ⟨rfl, ⟨rfl, ⟨rfl, ⟨rfl, ⟨rfl, trivial⟩⟩⟩⟩⟩⟩)
theorem bkX11_printsPart_134 {X : GX} {h : SH} {nc ns : Nat} {P : Out → SH → Prop} {a0 : Nat} {x1 : Int32} {x3 : Int32} {x4 : Int32} {x5 : Int32} {x6 : Int32} {as0 : Nat} (g : Gd X mX11_printsPart 146 [some (.ref a0), some (.int x1), none, some (.int x3), some (.int x4), some (.int x5), none] [.int x6, .ref as0] (h) nc ns P) : Gd X mX11_printsPart 134 [some (.ref a0), some (.int x1), none, some (.int x3), some (.int x4), some (.int x5), some (.int x6)] [.ref as0] h nc ns P := by
  refine g_iload dX11_printsPart_134 rfl ?_
  refine g_goto (tgt := 146) dX11_printsPart_136 (by decide) ?_
  exact Gd.wk g ⟨rfl, ⟨rfl, ⟨rfl, ⟨rfl, ⟨rfl, trivial⟩⟩⟩⟩⟩
theorem bkX11_printsPart_139 {X : GX} {h : SH} {nc ns : Nat} {P : Out → SH → Prop} {Q : Int32 → SH → Prop} {a0 : Nat} {x1 : Int32} {x3 : Int32} {x4 : Int32} {x5 : Int32} {x6 : Int32} {as0 : Nat} (F0 : LX11 (Sk h) (a0)) (hN : Cd X mX11_dayOf [.ref a0, .int x3, .int x6] (h) 0 0 (oI Q nX)) (g : ∀ r t, Q r t → Gd X mX11_printsPart 146 [some (.ref a0), some (.int x1), none, some (.int x3), some (.int x4), some (.int x5), none] [.int r, .ref as0] (t) nc ns P) : Gd X mX11_printsPart 139 [some (.ref a0), some (.int x1), none, some (.int x3), some (.int x4), some (.int x5), some (.int x6)] [.ref as0] h nc ns P := by
  refine g_aload_n dX11_printsPart_139 rfl ?_
  refine g_iload_n dX11_printsPart_140 rfl ?_
  refine g_iload dX11_printsPart_141 rfl ?_
  refine Gd.z ?_
  exact g_callV (k := 11) [.int x3, .int x6] dX11_printsPart_143 mfX11_dayOf ⟨by decide, by decide⟩ kw_1525 kw_1527 kw_87 rfl (by decide) (Nat.le_of_ble_eq_true rfl) (by intro x hx; cases hx) (LX11.o (h := h) F0) (Nat.le_of_ble_eq_true rfl) hN (fun _ _ q => q.elim) (oI_go (G := fun a b => Gd X mX11_printsPart 146 _ a b nc ns P) (fun r t q => Gd.wk (g r t q) ⟨rfl, ⟨rfl, ⟨rfl, ⟨rfl, ⟨rfl, trivial⟩⟩⟩⟩⟩))
theorem bkX11_printsPart_146 {X : GX} {h : SH} {nc ns : Nat} {P : Out → SH → Prop} {Q : SH → Prop} {a0 : Nat} {x1 : Int32} {x3 : Int32} {x4 : Int32} {x5 : Int32} {as0 : Nat} {xs1 : Int32} (F0 : LX11 (Sk h) (as0)) (hN : Cd X mX11_prints [.ref as0, .int xs1] (h) 0 0 (oV Q nX)) (g : ∀ t, Q t → Gd X mX11_printsPart 149 [some (.ref a0), some (.int x1), none, some (.int x3), some (.int x4), some (.int x5), none] [] (t) nc ns P) : Gd X mX11_printsPart 146 [some (.ref a0), some (.int x1), none, some (.int x3), some (.int x4), some (.int x5), none] [.int xs1, .ref as0] h nc ns P := by
  refine Gd.z ?_
  exact g_callV (k := 11) [.int xs1] dX11_printsPart_146 mfX11_prints ⟨by decide, by decide⟩ kw_1503 kw_1505 kw_82 rfl (by decide) (Nat.le_of_ble_eq_true rfl) (by intro x hx; cases hx) (LX11.o (h := h) F0) (Nat.le_of_ble_eq_true rfl) hN (fun _ _ q => q.elim) (oV_go (G := fun a b => Gd X mX11_printsPart 149 _ a b nc ns P) (fun t q => Gd.wk (g t q) ⟨rfl, ⟨rfl, ⟨rfl, ⟨rfl, ⟨rfl, trivial⟩⟩⟩⟩⟩))
theorem bkX11_printsPart_149 {X : GX} {h : SH} {nc ns : Nat} {P : Out → SH → Prop} {a0 : Nat} {x1 : Int32} {x3 : Int32} {x4 : Int32} {x5 : Int32} (g : Gd X mX11_printsPart 27 [some (.ref a0), some (.int x1), none, some (.int x3), some (.int x4), some (.int (x5 + 1)), none] [] (h) nc ns P) : Gd X mX11_printsPart 149 [some (.ref a0), some (.int x1), none, some (.int x3), some (.int x4), some (.int x5), none] [] h nc ns P := by
  refine g_iinc (v := x5 + 1) (L' := [some (.ref a0), some (.int x1), none, some (.int x3), some (.int x4), some (.int (x5 + 1)), none]) dX11_printsPart_149 rfl rfl (by decide) rfl ?_
  refine g_goto (tgt := 27) dX11_printsPart_152 (by decide) ?_
  exact Gd.wk g ⟨rfl, ⟨rfl, ⟨rfl, ⟨rfl, ⟨rfl, trivial⟩⟩⟩⟩⟩
theorem bkX11_printsPart_155 {X : GX} {h : SH} {nc ns : Nat} {P : Out → SH → Prop} (hp : P (.inl (none)) (h)) : Gd X mX11_printsPart 155 [none, none, none, none, none, none, none] [] h nc ns P := by
  exact g_return (st := []) dX11_printsPart_155 rfl hp
theorem bkX11_makes_0 {X : GX} {h : SH} {nc ns : Nat} {P : Out → SH → Prop} {Q : SH → Prop} {a0 : Nat} {x1 : Int32} {x2 : Int32} (F0 : LX11 (Sk h) (a0)) (hN : Cd X mX11_gathers [.ref a0, .int x1] (h) 0 0 (oV Q nX)) (g : ∀ t, Q t → Gd X mX11_makes 5 [some (.ref a0), some (.int x1), some (.int x2), none] [] (t) nc ns P) : Gd X mX11_makes 0 [some (.ref a0), some (.int x1), some (.int x2), none] [] h nc ns P := by
  refine g_aload_n dX11_makes_0 rfl ?_
  refine g_iload_n dX11_makes_1 rfl ?_
  refine Gd.z ?_
  exact g_callV (k := 11) [.int x1] dX11_makes_2 mfX11_gathers ⟨by decide, by decide⟩ kw_1475 kw_1477 kw_75 rfl (by decide) (Nat.le_of_ble_eq_true rfl) (by intro x hx; cases hx) (LX11.o (h := h) F0) (Nat.le_of_ble_eq_true rfl) hN (fun _ _ q => q.elim) (oV_go (G := fun a b => Gd X mX11_makes 5 _ a b nc ns P) (fun t q => Gd.wk (g t q) ⟨rfl, ⟨rfl, ⟨rfl, trivial⟩⟩⟩))
theorem bkX11_makes_5 {X : GX} {h : SH} {nc ns : Nat} {P : Out → SH → Prop} {Q : SH → Prop} {a0 : Nat} {x1 : Int32} {x2 : Int32} (F0 : LX11 (Sk h) (a0)) (hN : Cd X mX11_quarrels [.ref a0, .int x1] (h) 0 0 (oV Q nX)) (g : ∀ t, Q t → Gd X mX11_makes 10 [some (.ref a0), some (.int x1), some (.int x2), none] [] (t) nc ns P) : Gd X mX11_makes 5 [some (.ref a0), some (.int x1), some (.int x2), none] [] h nc ns P := by
  refine g_aload_n dX11_makes_5 rfl ?_
  refine g_iload_n dX11_makes_6 rfl ?_
  refine Gd.z ?_
  exact g_callV (k := 11) [.int x1] dX11_makes_7 mfX11_quarrels ⟨by decide, by decide⟩ kw_1483 kw_1485 kw_77 rfl (by decide) (Nat.le_of_ble_eq_true rfl) (by intro x hx; cases hx) (LX11.o (h := h) F0) (Nat.le_of_ble_eq_true rfl) hN (fun _ _ q => q.elim) (oV_go (G := fun a b => Gd X mX11_makes 10 _ a b nc ns P) (fun t q => Gd.wk (g t q) ⟨rfl, ⟨rfl, ⟨rfl, trivial⟩⟩⟩))
theorem bkX11_makes_10 {X : GX} {h : SH} {nc ns : Nat} {P : Out → SH → Prop} {a0 : Nat} {x1 : Int32} {x2 : Int32} (F0 : LX11 (Sk h) (a0)) (kt : ¬ (hI (sI (sI h a0 48 0) a0 43 0) a0 44) = 0 → Gd X mX11_makes 55 [none, none, none, none] [] (sI (sI h a0 48 0) a0 43 0) nc ns P) (kf : (hI (sI (sI h a0 48 0) a0 43 0) a0 44) = 0 → Gd X mX11_makes 27 [some (.ref a0), some (.int x1), some (.int x2), none] [] (sI (sI h a0 48 0) a0 43 0) nc ns P) : Gd X mX11_makes 10 [some (.ref a0), some (.int x1), some (.int x2), none] [] h nc ns P := by
  refine g_aload_n dX11_makes_10 rfl ?_
  refine g_iconst (v := 0) dX11_makes_11 (by decide) ?_
  refine g_put (c := 11) (k := 48) (h1 := sI h a0 48 0) dX11_makes_12 (by decide) (by decide) kw_1175 rfl (LX11.o (h := h) F0) rfl rfl (Put.I rfl) ?_
  refine g_aload_n dX11_makes_15 rfl ?_
  refine g_iconst (v := 0) dX11_makes_16 (by decide) ?_
  refine g_put (c := 11) (k := 43) (h1 := sI (sI h a0 48 0) a0 43 0) dX11_makes_17 (by decide) (by decide) kw_1170 rfl (LX11.o (h := sI h a0 48 0) F0) rfl rfl (Put.I rfl) ?_
  refine g_aload_n dX11_makes_20 rfl ?_
  refine g_getI (c := 11) (k := 44) dX11_makes_21 (by decide) (by decide) kw_1171 rfl (LX11.o (h := sI (sI h a0 48 0) a0 43 0) F0) ?_
  exact g_if_ne (tgt := 55) dX11_makes_24 (by decide) (fun q => Gd.wk (kt q) trivial) (fun q => Gd.wk (kf q) ⟨rfl, ⟨rfl, ⟨rfl, trivial⟩⟩⟩)
theorem bkX11_makes_27 {X : GX} {h : SH} {nc ns : Nat} {P : Out → SH → Prop} {Q : SH → Prop} {a0 : Nat} {x1 : Int32} {x2 : Int32} (F0 : LX11 (Sk h) (a0)) (hN : Cd X mX11_orders [.ref a0, .int x1] (h) 0 0 (oV Q nX)) (g : ∀ t, Q t → Gd X mX11_makes 32 [some (.ref a0), some (.int x1), some (.int x2), none] [] (t) nc ns P) : Gd X mX11_makes 27 [some (.ref a0), some (.int x1), some (.int x2), none] [] h nc ns P := by
  refine g_aload_n dX11_makes_27 rfl ?_
  refine g_iload_n dX11_makes_28 rfl ?_
  refine Gd.z ?_
  exact g_callV (k := 11) [.int x1] dX11_makes_29 mfX11_orders ⟨by decide, by decide⟩ kw_1495 kw_1497 kw_80 rfl (by decide) (Nat.le_of_ble_eq_true rfl) (by intro x hx; cases hx) (LX11.o (h := h) F0) (Nat.le_of_ble_eq_true rfl) hN (fun _ _ q => q.elim) (oV_go (G := fun a b => Gd X mX11_makes 32 _ a b nc ns P) (fun t q => Gd.wk (g t q) ⟨rfl, ⟨rfl, ⟨rfl, trivial⟩⟩⟩))
theorem bkX11_makes_32 {X : GX} {h : SH} {nc ns : Nat} {P : Out → SH → Prop} {a0 : Nat} {x1 : Int32} {x2 : Int32} (g : Gd X mX11_makes 34 [some (.ref a0), some (.int x1), some (.int x2), some (.int 0)] [] (h) nc ns P) : Gd X mX11_makes 32 [some (.ref a0), some (.int x1), some (.int x2), none] [] h nc ns P := by
  refine g_iconst (v := 0) dX11_makes_32 (by decide) ?_
  refine g_istore_n (L' := [some (.ref a0), some (.int x1), some (.int x2), some (.int 0)]) dX11_makes_33 (by decide) rfl ?_
  exact Gd.wk g ⟨rfl, ⟨rfl, ⟨rfl, ⟨rfl, trivial⟩⟩⟩⟩
theorem bkX11_makes_34 {X : GX} {h : SH} {nc ns : Nat} {P : Out → SH → Prop} {a0 : Nat} {x1 : Int32} {x2 : Int32} {x3 : Int32} (F0 : LX11 (Sk h) (a0)) (kt : hI h a0 43 ≤ x3 → Gd X mX11_makes 55 [none, none, none, none] [] (h) nc ns P) (kf : ¬ hI h a0 43 ≤ x3 → Gd X mX11_makes 42 [some (.ref a0), some (.int x1), some (.int x2), some (.int x3)] [] (h) nc ns P) : Gd X mX11_makes 34 [some (.ref a0), some (.int x1), some (.int x2), some (.int x3)] [] h nc ns P := by
  refine g_iload_n dX11_makes_34 rfl ?_
  refine g_aload_n dX11_makes_35 rfl ?_
  refine g_getI (c := 11) (k := 43) dX11_makes_36 (by decide) (by decide) kw_1170 rfl (LX11.o (h := h) F0) ?_
  exact g_icmp_ge (tgt := 55) dX11_makes_39 (by decide) (fun q => Gd.wk (kt q) trivial) (fun q => Gd.wk (kf q) ⟨rfl, ⟨rfl, ⟨rfl, ⟨rfl, trivial⟩⟩⟩⟩)
theorem bkX11_makes_42 {X : GX} {h : SH} {nc ns : Nat} {P : Out → SH → Prop} {Q : SH → Prop} {a0 : Nat} {x1 : Int32} {x2 : Int32} {x3 : Int32} (F0 : LX11 (Sk h) (a0)) (hN : Cd X mX11_printsPart [.ref a0, .int x1, .int x3, .int x2] (h) 0 0 (oV Q nX)) (g : ∀ t, Q t → Gd X mX11_makes 49 [some (.ref a0), some (.int x1), some (.int x2), some (.int x3)] [] (t) nc ns P) : Gd X mX11_makes 42 [some (.ref a0), some (.int x1), some (.int x2), some (.int x3)] [] h nc ns P := by
  refine g_aload_n dX11_makes_42 rfl ?_
  refine g_iload_n dX11_makes_43 rfl ?_
  refine g_iload_n dX11_makes_44 rfl ?_
  refine g_iload_n dX11_makes_45 rfl ?_
  refine Gd.z ?_
  exact g_callV (k := 11) [.int x1, .int x3, .int x2] dX11_makes_46 mfX11_printsPart ⟨by decide, by decide⟩ kw_1499 kw_1501 kw_81 rfl (by decide) (Nat.le_of_ble_eq_true rfl) (by intro x hx; cases hx) (LX11.o (h := h) F0) (Nat.le_of_ble_eq_true rfl) hN (fun _ _ q => q.elim) (oV_go (G := fun a b => Gd X mX11_makes 49 _ a b nc ns P) (fun t q => Gd.wk (g t q) ⟨rfl, ⟨rfl, ⟨rfl, ⟨rfl, trivial⟩⟩⟩⟩))
theorem bkX11_makes_49 {X : GX} {h : SH} {nc ns : Nat} {P : Out → SH → Prop} {a0 : Nat} {x1 : Int32} {x2 : Int32} {x3 : Int32} (g : Gd X mX11_makes 34 [some (.ref a0), some (.int x1), some (.int x2), some (.int (x3 + 1))] [] (h) nc ns P) : Gd X mX11_makes 49 [some (.ref a0), some (.int x1), some (.int x2), some (.int x3)] [] h nc ns P := by
  refine g_iinc (v := x3 + 1) (L' := [some (.ref a0), some (.int x1), some (.int x2), some (.int (x3 + 1))]) dX11_makes_49 rfl rfl (by decide) rfl ?_
  refine g_goto (tgt := 34) dX11_makes_52 (by decide) ?_
  exact Gd.wk g ⟨rfl, ⟨rfl, ⟨rfl, ⟨rfl, trivial⟩⟩⟩⟩
theorem bkX11_makes_55 {X : GX} {h : SH} {nc ns : Nat} {P : Out → SH → Prop} (hp : P (.inl (none)) (h)) : Gd X mX11_makes 55 [none, none, none, none] [] h nc ns P := by
  exact g_return (st := []) dX11_makes_55 rfl hp
theorem bkX11_make_0 {X : GX} {h : SH} {nc ns : Nat} {P : Out → SH → Prop} {a0 : Nat} {x1 : Int32} (F0 : LX11 (Sk h) (a0)) (kt : (hI (sI h a0 0 0) a0 34) < 0 → Gd X mX11_make 23 [none, none, none] [] (sI h a0 0 0) nc ns P) (kf : ¬ (hI (sI h a0 0 0) a0 34) < 0 → Gd X mX11_make 12 [some (.ref a0), some (.int x1), none] [] (sI h a0 0 0) nc ns P) : Gd X mX11_make 0 [some (.ref a0), some (.int x1), none] [] h nc ns P := by
  refine g_aload_n dX11_make_0 rfl ?_
  refine g_iconst (v := 0) dX11_make_1 (by decide) ?_
  refine g_put (c := 11) (k := 0) (h1 := sI h a0 0 0) dX11_make_2 (by decide) (by decide) kw_1127 rfl (LX11.o (h := h) F0) rfl rfl (Put.I rfl) ?_
  refine g_aload_n dX11_make_5 rfl ?_
  refine g_getI (c := 11) (k := 34) dX11_make_6 (by decide) (by decide) kw_1161 rfl (LX11.o (h := sI h a0 0 0) F0) ?_
  exact g_if_lt (tgt := 23) dX11_make_9 (by decide) (fun q => Gd.wk (kt q) trivial) (fun q => Gd.wk (kf q) ⟨rfl, ⟨rfl, trivial⟩⟩)
theorem bkX11_make_12 {X : GX} {h : SH} {nc ns : Nat} {P : Out → SH → Prop} {a0 : Nat} {x1 : Int32} (kt : x1 < 0 → Gd X mX11_make 23 [none, none, none] [] (h) nc ns P) (kf : ¬ x1 < 0 → Gd X mX11_make 16 [some (.ref a0), some (.int x1), none] [] (h) nc ns P) : Gd X mX11_make 12 [some (.ref a0), some (.int x1), none] [] h nc ns P := by
  refine g_iload_n dX11_make_12 rfl ?_
  exact g_if_lt (tgt := 23) dX11_make_13 (by decide) (fun q => Gd.wk (kt q) trivial) (fun q => Gd.wk (kf q) ⟨rfl, ⟨rfl, trivial⟩⟩)
theorem bkX11_make_16 {X : GX} {h : SH} {nc ns : Nat} {P : Out → SH → Prop} {a0 : Nat} {x1 : Int32} (kt : x1 ≤ 9999 → Gd X mX11_make 25 [some (.ref a0), some (.int x1), none] [] (h) nc ns P) (kf : ¬ x1 ≤ 9999 → Gd X mX11_make 23 [none, none, none] [] (h) nc ns P) : Gd X mX11_make 16 [some (.ref a0), some (.int x1), none] [] h nc ns P := by
  refine g_iload_n dX11_make_16 rfl ?_
  refine g_sipush (v := 9999) dX11_make_17 (by decide) ?_
  exact g_icmp_le (tgt := 25) dX11_make_20 (by decide) (fun q => Gd.wk (kt q) ⟨rfl, ⟨rfl, trivial⟩⟩) (fun q => Gd.wk (kf q) trivial)
theorem bkX11_make_23 {X : GX} {h : SH} {nc ns : Nat} {P : Out → SH → Prop} (hp : P (.inl (some (.int ((-1))))) (h)) : Gd X mX11_make 23 [none, none, none] [] h nc ns P := by
  refine g_iconst (v := (-1)) dX11_make_23 (by decide) ?_
  exact g_ireturn (st := []) dX11_make_24 rfl rfl hp
theorem bkX11_make_25 {X : GX} {h : SH} {nc ns : Nat} {P : Out → SH → Prop} {Q : SH → Prop} {a0 : Nat} {x1 : Int32} (F0 : LX11 (Sk h) (a0)) (hN : Cd X mX11_findBehind [.ref a0, .int x1] (h) 0 0 (oV Q nX)) (g : ∀ t, Q t → Gd X mX11_make 30 [some (.ref a0), some (.int x1), none] [] (t) nc ns P) : Gd X mX11_make 25 [some (.ref a0), some (.int x1), none] [] h nc ns P := by
  refine g_aload_n dX11_make_25 rfl ?_
  refine g_iload_n dX11_make_26 rfl ?_
  refine Gd.z ?_
  exact g_callV (k := 11) [.int x1] dX11_make_27 mfX11_findBehind ⟨by decide, by decide⟩ kw_1467 kw_1469 kw_73 rfl (by decide) (Nat.le_of_ble_eq_true rfl) (by intro x hx; cases hx) (LX11.o (h := h) F0) (Nat.le_of_ble_eq_true rfl) hN (fun _ _ q => q.elim) (oV_go (G := fun a b => Gd X mX11_make 30 _ a b nc ns P) (fun t q => Gd.wk (g t q) ⟨rfl, ⟨rfl, trivial⟩⟩))
theorem bkX11_make_30 {X : GX} {h : SH} {nc ns : Nat} {P : Out → SH → Prop} {Q : SH → Prop} {a0 : Nat} {x1 : Int32} (F0 : LX11 (Sk h) (a0)) (hN : Cd X mX11_makes [.ref a0, .int (hI h a0 34), .int x1] (h) 0 0 (oV Q nX)) (g : ∀ t, Q t → Gd X mX11_make 39 [some (.ref a0), none, none] [] (t) nc ns P) : Gd X mX11_make 30 [some (.ref a0), some (.int x1), none] [] h nc ns P := by
  refine g_aload_n dX11_make_30 rfl ?_
  refine g_aload_n dX11_make_31 rfl ?_
  refine g_getI (c := 11) (k := 34) dX11_make_32 (by decide) (by decide) kw_1161 rfl (LX11.o (h := h) F0) ?_
  refine g_iload_n dX11_make_35 rfl ?_
  refine Gd.z ?_
  exact g_callV (k := 11) [.int (hI h a0 34), .int x1] dX11_make_36 mfX11_makes ⟨by decide, by decide⟩ kw_1471 kw_1473 kw_74 rfl (by decide) (Nat.le_of_ble_eq_true rfl) (by intro x hx; cases hx) (LX11.o (h := h) F0) (Nat.le_of_ble_eq_true rfl) hN (fun _ _ q => q.elim) (oV_go (G := fun a b => Gd X mX11_make 39 _ a b nc ns P) (fun t q => Gd.wk (g t q) ⟨rfl, trivial⟩))
theorem bkX11_make_39 {X : GX} {h : SH} {nc ns : Nat} {P : Out → SH → Prop} {a0 : Nat} (F0 : LX11 (Sk h) (a0)) (g : Gd X mX11_make 63 [some (.ref a0), none, none] [] (sI (sI (sI h a0 49 (hI h a0 44)) a0 50 (hI (sI h a0 49 (hI h a0 44)) a0 45)) a0 51 (hI (sI (sI h a0 49 (hI h a0 44)) a0 50 (hI (sI h a0 49 (hI h a0 44)) a0 45)) a0 46)) nc ns P) : Gd X mX11_make 39 [some (.ref a0), none, none] [] h nc ns P := by
  refine g_aload_n dX11_make_39 rfl ?_
  refine g_aload_n dX11_make_40 rfl ?_
  refine g_getI (c := 11) (k := 44) dX11_make_41 (by decide) (by decide) kw_1171 rfl (LX11.o (h := h) F0) ?_
  refine g_put (c := 11) (k := 49) (h1 := sI h a0 49 (hI h a0 44)) dX11_make_44 (by decide) (by decide) kw_1176 rfl (LX11.o (h := h) F0) rfl rfl (Put.I rfl) ?_
  refine g_aload_n dX11_make_47 rfl ?_
  refine g_aload_n dX11_make_48 rfl ?_
  refine g_getI (c := 11) (k := 45) dX11_make_49 (by decide) (by decide) kw_1172 rfl (LX11.o (h := sI h a0 49 (hI h a0 44)) F0) ?_
  refine g_put (c := 11) (k := 50) (h1 := sI (sI h a0 49 (hI h a0 44)) a0 50 (hI (sI h a0 49 (hI h a0 44)) a0 45)) dX11_make_52 (by decide) (by decide) kw_1177 rfl (LX11.o (h := sI h a0 49 (hI h a0 44)) F0) rfl rfl (Put.I rfl) ?_
  refine g_aload_n dX11_make_55 rfl ?_
  refine g_aload_n dX11_make_56 rfl ?_
  refine g_getI (c := 11) (k := 46) dX11_make_57 (by decide) (by decide) kw_1173 rfl (LX11.o (h := sI (sI h a0 49 (hI h a0 44)) a0 50 (hI (sI h a0 49 (hI h a0 44)) a0 45)) F0) ?_
  refine g_put (c := 11) (k := 51) (h1 := sI (sI (sI h a0 49 (hI h a0 44)) a0 50 (hI (sI h a0 49 (hI h a0 44)) a0 45)) a0 51 (hI (sI (sI h a0 49 (hI h a0 44)) a0 50 (hI (sI h a0 49 (hI h a0 44)) a0 45)) a0 46)) dX11_make_60 (by decide) (by decide) kw_1178 rfl (LX11.o (h := sI (sI h a0 49 (hI h a0 44)) a0 50 (hI (sI h a0 49 (hI h a0 44)) a0 45)) F0) rfl rfl (Put.I rfl) ?_
  exact Gd.wk g ⟨rfl, trivial⟩
theorem bkX11_make_81 {X : GX} {h : SH} {nc ns : Nat} {P : Out → SH → Prop} {a0 : Nat} {x2 : Int32} (F0 : LX11 (Sk h) (a0)) (kt : hI h a0 48 ≤ x2 → Gd X mX11_make 107 [some (.ref a0), none, none] [] (h) nc ns P) (kf : ¬ hI h a0 48 ≤ x2 → Gd X mX11_make 89 [some (.ref a0), none, some (.int x2)] [] (h) nc ns P) : Gd X mX11_make 81 [some (.ref a0), none, some (.int x2)] [] h nc ns P := by
  refine g_iload_n dX11_make_81 rfl ?_
  refine g_aload_n dX11_make_82 rfl ?_
  refine g_getI (c := 11) (k := 48) dX11_make_83 (by decide) (by decide) kw_1175 rfl (LX11.o (h := h) F0) ?_
  exact g_icmp_ge (tgt := 107) dX11_make_86 (by decide) (fun q => Gd.wk (kt q) ⟨rfl, trivial⟩) (fun q => Gd.wk (kf q) ⟨rfl, ⟨rfl, trivial⟩⟩)
theorem bkX11_make_89 {X : GX} {h : SH} {nc ns : Nat} {P : Out → SH → Prop} {a0 : Nat} {x2 : Int32} (F0 : LX11 (Sk h) (a0)) (i1 : vp_in (x2) 5000) (g : Gd X mX11_make 81 [some (.ref a0), none, some (.int (x2 + 1))] [] (sI h (a0 + 34) ((x2 : Int32).toNatClampNeg) (hI h (a0 + 33) ((x2 : Int32).toNatClampNeg))) nc ns P) : Gd X mX11_make 89 [some (.ref a0), none, some (.int x2)] [] h nc ns P := by
  refine g_aload_n dX11_make_89 rfl ?_
  refine g_getAs (c := 11) (k := 54) (b := a0 + 34) dX11_make_90 (by decide) (by decide) kw_1181 rfl (LX11.o (h := h) F0) (LX11.r_latestOut (h := h) F0) ?_
  refine g_iload_n dX11_make_93 rfl ?_
  refine g_aload_n dX11_make_94 rfl ?_
  refine g_getAs (c := 11) (k := 47) (b := a0 + 33) dX11_make_95 (by decide) (by decide) kw_1174 rfl (LX11.o (h := h) F0) (LX11.r_out (h := h) F0) ?_
  refine g_iload_n dX11_make_98 rfl ?_
  refine g_iaload dX11_make_99 (LX11.a_out (h := h) F0) i1 ?_
  refine g_iastore dX11_make_100 (LX11.a_latestOut (h := h) F0) i1 ?_
  refine g_iinc (v := x2 + 1) (L' := [some (.ref a0), none, some (.int (x2 + 1))]) dX11_make_101 rfl rfl (by decide) rfl ?_
  refine g_goto (tgt := 81) dX11_make_104 (by decide) ?_
  exact Gd.wk g ⟨rfl, ⟨rfl, trivial⟩⟩
theorem bkX11_make_107 {X : GX} {h : SH} {nc ns : Nat} {P : Out → SH → Prop} {a0 : Nat} (g : Gd X mX11_make 109 [some (.ref a0), none, some (.int 0)] [] (h) nc ns P) : Gd X mX11_make 107 [some (.ref a0), none, none] [] h nc ns P := by
  refine g_iconst (v := 0) dX11_make_107 (by decide) ?_
  refine g_istore_n (L' := [some (.ref a0), none, some (.int 0)]) dX11_make_108 (by decide) rfl ?_
  exact Gd.wk g ⟨rfl, ⟨rfl, trivial⟩⟩
theorem bkX11_make_109 {X : GX} {h : SH} {nc ns : Nat} {P : Out → SH → Prop} {a0 : Nat} {x2 : Int32} (F0 : LX11 (Sk h) (a0)) (kt : hI h a0 43 ≤ x2 → Gd X mX11_make 135 [some (.ref a0), none, none] [] (h) nc ns P) (kf : ¬ hI h a0 43 ≤ x2 → Gd X mX11_make 117 [some (.ref a0), none, some (.int x2)] [] (h) nc ns P) : Gd X mX11_make 109 [some (.ref a0), none, some (.int x2)] [] h nc ns P := by
  refine g_iload_n dX11_make_109 rfl ?_
  refine g_aload_n dX11_make_110 rfl ?_
  refine g_getI (c := 11) (k := 43) dX11_make_111 (by decide) (by decide) kw_1170 rfl (LX11.o (h := h) F0) ?_
  exact g_icmp_ge (tgt := 135) dX11_make_114 (by decide) (fun q => Gd.wk (kt q) ⟨rfl, trivial⟩) (fun q => Gd.wk (kf q) ⟨rfl, ⟨rfl, trivial⟩⟩)
theorem bkX11_make_117 {X : GX} {h : SH} {nc ns : Nat} {P : Out → SH → Prop} {a0 : Nat} {x2 : Int32} (F0 : LX11 (Sk h) (a0)) (i1 : vp_in (x2) 12) (g : Gd X mX11_make 109 [some (.ref a0), none, some (.int (x2 + 1))] [] (sI h (a0 + 35) ((x2 : Int32).toNatClampNeg) (hI h (a0 + 32) ((x2 : Int32).toNatClampNeg))) nc ns P) : Gd X mX11_make 117 [some (.ref a0), none, some (.int x2)] [] h nc ns P := by
  refine g_aload_n dX11_make_117 rfl ?_
  refine g_getAs (c := 11) (k := 55) (b := a0 + 35) dX11_make_118 (by decide) (by decide) kw_1182 rfl (LX11.o (h := h) F0) (LX11.r_latestPart (h := h) F0) ?_
  refine g_iload_n dX11_make_121 rfl ?_
  refine g_aload_n dX11_make_122 rfl ?_
  refine g_getAs (c := 11) (k := 42) (b := a0 + 32) dX11_make_123 (by decide) (by decide) kw_1169 rfl (LX11.o (h := h) F0) (LX11.r_part (h := h) F0) ?_
  refine g_iload_n dX11_make_126 rfl ?_
  refine g_iaload dX11_make_127 (LX11.a_part (h := h) F0) i1 ?_
  refine g_iastore dX11_make_128 (LX11.a_latestPart (h := h) F0) i1 ?_
  refine g_iinc (v := x2 + 1) (L' := [some (.ref a0), none, some (.int (x2 + 1))]) dX11_make_129 rfl rfl (by decide) rfl ?_
  refine g_goto (tgt := 109) dX11_make_132 (by decide) ?_
  exact Gd.wk g ⟨rfl, ⟨rfl, trivial⟩⟩
theorem bkX11_make_135 {X : GX} {h : SH} {nc ns : Nat} {P : Out → SH → Prop} {a0 : Nat} (F0 : LX11 (Sk h) (a0)) (hp : P (.inl (some (.int (hI h a0 49)))) (h)) : Gd X mX11_make 135 [some (.ref a0), none, none] [] h nc ns P := by
  refine g_aload_n dX11_make_135 rfl ?_
  refine g_getI (c := 11) (k := 49) dX11_make_136 (by decide) (by decide) kw_1176 rfl (LX11.o (h := h) F0) ?_
  exact g_ireturn (st := []) dX11_make_139 rfl rfl hp
theorem bkX11_make_63 {X : GX} {h : SH} {nc ns : Nat} {P : Out → SH → Prop} {a0 : Nat} (F0 : LX11 (Sk h) (a0)) (g : Gd X mX11_make 81 [some (.ref a0), none, some (.int 0)] [] (sI (sI h a0 52 (hI h a0 48)) a0 53 (hI (sI h a0 52 (hI h a0 48)) a0 43)) nc ns P) : Gd X mX11_make 63 [some (.ref a0), none, none] [] h nc ns P := by
  refine g_aload_n dX11_make_63 rfl ?_
  refine g_aload_n dX11_make_64 rfl ?_
  refine g_getI (c := 11) (k := 48) dX11_make_65 (by decide) (by decide) kw_1175 rfl (LX11.o (h := h) F0) ?_
  refine g_put (c := 11) (k := 52) (h1 := sI h a0 52 (hI h a0 48)) dX11_make_68 (by decide) (by decide) kw_1179 rfl (LX11.o (h := h) F0) rfl rfl (Put.I rfl) ?_
  refine g_aload_n dX11_make_71 rfl ?_
  refine g_aload_n dX11_make_72 rfl ?_
  refine g_getI (c := 11) (k := 43) dX11_make_73 (by decide) (by decide) kw_1170 rfl (LX11.o (h := sI h a0 52 (hI h a0 48)) F0) ?_
  refine g_put (c := 11) (k := 53) (h1 := sI (sI h a0 52 (hI h a0 48)) a0 53 (hI (sI h a0 52 (hI h a0 48)) a0 43)) dX11_make_76 (by decide) (by decide) kw_1180 rfl (LX11.o (h := sI h a0 52 (hI h a0 48)) F0) rfl rfl (Put.I rfl) ?_
  refine g_iconst (v := 0) dX11_make_79 (by decide) ?_
  refine g_istore_n (L' := [some (.ref a0), none, some (.int 0)]) dX11_make_80 (by decide) rfl ?_
  exact Gd.wk g ⟨rfl, ⟨rfl, trivial⟩⟩
theorem bkX11_letter_0 {X : GX} {h : SH} {nc ns : Nat} {P : Out → SH → Prop} {a0 : Nat} {x1 : Int32} (F0 : LX11 (Sk h) (a0)) (kt : (0 : Int32) ≤ (hI (sI h a0 0 0) a0 49) → Gd X mX11_letter 14 [some (.ref a0), some (.int x1)] [] (sI h a0 0 0) nc ns P) (kf : ¬ (0 : Int32) ≤ (hI (sI h a0 0 0) a0 49) → Gd X mX11_letter 12 [none, none] [] (sI h a0 0 0) nc ns P) : Gd X mX11_letter 0 [some (.ref a0), some (.int x1)] [] h nc ns P := by
  refine g_aload_n dX11_letter_0 rfl ?_
  refine g_iconst (v := 0) dX11_letter_1 (by decide) ?_
  refine g_put (c := 11) (k := 0) (h1 := sI h a0 0 0) dX11_letter_2 (by decide) (by decide) kw_1127 rfl (LX11.o (h := h) F0) rfl rfl (Put.I rfl) ?_
  refine g_aload_n dX11_letter_5 rfl ?_
  refine g_getI (c := 11) (k := 49) dX11_letter_6 (by decide) (by decide) kw_1176 rfl (LX11.o (h := sI h a0 0 0) F0) ?_
  exact g_if_ge (tgt := 14) dX11_letter_9 (by decide) (fun q => Gd.wk (kt q) ⟨rfl, ⟨rfl, trivial⟩⟩) (fun q => Gd.wk (kf q) trivial)
theorem bkX11_letter_12 {X : GX} {h : SH} {nc ns : Nat} {P : Out → SH → Prop} (hp : P (.inl (some (.int ((-1))))) (h)) : Gd X mX11_letter 12 [none, none] [] h nc ns P := by
  refine g_iconst (v := (-1)) dX11_letter_12 (by decide) ?_
  exact g_ireturn (st := []) dX11_letter_13 rfl rfl hp
theorem bkX11_letter_14 {X : GX} {h : SH} {nc ns : Nat} {P : Out → SH → Prop} {a0 : Nat} {x1 : Int32} (kt : ¬ x1 = 0 → Gd X mX11_letter 25 [some (.ref a0), some (.int x1)] [] (h) nc ns P) (kf : x1 = 0 → Gd X mX11_letter 18 [some (.ref a0), none] [] (h) nc ns P) : Gd X mX11_letter 14 [some (.ref a0), some (.int x1)] [] h nc ns P := by
  refine g_iload_n dX11_letter_14 rfl ?_
  exact g_if_ne (tgt := 25) dX11_letter_15 (by decide) (fun q => Gd.wk (kt q) ⟨rfl, ⟨rfl, trivial⟩⟩) (fun q => Gd.wk (kf q) ⟨rfl, trivial⟩)
theorem bkX11_letter_18 {X : GX} {h : SH} {nc ns : Nat} {P : Out → SH → Prop} {a0 : Nat} (F0 : LX11 (Sk h) (a0)) (g : Gd X mX11_letter 62 [none, none] [.int (hI h a0 52)] (h) nc ns P) : Gd X mX11_letter 18 [some (.ref a0), none] [] h nc ns P := by
  refine g_aload_n dX11_letter_18 rfl ?_
  refine g_getI (c := 11) (k := 52) dX11_letter_19 (by decide) (by decide) kw_1179 rfl (LX11.o (h := h) F0) ?_
  refine g_goto (tgt := 62) dX11_letter_22 (by decide) ?_
  exact Gd.wk g trivial
theorem bkX11_letter_25 {X : GX} {h : SH} {nc ns : Nat} {P : Out → SH → Prop} {a0 : Nat} {x1 : Int32} (kt : ¬ x1 = 1 → Gd X mX11_letter 37 [some (.ref a0), some (.int x1)] [] (h) nc ns P) (kf : x1 = 1 → Gd X mX11_letter 30 [some (.ref a0), none] [] (h) nc ns P) : Gd X mX11_letter 25 [some (.ref a0), some (.int x1)] [] h nc ns P := by
  refine g_iload_n dX11_letter_25 rfl ?_
  refine g_iconst (v := 1) dX11_letter_26 (by decide) ?_
  exact g_icmp_ne (tgt := 37) dX11_letter_27 (by decide) (fun q => Gd.wk (kt q) ⟨rfl, ⟨rfl, trivial⟩⟩) (fun q => Gd.wk (kf q) ⟨rfl, trivial⟩)
theorem bkX11_letter_30 {X : GX} {h : SH} {nc ns : Nat} {P : Out → SH → Prop} {a0 : Nat} (F0 : LX11 (Sk h) (a0)) (g : Gd X mX11_letter 62 [none, none] [.int (hI h a0 53)] (h) nc ns P) : Gd X mX11_letter 30 [some (.ref a0), none] [] h nc ns P := by
  refine g_aload_n dX11_letter_30 rfl ?_
  refine g_getI (c := 11) (k := 53) dX11_letter_31 (by decide) (by decide) kw_1180 rfl (LX11.o (h := h) F0) ?_
  refine g_goto (tgt := 62) dX11_letter_34 (by decide) ?_
  exact Gd.wk g trivial
theorem bkX11_letter_37 {X : GX} {h : SH} {nc ns : Nat} {P : Out → SH → Prop} {a0 : Nat} {x1 : Int32} (kt : ¬ x1 = 2 → Gd X mX11_letter 49 [some (.ref a0), some (.int x1)] [] (h) nc ns P) (kf : x1 = 2 → Gd X mX11_letter 42 [some (.ref a0), none] [] (h) nc ns P) : Gd X mX11_letter 37 [some (.ref a0), some (.int x1)] [] h nc ns P := by
  refine g_iload_n dX11_letter_37 rfl ?_
  refine g_iconst (v := 2) dX11_letter_38 (by decide) ?_
  exact g_icmp_ne (tgt := 49) dX11_letter_39 (by decide) (fun q => Gd.wk (kt q) ⟨rfl, ⟨rfl, trivial⟩⟩) (fun q => Gd.wk (kf q) ⟨rfl, trivial⟩)
theorem bkX11_letter_42 {X : GX} {h : SH} {nc ns : Nat} {P : Out → SH → Prop} {a0 : Nat} (F0 : LX11 (Sk h) (a0)) (g : Gd X mX11_letter 62 [none, none] [.int (hI h a0 50)] (h) nc ns P) : Gd X mX11_letter 42 [some (.ref a0), none] [] h nc ns P := by
  refine g_aload_n dX11_letter_42 rfl ?_
  refine g_getI (c := 11) (k := 50) dX11_letter_43 (by decide) (by decide) kw_1177 rfl (LX11.o (h := h) F0) ?_
  refine g_goto (tgt := 62) dX11_letter_46 (by decide) ?_
  exact Gd.wk g trivial
theorem bkX11_letter_49 {X : GX} {h : SH} {nc ns : Nat} {P : Out → SH → Prop} {a0 : Nat} {x1 : Int32} (kt : ¬ x1 = 3 → Gd X mX11_letter 61 [none, none] [] (h) nc ns P) (kf : x1 = 3 → Gd X mX11_letter 54 [some (.ref a0), none] [] (h) nc ns P) : Gd X mX11_letter 49 [some (.ref a0), some (.int x1)] [] h nc ns P := by
  refine g_iload_n dX11_letter_49 rfl ?_
  refine g_iconst (v := 3) dX11_letter_50 (by decide) ?_
  exact g_icmp_ne (tgt := 61) dX11_letter_51 (by decide) (fun q => Gd.wk (kt q) trivial) (fun q => Gd.wk (kf q) ⟨rfl, trivial⟩)
theorem bkX11_letter_54 {X : GX} {h : SH} {nc ns : Nat} {P : Out → SH → Prop} {a0 : Nat} (F0 : LX11 (Sk h) (a0)) (g : Gd X mX11_letter 62 [none, none] [.int (hI h a0 51)] (h) nc ns P) : Gd X mX11_letter 54 [some (.ref a0), none] [] h nc ns P := by
  refine g_aload_n dX11_letter_54 rfl ?_
  refine g_getI (c := 11) (k := 51) dX11_letter_55 (by decide) (by decide) kw_1178 rfl (LX11.o (h := h) F0) ?_
  refine g_goto (tgt := 62) dX11_letter_58 (by decide) ?_
  exact Gd.wk g trivial
theorem bkX11_letter_61 {X : GX} {h : SH} {nc ns : Nat} {P : Out → SH → Prop} (g : Gd X mX11_letter 62 [none, none] [.int ((-1))] (h) nc ns P) : Gd X mX11_letter 61 [none, none] [] h nc ns P := by
  refine g_iconst (v := (-1)) dX11_letter_61 (by decide) ?_
  exact Gd.wk g trivial
theorem bkX11_letter_62 {X : GX} {h : SH} {nc ns : Nat} {P : Out → SH → Prop} {xs0 : Int32} (hp : P (.inl (some (.int (xs0)))) (h)) : Gd X mX11_letter 62 [none, none] [.int xs0] h nc ns P := by
  exact g_ireturn (st := []) dX11_letter_62 rfl rfl hp
theorem bkX11_out_0 {X : GX} {h : SH} {nc ns : Nat} {P : Out → SH → Prop} {a0 : Nat} {x1 : Int32} (F0 : LX11 (Sk h) (a0)) (kt : (hI (sI h a0 0 0) a0 49) < 0 → Gd X mX11_out 24 [none, none] [] (sI h a0 0 0) nc ns P) (kf : ¬ (hI (sI h a0 0 0) a0 49) < 0 → Gd X mX11_out 12 [some (.ref a0), some (.int x1)] [] (sI h a0 0 0) nc ns P) : Gd X mX11_out 0 [some (.ref a0), some (.int x1)] [] h nc ns P := by
  refine g_aload_n dX11_out_0 rfl ?_
  refine g_iconst (v := 0) dX11_out_1 (by decide) ?_
  refine g_put (c := 11) (k := 0) (h1 := sI h a0 0 0) dX11_out_2 (by decide) (by decide) kw_1127 rfl (LX11.o (h := h) F0) rfl rfl (Put.I rfl) ?_
  refine g_aload_n dX11_out_5 rfl ?_
  refine g_getI (c := 11) (k := 49) dX11_out_6 (by decide) (by decide) kw_1176 rfl (LX11.o (h := sI h a0 0 0) F0) ?_
  exact g_if_lt (tgt := 24) dX11_out_9 (by decide) (fun q => Gd.wk (kt q) trivial) (fun q => Gd.wk (kf q) ⟨rfl, ⟨rfl, trivial⟩⟩)
theorem bkX11_out_12 {X : GX} {h : SH} {nc ns : Nat} {P : Out → SH → Prop} {a0 : Nat} {x1 : Int32} (kt : x1 < 0 → Gd X mX11_out 24 [none, none] [] (h) nc ns P) (kf : ¬ x1 < 0 → Gd X mX11_out 16 [some (.ref a0), some (.int x1)] [] (h) nc ns P) : Gd X mX11_out 12 [some (.ref a0), some (.int x1)] [] h nc ns P := by
  refine g_iload_n dX11_out_12 rfl ?_
  exact g_if_lt (tgt := 24) dX11_out_13 (by decide) (fun q => Gd.wk (kt q) trivial) (fun q => Gd.wk (kf q) ⟨rfl, ⟨rfl, trivial⟩⟩)
theorem bkX11_out_16 {X : GX} {h : SH} {nc ns : Nat} {P : Out → SH → Prop} {a0 : Nat} {x1 : Int32} (F0 : LX11 (Sk h) (a0)) (kt : x1 < hI h a0 52 → Gd X mX11_out 28 [some (.ref a0), some (.int x1)] [] (h) nc ns P) (kf : ¬ x1 < hI h a0 52 → Gd X mX11_out 24 [none, none] [] (h) nc ns P) : Gd X mX11_out 16 [some (.ref a0), some (.int x1)] [] h nc ns P := by
  refine g_iload_n dX11_out_16 rfl ?_
  refine g_aload_n dX11_out_17 rfl ?_
  refine g_getI (c := 11) (k := 52) dX11_out_18 (by decide) (by decide) kw_1179 rfl (LX11.o (h := h) F0) ?_
  exact g_icmp_lt (tgt := 28) dX11_out_21 (by decide) (fun q => Gd.wk (kt q) ⟨rfl, ⟨rfl, trivial⟩⟩) (fun q => Gd.wk (kf q) trivial)
theorem bkX11_out_24 {X : GX} {h : SH} {nc ns : Nat} {P : Out → SH → Prop} (g : Gd X mX11_out 34 [none, none] [.int ((-1))] (h) nc ns P) : Gd X mX11_out 24 [none, none] [] h nc ns P := by
  refine g_iconst (v := (-1)) dX11_out_24 (by decide) ?_
  refine g_goto (tgt := 34) dX11_out_25 (by decide) ?_
  exact Gd.wk g trivial
theorem bkX11_out_28 {X : GX} {h : SH} {nc ns : Nat} {P : Out → SH → Prop} {a0 : Nat} {x1 : Int32} (F0 : LX11 (Sk h) (a0)) (i1 : vp_in (x1) 5000) (g : Gd X mX11_out 34 [none, none] [.int (hI h (a0 + 34) ((x1 : Int32).toNatClampNeg))] (h) nc ns P) : Gd X mX11_out 28 [some (.ref a0), some (.int x1)] [] h nc ns P := by
  refine g_aload_n dX11_out_28 rfl ?_
  refine g_getAs (c := 11) (k := 54) (b := a0 + 34) dX11_out_29 (by decide) (by decide) kw_1181 rfl (LX11.o (h := h) F0) (LX11.r_latestOut (h := h) F0) ?_
  refine g_iload_n dX11_out_32 rfl ?_
  refine g_iaload dX11_out_33 (LX11.a_latestOut (h := h) F0) i1 ?_
  exact Gd.wk g trivial
theorem bkX11_out_34 {X : GX} {h : SH} {nc ns : Nat} {P : Out → SH → Prop} {xs0 : Int32} (hp : P (.inl (some (.int (xs0)))) (h)) : Gd X mX11_out 34 [none, none] [.int xs0] h nc ns P := by
  exact g_ireturn (st := []) dX11_out_34 rfl rfl hp
theorem bkX11_part__0 {X : GX} {h : SH} {nc ns : Nat} {P : Out → SH → Prop} {a0 : Nat} {x1 : Int32} (F0 : LX11 (Sk h) (a0)) (kt : (hI (sI h a0 0 0) a0 49) < 0 → Gd X mX11_part_ 25 [none, none] [] (sI h a0 0 0) nc ns P) (kf : ¬ (hI (sI h a0 0 0) a0 49) < 0 → Gd X mX11_part_ 12 [some (.ref a0), some (.int x1)] [] (sI h a0 0 0) nc ns P) : Gd X mX11_part_ 0 [some (.ref a0), some (.int x1)] [] h nc ns P := by
  refine g_aload_n dX11_part__0 rfl ?_
  refine g_iconst (v := 0) dX11_part__1 (by decide) ?_
  refine g_put (c := 11) (k := 0) (h1 := sI h a0 0 0) dX11_part__2 (by decide) (by decide) kw_1127 rfl (LX11.o (h := h) F0) rfl rfl (Put.I rfl) ?_
  refine g_aload_n dX11_part__5 rfl ?_
  refine g_getI (c := 11) (k := 49) dX11_part__6 (by decide) (by decide) kw_1176 rfl (LX11.o (h := sI h a0 0 0) F0) ?_
  exact g_if_lt (tgt := 25) dX11_part__9 (by decide) (fun q => Gd.wk (kt q) trivial) (fun q => Gd.wk (kf q) ⟨rfl, ⟨rfl, trivial⟩⟩)
theorem bkX11_part__12 {X : GX} {h : SH} {nc ns : Nat} {P : Out → SH → Prop} {a0 : Nat} {x1 : Int32} (kt : x1 < 1 → Gd X mX11_part_ 25 [none, none] [] (h) nc ns P) (kf : ¬ x1 < 1 → Gd X mX11_part_ 17 [some (.ref a0), some (.int x1)] [] (h) nc ns P) : Gd X mX11_part_ 12 [some (.ref a0), some (.int x1)] [] h nc ns P := by
  refine g_iload_n dX11_part__12 rfl ?_
  refine g_iconst (v := 1) dX11_part__13 (by decide) ?_
  exact g_icmp_lt (tgt := 25) dX11_part__14 (by decide) (fun q => Gd.wk (kt q) trivial) (fun q => Gd.wk (kf q) ⟨rfl, ⟨rfl, trivial⟩⟩)
theorem bkX11_part__17 {X : GX} {h : SH} {nc ns : Nat} {P : Out → SH → Prop} {a0 : Nat} {x1 : Int32} (F0 : LX11 (Sk h) (a0)) (kt : x1 ≤ hI h a0 53 → Gd X mX11_part_ 29 [some (.ref a0), some (.int x1)] [] (h) nc ns P) (kf : ¬ x1 ≤ hI h a0 53 → Gd X mX11_part_ 25 [none, none] [] (h) nc ns P) : Gd X mX11_part_ 17 [some (.ref a0), some (.int x1)] [] h nc ns P := by
  refine g_iload_n dX11_part__17 rfl ?_
  refine g_aload_n dX11_part__18 rfl ?_
  refine g_getI (c := 11) (k := 53) dX11_part__19 (by decide) (by decide) kw_1180 rfl (LX11.o (h := h) F0) ?_
  exact g_icmp_le (tgt := 29) dX11_part__22 (by decide) (fun q => Gd.wk (kt q) ⟨rfl, ⟨rfl, trivial⟩⟩) (fun q => Gd.wk (kf q) trivial)
theorem bkX11_part__25 {X : GX} {h : SH} {nc ns : Nat} {P : Out → SH → Prop} (g : Gd X mX11_part_ 37 [none, none] [.int ((-1))] (h) nc ns P) : Gd X mX11_part_ 25 [none, none] [] h nc ns P := by
  refine g_iconst (v := (-1)) dX11_part__25 (by decide) ?_
  refine g_goto (tgt := 37) dX11_part__26 (by decide) ?_
  exact Gd.wk g trivial
theorem bkX11_part__29 {X : GX} {h : SH} {nc ns : Nat} {P : Out → SH → Prop} {a0 : Nat} {x1 : Int32} (F0 : LX11 (Sk h) (a0)) (i1 : vp_in (x1 - 1) 12) (g : Gd X mX11_part_ 37 [none, none] [.int (hI h (a0 + 35) ((x1 - 1 : Int32).toNatClampNeg))] (h) nc ns P) : Gd X mX11_part_ 29 [some (.ref a0), some (.int x1)] [] h nc ns P := by
  refine g_aload_n dX11_part__29 rfl ?_
  refine g_getAs (c := 11) (k := 55) (b := a0 + 35) dX11_part__30 (by decide) (by decide) kw_1182 rfl (LX11.o (h := h) F0) (LX11.r_latestPart (h := h) F0) ?_
  refine g_iload_n dX11_part__33 rfl ?_
  refine g_iconst (v := 1) dX11_part__34 (by decide) ?_
  refine g_isub dX11_part__35 ?_
  refine g_iaload dX11_part__36 (LX11.a_latestPart (h := h) F0) i1 ?_
  exact Gd.wk g trivial
theorem bkX11_part__37 {X : GX} {h : SH} {nc ns : Nat} {P : Out → SH → Prop} {xs0 : Int32} (hp : P (.inl (some (.int (xs0)))) (h)) : Gd X mX11_part_ 37 [none, none] [.int xs0] h nc ns P := by
  exact g_ireturn (st := []) dX11_part__37 rfl rfl hp
theorem bkX11_keepsFacts_0 {X : GX} {h : SH} {nc ns : Nat} {P : Out → SH → Prop} {a0 : Nat} {x1 : Int32} (g : Gd X mX11_keepsFacts 2 [some (.ref a0), some (.int x1), some (.int 0)] [] (h) nc ns P) : Gd X mX11_keepsFacts 0 [some (.ref a0), some (.int x1), none] [] h nc ns P := by
  refine g_iconst (v := 0) dX11_keepsFacts_0 (by decide) ?_
  refine g_istore_n (L' := [some (.ref a0), some (.int x1), some (.int 0)]) dX11_keepsFacts_1 (by decide) rfl ?_
  exact Gd.wk g ⟨rfl, ⟨rfl, ⟨rfl, trivial⟩⟩⟩
theorem bkX11_keepsFacts_2 {X : GX} {h : SH} {nc ns : Nat} {P : Out → SH → Prop} {a0 : Nat} {x1 : Int32} {x2 : Int32} (kt : (8 : Int32) ≤ x2 → Gd X mX11_keepsFacts 45 [none, none, none] [] (h) nc ns P) (kf : ¬ (8 : Int32) ≤ x2 → Gd X mX11_keepsFacts 8 [some (.ref a0), some (.int x1), some (.int x2)] [] (h) nc ns P) : Gd X mX11_keepsFacts 2 [some (.ref a0), some (.int x1), some (.int x2)] [] h nc ns P := by
  refine g_iload_n dX11_keepsFacts_2 rfl ?_
  refine g_bipush (v := 8) dX11_keepsFacts_3 (by decide) ?_
  exact g_icmp_ge (tgt := 45) dX11_keepsFacts_5 (by decide) (fun q => Gd.wk (kt q) trivial) (fun q => Gd.wk (kf q) ⟨rfl, ⟨rfl, ⟨rfl, trivial⟩⟩⟩)
theorem bkX11_keepsFacts_8 {X : GX} {h : SH} {nc ns : Nat} {P : Out → SH → Prop} {a0 : Nat} {x1 : Int32} {x2 : Int32} (kt : x1 = 0 → Gd X mX11_keepsFacts 27 [some (.ref a0), some (.int x1), some (.int x2)] [] (h) nc ns P) (kf : ¬ x1 = 0 → Gd X mX11_keepsFacts 12 [some (.ref a0), some (.int x1), some (.int x2)] [] (h) nc ns P) : Gd X mX11_keepsFacts 8 [some (.ref a0), some (.int x1), some (.int x2)] [] h nc ns P := by
  refine g_iload_n dX11_keepsFacts_8 rfl ?_
  exact g_if_eq (tgt := 27) dX11_keepsFacts_9 (by decide) (fun q => Gd.wk (kt q) ⟨rfl, ⟨rfl, ⟨rfl, trivial⟩⟩⟩) (fun q => Gd.wk (kf q) ⟨rfl, ⟨rfl, ⟨rfl, trivial⟩⟩⟩)
theorem bkX11_keepsFacts_12 {X : GX} {h : SH} {nc ns : Nat} {P : Out → SH → Prop} {a0 : Nat} {x1 : Int32} {x2 : Int32} (F0 : LX11 (Sk h) (a0)) (i1 : vp_in (x2) 8) (g : Gd X mX11_keepsFacts 39 [some (.ref a0), some (.int x1), some (.int x2)] [] (sI h (a0 + 27) ((x2 : Int32).toNatClampNeg) (hI h (a0 + 36) ((x2 : Int32).toNatClampNeg))) nc ns P) : Gd X mX11_keepsFacts 12 [some (.ref a0), some (.int x1), some (.int x2)] [] h nc ns P := by
  refine g_aload_n dX11_keepsFacts_12 rfl ?_
  refine g_getAs (c := 11) (k := 35) (b := a0 + 27) dX11_keepsFacts_13 (by decide) (by decide) kw_1162 rfl (LX11.o (h := h) F0) (LX11.r_told (h := h) F0) ?_
  refine g_iload_n dX11_keepsFacts_16 rfl ?_
  refine g_aload_n dX11_keepsFacts_17 rfl ?_
  refine g_getAs (c := 11) (k := 56) (b := a0 + 36) dX11_keepsFacts_18 (by decide) (by decide) kw_1183 rfl (LX11.o (h := h) F0) (LX11.r_keptFacts (h := h) F0) ?_
  refine g_iload_n dX11_keepsFacts_21 rfl ?_
  refine g_iaload dX11_keepsFacts_22 (LX11.a_keptFacts (h := h) F0) i1 ?_
  refine g_iastore dX11_keepsFacts_23 (LX11.a_told (h := h) F0) i1 ?_
  refine g_goto (tgt := 39) dX11_keepsFacts_24 (by decide) ?_
  exact Gd.wk g ⟨rfl, ⟨rfl, ⟨rfl, trivial⟩⟩⟩
theorem bkX11_keepsFacts_27 {X : GX} {h : SH} {nc ns : Nat} {P : Out → SH → Prop} {a0 : Nat} {x1 : Int32} {x2 : Int32} (F0 : LX11 (Sk h) (a0)) (i1 : vp_in (x2) 8) (g : Gd X mX11_keepsFacts 39 [some (.ref a0), some (.int x1), some (.int x2)] [] (sI h (a0 + 36) ((x2 : Int32).toNatClampNeg) (hI h (a0 + 27) ((x2 : Int32).toNatClampNeg))) nc ns P) : Gd X mX11_keepsFacts 27 [some (.ref a0), some (.int x1), some (.int x2)] [] h nc ns P := by
  refine g_aload_n dX11_keepsFacts_27 rfl ?_
  refine g_getAs (c := 11) (k := 56) (b := a0 + 36) dX11_keepsFacts_28 (by decide) (by decide) kw_1183 rfl (LX11.o (h := h) F0) (LX11.r_keptFacts (h := h) F0) ?_
  refine g_iload_n dX11_keepsFacts_31 rfl ?_
  refine g_aload_n dX11_keepsFacts_32 rfl ?_
  refine g_getAs (c := 11) (k := 35) (b := a0 + 27) dX11_keepsFacts_33 (by decide) (by decide) kw_1162 rfl (LX11.o (h := h) F0) (LX11.r_told (h := h) F0) ?_
  refine g_iload_n dX11_keepsFacts_36 rfl ?_
  refine g_iaload dX11_keepsFacts_37 (LX11.a_told (h := h) F0) i1 ?_
  refine g_iastore dX11_keepsFacts_38 (LX11.a_keptFacts (h := h) F0) i1 ?_
  exact Gd.wk g ⟨rfl, ⟨rfl, ⟨rfl, trivial⟩⟩⟩
theorem bkX11_keepsFacts_39 {X : GX} {h : SH} {nc ns : Nat} {P : Out → SH → Prop} {a0 : Nat} {x1 : Int32} {x2 : Int32} (g : Gd X mX11_keepsFacts 2 [some (.ref a0), some (.int x1), some (.int (x2 + 1))] [] (h) nc ns P) : Gd X mX11_keepsFacts 39 [some (.ref a0), some (.int x1), some (.int x2)] [] h nc ns P := by
  refine g_iinc (v := x2 + 1) (L' := [some (.ref a0), some (.int x1), some (.int (x2 + 1))]) dX11_keepsFacts_39 rfl rfl (by decide) rfl ?_
  refine g_goto (tgt := 2) dX11_keepsFacts_42 (by decide) ?_
  exact Gd.wk g ⟨rfl, ⟨rfl, ⟨rfl, trivial⟩⟩⟩
theorem bkX11_keepsFacts_45 {X : GX} {h : SH} {nc ns : Nat} {P : Out → SH → Prop} (hp : P (.inl (none)) (h)) : Gd X mX11_keepsFacts 45 [none, none, none] [] h nc ns P := by
  exact g_return (st := []) dX11_keepsFacts_45 rfl hp
theorem bkX11_judge_0 {X : GX} {h : SH} {nc ns : Nat} {P : Out → SH → Prop} {a0 : Nat} {x1 : Int32} {x2 : Int32} (F0 : LX11 (Sk h) (a0)) (kt : (hI (sI h a0 0 0) a0 34) < 0 → Gd X mX11_judge 31 [none, none, none, none, none, none] [] (sI h a0 0 0) nc ns P) (kf : ¬ (hI (sI h a0 0 0) a0 34) < 0 → Gd X mX11_judge 12 [some (.ref a0), some (.int x1), some (.int x2), none, none, none] [] (sI h a0 0 0) nc ns P) : Gd X mX11_judge 0 [some (.ref a0), some (.int x1), some (.int x2), none, none, none] [] h nc ns P := by
  refine g_aload_n dX11_judge_0 rfl ?_
  refine g_iconst (v := 0) dX11_judge_1 (by decide) ?_
  refine g_put (c := 11) (k := 0) (h1 := sI h a0 0 0) dX11_judge_2 (by decide) (by decide) kw_1127 rfl (LX11.o (h := h) F0) rfl rfl (Put.I rfl) ?_
  refine g_aload_n dX11_judge_5 rfl ?_
  refine g_getI (c := 11) (k := 34) dX11_judge_6 (by decide) (by decide) kw_1161 rfl (LX11.o (h := sI h a0 0 0) F0) ?_
  exact g_if_lt (tgt := 31) dX11_judge_9 (by decide) (fun q => Gd.wk (kt q) trivial) (fun q => Gd.wk (kf q) ⟨rfl, ⟨rfl, ⟨rfl, trivial⟩⟩⟩)
theorem bkX11_judge_12 {X : GX} {h : SH} {nc ns : Nat} {P : Out → SH → Prop} {a0 : Nat} {x1 : Int32} {x2 : Int32} (kt : x1 < 1 → Gd X mX11_judge 31 [none, none, none, none, none, none] [] (h) nc ns P) (kf : ¬ x1 < 1 → Gd X mX11_judge 17 [some (.ref a0), some (.int x1), some (.int x2), none, none, none] [] (h) nc ns P) : Gd X mX11_judge 12 [some (.ref a0), some (.int x1), some (.int x2), none, none, none] [] h nc ns P := by
  refine g_iload_n dX11_judge_12 rfl ?_
  refine g_iconst (v := 1) dX11_judge_13 (by decide) ?_
  exact g_icmp_lt (tgt := 31) dX11_judge_14 (by decide) (fun q => Gd.wk (kt q) trivial) (fun q => Gd.wk (kf q) ⟨rfl, ⟨rfl, ⟨rfl, trivial⟩⟩⟩)
theorem bkX11_judge_17 {X : GX} {h : SH} {nc ns : Nat} {P : Out → SH → Prop} {a0 : Nat} {x1 : Int32} {x2 : Int32} (kt : (4 : Int32) < x1 → Gd X mX11_judge 31 [none, none, none, none, none, none] [] (h) nc ns P) (kf : ¬ (4 : Int32) < x1 → Gd X mX11_judge 22 [some (.ref a0), some (.int x1), some (.int x2), none, none, none] [] (h) nc ns P) : Gd X mX11_judge 17 [some (.ref a0), some (.int x1), some (.int x2), none, none, none] [] h nc ns P := by
  refine g_iload_n dX11_judge_17 rfl ?_
  refine g_iconst (v := 4) dX11_judge_18 (by decide) ?_
  exact g_icmp_gt (tgt := 31) dX11_judge_19 (by decide) (fun q => Gd.wk (kt q) trivial) (fun q => Gd.wk (kf q) ⟨rfl, ⟨rfl, ⟨rfl, trivial⟩⟩⟩)
theorem bkX11_judge_22 {X : GX} {h : SH} {nc ns : Nat} {P : Out → SH → Prop} {a0 : Nat} {x1 : Int32} {x2 : Int32} (kt : x2 < 0 → Gd X mX11_judge 31 [none, none, none, none, none, none] [] (h) nc ns P) (kf : ¬ x2 < 0 → Gd X mX11_judge 26 [some (.ref a0), some (.int x1), some (.int x2), none, none, none] [] (h) nc ns P) : Gd X mX11_judge 22 [some (.ref a0), some (.int x1), some (.int x2), none, none, none] [] h nc ns P := by
  refine g_iload_n dX11_judge_22 rfl ?_
  exact g_if_lt (tgt := 31) dX11_judge_23 (by decide) (fun q => Gd.wk (kt q) trivial) (fun q => Gd.wk (kf q) ⟨rfl, ⟨rfl, ⟨rfl, trivial⟩⟩⟩)
theorem bkX11_judge_26 {X : GX} {h : SH} {nc ns : Nat} {P : Out → SH → Prop} {a0 : Nat} {x1 : Int32} {x2 : Int32} (kt : x2 ≤ 1 → Gd X mX11_judge 33 [some (.ref a0), some (.int x1), some (.int x2), none, none, none] [] (h) nc ns P) (kf : ¬ x2 ≤ 1 → Gd X mX11_judge 31 [none, none, none, none, none, none] [] (h) nc ns P) : Gd X mX11_judge 26 [some (.ref a0), some (.int x1), some (.int x2), none, none, none] [] h nc ns P := by
  refine g_iload_n dX11_judge_26 rfl ?_
  refine g_iconst (v := 1) dX11_judge_27 (by decide) ?_
  exact g_icmp_le (tgt := 33) dX11_judge_28 (by decide) (fun q => Gd.wk (kt q) ⟨rfl, ⟨rfl, ⟨rfl, trivial⟩⟩⟩) (fun q => Gd.wk (kf q) trivial)
theorem bkX11_judge_31 {X : GX} {h : SH} {nc ns : Nat} {P : Out → SH → Prop} (hp : P (.inl (some (.int ((-1))))) (h)) : Gd X mX11_judge 31 [none, none, none, none, none, none] [] h nc ns P := by
  refine g_iconst (v := (-1)) dX11_judge_31 (by decide) ?_
  exact g_ireturn (st := []) dX11_judge_32 rfl rfl hp
theorem bkX11_judge_33 {X : GX} {h : SH} {nc ns : Nat} {P : Out → SH → Prop} {Q : SH → Prop} {a0 : Nat} {x1 : Int32} {x2 : Int32} (F0 : LX11 (Sk h) (a0)) (hN : Cd X mX11_keepsFacts [.ref a0, .int 0] (h) 0 0 (oV Q nX)) (g : ∀ t, Q t → Gd X mX11_judge 38 [some (.ref a0), some (.int x1), some (.int x2), none, none, none] [] (t) nc ns P) : Gd X mX11_judge 33 [some (.ref a0), some (.int x1), some (.int x2), none, none, none] [] h nc ns P := by
  refine g_aload_n dX11_judge_33 rfl ?_
  refine g_iconst (v := 0) dX11_judge_34 (by decide) ?_
  refine Gd.z ?_
  exact g_callV (k := 11) [.int 0] dX11_judge_35 mfX11_keepsFacts ⟨by decide, by decide⟩ kw_1545 kw_1547 kw_88 rfl (by decide) (Nat.le_of_ble_eq_true rfl) (by intro x hx; cases hx) (LX11.o (h := h) F0) (Nat.le_of_ble_eq_true rfl) hN (fun _ _ q => q.elim) (oV_go (G := fun a b => Gd X mX11_judge 38 _ a b nc ns P) (fun t q => Gd.wk (g t q) ⟨rfl, ⟨rfl, ⟨rfl, trivial⟩⟩⟩))
theorem bkX11_judge_38 {X : GX} {h : SH} {nc ns : Nat} {P : Out → SH → Prop} {a0 : Nat} {x1 : Int32} {x2 : Int32} (g : Gd X mX11_judge 46 [some (.ref a0), some (.int x1), some (.int x2), some (.int 0), some (.int ((-1))), some (.int 0)] [] (h) nc ns P) : Gd X mX11_judge 38 [some (.ref a0), some (.int x1), some (.int x2), none, none, none] [] h nc ns P := by
  refine g_iconst (v := 0) dX11_judge_38 (by decide) ?_
  refine g_istore_n (L' := [some (.ref a0), some (.int x1), some (.int x2), some (.int 0), none, none]) dX11_judge_39 (by decide) rfl ?_
  refine g_iconst (v := (-1)) dX11_judge_40 (by decide) ?_
  refine g_istore (L' := [some (.ref a0), some (.int x1), some (.int x2), some (.int 0), some (.int ((-1))), none]) dX11_judge_41 (by decide) rfl ?_
  refine g_iconst (v := 0) dX11_judge_43 (by decide) ?_
  refine g_istore (L' := [some (.ref a0), some (.int x1), some (.int x2), some (.int 0), some (.int ((-1))), some (.int 0)]) dX11_judge_44 (by decide) rfl ?_
  exact Gd.wk g ⟨rfl, ⟨rfl, ⟨rfl, ⟨rfl, ⟨rfl, ⟨rfl, trivial⟩⟩⟩⟩⟩⟩
theorem bkX11_judge_46 {X : GX} {h : SH} {nc ns : Nat} {P : Out → SH → Prop} {Q : Int64 → SH → Prop} {a0 : Nat} {x1 : Int32} {x2 : Int32} {x3 : Int32} {x4 : Int32} {x5 : Int32} (F0 : LX11 (Sk h) (a0)) (hN : Cd X mX11_worlds [.ref a0, .int (hI h a0 34)] (h) 0 0 (oJ Q nX)) (g : ∀ r t, Q r t → Gd X mX11_judge 57 [some (.ref a0), some (.int x1), some (.int x2), some (.int x3), some (.int x4), some (.int x5)] [.long r, .long ((x5 : Int32).toInt64)] (t) nc ns P) : Gd X mX11_judge 46 [some (.ref a0), some (.int x1), some (.int x2), some (.int x3), some (.int x4), some (.int x5)] [] h nc ns P := by
  refine g_iload dX11_judge_46 rfl ?_
  refine g_i2l dX11_judge_48 ?_
  refine g_aload_n dX11_judge_49 rfl ?_
  refine g_aload_n dX11_judge_50 rfl ?_
  refine g_getI (c := 11) (k := 34) dX11_judge_51 (by decide) (by decide) kw_1161 rfl (LX11.o (h := h) F0) ?_
  refine Gd.z ?_
  exact g_callV (k := 11) [.int (hI h a0 34)] dX11_judge_54 mfX11_worlds ⟨by decide, by decide⟩ kw_1358 kw_1360 kw_53 rfl (by decide) (Nat.le_of_ble_eq_true rfl) (by intro x hx; cases hx) (LX11.o (h := h) F0) (Nat.le_of_ble_eq_true rfl) hN (fun _ _ q => q.elim) (oJ_go (G := fun a b => Gd X mX11_judge 57 _ a b nc ns P) (fun r t q => Gd.wk (g r t q) ⟨rfl, ⟨rfl, ⟨rfl, ⟨rfl, ⟨rfl, ⟨rfl, trivial⟩⟩⟩⟩⟩⟩))
theorem bkX11_judge_57 {X : GX} {h : SH} {nc ns : Nat} {P : Out → SH → Prop} {a0 : Nat} {x1 : Int32} {x2 : Int32} {x3 : Int32} {x4 : Int32} {x5 : Int32} {ys0 : Int64} {ys1 : Int64} (kt : (0 : Int32) ≤ (lg_cmp ys0 ys1) → Gd X mX11_judge 118 [some (.ref a0), none, some (.int x2), some (.int x3), some (.int x4), none] [] (h) nc ns P) (kf : ¬ (0 : Int32) ≤ (lg_cmp ys0 ys1) → Gd X mX11_judge 61 [some (.ref a0), some (.int x1), some (.int x2), some (.int x3), some (.int x4), some (.int x5)] [] (h) nc ns P) : Gd X mX11_judge 57 [some (.ref a0), some (.int x1), some (.int x2), some (.int x3), some (.int x4), some (.int x5)] [.long ys1, .long ys0] h nc ns P := by
  refine g_lcmp dX11_judge_57 ?_
  exact g_if_ge (tgt := 118) dX11_judge_58 (by decide) (fun q => Gd.wk (kt q) ⟨rfl, ⟨rfl, ⟨rfl, ⟨rfl, trivial⟩⟩⟩⟩) (fun q => Gd.wk (kf q) ⟨rfl, ⟨rfl, ⟨rfl, ⟨rfl, ⟨rfl, ⟨rfl, trivial⟩⟩⟩⟩⟩⟩)
theorem bkX11_judge_61 {X : GX} {h : SH} {nc ns : Nat} {P : Out → SH → Prop} {Q : SH → Prop} {a0 : Nat} {x1 : Int32} {x2 : Int32} {x3 : Int32} {x4 : Int32} {x5 : Int32} (F0 : LX11 (Sk h) (a0)) (hN : Cd X mX11_comes [.ref a0, .int (hI h a0 34), .int x5] (h) 0 0 (oV Q nX)) (g : ∀ t, Q t → Gd X mX11_judge 71 [some (.ref a0), some (.int x1), some (.int x2), some (.int x3), some (.int x4), some (.int x5)] [] (t) nc ns P) : Gd X mX11_judge 61 [some (.ref a0), some (.int x1), some (.int x2), some (.int x3), some (.int x4), some (.int x5)] [] h nc ns P := by
  refine g_aload_n dX11_judge_61 rfl ?_
  refine g_aload_n dX11_judge_62 rfl ?_
  refine g_getI (c := 11) (k := 34) dX11_judge_63 (by decide) (by decide) kw_1161 rfl (LX11.o (h := h) F0) ?_
  refine g_iload dX11_judge_66 rfl ?_
  refine Gd.z ?_
  exact g_callV (k := 11) [.int (hI h a0 34), .int x5] dX11_judge_68 mfX11_comes ⟨by decide, by decide⟩ kw_1443 kw_1445 kw_70 rfl (by decide) (Nat.le_of_ble_eq_true rfl) (by intro x hx; cases hx) (LX11.o (h := h) F0) (Nat.le_of_ble_eq_true rfl) hN (fun _ _ q => q.elim) (oV_go (G := fun a b => Gd X mX11_judge 71 _ a b nc ns P) (fun t q => Gd.wk (g t q) ⟨rfl, ⟨rfl, ⟨rfl, ⟨rfl, ⟨rfl, ⟨rfl, trivial⟩⟩⟩⟩⟩⟩))
theorem bkX11_judge_71 {X : GX} {h : SH} {nc ns : Nat} {P : Out → SH → Prop} {Q : SH → Prop} {a0 : Nat} {x1 : Int32} {x2 : Int32} {x3 : Int32} {x4 : Int32} {x5 : Int32} (F0 : LX11 (Sk h) (a0)) (hN : Cd X mX11_gathers [.ref a0, .int (hI h a0 34)] (h) 0 0 (oV Q nX)) (g : ∀ t, Q t → Gd X mX11_judge 79 [some (.ref a0), some (.int x1), some (.int x2), some (.int x3), some (.int x4), some (.int x5)] [] (t) nc ns P) : Gd X mX11_judge 71 [some (.ref a0), some (.int x1), some (.int x2), some (.int x3), some (.int x4), some (.int x5)] [] h nc ns P := by
  refine g_aload_n dX11_judge_71 rfl ?_
  refine g_aload_n dX11_judge_72 rfl ?_
  refine g_getI (c := 11) (k := 34) dX11_judge_73 (by decide) (by decide) kw_1161 rfl (LX11.o (h := h) F0) ?_
  refine Gd.z ?_
  exact g_callV (k := 11) [.int (hI h a0 34)] dX11_judge_76 mfX11_gathers ⟨by decide, by decide⟩ kw_1475 kw_1477 kw_75 rfl (by decide) (Nat.le_of_ble_eq_true rfl) (by intro x hx; cases hx) (LX11.o (h := h) F0) (Nat.le_of_ble_eq_true rfl) hN (fun _ _ q => q.elim) (oV_go (G := fun a b => Gd X mX11_judge 79 _ a b nc ns P) (fun t q => Gd.wk (g t q) ⟨rfl, ⟨rfl, ⟨rfl, ⟨rfl, ⟨rfl, ⟨rfl, trivial⟩⟩⟩⟩⟩⟩))
theorem bkX11_judge_79 {X : GX} {h : SH} {nc ns : Nat} {P : Out → SH → Prop} {Q : SH → Prop} {a0 : Nat} {x1 : Int32} {x2 : Int32} {x3 : Int32} {x4 : Int32} {x5 : Int32} (F0 : LX11 (Sk h) (a0)) (hN : Cd X mX11_quarrels [.ref a0, .int (hI h a0 34)] (h) 0 0 (oV Q nX)) (g : ∀ t, Q t → Gd X mX11_judge 87 [some (.ref a0), some (.int x1), some (.int x2), some (.int x3), some (.int x4), some (.int x5)] [] (t) nc ns P) : Gd X mX11_judge 79 [some (.ref a0), some (.int x1), some (.int x2), some (.int x3), some (.int x4), some (.int x5)] [] h nc ns P := by
  refine g_aload_n dX11_judge_79 rfl ?_
  refine g_aload_n dX11_judge_80 rfl ?_
  refine g_getI (c := 11) (k := 34) dX11_judge_81 (by decide) (by decide) kw_1161 rfl (LX11.o (h := h) F0) ?_
  refine Gd.z ?_
  exact g_callV (k := 11) [.int (hI h a0 34)] dX11_judge_84 mfX11_quarrels ⟨by decide, by decide⟩ kw_1483 kw_1485 kw_77 rfl (by decide) (Nat.le_of_ble_eq_true rfl) (by intro x hx; cases hx) (LX11.o (h := h) F0) (Nat.le_of_ble_eq_true rfl) hN (fun _ _ q => q.elim) (oV_go (G := fun a b => Gd X mX11_judge 87 _ a b nc ns P) (fun t q => Gd.wk (g t q) ⟨rfl, ⟨rfl, ⟨rfl, ⟨rfl, ⟨rfl, ⟨rfl, trivial⟩⟩⟩⟩⟩⟩))
theorem bkX11_judge_87 {X : GX} {h : SH} {nc ns : Nat} {P : Out → SH → Prop} {a0 : Nat} {x1 : Int32} {x2 : Int32} {x3 : Int32} {x4 : Int32} {x5 : Int32} (F0 : LX11 (Sk h) (a0)) (kt : ¬ hI h a0 44 = x1 → Gd X mX11_judge 112 [some (.ref a0), some (.int x1), some (.int x2), some (.int x3), some (.int x4), some (.int x5)] [] (h) nc ns P) (kf : hI h a0 44 = x1 → Gd X mX11_judge 95 [some (.ref a0), some (.int x1), some (.int x2), some (.int x3), some (.int x4), some (.int x5)] [] (h) nc ns P) : Gd X mX11_judge 87 [some (.ref a0), some (.int x1), some (.int x2), some (.int x3), some (.int x4), some (.int x5)] [] h nc ns P := by
  refine g_aload_n dX11_judge_87 rfl ?_
  refine g_getI (c := 11) (k := 44) dX11_judge_88 (by decide) (by decide) kw_1171 rfl (LX11.o (h := h) F0) ?_
  refine g_iload_n dX11_judge_91 rfl ?_
  exact g_icmp_ne (tgt := 112) dX11_judge_92 (by decide) (fun q => Gd.wk (kt q) ⟨rfl, ⟨rfl, ⟨rfl, ⟨rfl, ⟨rfl, ⟨rfl, trivial⟩⟩⟩⟩⟩⟩) (fun q => Gd.wk (kf q) ⟨rfl, ⟨rfl, ⟨rfl, ⟨rfl, ⟨rfl, ⟨rfl, trivial⟩⟩⟩⟩⟩⟩)
theorem bkX11_judge_95 {X : GX} {h : SH} {nc ns : Nat} {P : Out → SH → Prop} {a0 : Nat} {x1 : Int32} {x2 : Int32} {x3 : Int32} {x4 : Int32} {x5 : Int32} (kt : (0 : Int32) ≤ x4 → Gd X mX11_judge 108 [some (.ref a0), some (.int x1), some (.int x2), some (.int (x3 + 1)), some (.int x4), some (.int x5)] [] (h) nc ns P) (kf : ¬ (0 : Int32) ≤ x4 → Gd X mX11_judge 103 [some (.ref a0), some (.int x1), some (.int x2), some (.int (x3 + 1)), none, some (.int x5)] [] (h) nc ns P) : Gd X mX11_judge 95 [some (.ref a0), some (.int x1), some (.int x2), some (.int x3), some (.int x4), some (.int x5)] [] h nc ns P := by
  refine g_iinc (v := x3 + 1) (L' := [some (.ref a0), some (.int x1), some (.int x2), some (.int (x3 + 1)), some (.int x4), some (.int x5)]) dX11_judge_95 rfl rfl (by decide) rfl ?_
  refine g_iload dX11_judge_98 rfl ?_
  exact g_if_ge (tgt := 108) dX11_judge_100 (by decide) (fun q => Gd.wk (kt q) ⟨rfl, ⟨rfl, ⟨rfl, ⟨rfl, ⟨rfl, ⟨rfl, trivial⟩⟩⟩⟩⟩⟩) (fun q => Gd.wk (kf q) ⟨rfl, ⟨rfl, ⟨rfl, ⟨rfl, ⟨rfl, trivial⟩⟩⟩⟩⟩)
theorem bkX11_judge_103 {X : GX} {h : SH} {nc ns : Nat} {P : Out → SH → Prop} {a0 : Nat} {x1 : Int32} {x2 : Int32} {x3 : Int32} {x5 : Int32} (g : Gd X mX11_judge 110 [some (.ref a0), some (.int x1), some (.int x2), some (.int x3), none, some (.int x5)] [.int x5] (h) nc ns P) : Gd X mX11_judge 103 [some (.ref a0), some (.int x1), some (.int x2), some (.int x3), none, some (.int x5)] [] h nc ns P := by
  refine g_iload dX11_judge_103 rfl ?_
  refine g_goto (tgt := 110) dX11_judge_105 (by decide) ?_
  exact Gd.wk g ⟨rfl, ⟨rfl, ⟨rfl, ⟨rfl, ⟨rfl, trivial⟩⟩⟩⟩⟩
theorem bkX11_judge_108 {X : GX} {h : SH} {nc ns : Nat} {P : Out → SH → Prop} {a0 : Nat} {x1 : Int32} {x2 : Int32} {x3 : Int32} {x4 : Int32} {x5 : Int32} (g : Gd X mX11_judge 110 [some (.ref a0), some (.int x1), some (.int x2), some (.int x3), none, some (.int x5)] [.int x4] (h) nc ns P) : Gd X mX11_judge 108 [some (.ref a0), some (.int x1), some (.int x2), some (.int x3), some (.int x4), some (.int x5)] [] h nc ns P := by
  refine g_iload dX11_judge_108 rfl ?_
  exact Gd.wk g ⟨rfl, ⟨rfl, ⟨rfl, ⟨rfl, ⟨rfl, trivial⟩⟩⟩⟩⟩
theorem bkX11_judge_110 {X : GX} {h : SH} {nc ns : Nat} {P : Out → SH → Prop} {a0 : Nat} {x1 : Int32} {x2 : Int32} {x3 : Int32} {x5 : Int32} {xs0 : Int32} (g : Gd X mX11_judge 112 [some (.ref a0), some (.int x1), some (.int x2), some (.int x3), some (.int xs0), some (.int x5)] [] (h) nc ns P) : Gd X mX11_judge 110 [some (.ref a0), some (.int x1), some (.int x2), some (.int x3), none, some (.int x5)] [.int xs0] h nc ns P := by
  refine g_istore (L' := [some (.ref a0), some (.int x1), some (.int x2), some (.int x3), some (.int xs0), some (.int x5)]) dX11_judge_110 (by decide) rfl ?_
  exact Gd.wk g ⟨rfl, ⟨rfl, ⟨rfl, ⟨rfl, ⟨rfl, ⟨rfl, trivial⟩⟩⟩⟩⟩⟩
theorem bkX11_judge_112 {X : GX} {h : SH} {nc ns : Nat} {P : Out → SH → Prop} {a0 : Nat} {x1 : Int32} {x2 : Int32} {x3 : Int32} {x4 : Int32} {x5 : Int32} (g : Gd X mX11_judge 46 [some (.ref a0), some (.int x1), some (.int x2), some (.int x3), some (.int x4), some (.int (x5 + 1))] [] (h) nc ns P) : Gd X mX11_judge 112 [some (.ref a0), some (.int x1), some (.int x2), some (.int x3), some (.int x4), some (.int x5)] [] h nc ns P := by
  refine g_iinc (v := x5 + 1) (L' := [some (.ref a0), some (.int x1), some (.int x2), some (.int x3), some (.int x4), some (.int (x5 + 1))]) dX11_judge_112 rfl rfl (by decide) rfl ?_
  refine g_goto (tgt := 46) dX11_judge_115 (by decide) ?_
  exact Gd.wk g ⟨rfl, ⟨rfl, ⟨rfl, ⟨rfl, ⟨rfl, ⟨rfl, trivial⟩⟩⟩⟩⟩⟩
theorem bkX11_judge_118 {X : GX} {h : SH} {nc ns : Nat} {P : Out → SH → Prop} {Q : SH → Prop} {a0 : Nat} {x2 : Int32} {x3 : Int32} {x4 : Int32} (F0 : LX11 (Sk h) (a0)) (hN : Cd X mX11_keepsFacts [.ref a0, .int 1] (h) 0 0 (oV Q nX)) (g : ∀ t, Q t → Gd X mX11_judge 123 [none, none, some (.int x2), some (.int x3), some (.int x4), none] [] (t) nc ns P) : Gd X mX11_judge 118 [some (.ref a0), none, some (.int x2), some (.int x3), some (.int x4), none] [] h nc ns P := by
  refine g_aload_n dX11_judge_118 rfl ?_
  refine g_iconst (v := 1) dX11_judge_119 (by decide) ?_
  refine Gd.z ?_
  exact g_callV (k := 11) [.int 1] dX11_judge_120 mfX11_keepsFacts ⟨by decide, by decide⟩ kw_1545 kw_1547 kw_88 rfl (by decide) (Nat.le_of_ble_eq_true rfl) (by intro x hx; cases hx) (LX11.o (h := h) F0) (Nat.le_of_ble_eq_true rfl) hN (fun _ _ q => q.elim) (oV_go (G := fun a b => Gd X mX11_judge 123 _ a b nc ns P) (fun t q => Gd.wk (g t q) ⟨rfl, ⟨rfl, ⟨rfl, trivial⟩⟩⟩))
theorem bkX11_judge_123 {X : GX} {h : SH} {nc ns : Nat} {P : Out → SH → Prop} {x2 : Int32} {x3 : Int32} {x4 : Int32} (kt : ¬ x2 = 0 → Gd X mX11_judge 131 [none, none, none, none, some (.int x4), none] [] (h) nc ns P) (kf : x2 = 0 → Gd X mX11_judge 127 [none, none, none, some (.int x3), none, none] [] (h) nc ns P) : Gd X mX11_judge 123 [none, none, some (.int x2), some (.int x3), some (.int x4), none] [] h nc ns P := by
  refine g_iload_n dX11_judge_123 rfl ?_
  exact g_if_ne (tgt := 131) dX11_judge_124 (by decide) (fun q => Gd.wk (kt q) ⟨rfl, trivial⟩) (fun q => Gd.wk (kf q) ⟨rfl, trivial⟩)
theorem bkX11_judge_127 {X : GX} {h : SH} {nc ns : Nat} {P : Out → SH → Prop} {x3 : Int32} (g : Gd X mX11_judge 133 [none, none, none, none, none, none] [.int x3] (h) nc ns P) : Gd X mX11_judge 127 [none, none, none, some (.int x3), none, none] [] h nc ns P := by
  refine g_iload_n dX11_judge_127 rfl ?_
  refine g_goto (tgt := 133) dX11_judge_128 (by decide) ?_
  exact Gd.wk g trivial
theorem bkX11_judge_131 {X : GX} {h : SH} {nc ns : Nat} {P : Out → SH → Prop} {x4 : Int32} (g : Gd X mX11_judge 133 [none, none, none, none, none, none] [.int x4] (h) nc ns P) : Gd X mX11_judge 131 [none, none, none, none, some (.int x4), none] [] h nc ns P := by
  refine g_iload dX11_judge_131 rfl ?_
  exact Gd.wk g trivial
theorem bkX11_judge_133 {X : GX} {h : SH} {nc ns : Nat} {P : Out → SH → Prop} {xs0 : Int32} (hp : P (.inl (some (.int (xs0)))) (h)) : Gd X mX11_judge 133 [none, none, none, none, none, none] [.int xs0] h nc ns P := by
  exact g_ireturn (st := []) dX11_judge_133 rfl rfl hp
theorem bkX11_haveSameFacts_0 {X : GX} {h : SH} {nc ns : Nat} {P : Out → SH → Prop} {a0 : Nat} {x1 : Int32} {x2 : Int32} (F0 : LX11 (Sk h) (a0)) (i1 : vp_in (x1) 7) (i2 : vp_in (x2) 7) (kt : ¬ (hI h (a0 + 7) ((x1 : Int32).toNatClampNeg)) = (hI h (a0 + 7) ((x2 : Int32).toNatClampNeg)) → Gd X mX11_haveSameFacts 19 [some (.ref a0), some (.int x1), some (.int x2), none, none] [] (h) nc ns P) (kf : (hI h (a0 + 7) ((x1 : Int32).toNatClampNeg)) = (hI h (a0 + 7) ((x2 : Int32).toNatClampNeg)) → Gd X mX11_haveSameFacts 15 [some (.ref a0), some (.int x1), some (.int x2), none, none] [] (h) nc ns P) : Gd X mX11_haveSameFacts 0 [some (.ref a0), some (.int x1), some (.int x2), none, none] [] h nc ns P := by
  refine g_aload_n dX11_haveSameFacts_0 rfl ?_
  refine g_getAs (c := 11) (k := 12) (b := a0 + 7) dX11_haveSameFacts_1 (by decide) (by decide) kw_1139 rfl (LX11.o (h := h) F0) (LX11.r_facts (h := h) F0) ?_
  refine g_iload_n dX11_haveSameFacts_4 rfl ?_
  refine g_iaload dX11_haveSameFacts_5 (LX11.a_facts (h := h) F0) i1 ?_
  refine g_aload_n dX11_haveSameFacts_6 rfl ?_
  refine g_getAs (c := 11) (k := 12) (b := a0 + 7) dX11_haveSameFacts_7 (by decide) (by decide) kw_1139 rfl (LX11.o (h := h) F0) (LX11.r_facts (h := h) F0) ?_
  refine g_iload_n dX11_haveSameFacts_10 rfl ?_
  refine g_iaload dX11_haveSameFacts_11 (LX11.a_facts (h := h) F0) i2 ?_
  exact g_icmp_ne (tgt := 19) dX11_haveSameFacts_12 (by decide) (fun q => Gd.wk (kt q) ⟨rfl, ⟨rfl, ⟨rfl, trivial⟩⟩⟩) (fun q => Gd.wk (kf q) ⟨rfl, ⟨rfl, ⟨rfl, trivial⟩⟩⟩)
theorem bkX11_haveSameFacts_15 {X : GX} {h : SH} {nc ns : Nat} {P : Out → SH → Prop} {a0 : Nat} {x1 : Int32} {x2 : Int32} (g : Gd X mX11_haveSameFacts 20 [some (.ref a0), some (.int x1), some (.int x2), none, none] [.int 1] (h) nc ns P) : Gd X mX11_haveSameFacts 15 [some (.ref a0), some (.int x1), some (.int x2), none, none] [] h nc ns P := by
  refine g_iconst (v := 1) dX11_haveSameFacts_15 (by decide) ?_
  refine g_goto (tgt := 20) dX11_haveSameFacts_16 (by decide) ?_
  exact Gd.wk g ⟨rfl, ⟨rfl, ⟨rfl, trivial⟩⟩⟩
theorem bkX11_haveSameFacts_19 {X : GX} {h : SH} {nc ns : Nat} {P : Out → SH → Prop} {a0 : Nat} {x1 : Int32} {x2 : Int32} (g : Gd X mX11_haveSameFacts 20 [some (.ref a0), some (.int x1), some (.int x2), none, none] [.int 0] (h) nc ns P) : Gd X mX11_haveSameFacts 19 [some (.ref a0), some (.int x1), some (.int x2), none, none] [] h nc ns P := by
  refine g_iconst (v := 0) dX11_haveSameFacts_19 (by decide) ?_
  exact Gd.wk g ⟨rfl, ⟨rfl, ⟨rfl, trivial⟩⟩⟩
