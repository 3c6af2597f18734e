/-- fewer locals -/
def wkL : List (Option Value) → List (Option Value) → Prop
  | [], _ => True
  | none :: r, _ :: t => wkL r t
  | some v :: r, some w :: t => v = w ∧ wkL r t
  | _, _ => False
theorem wkL.at : ∀ {L' L : List (Option Value)}, wkL L' L → ∀ (i : Nat) (v : Value), L'[i]? = some (some v) → L[i]? = some (some v)
  | [], _, _, i, v, h => by simp at h
  | none :: r, _ :: t, q, 0, v, h => by simp at h
  | none :: r, _ :: t, q, i + 1, v, h => by simpa using wkL.at (L' := r) (L := t) q i v (by simpa using h)
  | some a :: r, some b :: t, q, 0, v, h => by
    obtain ⟨q1, -⟩ := q
    simp at h; subst h; subst q1; simp
  | some a :: r, some b :: t, q, i + 1, v, h => by simpa using wkL.at (L' := r) (L := t) q.2 i v (by simpa using h)
  | none :: r, [], q, _, _, _ => q.elim
  | some a :: r, [], q, _, _, _ => q.elim
  | some a :: r, none :: t, q, _, _, _ => q.elim
theorem Gd.wk {X : GX} {M : MI} {pc : Nat} {L L' : List (Option Value)} {st : List Value} {h : SH} {nc ns : Nat} {P : Out → SH → Prop} (g : Gd X M pc L' st h nc ns P) (q : wkL L' L) : Gd X M pc L st h nc ns P := Gd.weak q.at g
theorem cl2_rf (r : Option Nat) : cl2 (some (va_rf r)) = some (va_rf r) := by cases r <;> rfl
theorem rf_n {X : GX} {t : FieldType} {r : Option Nat} (ht : tA t = true) : narrow t (mv X (va_rf r)) = mv X (va_rf r) := by
  rw [mv_rf]; cases t <;> first | (simp [tA] at ht; done) | (cases r <;> rfl)
theorem rf_f {X : GX} {t : FieldType} {r : Option Nat} (ht : tA t = true) : fits t (mv X (va_rf r)) = true := by
  rw [mv_rf]; cases t <;> first | (simp [tA] at ht; done) | (cases r <;> rfl)
theorem g_newarrN {X : GX} {M : MI} {pc : Nat} {L : List (Option Value)} {st : List Value} {h : SH} {nc ns : Nat} {P : Out → SH → Prop} {k N : Nat} {n : Int32} {atype : ArrayType} (hd : decode M.2.1 pc = .ok (.newarray atype, 2)) (h1 : 20 ≤ k) (h2 : k < 24) (hty : newarray.typeOf atype = arT k) (hw : KW (Cond.arrayClass (arT k))) (hn : ¬ n < 0) (hN : n.toNatClampNeg = N) (hb : N * componentBytes (arT k) ≤ 536870912)
    (g : Gd X M (pc + 2) L (.ref (hz h) :: st) (nw h k N) nc ns P) : Gd X M pc L (.int n :: st) h (nc + 1) (ns + N) P := by
  subst hN; exact g_newarr hd h1 h2 hty hw hn hb g
theorem g_anewarrN {X : GX} {M : MI} {pc : Nat} {L : List (Option Value)} {st : List Value} {h : SH} {nc ns : Nat} {P : Out → SH → Prop} {k N idx : Nat} {n : Int32} (hd : decode M.2.1 pc = .ok (.anewarray idx, 3)) (h1 : 24 ≤ k) (h2 : k < 27) (hw : KW (Cond.classLink M.1.cls idx (ctR (arC k)))) (ho : KN (Cond.arrayOver (.object (ctR (arC k))))) (hn : ¬ n < 0) (hN : n.toNatClampNeg = N) (hb : N * 4 ≤ 536870912)
    (g : Gd X M (pc + 3) L (.ref (hz h) :: st) (nw h k N) nc ns P) : Gd X M pc L (.int n :: st) h (nc + 1) (ns + N) P := by
  subst hN; exact g_anewarr hd h1 h2 hw ho hn hb g
theorem bkX0_init_0 {X : GX} {h : SH} {nc ns : Nat} {P : Out → SH → Prop} {a0 : Nat} (g : Gd X mX0_init 4 [some (.ref a0)] [] (h) nc ns P) : Gd X mX0_init 0 [some (.ref a0)] [] h nc ns P := by
  refine g_aload_n dX0_init_0 rfl ?_
  refine g_objInit dX0_init_1 kw_151 kw_124 kw_125 (by decide) (Nat.le_of_ble_eq_true rfl) ?_
  exact Gd.wk g ⟨rfl, trivial⟩
theorem bkX0_init_4 {X : GX} {h : SH} {nc ns : Nat} {P : Out → SH → Prop} {a0 : Nat} (g : Gd X mX0_init 9 [none] [.ref (hz h), .ref a0] (nw h 20 40) nc ns P) : Gd X mX0_init 4 [some (.ref a0)] [] h (nc + 1) (ns + 40) P := by
  refine g_aload_n dX0_init_4 rfl ?_
  refine g_bipush (v := 40) dX0_init_5 (by decide) ?_
  refine g_newarrN (k := 20) (N := 40) dX0_init_7 (by decide) (by decide) rfl kw_145 (by decide) (by decide) (by decide) ?_
  exact Gd.wk g trivial
theorem bkX0_init_9 {X : GX} {h : SH} {nc ns : Nat} {P : Out → SH → Prop} {as0 : Nat} {as1 : Nat} (F0 : LX0 (Sk h) (as0)) (g : Gd X mX0_init 12 [none] [] (sA h as0 0 (some (as1))) nc ns P) : Gd X mX0_init 9 [none] [.ref as1, .ref as0] h nc ns P := by
  refine g_putF (c := 0) (k := 0) (v := va_rf (some (as1))) (h1 := sA h as0 0 (some (as1))) dX0_init_9 (by decide) (by decide) kw_152 rfl rfl rfl (LX0.o (h := h) F0) (rf_n rfl) (rf_f rfl) (Put.A rfl) ?_
  exact Gd.wk g trivial
theorem bkX0_init_12 {X : GX} {h : SH} {nc ns : Nat} {P : Out → SH → Prop} (hp : P (.inl (none)) (h)) : Gd X mX0_init 12 [none] [] h nc ns P := by
  exact g_return (st := []) dX0_init_12 rfl hp
theorem bkX0_addFree_0 {X : GX} {h : SH} {nc ns : Nat} {P : Out → SH → Prop} {Q : Int32 → SH → Prop} {a0 : Nat} {x1 : Int32} (F0 : LX0 (Sk h) (a0)) (hN : Cd X mX0_firstNotBelow [.ref a0, .int x1] (h) 0 0 (oI Q nX)) (g : ∀ r t, Q r t → Gd X mX0_addFree 5 [some (.ref a0), some (.int x1), none, none] [.int r] (t) nc ns P) : Gd X mX0_addFree 0 [some (.ref a0), some (.int x1), none, none] [] h nc ns P := by
  refine g_aload_n dX0_addFree_0 rfl ?_
  refine g_iload_n dX0_addFree_1 rfl ?_
  refine Gd.z ?_
  exact g_callV (k := 0) [.int x1] dX0_addFree_2 mfX0_firstNotBelow ⟨by decide, by decide⟩ kw_919 kw_921 kw_30 rfl (by decide) (Nat.le_of_ble_eq_true rfl) (by intro x hx; cases hx) (LX0.o (h := h) F0) (Nat.le_of_ble_eq_true rfl) hN (fun _ _ q => q.elim) (oI_go (G := fun a b => Gd X mX0_addFree 5 _ a b nc ns P) (fun r t q => Gd.wk (g r t q) ⟨rfl, ⟨rfl, trivial⟩⟩))
theorem bkX0_addFree_5 {X : GX} {h : SH} {nc ns : Nat} {P : Out → SH → Prop} {a0 : Nat} {x1 : Int32} {xs0 : Int32} (F0 : LX0 (Sk h) (a0)) (kt : (40 : Int32) ≤ hI h a0 1 → Gd X mX0_addFree 33 [none, none, none, none] [] (h) nc ns P) (kf : ¬ (40 : Int32) ≤ hI h a0 1 → Gd X mX0_addFree 15 [some (.ref a0), some (.int x1), some (.int xs0), none] [] (h) nc ns P) : Gd X mX0_addFree 5 [some (.ref a0), some (.int x1), none, none] [.int xs0] h nc ns P := by
  refine g_istore_n (L' := [some (.ref a0), some (.int x1), some (.int xs0), none]) dX0_addFree_5 (by decide) rfl ?_
  refine g_aload_n dX0_addFree_6 rfl ?_
  refine g_getI (c := 0) (k := 1) dX0_addFree_7 (by decide) (by decide) kw_153 rfl (LX0.o (h := h) F0) ?_
  refine g_bipush (v := 40) dX0_addFree_10 (by decide) ?_
  exact g_icmp_ge (tgt := 33) dX0_addFree_12 (by decide) (fun q => Gd.wk (kt q) trivial) (fun q => Gd.wk (kf q) ⟨rfl, ⟨rfl, ⟨rfl, trivial⟩⟩⟩)
theorem bkX0_addFree_15 {X : GX} {h : SH} {nc ns : Nat} {P : Out → SH → Prop} {a0 : Nat} {x1 : Int32} {x2 : Int32} (F0 : LX0 (Sk h) (a0)) (kt : hI h a0 1 ≤ x2 → Gd X mX0_addFree 35 [some (.ref a0), some (.int x1), some (.int x2), none] [] (h) nc ns P) (kf : ¬ hI h a0 1 ≤ x2 → Gd X mX0_addFree 23 [some (.ref a0), some (.int x1), some (.int x2), none] [] (h) nc ns P) : Gd X mX0_addFree 15 [some (.ref a0), some (.int x1), some (.int x2), none] [] h nc ns P := by
  refine g_iload_n dX0_addFree_15 rfl ?_
  refine g_aload_n dX0_addFree_16 rfl ?_
  refine g_getI (c := 0) (k := 1) dX0_addFree_17 (by decide) (by decide) kw_153 rfl (LX0.o (h := h) F0) ?_
  exact g_icmp_ge (tgt := 35) dX0_addFree_20 (by decide) (fun q => Gd.wk (kt q) ⟨rfl, ⟨rfl, ⟨rfl, trivial⟩⟩⟩) (fun q => Gd.wk (kf q) ⟨rfl, ⟨rfl, ⟨rfl, trivial⟩⟩⟩)
theorem bkX0_addFree_23 {X : GX} {h : SH} {nc ns : Nat} {P : Out → SH → Prop} {a0 : Nat} {x1 : Int32} {x2 : Int32} (F0 : LX0 (Sk h) (a0)) (i1 : vp_in (x2) 40) (kt : ¬ (hI h (a0 + 1) ((x2 : Int32).toNatClampNeg)) = x1 → Gd X mX0_addFree 35 [some (.ref a0), some (.int x1), some (.int x2), none] [] (h) nc ns P) (kf : (hI h (a0 + 1) ((x2 : Int32).toNatClampNeg)) = x1 → Gd X mX0_addFree 33 [none, none, none, none] [] (h) nc ns P) : Gd X mX0_addFree 23 [some (.ref a0), some (.int x1), some (.int x2), none] [] h nc ns P := by
  refine g_aload_n dX0_addFree_23 rfl ?_
  refine g_getAs (c := 0) (k := 0) (b := a0 + 1) dX0_addFree_24 (by decide) (by decide) kw_152 rfl (LX0.o (h := h) F0) (LX0.r_freeDays (h := h) F0) ?_
  refine g_iload_n dX0_addFree_27 rfl ?_
  refine g_iaload dX0_addFree_28 (LX0.a_freeDays (h := h) F0) i1 ?_
  refine g_iload_n dX0_addFree_29 rfl ?_
  exact g_icmp_ne (tgt := 35) dX0_addFree_30 (by decide) (fun q => Gd.wk (kt q) ⟨rfl, ⟨rfl, ⟨rfl, trivial⟩⟩⟩) (fun q => Gd.wk (kf q) trivial)
theorem bkX0_addFree_33 {X : GX} {h : SH} {nc ns : Nat} {P : Out → SH → Prop} (hp : P (.inl (some (.int (0)))) (h)) : Gd X mX0_addFree 33 [none, none, none, none] [] h nc ns P := by
  refine g_iconst (v := 0) dX0_addFree_33 (by decide) ?_
  exact g_ireturn (st := []) dX0_addFree_34 rfl (bl_n (by decide)) hp
theorem bkX0_addFree_35 {X : GX} {h : SH} {nc ns : Nat} {P : Out → SH → Prop} {a0 : Nat} {x1 : Int32} {x2 : Int32} (F0 : LX0 (Sk h) (a0)) (g : Gd X mX0_addFree 40 [some (.ref a0), some (.int x1), some (.int x2), some (.int (hI h a0 1))] [] (h) nc ns P) : Gd X mX0_addFree 35 [some (.ref a0), some (.int x1), some (.int x2), none] [] h nc ns P := by
  refine g_aload_n dX0_addFree_35 rfl ?_
  refine g_getI (c := 0) (k := 1) dX0_addFree_36 (by decide) (by decide) kw_153 rfl (LX0.o (h := h) F0) ?_
  refine g_istore_n (L' := [some (.ref a0), some (.int x1), some (.int x2), some (.int (hI h a0 1))]) dX0_addFree_39 (by decide) rfl ?_
  exact Gd.wk g ⟨rfl, ⟨rfl, ⟨rfl, ⟨rfl, trivial⟩⟩⟩⟩
theorem bkX0_addFree_40 {X : GX} {h : SH} {nc ns : Nat} {P : Out → SH → Prop} {a0 : Nat} {x1 : Int32} {x2 : Int32} {x3 : Int32} (kt : x3 ≤ x2 → Gd X mX0_addFree 65 [some (.ref a0), some (.int x1), some (.int x2), none] [] (h) nc ns P) (kf : ¬ x3 ≤ x2 → Gd X mX0_addFree 45 [some (.ref a0), some (.int x1), some (.int x2), some (.int x3)] [] (h) nc ns P) : Gd X mX0_addFree 40 [some (.ref a0), some (.int x1), some (.int x2), some (.int x3)] [] h nc ns P := by
  refine g_iload_n dX0_addFree_40 rfl ?_
  refine g_iload_n dX0_addFree_41 rfl ?_
  exact g_icmp_le (tgt := 65) dX0_addFree_42 (by decide) (fun q => Gd.wk (kt q) ⟨rfl, ⟨rfl, ⟨rfl, trivial⟩⟩⟩) (fun q => Gd.wk (kf q) ⟨rfl, ⟨rfl, ⟨rfl, ⟨rfl, trivial⟩⟩⟩⟩)
theorem bkX0_addFree_45 {X : GX} {h : SH} {nc ns : Nat} {P : Out → SH → Prop} {a0 : Nat} {x1 : Int32} {x2 : Int32} {x3 : Int32} (F0 : LX0 (Sk h) (a0)) (i1 : vp_in (x3 - 1) 40) (i2 : vp_in (x3) 40) (g : Gd X mX0_addFree 40 [some (.ref a0), some (.int x1), some (.int x2), some (.int (x3 + (-1)))] [] (sI h (a0 + 1) ((x3 : Int32).toNatClampNeg) (hI h (a0 + 1) ((x3 - 1 : Int32).toNatClampNeg))) nc ns P) : Gd X mX0_addFree 45 [some (.ref a0), some (.int x1), some (.int x2), some (.int x3)] [] h nc ns P := by
  refine g_aload_n dX0_addFree_45 rfl ?_
  refine g_getAs (c := 0) (k := 0) (b := a0 + 1) dX0_addFree_46 (by decide) (by decide) kw_152 rfl (LX0.o (h := h) F0) (LX0.r_freeDays (h := h) F0) ?_
  refine g_iload_n dX0_addFree_49 rfl ?_
  refine g_aload_n dX0_addFree_50 rfl ?_
  refine g_getAs (c := 0) (k := 0) (b := a0 + 1) dX0_addFree_51 (by decide) (by decide) kw_152 rfl (LX0.o (h := h) F0) (LX0.r_freeDays (h := h) F0) ?_
  refine g_iload_n dX0_addFree_54 rfl ?_
  refine g_iconst (v := 1) dX0_addFree_55 (by decide) ?_
  refine g_isub dX0_addFree_56 ?_
  refine g_iaload dX0_addFree_57 (LX0.a_freeDays (h := h) F0) i1 ?_
  refine g_iastore dX0_addFree_58 (LX0.a_freeDays (h := h) F0) i2 ?_
  refine g_iinc (v := x3 + (-1)) (L' := [some (.ref a0), some (.int x1), some (.int x2), some (.int (x3 + (-1)))]) dX0_addFree_59 rfl rfl (by decide) rfl ?_
  refine g_goto (tgt := 40) dX0_addFree_62 (by decide) ?_
  exact Gd.wk g ⟨rfl, ⟨rfl, ⟨rfl, ⟨rfl, trivial⟩⟩⟩⟩
theorem bkX0_addFree_65 {X : GX} {h : SH} {nc ns : Nat} {P : Out → SH → Prop} {a0 : Nat} {x1 : Int32} {x2 : Int32} (F0 : LX0 (Sk h) (a0)) (i1 : vp_in (x2) 40) (hp : P (.inl (some (.int (1)))) (sI (sI h (a0 + 1) ((x2 : Int32).toNatClampNeg) x1) a0 1 ((hI (sI h (a0 + 1) ((x2 : Int32).toNatClampNeg) x1) a0 1) + 1))) : Gd X mX0_addFree 65 [some (.ref a0), some (.int x1), some (.int x2), none] [] h nc ns P := by
  refine g_aload_n dX0_addFree_65 rfl ?_
  refine g_getAs (c := 0) (k := 0) (b := a0 + 1) dX0_addFree_66 (by decide) (by decide) kw_152 rfl (LX0.o (h := h) F0) (LX0.r_freeDays (h := h) F0) ?_
  refine g_iload_n dX0_addFree_69 rfl ?_
  refine g_iload_n dX0_addFree_70 rfl ?_
  refine g_iastore dX0_addFree_71 (LX0.a_freeDays (h := h) F0) i1 ?_
  refine g_aload_n dX0_addFree_72 rfl ?_
  refine g_dup dX0_addFree_73 rfl ?_
  refine g_getI (c := 0) (k := 1) dX0_addFree_74 (by decide) (by decide) kw_153 rfl (LX0.o (h := sI h (a0 + 1) ((x2 : Int32).toNatClampNeg) x1) F0) ?_
  refine g_iconst (v := 1) dX0_addFree_77 (by decide) ?_
  refine g_iadd dX0_addFree_78 ?_
  refine g_put (c := 0) (k := 1) (h1 := sI (sI h (a0 + 1) ((x2 : Int32).toNatClampNeg) x1) a0 1 ((hI (sI h (a0 + 1) ((x2 : Int32).toNatClampNeg) x1) a0 1) + 1)) dX0_addFree_79 (by decide) (by decide) kw_153 rfl (LX0.o (h := sI h (a0 + 1) ((x2 : Int32).toNatClampNeg) x1) F0) rfl rfl (Put.I rfl) ?_
  refine g_iconst (v := 1) dX0_addFree_82 (by decide) ?_
  exact g_ireturn (st := []) dX0_addFree_83 rfl (bl_n (by decide)) hp
theorem bkX0_removeFree_0 {X : GX} {h : SH} {nc ns : Nat} {P : Out → SH → Prop} {Q : Int32 → SH → Prop} {a0 : Nat} {x1 : Int32} (F0 : LX0 (Sk h) (a0)) (hN : Cd X mX0_firstNotBelow [.ref a0, .int x1] (h) 0 0 (oI Q nX)) (g : ∀ r t, Q r t → Gd X mX0_removeFree 5 [some (.ref a0), some (.int x1), none, none] [.int r] (t) nc ns P) : Gd X mX0_removeFree 0 [some (.ref a0), some (.int x1), none, none] [] h nc ns P := by
  refine g_aload_n dX0_removeFree_0 rfl ?_
  refine g_iload_n dX0_removeFree_1 rfl ?_
  refine Gd.z ?_
  exact g_callV (k := 0) [.int x1] dX0_removeFree_2 mfX0_firstNotBelow ⟨by decide, by decide⟩ kw_919 kw_921 kw_30 rfl (by decide) (Nat.le_of_ble_eq_true rfl) (by intro x hx; cases hx) (LX0.o (h := h) F0) (Nat.le_of_ble_eq_true rfl) hN (fun _ _ q => q.elim) (oI_go (G := fun a b => Gd X mX0_removeFree 5 _ a b nc ns P) (fun r t q => Gd.wk (g r t q) ⟨rfl, ⟨rfl, trivial⟩⟩))
theorem bkX0_removeFree_5 {X : GX} {h : SH} {nc ns : Nat} {P : Out → SH → Prop} {a0 : Nat} {x1 : Int32} {xs0 : Int32} (F0 : LX0 (Sk h) (a0)) (kt : hI h a0 1 ≤ xs0 → Gd X mX0_removeFree 24 [none, none, none, none] [] (h) nc ns P) (kf : ¬ hI h a0 1 ≤ xs0 → Gd X mX0_removeFree 14 [some (.ref a0), some (.int x1), some (.int xs0), none] [] (h) nc ns P) : Gd X mX0_removeFree 5 [some (.ref a0), some (.int x1), none, none] [.int xs0] h nc ns P := by
  refine g_istore_n (L' := [some (.ref a0), some (.int x1), some (.int xs0), none]) dX0_removeFree_5 (by decide) rfl ?_
  refine g_iload_n dX0_removeFree_6 rfl ?_
  refine g_aload_n dX0_removeFree_7 rfl ?_
  refine g_getI (c := 0) (k := 1) dX0_removeFree_8 (by decide) (by decide) kw_153 rfl (LX0.o (h := h) F0) ?_
  exact g_icmp_ge (tgt := 24) dX0_removeFree_11 (by decide) (fun q => Gd.wk (kt q) trivial) (fun q => Gd.wk (kf q) ⟨rfl, ⟨rfl, ⟨rfl, trivial⟩⟩⟩)
theorem bkX0_removeFree_14 {X : GX} {h : SH} {nc ns : Nat} {P : Out → SH → Prop} {a0 : Nat} {x1 : Int32} {x2 : Int32} (F0 : LX0 (Sk h) (a0)) (i1 : vp_in (x2) 40) (kt : (hI h (a0 + 1) ((x2 : Int32).toNatClampNeg)) = x1 → Gd X mX0_removeFree 26 [some (.ref a0), none, some (.int x2), none] [] (h) nc ns P) (kf : ¬ (hI h (a0 + 1) ((x2 : Int32).toNatClampNeg)) = x1 → Gd X mX0_removeFree 24 [none, none, none, none] [] (h) nc ns P) : Gd X mX0_removeFree 14 [some (.ref a0), some (.int x1), some (.int x2), none] [] h nc ns P := by
  refine g_aload_n dX0_removeFree_14 rfl ?_
  refine g_getAs (c := 0) (k := 0) (b := a0 + 1) dX0_removeFree_15 (by decide) (by decide) kw_152 rfl (LX0.o (h := h) F0) (LX0.r_freeDays (h := h) F0) ?_
  refine g_iload_n dX0_removeFree_18 rfl ?_
  refine g_iaload dX0_removeFree_19 (LX0.a_freeDays (h := h) F0) i1 ?_
  refine g_iload_n dX0_removeFree_20 rfl ?_
  exact g_icmp_eq (tgt := 26) dX0_removeFree_21 (by decide) (fun q => Gd.wk (kt q) ⟨rfl, ⟨rfl, trivial⟩⟩) (fun q => Gd.wk (kf q) trivial)
theorem bkX0_removeFree_24 {X : GX} {h : SH} {nc ns : Nat} {P : Out → SH → Prop} (hp : P (.inl (some (.int (0)))) (h)) : Gd X mX0_removeFree 24 [none, none, none, none] [] h nc ns P := by
  refine g_iconst (v := 0) dX0_removeFree_24 (by decide) ?_
  exact g_ireturn (st := []) dX0_removeFree_25 rfl (bl_n (by decide)) hp
theorem bkX0_removeFree_26 {X : GX} {h : SH} {nc ns : Nat} {P : Out → SH → Prop} {a0 : Nat} {x2 : Int32} (g : Gd X mX0_removeFree 30 [some (.ref a0), none, none, some (.int (x2 + 1))] [] (h) nc ns P) : Gd X mX0_removeFree 26 [some (.ref a0), none, some (.int x2), none] [] h nc ns P := by
  refine g_iload_n dX0_removeFree_26 rfl ?_
  refine g_iconst (v := 1) dX0_removeFree_27 (by decide) ?_
  refine g_iadd dX0_removeFree_28 ?_
  refine g_istore_n (L' := [some (.ref a0), none, some (.int x2), some (.int (x2 + 1))]) dX0_removeFree_29 (by decide) rfl ?_
  exact Gd.wk g ⟨rfl, ⟨rfl, trivial⟩⟩
theorem bkX0_removeFree_30 {X : GX} {h : SH} {nc ns : Nat} {P : Out → SH → Prop} {a0 : Nat} {x3 : Int32} (F0 : LX0 (Sk h) (a0)) (kt : hI h a0 1 ≤ x3 → Gd X mX0_removeFree 58 [some (.ref a0), none, none, none] [] (h) nc ns P) (kf : ¬ hI h a0 1 ≤ x3 → Gd X mX0_removeFree 38 [some (.ref a0), none, none, some (.int x3)] [] (h) nc ns P) : Gd X mX0_removeFree 30 [some (.ref a0), none, none, some (.int x3)] [] h nc ns P := by
  refine g_iload_n dX0_removeFree_30 rfl ?_
  refine g_aload_n dX0_removeFree_31 rfl ?_
  refine g_getI (c := 0) (k := 1) dX0_removeFree_32 (by decide) (by decide) kw_153 rfl (LX0.o (h := h) F0) ?_
  exact g_icmp_ge (tgt := 58) dX0_removeFree_35 (by decide) (fun q => Gd.wk (kt q) ⟨rfl, trivial⟩) (fun q => Gd.wk (kf q) ⟨rfl, ⟨rfl, trivial⟩⟩)
theorem bkX0_removeFree_38 {X : GX} {h : SH} {nc ns : Nat} {P : Out → SH → Prop} {a0 : Nat} {x3 : Int32} (F0 : LX0 (Sk h) (a0)) (i1 : vp_in (x3) 40) (i2 : vp_in (x3 - 1) 40) (g : Gd X mX0_removeFree 30 [some (.ref a0), none, none, some (.int (x3 + 1))] [] (sI h (a0 + 1) ((x3 - 1 : Int32).toNatClampNeg) (hI h (a0 + 1) ((x3 : Int32).toNatClampNeg))) nc ns P) : Gd X mX0_removeFree 38 [some (.ref a0), none, none, some (.int x3)] [] h nc ns P := by
  refine g_aload_n dX0_removeFree_38 rfl ?_
  refine g_getAs (c := 0) (k := 0) (b := a0 + 1) dX0_removeFree_39 (by decide) (by decide) kw_152 rfl (LX0.o (h := h) F0) (LX0.r_freeDays (h := h) F0) ?_
  refine g_iload_n dX0_removeFree_42 rfl ?_
  refine g_iconst (v := 1) dX0_removeFree_43 (by decide) ?_
  refine g_isub dX0_removeFree_44 ?_
  refine g_aload_n dX0_removeFree_45 rfl ?_
  refine g_getAs (c := 0) (k := 0) (b := a0 + 1) dX0_removeFree_46 (by decide) (by decide) kw_152 rfl (LX0.o (h := h) F0) (LX0.r_freeDays (h := h) F0) ?_
  refine g_iload_n dX0_removeFree_49 rfl ?_
  refine g_iaload dX0_removeFree_50 (LX0.a_freeDays (h := h) F0) i1 ?_
  refine g_iastore dX0_removeFree_51 (LX0.a_freeDays (h := h) F0) i2 ?_
  refine g_iinc (v := x3 + 1) (L' := [some (.ref a0), none, none, some (.int (x3 + 1))]) dX0_removeFree_52 rfl rfl (by decide) rfl ?_
  refine g_goto (tgt := 30) dX0_removeFree_55 (by decide) ?_
  exact Gd.wk g ⟨rfl, ⟨rfl, trivial⟩⟩
theorem bkX0_removeFree_58 {X : GX} {h : SH} {nc ns : Nat} {P : Out → SH → Prop} {a0 : Nat} (F0 : LX0 (Sk h) (a0)) (hp : P (.inl (some (.int (1)))) (sI h a0 1 (hI h a0 1 - 1))) : Gd X mX0_removeFree 58 [some (.ref a0), none, none, none] [] h nc ns P := by
  refine g_aload_n dX0_removeFree_58 rfl ?_
  refine g_dup dX0_removeFree_59 rfl ?_
  refine g_getI (c := 0) (k := 1) dX0_removeFree_60 (by decide) (by decide) kw_153 rfl (LX0.o (h := h) F0) ?_
  refine g_iconst (v := 1) dX0_removeFree_63 (by decide) ?_
  refine g_isub dX0_removeFree_64 ?_
  refine g_put (c := 0) (k := 1) (h1 := sI h a0 1 (hI h a0 1 - 1)) dX0_removeFree_65 (by decide) (by decide) kw_153 rfl (LX0.o (h := h) F0) rfl rfl (Put.I rfl) ?_
  refine g_iconst (v := 1) dX0_removeFree_68 (by decide) ?_
  exact g_ireturn (st := []) dX0_removeFree_69 rfl (bl_n (by decide)) hp
theorem bkX0_workingDays_0 {X : GX} {h : SH} {nc ns : Nat} {P : Out → SH → Prop} {Q : Int32 → SH → Prop} {a0 : Nat} {x1 : Int32} {x2 : Int32} (hN : Cd X mX0_weekdaysUpTo [.int x2] (h) 0 0 (oI Q nX)) (g : ∀ r t, Q r t → Gd X mX0_workingDays 4 [some (.ref a0), some (.int x1), some (.int x2), none, none] [.int r] (t) nc ns P) : Gd X mX0_workingDays 0 [some (.ref a0), some (.int x1), some (.int x2), none, none] [] h nc ns P := by
  refine g_iload_n dX0_workingDays_0 rfl ?_
  refine Gd.z ?_
  exact g_callS [.int x2] dX0_workingDays_1 mfX0_weekdaysUpTo ⟨by decide, by decide⟩ kw_1005 kw_1006 rfl (Nat.le_of_ble_eq_true rfl) (by intro x hx; cases hx) (Nat.le_of_ble_eq_true rfl) hN (fun _ _ q => q.elim) (oI_go (G := fun a b => Gd X mX0_workingDays 4 _ a b nc ns P) (fun r t q => Gd.wk (g r t q) ⟨rfl, ⟨rfl, ⟨rfl, trivial⟩⟩⟩))
theorem bkX0_workingDays_4 {X : GX} {h : SH} {nc ns : Nat} {P : Out → SH → Prop} {Q : Int32 → SH → Prop} {a0 : Nat} {x1 : Int32} {x2 : Int32} {xs0 : Int32} (hN : Cd X mX0_weekdaysUpTo [.int x1] (h) 0 0 (oI Q nX)) (g : ∀ r t, Q r t → Gd X mX0_workingDays 8 [some (.ref a0), some (.int x1), some (.int x2), none, none] [.int r, .int xs0] (t) nc ns P) : Gd X mX0_workingDays 4 [some (.ref a0), some (.int x1), some (.int x2), none, none] [.int xs0] h nc ns P := by
  refine g_iload_n dX0_workingDays_4 rfl ?_
  refine Gd.z ?_
  exact g_callS [.int x1] dX0_workingDays_5 mfX0_weekdaysUpTo ⟨by decide, by decide⟩ kw_1005 kw_1006 rfl (Nat.le_of_ble_eq_true rfl) (by intro x hx; cases hx) (Nat.le_of_ble_eq_true rfl) hN (fun _ _ q => q.elim) (oI_go (G := fun a b => Gd X mX0_workingDays 8 _ a b nc ns P) (fun r t q => Gd.wk (g r t q) ⟨rfl, ⟨rfl, ⟨rfl, trivial⟩⟩⟩))
theorem bkX0_workingDays_8 {X : GX} {h : SH} {nc ns : Nat} {P : Out → SH → Prop} {a0 : Nat} {x1 : Int32} {x2 : Int32} {xs0 : Int32} {xs1 : Int32} (g : Gd X mX0_workingDays 13 [some (.ref a0), some (.int x1), some (.int x2), some (.int (xs0 - xs1)), some (.int 0)] [] (h) nc ns P) : Gd X mX0_workingDays 8 [some (.ref a0), some (.int x1), some (.int x2), none, none] [.int xs1, .int xs0] h nc ns P := by
  refine g_isub dX0_workingDays_8 ?_
  refine g_istore_n (L' := [some (.ref a0), some (.int x1), some (.int x2), some (.int (xs0 - xs1)), none]) dX0_workingDays_9 (by decide) rfl ?_
  refine g_iconst (v := 0) dX0_workingDays_10 (by decide) ?_
  refine g_istore (L' := [some (.ref a0), some (.int x1), some (.int x2), some (.int (xs0 - xs1)), some (.int 0)]) dX0_workingDays_11 (by decide) rfl ?_
  exact Gd.wk g ⟨rfl, ⟨rfl, ⟨rfl, ⟨rfl, ⟨rfl, trivial⟩⟩⟩⟩⟩
theorem bkX0_workingDays_13 {X : GX} {h : SH} {nc ns : Nat} {P : Out → SH → Prop} {a0 : Nat} {x1 : Int32} {x2 : Int32} {x3 : Int32} {x4 : Int32} (F0 : LX0 (Sk h) (a0)) (kt : hI h a0 1 ≤ x4 → Gd X mX0_workingDays 66 [none, none, none, some (.int x3), none] [] (h) nc ns P) (kf : ¬ hI h a0 1 ≤ x4 → Gd X mX0_workingDays 22 [some (.ref a0), some (.int x1), some (.int x2), some (.int x3), some (.int x4)] [] (h) nc ns P) : Gd X mX0_workingDays 13 [some (.ref a0), some (.int x1), some (.int x2), some (.int x3), some (.int x4)] [] h nc ns P := by
  refine g_iload dX0_workingDays_13 rfl ?_
  refine g_aload_n dX0_workingDays_15 rfl ?_
  refine g_getI (c := 0) (k := 1) dX0_workingDays_16 (by decide) (by decide) kw_153 rfl (LX0.o (h := h) F0) ?_
  exact g_icmp_ge (tgt := 66) dX0_workingDays_19 (by decide) (fun q => Gd.wk (kt q) ⟨rfl, trivial⟩) (fun q => Gd.wk (kf q) ⟨rfl, ⟨rfl, ⟨rfl, ⟨rfl, ⟨rfl, trivial⟩⟩⟩⟩⟩)
theorem bkX0_workingDays_22 {X : GX} {h : SH} {nc ns : Nat} {P : Out → SH → Prop} {a0 : Nat} {x1 : Int32} {x2 : Int32} {x3 : Int32} {x4 : Int32} (F0 : LX0 (Sk h) (a0)) (i1 : vp_in (x4) 40) (kt : (hI h (a0 + 1) ((x4 : Int32).toNatClampNeg)) ≤ x1 → Gd X mX0_workingDays 60 [some (.ref a0), some (.int x1), some (.int x2), some (.int x3), some (.int x4)] [] (h) nc ns P) (kf : ¬ (hI h (a0 + 1) ((x4 : Int32).toNatClampNeg)) ≤ x1 → Gd X mX0_workingDays 33 [some (.ref a0), some (.int x1), some (.int x2), some (.int x3), some (.int x4)] [] (h) nc ns P) : Gd X mX0_workingDays 22 [some (.ref a0), some (.int x1), some (.int x2), some (.int x3), some (.int x4)] [] h nc ns P := by
  refine g_aload_n dX0_workingDays_22 rfl ?_
  refine g_getAs (c := 0) (k := 0) (b := a0 + 1) dX0_workingDays_23 (by decide) (by decide) kw_152 rfl (LX0.o (h := h) F0) (LX0.r_freeDays (h := h) F0) ?_
  refine g_iload dX0_workingDays_26 rfl ?_
  refine g_iaload dX0_workingDays_28 (LX0.a_freeDays (h := h) F0) i1 ?_
  refine g_iload_n dX0_workingDays_29 rfl ?_
  exact g_icmp_le (tgt := 60) dX0_workingDays_30 (by decide) (fun q => Gd.wk (kt q) ⟨rfl, ⟨rfl, ⟨rfl, ⟨rfl, ⟨rfl, trivial⟩⟩⟩⟩⟩) (fun q => Gd.wk (kf q) ⟨rfl, ⟨rfl, ⟨rfl, ⟨rfl, ⟨rfl, trivial⟩⟩⟩⟩⟩)
theorem bkX0_workingDays_33 {X : GX} {h : SH} {nc ns : Nat} {P : Out → SH → Prop} {a0 : Nat} {x1 : Int32} {x2 : Int32} {x3 : Int32} {x4 : Int32} (F0 : LX0 (Sk h) (a0)) (i1 : vp_in (x4) 40) (kt : x2 < (hI h (a0 + 1) ((x4 : Int32).toNatClampNeg)) → Gd X mX0_workingDays 60 [some (.ref a0), some (.int x1), some (.int x2), some (.int x3), some (.int x4)] [] (h) nc ns P) (kf : ¬ x2 < (hI h (a0 + 1) ((x4 : Int32).toNatClampNeg)) → Gd X mX0_workingDays 44 [some (.ref a0), some (.int x1), some (.int x2), some (.int x3), some (.int x4)] [] (h) nc ns P) : Gd X mX0_workingDays 33 [some (.ref a0), some (.int x1), some (.int x2), some (.int x3), some (.int x4)] [] h nc ns P := by
  refine g_aload_n dX0_workingDays_33 rfl ?_
  refine g_getAs (c := 0) (k := 0) (b := a0 + 1) dX0_workingDays_34 (by decide) (by decide) kw_152 rfl (LX0.o (h := h) F0) (LX0.r_freeDays (h := h) F0) ?_
  refine g_iload dX0_workingDays_37 rfl ?_
  refine g_iaload dX0_workingDays_39 (LX0.a_freeDays (h := h) F0) i1 ?_
  refine g_iload_n dX0_workingDays_40 rfl ?_
  exact g_icmp_gt (tgt := 60) dX0_workingDays_41 (by decide) (fun q => Gd.wk (kt q) ⟨rfl, ⟨rfl, ⟨rfl, ⟨rfl, ⟨rfl, trivial⟩⟩⟩⟩⟩) (fun q => Gd.wk (kf q) ⟨rfl, ⟨rfl, ⟨rfl, ⟨rfl, ⟨rfl, trivial⟩⟩⟩⟩⟩)
theorem bkX0_workingDays_44 {X : GX} {h : SH} {nc ns : Nat} {P : Out → SH → Prop} {Q : Int32 → SH → Prop} {a0 : Nat} {x1 : Int32} {x2 : Int32} {x3 : Int32} {x4 : Int32} (F0 : LX0 (Sk h) (a0)) (i1 : vp_in (x4) 40) (hN : Cd X mX0_isWeekday [.int (hI h (a0 + 1) ((x4 : Int32).toNatClampNeg))] (h) 0 0 (oI Q nX)) (g : ∀ r t, Q r t → Gd X mX0_workingDays 54 [some (.ref a0), some (.int x1), some (.int x2), some (.int x3), some (.int x4)] [.int r] (t) nc ns P) : Gd X mX0_workingDays 44 [some (.ref a0), some (.int x1), some (.int x2), some (.int x3), some (.int x4)] [] h nc ns P := by
  refine g_aload_n dX0_workingDays_44 rfl ?_
  refine g_getAs (c := 0) (k := 0) (b := a0 + 1) dX0_workingDays_45 (by decide) (by decide) kw_152 rfl (LX0.o (h := h) F0) (LX0.r_freeDays (h := h) F0) ?_
  refine g_iload dX0_workingDays_48 rfl ?_
  refine g_iaload dX0_workingDays_50 (LX0.a_freeDays (h := h) F0) i1 ?_
  refine Gd.z ?_
  exact g_callS [.int (hI h (a0 + 1) ((x4 : Int32).toNatClampNeg))] dX0_workingDays_51 mfX0_isWeekday ⟨by decide, by decide⟩ kw_1009 kw_1010 rfl (Nat.le_of_ble_eq_true rfl) (by intro x hx; cases hx) (Nat.le_of_ble_eq_true rfl) hN (fun _ _ q => q.elim) (oI_go (G := fun a b => Gd X mX0_workingDays 54 _ a b nc ns P) (fun r t q => Gd.wk (g r t q) ⟨rfl, ⟨rfl, ⟨rfl, ⟨rfl, ⟨rfl, trivial⟩⟩⟩⟩⟩))
theorem bkX0_workingDays_54 {X : GX} {h : SH} {nc ns : Nat} {P : Out → SH → Prop} {a0 : Nat} {x1 : Int32} {x2 : Int32} {x3 : Int32} {x4 : Int32} {xs0 : Int32} (kt : xs0 = 0 → Gd X mX0_workingDays 60 [some (.ref a0), some (.int x1), some (.int x2), some (.int x3), some (.int x4)] [] (h) nc ns P) (kf : ¬ xs0 = 0 → Gd X mX0_workingDays 57 [some (.ref a0), some (.int x1), some (.int x2), some (.int x3), some (.int x4)] [] (h) nc ns P) : Gd X mX0_workingDays 54 [some (.ref a0), some (.int x1), some (.int x2), some (.int x3), some (.int x4)] [.int xs0] h nc ns P := by
  exact g_if_eq (tgt := 60) dX0_workingDays_54 (by decide) (fun q => Gd.wk (kt q) ⟨rfl, ⟨rfl, ⟨rfl, ⟨rfl, ⟨rfl, trivial⟩⟩⟩⟩⟩) (fun q => Gd.wk (kf q) ⟨rfl, ⟨rfl, ⟨rfl, ⟨rfl, ⟨rfl, trivial⟩⟩⟩⟩⟩)
theorem bkX0_workingDays_57 {X : GX} {h : SH} {nc ns : Nat} {P : Out → SH → Prop} {a0 : Nat} {x1 : Int32} {x2 : Int32} {x3 : Int32} {x4 : Int32} (g : Gd X mX0_workingDays 60 [some (.ref a0), some (.int x1), some (.int x2), some (.int (x3 + (-1))), some (.int x4)] [] (h) nc ns P) : Gd X mX0_workingDays 57 [some (.ref a0), some (.int x1), some (.int x2), some (.int x3), some (.int x4)] [] h nc ns P := by
  refine g_iinc (v := x3 + (-1)) (L' := [some (.ref a0), some (.int x1), some (.int x2), some (.int (x3 + (-1))), some (.int x4)]) dX0_workingDays_57 rfl rfl (by decide) rfl ?_
  exact Gd.wk g ⟨rfl, ⟨rfl, ⟨rfl, ⟨rfl, ⟨rfl, trivial⟩⟩⟩⟩⟩
theorem bkX0_workingDays_60 {X : GX} {h : SH} {nc ns : Nat} {P : Out → SH → Prop} {a0 : Nat} {x1 : Int32} {x2 : Int32} {x3 : Int32} {x4 : Int32} (g : Gd X mX0_workingDays 13 [some (.ref a0), some (.int x1), some (.int x2), some (.int x3), some (.int (x4 + 1))] [] (h) nc ns P) : Gd X mX0_workingDays 60 [some (.ref a0), some (.int x1), some (.int x2), some (.int x3), some (.int x4)] [] h nc ns P := by
  refine g_iinc (v := x4 + 1) (L' := [some (.ref a0), some (.int x1), some (.int x2), some (.int x3), some (.int (x4 + 1))]) dX0_workingDays_60 rfl rfl (by decide) rfl ?_
  refine g_goto (tgt := 13) dX0_workingDays_63 (by decide) ?_
  exact Gd.wk g ⟨rfl, ⟨rfl, ⟨rfl, ⟨rfl, ⟨rfl, trivial⟩⟩⟩⟩⟩
theorem bkX0_workingDays_66 {X : GX} {h : SH} {nc ns : Nat} {P : Out → SH → Prop} {x3 : Int32} (hp : P (.inl (some (.int (x3)))) (h)) : Gd X mX0_workingDays 66 [none, none, none, some (.int x3), none] [] h nc ns P := by
  refine g_iload_n dX0_workingDays_66 rfl ?_
  exact g_ireturn (st := []) dX0_workingDays_67 rfl rfl hp
theorem bkX0_dueDay_0 {X : GX} {h : SH} {nc ns : Nat} {P : Out → SH → Prop} {a0 : Nat} {x1 : Int32} {x2 : Int32} (kt : (1 : Int32) ≤ x2 → Gd X mX0_dueDay 7 [some (.ref a0), some (.int x1), some (.int x2), none, none] [] (h) nc ns P) (kf : ¬ (1 : Int32) ≤ x2 → Gd X mX0_dueDay 5 [none, some (.int x1), none, none, none] [] (h) nc ns P) : Gd X mX0_dueDay 0 [some (.ref a0), some (.int x1), some (.int x2), none, none] [] h nc ns P := by
  refine g_iload_n dX0_dueDay_0 rfl ?_
  refine g_iconst (v := 1) dX0_dueDay_1 (by decide) ?_
  exact g_icmp_ge (tgt := 7) dX0_dueDay_2 (by decide) (fun q => Gd.wk (kt q) ⟨rfl, ⟨rfl, ⟨rfl, trivial⟩⟩⟩) (fun q => Gd.wk (kf q) ⟨rfl, trivial⟩)
theorem bkX0_dueDay_5 {X : GX} {h : SH} {nc ns : Nat} {P : Out → SH → Prop} {x1 : Int32} (hp : P (.inl (some (.int (x1)))) (h)) : Gd X mX0_dueDay 5 [none, some (.int x1), none, none, none] [] h nc ns P := by
  refine g_iload_n dX0_dueDay_5 rfl ?_
  exact g_ireturn (st := []) dX0_dueDay_6 rfl rfl hp
theorem bkX0_dueDay_7 {X : GX} {h : SH} {nc ns : Nat} {P : Out → SH → Prop} {Q : Int32 → SH → Prop} {a0 : Nat} {x1 : Int32} {x2 : Int32} (hN : Cd X mX0_weekdaysUpTo [.int x1] (h) 0 0 (oI Q nX)) (g : ∀ r t, Q r t → Gd X mX0_dueDay 11 [some (.ref a0), some (.int x1), some (.int x2), none, none] [.int r] (t) nc ns P) : Gd X mX0_dueDay 7 [some (.ref a0), some (.int x1), some (.int x2), none, none] [] h nc ns P := by
  refine g_iload_n dX0_dueDay_7 rfl ?_
  refine Gd.z ?_
  exact g_callS [.int x1] dX0_dueDay_8 mfX0_weekdaysUpTo ⟨by decide, by decide⟩ kw_1005 kw_1006 rfl (Nat.le_of_ble_eq_true rfl) (by intro x hx; cases hx) (Nat.le_of_ble_eq_true rfl) hN (fun _ _ q => q.elim) (oI_go (G := fun a b => Gd X mX0_dueDay 11 _ a b nc ns P) (fun r t q => Gd.wk (g r t q) ⟨rfl, ⟨rfl, ⟨rfl, trivial⟩⟩⟩))
theorem bkX0_dueDay_11 {X : GX} {h : SH} {nc ns : Nat} {P : Out → SH → Prop} {a0 : Nat} {x1 : Int32} {x2 : Int32} {xs0 : Int32} (g : Gd X mX0_dueDay 17 [some (.ref a0), some (.int x1), none, some (.int (xs0 + x2)), some (.int 0)] [] (h) nc ns P) : Gd X mX0_dueDay 11 [some (.ref a0), some (.int x1), some (.int x2), none, none] [.int xs0] h nc ns P := by
  refine g_iload_n dX0_dueDay_11 rfl ?_
  refine g_iadd dX0_dueDay_12 ?_
  refine g_istore_n (L' := [some (.ref a0), some (.int x1), some (.int x2), some (.int (xs0 + x2)), none]) dX0_dueDay_13 (by decide) rfl ?_
  refine g_iconst (v := 0) dX0_dueDay_14 (by decide) ?_
  refine g_istore (L' := [some (.ref a0), some (.int x1), some (.int x2), some (.int (xs0 + x2)), some (.int 0)]) dX0_dueDay_15 (by decide) rfl ?_
  exact Gd.wk g ⟨rfl, ⟨rfl, ⟨rfl, ⟨rfl, trivial⟩⟩⟩⟩
theorem bkX0_dueDay_17 {X : GX} {h : SH} {nc ns : Nat} {P : Out → SH → Prop} {a0 : Nat} {x1 : Int32} {x3 : Int32} {x4 : Int32} (F0 : LX0 (Sk h) (a0)) (kt : hI h a0 1 ≤ x4 → Gd X mX0_dueDay 73 [none, none, none, some (.int x3), none] [] (h) nc ns P) (kf : ¬ hI h a0 1 ≤ x4 → Gd X mX0_dueDay 26 [some (.ref a0), some (.int x1), none, some (.int x3), some (.int x4)] [] (h) nc ns P) : Gd X mX0_dueDay 17 [some (.ref a0), some (.int x1), none, some (.int x3), some (.int x4)] [] h nc ns P := by
  refine g_iload dX0_dueDay_17 rfl ?_
  refine g_aload_n dX0_dueDay_19 rfl ?_
  refine g_getI (c := 0) (k := 1) dX0_dueDay_20 (by decide) (by decide) kw_153 rfl (LX0.o (h := h) F0) ?_
  exact g_icmp_ge (tgt := 73) dX0_dueDay_23 (by decide) (fun q => Gd.wk (kt q) ⟨rfl, trivial⟩) (fun q => Gd.wk (kf q) ⟨rfl, ⟨rfl, ⟨rfl, ⟨rfl, trivial⟩⟩⟩⟩)
theorem bkX0_dueDay_26 {X : GX} {h : SH} {nc ns : Nat} {P : Out → SH → Prop} {Q : Int32 → SH → Prop} {a0 : Nat} {x1 : Int32} {x3 : Int32} {x4 : Int32} (F0 : LX0 (Sk h) (a0)) (i1 : vp_in (x4) 40) (hN : Cd X mX0_weekdaysUpTo [.int (hI h (a0 + 1) ((x4 : Int32).toNatClampNeg))] (h) 0 0 (oI Q nX)) (g : ∀ r t, Q r t → Gd X mX0_dueDay 36 [some (.ref a0), some (.int x1), none, some (.int x3), some (.int x4)] [.int r] (t) nc ns P) : Gd X mX0_dueDay 26 [some (.ref a0), some (.int x1), none, some (.int x3), some (.int x4)] [] h nc ns P := by
  refine g_aload_n dX0_dueDay_26 rfl ?_
  refine g_getAs (c := 0) (k := 0) (b := a0 + 1) dX0_dueDay_27 (by decide) (by decide) kw_152 rfl (LX0.o (h := h) F0) (LX0.r_freeDays (h := h) F0) ?_
  refine g_iload dX0_dueDay_30 rfl ?_
  refine g_iaload dX0_dueDay_32 (LX0.a_freeDays (h := h) F0) i1 ?_
  refine Gd.z ?_
  exact g_callS [.int (hI h (a0 + 1) ((x4 : Int32).toNatClampNeg))] dX0_dueDay_33 mfX0_weekdaysUpTo ⟨by decide, by decide⟩ kw_1005 kw_1006 rfl (Nat.le_of_ble_eq_true rfl) (by intro x hx; cases hx) (Nat.le_of_ble_eq_true rfl) hN (fun _ _ q => q.elim) (oI_go (G := fun a b => Gd X mX0_dueDay 36 _ a b nc ns P) (fun r t q => Gd.wk (g r t q) ⟨rfl, ⟨rfl, ⟨rfl, ⟨rfl, trivial⟩⟩⟩⟩))
theorem bkX0_dueDay_36 {X : GX} {h : SH} {nc ns : Nat} {P : Out → SH → Prop} {a0 : Nat} {x1 : Int32} {x3 : Int32} {x4 : Int32} {xs0 : Int32} (kt : x3 < xs0 → Gd X mX0_dueDay 73 [none, none, none, some (.int x3), none] [] (h) nc ns P) (kf : ¬ x3 < xs0 → Gd X mX0_dueDay 40 [some (.ref a0), some (.int x1), none, some (.int x3), some (.int x4)] [] (h) nc ns P) : Gd X mX0_dueDay 36 [some (.ref a0), some (.int x1), none, some (.int x3), some (.int x4)] [.int xs0] h nc ns P := by
  refine g_iload_n dX0_dueDay_36 rfl ?_
  exact g_icmp_gt (tgt := 73) dX0_dueDay_37 (by decide) (fun q => Gd.wk (kt q) ⟨rfl, trivial⟩) (fun q => Gd.wk (kf q) ⟨rfl, ⟨rfl, ⟨rfl, ⟨rfl, trivial⟩⟩⟩⟩)
theorem bkX0_dueDay_40 {X : GX} {h : SH} {nc ns : Nat} {P : Out → SH → Prop} {a0 : Nat} {x1 : Int32} {x3 : Int32} {x4 : Int32} (F0 : LX0 (Sk h) (a0)) (i1 : vp_in (x4) 40) (kt : (hI h (a0 + 1) ((x4 : Int32).toNatClampNeg)) ≤ x1 → Gd X mX0_dueDay 67 [some (.ref a0), some (.int x1), none, some (.int x3), some (.int x4)] [] (h) nc ns P) (kf : ¬ (hI h (a0 + 1) ((x4 : Int32).toNatClampNeg)) ≤ x1 → Gd X mX0_dueDay 51 [some (.ref a0), some (.int x1), none, some (.int x3), some (.int x4)] [] (h) nc ns P) : Gd X mX0_dueDay 40 [some (.ref a0), some (.int x1), none, some (.int x3), some (.int x4)] [] h nc ns P := by
  refine g_aload_n dX0_dueDay_40 rfl ?_
  refine g_getAs (c := 0) (k := 0) (b := a0 + 1) dX0_dueDay_41 (by decide) (by decide) kw_152 rfl (LX0.o (h := h) F0) (LX0.r_freeDays (h := h) F0) ?_
  refine g_iload dX0_dueDay_44 rfl ?_
  refine g_iaload dX0_dueDay_46 (LX0.a_freeDays (h := h) F0) i1 ?_
  refine g_iload_n dX0_dueDay_47 rfl ?_
  exact g_icmp_le (tgt := 67) dX0_dueDay_48 (by decide) (fun q => Gd.wk (kt q) ⟨rfl, ⟨rfl, ⟨rfl, ⟨rfl, trivial⟩⟩⟩⟩) (fun q => Gd.wk (kf q) ⟨rfl, ⟨rfl, ⟨rfl, ⟨rfl, trivial⟩⟩⟩⟩)
theorem bkX0_dueDay_51 {X : GX} {h : SH} {nc ns : Nat} {P : Out → SH → Prop} {Q : Int32 → SH → Prop} {a0 : Nat} {x1 : Int32} {x3 : Int32} {x4 : Int32} (F0 : LX0 (Sk h) (a0)) (i1 : vp_in (x4) 40) (hN : Cd X mX0_isWeekday [.int (hI h (a0 + 1) ((x4 : Int32).toNatClampNeg))] (h) 0 0 (oI Q nX)) (g : ∀ r t, Q r t → Gd X mX0_dueDay 61 [some (.ref a0), some (.int x1), none, some (.int x3), some (.int x4)] [.int r] (t) nc ns P) : Gd X mX0_dueDay 51 [some (.ref a0), some (.int x1), none, some (.int x3), some (.int x4)] [] h nc ns P := by
  refine g_aload_n dX0_dueDay_51 rfl ?_
  refine g_getAs (c := 0) (k := 0) (b := a0 + 1) dX0_dueDay_52 (by decide) (by decide) kw_152 rfl (LX0.o (h := h) F0) (LX0.r_freeDays (h := h) F0) ?_
  refine g_iload dX0_dueDay_55 rfl ?_
  refine g_iaload dX0_dueDay_57 (LX0.a_freeDays (h := h) F0) i1 ?_
  refine Gd.z ?_
  exact g_callS [.int (hI h (a0 + 1) ((x4 : Int32).toNatClampNeg))] dX0_dueDay_58 mfX0_isWeekday ⟨by decide, by decide⟩ kw_1009 kw_1010 rfl (Nat.le_of_ble_eq_true rfl) (by intro x hx; cases hx) (Nat.le_of_ble_eq_true rfl) hN (fun _ _ q => q.elim) (oI_go (G := fun a b => Gd X mX0_dueDay 61 _ a b nc ns P) (fun r t q => Gd.wk (g r t q) ⟨rfl, ⟨rfl, ⟨rfl, ⟨rfl, trivial⟩⟩⟩⟩))
theorem bkX0_dueDay_61 {X : GX} {h : SH} {nc ns : Nat} {P : Out → SH → Prop} {a0 : Nat} {x1 : Int32} {x3 : Int32} {x4 : Int32} {xs0 : Int32} (kt : xs0 = 0 → Gd X mX0_dueDay 67 [some (.ref a0), some (.int x1), none, some (.int x3), some (.int x4)] [] (h) nc ns P) (kf : ¬ xs0 = 0 → Gd X mX0_dueDay 64 [some (.ref a0), some (.int x1), none, some (.int x3), some (.int x4)] [] (h) nc ns P) : Gd X mX0_dueDay 61 [some (.ref a0), some (.int x1), none, some (.int x3), some (.int x4)] [.int xs0] h nc ns P := by
  exact g_if_eq (tgt := 67) dX0_dueDay_61 (by decide) (fun q => Gd.wk (kt q) ⟨rfl, ⟨rfl, ⟨rfl, ⟨rfl, trivial⟩⟩⟩⟩) (fun q => Gd.wk (kf q) ⟨rfl, ⟨rfl, ⟨rfl, ⟨rfl, trivial⟩⟩⟩⟩)
theorem bkX0_dueDay_64 {X : GX} {h : SH} {nc ns : Nat} {P : Out → SH → Prop} {a0 : Nat} {x1 : Int32} {x3 : Int32} {x4 : Int32} (g : Gd X mX0_dueDay 67 [some (.ref a0), some (.int x1), none, some (.int (x3 + 1)), some (.int x4)] [] (h) nc ns P) : Gd X mX0_dueDay 64 [some (.ref a0), some (.int x1), none, some (.int x3), some (.int x4)] [] h nc ns P := by
  refine g_iinc (v := x3 + 1) (L' := [some (.ref a0), some (.int x1), none, some (.int (x3 + 1)), some (.int x4)]) dX0_dueDay_64 rfl rfl (by decide) rfl ?_
  exact Gd.wk g ⟨rfl, ⟨rfl, ⟨rfl, ⟨rfl, trivial⟩⟩⟩⟩
theorem bkX0_dueDay_67 {X : GX} {h : SH} {nc ns : Nat} {P : Out → SH → Prop} {a0 : Nat} {x1 : Int32} {x3 : Int32} {x4 : Int32} (g : Gd X mX0_dueDay 17 [some (.ref a0), some (.int x1), none, some (.int x3), some (.int (x4 + 1))] [] (h) nc ns P) : Gd X mX0_dueDay 67 [some (.ref a0), some (.int x1), none, some (.int x3), some (.int x4)] [] h nc ns P := by
  refine g_iinc (v := x4 + 1) (L' := [some (.ref a0), some (.int x1), none, some (.int x3), some (.int (x4 + 1))]) dX0_dueDay_67 rfl rfl (by decide) rfl ?_
  refine g_goto (tgt := 17) dX0_dueDay_70 (by decide) ?_
  exact Gd.wk g ⟨rfl, ⟨rfl, ⟨rfl, ⟨rfl, trivial⟩⟩⟩⟩
theorem bkX0_dueDay_73 {X : GX} {h : SH} {nc ns : Nat} {P : Out → SH → Prop} {x3 : Int32} (g : Gd X mX0_dueDay 97 [none, none, none, none, none] [.int (if (9999 : Int32) < ((((x3 - 1) / 5) * 7) + ((x3 - 1) - (x3 - 1) / 5 * 5)) then (9999 : Int32) else (((x3 - 1) / 5) * 7) + ((x3 - 1) - (x3 - 1) / 5 * 5))] (h) nc ns P) : Gd X mX0_dueDay 73 [none, none, none, some (.int x3), none] [] h nc ns P := by
  refine g_iload_n dX0_dueDay_73 rfl ?_
  refine g_iconst (v := 1) dX0_dueDay_74 (by decide) ?_
  refine g_isub dX0_dueDay_75 ?_
  refine g_iconst (v := 5) dX0_dueDay_76 (by decide) ?_
  refine g_idiv dX0_dueDay_77 (by decide) ?_
  refine g_bipush (v := 7) dX0_dueDay_78 (by decide) ?_
  refine g_imul dX0_dueDay_80 ?_
  refine g_iload_n dX0_dueDay_81 rfl ?_
  refine g_iconst (v := 1) dX0_dueDay_82 (by decide) ?_
  refine g_isub dX0_dueDay_83 ?_
  refine g_iconst (v := 5) dX0_dueDay_84 (by decide) ?_
  refine g_irem dX0_dueDay_85 (by decide) ?_
  refine g_iadd dX0_dueDay_86 ?_
  refine g_istore (L' := [none, none, none, some (.int x3), some (.int ((((x3 - 1) / 5) * 7) + ((x3 - 1) - (x3 - 1) / 5 * 5)))]) dX0_dueDay_87 (by decide) rfl ?_
  refine g_iload dX0_dueDay_89 rfl ?_
  refine g_sipush (v := 9999) dX0_dueDay_91 (by decide) ?_
  refine g_mmin dX0_dueDay_94 kw_1008 (by decide) (Nat.le_of_ble_eq_true rfl) ?_
  exact Gd.wk g trivial
theorem bkX0_dueDay_97 {X : GX} {h : SH} {nc ns : Nat} {P : Out → SH → Prop} {xs0 : Int32} (hp : P (.inl (some (.int (xs0)))) (h)) : Gd X mX0_dueDay 97 [none, none, none, none, none] [.int xs0] h nc ns P := by
  exact g_ireturn (st := []) dX0_dueDay_97 rfl rfl hp
theorem bkX0_firstNotBelow_0 {X : GX} {h : SH} {nc ns : Nat} {P : Out → SH → Prop} {a0 : Nat} {x1 : Int32} (g : Gd X mX0_firstNotBelow 2 [some (.ref a0), some (.int x1), some (.int 0)] [] (h) nc ns P) : Gd X mX0_firstNotBelow 0 [some (.ref a0), some (.int x1), none] [] h nc ns P := by
  refine g_iconst (v := 0) dX0_firstNotBelow_0 (by decide) ?_
  refine g_istore_n (L' := [some (.ref a0), some (.int x1), some (.int 0)]) dX0_firstNotBelow_1 (by decide) rfl ?_
  exact Gd.wk g ⟨rfl, ⟨rfl, ⟨rfl, trivial⟩⟩⟩
theorem bkX0_firstNotBelow_2 {X : GX} {h : SH} {nc ns : Nat} {P : Out → SH → Prop} {a0 : Nat} {x1 : Int32} {x2 : Int32} (F0 : LX0 (Sk h) (a0)) (kt : hI h a0 1 ≤ x2 → Gd X mX0_firstNotBelow 26 [none, none, some (.int x2)] [] (h) nc ns P) (kf : ¬ hI h a0 1 ≤ x2 → Gd X mX0_firstNotBelow 10 [some (.ref a0), some (.int x1), some (.int x2)] [] (h) nc ns P) : Gd X mX0_firstNotBelow 2 [some (.ref a0), some (.int x1), some (.int x2)] [] h nc ns P := by
  refine g_iload_n dX0_firstNotBelow_2 rfl ?_
  refine g_aload_n dX0_firstNotBelow_3 rfl ?_
  refine g_getI (c := 0) (k := 1) dX0_firstNotBelow_4 (by decide) (by decide) kw_153 rfl (LX0.o (h := h) F0) ?_
  exact g_icmp_ge (tgt := 26) dX0_firstNotBelow_7 (by decide) (fun q => Gd.wk (kt q) ⟨rfl, trivial⟩) (fun q => Gd.wk (kf q) ⟨rfl, ⟨rfl, ⟨rfl, trivial⟩⟩⟩)
theorem bkX0_firstNotBelow_10 {X : GX} {h : SH} {nc ns : Nat} {P : Out → SH → Prop} {a0 : Nat} {x1 : Int32} {x2 : Int32} (F0 : LX0 (Sk h) (a0)) (i1 : vp_in (x2) 40) (kt : x1 ≤ (hI h (a0 + 1) ((x2 : Int32).toNatClampNeg)) → Gd X mX0_firstNotBelow 26 [none, none, some (.int x2)] [] (h) nc ns P) (kf : ¬ x1 ≤ (hI h (a0 + 1) ((x2 : Int32).toNatClampNeg)) → Gd X mX0_firstNotBelow 20 [some (.ref a0), some (.int x1), some (.int x2)] [] (h) nc ns P) : Gd X mX0_firstNotBelow 10 [some (.ref a0), some (.int x1), some (.int x2)] [] h nc ns P := by
  refine g_aload_n dX0_firstNotBelow_10 rfl ?_
  refine g_getAs (c := 0) (k := 0) (b := a0 + 1) dX0_firstNotBelow_11 (by decide) (by decide) kw_152 rfl (LX0.o (h := h) F0) (LX0.r_freeDays (h := h) F0) ?_
  refine g_iload_n dX0_firstNotBelow_14 rfl ?_
  refine g_iaload dX0_firstNotBelow_15 (LX0.a_freeDays (h := h) F0) i1 ?_
  refine g_iload_n dX0_firstNotBelow_16 rfl ?_
  exact g_icmp_ge (tgt := 26) dX0_firstNotBelow_17 (by decide) (fun q => Gd.wk (kt q) ⟨rfl, trivial⟩) (fun q => Gd.wk (kf q) ⟨rfl, ⟨rfl, ⟨rfl, trivial⟩⟩⟩)
theorem bkX0_firstNotBelow_20 {X : GX} {h : SH} {nc ns : Nat} {P : Out → SH → Prop} {a0 : Nat} {x1 : Int32} {x2 : Int32} (g : Gd X mX0_firstNotBelow 2 [some (.ref a0), some (.int x1), some (.int (x2 + 1))] [] (h) nc ns P) : Gd X mX0_firstNotBelow 20 [some (.ref a0), some (.int x1), some (.int x2)] [] h nc ns P := by
  refine g_iinc (v := x2 + 1) (L' := [some (.ref a0), some (.int x1), some (.int (x2 + 1))]) dX0_firstNotBelow_20 rfl rfl (by decide) rfl ?_
  refine g_goto (tgt := 2) dX0_firstNotBelow_23 (by decide) ?_
  exact Gd.wk g ⟨rfl, ⟨rfl, ⟨rfl, trivial⟩⟩⟩
theorem bkX0_firstNotBelow_26 {X : GX} {h : SH} {nc ns : Nat} {P : Out → SH → Prop} {x2 : Int32} (hp : P (.inl (some (.int (x2)))) (h)) : Gd X mX0_firstNotBelow 26 [none, none, some (.int x2)] [] h nc ns P := by
  refine g_iload_n dX0_firstNotBelow_26 rfl ?_
  exact g_ireturn (st := []) dX0_firstNotBelow_27 rfl rfl hp
theorem bkX0_weekdaysUpTo_0 {X : GX} {h : SH} {nc ns : Nat} {P : Out → SH → Prop} {x0 : Int32} (g : Gd X mX0_weekdaysUpTo 18 [none] [.int (if (5 : Int32) < ((x0 + 1) - (x0 + 1) / 7 * 7) then (5 : Int32) else (x0 + 1) - (x0 + 1) / 7 * 7), .int (((x0 + 1) / 7) * 5)] (h) nc ns P) : Gd X mX0_weekdaysUpTo 0 [some (.int x0)] [] h nc ns P := by
  refine g_iload_n dX0_weekdaysUpTo_0 rfl ?_
  refine g_iconst (v := 1) dX0_weekdaysUpTo_1 (by decide) ?_
  refine g_iadd dX0_weekdaysUpTo_2 ?_
  refine g_bipush (v := 7) dX0_weekdaysUpTo_3 (by decide) ?_
  refine g_idiv dX0_weekdaysUpTo_5 (by decide) ?_
  refine g_iconst (v := 5) dX0_weekdaysUpTo_6 (by decide) ?_
  refine g_imul dX0_weekdaysUpTo_7 ?_
  refine g_iload_n dX0_weekdaysUpTo_8 rfl ?_
  refine g_iconst (v := 1) dX0_weekdaysUpTo_9 (by decide) ?_
  refine g_iadd dX0_weekdaysUpTo_10 ?_
  refine g_bipush (v := 7) dX0_weekdaysUpTo_11 (by decide) ?_
  refine g_irem dX0_weekdaysUpTo_13 (by decide) ?_
  refine g_iconst (v := 5) dX0_weekdaysUpTo_14 (by decide) ?_
  refine g_mmin dX0_weekdaysUpTo_15 kw_1008 (by decide) (Nat.le_of_ble_eq_true rfl) ?_
  exact Gd.wk g trivial
theorem bkX0_weekdaysUpTo_18 {X : GX} {h : SH} {nc ns : Nat} {P : Out → SH → Prop} {xs0 : Int32} {xs1 : Int32} (hp : P (.inl (some (.int (xs0 + xs1)))) (h)) : Gd X mX0_weekdaysUpTo 18 [none] [.int xs1, .int xs0] h nc ns P := by
  refine g_iadd dX0_weekdaysUpTo_18 ?_
  exact g_ireturn (st := []) dX0_weekdaysUpTo_19 rfl rfl hp
theorem bkX0_isWeekday_0 {X : GX} {h : SH} {nc ns : Nat} {P : Out → SH → Prop} {x0 : Int32} (kt : (5 : Int32) ≤ (x0 - x0 / 7 * 7) → Gd X mX0_isWeekday 12 [none] [] (h) nc ns P) (kf : ¬ (5 : Int32) ≤ (x0 - x0 / 7 * 7) → Gd X mX0_isWeekday 8 [none] [] (h) nc ns P) : Gd X mX0_isWeekday 0 [some (.int x0)] [] h nc ns P := by
  refine g_iload_n dX0_isWeekday_0 rfl ?_
  refine g_bipush (v := 7) dX0_isWeekday_1 (by decide) ?_
  refine g_irem dX0_isWeekday_3 (by decide) ?_
  refine g_iconst (v := 5) dX0_isWeekday_4 (by decide) ?_
  exact g_icmp_ge (tgt := 12) dX0_isWeekday_5 (by decide) (fun q => Gd.wk (kt q) trivial) (fun q => Gd.wk (kf q) trivial)
theorem bkX0_isWeekday_8 {X : GX} {h : SH} {nc ns : Nat} {P : Out → SH → Prop} (g : Gd X mX0_isWeekday 13 [none] [.int 1] (h) nc ns P) : Gd X mX0_isWeekday 8 [none] [] h nc ns P := by
  refine g_iconst (v := 1) dX0_isWeekday_8 (by decide) ?_
  refine g_goto (tgt := 13) dX0_isWeekday_9 (by decide) ?_
  exact Gd.wk g trivial
theorem bkX0_isWeekday_12 {X : GX} {h : SH} {nc ns : Nat} {P : Out → SH → Prop} (g : Gd X mX0_isWeekday 13 [none] [.int 0] (h) nc ns P) : Gd X mX0_isWeekday 12 [none] [] h nc ns P := by
  refine g_iconst (v := 0) dX0_isWeekday_12 (by decide) ?_
  exact Gd.wk g trivial
theorem bkX0_isWeekday_13 {X : GX} {h : SH} {nc ns : Nat} {P : Out → SH → Prop} {xs0 : Int32} (w0 : xs0 = 0 ∨ xs0 = 1) (hp : P (.inl (some (.int (xs0)))) (h)) : Gd X mX0_isWeekday 13 [none] [.int xs0] h nc ns P := by
  exact g_ireturn (st := []) dX0_isWeekday_13 rfl (bl_n w0) hp
theorem bkX1_init_0 {X : GX} {h : SH} {nc ns : Nat} {P : Out → SH → Prop} {a0 : Nat} (g : Gd X mX1_init 4 [some (.ref a0)] [] (h) nc ns P) : Gd X mX1_init 0 [some (.ref a0)] [] h nc ns P := by
  refine g_aload_n dX1_init_0 rfl ?_
  refine g_objInit dX1_init_1 kw_133 kw_124 kw_125 (by decide) (Nat.le_of_ble_eq_true rfl) ?_
  exact Gd.wk g ⟨rfl, trivial⟩
theorem bkX1_init_4 {X : GX} {h : SH} {nc ns : Nat} {P : Out → SH → Prop} {a0 : Nat} (g : Gd X mX1_init 9 [some (.ref a0)] [.ref (hz h), .ref a0] (nw h 20 8) nc ns P) : Gd X mX1_init 4 [some (.ref a0)] [] h (nc + 1) (ns + 8) P := by
  refine g_aload_n dX1_init_4 rfl ?_
  refine g_bipush (v := 8) dX1_init_5 (by decide) ?_
  refine g_newarrN (k := 20) (N := 8) dX1_init_7 (by decide) (by decide) rfl kw_145 (by decide) (by decide) (by decide) ?_
  exact Gd.wk g ⟨rfl, trivial⟩
theorem bkX1_init_9 {X : GX} {h : SH} {nc ns : Nat} {P : Out → SH → Prop} {a0 : Nat} {as0 : Nat} {as1 : Nat} (F0 : LX1 (Sk h) (as0)) (g : Gd X mX1_init 12 [some (.ref a0)] [] (sA h as0 0 (some (as1))) nc ns P) : Gd X mX1_init 9 [some (.ref a0)] [.ref as1, .ref as0] h nc ns P := by
  refine g_putF (c := 1) (k := 0) (v := va_rf (some (as1))) (h1 := sA h as0 0 (some (as1))) dX1_init_9 (by decide) (by decide) kw_134 rfl rfl rfl (LX1.o (h := h) F0) (rf_n rfl) (rf_f rfl) (Put.A rfl) ?_
  exact Gd.wk g ⟨rfl, trivial⟩
theorem bkX1_init_12 {X : GX} {h : SH} {nc ns : Nat} {P : Out → SH → Prop} {a0 : Nat} (g : Gd X mX1_init 17 [none] [.ref (hz h), .ref a0] (nw h 20 12) nc ns P) : Gd X mX1_init 12 [some (.ref a0)] [] h (nc + 1) (ns + 12) P := by
  refine g_aload_n dX1_init_12 rfl ?_
  refine g_bipush (v := 12) dX1_init_13 (by decide) ?_
  refine g_newarrN (k := 20) (N := 12) dX1_init_15 (by decide) (by decide) rfl kw_145 (by decide) (by decide) (by decide) ?_
  exact Gd.wk g trivial
theorem bkX1_init_17 {X : GX} {h : SH} {nc ns : Nat} {P : Out → SH → Prop} {as0 : Nat} {as1 : Nat} (F0 : LX1 (Sk h) (as0)) (g : Gd X mX1_init 20 [none] [] (sA h as0 1 (some (as1))) nc ns P) : Gd X mX1_init 17 [none] [.ref as1, .ref as0] h nc ns P := by
  refine g_putF (c := 1) (k := 1) (v := va_rf (some (as1))) (h1 := sA h as0 1 (some (as1))) dX1_init_17 (by decide) (by decide) kw_137 rfl rfl rfl (LX1.o (h := h) F0) (rf_n rfl) (rf_f rfl) (Put.A rfl) ?_
  exact Gd.wk g trivial
theorem bkX1_init_20 {X : GX} {h : SH} {nc ns : Nat} {P : Out → SH → Prop} (hp : P (.inl (none)) (h)) : Gd X mX1_init 20 [none] [] h nc ns P := by
  exact g_return (st := []) dX1_init_20 rfl hp
theorem bkX1_setWorld_0 {X : GX} {h : SH} {nc ns : Nat} {P : Out → SH → Prop} {a0 : Nat} {a1 : Nat} {x2 : Int32} (F0 : LX3 (Sk h) (a1)) (g : Gd X mX1_setWorld 10 [some (.ref a0), some (.ref a1), none, some (.int x2), some (.int (hI h a1 2 - 1)), none] [] (h) nc ns P) : Gd X mX1_setWorld 0 [some (.ref a0), some (.ref a1), some (.int x2), none, none, none] [] h nc ns P := by
  refine g_iload_n dX1_setWorld_0 rfl ?_
  refine g_istore_n (L' := [some (.ref a0), some (.ref a1), some (.int x2), some (.int x2), none, none]) dX1_setWorld_1 (by decide) rfl ?_
  refine g_aload_n dX1_setWorld_2 rfl ?_
  refine g_getNI (c := 3) (k := 2) dX1_setWorld_3 (by decide) (by decide) kn_305 rfl (LX3.o (h := h) F0) ?_
  refine g_iconst (v := 1) dX1_setWorld_6 (by decide) ?_
  refine g_isub dX1_setWorld_7 ?_
  refine g_istore (L' := [some (.ref a0), some (.ref a1), some (.int x2), some (.int x2), some (.int (hI h a1 2 - 1)), none]) dX1_setWorld_8 (by decide) rfl ?_
  exact Gd.wk g ⟨rfl, ⟨rfl, ⟨rfl, ⟨rfl, trivial⟩⟩⟩⟩
theorem bkX1_setWorld_10 {X : GX} {h : SH} {nc ns : Nat} {P : Out → SH → Prop} {a0 : Nat} {a1 : Nat} {x3 : Int32} {x4 : Int32} (kt : x4 < 0 → Gd X mX1_setWorld 53 [none, none, none, none, none, none] [] (h) nc ns P) (kf : ¬ x4 < 0 → Gd X mX1_setWorld 15 [some (.ref a0), some (.ref a1), none, some (.int x3), some (.int x4), none] [] (h) nc ns P) : Gd X mX1_setWorld 10 [some (.ref a0), some (.ref a1), none, some (.int x3), some (.int x4), none] [] h nc ns P := by
  refine g_iload dX1_setWorld_10 rfl ?_
  exact g_if_lt (tgt := 53) dX1_setWorld_12 (by decide) (fun q => Gd.wk (kt q) trivial) (fun q => Gd.wk (kf q) ⟨rfl, ⟨rfl, ⟨rfl, ⟨rfl, trivial⟩⟩⟩⟩)
theorem bkX1_setWorld_15 {X : GX} {h : SH} {nc ns : Nat} {P : Out → SH → Prop} {Q : Int32 → SH → Prop} {a0 : Nat} {a1 : Nat} {x3 : Int32} {x4 : Int32} (F0 : LX3 (Sk h) (a1)) (hN : Cd X mX3_spanOf [.ref a1, .int x4] (h) 0 0 (oI Q nX)) (g : ∀ r t, Q r t → Gd X mX1_setWorld 21 [some (.ref a0), some (.ref a1), none, some (.int x3), some (.int x4), none] [.int r] (t) nc ns P) : Gd X mX1_setWorld 15 [some (.ref a0), some (.ref a1), none, some (.int x3), some (.int x4), none] [] h nc ns P := by
  refine g_aload_n dX1_setWorld_15 rfl ?_
  refine g_iload dX1_setWorld_16 rfl ?_
  refine Gd.z ?_
  exact g_callV (k := 3) [.int x4] dX1_setWorld_18 mfX3_spanOf ⟨by decide, by decide⟩ kw_890 kw_698 kw_699 rfl (by decide) (Nat.le_of_ble_eq_true rfl) (by intro x hx; cases hx) (LX3.o (h := h) F0) (Nat.le_of_ble_eq_true rfl) hN (fun _ _ q => q.elim) (oI_go (G := fun a b => Gd X mX1_setWorld 21 _ a b nc ns P) (fun r t q => Gd.wk (g r t q) ⟨rfl, ⟨rfl, ⟨rfl, ⟨rfl, trivial⟩⟩⟩⟩))
theorem bkX1_setWorld_21 {X : GX} {h : SH} {nc ns : Nat} {P : Out → SH → Prop} {a0 : Nat} {a1 : Nat} {x3 : Int32} {x4 : Int32} {xs0 : Int32} (F0 : LX1 (Sk h) (a0)) (F1 : LX3 (Sk h) (a1)) (i2 : vp_in (x4) 8) (z3 : ¬ (xs0 : Int32) = 0) (g : Gd X mX1_setWorld 10 [some (.ref a0), some (.ref a1), none, some (.int (x3 / xs0)), some (.int (x4 + (-1))), none] [] (sI h (a0 + 1) ((x4 : Int32).toNatClampNeg) ((hI h (a1 + 2) ((x4 : Int32).toNatClampNeg)) + (x3 - x3 / xs0 * xs0))) nc ns P) : Gd X mX1_setWorld 21 [some (.ref a0), some (.ref a1), none, some (.int x3), some (.int x4), none] [.int xs0] h nc ns P := by
  refine g_istore (L' := [some (.ref a0), some (.ref a1), none, some (.int x3), some (.int x4), some (.int xs0)]) dX1_setWorld_21 (by decide) rfl ?_
  refine g_aload_n dX1_setWorld_23 rfl ?_
  refine g_getAs (c := 1) (k := 0) (b := a0 + 1) dX1_setWorld_24 (by decide) (by decide) kw_134 rfl (LX1.o (h := h) F0) (LX1.r_numbers (h := h) F0) ?_
  refine g_iload dX1_setWorld_27 rfl ?_
  refine g_aload_n dX1_setWorld_29 rfl ?_
  refine g_getNAs (c := 3) (k := 4) (b := a1 + 2) dX1_setWorld_30 (by decide) (by decide) kn_311 rfl (LX3.o (h := h) F1) (LX3.r_least (h := h) F1) ?_
  refine g_iload dX1_setWorld_33 rfl ?_
  refine g_iaload dX1_setWorld_35 (LX3.a_least (h := h) F1) i2 ?_
  refine g_iload_n dX1_setWorld_36 rfl ?_
  refine g_iload dX1_setWorld_37 rfl ?_
  refine g_irem dX1_setWorld_39 z3 ?_
  refine g_iadd dX1_setWorld_40 ?_
  refine g_iastore dX1_setWorld_41 (LX1.a_numbers (h := h) F0) i2 ?_
  refine g_iload_n dX1_setWorld_42 rfl ?_
  refine g_iload dX1_setWorld_43 rfl ?_
  refine g_idiv dX1_setWorld_45 z3 ?_
  refine g_istore_n (L' := [some (.ref a0), some (.ref a1), none, some (.int (x3 / xs0)), some (.int x4), some (.int xs0)]) dX1_setWorld_46 (by decide) rfl ?_
  refine g_iinc (v := x4 + (-1)) (L' := [some (.ref a0), some (.ref a1), none, some (.int (x3 / xs0)), some (.int (x4 + (-1))), some (.int xs0)]) dX1_setWorld_47 rfl rfl (by decide) rfl ?_
  refine g_goto (tgt := 10) dX1_setWorld_50 (by decide) ?_
  exact Gd.wk g ⟨rfl, ⟨rfl, ⟨rfl, ⟨rfl, trivial⟩⟩⟩⟩
theorem bkX1_setWorld_53 {X : GX} {h : SH} {nc ns : Nat} {P : Out → SH → Prop} (hp : P (.inl (none)) (h)) : Gd X mX1_setWorld 53 [none, none, none, none, none, none] [] h nc ns P := by
  exact g_return (st := []) dX1_setWorld_53 rfl hp
theorem bkX1_worldOf_0 {X : GX} {h : SH} {nc ns : Nat} {P : Out → SH → Prop} {a0 : Nat} {a1 : Nat} (g : Gd X mX1_worldOf 4 [some (.ref a0), some (.ref a1), some (.int 0), some (.int 0)] [] (h) nc ns P) : Gd X mX1_worldOf 0 [some (.ref a0), some (.ref a1), none, none] [] h nc ns P := by
  refine g_iconst (v := 0) dX1_worldOf_0 (by decide) ?_
  refine g_istore_n (L' := [some (.ref a0), some (.ref a1), some (.int 0), none]) dX1_worldOf_1 (by decide) rfl ?_
  refine g_iconst (v := 0) dX1_worldOf_2 (by decide) ?_
  refine g_istore_n (L' := [some (.ref a0), some (.ref a1), some (.int 0), some (.int 0)]) dX1_worldOf_3 (by decide) rfl ?_
  exact Gd.wk g ⟨rfl, ⟨rfl, ⟨rfl, ⟨rfl, trivial⟩⟩⟩⟩
theorem bkX1_worldOf_4 {X : GX} {h : SH} {nc ns : Nat} {P : Out → SH → Prop} {a0 : Nat} {a1 : Nat} {x2 : Int32} {x3 : Int32} (F0 : LX3 (Sk h) (a1)) (kt : hI h a1 2 ≤ x3 → Gd X mX1_worldOf 40 [none, none, some (.int x2), none] [] (h) nc ns P) (kf : ¬ hI h a1 2 ≤ x3 → Gd X mX1_worldOf 12 [some (.ref a0), some (.ref a1), some (.int x2), some (.int x3)] [] (h) nc ns P) : Gd X mX1_worldOf 4 [some (.ref a0), some (.ref a1), some (.int x2), some (.int x3)] [] h nc ns P := by
  refine g_iload_n dX1_worldOf_4 rfl ?_
  refine g_aload_n dX1_worldOf_5 rfl ?_
  refine g_getNI (c := 3) (k := 2) dX1_worldOf_6 (by decide) (by decide) kn_305 rfl (LX3.o (h := h) F0) ?_
  exact g_icmp_ge (tgt := 40) dX1_worldOf_9 (by decide) (fun q => Gd.wk (kt q) ⟨rfl, trivial⟩) (fun q => Gd.wk (kf q) ⟨rfl, ⟨rfl, ⟨rfl, ⟨rfl, trivial⟩⟩⟩⟩)
theorem bkX1_worldOf_12 {X : GX} {h : SH} {nc ns : Nat} {P : Out → SH → Prop} {Q : Int32 → SH → Prop} {a0 : Nat} {a1 : Nat} {x2 : Int32} {x3 : Int32} (F0 : LX3 (Sk h) (a1)) (hN : Cd X mX3_spanOf [.ref a1, .int x3] (h) 0 0 (oI Q nX)) (g : ∀ r t, Q r t → Gd X mX1_worldOf 18 [some (.ref a0), some (.ref a1), none, some (.int x3)] [.int r, .int x2] (t) nc ns P) : Gd X mX1_worldOf 12 [some (.ref a0), some (.ref a1), some (.int x2), some (.int x3)] [] h nc ns P := by
  refine g_iload_n dX1_worldOf_12 rfl ?_
  refine g_aload_n dX1_worldOf_13 rfl ?_
  refine g_iload_n dX1_worldOf_14 rfl ?_
  refine Gd.z ?_
  exact g_callV (k := 3) [.int x3] dX1_worldOf_15 mfX3_spanOf ⟨by decide, by decide⟩ kw_890 kw_698 kw_699 rfl (by decide) (Nat.le_of_ble_eq_true rfl) (by intro x hx; cases hx) (LX3.o (h := h) F0) (Nat.le_of_ble_eq_true rfl) hN (fun _ _ q => q.elim) (oI_go (G := fun a b => Gd X mX1_worldOf 18 _ a b nc ns P) (fun r t q => Gd.wk (g r t q) ⟨rfl, ⟨rfl, ⟨rfl, trivial⟩⟩⟩))
theorem bkX1_worldOf_18 {X : GX} {h : SH} {nc ns : Nat} {P : Out → SH → Prop} {a0 : Nat} {a1 : Nat} {x3 : Int32} {xs0 : Int32} {xs1 : Int32} (F0 : LX1 (Sk h) (a0)) (i1 : vp_in (x3) 8) (F2 : LX3 (Sk h) (a1)) (g : Gd X mX1_worldOf 4 [some (.ref a0), some (.ref a1), some (.int (((xs0 * xs1) + (hI h (a0 + 1) ((x3 : Int32).toNatClampNeg))) - (hI h (a1 + 2) ((x3 : Int32).toNatClampNeg)))), some (.int (x3 + 1))] [] (h) nc ns P) : Gd X mX1_worldOf 18 [some (.ref a0), some (.ref a1), none, some (.int x3)] [.int xs1, .int xs0] h nc ns P := by
  refine g_imul dX1_worldOf_18 ?_
  refine g_aload_n dX1_worldOf_19 rfl ?_
  refine g_getAs (c := 1) (k := 0) (b := a0 + 1) dX1_worldOf_20 (by decide) (by decide) kw_134 rfl (LX1.o (h := h) F0) (LX1.r_numbers (h := h) F0) ?_
  refine g_iload_n dX1_worldOf_23 rfl ?_
  refine g_iaload dX1_worldOf_24 (LX1.a_numbers (h := h) F0) i1 ?_
  refine g_iadd dX1_worldOf_25 ?_
  refine g_aload_n dX1_worldOf_26 rfl ?_
  refine g_getNAs (c := 3) (k := 4) (b := a1 + 2) dX1_worldOf_27 (by decide) (by decide) kn_311 rfl (LX3.o (h := h) F2) (LX3.r_least (h := h) F2) ?_
  refine g_iload_n dX1_worldOf_30 rfl ?_
  refine g_iaload dX1_worldOf_31 (LX3.a_least (h := h) F2) i1 ?_
  refine g_isub dX1_worldOf_32 ?_
  refine g_istore_n (L' := [some (.ref a0), some (.ref a1), some (.int (((xs0 * xs1) + (hI h (a0 + 1) ((x3 : Int32).toNatClampNeg))) - (hI h (a1 + 2) ((x3 : Int32).toNatClampNeg)))), some (.int x3)]) dX1_worldOf_33 (by decide) rfl ?_
  refine g_iinc (v := x3 + 1) (L' := [some (.ref a0), some (.ref a1), some (.int (((xs0 * xs1) + (hI h (a0 + 1) ((x3 : Int32).toNatClampNeg))) - (hI h (a1 + 2) ((x3 : Int32).toNatClampNeg)))), some (.int (x3 + 1))]) dX1_worldOf_34 rfl rfl (by decide) rfl ?_
  refine g_goto (tgt := 4) dX1_worldOf_37 (by decide) ?_
  exact Gd.wk g ⟨rfl, ⟨rfl, ⟨rfl, ⟨rfl, trivial⟩⟩⟩⟩
theorem bkX1_worldOf_40 {X : GX} {h : SH} {nc ns : Nat} {P : Out → SH → Prop} {x2 : Int32} (hp : P (.inl (some (.int (x2)))) (h)) : Gd X mX1_worldOf 40 [none, none, some (.int x2), none] [] h nc ns P := by
  refine g_iload_n dX1_worldOf_40 rfl ?_
  exact g_ireturn (st := []) dX1_worldOf_41 rfl rfl hp
theorem bkX2_init_0 {X : GX} {h : SH} {nc ns : Nat} {P : Out → SH → Prop} {a0 : Nat} {y1 : Int64} {x3 : Int32} {x4 : Int32} {r5 : Option Nat} (g : Gd X mX2_init 4 [some (.ref a0), some (.long y1), none, some (.int x3), some (.int x4), some (va_rf r5)] [] (h) nc ns P) : Gd X mX2_init 0 [some (.ref a0), some (.long y1), none, some (.int x3), some (.int x4), some (va_rf r5)] [] h nc ns P := by
  refine g_aload_n dX2_init_0 rfl ?_
  refine g_objInit dX2_init_1 kw_767 kw_124 kw_125 (by decide) (Nat.le_of_ble_eq_true rfl) ?_
  exact Gd.wk g ⟨rfl, ⟨rfl, ⟨rfl, ⟨rfl, ⟨rfl, trivial⟩⟩⟩⟩⟩
theorem bkX2_init_4 {X : GX} {h : SH} {nc ns : Nat} {P : Out → SH → Prop} {a0 : Nat} {y1 : Int64} {x3 : Int32} {x4 : Int32} {r5 : Option Nat} (g : Gd X mX2_init 9 [some (.ref a0), some (.long y1), none, some (.int x3), some (.int x4), some (va_rf r5)] [.ref (hz h), .ref a0] (nw h 20 8) nc ns P) : Gd X mX2_init 4 [some (.ref a0), some (.long y1), none, some (.int x3), some (.int x4), some (va_rf r5)] [] h (nc + 1) (ns + 8) P := by
  refine g_aload_n dX2_init_4 rfl ?_
  refine g_bipush (v := 8) dX2_init_5 (by decide) ?_
  refine g_newarrN (k := 20) (N := 8) dX2_init_7 (by decide) (by decide) rfl kw_145 (by decide) (by decide) (by decide) ?_
  exact Gd.wk g ⟨rfl, ⟨rfl, ⟨rfl, ⟨rfl, ⟨rfl, trivial⟩⟩⟩⟩⟩
theorem bkX2_init_9 {X : GX} {h : SH} {nc ns : Nat} {P : Out → SH → Prop} {a0 : Nat} {y1 : Int64} {x3 : Int32} {x4 : Int32} {r5 : Option Nat} {as0 : Nat} {as1 : Nat} (F0 : LX2 (Sk h) (as0)) (g : Gd X mX2_init 12 [some (.ref a0), some (.long y1), none, some (.int x3), some (.int x4), some (va_rf r5)] [] (sA h as0 4 (some (as1))) nc ns P) : Gd X mX2_init 9 [some (.ref a0), some (.long y1), none, some (.int x3), some (.int x4), some (va_rf r5)] [.ref as1, .ref as0] h nc ns P := by
  refine g_putF (c := 2) (k := 4) (v := va_rf (some (as1))) (h1 := sA h as0 4 (some (as1))) dX2_init_9 (by decide) (by decide) kw_778 rfl rfl rfl (LX2.o (h := h) F0) (rf_n rfl) (rf_f rfl) (Put.A rfl) ?_
  exact Gd.wk g ⟨rfl, ⟨rfl, ⟨rfl, ⟨rfl, ⟨rfl, trivial⟩⟩⟩⟩⟩
theorem bkX2_init_12 {X : GX} {h : SH} {nc ns : Nat} {P : Out → SH → Prop} {a0 : Nat} {y1 : Int64} {x3 : Int32} {x4 : Int32} {r5 : Option Nat} (g : Gd X mX2_init 17 [some (.ref a0), some (.long y1), none, some (.int x3), some (.int x4), some (va_rf r5)] [.ref (hz h), .ref a0] (nw h 20 8) nc ns P) : Gd X mX2_init 12 [some (.ref a0), some (.long y1), none, some (.int x3), some (.int x4), some (va_rf r5)] [] h (nc + 1) (ns + 8) P := by
  refine g_aload_n dX2_init_12 rfl ?_
  refine g_bipush (v := 8) dX2_init_13 (by decide) ?_
  refine g_newarrN (k := 20) (N := 8) dX2_init_15 (by decide) (by decide) rfl kw_145 (by decide) (by decide) (by decide) ?_
  exact Gd.wk g ⟨rfl, ⟨rfl, ⟨rfl, ⟨rfl, ⟨rfl, trivial⟩⟩⟩⟩⟩
theorem bkX2_init_17 {X : GX} {h : SH} {nc ns : Nat} {P : Out → SH → Prop} {a0 : Nat} {y1 : Int64} {x3 : Int32} {x4 : Int32} {r5 : Option Nat} {as0 : Nat} {as1 : Nat} (F0 : LX2 (Sk h) (as0)) (g : Gd X mX2_init 20 [some (.ref a0), some (.long y1), none, some (.int x3), some (.int x4), some (va_rf r5)] [] (sA h as0 6 (some (as1))) nc ns P) : Gd X mX2_init 17 [some (.ref a0), some (.long y1), none, some (.int x3), some (.int x4), some (va_rf r5)] [.ref as1, .ref as0] h nc ns P := by
  refine g_putF (c := 2) (k := 6) (v := va_rf (some (as1))) (h1 := sA h as0 6 (some (as1))) dX2_init_17 (by decide) (by decide) kw_782 rfl rfl rfl (LX2.o (h := h) F0) (rf_n rfl) (rf_f rfl) (Put.A rfl) ?_
  exact Gd.wk g ⟨rfl, ⟨rfl, ⟨rfl, ⟨rfl, ⟨rfl, trivial⟩⟩⟩⟩⟩
theorem bkX2_init_20 {X : GX} {h : SH} {nc ns : Nat} {P : Out → SH → Prop} {a0 : Nat} {y1 : Int64} {x3 : Int32} {x4 : Int32} {r5 : Option Nat} (g : Gd X mX2_init 26 [some (.ref a0), some (.long y1), none, some (.int x3), some (.int x4), some (va_rf r5)] [.ref (hz h), .ref a0] (nw h 26 20) nc ns P) : Gd X mX2_init 20 [some (.ref a0), some (.long y1), none, some (.int x3), some (.int x4), some (va_rf r5)] [] h (nc + 1) (ns + 20) P := by
  refine g_aload_n dX2_init_20 rfl ?_
  refine g_bipush (v := 20) dX2_init_21 (by decide) ?_
  refine g_anewarrN (k := 26) (N := 20) dX2_init_23 (by decide) (by decide) kw_768 kn_769 (by decide) (by decide) (by decide) ?_
  exact Gd.wk g ⟨rfl, ⟨rfl, ⟨rfl, ⟨rfl, ⟨rfl, trivial⟩⟩⟩⟩⟩
theorem bkX2_init_26 {X : GX} {h : SH} {nc ns : Nat} {P : Out → SH → Prop} {a0 : Nat} {y1 : Int64} {x3 : Int32} {x4 : Int32} {r5 : Option Nat} {as0 : Nat} {as1 : Nat} (F0 : LX2 (Sk h) (as0)) (g : Gd X mX2_init 29 [some (.ref a0), some (.long y1), none, some (.int x3), some (.int x4), some (va_rf r5)] [] (sA h as0 8 (some (as1))) nc ns P) : Gd X mX2_init 26 [some (.ref a0), some (.long y1), none, some (.int x3), some (.int x4), some (va_rf r5)] [.ref as1, .ref as0] h nc ns P := by
  refine g_putF (c := 2) (k := 8) (v := va_rf (some (as1))) (h1 := sA h as0 8 (some (as1))) dX2_init_26 (by decide) (by decide) kw_786 rfl rfl rfl (LX2.o (h := h) F0) (rf_n rfl) (rf_f rfl) (Put.A rfl) ?_
  exact Gd.wk g ⟨rfl, ⟨rfl, ⟨rfl, ⟨rfl, ⟨rfl, trivial⟩⟩⟩⟩⟩
theorem bkX2_init_29 {X : GX} {h : SH} {nc ns : Nat} {P : Out → SH → Prop} {a0 : Nat} {y1 : Int64} {x3 : Int32} {x4 : Int32} {r5 : Option Nat} (O0 : Ob h a0 2) (w1 : x4 = 0 ∨ x4 = 1) (g : Gd X mX2_init 51 [none, none, none, none, none, none] [] (sA (sI (sI (sJ h a0 0 y1) a0 1 x3) a0 2 x4) a0 3 (r5)) nc ns P) : Gd X mX2_init 29 [some (.ref a0), some (.long y1), none, some (.int x3), some (.int x4), some (va_rf r5)] [] h nc ns P := by
  refine g_aload_n dX2_init_29 rfl ?_
  refine g_lload_n dX2_init_30 rfl ?_
  refine g_putF (c := 2) (k := 0) (h1 := sJ h a0 0 y1) dX2_init_31 (by decide) (by decide) kw_770 rfl rfl rfl O0 rfl rfl (Put.J rfl) ?_
  refine g_aload_n dX2_init_34 rfl ?_
  refine g_iload_n dX2_init_35 rfl ?_
  refine g_putF (c := 2) (k := 1) (h1 := sI (sJ h a0 0 y1) a0 1 x3) dX2_init_36 (by decide) (by decide) kw_772 rfl rfl rfl O0 rfl rfl (Put.I rfl) ?_
  refine g_aload_n dX2_init_39 rfl ?_
  refine g_iload dX2_init_40 rfl ?_
  refine g_putF (c := 2) (k := 2) (h1 := sI (sI (sJ h a0 0 y1) a0 1 x3) a0 2 x4) dX2_init_42 (by decide) (by decide) kw_774 rfl rfl rfl O0 (bl_n w1) (bl_f w1) (Put.I rfl) ?_
  refine g_aload_n dX2_init_45 rfl ?_
  refine g_aloadq (r := (r5)) dX2_init_46 rfl ?_
  refine g_putF (c := 2) (k := 3) (v := va_rf (r5)) (h1 := sA (sI (sI (sJ h a0 0 y1) a0 1 x3) a0 2 x4) a0 3 (r5)) dX2_init_48 (by decide) (by decide) kw_776 rfl rfl rfl O0 (rf_n rfl) (rf_f rfl) (Put.A rfl) ?_
  exact Gd.wk g trivial
theorem bkX2_init_51 {X : GX} {h : SH} {nc ns : Nat} {P : Out → SH → Prop} (hp : P (.inl (none)) (h)) : Gd X mX2_init 51 [none, none, none, none, none, none] [] h nc ns P := by
  exact g_return (st := []) dX2_init_51 rfl hp
theorem bkX2_hasAllLinks_0 {X : GX} {h : SH} {nc ns : Nat} {P : Out → SH → Prop} {a0 : Nat} (F0 : LX2 (Sk h) (a0)) (kt : (hI h a0 5 + hI h a0 7) < 8 → Gd X mX2_hasAllLinks 18 [none] [] (h) nc ns P) (kf : ¬ (hI h a0 5 + hI h a0 7) < 8 → Gd X mX2_hasAllLinks 14 [none] [] (h) nc ns P) : Gd X mX2_hasAllLinks 0 [some (.ref a0)] [] h nc ns P := by
  refine g_aload_n dX2_hasAllLinks_0 rfl ?_
  refine g_getI (c := 2) (k := 5) dX2_hasAllLinks_1 (by decide) (by decide) kw_780 rfl (LX2.o (h := h) F0) ?_
  refine g_aload_n dX2_hasAllLinks_4 rfl ?_
  refine g_getI (c := 2) (k := 7) dX2_hasAllLinks_5 (by decide) (by decide) kw_784 rfl (LX2.o (h := h) F0) ?_
  refine g_iadd dX2_hasAllLinks_8 ?_
  refine g_bipush (v := 8) dX2_hasAllLinks_9 (by decide) ?_
  exact g_icmp_lt (tgt := 18) dX2_hasAllLinks_11 (by decide) (fun q => Gd.wk (kt q) trivial) (fun q => Gd.wk (kf q) trivial)
theorem bkX2_hasAllLinks_14 {X : GX} {h : SH} {nc ns : Nat} {P : Out → SH → Prop} (g : Gd X mX2_hasAllLinks 19 [none] [.int 1] (h) nc ns P) : Gd X mX2_hasAllLinks 14 [none] [] h nc ns P := by
  refine g_iconst (v := 1) dX2_hasAllLinks_14 (by decide) ?_
  refine g_goto (tgt := 19) dX2_hasAllLinks_15 (by decide) ?_
  exact Gd.wk g trivial
theorem bkX2_hasAllLinks_18 {X : GX} {h : SH} {nc ns : Nat} {P : Out → SH → Prop} (g : Gd X mX2_hasAllLinks 19 [none] [.int 0] (h) nc ns P) : Gd X mX2_hasAllLinks 18 [none] [] h nc ns P := by
  refine g_iconst (v := 0) dX2_hasAllLinks_18 (by decide) ?_
  exact Gd.wk g trivial
theorem bkX2_hasAllLinks_19 {X : GX} {h : SH} {nc ns : Nat} {P : Out → SH → Prop} {xs0 : Int32} (w0 : xs0 = 0 ∨ xs0 = 1) (hp : P (.inl (some (.int (xs0)))) (h)) : Gd X mX2_hasAllLinks 19 [none] [.int xs0] h nc ns P := by
  exact g_ireturn (st := []) dX2_hasAllLinks_19 rfl (bl_n w0) hp
theorem bkX2_hasAllItems_0 {X : GX} {h : SH} {nc ns : Nat} {P : Out → SH → Prop} {a0 : Nat} (F0 : LX2 (Sk h) (a0)) (kt : hI h a0 9 < 20 → Gd X mX2_hasAllItems 13 [none] [] (h) nc ns P) (kf : ¬ hI h a0 9 < 20 → Gd X mX2_hasAllItems 9 [none] [] (h) nc ns P) : Gd X mX2_hasAllItems 0 [some (.ref a0)] [] h nc ns P := by
  refine g_aload_n dX2_hasAllItems_0 rfl ?_
  refine g_getI (c := 2) (k := 9) dX2_hasAllItems_1 (by decide) (by decide) kw_788 rfl (LX2.o (h := h) F0) ?_
  refine g_bipush (v := 20) dX2_hasAllItems_4 (by decide) ?_
  exact g_icmp_lt (tgt := 13) dX2_hasAllItems_6 (by decide) (fun q => Gd.wk (kt q) trivial) (fun q => Gd.wk (kf q) trivial)
theorem bkX2_hasAllItems_9 {X : GX} {h : SH} {nc ns : Nat} {P : Out → SH → Prop} (g : Gd X mX2_hasAllItems 14 [none] [.int 1] (h) nc ns P) : Gd X mX2_hasAllItems 9 [none] [] h nc ns P := by
  refine g_iconst (v := 1) dX2_hasAllItems_9 (by decide) ?_
  refine g_goto (tgt := 14) dX2_hasAllItems_10 (by decide) ?_
  exact Gd.wk g trivial
theorem bkX2_hasAllItems_13 {X : GX} {h : SH} {nc ns : Nat} {P : Out → SH → Prop} (g : Gd X mX2_hasAllItems 14 [none] [.int 0] (h) nc ns P) : Gd X mX2_hasAllItems 13 [none] [] h nc ns P := by
  refine g_iconst (v := 0) dX2_hasAllItems_13 (by decide) ?_
  exact Gd.wk g trivial
theorem bkX2_hasAllItems_14 {X : GX} {h : SH} {nc ns : Nat} {P : Out → SH → Prop} {xs0 : Int32} (w0 : xs0 = 0 ∨ xs0 = 1) (hp : P (.inl (some (.int (xs0)))) (h)) : Gd X mX2_hasAllItems 14 [none] [.int xs0] h nc ns P := by
  exact g_ireturn (st := []) dX2_hasAllItems_14 rfl (bl_n w0) hp
theorem bkX2_addNeed_0 {X : GX} {h : SH} {nc ns : Nat} {P : Out → SH → Prop} {a0 : Nat} {x1 : Int32} (F0 : LX2 (Sk h) (a0)) (i1 : vp_in (hI h a0 5) 8) (hp : P (.inl (none)) (sI (sI h (a0 + 3) ((hI h a0 5 : Int32).toNatClampNeg) x1) a0 5 ((hI (sI h (a0 + 3) ((hI h a0 5 : Int32).toNatClampNeg) x1) a0 5) + 1))) : Gd X mX2_addNeed 0 [some (.ref a0), some (.int x1)] [] h nc ns P := by
  refine g_aload_n dX2_addNeed_0 rfl ?_
  refine g_getAs (c := 2) (k := 4) (b := a0 + 3) dX2_addNeed_1 (by decide) (by decide) kw_778 rfl (LX2.o (h := h) F0) (LX2.r_needs (h := h) F0) ?_
  refine g_aload_n dX2_addNeed_4 rfl ?_
  refine g_getI (c := 2) (k := 5) dX2_addNeed_5 (by decide) (by decide) kw_780 rfl (LX2.o (h := h) F0) ?_
  refine g_iload_n dX2_addNeed_8 rfl ?_
  refine g_iastore dX2_addNeed_9 (LX2.a_needs (h := h) F0) i1 ?_
  refine g_aload_n dX2_addNeed_10 rfl ?_
  refine g_dup dX2_addNeed_11 rfl ?_
  refine g_getI (c := 2) (k := 5) dX2_addNeed_12 (by decide) (by decide) kw_780 rfl (LX2.o (h := sI h (a0 + 3) ((hI h a0 5 : Int32).toNatClampNeg) x1) F0) ?_
  refine g_iconst (v := 1) dX2_addNeed_15 (by decide) ?_
  refine g_iadd dX2_addNeed_16 ?_
  refine g_put (c := 2) (k := 5) (h1 := sI (sI h (a0 + 3) ((hI h a0 5 : Int32).toNatClampNeg) x1) a0 5 ((hI (sI h (a0 + 3) ((hI h a0 5 : Int32).toNatClampNeg) x1) a0 5) + 1)) dX2_addNeed_17 (by decide) (by decide) kw_780 rfl (LX2.o (h := sI h (a0 + 3) ((hI h a0 5 : Int32).toNatClampNeg) x1) F0) rfl rfl (Put.I rfl) ?_
  exact g_return (st := []) dX2_addNeed_20 rfl hp
theorem bkX2_addBar_0 {X : GX} {h : SH} {nc ns : Nat} {P : Out → SH → Prop} {a0 : Nat} {x1 : Int32} (F0 : LX2 (Sk h) (a0)) (i1 : vp_in (hI h a0 7) 8) (hp : P (.inl (none)) (sI (sI h (a0 + 4) ((hI h a0 7 : Int32).toNatClampNeg) x1) a0 7 ((hI (sI h (a0 + 4) ((hI h a0 7 : Int32).toNatClampNeg) x1) a0 7) + 1))) : Gd X mX2_addBar 0 [some (.ref a0), some (.int x1)] [] h nc ns P := by
  refine g_aload_n dX2_addBar_0 rfl ?_
  refine g_getAs (c := 2) (k := 6) (b := a0 + 4) dX2_addBar_1 (by decide) (by decide) kw_782 rfl (LX2.o (h := h) F0) (LX2.r_bars (h := h) F0) ?_
  refine g_aload_n dX2_addBar_4 rfl ?_
  refine g_getI (c := 2) (k := 7) dX2_addBar_5 (by decide) (by decide) kw_784 rfl (LX2.o (h := h) F0) ?_
  refine g_iload_n dX2_addBar_8 rfl ?_
  refine g_iastore dX2_addBar_9 (LX2.a_bars (h := h) F0) i1 ?_
  refine g_aload_n dX2_addBar_10 rfl ?_
  refine g_dup dX2_addBar_11 rfl ?_
  refine g_getI (c := 2) (k := 7) dX2_addBar_12 (by decide) (by decide) kw_784 rfl (LX2.o (h := sI h (a0 + 4) ((hI h a0 7 : Int32).toNatClampNeg) x1) F0) ?_
  refine g_iconst (v := 1) dX2_addBar_15 (by decide) ?_
  refine g_iadd dX2_addBar_16 ?_
  refine g_put (c := 2) (k := 7) (h1 := sI (sI h (a0 + 4) ((hI h a0 7 : Int32).toNatClampNeg) x1) a0 7 ((hI (sI h (a0 + 4) ((hI h a0 7 : Int32).toNatClampNeg) x1) a0 7) + 1)) dX2_addBar_17 (by decide) (by decide) kw_784 rfl (LX2.o (h := sI h (a0 + 4) ((hI h a0 7 : Int32).toNatClampNeg) x1) F0) rfl rfl (Put.I rfl) ?_
  exact g_return (st := []) dX2_addBar_20 rfl hp
theorem bkX2_addItem_0 {X : GX} {h : SH} {nc ns : Nat} {P : Out → SH → Prop} {a0 : Nat} {a1 : Nat} (F0 : LX2 (Sk h) (a0)) (i1 : vp_in (hI h a0 9) 20) (F2 : LX5 (Sk h) (a1)) (g : Gd X mX2_addItem 10 [some (.ref a0), none] [] (sA h (a0 + 5) ((hI h a0 9 : Int32).toNatClampNeg) (some (a1))) nc ns P) : Gd X mX2_addItem 0 [some (.ref a0), some (.ref a1)] [] h nc ns P := by
  refine g_aload_n dX2_addItem_0 rfl ?_
  refine g_getAs (c := 2) (k := 8) (b := a0 + 5) dX2_addItem_1 (by decide) (by decide) kw_786 rfl (LX2.o (h := h) F0) (LX2.r_items (h := h) F0) ?_
  refine g_aload_n dX2_addItem_4 rfl ?_
  refine g_getI (c := 2) (k := 9) dX2_addItem_5 (by decide) (by decide) kw_788 rfl (LX2.o (h := h) F0) ?_
  refine g_aload_n dX2_addItem_8 rfl ?_
  refine g_aastore (k := 26) dX2_addItem_9 (by decide) (by decide) (LX2.a_items (h := h) F0) (LX5.o (h := h) F2) i1 ?_
  exact Gd.wk g ⟨rfl, trivial⟩
theorem bkX2_addItem_10 {X : GX} {h : SH} {nc ns : Nat} {P : Out → SH → Prop} {a0 : Nat} (F0 : LX2 (Sk h) (a0)) (hp : P (.inl (none)) (sI h a0 9 (hI h a0 9 + 1))) : Gd X mX2_addItem 10 [some (.ref a0), none] [] h nc ns P := by
  refine g_aload_n dX2_addItem_10 rfl ?_
  refine g_dup dX2_addItem_11 rfl ?_
  refine g_getI (c := 2) (k := 9) dX2_addItem_12 (by decide) (by decide) kw_788 rfl (LX2.o (h := h) F0) ?_
  refine g_iconst (v := 1) dX2_addItem_15 (by decide) ?_
  refine g_iadd dX2_addItem_16 ?_
  refine g_put (c := 2) (k := 9) (h1 := sI h a0 9 (hI h a0 9 + 1)) dX2_addItem_17 (by decide) (by decide) kw_788 rfl (LX2.o (h := h) F0) rfl rfl (Put.I rfl) ?_
  exact g_return (st := []) dX2_addItem_20 rfl hp
theorem bkX4_init_0 {X : GX} {h : SH} {nc ns : Nat} {P : Out → SH → Prop} {a0 : Nat} {a1 : Nat} (g : Gd X mX4_init 4 [some (.ref a0), some (.ref a1)] [] (h) nc ns P) : Gd X mX4_init 0 [some (.ref a0), some (.ref a1)] [] h nc ns P := by
  refine g_aload_n dX4_init_0 rfl ?_
  refine g_objInit dX4_init_1 kw_759 kw_124 kw_125 (by decide) (Nat.le_of_ble_eq_true rfl) ?_
  exact Gd.wk g ⟨rfl, ⟨rfl, trivial⟩⟩
theorem bkX4_init_4 {X : GX} {h : SH} {nc ns : Nat} {P : Out → SH → Prop} {a0 : Nat} {a1 : Nat} (O0 : Ob h a0 4) (g : Gd X mX4_init 9 [none, none] [] (sA h a0 0 (some (a1))) nc ns P) : Gd X mX4_init 4 [some (.ref a0), some (.ref a1)] [] h nc ns P := by
  refine g_aload_n dX4_init_4 rfl ?_
  refine g_aload_n dX4_init_5 rfl ?_
  refine g_putF (c := 4) (k := 0) (v := va_rf (some (a1))) (h1 := sA h a0 0 (some (a1))) dX4_init_6 (by decide) (by decide) kw_760 rfl rfl rfl O0 (rf_n rfl) (rf_f rfl) (Put.A rfl) ?_
  exact Gd.wk g trivial
theorem bkX4_init_9 {X : GX} {h : SH} {nc ns : Nat} {P : Out → SH → Prop} (hp : P (.inl (none)) (h)) : Gd X mX4_init 9 [none, none] [] h nc ns P := by
  exact g_return (st := []) dX4_init_9 rfl hp
theorem bkX4_reckon_0 {X : GX} {h : SH} {nc ns : Nat} {P : Out → SH → Prop} {a0 : Nat} {a1 : Nat} (F0 : LX1 (Sk h) (a1)) (g : Gd X mX4_reckon 10 [some (.ref a0), some (.ref a1), some (.ref (a1 + 2)), some (.int 0), some (.int 0), none, none] [] (h) nc ns P) : Gd X mX4_reckon 0 [some (.ref a0), some (.ref a1), none, none, none, none, none] [] h nc ns P := by
  refine g_aload_n dX4_reckon_0 rfl ?_
  refine g_getNAs (c := 1) (k := 1) (b := a1 + 2) dX4_reckon_1 (by decide) (by decide) kn_138 rfl (LX1.o (h := h) F0) (LX1.r_open (h := h) F0) ?_
  refine g_astore_n (r := (some (a1 + 2))) (L' := [some (.ref a0), some (.ref a1), some (.ref (a1 + 2)), none, none, none, none]) dX4_reckon_4 (by decide) rfl ?_
  refine g_iconst (v := 0) dX4_reckon_5 (by decide) ?_
  refine g_istore_n (L' := [some (.ref a0), some (.ref a1), some (.ref (a1 + 2)), some (.int 0), none, none, none]) dX4_reckon_6 (by decide) rfl ?_
  refine g_iconst (v := 0) dX4_reckon_7 (by decide) ?_
  refine g_istore (L' := [some (.ref a0), some (.ref a1), some (.ref (a1 + 2)), some (.int 0), some (.int 0), none, none]) dX4_reckon_8 (by decide) rfl ?_
  exact Gd.wk g ⟨rfl, ⟨rfl, ⟨rfl, ⟨rfl, ⟨rfl, trivial⟩⟩⟩⟩⟩
theorem bkX4_reckon_10 {X : GX} {h : SH} {nc ns : Nat} {P : Out → SH → Prop} {a0 : Nat} {a1 : Nat} {a2 : Nat} {x3 : Int32} {x4 : Int32} (F0 : LX4 (Sk h) (a0)) (kt : (Int32.ofNat (hN h (a0 + 1))) ≤ x4 → Gd X mX4_reckon 125 [none, none, some (.ref a2), some (.int x3), none, none, none] [] (h) nc ns P) (kf : ¬ (Int32.ofNat (hN h (a0 + 1))) ≤ x4 → Gd X mX4_reckon 20 [some (.ref a0), some (.ref a1), some (.ref a2), some (.int x3), some (.int x4), none, none] [] (h) nc ns P) : Gd X mX4_reckon 10 [some (.ref a0), some (.ref a1), some (.ref a2), some (.int x3), some (.int x4), none, none] [] h nc ns P := by
  refine g_iload dX4_reckon_10 rfl ?_
  refine g_aload_n dX4_reckon_12 rfl ?_
  refine g_getAs (c := 4) (k := 0) (b := a0 + 1) dX4_reckon_13 (by decide) (by decide) kw_760 rfl (LX4.o (h := h) F0) (LX4.r_operations (h := h) F0) ?_
  refine g_alen (k := 20) dX4_reckon_16 (by decide) (by decide) (LX4.a_operations (h := h) F0) ?_
  exact g_icmp_ge (tgt := 125) dX4_reckon_17 (by decide) (fun q => Gd.wk (kt q) ⟨rfl, ⟨rfl, trivial⟩⟩) (fun q => Gd.wk (kf q) ⟨rfl, ⟨rfl, ⟨rfl, ⟨rfl, ⟨rfl, trivial⟩⟩⟩⟩⟩)
theorem bkX4_reckon_20 {X : GX} {h : SH} {nc ns : Nat} {P : Out → SH → Prop} {a0 : Nat} {a1 : Nat} {a2 : Nat} {x3 : Int32} {x4 : Int32} (F0 : LX4 (Sk h) (a0)) (i1 : vp_in (x4) (hN h (a0 + 1))) (kt : ((hI h (a0 + 1) ((x4 : Int32).toNatClampNeg)) - (hI h (a0 + 1) ((x4 : Int32).toNatClampNeg)) / 8 * 8) = 1 → Gd X mX4_reckon 44 [some (.ref a0), some (.ref a1), some (.ref a2), some (.int x3), some (.int x4), some (.int ((hI h (a0 + 1) ((x4 : Int32).toNatClampNeg)) - (hI h (a0 + 1) ((x4 : Int32).toNatClampNeg)) / 8 * 8)), none] [] (h) nc ns P) (kf : ¬ ((hI h (a0 + 1) ((x4 : Int32).toNatClampNeg)) - (hI h (a0 + 1) ((x4 : Int32).toNatClampNeg)) / 8 * 8) = 1 → Gd X mX4_reckon 38 [some (.ref a0), some (.ref a1), some (.ref a2), some (.int x3), some (.int x4), some (.int ((hI h (a0 + 1) ((x4 : Int32).toNatClampNeg)) - (hI h (a0 + 1) ((x4 : Int32).toNatClampNeg)) / 8 * 8)), none] [] (h) nc ns P) : Gd X mX4_reckon 20 [some (.ref a0), some (.ref a1), some (.ref a2), some (.int x3), some (.int x4), none, none] [] h nc ns P := by
  refine g_aload_n dX4_reckon_20 rfl ?_
  refine g_getAs (c := 4) (k := 0) (b := a0 + 1) dX4_reckon_21 (by decide) (by decide) kw_760 rfl (LX4.o (h := h) F0) (LX4.r_operations (h := h) F0) ?_
  refine g_iload dX4_reckon_24 rfl ?_
  refine g_iaload dX4_reckon_26 (LX4.a_operations (h := h) F0) i1 ?_
  refine g_bipush (v := 8) dX4_reckon_27 (by decide) ?_
  refine g_irem dX4_reckon_29 (by decide) ?_
  refine g_istore (L' := [some (.ref a0), some (.ref a1), some (.ref a2), some (.int x3), some (.int x4), some (.int ((hI h (a0 + 1) ((x4 : Int32).toNatClampNeg)) - (hI h (a0 + 1) ((x4 : Int32).toNatClampNeg)) / 8 * 8)), none]) dX4_reckon_30 (by decide) rfl ?_
  refine g_iload dX4_reckon_32 rfl ?_
  refine g_iconst (v := 1) dX4_reckon_34 (by decide) ?_
  exact g_icmp_eq (tgt := 44) dX4_reckon_35 (by decide) (fun q => Gd.wk (kt q) ⟨rfl, ⟨rfl, ⟨rfl, ⟨rfl, ⟨rfl, ⟨rfl, trivial⟩⟩⟩⟩⟩⟩) (fun q => Gd.wk (kf q) ⟨rfl, ⟨rfl, ⟨rfl, ⟨rfl, ⟨rfl, ⟨rfl, trivial⟩⟩⟩⟩⟩⟩)
theorem bkX4_reckon_38 {X : GX} {h : SH} {nc ns : Nat} {P : Out → SH → Prop} {a0 : Nat} {a1 : Nat} {a2 : Nat} {x3 : Int32} {x4 : Int32} {x5 : Int32} (kt : ¬ x5 = 2 → Gd X mX4_reckon 91 [some (.ref a0), some (.ref a1), some (.ref a2), some (.int x3), some (.int x4), some (.int x5), none] [] (h) nc ns P) (kf : x5 = 2 → Gd X mX4_reckon 44 [some (.ref a0), some (.ref a1), some (.ref a2), some (.int x3), some (.int x4), some (.int x5), none] [] (h) nc ns P) : Gd X mX4_reckon 38 [some (.ref a0), some (.ref a1), some (.ref a2), some (.int x3), some (.int x4), some (.int x5), none] [] h nc ns P := by
  refine g_iload dX4_reckon_38 rfl ?_
  refine g_iconst (v := 2) dX4_reckon_40 (by decide) ?_
  exact g_icmp_ne (tgt := 91) dX4_reckon_41 (by decide) (fun q => Gd.wk (kt q) ⟨rfl, ⟨rfl, ⟨rfl, ⟨rfl, ⟨rfl, ⟨rfl, trivial⟩⟩⟩⟩⟩⟩) (fun q => Gd.wk (kf q) ⟨rfl, ⟨rfl, ⟨rfl, ⟨rfl, ⟨rfl, ⟨rfl, trivial⟩⟩⟩⟩⟩⟩)
theorem bkX4_reckon_44 {X : GX} {h : SH} {nc ns : Nat} {P : Out → SH → Prop} {a0 : Nat} {a1 : Nat} {a2 : Nat} {x3 : Int32} {x4 : Int32} {x5 : Int32} {n6 : Nat} (B0 : Ar h (a2) 20 n6) (kt : x3 < (Int32.ofNat n6) → Gd X mX4_reckon 52 [some (.ref a0), some (.ref a1), some (.ref a2), some (.int x3), some (.int x4), some (.int x5), none] [] (h) nc ns P) (kf : ¬ x3 < (Int32.ofNat n6) → Gd X mX4_reckon 50 [none, none, none, none, none, none, none] [] (h) nc ns P) : Gd X mX4_reckon 44 [some (.ref a0), some (.ref a1), some (.ref a2), some (.int x3), some (.int x4), some (.int x5), none] [] h nc ns P := by
  refine g_iload_n dX4_reckon_44 rfl ?_
  refine g_aload_n dX4_reckon_45 rfl ?_
  refine g_alen (k := 20) dX4_reckon_46 (by decide) (by decide) B0 ?_
  exact g_icmp_lt (tgt := 52) dX4_reckon_47 (by decide) (fun q => Gd.wk (kt q) ⟨rfl, ⟨rfl, ⟨rfl, ⟨rfl, ⟨rfl, ⟨rfl, trivial⟩⟩⟩⟩⟩⟩) (fun q => Gd.wk (kf q) trivial)
theorem bkX4_reckon_50 {X : GX} {h : SH} {nc ns : Nat} {P : Out → SH → Prop} (hp : P (.inl (some (.int (0)))) (h)) : Gd X mX4_reckon 50 [none, none, none, none, none, none, none] [] h nc ns P := by
  refine g_iconst (v := 0) dX4_reckon_50 (by decide) ?_
  exact g_ireturn (st := []) dX4_reckon_51 rfl rfl hp
theorem bkX4_reckon_52 {X : GX} {h : SH} {nc ns : Nat} {P : Out → SH → Prop} {a0 : Nat} {a1 : Nat} {a2 : Nat} {x3 : Int32} {x4 : Int32} {x5 : Int32} (F0 : LX4 (Sk h) (a0)) (i1 : vp_in (x4) (hN h (a0 + 1))) (kt : ¬ x5 = 1 → Gd X mX4_reckon 77 [some (.ref a0), some (.ref a1), some (.ref a2), some (.int x3), some (.int x4), none, some (.int ((hI h (a0 + 1) ((x4 : Int32).toNatClampNeg)) / 8))] [.int x3, .ref a2] (h) nc ns P) (kf : x5 = 1 → Gd X mX4_reckon 72 [some (.ref a0), some (.ref a1), some (.ref a2), some (.int x3), some (.int x4), none, some (.int ((hI h (a0 + 1) ((x4 : Int32).toNatClampNeg)) / 8))] [.int x3, .ref a2] (h) nc ns P) : Gd X mX4_reckon 52 [some (.ref a0), some (.ref a1), some (.ref a2), some (.int x3), some (.int x4), some (.int x5), none] [] h nc ns P := by
  refine g_aload_n dX4_reckon_52 rfl ?_
  refine g_getAs (c := 4) (k := 0) (b := a0 + 1) dX4_reckon_53 (by decide) (by decide) kw_760 rfl (LX4.o (h := h) F0) (LX4.r_operations (h := h) F0) ?_
  refine g_iload dX4_reckon_56 rfl ?_
  refine g_iaload dX4_reckon_58 (LX4.a_operations (h := h) F0) i1 ?_
  refine g_bipush (v := 8) dX4_reckon_59 (by decide) ?_
  refine g_idiv dX4_reckon_61 (by decide) ?_
  refine g_istore (L' := [some (.ref a0), some (.ref a1), some (.ref a2), some (.int x3), some (.int x4), some (.int x5), some (.int ((hI h (a0 + 1) ((x4 : Int32).toNatClampNeg)) / 8))]) dX4_reckon_62 (by decide) rfl ?_
  refine g_aload_n dX4_reckon_64 rfl ?_
  refine g_iload_n dX4_reckon_65 rfl ?_
  refine g_iload dX4_reckon_66 rfl ?_
  refine g_iconst (v := 1) dX4_reckon_68 (by decide) ?_
  exact g_icmp_ne (tgt := 77) dX4_reckon_69 (by decide) (fun q => Gd.wk (kt q) ⟨rfl, ⟨rfl, ⟨rfl, ⟨rfl, ⟨rfl, ⟨rfl, trivial⟩⟩⟩⟩⟩⟩) (fun q => Gd.wk (kf q) ⟨rfl, ⟨rfl, ⟨rfl, ⟨rfl, ⟨rfl, ⟨rfl, trivial⟩⟩⟩⟩⟩⟩)
theorem bkX4_reckon_72 {X : GX} {h : SH} {nc ns : Nat} {P : Out → SH → Prop} {a0 : Nat} {a1 : Nat} {a2 : Nat} {x3 : Int32} {x4 : Int32} {x6 : Int32} {as0 : Nat} {xs1 : Int32} (g : Gd X mX4_reckon 84 [some (.ref a0), some (.ref a1), some (.ref a2), some (.int x3), some (.int x4), none, none] [.int x6, .int xs1, .ref as0] (h) nc ns P) : Gd X mX4_reckon 72 [some (.ref a0), some (.ref a1), some (.ref a2), some (.int x3), some (.int x4), none, some (.int x6)] [.int xs1, .ref as0] h nc ns P := by
  refine g_iload dX4_reckon_72 rfl ?_
  refine g_goto (tgt := 84) dX4_reckon_74 (by decide) ?_
  exact Gd.wk g ⟨rfl, ⟨rfl, ⟨rfl, ⟨rfl, ⟨rfl, trivial⟩⟩⟩⟩⟩
theorem bkX4_reckon_77 {X : GX} {h : SH} {nc ns : Nat} {P : Out → SH → Prop} {a0 : Nat} {a1 : Nat} {a2 : Nat} {x3 : Int32} {x4 : Int32} {x6 : Int32} {as0 : Nat} {xs1 : Int32} (F0 : LX1 (Sk h) (a1)) (i1 : vp_in (x6) 8) (g : Gd X mX4_reckon 84 [some (.ref a0), some (.ref a1), some (.ref a2), some (.int x3), some (.int x4), none, none] [.int (hI h (a1 + 1) ((x6 : Int32).toNatClampNeg)), .int xs1, .ref as0] (h) nc ns P) : Gd X mX4_reckon 77 [some (.ref a0), some (.ref a1), some (.ref a2), some (.int x3), some (.int x4), none, some (.int x6)] [.int xs1, .ref as0] h nc ns P := by
  refine g_aload_n dX4_reckon_77 rfl ?_
  refine g_getNAs (c := 1) (k := 0) (b := a1 + 1) dX4_reckon_78 (by decide) (by decide) kn_135 rfl (LX1.o (h := h) F0) (LX1.r_numbers (h := h) F0) ?_
  refine g_iload dX4_reckon_81 rfl ?_
  refine g_iaload dX4_reckon_83 (LX1.a_numbers (h := h) F0) i1 ?_
  exact Gd.wk g ⟨rfl, ⟨rfl, ⟨rfl, ⟨rfl, ⟨rfl, trivial⟩⟩⟩⟩⟩
theorem bkX4_reckon_84 {X : GX} {h : SH} {nc ns : Nat} {P : Out → SH → Prop} {a0 : Nat} {a1 : Nat} {a2 : Nat} {x3 : Int32} {x4 : Int32} {as0 : Nat} {xs1 : Int32} {xs2 : Int32} {n8 : Nat} (B0 : Ar h (as0) 20 n8) (i1 : vp_in (xs1) n8) (g : Gd X mX4_reckon 119 [some (.ref a0), some (.ref a1), some (.ref a2), some (.int (x3 + 1)), some (.int x4), none, none] [] (sI h as0 ((xs1 : Int32).toNatClampNeg) xs2) nc ns P) : Gd X mX4_reckon 84 [some (.ref a0), some (.ref a1), some (.ref a2), some (.int x3), some (.int x4), none, none] [.int xs2, .int xs1, .ref as0] h nc ns P := by
  refine g_iastore dX4_reckon_84 B0 i1 ?_
  refine g_iinc (v := x3 + 1) (L' := [some (.ref a0), some (.ref a1), some (.ref a2), some (.int (x3 + 1)), some (.int x4), none, none]) dX4_reckon_85 rfl rfl (by decide) rfl ?_
  refine g_goto (tgt := 119) dX4_reckon_88 (by decide) ?_
  exact Gd.wk g ⟨rfl, ⟨rfl, ⟨rfl, ⟨rfl, ⟨rfl, trivial⟩⟩⟩⟩⟩
theorem bkX4_reckon_91 {X : GX} {h : SH} {nc ns : Nat} {P : Out → SH → Prop} {a0 : Nat} {a1 : Nat} {a2 : Nat} {x3 : Int32} {x4 : Int32} {x5 : Int32} (kt : (2 : Int32) ≤ x3 → Gd X mX4_reckon 98 [some (.ref a0), some (.ref a1), some (.ref a2), some (.int x3), some (.int x4), some (.int x5), none] [] (h) nc ns P) (kf : ¬ (2 : Int32) ≤ x3 → Gd X mX4_reckon 96 [none, none, none, none, none, none, none] [] (h) nc ns P) : Gd X mX4_reckon 91 [some (.ref a0), some (.ref a1), some (.ref a2), some (.int x3), some (.int x4), some (.int x5), none] [] h nc ns P := by
  refine g_iload_n dX4_reckon_91 rfl ?_
  refine g_iconst (v := 2) dX4_reckon_92 (by decide) ?_
  exact g_icmp_ge (tgt := 98) dX4_reckon_93 (by decide) (fun q => Gd.wk (kt q) ⟨rfl, ⟨rfl, ⟨rfl, ⟨rfl, ⟨rfl, ⟨rfl, trivial⟩⟩⟩⟩⟩⟩) (fun q => Gd.wk (kf q) trivial)
theorem bkX4_reckon_96 {X : GX} {h : SH} {nc ns : Nat} {P : Out → SH → Prop} (hp : P (.inl (some (.int (0)))) (h)) : Gd X mX4_reckon 96 [none, none, none, none, none, none, none] [] h nc ns P := by
  refine g_iconst (v := 0) dX4_reckon_96 (by decide) ?_
  exact g_ireturn (st := []) dX4_reckon_97 rfl rfl hp
theorem bkX4_reckon_98 {X : GX} {h : SH} {nc ns : Nat} {P : Out → SH → Prop} {Q : Int32 → SH → Prop} {a0 : Nat} {a1 : Nat} {a2 : Nat} {x3 : Int32} {x4 : Int32} {x5 : Int32} {n6 : Nat} (B0 : Ar h (a2) 20 n6) (i1 : vp_in ((x3 + (-1)) - 1) n6) (i2 : vp_in (x3 + (-1)) n6) (hN : Cd X mX4_join [.int x5, .int (hI h a2 (((x3 + (-1)) - 1 : Int32).toNatClampNeg)), .int (hI h a2 ((x3 + (-1) : Int32).toNatClampNeg))] (h) 0 0 (oI Q nX)) (g : ∀ r t, Q r t → Gd X mX4_reckon 118 [some (.ref a0), some (.ref a1), some (.ref a2), some (.int (x3 + (-1))), some (.int x4), none, none] [.int r, .int ((x3 + (-1)) - 1), .ref a2] (t) nc ns P) : Gd X mX4_reckon 98 [some (.ref a0), some (.ref a1), some (.ref a2), some (.int x3), some (.int x4), some (.int x5), none] [] h nc ns P := by
  refine g_iinc (v := x3 + (-1)) (L' := [some (.ref a0), some (.ref a1), some (.ref a2), some (.int (x3 + (-1))), some (.int x4), some (.int x5), none]) dX4_reckon_98 rfl rfl (by decide) rfl ?_
  refine g_aload_n dX4_reckon_101 rfl ?_
  refine g_iload_n dX4_reckon_102 rfl ?_
  refine g_iconst (v := 1) dX4_reckon_103 (by decide) ?_
  refine g_isub dX4_reckon_104 ?_
  refine g_iload dX4_reckon_105 rfl ?_
  refine g_aload_n dX4_reckon_107 rfl ?_
  refine g_iload_n dX4_reckon_108 rfl ?_
  refine g_iconst (v := 1) dX4_reckon_109 (by decide) ?_
  refine g_isub dX4_reckon_110 ?_
  refine g_iaload dX4_reckon_111 B0 i1 ?_
  refine g_aload_n dX4_reckon_112 rfl ?_
  refine g_iload_n dX4_reckon_113 rfl ?_
  refine g_iaload dX4_reckon_114 B0 i2 ?_
  refine Gd.z ?_
  exact g_callS [.int x5, .int (hI h a2 (((x3 + (-1)) - 1 : Int32).toNatClampNeg)), .int (hI h a2 ((x3 + (-1) : Int32).toNatClampNeg))] dX4_reckon_115 mfX4_join ⟨by decide, by decide⟩ kw_947 kw_948 rfl (Nat.le_of_ble_eq_true rfl) (by intro x hx; cases hx) (Nat.le_of_ble_eq_true rfl) hN (fun _ _ q => q.elim) (oI_go (G := fun a b => Gd X mX4_reckon 118 _ a b nc ns P) (fun r t q => Gd.wk (g r t q) ⟨rfl, ⟨rfl, ⟨rfl, ⟨rfl, ⟨rfl, trivial⟩⟩⟩⟩⟩))
theorem bkX4_reckon_118 {X : GX} {h : SH} {nc ns : Nat} {P : Out → SH → Prop} {a0 : Nat} {a1 : Nat} {a2 : Nat} {x3 : Int32} {x4 : Int32} {as0 : Nat} {xs1 : Int32} {xs2 : Int32} {n8 : Nat} (B0 : Ar h (as0) 20 n8) (i1 : vp_in (xs1) n8) (g : Gd X mX4_reckon 119 [some (.ref a0), some (.ref a1), some (.ref a2), some (.int x3), some (.int x4), none, none] [] (sI h as0 ((xs1 : Int32).toNatClampNeg) xs2) nc ns P) : Gd X mX4_reckon 118 [some (.ref a0), some (.ref a1), some (.ref a2), some (.int x3), some (.int x4), none, none] [.int xs2, .int xs1, .ref as0] h nc ns P := by
  refine g_iastore dX4_reckon_118 B0 i1 ?_
  exact Gd.wk g ⟨rfl, ⟨rfl, ⟨rfl, ⟨rfl, ⟨rfl, trivial⟩⟩⟩⟩⟩
theorem bkX4_reckon_119 {X : GX} {h : SH} {nc ns : Nat} {P : Out → SH → Prop} {a0 : Nat} {a1 : Nat} {a2 : Nat} {x3 : Int32} {x4 : Int32} (g : Gd X mX4_reckon 10 [some (.ref a0), some (.ref a1), some (.ref a2), some (.int x3), some (.int (x4 + 1)), none, none] [] (h) nc ns P) : Gd X mX4_reckon 119 [some (.ref a0), some (.ref a1), some (.ref a2), some (.int x3), some (.int x4), none, none] [] h nc ns P := by
  refine g_iinc (v := x4 + 1) (L' := [some (.ref a0), some (.ref a1), some (.ref a2), some (.int x3), some (.int (x4 + 1)), none, none]) dX4_reckon_119 rfl rfl (by decide) rfl ?_
  refine g_goto (tgt := 10) dX4_reckon_122 (by decide) ?_
  exact Gd.wk g ⟨rfl, ⟨rfl, ⟨rfl, ⟨rfl, ⟨rfl, trivial⟩⟩⟩⟩⟩
theorem bkX4_reckon_125 {X : GX} {h : SH} {nc ns : Nat} {P : Out → SH → Prop} {a2 : Nat} {x3 : Int32} (kt : (1 : Int32) ≤ x3 → Gd X mX4_reckon 134 [none, none, some (.ref a2), none, none, none, none] [] (h) nc ns P) (kf : ¬ (1 : Int32) ≤ x3 → Gd X mX4_reckon 130 [none, none, none, none, none, none, none] [] (h) nc ns P) : Gd X mX4_reckon 125 [none, none, some (.ref a2), some (.int x3), none, none, none] [] h nc ns P := by
  refine g_iload_n dX4_reckon_125 rfl ?_
  refine g_iconst (v := 1) dX4_reckon_126 (by decide) ?_
  exact g_icmp_ge (tgt := 134) dX4_reckon_127 (by decide) (fun q => Gd.wk (kt q) ⟨rfl, trivial⟩) (fun q => Gd.wk (kf q) trivial)
theorem bkX4_reckon_130 {X : GX} {h : SH} {nc ns : Nat} {P : Out → SH → Prop} (g : Gd X mX4_reckon 137 [none, none, none, none, none, none, none] [.int 0] (h) nc ns P) : Gd X mX4_reckon 130 [none, none, none, none, none, none, none] [] h nc ns P := by
  refine g_iconst (v := 0) dX4_reckon_130 (by decide) ?_
  refine g_goto (tgt := 137) dX4_reckon_131 (by decide) ?_
  exact Gd.wk g trivial
theorem bkX4_reckon_134 {X : GX} {h : SH} {nc ns : Nat} {P : Out → SH → Prop} {a2 : Nat} {n1 : Nat} (B0 : Ar h (a2) 20 n1) (i1 : vp_in (0) n1) (g : Gd X mX4_reckon 137 [none, none, none, none, none, none, none] [.int (hI h a2 ((0 : Int32).toNatClampNeg))] (h) nc ns P) : Gd X mX4_reckon 134 [none, none, some (.ref a2), none, none, none, none] [] h nc ns P := by
  refine g_aload_n dX4_reckon_134 rfl ?_
  refine g_iconst (v := 0) dX4_reckon_135 (by decide) ?_
  refine g_iaload dX4_reckon_136 B0 i1 ?_
  exact Gd.wk g trivial
theorem bkX4_reckon_137 {X : GX} {h : SH} {nc ns : Nat} {P : Out → SH → Prop} {xs0 : Int32} (hp : P (.inl (some (.int (xs0)))) (h)) : Gd X mX4_reckon 137 [none, none, none, none, none, none, none] [.int xs0] h nc ns P := by
  exact g_ireturn (st := []) dX4_reckon_137 rfl rfl hp
theorem bkX4_join_0 {X : GX} {h : SH} {nc ns : Nat} {P : Out → SH → Prop} {x0 : Int32} {x1 : Int32} {x2 : Int32} (k0 : x0 = 3 → Gd X mX4_join 28 [none, some (.int x1), some (.int x2)] [] (h) nc ns P) (k1 : x0 = 4 → Gd X mX4_join 32 [none, some (.int x1), some (.int x2)] [] (h) nc ns P) (k2 : x0 = 5 → Gd X mX4_join 36 [none, some (.int x1), some (.int x2)] [] (h) nc ns P) (kd : ¬ x0 = 3 → ¬ x0 = 4 → ¬ x0 = 5 → Gd X mX4_join 47 [none, some (.int x1), some (.int x2)] [] (h) nc ns P) : Gd X mX4_join 0 [some (.int x0), some (.int x1), some (.int x2)] [] h nc ns P := by
  refine g_iload_n dX4_join_0 rfl ?_
  generalize x0 = xx at *
  by_cases q0 : xx = 3
  · subst q0; exact g_tswI (off := 27) (tgt := 28) dX4_join_1 (by decide) (by decide) (by decide) (by decide) (Gd.wk (k0 rfl) ⟨rfl, ⟨rfl, trivial⟩⟩)
  by_cases q1 : xx = 4
  · subst q1; exact g_tswI (off := 31) (tgt := 32) dX4_join_1 (by decide) (by decide) (by decide) (by decide) (Gd.wk (k1 rfl) ⟨rfl, ⟨rfl, trivial⟩⟩)
  by_cases q2 : xx = 5
  · subst q2; exact g_tswI (off := 35) (tgt := 36) dX4_join_1 (by decide) (by decide) (by decide) (by decide) (Gd.wk (k2 rfl) ⟨rfl, ⟨rfl, trivial⟩⟩)
  have t0 : ¬ xx.toInt = 3 := fun z => q0 (Int32.toInt_inj.mp (z.trans (by decide)))
  have t1 : ¬ xx.toInt = 4 := fun z => q1 (Int32.toInt_inj.mp (z.trans (by decide)))
  have t2 : ¬ xx.toInt = 5 := fun z => q2 (Int32.toInt_inj.mp (z.trans (by decide)))
  exact g_tswO (tgt := 47) dX4_join_1 (by omega) (by decide) (Gd.wk (kd q0 q1 q2) ⟨rfl, ⟨rfl, trivial⟩⟩)
theorem bkX4_join_28 {X : GX} {h : SH} {nc ns : Nat} {P : Out → SH → Prop} {x1 : Int32} {x2 : Int32} (hp : P (.inl (some (.int (x1 + x2)))) (h)) : Gd X mX4_join 28 [none, some (.int x1), some (.int x2)] [] h nc ns P := by
  refine g_iload_n dX4_join_28 rfl ?_
  refine g_iload_n dX4_join_29 rfl ?_
  refine g_iadd dX4_join_30 ?_
  exact g_ireturn (st := []) dX4_join_31 rfl rfl hp
theorem bkX4_join_32 {X : GX} {h : SH} {nc ns : Nat} {P : Out → SH → Prop} {x1 : Int32} {x2 : Int32} (hp : P (.inl (some (.int (x1 - x2)))) (h)) : Gd X mX4_join 32 [none, some (.int x1), some (.int x2)] [] h nc ns P := by
  refine g_iload_n dX4_join_32 rfl ?_
  refine g_iload_n dX4_join_33 rfl ?_
  refine g_isub dX4_join_34 ?_
  exact g_ireturn (st := []) dX4_join_35 rfl rfl hp
theorem bkX4_join_36 {X : GX} {h : SH} {nc ns : Nat} {P : Out → SH → Prop} {x1 : Int32} {x2 : Int32} (kt : x2 ≤ x1 → Gd X mX4_join 45 [none, none, none] [] (h) nc ns P) (kf : ¬ x2 ≤ x1 → Gd X mX4_join 41 [none, none, none] [] (h) nc ns P) : Gd X mX4_join 36 [none, some (.int x1), some (.int x2)] [] h nc ns P := by
  refine g_iload_n dX4_join_36 rfl ?_
  refine g_iload_n dX4_join_37 rfl ?_
  exact g_icmp_ge (tgt := 45) dX4_join_38 (by decide) (fun q => Gd.wk (kt q) trivial) (fun q => Gd.wk (kf q) trivial)
theorem bkX4_join_41 {X : GX} {h : SH} {nc ns : Nat} {P : Out → SH → Prop} (g : Gd X mX4_join 46 [none, none, none] [.int 1] (h) nc ns P) : Gd X mX4_join 41 [none, none, none] [] h nc ns P := by
  refine g_iconst (v := 1) dX4_join_41 (by decide) ?_
  refine g_goto (tgt := 46) dX4_join_42 (by decide) ?_
  exact Gd.wk g trivial
theorem bkX4_join_45 {X : GX} {h : SH} {nc ns : Nat} {P : Out → SH → Prop} (g : Gd X mX4_join 46 [none, none, none] [.int 0] (h) nc ns P) : Gd X mX4_join 45 [none, none, none] [] h nc ns P := by
  refine g_iconst (v := 0) dX4_join_45 (by decide) ?_
  exact Gd.wk g trivial
theorem bkX4_join_46 {X : GX} {h : SH} {nc ns : Nat} {P : Out → SH → Prop} {xs0 : Int32} (hp : P (.inl (some (.int (xs0)))) (h)) : Gd X mX4_join 46 [none, none, none] [.int xs0] h nc ns P := by
  exact g_ireturn (st := []) dX4_join_46 rfl rfl hp
theorem bkX4_join_47 {X : GX} {h : SH} {nc ns : Nat} {P : Out → SH → Prop} {x1 : Int32} {x2 : Int32} (kt : ¬ x1 = x2 → Gd X mX4_join 56 [none, none, none] [] (h) nc ns P) (kf : x1 = x2 → Gd X mX4_join 52 [none, none, none] [] (h) nc ns P) : Gd X mX4_join 47 [none, some (.int x1), some (.int x2)] [] h nc ns P := by
  refine g_iload_n dX4_join_47 rfl ?_
  refine g_iload_n dX4_join_48 rfl ?_
  exact g_icmp_ne (tgt := 56) dX4_join_49 (by decide) (fun q => Gd.wk (kt q) trivial) (fun q => Gd.wk (kf q) trivial)
theorem bkX4_join_52 {X : GX} {h : SH} {nc ns : Nat} {P : Out → SH → Prop} (g : Gd X mX4_join 57 [none, none, none] [.int 1] (h) nc ns P) : Gd X mX4_join 52 [none, none, none] [] h nc ns P := by
  refine g_iconst (v := 1) dX4_join_52 (by decide) ?_
  refine g_goto (tgt := 57) dX4_join_53 (by decide) ?_
  exact Gd.wk g trivial
theorem bkX4_join_56 {X : GX} {h : SH} {nc ns : Nat} {P : Out → SH → Prop} (g : Gd X mX4_join 57 [none, none, none] [.int 0] (h) nc ns P) : Gd X mX4_join 56 [none, none, none] [] h nc ns P := by
  refine g_iconst (v := 0) dX4_join_56 (by decide) ?_
  exact Gd.wk g trivial
theorem bkX4_join_57 {X : GX} {h : SH} {nc ns : Nat} {P : Out → SH → Prop} {xs0 : Int32} (hp : P (.inl (some (.int (xs0)))) (h)) : Gd X mX4_join 57 [none, none, none] [.int xs0] h nc ns P := by
  exact g_ireturn (st := []) dX4_join_57 rfl rfl hp
theorem bkX5_init_0 {X : GX} {h : SH} {nc ns : Nat} {P : Out → SH → Prop} {a0 : Nat} {x1 : Int32} {y2 : Int64} {x4 : Int32} {r5 : Option Nat} (g : Gd X mX5_init 4 [some (.ref a0), some (.int x1), some (.long y2), none, some (.int x4), some (va_rf r5)] [] (h) nc ns P) : Gd X mX5_init 0 [some (.ref a0), some (.int x1), some (.long y2), none, some (.int x4), some (va_rf r5)] [] h nc ns P := by
  refine g_aload_n dX5_init_0 rfl ?_
  refine g_objInit dX5_init_1 kw_856 kw_124 kw_125 (by decide) (Nat.le_of_ble_eq_true rfl) ?_
  exact Gd.wk g ⟨rfl, ⟨rfl, ⟨rfl, ⟨rfl, ⟨rfl, trivial⟩⟩⟩⟩⟩
theorem bkX5_init_4 {X : GX} {h : SH} {nc ns : Nat} {P : Out → SH → Prop} {a0 : Nat} {x1 : Int32} {y2 : Int64} {x4 : Int32} {r5 : Option Nat} (O0 : Ob h a0 5) (g : Gd X mX5_init 26 [none, none, none, none, none, none] [] (sA (sI (sJ (sI h a0 0 x1) a0 1 y2) a0 2 x4) a0 3 (r5)) nc ns P) : Gd X mX5_init 4 [some (.ref a0), some (.int x1), some (.long y2), none, some (.int x4), some (va_rf r5)] [] h nc ns P := by
  refine g_aload_n dX5_init_4 rfl ?_
  refine g_iload_n dX5_init_5 rfl ?_
  refine g_putF (c := 5) (k := 0) (h1 := sI h a0 0 x1) dX5_init_6 (by decide) (by decide) kw_857 rfl rfl rfl O0 rfl rfl (Put.I rfl) ?_
  refine g_aload_n dX5_init_9 rfl ?_
  refine g_lload_n dX5_init_10 rfl ?_
  refine g_putF (c := 5) (k := 1) (h1 := sJ (sI h a0 0 x1) a0 1 y2) dX5_init_11 (by decide) (by decide) kw_859 rfl rfl rfl O0 rfl rfl (Put.J rfl) ?_
  refine g_aload_n dX5_init_14 rfl ?_
  refine g_iload dX5_init_15 rfl ?_
  refine g_putF (c := 5) (k := 2) (h1 := sI (sJ (sI h a0 0 x1) a0 1 y2) a0 2 x4) dX5_init_17 (by decide) (by decide) kw_861 rfl rfl rfl O0 rfl rfl (Put.I rfl) ?_
  refine g_aload_n dX5_init_20 rfl ?_
  refine g_aloadq (r := (r5)) dX5_init_21 rfl ?_
  refine g_putF (c := 5) (k := 3) (v := va_rf (r5)) (h1 := sA (sI (sJ (sI h a0 0 x1) a0 1 y2) a0 2 x4) a0 3 (r5)) dX5_init_23 (by decide) (by decide) kw_863 rfl rfl rfl O0 (rf_n rfl) (rf_f rfl) (Put.A rfl) ?_
  exact Gd.wk g trivial
theorem bkX5_init_26 {X : GX} {h : SH} {nc ns : Nat} {P : Out → SH → Prop} (hp : P (.inl (none)) (h)) : Gd X mX5_init 26 [none, none, none, none, none, none] [] h nc ns P := by
  exact g_return (st := []) dX5_init_26 rfl hp
