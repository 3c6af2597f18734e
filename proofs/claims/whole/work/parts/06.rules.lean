theorem Act.x {X : GX} {M : MI} {p : Program} {R : Room} {s : State} {m : MethodId} {meth : Method} {c : Code} (A : Act X M p R s m meth c) : p.tables.exec = Jvm.exec := A.2.1.1
theorem Act.b {X : GX} {M : MI} {p : Program} {R : Room} {s : State} {m : MethodId} {meth : Method} {c : Code} (A : Act X M p R s m meth c) : c.code = M.2.1 := A.2.1.2.1
theorem Act.rt {X : GX} {M : MI} {p : Program} {R : Room} {s : State} {m : MethodId} {meth : Method} {c : Code} (A : Act X M p R s m meth c) : meth.sig.returnType = M.2.2.2.1 := A.2.1.2.2.1
theorem Act.ml {X : GX} {M : MI} {p : Program} {R : Room} {s : State} {m : MethodId} {meth : Method} {c : Code} (A : Act X M p R s m meth c) : c.maxLocals = M.2.2.1 := A.2.1.2.2.2.1
theorem Act.own {X : GX} {M : MI} {p : Program} {R : Room} {s : State} {m : MethodId} {meth : Method} {c : Code} (A : Act X M p R s m meth c) : s.vm.findClass M.1.cls = some m.cls := A.2.1.2.2.2.2.1
theorem Act.lk {X : GX} {M : MI} {p : Program} {R : Room} {s : State} {m : MethodId} {meth : Method} {c : Code} (A : Act X M p R s m meth c) : meth.locks = false := A.2.1.2.2.2.2.2.1
theorem Act.nm {X : GX} {M : MI} {p : Program} {R : Room} {s : State} {m : MethodId} {meth : Method} {c : Code} (A : Act X M p R s m meth c) : meth.name = M.1.name := A.2.1.2.2.2.2.2.2.1
theorem Act.tb {X : GX} {M : MI} {p : Program} {R : Room} {s : State} {m : MethodId} {meth : Method} {c : Code} (A : Act X M p R s m meth c) : c.exceptionTable.toList = tableOf M.2.2.2.2.2 := A.2.1.2.2.2.2.2.2.2
theorem Act.w {X : GX} {M : MI} {p : Program} {R : Room} {s : State} {m : MethodId} {meth : Method} {c : Code} (A : Act X M p R s m meth c) : (xs0 X).WarmedH s.vm := A.2.2.1
theorem Act.k {X : GX} {M : MI} {p : Program} {R : Room} {s : State} {m : MethodId} {meth : Method} {c : Code} (A : Act X M p R s m meth c) : va_K (xD X) ctl (tysX X) s := A.1.2.1.moved A.2.2.1.alike
/-- a word of the tables that holds at every state of the run -/
def KW (w : Cond) : Prop := w ∈ lw_tbl ∧ goodWord w = true
theorem kw_of {w : Cond} (i : Nat) (h : (lw_tbl[i]? = some w) ∧ goodWord w = true) : KW w := ⟨List.mem_of_getElem? h.1, h.2⟩
theorem S0.word {X : GX} (h : S0 X) {w : Cond} (hw : KW w) {U : State} (hW : (xs0 X).WarmedH U.vm) (a : Array Value) : w.before a U = true := word_at hW (good_of_word hw.2) (h.1 w hw.1)
theorem Act.word {X : GX} {M : MI} {p : Program} {R : Room} {s : State} {m : MethodId} {meth : Method} {c : Code} (A : Act X M p R s m meth c) {w : Cond} (hw : KW w) (a : Array Value) : w.before a s = true := A.1.word hw A.w a
theorem Act.wordU {X : GX} {M : MI} {p : Program} {R : Room} {s : State} {m : MethodId} {meth : Method} {c : Code} (A : Act X M p R s m meth c) {w : Cond} (hw : KW w) (a : Array Value) (U : State) (hU : s.WarmedH U.vm) : w.before a U = true := A.1.word hw (State.WarmedH.trans A.w hU) a
theorem mv_rf (X : GX) (r : Option Nat) : mv X (va_rf r) = va_rf (r.map (ph X)) := by cases r <;> rfl
theorem mv_cat (X : GX) (v : Value) : (mv X v).category = v.category := by cases v <;> rfl
theorem g_iconst {X : GX} {M : MI} {pc : Nat} {L : List (Option Value)} {st : List Value} {h : SH} {nc ns : Nat} {P : Out → SH → Prop} {n : Int} {v : Int32} (hd : decode M.2.1 pc = .ok (.iconst n, 1)) (hv : Int32.ofInt n = v) (g : Gd X M (pc + 1) L (.int v :: st) h nc ns P) : Gd X M (pc) L (st) h nc ns P :=
  Gd.go (fun p e R s m args below meth c A H locs cells slots ls Q hl hV k => lv_iconst A.x A.b hd hv k) g
theorem g_bipush {X : GX} {M : MI} {pc : Nat} {L : List (Option Value)} {st : List Value} {h : SH} {nc ns : Nat} {P : Out → SH → Prop} {n : Int} {v : Int32} (hd : decode M.2.1 pc = .ok (.bipush n, 2)) (hv : (Int8.ofInt n).toInt32 = v) (g : Gd X M (pc + 2) L (.int v :: st) h nc ns P) : Gd X M (pc) L (st) h nc ns P :=
  Gd.go (fun p e R s m args below meth c A H locs cells slots ls Q hl hV k => lv_bipush A.x A.b hd hv k) g
theorem g_sipush {X : GX} {M : MI} {pc : Nat} {L : List (Option Value)} {st : List Value} {h : SH} {nc ns : Nat} {P : Out → SH → Prop} {n : Int} {v : Int32} (hd : decode M.2.1 pc = .ok (.sipush n, 3)) (hv : (Int16.ofInt n).toInt32 = v) (g : Gd X M (pc + 3) L (.int v :: st) h nc ns P) : Gd X M (pc) L (st) h nc ns P :=
  Gd.go (fun p e R s m args below meth c A H locs cells slots ls Q hl hV k => lv_sipush A.x A.b hd hv k) g
theorem g_lconst {X : GX} {M : MI} {pc : Nat} {L : List (Option Value)} {st : List Value} {h : SH} {nc ns : Nat} {P : Out → SH → Prop} {n : Fin 2} {v : Int64} (hd : decode M.2.1 pc = .ok (.lconst n, 1)) (hv : Int64.ofNat (n : Nat) = v) (g : Gd X M (pc + 1) L (.long v :: st) h nc ns P) : Gd X M (pc) L (st) h nc ns P :=
  Gd.go (fun p e R s m args below meth c A H locs cells slots ls Q hl hV k => lv_lconst A.x A.b hd hv k) g
theorem g_null {X : GX} {M : MI} {pc : Nat} {L : List (Option Value)} {st : List Value} {h : SH} {nc ns : Nat} {P : Out → SH → Prop}  (hd : decode M.2.1 pc = .ok (.aconst_null, 1)) (g : Gd X M (pc + 1) L (.null :: st) h nc ns P) : Gd X M (pc) L (st) h nc ns P :=
  Gd.go (fun p e R s m args below meth c A H locs cells slots ls Q hl hV k => lv_null A.x A.b hd k) g
theorem g_ldc {X : GX} {M : MI} {pc : Nat} {L : List (Option Value)} {st : List Value} {h : SH} {nc ns : Nat} {P : Out → SH → Prop} {idx : Nat} {v : Int32} (hd : decode M.2.1 pc = .ok (.ldc idx, 2)) (hw : KW (Cond.constant M.1.cls idx v)) (g : Gd X M (pc + 2) L (.int v :: st) h nc ns P) : Gd X M (pc) L (st) h nc ns P :=
  Gd.go (fun p e R s m args below meth c A H locs cells slots ls Q hl hV k => lv_ldc A.x A.b A.own (A.word hw _) hd k) g
theorem g_ldc2 {X : GX} {M : MI} {pc : Nat} {L : List (Option Value)} {st : List Value} {h : SH} {nc ns : Nat} {P : Out → SH → Prop} {idx : Nat} {v : Int64} (hd : decode M.2.1 pc = .ok (.ldc2_w idx, 3)) (hw : KW (Cond.constantLong M.1.cls idx v)) (g : Gd X M (pc + 3) L (.long v :: st) h nc ns P) : Gd X M (pc) L (st) h nc ns P :=
  Gd.go (fun p e R s m args below meth c A H locs cells slots ls Q hl hV k => lv_ldc2 A.x A.b A.own (A.word hw _) hd k) g
theorem g_iload {X : GX} {M : MI} {pc : Nat} {L : List (Option Value)} {st : List Value} {h : SH} {nc ns : Nat} {P : Out → SH → Prop} {i : Nat} {x : Int32} (hd : decode M.2.1 pc = .ok (.iload i, 2)) (hi : L[i]? = some (some (.int x))) (g : Gd X M (pc + 2) L (.int x :: st) h nc ns P) : Gd X M (pc) L (st) h nc ns P :=
  Gd.go (fun p e R s m args below meth c A H locs cells slots ls Q hl hV k => lv_iload A.x A.b hd (lvl_at hl hi) k) g
theorem g_iload_n {X : GX} {M : MI} {pc : Nat} {L : List (Option Value)} {st : List Value} {h : SH} {nc ns : Nat} {P : Out → SH → Prop} {j : Fin 4} {x : Int32} (hd : decode M.2.1 pc = .ok (.iload_n j, 1)) (hi : L[(j : Nat)]? = some (some (.int x))) (g : Gd X M (pc + 1) L (.int x :: st) h nc ns P) : Gd X M (pc) L (st) h nc ns P :=
  Gd.go (fun p e R s m args below meth c A H locs cells slots ls Q hl hV k => lv_iload_n A.x A.b hd rfl (lvl_at hl hi) k) g
theorem g_lload {X : GX} {M : MI} {pc : Nat} {L : List (Option Value)} {st : List Value} {h : SH} {nc ns : Nat} {P : Out → SH → Prop} {i : Nat} {x : Int64} (hd : decode M.2.1 pc = .ok (.lload i, 2)) (hi : L[i]? = some (some (.long x))) (g : Gd X M (pc + 2) L (.long x :: st) h nc ns P) : Gd X M (pc) L (st) h nc ns P :=
  Gd.go (fun p e R s m args below meth c A H locs cells slots ls Q hl hV k => lv_lload A.x A.b hd (lvl_at hl hi) k) g
theorem g_lload_n {X : GX} {M : MI} {pc : Nat} {L : List (Option Value)} {st : List Value} {h : SH} {nc ns : Nat} {P : Out → SH → Prop} {j : Fin 4} {x : Int64} (hd : decode M.2.1 pc = .ok (.lload_n j, 1)) (hi : L[(j : Nat)]? = some (some (.long x))) (g : Gd X M (pc + 1) L (.long x :: st) h nc ns P) : Gd X M (pc) L (st) h nc ns P :=
  Gd.go (fun p e R s m args below meth c A H locs cells slots ls Q hl hV k => lv_lload_n A.x A.b hd rfl (lvl_at hl hi) k) g
theorem g_aload {X : GX} {M : MI} {pc : Nat} {L : List (Option Value)} {st : List Value} {h : SH} {nc ns : Nat} {P : Out → SH → Prop} {i a : Nat} (hd : decode M.2.1 pc = .ok (.aload i, 2)) (hi : L[i]? = some (some (.ref a))) (g : Gd X M (pc + 2) L (.ref a :: st) h nc ns P) : Gd X M (pc) L (st) h nc ns P :=
  Gd.go (fun p e R s m args below meth c A H locs cells slots ls Q hl hV k => lv_aload A.x A.b hd (lvl_at hl hi) k) g
theorem g_aload_n {X : GX} {M : MI} {pc : Nat} {L : List (Option Value)} {st : List Value} {h : SH} {nc ns : Nat} {P : Out → SH → Prop} {j : Fin 4} {a : Nat} (hd : decode M.2.1 pc = .ok (.aload_n j, 1)) (hi : L[(j : Nat)]? = some (some (.ref a))) (g : Gd X M (pc + 1) L (.ref a :: st) h nc ns P) : Gd X M (pc) L (st) h nc ns P :=
  Gd.go (fun p e R s m args below meth c A H locs cells slots ls Q hl hV k => lv_aload_n A.x A.b hd rfl (lvl_at hl hi) k) g
theorem g_aloadq {X : GX} {M : MI} {pc : Nat} {L : List (Option Value)} {st : List Value} {h : SH} {nc ns : Nat} {P : Out → SH → Prop} {i : Nat} {r : Option Nat} (hd : decode M.2.1 pc = .ok (.aload i, 2)) (hi : L[i]? = some (some (va_rf r))) (g : Gd X M (pc + 2) L (va_rf r :: st) h nc ns P) : Gd X M (pc) L (st) h nc ns P := by
  cases r with
  | none => exact Gd.go (fun p e R s m args below meth c A H locs cells slots ls Q hl hV k => lv_aloadN A.x A.b hd (lvl_at (v := .null) hl hi) k) g
  | some a => exact g_aload hd hi g
theorem g_aload_nq {X : GX} {M : MI} {pc : Nat} {L : List (Option Value)} {st : List Value} {h : SH} {nc ns : Nat} {P : Out → SH → Prop} {j : Fin 4} {r : Option Nat} (hd : decode M.2.1 pc = .ok (.aload_n j, 1)) (hi : L[(j : Nat)]? = some (some (va_rf r))) (g : Gd X M (pc + 1) L (va_rf r :: st) h nc ns P) : Gd X M (pc) L (st) h nc ns P := by
  cases r with
  | none => exact Gd.go (fun p e R s m args below meth c A H locs cells slots ls Q hl hV k => lv_aload_nN A.x A.b hd rfl (lvl_at (v := .null) hl hi) k) g
  | some a => exact g_aload_n hd hi g
theorem g_iadd {X : GX} {M : MI} {pc : Nat} {L : List (Option Value)} {st : List Value} {h : SH} {nc ns : Nat} {P : Out → SH → Prop} {x y : Int32} (hd : decode M.2.1 pc = .ok (.iadd, 1)) (g : Gd X M (pc + 1) L (.int (x + y) :: st) h nc ns P) : Gd X M (pc) L (.int y :: .int x :: st) h nc ns P :=
  Gd.go (fun p e R s m args below meth c A H locs cells slots ls Q hl hV k => lv_iadd A.x A.b hd k) g
theorem g_isub {X : GX} {M : MI} {pc : Nat} {L : List (Option Value)} {st : List Value} {h : SH} {nc ns : Nat} {P : Out → SH → Prop} {x y : Int32} (hd : decode M.2.1 pc = .ok (.isub, 1)) (g : Gd X M (pc + 1) L (.int (x - y) :: st) h nc ns P) : Gd X M (pc) L (.int y :: .int x :: st) h nc ns P :=
  Gd.go (fun p e R s m args below meth c A H locs cells slots ls Q hl hV k => lv_isub A.x A.b hd k) g
theorem g_imul {X : GX} {M : MI} {pc : Nat} {L : List (Option Value)} {st : List Value} {h : SH} {nc ns : Nat} {P : Out → SH → Prop} {x y : Int32} (hd : decode M.2.1 pc = .ok (.imul, 1)) (g : Gd X M (pc + 1) L (.int (x * y) :: st) h nc ns P) : Gd X M (pc) L (.int y :: .int x :: st) h nc ns P :=
  Gd.go (fun p e R s m args below meth c A H locs cells slots ls Q hl hV k => lv_imul A.x A.b hd k) g
theorem g_iand {X : GX} {M : MI} {pc : Nat} {L : List (Option Value)} {st : List Value} {h : SH} {nc ns : Nat} {P : Out → SH → Prop} {x y : Int32} (hd : decode M.2.1 pc = .ok (.iand, 1)) (g : Gd X M (pc + 1) L (.int (x &&& y) :: st) h nc ns P) : Gd X M (pc) L (.int y :: .int x :: st) h nc ns P :=
  Gd.go (fun p e R s m args below meth c A H locs cells slots ls Q hl hV k => lv_iand A.x A.b hd k) g
theorem g_ishr {X : GX} {M : MI} {pc : Nat} {L : List (Option Value)} {st : List Value} {h : SH} {nc ns : Nat} {P : Out → SH → Prop} {x y : Int32} (hd : decode M.2.1 pc = .ok (.ishr, 1)) (g : Gd X M (pc + 1) L (.int (x >>> (y &&& 31)) :: st) h nc ns P) : Gd X M (pc) L (.int y :: .int x :: st) h nc ns P :=
  Gd.go (fun p e R s m args below meth c A H locs cells slots ls Q hl hV k => lv_ishr A.x A.b hd k) g
theorem g_idiv {X : GX} {M : MI} {pc : Nat} {L : List (Option Value)} {st : List Value} {h : SH} {nc ns : Nat} {P : Out → SH → Prop} {x y : Int32} (hd : decode M.2.1 pc = .ok (.idiv, 1)) (hne : ¬ y = 0) (g : Gd X M (pc + 1) L (.int (x / y) :: st) h nc ns P) : Gd X M (pc) L (.int y :: .int x :: st) h nc ns P :=
  Gd.go (fun p e R s m args below meth c A H locs cells slots ls Q hl hV k => lv_idiv A.x A.b hd hne k) g
theorem g_irem {X : GX} {M : MI} {pc : Nat} {L : List (Option Value)} {st : List Value} {h : SH} {nc ns : Nat} {P : Out → SH → Prop} {x y : Int32} (hd : decode M.2.1 pc = .ok (.irem, 1)) (hne : ¬ y = 0) (g : Gd X M (pc + 1) L (.int (x - x / y * y) :: st) h nc ns P) : Gd X M (pc) L (.int y :: .int x :: st) h nc ns P :=
  Gd.go (fun p e R s m args below meth c A H locs cells slots ls Q hl hV k => lv_irem A.x A.b hd hne k) g
theorem g_ineg {X : GX} {M : MI} {pc : Nat} {L : List (Option Value)} {st : List Value} {h : SH} {nc ns : Nat} {P : Out → SH → Prop} {x : Int32} (hd : decode M.2.1 pc = .ok (.ineg, 1)) (g : Gd X M (pc + 1) L (.int (-x) :: st) h nc ns P) : Gd X M (pc) L (.int x :: st) h nc ns P :=
  Gd.go (fun p e R s m args below meth c A H locs cells slots ls Q hl hV k => lv_ineg A.x A.b hd k) g
theorem g_iushr {X : GX} {M : MI} {pc : Nat} {L : List (Option Value)} {st : List Value} {h : SH} {nc ns : Nat} {P : Out → SH → Prop} {x y : Int32} (hd : decode M.2.1 pc = .ok (.iushr, 1)) (g : Gd X M (pc + 1) L (.int ((x.toUInt32 >>> (y.toUInt32 &&& Int32.toUInt32 31)).toInt32) :: st) h nc ns P) : Gd X M (pc) L (.int y :: .int x :: st) h nc ns P :=
  Gd.go (fun p e R s m args below meth c A H locs cells slots ls Q hl hV k => lv_iushr A.x A.b hd rfl k) g
theorem g_ladd {X : GX} {M : MI} {pc : Nat} {L : List (Option Value)} {st : List Value} {h : SH} {nc ns : Nat} {P : Out → SH → Prop} {x y : Int64} (hd : decode M.2.1 pc = .ok (.ladd, 1)) (g : Gd X M (pc + 1) L (.long (x + y) :: st) h nc ns P) : Gd X M (pc) L (.long y :: .long x :: st) h nc ns P :=
  Gd.go (fun p e R s m args below meth c A H locs cells slots ls Q hl hV k => lv_ladd A.x A.b hd k) g
theorem g_lsub {X : GX} {M : MI} {pc : Nat} {L : List (Option Value)} {st : List Value} {h : SH} {nc ns : Nat} {P : Out → SH → Prop} {x y : Int64} (hd : decode M.2.1 pc = .ok (.lsub, 1)) (g : Gd X M (pc + 1) L (.long (x - y) :: st) h nc ns P) : Gd X M (pc) L (.long y :: .long x :: st) h nc ns P :=
  Gd.go (fun p e R s m args below meth c A H locs cells slots ls Q hl hV k => lv_lsub A.x A.b hd k) g
theorem g_lmul {X : GX} {M : MI} {pc : Nat} {L : List (Option Value)} {st : List Value} {h : SH} {nc ns : Nat} {P : Out → SH → Prop} {x y : Int64} (hd : decode M.2.1 pc = .ok (.lmul, 1)) (g : Gd X M (pc + 1) L (.long (x * y) :: st) h nc ns P) : Gd X M (pc) L (.long y :: .long x :: st) h nc ns P :=
  Gd.go (fun p e R s m args below meth c A H locs cells slots ls Q hl hV k => lv_lmul A.x A.b hd k) g
theorem g_land {X : GX} {M : MI} {pc : Nat} {L : List (Option Value)} {st : List Value} {h : SH} {nc ns : Nat} {P : Out → SH → Prop} {x y : Int64} (hd : decode M.2.1 pc = .ok (.land, 1)) (g : Gd X M (pc + 1) L (.long (x &&& y) :: st) h nc ns P) : Gd X M (pc) L (.long y :: .long x :: st) h nc ns P :=
  Gd.go (fun p e R s m args below meth c A H locs cells slots ls Q hl hV k => lv_land A.x A.b hd k) g
theorem g_lor {X : GX} {M : MI} {pc : Nat} {L : List (Option Value)} {st : List Value} {h : SH} {nc ns : Nat} {P : Out → SH → Prop} {x y : Int64} (hd : decode M.2.1 pc = .ok (.lor, 1)) (g : Gd X M (pc + 1) L (.long (x ||| y) :: st) h nc ns P) : Gd X M (pc) L (.long y :: .long x :: st) h nc ns P :=
  Gd.go (fun p e R s m args below meth c A H locs cells slots ls Q hl hV k => lv_lor A.x A.b hd k) g
theorem g_ldiv {X : GX} {M : MI} {pc : Nat} {L : List (Option Value)} {st : List Value} {h : SH} {nc ns : Nat} {P : Out → SH → Prop} {x y : Int64} (hd : decode M.2.1 pc = .ok (.ldiv, 1)) (hne : ¬ y = 0) (g : Gd X M (pc + 1) L (.long (x / y) :: st) h nc ns P) : Gd X M (pc) L (.long y :: .long x :: st) h nc ns P :=
  Gd.go (fun p e R s m args below meth c A H locs cells slots ls Q hl hV k => lv_ldiv A.x A.b hd hne k) g
theorem g_lrem {X : GX} {M : MI} {pc : Nat} {L : List (Option Value)} {st : List Value} {h : SH} {nc ns : Nat} {P : Out → SH → Prop} {x y : Int64} (hd : decode M.2.1 pc = .ok (.lrem, 1)) (hne : ¬ y = 0) (g : Gd X M (pc + 1) L (.long (x - x / y * y) :: st) h nc ns P) : Gd X M (pc) L (.long y :: .long x :: st) h nc ns P :=
  Gd.go (fun p e R s m args below meth c A H locs cells slots ls Q hl hV k => lv_lrem A.x A.b hd hne k) g
theorem g_lneg {X : GX} {M : MI} {pc : Nat} {L : List (Option Value)} {st : List Value} {h : SH} {nc ns : Nat} {P : Out → SH → Prop} {x : Int64} (hd : decode M.2.1 pc = .ok (.lneg, 1)) (g : Gd X M (pc + 1) L (.long (-x) :: st) h nc ns P) : Gd X M (pc) L (.long x :: st) h nc ns P :=
  Gd.go (fun p e R s m args below meth c A H locs cells slots ls Q hl hV k => lv_lneg A.x A.b hd k) g
theorem g_lshl {X : GX} {M : MI} {pc : Nat} {L : List (Option Value)} {st : List Value} {h : SH} {nc ns : Nat} {P : Out → SH → Prop} {x : Int64} {y : Int32} (hd : decode M.2.1 pc = .ok (.lshl, 1)) (g : Gd X M (pc + 1) L (.long (x <<< (y.toInt64 &&& 63)) :: st) h nc ns P) : Gd X M (pc) L (.int y :: .long x :: st) h nc ns P :=
  Gd.go (fun p e R s m args below meth c A H locs cells slots ls Q hl hV k => lv_lshl A.x A.b hd rfl k) g
theorem g_lshr {X : GX} {M : MI} {pc : Nat} {L : List (Option Value)} {st : List Value} {h : SH} {nc ns : Nat} {P : Out → SH → Prop} {x : Int64} {y : Int32} (hd : decode M.2.1 pc = .ok (.lshr, 1)) (g : Gd X M (pc + 1) L (.long (x >>> (y.toInt64 &&& 63)) :: st) h nc ns P) : Gd X M (pc) L (.int y :: .long x :: st) h nc ns P :=
  Gd.go (fun p e R s m args below meth c A H locs cells slots ls Q hl hV k => lv_lshr A.x A.b hd rfl k) g
theorem g_lushr {X : GX} {M : MI} {pc : Nat} {L : List (Option Value)} {st : List Value} {h : SH} {nc ns : Nat} {P : Out → SH → Prop} {x : Int64} {y : Int32} (hd : decode M.2.1 pc = .ok (.lushr, 1)) (g : Gd X M (pc + 1) L (.long ((x.toUInt64 >>> (y.toInt64.toUInt64 &&& Int64.toUInt64 63)).toInt64) :: st) h nc ns P) : Gd X M (pc) L (.int y :: .long x :: st) h nc ns P :=
  Gd.go (fun p e R s m args below meth c A H locs cells slots ls Q hl hV k => lv_lushr A.x A.b hd rfl k) g
theorem g_i2l {X : GX} {M : MI} {pc : Nat} {L : List (Option Value)} {st : List Value} {h : SH} {nc ns : Nat} {P : Out → SH → Prop} {x : Int32} (hd : decode M.2.1 pc = .ok (.i2l, 1)) (g : Gd X M (pc + 1) L (.long x.toInt64 :: st) h nc ns P) : Gd X M (pc) L (.int x :: st) h nc ns P :=
  Gd.go (fun p e R s m args below meth c A H locs cells slots ls Q hl hV k => lv_i2l A.x A.b hd rfl k) g
theorem g_l2i {X : GX} {M : MI} {pc : Nat} {L : List (Option Value)} {st : List Value} {h : SH} {nc ns : Nat} {P : Out → SH → Prop} {x : Int64} (hd : decode M.2.1 pc = .ok (.l2i, 1)) (g : Gd X M (pc + 1) L (.int x.toInt32 :: st) h nc ns P) : Gd X M (pc) L (.long x :: st) h nc ns P :=
  Gd.go (fun p e R s m args below meth c A H locs cells slots ls Q hl hV k => lv_l2i A.x A.b hd rfl k) g
theorem g_i2b {X : GX} {M : MI} {pc : Nat} {L : List (Option Value)} {st : List Value} {h : SH} {nc ns : Nat} {P : Out → SH → Prop} {x : Int32} (hd : decode M.2.1 pc = .ok (.i2b, 1)) (g : Gd X M (pc + 1) L (.int x.toInt8.toInt32 :: st) h nc ns P) : Gd X M (pc) L (.int x :: st) h nc ns P :=
  Gd.go (fun p e R s m args below meth c A H locs cells slots ls Q hl hV k => lv_i2b A.x A.b hd rfl k) g
theorem g_i2c {X : GX} {M : MI} {pc : Nat} {L : List (Option Value)} {st : List Value} {h : SH} {nc ns : Nat} {P : Out → SH → Prop} {x : Int32} (hd : decode M.2.1 pc = .ok (.i2c, 1)) (g : Gd X M (pc + 1) L (.int (x.toUInt32 % 65536).toInt32 :: st) h nc ns P) : Gd X M (pc) L (.int x :: st) h nc ns P :=
  Gd.go (fun p e R s m args below meth c A H locs cells slots ls Q hl hV k => lv_i2c A.x A.b hd rfl k) g
theorem g_lcmp {X : GX} {M : MI} {pc : Nat} {L : List (Option Value)} {st : List Value} {h : SH} {nc ns : Nat} {P : Out → SH → Prop} {x y : Int64} (hd : decode M.2.1 pc = .ok (.lcmp, 1)) (g : Gd X M (pc + 1) L (.int (lg_cmp x y) :: st) h nc ns P) : Gd X M (pc) L (.long y :: .long x :: st) h nc ns P :=
  Gd.go (fun p e R s m args below meth c A H locs cells slots ls Q hl hV k => W.lcmp A.x A.b hd k) g
theorem g_dup {X : GX} {M : MI} {pc : Nat} {L : List (Option Value)} {st : List Value} {h : SH} {nc ns : Nat} {P : Out → SH → Prop} {v : Value} (hd : decode M.2.1 pc = .ok (.dup, 1)) (hv : v.category = 1) (g : Gd X M (pc + 1) L (v :: v :: st) h nc ns P) : Gd X M (pc) L (v :: st) h nc ns P :=
  Gd.go (fun p e R s m args below meth c A H locs cells slots ls Q hl hV k => lv_dup A.x A.b hd ((mv_cat X v).trans hv) k) g
theorem g_dup2 {X : GX} {M : MI} {pc : Nat} {L : List (Option Value)} {st : List Value} {h : SH} {nc ns : Nat} {P : Out → SH → Prop} {v w : Value} (hd : decode M.2.1 pc = .ok (.dup2, 1)) (hv : v.category = 1) (hw : w.category = 1) (g : Gd X M (pc + 1) L (v :: w :: v :: w :: st) h nc ns P) : Gd X M (pc) L (v :: w :: st) h nc ns P :=
  Gd.go (fun p e R s m args below meth c A H locs cells slots ls Q hl hV k => lv_dup2_11 A.x A.b hd ((mv_cat X v).trans hv) ((mv_cat X w).trans hw) k) g
theorem g_dup2l {X : GX} {M : MI} {pc : Nat} {L : List (Option Value)} {st : List Value} {h : SH} {nc ns : Nat} {P : Out → SH → Prop} {v : Value} (hd : decode M.2.1 pc = .ok (.dup2, 1)) (hv : v.category = 2) (g : Gd X M (pc + 1) L (v :: v :: st) h nc ns P) : Gd X M (pc) L (v :: st) h nc ns P :=
  Gd.go (fun p e R s m args below meth c A H locs cells slots ls Q hl hV k => lv_dup2_2 A.x A.b hd ((mv_cat X v).trans hv) k) g
theorem g_goto {X : GX} {M : MI} {pc : Nat} {L : List (Option Value)} {st : List Value} {h : SH} {nc ns : Nat} {P : Out → SH → Prop} {off : Int} {tgt : Nat} (hd : decode M.2.1 pc = .ok (.goto off, 3)) (ht : (pc : Int) + off = (tgt : Int)) (g : Gd X M (tgt) L (st) h nc ns P) : Gd X M (pc) L (st) h nc ns P :=
  Gd.go (fun p e R s m args below meth c A H locs cells slots ls Q hl hV k => lv_goto A.x A.b hd ht k) g
theorem g_if_eq {X : GX} {M : MI} {pc : Nat} {L : List (Option Value)} {st : List Value} {h : SH} {nc ns : Nat} {P : Out → SH → Prop} {x : Int32} {off : Int} {tgt : Nat} (hd : decode M.2.1 pc = .ok (.ifCond .eq off, 3)) (ht : (pc : Int) + off = (tgt : Int)) (kt : (x = 0) → Gd X M (tgt) L (st) h nc ns P) (kf : ¬ (x = 0) → Gd X M (pc + 3) L (st) h nc ns P) : Gd X M (pc) L (.int x :: st) h nc ns P :=
  fun p e R s m args below meth c A H locs cells slots ls mc ms S => lv_if_eq A.x A.b hd ht (fun q => kt q p e R s m args below meth c A H locs cells slots ls mc ms S) (fun q => kf q p e R s m args below meth c A H locs cells slots ls mc ms S)
theorem g_icmp_eq {X : GX} {M : MI} {pc : Nat} {L : List (Option Value)} {st : List Value} {h : SH} {nc ns : Nat} {P : Out → SH → Prop} {x y : Int32} {off : Int} {tgt : Nat} (hd : decode M.2.1 pc = .ok (.if_icmp .eq off, 3)) (ht : (pc : Int) + off = (tgt : Int)) (kt : (x = y) → Gd X M (tgt) L (st) h nc ns P) (kf : ¬ (x = y) → Gd X M (pc + 3) L (st) h nc ns P) : Gd X M (pc) L (.int y :: .int x :: st) h nc ns P :=
  fun p e R s m args below meth c A H locs cells slots ls mc ms S => lv_icmp_eq A.x A.b hd ht (fun q => kt q p e R s m args below meth c A H locs cells slots ls mc ms S) (fun q => kf q p e R s m args below meth c A H locs cells slots ls mc ms S)
theorem g_if_ne {X : GX} {M : MI} {pc : Nat} {L : List (Option Value)} {st : List Value} {h : SH} {nc ns : Nat} {P : Out → SH → Prop} {x : Int32} {off : Int} {tgt : Nat} (hd : decode M.2.1 pc = .ok (.ifCond .ne off, 3)) (ht : (pc : Int) + off = (tgt : Int)) (kt : (¬ x = 0) → Gd X M (tgt) L (st) h nc ns P) (kf : (x = 0) → Gd X M (pc + 3) L (st) h nc ns P) : Gd X M (pc) L (.int x :: st) h nc ns P :=
  fun p e R s m args below meth c A H locs cells slots ls mc ms S => lv_if_ne A.x A.b hd ht (fun q => kt q p e R s m args below meth c A H locs cells slots ls mc ms S) (fun q => kf q p e R s m args below meth c A H locs cells slots ls mc ms S)
theorem g_icmp_ne {X : GX} {M : MI} {pc : Nat} {L : List (Option Value)} {st : List Value} {h : SH} {nc ns : Nat} {P : Out → SH → Prop} {x y : Int32} {off : Int} {tgt : Nat} (hd : decode M.2.1 pc = .ok (.if_icmp .ne off, 3)) (ht : (pc : Int) + off = (tgt : Int)) (kt : (¬ x = y) → Gd X M (tgt) L (st) h nc ns P) (kf : (x = y) → Gd X M (pc + 3) L (st) h nc ns P) : Gd X M (pc) L (.int y :: .int x :: st) h nc ns P :=
  fun p e R s m args below meth c A H locs cells slots ls mc ms S => lv_icmp_ne A.x A.b hd ht (fun q => kt q p e R s m args below meth c A H locs cells slots ls mc ms S) (fun q => kf q p e R s m args below meth c A H locs cells slots ls mc ms S)
theorem g_if_lt {X : GX} {M : MI} {pc : Nat} {L : List (Option Value)} {st : List Value} {h : SH} {nc ns : Nat} {P : Out → SH → Prop} {x : Int32} {off : Int} {tgt : Nat} (hd : decode M.2.1 pc = .ok (.ifCond .lt off, 3)) (ht : (pc : Int) + off = (tgt : Int)) (kt : (x < 0) → Gd X M (tgt) L (st) h nc ns P) (kf : ¬ (x < 0) → Gd X M (pc + 3) L (st) h nc ns P) : Gd X M (pc) L (.int x :: st) h nc ns P :=
  fun p e R s m args below meth c A H locs cells slots ls mc ms S => lv_if_lt A.x A.b hd ht (fun q => kt q p e R s m args below meth c A H locs cells slots ls mc ms S) (fun q => kf q p e R s m args below meth c A H locs cells slots ls mc ms S)
theorem g_icmp_lt {X : GX} {M : MI} {pc : Nat} {L : List (Option Value)} {st : List Value} {h : SH} {nc ns : Nat} {P : Out → SH → Prop} {x y : Int32} {off : Int} {tgt : Nat} (hd : decode M.2.1 pc = .ok (.if_icmp .lt off, 3)) (ht : (pc : Int) + off = (tgt : Int)) (kt : (x < y) → Gd X M (tgt) L (st) h nc ns P) (kf : ¬ (x < y) → Gd X M (pc + 3) L (st) h nc ns P) : Gd X M (pc) L (.int y :: .int x :: st) h nc ns P :=
  fun p e R s m args below meth c A H locs cells slots ls mc ms S => lv_icmp_lt A.x A.b hd ht (fun q => kt q p e R s m args below meth c A H locs cells slots ls mc ms S) (fun q => kf q p e R s m args below meth c A H locs cells slots ls mc ms S)
theorem g_if_ge {X : GX} {M : MI} {pc : Nat} {L : List (Option Value)} {st : List Value} {h : SH} {nc ns : Nat} {P : Out → SH → Prop} {x : Int32} {off : Int} {tgt : Nat} (hd : decode M.2.1 pc = .ok (.ifCond .ge off, 3)) (ht : (pc : Int) + off = (tgt : Int)) (kt : (0 ≤ x) → Gd X M (tgt) L (st) h nc ns P) (kf : ¬ (0 ≤ x) → Gd X M (pc + 3) L (st) h nc ns P) : Gd X M (pc) L (.int x :: st) h nc ns P :=
  fun p e R s m args below meth c A H locs cells slots ls mc ms S => lv_if_ge A.x A.b hd ht (fun q => kt q p e R s m args below meth c A H locs cells slots ls mc ms S) (fun q => kf q p e R s m args below meth c A H locs cells slots ls mc ms S)
theorem g_icmp_ge {X : GX} {M : MI} {pc : Nat} {L : List (Option Value)} {st : List Value} {h : SH} {nc ns : Nat} {P : Out → SH → Prop} {x y : Int32} {off : Int} {tgt : Nat} (hd : decode M.2.1 pc = .ok (.if_icmp .ge off, 3)) (ht : (pc : Int) + off = (tgt : Int)) (kt : (y ≤ x) → Gd X M (tgt) L (st) h nc ns P) (kf : ¬ (y ≤ x) → Gd X M (pc + 3) L (st) h nc ns P) : Gd X M (pc) L (.int y :: .int x :: st) h nc ns P :=
  fun p e R s m args below meth c A H locs cells slots ls mc ms S => lv_icmp_ge A.x A.b hd ht (fun q => kt q p e R s m args below meth c A H locs cells slots ls mc ms S) (fun q => kf q p e R s m args below meth c A H locs cells slots ls mc ms S)
theorem g_if_gt {X : GX} {M : MI} {pc : Nat} {L : List (Option Value)} {st : List Value} {h : SH} {nc ns : Nat} {P : Out → SH → Prop} {x : Int32} {off : Int} {tgt : Nat} (hd : decode M.2.1 pc = .ok (.ifCond .gt off, 3)) (ht : (pc : Int) + off = (tgt : Int)) (kt : (0 < x) → Gd X M (tgt) L (st) h nc ns P) (kf : ¬ (0 < x) → Gd X M (pc + 3) L (st) h nc ns P) : Gd X M (pc) L (.int x :: st) h nc ns P :=
  fun p e R s m args below meth c A H locs cells slots ls mc ms S => lv_if_gt A.x A.b hd ht (fun q => kt q p e R s m args below meth c A H locs cells slots ls mc ms S) (fun q => kf q p e R s m args below meth c A H locs cells slots ls mc ms S)
theorem g_icmp_gt {X : GX} {M : MI} {pc : Nat} {L : List (Option Value)} {st : List Value} {h : SH} {nc ns : Nat} {P : Out → SH → Prop} {x y : Int32} {off : Int} {tgt : Nat} (hd : decode M.2.1 pc = .ok (.if_icmp .gt off, 3)) (ht : (pc : Int) + off = (tgt : Int)) (kt : (y < x) → Gd X M (tgt) L (st) h nc ns P) (kf : ¬ (y < x) → Gd X M (pc + 3) L (st) h nc ns P) : Gd X M (pc) L (.int y :: .int x :: st) h nc ns P :=
  fun p e R s m args below meth c A H locs cells slots ls mc ms S => lv_icmp_gt A.x A.b hd ht (fun q => kt q p e R s m args below meth c A H locs cells slots ls mc ms S) (fun q => kf q p e R s m args below meth c A H locs cells slots ls mc ms S)
theorem g_if_le {X : GX} {M : MI} {pc : Nat} {L : List (Option Value)} {st : List Value} {h : SH} {nc ns : Nat} {P : Out → SH → Prop} {x : Int32} {off : Int} {tgt : Nat} (hd : decode M.2.1 pc = .ok (.ifCond .le off, 3)) (ht : (pc : Int) + off = (tgt : Int)) (kt : (x ≤ 0) → Gd X M (tgt) L (st) h nc ns P) (kf : ¬ (x ≤ 0) → Gd X M (pc + 3) L (st) h nc ns P) : Gd X M (pc) L (.int x :: st) h nc ns P :=
  fun p e R s m args below meth c A H locs cells slots ls mc ms S => lv_if_le A.x A.b hd ht (fun q => kt q p e R s m args below meth c A H locs cells slots ls mc ms S) (fun q => kf q p e R s m args below meth c A H locs cells slots ls mc ms S)
theorem g_icmp_le {X : GX} {M : MI} {pc : Nat} {L : List (Option Value)} {st : List Value} {h : SH} {nc ns : Nat} {P : Out → SH → Prop} {x y : Int32} {off : Int} {tgt : Nat} (hd : decode M.2.1 pc = .ok (.if_icmp .le off, 3)) (ht : (pc : Int) + off = (tgt : Int)) (kt : (x ≤ y) → Gd X M (tgt) L (st) h nc ns P) (kf : ¬ (x ≤ y) → Gd X M (pc + 3) L (st) h nc ns P) : Gd X M (pc) L (.int y :: .int x :: st) h nc ns P :=
  fun p e R s m args below meth c A H locs cells slots ls mc ms S => lv_icmp_le A.x A.b hd ht (fun q => kt q p e R s m args below meth c A H locs cells slots ls mc ms S) (fun q => kf q p e R s m args below meth c A H locs cells slots ls mc ms S)
theorem g_ifnull {X : GX} {M : MI} {pc : Nat} {L : List (Option Value)} {st : List Value} {h : SH} {nc ns : Nat} {P : Out → SH → Prop} {r : Option Nat} {off : Int} {tgt : Nat} (hd : decode M.2.1 pc = .ok (.ifnull off, 3)) (ht : (pc : Int) + off = (tgt : Int)) (kt : r = none → Gd X M (tgt) L (st) h nc ns P) (kf : ∀ a, r = some a → Gd X M (pc + 3) L (st) h nc ns P) : Gd X M (pc) L (va_rf r :: st) h nc ns P := by
  cases r with
  | none => exact Gd.go (fun p e R s m args below meth c A H locs cells slots ls Q hl hV k => lv_ifnullN A.x A.b hd ht k) (kt rfl)
  | some a => exact Gd.go (fun p e R s m args below meth c A H locs cells slots ls Q hl hV k => lv_ifnull A.x A.b hd k) (kf a rfl)
theorem g_ifnonnull {X : GX} {M : MI} {pc : Nat} {L : List (Option Value)} {st : List Value} {h : SH} {nc ns : Nat} {P : Out → SH → Prop} {r : Option Nat} {off : Int} {tgt : Nat} (hd : decode M.2.1 pc = .ok (.ifnonnull off, 3)) (ht : (pc : Int) + off = (tgt : Int)) (kt : ∀ a, r = some a → Gd X M (tgt) L (st) h nc ns P) (kf : r = none → Gd X M (pc + 3) L (st) h nc ns P) : Gd X M (pc) L (va_rf r :: st) h nc ns P := by
  cases r with
  | none => exact Gd.go (fun p e R s m args below meth c A H locs cells slots ls Q hl hV k => lv_ifnonnullN A.x A.b hd k) (kf rfl)
  | some a => exact Gd.go (fun p e R s m args below meth c A H locs cells slots ls Q hl hV k => lv_ifnonnull A.x A.b hd ht k) (kt a rfl)
theorem ph_map {X : GX} {r t : Option Nat} (hr : ∀ a, r = some a → 8 ≤ a) (ht : ∀ a, t = some a → 8 ≤ a) (h : r.map (ph X) = t.map (ph X)) : r = t := by
  cases r with
  | none => cases t with
    | none => rfl
    | some b => cases h
  | some a => cases t with
    | none => cases h
    | some b => rw [ph_inj (hr a rfl) (ht b rfl) (Option.some.inj h)]
theorem g_acmp_eq {X : GX} {M : MI} {pc : Nat} {L : List (Option Value)} {st : List Value} {h : SH} {nc ns : Nat} {P : Out → SH → Prop} {rx ry : Option Nat} {off : Int} {tgt : Nat} (hd : decode M.2.1 pc = .ok (.if_acmp .eq off, 3)) (ht : (pc : Int) + off = (tgt : Int)) (hx : ∀ a, rx = some a → 8 ≤ a) (hy : ∀ a, ry = some a → 8 ≤ a) (kt : (rx = ry) → Gd X M (tgt) L (st) h nc ns P) (kf : ¬ (rx = ry) → Gd X M (pc + 3) L (st) h nc ns P) : Gd X M (pc) L (va_rf ry :: va_rf rx :: st) h nc ns P := by
  intro p e R s m args below meth c A H locs cells slots ls mc ms S
  have k := lv_acmp_eq (rx := rx.map (ph X)) (ry := ry.map (ph X)) (ls := ls) (rest := st.map (mv X)) (p := p) (l := xl X) (e := e) (R := R) (s := s) (m := m) (args := args) (below := below) (meth := meth) (c := c) (H := H) (locs := locs) (cells := cells) (slots := slots) (Q := vx_MQ below (Qo X P) (Xo X P) args s mc ms (fr X)) A.x A.b hd ht (fun q => kt (ph_map hx hy q) p e R s m args below meth c A H locs cells slots ls mc ms S) (fun q => kf (fun z => q (by rw [z])) p e R s m args below meth c A H locs cells slots ls mc ms S)
  rw [← mv_rf, ← mv_rf] at k
  exact k
theorem g_acmp_ne {X : GX} {M : MI} {pc : Nat} {L : List (Option Value)} {st : List Value} {h : SH} {nc ns : Nat} {P : Out → SH → Prop} {rx ry : Option Nat} {off : Int} {tgt : Nat} (hd : decode M.2.1 pc = .ok (.if_acmp .ne off, 3)) (ht : (pc : Int) + off = (tgt : Int)) (hx : ∀ a, rx = some a → 8 ≤ a) (hy : ∀ a, ry = some a → 8 ≤ a) (kt : (¬ rx = ry) → Gd X M (tgt) L (st) h nc ns P) (kf : rx = ry → Gd X M (pc + 3) L (st) h nc ns P) : Gd X M (pc) L (va_rf ry :: va_rf rx :: st) h nc ns P := by
  intro p e R s m args below meth c A H locs cells slots ls mc ms S
  have k := lv_acmp_ne (rx := rx.map (ph X)) (ry := ry.map (ph X)) (ls := ls) (rest := st.map (mv X)) (p := p) (l := xl X) (e := e) (R := R) (s := s) (m := m) (args := args) (below := below) (meth := meth) (c := c) (H := H) (locs := locs) (cells := cells) (slots := slots) (Q := vx_MQ below (Qo X P) (Xo X P) args s mc ms (fr X)) A.x A.b hd ht (fun q => kt (fun z => q (by rw [z])) p e R s m args below meth c A H locs cells slots ls mc ms S) (fun q => kf (ph_map hx hy q) p e R s m args below meth c A H locs cells slots ls mc ms S)
  rw [← mv_rf, ← mv_rf] at k
  exact k
def cl2 (a : Option Value) : Option Value := match a with
  | some (.long _) => none
  | some (.double _) => none
  | x => x
def st1 : List (Option Value) → Nat → Value → List (Option Value)
  | [], _, _ => []
  | _ :: r, 0, v => some v :: r
  | a :: r, 1, v => cl2 a :: st1 r 0 v
  | a :: r, i + 2, v => a :: st1 r (i + 1) v
def st2 : List (Option Value) → Nat → Value → List (Option Value)
  | [], _, _ => []
  | [_], 0, _ => [none]
  | _ :: _ :: r, 0, v => some v :: none :: r
  | a :: r, 1, v => cl2 a :: st2 r 0 v
  | a :: r, i + 2, v => a :: st2 r (i + 1) v
theorem cl2_of {a : Option Value} {w : Value} (h : cl2 a = some w) : a = some w ∧ ¬ w.category = 2 := by
  cases a with
  | none => simp [cl2] at h
  | some v => cases v <;> simp [cl2] at h <;> subst h <;> exact ⟨rfl, by simp [Value.category]⟩
theorem st1_at {v w : Value} : ∀ {L : List (Option Value)} {i k : Nat}, (st1 L i v)[k]? = some (some w) → (k = i ∧ w = v) ∨ (k ≠ i ∧ L[k]? = some (some w) ∧ ¬ (k + 1 = i ∧ w.category = 2))
  | [], i, k, h => by simp [st1] at h
  | a :: r, 0, 0, h => by simp [st1] at h; exact Or.inl ⟨rfl, h.symm⟩
  | a :: r, 0, k + 1, h => by
    simp [st1] at h
    exact Or.inr ⟨by omega, by simpa using h, fun q => by omega⟩
  | a :: r, 1, 0, h => by
    simp [st1] at h
    obtain ⟨h1, h2⟩ := cl2_of h
    exact Or.inr ⟨by omega, by simp [h1], fun q => h2 q.2⟩
  | a :: r, 1, k + 1, h => by
    have h1 : (st1 r 0 v)[k]? = some (some w) := by simpa [st1] using h
    rcases st1_at h1 with ⟨q1, q2⟩ | ⟨q1, q2, q3⟩
    · exact Or.inl ⟨by omega, q2⟩
    · exact Or.inr ⟨by omega, by simpa using q2, fun q => by omega⟩
  | a :: r, i + 2, 0, h => by
    simp [st1] at h
    exact Or.inr ⟨by omega, by simp [h], fun q => by omega⟩
  | a :: r, i + 2, k + 1, h => by
    have h1 : (st1 r (i + 1) v)[k]? = some (some w) := by simpa [st1] using h
    rcases st1_at h1 with ⟨q1, q2⟩ | ⟨q1, q2, q3⟩
    · exact Or.inl ⟨by omega, q2⟩
    · exact Or.inr ⟨by omega, by simpa using q2, fun q => q3 ⟨by omega, q.2⟩⟩
theorem st2_at {v w : Value} : ∀ {L : List (Option Value)} {i k : Nat}, (st2 L i v)[k]? = some (some w) → (k = i ∧ w = v) ∨ (k ≠ i ∧ k ≠ i + 1 ∧ L[k]? = some (some w) ∧ ¬ (k + 1 = i ∧ w.category = 2))
  | [], i, k, h => by simp [st2] at h
  | [a], 0, k, h => by cases k <;> simp [st2] at h
  | a :: b :: r, 0, 0, h => by simp [st2] at h; exact Or.inl ⟨rfl, h.symm⟩
  | a :: b :: r, 0, 1, h => by simp [st2] at h
  | a :: b :: r, 0, k + 2, h => by
    simp [st2] at h
    exact Or.inr ⟨by omega, by omega, by simpa using h, fun q => by omega⟩
  | a :: r, 1, 0, h => by
    simp [st2] at h
    obtain ⟨h1, h2⟩ := cl2_of h
    exact Or.inr ⟨by omega, by omega, by simp [h1], fun q => h2 q.2⟩
  | a :: r, 1, k + 1, h => by
    have h1 : (st2 r 0 v)[k]? = some (some w) := by simpa [st2] using h
    rcases st2_at h1 with ⟨q1, q2⟩ | ⟨q1, q4, q2, q3⟩
    · exact Or.inl ⟨by omega, q2⟩
    · exact Or.inr ⟨by omega, by omega, by simpa using q2, fun q => by omega⟩
  | a :: r, i + 2, 0, h => by
    simp [st2] at h
    exact Or.inr ⟨by omega, by omega, by simp [h], fun q => by omega⟩
  | a :: r, i + 2, k + 1, h => by
    have h1 : (st2 r (i + 1) v)[k]? = some (some w) := by simpa [st2] using h
    rcases st2_at h1 with ⟨q1, q2⟩ | ⟨q1, q4, q2, q3⟩
    · exact Or.inl ⟨by omega, q2⟩
    · exact Or.inr ⟨by omega, by omega, by simpa using q2, fun q => q3 ⟨by omega, q.2⟩⟩
theorem lv_st1 {X : GX} {ls : Array Slot} {n i : Nat} {L : List (Option Value)} {v : Value} (h : lv_has ls n ((i, mv X v) :: (lvl X 0 L).filter (fun q => !(q.1 == i) && !(q.1 + 1 == i && q.2.category == 2)))) : lv_has ls n (lvl X 0 (st1 L i v)) :=
  lv_le h (fun q hq => by
    obtain ⟨k, w, h1, h2⟩ := lvl_of hq
    rw [h2]
    rcases st1_at h1 with ⟨q1, q2⟩ | ⟨q1, q2, q3⟩
    · subst q1; subst q2; rw [Nat.zero_add]; exact List.mem_cons_self
    · refine List.mem_cons_of_mem _ (List.mem_filter.mpr ⟨lvl_mem q2, ?_⟩)
      simp only [Nat.zero_add, mv_cat]
      by_cases hc : k + 1 = i
      · have : ¬ w.category = 2 := fun z => q3 ⟨hc, z⟩
        simp [q1, this]
      · simp [q1, hc])
theorem lv_st2 {X : GX} {ls : Array Slot} {n i : Nat} {L : List (Option Value)} {v : Value} (h : lv_has ls n ((i, mv X v) :: (lvl X 0 L).filter (fun q => !(q.1 == i) && (!(q.1 == i + 1) && !(q.1 + 1 == i && q.2.category == 2))))) : lv_has ls n (lvl X 0 (st2 L i v)) :=
  lv_le h (fun q hq => by
    obtain ⟨k, w, h1, h2⟩ := lvl_of hq
    rw [h2]
    rcases st2_at h1 with ⟨q1, q2⟩ | ⟨q1, q4, q2, q3⟩
    · subst q1; subst q2; rw [Nat.zero_add]; exact List.mem_cons_self
    · refine List.mem_cons_of_mem _ (List.mem_filter.mpr ⟨lvl_mem q2, ?_⟩)
      simp only [Nat.zero_add, mv_cat]
      by_cases hc : k + 1 = i
      · have : ¬ w.category = 2 := fun z => q3 ⟨hc, z⟩
        simp [q1, q4, this]
      · simp [q1, q4, hc])
theorem St.loc {X : GX} {M : MI} {R : Room} {L L' : List (Option Value)} {h : SH} {nc ns : Nat} {H : Heap} {locs : List Loc} {cells slots : Nat} {ls ls' : Array Slot} {mc ms : Nat} (S : St X M R L h nc ns H locs cells slots ls mc ms) (hl : lv_has ls' M.2.2.1 (lvl X 0 L')) : St X M R L' h nc ns H locs cells slots ls' mc ms := ⟨S.1, hl, S.2.2⟩
theorem g_istore {X : GX} {M : MI} {pc : Nat} {L : List (Option Value)} {st : List Value} {h : SH} {nc ns : Nat} {P : Out → SH → Prop} {i : Nat} {x : Int32} {L' : List (Option Value)} (hd : decode M.2.1 pc = .ok (.istore i, 2)) (hn : i < M.2.2.1) (hs : st1 L i (.int x) = L') (g : Gd X M (pc + 2) L' (st) h nc ns P) : Gd X M (pc) L (.int x :: st) h nc ns P :=
  fun p e R s m args below meth c A H locs cells slots ls mc ms S => lv_istore A.x A.b hd S.2.1 hn rfl (fun ls' hl => g p e R s m args below meth c A H locs cells slots ls' mc ms (S.loc (hs ▸ lv_st1 hl)))
theorem g_istore_n {X : GX} {M : MI} {pc : Nat} {L : List (Option Value)} {st : List Value} {h : SH} {nc ns : Nat} {P : Out → SH → Prop} {j : Fin 4} {x : Int32} {L' : List (Option Value)} (hd : decode M.2.1 pc = .ok (.istore_n j, 1)) (hn : (j : Nat) < M.2.2.1) (hs : st1 L (j : Nat) (.int x) = L') (g : Gd X M (pc + 1) L' (st) h nc ns P) : Gd X M (pc) L (.int x :: st) h nc ns P :=
  fun p e R s m args below meth c A H locs cells slots ls mc ms S => lv_istore_n A.x A.b hd rfl S.2.1 hn rfl (fun ls' hl => g p e R s m args below meth c A H locs cells slots ls' mc ms (S.loc (hs ▸ lv_st1 hl)))
theorem g_lstore {X : GX} {M : MI} {pc : Nat} {L : List (Option Value)} {st : List Value} {h : SH} {nc ns : Nat} {P : Out → SH → Prop} {i : Nat} {x : Int64} {L' : List (Option Value)} (hd : decode M.2.1 pc = .ok (.lstore i, 2)) (hn : i + 1 < M.2.2.1) (hs : st2 L i (.long x) = L') (g : Gd X M (pc + 2) L' (st) h nc ns P) : Gd X M (pc) L (.long x :: st) h nc ns P :=
  fun p e R s m args below meth c A H locs cells slots ls mc ms S => lv_lstore A.x A.b hd S.2.1 hn rfl (fun ls' hl => g p e R s m args below meth c A H locs cells slots ls' mc ms (S.loc (hs ▸ lv_st2 hl)))
theorem g_lstore_n {X : GX} {M : MI} {pc : Nat} {L : List (Option Value)} {st : List Value} {h : SH} {nc ns : Nat} {P : Out → SH → Prop} {j : Fin 4} {x : Int64} {L' : List (Option Value)} (hd : decode M.2.1 pc = .ok (.lstore_n j, 1)) (hn : (j : Nat) + 1 < M.2.2.1) (hs : st2 L (j : Nat) (.long x) = L') (g : Gd X M (pc + 1) L' (st) h nc ns P) : Gd X M (pc) L (.long x :: st) h nc ns P :=
  fun p e R s m args below meth c A H locs cells slots ls mc ms S => lv_lstore_n A.x A.b hd rfl S.2.1 hn rfl (fun ls' hl => g p e R s m args below meth c A H locs cells slots ls' mc ms (S.loc (hs ▸ lv_st2 hl)))
theorem g_astore {X : GX} {M : MI} {pc : Nat} {L : List (Option Value)} {st : List Value} {h : SH} {nc ns : Nat} {P : Out → SH → Prop} {i : Nat} {r : Option Nat} {L' : List (Option Value)} (hd : decode M.2.1 pc = .ok (.astore i, 2)) (hn : i < M.2.2.1) (hs : st1 L i (va_rf r) = L') (g : Gd X M (pc + 2) L' (st) h nc ns P) : Gd X M (pc) L (va_rf r :: st) h nc ns P := by
  cases r with
  | none => exact fun p e R s m args below meth c A H locs cells slots ls mc ms S => lv_astoreN A.x A.b hd S.2.1 hn rfl (fun ls' hl => g p e R s m args below meth c A H locs cells slots ls' mc ms (S.loc (hs ▸ lv_st1 (v := .null) hl)))
  | some a => exact fun p e R s m args below meth c A H locs cells slots ls mc ms S => lv_astore A.x A.b hd S.2.1 hn rfl (fun ls' hl => g p e R s m args below meth c A H locs cells slots ls' mc ms (S.loc (hs ▸ lv_st1 (v := .ref a) hl)))
theorem g_astore_n {X : GX} {M : MI} {pc : Nat} {L : List (Option Value)} {st : List Value} {h : SH} {nc ns : Nat} {P : Out → SH → Prop} {j : Fin 4} {r : Option Nat} {L' : List (Option Value)} (hd : decode M.2.1 pc = .ok (.astore_n j, 1)) (hn : (j : Nat) < M.2.2.1) (hs : st1 L (j : Nat) (va_rf r) = L') (g : Gd X M (pc + 1) L' (st) h nc ns P) : Gd X M (pc) L (va_rf r :: st) h nc ns P := by
  cases r with
  | none => exact fun p e R s m args below meth c A H locs cells slots ls mc ms S => lv_astore_nN A.x A.b hd rfl S.2.1 hn rfl (fun ls' hl => g p e R s m args below meth c A H locs cells slots ls' mc ms (S.loc (hs ▸ lv_st1 (v := .null) hl)))
  | some a => exact fun p e R s m args below meth c A H locs cells slots ls mc ms S => lv_astore_n A.x A.b hd rfl S.2.1 hn rfl (fun ls' hl => g p e R s m args below meth c A H locs cells slots ls' mc ms (S.loc (hs ▸ lv_st1 (v := .ref a) hl)))
theorem g_iinc {X : GX} {M : MI} {pc : Nat} {L : List (Option Value)} {st : List Value} {h : SH} {nc ns : Nat} {P : Out → SH → Prop} {i : Nat} {n : Int} {x v : Int32} {L' : List (Option Value)} (hd : decode M.2.1 pc = .ok (.iinc i n, 3)) (hi : L[i]? = some (some (.int x))) (hv : x + Int32.ofInt n = v) (hn : i < M.2.2.1) (hs : st1 L i (.int v) = L') (g : Gd X M (pc + 3) L' (st) h nc ns P) : Gd X M (pc) L (st) h nc ns P := by
  intro p e R s m args below meth c A H locs cells slots ls mc ms S
  obtain ⟨k, hk⟩ := List.getElem?_of_mem (lvl_mem (X := X) (j := 0) hi)
  rw [Nat.zero_add] at hk
  exact lv_iinc A.x A.b hd S.2.1 hk hv hn rfl (fun ls' hl => g p e R s m args below meth c A H locs cells slots ls' mc ms (S.loc (hs ▸ lv_st1 (v := .int v) hl)))
theorem g_ireturn {X : GX} {M : MI} {pc : Nat} {L : List (Option Value)} {st : List Value} {h : SH} {nc ns : Nat} {P : Out → SH → Prop} {v : Int32} {ty : FieldType} (hd : decode M.2.1 pc = .ok (.ireturn, 1)) (hr : M.2.2.2.1 = some ty) (hn : narrow ty (.int v) = .int v) (hp : P (.inl (some (.int v))) h) : Gd X M (pc) L ([.int v]) h nc ns P :=
  fun p e R s m args below meth c A H locs cells slots ls mc ms S => W.widen (k := mc) (n := ms) (Nat.le_trans (Nat.le_add_right _ _) S.2.2.2.1) (Nat.le_trans (Nat.le_add_right _ _) S.2.2.2.2.1) (vx_ret (W.zret A.x A.b (A.rt.trans hr) hn (fun t ht _ => ⟨some (.int v), h, hp, rfl, by rw [ht]; exact S.1⟩) S.2.2.1 hd A.lk))
theorem g_lreturn {X : GX} {M : MI} {pc : Nat} {L : List (Option Value)} {st : List Value} {h : SH} {nc ns : Nat} {P : Out → SH → Prop} {v : Int64} (hd : decode M.2.1 pc = .ok (.lreturn, 1)) (hr : M.2.2.2.1 = some .long) (hp : P (.inl (some (.long v))) h) : Gd X M (pc) L ([.long v]) h nc ns P :=
  fun p e R s m args below meth c A H locs cells slots ls mc ms S => W.widen (k := mc) (n := ms) (Nat.le_trans (Nat.le_add_right _ _) S.2.2.2.1) (Nat.le_trans (Nat.le_add_right _ _) S.2.2.2.2.1) (vx_ret (W.lret A.x A.b (A.rt.trans hr) (fun t ht _ => ⟨some (.long v), h, hp, rfl, by rw [ht]; exact S.1⟩) S.2.2.1 hd A.lk))
theorem g_return {X : GX} {M : MI} {pc : Nat} {L : List (Option Value)} {st : List Value} {h : SH} {nc ns : Nat} {P : Out → SH → Prop} (hd : decode M.2.1 pc = .ok (.return_, 1)) (hr : M.2.2.2.1 = none) (hp : P (.inl none) h) : Gd X M (pc) L ([]) h nc ns P :=
  fun p e R s m args below meth c A H locs cells slots ls mc ms S => W.widen (k := mc) (n := ms) (Nat.le_trans (Nat.le_add_right _ _) S.2.2.2.1) (Nat.le_trans (Nat.le_add_right _ _) S.2.2.2.2.1) (vx_ret (W.vret A.x A.b (A.rt.trans hr) (fun t ht _ => ⟨none, h, hp, rfl, by rw [ht]; exact S.1⟩) S.2.2.1 hd A.lk))
theorem g_areturn {X : GX} {M : MI} {pc : Nat} {L : List (Option Value)} {st : List Value} {h : SH} {nc ns : Nat} {P : Out → SH → Prop} {r : Option Nat} {rt : FieldType} (hd : decode M.2.1 pc = .ok (.areturn, 1)) (hr : M.2.2.2.1 = some rt) (hrt : (∃ n, rt = .object n) ∨ ∃ t, rt = .array t) (hp : P (.inl (some (va_rf r))) h) : Gd X M (pc) L ([va_rf r]) h nc ns P := by
  intro p e R s m args below meth c A H locs cells slots ls mc ms S
  have k := W.aret (v := mv X (va_rf r)) (p := p) (l := xl X) (e := e) (R := R) (s := s) (m := m) (args := args) (below := below) (meth := meth) (c := c) (H := H) (locs := locs) (cells := mc) (slots := ms) (ls := ls) (Qc := Qo X P) (free := fr X) A.x A.b (A.rt.trans hr) hrt (by rw [mv_rf]; cases r <;> simp [va_rf]) (fun t ht _ => ⟨some (va_rf r), h, hp, rfl, by rw [ht]; exact S.1⟩) S.2.2.1 hd A.lk
  exact W.widen (k := mc) (n := ms) (Nat.le_trans (Nat.le_add_right _ _) S.2.2.2.1) (Nat.le_trans (Nat.le_add_right _ _) S.2.2.2.2.1) (vx_ret k)
