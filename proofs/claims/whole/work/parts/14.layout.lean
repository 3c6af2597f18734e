theorem g_mmax {X : GX} {M : MI} {pc : Nat} {L : List (Option Value)} {st : List Value} {h : SH} {nc ns : Nat} {P : Out → SH → Prop} {x y : Int32} {idx : Nat} (hd : decode M.2.1 pc = .ok (.invokestatic idx, 3)) (hw : KW (Cond.methodLink M.1.cls idx Lib.Math.max.name)) (hdp : 1 ≤ M.2.2.2.2.1) (hrest : (st.map fun v => v.category).sum ≤ 8) (g : Gd X M (pc + 3) L (.int (if x < y then y else x) :: st) h nc ns P) : Gd X M pc L (.int y :: .int x :: st) h nc ns P := by
  intro p e R s m args below meth c A H locs cells slots ls mc ms S
  have b1 := S.2.2.2.1
  have b2 := S.2.2.2.2.1
  have b3 := S.2.2.2.2.2.1
  have b4 := S.2.2.2.2.2.2
  have d1 := A.2.2.2.2.2.1
  have d2 := A.2.2.2.2.2.2
  exact va_mmax A.x A.b (A.ml.trans S.2.1.1.symm) A.own (A.word hw args) (A.word kw_547 args) (A.word kw_106 args) (A.word kw_548 args) (by omega) (by rw [cat_st]; omega) (by omega) (by omega) hd (g p e R s m args below meth c A H locs cells slots ls mc ms S)
theorem g_mmin {X : GX} {M : MI} {pc : Nat} {L : List (Option Value)} {st : List Value} {h : SH} {nc ns : Nat} {P : Out → SH → Prop} {x y : Int32} {idx : Nat} (hd : decode M.2.1 pc = .ok (.invokestatic idx, 3)) (hw : KW (Cond.methodLink M.1.cls idx Lib.Math.min.name)) (hdp : 1 ≤ M.2.2.2.2.1) (hrest : (st.map fun v => v.category).sum ≤ 8) (g : Gd X M (pc + 3) L (.int (if y < x then y else x) :: st) h nc ns P) : Gd X M pc L (.int y :: .int x :: st) h nc ns P := by
  intro p e R s m args below meth c A H locs cells slots ls mc ms S
  have b1 := S.2.2.2.1
  have b2 := S.2.2.2.2.1
  have b3 := S.2.2.2.2.2.1
  have b4 := S.2.2.2.2.2.2
  have d1 := A.2.2.2.2.2.1
  have d2 := A.2.2.2.2.2.2
  exact va_mmin A.x A.b (A.ml.trans S.2.1.1.symm) A.own (A.word hw args) (A.word kw_550 args) (A.word kw_106 args) (A.word kw_551 args) (by omega) (by rw [cat_st]; omega) (by omega) (by omega) hd (g p e R s m args below meth c A H locs cells slots ls mc ms S)
theorem g_mabs {X : GX} {M : MI} {pc : Nat} {L : List (Option Value)} {st : List Value} {h : SH} {nc ns : Nat} {P : Out → SH → Prop} {x : Int32} {idx : Nat} (hd : decode M.2.1 pc = .ok (.invokestatic idx, 3)) (hw : KW (Cond.methodLink M.1.cls idx Lib.Math.abs.name)) (hdp : 1 ≤ M.2.2.2.2.1) (hrest : (st.map fun v => v.category).sum ≤ 8) (g : Gd X M (pc + 3) L (.int (if 0 ≤ x then x else 0 - x) :: st) h nc ns P) : Gd X M pc L (.int x :: st) h nc ns P := by
  intro p e R s m args below meth c A H locs cells slots ls mc ms S
  have b1 := S.2.2.2.1
  have b2 := S.2.2.2.2.1
  have b3 := S.2.2.2.2.2.1
  have b4 := S.2.2.2.2.2.2
  have d1 := A.2.2.2.2.2.1
  have d2 := A.2.2.2.2.2.2
  exact va_mabs A.x A.b (A.ml.trans S.2.1.1.symm) A.own (A.word hw args) (A.word kw_995 args) (A.word kw_106 args) (A.word kw_996 args) (by omega) (by rw [cat_st]; omega) (by omega) (by omega) hd (g p e R s m args below meth c A H locs cells slots ls mc ms S)
/-- the skeleton: what is where -/
abbrev Skl : Type := Nat × (Nat → Nat × Nat) × (Nat → Nat → Option Nat)
abbrev Sk (h : SH) : Skl := (h.1, h.2.1, h.2.2.2.2)
def kOb (k : Skl) (a c : Nat) : Prop := 8 ≤ a ∧ a < k.1 ∧ (k.2.1 a).1 = c
def kAr (k : Skl) (a t n : Nat) : Prop := 8 ≤ a ∧ a < k.1 ∧ (k.2.1 a).1 = t ∧ (k.2.1 a).2 = n
def nX : String → SH → Prop := fun _ _ => False
def oI (Q : Int32 → SH → Prop) (Z : String → SH → Prop) : Out → SH → Prop := fun o t => match o with
  | .inl (some (.int r)) => Q r t
  | .inr E => Z E t
  | _ => False
def oJ (Q : Int64 → SH → Prop) (Z : String → SH → Prop) : Out → SH → Prop := fun o t => match o with
  | .inl (some (.long r)) => Q r t
  | .inr E => Z E t
  | _ => False
def oA (Q : Option Nat → SH → Prop) (Z : String → SH → Prop) : Out → SH → Prop := fun o t => match o with
  | .inl (some (.ref a)) => Q (some a) t
  | .inl (some .null) => Q none t
  | .inr E => Z E t
  | _ => False
def oV (Q : SH → Prop) (Z : String → SH → Prop) : Out → SH → Prop := fun o t => match o with
  | .inl none => Q t
  | .inr E => Z E t
  | _ => False
theorem oI_go {Q : Int32 → SH → Prop} {Z : String → SH → Prop} {G : List Value → SH → Prop} {st : List Value} (g : ∀ r t, Q r t → G (.int r :: st) t) : ∀ v t, oI Q Z (.inl v) t → G (v.toList ++ st) t
  | some (.int r), t, q => g r t q
  | some (.long _), _, q | some (.float _), _, q | some (.double _), _, q | some .null, _, q | some (.ref _), _, q | some (.retAddr _), _, q | none, _, q => q.elim
theorem oJ_go {Q : Int64 → SH → Prop} {Z : String → SH → Prop} {G : List Value → SH → Prop} {st : List Value} (g : ∀ r t, Q r t → G (.long r :: st) t) : ∀ v t, oJ Q Z (.inl v) t → G (v.toList ++ st) t
  | some (.long r), t, q => g r t q
  | some (.int _), _, q | some (.float _), _, q | some (.double _), _, q | some .null, _, q | some (.ref _), _, q | some (.retAddr _), _, q | none, _, q => q.elim
theorem oA_go {Q : Option Nat → SH → Prop} {Z : String → SH → Prop} {G : List Value → SH → Prop} {st : List Value} (g : ∀ r t, Q r t → G (va_rf r :: st) t) : ∀ v t, oA Q Z (.inl v) t → G (v.toList ++ st) t
  | some (.ref a), t, q => g (some a) t q
  | some .null, t, q => g none t q
  | some (.int _), _, q | some (.float _), _, q | some (.double _), _, q | some (.long _), _, q | some (.retAddr _), _, q | none, _, q => q.elim
theorem oV_go {Q : SH → Prop} {Z : String → SH → Prop} {G : List Value → SH → Prop} {st : List Value} (g : ∀ t, Q t → G st t) : ∀ v t, oV Q Z (.inl v) t → G (v.toList ++ st) t
  | none, t, q => g t q
  | some (.int _), _, q | some (.long _), _, q | some (.float _), _, q | some (.double _), _, q | some .null, _, q | some (.ref _), _, q | some (.retAddr _), _, q => q.elim
theorem Gd.z {X : GX} {M : MI} {pc : Nat} {L : List (Option Value)} {st : List Value} {h : SH} {nc ns : Nat} {P : Out → SH → Prop} (g : Gd X M pc L st h (0 + nc) (0 + ns) P) : Gd X M pc L st h nc ns P := by rw [Nat.zero_add, Nat.zero_add] at g; exact g
theorem g_getAs {X : GX} {M : MI} {pc : Nat} {L : List (Option Value)} {st : List Value} {h : SH} {nc ns : Nat} {P : Out → SH → Prop} {c k idx a b : Nat} (hd : decode M.2.1 pc = .ok (.getfield idx, 3)) (hc : c < 12) (hk : k < ctN c) (hw : KW (Cond.fieldLink M.1.cls idx (ctT c k).1 (ctT c k).2.1 (ctT c k).2.2.1)) (ht : tA (ctY c k) = true) (ho : Ob h a c) (e : hA h a k = some b)
    (g : Gd X M (pc + 3) L (.ref b :: st) h nc ns P) : Gd X M pc L (.ref a :: st) h nc ns P := g_getA hd hc hk hw ht ho (by rw [e]; exact g)
theorem g_getNAs {X : GX} {M : MI} {pc : Nat} {L : List (Option Value)} {st : List Value} {h : SH} {nc ns : Nat} {P : Out → SH → Prop} {c k idx a b : Nat} {host : String} (hd : decode M.2.1 pc = .ok (.getfield idx, 3)) (hc : c < 12) (hk : k < ctN c) (hw : KN (Cond.fieldLinkNest M.1.cls idx (ctT c k).1 (ctT c k).2.1 (ctT c k).2.2.1 host)) (ht : tA (ctY c k) = true) (ho : Ob h a c) (e : hA h a k = some b)
    (g : Gd X M (pc + 3) L (.ref b :: st) h nc ns P) : Gd X M pc L (.ref a :: st) h nc ns P := g_getNA hd hc hk hw ht ho (by rw [e]; exact g)
theorem g_aaloads {X : GX} {M : MI} {pc : Nat} {L : List (Option Value)} {st : List Value} {h : SH} {nc ns : Nat} {P : Out → SH → Prop} {a n k b : Nat} {i : Int32} (hd : decode M.2.1 pc = .ok (.aaload, 1)) (h1 : 24 ≤ k) (h2 : k < 27) (ho : Ar h a k n) (hin : vp_in i n) (e : hA h a i.toNatClampNeg = some b) (g : Gd X M (pc + 1) L (.ref b :: st) h nc ns P) : Gd X M pc L (.int i :: .ref a :: st) h nc ns P := g_aaload hd h1 h2 ho hin (by rw [e]; exact g)
theorem bl_n {v : Int32} (hb : v = 0 ∨ v = 1) : narrow .boolean (.int v) = .int v := by rcases hb with q | q <;> subst q <;> decide
theorem bl_f {v : Int32} (hb : v = 0 ∨ v = 1) : fits .boolean (.int v) = true := by rcases hb with q | q <;> subst q <;> decide
def LX0 (k : Skl) (a : Nat) : Prop := kOb k a 0 ∧ (k.2.2 a 0 = some (a + 1) ∧ kAr k (a + 1) 20 40)
theorem LX0.o {h : SH} {a : Nat} (F : LX0 (Sk h) a) : Ob h a 0 := F.1
theorem LX0.r_freeDays {h : SH} {a : Nat} (F : LX0 (Sk h) a) : hA h a 0 = some (a + 1) := (F.2).1
theorem LX0.a_freeDays {h : SH} {a : Nat} (F : LX0 (Sk h) a) : Ar h (a + 1) 20 40 := (F.2).2
def LX1 (k : Skl) (a : Nat) : Prop := kOb k a 1 ∧ (k.2.2 a 0 = some (a + 1) ∧ kAr k (a + 1) 20 8) ∧ (k.2.2 a 1 = some (a + 2) ∧ kAr k (a + 2) 20 12)
theorem LX1.o {h : SH} {a : Nat} (F : LX1 (Sk h) a) : Ob h a 1 := F.1
theorem LX1.r_numbers {h : SH} {a : Nat} (F : LX1 (Sk h) a) : hA h a 0 = some (a + 1) := (F.2.1).1
theorem LX1.a_numbers {h : SH} {a : Nat} (F : LX1 (Sk h) a) : Ar h (a + 1) 20 8 := (F.2.1).2
theorem LX1.r_open {h : SH} {a : Nat} (F : LX1 (Sk h) a) : hA h a 1 = some (a + 2) := (F.2.2).1
theorem LX1.a_open {h : SH} {a : Nat} (F : LX1 (Sk h) a) : Ar h (a + 2) 20 12 := (F.2.2).2
def LX2 (k : Skl) (a : Nat) : Prop := kOb k a 2 ∧ (k.2.2 a 4 = some (a + 3) ∧ kAr k (a + 3) 20 8) ∧ (k.2.2 a 6 = some (a + 4) ∧ kAr k (a + 4) 20 8) ∧ (k.2.2 a 8 = some (a + 5) ∧ kAr k (a + 5) 26 20)
theorem LX2.o {h : SH} {a : Nat} (F : LX2 (Sk h) a) : Ob h a 2 := F.1
theorem LX2.r_needs {h : SH} {a : Nat} (F : LX2 (Sk h) a) : hA h a 4 = some (a + 3) := (F.2.1).1
theorem LX2.a_needs {h : SH} {a : Nat} (F : LX2 (Sk h) a) : Ar h (a + 3) 20 8 := (F.2.1).2
theorem LX2.r_bars {h : SH} {a : Nat} (F : LX2 (Sk h) a) : hA h a 6 = some (a + 4) := (F.2.2.1).1
theorem LX2.a_bars {h : SH} {a : Nat} (F : LX2 (Sk h) a) : Ar h (a + 4) 20 8 := (F.2.2.1).2
theorem LX2.r_items {h : SH} {a : Nat} (F : LX2 (Sk h) a) : hA h a 8 = some (a + 5) := (F.2.2.2).1
theorem LX2.a_items {h : SH} {a : Nat} (F : LX2 (Sk h) a) : Ar h (a + 5) 26 20 := (F.2.2.2).2
def LX3 (k : Skl) (a : Nat) : Prop := kOb k a 3 ∧ (k.2.2 a 3 = some (a + 1) ∧ kAr k (a + 1) 23 8) ∧ (k.2.2 a 4 = some (a + 2) ∧ kAr k (a + 2) 20 8) ∧ (k.2.2 a 5 = some (a + 3) ∧ kAr k (a + 3) 20 8) ∧ (k.2.2 a 8 = some (a + 4) ∧ kAr k (a + 4) 25 12) ∧ (k.2.2 a 9 = some (a + 5) ∧ kAr k (a + 5) 20 12) ∧ (k.2.2 a 11 = some (a + 6) ∧ kAr k (a + 6) 20 5) ∧ (k.2.2 a 12 = some (a + 7) ∧ kAr k (a + 7) 20 5)
theorem LX3.o {h : SH} {a : Nat} (F : LX3 (Sk h) a) : Ob h a 3 := F.1
theorem LX3.r_factNames {h : SH} {a : Nat} (F : LX3 (Sk h) a) : hA h a 3 = some (a + 1) := (F.2.1).1
theorem LX3.a_factNames {h : SH} {a : Nat} (F : LX3 (Sk h) a) : Ar h (a + 1) 23 8 := (F.2.1).2
theorem LX3.r_least {h : SH} {a : Nat} (F : LX3 (Sk h) a) : hA h a 4 = some (a + 2) := (F.2.2.1).1
theorem LX3.a_least {h : SH} {a : Nat} (F : LX3 (Sk h) a) : Ar h (a + 2) 20 8 := (F.2.2.1).2
theorem LX3.r_greatest {h : SH} {a : Nat} (F : LX3 (Sk h) a) : hA h a 5 = some (a + 3) := (F.2.2.2.1).1
theorem LX3.a_greatest {h : SH} {a : Nat} (F : LX3 (Sk h) a) : Ar h (a + 3) 20 8 := (F.2.2.2.1).2
theorem LX3.r_clauses {h : SH} {a : Nat} (F : LX3 (Sk h) a) : hA h a 8 = some (a + 4) := (F.2.2.2.2.1).1
theorem LX3.a_clauses {h : SH} {a : Nat} (F : LX3 (Sk h) a) : Ar h (a + 4) 25 12 := (F.2.2.2.2.1).2
theorem LX3.r_order {h : SH} {a : Nat} (F : LX3 (Sk h) a) : hA h a 9 = some (a + 5) := (F.2.2.2.2.2.1).1
theorem LX3.a_order {h : SH} {a : Nat} (F : LX3 (Sk h) a) : Ar h (a + 5) 20 12 := (F.2.2.2.2.2.1).2
theorem LX3.r_quarrelWorlds {h : SH} {a : Nat} (F : LX3 (Sk h) a) : hA h a 11 = some (a + 6) := (F.2.2.2.2.2.2.1).1
theorem LX3.a_quarrelWorlds {h : SH} {a : Nat} (F : LX3 (Sk h) a) : Ar h (a + 6) 20 5 := (F.2.2.2.2.2.2.1).2
theorem LX3.r_quarrelLeast {h : SH} {a : Nat} (F : LX3 (Sk h) a) : hA h a 12 = some (a + 7) := (F.2.2.2.2.2.2.2).1
theorem LX3.a_quarrelLeast {h : SH} {a : Nat} (F : LX3 (Sk h) a) : Ar h (a + 7) 20 5 := (F.2.2.2.2.2.2.2).2
def LX4 (k : Skl) (a : Nat) : Prop := kOb k a 4 ∧ (k.2.2 a 0 = some (a + 1) ∧ kAr k (a + 1) 20 (k.2.1 (a + 1)).2)
theorem LX4.o {h : SH} {a : Nat} (F : LX4 (Sk h) a) : Ob h a 4 := F.1
theorem LX4.r_operations {h : SH} {a : Nat} (F : LX4 (Sk h) a) : hA h a 0 = some (a + 1) := (F.2).1
theorem LX4.a_operations {h : SH} {a : Nat} (F : LX4 (Sk h) a) : Ar h (a + 1) 20 (hN h (a + 1)) := (F.2).2
def LX5 (k : Skl) (a : Nat) : Prop := kOb k a 5
theorem LX5.o {h : SH} {a : Nat} (F : LX5 (Sk h) a) : Ob h a 5 := F
def LX6 (k : Skl) (a : Nat) : Prop := kOb k a 6 ∧ (k.2.2 a 0 = some (a + 1) ∧ kAr k (a + 1) 22 12) ∧ (k.2.2 a 1 = some (a + 2) ∧ kAr k (a + 2) 20 12) ∧ (k.2.2 a 2 = some (a + 3) ∧ kAr k (a + 3) 20 12) ∧ (k.2.2 a 4 = some (a + 4) ∧ kAr k (a + 4) 21 2772)
theorem LX6.o {h : SH} {a : Nat} (F : LX6 (Sk h) a) : Ob h a 6 := F.1
theorem LX6.r_inside {h : SH} {a : Nat} (F : LX6 (Sk h) a) : hA h a 0 = some (a + 1) := (F.2.1).1
theorem LX6.a_inside {h : SH} {a : Nat} (F : LX6 (Sk h) a) : Ar h (a + 1) 22 12 := (F.2.1).2
theorem LX6.r_parts {h : SH} {a : Nat} (F : LX6 (Sk h) a) : hA h a 1 = some (a + 2) := (F.2.2.1).1
theorem LX6.a_parts {h : SH} {a : Nat} (F : LX6 (Sk h) a) : Ar h (a + 2) 20 12 := (F.2.2.1).2
theorem LX6.r_partNumbers {h : SH} {a : Nat} (F : LX6 (Sk h) a) : hA h a 2 = some (a + 3) := (F.2.2.2.1).1
theorem LX6.a_partNumbers {h : SH} {a : Nat} (F : LX6 (Sk h) a) : Ar h (a + 3) 20 12 := (F.2.2.2.1).2
theorem LX6.r_signs {h : SH} {a : Nat} (F : LX6 (Sk h) a) : hA h a 4 = some (a + 4) := (F.2.2.2.2).1
theorem LX6.a_signs {h : SH} {a : Nat} (F : LX6 (Sk h) a) : Ar h (a + 4) 21 2772 := (F.2.2.2.2).2
def LX9 (k : Skl) (a : Nat) : Prop := kOb k a 9 ∧ (k.2.2 a 2 = some (a + 1) ∧ kAr k (a + 1) 23 11) ∧ (k.2.2 a 3 = some (a + 2) ∧ kAr k (a + 2) 20 (k.2.1 (a + 2)).2) ∧ (k.2.2 a 4 = some (a + 3) ∧ kAr k (a + 3) 20 (k.2.1 (a + 3)).2) ∧ (k.2.2 a 5 = some (a + 4) ∧ kAr k (a + 4) 23 (k.2.1 (a + 4)).2)
theorem LX9.o {h : SH} {a : Nat} (F : LX9 (Sk h) a) : Ob h a 9 := F.1
theorem LX9.r_reserved {h : SH} {a : Nat} (F : LX9 (Sk h) a) : hA h a 2 = some (a + 1) := (F.2.1).1
theorem LX9.a_reserved {h : SH} {a : Nat} (F : LX9 (Sk h) a) : Ar h (a + 1) 23 11 := (F.2.1).2
theorem LX9.r_kinds {h : SH} {a : Nat} (F : LX9 (Sk h) a) : hA h a 3 = some (a + 2) := (F.2.2.1).1
theorem LX9.a_kinds {h : SH} {a : Nat} (F : LX9 (Sk h) a) : Ar h (a + 2) 20 (hN h (a + 2)) := (F.2.2.1).2
theorem LX9.r_places {h : SH} {a : Nat} (F : LX9 (Sk h) a) : hA h a 4 = some (a + 3) := (F.2.2.2.1).1
theorem LX9.a_places {h : SH} {a : Nat} (F : LX9 (Sk h) a) : Ar h (a + 3) 20 (hN h (a + 3)) := (F.2.2.2.1).2
theorem LX9.r_values {h : SH} {a : Nat} (F : LX9 (Sk h) a) : hA h a 5 = some (a + 4) := (F.2.2.2.2).1
theorem LX9.a_values {h : SH} {a : Nat} (F : LX9 (Sk h) a) : Ar h (a + 4) 23 (hN h (a + 4)) := (F.2.2.2.2).2
def LX7 (k : Skl) (a : Nat) : Prop := kOb k a 7 ∧ (k.2.2 a 6 = some (a + 1) ∧ kAr k (a + 1) 20 6) ∧ (k.2.2 a 7 = some (a + 2) ∧ kAr k (a + 2) 20 6) ∧ (k.2.2 a 0 = some (a + 3) ∧ LX9 k (a + 3)) ∧ (k.2.2 a 2 = some (a + 8) ∧ kAr k (a + 8) 23 (k.2.1 (a + 8)).2) ∧ (k.2.2 a 4 = some (a + 9) ∧ kAr k (a + 9) 20 (k.2.1 (a + 9)).2)
theorem LX7.o {h : SH} {a : Nat} (F : LX7 (Sk h) a) : Ob h a 7 := F.1
theorem LX7.r_waitingJoins {h : SH} {a : Nat} (F : LX7 (Sk h) a) : hA h a 6 = some (a + 1) := (F.2.1).1
theorem LX7.a_waitingJoins {h : SH} {a : Nat} (F : LX7 (Sk h) a) : Ar h (a + 1) 20 6 := (F.2.1).2
theorem LX7.r_waitingComparisons {h : SH} {a : Nat} (F : LX7 (Sk h) a) : hA h a 7 = some (a + 2) := (F.2.2.1).1
theorem LX7.a_waitingComparisons {h : SH} {a : Nat} (F : LX7 (Sk h) a) : Ar h (a + 2) 20 6 := (F.2.2.1).2
theorem LX7.r_tokens {h : SH} {a : Nat} (F : LX7 (Sk h) a) : hA h a 0 = some (a + 3) := (F.2.2.2.1).1
theorem LX7.l_tokens {k : Skl} {a : Nat} (F : LX7 k a) : LX9 k (a + 3) := (F.2.2.2.1).2
theorem LX7.r_toldNames {h : SH} {a : Nat} (F : LX7 (Sk h) a) : hA h a 2 = some (a + 8) := (F.2.2.2.2.1).1
theorem LX7.a_toldNames {h : SH} {a : Nat} (F : LX7 (Sk h) a) : Ar h (a + 8) 23 (hN h (a + 8)) := (F.2.2.2.2.1).2
theorem LX7.r_operations {h : SH} {a : Nat} (F : LX7 (Sk h) a) : hA h a 4 = some (a + 9) := (F.2.2.2.2.2).1
theorem LX7.a_operations {h : SH} {a : Nat} (F : LX7 (Sk h) a) : Ar h (a + 9) 20 (hN h (a + 9)) := (F.2.2.2.2.2).2
def LX8 (k : Skl) (a : Nat) : Prop := kOb k a 8 ∧ (k.2.2 a 0 = some (a + 1) ∧ LX1 k (a + 1)) ∧ (k.2.2 a 1 = some (a + 4) ∧ LX6 k (a + 4)) ∧ (k.2.2 a 2 = some (a + 9) ∧ LX6 k (a + 9))
theorem LX8.o {h : SH} {a : Nat} (F : LX8 (Sk h) a) : Ob h a 8 := F.1
theorem LX8.r_tried {h : SH} {a : Nat} (F : LX8 (Sk h) a) : hA h a 0 = some (a + 1) := (F.2.1).1
theorem LX8.l_tried {k : Skl} {a : Nat} (F : LX8 k a) : LX1 k (a + 1) := (F.2.1).2
theorem LX8.r_letterOfOne {h : SH} {a : Nat} (F : LX8 (Sk h) a) : hA h a 1 = some (a + 4) := (F.2.2.1).1
theorem LX8.l_letterOfOne {k : Skl} {a : Nat} (F : LX8 k a) : LX6 k (a + 4) := (F.2.2.1).2
theorem LX8.r_letterOfOther {h : SH} {a : Nat} (F : LX8 (Sk h) a) : hA h a 2 = some (a + 9) := (F.2.2.2).1
theorem LX8.l_letterOfOther {k : Skl} {a : Nat} (F : LX8 k a) : LX6 k (a + 9) := (F.2.2.2).2
def LX10 (k : Skl) (a : Nat) : Prop := kOb k a 10 ∧ (k.2.2 a 0 = some (a + 1) ∧ kAr k (a + 1) 21 2400) ∧ (k.2.2 a 2 = some (a + 2) ∧ kAr k (a + 2) 24 6) ∧ (k.2.2 a 5 = some (a + 3) ∧ LX1 k (a + 3)) ∧ (k.2.2 a 6 = some (a + 6) ∧ LX0 k (a + 6)) ∧ (k.2.2 a 7 = some (a + 8) ∧ LX6 k (a + 8)) ∧ (k.2.2 a 9 = some (a + 13) ∧ LX8 k (a + 13))
theorem LX10.o {h : SH} {a : Nat} (F : LX10 (Sk h) a) : Ob h a 10 := F.1
theorem LX10.r_tape {h : SH} {a : Nat} (F : LX10 (Sk h) a) : hA h a 0 = some (a + 1) := (F.2.1).1
theorem LX10.a_tape {h : SH} {a : Nat} (F : LX10 (Sk h) a) : Ar h (a + 1) 21 2400 := (F.2.1).2
theorem LX10.r_editions {h : SH} {a : Nat} (F : LX10 (Sk h) a) : hA h a 2 = some (a + 2) := (F.2.2.1).1
theorem LX10.a_editions {h : SH} {a : Nat} (F : LX10 (Sk h) a) : Ar h (a + 2) 24 6 := (F.2.2.1).2
theorem LX10.r_facts {h : SH} {a : Nat} (F : LX10 (Sk h) a) : hA h a 5 = some (a + 3) := (F.2.2.2.1).1
theorem LX10.l_facts {k : Skl} {a : Nat} (F : LX10 k a) : LX1 k (a + 3) := (F.2.2.2.1).2
theorem LX10.r_calendar {h : SH} {a : Nat} (F : LX10 (Sk h) a) : hA h a 6 = some (a + 6) := (F.2.2.2.2.1).1
theorem LX10.l_calendar {k : Skl} {a : Nat} (F : LX10 k a) : LX0 k (a + 6) := (F.2.2.2.2.1).2
theorem LX10.r_latest {h : SH} {a : Nat} (F : LX10 (Sk h) a) : hA h a 7 = some (a + 8) := (F.2.2.2.2.2.1).1
theorem LX10.l_latest {k : Skl} {a : Nat} (F : LX10 k a) : LX6 k (a + 8) := (F.2.2.2.2.2.1).2
theorem LX10.r_survey {h : SH} {a : Nat} (F : LX10 (Sk h) a) : hA h a 9 = some (a + 13) := (F.2.2.2.2.2.2).1
theorem LX10.l_survey {k : Skl} {a : Nat} (F : LX10 k a) : LX8 k (a + 13) := (F.2.2.2.2.2.2).2
def LX11 (k : Skl) (a : Nat) : Prop := kOb k a 11 ∧ (k.2.2 a 1 = some (a + 1) ∧ kAr k (a + 1) 20 2400) ∧ (k.2.2 a 4 = some (a + 2) ∧ kAr k (a + 2) 20 2402) ∧ (k.2.2 a 5 = some (a + 3) ∧ kAr k (a + 3) 20 2402) ∧ (k.2.2 a 6 = some (a + 4) ∧ kAr k (a + 4) 23 2402) ∧ (k.2.2 a 9 = some (a + 5) ∧ kAr k (a + 5) 23 11) ∧ (k.2.2 a 11 = some (a + 6) ∧ kAr k (a + 6) 20 6) ∧ (k.2.2 a 12 = some (a + 7) ∧ kAr k (a + 7) 20 7) ∧ (k.2.2 a 13 = some (a + 8) ∧ kAr k (a + 8) 23 56) ∧ (k.2.2 a 14 = some (a + 9) ∧ kAr k (a + 9) 20 56) ∧ (k.2.2 a 15 = some (a + 10) ∧ kAr k (a + 10) 20 56) ∧ (k.2.2 a 16 = some (a + 11) ∧ kAr k (a + 11) 20 7) ∧ (k.2.2 a 17 = some (a + 12) ∧ kAr k (a + 12) 23 84) ∧ (k.2.2 a 18 = some (a + 13) ∧ kAr k (a + 13) 20 84) ∧ (k.2.2 a 19 = some (a + 14) ∧ kAr k (a + 14) 22 84) ∧ (k.2.2 a 20 = some (a + 15) ∧ kAr k (a + 15) 20 84) ∧ (k.2.2 a 21 = some (a + 16) ∧ kAr k (a + 16) 20 84) ∧ (k.2.2 a 22 = some (a + 17) ∧ kAr k (a + 17) 20 672) ∧ (k.2.2 a 23 = some (a + 18) ∧ kAr k (a + 18) 22 672) ∧ (k.2.2 a 24 = some (a + 19) ∧ kAr k (a + 19) 20 84) ∧ (k.2.2 a 25 = some (a + 20) ∧ kAr k (a + 20) 20 1680) ∧ (k.2.2 a 26 = some (a + 21) ∧ kAr k (a + 21) 20 1680) ∧ (k.2.2 a 27 = some (a + 22) ∧ kAr k (a + 22) 23 1680) ∧ (k.2.2 a 28 = some (a + 23) ∧ kAr k (a + 23) 20 18200) ∧ (k.2.2 a 29 = some (a + 24) ∧ kAr k (a + 24) 20 18200) ∧ (k.2.2 a 32 = some (a + 25) ∧ kAr k (a + 25) 20 7) ∧ (k.2.2 a 33 = some (a + 26) ∧ kAr k (a + 26) 20 7) ∧ (k.2.2 a 35 = some (a + 27) ∧ kAr k (a + 27) 20 8) ∧ (k.2.2 a 37 = some (a + 28) ∧ kAr k (a + 28) 22 10000) ∧ (k.2.2 a 39 = some (a + 29) ∧ kAr k (a + 29) 20 10000) ∧ (k.2.2 a 40 = some (a + 30) ∧ kAr k (a + 30) 20 2600) ∧ (k.2.2 a 41 = some (a + 31) ∧ kAr k (a + 31) 22 12) ∧ (k.2.2 a 42 = some (a + 32) ∧ kAr k (a + 32) 20 12) ∧ (k.2.2 a 47 = some (a + 33) ∧ kAr k (a + 33) 20 5000) ∧ (k.2.2 a 54 = some (a + 34) ∧ kAr k (a + 34) 20 5000) ∧ (k.2.2 a 55 = some (a + 35) ∧ kAr k (a + 35) 20 12) ∧ (k.2.2 a 56 = some (a + 36) ∧ kAr k (a + 36) 20 8) ∧ (k.2.2 a 57 = some (a + 37) ∧ kAr k (a + 37) 20 5000)
theorem LX11.o {h : SH} {a : Nat} (F : LX11 (Sk h) a) : Ob h a 11 := F.1
theorem LX11.r_tape {h : SH} {a : Nat} (F : LX11 (Sk h) a) : hA h a 1 = some (a + 1) := (F.2.1).1
theorem LX11.a_tape {h : SH} {a : Nat} (F : LX11 (Sk h) a) : Ar h (a + 1) 20 2400 := (F.2.1).2
theorem LX11.r_sort {h : SH} {a : Nat} (F : LX11 (Sk h) a) : hA h a 4 = some (a + 2) := (F.2.2.1).1
theorem LX11.a_sort {h : SH} {a : Nat} (F : LX11 (Sk h) a) : Ar h (a + 2) 20 2402 := (F.2.2.1).2
theorem LX11.r_place {h : SH} {a : Nat} (F : LX11 (Sk h) a) : hA h a 5 = some (a + 3) := (F.2.2.2.1).1
theorem LX11.a_place {h : SH} {a : Nat} (F : LX11 (Sk h) a) : Ar h (a + 3) 20 2402 := (F.2.2.2.1).2
theorem LX11.r_value {h : SH} {a : Nat} (F : LX11 (Sk h) a) : hA h a 6 = some (a + 4) := (F.2.2.2.2.1).1
theorem LX11.a_value {h : SH} {a : Nat} (F : LX11 (Sk h) a) : Ar h (a + 4) 23 2402 := (F.2.2.2.2.1).2
theorem LX11.r_words {h : SH} {a : Nat} (F : LX11 (Sk h) a) : hA h a 9 = some (a + 5) := (F.2.2.2.2.2.1).1
theorem LX11.a_words {h : SH} {a : Nat} (F : LX11 (Sk h) a) : Ar h (a + 5) 23 11 := (F.2.2.2.2.2.1).2
theorem LX11.r_from {h : SH} {a : Nat} (F : LX11 (Sk h) a) : hA h a 11 = some (a + 6) := (F.2.2.2.2.2.2.1).1
theorem LX11.a_from {h : SH} {a : Nat} (F : LX11 (Sk h) a) : Ar h (a + 6) 20 6 := (F.2.2.2.2.2.2.1).2
theorem LX11.r_facts {h : SH} {a : Nat} (F : LX11 (Sk h) a) : hA h a 12 = some (a + 7) := (F.2.2.2.2.2.2.2.1).1
theorem LX11.a_facts {h : SH} {a : Nat} (F : LX11 (Sk h) a) : Ar h (a + 7) 20 7 := (F.2.2.2.2.2.2.2.1).2
theorem LX11.r_factName {h : SH} {a : Nat} (F : LX11 (Sk h) a) : hA h a 13 = some (a + 8) := (F.2.2.2.2.2.2.2.2.1).1
theorem LX11.a_factName {h : SH} {a : Nat} (F : LX11 (Sk h) a) : Ar h (a + 8) 23 56 := (F.2.2.2.2.2.2.2.2.1).2
theorem LX11.r_least {h : SH} {a : Nat} (F : LX11 (Sk h) a) : hA h a 14 = some (a + 9) := (F.2.2.2.2.2.2.2.2.2.1).1
theorem LX11.a_least {h : SH} {a : Nat} (F : LX11 (Sk h) a) : Ar h (a + 9) 20 56 := (F.2.2.2.2.2.2.2.2.2.1).2
theorem LX11.r_most {h : SH} {a : Nat} (F : LX11 (Sk h) a) : hA h a 15 = some (a + 10) := (F.2.2.2.2.2.2.2.2.2.2.1).1
theorem LX11.a_most {h : SH} {a : Nat} (F : LX11 (Sk h) a) : Ar h (a + 10) 20 56 := (F.2.2.2.2.2.2.2.2.2.2.1).2
theorem LX11.r_clauses {h : SH} {a : Nat} (F : LX11 (Sk h) a) : hA h a 16 = some (a + 11) := (F.2.2.2.2.2.2.2.2.2.2.2.1).1
theorem LX11.a_clauses {h : SH} {a : Nat} (F : LX11 (Sk h) a) : Ar h (a + 11) 20 7 := (F.2.2.2.2.2.2.2.2.2.2.2.1).2
theorem LX11.r_clauseName {h : SH} {a : Nat} (F : LX11 (Sk h) a) : hA h a 17 = some (a + 12) := (F.2.2.2.2.2.2.2.2.2.2.2.2.1).1
theorem LX11.a_clauseName {h : SH} {a : Nat} (F : LX11 (Sk h) a) : Ar h (a + 12) 23 84 := (F.2.2.2.2.2.2.2.2.2.2.2.2.1).2
theorem LX11.r_placeOf {h : SH} {a : Nat} (F : LX11 (Sk h) a) : hA h a 18 = some (a + 13) := (F.2.2.2.2.2.2.2.2.2.2.2.2.2.1).1
theorem LX11.a_placeOf {h : SH} {a : Nat} (F : LX11 (Sk h) a) : Ar h (a + 13) 20 84 := (F.2.2.2.2.2.2.2.2.2.2.2.2.2.1).2
theorem LX11.r_isMust {h : SH} {a : Nat} (F : LX11 (Sk h) a) : hA h a 19 = some (a + 14) := (F.2.2.2.2.2.2.2.2.2.2.2.2.2.2.1).1
theorem LX11.a_isMust {h : SH} {a : Nat} (F : LX11 (Sk h) a) : Ar h (a + 14) 22 84 := (F.2.2.2.2.2.2.2.2.2.2.2.2.2.2.1).2
theorem LX11.r_whenAt {h : SH} {a : Nat} (F : LX11 (Sk h) a) : hA h a 20 = some (a + 15) := (F.2.2.2.2.2.2.2.2.2.2.2.2.2.2.2.1).1
theorem LX11.a_whenAt {h : SH} {a : Nat} (F : LX11 (Sk h) a) : Ar h (a + 15) 20 84 := (F.2.2.2.2.2.2.2.2.2.2.2.2.2.2.2.1).2
theorem LX11.r_links {h : SH} {a : Nat} (F : LX11 (Sk h) a) : hA h a 21 = some (a + 16) := (F.2.2.2.2.2.2.2.2.2.2.2.2.2.2.2.2.1).1
theorem LX11.a_links {h : SH} {a : Nat} (F : LX11 (Sk h) a) : Ar h (a + 16) 20 84 := (F.2.2.2.2.2.2.2.2.2.2.2.2.2.2.2.2.1).2
theorem LX11.r_linkTo {h : SH} {a : Nat} (F : LX11 (Sk h) a) : hA h a 22 = some (a + 17) := (F.2.2.2.2.2.2.2.2.2.2.2.2.2.2.2.2.2.1).1
theorem LX11.a_linkTo {h : SH} {a : Nat} (F : LX11 (Sk h) a) : Ar h (a + 17) 20 672 := (F.2.2.2.2.2.2.2.2.2.2.2.2.2.2.2.2.2.1).2
theorem LX11.r_isBar {h : SH} {a : Nat} (F : LX11 (Sk h) a) : hA h a 23 = some (a + 18) := (F.2.2.2.2.2.2.2.2.2.2.2.2.2.2.2.2.2.2.1).1
theorem LX11.a_isBar {h : SH} {a : Nat} (F : LX11 (Sk h) a) : Ar h (a + 18) 22 672 := (F.2.2.2.2.2.2.2.2.2.2.2.2.2.2.2.2.2.2.1).2
theorem LX11.r_items {h : SH} {a : Nat} (F : LX11 (Sk h) a) : hA h a 24 = some (a + 19) := (F.2.2.2.2.2.2.2.2.2.2.2.2.2.2.2.2.2.2.2.1).1
theorem LX11.a_items {h : SH} {a : Nat} (F : LX11 (Sk h) a) : Ar h (a + 19) 20 84 := (F.2.2.2.2.2.2.2.2.2.2.2.2.2.2.2.2.2.2.2.1).2
theorem LX11.r_itemKind {h : SH} {a : Nat} (F : LX11 (Sk h) a) : hA h a 25 = some (a + 20) := (F.2.2.2.2.2.2.2.2.2.2.2.2.2.2.2.2.2.2.2.2.1).1
theorem LX11.a_itemKind {h : SH} {a : Nat} (F : LX11 (Sk h) a) : Ar h (a + 20) 20 1680 := (F.2.2.2.2.2.2.2.2.2.2.2.2.2.2.2.2.2.2.2.2.1).2
theorem LX11.r_itemAt {h : SH} {a : Nat} (F : LX11 (Sk h) a) : hA h a 26 = some (a + 21) := (F.2.2.2.2.2.2.2.2.2.2.2.2.2.2.2.2.2.2.2.2.2.1).1
theorem LX11.a_itemAt {h : SH} {a : Nat} (F : LX11 (Sk h) a) : Ar h (a + 21) 20 1680 := (F.2.2.2.2.2.2.2.2.2.2.2.2.2.2.2.2.2.2.2.2.2.1).2
theorem LX11.r_itemWord {h : SH} {a : Nat} (F : LX11 (Sk h) a) : hA h a 27 = some (a + 22) := (F.2.2.2.2.2.2.2.2.2.2.2.2.2.2.2.2.2.2.2.2.2.2.1).1
theorem LX11.a_itemWord {h : SH} {a : Nat} (F : LX11 (Sk h) a) : Ar h (a + 22) 23 1680 := (F.2.2.2.2.2.2.2.2.2.2.2.2.2.2.2.2.2.2.2.2.2.2.1).2
theorem LX11.r_op {h : SH} {a : Nat} (F : LX11 (Sk h) a) : hA h a 28 = some (a + 23) := (F.2.2.2.2.2.2.2.2.2.2.2.2.2.2.2.2.2.2.2.2.2.2.2.1).1
theorem LX11.a_op {h : SH} {a : Nat} (F : LX11 (Sk h) a) : Ar h (a + 23) 20 18200 := (F.2.2.2.2.2.2.2.2.2.2.2.2.2.2.2.2.2.2.2.2.2.2.2.1).2
theorem LX11.r_one {h : SH} {a : Nat} (F : LX11 (Sk h) a) : hA h a 29 = some (a + 24) := (F.2.2.2.2.2.2.2.2.2.2.2.2.2.2.2.2.2.2.2.2.2.2.2.2.1).1
theorem LX11.a_one {h : SH} {a : Nat} (F : LX11 (Sk h) a) : Ar h (a + 24) 20 18200 := (F.2.2.2.2.2.2.2.2.2.2.2.2.2.2.2.2.2.2.2.2.2.2.2.2.1).2
theorem LX11.r_sumWaits {h : SH} {a : Nat} (F : LX11 (Sk h) a) : hA h a 32 = some (a + 25) := (F.2.2.2.2.2.2.2.2.2.2.2.2.2.2.2.2.2.2.2.2.2.2.2.2.2.1).1
theorem LX11.a_sumWaits {h : SH} {a : Nat} (F : LX11 (Sk h) a) : Ar h (a + 25) 20 7 := (F.2.2.2.2.2.2.2.2.2.2.2.2.2.2.2.2.2.2.2.2.2.2.2.2.2.1).2
theorem LX11.r_signWaits {h : SH} {a : Nat} (F : LX11 (Sk h) a) : hA h a 33 = some (a + 26) := (F.2.2.2.2.2.2.2.2.2.2.2.2.2.2.2.2.2.2.2.2.2.2.2.2.2.2.1).1
theorem LX11.a_signWaits {h : SH} {a : Nat} (F : LX11 (Sk h) a) : Ar h (a + 26) 20 7 := (F.2.2.2.2.2.2.2.2.2.2.2.2.2.2.2.2.2.2.2.2.2.2.2.2.2.2.1).2
theorem LX11.r_told {h : SH} {a : Nat} (F : LX11 (Sk h) a) : hA h a 35 = some (a + 27) := (F.2.2.2.2.2.2.2.2.2.2.2.2.2.2.2.2.2.2.2.2.2.2.2.2.2.2.2.1).1
theorem LX11.a_told {h : SH} {a : Nat} (F : LX11 (Sk h) a) : Ar h (a + 27) 20 8 := (F.2.2.2.2.2.2.2.2.2.2.2.2.2.2.2.2.2.2.2.2.2.2.2.2.2.2.2.1).2
theorem LX11.r_isFree {h : SH} {a : Nat} (F : LX11 (Sk h) a) : hA h a 37 = some (a + 28) := (F.2.2.2.2.2.2.2.2.2.2.2.2.2.2.2.2.2.2.2.2.2.2.2.2.2.2.2.2.1).1
theorem LX11.a_isFree {h : SH} {a : Nat} (F : LX11 (Sk h) a) : Ar h (a + 28) 22 10000 := (F.2.2.2.2.2.2.2.2.2.2.2.2.2.2.2.2.2.2.2.2.2.2.2.2.2.2.2.2.1).2
theorem LX11.r_behind {h : SH} {a : Nat} (F : LX11 (Sk h) a) : hA h a 39 = some (a + 29) := (F.2.2.2.2.2.2.2.2.2.2.2.2.2.2.2.2.2.2.2.2.2.2.2.2.2.2.2.2.2.1).1
theorem LX11.a_behind {h : SH} {a : Nat} (F : LX11 (Sk h) a) : Ar h (a + 29) 20 10000 := (F.2.2.2.2.2.2.2.2.2.2.2.2.2.2.2.2.2.2.2.2.2.2.2.2.2.2.2.2.2.1).2
theorem LX11.r_pile {h : SH} {a : Nat} (F : LX11 (Sk h) a) : hA h a 40 = some (a + 30) := (F.2.2.2.2.2.2.2.2.2.2.2.2.2.2.2.2.2.2.2.2.2.2.2.2.2.2.2.2.2.2.1).1
theorem LX11.a_pile {h : SH} {a : Nat} (F : LX11 (Sk h) a) : Ar h (a + 30) 20 2600 := (F.2.2.2.2.2.2.2.2.2.2.2.2.2.2.2.2.2.2.2.2.2.2.2.2.2.2.2.2.2.2.1).2
theorem LX11.r_isIn {h : SH} {a : Nat} (F : LX11 (Sk h) a) : hA h a 41 = some (a + 31) := (F.2.2.2.2.2.2.2.2.2.2.2.2.2.2.2.2.2.2.2.2.2.2.2.2.2.2.2.2.2.2.2.1).1
theorem LX11.a_isIn {h : SH} {a : Nat} (F : LX11 (Sk h) a) : Ar h (a + 31) 22 12 := (F.2.2.2.2.2.2.2.2.2.2.2.2.2.2.2.2.2.2.2.2.2.2.2.2.2.2.2.2.2.2.2.1).2
theorem LX11.r_part {h : SH} {a : Nat} (F : LX11 (Sk h) a) : hA h a 42 = some (a + 32) := (F.2.2.2.2.2.2.2.2.2.2.2.2.2.2.2.2.2.2.2.2.2.2.2.2.2.2.2.2.2.2.2.2.1).1
theorem LX11.a_part {h : SH} {a : Nat} (F : LX11 (Sk h) a) : Ar h (a + 32) 20 12 := (F.2.2.2.2.2.2.2.2.2.2.2.2.2.2.2.2.2.2.2.2.2.2.2.2.2.2.2.2.2.2.2.2.1).2
theorem LX11.r_out {h : SH} {a : Nat} (F : LX11 (Sk h) a) : hA h a 47 = some (a + 33) := (F.2.2.2.2.2.2.2.2.2.2.2.2.2.2.2.2.2.2.2.2.2.2.2.2.2.2.2.2.2.2.2.2.2.1).1
theorem LX11.a_out {h : SH} {a : Nat} (F : LX11 (Sk h) a) : Ar h (a + 33) 20 5000 := (F.2.2.2.2.2.2.2.2.2.2.2.2.2.2.2.2.2.2.2.2.2.2.2.2.2.2.2.2.2.2.2.2.2.1).2
theorem LX11.r_latestOut {h : SH} {a : Nat} (F : LX11 (Sk h) a) : hA h a 54 = some (a + 34) := (F.2.2.2.2.2.2.2.2.2.2.2.2.2.2.2.2.2.2.2.2.2.2.2.2.2.2.2.2.2.2.2.2.2.2.1).1
theorem LX11.a_latestOut {h : SH} {a : Nat} (F : LX11 (Sk h) a) : Ar h (a + 34) 20 5000 := (F.2.2.2.2.2.2.2.2.2.2.2.2.2.2.2.2.2.2.2.2.2.2.2.2.2.2.2.2.2.2.2.2.2.2.1).2
theorem LX11.r_latestPart {h : SH} {a : Nat} (F : LX11 (Sk h) a) : hA h a 55 = some (a + 35) := (F.2.2.2.2.2.2.2.2.2.2.2.2.2.2.2.2.2.2.2.2.2.2.2.2.2.2.2.2.2.2.2.2.2.2.2.1).1
theorem LX11.a_latestPart {h : SH} {a : Nat} (F : LX11 (Sk h) a) : Ar h (a + 35) 20 12 := (F.2.2.2.2.2.2.2.2.2.2.2.2.2.2.2.2.2.2.2.2.2.2.2.2.2.2.2.2.2.2.2.2.2.2.2.1).2
theorem LX11.r_keptFacts {h : SH} {a : Nat} (F : LX11 (Sk h) a) : hA h a 56 = some (a + 36) := (F.2.2.2.2.2.2.2.2.2.2.2.2.2.2.2.2.2.2.2.2.2.2.2.2.2.2.2.2.2.2.2.2.2.2.2.2.1).1
theorem LX11.a_keptFacts {h : SH} {a : Nat} (F : LX11 (Sk h) a) : Ar h (a + 36) 20 8 := (F.2.2.2.2.2.2.2.2.2.2.2.2.2.2.2.2.2.2.2.2.2.2.2.2.2.2.2.2.2.2.2.2.2.2.2.2.1).2
theorem LX11.r_otherOut {h : SH} {a : Nat} (F : LX11 (Sk h) a) : hA h a 57 = some (a + 37) := (F.2.2.2.2.2.2.2.2.2.2.2.2.2.2.2.2.2.2.2.2.2.2.2.2.2.2.2.2.2.2.2.2.2.2.2.2.2).1
theorem LX11.a_otherOut {h : SH} {a : Nat} (F : LX11 (Sk h) a) : Ar h (a + 37) 20 5000 := (F.2.2.2.2.2.2.2.2.2.2.2.2.2.2.2.2.2.2.2.2.2.2.2.2.2.2.2.2.2.2.2.2.2.2.2.2.2).2
