/-! ===== THE SMALL MACHINE: a heap of typed rows at addresses counted from the law's start; Gd: from this frame on the method ends so that P holds ===== -/
abbrev SH : Type := Nat × (Nat → Nat × Nat) × (Nat → Nat → Int32) × (Nat → Nat → Int64) × (Nat → Nat → Option Nat)
def hz (h : SH) : Nat := h.1
def hK (h : SH) (a : Nat) : Nat := (h.2.1 a).1
def hN (h : SH) (a : Nat) : Nat := (h.2.1 a).2
def hI (h : SH) : Nat → Nat → Int32 := h.2.2.1
def hJ (h : SH) : Nat → Nat → Int64 := h.2.2.2.1
def hA (h : SH) : Nat → Nat → Option Nat := h.2.2.2.2
def u2 {α : Type} (f : Nat → Nat → α) (a i : Nat) (v : α) : Nat → Nat → α := fun b j => if b = a ∧ j = i then v else f b j
def sI (h : SH) (a i : Nat) (v : Int32) : SH := (h.1, h.2.1, u2 h.2.2.1 a i v, h.2.2.2.1, h.2.2.2.2)
def sJ (h : SH) (a i : Nat) (v : Int64) : SH := (h.1, h.2.1, h.2.2.1, u2 h.2.2.2.1 a i v, h.2.2.2.2)
def sA (h : SH) (a i : Nat) (v : Option Nat) : SH := (h.1, h.2.1, h.2.2.1, h.2.2.2.1, u2 h.2.2.2.2 a i v)
/-- a new cell of kind k with n places, all 0 or null -/
def nw (h : SH) (k n : Nat) : SH := (h.1 + 1, (fun b => if b = h.1 then (k, n) else h.2.1 b), (fun b j => if b = h.1 then 0 else h.2.2.1 b j), (fun b j => if b = h.1 then 0 else h.2.2.2.1 b j), (fun b j => if b = h.1 then none else h.2.2.2.2 b j))
/-- cells of which nothing is known, up to n -/
def ext (h : SH) (n : Nat) : SH := (n, (fun b => if h.1 ≤ b ∧ b < n then (99, 0) else h.2.1 b), h.2.2.1, h.2.2.2.1, h.2.2.2.2)
/-- the run: the law's first state, its launch, the classes and slots, the classes of arrays, the old cells, the script -/
abbrev GX : Type := State × Launch × va_G × (Nat → ClassId) × (Nat → Nat) × Nat × (Nat → Int32)
abbrev xs0 (X : GX) : State := X.1
abbrev xl (X : GX) : Launch := X.2.1
abbrev xD (X : GX) : va_G := X.2.2.1
abbrev xac (X : GX) : Nat → ClassId := X.2.2.2.1
abbrev xph (X : GX) : Nat → Nat := X.2.2.2.2.1
abbrev xL (X : GX) : Nat := X.2.2.2.2.2.1
abbrev xsc (X : GX) : Nat → Int32 := X.2.2.2.2.2.2
def ph (X : GX) (a : Nat) : Nat := if a < 8 then xph X a else (xs0 X).heap.size + (a - 8)
theorem ph_ge {X : GX} {a : Nat} (h : 8 ≤ a) : ph X a = (xs0 X).heap.size + (a - 8) := by unfold ph; rw [if_neg (by omega)]
theorem ph_inj {X : GX} {a b : Nat} (ha : 8 ≤ a) (hb : 8 ≤ b) (h : ph X a = ph X b) : a = b := by rw [ph_ge ha, ph_ge hb] at h; omega
def mv (X : GX) (v : Value) : Value := match v with
  | .ref a => .ref (ph X a)
  | w => w
def ctR (c : Nat) : String := match c with
  | 0 => RX0 | 1 => RX1 | 2 => RX2 | 3 => RX3 | 4 => RX4 | 5 => RX5 | 6 => RX6 | 7 => RX7 | 8 => RX8 | 9 => RX9 | 10 => RX10 | _ => RX11
def ctT (c : Nat) : u_T := match c with
  | 0 => TX0 | 1 => TX1 | 2 => TX2 | 3 => TX3 | 4 => TX4 | 5 => TX5 | 6 => TX6 | 7 => TX7 | 8 => TX8 | 9 => TX9 | 10 => TX10 | _ => TX11
def ctN (c : Nat) : Nat := match c with
  | 0 => 2 | 1 => 2 | 2 => 10 | 3 => 13 | 4 => 1 | 5 => 4 | 6 => 9 | 7 => 9 | 8 => 8 | 9 => 11 | 10 => 10 | _ => 58
def ctY (c : Nat) : Nat → FieldType := match c with
  | 0 => tyX0 | 1 => tyX1 | 2 => tyX2 | 3 => tyX3 | 4 => tyX4 | 5 => tyX5 | 6 => tyX6 | 7 => tyX7 | 8 => tyX8 | 9 => tyX9 | 10 => tyX10 | _ => tyX11
def ctl : List vw_C := [(RX0, TX0, 2), (RX1, TX1, 2), (RX2, TX2, 10), (RX3, TX3, 13), (RX4, TX4, 1), (RX5, TX5, 4), (RX6, TX6, 9), (RX7, TX7, 9), (RX8, TX8, 8), (RX9, TX9, 11), (RX10, TX10, 10), (RX11, TX11, 58)]
theorem ctl_at : ∀ c : Nat, c < 12 → ctl[c]? = some (ctR c, ctT c, ctN c)
  | 0, _ => rfl | 1, _ => rfl | 2, _ => rfl | 3, _ => rfl | 4, _ => rfl | 5, _ => rfl | 6, _ => rfl | 7, _ => rfl | 8, _ => rfl | 9, _ => rfl | 10, _ => rfl | 11, _ => rfl
  | n + 12, h => absurd h (by omega)
theorem ct_nm : ∀ c : Nat, c < 12 → ∀ a, a < ctN c → ∀ b, b < ctN c → a ≠ b → (ctT c a).2.1 ≠ (ctT c b).2.1
  | 0, _ => nmX0 | 1, _ => nmX1 | 2, _ => nmX2 | 3, _ => nmX3 | 4, _ => nmX4 | 5, _ => nmX5 | 6, _ => nmX6 | 7, _ => nmX7 | 8, _ => nmX8 | 9, _ => nmX9 | 10, _ => nmX10 | 11, _ => nmX11
  | n + 12, h => absurd h (by omega)
theorem ct_ty : ∀ c : Nat, c < 12 → ∀ k, k < ctN c → parseFieldDescriptor (ctT c k).2.2.1 = some (ctY c k)
  | 0, _ => tyX0_ok | 1, _ => tyX1_ok | 2, _ => tyX2_ok | 3, _ => tyX3_ok | 4, _ => tyX4_ok | 5, _ => tyX5_ok | 6, _ => tyX6_ok | 7, _ => tyX7_ok | 8, _ => tyX8_ok | 9, _ => tyX9_ok | 10, _ => tyX10_ok | 11, _ => tyX11_ok
  | n + 12, h => absurd h (by omega)
/-- the element types of the arrays' kinds 20 .. 26 -/
def arT (k : Nat) : FieldType := match k with
  | 20 => .int | 21 => .byte | 22 => .boolean | 23 => .long | 24 => .object "LetterDesk$Edition" | 25 => .object "LetterDesk$Clause" | _ => .object "LetterDesk$Item"
def tysX (X : GX) : List (ClassId × FieldType) := [(xac X 20, .int), (xac X 21, .byte), (xac X 22, .boolean), (xac X 23, .long), (xac X 24, .object "LetterDesk$Edition"), (xac X 25, .object "LetterDesk$Clause"), (xac X 26, .object "LetterDesk$Item")]
theorem tysX_at {X : GX} : ∀ k : Nat, k < 7 → (tysX X)[k]? = some (xac X (20 + k), arT (20 + k))
  | 0, _ => rfl | 1, _ => rfl | 2, _ => rfl | 3, _ => rfl | 4, _ => rfl | 5, _ => rfl | 6, _ => rfl
  | n + 7, h => absurd h (by omega)
/-- a field's value, by its type -/
def fvT (X : GX) (h : SH) (a k : Nat) (t : FieldType) : Value := match t with
  | .long => .long (hJ h a k)
  | .object _ => va_rf ((hA h a k).map (ph X))
  | .array _ => va_rf ((hA h a k).map (ph X))
  | _ => .int (hI h a k)
def fvs (X : GX) (h : SH) (a c : Nat) : List Value := (List.range (ctN c)).map (fun k => fvT X h a k (ctY c k))
def arE (X : GX) (h : SH) (a k : Nat) : (Nat → Int32) ⊕ (Nat → Int64) ⊕ (Nat → UInt32) ⊕ (Nat → UInt64) ⊕ (Nat → Option Nat) :=
  if k = 23 then .inr (.inl (hJ h a)) else if 24 ≤ k then .inr (.inr (.inr (.inr (fun i => (hA h a i).map (ph X))))) else .inl (hI h a)
/-- what a cell holds -/
def eE (X : GX) (h : SH) (a : Nat) : va_E := if hK h a < 12 then .inr (hK h a, fvs X h a (hK h a)) else .inl (xac X (hK h a), hN h a, arE X h a (hK h a))
def VR (X : GX) (h : SH) (H : Heap) : Prop :=
  8 ≤ hz h ∧ H.size = ph X (hz h) ∧ (∀ q : Nat, q < (xs0 X).heap.size → H[q]? = (xs0 X).heap[q]?) ∧ ∀ a : Nat, 8 ≤ a → a < hz h → hK h a ≠ 99 → va_at (xD X) ctl (ph X a, eE X h a) H
/-- the locals that are known -/
def lvl (X : GX) : Nat → List (Option Value) → List (Nat × Value)
  | _, [] => []
  | i, none :: r => lvl X (i + 1) r
  | i, some v :: r => (i, mv X v) :: lvl X (i + 1) r
abbrev Out : Type := Option Value ⊕ String
/-- a method: name, code, locals, its answer's type, its depth, its table -/
abbrev MI : Type := MethodName × ByteArray × Nat × Option FieldType × Nat × List (Nat × Nat × Nat × Nat)
def fr (X : GX) : Addr → Prop := fun q => (xs0 X).heap.size ≤ q
/-- the texts that are asked: the reserved words, the signs -/
def lenS : List Nat := [52, 7]
def bytS : List (List Int32) := [[102, 97, 99, 116, 32, 116, 111, 32, 99, 108, 97, 117, 115, 101, 32, 97, 116, 32, 109, 117, 115, 116, 32, 119, 104, 101, 110, 32, 110, 101, 101, 100, 115, 32, 98, 97, 114, 115, 32, 115, 97, 121, 115, 32, 114, 101, 102, 32, 100, 97, 121, 32], [40, 41, 60, 61, 43, 45, 59]]
def ixS (i : Nat) : Nat := match i with
  | 0 => 88 | _ => 53
def txS (i : Nat) : String := match i with
  | 0 => "fact to clause at must when needs bars says ref day " | _ => "()<=+-;"
def S0 (X : GX) : Prop :=
  (∀ w ∈ lw_tbl, w.before #[Value.ref (xph X 0)] (xs0 X) = true) ∧ va_K (xD X) ctl (tysX X) (xs0 X) ∧
  (va_X (xph X 0) (xL X) (xsc X) (xs0 X) (xs0 X).heap ∧ ∀ a, a < 8 → xph X a < (xs0 X).heap.size) ∧ (xl X).stackTraces = false ∧
  (vk_S 2 lenS bytS (fun i => xph X (1 + i)) (fun i => xph X (3 + i)) (fr X) (xs0 X) (xs0 X).heap ∧ (∀ i, i < 2 → vk_R RX9 (ixS i) (txS i) (xph X (1 + i)) (xs0 X)) ∧
    (∃ a, vk_R RX7 66 "the token in hand is wrong" a (xs0 X)) ∧ (∃ a, vk_R RX10 192 "no such fact, or nothing such of it" a (xs0 X)) ∧
    vx_Zq Bundle.tN "UNASSIGNED_STACK" Bundle.steD (fr X) (xs0 X) (xs0 X).heap ∧ vx_Zq Bundle.tN "SUPPRESSED_SENTINEL" Bundle.listD (fr X) (xs0 X) (xs0 X).heap ∧ va_Z "java/lang/String" "COMPACT_STRINGS" "Z" (.int 1) (fr X) (xs0 X) (xs0 X).heap)
def Act (X : GX) (M : MI) (p : Program) (R : Room) (s : State) (m : MethodId) (meth : Method) (c : Code) : Prop :=
  S0 X ∧ (p.tables.exec = Jvm.exec ∧ c.code = M.2.1 ∧ meth.sig.returnType = M.2.2.2.1 ∧ c.maxLocals = M.2.2.1 ∧ s.vm.findClass M.1.cls = some m.cls ∧ meth.locks = false ∧ meth.name = M.1.name ∧ c.exceptionTable.toList = tableOf M.2.2.2.2.2) ∧
  (xs0 X).WarmedH s.vm ∧ (∀ q : Nat, q < (xs0 X).heap.size → s.heap[q]? = (xs0 X).heap[q]?) ∧ (xs0 X).heap.size ≤ s.heap.size ∧ M.2.2.2.2.1 ≤ R.frames ∧ 38 * M.2.2.2.2.1 ≤ R.locals
def Qo (X : GX) (P : Out → SH → Prop) : Array Value → State → Outcome → State → Prop := fun _ _ oc t => ∃ (v : Option Value) (h2 : SH), P (.inl v) h2 ∧ oc = .returned (v.map (mv X)) ∧ VR X h2 t.heap
def Xo (X : GX) (P : Out → SH → Prop) : String → State → State → Prop := fun E _ t => ∃ h2 : SH, P (.inr E) h2 ∧ VR X h2 t.heap
/-- what a place in a method's run is given: the room that is left, the heap, the locals -/
def St (X : GX) (M : MI) (R : Room) (L : List (Option Value)) (h : SH) (nc ns : Nat) (H : Heap) (locs : List Loc) (cells slots : Nat) (ls : Array Slot) (mc ms : Nat) : Prop :=
  VR X h H ∧ lv_has ls M.2.2.1 (lvl X 0 L) ∧ (∀ z ∈ locs, (xs0 X).heap.size ≤ z.base) ∧ cells + nc ≤ mc ∧ slots + ns ≤ ms ∧ mc ≤ R.cells ∧ ms ≤ R.slots
def Gd (X : GX) (M : MI) (pc : Nat) (L : List (Option Value)) (st : List Value) (h : SH) (nc ns : Nat) (P : Out → SH → Prop) : Prop :=
  ∀ (p : Program) (e : Env) (R : Room) (s : State) (m : MethodId) (args : Array Value) (below : List Frame) (meth : Method) (c : Code), Act X M p R s m meth c →
    ∀ (H : Heap) (locs : List Loc) (cells slots : Nat) (ls : Array Slot) (mc ms : Nat), St X M R L h nc ns H locs cells slots ls mc ms →
      W p (xl X) e R s m args below meth c H locs cells slots (vx_MQ below (Qo X P) (Xo X P) args s mc ms (fr X)) (F0 m pc ls (st.map (mv X)))
/-- a place's run goes on at another: the same locals, heap and room -/
theorem Gd.go {X : GX} {M : MI} {pc pc2 : Nat} {L : List (Option Value)} {st st2 : List Value} {h : SH} {nc ns : Nat} {P : Out → SH → Prop}
    (k : ∀ (p : Program) (e : Env) (R : Room) (s : State) (m : MethodId) (args : Array Value) (below : List Frame) (meth : Method) (c : Code), Act X M p R s m meth c → ∀ (H : Heap) (locs : List Loc) (cells slots : Nat) (ls : Array Slot) (Q : State → Prop), lv_has ls M.2.2.1 (lvl X 0 L) → VR X h H →
      W p (xl X) e R s m args below meth c H locs cells slots Q (F0 m pc2 ls (st2.map (mv X))) → W p (xl X) e R s m args below meth c H locs cells slots Q (F0 m pc ls (st.map (mv X))))
    (g : Gd X M pc2 L st2 h nc ns P) : Gd X M pc L st h nc ns P :=
  fun p e R s m args below meth c A H locs cells slots ls mc ms S => k p e R s m args below meth c A H locs cells slots ls _ S.2.1 S.1 (g p e R s m args below meth c A H locs cells slots ls mc ms S)
theorem lvl_mem {X : GX} {v : Value} : ∀ {L : List (Option Value)} {i j : Nat}, L[i]? = some (some v) → (j + i, mv X v) ∈ lvl X j L
  | [], i, j, h => by simp at h
  | none :: r, 0, j, h => by simp at h
  | some w :: r, 0, j, h => by
    simp at h; subst h; simp [lvl]
  | none :: r, i + 1, j, h => by
    have h1 := lvl_mem (X := X) (j := j + 1) (L := r) (i := i) (by simpa using h)
    simp only [lvl]
    rw [show j + (i + 1) = j + 1 + i by omega]; exact h1
  | some w :: r, i + 1, j, h => by
    have h1 := lvl_mem (X := X) (j := j + 1) (L := r) (i := i) (by simpa using h)
    simp only [lvl]
    rw [show j + (i + 1) = j + 1 + i by omega]; exact List.mem_cons_of_mem _ h1
theorem lvl_of {X : GX} : ∀ {L : List (Option Value)} {j : Nat} {q : Nat × Value}, q ∈ lvl X j L → ∃ (i : Nat) (v : Value), L[i]? = some (some v) ∧ q = (j + i, mv X v)
  | [], j, q, h => by simp [lvl] at h
  | none :: r, j, q, h => by
    obtain ⟨i, v, h1, h2⟩ := lvl_of (L := r) (j := j + 1) h
    exact ⟨i + 1, v, by simpa using h1, by rw [h2, show j + (i + 1) = j + 1 + i by omega]⟩
  | some w :: r, j, q, h => by
    simp only [lvl, List.mem_cons] at h
    rcases h with h | h
    · exact ⟨0, w, by simp, by rw [h]; rfl⟩
    · obtain ⟨i, v, h1, h2⟩ := lvl_of (L := r) (j := j + 1) h
      exact ⟨i + 1, v, by simpa using h1, by rw [h2, show j + (i + 1) = j + 1 + i by omega]⟩
theorem lvl_at {X : GX} {ls : Array Slot} {n : Nat} {L : List (Option Value)} {i : Nat} {v : Value} (h : lv_has ls n (lvl X 0 L)) (hi : L[i]? = some (some v)) : ls[i]? = some (.val (mv X v)) := by
  have := h.2.2 (0 + i, mv X v) (lvl_mem hi)
  simpa using this
theorem lv_le {ls : Array Slot} {n : Nat} {l l' : List (Nat × Value)} (h : lv_has ls n l) (hs : ∀ q ∈ l', q ∈ l) : lv_has ls n l' := ⟨h.1, h.2.1, fun q hq => h.2.2 q (hs q hq)⟩
/-- fewer locals known -/
theorem Gd.weak {X : GX} {M : MI} {pc : Nat} {L L' : List (Option Value)} {st : List Value} {h : SH} {nc ns : Nat} {P : Out → SH → Prop} (hs : ∀ (i : Nat) (v : Value), L'[i]? = some (some v) → L[i]? = some (some v)) (g : Gd X M pc L' st h nc ns P) : Gd X M pc L st h nc ns P :=
  fun p e R s m args below meth c A H locs cells slots ls mc ms S => g p e R s m args below meth c A H locs cells slots ls mc ms ⟨S.1, lv_le S.2.1 (fun q hq => by
    obtain ⟨i, v, h1, h2⟩ := lvl_of hq
    rw [h2]; exact lvl_mem (hs i v h1)), S.2.2⟩
theorem W.post {p : Program} {l : Launch} {e : Env} {R : Room} {s : State} {m : MethodId} {args : Array Value} {below : List Frame} {meth : Method} {c : Code} {H : Heap} {locs : List Loc} {cells slots : Nat} {Q Q' : State → Prop} {g : JFrame} (hQ : ∀ t, Q t → Q' t)
    (k : W p l e R s m args below meth c H locs cells slots Q g) : W p l e R s m args below meth c H locs cells slots Q' g := fun T hT X => by
  obtain ⟨t, a, b⟩ := k T hT X
  exact ⟨t, a, hQ t b⟩
theorem Gd.mono {X : GX} {M : MI} {pc : Nat} {L : List (Option Value)} {st : List Value} {h : SH} {nc ns nc' ns' : Nat} {P P' : Out → SH → Prop} (h1 : nc ≤ nc') (h2 : ns ≤ ns') (hP : ∀ o t, P o t → P' o t) (g : Gd X M pc L st h nc ns P) : Gd X M pc L st h nc' ns' P' :=
  fun p e R s m args below meth c A H locs cells slots ls mc ms ⟨a1, a2, a3, a4, a5, a6, a7⟩ => W.post (fun t ⟨o, b1, b2, b3⟩ => ⟨o, b1, b2, b3.elim (fun ⟨⟨v, h2, c1, c2, c3⟩, d⟩ => Or.inl ⟨⟨v, h2, hP _ _ c1, c2, c3⟩, d⟩) (fun ⟨q, e1, E, ce, Lc, ⟨h2, c1, c2⟩, d⟩ => Or.inr ⟨q, e1, E, ce, Lc, ⟨h2, hP _ _ c1, c2⟩, d⟩)⟩)
    (g p e R s m args below meth c A H locs cells slots ls mc ms ⟨a1, a2, a3, by omega, by omega, a6, a7⟩)
