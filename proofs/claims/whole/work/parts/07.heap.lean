/-! ===== the rules over the heap ===== -/
/-- a is an object of the class c; an array of the kind k with n places -/
def Ob (h : SH) (a c : Nat) : Prop := 8 ≤ a ∧ a < hz h ∧ hK h a = c
def Ar (h : SH) (a k n : Nat) : Prop := 8 ≤ a ∧ a < hz h ∧ hK h a = k ∧ hN h a = n
theorem VR.ob {X : GX} {h : SH} {H : Heap} {a c : Nat} (V : VR X h H) (ho : Ob h a c) (hc : c < 12) : va_at (xD X) ctl (ph X a, .inr (c, fvs X h a c)) H := by
  have := V.2.2.2 a ho.1 ho.2.1 (by rw [ho.2.2]; omega)
  unfold eE at this
  rw [ho.2.2, if_pos hc] at this
  exact this
theorem VR.ar {X : GX} {h : SH} {H : Heap} {a k n : Nat} (V : VR X h H) (ho : Ar h a k n) (hk : 12 ≤ k) (h9 : k ≠ 99) : va_at (xD X) ctl (ph X a, .inl (xac X k, n, arE X h a k)) H := by
  have := V.2.2.2 a ho.1 ho.2.1 (by rw [ho.2.2.1]; omega)
  unfold eE at this
  rw [ho.2.2.1, ho.2.2.2, if_neg (by omega)] at this
  exact this
theorem va_one {D : va_G} {cl : List vw_C} {q : Nat × va_E} {H : Heap} (h : va_at D cl q H) : va_P D cl [q] H := fun k x hx => by
  cases k with
  | zero => cases hx; exact h
  | succ k => simp at hx
theorem ct_lays : ∀ c : Nat, c < 12 → ∀ w ∈ u_ws (ctR c) (ctT c) (ctN c), KW w := by
  have key : ∀ c ∈ List.range 12, ∀ w ∈ u_ws (ctR c) (ctT c) (ctN c), w ∈ lw_tbl ∧ goodWord w = true := by decide +kernel
  intro c hc w hw
  exact key c (List.mem_range.mpr hc) w hw
theorem Act.lays {X : GX} {M : MI} {p : Program} {R : Room} {s : State} {m : MethodId} {meth : Method} {c : Code} (A : Act X M p R s m meth c) {k : Nat} (hk : k < 12) (a : Array Value) : ∀ w ∈ u_ws (ctR k) (ctT k) (ctN k), w.before a s = true := fun w hw => A.word (ct_lays k hk w hw) a
theorem fvs_at {X : GX} {h : SH} {a c k : Nat} (hk : k < ctN c) : (fvs X h a c)[k]? = some (fvT X h a k (ctY c k)) := by
  unfold fvs; rw [List.getElem?_map, List.getElem?_range hk]; rfl
theorem fvs_V {X : GX} {h : SH} {a c k : Nat} (hk : k < ctN c) : vp_V (fvs X h a c) k = fvT X h a k (ctY c k) := by
  unfold vp_V; rw [List.getD_eq_getElem?_getD, fvs_at hk]; rfl
def tI (t : FieldType) : Bool := match t with
  | .int => true | .boolean => true | .byte => true | .char => true | .short => true | _ => false
def tA (t : FieldType) : Bool := match t with
  | .object _ => true | .array _ => true | _ => false
theorem fvT_I {X : GX} {h : SH} {a k : Nat} {t : FieldType} (ht : tI t = true) : fvT X h a k t = .int (hI h a k) := by cases t <;> first | rfl | (simp [tI] at ht)
theorem fvT_A {X : GX} {h : SH} {a k : Nat} {t : FieldType} (ht : tA t = true) : fvT X h a k t = va_rf ((hA h a k).map (ph X)) := by cases t <;> first | rfl | (simp [tA] at ht)
theorem fvT_J {X : GX} {h : SH} {a k : Nat} : fvT X h a k .long = .long (hJ h a k) := rfl
section GR
variable {X : GX} {M : MI} {pc : Nat} {L : List (Option Value)} {st : List Value} {h : SH} {nc ns : Nat} {P : Out → SH → Prop}
theorem g_get {c k idx a : Nat} {v : Value} (hd : decode M.2.1 pc = .ok (.getfield idx, 3)) (hc : c < 12) (hk : k < ctN c) (hw : KW (Cond.fieldLink M.1.cls idx (ctT c k).1 (ctT c k).2.1 (ctT c k).2.2.1)) (ho : Ob h a c) (hv : fvT X h a k (ctY c k) = mv X v)
    (g : Gd X M (pc + 3) L (v :: st) h nc ns P) : Gd X M pc L (.ref a :: st) h nc ns P :=
  Gd.go (fun p e R s m args below meth co A H locs cells slots ls Q hl hV k9 => va_get A.x A.b (A.lays hc args) (fun _ z => z) A.own A.k (va_one (hV.ob ho hc)) 0 rfl (ctl_at c hc) k hk (A.word hw args) (fun _ z => z) ((fvs_at hk).trans (congrArg some hv)) hd k9) g
theorem g_getI {c k idx a : Nat} (hd : decode M.2.1 pc = .ok (.getfield idx, 3)) (hc : c < 12) (hk : k < ctN c) (hw : KW (Cond.fieldLink M.1.cls idx (ctT c k).1 (ctT c k).2.1 (ctT c k).2.2.1)) (ht : tI (ctY c k) = true) (ho : Ob h a c)
    (g : Gd X M (pc + 3) L (.int (hI h a k) :: st) h nc ns P) : Gd X M pc L (.ref a :: st) h nc ns P := g_get hd hc hk hw ho (fvT_I ht) g
theorem g_getJ {c k idx a : Nat} (hd : decode M.2.1 pc = .ok (.getfield idx, 3)) (hc : c < 12) (hk : k < ctN c) (hw : KW (Cond.fieldLink M.1.cls idx (ctT c k).1 (ctT c k).2.1 (ctT c k).2.2.1)) (ht : ctY c k = .long) (ho : Ob h a c)
    (g : Gd X M (pc + 3) L (.long (hJ h a k) :: st) h nc ns P) : Gd X M pc L (.ref a :: st) h nc ns P := g_get hd hc hk hw ho (by rw [ht]; rfl) g
theorem g_getA {c k idx a : Nat} (hd : decode M.2.1 pc = .ok (.getfield idx, 3)) (hc : c < 12) (hk : k < ctN c) (hw : KW (Cond.fieldLink M.1.cls idx (ctT c k).1 (ctT c k).2.1 (ctT c k).2.2.1)) (ht : tA (ctY c k) = true) (ho : Ob h a c)
    (g : Gd X M (pc + 3) L (va_rf (hA h a k) :: st) h nc ns P) : Gd X M pc L (.ref a :: st) h nc ns P := g_get hd hc hk hw ho (by rw [fvT_A ht, mv_rf]) g
/-- a word on a nest mate's member -/
def KN (w : Cond) : Prop := w ∈ lw_tbl
theorem kn_of {w : Cond} (i : Nat) (h : lw_tbl[i]? = some w) : KN w := List.mem_of_getElem? h
theorem Act.nestF {p : Program} {R : Room} {s : State} {m : MethodId} {meth : Method} {c : Code} (A : Act X M p R s m meth c) {own ref n d host : String} {i : Nat} (hw : KN (.fieldLinkNest own i ref n d host)) (a : Array Value) : (Cond.fieldLinkNest own i ref n d host).before a s = true :=
  va_Nw.use rfl (va_Nw.warmF A.w (va_Nw.of rfl (A.1.1 _ hw)))
theorem g_getN {c k idx a : Nat} {v : Value} {host : String} (hd : decode M.2.1 pc = .ok (.getfield idx, 3)) (hc : c < 12) (hk : k < ctN c) (hw : KN (Cond.fieldLinkNest M.1.cls idx (ctT c k).1 (ctT c k).2.1 (ctT c k).2.2.1 host)) (ho : Ob h a c) (hv : fvT X h a k (ctY c k) = mv X v)
    (g : Gd X M (pc + 3) L (v :: st) h nc ns P) : Gd X M pc L (.ref a :: st) h nc ns P :=
  Gd.go (fun p e R s m args below meth co A H locs cells slots ls Q hl hV k9 => va_getN A.x A.b (A.lays hc args) (fun _ z => z) A.own A.k (va_one (hV.ob ho hc)) 0 rfl (ctl_at c hc) k hk (A.nestF hw args) (fun _ z => z) ((fvs_at hk).trans (congrArg some hv)) hd k9) g
theorem g_getNI {c k idx a : Nat} {host : String} (hd : decode M.2.1 pc = .ok (.getfield idx, 3)) (hc : c < 12) (hk : k < ctN c) (hw : KN (Cond.fieldLinkNest M.1.cls idx (ctT c k).1 (ctT c k).2.1 (ctT c k).2.2.1 host)) (ht : tI (ctY c k) = true) (ho : Ob h a c)
    (g : Gd X M (pc + 3) L (.int (hI h a k) :: st) h nc ns P) : Gd X M pc L (.ref a :: st) h nc ns P := g_getN hd hc hk hw ho (fvT_I ht) g
theorem g_getNJ {c k idx a : Nat} {host : String} (hd : decode M.2.1 pc = .ok (.getfield idx, 3)) (hc : c < 12) (hk : k < ctN c) (hw : KN (Cond.fieldLinkNest M.1.cls idx (ctT c k).1 (ctT c k).2.1 (ctT c k).2.2.1 host)) (ht : ctY c k = .long) (ho : Ob h a c)
    (g : Gd X M (pc + 3) L (.long (hJ h a k) :: st) h nc ns P) : Gd X M pc L (.ref a :: st) h nc ns P := g_getN hd hc hk hw ho (by rw [ht]; rfl) g
theorem g_getNA {c k idx a : Nat} {host : String} (hd : decode M.2.1 pc = .ok (.getfield idx, 3)) (hc : c < 12) (hk : k < ctN c) (hw : KN (Cond.fieldLinkNest M.1.cls idx (ctT c k).1 (ctT c k).2.1 (ctT c k).2.2.1 host)) (ht : tA (ctY c k) = true) (ho : Ob h a c)
    (g : Gd X M (pc + 3) L (va_rf (hA h a k) :: st) h nc ns P) : Gd X M pc L (.ref a :: st) h nc ns P := g_getN hd hc hk hw ho (by rw [fvT_A ht, mv_rf]) g
/-- one cell is another, nothing else has changed -/
theorem VR.set {h1 : SH} {H H1 : Heap} {a : Nat} (V : VR X h H) (h8 : 8 ≤ a) (ha : a < hz h) (hz1 : hz h1 = hz h) (hK1 : ∀ b, hK h1 b = hK h b) (he : ∀ b, b ≠ a → eE X h1 b = eE X h b) (hsz : H1.size = H.size) (ho : ∀ q : Nat, q ≠ ph X a → H1[q]? = H[q]?) (hc : va_at (xD X) ctl (ph X a, eE X h1 a) H1) : VR X h1 H1 := by
  refine ⟨by rw [hz1]; exact V.1, by rw [hz1, hsz]; exact V.2.1, fun q hq => ?_, fun b hb8 hb h9 => ?_⟩
  · rw [ho q (by rw [ph_ge h8]; omega)]; exact V.2.2.1 q hq
  · by_cases hba : b = a
    · subst hba; exact hc
    · rw [he b hba]
      rw [hz1] at hb
      exact (V.2.2.2 b hb8 hb (by rw [← hK1]; exact h9)).kept (ho _ (fun z => hba (ph_inj hb8 h8 z)))
theorem hz_sI {a i : Nat} {v : Int32} : hz (sI h a i v) = hz h := rfl
theorem hz_sJ {a i : Nat} {v : Int64} : hz (sJ h a i v) = hz h := rfl
theorem hz_sA {a i : Nat} {v : Option Nat} : hz (sA h a i v) = hz h := rfl
theorem hK_sI {a i : Nat} {v : Int32} : hK (sI h a i v) = hK h := rfl
theorem hK_sJ {a i : Nat} {v : Int64} : hK (sJ h a i v) = hK h := rfl
theorem hK_sA {a i : Nat} {v : Option Nat} : hK (sA h a i v) = hK h := rfl
theorem hN_sI {a i : Nat} {v : Int32} : hN (sI h a i v) = hN h := rfl
theorem hN_sJ {a i : Nat} {v : Int64} : hN (sJ h a i v) = hN h := rfl
theorem hN_sA {a i : Nat} {v : Option Nat} : hN (sA h a i v) = hN h := rfl
theorem hI_sI {a i b j : Nat} {v : Int32} : hI (sI h a i v) b j = if b = a ∧ j = i then v else hI h b j := rfl
theorem hI_sJ {a i : Nat} {v : Int64} : hI (sJ h a i v) = hI h := rfl
theorem hI_sA {a i : Nat} {v : Option Nat} : hI (sA h a i v) = hI h := rfl
theorem hJ_sI {a i : Nat} {v : Int32} : hJ (sI h a i v) = hJ h := rfl
theorem hJ_sJ {a i b j : Nat} {v : Int64} : hJ (sJ h a i v) b j = if b = a ∧ j = i then v else hJ h b j := rfl
theorem hJ_sA {a i : Nat} {v : Option Nat} : hJ (sA h a i v) = hJ h := rfl
theorem hA_sI {a i : Nat} {v : Int32} : hA (sI h a i v) = hA h := rfl
theorem hA_sJ {a i : Nat} {v : Int64} : hA (sJ h a i v) = hA h := rfl
theorem hA_sA {a i b j : Nat} {v : Option Nat} : hA (sA h a i v) b j = if b = a ∧ j = i then v else hA h b j := rfl
theorem eE_ext {h1 : SH} {b : Nat} (h0 : hK h1 b = hK h b) (h2 : hN h1 b = hN h b) (hi : hI h1 b = hI h b) (hj : hJ h1 b = hJ h b) (hr : hA h1 b = hA h b) : eE X h1 b = eE X h b := by
  have hf : ∀ k t, fvT X h1 b k t = fvT X h b k t := by intro k t; unfold fvT; rw [hi, hj, hr]
  unfold eE
  rw [h0, h2]
  have e1 : fvs X h1 b (hK h b) = fvs X h b (hK h b) := by unfold fvs; exact congrArg (fun f => (List.range (ctN (hK h b))).map f) (funext fun k => hf k _)
  have e2 : arE X h1 b (hK h b) = arE X h b (hK h b) := by unfold arE; rw [hi, hj, hr]
  rw [e1, e2]
theorem eE_sI {a i b : Nat} {v : Int32} (hb : b ≠ a) : eE X (sI h a i v) b = eE X h b := eE_ext rfl rfl (funext fun j => by rw [hI_sI, if_neg (fun q => hb q.1)]) rfl rfl
theorem eE_sJ {a i b : Nat} {v : Int64} (hb : b ≠ a) : eE X (sJ h a i v) b = eE X h b := eE_ext rfl rfl rfl (funext fun j => by rw [hJ_sJ, if_neg (fun q => hb q.1)]) rfl
theorem eE_sA {a i b : Nat} {v : Option Nat} (hb : b ≠ a) : eE X (sA h a i v) b = eE X h b := eE_ext rfl rfl rfl rfl (funext fun j => by rw [hA_sA, if_neg (fun q => hb q.1)])
theorem eE_ob {a c : Nat} (hk : hK h a = c) (hc : c < 12) : eE X h a = .inr (c, fvs X h a c) := by unfold eE; rw [hk, if_pos hc]
theorem eE_ar {a k : Nat} (hk : hK h a = k) (hc : 12 ≤ k) : eE X h a = .inl (xac X k, hN h a, arE X h a k) := by unfold eE; rw [hk, if_neg (by omega)]
/-- the picture of an object behind a put -/
def Put (X : GX) (h h1 : SH) (a c k : Nat) (v : Value) : Prop := hz h1 = hz h ∧ (∀ b, hK h1 b = hK h b) ∧ (∀ b, b ≠ a → eE X h1 b = eE X h b) ∧ ∀ j, j < ctN c → fvT X h1 a j (ctY c j) = if j = k then v else fvT X h a j (ctY c j)
theorem Put.I {a c k : Nat} {v : Int32} (ht : tI (ctY c k) = true) : Put X h (sI h a k v) a c k (.int v) :=
  ⟨rfl, fun _ => rfl, fun b hb => eE_sI hb, fun j hj => by
    by_cases q : j = k
    · subst q; rw [if_pos rfl, fvT_I ht, hI_sI, if_pos ⟨rfl, rfl⟩]
    · rw [if_neg q]; unfold fvT; split <;> first | rfl | (rw [hI_sI, if_neg (fun z => q z.2)])⟩
theorem Put.J {a c k : Nat} {v : Int64} (ht : ctY c k = .long) : Put X h (sJ h a k v) a c k (.long v) :=
  ⟨rfl, fun _ => rfl, fun b hb => eE_sJ hb, fun j hj => by
    by_cases q : j = k
    · subst q; rw [if_pos rfl, ht]; show Value.long _ = _; rw [hJ_sJ, if_pos ⟨rfl, rfl⟩]
    · rw [if_neg q]; unfold fvT; split <;> first | rfl | (rw [hJ_sJ, if_neg (fun z => q z.2)])⟩
theorem Put.A {a c k : Nat} {r : Option Nat} (ht : tA (ctY c k) = true) : Put X h (sA h a k r) a c k (mv X (va_rf r)) :=
  ⟨rfl, fun _ => rfl, fun b hb => eE_sA hb, fun j hj => by
    by_cases q : j = k
    · subst q; rw [if_pos rfl, fvT_A ht, hA_sA, if_pos ⟨rfl, rfl⟩, mv_rf]
    · rw [if_neg q]; unfold fvT; split <;> first | rfl | (rw [hA_sA, if_neg (fun z => q z.2)])⟩
theorem Put.vr {h1 : SH} {H H1 : Heap} {a c k : Nat} {v : Value} {cell : Cell} (B : Put X h h1 a c k v) (V : VR X h H) (ho : Ob h a c) (hc : c < 12) (hk : k < ctN c) (hap : ∀ x y, x < ctN c → y < ctN c → x ≠ y → ((xD X).2 c) x ≠ ((xD X).2 c) y)
    (q2 : cell.cls = (xD X).1 c) (q3 : cell.vm = .none) (q4 : ∀ j, j < ctN c → cell.slots[(xD X).2 c j]? = some (vp_V (fvs X h a c) j)) (e1 : H1[ph X a]? = some (cell.setSlot ((xD X).2 c k) v)) (e2 : H1.size = H.size) (e3 : ∀ q : Nat, q ≠ ph X a → H1[q]? = H[q]?) : VR X h1 H1 := by
  refine V.set ho.1 ho.2.1 B.1 B.2.1 B.2.2.1 e2 e3 ?_
  rw [eE_ob ((B.2.1 a).trans ho.2.2) hc]
  refine ⟨_, ctl_at c hc, t_OB.to (V := updV (vp_V (fvs X h a c)) k v) ⟨_, e1, q2, q3, t_set q4 hap hk v⟩ (fun j hj => ?_)⟩
  rw [fvs_V hj, B.2.2.2 j hj]
  unfold updV
  by_cases q : j = k
  · rw [if_pos q, if_pos q]
  · rw [if_neg q, if_neg q, fvs_V hj]
theorem St.heap {R : Room} {h1 : SH} {H H1 : Heap} {locs : List Loc} {a i cells slots : Nat} {ls : Array Slot} {mc ms : Nat} (S : St X M R L h nc ns H locs cells slots ls mc ms) (V : VR X h1 H1) (h8 : 8 ≤ a) : St X M R L h1 nc ns H1 (locs ++ [⟨ph X a, i⟩]) cells slots ls mc ms :=
  ⟨V, S.2.1, fun z hz => by
    rcases List.mem_append.mp hz with q | q
    · exact S.2.2.1 z q
    · rw [List.mem_singleton.mp q]; show _ ≤ ph X a; rw [ph_ge h8]; omega, S.2.2.2⟩
theorem g_put {c k idx a : Nat} {v : Value} {h1 : SH} (hd : decode M.2.1 pc = .ok (.putfield idx, 3)) (hc : c < 12) (hk : k < ctN c) (hw : KW (Cond.fieldLink M.1.cls idx (ctT c k).1 (ctT c k).2.1 (ctT c k).2.2.1)) (hfin : (ctT c k).2.2.2 = false) (ho : Ob h a c)
    (hn : narrow (ctY c k) (mv X v) = mv X v) (hfit : fits (ctY c k) (mv X v) = true) (B : Put X h h1 a c k (mv X v)) (g : Gd X M (pc + 3) L st h1 nc ns P) : Gd X M pc L (v :: .ref a :: st) h nc ns P := by
  intro p e R s m args below meth co A H locs cells slots ls mc ms S
  have hts := A.lays hc args
  have hap := va_apart (own := M.1.cls) (ci := c) hts (fun _ z => z) (ctY c) (ct_ty c hc) (ct_nm c hc) A.k (ctl_at c hc)
  obtain ⟨r, z1, cell, q1, q2, q3, q4⟩ := S.1.ob ho hc
  have hr : r = (ctR c, ctT c, ctN c) := Option.some.inj (z1.symm.trans (ctl_at c hc))
  subst hr
  obtain ⟨hS, hfc, kC, hkC, hkind⟩ := A.k.1 c _ (ctl_at c hc)
  obtain ⟨cf, kf, fi, f, hi, hsl⟩ := hS k hk
  have hlay := hts _ (u_in_lay hk)
  unfold u_lay at hlay
  rw [if_neg (by rw [hfin]; decide)] at hlay
  have hst := (u_facts hfc hkC (u_lays hts (fun _ z => z) hk) hi).1
  have h6 := u_store hfc hkC hkind hlay hi (ct_ty c hc k hk) hn hfit
  refine W.putK A.x A.b (f := f) ⟨A.own, A.word hw args, ⟨_, _, _, hi⟩, hst⟩ (by rw [q2]; exact h6) q1 q3 (by rw [hsl]; exact k2_hasslot (q4 k hk)) rfl rfl hd fun H' e1 e2 e3 => ?_
  rw [hsl] at e1
  exact g p e R s m args below meth co A H' _ cells slots ls mc ms (S.heap (B.vr S.1 ho hc hk hap q2 q3 q4 e1 e2 e3) ho.1)
theorem g_putF {c k idx a : Nat} {v : Value} {h1 : SH} (hd : decode M.2.1 pc = .ok (.putfield idx, 3)) (hc : c < 12) (hk : k < ctN c) (hw : KW (Cond.fieldLink M.1.cls idx (ctT c k).1 (ctT c k).2.1 (ctT c k).2.2.1)) (hfin : (ctT c k).2.2.2 = true) (hin2 : M.1.name = "<init>") (hdecl : (ctT c k).1 = M.1.cls) (ho : Ob h a c)
    (hn : narrow (ctY c k) (mv X v) = mv X v) (hfit : fits (ctY c k) (mv X v) = true) (B : Put X h h1 a c k (mv X v)) (g : Gd X M (pc + 3) L st h1 nc ns P) : Gd X M pc L (v :: .ref a :: st) h nc ns P := by
  intro p e R s m args below meth co A H locs cells slots ls mc ms S
  have hts := A.lays hc args
  have hap := va_apart (own := M.1.cls) (ci := c) hts (fun _ z => z) (ctY c) (ct_ty c hc) (ct_nm c hc) A.k (ctl_at c hc)
  obtain ⟨r, z1, cell, q1, q2, q3, q4⟩ := S.1.ob ho hc
  have hr : r = (ctR c, ctT c, ctN c) := Option.some.inj (z1.symm.trans (ctl_at c hc))
  subst hr
  obtain ⟨hS, hfc, kC, hkC, hkind⟩ := A.k.1 c _ (ctl_at c hc)
  obtain ⟨cf, kf, fi, f, hi, hsl⟩ := hS k hk
  have hlay := hts _ (u_in_lay hk)
  unfold u_lay at hlay
  rw [if_pos hfin] at hlay
  have hst := (u_facts hfc hkC (u_lays hts (fun _ z => z) hk) hi).1
  have hcf : m.cls = cf := by
    obtain ⟨_, _, c', _, _, _, -, -, hf', -, -, -, hown2, -⟩ := Cond.laysFinal_spec hlay
    have e1 : c' = cf := by have := hi.symm.trans hf'; simp at this; exact this.1.symm
    rw [hdecl] at hown2
    rw [← e1]; exact Option.some.inj (A.own.symm.trans hown2)
  have h6 := u_fits hfc hkC hkind (Or.inr hlay) hi (ct_ty c hc k hk) hn hfit
  refine W.putFinK A.x A.b A.own (A.word hw args) hi hst hcf (A.nm.trans hin2) (by rw [q2]; exact h6) q1 q3 (by rw [hsl]; exact k2_hasslot (q4 k hk)) rfl rfl hd fun H' e1 e2 e3 => ?_
  rw [hsl] at e1
  exact g p e R s m args below meth co A H' _ cells slots ls mc ms (S.heap (B.vr S.1 ho hc hk hap q2 q3 q4 e1 e2 e3) ho.1)
theorem g_putN {c k idx a : Nat} {v : Value} {h1 : SH} {host : String} (hd : decode M.2.1 pc = .ok (.putfield idx, 3)) (hc : c < 12) (hk : k < ctN c) (hw : KN (Cond.fieldLinkNest M.1.cls idx (ctT c k).1 (ctT c k).2.1 (ctT c k).2.2.1 host)) (hfin : (ctT c k).2.2.2 = false) (ho : Ob h a c)
    (hn : narrow (ctY c k) (mv X v) = mv X v) (hfit : fits (ctY c k) (mv X v) = true) (B : Put X h h1 a c k (mv X v)) (g : Gd X M (pc + 3) L st h1 nc ns P) : Gd X M pc L (v :: .ref a :: st) h nc ns P := by
  intro p e R s m args below meth co A H locs cells slots ls mc ms S
  have hts := A.lays hc args
  have hap := va_apart (own := M.1.cls) (ci := c) hts (fun _ z => z) (ctY c) (ct_ty c hc) (ct_nm c hc) A.k (ctl_at c hc)
  obtain ⟨r, z1, cell, q1, q2, q3, q4⟩ := S.1.ob ho hc
  have hr : r = (ctR c, ctT c, ctN c) := Option.some.inj (z1.symm.trans (ctl_at c hc))
  subst hr
  obtain ⟨hS, hfc, kC, hkC, hkind⟩ := A.k.1 c _ (ctl_at c hc)
  obtain ⟨cf, kf, fi, f, hi, hsl⟩ := hS k hk
  have hlay := hts _ (u_in_lay hk)
  unfold u_lay at hlay
  rw [if_neg (by rw [hfin]; decide)] at hlay
  have hst := (u_facts hfc hkC (u_lays hts (fun _ z => z) hk) hi).1
  have h6 := u_store hfc hkC hkind hlay hi (ct_ty c hc k hk) hn hfit
  refine va_WputK A.x A.b (f := f) A.own (A.nestF hw args) hi hst (by rw [q2]; exact h6) q1 q3 (by rw [hsl]; exact k2_hasslot (q4 k hk)) rfl rfl hd fun H' e1 e2 e3 => ?_
  rw [hsl] at e1
  exact g p e R s m args below meth co A H' _ cells slots ls mc ms (S.heap (B.vr S.1 ho hc hk hap q2 q3 q4 e1 e2 e3) ho.1)
end GR
