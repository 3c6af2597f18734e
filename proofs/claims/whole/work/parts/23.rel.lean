/-! ===== editions in the component's heap; who is in a letter ===== -/
theorem for_up {G I : Nat → SH → Prop} (n : Nat) (hend : ∀ t, I n t → G n t) (hstep : ∀ i t, i < n → I i t → (∀ u, I (i + 1) u → G (i + 1) u) → G i t) : ∀ i t, i ≤ n → I i t → G i t := by
  have key : ∀ k i t, n - i = k → i ≤ n → I i t → G i t := by
    intro k
    induction k with
    | zero => intro i t hk hi hI; have e : i = n := by omega
              subst e; exact hend t hI
    | succ k ih => intro i t hk hi hI; exact hstep i t (by omega) hI (fun u hu => ih (i + 1) u (by omega) (by omega) hu)
  exact fun i t hi hI => key _ i t rfl hi hI
def bI (b : Bool) : Int32 := if b then 1 else 0
theorem bI_t : bI true = 1 := rfl
theorem bI_f : bI false = 0 := rfl
theorem bI_0 {b : Bool} : bI b = 0 ↔ b = false := by cases b <;> decide
theorem bI_01 (b : Bool) : bI b = 0 ∨ bI b = 1 := by cases b <;> decide
theorem nar_b (b : Bool) : vp_nar .boolean (bI b) = bI b := by cases b <;> decide
theorem nar_1 : vp_nar .boolean 1 = 1 := by decide
theorem nar_0 : vp_nar .boolean 0 = 0 := by decide
abbrev cAt (c : Cls) : Nat := c.1
abbrev cMust (c : Cls) : Bool := c.2.1
abbrev cWhen (c : Cls) : Fml := c.2.2.1
abbrev cNeeds (c : Cls) : List Nat := c.2.2.2.1
abbrev cBars (c : Cls) : List Nat := c.2.2.2.2.1
abbrev cItems (c : Cls) : List Itm := c.2.2.2.2.2
abbrev eF (E : Edn) : List Fct := E.2.1
abbrev eC (E : Edn) : List Cls := E.2.2
def cl (E : Edn) (c : Nat) : Cls := (eC E).getD c (0, false, [], [], [], [])
def kcode (k : Nat) : Int32 := if k = 0 then 11 else if k = 1 then 61 else if k = 2 then 9 else 10
/-- cells that a judgement writes -/
def jd (k : Skl) (b j : Nat) : Prop := ∃ e, LX3 k e ∧ ((b = e ∧ j = 10) ∨ b = e + 6 ∨ b = e + 7)
/-- the editions' cells are as they were -/
def ag (h t : SH) : Prop := Sk t = Sk h ∧ (∀ b, 73 ≤ b → hJ t b = hJ h b) ∧ ∀ b j, 73 ≤ b → ¬ jd (Sk h) b j → hI t b j = hI h b j
theorem ag.rf {h : SH} : ag h h := ⟨rfl, fun _ _ => rfl, fun _ _ _ _ => rfl⟩
theorem ag.tr {h t u : SH} (a : ag h t) (b : ag t u) : ag h u := ⟨b.1.trans a.1, fun q hq => (b.2.1 q hq).trans (a.2.1 q hq), fun q j hq hn => (b.2.2 q j hq (by rw [a.1]; exact hn)).trans (a.2.2 q j hq hn)⟩
theorem chI.ag {S : Nat → Prop} {h t : SH} (c : chI S h t) (hS : ∀ b, S b → b < 73) : ag h t := ⟨c.1, fun b _ => by rw [c.2.1], fun b j hb _ => by rw [c.2.2 b (fun z => absurd (hS b z) (by omega))]⟩
def ItC (h : SH) (q : Nat) (it : Itm) : Prop := 73 ≤ q ∧ LX5 (Sk h) q ∧ hI h q 0 = kcode it.1 ∧ (it.1 = 0 → hJ h q 1 = enc32 it.2.1) ∧ (it.1 = 2 → hI h q 2 = nI it.2.2.1) ∧ (it.1 = 1 ∨ it.1 = 3 → ∃ f, 73 ≤ f ∧ hA h q 3 = some f ∧ FmC h f it.2.2.2)
def ClC (h : SH) (b : Nat) (c : Cls) : Prop := 73 ≤ b ∧ LX2 (Sk h) b ∧ hI h b 1 = nI (cAt c) ∧ hI h b 2 = bI (cMust c) ∧ (∃ f, 73 ≤ f ∧ hA h b 3 = some f ∧ FmC h f (cWhen c)) ∧
  hI h b 5 = nI (cNeeds c).length ∧ (∀ (j : Nat) (hj : j < (cNeeds c).length), hI h (b + 3) j = nI (cNeeds c)[j]) ∧ hI h b 7 = nI (cBars c).length ∧ (∀ (j : Nat) (hj : j < (cBars c).length), hI h (b + 4) j = nI (cBars c)[j]) ∧
  hI h b 9 = nI (cItems c).length ∧ ∀ (j : Nat) (hj : j < (cItems c).length), ∃ q, hA h (b + 5) j = some q ∧ ItC h q (cItems c)[j]
/-- how many numbers a fact has; all worlds -/
def fspan (f : Fct) : Nat := f.2.2 - f.2.1 + 1
def worlds (E : Edn) : Nat := ((eF E).map fspan).foldl (· * ·) 1
/-- the clauses in the order of a letter: by at, of one at by numbers -/
def insOrd (E : Edn) (l : List Nat) (c : Nat) : List Nat := l.filter (fun d => cAt (cl E d) ≤ cAt (cl E c)) ++ c :: l.filter (fun d => ¬ cAt (cl E d) ≤ cAt (cl E c))
def ordr (E : Edn) : List Nat := (List.range (eC E).length).foldl (insOrd E) []
def EdC (h : SH) (a : Nat) (E : Edn) : Prop := 73 ≤ a ∧ LX3 (Sk h) a ∧ hI h a 1 = nI E.1 ∧ hI h a 2 = nI (eF E).length ∧ hI h a 6 = nI (worlds E) ∧ hI h a 7 = nI (eC E).length ∧
  (∀ (k : Nat) (hk : k < (eF E).length), hJ h (a + 1) k = enc32 (eF E)[k].1 ∧ hI h (a + 2) k = nI (eF E)[k].2.1 ∧ hI h (a + 3) k = nI (eF E)[k].2.2) ∧
  (∀ c, c < (eC E).length → ∃ b, hA h (a + 4) c = some b ∧ ClC h b (cl E c)) ∧ ∀ (i : Nat) (hi : i < (ordr E).length), hI h (a + 5) i = nI (ordr E)[i]
/-- an edition that could be told -/
def okI (nf nc : Nat) (it : Itm) : Prop := it.1 ≤ 3 ∧ (it.1 = 0 → 1 ≤ it.2.1.length ∧ it.2.1.length ≤ 10 ∧ ∀ l ∈ it.2.1, 1 ≤ l ∧ l ≤ 26) ∧ (it.1 = 2 → it.2.2.1 < nc) ∧ (it.1 = 1 ∨ it.1 = 3 → okF nf it.2.2.2 0 ∧ z0F it.2.2.2 ∧ it.2.2.2.length ≤ 2400)
def okC (nf nc : Nat) (c : Cls) : Prop := cAt c ≤ 99 ∧ (okF nf (cWhen c) 0 ∧ z0F (cWhen c)) ∧ (cNeeds c).length + (cBars c).length ≤ 8 ∧ (∀ k ∈ cNeeds c, k < nc) ∧ (∀ k ∈ cBars c, k < nc) ∧ (cItems c).length ≤ 20 ∧ ∀ it ∈ cItems c, okI nf nc it
def okE (E : Edn) : Prop := E.1 ≤ 9999 ∧ (eF E).length ≤ 8 ∧ (eC E).length ≤ 12 ∧ (∀ f ∈ eF E, f.2.1 ≤ f.2.2 ∧ f.2.2 ≤ 99 ∧ 1 ≤ f.1.length ∧ f.1.length ≤ 10 ∧ ∀ l ∈ f.1, 1 ≤ l ∧ l ≤ 26) ∧ worlds E ≤ 2000 ∧ ∀ c, c < (eC E).length → okC (eF E).length (eC E).length (cl E c)
/-! what an agreement keeps -/
theorem kind_ne {k : Skl} {a b c d : Nat} (h1 : kOb k a c) (h2 : kOb k b d) (hne : c ≠ d) : a ≠ b := fun e => hne (by rw [← h1.2.2, ← h2.2.2, e])
theorem kind_ar {k : Skl} {a b c d n : Nat} (h1 : kOb k a c) (h2 : kAr k b d n) (hne : c ≠ d) : a ≠ b := fun e => hne (by rw [← h1.2.2, ← h2.2.2.1, e])
theorem LX3.ks {k : Skl} {e : Nat} (F : LX3 k e) : kOb k e 3 ∧ kAr k (e + 1) 23 8 ∧ kAr k (e + 2) 20 8 ∧ kAr k (e + 3) 20 8 ∧ kAr k (e + 4) 25 12 ∧ kAr k (e + 5) 20 12 ∧ kAr k (e + 6) 20 5 ∧ kAr k (e + 7) 20 5 :=
  ⟨F.1, F.2.1.2, F.2.2.1.2, F.2.2.2.1.2, F.2.2.2.2.1.2, F.2.2.2.2.2.1.2, F.2.2.2.2.2.2.1.2, F.2.2.2.2.2.2.2.2⟩
/-- an object of another class, and its rows up to three behind it, are no cell of a judgement -/
theorem jd_not {k : Skl} {b c i j : Nat} (hb : kOb k b c) (hc : c ≠ 3 ∧ c ≠ 20 ∧ c ≠ 23 ∧ c ≠ 25) (hi : i ≤ 3) (h0 : i = 0 ∨ ∃ d n, kAr k (b + i) d n ∧ d ≠ 3) : ¬ jd k (b + i) j := by
  rintro ⟨e, F, h | h | h⟩
  · rcases h0 with q | ⟨d, n, q, hd⟩
    · subst q; exact kind_ne hb F.ks.1 hc.1 h.1
    · exact kind_ar F.ks.1 q (Ne.symm hd) h.1.symm
  · have h3 := F.ks
    rcases (show i = 0 ∨ i = 1 ∨ i = 2 ∨ i = 3 by omega) with q | q | q | q <;> subst q
    · exact kind_ar hb h3.2.2.2.2.2.2.1 hc.2.1 h
    · exact kind_ar hb h3.2.2.2.2.2.1 hc.2.1 (by omega)
    · exact kind_ar hb h3.2.2.2.2.1 hc.2.2.2 (by omega)
    · exact kind_ar hb h3.2.2.2.1 hc.2.1 (by omega)
  · have h3 := F.ks
    rcases (show i = 0 ∨ i = 1 ∨ i = 2 ∨ i = 3 by omega) with q | q | q | q <;> subst q
    · exact kind_ar hb h3.2.2.2.2.2.2.2 hc.2.1 h
    · exact kind_ar hb h3.2.2.2.2.2.2.1 hc.2.1 (by omega)
    · exact kind_ar hb h3.2.2.2.2.2.1 hc.2.1 (by omega)
    · exact kind_ar hb h3.2.2.2.2.1 hc.2.2.2 (by omega)
theorem jd_notA {k : Skl} {x d n j : Nat} (hx : kAr k x d n) (hd : d ≠ 3) (hn : n ≠ 5) : ¬ jd k x j := by
  rintro ⟨e, F, q | q | q⟩
  · exact kind_ar F.ks.1 hx (Ne.symm hd) q.1.symm
  · exact hn (by rw [← hx.2.2.2, q]; exact F.ks.2.2.2.2.2.2.1.2.2.2)
  · exact hn (by rw [← hx.2.2.2, q]; exact F.ks.2.2.2.2.2.2.2.2.2.2)
theorem ag.hA {h t : SH} (a : ag h t) : hA t = hA h := congrArg (fun k : Skl => k.2.2) a.1
theorem ag.hN {h t : SH} (a : ag h t) (b : Nat) : hN t b = hN h b := congrArg (fun k : Skl => (k.2.1 b).2) a.1
theorem FmC.cg {h t : SH} {f : Nat} {o : Fml} (a : ag h t) (hf : 73 ≤ f) (F : FmC h f o) : FmC t f o := by
  obtain ⟨L, h1, h2, h3⟩ := F
  refine ⟨a.1 ▸ L, (a.hN _).trans h1, h2, fun i hi => ?_⟩
  rw [a.2.2 _ _ (by omega) (jd_not (i := 1) L.1 (by decide) (by omega) (Or.inr ⟨20, _, L.2.2, by decide⟩))]
  exact h3 i hi
theorem ItC.cg {h t : SH} {q : Nat} {it : Itm} (a : ag h t) (F : ItC h q it) : ItC t q it := by
  obtain ⟨h1, L, h2, h3, h4, h5⟩ := F
  have e : ∀ j, hI t q j = hI h q j := fun j => a.2.2 _ _ h1 (jd_not (i := 0) (b := q) L (by decide) (by omega) (Or.inl rfl))
  refine ⟨h1, a.1 ▸ L, (e 0).trans h2, fun z => by rw [a.2.1 _ h1]; exact h3 z, fun z => (e 2).trans (h4 z), fun z => ?_⟩
  obtain ⟨f, g1, g2, g3⟩ := h5 z
  exact ⟨f, g1, by rw [a.hA]; exact g2, g3.cg a g1⟩
theorem ClC.cg {h t : SH} {b : Nat} {c : Cls} (a : ag h t) (F : ClC h b c) : ClC t b c := by
  obtain ⟨h1, L, h2, h3, ⟨f, g1, g2, g3⟩, h4, h5, h6, h7, h8, h9⟩ := F
  have e : ∀ j, hI t b j = hI h b j := fun j => a.2.2 _ _ h1 (jd_not (i := 0) (b := b) L.1 (by decide) (by omega) (Or.inl rfl))
  have e1 : ∀ j, hI t (b + 3) j = hI h (b + 3) j := fun j => a.2.2 _ _ (by omega) (jd_notA L.2.1.2 (by decide) (by decide))
  have e2 : ∀ j, hI t (b + 4) j = hI h (b + 4) j := fun j => a.2.2 _ _ (by omega) (jd_notA L.2.2.1.2 (by decide) (by decide))
  refine ⟨h1, a.1 ▸ L, (e 1).trans h2, (e 2).trans h3, ⟨f, g1, by rw [a.hA]; exact g2, g3.cg a g1⟩, (e 5).trans h4, fun j hj => (e1 j).trans (h5 j hj), (e 7).trans h6, fun j hj => (e2 j).trans (h7 j hj), (e 9).trans h8, fun j hj => ?_⟩
  obtain ⟨q, q1, q2⟩ := h9 j hj
  exact ⟨q, by rw [a.hA]; exact q1, q2.cg a⟩
theorem EdC.cg {h t : SH} {e : Nat} {E : Edn} (a : ag h t) (F : EdC h e E) : EdC t e E := by
  obtain ⟨h1, L, h2, h3, h4, h5, h6, h7, h8⟩ := F
  have k := L.ks
  have hno : ∀ i j, i ≤ 5 → (i = 0 → j ≠ 10) → ¬ jd (Sk h) (e + i) j := by
    rintro i j hi hj ⟨e', F', q | q | q⟩
    · rcases (show i = 0 ∨ i = 1 ∨ i = 2 ∨ i = 3 ∨ i = 4 ∨ i = 5 by omega) with z | z | z | z | z | z <;> subst z
      · exact hj rfl q.2
      · exact kind_ar F'.ks.1 k.2.1 (by decide) q.1.symm
      · exact kind_ar F'.ks.1 k.2.2.1 (by decide) q.1.symm
      · exact kind_ar F'.ks.1 k.2.2.2.1 (by decide) q.1.symm
      · exact kind_ar F'.ks.1 k.2.2.2.2.1 (by decide) q.1.symm
      · exact kind_ar F'.ks.1 k.2.2.2.2.2.1 (by decide) q.1.symm
    · have k' := F'.ks
      rcases (show i = 0 ∨ i = 1 ∨ i = 2 ∨ i = 3 ∨ i = 4 ∨ i = 5 by omega) with z | z | z | z | z | z <;> subst z
      · exact kind_ar k.1 k'.2.2.2.2.2.2.1 (by decide) q
      · exact kind_ar k.1 k'.2.2.2.2.2.1 (by decide) (by omega)
      · exact kind_ar k.1 k'.2.2.2.2.1 (by decide) (by omega)
      · exact kind_ar k.1 k'.2.2.2.1 (by decide) (by omega)
      · exact kind_ar k.1 k'.2.2.1 (by decide) (by omega)
      · exact kind_ar k.1 k'.2.1 (by decide) (by omega)
    · have k' := F'.ks
      rcases (show i = 0 ∨ i = 1 ∨ i = 2 ∨ i = 3 ∨ i = 4 ∨ i = 5 by omega) with z | z | z | z | z | z <;> subst z
      · exact kind_ar k.1 k'.2.2.2.2.2.2.2 (by decide) q
      · exact kind_ar k.1 k'.2.2.2.2.2.2.1 (by decide) (by omega)
      · exact kind_ar k.1 k'.2.2.2.2.2.1 (by decide) (by omega)
      · exact kind_ar k.1 k'.2.2.2.2.1 (by decide) (by omega)
      · exact kind_ar k.1 k'.2.2.2.1 (by decide) (by omega)
      · exact kind_ar k.1 k'.2.2.1 (by decide) (by omega)
  have e0 : ∀ j, j ≠ 10 → hI t e j = hI h e j := fun j hj => a.2.2 _ _ h1 (hno 0 j (by omega) (fun _ => hj))
  have e2 : ∀ i j, 0 < i → i ≤ 5 → hI t (e + i) j = hI h (e + i) j := fun i j h0 hi => a.2.2 _ _ (by omega) (hno i j hi (fun z => by omega))
  refine ⟨h1, a.1 ▸ L, (e0 1 (by decide)).trans h2, (e0 2 (by decide)).trans h3, (e0 6 (by decide)).trans h4, (e0 7 (by decide)).trans h5, fun q hq => ?_, fun c hc => ?_, fun i hi => (e2 5 i (by omega) (by omega)).trans (h8 i hi)⟩
  · obtain ⟨g1, g2, g3⟩ := h6 q hq
    exact ⟨by rw [a.2.1 _ (by omega)]; exact g1, (e2 2 q (by omega) (by omega)).trans g2, (e2 3 q (by omega) (by omega)).trans g3⟩
  · obtain ⟨b, g1, g2⟩ := h7 c hc
    exact ⟨b, by rw [a.hA]; exact g1, g2.cg a⟩
