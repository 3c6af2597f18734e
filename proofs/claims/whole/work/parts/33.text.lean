/-! ===== the letter's text; compose, makes ===== -/
def itx (D : Int32 → Int32) (cs : Nat → Int32) (L : List Nat) (it : Itm) : List Nat :=
  if it.1 = 0 then it.2.1.map (96 + ·) else if it.1 = 2 then nmb (nI (L.idxOf it.2.2.1 + 1)) else if it.1 = 1 then nmb (evF cs it.2.2.2) else nmb (D (evF cs it.2.2.2))
def stx (D : Int32 → Int32) (cs : Nat → Int32) (L : List Nat) (T : List Nat) (it : Itm) : List Nat := blk T ++ itx D cs L it
def ptx (D : Int32 → Int32) (cs : Nat → Int32) (E : Edn) (L : List Nat) (T : List Nat) (i : Nat) : List Nat := (cItems (cl E (L.getD i 0))).foldl (stx D cs L) (blk T ++ nmb (nI (i + 1)))
def txt (D : Int32 → Int32) (cs : Nat → Int32) (E : Edn) (L : List Nat) : List Nat := (List.range L.length).foldl (ptx D cs E L) []
/-- values stay small -/
def wgt (s : List Int32) : Nat := (s.map (fun x => x.toInt.natAbs + 1)).sum
theorem jn_w {c : Nat} {a b : Int32} (h : a.toInt.natAbs + b.toInt.natAbs < 2 ^ 30) : (jn c a b).toInt.natAbs + 1 ≤ (a.toInt.natAbs + 1) + (b.toInt.natAbs + 1) := by
  unfold jn
  have e1 : (1 : Int32).toInt = 1 := rfl
  have e0 : (0 : Int32).toInt = 0 := rfl
  by_cases c3 : c = 3
  · rw [if_pos c3, Int32.toInt_add, Int.bmod_eq_of_le (by omega) (by omega)]; omega
  rw [if_neg c3]
  by_cases c4 : c = 4
  · rw [if_pos c4, Int32.toInt_sub, Int.bmod_eq_of_le (by omega) (by omega)]; omega
  rw [if_neg c4]
  by_cases c5 : c = 5
  · rw [if_pos c5]; split
    · rw [e1]; omega
    · rw [e0]; omega
  · rw [if_neg c5]; split
    · rw [e1]; omega
    · rw [e0]; omega
theorem evS_w {nf : Nat} {cs : Nat → Int32} (hcs : ∀ k, k < nf → (cs k).toInt.natAbs ≤ 9999) : ∀ (r : Fml) (s : List Int32), okF nf r s.length → wgt s + 10000 * r.length < 2 ^ 30 → wgt (evS cs r s) ≤ wgt s + 10000 * r.length
  | [], s, _, _ => by unfold evS; simp
  | (c, x) :: r, s, h, hw => by
    unfold okF at h
    unfold evS
    rw [List.length_cons] at hw ⊢
    have wc : ∀ (v : Int32) (s : List Int32), wgt (v :: s) = v.toInt.natAbs + 1 + wgt s := fun v s => by unfold wgt; simp
    by_cases q1 : c = 1
    · rw [if_pos q1] at h ⊢
      have e : (nI x).toInt.natAbs ≤ 9999 := by rw [nI_toInt (by omega)]; omega
      have := evS_w hcs r (nI x :: s) h.2.2 (by rw [wc]; omega)
      rw [wc] at this; omega
    · rw [if_neg q1] at h ⊢
      by_cases q2 : c = 2
      · rw [if_pos q2] at h ⊢
        have e := hcs x h.1
        have := evS_w hcs r (cs x :: s) h.2.2 (by rw [wc]; omega)
        rw [wc] at this; omega
      · rw [if_neg q2] at h ⊢
        rcases s with _ | ⟨b, _ | ⟨a, u⟩⟩
        · exact absurd h.2.2.1 (by simp)
        · exact absurd h.2.2.1 (by simp)
        · rw [wc, wc] at hw
          have e := jn_w (c := c) (a := a) (b := b) (by omega)
          have := evS_w hcs r (jn c a b :: u) h.2.2.2 (by rw [wc]; omega)
          show wgt (evS cs r (jn c a b :: u)) ≤ _
          rw [wc] at this
          rw [wc, wc]; omega
theorem evF_w {nf : Nat} {cs : Nat → Int32} (hcs : ∀ k, k < nf → (cs k).toInt.natAbs ≤ 9999) {f : Fml} (ok : okF nf f 0) (hl : f.length ≤ 2400) : (evF cs f).toInt.natAbs < 10 ^ 9 := by
  have h1 := evS_w hcs f [] ok (by unfold wgt; simp; omega)
  obtain ⟨v, hv⟩ := evS_len (cs := cs) f [] ok
  unfold evF
  rw [hv] at h1 ⊢
  unfold wgt at h1
  simp at h1
  show v.toInt.natAbs < _
  omega
theorem due_w {L : List Nat} {day : Nat} (hd : day ≤ 9999) (v : Int32) : (dueN L day v).toInt.natAbs < 10 ^ 9 := by
  unfold dueN
  split
  · rw [nI_toInt (by omega)]; omega
  · split
    · decide
    · have : (bhd L day).getD (v.toNatClampNeg - 1) 0 < 10000 := by
        rw [List.getD_eq_getElem?_getD]
        cases q : (bhd L day)[v.toNatClampNeg - 1]? with
        | none => simp
        | some x =>
          have := List.mem_of_getElem? q
          unfold bhd at this
          exact List.mem_range.mp (List.mem_filter.mp this).1
      rw [nI_toInt (by omega)]; omega
section TX
variable {D : Int32 → Int32} {cs : Nat → Int32} {E : Edn} {L : List Nat}
theorem itx_len {nf nc : Nat} {it : Itm} (ok : okI nf nc it) : (itx D cs L it).length ≤ 10 := by
  unfold itx
  split
  · rename_i q; have := (ok.2.1 q).2.1; simpa using this
  · split
    · exact nmb_len _
    · split <;> exact nmb_len _
theorem stx_len {nf nc : Nat} {it : Itm} (ok : okI nf nc it) (T : List Nat) : (stx D cs L T it).length ≤ T.length + 11 := by
  unfold stx; have := itx_len (D := D) (cs := cs) (L := L) ok; have := blk_len T; rw [List.length_append]; omega
theorem stxL_len {nf nc : Nat} : ∀ (l : List Itm) (T : List Nat), (∀ it ∈ l, okI nf nc it) → (l.foldl (stx D cs L) T).length ≤ T.length + 11 * l.length
  | [], T, _ => by simp
  | a :: l, T, h => by
    have h1 := stx_len (D := D) (cs := cs) (L := L) (h a (List.mem_cons_self ..)) T
    have h2 := stxL_len l (stx D cs L T a) (fun it hi => h it (List.mem_cons_of_mem _ hi))
    rw [List.length_cons]
    show (l.foldl (stx D cs L) (stx D cs L T a)).length ≤ _
    omega
theorem ptx_len (ok : okE E) (hL : ∀ c ∈ L, c < (eC E).length) {i : Nat} (hi : i < L.length) (T : List Nat) : (ptx D cs E L T i).length ≤ T.length + 231 := by
  unfold ptx
  have hc := hL _ (List.getElem_mem hi)
  have e : L.getD i 0 = L[i] := by rw [List.getD_eq_getElem?_getD, List.getElem?_eq_getElem hi]; rfl
  rw [e]
  have okc := ok.2.2.2.2.2 _ hc
  have h1 := stxL_len (D := D) (cs := cs) (L := L) (cItems (cl E L[i])) (blk T ++ nmb (nI (i + 1))) okc.2.2.2.2.2.2
  have h2 := okc.2.2.2.2.2.1
  have h3 := blk_len T
  have h4 := nmb_len (nI (i + 1))
  rw [List.length_append] at h1
  omega
theorem txt_len (ok : okE E) (hL : ∀ c ∈ L, c < (eC E).length) : ∀ k, k ≤ L.length → ((List.range k).foldl (ptx D cs E L) []).length ≤ 231 * k
  | 0, _ => by simp
  | k + 1, h => by
    have h1 := txt_len ok hL k (by omega)
    rw [range_fold]
    have h2 := ptx_len (D := D) (cs := cs) ok hL (i := k) (by omega) ((List.range k).foldl (ptx D cs E L) [])
    omega
end TX
theorem LT.cg {h t : SH} {a : Nat} {T : List Nat} (L : LT h a T) (h5 : hI t a 5 = hI h a 5) (h4 : hI t (a + 4) = hI h (a + 4)) : LT t a T := ⟨h5.trans L.1, L.2.1, L.2.2.1, fun i hi => by rw [h4]; exact L.2.2.2 i hi⟩
theorem OT.cg {h t : SH} {a : Nat} {T : List Nat} (L : OT h a T) (h5 : hI t a 48 = hI h a 48) (h4 : hI t (a + 33) = hI h (a + 33)) : OT t a T := ⟨h5.trans L.1, L.2.1, fun i hi => by rw [h4]; exact L.2.2 i hi⟩
theorem PC.cg {h t : SH} {a : Nat} {L : List Nat} (K : PC h a L) (h3 : hI t a 3 = hI h a 3) (h1 : hI t (a + 2) = hI h (a + 2)) (h2 : hI t (a + 3) = hI h (a + 3)) : PC t a L := ⟨h3.trans K.1, fun i hi => by rw [h1]; exact K.2.1 i hi, fun c hc => by rw [h2]; exact K.2.2 c hc⟩
theorem PM.cg {h t : SH} {a : Nat} {L : List Nat} (K : PM h a L) (h3 : hI t a 43 = hI h a 43) (h1 : hI t (a + 32) = hI h (a + 32)) : PM t a L := ⟨h3.trans K.1, fun i hi => by rw [h1]; exact K.2 i hi⟩
theorem CalR.cg {h t : SH} {a : Nat} {L : List Nat} (C : CalR h a L) (hk : Sk t = Sk h) (h1 : hI t a 1 = hI h a 1) (h2 : hI t (a + 1) = hI h (a + 1)) : CalR t a L := ⟨hk ▸ C.1, h1.trans C.2.1, C.2.2.1, fun i hi => by rw [h2]; exact C.2.2.2.1 i hi, C.2.2.2.2⟩
theorem Bhd.cg {h t : SH} {m : Nat} {B : List Nat} (K : Bhd h m B) (h3 : hI t m 38 = hI h m 38) (h1 : hI t (m + 29) = hI h (m + 29)) : Bhd t m B := ⟨h3.trans K.1, fun i hi => by rw [h1]; exact K.2 i hi⟩
theorem kc0 {k : Nat} : kcode k = 11 ↔ k = 0 := by
  unfold kcode
  by_cases h0 : k = 0
  · simp [h0]
  · by_cases h1 : k = 1
    · subst h1; decide
    · by_cases h2 : k = 2
      · subst h2; decide
      · simp [h0, h1, h2]
theorem kc3 {k : Nat} (h : k ≤ 3) : kcode k = 10 ↔ k = 3 := by
  have : ∀ k : Fin 4, kcode k.val = 10 ↔ k.val = 3 := by decide
  exact this ⟨k, by omega⟩
/-- references of the clauses that are in stand on clauses that are in -/
def okR (E : Edn) (s : Ins) : Prop := ∀ c, c < (eC E).length → s c = true → ∀ it ∈ cItems (cl E c), it.1 = 2 → s it.2.2.1 = true
theorem quar_okR {E : Edn} {s : Ins} (h : (quar E s).1 = 0) : okR E s := by
  have hq : qRef E s = none := by
    rw [quar_qst] at h
    by_cases q : (qst (qMiss E s) (qBar E s) (qRef E s)).1 = 0 ∧ qNone E s = true
    · exact (qst_0.mp q.1).2.2
    · rw [if_neg q] at h; exact (qst_0.mp h).2.2
  intro c hc hs it hit h2
  have h1 : ((ref1 E s c).map (fun b => (c, b))) = none := List.findSome?_eq_none_iff.mp hq c (List.mem_range.mpr hc)
  have h3 : ref1 E s c = none := by cases h9 : ref1 E s c with
    | none => rfl
    | some b => rw [h9] at h1; cases h1
  unfold ref1 at h3
  rw [if_pos hs] at h3
  have h4 : (cItems (cl E c)).find? (rfp s) = none := by cases h9 : (cItems (cl E c)).find? (rfp s) with
    | none => rfl
    | some b => rw [h9] at h3; cases h3
  have h5 := List.find?_eq_none.mp h4 it hit
  unfold rfp at h5
  simp [h2] at h5
  exact h5
section CP
variable {X : GX} {h : SH} {a e c k m : Nat} {E : Edn} {s : Ins} {cs : Nat → Int32} {L FL : List Nat} {day : Nat} {T : List Nat}
/-- what printing writes -/
abbrev ppS (a c : Nat) : Nat → Prop := fun b => b = a ∨ b = a + 4 ∨ b = c + 2
theorem c_printParts (hE : EdC h e E) (ok : okE E) (F : LX6 (Sk h) a) (ha : a + 4 < 73) (hC : LX1 (Sk h) c) (hc : c + 2 < 73) (hd : c + 2 < a ∨ a + 4 < c) (hcs : ∀ k, k < (eF E).length → hI h (c + 1) k = cs k) (hcw : ∀ k, k < (eF E).length → (cs k).toInt.natAbs ≤ 9999)
    (hK : CalR h k FL) (hk : k + 1 < 73) (hd1 : k + 1 < a ∨ a + 4 < k) (hd2 : k + 1 < c ∨ c + 2 < k) (hday : day ≤ 9999) (hR : okR E s) (hP0 : PC h a (prts E s)) (hT0 : LT h a []) :
    Cd X mX6_printParts [.ref a, .ref e, .ref c, .int (nI day), .ref k] h 0 0 (oV (fun t => (chI (ppS a c) h t ∧ ∀ j, j ≠ 5 → hI t a j = hI h a j) ∧ LT t a (txt (dueN FL day) cs E (prts E s))) nX) := by
  have hn : (eC E).length ≤ 12 := ok.2.2.1
  have hLl := prts_len E s
  have hLm : ∀ x ∈ prts E s, x < (eC E).length ∧ s x = true := fun x hx => prts_mem.mp hx
  have hLin : ∀ x, x < (eC E).length → s x = true → x ∈ prts E s := fun x h1 h2 => prts_mem.mpr ⟨h1, h2⟩
  have hlen := fun i hi => txt_len (D := dueN FL day) (cs := cs) ok (fun c hc => (hLm c hc).1) i hi
  generalize hP : oV (fun t => (chI (ppS a c) h t ∧ ∀ j, j ≠ 5 → hI t a j = hI h a j) ∧ LT t a (txt (dueN FL day) cs E (prts E s))) nX = P
  unfold txt at hP
  generalize prts E s = L at hP hP0 hLl hLm hLin hlen
  have kp : ∀ t, (chI (ppS a c) h t ∧ ∀ j, j ≠ 5 → hI t a j = hI h a j) → EdC t e E ∧ LX6 (Sk t) a ∧ LX1 (Sk t) c ∧ CalR t k FL ∧ (∀ j, hI t (c + 1) j = hI h (c + 1) j) ∧ PC t a L := fun t q =>
    ⟨hE.cg (q.1.ag (fun b z => by omega)), q.1.1 ▸ F, q.1.1 ▸ hC, hK.cg q.1.1 (by rw [q.1.2.2 k (by omega)]) (q.1.2.2 _ (by omega)), fun j => by rw [q.1.2.2 (c + 1) (by omega)], hP0.cg (q.2 3 (by decide)) (q.1.2.2 _ (by omega)) (q.1.2.2 _ (by omega))⟩
  have lo : ∀ t u, (chI (ppS a c) h t ∧ ∀ j, j ≠ 5 → hI t a j = hI h a j) → LTo a t u → (chI (ppS a c) h u ∧ ∀ j, j ≠ 5 → hI u a j = hI h a j) := fun t u q z =>
    ⟨q.1.tr (z.1.up (fun b y => by rcases y with y | y; exact Or.inl y; exact Or.inr (Or.inl y))), fun j hj => (z.2 j hj).trans (q.2 j hj)⟩
  refine bkX6_printParts_0 ?_
  refine for_up (G := fun i t => Gd X mX6_printParts 3 [some (.ref a), some (.ref e), some (.ref c), some (.int (nI day)), some (.ref k), some (.int (nI i)), none, none, none, none] [] t 0 0 P)
    (I := fun i t => (chI (ppS a c) h t ∧ ∀ j, j ≠ 5 → hI t a j = hI h a j) ∧ LT t a ((List.range i).foldl (ptx (dueN FL day) cs E L) [])) L.length ?_ ?_ 0 h (Nat.zero_le _) ⟨⟨chI.rf, fun _ _ => rfl⟩, hT0⟩
  · rintro t ⟨k1, k2⟩
    have K := kp t k1
    refine bkX6_printParts_3 K.2.1 (fun _ => bkX6_printParts_156 ?_) (fun q => absurd (by rw [K.2.2.2.2.2.1]; exact (Int32.le_refl _)) q)
    rw [← hP]; exact ⟨k1, k2⟩
  · rintro i t hi ⟨k1, k2⟩ ih
    have K := kp t k1
    have hx := K.2.2.2.2.2.2.1 i hi
    obtain ⟨hxl, hxs⟩ := hLm _ (List.getElem_mem hi)
    have hTl := hlen i (Nat.le_of_lt hi)
    rw [range_fold] at ih
    generalize (List.range i).foldl (ptx (dueN FL day) cs E L) [] = T at k2 hTl ih
    have eg : L.getD i 0 = L[i] := by rw [List.getD_eq_getElem?_getD, List.getElem?_eq_getElem hi]; rfl
    unfold ptx at ih
    rw [eg] at ih
    generalize hxe : L[i] = x at hx hxl hxs ih
    obtain ⟨b, hb, hB0⟩ := hE.2.2.2.2.2.2.2.1 x hxl
    have hBt : ∀ t, (chI (ppS a c) h t ∧ ∀ j, j ≠ 5 → hI t a j = hI h a j) → ClC t b (cl E x) := fun t q => hB0.cg (q.1.ag (fun b z => by omega))
    have okc := ok.2.2.2.2.2 x hxl
    refine bkX6_printParts_3 K.2.1 (fun q => ?_) (fun _ => ?_)
    · rw [K.2.2.2.2.2.1] at q; exact absurd q (nI_ge hi (by omega))
    refine bkX6_printParts_12 K.1.2.1 K.2.1 (vp_in_nI (by omega) (by omega)) (by rw [nI_clamp (by omega), hx]; exact (vp_in_nI (by omega) (by omega))) (by rw [nI_1]; exact c_printNumber K.2.1 k2 (by rw [nI_toInt (by omega)]; omega) (by omega)) (fun u hq => ?_)
    rw [nI_clamp (by omega), hx, nI_clamp (by omega), k1.1.hA, hb]
    refine bkX6_printParts_34 (r6 := some b) ?_
    have k1' := lo t u k1 hq.1
    have hT1 : (blk T ++ nmb (nI (i + 1))).length ≤ T.length + 11 := by have := blk_len T; have := nmb_len (nI (i + 1)); rw [List.length_append]; omega
    refine for_up (G := fun j t => Gd X mX6_printParts 37 [some (.ref a), some (.ref e), some (.ref c), some (.int (nI day)), some (.ref k), some (.int (nI i)), some (.ref b), some (.int (nI j)), none, none] [] t 0 0 P)
      (I := fun j t => (chI (ppS a c) h t ∧ ∀ j, j ≠ 5 → hI t a j = hI h a j) ∧ LT t a (((cItems (cl E x)).take j).foldl (stx (dueN FL day) cs L) (blk T ++ nmb (nI (i + 1))))) (cItems (cl E x)).length ?_ ?_ 0 u (Nat.zero_le _) ⟨k1', by rw [List.take_zero]; exact hq.2⟩
    · rintro t ⟨k1, k2⟩
      have K := kp t k1
      have hB' := hBt t k1
      refine bkX6_printParts_37 hB'.2.1 (fun _ => bkX6_printParts_150 ?_) (fun q => absurd (by rw [hB'.2.2.2.2.2.2.2.2.2.1]; exact (Int32.le_refl _)) q)
      rw [nI_1]
      rw [List.take_length] at k2
      exact ih t ⟨k1, k2⟩
    · rintro j t hj ⟨k1, k2⟩ ih2
      have K := kp t k1
      have hB' := hBt t k1
      have hil : (cItems (cl E x)).length ≤ 20 := okc.2.2.2.2.2.1
      obtain ⟨q9, hq1, hq2⟩ := hB'.2.2.2.2.2.2.2.2.2.2 j hj
      have hmem := List.getElem_mem hj
      have oki := okc.2.2.2.2.2.2 _ hmem
      have hU := stxL_len (D := dueN FL day) (cs := cs) (L := L) ((cItems (cl E x)).take j) (blk T ++ nmb (nI (i + 1))) (fun it hit => okc.2.2.2.2.2.2 it (List.mem_of_mem_take hit))
      rw [List.length_take, Nat.min_eq_left (by omega)] at hU
      rw [take_fold hj] at ih2
      generalize ((cItems (cl E x)).take j).foldl (stx (dueN FL day) cs L) (blk T ++ nmb (nI (i + 1))) = U at k2 hU ih2
      have hUl : U.length + 11 ≤ 2772 := by omega
      have hrf := hR x hxl hxs _ hmem
      generalize (cItems (cl E x))[j] = it at hq2 oki hrf ih2
      refine bkX6_printParts_37 hB'.2.1 (fun q => ?_) (fun _ => ?_)
      · rw [hB'.2.2.2.2.2.2.2.2.2.1] at q; exact absurd q (nI_ge hj (by omega))
      have nx : ∀ u, (chI (ppS a c) h u ∧ ∀ j, j ≠ 5 → hI u a j = hI h a j) → LT u a (blk U ++ itx (dueN FL day) cs L it) → Gd X mX6_printParts 144 [some (.ref a), some (.ref e), some (.ref c), some (.int (nI day)), some (.ref k), some (.int (nI i)), some (va_rf (some b)), some (.int (nI j)), none, none] [] u 0 0 P := fun u g1 g2 => by
        refine bkX6_printParts_144 (r6 := some b) ?_
        rw [nI_1]
        exact ih2 u ⟨g1, g2⟩
      refine bkX6_printParts_47 hB'.2.1 (vp_in_nI (by omega) (by omega)) (by rw [nI_clamp (by omega)]; exact hq1) hq2.2.1 (fun z0 => ?_) (fun z0 => ?_)
      · rw [hq2.2.2.1, kc0] at z0
        refine bkX6_printParts_79 (r6 := some b) hq2.2.1 (fun z2 => ?_) (fun z2 => ?_)
        · rw [hq2.2.2.1, kcode9] at z2
          have h13 : it.1 = 1 ∨ it.1 = 3 := by have := oki.1; omega
          obtain ⟨f, f1, f2, f3⟩ := hq2.2.2.2.2.2 h13
          have okf := oki.2.2.2 h13
          refine bkX6_printParts_106 (r6 := some b) hq2.2.1 f2 f3.1 (c_reckon (nf := (eF E).length) (cs := cs) f3 K.2.2.1 (fun k hk => by rw [K.2.2.2.2.1]; exact hcs k hk) ok.2.1 (by omega) okf.1 okf.2.1) (fun r9 t9 hq => ?_)
          obtain ⟨hq, rfl⟩ := hq
          have g1 : chI (ppS a c) h t9 ∧ ∀ j, j ≠ 5 → hI t9 a j = hI h a j := ⟨k1.1.tr (hq.up (fun b z => Or.inr (Or.inr z))), fun j hj => by rw [hq.2.2 a (by omega)]; exact k1.2 j hj⟩
          have K9 := kp t9 g1
          have L9 : LT t9 a U := k2.cg (by rw [hq.2.2 a (by omega)]) (hq.2.2 _ (by omega))
          have h73 := hq2.1
          have e0 : hI t9 q9 0 = kcode it.1 := by rw [hq.2.2 q9 (by omega)]; exact hq2.2.2.1
          have hev := evF_w hcw okf.1 okf.2.2
          have pn : ∀ v : Int32, v.toInt.natAbs < 10 ^ 9 → nmb v = itx (dueN FL day) cs L it → Gd X mX6_printParts 141 [some (.ref a), some (.ref e), some (.ref c), some (.int (nI day)), some (.ref k), some (.int (nI i)), some (va_rf (some b)), some (.int (nI j)), none, none] [.int v, .ref a] t9 0 0 P := fun v hv hvi => by
            refine bkX6_printParts_141 (r6 := some b) K9.2.1 (c_printNumber K9.2.1 L9 hv hUl) (fun u hq => ?_)
            exact nx u (lo t9 u g1 hq.1) (hvi ▸ hq.2)
          refine bkX6_printParts_115 (r6 := some b) (by rw [hq.1]; exact hq2.2.1) (fun z => ?_) (fun z => ?_)
          · rw [e0, kc3 oki.1] at z
            refine bkX6_printParts_139 (r6 := some b) (pn _ hev ?_)
            unfold itx
            rw [if_neg z0, if_neg z2, if_pos (by omega)]
          · rw [e0, kc3 oki.1] at z
            refine bkX6_printParts_128 (r6 := some b) K9.2.2.2.1.1 (c_dueDay K9.2.2.2.1 hday (by omega)) (fun r8 t8 hq8 => ?_)
            obtain ⟨rfl, rfl⟩ := hq8
            refine bkX6_printParts_136 (r6 := some b) (pn _ (due_w hday _) ?_)
            unfold itx
            rw [if_neg z0, if_neg z2, if_neg (by omega)]
        · rw [hq2.2.2.1, kcode9] at z2
          have htg := hq2.2.2.2.2.1 z2
          have hkl := oki.2.2.1 z2
          have hin := hLin _ hkl (hrf z2)
          have hpn := K.2.2.2.2.2.2.2 _ hin
          have hix := List.idxOf_lt_length_of_mem hin
          refine bkX6_printParts_89 (r6 := some b) K.2.1 hq2.2.1 (by rw [htg]; exact (vp_in_nI (by omega) (by omega))) (by rw [htg, nI_clamp (by omega), hpn]; exact c_printNumber K.2.1 k2 (by rw [nI_toInt (by omega)]; omega) hUl) (fun u hq => ?_)
          refine bkX6_printParts_103 (r6 := some b) (nx u (lo t u k1 hq.1) ?_)
          have e : itx (dueN FL day) cs L it = nmb (nI (L.idxOf it.2.2.1 + 1)) := by unfold itx; rw [if_neg z0, if_pos z2]
          rw [e]; exact hq.2
      · rw [hq2.2.2.1, kc0] at z0
        refine bkX6_printParts_67 (r6 := some b) hq2.2.1 K.2.1 (by rw [hq2.2.2.2.1 z0]; exact c_printWord K.2.1 k2 (oki.2.1 z0) hUl) (fun u hq => ?_)
        refine bkX6_printParts_76 (r6 := some b) (nx u (lo t u k1 hq.1) ?_)
        have e : itx (dueN FL day) cs L it = it.2.1.map (96 + ·) := by unfold itx; rw [if_pos z0]
        rw [e]; exact hq.2
end CP
