/-! ===== compose, makes, readsLike ===== -/
/-- a letter: quarrel, parts, text -/
def lett (D : Int32 → Int32) (E : Edn) (cs : Nat → Int32) : (Nat × Int32 × Int32) × List Nat × List Nat :=
  if (quar E (insd E cs)).1 = 0 then (quar E (insd E cs), prts E (insd E cs), txt D cs E (prts E (insd E cs))) else (quar E (insd E cs), [], [])
theorem lett_q {D : Int32 → Int32} {E : Edn} {cs : Nat → Int32} : (lett D E cs).1 = quar E (insd E cs) := by unfold lett; split <;> rfl
theorem quar_4 (E : Edn) (s : Ins) : (quar E s).1 ≤ 4 := by
  unfold quar
  cases qMiss E s with
  | some _ => simp
  | none => cases qBar E s with
    | some _ => simp
    | none => cases qRef E s with
      | some _ => simp
      | none => by_cases q : qNone E s = true <;> simp [q]
/-- a letter's object holds it -/
def LC (t : SH) (a : Nat) (Z : (Nat × Int32 × Int32) × List Nat × List Nat) : Prop := QR t a Z.1 ∧ (hI t a 3 = nI Z.2.1.length ∧ Z.2.1.length ≤ 12 ∧ ∀ (i : Nat) (hi : i < Z.2.1.length), hI t (a + 2) i = nI Z.2.1[i]) ∧ LT t a Z.2.2
section CM
variable {X : GX} {h : SH} {a e c k m b : Nat} {E : Edn} {s : Ins} {cs : Nat → Int32} {L FL : List Nat} {day : Nat} {T : List Nat}
abbrev cmS (a c : Nat) : Nat → Prop := fun b => (a ≤ b ∧ b ≤ a + 4) ∨ b = c + 2
theorem c_compose (hE : EdC h e E) (ok : okE E) (F : LX6 (Sk h) a) (ha : a + 4 < 73) (hC : LX1 (Sk h) c) (hc : c + 2 < 73) (hd : c + 2 < a ∨ a + 4 < c) (hcs : ∀ k, k < (eF E).length → hI h (c + 1) k = cs k) (hcw : ∀ k, k < (eF E).length → (cs k).toInt.natAbs ≤ 9999)
    (hK : CalR h k FL) (hk : k + 1 < 73) (hd1 : k + 1 < a ∨ a + 4 < k) (hd2 : k + 1 < c ∨ c + 2 < k) (hday : day ≤ 9999) :
    Cd X mX6_compose [.ref a, .ref e, .ref c, .int (nI day), .ref k] h 0 0 (oV (fun t => chI (cmS a c) h t ∧ LC t a (lett (dueN FL day) E cs)) nX) := by
  have hn : (eC E).length ≤ 12 := ok.2.2.1
  generalize hP : oV (fun t => chI (cmS a c) h t ∧ LC t a (lett (dueN FL day) E cs)) nX = P
  have c0 : chI (cmS a c) h (sI (sI h a 3 0) a 5 0) := (chI.rf.s (Or.inl ⟨Nat.le_refl _, by omega⟩)).s (Or.inl ⟨Nat.le_refl _, by omega⟩)
  have f3 : hI (sI (sI h a 3 0) a 5 0) a 3 = 0 := by rw [sI_nj (by decide), sI_at]
  have f5 : hI (sI (sI h a 3 0) a 5 0) a 5 = 0 := sI_at
  have kp : ∀ t, chI (cmS a c) h t → EdC t e E ∧ LX6 (Sk t) a ∧ LX1 (Sk t) c ∧ CalR t k FL ∧ (∀ j, hI t (c + 1) j = hI h (c + 1) j) := fun t q =>
    ⟨hE.cg (q.ag (fun b z => by omega)), q.1 ▸ F, q.1 ▸ hC, hK.cg q.1 (by rw [q.2.2 k (by omega)]) (q.2.2 _ (by omega)), fun j => by rw [q.2.2 (c + 1) (by omega)]⟩
  refine bkX6_compose_0 F (c_settle (cs := cs) (kp _ c0).1 ok (kp _ c0).2.1 ha (kp _ c0).2.2.1 hc hd (fun k hk => by rw [(kp _ c0).2.2.2.2]; exact hcs k hk)) (fun t hq => ?_)
  obtain ⟨g1, g2, g3, g4⟩ := hq
  have c1 : chI (cmS a c) h t := c0.tr (g1.up (fun b z => by rcases z with z | z | z; exact Or.inl ⟨by omega, by omega⟩; exact Or.inl ⟨by omega, by omega⟩; exact Or.inr z))
  have t3 : hI t a 3 = 0 := (g2 3 (by decide)).trans f3
  have t5 : hI t a 5 = 0 := (g2 5 (by decide)).trans f5
  have LT0 : LT t a [] := ⟨t5, Nat.zero_le _, fun x hx => absurd hx (by simp), fun i hi => absurd hi (Nat.not_lt_zero _)⟩
  have K := kp t c1
  have hq4 := quar_4 E (insd E cs)
  refine bkX6_compose_16 K.2.1 (fun q => ?_) (fun q => ?_)
  · rw [g4.1, n0, nI_eq (by omega) (by omega)] at q
    refine bkX6_compose_37 ?_
    rw [← hP]
    refine ⟨c1, ?_⟩
    unfold lett
    rw [if_neg q]
    exact ⟨g4, ⟨t3, Nat.zero_le _, fun i hi => absurd hi (Nat.not_lt_zero _)⟩, LT0⟩
  · rw [g4.1, n0, nI_eq (by omega) (by omega)] at q
    refine bkX6_compose_23 K.2.1 (c_numberParts K.1 ok K.2.1 ha g3 t3) (fun u hq => ?_)
    obtain ⟨p1, p2, p3⟩ := hq
    have c2 : chI (cmS a c) h u := c1.tr (p1.up (fun b z => Or.inl (by omega)))
    have K2 := kp u c2
    refine bkX6_compose_28 K2.2.1 (c_printParts K2.1 ok K2.2.1 ha K2.2.2.1 hc hd (fun k hk => by rw [K2.2.2.2.2]; exact hcs k hk) hcw K2.2.2.2.1 hk hd1 hd2 hday (quar_okR q) p3 (LT0.cg (p2 5 (by decide)) (p1.2.2 _ (by omega)))) (fun v hq => ?_)
    obtain ⟨⟨r1, r2⟩, r3⟩ := hq
    refine bkX6_compose_37 ?_
    rw [← hP]
    refine ⟨c2.tr (r1.up (fun b z => by rcases z with z | z | z; exact Or.inl (by omega); exact Or.inl (by omega); exact Or.inr z)), ?_⟩
    unfold lett
    rw [if_pos q]
    have hpl := prts_len E (insd E cs)
    refine ⟨⟨by rw [r2 6 (by decide), p2 6 (by decide)]; exact g4.1, by rw [r2 7 (by decide), p2 7 (by decide)]; exact g4.2.1, by rw [r2 8 (by decide), p2 8 (by decide)]; exact g4.2.2⟩, ⟨by rw [r2 3 (by decide)]; exact p3.1, by show (prts E (insd E cs)).length ≤ 12; omega, fun i hi => by rw [r1.2.2 (a + 2) (by omega)]; exact p3.2.1 i hi⟩, r3⟩
theorem c_readsLike {Y Z : (Nat × Int32 × Int32) × List Nat × List Nat} (F1 : LX6 (Sk h) a) (F2 : LX6 (Sk h) b) (L1 : LC h a Y) (L2 : LC h b Z) (q1 : Y.1.1 ≤ 4) (q2 : Z.1.1 ≤ 4) :
    Cd X mX6_readsLike [.ref a, .ref b] h 0 0 (oI (fun r t => t = h ∧ r = bI (decide (Y.1 = Z.1 ∧ Y.2.2 = Z.2.2))) nX) := by
  generalize hP : oI (fun r t => t = h ∧ r = bI (decide (Y.1 = Z.1 ∧ Y.2.2 = Z.2.2))) nX = P
  obtain ⟨⟨y1, y2, y3⟩, _, y4, y5, y6, y7⟩ := L1
  obtain ⟨⟨z1, z2, z3⟩, _, z4, z5, z6, z7⟩ := L2
  have no : ¬ (Y.1 = Z.1 ∧ Y.2.2 = Z.2.2) → Gd X mX6_readsLike 44 [none, none, none] [] h 0 0 P := fun q => bkX6_readsLike_44 (by rw [← hP]; exact ⟨rfl, by rw [decide_eq_false q]; rfl⟩)
  refine bkX6_readsLike_0 F1 F2 (fun q => no (fun w => q (by rw [y1, z1, w.1]))) (fun e1 => ?_)
  rw [y1, z1, nI_eq (by omega) (by omega)] at e1
  refine bkX6_readsLike_11 F1 F2 (fun q => no (fun w => q (by rw [y2, z2, w.1]))) (fun e2 => ?_)
  rw [y2, z2] at e2
  refine bkX6_readsLike_22 F1 F2 (fun q => no (fun w => q (by rw [y3, z3, w.1]))) (fun e3 => ?_)
  rw [y3, z3] at e3
  have e4 : Y.1 = Z.1 := Prod.ext e1 (Prod.ext e2 e3)
  refine bkX6_readsLike_33 F1 F2 (fun e5 => ?_) (fun q => no (fun w => q (by rw [y4, z4, w.2])))
  rw [y4, z4, nI_eq (by omega) (by omega)] at e5
  refine bkX6_readsLike_46 ?_
  refine for_up (G := fun i u => Gd X mX6_readsLike 48 [some (.ref a), some (.ref b), some (.int (nI i))] [] u 0 0 P) (I := fun i u => u = h ∧ ∀ (j : Nat) (h1 : j < Y.2.2.length) (h2 : j < Z.2.2.length), j < i → Y.2.2[j] = Z.2.2[j]) Y.2.2.length ?_ ?_ 0 h (Nat.zero_le _) ⟨rfl, fun j _ _ hj => absurd hj (Nat.not_lt_zero _)⟩
  · rintro u ⟨rfl, hlo⟩
    refine bkX6_readsLike_48 F1 (fun _ => bkX6_readsLike_79 ?_) (fun q => absurd (by rw [y4]; exact (Int32.le_refl _)) q)
    rw [← hP]
    refine ⟨rfl, ?_⟩
    rw [decide_eq_true ⟨e4, List.ext_getElem e5 (fun j h1 h2 => hlo j h1 h2 h1)⟩]; rfl
  · rintro i u hi ⟨rfl, hlo⟩ ih
    have hi2 : i < Z.2.2.length := by omega
    have b1 := y6 _ (List.getElem_mem hi)
    have b2 := z6 _ (List.getElem_mem hi2)
    refine bkX6_readsLike_48 F1 (fun q => ?_) (fun _ => ?_)
    · rw [y4] at q; exact absurd q (nI_ge hi (by omega))
    refine bkX6_readsLike_56 F1 (vp_in_nI (by omega) (by omega)) F2 (fun q => ?_) (fun q => ?_)
    · rw [nI_clamp (by omega), y7 i hi, z7 i hi2, nI_eq (by omega) (by omega)] at q
      refine bkX6_readsLike_73 ?_
      rw [nI_1]
      refine ih u ⟨rfl, fun j h1 h2 hj => ?_⟩
      rcases Nat.lt_or_ge j i with w | w
      · exact hlo j h1 h2 w
      · have : j = i := by omega
        subst this; exact q
    · rw [nI_clamp (by omega), y7 i hi, z7 i hi2, nI_eq (by omega) (by omega)] at q
      refine bkX6_readsLike_71 ?_
      rw [← hP]
      refine ⟨rfl, ?_⟩
      rw [decide_eq_false (fun w => q (by simp [w.2]))]; rfl
/-- the model's letter -/
def LM (t : SH) (m : Nat) (Z : (Nat × Int32 × Int32) × List Nat × List Nat) : Prop := QM t m Z.1 ∧ PM t m Z.2.1 ∧ OT t m Z.2.2
abbrev prS (m : Nat) : Nat → Prop := fun b => b = m ∨ b = m + 30 ∨ b = m + 33
theorem c_printsPart {i : Nat} (F : LX11 (Sk h) m) (hE : EdM h m e E) (ok : okE E) (he : e ≤ 6) (hcs : ∀ k, k < (eF E).length → hI h (m + 27) k = cs k) (hcw : ∀ k, k < (eF E).length → (cs k).toInt.natAbs ≤ 9999)
    (hB : Bhd h m (bhd FL day)) (hday : day ≤ 9999) (hR : okR E s) (hP0 : PM h m (prts E s)) (hi : i < (prts E s).length) (hT : OT h m T) (hTl : T.length + 231 ≤ 2772) :
    Cd X mX11_printsPart [.ref m, .int (nI e), .int (nI i), .int (nI day)] h 0 0 (oV (fun t => (chI (prS m) h t ∧ ∀ j, j ≠ 48 → hI t m j = hI h m j) ∧ OT t m (ptx (dueN FL day) cs E (prts E s) T i)) nX) := by
  have hn : (eC E).length ≤ 12 := ok.2.2.1
  have hLl := prts_len E s
  have hLm : ∀ x ∈ prts E s, x < (eC E).length ∧ s x = true := fun x hx => prts_mem.mp hx
  have hLin : ∀ x, x < (eC E).length → s x = true → x ∈ prts E s := fun x h1 h2 => prts_mem.mpr ⟨h1, h2⟩
  generalize hP : oV (fun t => (chI (prS m) h t ∧ ∀ j, j ≠ 48 → hI t m j = hI h m j) ∧ OT t m (ptx (dueN FL day) cs E (prts E s) T i)) nX = P
  unfold ptx at hP
  generalize prts E s = L at hP hP0 hLl hLm hLin hi
  have eg : L.getD i 0 = L[i] := by rw [List.getD_eq_getElem?_getD, List.getElem?_eq_getElem hi]; rfl
  rw [eg] at hP
  have hx := hP0.2 i hi
  obtain ⟨hxl, hxs⟩ := hLm _ (List.getElem_mem hi)
  generalize hxe : L[i] = x at hx hxl hxs hP
  have okc := ok.2.2.2.2.2 x hxl
  have kp : ∀ t, (chI (prS m) h t ∧ ∀ j, j ≠ 48 → hI t m j = hI h m j) → EdM t m e E ∧ LX11 (Sk t) m ∧ Bhd t m (bhd FL day) ∧ (∀ j, hI t (m + 27) j = hI h (m + 27) j) ∧ PM t m L := fun t q =>
    ⟨hE.cg (q.1.agM (fun b z => by omega) e) ok, q.1.1 ▸ F, hB.cg (q.2 38 (by decide)) (q.1.2.2 _ (by omega)), fun j => by rw [q.1.2.2 (m + 27) (by omega)], hP0.cg (q.2 43 (by decide)) (q.1.2.2 _ (by omega))⟩
  have lo : ∀ t u, (chI (prS m) h t ∧ ∀ j, j ≠ 48 → hI t m j = hI h m j) → OTo m t u → (chI (prS m) h u ∧ ∀ j, j ≠ 48 → hI u m j = hI h m j) := fun t u q z =>
    ⟨q.1.tr (z.1.up (fun b y => by rcases y with y | y; exact Or.inl y; exact Or.inr (Or.inr y))), fun j hj => (z.2 j hj).trans (q.2 j hj)⟩
  refine bkX11_printsPart_0 F (vp_in_nI (by omega) (by omega)) (by rw [nI_1]; exact c_prints F hT (by rw [nI_toInt (by omega)]; omega) (by omega)) (fun u hq => ?_)
  rw [nI_clamp (by omega), hx]
  refine bkX11_printsPart_15 ?_
  rw [ix12, ix20]
  have k1' := lo h u ⟨chI.rf, fun _ _ => rfl⟩ hq.1
  have hT1 : (blk T ++ nmb (nI (i + 1))).length ≤ T.length + 11 := by have := blk_len T; have := nmb_len (nI (i + 1)); rw [List.length_append]; omega
  have hil : (cItems (cl E x)).length ≤ 20 := okc.2.2.2.2.2.1
  refine for_up (G := fun j t => Gd X mX11_printsPart 27 [some (.ref m), some (.int (nI e)), none, some (.int (nI day)), some (.int (nI x)), some (.int (nI (20 * (12 * e + x) + j))), none] [] t 0 0 P)
    (I := fun j t => (chI (prS m) h t ∧ ∀ j, j ≠ 48 → hI t m j = hI h m j) ∧ OT t m (((cItems (cl E x)).take j).foldl (stx (dueN FL day) cs L) (blk T ++ nmb (nI (i + 1))))) (cItems (cl E x)).length ?_ ?_ 0 u (Nat.zero_le _) ⟨k1', by rw [List.take_zero]; exact hq.2⟩
  · rintro t ⟨k1, k2⟩
    have K := kp t k1
    have C := K.1.2.2.2 x hxl
    refine bkX11_printsPart_27 K.2.1 (by rw [ix12]; exact (vp_in_nI (by omega) (by omega))) (fun _ => bkX11_printsPart_155 ?_) (fun q => absurd (by rw [ix12, nI_clamp (by omega), C.2.2.2.2.2.1, ix20, nI_add]; exact (Int32.le_refl _)) q)
    rw [List.take_length] at k2
    rw [← hP]; exact ⟨k1, k2⟩
  · rintro j t hj ⟨k1, k2⟩ ih2
    have K := kp t k1
    have C := K.1.2.2.2 x hxl
    have M := C.2.2.2.2.2.2 j hj
    have hmem := List.getElem_mem hj
    have oki := okc.2.2.2.2.2.2 _ hmem
    have hU := stxL_len (D := dueN FL day) (cs := cs) (L := L) ((cItems (cl E x)).take j) (blk T ++ nmb (nI (i + 1))) (fun it hit => okc.2.2.2.2.2.2 it (List.mem_of_mem_take hit))
    rw [List.length_take, Nat.min_eq_left (by omega)] at hU
    rw [take_fold hj] at ih2
    generalize ((cItems (cl E x)).take j).foldl (stx (dueN FL day) cs L) (blk T ++ nmb (nI (i + 1))) = U at k2 hU ih2
    have hUl : U.length + 11 ≤ 2772 := by omega
    have hrf := hR x hxl hxs _ hmem
    generalize (cItems (cl E x))[j] = it at M oki hrf ih2
    have hk3 := oki.1
    refine bkX11_printsPart_27 K.2.1 (by rw [ix12]; exact (vp_in_nI (by omega) (by omega))) (fun q => ?_) (fun _ => ?_)
    · rw [ix12, nI_clamp (by omega), C.2.2.2.2.2.1, ix20, nI_add] at q; exact absurd q (nI_ge (by omega) (by omega))
    have nx : ∀ u, (chI (prS m) h u ∧ ∀ j, j ≠ 48 → hI u m j = hI h m j) → OT u m (blk U ++ itx (dueN FL day) cs L it) → Gd X mX11_printsPart 149 [some (.ref m), some (.int (nI e)), none, some (.int (nI day)), some (.int (nI x)), some (.int (nI (20 * (12 * e + x) + j))), none] [] u 0 0 P := fun u g1 g2 => by
      refine bkX11_printsPart_149 ?_
      rw [nI_1, Nat.add_assoc]
      exact ih2 u ⟨g1, g2⟩
    refine bkX11_printsPart_55 K.2.1 (vp_in_nI (by omega) (by omega)) (fun z0 => ?_) (fun z0 => ?_)
    · rw [nI_clamp (by omega), M.1, n0, nI_eq (by omega) (by omega)] at z0
      refine bkX11_printsPart_79 K.2.1 (vp_in_nI (by omega) (by omega)) (fun z2 => ?_) (fun z2 => ?_)
      · rw [nI_clamp (by omega), M.1, n2, nI_eq (by omega) (by omega)] at z2
        have h13 : it.1 = 1 ∨ it.1 = 3 := by omega
        obtain ⟨f, f1, f2⟩ := M.2.2.2 h13
        have okf := oki.2.2.2 h13
        refine bkX11_printsPart_108 K.2.1 (vp_in_nI (by omega) (by omega)) (by rw [nI_clamp (by omega), f1]; exact c_worth (nf := (eF E).length) (cs := cs) K.2.1 f2 he (fun k hk => by rw [K.2.2.2.1]; exact hcs k hk) ok.2.1 okf.1 okf.2.1) (fun r9 t9 hq => ?_)
        obtain ⟨hq, rfl⟩ := hq
        have g1 : chI (prS m) h t9 ∧ ∀ j, j ≠ 48 → hI t9 m j = hI h m j := ⟨k1.1.tr (hq.up (fun b z => Or.inr (Or.inl z))), fun j hj => by rw [hq.2.2 m (by omega)]; exact k1.2 j hj⟩
        have K9 := kp t9 g1
        have L9 : OT t9 m U := k2.cg (by rw [hq.2.2 m (by omega)]) (hq.2.2 _ (by omega))
        have e0 : hI t9 (m + 20) (nI (20 * (12 * e + x) + j)).toNatClampNeg = nI it.1 := by rw [hq.2.2 (m + 20) (by omega), nI_clamp (by omega)]; exact M.1
        have hev := evF_w hcw okf.1 okf.2.2
        have pn : ∀ v : Int32, v.toInt.natAbs < 10 ^ 9 → nmb v = itx (dueN FL day) cs L it → Gd X mX11_printsPart 146 [some (.ref m), some (.int (nI e)), none, some (.int (nI day)), some (.int (nI x)), some (.int (nI (20 * (12 * e + x) + j))), none] [.int v, .ref m] t9 0 0 P := fun v hv hvi => by
          refine bkX11_printsPart_146 K9.2.1 (c_prints K9.2.1 L9 hv hUl) (fun u hq => ?_)
          exact nx u (lo t9 u g1 hq.1) (hvi ▸ hq.2)
        refine bkX11_printsPart_120 K9.2.1 (vp_in_nI (by omega) (by omega)) (fun z => ?_) (fun z => ?_)
        · rw [e0, n1, nI_eq (by omega) (by omega)] at z
          refine bkX11_printsPart_139 K9.2.1 (c_dayOf K9.2.1 K9.2.2.1 (by omega)) (fun r8 t8 hq8 => ?_)
          obtain ⟨rfl, rfl⟩ := hq8
          refine pn _ (due_w hday _) ?_
          unfold itx
          rw [if_neg z0, if_neg z2, if_neg z]
        · rw [e0, n1, nI_eq (by omega) (by omega)] at z
          refine bkX11_printsPart_134 (pn _ hev ?_)
          unfold itx
          rw [if_neg z0, if_neg z2, if_pos z]
      · rw [nI_clamp (by omega), M.1, n2, nI_eq (by omega) (by omega)] at z2
        have htg := M.2.2.1 z2
        have hkl := oki.2.2.1 z2
        have hin := hLin _ hkl (hrf z2)
        have hix := List.idxOf_lt_length_of_mem hin
        refine bkX11_printsPart_90 K.2.1 (vp_in_nI (by omega) (by omega)) (by rw [nI_clamp (by omega), htg]; exact c_partOf K.2.1 K.2.2.2.2 (by omega) (fun x hx => by have := (hLm x hx).1; omega) hin (by omega)) (fun r8 t8 hq8 => ?_)
        obtain ⟨rfl, rfl⟩ := hq8
        refine bkX11_printsPart_102 K.2.1 (c_prints K.2.1 k2 (by rw [nI_toInt (by omega)]; omega) hUl) (fun u hq => ?_)
        refine bkX11_printsPart_105 (nx u (lo _ u k1 hq.1) ?_)
        have e : itx (dueN FL day) cs L it = nmb (nI (L.idxOf it.2.2.1 + 1)) := by unfold itx; rw [if_neg z0, if_pos z2]
        rw [e]; exact hq.2
    · rw [nI_clamp (by omega), M.1, n0, nI_eq (by omega) (by omega)] at z0
      refine bkX11_printsPart_65 K.2.1 (vp_in_nI (by omega) (by omega)) (by rw [nI_clamp (by omega), M.2.1 z0]; exact c_printsWord K.2.1 k2 (oki.2.1 z0) hUl) (fun u hq => ?_)
      refine bkX11_printsPart_76 (nx u (lo t u k1 hq.1) ?_)
      have e : itx (dueN FL day) cs L it = it.2.1.map (96 + ·) := by unfold itx; rw [if_pos z0]
      rw [e]; exact hq.2
abbrev mkS (m : Nat) : Nat → Prop := fun b => b = m ∨ b = m + 30 ∨ b = m + 31 ∨ b = m + 32 ∨ b = m + 33
/-- all of the model's own fields but the letter are as they were -/
def mkK (m : Nat) (h t : SH) : Prop := chI (mkS m) h t ∧ ∀ j, (j < 43 ∨ j = 47 ∨ 48 < j) → hI t m j = hI h m j
theorem mkK.tr {m : Nat} {h t u : SH} (p : mkK m h t) (q : mkK m t u) : mkK m h u := ⟨p.1.tr q.1, fun j hj => (q.2 j hj).trans (p.2 j hj)⟩
theorem c_makes (F : LX11 (Sk h) m) (hE : EdM h m e E) (ok : okE E) (he : e ≤ 6) (hcs : ∀ k, k < (eF E).length → hI h (m + 27) k = cs k) (hcw : ∀ k, k < (eF E).length → (cs k).toInt.natAbs ≤ 9999)
    (hB : Bhd h m (bhd FL day)) (hday : day ≤ 9999) :
    Cd X mX11_makes [.ref m, .int (nI e), .int (nI day)] h 0 0 (oV (fun t => mkK m h t ∧ LM t m (lett (dueN FL day) E cs)) nX) := by
  have hn : (eC E).length ≤ 12 := ok.2.2.1
  generalize hP : oV (fun t => mkK m h t ∧ LM t m (lett (dueN FL day) E cs)) nX = P
  have kp : ∀ t, mkK m h t → EdM t m e E ∧ LX11 (Sk t) m ∧ Bhd t m (bhd FL day) ∧ (∀ j, hI t (m + 27) j = hI h (m + 27) j) := fun t q =>
    ⟨hE.cg (q.1.agM (fun b z => by omega) e) ok, q.1.1 ▸ F, hB.cg (q.2 38 (by omega)) (q.1.2.2 _ (by omega)), fun j => by rw [q.1.2.2 (m + 27) (by omega)]⟩
  refine bkX11_makes_0 F (c_gathers F hE ok he hcs) (fun t hq => ?_)
  have c1 : mkK m h t := ⟨hq.1.up (fun b z => by rcases z with z | z; exact Or.inr (Or.inl z); exact Or.inr (Or.inr (Or.inl z))), fun j _ => by rw [hq.1.2.2 m (by omega)]⟩
  have K1 := kp t c1
  refine bkX11_makes_5 K1.2.1 (c_quarrels K1.2.1 K1.1 ok he hq.2) (fun u hq2 => ?_)
  have c2 : mkK m h u := c1.tr ⟨hq2.1.1.up (fun b z => Or.inl z), fun j hj => hq2.1.2 j (by omega)⟩
  have hin : RB (hI u (m + 31)) (insd E cs) (eC E).length := hq.2.cg (hq2.1.1.2.2 _ (by omega))
  have c3 : mkK m h (sI (sI u m 48 0) m 43 0) := c2.tr ⟨(chI.rf.s (Or.inl rfl)).s (Or.inl rfl), fun j hj => by rw [sI_nj (by omega), sI_nj (by omega)]⟩
  have e44 : hI (sI (sI u m 48 0) m 43 0) m 44 = nI (quar E (insd E cs)).1 := by rw [sI_nj (by decide), sI_nj (by decide)]; exact hq2.2.1
  have e45 : hI (sI (sI u m 48 0) m 43 0) m 45 = (quar E (insd E cs)).2.1 := by rw [sI_nj (by decide), sI_nj (by decide)]; exact hq2.2.2.1
  have e46 : hI (sI (sI u m 48 0) m 43 0) m 46 = (quar E (insd E cs)).2.2 := by rw [sI_nj (by decide), sI_nj (by decide)]; exact hq2.2.2.2
  have e43 : hI (sI (sI u m 48 0) m 43 0) m 43 = 0 := sI_at
  have e48 : hI (sI (sI u m 48 0) m 43 0) m 48 = 0 := by rw [sI_nj (by decide), sI_at]
  have e31 : hI (sI (sI u m 48 0) m 43 0) (m + 31) = hI u (m + 31) := by rw [sI_nb (by omega), sI_nb (by omega)]
  have hq4 := quar_4 E (insd E cs)
  have K2 := kp u c2
  have bk := @bkX11_makes_10 X u
  generalize hv : sI (sI u m 48 0) m 43 0 = v at c3 e44 e45 e46 e43 e48 e31
  have K3 := kp v c3
  refine bkX11_makes_10 K2.2.1 (fun q => ?_) (fun q => ?_)
  · rw [hv] at q ⊢
    rw [e44, n0, nI_eq (by omega) (by omega)] at q
    refine bkX11_makes_55 ?_
    rw [← hP]
    refine ⟨c3, ?_⟩
    unfold lett
    rw [if_neg q]
    exact ⟨⟨e44, e45, e46⟩, ⟨e43, fun i hi => absurd hi (Nat.not_lt_zero _)⟩, e48, Nat.zero_le _, fun i hi => absurd hi (Nat.not_lt_zero _)⟩
  · rw [hv] at q ⊢
    rw [e44, n0, nI_eq (by omega) (by omega)] at q
    refine bkX11_makes_27 K3.2.1 (c_orders K3.2.1 K3.1 ok he (hin.cg e31)) (fun w hq3 => ?_)
    obtain ⟨r1, r2, r3⟩ := hq3
    have c4 : mkK m v w := ⟨r1.up (fun b z => by rcases z with z | z; exact Or.inl z; exact Or.inr (Or.inr (Or.inr (Or.inl z)))), fun j hj => r2 j (by omega)⟩
    refine bkX11_makes_32 ?_
    have hpl := prts_len E (insd E cs)
    have hlen := fun i hi => txt_len (D := dueN FL day) (cs := cs) ok (fun c hc => (prts_mem (s := insd E cs).mp hc).1) i hi
    refine for_up (G := fun i t => Gd X mX11_makes 34 [some (.ref m), some (.int (nI e)), some (.int (nI day)), some (.int (nI i))] [] t 0 0 P)
      (I := fun i t => (chI (prS m) w t ∧ ∀ j, j ≠ 48 → hI t m j = hI w m j) ∧ OT t m ((List.range i).foldl (ptx (dueN FL day) cs E (prts E (insd E cs))) [])) (prts E (insd E cs)).length ?_ ?_ 0 w (Nat.zero_le _) ⟨⟨chI.rf, fun _ _ => rfl⟩, by rw [r2 48 (by decide)]; exact e48, Nat.zero_le _, fun i hi => absurd hi (Nat.not_lt_zero _)⟩
    · rintro t ⟨k1, k2⟩
      have k3 : PM t m (prts E (insd E cs)) := r3.cg (k1.2 43 (by decide)) (k1.1.2.2 _ (by omega))
      have c5 : mkK m h t := (c3.tr c4).tr ⟨k1.1.up (fun b z => by rcases z with z | z | z; exact Or.inl z; exact Or.inr (Or.inl z); exact Or.inr (Or.inr (Or.inr (Or.inr z)))), fun j hj => k1.2 j (by omega)⟩
      refine bkX11_makes_34 (kp t c5).2.1 (fun _ => bkX11_makes_55 ?_) (fun q => absurd (by rw [k3.1]; exact (Int32.le_refl _)) q)
      rw [← hP]
      refine ⟨c5, ?_⟩
      unfold lett
      rw [if_pos q]
      exact ⟨⟨by rw [k1.2 44 (by decide), r2 44 (by decide)]; exact e44, by rw [k1.2 45 (by decide), r2 45 (by decide)]; exact e45, by rw [k1.2 46 (by decide), r2 46 (by decide)]; exact e46⟩, k3, k2⟩
    · rintro i t hi ⟨k1, k2⟩ ih
      have k3 : PM t m (prts E (insd E cs)) := r3.cg (k1.2 43 (by decide)) (k1.1.2.2 _ (by omega))
      have c5 : mkK m h t := (c3.tr c4).tr ⟨k1.1.up (fun b z => by rcases z with z | z | z; exact Or.inl z; exact Or.inr (Or.inl z); exact Or.inr (Or.inr (Or.inr (Or.inr z)))), fun j hj => k1.2 j (by omega)⟩
      have K := kp t c5
      have hl := hlen i (Nat.le_of_lt hi)
      refine bkX11_makes_34 K.2.1 (fun q => ?_) (fun _ => ?_)
      · rw [k3.1] at q; exact absurd q (nI_ge hi (by omega))
      refine bkX11_makes_42 K.2.1 (c_printsPart K.2.1 K.1 ok he (fun k hk => by rw [K.2.2.2]; exact hcs k hk) hcw K.2.2.1 hday (quar_okR q) k3 hi k2 (by omega)) (fun y hq => ?_)
      refine bkX11_makes_49 ?_
      rw [nI_1]
      refine ih y ⟨⟨k1.1.tr hq.1.1, fun j hj => (hq.1.2 j hj).trans (k1.2 j hj)⟩, ?_⟩
      rw [range_fold]; exact hq.2
end CM
