/-! ===== the component's edition ===== -/
theorem bkX10_edition_62 {X : GX} {h : SH} {nc ns : Nat} {P : Out → SH → Prop} {n1 s1 : Nat} {Q : Int32 → SH → Prop} {a0 : Nat} {a3 : Nat} {as0 : Nat} (F0 : LX7 (Sk h) (as0)) (hN : Cd X mX7_fillEdition [.ref as0] (h) n1 s1 (oI Q nX)) (g : ∀ r t, Q r t → Gd X mX10_edition 65 [some (.ref a0), none, none, some (.ref a3), none] [.int r] (t) nc ns P) : Gd X mX10_edition 62 [some (.ref a0), none, none, some (.ref a3), none] [.ref as0] h (n1 + nc) (s1 + ns) P := by
  exact g_callVH (k := 7) [] dX10_edition_62 mhX7_fillEdition ⟨by decide, by decide⟩ kw_441 kw_442 kw_443 rfl (by decide) (Nat.le_of_ble_eq_true rfl) (by intro x hx; cases hx) (LX7.o (h := h) F0) (Nat.le_of_ble_eq_true rfl) hN (fun _ _ q => q.elim) (oI_go (G := fun a b => Gd X mX10_edition 65 _ a b nc ns P) (fun r t q => Gd.wk (g r t q) ⟨rfl, ⟨rfl, trivial⟩⟩))
section CE
variable {X : GX} {h t : SH} {A : Abs} {ad : Nat → Nat}
/-- the component's state, its editions' cells told -/
def RC (h : SH) (ad : Nat → Nat) (A : Abs) : Prop := LX10 (Sk h) 8 ∧ RT h A ∧ RE h ad A ∧ RH h ad A ∧ CalR h 14 (aF A) ∧ RLt h A ∧ RS h ad A
/-- only new cells are touched -/
abbrev gO (h t : SH) : Prop := gr (fun b => hz h ≤ b) (fun b => hz h ≤ b) h t
theorem gO.kup (g : gO h t) : kup (Sk h) (Sk t) := ⟨g.1, g.2.1, fun b j hb _ => congrFun (g.2.2.1 b hb (Nat.not_le.mpr hb)) j⟩
theorem gO.agU (g : gO h t) : agU h t := ⟨g.kup, fun b _ hb => g.2.2.2 b hb (Nat.not_le.mpr hb)⟩
theorem gO.frC (g : gO h t) (h73 : 73 ≤ hz h) : frC h t := ⟨g.kup, fun b _ hb => g.2.2.2 b (by omega) (by omega)⟩
theorem RC.old (R : RC h ad A) (g : gO h t) (h73 : 73 ≤ hz h) : RC t ad A := by
  obtain ⟨r1, r2, r3, r4, r5, r6, r7⟩ := R
  have hI' : ∀ b, b < 35 → hI t b = hI h b := fun b hb => (g.2.2.2 b (by omega) (by omega)).1
  have hA' : ∀ b, b < 35 → hA t b = hA h b := fun b hb => g.2.2.1 b (by omega) (by omega)
  have k := g.kup
  exact ⟨r1.up k, r2.cg rfl (by rw [hI' 8 (by decide)]) (hI' 9 (by decide)), r3.cu rfl g.agU (by rw [hI' 8 (by decide)]) (fun i _ => by rw [hA' 10 (by decide)]), r4.cg rfl rfl rfl (by rw [hA' 8 (by decide)]) (hI' 12 (by decide)), ⟨r5.1.up k (by unfold nm; decide), by rw [hI' 14 (by decide)]; exact r5.2.1, r5.2.2.1, fun i hi => by rw [hI' 15 (by decide)]; exact r5.2.2.2.1 i hi, r5.2.2.2.2⟩, r6.cg rfl (by rw [hI' 8 (by decide)]) (hI' 16 (by decide)) (hI' 18 (by decide)) (hI' 20 (by decide)), r7.cg rfl rfl (by rw [hA' 21 (by decide)]) (by rw [hA' 21 (by decide)]) (fun j _ => by rw [hI' 21 (by decide)])⟩
/-- the tape is emptied -/
theorem RC.em (R : RC h ad A) : RC (sI h 8 1 0) ad (emp A) := by
  obtain ⟨r1, r2, r3, r4, r5, r6, r7⟩ := R
  have e8 : ∀ j, j ≠ 1 → hI (sI h 8 1 0) 8 j = hI h 8 j := fun j hj => sI_nj hj
  have e2 : ∀ b, b ≠ 8 → hI (sI h 8 1 0) b = hI h b := fun b hb => sI_nb hb
  have c : chI (· = 8) h (sI h 8 1 0) := chI.rf.s rfl
  exact ⟨r1, ⟨sI_at, fun i hi => absurd hi (Nat.not_lt_zero _)⟩, r3.cu rfl (c.agU (fun b q => by omega)) (e8 3 (by decide)) (fun _ _ => rfl), r4.cg rfl rfl rfl rfl (e2 12 (by decide)), r5.cg rfl (by rw [e2 14 (by decide)]) (e2 15 (by decide)), r6.cg rfl (e8 8 (by decide)) (e2 16 (by decide)) (e2 18 (by decide)) (e2 20 (by decide)), r7.cg rfl rfl rfl rfl (fun j _ => by rw [e2 21 (by decide)])⟩
/-- an edition is put into the row -/
def pE1 (t : SH) (n e : Nat) : SH := sI (sA t 10 n (some e)) 8 3 (nI (n + 1))
theorem RC.add {E : Edn} {e : Nat} (R : RC t ad (emp A)) (ok : okA A) (h73 : 73 ≤ e) (hE : EdC t e E) (h0 : hI t e 0 = nI (nE A)) (J : JC t e E) :
    (LX10 (Sk (pE1 t (nE A) e)) 8 ∧ RT (pE1 t (nE A) e) (addE A E) ∧ RE (pE1 t (nE A) e) (fun i => if i = nE A then e else ad i) (addE A E) ∧ CalR (pE1 t (nE A) e) 14 (aF A) ∧ RLt (pE1 t (nE A) e) (addE A E) ∧ RS (pE1 t (nE A) e) (fun i => if i = nE A then e else ad i) (addE A E)) ∧ frC t (pE1 t (nE A) e) := by
  obtain ⟨r1, r2, r3, r4, r5, r6, r7⟩ := R
  generalize hu : pE1 t (nE A) e = u
  have e8 : ∀ j, j ≠ 3 → hI u 8 j = hI t 8 j := fun j hj => by rw [← hu]; exact sI_nj (h := sA t 10 (nE A) (some e)) hj
  have e2 : ∀ b, b ≠ 8 → hI u b = hI t b := fun b hb => by rw [← hu]; exact sI_nb (h := sA t 10 (nE A) (some e)) hb
  have ej : hJ u = hJ t := by rw [← hu]; rfl
  have a2 : ∀ b j, ¬ (b = 10 ∧ j = nE A) → hA u b j = hA t b j := fun b j hb => by rw [← hu]; exact sA_ne (h := t) hb
  have an : hA u 10 (nE A) = some e := by rw [← hu]; exact sA_at (h := t)
  have e3 : hI u 8 3 = nI (nE A + 1) := by rw [← hu]; exact sI_at (h := sA t 10 (nE A) (some e))
  have ku : kup (Sk t) (Sk u) := ⟨by rw [← hu]; exact Nat.le_refl _, fun b _ => by rw [← hu]; rfl, fun b j _ hm => a2 b j (fun z => hm (Or.inr (Or.inl z.1)))⟩
  have ag : agU t u := ⟨ku, fun b hb _ => ⟨e2 b (by omega), by rw [ej]⟩⟩
  refine ⟨⟨r1.up ku, ⟨(e8 1 (by decide)).trans r2.1, fun i hi => absurd hi (Nat.not_lt_zero _)⟩, ⟨by rw [nE_add]; exact e3, fun i hi => ?_⟩, ⟨r5.1.up ku (by unfold nm; decide), by rw [e2 14 (by decide)]; exact r5.2.1, r5.2.2.1, fun i hi => by rw [e2 15 (by decide)]; exact r5.2.2.2.1 i hi, r5.2.2.2.2⟩, r6.cg rfl (e8 8 (by decide)) (e2 16 (by decide)) (e2 18 (by decide)) (e2 20 (by decide)), ?_⟩, ku, fun b h1 h2 => ⟨e2 b (by omega), by rw [ej]⟩⟩
  · rw [nE_add] at hi
    by_cases y : i = nE A
    · subst y
      rw [ed_r]
      simp only [if_true]
      exact ⟨an, hE.cu ag, by rw [e2 e (by omega)]; exact h0, J.cg (by rw [e2 e (by omega)]) (e2 _ (by omega)) (e2 _ (by omega))⟩
    · have hi' : i < nE A := by omega
      rw [ed_l hi']
      simp only [if_neg y]
      obtain ⟨g1, g2, g3, g4⟩ := r3.2 i hi'
      have h73' := g2.1
      exact ⟨(a2 _ _ (fun z => y z.2)).trans g1, g2.cu ag, by rw [e2 _ (by omega)]; exact g3, g4.cg (by rw [e2 _ (by omega)]) (e2 _ (by omega)) (e2 _ (by omega))⟩
  · rcases r7 with z | ⟨i, j, d, z1, z2, z3, z4, z5, z6, z7, z8, z9⟩
    · exact Or.inl ((a2 21 3 (by omega)).trans z)
    · have z1 : i < nE A := z1
      have z2 : j < nE A := z2
      have z4 : eF (ed A i) = eF (ed A j) := z4
      refine Or.inr ⟨i, j, d, by rw [nE_add]; omega, by rw [nE_add]; omega, z3, ?_, ?_, ?_, by rw [e2 21 (by decide)]; exact z7, ?_, ?_⟩
      · rw [ed_l z1, ed_l z2]; exact z4
      · simp only [if_neg (show i ≠ nE A by omega)]; exact (a2 21 3 (by omega)).trans z5
      · simp only [if_neg (show j ≠ nE A by omega)]; exact (a2 21 4 (by omega)).trans z6
      · rw [ed_l z1, ed_l z2, e2 21 (by decide)]; exact z8
      · rw [ed_l z1, ed_l z2, e2 21 (by decide)]; exact z9
theorem c_latestStart (r1 : LX10 (Sk h) 8) (r3 : RE h ad A) (ok : okA A) : Cd X mX10_latestStart [.ref 8] h 0 0 (oI (fun r t => t = h ∧ r = if nE A = 0 then -1 else nI (ed A (nE A - 1)).1) nX) := by
  have h6 := ok.2.1
  refine bkX10_latestStart_0 r1 (C_editionAt r1 r3 ok) (fun r t hq => ?_)
  obtain ⟨ht, rfl⟩ := hq
  rw [ht, r3.1]
  by_cases q : nE A = 0
  · rw [q, if_neg (by decide), if_pos rfl]
    exact bkX10_latestStart_10 (fun z hz => by cases hz) (fun _ => bkX10_latestStart_15 (bkX10_latestStart_23 ⟨rfl, rfl⟩))
  · have em : nI (nE A) - 1 = nI (nE A - 1) := by rw [show (1 : Int32) = nI 1 from rfl, pk_sub (by omega)]
    rw [em, if_neg q, if_pos ⟨by rw [n0, nI_leI (by omega) (by omega)]; omega, by rw [nI_ltI (by omega) (by omega)]; omega⟩, nI_clamp (by omega)]
    have g := r3.2 (nE A - 1) (by omega)
    refine bkX10_latestStart_10 (fun z hz => ?_) (fun hz => by cases hz)
    refine bkX10_latestStart_19 (a1 := ad (nE A - 1)) g.2.1.2.1 (bkX10_latestStart_23 ⟨rfl, ?_⟩)
    exact g.2.1.2.2.1
/-- from the new edition on -/
theorem C_edit36 {x : Int32} {g : SH} (hZ : SZ X) (h73 : 73 ≤ hz g) (R : RC g ad (emp A)) (T9 : ∀ (i : Nat) (hi : i < (aT A).length), hI g 9 i = nI (aT A)[i]) (ok : okA A) (hday : okDay A x = true) (f0 : frC h g) : Gd X mX10_edition 36 [some (.ref 8), some (.int x), some (.int (nI (aT A).length)), none, none] [] g (3 * (aT A).length + 23) (13 * (aT A).length + 136) (oI (CP h (fEdition A x)) nX) := by
  have hday' := hday
  unfold okDay at hday'
  rw [decide_eq_true_iff] at hday'
  obtain ⟨hx, h6, hd⟩ := hday'
  have h6' := ok.2.1
  obtain ⟨xn, hxn, hxe⟩ := rep_x hx
  have oL := ok.1.1
  obtain ⟨hT, -⟩ := toks_ok oL
  have oT : TXo (aT A) := ⟨oL, fun c hc => by rcases ok.1.2 c hc with z | z <;> omega⟩
  have r1 := R.1
  have e3 : hI g 8 3 = nI (nE A) := R.2.2.1.1
  generalize hP : oI (CP h (fEdition A x)) nX = P
  refine Gd.le (nc := 7 + (9 + (3 * (aT A).length + 5 + 0) + 1) + 1) (ns := 58 + (5 * (aT A).length + 38 + (8 * (aT A).length + 18 + 0) + 9) + 13) (by omega) (by omega) (bkX10_edition_36 ?_)
  -- the edition
  have g1 : gO g (nw g 3 0) := gr.rf.nw
  have O1 : Ob (nw g 3 0) (hz g) 3 := nw_ob (by omega)
  refine bkX10_edition_39 (r1.up g1.kup) (by rw [nwI_ne (by omega), e3]; exact c_X3init O1 rfl nw_I) (fun t1 q1 => ?_)
  obtain ⟨q11, q12, q13, q14, q15, q16, q17⟩ := q1
  have w1 : gO g t1 := gr.tr (g1) (q11.up (fun b hb z => by omega) (fun b hb z => by omega))
  refine bkX10_edition_48 ?_
  -- the reader
  have w2 : gO g (nw t1 7 0) := w1.nw
  rw [show hz t1 = hz g + 8 from q12]
  have O2 : Ob (nw t1 7 0) (hz g + 8) 7 := by rw [← q12]; exact nw_ob (by omega)
  have i2 : hI (nw t1 7 0) (hz g + 8) = fun _ => 0 := by rw [← q12]; exact nw_I
  have z2 : hz (nw t1 7 0) = hz g + 8 + 1 := by show hz t1 + 1 = _; rw [q12]
  refine bkX10_edition_52 (r1.up w2.kup) (c_X7init (L := aT A) (e := hz g) O2 z2 i2 oL (kAr.up w2.kup r1.2.1.2) (fun i hi => by rw [(w2.2.2.2 9 (by omega) (by omega)).1]; exact T9 i hi) (by omega) (by omega)) (fun t3 q3 => ?_)
  obtain ⟨K3, q32, q33⟩ := q3
  have w3 : gO g t3 := gr.tr w2 (q32.up (fun b hb z => by omega) (fun b hb z => by omega))
  have nw1 : gr (fun _ => False) (fun _ => False) t1 (nw t1 7 0) := gr.rf.nw
  have v13 : gr (fun b => b = hz g + 8) (fun b => b = hz g + 8) t1 t3 := (nw1.up (fun _ _ z => z.elim) (fun _ _ z => z.elim)).tr q32
  have o3 : ∀ b, b < hz g + 8 → hI t3 b = hI t1 b ∧ hJ t3 b = hJ t1 b := fun b hb => v13.2.2.2 b (by omega) (by omega)
  have E3 : FE t3 (hz g) [] := by
    obtain ⟨⟨a1, a2, a3⟩, a4, a5⟩ := q13
    exact ⟨⟨v13.L3 (by omega) a1, by rw [(o3 _ (by omega)).1]; exact a2, fun q hq => absurd hq (Nat.not_lt_zero _)⟩, by rw [(o3 _ (by omega)).1]; exact a4, fun q hq => absurd hq (Nat.not_lt_zero _)⟩
  refine bkX10_edition_62 K3.1 (c_fillEdition hZ oT K3 E3 (by rw [(o3 _ (by omega)).1]; exact q16 7 (by decide) (by decide) (by decide))) (fun r t4 q4 => ?_)
  unfold FA at q4
  cases hp : pEdn (toks (aT A)) with
  | error f =>
    rw [hp] at q4
    obtain ⟨rfl, q42⟩ := q4
    have hf := pEdn_er hT hp
    have w4 : gO g t4 := gr.tr w3 (q42.up (fun b hb z => z) (fun b hb z => z.1))
    refine bkX10_edition_65 (fun z => ?_) (fun _ => bkX10_edition_72 ?_)
    · rw [n0, nI_eq hf.2 (by decide)] at z; have := hf.1; omega
    · rw [← hP, fEd_err hday hp]
      exact ⟨rfl, ⟨ad, R.old w4 h73⟩, f0.tr (w4.frC h73)⟩
  | ok p =>
    rw [hp] at q4
    obtain ⟨rfl, q42⟩ := q4
    obtain ⟨ok2, htl⟩ := pEdn_ok hT (F := p.1) (C := p.2) hp
    have hE := mkE_ok (x := xn) hT hxn ok2
    have w4 : gO g t4 := gr.tr w3 (q42.1.up (fun b hb z => z) (fun b hb z => by omega))
    have R4 := R.old w4 h73
    have E4 : EdC t4 (hz g) (mkE xn p.1 p.2) := EdC_fill q42 htl (by rw [(o3 _ (by omega)).1, q15, hxe]) h73 (by omega)
    have i4 : ∀ j, j ≠ 2 → j ≠ 6 → j ≠ 7 → hI t4 (hz g) j = hI t1 (hz g) j := fun j h2 h6 h7 => (q42.2.2.2.1 j h2 h6 h7).trans (by rw [(o3 _ (by omega)).1])
    have J4 : JC t4 (hz g) (mkE xn p.1 p.2) := Or.inl ⟨by rw [i4 10 (by decide) (by decide) (by decide)]; exact q16 10 (by decide) (by decide) (by decide), fun k _ => by rw [q42.2.2.2.2, (o3 _ (by omega)).1, q17]⟩
    refine bkX10_edition_65 (fun _ => ?_) (fun z => absurd rfl z)
    have e34 : hI t4 8 3 = nI (nE A) := R4.2.2.1.1
    obtain ⟨⟨s1, s2, s3, s5, s6, s7⟩, f5⟩ := R4.add ok h73 E4 (by rw [i4 0 (by decide) (by decide) (by decide)]; exact q14) J4
    have okAdd : okA (addE A (mkE xn p.1 p.2)) := addE_ok ok hE (by omega) (fun i hi => by
      have h0 := hd (by omega)
      rw [hxe] at h0
      have hb1 := (ok.2.2.1 (nE A - 1) (by omega)).1
      rw [nI_ltI (by omega) (by omega)] at h0
      show _ < xn
      rcases Nat.lt_or_ge i (nE A - 1) with z | z
      · have := ok.2.2.2.1 i (nE A - 1) z (by omega); omega
      · rw [show i = nE A - 1 by omega]; exact h0)
    refine bkX10_edition_75 R4.1 (by rw [e34]; exact (vp_in_nI (by omega) (by omega))) E4.2.1 ?_
    rw [e34, nI_clamp (by omega)]
    have ku : kup (Sk t4) (Sk (sA t4 (8 + 2) (nE A) (some (hz g)))) := ⟨Nat.le_refl _, fun _ _ => rfl, fun b j _ hm => sA_ne (h := t4) (fun z => hm (Or.inr (Or.inl z.1)))⟩
    have hC := C_takeInHand (X := X) (i := nE A) s1 s2 s3 s5 s6 s7 okAdd (by rw [nE_add]; omega)
    simp only [if_true] at hC
    refine bkX10_edition_85 (R4.1.up ku) (by
      show Cd X mX10_takeInHand _ (sI (sA t4 10 (nE A) (some (hz g))) 8 3 (hI t4 8 3 + 1)) 0 0 _
      rw [e34, nI_1]; exact hC) (fun t5 q5 => bkX10_edition_100 ?_)
    rw [← hP, fEd_ok hday hp, hxe, nI_clamp (by omega)]
    exact ⟨rfl, q5.1, f0.tr ((w4.frC h73).tr (f5.tr q5.2))⟩
theorem C_edition {x : Int32} (hZ : SZ X) (h73 : 73 ≤ hz h) (R : RepC h A) (ok : okA A) : Cd X mX10_edition [.ref 8, .int x] h (3 * (aT A).length + 23) (13 * (aT A).length + 136) (oI (CP h (fEdition A x)) nX) := by
  obtain ⟨ad, R⟩ := R
  have R : RC h ad A := R
  have h6 := ok.2.1
  have r1 := R.1
  have Re := R.em
  have f0 : frC h (sI h 8 1 0) := (chI.rf.s (S := (· = 8)) rfl).frC (fun b q => by omega)
  have e3 : hI (sI h 8 1 0) 8 3 = nI (nE A) := Re.2.2.1.1
  have no : okDay A x = false → ∀ {nc ns}, Gd X mX10_edition 34 [none, none, none, none, none] [] (sI h 8 1 0) nc ns (oI (CP h (fEdition A x)) nX) := fun e nc ns => by
    refine bkX10_edition_34 ?_
    have : fEdition A x = (-1, emp A) := by unfold fEdition; rw [if_neg (by rw [e]; decide)]
    rw [this]
    exact ⟨rfl, ⟨ad, Re⟩, f0⟩
  refine bkX10_edition_0 r1 C_isDay (fun r t q => ?_)
  obtain ⟨ht, rfl⟩ := q
  rw [ht, R.2.1.1]
  refine bkX10_edition_14 (fun z => ?_) (fun z => ?_)
  · rw [bI_0, decide_eq_false_iff_not] at z
    exact no (by unfold okDay; rw [decide_eq_false (fun y => z y.1)])
  rw [bI_0, decide_eq_false_iff_not, Decidable.not_not] at z
  refine bkX10_edition_17 r1 (fun z6 => ?_) (fun z6 => ?_)
  · rw [e3, show (6 : Int32) = nI 6 from rfl, nI_leI (by omega) (by omega)] at z6
    exact no (by unfold okDay; rw [decide_eq_false (fun y => y.2.1 (by omega))])
  rw [e3, show (6 : Int32) = nI 6 from rfl, nI_leI (by omega) (by omega)] at z6
  refine bkX10_edition_26 r1 (c_latestStart (A := emp A) r1 Re.2.2.1 (emp_ok ok)) (fun r t q => ?_)
  obtain ⟨ht, rfl⟩ := q
  rw [ht]
  by_cases q0 : nE A = 0
  · rw [if_pos (show nE (emp A) = 0 from q0)]
    refine bkX10_edition_31 (fun _ => C_edit36 hZ h73 Re (fun i hi => by rw [sI_nb (by decide)]; exact R.2.1.2 i hi) ok (by unfold okDay; rw [decide_eq_true ⟨z, by omega, fun y => absurd q0 y⟩]) f0) (fun y => ?_)
    obtain ⟨xn, hxn, hxe⟩ := rep_x z
    rw [hxe] at y
    exact absurd (Int32.lt_of_lt_of_le (show (-1 : Int32) < 0 by decide) (by rw [← hxe]; exact z.1)) y
  · rw [if_neg (show ¬ nE (emp A) = 0 from q0)]
    refine bkX10_edition_31 (fun y => C_edit36 hZ h73 Re (fun i hi => by rw [sI_nb (by decide)]; exact R.2.1.2 i hi) ok (by unfold okDay; rw [decide_eq_true ⟨z, by omega, fun _ => y⟩]) f0) (fun y => ?_)
    exact no (by unfold okDay; rw [decide_eq_false (fun w => y (w.2.2 q0))])
end CE
