/-! ===== a clause, whole ===== -/
section MC2
variable {X : GX} {h : SH} {T : List Tk} {i f : Nat} {F : List Fct}
abbrev wCg (i0 k b j : Nat) : Prop := (b = 35 ∧ (j = 7 ∨ j = 8 ∨ j = 30 ∨ j = 31)) ∨ b = 60 ∨ b = 61 ∨ (((47 ≤ b ∧ b ≤ 51) ∨ b = 54) ∧ j = i0) ∨ ((b = 52 ∨ b = 53) ∧ 8 * i0 ≤ j ∧ j < 8 * i0 + 8) ∨ ((55 ≤ b ∧ b ≤ 57) ∧ 20 * i0 ≤ j ∧ j < 20 * i0 + 20) ∨ ((b = 58 ∨ b = 59) ∧ 15600 + k ≤ j)
abbrev wC (i0 k b j : Nat) : Prop := wCg i0 k b j ∨ (b = 46 ∧ j = 6)
def CQ (T : List Tk) (h : SH) (n k : Nat) (R : Except Nat (PCl × Nat)) (t : SH) : Prop := cf (wC (72 + n) k) h t ∧ match R with
  | .ok r => MR t T r.2 ∧ ∃ k', k ≤ k' ∧ k' ≤ r.2 ∧ hI t 35 30 = nI k' ∧ ClK t (72 + n) k' (rsl (gM T) r.1) ∧ hI t 46 6 = nI (n + 1)
  | .error e => MB t e
theorem c_clauseIs {NM : List (List Nat)} {k : Nat} (M : MR h T i) (hT : okT T) (Q : FM h F) (ok : okFs F) (N : NMI T i NM) (hn : NM.length ≤ 12) (h46 : hI h 46 6 = nI NM.length) (h30 : hI h 35 30 = nI k) (hk : k ≤ i) (hk2 : kd T i = 2) :
    Cd X mX11_clauseIs [.ref 35] h 0 0 (oV (CQ T h NM.length k (pClause T F NM i)) nX) := by
  have hi := M.2.2.2.2.2
  have hl := hT.2.1
  have hi1 : i + 1 < T.length := hT.lt hi (by omega)
  generalize hR : pClause T F NM i = R
  unfold pClause at hR
  generalize hP : oV (CQ T h NM.length k R) nX = P
  have e46 : hI h (35 + 11) ((6 : Int32).toNatClampNeg) = nI NM.length := h46
  refine bkX11_clauseIs_0 M.1 in67 (fun z => ?_) (fun z => ?_)
  rotate_left
  · rw [e46, n12, nI_eq (by omega) (by omega)] at z
    rw [if_pos z] at hR
    have hb := flt_b (k := 5) hT hi (by decide)
    refine bkX11_clauseIs_14 M.1 (c_wrong (k := 5) M hT) (fun t q => bkX11_clauseIs_19 ?_)
    subst q
    rw [← hP, ← hR]
    exact ⟨cf.rf.s (by unfold wC wCg; omega), M.bad hb.1 hb.2⟩
  rw [e46, n12, nI_eq (by omega) (by omega)] at z
  rw [if_neg z] at hR
  rw [e46]
  generalize hi0 : 72 + NM.length = i0
  have h84 : i0 < 84 := by omega
  have ein : vp_in (nI i0) 84 := (vp_in_nI (by omega) (by omega))
  have cl0 : (nI i0).toNatClampNeg = i0 := nI_clamp (by omega)
  -- behind a fault
  have d239 : ∀ g e, R = .error e → MB g e → cf (wCg i0 k) h g → Gd X mX11_clauseIs 239 [some (.ref 35), none, none] [] g 0 0 P := fun g e he B C => by
    refine bkX11_clauseIs_239 B.1 in67 ?_
    rw [← hP, he]
    refine ⟨?_, B.cf (S := fun b _ => b = 46) (cf.rf.s rfl) (by omega)⟩
    rw [hi0]
    exact (C.up (fun b j z => Or.inl z)).s (Or.inr ⟨rfl, rfl⟩)
  have d233 : ∀ g e, R = .error e → MB g e → cf (wCg i0 k) h g → Gd X mX11_clauseIs 233 [some (.ref 35), none, none] [] g 0 0 P := fun g e he B C =>
    bkX11_clauseIs_233 B.1 (b_takeSign B) (fun t q => by subst q; exact d239 _ e he B C)
  have d218 : ∀ g e, R = .error e → MB g e → cf (wCg i0 k) h g → Gd X mX11_clauseIs 218 [some (.ref 35), none, some (.int (nI i0))] [] g 0 0 P := fun g e he B C =>
    bkX11_clauseIs_218 B.1 (b_isItem B) (fun r t q => by obtain ⟨rfl, ht⟩ := q; rw [ht]; exact bkX11_clauseIs_222 (fun _ => d233 g e he B C) (fun y => absurd rfl y))
  have d205 : ∀ g e, R = .error e → MB g e → cf (wCg i0 k) h g → Gd X mX11_clauseIs 205 [some (.ref 35), none, some (.int (nI i0))] [] g 0 0 P := fun g e he B C =>
    bkX11_clauseIs_205 B.1 (b_takeWord B) (fun t q => by
      obtain ⟨v, rfl⟩ := q
      refine bkX11_clauseIs_211 B.1 ein ?_
      rw [cl0]
      exact d218 _ e he (B.at.cf (S := fun b _ => b = 54) (cf.rf.s rfl) (by omega)) ((C.s (by unfold wCg; omega)).s (by unfold wCg; omega)))
  have d187 : ∀ g e, R = .error e → MB g e → cf (wCg i0 k) h g → Gd X mX11_clauseIs 187 [some (.ref 35), none, some (.int (nI i0))] [] g 0 0 P := fun g e he B C =>
    bkX11_clauseIs_187 B.1 (b_isWord B) (fun r t q => by obtain ⟨rfl, ht⟩ := q; rw [ht]; exact bkX11_clauseIs_193 (fun _ => d205 g e he B C) (fun y => absurd rfl y))
  have d156 : ∀ g e, R = .error e → MB g e → cf (wCg i0 k) h g → Gd X mX11_clauseIs 156 [some (.ref 35), none, some (.int (nI i0))] [] g 0 0 P := fun g e he B C =>
    bkX11_clauseIs_156 B.1 (b_takeSign B) (fun t q => by
      subst q
      refine bkX11_clauseIs_162 B.1 ein ?_
      rw [cl0]
      have B2 := B.cf (S := fun b _ => b = 51) (cf.rf.s (a := 51) (i := i0) (v := 0) rfl) (by omega)
      exact bkX11_clauseIs_169 B2.1 (b_isWord B2) (fun r t q => by obtain ⟨rfl, ht⟩ := q; rw [ht]; exact bkX11_clauseIs_175 (fun _ => d187 _ e he B2 (C.s (by unfold wCg; omega))) (fun y => absurd rfl y)))
  have d142 : ∀ g e, R = .error e → MB g e → cf (wCg i0 k) h g → hI g 35 30 = nI k → Gd X mX11_clauseIs 142 [some (.ref 35), none, some (.int (nI i0))] [] g 0 0 P := fun g e he B C g30 => by
    have B2 : MB (sI g 50 i0 (nI k)) e := B.cf (S := fun b _ => b = 50) (cf.rf.s rfl) (by omega)
    refine bkX11_clauseIs_142 B.1 ein (by rw [cl0, g30]; exact b_expression B2 (k := k) (by rw [sI_nb (by decide)]; exact g30) (by omega)) (fun t q => ?_)
    exact d156 t e he q.2 ((C.s (by unfold wCg; omega)).tr (q.1.up (fun b j z => by unfold wE at z; unfold wCg; omega)))
  have d136 : ∀ g e r, R = .error e → MB g e → cf (wCg i0 k) h g → hI g 35 30 = nI k → Gd X mX11_clauseIs 136 [some (.ref 35), none, some (.int (nI i0))] [.int r, .int (nI i0), .ref (35 + 14)] g 0 0 P := fun g e r he B C g30 => by
    refine bkX11_clauseIs_136 (LX11.a_isMust B.1) ein B.1 (by rw [cl0]; exact b_takeWord (B.cf (S := fun b _ => b = 49) (cf.rf.s rfl) (by omega))) (fun t q => ?_)
    obtain ⟨v, rfl⟩ := q
    exact d142 _ e he (B.cf (S := fun b _ => b = 49) (cf.rf.s rfl) (by omega)).at ((C.s (by unfold wCg; omega)).s (by unfold wCg; omega)) (by rw [sI_nj (by decide), sI_nb (by decide)]; exact g30)
  have d125 : ∀ g e r, R = .error e → MB g e → cf (wCg i0 k) h g → hI g 35 30 = nI k → Gd X mX11_clauseIs 125 [some (.ref 35), none, some (.int (nI i0))] [.int r, .int (nI i0), .ref (35 + 13)] g 0 0 P := fun g e r he B C g30 => by
    refine bkX11_clauseIs_125 (LX11.a_placeOf B.1) ein B.1 (by rw [cl0]; exact b_hasWord (B.cf (S := fun b _ => b = 48) (cf.rf.s rfl) (by omega))) (fun r2 t q => ?_)
    obtain ⟨-, v, rfl⟩ := q
    exact d136 _ e r2 he (B.cf (S := fun b _ => b = 48) (cf.rf.s rfl) (by omega)).at ((C.s (by unfold wCg; omega)).s (by unfold wCg; omega)) (by rw [sI_nj (by decide), sI_nb (by decide)]; exact g30)
  have d113 : ∀ g e, R = .error e → MB g e → cf (wCg i0 k) h g → hI g 35 30 = nI k → Gd X mX11_clauseIs 113 [some (.ref 35), none, some (.int (nI i0))] [] g 0 0 P := fun g e he B C g30 =>
    bkX11_clauseIs_113 B.1 (b_takeNumber B) (fun r t q => by
      obtain ⟨-, v, rfl⟩ := q
      exact d125 _ e r he B.at (C.s (by unfold wCg; omega)) (by rw [sI_nj (by decide)]; exact g30))
  have d72 : ∀ g e, R = .error e → MB g e → cf (wCg i0 k) h g → hI g 35 30 = nI k → hI g 35 7 = nI (i + 1) → Gd X mX11_clauseIs 72 [some (.ref 35), none, some (.int (nI i0))] [] g 0 0 P := fun g e he B C g30 g7 => by
    refine bkX11_clauseIs_72 B.1 (by rw [g7]; exact (vp_in_nI (by omega) (by omega))) ein (fun _ => ?_) (fun y => absurd y B.ne)
    rw [cl0]
    have B2 : ∀ v, MB (sJ g (35 + 12) i0 v) e := fun v => B.cf (S := fun b _ => b = 47) (cf.rf.j rfl) (by omega)
    refine bkX11_clauseIs_103 (bkX11_clauseIs_104 (B2 _).1 (B2 _).1 (b_takeWord (B2 _).at) (fun t q => ?_))
    obtain ⟨v, rfl⟩ := q
    exact d113 _ e he (B2 _).at.at (((C.j (by unfold wCg; omega)).s (by unfold wCg; omega)).s (by unfold wCg; omega)) (by rw [sI_nj (by decide), sI_nj (by decide)]; exact g30)
  have e7 : hI h 35 7 + 1 = nI (i + 1) := by rw [M.2.2.2.2.1, nI_1]
  have M1 : MR (sI h 35 7 (nI (i + 1))) T (i + 1) := M.at hi1
  have C1 : cf (wCg i0 k) h (sI h 35 7 (nI (i + 1))) := cf.rf.s (by unfold wCg; omega)
  have q30 : hI (sI h 35 7 (nI (i + 1))) 35 30 = nI k := by rw [sI_nj (by decide)]; exact h30
  refine bkX11_clauseIs_20 M.1 (by rw [e7]; exact c_isName M1 hT) (fun r t q => ?_)
  obtain ⟨rfl, ht⟩ := q
  rw [ht, show (72 : Int32) + nI NM.length = nI i0 by rw [← hi0]; exact nI_add 72 _]
  obtain ⟨s1, s2, s3, s4⟩ := M1.s hT
  refine bkX11_clauseIs_39 (fun y => ?_) (fun y => ?_)
  rotate_left
  · rw [bI_0, decide_eq_false_iff_not] at y
    rw [if_pos y] at hR
    have hb := flt_b (k := 1) hT hi1 (by decide)
    refine bkX11_clauseIs_42 M1.1 (c_wrong (k := 1) M1 hT) (fun t q => bkX11_clauseIs_47 ?_)
    subst q
    exact d72 _ _ hR.symm (M1.bad hb.1 hb.2) (C1.s (by unfold wCg; omega)) (by rw [sI_nj (by decide)]; exact q30) (by rw [sI_nj (by decide)]; exact M1.2.2.2.2.1)
  rw [bI_0, decide_eq_false_iff_not, Decidable.not_not] at y
  rw [if_neg (by omega)] at hR
  have hw := hT.w hi1 (show kd T (i + 1) ≤ 11 by omega)
  obtain ⟨gl1, gl2, gl3⟩ := gM_lt N hi hk2 y
  refine bkX11_clauseIs_50 M1.1 s1 (by rw [s3.a (by omega)]; exact c_findClause M1 hT hw.1) (fun r t q => ?_)
  obtain ⟨rfl, ht⟩ := q
  rw [ht, if_pos gl3]
  refine bkX11_clauseIs_63 (fun y2 => ?_) (fun y2 => ?_)
  rotate_left
  · rw [nI_leI (by omega) (by omega)] at y2
    have hc : NM.contains (wd T (i + 1)) = true := gl1.mp (by omega)
    rw [if_pos hc] at hR
    have hb := flt_b (k := 3) hT hi1 (by decide)
    refine bkX11_clauseIs_67 M1.1 (c_wrong (k := 3) M1 hT) (fun t q => ?_)
    subst q
    exact d72 _ _ hR.symm (M1.bad hb.1 hb.2) (C1.s (by unfold wCg; omega)) (by rw [sI_nj (by decide)]; exact q30) (by rw [sI_nj (by decide)]; exact M1.2.2.2.2.1)
  rw [nI_leI (by omega) (by omega)] at y2
  have hc : ¬ NM.contains (wd T (i + 1)) = true := fun z => by have := gl1.mpr z; omega
  rw [if_neg hc] at hR
  have hi2 : i + 2 < T.length := hT.lt hi1 (by omega)
  refine bkX11_clauseIs_72 M1.1 s1 ein (fun y3 => absurd M1.2.2.2.1 y3) (fun _ => ?_)
  rw [cl0]
  generalize hg : sJ (sI h 35 7 (nI (i + 1))) (35 + 12) i0 (hJ (sI h 35 7 (nI (i + 1))) (35 + 4) (hI (sI h 35 7 (nI (i + 1))) 35 7).toNatClampNeg) = g
  have Mg : MR g T (i + 1) := by rw [← hg]; exact M1.cf (S := fun b _ => b = 47) (cf.rf.j rfl) (fun b j z => by omega)
  have Cg : cf (wCg i0 k) h g := by rw [← hg]; exact C1.j (by unfold wCg; omega)
  have g30 : hI g 35 30 = nI k := by rw [← hg]; exact q30
  clear hg
  rw [Mg.2.2.2.2.1]
  have M2 : MR (sI g 35 7 (nI (i + 2))) T (i + 2) := Mg.at hi2
  have C2 : cf (wCg i0 k) h (sI g 35 7 (nI (i + 2))) := Cg.s (by unfold wCg; omega)
  refine bkX11_clauseIs_99 (bkX11_clauseIs_104 (xs2 := 1) Mg.1 Mg.1 (by rw [nI_1]; exact c_takeWord (k := 3) M2 hT (by decide)) (fun t q => ?_))
  subst q
  unfold takW
  by_cases k3 : kd T (i + 2) = 3
  rotate_left
  · rw [if_pos k3] at hR
    rw [if_neg k3]
    have hb := flt_b (k := 1) hT hi2 (by decide)
    exact d113 _ _ hR.symm ((M2.at hi2).bad hb.1 hb.2) ((C2.s (by unfold wCg; omega)).s (by unfold wCg; omega)) (by rw [sI_nj (by decide), sI_nj (by decide), sI_nj (by decide)]; exact g30)
  rw [if_neg (by omega)] at hR
  rw [if_pos k3]
  have hi3 : i + 3 < T.length := hT.lt hi2 (by omega)
  have M3 : MR (sI (sI g 35 7 (nI (i + 2))) 35 7 (nI (i + 2 + 1))) T (i + 3) := M2.at hi3
  have C3 : cf (wCg i0 k) h (sI (sI g 35 7 (nI (i + 2))) 35 7 (nI (i + 2 + 1))) := C2.s (by unfold wCg; omega)
  have g33 : hI (sI (sI g 35 7 (nI (i + 2))) 35 7 (nI (i + 2 + 1))) 35 30 = nI k := by rw [sI_nj (by decide), sI_nj (by decide)]; exact g30
  generalize sI (sI g 35 7 (nI (i + 2))) 35 7 (nI (i + 2 + 1)) = g3 at M3 C3 g33
  by_cases k12 : kd T (i + 3) = 12
  rotate_left
  · rw [if_pos k12] at hR
    have hb := flt_b (k := 1) hT hi3 (by decide)
    refine bkX11_clauseIs_113 M3.1 (x_takeNumber (lo := 0) (hi := 99) (k := 1) M3 hT (Or.inl ⟨k12, rfl⟩) (by decide) (by decide)) (fun r t q => ?_)
    obtain ⟨-, rfl⟩ := q
    exact d125 _ _ r hR.symm (M3.bad hb.1 hb.2).at ((C3.s (by unfold wCg; omega)).s (by unfold wCg; omega)) (by rw [sI_nj (by decide), sI_nj (by decide)]; exact g33)
  rw [if_neg (by omega)] at hR
  by_cases h99 : 99 < nu T (i + 3)
  · rw [if_pos h99] at hR
    have hb := flt_b (k := 4) hT hi3 (by decide)
    refine bkX11_clauseIs_113 M3.1 (x_takeNumber (lo := 0) (hi := 99) (k := 4) M3 hT (Or.inr ⟨k12, rfl, Or.inr h99⟩) (by decide) (by decide)) (fun r t q => ?_)
    obtain ⟨-, rfl⟩ := q
    exact d125 _ _ r hR.symm (M3.bad hb.1 hb.2).at ((C3.s (by unfold wCg; omega)).s (by unfold wCg; omega)) (by rw [sI_nj (by decide), sI_nj (by decide)]; exact g33)
  rw [if_neg h99] at hR
  have hi4 : i + 4 < T.length := hT.lt hi3 (by omega)
  refine bkX11_clauseIs_113 M3.1 (c_takeNumber (lo := 0) (hi := 99) M3 hT k12 (by omega) (by omega) (by decide)) (fun r t q => ?_)
  obtain ⟨rfl, rfl⟩ := q
  have M4 : MR (sI (sI g3 35 7 (nI (i + 3 + 1))) (35 + 13) i0 (nI (nu T (i + 3)))) T (i + 4) := (M3.at hi4).cf (S := fun b _ => b = 48) (cf.rf.s rfl) (fun b j z => by omega)
  refine bkX11_clauseIs_125 (LX11.a_placeOf M3.1) ein M3.1 (by rw [cl0]; exact c_hasWord (k := 4) M4 hT (by decide)) (fun r t q => ?_)
  obtain ⟨rfl, rfl⟩ := q
  -- must, or not
  generalize hj5 : (if kd T (i + 4) = 4 then i + 4 + 1 else i + 4) = j5
  have hj5l : j5 < T.length ∧ i + 4 ≤ j5 := by
    rw [← hj5]
    by_cases y4 : kd T (i + 4) = 4
    · rw [if_pos y4]; exact ⟨hT.lt hi4 (by omega), by omega⟩
    · rw [if_neg y4]; exact ⟨hi4, by omega⟩
  generalize hmu : decide (kd T (i + 4) = 4) = mu
  have hR2 : pCl1 T F (nu T (i + 3)) mu j5 = R := by
    rw [← hR, ← hmu, ← hj5]
    by_cases y4 : kd T (i + 4) = 4
    · rw [if_pos y4, if_pos y4, decide_eq_true y4]
    · rw [if_neg y4, if_neg y4, decide_eq_false y4]
  clear hR
  have M5 : MR (sI (sI (sI (sI g3 35 7 (nI (i + 3 + 1))) (35 + 13) i0 (nI (nu T (i + 3)))) 35 7 (nI j5)) (35 + 14) i0 (bI mu)) T j5 := (M4.at hj5l.1).cf (S := fun b _ => b = 49) (cf.rf.s rfl) (fun b j z => by omega)
  have C5 : cf (wCg i0 k) h (sI (sI (sI (sI g3 35 7 (nI (i + 3 + 1))) (35 + 13) i0 (nI (nu T (i + 3)))) 35 7 (nI j5)) (35 + 14) i0 (bI mu)) := (((C3.s (by unfold wCg; omega)).s (by unfold wCg; omega)).s (by unfold wCg; omega)).s (by unfold wCg; omega)
  have a48 : hI (sI (sI (sI (sI g3 35 7 (nI (i + 3 + 1))) (35 + 13) i0 (nI (nu T (i + 3)))) 35 7 (nI j5)) (35 + 14) i0 (bI mu)) 48 i0 = nI (nu T (i + 3)) := by rw [sI_nb (by decide), sI_nb (by decide)]; exact sI_at
  have a49 : hI (sI (sI (sI (sI g3 35 7 (nI (i + 3 + 1))) (35 + 13) i0 (nI (nu T (i + 3)))) 35 7 (nI j5)) (35 + 14) i0 (bI mu)) 49 i0 = bI mu := sI_at
  have a30 : hI (sI (sI (sI (sI g3 35 7 (nI (i + 3 + 1))) (35 + 13) i0 (nI (nu T (i + 3)))) 35 7 (nI j5)) (35 + 14) i0 (bI mu)) 35 30 = nI k := by rw [sI_nb (by decide), sI_nj (by decide), sI_nb (by decide), sI_nj (by decide)]; exact g33
  refine bkX11_clauseIs_136 (LX11.a_isMust M4.1) ein M4.1 (by rw [cl0, nar_b]; exact c_takeWord (k := 5) M5 hT (by decide)) (fun t q => ?_)
  subst q
  generalize sI (sI (sI (sI g3 35 7 (nI (i + 3 + 1))) (35 + 13) i0 (nI (nu T (i + 3)))) 35 7 (nI j5)) (35 + 14) i0 (bI mu) = g5 at M5 C5 a48 a49 a30
  unfold takW
  unfold pCl1 at hR2
  by_cases k5 : kd T j5 = 5
  rotate_left
  · rw [if_pos k5] at hR2
    rw [if_neg k5]
    have hb := flt_b (k := 1) hT hj5l.1 (by decide)
    exact d142 _ _ hR2.symm ((M5.at hj5l.1).bad hb.1 hb.2) ((C5.s (by unfold wCg; omega)).s (by unfold wCg; omega)) (by rw [sI_nj (by decide), sI_nj (by decide)]; exact a30)
  rw [if_neg (by omega)] at hR2
  rw [if_pos k5]
  have hi6 : j5 + 1 < T.length := hT.lt hj5l.1 (by omega)
  -- the formula
  have M6 : MR (sI (sI g5 35 7 (nI (j5 + 1))) 50 i0 (nI k)) T (j5 + 1) := (M5.at hi6).cf (S := fun b _ => b = 50) (cf.rf.s rfl) (fun b j z => by omega)
  have C6 : cf (wCg i0 k) h (sI (sI g5 35 7 (nI (j5 + 1))) 50 i0 (nI k)) := (C5.s (by unfold wCg; omega)).s (by unfold wCg; omega)
  have Q6 : FM (sI (sI g5 35 7 (nI (j5 + 1))) 50 i0 (nI k)) F := Q.cf C6 (fun b j z => by unfold wCg at z; omega)
  have b30 : hI (sI (sI g5 35 7 (nI (j5 + 1))) 50 i0 (nI k)) 35 30 = nI k := by rw [sI_nb (by decide), sI_nj (by decide)]; exact a30
  have b48 : hI (sI (sI g5 35 7 (nI (j5 + 1))) 50 i0 (nI k)) 48 i0 = nI (nu T (i + 3)) := by rw [sI_nb (by decide), sI_nb (by decide)]; exact a48
  have b49 : hI (sI (sI g5 35 7 (nI (j5 + 1))) 50 i0 (nI k)) 49 i0 = bI mu := by rw [sI_nb (by decide), sI_nb (by decide)]; exact a49
  have b50 : hI (sI (sI g5 35 7 (nI (j5 + 1))) 50 i0 (nI k)) 50 i0 = nI k := sI_at
  have e30 : hI (sI g5 35 7 (nI (j5 + 1))) 35 30 = nI k := by rw [sI_nj (by decide)]; exact a30
  refine bkX11_clauseIs_142 M5.1 ein (by rw [cl0, e30]; exact c_expression M6 hT Q6 ok b30 (by omega)) (fun w hw6 => ?_)
  generalize sI (sI g5 35 7 (nI (j5 + 1))) 50 i0 (nI k) = g6 at M6 C6 Q6 b30 b48 b49 b50 hw6
  obtain ⟨c6, hw6⟩ := hw6
  have C7 : cf (wCg i0 k) h w := C6.tr (c6.up (fun b j z => by unfold wE at z; unfold wCg; omega))
  cases hpe : pE T F (j5 + 1) with
  | error e =>
    rw [hpe] at hw6 hR2
    exact d156 w e hR2.symm hw6 C7
  | ok r =>
  rw [hpe] at hw6 hR2
  obtain ⟨M7, w30, w58⟩ := hw6
  have hen := pE_ok hT hi6 hpe
  have hr2 : r.1.length + (j5 + 1) ≤ r.2 := hen.2.2.1
  have hr3 : r.2 < T.length := hen.2.1
  have Q7 : FM w F := Q.cf C7 (fun b j z => by unfold wCg at z; omega)
  have H7 : HdK w i0 (k + r.1.length + 1) (nu T (i + 3), mu, r.1) := ⟨by rw [(c6.2 48 i0 (by unfold wE; omega)).1]; exact b48, by rw [(c6.2 49 i0 (by unfold wE; omega)).1]; exact b49, k, by rw [(c6.2 50 i0 (by unfold wE; omega)).1]; exact b50, w58, by show k + r.1.length < _; omega⟩
  generalize hk7 : k + r.1.length + 1 = k7 at w30 H7
  have hR3 : pCl2 T F (nu T (i + 3), mu, r.1) r.2 = R := hR2
  unfold pCl2 at hR3
  refine bkX11_clauseIs_156 M7.1 (c_takeSign (c := 59) M7 hT (by decide)) (fun t q => ?_)
  subst q
  unfold tak
  by_cases k59 : kd T r.2 = 59
  rotate_left
  · rw [if_pos k59] at hR3
    rw [if_neg k59]
    have hb := flt_b (k := 1) hT hr3 (by decide)
    have B := M7.bad hb.1 hb.2
    refine bkX11_clauseIs_162 B.1 ein ?_
    rw [cl0]
    have B2 := B.cf (S := fun b _ => b = 51) (cf.rf.s (a := 51) (i := i0) (v := 0) rfl) (by omega)
    exact bkX11_clauseIs_169 B2.1 (b_isWord B2) (fun r2 t q => by obtain ⟨rfl, ht⟩ := q; rw [ht]; exact bkX11_clauseIs_175 (fun _ => d187 _ _ hR3.symm B2 ((C7.s (by unfold wCg; omega)).s (by unfold wCg; omega))) (fun y => absurd rfl y))
  rw [if_neg (by omega)] at hR3
  rw [if_pos k59]
  have hi8 : r.2 + 1 < T.length := hT.lt hr3 (by omega)
  refine bkX11_clauseIs_162 M7.1 ein ?_
  rw [cl0]
  have M8 : MR (sI (sI w 35 7 (nI (r.2 + 1))) 51 i0 0) T (r.2 + 1) := (M7.at hi8).cf (S := fun b _ => b = 51) (cf.rf.s rfl) (fun b j z => by omega)
  have C8 : cf (wCg i0 k) h (sI (sI w 35 7 (nI (r.2 + 1))) 51 i0 0) := (C7.s (by unfold wCg; omega)).s (by unfold wCg; omega)
  have c8 : cf (fun b j => (b = 35 ∧ j = 7) ∨ (b = 51 ∧ j = i0)) w (sI (sI w 35 7 (nI (r.2 + 1))) 51 i0 0) := (cf.rf.s (Or.inl ⟨rfl, rfl⟩)).s (Or.inr ⟨rfl, rfl⟩)
  have H8 : hI (sI (sI w 35 7 (nI (r.2 + 1))) 51 i0 0) 51 i0 = nI 0 := sI_at
  have w308 : hI (sI (sI w 35 7 (nI (r.2 + 1))) 51 i0 0) 35 30 = nI k7 := by rw [sI_nb (by decide), sI_nj (by decide)]; exact w30
  generalize sI (sI w 35 7 (nI (r.2 + 1))) 51 i0 0 = g8 at M8 C8 c8 H8 w308
  have hdk : ∀ {t}, cf (wL i0) g8 t → HdK t i0 k7 (nu T (i + 3), mu, r.1) := fun c => by
    have h1 : HdK g8 i0 k7 (nu T (i + 3), mu, r.1) := by
      obtain ⟨p1, p2, s, p3, p4, p5⟩ := H7
      exact ⟨by rw [(c8.2 48 i0 (by omega)).1]; exact p1, by rw [(c8.2 49 i0 (by omega)).1]; exact p2, s, by rw [(c8.2 50 i0 (by omega)).1]; exact p3, p4.kf (i := 1000) (k := k7) p5 c8 (fun b j z y => by unfold clS at y; omega), p5⟩
    obtain ⟨p1, p2, s, p3, p4, p5⟩ := h1
    exact ⟨by rw [(c.2 48 i0 (by unfold wL; omega)).1]; exact p1, by rw [(c.2 49 i0 (by unfold wL; omega)).1]; exact p2, s, by rw [(c.2 50 i0 (by unfold wL; omega)).1]; exact p3, p4.kf (i := 1000) (k := k7) p5 c (fun b j z y => by unfold wL at z; unfold clS at y; omega), p5⟩
  have upL : ∀ {a b}, cf (wL i0) a b → cf (wCg i0 k) a b := fun c => c.up (fun b j z => by unfold wL at z; unfold wCg; omega)
  refine mlk6 (Lp := []) hT h84 9 [] (r.2 + 1) g8 rfl (by simp) M8 ⟨H8, fun j hj => absurd hj (Nat.not_lt_zero _)⟩ (fun A i2 t2 hA M9 L9 l9 o9 c9 => ?_) (fun e t2 hA B9 c9 => ?_)
  rotate_left
  · have hA' : pLinks T 6 0 9 [] (r.2 + 1) = .error e := hA
    rw [hA'] at hR3
    exact d187 t2 e hR3.symm B9 (C8.tr (upL c9))
  have hA' : pLinks T 6 0 9 [] (r.2 + 1) = .ok (A, i2) := hA
  rw [hA'] at hR3
  simp only at hR3
  have l9' : A.length ≤ 8 := by simpa using l9
  rw [List.nil_append] at L9
  have hAl : (A.map (fun w => (gM T w, false))).length = A.length := List.length_map ..
  refine mlk7 (Lp := A.map (fun w => (gM T w, false))) hT h84 9 [] i2 t2 rfl (by simp; exact l9') M9 (by simpa using L9) (fun B i3 t3 hB M10 L10 l10 o10 c10 => ?_) (fun e t3 hB B10 c10 => ?_)
  rotate_left
  · rw [hAl] at hB
    rw [hB] at hR3
    exact d205 t3 e hR3.symm B10 ((C8.tr (upL c9)).tr (upL c10))
  rw [hAl] at hB l10
  rw [hB] at hR3
  simp only at hR3
  have C10 : cf (wCg i0 k) h t3 := (C8.tr (upL c9)).tr (upL c10)
  have H10 := hdk (c9.tr c10)
  have w3010 : hI t3 35 30 = nI k7 := by rw [(c10.2 35 30 (by unfold wL; omega)).1, (c9.2 35 30 (by unfold wL; omega)).1]; exact w308
  unfold pCl3 at hR3
  refine bkX11_clauseIs_205 M10.1 (c_takeWord (k := 8) M10 hT (by decide)) (fun t q => ?_)
  subst q
  unfold takW
  have hi10 := M10.2.2.2.2.2
  by_cases k8 : kd T i3 = 8
  rotate_left
  · rw [if_pos k8] at hR3
    rw [if_neg k8]
    have hb := flt_b (k := 1) hT hi10 (by decide)
    have B := (M10.at hi10).bad hb.1 hb.2
    refine bkX11_clauseIs_211 B.1 ein ?_
    rw [cl0]
    exact d218 _ _ hR3.symm (B.cf (S := fun b _ => b = 54) (cf.rf.s rfl) (by omega)) (((C10.s (by unfold wCg; omega)).s (by unfold wCg; omega)).s (by unfold wCg; omega))
  rw [if_neg (by omega)] at hR3
  rw [if_pos k8]
  have hi11 : i3 + 1 < T.length := hT.lt hi10 (by omega)
  refine bkX11_clauseIs_211 M10.1 ein ?_
  rw [cl0]
  have M11 : MR (sI (sI t3 35 7 (nI (i3 + 1))) 54 i0 0) T (i3 + 1) := (M10.at hi11).cf (S := fun b _ => b = 54) (cf.rf.s rfl) (fun b j z => by omega)
  have C11 : cf (wCg i0 k) h (sI (sI t3 35 7 (nI (i3 + 1))) 54 i0 0) := (C10.s (by unfold wCg; omega)).s (by unfold wCg; omega)
  have c11 : cf (wI i0 k7) t3 (sI (sI t3 35 7 (nI (i3 + 1))) 54 i0 0) := (cf.rf.s (by unfold wI; omega)).s (by unfold wI; omega)
  have w3011 : hI (sI (sI t3 35 7 (nI (i3 + 1))) 54 i0 0) 35 30 = nI k7 := by rw [sI_nb (by decide), sI_nj (by decide)]; exact w3010
  have H11 : hI (sI (sI t3 35 7 (nI (i3 + 1))) 54 i0 0) 54 i0 = nI 0 := sI_at
  generalize sI (sI t3 35 7 (nI (i3 + 1))) 54 i0 0 = g11 at M11 C11 c11 w3011 H11
  have upI : ∀ {a b}, cf (wI i0 k7) a b → cf (wCg i0 k) a b := fun c => c.up (fun b j z => by unfold wI at z; unfold wCg; omega)
  refine mits hT h84 ok 21 [] (i3 + 1) k7 g11 rfl (by simp) M11 (Q.cf C11 (fun b j z => by unfold wCg at z; omega)) w3011 (by omega) ⟨H11, fun j hj => absurd hj (Nat.not_lt_zero _)⟩ (fun I i4 k4 t4 hI4 M12 w12 k4a k4b I12 l12 c12 => ?_) (fun e t4 hI4 B12 c12 => ?_)
  rotate_left
  · rw [hI4] at hR3
    exact d233 t4 e hR3.symm B12 (C11.tr (upI c12))
  rw [hI4] at hR3
  simp only at hR3
  have C12 : cf (wCg i0 k) h t4 := C11.tr (upI c12)
  have hi12 := M12.2.2.2.2.2
  refine bkX11_clauseIs_233 M12.1 (c_takeSign (c := 59) M12 hT (by decide)) (fun t q => ?_)
  subst q
  unfold tak
  by_cases k59' : kd T i4 = 59
  rotate_left
  · rw [if_pos k59'] at hR3
    rw [if_neg k59']
    have hb := flt_b (k := 1) hT hi12 (by decide)
    exact d239 _ _ hR3.symm (M12.bad hb.1 hb.2) (C12.s (by unfold wCg; omega))
  rw [if_neg (by omega)] at hR3
  rw [if_pos k59']
  have hi13 : i4 + 1 < T.length := hT.lt hi12 (by omega)
  have M13 := M12.at hi13
  have C13 : cf (wCg i0 k) h (sI t4 35 7 (nI (i4 + 1))) := C12.s (by unfold wCg; omega)
  refine bkX11_clauseIs_239 M13.1 in67 ?_
  have e46' : hI (sI t4 35 7 (nI (i4 + 1))) (35 + 11) ((6 : Int32).toNatClampNeg) = nI NM.length := by show hI (sI t4 35 7 (nI (i4 + 1))) 46 6 = _; rw [(C13.2 46 6 (by unfold wCg; omega)).1]; exact h46
  rw [e46', nI_1, ← hP, ← hR3]
  rw [show (6 : Int32).toNatClampNeg = 6 by decide]
  have cl : cf (fun b j => (b = 35 ∧ j = 7) ∨ (b = 46 ∧ j = 6)) t4 (sI (sI t4 35 7 (nI (i4 + 1))) 46 6 (nI (NM.length + 1))) := (cf.rf.s (Or.inl ⟨rfl, rfl⟩)).s (Or.inr ⟨rfl, rfl⟩)
  have cI : cf (wI i0 k7) t3 t4 := c11.tr c12
  refine ⟨by rw [hi0]; exact (C13.up (fun b j z => Or.inl z)).s (Or.inr ⟨rfl, rfl⟩), M13.cf (S := fun b _ => b = 46) (cf.rf.s rfl) (fun b j z => by omega), k4, by omega, by show k4 ≤ i4 + 1; omega, by rw [sI_nb (by decide), sI_nj (by decide)]; exact w12, ?_, sI_at⟩
  rw [hi0]
  have lks_e : lks (rsl (gM T) (nu T (i + 3), mu, r.1, A, B, I)) = A.map (fun w => (gM T w, false)) ++ B.map (fun w => (gM T w, true)) := by
    show (A.map (gM T)).map (fun k => (k, false)) ++ (B.map (gM T)).map (fun k => (k, true)) = _
    rw [List.map_map, List.map_map]; rfl
  refine ⟨?_, ?_, ?_⟩
  · obtain ⟨p1, p2, s, p3, p4, p5⟩ := H10
    have q1 : HdK t4 i0 k7 (nu T (i + 3), mu, r.1) := ⟨by rw [(cI.2 48 i0 (by unfold wI; omega)).1]; exact p1, by rw [(cI.2 49 i0 (by unfold wI; omega)).1]; exact p2, s, by rw [(cI.2 50 i0 (by unfold wI; omega)).1]; exact p3, p4.kf (i := 1000) (k := k7) p5 cI (fun b j z y => by unfold wI at z; unfold clS at y; omega), p5⟩
    exact (q1.cf cl (fun b j z y => by unfold clS at y; omega)).mono k4a
  · rw [lks_e]
    have q1 : LnK t4 i0 (A.map (fun w => (gM T w, false)) ++ B.map (fun w => (gM T w, true))) := by
      refine ⟨by rw [(cI.2 51 i0 (by unfold wI; omega)).1]; exact L10.1, fun j hj => ?_⟩
      rw [(cI.2 52 _ (by unfold wI; omega)).1, (cI.2 53 _ (by unfold wI; omega)).1]
      exact L10.2 j hj
    exact q1.cf (k := 0) (by rw [List.length_append, List.length_map, List.length_map]; exact l10) cl (fun b j z y => by unfold clS at y; omega)
  · exact I12.cf (by rw [List.length_map]; exact l12) cl (fun b j z y => by unfold clS at y; omega)
end MC2
