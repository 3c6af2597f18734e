/-! ===== the reader: a fact ===== -/
theorem wl_app {F : List Fct} {f : Fct} : wl (F ++ [f]) = wl F * fspan f := by unfold wl; simp
section RFa
variable {X : GX} {h : SH} {T : List Tk} {k e i : Nat} {N : List (List Nat)} {F : List Fct} {P : Out → SH → Prop} {nc ns : Nat}
/-- the facts of the edition e, their rows, their worlds -/
def FE (h : SH) (e : Nat) (F : List Fct) : Prop := FC h e F ∧ hI h e 6 = nI (wl F) ∧ ∀ (q : Nat) (hq : q < F.length), hI h (e + 2) q = nI F[q].2.1 ∧ hI h (e + 3) q = nI F[q].2.2
theorem FE.cg {S : Nat → Prop} {t : SH} (K : FE h e F) (c : chR S h t) (hS : ∀ q, e ≤ q → q ≤ e + 3 → ¬ S q) : FE t e F := ⟨K.1.cg c (hS _ (by omega) (by omega)) (hS _ (by omega) (by omega)), by rw [(c.2 e (hS _ (by omega) (by omega))).1]; exact K.2.1, fun q hq => by rw [(c.2 (e + 2) (hS _ (by omega) (by omega))).1, (c.2 (e + 3) (hS _ (by omega) (by omega))).1]; exact K.2.2 q hq⟩
abbrev eS (e q : Nat) : Prop := e ≤ q ∧ q ≤ e + 3
theorem c_addFact {f : Fct} (K : FE h e F) (hF : F.length < 8) (ok : okFs F) (hf : f.2.1 ≤ f.2.2 ∧ f.2.2 ≤ 99) : Cd X mX3_addFact [.ref e, .long (enc32 f.1), .int (nI f.2.1), .int (nI f.2.2)] h 0 0 (oV (fun t => chR (eS e) h t ∧ FE t e (F ++ [f]) ∧ ∀ j, j ≠ 2 → j ≠ 6 → hI t e j = hI h e j) nX) := by
  have e2 : hI h e 2 = nI F.length := K.1.2.1
  have e2b : hI (sI (sJ h (e + 1) F.length (enc32 f.1)) (e + 2) F.length (nI f.2.1)) e 2 = nI F.length := by rw [sI_nb (by omega)]; exact e2
  refine bkX3_addFact_0 K.1.1 (by rw [e2]; exact (vp_in_nI (by omega) (by omega))) (by show vp_in (hI h e 2) 8; rw [e2]; exact (vp_in_nI (by omega) (by omega))) (by
    rw [show hI (sJ h (e + 1) (hI h e 2).toNatClampNeg (enc32 f.1)) e 2 = nI F.length from e2, e2, nI_clamp (by omega), e2b]; exact (vp_in_nI (by omega) (by omega))) ?_
  rw [show hI (sJ h (e + 1) (hI h e 2).toNatClampNeg (enc32 f.1)) e 2 = nI F.length from e2, e2, nI_clamp (by omega), e2b, nI_clamp (by omega)]
  generalize hu : sI (sI (sJ h (e + 1) F.length (enc32 f.1)) (e + 2) F.length (nI f.2.1)) (e + 3) F.length (nI f.2.2) = u
  have cu : chR (eS e) h u := by rw [← hu]; exact (((chR.rf (S := eS e)).j (by unfold eS; omega)).s (by unfold eS; omega)).s (by unfold eS; omega)
  have Lu : LX3 (Sk u) e := cu.1 ▸ K.1.1
  have u0 : ∀ j, hI u e j = hI h e j := fun j => by rw [← hu, sI_nb (by omega), sI_nb (by omega)]; rfl
  have u1 : ∀ q, hJ u (e + 1) q = if q = F.length then enc32 f.1 else hJ h (e + 1) q := fun q => by
    rw [← hu]; show hJ (sJ h (e + 1) F.length (enc32 f.1)) (e + 1) q = _
    by_cases y : q = F.length
    · subst y; rw [if_pos rfl]; exact sJ_at
    · rw [if_neg y]; exact sJ_nj y
  have u2 : ∀ q, hI u (e + 2) q = if q = F.length then nI f.2.1 else hI h (e + 2) q := fun q => by
    rw [← hu, sI_nb (by omega)]
    by_cases y : q = F.length
    · subst y; rw [if_pos rfl]; exact sI_at (h := sJ h (e + 1) F.length (enc32 f.1))
    · rw [if_neg y]; exact sI_nj (h := sJ h (e + 1) F.length (enc32 f.1)) y
  have u3 : ∀ q, hI u (e + 3) q = if q = F.length then nI f.2.2 else hI h (e + 3) q := fun q => by
    rw [← hu]
    by_cases y : q = F.length
    · subst y; rw [if_pos rfl]; exact sI_at
    · rw [if_neg y, sI_nj y, sI_nb (by omega)]; rfl
  have sp : Cd X mX3_spanOf [.ref e, .int (hI u e 2)] u 0 0 (oI (fun r t => t = u ∧ r = nI (fspan f)) nX) := by
    rw [u0, e2]
    refine bkX3_spanOf_0 Lu (vp_in_nI (by omega) (by omega)) (bkX3_spanOf_19 ⟨rfl, ?_⟩)
    rw [nI_clamp (by omega), u3, u2, if_pos rfl, if_pos rfl, pk_sub hf.1, nI_1]
    by_cases y : (1 : Int32) < nI (f.2.2 - f.2.1 + 1)
    · rw [if_pos y]; rfl
    · rw [if_neg y]
      rw [show (1 : Int32) = nI 1 from rfl, nI_ltI (by omega) (by omega)] at y
      unfold fspan
      rw [show f.2.2 - f.2.1 + 1 = 1 by omega]; rfl
  refine bkX3_addFact_31 Lu sp (fun r t q => ?_)
  obtain ⟨rfl, rfl⟩ := q
  refine bkX3_addFact_44 Lu Lu ?_
  have e6 : hI t e 6 = nI (wl F) := by rw [u0]; exact K.2.1
  rw [e6, pk_mul, sI_nj (by decide), u0, e2, nI_1]
  have ct : chR (eS e) t (sI (sI t e 6 (nI (wl F * fspan f))) e 2 (nI (F.length + 1))) := ((chR.rf (S := eS e)).s (by unfold eS; omega)).s (by unfold eS; omega)
  have len : (F ++ [f]).length = F.length + 1 := by simp
  refine ⟨cu.tr ct, ⟨⟨ct.1 ▸ Lu, by rw [len]; exact sI_at, fun q hq => ?_⟩, by rw [sI_nj (by decide), sI_at, wl_app], fun q hq => ?_⟩, fun j h2 h6 => by rw [sI_nj h2, sI_nj h6, u0]⟩
  · show hJ t (e + 1) q = _
    rw [u1]
    by_cases y : q = F.length
    · subst y; rw [if_pos rfl, List.getElem_append_right (Nat.le_refl _)]; simp
    · rw [len] at hq
      rw [if_neg y, List.getElem_append_left (by omega)]; exact K.1.2.2 q (by omega)
  · rw [sI_nb (by omega), sI_nb (by omega), sI_nb (by omega), sI_nb (by omega), u2, u3]
    by_cases y : q = F.length
    · subst y; rw [if_pos rfl, if_pos rfl, List.getElem_append_right (Nat.le_refl _)]; simp
    · rw [len] at hq
      rw [if_neg y, if_neg y, List.getElem_append_left (by omega)]; exact K.2.2 q (by omega)
def FG (h : SH) (k e : Nat) (T : List Tk) (N : List (List Nat)) (F : List Fct) (j : Nat) (t : SH) : Prop := chR (fun q => q = k + 3 ∨ eS e q) h t ∧ RD t k e T N j ∧ FE t e F ∧ ∀ j, j ≠ 2 → j ≠ 6 → hI t e j = hI h e j
theorem rfa (hT : okT T) (hek : e + 8 ≤ k) (ok : okFs F) (R : RD h k e T N i) (K : FE h e F) (hk2 : kd T i = 0)
    (ko : ∀ f, pFact T F i = .ok f → ∀ t, FG h k e T N (F ++ [f]) (i + 6) t → P (.inl none) t)
    (ke : ∀ f, pFact T F i = .error f → 1 ≤ nc ∧ 6 ≤ ns ∧ ∀ E t, Zr e k f h E t → P (.inr E) t) : Gd X mX7_readFact 0 [some (.ref k), none, none, none, none] [] h nc ns P := by
  have hi := R.2.2.2.1.2.2.2.2
  have sz := R.sz
  have h8 := ok.1
  have hwl : wl F ≤ 2000 := ok.2.2.2
  have hi1 : i + 1 < T.length := hT.lt hi (by omega)
  unfold pFact at ko ke
  have fail1 : ∀ {f : Nat}, 1 ≤ nc ∧ 6 ≤ ns ∧ (∀ E t, Zr e k f h E t → P (.inr E) t) → 1 + 0 ≤ nc ∧ 6 + 0 ≤ ns := fun z => by omega
  have Kc : ∀ {t : SH}, chR (· = k + 3) h t → FE t e F := fun c => K.cg c (fun q _ _ => by omega)
  by_cases q0 : F.length = 8
  · rw [if_pos q0] at ke
    have z := ke _ rfl
    refine bkX7_readFact_0 R.1 R.2.1 K.1.1 (fun y => ?_) (fun _ => ?_)
    · rw [K.1.2.1, q0] at y; exact absurd y (by decide)
    · exact Gd.le (fail1 z).1 (fail1 z).2 (bkX7_readFact_12 R.1 (x_fail (x := 5) R (by omega)) z.2.2 (fun t q => q.elim))
  rw [if_neg q0] at ko ke
  refine bkX7_readFact_0 R.1 R.2.1 K.1.1 (fun _ => ?_) (fun y => ?_)
  rotate_left
  · rw [K.1.2.1, n8, nI_ltI (by omega) (by omega)] at y; omega
  refine bkX7_readFact_17 R.1 (c_next R hT (by omega)) (fun t1 q => ?_)
  obtain ⟨c1, R1⟩ := q
  by_cases q1 : kd T (i + 1) ≠ 11
  · rw [if_pos q1] at ke
    have z := ke _ rfl
    exact Gd.le (fail1 z).1 (fail1 z).2 (bkX7_readFact_24 R1.1 (x_require (x := 11) R1 hT (by omega) q1 (by omega)) (fun E t y => z.2.2 E t (Zr.tr (c1.z (by omega)) y)) (fun t q => q.elim))
  rw [if_neg q1] at ko ke
  have q1 : kd T (i + 1) = 11 := by omega
  have hi2 : i + 2 < T.length := hT.lt hi1 (by omega)
  refine Gd.z (bkX7_readFact_24 R1.1 (c_require (x := 11) R1 q1) (fun E t y => y.elim) (fun t1' ht => ?_))
  rw [ht]
  have hy : hJ t1 (k + 3) 10 = enc32 (wd T (i + 1)) := R1.2.2.2.1.2.2.2.1.a (by omega)
  have hw : okW (wd T (i + 1)) := (hT.w hi1 (by omega)).1
  refine bkX7_readFact_30 R1.1 R1.2.1 (Kc c1).1.1 (by rw [hy]; exact c_factNamed (Kc c1).1 ok hw) (fun r t1'' q => ?_)
  obtain ⟨rfl, ht⟩ := q
  rw [ht, hy]
  by_cases q2 : fdx F (wd T (i + 1)) < F.length
  · rw [if_pos q2] at ke
    have z := ke _ rfl
    rw [if_pos q2]
    refine bkX7_readFact_46 (fun y => ?_) (fun _ => Gd.le (fail1 z).1 (fail1 z).2 (bkX7_readFact_50 R1.1 (x_fail (x := 3) R1 (by omega)) (fun E t y => z.2.2 E t (Zr.tr (c1.z (by omega)) y)) (fun t q => q.elim)))
    have this : (0 : Int32) ≤ nI (fdx F (wd T (i + 1))) := by rw [n0, nI_leI (by omega) (by omega)]; omega
    rw [y] at this; exact absurd this (by decide)
  rw [if_neg q2] at ko ke
  rw [if_neg q2]
  refine bkX7_readFact_46 (fun _ => ?_) (fun y => absurd rfl y)
  refine bkX7_readFact_55 R1.1 (c_next R1 hT (by omega)) (fun t2 q => ?_)
  obtain ⟨c2, R2⟩ := q
  have c2 := c1.tr c2
  have R2 : RD t2 k e T N (i + 2) := R2
  by_cases q3 : kd T (i + 2) ≠ 12
  · rw [if_pos q3] at ke
    have z := ke _ rfl
    exact Gd.le (fail1 z).1 (fail1 z).2 (bkX7_readFact_62 R2.1 (x_requireNumber (lo := 0) (x := 1) R2 hT (by omega) (by omega) (Or.inl ⟨q3, rfl⟩)) (fun E t y => z.2.2 E t (Zr.tr (c2.z (by omega)) y)) (fun r t q => q.elim))
  rw [if_neg q3] at ko ke
  have q3 : kd T (i + 2) = 12 := by omega
  by_cases q4 : 99 < nu T (i + 2)
  · rw [if_pos q4] at ke
    have z := ke _ rfl
    exact Gd.le (fail1 z).1 (fail1 z).2 (bkX7_readFact_62 R2.1 (x_requireNumber (lo := 0) (x := 4) R2 hT (by omega) (by omega) (Or.inr ⟨q3, rfl, Or.inr q4⟩)) (fun E t y => z.2.2 E t (Zr.tr (c2.z (by omega)) y)) (fun r t q => q.elim))
  rw [if_neg q4] at ko ke
  have hi3 : i + 3 < T.length := hT.lt hi2 (by omega)
  refine Gd.z (bkX7_readFact_62 R2.1 (c_requireNumber (lo := 0) R2 hT q3 (by omega) (by omega)) (fun E t y => y.elim) (fun r t2' q => ?_))
  obtain ⟨rfl, ht⟩ := q
  rw [ht]
  refine bkX7_readFact_67 R2.1 (c_next R2 hT (by omega)) (fun t3 q => ?_)
  obtain ⟨c3, R3⟩ := q
  have c3 := c2.tr c3
  have R3 : RD t3 k e T N (i + 3) := R3
  by_cases q5 : kd T (i + 3) ≠ 1
  · rw [if_pos q5] at ke
    have z := ke _ rfl
    exact Gd.le (fail1 z).1 (fail1 z).2 (bkX7_readFact_75 R3.1 (x_pass (x := 1) R3 hT (by omega) q5 (by omega)) (fun E t y => z.2.2 E t (Zr.tr (c3.z (by omega)) y)) (fun t q => q.elim))
  rw [if_neg q5] at ko ke
  have q5 : kd T (i + 3) = 1 := by omega
  have hi4 : i + 4 < T.length := hT.lt hi3 (by omega)
  refine Gd.z (bkX7_readFact_75 R3.1 (c_pass (x := 1) R3 hT q5 (by omega)) (fun E t y => y.elim) (fun t4 q => ?_))
  obtain ⟨c4, R4⟩ := q
  have c4 := c3.tr c4
  have R4 : RD t4 k e T N (i + 4) := R4
  by_cases q6 : kd T (i + 4) ≠ 12
  · rw [if_pos q6] at ke
    have z := ke _ rfl
    exact Gd.le (fail1 z).1 (fail1 z).2 (bkX7_readFact_80 R4.1 (x_requireNumber (lo := nu T (i + 2)) (x := 1) R4 hT (by omega) (by omega) (Or.inl ⟨q6, rfl⟩)) (fun E t y => z.2.2 E t (Zr.tr (c4.z (by omega)) y)) (fun r t q => q.elim))
  rw [if_neg q6] at ko ke
  have q6 : kd T (i + 4) = 12 := by omega
  by_cases q7 : nu T (i + 4) < nu T (i + 2) ∨ 99 < nu T (i + 4)
  · rw [if_pos q7] at ke
    have z := ke _ rfl
    exact Gd.le (fail1 z).1 (fail1 z).2 (bkX7_readFact_80 R4.1 (x_requireNumber (lo := nu T (i + 2)) (x := 4) R4 hT (by omega) (by omega) (Or.inr ⟨q6, rfl, q7⟩)) (fun E t y => z.2.2 E t (Zr.tr (c4.z (by omega)) y)) (fun r t q => q.elim))
  rw [if_neg q7] at ko ke
  have hi5 : i + 5 < T.length := hT.lt hi4 (by omega)
  refine Gd.z (bkX7_readFact_80 R4.1 (c_requireNumber (lo := nu T (i + 2)) R4 hT q6 (by omega) (by omega)) (fun E t y => y.elim) (fun r t4' q => ?_))
  obtain ⟨rfl, ht⟩ := q
  rw [ht]
  have e6 : hI t4 e 6 = nI (wl F) := (Kc c4).2.1
  have hmul : wl F * (nu T (i + 4) - nu T (i + 2) + 1) ≤ 2000 * 100 := Nat.mul_le_mul hwl (by omega)
  have ecmp : hI t4 e 6 * ((nI (nu T (i + 4)) - nI (nu T (i + 2))) + 1) = nI (wl F * (nu T (i + 4) - nu T (i + 2) + 1)) := by rw [e6, pk_sub (by omega), nI_1, pk_mul]
  by_cases q8 : 2000 < wl F * (nu T (i + 4) - nu T (i + 2) + 1)
  · rw [if_pos q8] at ke
    have z := ke _ rfl
    refine bkX7_readFact_85 R4.1 R4.2.1 (Kc c4).1.1 (fun y => ?_) (fun _ => Gd.le (fail1 z).1 (fail1 z).2 (bkX7_readFact_107 R4.1 (x_fail (x := 5) R4 (by omega)) (fun E t y => z.2.2 E t (Zr.tr (c4.z (by omega)) y)) (fun t q => q.elim)))
    rw [ecmp, show (2000 : Int32) = nI 2000 from rfl, nI_leI (by omega) (by omega)] at y; omega
  rw [if_neg q8] at ko ke
  refine bkX7_readFact_85 R4.1 R4.2.1 (Kc c4).1.1 (fun _ => ?_) (fun y => ?_)
  rotate_left
  · rw [ecmp, show (2000 : Int32) = nI 2000 from rfl, nI_leI (by omega) (by omega)] at y; omega
  refine bkX7_readFact_112 R4.1 (c_next R4 hT (by omega)) (fun t5 q => ?_)
  obtain ⟨c5, R5⟩ := q
  have c5 := c4.tr c5
  have R5 : RD t5 k e T N (i + 5) := R5
  by_cases q9 : kd T (i + 5) ≠ 59
  · rw [if_pos q9] at ke
    have z := ke _ rfl
    exact Gd.le (fail1 z).1 (fail1 z).2 (bkX7_readFact_119 R5.1 (x_pass (x := 59) R5 hT (by omega) q9 (by omega)) (fun E t y => z.2.2 E t (Zr.tr (c5.z (by omega)) y)) (fun t q => q.elim))
  rw [if_neg q9] at ko ke
  have q9 : kd T (i + 5) = 59 := by omega
  refine Gd.z (bkX7_readFact_119 R5.1 (c_pass (x := 59) R5 hT q9 (by omega)) (fun E t y => y.elim) (fun t6 q => ?_))
  obtain ⟨c6, R6⟩ := q
  have c6 := c5.tr c6
  have R6 : RD t6 k e T N (i + 6) := R6
  refine bkX7_readFact_125 R6.1 R6.2.1 (Kc c6).1.1 (c_addFact (f := (wd T (i + 1), nu T (i + 2), nu T (i + 4))) (Kc c6) (by omega) ok ⟨by show nu T (i + 2) ≤ nu T (i + 4); omega, by show nu T (i + 4) ≤ 99; omega⟩) (fun t7 q => bkX7_readFact_136 ?_)
  obtain ⟨c7, K7, k7⟩ := q
  refine ko _ rfl t7 ⟨(c6.up (fun q z => Or.inl z)).tr (c7.up (fun q z => Or.inr z)), R6.mv (c7.gr (SA := fun _ => False)) (fun q _ _ => by unfold eS; omega) (fun q _ _ z => z) (by rw [(c7.2 k (by unfold eS; omega)).1]), K7, fun j h2 h6 => ?_⟩
  rw [k7 j h2 h6, (c6.2 e (by omega)).1]
theorem c_readFact {f : Fct} (hT : okT T) (hek : e + 8 ≤ k) (ok : okFs F) (R : RD h k e T N i) (K : FE h e F) (hk2 : kd T i = 0) (hp : pFact T F i = .ok f) : Cd X mX7_readFact [.ref k] h 0 0 (oV (FG h k e T N (F ++ [f]) (i + 6)) nX) :=
  rfa hT hek ok R K hk2 (fun f' hf => by rw [hp] at hf; cases hf; exact fun t z => z) (fun f' hf => by rw [hp] at hf; cases hf)
theorem x_readFact {f : Nat} (hT : okT T) (hek : e + 8 ≤ k) (ok : okFs F) (R : RD h k e T N i) (K : FE h e F) (hk2 : kd T i = 0) (hp : pFact T F i = .error f) : Cd X mX7_readFact [.ref k] h 1 6 (oV (fun _ => False) (Zr e k f h)) :=
  rfa hT hek ok R K hk2 (fun f' hf => by rw [hp] at hf; cases hf) (fun f' hf => by rw [hp] at hf; cases hf; exact ⟨Nat.le_refl _, Nat.le_refl _, fun E t z => z⟩)
end RFa
