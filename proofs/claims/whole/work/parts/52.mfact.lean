/-! ===== the model reads a fact ===== -/
section MFa
variable {X : GX} {h : SH} {T : List Tk} {i f : Nat} {F : List Fct}
abbrev wF (n b j : Nat) : Prop := (b = 35 ∧ (j = 7 ∨ j = 8)) ∨ (b = 42 ∧ j = 6) ∨ ((b = 43 ∨ b = 44 ∨ b = 45) ∧ j = 48 + n)
abbrev wG (n b j : Nat) : Prop := (b = 35 ∧ (j = 7 ∨ j = 8)) ∨ ((b = 43 ∨ b = 44 ∨ b = 45) ∧ j = 48 + n)
theorem fm_g {t : SH} (Q : FM h F) (c : cf (wG F.length) h t) : FM t F := by
  refine ⟨by rw [(c.2 42 6 (by unfold wG; omega)).1]; exact Q.1, fun k hk => ?_⟩
  rw [(c.2 43 _ (by unfold wG; omega)).2, (c.2 44 _ (by unfold wG; omega)).1, (c.2 45 _ (by unfold wG; omega)).1]
  exact Q.2 k hk
def FP (T : List Tk) (h : SH) (F : List Fct) (i : Nat) (R : Except Nat Fct) (t : SH) : Prop := cf (wF F.length) h t ∧ match R with
  | .ok f => MR t T (i + 6) ∧ FM t (F ++ [f])
  | .error e => MB t e
theorem okE0 (ok : okFs F) : okE (0, F, []) := ⟨Nat.zero_le _, ok.1, Nat.zero_le _, fun f hf => by
  obtain ⟨a, b, c⟩ := ok.2.1 f hf
  exact ⟨b, c, a⟩, ok.2.2.2, fun c hc => absurd hc (Nat.not_lt_zero _)⟩
theorem c_factIs (M : MR h T i) (hT : okT T) (Q : FM h F) (ok : okFs F) (h46 : hI h 46 6 = 0) (hk : kd T i = 0) :
    Cd X mX11_factIs [.ref 35] h 0 0 (oV (FP T h F i (pFact T F i)) nX) := by
  have hi := M.2.2.2.2.2
  have hl := hT.2.1
  have h8 := ok.1
  have hi1 : i + 1 < T.length := hT.lt hi (by omega)
  generalize hR : pFact T F i = R
  unfold pFact at hR
  generalize hP : oV (FP T h F i R) nX = P
  have e42 : ∀ g, hI g 42 = hI h 42 → hI g (35 + 7) ((6 : Int32).toNatClampNeg) = nI F.length := fun g e => by show hI g 42 6 = _; rw [e]; exact Q.1
  refine bkX11_factIs_0 M.1 in67 (fun z => ?_) (fun z => ?_)
  rotate_left
  · rw [e42 h rfl, n8, nI_eq (by omega) (by omega)] at z
    rw [if_pos z] at hR
    have hb := flt_b (k := 5) hT hi (by decide)
    refine bkX11_factIs_14 M.1 (c_wrong (k := 5) M hT) (fun t q => bkX11_factIs_19 ?_)
    subst q
    rw [← hP, ← hR]
    exact ⟨cf.rf.s (by unfold wF; omega), M.bad hb.1 hb.2⟩
  rw [e42 h rfl, n8, nI_eq (by omega) (by omega)] at z
  rw [if_neg z] at hR
  rw [e42 h rfl]
  have ein : vp_in (nI (48 + F.length)) 56 := (vp_in_nI (by omega) (by omega))
  -- behind a fault
  have d253 : ∀ g e, R = .error e → MB g e → cf (wG F.length) h g → Gd X mX11_factIs 253 [some (.ref 35), none, none, none] [] g 0 0 P := fun g e he B C => by
    refine bkX11_factIs_253 B.1 in67 ?_
    rw [← hP, he]
    exact ⟨(C.up (fun b j z => by unfold wG at z; unfold wF; omega)).s (by show wF F.length 42 6; unfold wF; omega), B.cf (S := fun b _ => b = 42) (cf.rf.s rfl) (by omega)⟩
  have d246 : ∀ g e r, R = .error e → MB g e → cf (wG F.length) h g → Gd X mX11_factIs 246 [some (.ref 35), none, none, none] [.int r, .int (nI (48 + F.length)), .ref (35 + 10)] g 0 0 P := fun g e r he B C => by
    have B2 : MB (sI g (35 + 10) (48 + F.length) r) e := B.cf (S := fun b _ => b = 45) (cf.rf.s rfl) (by omega)
    refine bkX11_factIs_246 (LX11.a_most B.1) ein B.1 (by rw [nI_clamp (by omega)]; exact b_takeSign B2) (fun t q => ?_)
    subst q
    exact d253 _ e he B2 (C.s (by unfold wG; omega))
  have d229 : ∀ g e, R = .error e → MB g e → cf (wG F.length) h g → Gd X mX11_factIs 229 [some (.ref 35), none, some (.int (nI (48 + F.length))), none] [] g 0 0 P := fun g e he B C => by
    refine bkX11_factIs_229 B.1 ein (b_takeNumber B) (fun r t q => ?_)
    obtain ⟨-, v, rfl⟩ := q
    exact d246 _ e r he B.at (C.s (by unfold wG; omega))
  have d125 : ∀ g e, R = .error e → MB g e → cf (wG F.length) h g → Gd X mX11_factIs 125 [some (.ref 35), none, some (.int (nI (48 + F.length))), none] [] g 0 0 P := fun g e he B C =>
    bkX11_factIs_125 B.1 (fun _ => bkX11_factIs_149 (bkX11_factIs_150 (fun _ => d229 g e he B C) (fun y => absurd rfl y))) (fun y => absurd y B.ne)
  have d119 : ∀ g e r, R = .error e → MB g e → cf (wG F.length) h g → Gd X mX11_factIs 119 [some (.ref 35), none, some (.int (nI (48 + F.length))), none] [.int r, .int (nI (48 + F.length)), .ref (35 + 9)] g 0 0 P := fun g e r he B C => by
    have B2 : MB (sI g (35 + 9) (48 + F.length) r) e := B.cf (S := fun b _ => b = 44) (cf.rf.s rfl) (by omega)
    refine bkX11_factIs_119 (LX11.a_least B.1) ein B.1 (by rw [nI_clamp (by omega)]; exact b_takeWord B2) (fun t q => ?_)
    obtain ⟨v, rfl⟩ := q
    exact d125 _ e he B2.at ((C.s (by unfold wG; omega)).s (by unfold wG; omega))
  have d71 : ∀ g e, R = .error e → MB g e → cf (wG F.length) h g → hI g 35 7 = nI (i + 1) → Gd X mX11_factIs 71 [some (.ref 35), none, some (.int (nI (48 + F.length))), none] [] g 0 0 P := fun g e he B C g7 => by
    refine bkX11_factIs_71 B.1 (by rw [g7]; exact (vp_in_nI (by omega) (by omega))) ein (fun _ => ?_) (fun y => absurd y B.ne)
    have B2 : ∀ v, MB (sJ g (35 + 8) (48 + F.length) v) e := fun v => B.cf (S := fun b _ => b = 43) (cf.rf.j rfl) (by omega)
    rw [nI_clamp (by omega)]
    refine bkX11_factIs_102 (bkX11_factIs_103 (B2 _).1 (B2 _).1 (b_takeNumber (B2 _).at) (fun r t q => ?_))
    obtain ⟨-, v, rfl⟩ := q
    exact d119 _ e r he (B2 _).at.at (((C.j (by unfold wG; omega)).s (by unfold wG; omega)).s (by unfold wG; omega))
  have e7 : hI h 35 7 + 1 = nI (i + 1) := by rw [M.2.2.2.2.1, nI_1]
  have M1 : MR (sI h 35 7 (nI (i + 1))) T (i + 1) := M.at hi1
  have C1 : cf (wG F.length) h (sI h 35 7 (nI (i + 1))) := cf.rf.s (by unfold wG; omega)
  have Q1 : FM (sI h 35 7 (nI (i + 1))) F := Q.cf (S := fun b _ => b = 35) (cf.rf.s rfl) (fun b j z => by omega)
  refine bkX11_factIs_20 M.1 (by rw [e7]; exact c_isName M1 hT) (fun r t q => ?_)
  obtain ⟨rfl, ht⟩ := q
  rw [ht, show (48 : Int32) + nI F.length = nI (48 + F.length) from nI_add 48 _]
  obtain ⟨s1, s2, s3, s4⟩ := M1.s hT
  refine bkX11_factIs_39 (fun y => ?_) (fun y => ?_)
  rotate_left
  · rw [bI_0, decide_eq_false_iff_not] at y
    rw [if_pos y] at hR
    have hb := flt_b (k := 1) hT hi1 (by decide)
    refine bkX11_factIs_42 M1.1 (c_wrong (k := 1) M1 hT) (fun t q => bkX11_factIs_47 ?_)
    subst q
    exact d71 _ _ hR.symm (M1.bad hb.1 hb.2) (C1.s (by unfold wG; omega)) (by rw [sI_nj (by decide)]; exact M1.2.2.2.2.1)
  rw [bI_0, decide_eq_false_iff_not, Decidable.not_not] at y
  rw [if_neg (by omega)] at hR
  have hw := hT.w hi1 (show kd T (i + 1) ≤ 11 by omega)
  refine bkX11_factIs_50 M1.1 s1 (by rw [s3.a (by omega)]; exact c_findFact M1.1 Q1 ok hw.1) (fun r t q => ?_)
  obtain ⟨rfl, ht⟩ := q
  rw [ht]
  refine bkX11_factIs_63 (fun y2 => ?_) (fun y2 => ?_)
  rotate_left
  · by_cases x : fdx F (wd T (i + 1)) < F.length
    · rw [if_pos x] at hR
      have hb := flt_b (k := 3) hT hi1 (by decide)
      refine bkX11_factIs_66 M1.1 (c_wrong (k := 3) M1 hT) (fun t q => ?_)
      subst q
      exact d71 _ _ hR.symm (M1.bad hb.1 hb.2) (C1.s (by unfold wG; omega)) (by rw [sI_nj (by decide)]; exact M1.2.2.2.2.1)
    · rw [if_neg x] at y2; exact absurd (show (-1 : Int32) < 0 by decide) y2
  have x : ¬ fdx F (wd T (i + 1)) < F.length := fun x => by rw [if_pos x] at y2; exact absurd y2 (nI_pos (by omega))
  rw [if_neg x] at hR
  have hi2 : i + 2 < T.length := hT.lt hi1 (by omega)
  refine bkX11_factIs_71 M1.1 s1 ein (fun y3 => absurd M1.2.2.2.1 y3) (fun _ => ?_)
  rw [nI_clamp (by omega), s3.a (by omega)]
  generalize hg : sJ (sI h 35 7 (nI (i + 1))) (35 + 8) (48 + F.length) (enc37 (wd T (i + 1))) = g
  have Mg : MR g T (i + 1) := by rw [← hg]; exact M1.cf (S := fun b _ => b = 43) (cf.rf.j rfl) (fun b j z => by omega)
  have Cg : cf (wG F.length) h g := by rw [← hg]; exact C1.j (by unfold wG; omega)
  have n43 : hJ g 43 (48 + F.length) = enc37 (wd T (i + 1)) := by rw [← hg]; exact sJ_at
  have o43 : ∀ k, k < F.length → hJ g 43 (48 + k) = hJ h 43 (48 + k) := fun k hk => by rw [← hg]; exact sJ_nj (by omega)
  clear hg
  have M2 : MR (sI g 35 7 (nI (i + 2))) T (i + 2) := Mg.at hi2
  have C2 : cf (wG F.length) h (sI g 35 7 (nI (i + 2))) := Cg.s (by unfold wG; omega)
  rw [Mg.2.2.2.2.1]
  refine bkX11_factIs_98 (bkX11_factIs_103 (xs2 := 1) Mg.1 Mg.1 ?_ (fun r t q => ?_) (Q := fun r t => (MR t T (i + 3) ∧ r = nI (nu T (i + 2)) ∧ kd T (i + 2) = 12 ∧ nu T (i + 2) ≤ 99 ∧ cf (wG F.length) h t ∧ (∀ b j, b ≠ 35 → hI t b j = hI g b j ∧ hJ t b j = hJ g b j)) ∨ ∃ e, R = .error e ∧ MB t e ∧ cf (wG F.length) h t))
  · rw [nI_1]
    by_cases k12 : kd T (i + 2) = 12
    · rw [if_neg (by omega)] at hR
      by_cases h99 : 99 < nu T (i + 2)
      · rw [if_pos h99] at hR
        have hb := flt_b (k := 4) hT hi2 (by decide)
        refine Gd.mono (Nat.le_refl _) (Nat.le_refl _) (fun o t q => ?_) (x_takeNumber (lo := 0) (hi := 99) (k := 4) M2 hT (Or.inr ⟨k12, rfl, Or.inr h99⟩) (by decide) (by decide))
        match o, q with
        | .inl (some (.int r)), ⟨_, q2⟩ => subst q2; exact Or.inr ⟨_, hR.symm, (M2.bad hb.1 hb.2).at, (C2.s (by unfold wG; omega)).s (by unfold wG; omega)⟩
      · have hi3 : i + 3 < T.length := hT.lt hi2 (by omega)
        refine Gd.mono (Nat.le_refl _) (Nat.le_refl _) (fun o t q => ?_) (c_takeNumber (lo := 0) (hi := 99) M2 hT k12 (by omega) (by omega) (by decide))
        match o, q with
        | .inl (some (.int r)), ⟨q1, q2⟩ => subst q2; exact Or.inl ⟨M2.at hi3, q1, k12, (by omega), C2.s (by unfold wG; omega), fun b j hb => ⟨by rw [sI_nb hb, sI_nb hb], rfl⟩⟩
    · rw [if_pos k12] at hR
      have hb := flt_b (k := 1) hT hi2 (by decide)
      refine Gd.mono (Nat.le_refl _) (Nat.le_refl _) (fun o t q => ?_) (x_takeNumber (lo := 0) (hi := 99) (k := 1) M2 hT (Or.inl ⟨k12, rfl⟩) (by decide) (by decide))
      match o, q with
      | .inl (some (.int r)), ⟨_, q2⟩ => subst q2; exact Or.inr ⟨_, hR.symm, (M2.bad hb.1 hb.2).at, (C2.s (by unfold wG; omega)).s (by unfold wG; omega)⟩
  rcases q with ⟨M3, rfl, k12, h99, C3, o3⟩ | ⟨e, he, B, C⟩
  rotate_left
  · exact d119 t e r he B C
  have hi3 := M3.2.2.2.2.2
  rw [if_neg (by omega), if_neg (by omega)] at hR
  -- the least number is told
  have Mt : MR (sI t (35 + 9) (48 + F.length) (nI (nu T (i + 2)))) T (i + 3) := M3.cf (S := fun b _ => b = 44) (cf.rf.s rfl) (fun b j z => by omega)
  have Ct : cf (wG F.length) h (sI t (35 + 9) (48 + F.length) (nI (nu T (i + 2)))) := C3.s (by unfold wG; omega)
  refine bkX11_factIs_119 (LX11.a_least M3.1) ein M3.1 (by rw [nI_clamp (by omega)]; exact c_takeWord (k := 1) Mt hT (by decide)) (fun w q => ?_)
  subst q
  unfold takW
  by_cases k1 : kd T (i + 3) = 1
  rotate_left
  · rw [if_pos k1] at hR
    rw [if_neg k1]
    have hb := flt_b (k := 1) hT hi3 (by decide)
    exact d125 _ _ hR.symm ((Mt.at hi3).bad hb.1 hb.2) ((Ct.s (by unfold wG; omega)).s (by unfold wG; omega))
  rw [if_neg (by omega)] at hR
  rw [if_pos k1]
  have hi4 : i + 4 < T.length := hT.lt hi3 (by omega)
  generalize hg2 : sI (sI t (35 + 9) (48 + F.length) (nI (nu T (i + 2)))) 35 7 (nI (i + 3 + 1)) = w
  have Mw : MR w T (i + 4) := by rw [← hg2]; exact Mt.at hi4
  have Cw : cf (wG F.length) h w := by rw [← hg2]; exact Ct.s (by unfold wG; omega)
  have w44 : hI w 44 (48 + F.length) = nI (nu T (i + 2)) := by rw [← hg2, sI_nb (by decide)]; exact sI_at
  have w43 : hJ w 43 (48 + F.length) = enc37 (wd T (i + 1)) := by rw [← hg2]; exact ((o3 43 _ (by decide)).2).trans n43
  have Qw : FM w F := fm_g Q Cw
  clear hg2
  have c46 : hI w 46 6 = 0 := by rw [(Cw.2 46 6 (by unfold wG; omega)).1]; exact h46
  have EM0 : EdM w 35 6 (0, F, []) := ⟨Qw.1, c46, fun k hk => Qw.2 k hk, fun c hc => absurd hc (Nat.not_lt_zero _)⟩
  obtain ⟨v1, v2, v3, v4⟩ := Mw.s hT
  have hsl := srt_le (kd T (i + 4))
  have e44 : hI w (35 + 9) (nI (48 + F.length)).toNatClampNeg = nI (nu T (i + 2)) := by rw [nI_clamp (by omega)]; exact w44
  have hwl : wl F ≤ 2000 := ok.2.2.2
  -- a number that isn't as told, or none
  have bad : ∀ k, R = .error (flt T k (i + 4)) → ((kd T (i + 4) ≠ 12 ∧ k = 1) ∨ (kd T (i + 4) = 12 ∧ k = 4 ∧ (nu T (i + 4) < nu T (i + 2) ∨ 99 < nu T (i + 4)))) → Gd X mX11_factIs 229 [some (.ref 35), none, some (.int (nI (48 + F.length))), none] [] w 0 0 P := fun k he hk => by
    have hb := flt_b (k := k) hT hi4 (by omega)
    refine bkX11_factIs_229 Mw.1 ein (by rw [e44]; exact x_takeNumber (hi := 99) Mw hT hk (by omega) (by decide)) (fun r t2 q => ?_)
    obtain ⟨-, rfl⟩ := q
    exact d246 _ _ r he (Mw.bad hb.1 hb.2).at ((Cw.s (by unfold wG; omega)).s (by unfold wG; omega))
  have no : (if kd T (i + 4) ≠ 12 then Except.error (flt T 1 (i + 4)) else if nu T (i + 4) < nu T (i + 2) ∨ 99 < nu T (i + 4) then .error (flt T 4 (i + 4)) else if 2000 < wl F * (nu T (i + 4) - nu T (i + 2) + 1) then .error (flt T 5 (i + 4)) else if kd T (i + 5) ≠ 59 then .error (flt T 1 (i + 5)) else .ok (wd T (i + 1), nu T (i + 2), nu T (i + 4))) = R := hR
  refine bkX11_factIs_125 Mw.1 (fun y3 => absurd Mw.2.2.2.1 y3) (fun _ => ?_)
  refine bkX11_factIs_132 Mw.1 v1 (fun y3 => ?_) (fun y3 => ?_)
  · rw [v2, n2, nI_eq (by omega) (by omega), srt_2] at y3
    rw [if_pos y3] at no
    exact bkX11_factIs_149 (bkX11_factIs_150 (fun _ => bad 1 no.symm (Or.inl ⟨y3, rfl⟩)) (fun y4 => absurd rfl y4))
  rw [v2, n2, nI_eq (by omega) (by omega), srt_2] at y3
  rw [if_neg (by omega)] at no
  have hn4 := hT.n hi4 y3
  refine bkX11_factIs_145 (bkX11_factIs_150 (fun y4 => absurd y4 (by decide)) (fun _ => ?_))
  refine bkX11_factIs_155 Mw.1 v1 ein (fun y4 => ?_) (fun y4 => ?_)
  · rw [v3.b y3, e44, nI_l (by omega), lg_cmp_lt] at y4
    have y4' := (pk_lLT (a := nu T (i + 4)) (b := nu T (i + 2)) (by omega) (by omega)).mp y4
    rw [if_pos (Or.inl y4')] at no
    exact bad 4 no.symm (Or.inr ⟨y3, rfl, Or.inl y4'⟩)
  rw [v3.b y3, e44, nI_l (by omega), lg_cmp_lt] at y4
  have y4' : ¬ nu T (i + 4) < nu T (i + 2) := fun z => y4 ((pk_lLT (a := nu T (i + 4)) (b := nu T (i + 2)) (by omega) (by omega)).mpr z)
  refine bkX11_factIs_175 Mw.1 v1 (fun y5 => ?_) (fun y5 => ?_)
  · rw [v3.b y3, lg_cmp_gt, show (99 : Int64) = lN 99 from rfl] at y5
    have y5' := (pk_lLT (a := 99) (b := nu T (i + 4)) (by omega) (by omega)).mp y5
    rw [if_pos (Or.inr y5')] at no
    exact bad 4 no.symm (Or.inr ⟨y3, rfl, Or.inr y5'⟩)
  rw [v3.b y3, lg_cmp_gt, show (99 : Int64) = lN 99 from rfl] at y5
  have y5' : ¬ 99 < nu T (i + 4) := fun z => y5 ((pk_lLT (a := 99) (b := nu T (i + 4)) (by omega) (by omega)).mpr z)
  rw [if_neg (by omega)] at no
  refine bkX11_factIs_191 Mw.1 (c_worlds (e := 6) EM0 (okE0 ok) Mw.1 (by decide)) (fun r t2 q => ?_)
  obtain ⟨ht2, rfl⟩ := q
  rw [ht2]
  have hmul : wl F * (nu T (i + 4) - nu T (i + 2) + 1) ≤ 2000 * 100 := Nat.mul_le_mul hwl (by omega)
  have ecmp : lN (worlds (0, F, [])) * (hJ w (35 + 4) (hI w 35 7).toNatClampNeg - (hI w (35 + 9) (nI (48 + F.length)).toNatClampNeg).toInt64 + 1) = lN (wl F * (nu T (i + 4) - nu T (i + 2) + 1)) := by
    rw [v3.b y3, e44, nI_l (by omega), l_sub (by omega), show (1 : Int64) = lN 1 from rfl, l_add, l_mul]; rfl
  refine bkX11_factIs_197 Mw.1 v1 ein (fun y6 => ?_) (fun y6 => ?_)
  rotate_left
  · rw [ecmp, lg_cmp_le, show (2000 : Int64) = lN 2000 from rfl] at y6
    have y6' : 2000 < wl F * (nu T (i + 4) - nu T (i + 2) + 1) := Nat.not_le.mp (fun z => y6 ((pk_lLE (by omega) (by omega)).mpr z))
    rw [if_pos y6'] at no
    have hb := flt_b (k := 5) hT hi4 (by decide)
    refine bkX11_factIs_224 Mw.1 (c_wrong (k := 5) Mw hT) (fun t3 q => ?_)
    subst q
    exact d229 _ _ no.symm (Mw.bad hb.1 hb.2) (Cw.s (by unfold wG; omega))
  rw [ecmp, lg_cmp_le, show (2000 : Int64) = lN 2000 from rfl] at y6
  have y6' := (pk_lLE (a := wl F * (nu T (i + 4) - nu T (i + 2) + 1)) (b := 2000) (by omega) (by omega)).mp y6
  rw [if_neg (by omega)] at no
  have hi5 : i + 5 < T.length := hT.lt hi4 (by omega)
  refine bkX11_factIs_229 Mw.1 ein (by rw [e44]; exact c_takeNumber (hi := 99) Mw hT y3 (by omega) (by omega) (by decide)) (fun r t3 q => ?_)
  obtain ⟨rfl, rfl⟩ := q
  have M5 : MR (sI (sI w 35 7 (nI (i + 4 + 1))) (35 + 10) (48 + F.length) (nI (nu T (i + 4)))) T (i + 5) := (Mw.at hi5).cf (S := fun b _ => b = 45) (cf.rf.s rfl) (fun b j z => by omega)
  have C5 : cf (wG F.length) h (sI (sI w 35 7 (nI (i + 4 + 1))) (35 + 10) (48 + F.length) (nI (nu T (i + 4)))) := (Cw.s (by unfold wG; omega)).s (by unfold wG; omega)
  refine bkX11_factIs_246 (LX11.a_most Mw.1) ein Mw.1 (by rw [nI_clamp (by omega)]; exact c_takeSign (c := 59) M5 hT (by decide)) (fun t3 q => ?_)
  subst q
  unfold tak
  by_cases k59 : kd T (i + 5) = 59
  rotate_left
  · rw [if_pos k59] at no
    rw [if_neg k59]
    have hb := flt_b (k := 1) hT hi5 (by decide)
    exact d253 _ _ no.symm (M5.bad hb.1 hb.2) (C5.s (by unfold wG; omega))
  rw [if_neg (by omega)] at no
  rw [if_pos k59]
  have hi6 : i + 6 < T.length := hT.lt hi5 (by omega)
  have M6 := M5.at (j := i + 5 + 1) hi6
  have Q6 : FM (sI (sI (sI w 35 7 (nI (i + 4 + 1))) (35 + 10) (48 + F.length) (nI (nu T (i + 4)))) 35 7 (nI (i + 5 + 1))) F := fm_g Q (C5.s (by unfold wG; omega))
  refine bkX11_factIs_253 M6.1 in67 ?_
  rw [← hP, ← no]
  have e426 : hI (sI (sI (sI w 35 7 (nI (i + 4 + 1))) (35 + 10) (48 + F.length) (nI (nu T (i + 4)))) 35 7 (nI (i + 5 + 1))) (35 + 7) ((6 : Int32).toNatClampNeg) = nI F.length := Q6.1
  rw [e426, nI_1]
  refine ⟨((C5.s (by unfold wG; omega)).up (fun b j z => by unfold wG at z; unfold wF; omega)).s (by show wF F.length 42 6; unfold wF; omega), M6.cf (S := fun b _ => b = 42) (cf.rf.s rfl) (fun b j z => by omega), by rw [List.length_append]; exact sI_at, fun k hk => ?_⟩
  rw [List.length_append] at hk
  rw [sI_nb (by decide), sI_nb (by decide)]
  by_cases y : k < F.length
  · rw [List.getElem_append_left y]; exact Q6.2 k y
  · have e : k = F.length := by simp at hk; omega
    subst e
    rw [List.getElem_append_right (Nat.le_refl _)]
    simp only [Nat.sub_self, List.getElem_singleton]
    refine ⟨w43, ?_, ?_⟩
    · rw [sI_nb (by decide), sI_nb (by decide)]; exact w44
    · rw [sI_nb (by decide)]; exact sI_at
end MFa
