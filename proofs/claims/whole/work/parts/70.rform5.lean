/-! ===== the reader: a formula whole ===== -/
section RF5
variable {X : GX} {h h0 : SH} {T : List Tk} {k e i0 : Nat} {N : List (List Nat)} {F : List Fct}
theorem stE0_ok {s : StE} {r : Fml × Nat} (h0 : s.1 = 0) (hl : 1 ≤ s.2.1.length) (h : stE T F s = .inr (.ok r)) : False := by
  obtain ⟨m, lv, cd, i⟩ := s
  simp only at h0 hl
  subst h0
  rcases lv with _ | ⟨⟨j, c⟩, u⟩
  · simp at hl
  rw [stE_0] at h
  by_cases q1 : kd T i = 40
  · rw [if_pos q1] at h
    by_cases q2 : u.length = 5
    · rw [if_pos q2] at h; cases h
    · rw [if_neg q2] at h; cases h
  rw [if_neg q1] at h
  by_cases q2 : kd T i = 12 ∨ kd T i = 11
  · rw [if_pos q2] at h
    by_cases q3 : kd T i = 11 ∧ ¬ fdx F (wd T i) < F.length
    · rw [if_pos q3] at h; cases h
    rw [if_neg q3] at h
    by_cases q4 : u.length = 5
    · rw [if_pos q4] at h; cases h
    · rw [if_neg q4] at h; cases h
  · rw [if_neg q2] at h; cases h
theorem form_key (hT : okT T) (hek : e + 8 ≤ k) (ok : okFs F) {RR : Except Nat (Fml × Nat)} {P : Out → SH → Prop} {nc ns : Nat} (Q0 : FC h0 e F)
    (ko : ∀ c cd i t, RR = .ok (cd ++ opt c, i) → EC h0 t k e T N (1, [(0, c)], cd, i) → invE T F i0 (1, [(0, c)], cd, i) → Gd X mX7_readFormula 69 [some (.ref k), none, none, none] [] t nc ns P)
    (ke : ∀ f, RR = .error f → (1 ≤ nc ∧ 6 ≤ ns) ∧ ∀ E t, Zr e k f h0 E t → P (.inr E) t) : ∀ (n : Nat) (lv : List (Nat × Nat)) (cd : Fml) (i x : Nat) (h : SH), T.length - i = n → x + i0 ≤ i → EC h0 h k e T N (0, lv, cd, i) → invE T F i0 (0, lv, cd, i) → runE T F (T.length - i) (0, lv, cd, i) = RR → Gd X mX7_readFormula 16 [some (.ref k), some (.int (nI (lv.length - 1))), some (.int 1), some (.int (nI x))] [] h nc ns P := by
  have hl := hT.2.1
  intro n
  induction n using Nat.strongRecOn with
  | ind n ih =>
    intro lv cd i x h hn hx E I hr
    have R := E.R
    simp only at R
    have hi := R.2.2.2.1.2.2.2.2
    have h6 : hI h (k + 3) 6 = nI T.length := R.2.2.1.2.2.1
    have hlv6 : lv.length ≤ 6 := I.2.2.2.2.2.2.2.1
    have hlv1 : 1 ≤ lv.length := I.2.2.2.2.2.2.1
    refine bkX7_readFormula_16 R.1 (fun z => ?_) (fun _ => ?_)
    · rw [h6, nI_leI (by omega) (by omega)] at z; omega
    refine bkX7_readFormula_27 (fun z => absurd z (by decide)) (fun _ => ?_)
    obtain ⟨q, q1, q2⟩ := q40 hT hi
    by_cases hq6 : lv.length + q ≤ 6
    rotate_left
    · -- too many brackets
      obtain ⟨r1, r2⟩ := x_open (X := X) (F := F) (i0 := i0) hT (show e ≤ k by omega) (6 - lv.length) lv i 0 h (by omega) (by omega) (fun r hr2 => q1 r (by omega)) E I hr
      obtain ⟨⟨b1, b2⟩, hz⟩ := ke _ r1
      exact Gd.le (nc := 1 + 0) (ns := 6 + 0) b1 b2 (bkX7_readFormula_31 R.1 (bkX7_readOpenings_0 r2) (fun E2 t y => hz E2 t (Zr.tr (E.z (by omega)) y)) (fun r t y => y.elim))
    refine Gd.z (bkX7_readFormula_31 R.1 (bkX7_readOpenings_0 (c_open hT q lv i 0 h (by omega) hq6 q1 q2 E I hr)) (fun E2 t y => y.elim) (fun r t y => ?_))
    obtain ⟨lv', i', rfl, E1, I1, hii, hr1, k40⟩ := y
    rcases lv' with _ | ⟨⟨j, c⟩, u⟩
    · exact absurd I1.2.2.2.2.2.2.1 (by simp)
    have el : ((j, c) :: u).length - 1 = u.length := rfl
    rw [el]
    have R1 := E1.R
    simp only at R1
    have Qt : FC t e F := Q0.cg E1.1 (by unfold fS; omega) (by unfold fS; omega)
    have hrs := runE_s I1
    simp only at hrs
    match hst : stE T F (0, (j, c) :: u, cd, i') with
    | .inr (.ok r2) => exact (stE0_ok (T := T) (F := F) rfl (by simp) hst).elim
    | .inr (.error f) =>
      rw [hst] at hrs
      obtain ⟨⟨b1, b2⟩, hz⟩ := ke f (hr1.symm.trans hrs)
      exact Gd.le (nc := 1 + 0) (ns := 6 + 0) b1 b2 (bkX7_readFormula_36 R1.1 (x_readValue E1 I1 hT (by omega) Qt ok k40 hst) (fun E2 w y => hz E2 w (Zr.tr (E1.z (by omega)) y)) (fun w y => y.elim))
    | .inl s' =>
      rw [hst] at hrs
      refine Gd.z (bkX7_readFormula_36 R1.1 (c_readValue E1 I1 hT hek Qt ok k40 hst) (fun E2 w y => y.elim) (fun t2 y => ?_))
      obtain ⟨E2, hs', c2⟩ := y
      have I2 := (stE_l hT I1 hst).1
      subst hs'
      have R2 := E2.R
      simp only at R2
      have hr2 : runE T F (T.length - (i' + 1)) (1, (0, c) :: u, cd ++ vcode T F i' :: opt j, i' + 1) = RR := hrs.symm.trans hr1
      have hu4 : u.length + 1 ≤ 5 := (I2.2.2.2.2.2.2.2.2.2.resolve_left (show ¬ (1 : Nat) = 0 by decide)).2.1
      refine bkX7_readFormula_42 R2.1 (bkX7_readClosings_0 (c_close hT u 0 c _ (i' + 1) 0 t2 (by omega) E2 I2 hr2)) (fun r t3 y => ?_)
      obtain ⟨j3, c3, u3, cd3, i3, rfl, E3, I3, hi3, hr3, hend, ct3⟩ := y
      have R3 := E3.R
      simp only at R3
      obtain ⟨-, -, c', u', g3⟩ := I3.2.2.2.2.2.2.2.2.2.resolve_left (show ¬ (1 : Nat) = 0 by decide)
      injection g3 with g4 g5
      injection g4 with g6 g7
      subst g6
      refine bkX7_readFormula_47 R3.1 (c_readOperator hT E3 I3) (fun r t4 y => ?_)
      have hrs3 := runE_s I3
      simp only at hrs3
      rcases y with ⟨rfl, p, hst4, E4, c4⟩ | ⟨rfl, rfl, n1, n2⟩
      · refine bkX7_readFormula_53 ?_
        rw [nI_1]
        rw [hst4] at hrs3
        have I4 := (stE_l hT I3 hst4).1
        have hi4 : i3 + 1 < T.length := I4.2.1
        have := ih (T.length - (i3 + 1)) (by omega) (p :: u3) cd3 (i3 + 1) (x + 1) t4 rfl (by omega) E4 I4 (hrs3.symm.trans hr3)
        exact this
      · refine bkX7_readFormula_53 ?_
        rw [stE_1 (by decide), if_neg n1, if_neg n2] at hrs3
        have hi3' : i3 < T.length := I3.2.1
        have h63 : hI t4 (k + 3) 6 = nI T.length := R3.2.2.1.2.2.1
        have p60 : Gd X mX7_readFormula 60 [some (.ref k), some (.int (nI u3.length)), none, none] [] t4 nc ns P := by
          have hu3 : u3.length + 1 ≤ 6 := I3.2.2.2.2.2.2.2.1
          refine bkX7_readFormula_60 (fun z => ?_) (fun z => ?_)
          · rw [n0, nI_leI (by omega) (by omega)] at z
            have eu : u3 = [] := List.length_eq_zero_iff.mp (by omega)
            subst eu
            simp only at hrs3
            exact ko c3 cd3 i3 t4 (hr3.symm.trans hrs3) E3 I3
          · rw [n0, nI_leI (by omega) (by omega)] at z
            rcases u3 with _ | ⟨⟨j5, c5⟩, u5⟩
            · simp at z
            simp only at hrs3
            have k41 : kd T i3 ≠ 41 := hend.resolve_left (by simp)
            rw [if_neg k41] at hrs3
            obtain ⟨⟨b1, b2⟩, hz⟩ := ke _ (hr3.symm.trans hrs3)
            exact Gd.le (nc := 1 + 0) (ns := 6 + 0) b1 b2 (bkX7_readFormula_64 R3.1 (x_fail (x := 1) R3 (by omega)) (fun E2 w y => hz E2 w (Zr.tr (E3.z (by omega)) y)) (fun w y => y.elim))
        refine bkX7_readFormula_16 R3.1 (fun _ => p60) (fun _ => ?_)
        exact bkX7_readFormula_27 (fun _ => p60) (fun z => absurd rfl z)
/-- a formula's object -/
def FO (h : SH) (k e : Nat) (T : List Tk) (N : List (List Nat)) (r : Fml × Nat) (a : Option Nat) (t : SH) : Prop := a = some (hz h) ∧ gr (fS k) (fun _ => False) h t ∧ hz t = hz h + 2 ∧ RD t k e T N r.2 ∧ FmC t (hz h) r.1 ∧ ∀ j, j ≠ 5 → hI t k j = hI h k j
theorem EC0 {i : Nat} (R : RD h k e T N i) : EC h (sI (sI (sI h k 5 0) (k + 1) 0 0) (k + 2) 0 0) k e T N (0, [(0, 0)], [], i) := by
  have c : chR (fun b => b = k ∨ b = k + 1 ∨ b = k + 2) h (sI (sI (sI h k 5 0) (k + 1) 0 0) (k + 2) 0 0) := ((chR.rf.s (Or.inl rfl)).s (Or.inr (Or.inl rfl))).s (Or.inr (Or.inr rfl))
  have c5 : ∀ j, j ≠ 5 → hI (sI (sI (sI h k 5 0) (k + 1) 0 0) (k + 2) 0 0) k j = hI h k j := fun j hj => by rw [sI_nb (by omega), sI_nb (by omega), sI_nj hj]
  refine ⟨c.up (fun b z => by unfold fS; omega), c5, R.mv (c.gr (SA := fun _ => False)) (fun b _ _ => by omega) (fun b _ _ z => z) (c5 3 (by decide)), ?_, ?_, fun q hq => absurd hq (Nat.not_lt_zero _)⟩
  · simp only
    rw [if_pos trivial]
    exact ⟨⟨by show hI _ (k + 1) 0 = nI 0; rw [sI_nb (by omega)]; exact sI_at, sI_at⟩, trivial⟩
  · rw [sI_nb (by omega), sI_nb (by omega)]; exact sI_at
theorem x_readFormula {i f : Nat} (R : RD h k e T N i) (hT : okT T) (hek : e + 8 ≤ k) (ok : okFs F) (Q : FC h e F) (hp : pE T F i = .error f) : Cd X mX7_readFormula [.ref k] h 1 6 (oA (fun _ _ => False) (Zr e k f h)) := by
  have hi := R.2.2.2.1.2.2.2.2
  have Rg : RD (sI h k 5 0) k e T N i := R.mv ((chR.rf (S := (· = k))).s rfl).gr (SA := fun _ => False) (fun b _ _ => by omega) (fun b _ _ z => z) (sI_nj (by decide))
  refine bkX7_readFormula_0 R.1 (c_openLevel (d := 0) Rg.1 (by decide)) (fun t q => bkX7_readFormula_10 ?_)
  subst q
  exact form_key hT hek ok Q (fun c cd i' t hr _ _ => by have hr2 : pE T F i = .ok (cd ++ opt c, i') := hr; rw [hp] at hr2; cases hr2) (fun f' hf => ⟨⟨Nat.le_refl _, Nat.le_refl _⟩, fun E t z => by have hf2 : pE T F i = .error f' := hf; rw [hp] at hf2; cases hf2; exact z⟩) _ [(0, 0)] [] i 0 _ rfl (by omega) (EC0 R) (inv0 hi) rfl
theorem gr.cp {S SA : Nat → Prop} {t : SH} {a n : Nat} (c : gr S SA h t) : gr S SA h (cpH t a n) := by
  have g := gr.nw (k := 20) (n := n) c
  refine ⟨g.1, g.2.1, g.2.2.1, fun b hb hn => ⟨?_, (g.2.2.2 b hb hn).2⟩⟩
  funext j
  show (if b = hz t then _ else hI t b j) = _
  rw [if_neg (Nat.ne_of_lt (Nat.lt_of_lt_of_le hb c.1))]
  exact congrFun (c.2.2.2 b hb hn).1 j
theorem c_X4init {f a : Nat} (O : Ob h f 4) : Cd X mX4_init [.ref f, .ref a] h 0 0 (oV (fun t => t = sA h f 0 (some a)) nX) := bkX4_init_0 (bkX4_init_4 O (bkX4_init_9 rfl))
theorem c_readFormula {i : Nat} {r : Fml × Nat} (R : RD h k e T N i) (hT : okT T) (hek : e + 8 ≤ k) (ok : okFs F) (Q : FC h e F) (h1 : 1 ≤ i) (hN9 : hN h (k + 9) < 2 ^ 24) (hp : pE T F i = .ok r) : Cd X mX7_readFormula [.ref k] h 2 (1 + r.1.length) (oA (FO h k e T N r) nX) := by
  have hi := R.2.2.2.1.2.2.2.2
  have hl := hT.2.1
  have hen := pE_ok hT hi hp
  have Rg : RD (sI h k 5 0) k e T N i := R.mv ((chR.rf (S := (· = k))).s rfl).gr (SA := fun _ => False) (fun b _ _ => by omega) (fun b _ _ z => z) (sI_nj (by decide))
  refine bkX7_readFormula_0 R.1 (c_openLevel (d := 0) Rg.1 (by decide)) (fun t q => bkX7_readFormula_10 ?_)
  subst q
  refine form_key hT hek ok Q (fun c cd i' t hr E I => ?_) (fun f' hf => ?_) _ [(0, 0)] [] i 0 _ rfl (by omega) (EC0 R) (inv0 hi) rfl
  rotate_left
  · have hf2 : pE T F i = .error f' := hf
    rw [hp] at hf2; cases hf2
  have hr2 : pE T F i = .ok (cd ++ opt c, i') := hr
  rw [hp] at hr2
  cases hr2
  have h3 : (cd ++ opt c).length + i ≤ i' := hen.2.2.1
  have hi' : i' < T.length := hen.2.1
  have Rt := E.R
  simp only at Rt
  have lv := E.2.2.2.1
  simp only at lv
  rw [if_neg (by decide)] at lv
  have hc : c = 0 ∨ c = 5 ∨ c = 6 := (I.2.2.2.2.2.2.2.2.1 (0, c) List.mem_cons_self).2
  have ec : hI t (k + 2) ((0 : Int32).toNatClampNeg) = nI c := lv.1
  refine bkX7_readFormula_69 Rt.1 (vp_in_nI (n := 0) (by decide) (by decide)) (by rw [ec]; exact c_addOpt (cd := cd) E hT (by omega) rfl (fun hc0 => by rw [List.length_append, optn hc0] at h3; simp at h3; omega)) (fun t1 q => ?_)
  obtain ⟨c1, c51, D1⟩ := q
  have E1 : EC h t1 k e T N (1, [(0, c)], cd ++ opt c, i') := E.op c1 c51 D1
  have R1 := E1.R
  simp only at R1
  generalize hcd : cd ++ opt c = cd' at D1 E1 h3 ⊢
  have hzt : hz t1 = hz h := E1.1.hz
  have sz := R.sz
  have g1 : gr (fS k) (fun _ => False) h t1 := E1.1.gr
  have n9 : hN t1 (k + 9) = hN h (k + 9) := g1.N (by omega)
  have o1 := R.2.2.2.2.2.1.1
  show Gd X mX7_readFormula 79 [some (.ref k), none, none, none] [] t1 ((0 + 1) + 1) (1 + cd'.length) _
  rw [Nat.add_comm 1 cd'.length]
  refine bkX7_readFormula_79 ?_
  have g2 : gr (fS k) (fun _ => False) h (nw t1 4 0) := g1.nw
  have R2 : RD (nw t1 4 0) k e T N i' := R1.mv (gr.nw (S := fun _ => False) (SA := fun _ => False) gr.rf) (fun b _ _ z => z) (fun b _ _ z => z) (by show (if k = t1.1 then 0 else t1.2.2.1 k 3) = _; rw [if_neg (by have : hz t1 = t1.1 := rfl; omega)]; rfl)
  have ne9 : k + 9 ≠ t1.1 := by have : hz t1 = t1.1 := rfl; omega
  have nek : k ≠ t1.1 := by have : hz t1 = t1.1 := rfl; omega
  have e5 : hI (nw t1 4 0) k 5 = nI cd'.length := by show (if k = t1.1 then 0 else t1.2.2.1 k 5) = _; rw [if_neg nek]; exact D1.1
  have A9 : Ar (nw t1 4 0) (k + 9) 20 (hN (nw t1 4 0) (k + 9)) := LX7.a_operations R2.1
  have n92 : hN (nw t1 4 0) (k + 9) = hN h (k + 9) := g2.N (by omega)
  rw [n92] at A9
  refine bkX7_readFormula_82 (n1 := 1) (s1 := cd'.length) (nc := 0) (ns := 0) R2.1 (by rw [e5]; exact c_copyOf A9 (by omega) hN9) (fun r2 t3 q => ?_)
  obtain ⟨rfl, rfl⟩ := q
  have hz2 : hz (nw t1 4 0) = hz h + 1 := by show t1.1 + 1 = _; rw [← hzt]; rfl
  have hz3 : hz (cpH (nw t1 4 0) (k + 9) cd'.length) = hz h + 2 := by show (nw t1 4 0).1 + 1 = _; rw [← show hz h + 1 + 1 = hz h + 2 from rfl, ← hz2]; rfl
  have g3 : gr (fS k) (fun _ => False) h (cpH (nw t1 4 0) (k + 9) cd'.length) := g2.cp
  have kf : (cpH (nw t1 4 0) (k + 9) cd'.length).2.1 (hz h) = (4, 0) := by
    show (if hz h = (nw t1 4 0).1 then (20, cd'.length) else (if hz h = t1.1 then (4, 0) else t1.2.1 (hz h))) = _
    rw [if_neg (by have : hz (nw t1 4 0) = (nw t1 4 0).1 := rfl; omega), if_pos (show hz h = t1.1 from hzt.symm)]
  have ka : (cpH (nw t1 4 0) (k + 9) cd'.length).2.1 (hz h + 1) = (20, cd'.length) := by
    show (if hz h + 1 = (nw t1 4 0).1 then (20, cd'.length) else _) = _
    rw [if_pos (show hz h + 1 = (nw t1 4 0).1 from hz2.symm)]
  have h8 : 8 ≤ hz h := by have := R.2.2.2.2.2.2; omega
  have Of : Ob (cpH (nw t1 4 0) (k + 9) cd'.length) (hz h) 4 := ⟨h8, by rw [hz3]; omega, by show ((cpH (nw t1 4 0) (k + 9) cd'.length).2.1 (hz h)).1 = 4; rw [kf]⟩
  have ehz : hz t1 = hz h := hzt
  rw [ehz, hz2]
  refine bkX7_readFormula_94 (c_X4init Of) (fun t4 q => bkX7_readFormula_97 ?_)
  subst q
  have g4 : gr (fS k) (fun _ => False) h (sA (cpH (nw t1 4 0) (k + 9) cd'.length) (hz h) 0 (some (hz h + 1))) := g3.a (Or.inr (Nat.le_refl _))
  have h5 : ∀ j, j ≠ 5 → hI (sA (cpH (nw t1 4 0) (k + 9) cd'.length) (hz h) 0 (some (hz h + 1))) k j = hI h k j := fun j hj => by
    show (if k = hz (nw t1 4 0) then _ else hI (nw t1 4 0) k j) = _
    rw [if_neg (by omega)]
    show (if k = t1.1 then 0 else t1.2.2.1 k j) = _
    rw [if_neg nek]; exact E1.2.1 j hj
  have tr4 : gr (fun _ => False) (fun _ => False) t1 (sA (cpH (nw t1 4 0) (k + 9) cd'.length) (hz h) 0 (some (hz h + 1))) := ((gr.rf (S := fun _ => False) (SA := fun _ => False)).nw.cp).a (Or.inr (by rw [hzt]; exact Nat.le_refl _))
  refine ⟨rfl, g4, hz3, R1.mv tr4 (fun b _ _ z => z) (fun b _ _ z => z) ?_, ⟨⟨⟨h8, by show hz h < hz (cpH (nw t1 4 0) (k + 9) cd'.length); rw [hz3]; omega, by show ((cpH (nw t1 4 0) (k + 9) cd'.length).2.1 (hz h)).1 = 4; rw [kf]⟩, ?_, ?_⟩, ?_, by show cd'.length ≤ 2400; omega, fun q hq => ?_⟩, h5⟩
  · rw [h5 3 (by decide), ← E1.2.1 3 (by decide)]
  · exact sA_at (h := cpH (nw t1 4 0) (k + 9) cd'.length)
  · show kAr _ (hz h + 1) 20 ((cpH (nw t1 4 0) (k + 9) cd'.length).2.1 (hz h + 1)).2
    rw [ka]
    exact ⟨by omega, by show hz h + 1 < hz (cpH (nw t1 4 0) (k + 9) cd'.length); rw [hz3]; omega, by show ((cpH (nw t1 4 0) (k + 9) cd'.length).2.1 (hz h + 1)).1 = 20; rw [ka], by show ((cpH (nw t1 4 0) (k + 9) cd'.length).2.1 (hz h + 1)).2 = _; rw [ka]⟩
  · show ((cpH (nw t1 4 0) (k + 9) cd'.length).2.1 (hz h + 1)).2 = _
    rw [ka]
  · have hq : q < cd'.length := hq
    show (if hz h + 1 = hz (nw t1 4 0) then (if q < cd'.length then hI (nw t1 4 0) (k + 9) q else 0) else _) = _
    rw [if_pos hz2.symm, if_pos hq]
    show (if k + 9 = t1.1 then 0 else t1.2.2.1 (k + 9) q) = _
    rw [if_neg ne9]; exact D1.2 q hq
end RF5
