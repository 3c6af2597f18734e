/-! ===== look, judge, changed ===== -/
section S4
variable {X : GX} {h : SH} {A : Abs}
def fLook (A : Abs) (x : Int32) : Int32 × Abs := (match aH A with
  | none => -1
  | some i => if x = 0 then nI i else if x = 1 then nI (eF (ed A i)).length else if x = 2 then nI (eC (ed A i)).length else if x = 3 then nI (worlds (ed A i)) else if x = 4 then nI (ed A i).1 else if x = 5 then wOf (ed A i) (aN A) (eF (ed A i)).length else -1, A)
theorem C_look {x : Int32} (R : RepC h A) (ok : okA A) : Cd X mX10_look [.ref 8, .int x] h 0 0 (oI (CP h (fLook A x)) nX) := by
  have R0 := R
  obtain ⟨ad, r1, r2, r3, r4, r5, r6, r7⟩ := R
  have cp : ∀ r, r = (fLook A x).1 → CP h (fLook A x) r h := fun r hr => ⟨hr, R0, frC.rf⟩
  unfold fLook at cp ⊢
  cases hh : aH A with
  | none =>
    rw [hh] at cp
    have e4 : hA h 8 4 = none := by rw [r4.1, hh]; rfl
    exact bkX10_look_0 r1 (fun z hz => by rw [e4] at hz; cases hz) (fun _ => bkX10_look_7 (cp _ rfl))
  | some i =>
    rw [hh] at cp
    obtain ⟨hlt, h4, hE, oke⟩ := RH.ed r3 r4 ok hh
    have hnum := (r3.2 i hlt).2.2.1
    refine bkX10_look_0 r1 (fun z hz => ?_) (fun z => by rw [h4] at z; cases z)
    refine bkX10_look_9 (fun q => ?_) (fun q => ?_) (fun q => ?_) (fun q => ?_) (fun q => ?_) (fun q => ?_) (fun q0 q1 q2 q3 q4 q5 => ?_)
    · exact bkX10_look_48 r1 h4 hE.2.1 (cp _ (by rw [hnum]; simp [q]))
    · exact bkX10_look_56 r1 h4 hE.2.1 (cp _ (by rw [hE.2.2.2.1]; simp [q]))
    · exact bkX10_look_64 r1 h4 hE.2.1 (cp _ (by rw [hE.2.2.2.2.2.1]; simp [q]))
    · exact bkX10_look_72 r1 h4 hE.2.1 (cp _ (by rw [hE.2.2.2.2.1]; simp [q]))
    · exact bkX10_look_80 r1 h4 hE.2.1 (cp _ (by rw [hE.2.2.1]; simp [q]))
    · refine bkX10_look_88 r1 h4 (c_worldOf (cs := aN A) hE oke (LX10.l_facts r1) (fun k hk => r4.2 i hh k hk)) (fun r t hq => bkX10_look_99 ?_)
      obtain ⟨rfl, rfl⟩ := hq
      exact cp _ (by simp [q])
    · exact bkX10_look_100 (cp _ (by simp [q0, q1, q2, q3, q4, q5]))
theorem M_look {x : Int32} (R : RepM h A) (ok : okA A) : Cd X mX11_look [.ref 35, .int x] h 0 0 (oI (MP h (fLook A x)) nX) := by
  have R1 := R.z (v := 0) ok
  generalize hh1 : sI h 35 0 0 = h1 at R1
  have z1 : frM h h1 := hh1 ▸ z_fr
  have cp : ∀ r, r = (fLook A x).1 → MP h (fLook A x) r h1 := fun r hr => ⟨hr, R1, z1⟩
  unfold fLook at cp ⊢
  refine bkX11_look_0 R.1 (fun q => ?_) (fun q => ?_)
  · rw [hh1] at q ⊢
    cases hh : aH A with
    | none => have h34 := R1.2.2.2.1.1
              rw [hh] at h34
              rw [h34] at q; exact absurd q (by decide)
    | some i =>
      rw [hh] at cp
      obtain ⟨hlt, h6, h34, hE, oke⟩ := R1.hand ok hh
      have hw : worlds (ed A i) ≤ 2000 := oke.2.2.2.2.1
      have hd6 : i < 6 := by have := ok.2.1; omega
      refine bkX11_look_14 (fun q0 => ?_) (fun q0 => ?_)
      · refine bkX11_look_25 (fun q1 => ?_) (fun q1 => ?_)
        · refine bkX11_look_42 (fun q2 => ?_) (fun q2 => ?_)
          · refine bkX11_look_59 (fun q3 => ?_) (fun q3 => ?_)
            · refine bkX11_look_76 (fun q4 => ?_) (fun q4 => ?_)
              · refine bkX11_look_93 (fun q5 => ?_) (fun q5 => ?_)
                · exact bkX11_look_105 (bkX11_look_106 (cp _ (by simp [q0, q1, q2, q3, q4, q5])))
                · refine bkX11_look_98 R1.1 (c_worldNow (cs := aN A) hE oke R1.1 h6 h34 (fun k hk => R1.2.2.2.1.2 i hh k hk)) (fun r t hq => bkX11_look_102 (bkX11_look_106 ?_))
                  obtain ⟨rfl, rfl⟩ := hq
                  exact cp _ (by simp [q5])
              · refine bkX11_look_81 R1.1 (by rw [h34]; exact (vp_in_nI (by omega) (by omega))) (bkX11_look_106 (cp _ ?_))
                rw [h34, nI_clamp (by omega)]
                have e := (R1.2.2.1.2 i hlt).2
                have e' : hI h1 (35 + 6) i = nI (ed A i).1 := e
                rw [e']; simp [q4]
            · refine bkX11_look_64 R1.1 (by rw [h34]; exact c_worlds hE oke R1.1 h6) (fun r t hq => bkX11_look_72 (bkX11_look_106 ?_))
              obtain ⟨rfl, rfl⟩ := hq
              exact cp _ (by rw [lN_i]; simp [q3])
          · refine bkX11_look_47 R1.1 (by rw [h34]; exact (vp_in_nI (by omega) (by omega))) (bkX11_look_106 (cp _ ?_))
            rw [h34, nI_clamp (by omega), hE.2.1]; simp [q2]
        · refine bkX11_look_30 R1.1 (by rw [h34]; exact (vp_in_nI (by omega) (by omega))) (bkX11_look_106 (cp _ ?_))
          rw [h34, nI_clamp (by omega), hE.1]; simp [q1]
      · refine bkX11_look_18 R1.1 (bkX11_look_106 (cp _ ?_))
        rw [h34]; simp [q0]
  · rw [hh1] at q ⊢
    cases hh : aH A with
    | none => rw [hh] at cp
              exact bkX11_look_12 (cp _ rfl)
    | some i => obtain ⟨_, _, h34, _, _⟩ := R1.hand ok hh
                rw [h34] at q; exact absurd (nI_pos' (by omega)) q
def fJudge (A : Abs) (x y : Int32) : Int32 × Abs := (match aH A with
  | none => -1
  | some i => if (1 ≤ x ∧ x ≤ 4) ∧ 0 ≤ y ∧ y ≤ 1 then (if y = 0 then nI (cn (jp (ed A i) x.toNatClampNeg) (worlds (ed A i))) else fst1 (jp (ed A i) x.toNatClampNeg) (worlds (ed A i))) else -1, A)
theorem C_judge {x y : Int32} (R : RepC h A) (ok : okA A) : Cd X mX10_judge [.ref 8, .int x, .int y] h 0 0 (oI (CP h (fJudge A x y)) nX) := by
  have R0 := R
  obtain ⟨ad, r1, r2, r3, r4, r5, r6, r7⟩ := R
  have no : (fJudge A x y).1 = -1 → Gd X mX10_judge 26 [none, none, none] [] h 0 0 (oI (CP h (fJudge A x y)) nX) := fun e => bkX10_judge_26 ⟨e.symm, R0, frC.rf⟩
  cases hh : aH A with
  | none =>
    have e4 : hA h 8 4 = none := by rw [r4.1, hh]; rfl
    exact bkX10_judge_0 r1 (fun _ => no (by unfold fJudge; rw [hh])) (fun z hz => by rw [e4] at hz; cases hz)
  | some i =>
    obtain ⟨hlt, h4, hE, oke⟩ := RH.ed r3 r4 ok hh
    have ef : (fJudge A x y).1 = if (1 ≤ x ∧ x ≤ 4) ∧ 0 ≤ y ∧ y ≤ 1 then (if y = 0 then nI (cn (jp (ed A i) x.toNatClampNeg) (worlds (ed A i))) else fst1 (jp (ed A i) x.toNatClampNeg) (worlds (ed A i))) else -1 := by unfold fJudge; rw [hh]
    have ng : ¬ ((1 ≤ x ∧ x ≤ 4) ∧ 0 ≤ y ∧ y ≤ 1) → (fJudge A x y).1 = -1 := fun q => by rw [ef, if_neg q]
    refine bkX10_judge_0 r1 (fun z => by rw [h4] at z; cases z) (fun z hz => ?_)
    refine bkX10_judge_7 (fun z => no (ng (fun w => absurd z (Int32.not_lt.mpr w.1.1)))) (fun q1 => ?_)
    refine bkX10_judge_12 (fun z => no (ng (fun w => absurd z (Int32.not_lt.mpr w.1.2)))) (fun q2 => ?_)
    refine bkX10_judge_17 (fun z => no (ng (fun w => i_neg.mp z w.2.1))) (fun q3 => ?_)
    refine bkX10_judge_21 (fun q4 => ?_) (fun z => no (ng (fun w => z w.2.2)))
    have hq : (1 ≤ x ∧ x ≤ 4) ∧ 0 ≤ y ∧ y ≤ 1 := ⟨⟨Int32.not_lt.mp q1, Int32.not_lt.mp q2⟩, Int32.not_lt.mp q3, q4⟩
    rw [if_pos hq] at ef
    obtain ⟨n, hn, rfl⟩ := one_some q1
    have b1 := hq.1.2
    rw [n4, nI_leI (by omega) (by omega)] at b1
    rw [nI_clamp (by omega)] at ef
    refine bkX10_judge_28 r1 h4 (c_judgeWorlds (a := 8 + 13) hE oke (LX10.l_survey r1) (by decide) (r3.2 i hlt).2.2.2) (fun t hq => ?_)
    obtain ⟨g1, g2, g3⟩ := hq
    have g1' : jok 21 (ad i) h t := g1
    have ha := g1'.ag (by decide) hE.1 hE.2.1
    have h73 := hE.1
    have hI' : ∀ b, b < 22 → hI t b = hI h b := fun b hb => g1'.1.2.2 b (by omega)
    have F1 : LX10 (Sk t) 8 := g1'.1.1 ▸ r1
    have hAe : hA t = hA h := g1'.1.hA
    -- the others keep what they have
    have hdis : ∀ j, j < nE A → j ≠ i → hI t (ad j) 10 = hI h (ad j) 10 ∧ hI t (ad j + 6) = hI h (ad j + 6) ∧ hI t (ad j + 7) = hI h (ad j + 7) ∧ hI t (ad j) 0 = hI h (ad j) 0 := fun j hj hne => by
      have Ej := (r3.2 j hj).2.1
      have kj := Ej.2.1.ks
      have ki := hE.2.1.ks
      have hne2 : ad j ≠ ad i := fun e => by
        have e1 := (r3.2 j hj).2.2.1
        have e2 := (r3.2 i hlt).2.2.1
        rw [e, e2] at e1
        have h6 := ok.2.1
        exact hne ((nI_eq (by omega) (by omega)).mp e1).symm
      have h73j := Ej.1
      have n1 : ad j ≠ ad i + 6 := kind_ar kj.1 ki.2.2.2.2.2.2.1 (by decide)
      have n2 : ad j ≠ ad i + 7 := kind_ar kj.1 ki.2.2.2.2.2.2.2 (by decide)
      have n3 : ad j + 6 ≠ ad i := (kind_ar ki.1 kj.2.2.2.2.2.2.1 (by decide)).symm
      have n4 : ad j + 7 ≠ ad i := (kind_ar ki.1 kj.2.2.2.2.2.2.2 (by decide)).symm
      have n5 : ad j + 6 ≠ ad i + 7 := fun e => kind_ar kj.1 ki.2.1 (by decide) (by omega)
      have n6 : ad j + 7 ≠ ad i + 6 := fun e => kind_ar ki.1 kj.2.1 (by decide) (by omega)
      refine ⟨by rw [g1'.1.2.2 (ad j) (by omega)], g1'.1.2.2 (ad j + 6) (by omega), g1'.1.2.2 (ad j + 7) (by omega), by rw [g1'.1.2.2 (ad j) (by omega)]⟩
    have RE' : RE t ad A := ⟨by rw [hI' 8 (by decide)]; exact r3.1, fun j hj => by
      obtain ⟨k1, k2, k3, k4⟩ := r3.2 j hj
      refine ⟨by rw [hAe]; exact k1, k2.cg ha, ?_, ?_⟩
      · by_cases e : j = i
        · subst e; rw [g1'.2 0 (by decide)]; exact k3
        · rw [(hdis j hj e).2.2.2]; exact k3
      · by_cases e : j = i
        · subst e; exact Or.inr ⟨g2, g3⟩
        · exact k4.cg (hdis j hj e).1 (hdis j hj e).2.1 (hdis j hj e).2.2.1⟩
    have Rt : RepC t A := ⟨ad, F1, r2.cg rfl (by rw [hI' 8 (by decide)]) (hI' 9 (by decide)), RE', r4.cg rfl rfl rfl (by rw [hAe]) (hI' 12 (by decide)), r5.cg g1'.1.1 (by rw [hI' 14 (by decide)]) (hI' 15 (by decide)), r6.cg rfl (by rw [hI' 8 (by decide)]) (hI' 16 (by decide)) (hI' 18 (by decide)) (hI' 20 (by decide)), r7.cg rfl rfl (by rw [hAe]) (by rw [hAe]) (fun j _ => by rw [hI' 21 (by decide)])⟩
    have f : frC h t := g1'.1.frC (fun b q => by omega)
    have h4' : hA t 8 4 = some (ad i) := by rw [hAe]; exact h4
    have L3 : LX3 (Sk t) (ad i) := g1'.1.1 ▸ hE.2.1
    have gk := g3 (n + 1) (by omega)
    refine bkX10_judge_39 (fun z => ?_) (fun z => ?_)
    · rw [if_neg z] at ef
      refine bkX10_judge_55 F1 h4' L3 (vp_in_nI (by omega) (by omega)) (bkX10_judge_64 ⟨?_, Rt, f⟩)
      rw [nI_clamp (by omega), gk.2, ef]
    · rw [if_pos z] at ef
      refine bkX10_judge_43 F1 h4' L3 (vp_in_nI (by omega) (by omega)) (bkX10_judge_64 ⟨?_, Rt, f⟩)
      rw [nI_clamp (by omega), gk.1, ef]
end S4
