/-! ===== the model's judge; changed ===== -/
section S5
variable {X : GX} {h : SH} {A : Abs}
theorem M_judge {x y : Int32} (R : RepM h A) (ok : okA A) : Cd X mX11_judge [.ref 35, .int x, .int y] h 0 0 (oI (MP h (fJudge A x y)) nX) := by
  have R1 := R.z (v := 0) ok
  generalize hh1 : sI h 35 0 0 = h1 at R1
  have z1 : frM h h1 := hh1 ▸ z_fr
  have no : (fJudge A x y).1 = -1 → Gd X mX11_judge 31 [none, none, none, none, none, none] [] h1 0 0 (oI (MP h (fJudge A x y)) nX) := fun e => bkX11_judge_31 ⟨e.symm, R1, z1⟩
  refine bkX11_judge_0 R.1 (fun q => ?_) (fun q => ?_)
  · rw [hh1] at q ⊢
    cases hh : aH A with
    | none => exact no (by unfold fJudge; rw [hh])
    | some i => obtain ⟨_, _, h34, _, _⟩ := R1.hand ok hh
                rw [h34] at q; exact absurd q (nI_pos (by omega))
  · rw [hh1] at q ⊢
    cases hh : aH A with
    | none => have h34 := R1.2.2.2.1.1
              rw [hh] at h34
              rw [h34] at q; exact absurd (by decide) q
    | some i =>
      obtain ⟨hlt, h6, h34, hE, oke⟩ := R1.hand ok hh
      have hw : worlds (ed A i) ≤ 2000 := oke.2.2.2.2.1
      have h8 : (eF (ed A i)).length ≤ 8 := oke.2.1
      have ef : (fJudge A x y).1 = if (1 ≤ x ∧ x ≤ 4) ∧ 0 ≤ y ∧ y ≤ 1 then (if y = 0 then nI (cn (jp (ed A i) x.toNatClampNeg) (worlds (ed A i))) else fst1 (jp (ed A i) x.toNatClampNeg) (worlds (ed A i))) else -1 := by unfold fJudge; rw [hh]
      have ng : ¬ ((1 ≤ x ∧ x ≤ 4) ∧ 0 ≤ y ∧ y ≤ 1) → (fJudge A x y).1 = -1 := fun q => by rw [ef, if_neg q]
      refine bkX11_judge_12 (fun z => no (ng (fun w => absurd z (Int32.not_lt.mpr w.1.1)))) (fun q1 => ?_)
      refine bkX11_judge_17 (fun z => no (ng (fun w => absurd z (Int32.not_lt.mpr w.1.2)))) (fun q2 => ?_)
      refine bkX11_judge_22 (fun z => no (ng (fun w => i_neg.mp z w.2.1))) (fun q3 => ?_)
      refine bkX11_judge_26 (fun q4 => ?_) (fun z => no (ng (fun w => z w.2.2)))
      have hq : (1 ≤ x ∧ x ≤ 4) ∧ 0 ≤ y ∧ y ≤ 1 := ⟨⟨Int32.not_lt.mp q1, Int32.not_lt.mp q2⟩, Int32.not_lt.mp q3, q4⟩
      rw [if_pos hq] at ef
      obtain ⟨n, hn, rfl⟩ := one_some q1
      have b1 := hq.1.2
      rw [n4, nI_leI (by omega) (by omega)] at b1
      rw [nI_clamp (by omega)] at ef
      refine bkX11_judge_33 R1.1 (c_keepsFacts (v := false) R1.1) (fun t hq => ?_)
      rw [if_neg (by decide)] at hq
      obtain ⟨k1, k2⟩ := hq
      refine bkX11_judge_38 ?_
      -- what a step keeps
      have jS : ∀ b, (b = 35 ∨ b = 62 ∨ b = 65 ∨ b = 66) → (b = 35 ∨ b = 62 ∨ 64 ≤ b) := fun b q => by omega
      have k71 : ∀ k, k < 8 → hI t 71 k = hI h1 62 k := k2
      have fin : ∀ (u : SH) (v1 v2 : Int32), chI (fun b => b = 35 ∨ b = 62 ∨ b = 65 ∨ b = 66) t u → (∀ j, (j < 44 ∨ 46 < j) → hI u 35 j = hI t 35 j) → v1 = nI (cn (jp (ed A i) (n + 1)) (worlds (ed A i))) → v2 = fst1 (jp (ed A i) (n + 1)) (worlds (ed A i)) → Gd X mX11_judge 118 [some (.ref 35), none, some (.int y), some (.int v1), some (.int v2), none] [] u 0 0 (oI (MP h (fJudge A (nI (n + 1)) y)) nX) := fun u v1 v2 c1 c2 e1 e2 => by
        have Fu : LX11 (Sk u) 35 := c1.1 ▸ k1.1 ▸ R1.1
        refine bkX11_judge_118 Fu (c_keepsFacts (v := true) Fu) (fun w hq => ?_)
        rw [if_pos rfl] at hq
        obtain ⟨l1, l2⟩ := hq
        have call : chI (fun b => b = 35 ∨ b = 62 ∨ b = 65 ∨ b = 66 ∨ b = 71) h1 w := ((k1.up (fun b q => by omega)).tr (c1.up (fun b q => by omega))).tr (l1.up (fun b q => by omega))
        have w35 : ∀ j, (j < 44 ∨ 46 < j) → hI w 35 j = hI h1 35 j := fun j hj => by rw [l1.2.2 35 (by decide), c2 j hj, k1.2.2 35 (by decide)]
        have Rw : RepM w A := R1.gen (A' := A) ok call (fun b q => by omega) rfl rfl rfl (w35 2 (by omega)) (w35 10 (by omega)) (w35 36 (by omega)) (by rw [w35 34 (by omega)]; exact R1.2.2.2.1.1) (fun j hj k hk => by
          have hj' : j = i := Option.some.inj (hj.symm.trans hh)
          subst hj'
          have e1 : hI w 62 k = hI u 71 k := l2 k (by omega)
          rw [e1, c1.2.2 71 (by decide), k71 k (by omega)]
          exact R1.2.2.2.1.2 j hj k hk) (R1.let (fun j hj => w35 j (by omega)) (call.2.2 69 (by decide)) (call.2.2 70 (by decide)))
        have fw : frM h w := z1.tr (call.frM (fun b q => by omega))
        refine bkX11_judge_123 (fun z => ?_) (fun z => ?_)
        · rw [if_neg z] at ef
          exact bkX11_judge_131 (bkX11_judge_133 ⟨by rw [e2, ef], Rw, fw⟩)
        · rw [if_pos z] at ef
          exact bkX11_judge_127 (bkX11_judge_133 ⟨by rw [e1, ef], Rw, fw⟩)
      have kp : ∀ u, chI (fun b => b = 35 ∨ b = 62 ∨ b = 65 ∨ b = 66) t u → EdM u 35 i (ed A i) ∧ LX11 (Sk u) 35 := fun u c1 => ⟨(hE.cg (k1.agM (fun b q => by omega) i) oke).cg (c1.agM (fun b q => by omega) i) oke, c1.1 ▸ k1.1 ▸ R1.1⟩
      have t34 : hI t 35 34 = nI i := by rw [k1.2.2 35 (by decide)]; exact h34
      refine for_up (G := fun w u => Gd X mX11_judge 46 [some (.ref 35), some (.int (nI (n + 1))), some (.int y), some (.int (nI (cn (jp (ed A i) (n + 1)) w))), some (.int (fst1 (jp (ed A i) (n + 1)) w)), some (.int (nI w))] [] u 0 0 (oI (MP h (fJudge A (nI (n + 1)) y)) nX)) (I := fun w u => chI (fun b => b = 35 ∨ b = 62 ∨ b = 65 ∨ b = 66) t u ∧ ∀ j, (j < 44 ∨ 46 < j) → hI u 35 j = hI t 35 j) (worlds (ed A i)) ?_ ?_ 0 t (Nat.zero_le _) ⟨chI.rf, fun _ _ => rfl⟩
      · rintro u ⟨c1, c2⟩
        have K := kp u c1
        have u34 : hI u 35 34 = nI i := (c2 34 (by omega)).trans t34
        refine bkX11_judge_46 K.2 (by rw [u34]; exact c_worlds K.1 oke K.2 h6) (fun r v hq => ?_)
        obtain ⟨rfl, rfl⟩ := hq
        refine bkX11_judge_57 (fun _ => fin _ _ _ c1 c2 rfl rfl) (fun z => absurd ?_ z)
        rw [lg_cmp_ge, nI_l (by omega)]; exact Int64.le_refl _
      · rintro w u hwl ⟨c1, c2⟩ ih
        have K := kp u c1
        have u34 : hI u 35 34 = nI i := (c2 34 (by omega)).trans t34
        have hcl := cn_le (jp (ed A i) (n + 1)) w
        refine bkX11_judge_46 K.2 (by rw [u34]; exact c_worlds K.1 oke K.2 h6) (fun r v hq => ?_)
        obtain ⟨rfl, rfl⟩ := hq
        refine bkX11_judge_57 (fun z => ?_) (fun _ => ?_)
        · rw [lg_cmp_ge, nI_l (by omega), pk_lLE (by omega) (by omega)] at z; omega
        refine bkX11_judge_61 K.2 (by rw [u34]; exact c_comes K.1 oke K.2 h6 (by omega)) (fun u2 hq2 => ?_)
        have c3 : chI (fun b => b = 35 ∨ b = 62 ∨ b = 65 ∨ b = 66) t u2 := c1.tr (hq2.1.up (fun b q => by omega))
        have d3 : ∀ j, (j < 44 ∨ 46 < j) → hI u2 35 j = hI t 35 j := fun j hj => by rw [hq2.1.2.2 35 (by decide)]; exact c2 j hj
        have K3 := kp u2 c3
        have u34 : hI u2 35 34 = nI i := (d3 34 (by omega)).trans t34
        refine bkX11_judge_71 K3.2 (by rw [u34]; exact c_gathers (cs := csW (ed A i) w) K3.2 K3.1 oke h6 (fun k hk => hq2.2 k hk)) (fun u3 hq3 => ?_)
        have c4 : chI (fun b => b = 35 ∨ b = 62 ∨ b = 65 ∨ b = 66) t u3 := c3.tr (hq3.1.up (fun b q => by omega))
        have d4 : ∀ j, (j < 44 ∨ 46 < j) → hI u3 35 j = hI t 35 j := fun j hj => by rw [hq3.1.2.2 35 (by omega)]; exact d3 j hj
        have K4 := kp u3 c4
        have u34 : hI u3 35 34 = nI i := (d4 34 (by omega)).trans t34
        refine bkX11_judge_79 K4.2 (by rw [u34]; exact c_quarrels K4.2 K4.1 oke h6 hq3.2) (fun u4 hq4 => ?_)
        have c5 : chI (fun b => b = 35 ∨ b = 62 ∨ b = 65 ∨ b = 66) t u4 := c4.tr (hq4.1.1.up (fun b q => by omega))
        have d5 : ∀ j, (j < 44 ∨ 46 < j) → hI u4 35 j = hI t 35 j := fun j hj => by rw [hq4.1.2 j hj]; exact d4 j hj
        have K5 := kp u4 c5
        have e44 : hI u4 35 44 = nI (jq (ed A i) w) := hq4.2.1
        have hj4 : jq (ed A i) w ≤ 4 := quar_4 _ _
        have hpw : jp (ed A i) (n + 1) w = true ↔ jq (ed A i) w = n + 1 := by unfold jp; rw [decide_eq_true_iff]
        have nx := ih u4 ⟨c5, d5⟩
        rw [cn_s, fst_s] at nx
        refine bkX11_judge_87 K5.2 (fun z => ?_) (fun z => ?_)
        · rw [e44, nI_eq (by omega) (by omega)] at z
          refine bkX11_judge_112 ?_
          rw [nI_1]
          rw [if_neg (fun y => z (hpw.mp y)), if_neg (fun y => z (hpw.mp y)), Nat.add_zero] at nx
          have e : (if cn (jp (ed A i) (n + 1)) w = 0 then -1 else fst1 (jp (ed A i) (n + 1)) w) = fst1 (jp (ed A i) (n + 1)) w := by
            by_cases y : cn (jp (ed A i) (n + 1)) w = 0
            · rw [if_pos y, fst_0 y]
            · rw [if_neg y]
          rw [e] at nx
          exact nx
        · rw [e44, nI_eq (by omega) (by omega)] at z
          rw [if_pos (hpw.mpr z), if_pos (hpw.mpr z)] at nx
          refine bkX11_judge_95 (fun y => ?_) (fun y => ?_)
          · have hc0 : ¬ cn (jp (ed A i) (n + 1)) w = 0 := fun e => by rw [fst_0 e] at y; exact absurd y (by decide)
            rw [if_neg hc0] at nx
            refine bkX11_judge_108 (bkX11_judge_110 (bkX11_judge_112 ?_))
            rw [nI_1, nI_1]; exact nx
          · have hc0 : cn (jp (ed A i) (n + 1)) w = 0 := by
              rcases Nat.eq_zero_or_pos (cn (jp (ed A i) (n + 1)) w) with e | e
              · exact e
              · exact absurd (fst_n (by omega) (by omega)) y
            rw [if_pos hc0] at nx
            refine bkX11_judge_103 (bkX11_judge_110 (bkX11_judge_112 ?_))
            rw [nI_1, nI_1]; exact nx
theorem csW_eF {E E2 : Edn} (h : eF E = eF E2) : csW E = csW E2 := by
  funext w k; unfold csW sfx fa; rw [h]
/-- what comparing writes -/
abbrev cpS : Nat → Prop := fun b => 21 ≤ b ∧ b ≤ 34
theorem c_compareWorlds {e e2 : Nat} {E E2 : Edn} {FL : List Nat} {day : Nat} (hE : EdC h e E) (ok : okE E) (hE2 : EdC h e2 E2) (ok2 : okE E2) (hs : eF E = eF E2) (F : LX8 (Sk h) 21) (hK : CalR h 14 FL) (hd : day ≤ 9999) (g3 : ∀ z, hA h 21 3 = some z → 8 ≤ z) (g4 : hA h 21 3 = some e → ∀ z, hA h 21 4 = some z → 8 ≤ z)
    (J : hA h 21 3 = some e → hA h 21 4 = some e2 → hI h 21 5 = nI day → hI h 21 6 = nI (cn (dp FL E E2 day) (worlds E)) ∧ hI h 21 7 = fst1 (dp FL E E2 day) (worlds E)) :
    Cd X mX8_compareWorlds [.ref 21, .ref e, .ref e2, .int (nI day), .ref 14] h 0 0 (oV (fun t => (kup (Sk h) (Sk t) ∧ hz t = hz h ∧ (∀ b, ¬ cpS b → hI t b = hI h b) ∧ hJ t = hJ h ∧ ∀ b j, ¬ (b = 21 ∧ (j = 3 ∨ j = 4)) → hA t b j = hA h b j) ∧ hA t 21 3 = some e ∧ hA t 21 4 = some e2 ∧ hI t 21 5 = nI day ∧ hI t 21 6 = nI (cn (dp FL E E2 day) (worlds E)) ∧ hI t 21 7 = fst1 (dp FL E E2 day) (worlds E)) nX) := by
  generalize hP : oV (fun t => (kup (Sk h) (Sk t) ∧ hz t = hz h ∧ (∀ b, ¬ cpS b → hI t b = hI h b) ∧ hJ t = hJ h ∧ ∀ b j, ¬ (b = 21 ∧ (j = 3 ∨ j = 4)) → hA t b j = hA h b j) ∧ hA t 21 3 = some e ∧ hA t 21 4 = some e2 ∧ hI t 21 5 = nI day ∧ hI t 21 6 = nI (cn (dp FL E E2 day) (worlds E)) ∧ hI t 21 7 = fst1 (dp FL E E2 day) (worlds E)) nX = P
  have h73 := hE.1
  have h73' := hE2.1
  have hw : worlds E ≤ 2000 := ok.2.2.2.2.1
  have main : Gd X mX8_compareWorlds 25 [some (.ref 21), some (.ref e), some (.ref e2), some (.int (nI day)), some (.ref 14), none] [] h 0 0 P := by
    have k1 : kup (Sk h) (Sk (sA h 21 3 (some e))) := kup_sA (Or.inr (Or.inr ⟨rfl, Or.inl rfl⟩))
    have k2 : kup (Sk (sA h 21 3 (some e))) (Sk (sA (sA h 21 3 (some e)) 21 4 (some e2))) := kup_sA (Or.inr (Or.inr ⟨rfl, Or.inr rfl⟩))
    refine bkX8_compareWorlds_25 F (bkX8_compareWorlds_30 (F.up k1) (bkX8_compareWorlds_35 ((F.up k1).up k2) ?_))
    have a3 : hA (sA (sA h 21 3 (some e)) 21 4 (some e2)) 21 3 = some e := by rw [sA_ne (by decide), sA_at]
    have a4 : hA (sA (sA h 21 3 (some e)) 21 4 (some e2)) 21 4 = some e2 := sA_at
    have ao : ∀ b j, ¬ (b = 21 ∧ (j = 3 ∨ j = 4)) → hA (sA (sA h 21 3 (some e)) 21 4 (some e2)) b j = hA h b j := fun b j z => by rw [sA_ne (fun y => z ⟨y.1, Or.inr y.2⟩), sA_ne (fun y => z ⟨y.1, Or.inl y.2⟩)]
    have u1 : agU h (sA (sA h 21 3 (some e)) 21 4 (some e2)) := ⟨k1.tr k2, fun _ _ _ => ⟨rfl, rfl⟩⟩
    have F1 := (F.up k1).up k2
    have iI : hI (sA (sA h 21 3 (some e)) 21 4 (some e2)) = hI h := rfl
    have iJ : hJ (sA (sA h 21 3 (some e)) 21 4 (some e2)) = hJ h := rfl
    have iz : hz (sA (sA h 21 3 (some e)) 21 4 (some e2)) = hz h := rfl
    generalize sA (sA h 21 3 (some e)) 21 4 (some e2) = s at a3 a4 ao u1 F1 iI iJ iz
    have hEs := hE.cu u1
    have hE2s := hE2.cu u1
    have hKs : CalR s 14 FL := ⟨hK.1.up u1.1 (by unfold nm; decide), by rw [iI]; exact hK.2.1, hK.2.2.1, by rw [iI]; exact hK.2.2.2.1, hK.2.2.2.2⟩
    have c0 : chI cpS s (sI (sI (sI s 21 5 (nI day)) 21 6 0) 21 7 (-1)) := ((chI.rf.s (by unfold cpS; omega)).s (by unfold cpS; omega)).s (by unfold cpS; omega)
    have kp : ∀ u, chI cpS s u → EdC u e E ∧ EdC u e2 E2 ∧ LX8 (Sk u) 21 ∧ CalR u 14 FL := fun u c => ⟨hEs.cg (c.ag (fun b q => by unfold cpS at q; omega)), hE2s.cg (c.ag (fun b q => by unfold cpS at q; omega)), c.1 ▸ F1, hKs.cg c.1 (by rw [c.2.2 14 (by unfold cpS; omega)]) (c.2.2 15 (by unfold cpS; omega))⟩
    refine for_up (G := fun w u => Gd X mX8_compareWorlds 53 [some (.ref 21), some (.ref e), some (.ref e2), some (.int (nI day)), some (.ref 14), some (.int (nI w))] [] u 0 0 P)
      (I := fun w u => chI cpS s u ∧ hI u 21 5 = nI day ∧ hI u 21 6 = nI (cn (dp FL E E2 day) w) ∧ hI u 21 7 = fst1 (dp FL E E2 day) w) (worlds E) ?_ ?_ 0 _ (Nat.zero_le _) ⟨c0, by rw [sI_nj (by decide), sI_nj (by decide), sI_at], by rw [sI_nj (by decide), sI_at]; rfl, by rw [sI_at]; rfl⟩
    · rintro u ⟨c1, c2⟩
      have K := kp u c1
      refine bkX8_compareWorlds_53 K.1.2.1 (fun _ => bkX8_compareWorlds_152 ?_) (fun q => absurd (by rw [K.1.2.2.2.2.1]; exact (Int32.le_refl _)) q)
      rw [← hP]
      refine ⟨⟨by rw [c1.1]; exact u1.1, by rw [c1.hz]; exact iz, fun b hb => by rw [c1.2.2 b hb, iI], by rw [c1.2.1]; exact iJ, fun b j z => by rw [c1.hA]; exact ao b j z⟩, by rw [c1.hA]; exact a3, by rw [c1.hA]; exact a4, c2⟩
    · rintro w u hwl ⟨c1, c2, c3, c4⟩ ih
      have K := kp u c1
      refine bkX8_compareWorlds_53 K.1.2.1 (fun q => ?_) (fun _ => ?_)
      · rw [K.1.2.2.2.2.1] at q; exact absurd q (nI_ge hwl (by omega))
      refine bkX8_compareWorlds_62 K.2.2.1 (c_setWorld (c := 21 + 1) K.1 ok (LX8.l_tried K.2.2.1) (by decide) (by omega)) (fun u2 hq2 => ?_)
      have d1 : chI cpS s u2 := c1.tr (hq2.1.up (fun b q => by unfold cpS; omega))
      have K2 := kp u2 d1
      have x2 : hI u2 21 = hI u 21 := hq2.1.2.2 21 (by decide)
      refine bkX8_compareWorlds_72 K2.2.2.1 (c_compose (a := 21 + 4) (c := 21 + 1) (k := 14) (cs := csW E w) K2.1 ok (LX8.l_letterOfOne K2.2.2.1) (by decide) (LX8.l_tried K2.2.2.1) (by decide) (Or.inl (by decide)) (fun k hk => hq2.2 k hk) (fun k hk => csW_w ok hk) K2.2.2.2 (by decide) (Or.inl (by decide)) (Or.inl (by decide)) hd) (fun u3 hq3 => ?_)
      have hq31 : chI (cmS 25 22) u2 u3 := hq3.1
      have d2 : chI cpS s u3 := d1.tr (hq31.up (fun b q => by unfold cmS at q; unfold cpS; omega))
      have K3 := kp u3 d2
      have x3 : hI u3 21 = hI u2 21 := hq31.2.2 21 (by unfold cmS; omega)
      have t3 : hI u3 23 = hI u2 23 := hq31.2.2 23 (by unfold cmS; omega)
      refine bkX8_compareWorlds_87 K3.2.2.1 (c_compose (a := 21 + 9) (c := 21 + 1) (k := 14) (cs := csW E w) K3.2.1 ok2 (LX8.l_letterOfOther K3.2.2.1) (by decide) (LX8.l_tried K3.2.2.1) (by decide) (Or.inl (by decide)) (fun k hk => ?_) (fun k hk => csW_w ok (by rw [hs]; exact hk)) K3.2.2.2 (by decide) (Or.inl (by decide)) (Or.inl (by decide)) hd) (fun u4 hq4 => ?_)
      · show hI u3 23 k = _
        rw [t3]; exact hq2.2 k (by rw [hs]; exact hk)
      have hq41 : chI (cmS 30 22) u3 u4 := hq4.1
      have d3 : chI cpS s u4 := d2.tr (hq41.up (fun b q => by unfold cmS at q; unfold cpS; omega))
      have K4 := kp u4 d3
      have x4 : hI u4 21 = hI u3 21 := hq41.2.2 21 (by unfold cmS; omega)
      have L1 : LC u4 25 (lett (dueN FL day) E (csW E w)) := by
        obtain ⟨⟨b1, b2, b3⟩, ⟨b4, b5, b6⟩, b7⟩ := hq3.2
        have y1 : hI u4 25 = hI u3 25 := hq41.2.2 25 (by unfold cmS; omega)
        have y2 : hI u4 27 = hI u3 27 := hq41.2.2 27 (by unfold cmS; omega)
        have y3 : hI u4 29 = hI u3 29 := hq41.2.2 29 (by unfold cmS; omega)
        refine ⟨⟨by rw [y1]; exact b1, by rw [y1]; exact b2, by rw [y1]; exact b3⟩, ⟨by rw [y1]; exact b4, b5, fun i hi => ?_⟩, b7.cg (by rw [y1]) y3⟩
        show hI u4 27 i = _
        rw [y2]; exact b6 i hi
      refine bkX8_compareWorlds_102 K4.2.2.1 (c_readsLike (a := 21 + 4) (b := 21 + 9) (LX8.l_letterOfOne K4.2.2.1) (LX8.l_letterOfOther K4.2.2.1) L1 hq4.2 (lett_bd ok).1 (lett_bd ok2).1) (fun r v hq => ?_)
      obtain ⟨rfl, rfl⟩ := hq
      have w5 : hI v 21 5 = nI day := by rw [x4, x3, x2]; exact c2
      have w6 : hI v 21 6 = nI (cn (dp FL E E2 day) w) := by rw [x4, x3, x2]; exact c3
      have w7 : hI v 21 7 = fst1 (dp FL E E2 day) w := by rw [x4, x3, x2]; exact c4
      have hcl := cn_le (dp FL E E2 day) w
      have hdp : dp FL E E2 day w = !decide ((lett (dueN FL day) E (csW E w)).1 = (lett (dueN FL day) E2 (csW E w)).1 ∧ (lett (dueN FL day) E (csW E w)).2.2 = (lett (dueN FL day) E2 (csW E w)).2.2) := rfl
      refine bkX8_compareWorlds_113 (fun q => ?_) (fun q => ?_)
      · rw [bI_0] at q
        have hf : dp FL E E2 day w = false := by rw [hdp]; simpa using q
        refine bkX8_compareWorlds_146 ?_
        rw [nI_1]
        refine ih v ⟨d3, w5, ?_, ?_⟩
        · rw [cn_s, hf, w6]; rfl
        · rw [fst_s, hf, w7]
          by_cases y : cn (dp FL E E2 day) w = 0
          · rw [if_pos y, fst_0 y]; rfl
          · rw [if_neg y]
      · rw [bI_0] at q
        have hf : dp FL E E2 day w = true := by rw [hdp, q]; rfl
        have fin : ∀ z : Int32, z = fst1 (dp FL E E2 day) (w + 1) → Gd X mX8_compareWorlds 133 [some (.ref 21), some (.ref e), some (.ref e2), some (.int (nI day)), some (.ref 14), some (.int (nI w))] [.int z, .ref 21] v 0 0 P := fun z hz => by
          refine bkX8_compareWorlds_133 K4.2.2.1 K4.2.2.1 (bkX8_compareWorlds_146 ?_)
          rw [nI_1, sI_nj (by decide), w6, nI_1]
          refine ih _ ⟨(d3.s (by unfold cpS; omega)).s (by unfold cpS; omega), by rw [sI_nj (by decide), sI_nj (by decide)]; exact w5, ?_, ?_⟩
          · rw [sI_at, cn_s, hf]; rfl
          · rw [sI_nj (by decide), sI_at, hz]
        refine bkX8_compareWorlds_116 K4.2.2.1 (fun y => ?_) (fun y => ?_)
        · rw [w6, n0, nI_eq (by omega) (by omega)] at y
          refine bkX8_compareWorlds_129 K4.2.2.1 (fin _ ?_)
          rw [w7, fst_s, if_neg y]
        · rw [w6, n0, nI_eq (by omega) (by omega)] at y
          refine bkX8_compareWorlds_124 (fin _ ?_)
          rw [fst_s, if_pos y, hf]; rfl
  refine bkX8_compareWorlds_0 F g3 (fun z hz => by have := Option.some.inj hz; omega) (fun _ => main) (fun q1 => ?_)
  refine bkX8_compareWorlds_8 F (g4 q1) (fun z hz => by have := Option.some.inj hz; omega) (fun _ => main) (fun q2 => ?_)
  refine bkX8_compareWorlds_16 F (fun _ => main) (fun q3 => bkX8_compareWorlds_24 ?_)
  rw [← hP]
  exact ⟨⟨kup.rf, rfl, fun _ _ => rfl, rfl, fun _ _ _ => rfl⟩, q1, q2, q3, J q1 q2 q3⟩
end S5
