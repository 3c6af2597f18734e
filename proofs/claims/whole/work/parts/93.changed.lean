/-! ===== changed ===== -/
section CH
variable {X : GX} {h : SH} {A : Abs}
def fChanged (A : Abs) (x y d w : Int32) : Int32 × Abs := (if (0 ≤ x ∧ x < nI (nE A)) ∧ (0 ≤ y ∧ y < nI (nE A)) ∧ (0 ≤ d ∧ d ≤ 9999) ∧ 0 ≤ w ∧ w ≤ 1 then
  (if eF (ed A x.toNatClampNeg) = eF (ed A y.toNatClampNeg) then (if w = 0 then nI (cn (dp (aF A) (ed A x.toNatClampNeg) (ed A y.toNatClampNeg) d.toNatClampNeg) (worlds (ed A x.toNatClampNeg))) else fst1 (dp (aF A) (ed A x.toNatClampNeg) (ed A y.toNatClampNeg) d.toNatClampNeg) (worlds (ed A x.toNatClampNeg))) else -2) else -1, A)
theorem C_changed {x y d w : Int32} (R : RepC h A) (ok : okA A) : Cd X mX10_changed [.ref 8, .int x, .int y, .int d, .int w] h 0 0 (oI (CP h (fChanged A x y d w)) nX) := by
  have R0 := R
  obtain ⟨ad, r1, r2, r3, r4, r5, r6, r7⟩ := R
  have h6 := ok.2.1
  have no : ¬ ((0 ≤ x ∧ x < nI (nE A)) ∧ (0 ≤ y ∧ y < nI (nE A)) ∧ (0 ≤ d ∧ d ≤ 9999) ∧ 0 ≤ w ∧ w ≤ 1) → Gd X mX10_changed 42 [none, none, none, none, none, none, none] [] h 0 0 (oI (CP h (fChanged A x y d w)) nX) := fun e => bkX10_changed_42 ⟨by show _ = (fChanged A x y d w).1; unfold fChanged; rw [if_neg e], R0, frC.rf⟩
  refine bkX10_changed_0 r1 (C_editionAt r1 r3 ok) (fun r t hq => ?_)
  obtain ⟨ht, rfl⟩ := hq
  rw [ht]
  refine bkX10_changed_5 r1 (C_editionAt r1 r3 ok) (fun r t hq => ?_)
  obtain ⟨ht, rfl⟩ := hq
  rw [ht]
  by_cases qx : 0 ≤ x ∧ x < nI (nE A)
  rotate_left
  · rw [if_neg qx]; exact bkX10_changed_12 (fun _ => no (fun z => qx z.1)) (fun z hz => by cases hz)
  obtain ⟨i, hi, rfl⟩ := nI_some qx.1
  have hil := (nI_ltI hi (by omega)).mp qx.2
  rw [if_pos qx, nI_clamp hi]
  refine bkX10_changed_12 (fun z => by cases z) (fun z hz => ?_)
  by_cases qy : 0 ≤ y ∧ y < nI (nE A)
  rotate_left
  · rw [if_neg qy]; exact bkX10_changed_19 (fun _ => no (fun z => qy z.2.1)) (fun z hz => by cases hz)
  obtain ⟨j, hj, rfl⟩ := nI_some qy.1
  have hjl := (nI_ltI hj (by omega)).mp qy.2
  rw [if_pos qy, nI_clamp hj]
  refine bkX10_changed_19 (fun z => by cases z) (fun z hz => ?_)
  refine bkX10_changed_24 C_isDay (fun r t hq => ?_)
  obtain ⟨ht, rfl⟩ := hq
  rw [ht]
  refine bkX10_changed_28 (fun z => ?_) (fun z => ?_) <;> rw [bI_0, decide_eq_false_iff_not] at z
  · exact no (fun y => z y.2.2.1)
  have qd := Decidable.not_not.mp z
  obtain ⟨n, hn, rfl⟩ := rep_x qd
  refine bkX10_changed_31 (fun z => no (fun y => i_neg.mp z y.2.2.2.1)) (fun q3 => ?_)
  refine bkX10_changed_36 (fun q4 => ?_) (fun z => no (fun y => z y.2.2.2.2))
  have hc : (0 ≤ nI i ∧ nI i < nI (nE A)) ∧ (0 ≤ nI j ∧ nI j < nI (nE A)) ∧ (0 ≤ nI n ∧ nI n ≤ 9999) ∧ 0 ≤ w ∧ w ≤ 1 := ⟨qx, qy, qd, Int32.not_lt.mp q3, q4⟩
  have ef : fChanged A (nI i) (nI j) (nI n) w = (if eF (ed A i) = eF (ed A j) then (if w = 0 then nI (cn (dp (aF A) (ed A i) (ed A j) n) (worlds (ed A i))) else fst1 (dp (aF A) (ed A i) (ed A j) n) (worlds (ed A i))) else -2, A) := by
    unfold fChanged; rw [if_pos hc, nI_clamp hi, nI_clamp hj, nI_clamp (show n < 2 ^ 31 by omega)]
  obtain ⟨i1, i2, i3, i4⟩ := r3.2 i hil
  obtain ⟨j1, j2, j3, j4⟩ := r3.2 j hjl
  have oki := ok.2.2.1 i hil
  have okj := ok.2.2.1 j hjl
  refine bkX10_changed_44 (a5 := ad i) (a6 := ad j) i2.2.1 (c_hasFactsOf i2 oki j2 okj) (fun r t hq => ?_)
  obtain ⟨ht, rfl⟩ := hq
  rw [ht]
  refine bkX10_changed_51 (r5 := some (ad i)) (r6 := some (ad j)) (fun z => ?_) (fun z => ?_)
  rotate_left
  · rw [bI_0, decide_eq_false_iff_not] at z
    exact bkX10_changed_54 ⟨by rw [ef, if_neg z], by rw [ef]; exact R0, frC.rf⟩
  rw [bI_0, decide_eq_false_iff_not, Decidable.not_not] at z
  rw [if_pos z] at ef
  have inj : ∀ k l, k < nE A → l < nE A → ad k = ad l → k = l := fun k l hk hl e => by
    have e1 := (r3.2 k hk).2.2.1
    have e2 := (r3.2 l hl).2.2.1
    rw [e, e2] at e1
    exact ((nI_eq (by omega) (by omega)).mp e1).symm
  have g3 : ∀ z, hA h 21 3 = some z → 8 ≤ z := fun z hz => by
    rcases r7 with q | ⟨i', j', d', q1, q2, -, -, q3, -⟩
    · rw [q] at hz; cases hz
    · rw [q3] at hz; cases hz; have := (r3.2 i' q1).2.1.1; omega
  have g4 : hA h 21 3 = some (ad i) → ∀ z, hA h 21 4 = some z → 8 ≤ z := fun h3 z hz => by
    rcases r7 with q | ⟨i', j', d', q1, q2, -, -, q3, q4, -⟩
    · rw [q] at h3; cases h3
    · rw [q4] at hz; cases hz; have := (r3.2 j' q2).2.1.1; omega
  refine bkX10_changed_57 (a5 := ad i) (a6 := ad j) r1 (c_compareWorlds (FL := aF A) (day := n) i2 oki j2 okj z (LX10.l_survey r1) r5 hn g3 g4 (fun p1 p2 p3 => ?_)) (fun t hq => ?_)
  · rcases r7 with q | ⟨i', j', d', q1, q2, q3, q4, q5, q6, q7, q8, q9⟩
    · rw [q] at p1; cases p1
    · rw [q5] at p1; rw [q6] at p2; rw [q7] at p3
      have ei := inj i' i q1 hil (Option.some.inj p1)
      have ej := inj j' j q2 hjl (Option.some.inj p2)
      have ed' : d' = n := (nI_eq (by omega) (by omega)).mp p3
      subst ei; subst ej; subst ed'
      exact ⟨q8, q9⟩
  obtain ⟨⟨s1, s2, s3, s4, s5⟩, s6, s7, s8, s9, s10⟩ := hq
  have ag : agU h t := ⟨s1, fun b hb _ => ⟨s3 b (by unfold cpS; omega), by rw [s4]⟩⟩
  have hI' : ∀ b, b < 21 → hI t b = hI h b := fun b hb => s3 b (by unfold cpS; omega)
  have RT' : RepC t A := ⟨ad, r1.up s1, r2.cg rfl (by rw [hI' 8 (by decide)]) (hI' 9 (by decide)), r3.cu rfl ag (by rw [hI' 8 (by decide)]) (fun i _ => s5 _ _ (by omega)), r4.cg rfl rfl rfl (s5 _ _ (by omega)) (hI' 12 (by decide)), ⟨r5.1.up s1 (by unfold nm; decide), by rw [hI' 14 (by decide)]; exact r5.2.1, r5.2.2.1, fun i hi => by rw [hI' 15 (by decide)]; exact r5.2.2.2.1 i hi, r5.2.2.2.2⟩, r6.cg rfl (by rw [hI' 8 (by decide)]) (hI' 16 (by decide)) (hI' 18 (by decide)) (hI' 20 (by decide)), Or.inr ⟨i, j, n, hil, hjl, hn, z, s6, s7, s8, s9, s10⟩⟩
  have fr : frC h t := ⟨s1, fun b h1 h2 => ⟨s3 b (by unfold cpS; omega), by rw [s4]⟩⟩
  refine bkX10_changed_73 (fun y => ?_) (fun y => ?_)
  · rw [if_neg y] at ef
    refine bkX10_changed_88 (r1.up s1) (bkX10_changed_95 ⟨?_, by rw [ef]; exact RT', fr⟩)
    rw [ef]; exact s10
  · rw [if_pos y] at ef
    refine bkX10_changed_78 (r1.up s1) (bkX10_changed_95 ⟨?_, by rw [ef]; exact RT', fr⟩)
    rw [ef]; exact s9
end CH
