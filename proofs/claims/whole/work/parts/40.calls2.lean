/-! ===== more calls ===== -/
section S2
variable {X : GX} {h : SH} {A : Abs}
/-- the component's state when only the facts' numbers are changed -/
theorem RepC.num {t : SH} {ad : Nat → Nat} {i : Nat} {A' : Abs} (r1 : LX10 (Sk h) 8) (r2 : RT h A) (r3 : RE h ad A) (r4 : RH h ad A) (r5 : CalR h 14 (aF A)) (r6 : RLt h A) (r7 : RS h ad A) (c : chI (fun b => b = 12 ∨ b = 13) h t) (e1 : aT A' = aT A) (e2 : aE A' = aE A) (e3 : aH A' = aH A) (e4 : aF A' = aF A) (e5 : aL A' = aL A)
    (hi : aH A = some i) (hN : ∀ k, k < (eF (ed A i)).length → hI t 12 k = aN A' k) : RepC t A' := by
  have hI' : ∀ b, b ≠ 12 → b ≠ 13 → hI t b = hI h b := fun b h1 h2 => c.2.2 b (by omega)
  refine ⟨ad, c.1 ▸ r1, r2.cg e1 (by rw [hI' 8 (by decide) (by decide)]) (hI' 9 (by decide) (by decide)), r3.cu e2 (c.agU (fun b q => by omega)) (by rw [hI' 8 (by decide) (by decide)]) (fun i _ => by rw [c.hA]), ⟨by rw [c.hA, e3]; exact r4.1, fun j hj k hk => ?_⟩, ?_, r6.cg e5 (by rw [hI' 8 (by decide) (by decide)]) (hI' 16 (by decide) (by decide)) (hI' 18 (by decide) (by decide)) (hI' 20 (by decide) (by decide)), r7.cg e2 e4 (by rw [c.hA]) (by rw [c.hA]) (fun j _ => by rw [hI' 21 (by decide) (by decide)])⟩
  · rw [e3, hi] at hj
    have : j = i := (Option.some.inj hj).symm
    subst this
    have e : ed A' j = ed A j := by unfold ed; rw [e2]
    rw [e] at hk
    exact hN k hk
  · rw [e4]; exact r5.cg c.1 (by rw [hI' 14 (by decide) (by decide)]) (hI' 15 (by decide) (by decide))
/-- the edition in hand -/
theorem RH.ed {ad : Nat → Nat} (r3 : RE h ad A) (r4 : RH h ad A) (ok : okA A) {i : Nat} (hi : aH A = some i) : i < nE A ∧ hA h 8 4 = some (ad i) ∧ EdC h (ad i) (ed A i) ∧ okE (ed A i) := by
  have hlt := (ok.2.2.2.2 i hi).1
  refine ⟨hlt, ?_, (r3.2 i hlt).2.1, ok.2.2.1 i hlt⟩
  rw [r4.1, hi]; rfl
def setN (A : Abs) (k : Nat) (v : Int32) : Abs := (aT A, aE A, aH A, fun j => if j = k then v else aN A j, aF A, aL A)
def fFact (A : Abs) (x v : Int32) : Int32 × Abs := match aH A with
  | none => (0, A)
  | some i => if (0 ≤ x ∧ x < nI (eF (ed A i)).length) ∧ nI (fa (ed A i) x.toNatClampNeg).2.1 ≤ v ∧ v ≤ nI (fa (ed A i) x.toNatClampNeg).2.2 then (1, setN A x.toNatClampNeg v) else (0, A)
theorem C_fact {x v : Int32} (R : RepC h A) (ok : okA A) : Cd X mX10_fact [.ref 8, .int x, .int v] h 0 0 (oI (CP h (fFact A x v)) nX) := by
  have R0 := R
  obtain ⟨ad, r1, r2, r3, r4, r5, r6, r7⟩ := R
  have no : fFact A x v = (0, A) → Gd X mX10_fact 44 [none, none, none] [] h 0 0 (oI (CP h (fFact A x v)) nX) := fun e => bkX10_fact_44 (by
    show CP h (fFact A x v) 0 h
    rw [e]; exact ⟨rfl, R0, frC.rf⟩)
  cases hh : aH A with
  | none =>
    have e4 : hA h 8 4 = none := by rw [r4.1, hh]; rfl
    exact bkX10_fact_0 r1 (fun _ => no (by unfold fFact; rw [hh])) (fun z hz => by rw [e4] at hz; cases hz)
  | some i =>
    obtain ⟨hlt, h4, hE, oke⟩ := RH.ed r3 r4 ok hh
    have h8 : (eF (ed A i)).length ≤ 8 := oke.2.1
    have ef : fFact A x v = if (0 ≤ x ∧ x < nI (eF (ed A i)).length) ∧ nI (fa (ed A i) x.toNatClampNeg).2.1 ≤ v ∧ v ≤ nI (fa (ed A i) x.toNatClampNeg).2.2 then (1, setN A x.toNatClampNeg v) else (0, A) := by unfold fFact; rw [hh]
    refine bkX10_fact_0 r1 (fun z => by rw [h4] at z; cases z) (fun z hz => ?_)
    refine bkX10_fact_7 r1 h4 hE.2.1 (c_hasFact hE oke) (fun r t hq => ?_)
    obtain ⟨rfl, rfl⟩ := hq
    by_cases q : 0 ≤ x ∧ x < nI (eF (ed A i)).length
    · rw [decide_eq_true q]
      obtain ⟨n, hn, rfl⟩ := nI_some q.1
      have hnl := (nI_ltI hn (by omega)).mp q.2
      have hl := hE.lo hnl
      refine bkX10_fact_15 (fun z => absurd z (by decide)) (fun _ => ?_)
      refine bkX10_fact_18 r1 h4 hE.2.1 (vp_in_nI (by omega) (by omega)) (fun z => ?_) (fun z1 => ?_)
      · rw [nI_clamp (by omega), hl.2.1] at z
        exact no (by rw [ef, nI_clamp (by omega), if_neg (fun y => absurd z (Int32.not_lt.mpr y.2.1))])
      rw [nI_clamp (by omega), hl.2.1] at z1
      refine bkX10_fact_31 r1 h4 hE.2.1 (vp_in_nI (by omega) (by omega)) (fun z2 => ?_) (fun z2 => ?_)
      · rw [nI_clamp (by omega), hl.2.2] at z2
        refine bkX10_fact_46 r1 (vp_in_nI (by omega) (by omega)) ?_
        rw [nI_clamp (by omega)]
        show CP t (fFact A (nI n) v) 1 (sI t 12 n v)
        rw [ef, nI_clamp (by omega), if_pos ⟨q, Int32.not_lt.mp z1, z2⟩]
        have c1 : chI (fun b => b = 12 ∨ b = 13) t (sI t 12 n v) := chI.rf.s (Or.inl rfl)
        refine ⟨rfl, RepC.num (A' := setN A n v) r1 r2 r3 r4 r5 r6 r7 c1 rfl rfl rfl rfl rfl hh (fun k hk => ?_), c1.frC (fun b q => by omega)⟩
        show hI (sI t 12 n v) 12 k = if k = n then v else aN A k
        by_cases y : k = n
        · subst y; rw [sI_at, if_pos rfl]
        · rw [sI_nj y, if_neg y]; exact r4.2 i hh k hk
      · rw [nI_clamp (by omega), hl.2.2] at z2
        exact no (by rw [ef, nI_clamp (by omega), if_neg (fun y => z2 y.2.2)])
    · rw [decide_eq_false q]
      exact bkX10_fact_15 (fun _ => no (by rw [ef, if_neg (fun y => q y.1)])) (fun z => absurd rfl z)
/-- the model's state when only the facts' numbers are changed -/
theorem RepM.num {t : SH} {A' : Abs} (R : RepM h A) (ok : okA A) (c : chI (· = 62) h t) (e1 : aT A' = aT A) (e2 : aE A' = aE A) (e3 : aH A' = aH A) (e4 : aF A' = aF A) (e5 : aL A' = aL A)
    (hN : ∀ i, aH A = some i → ∀ k, k < (eF (ed A i)).length → hI t 62 k = aN A' k) : RepM t A' := by
  have h35 : hI t 35 = hI h 35 := c.2.2 35 (by decide)
  refine R.gen ok c (fun b q => by omega) e1 e2 e4 (by rw [h35]) (by rw [h35]) (by rw [h35]) (by rw [h35, e3]; exact R.2.2.2.1.1) (fun i hi k hk => ?_) ?_
  · have e : ed A' i = ed A i := by unfold ed; rw [e2]
    rw [e] at hk
    rw [e3] at hi
    exact hN i hi k hk
  · rw [e5]; exact R.let (fun j _ => by rw [h35]) (c.2.2 69 (by decide)) (c.2.2 70 (by decide))
theorem RepM.hand (R : RepM h A) (ok : okA A) {i : Nat} (hi : aH A = some i) : i < nE A ∧ i ≤ 6 ∧ hI h 35 34 = nI i ∧ EdM h 35 i (ed A i) ∧ okE (ed A i) := by
  have hlt := (ok.2.2.2.2 i hi).1
  have h6 := ok.2.1
  have := R.2.2.2.1.1
  rw [hi] at this
  exact ⟨hlt, by omega, this, (R.2.2.1.2 i hlt).1, ok.2.2.1 i hlt⟩
theorem M_fact {x v : Int32} (R : RepM h A) (ok : okA A) : Cd X mX11_fact [.ref 35, .int x, .int v] h 0 0 (oI (MP h (fFact A x v)) nX) := by
  have R1 := R.z (v := 0) ok
  have bk0 := @bkX11_fact_0 X h
  generalize hh1 : sI h 35 0 0 = h1 at R1
  have z1 : frM h h1 := hh1 ▸ z_fr
  have no : fFact A x v = (0, A) → Gd X mX11_fact 65 [none, none, none] [] h1 0 0 (oI (MP h (fFact A x v)) nX) := fun e => bkX11_fact_65 (by
    show MP h (fFact A x v) 0 h1
    rw [e]; exact ⟨rfl, R1, z1⟩)
  refine bkX11_fact_0 R.1 (fun q => ?_) (fun q => ?_)
  · rw [hh1] at q ⊢
    cases hh : aH A with
    | none => exact no (by unfold fFact; rw [hh])
    | some i => obtain ⟨_, _, h34, _, _⟩ := R1.hand ok hh
                rw [h34] at q; exact absurd q (nI_pos (by omega))
  · rw [hh1] at q ⊢
    cases hh : aH A with
    | none => have h34 := R1.2.2.2.1.1
              rw [hh] at h34
              rw [h34] at q; exact absurd (by decide) q
    | some i =>
      obtain ⟨hlt, h6, h34, hE, oke⟩ := R1.hand ok hh
      have h8 : (eF (ed A i)).length ≤ 8 := oke.2.1
      have ef : fFact A x v = if (0 ≤ x ∧ x < nI (eF (ed A i)).length) ∧ nI (fa (ed A i) x.toNatClampNeg).2.1 ≤ v ∧ v ≤ nI (fa (ed A i) x.toNatClampNeg).2.2 then (1, setN A x.toNatClampNeg v) else (0, A) := by unfold fFact; rw [hh]
      refine bkX11_fact_12 (fun z => no (by rw [ef, if_neg (fun y => i_neg.mp z y.1.1)])) (fun z => ?_)
      have q0 : (0 : Int32) ≤ x := Int32.not_lt.mp z
      obtain ⟨n, hn, rfl⟩ := nI_some q0
      refine bkX11_fact_16 R1.1 (by rw [h34]; exact (vp_in_nI (by omega) (by omega))) (fun z => ?_) (fun z => ?_)
      · rw [h34, nI_clamp (by omega), hE.1] at z
        exact no (by rw [ef, if_neg (fun y => absurd y.1.2 (Int32.not_lt.mpr z))])
      rw [h34, nI_clamp (by omega), hE.1] at z
      have q1 : nI n < nI (eF (ed A i)).length := Int32.not_le.mp z
      have hnl := (nI_ltI hn (by omega)).mp q1
      have hl := hE.lo hnl
      have ei : (8 : Int32) * nI i + nI n = nI (8 * i + n) := by rw [ix8, nI_add]
      refine bkX11_fact_29 R1.1 (by rw [h34, ei]; exact (vp_in_nI (by omega) (by omega))) (fun z => ?_) (fun z2 => ?_)
      · rw [h34, ei, nI_clamp (by omega), hl.2.1] at z
        exact no (by rw [ef, nI_clamp (by omega), if_neg (fun y => absurd z (Int32.not_lt.mpr y.2.1))])
      rw [h34, ei, nI_clamp (by omega), hl.2.1] at z2
      refine bkX11_fact_47 R1.1 (by rw [h34, ei]; exact (vp_in_nI (by omega) (by omega))) (fun z3 => ?_) (fun z3 => ?_)
      · rw [h34, ei, nI_clamp (by omega), hl.2.2] at z3
        refine bkX11_fact_67 R1.1 (vp_in_nI (by omega) (by omega)) ?_
        rw [nI_clamp (by omega)]
        show MP h (fFact A (nI n) v) 1 (sI h1 62 n v)
        rw [ef, nI_clamp (by omega), if_pos ⟨⟨q0, q1⟩, Int32.not_lt.mp z2, z3⟩]
        have c1 : chI (· = 62) h1 (sI h1 62 n v) := chI.rf.s rfl
        refine ⟨rfl, R1.num (A' := setN A n v) ok c1 rfl rfl rfl rfl rfl (fun j hj k hk => ?_), z1.tr (c1.frM (fun b q => by omega))⟩
        show hI (sI h1 62 n v) 62 k = if k = n then v else aN A k
        by_cases y : k = n
        · subst y; rw [sI_at, if_pos rfl]
        · rw [sI_nj y, if_neg y]; exact R1.2.2.2.1.2 j hj k hk
      · rw [h34, ei, nI_clamp (by omega), hl.2.2] at z3
        exact no (by rw [ef, nI_clamp (by omega), if_neg (fun y => z3 y.2.2)])
theorem setN_ok {i n : Nat} {v : Int32} (ok : okA A) (hh : aH A = some i) (hn : n < 2 ^ 31) (h1 : nI (fa (ed A i) n).2.1 ≤ v) (h2 : v ≤ nI (fa (ed A i) n).2.2) (hnl : n < (eF (ed A i)).length) : okA (setN A n v) := by
  refine ⟨ok.1, ok.2.1, ok.2.2.1, ok.2.2.2.1, fun j hj => ?_⟩
  have hj' : aH A = some j := hj
  have : j = i := Option.some.inj (hj'.symm.trans hh)
  subst this
  have o2 := ok.2.2.2.2 j hh
  refine ⟨o2.1, fun k hk => ?_⟩
  show ∃ m, (if k = n then v else aN A k) = nI m ∧ _
  by_cases y : k = n
  · subst y
    have hb := ok_fact (ok.2.2.1 j o2.1) hnl
    have hv0 : (0 : Int32) ≤ v := Int32.le_trans (nI_pos' (by omega)) h1
    obtain ⟨w, hw, rfl⟩ := nI_some hv0
    rw [nI_leI (by omega) (by omega)] at h1 h2
    exact ⟨w, if_pos rfl, h1, h2⟩
  · rw [if_neg y]; exact o2.2 k hk
theorem fFact_ok {x v : Int32} (ok : okA A) : okA (fFact A x v).2 := by
  unfold fFact
  cases hh : aH A with
  | none => exact ok
  | some i =>
    show okA (if _ then _ else _ : Int32 × Abs).2
    by_cases q : (0 ≤ x ∧ x < nI (eF (ed A i)).length) ∧ nI (fa (ed A i) x.toNatClampNeg).2.1 ≤ v ∧ v ≤ nI (fa (ed A i) x.toNatClampNeg).2.2
    · rw [if_pos q]
      obtain ⟨n, hn, rfl⟩ := nI_some q.1.1
      have h8 : (eF (ed A i)).length ≤ 8 := (ok.2.2.1 i (ok.2.2.2.2 i hh).1).2.1
      have hnl := (nI_ltI hn (by omega)).mp q.1.2
      rw [nI_clamp hn] at q ⊢
      exact setN_ok ok hh hn q.2.1 q.2.2 hnl
    · rw [if_neg q]; exact ok
def setW (A : Abs) (i w : Nat) : Abs := (aT A, aE A, aH A, csW (ed A i) w, aF A, aL A)
def fWorld (A : Abs) (x : Int32) : Int32 × Abs := match aH A with
  | none => (0, A)
  | some i => if 0 ≤ x ∧ x < nI (worlds (ed A i)) then (1, setW A i x.toNatClampNeg) else (0, A)
theorem fWorld_ok {x : Int32} (ok : okA A) : okA (fWorld A x).2 := by
  unfold fWorld
  cases hh : aH A with
  | none => exact ok
  | some i =>
    show okA (if _ then _ else _ : Int32 × Abs).2
    split
    · refine ⟨ok.1, ok.2.1, ok.2.2.1, ok.2.2.2.1, fun j hj => ?_⟩
      have hj' : aH A = some j := hj
      have : j = i := Option.some.inj (hj'.symm.trans hh)
      subst this
      have o2 := ok.2.2.2.2 j hh
      exact ⟨o2.1, fun k hk => csW_in (ok.2.2.1 j o2.1) hk⟩
    · exact ok
theorem C_world {x : Int32} (R : RepC h A) (ok : okA A) : Cd X mX10_world [.ref 8, .int x] h 0 0 (oI (CP h (fWorld A x)) nX) := by
  have R0 := R
  obtain ⟨ad, r1, r2, r3, r4, r5, r6, r7⟩ := R
  have no : fWorld A x = (0, A) → Gd X mX10_world 22 [none, none] [] h 0 0 (oI (CP h (fWorld A x)) nX) := fun e => bkX10_world_22 (by
    show CP h (fWorld A x) 0 h
    rw [e]; exact ⟨rfl, R0, frC.rf⟩)
  cases hh : aH A with
  | none =>
    have e4 : hA h 8 4 = none := by rw [r4.1, hh]; rfl
    exact bkX10_world_0 r1 (fun _ => no (by unfold fWorld; rw [hh])) (fun z hz => by rw [e4] at hz; cases hz)
  | some i =>
    obtain ⟨hlt, h4, hE, oke⟩ := RH.ed r3 r4 ok hh
    have hw : worlds (ed A i) ≤ 2000 := oke.2.2.2.2.1
    have ef : fWorld A x = if 0 ≤ x ∧ x < nI (worlds (ed A i)) then (1, setW A i x.toNatClampNeg) else (0, A) := by unfold fWorld; rw [hh]
    refine bkX10_world_0 r1 (fun z => by rw [h4] at z; cases z) (fun z hz => ?_)
    refine bkX10_world_7 (fun z => no (by rw [ef, if_neg (fun y => i_neg.mp z y.1)])) (fun z => ?_)
    have q0 : (0 : Int32) ≤ x := Int32.not_lt.mp z
    obtain ⟨n, hn, rfl⟩ := nI_some q0
    refine bkX10_world_11 r1 h4 hE.2.1 (fun z => ?_) (fun z => ?_)
    · rw [hE.2.2.2.2.1] at z
      refine bkX10_world_24 r1 h4 (c_setWorld hE oke (LX10.l_facts r1) (by decide) hn) (fun t hq => bkX10_world_36 ?_)
      show CP h (fWorld A (nI n)) 1 t
      rw [ef, nI_clamp (by omega), if_pos ⟨q0, z⟩]
      exact ⟨rfl, RepC.num (A' := setW A i n) r1 r2 r3 r4 r5 r6 r7 (hq.1.up (fun b q => Or.inl q)) rfl rfl rfl rfl rfl hh hq.2, hq.1.frC (fun b q => by omega)⟩
    · rw [hE.2.2.2.2.1] at z
      exact no (by rw [ef, if_neg (fun y => z y.2)])
theorem M_world {x : Int32} (R : RepM h A) (ok : okA A) : Cd X mX11_world [.ref 35, .int x] h 0 0 (oI (MP h (fWorld A x)) nX) := by
  have R1 := R.z (v := 0) ok
  generalize hh1 : sI h 35 0 0 = h1 at R1
  have z1 : frM h h1 := hh1 ▸ z_fr
  have no : fWorld A x = (0, A) → Gd X mX11_world 30 [none, none] [] h1 0 0 (oI (MP h (fWorld A x)) nX) := fun e => bkX11_world_30 (by
    show MP h (fWorld A x) 0 h1
    rw [e]; exact ⟨rfl, R1, z1⟩)
  refine bkX11_world_0 R.1 (fun q => ?_) (fun q => ?_)
  · rw [hh1] at q ⊢
    cases hh : aH A with
    | none => exact no (by unfold fWorld; rw [hh])
    | some i => obtain ⟨_, _, h34, _, _⟩ := R1.hand ok hh
                rw [h34] at q; exact absurd q (nI_pos (by omega))
  · rw [hh1] at q ⊢
    cases hh : aH A with
    | none => have h34 := R1.2.2.2.1.1
              rw [hh] at h34
              rw [h34] at q; exact absurd (by decide) q
    | some i =>
      obtain ⟨hlt, h6, h34, hE, oke⟩ := R1.hand ok hh
      have hw : worlds (ed A i) ≤ 2000 := oke.2.2.2.2.1
      have ef : fWorld A x = if 0 ≤ x ∧ x < nI (worlds (ed A i)) then (1, setW A i x.toNatClampNeg) else (0, A) := by unfold fWorld; rw [hh]
      refine bkX11_world_12 (fun z => no (by rw [ef, if_neg (fun y => i_neg.mp z y.1)])) (fun z => ?_)
      have q0 : (0 : Int32) ≤ x := Int32.not_lt.mp z
      obtain ⟨n, hn, rfl⟩ := nI_some q0
      refine bkX11_world_16 R1.1 (by rw [h34]; exact c_worlds hE oke R1.1 h6) (fun r t hq => ?_)
      obtain ⟨rfl, rfl⟩ := hq
      refine bkX11_world_26 (fun z => ?_) (fun z => ?_)
      · rw [lg_cmp_lt, nI_l hn, pk_lLT (by omega) (by omega)] at z
        refine bkX11_world_32 R1.1 (by rw [h34]; exact c_comes hE oke R1.1 h6 hn) (fun u hq => bkX11_world_41 ?_)
        show MP h (fWorld A (nI n)) 1 u
        rw [ef, nI_clamp (by omega), if_pos ⟨q0, nI_lt z (by omega)⟩]
        refine ⟨rfl, R1.num (A' := setW A i n) ok hq.1 rfl rfl rfl rfl rfl (fun j hj k hk => ?_), z1.tr (hq.1.frM (fun b q => by omega))⟩
        have : j = i := Option.some.inj (hj.symm.trans hh)
        subst this; exact hq.2 k hk
      · rw [lg_cmp_lt, nI_l hn, pk_lLT (by omega) (by omega)] at z
        exact no (by rw [ef, if_neg (fun y => z ((nI_ltI hn (by omega)).mp y.2))])
def fLetter (A : Abs) (x : Int32) : Int32 × Abs := (match aL A with
  | none => -1
  | some Z => if x = 0 then nI Z.2.2.length else if x = 1 then nI Z.2.1.length else if x = 2 then Z.1.2.1 else if x = 3 then Z.1.2.2 else -1, A)
theorem C_letter {x : Int32} (R : RepC h A) : Cd X mX10_letter [.ref 8, .int x] h 0 0 (oI (CP h (fLetter A x)) nX) := by
  have R0 := R
  obtain ⟨ad, r1, r2, r3, r4, r5, r6, r7⟩ := R
  have cp : ∀ r, r = (fLetter A x).1 → CP h (fLetter A x) r h := fun r hr => ⟨hr, R0, frC.rf⟩
  unfold RLt at r6
  unfold fLetter at cp ⊢
  cases hl : aL A with
  | none =>
    rw [hl] at r6 cp
    refine bkX10_letter_0 r1 (fun q => absurd r6.1 q) (fun _ => bkX10_letter_7 (cp _ rfl))
  | some Z =>
    rw [hl] at r6 cp
    obtain ⟨g1, ⟨g2, g3, g4⟩, ⟨g5, g6, g7⟩, g8⟩ := r6
    have e5 : hI h (8 + 8) 5 = nI Z.2.2.length := g8.1
    have e3 : hI h (8 + 8) 3 = nI Z.2.1.length := g5
    have e7 : hI h (8 + 8) 7 = Z.1.2.1 := g3
    have e8 : hI h (8 + 8) 8 = Z.1.2.2 := g4
    refine bkX10_letter_0 r1 (fun _ => ?_) (fun q => by rw [g1] at q; exact absurd q (by decide))
    refine bkX10_letter_9 (fun q => ?_) (fun q => ?_) (fun q => ?_) (fun q => ?_) (fun q0 q1 q2 q3 => ?_)
    · exact bkX10_letter_40 r1 (cp _ (by rw [e5]; simp [q]))
    · exact bkX10_letter_48 r1 (cp _ (by rw [e3]; simp [q]))
    · exact bkX10_letter_56 r1 (cp _ (by rw [e7]; simp [q]))
    · exact bkX10_letter_64 r1 (cp _ (by rw [e8]; simp [q]))
    · exact bkX10_letter_72 (cp _ (by simp [q0, q1, q2, q3]))
theorem M_letter {x : Int32} (R : RepM h A) (ok : okA A) : Cd X mX11_letter [.ref 35, .int x] h 0 0 (oI (MP h (fLetter A x)) nX) := by
  have R1 := R.z (v := 0) ok
  generalize hh1 : sI h 35 0 0 = h1 at R1
  have z1 : frM h h1 := hh1 ▸ z_fr
  have cp : ∀ r, r = (fLetter A x).1 → MP h (fLetter A x) r h1 := fun r hr => ⟨hr, R1, z1⟩
  have r6 := R1.2.2.2.2.2.1
  unfold fLetter at cp ⊢
  refine bkX11_letter_0 R.1 (fun q => ?_) (fun q => ?_)
  · rw [hh1] at q ⊢
    cases hl : aL A with
    | none => rw [hl] at r6
              have r6' : hI h1 35 49 = -1 := r6
              rw [r6'] at q; exact absurd q (by decide)
    | some Z =>
      rw [hl] at r6 cp
      obtain ⟨g0, g1, g2, g3, g4, g5⟩ := r6
      refine bkX11_letter_14 (fun q0 => ?_) (fun q0 => ?_)
      · refine bkX11_letter_25 (fun q1 => ?_) (fun q1 => ?_)
        · refine bkX11_letter_37 (fun q2 => ?_) (fun q2 => ?_)
          · refine bkX11_letter_49 (fun q3 => ?_) (fun q3 => ?_)
            · exact bkX11_letter_61 (bkX11_letter_62 (cp _ (by simp [q0, q1, q2, q3])))
            · exact bkX11_letter_54 R1.1 (bkX11_letter_62 (cp _ (by rw [g2]; simp [q3])))
          · exact bkX11_letter_42 R1.1 (bkX11_letter_62 (cp _ (by rw [g1]; simp [q2])))
        · exact bkX11_letter_30 R1.1 (bkX11_letter_62 (cp _ (by rw [g4]; simp [q1])))
      · exact bkX11_letter_18 R1.1 (bkX11_letter_62 (cp _ (by rw [g3]; simp [q0])))
  · rw [hh1] at q ⊢
    cases hl : aL A with
    | none => rw [hl] at cp
              exact bkX11_letter_12 (cp _ rfl)
    | some Z =>
      rw [hl] at r6
      have h4 := r6.2.2.2.2.2.2.2.1
      rw [r6.1] at q; exact absurd (nI_pos' (by omega)) q
def fOut (A : Abs) (x : Int32) : Int32 × Abs := (match aL A with
  | none => -1
  | some Z => if 0 ≤ x ∧ x < nI Z.2.2.length then nI (Z.2.2.getD x.toNatClampNeg 0) else -1, A)
theorem gD {L : List Nat} {n : Nat} (hn : n < L.length) : L.getD n 0 = L[n] := by rw [List.getD_eq_getElem?_getD, List.getElem?_eq_getElem hn]; rfl
theorem C_out {x : Int32} (R : RepC h A) : Cd X mX10_out [.ref 8, .int x] h 0 0 (oI (CP h (fOut A x)) nX) := by
  have R0 := R
  obtain ⟨ad, r1, r2, r3, r4, r5, r6, r7⟩ := R
  have cp : ∀ r, r = (fOut A x).1 → CP h (fOut A x) r h := fun r hr => ⟨hr, R0, frC.rf⟩
  unfold RLt at r6
  unfold fOut at cp ⊢
  refine bkX10_out_0 (fun q => bkX10_out_15 (cp _ ?_)) (fun q => ?_)
  · cases hl : aL A with
    | none => rfl
    | some Z => exact (if_neg (fun y => i_neg.mp q y.1)).symm
  have q0 : (0 : Int32) ≤ x := Int32.not_lt.mp q
  obtain ⟨n, hn, rfl⟩ := nI_some q0
  cases hl : aL A with
  | none =>
    rw [hl] at r6 cp
    have e5 : hI h (8 + 8) 5 = 0 := r6.2.2
    refine bkX10_out_4 r1 (fun z => by rw [e5] at z; exact absurd q0 (i_neg.mp z)) (fun _ => bkX10_out_15 (cp _ rfl))
  | some Z =>
    rw [hl] at r6 cp
    have g8 := r6.2.2.2
    have e5 : hI h (8 + 8) 5 = nI Z.2.2.length := g8.1
    have hlen := g8.2.1
    refine bkX10_out_4 r1 (fun z => ?_) (fun z => ?_)
    · rw [e5] at z
      have z' := (nI_ltI hn (by omega)).mp z
      refine bkX10_out_17 r1 (vp_in_nI (by omega) (by omega)) (cp _ ?_)
      rw [nI_clamp (by omega)]
      have e4 : hI h (8 + 8 + 4) n = nI Z.2.2[n] := g8.2.2.2 n z'
      rw [e4]
      show _ = if _ then _ else _
      rw [if_pos ⟨q0, z⟩, gD z']
    · rw [e5] at z
      exact bkX10_out_15 (cp _ (if_neg (fun y => z y.2)).symm)
theorem M_out {x : Int32} (R : RepM h A) (ok : okA A) : Cd X mX11_out [.ref 35, .int x] h 0 0 (oI (MP h (fOut A x)) nX) := by
  have R1 := R.z (v := 0) ok
  generalize hh1 : sI h 35 0 0 = h1 at R1
  have z1 : frM h h1 := hh1 ▸ z_fr
  have cp : ∀ r, r = (fOut A x).1 → MP h (fOut A x) r h1 := fun r hr => ⟨hr, R1, z1⟩
  have r6 := R1.2.2.2.2.2.1
  unfold fOut at cp ⊢
  refine bkX11_out_0 R.1 (fun q => ?_) (fun q => ?_)
  · rw [hh1] at q ⊢
    cases hl : aL A with
    | none => rw [hl] at cp
              exact bkX11_out_24 (bkX11_out_34 (cp _ rfl))
    | some Z =>
      rw [hl] at r6
      have h4 := r6.2.2.2.2.2.2.2.1
      rw [r6.1] at q; exact absurd q (nI_pos (by omega))
  · rw [hh1] at q ⊢
    cases hl : aL A with
    | none => rw [hl] at r6
              have r6' : hI h1 35 49 = -1 := r6
              rw [r6'] at q; exact absurd (by decide) q
    | some Z =>
      rw [hl] at r6 cp
      have e52 := r6.2.2.2.1
      have e69 := r6.2.2.2.2.2.1
      have hlen := r6.2.2.2.2.2.2.2.2.2
      refine bkX11_out_12 (fun z => bkX11_out_24 (bkX11_out_34 (cp _ (if_neg (fun y => i_neg.mp z y.1)).symm))) (fun z => ?_)
      have q0 : (0 : Int32) ≤ x := Int32.not_lt.mp z
      obtain ⟨n, hn, rfl⟩ := nI_some q0
      refine bkX11_out_16 R1.1 (fun z => ?_) (fun z => ?_)
      · rw [e52] at z
        have z' := (nI_ltI hn (by omega)).mp z
        refine bkX11_out_28 R1.1 (vp_in_nI (by omega) (by omega)) (bkX11_out_34 (cp _ ?_))
        rw [nI_clamp (by omega)]
        have e4 : hI h1 (35 + 34) n = nI Z.2.2[n] := e69 n z'
        rw [e4]
        show _ = if _ then _ else _
        rw [if_pos ⟨q0, z⟩, gD z']
      · rw [e52] at z
        exact bkX11_out_24 (bkX11_out_34 (cp _ (if_neg (fun y => z y.2)).symm))
def fPart (A : Abs) (x : Int32) : Int32 × Abs := (match aL A with
  | none => -1
  | some Z => if 1 ≤ x ∧ x ≤ nI Z.2.1.length then nI (Z.2.1.getD (x.toNatClampNeg - 1) 0) else -1, A)
theorem one_some {x : Int32} (h : ¬ x < 1) : ∃ n, n + 1 < 2 ^ 31 ∧ x = nI (n + 1) := by
  have h0 : (0 : Int32) ≤ x := Int32.le_trans (by decide) (Int32.not_lt.mp h)
  obtain ⟨n, hn, rfl⟩ := nI_some h0
  rw [n1, nI_ltI hn (by omega)] at h
  exact ⟨n - 1, by omega, by congr 1; omega⟩
theorem C_part {x : Int32} (R : RepC h A) : Cd X mX10_part [.ref 8, .int x] h 0 0 (oI (CP h (fPart A x)) nX) := by
  have R0 := R
  obtain ⟨ad, r1, r2, r3, r4, r5, r6, r7⟩ := R
  have cp : ∀ r, r = (fPart A x).1 → CP h (fPart A x) r h := fun r hr => ⟨hr, R0, frC.rf⟩
  unfold RLt at r6
  unfold fPart at cp ⊢
  refine bkX10_part_0 (fun q => bkX10_part_16 (cp _ ?_)) (fun q => ?_)
  · cases hl : aL A with
    | none => rfl
    | some Z => exact (if_neg (fun y => absurd q (Int32.not_lt.mpr y.1))).symm
  obtain ⟨n, hn, rfl⟩ := one_some q
  cases hl : aL A with
  | none =>
    rw [hl] at r6 cp
    have e5 : hI h (8 + 8) 3 = 0 := r6.2.1
    refine bkX10_part_5 r1 (fun z => by rw [e5, n0, nI_leI (by omega) (by omega)] at z; omega) (fun _ => bkX10_part_16 (cp _ rfl))
  | some Z =>
    rw [hl] at r6 cp
    obtain ⟨g5, g6, g7⟩ := r6.2.2.1
    have e5 : hI h (8 + 8) 3 = nI Z.2.1.length := g5
    refine bkX10_part_5 r1 (fun z => ?_) (fun z => ?_)
    · rw [e5] at z
      have z' := (nI_leI hn (by omega)).mp z
      refine bkX10_part_18 r1 (by rw [nI_pred]; exact (vp_in_nI (by omega) (by omega))) (cp _ ?_)
      rw [nI_pred, nI_clamp (by omega)]
      have e4 : hI h (8 + 8 + 2) n = nI Z.2.1[n] := g7 n (by omega)
      rw [e4]
      show _ = if _ then _ else _
      rw [if_pos ⟨Int32.not_lt.mp q, z⟩, nI_clamp (by omega), Nat.add_sub_cancel, gD]
    · rw [e5] at z
      exact bkX10_part_16 (cp _ (if_neg (fun y => z y.2)).symm)
theorem M_part {x : Int32} (R : RepM h A) (ok : okA A) : Cd X mX11_part_ [.ref 35, .int x] h 0 0 (oI (MP h (fPart A x)) nX) := by
  have R1 := R.z (v := 0) ok
  generalize hh1 : sI h 35 0 0 = h1 at R1
  have z1 : frM h h1 := hh1 ▸ z_fr
  have cp : ∀ r, r = (fPart A x).1 → MP h (fPart A x) r h1 := fun r hr => ⟨hr, R1, z1⟩
  have r6 := R1.2.2.2.2.2.1
  unfold fPart at cp ⊢
  refine bkX11_part__0 R.1 (fun q => ?_) (fun q => ?_)
  · rw [hh1] at q ⊢
    cases hl : aL A with
    | none => rw [hl] at cp
              exact bkX11_part__25 (bkX11_part__37 (cp _ rfl))
    | some Z =>
      rw [hl] at r6
      have h4 := r6.2.2.2.2.2.2.2.1
      rw [r6.1] at q; exact absurd q (nI_pos (by omega))
  · rw [hh1] at q ⊢
    cases hl : aL A with
    | none => rw [hl] at r6
              have r6' : hI h1 35 49 = -1 := r6
              rw [r6'] at q; exact absurd (by decide) q
    | some Z =>
      rw [hl] at r6 cp
      have e53 := r6.2.2.2.2.1
      have e70 := r6.2.2.2.2.2.2.1
      have hlen := r6.2.2.2.2.2.2.2.2.1
      refine bkX11_part__12 (fun z => bkX11_part__25 (bkX11_part__37 (cp _ (if_neg (fun y => absurd z (Int32.not_lt.mpr y.1))).symm))) (fun q1 => ?_)
      obtain ⟨n, hn, rfl⟩ := one_some q1
      refine bkX11_part__17 R1.1 (fun z => ?_) (fun z => ?_)
      · rw [e53] at z
        have z' := (nI_leI hn (by omega)).mp z
        refine bkX11_part__29 R1.1 (by rw [nI_pred]; exact (vp_in_nI (by omega) (by omega))) (bkX11_part__37 (cp _ ?_))
        rw [nI_pred, nI_clamp (by omega)]
        have e4 : hI h1 (35 + 35) n = nI Z.2.1[n] := e70 n (by omega)
        rw [e4]
        show _ = if _ then _ else _
        rw [if_pos ⟨Int32.not_lt.mp q1, z⟩, nI_clamp (by omega), Nat.add_sub_cancel, gD]
      · rw [e53] at z
        exact bkX11_part__25 (bkX11_part__37 (cp _ (if_neg (fun y => z y.2)).symm))
end S2
