/-! ===== the small calls ===== -/
theorem RepM.gen {S : Nat → Prop} {h t : SH} {A A' : Abs} (R : RepM h A) (ok : okA A) (c : chI S h t) (hS : ∀ b, S b → b = 35 ∨ b = 62 ∨ 64 ≤ b) (eT : aT A' = aT A) (eE : aE A' = aE A) (eFr : aF A' = aF A)
    (h2 : hI t 35 2 = hI h 35 2) (h10 : hI t 35 10 = hI h 35 10) (h36 : hI t 35 36 = hI h 35 36) (hH : hI t 35 34 = (match aH A' with | none => -1 | some i => nI i))
    (hN : ∀ i, aH A' = some i → ∀ k, k < (eF (ed A' i)).length → hI t 62 k = aN A' k) (hL : match aL A' with
    | none => hI t 35 49 = -1
    | some Z => hI t 35 49 = nI Z.1.1 ∧ hI t 35 50 = Z.1.2.1 ∧ hI t 35 51 = Z.1.2.2 ∧ hI t 35 52 = nI Z.2.2.length ∧ hI t 35 53 = nI Z.2.1.length ∧ (∀ (i : Nat) (hi : i < Z.2.2.length), hI t 69 i = nI Z.2.2[i]) ∧ (∀ (i : Nat) (hi : i < Z.2.1.length), hI t 70 i = nI Z.2.1[i]) ∧ Z.1.1 ≤ 4 ∧ Z.2.1.length ≤ 12 ∧ Z.2.2.length ≤ 2772) : RepM t A' := by
  obtain ⟨r1, r2, r3, r4, r5, r6, r7⟩ := R
  have kp : ∀ b, b ≠ 35 → b ≠ 62 → b < 64 → hI t b = hI h b := fun b q1 q2 q3 => c.2.2 b (fun z => by have := hS b z; omega)
  have hn : nE A' = nE A := by rw [nE, eE]
  have he : ∀ i, ed A' i = ed A i := fun i => by unfold ed; rw [eE]
  refine ⟨c.1 ▸ r1, ?_, ⟨by rw [h10, hn]; exact r3.1, fun i hi => ?_⟩, ⟨hH, hN⟩, ?_, hL, fun k hk => by rw [c.2.1]; exact r7 k hk⟩
  · rw [eT, h2, kp 36 (by decide) (by decide) (by decide)]; exact r2
  · rw [hn] at hi
    rw [he, kp 41 (by decide) (by decide) (by decide)]
    refine ⟨(r3.2 i hi).1.cg ⟨fun b j z => by rw [kp b (by unfold sgm at z; omega) (by unfold sgm at z; omega) (by unfold sgm at z; omega)], fun b j z => by rw [c.2.1]⟩ (ok.2.2.1 i hi), (r3.2 i hi).2⟩
  · rw [eFr]
    refine ⟨h36.trans r5.1, r5.2.1, fun d hd => ?_, r5.2.2.2⟩
    show hI t 63 d = _
    rw [kp 63 (by decide) (by decide) (by decide)]; exact r5.2.2.1 d hd
theorem RepM.let {h t : SH} {A : Abs} (R : RepM h A) (h35 : ∀ j, 49 ≤ j → hI t 35 j = hI h 35 j) (h69 : hI t 69 = hI h 69) (h70 : hI t 70 = hI h 70) : (match aL A with
    | none => hI t 35 49 = -1
    | some Z => hI t 35 49 = nI Z.1.1 ∧ hI t 35 50 = Z.1.2.1 ∧ hI t 35 51 = Z.1.2.2 ∧ hI t 35 52 = nI Z.2.2.length ∧ hI t 35 53 = nI Z.2.1.length ∧ (∀ (i : Nat) (hi : i < Z.2.2.length), hI t 69 i = nI Z.2.2[i]) ∧ (∀ (i : Nat) (hi : i < Z.2.1.length), hI t 70 i = nI Z.2.1[i]) ∧ Z.1.1 ≤ 4 ∧ Z.2.1.length ≤ 12 ∧ Z.2.2.length ≤ 2772) := by
  rw [h35 49 (by decide), h35 50 (by decide), h35 51 (by decide), h35 52 (by decide), h35 53 (by decide), h69, h70]; exact R.2.2.2.2.2.1
section SC
variable {X : GX} {h : SH} {A : Abs}
theorem M_count {x : Int32} (R : RepM h A) (ok : okA A) : Cd X mX11_count [.ref 35, .int x] h 0 0 (oI (MP h (fCount A x)) nX) := by
  have R' := R.z (v := 0) ok
  obtain ⟨r1, r2, r3, r4, r5, r6, r7⟩ := R'
  have R1 := R.z (v := 0) ok
  refine bkX11_count_0 r1 (fun q => ?_) (fun q => ?_)
  · refine bkX11_count_16 (fun q2 => ?_) (fun q2 => ?_)
    · refine bkX11_count_28 (fun q3 => ?_) (fun q3 => ?_)
      · exact bkX11_count_40 (bkX11_count_41 ⟨by simp [fCount, q, q2, q3], R1, z_fr⟩)
      · refine bkX11_count_33 r1 (bkX11_count_41 ⟨?_, R1, z_fr⟩)
        rw [r5.1]; simp [fCount, q, q2, q3]
    · refine bkX11_count_21 r1 (bkX11_count_41 ⟨?_, R1, z_fr⟩)
      rw [r2.1]; simp [fCount, q, q2]
  · refine bkX11_count_9 r1 (bkX11_count_41 ⟨?_, R1, z_fr⟩)
    rw [r3.1]; simp [fCount, q]
/-- an edition taken in hand -/
def takeA (A : Abs) (i : Nat) : Abs := (aT A, aE A, some i, csW (ed A i) 0, aF A, aL A)
theorem takeA_ok {i : Nat} (ok : okA A) (hi : i < nE A) : okA (takeA A i) := ⟨ok.1, ok.2.1, ok.2.2.1, ok.2.2.2.1, fun j hj => by
  have : j = i := (Option.some.inj hj).symm
  subst this
  exact ⟨hi, fun k hk => csW_in (ok.2.2.1 j hi) hk⟩⟩
/-- nothing about a call but its answer and the state behind it -/
theorem frC_sA4 {v : Option Nat} : frC h (sA h 8 4 v) := ⟨⟨Nat.le_refl _, fun _ _ => rfl, fun b j hb hm => by
  show (if b = 8 ∧ j = 4 then v else hA h b j) = hA h b j
  rw [if_neg (fun z => hm (Or.inl z))]⟩, fun _ _ _ => ⟨rfl, rfl⟩⟩
theorem C_takeInHand {i : Nat} {ad : Nat → Nat} (r1 : LX10 (Sk h) 8) (r2 : RT h A) (r3 : RE h ad A) (r5 : CalR h 14 (aF A)) (r6 : RLt h A) (r7 : RS h ad A) (ok : okA A) (hi : i < nE A) : Cd X mX10_takeInHand [.ref 8, .ref (ad i)] h 0 0 (oV (fun t => RepC t (takeA A i) ∧ frC h t) nX) := by
  have hE := (r3.2 i hi).2.1
  have oke := ok.2.2.1 i hi
  have f1 : frC h (sA h 8 4 (some (ad i))) := frC_sA4
  have u1 : agU h (sA h 8 4 (some (ad i))) := ⟨f1.1, fun _ _ _ => ⟨rfl, rfl⟩⟩
  have F1 := r1.up f1.1
  have hE1 := hE.cu u1
  refine bkX10_takeInHand_0 r1 (bkX10_takeInHand_5 F1 (c_setWorld (w := 0) hE1 oke (LX10.l_facts F1) (by decide) (by decide)) (fun t hq => bkX10_takeInHand_14 ⟨⟨ad, ?_⟩, ?_⟩))
  · obtain ⟨c1, c2⟩ := hq
    have hI' : ∀ b, b ≠ 12 → hI t b = hI h b := fun b hb => c1.2.2 b hb
    have hA' : hA t = hA (sA h 8 4 (some (ad i))) := c1.hA
    have hA4 : hA t 8 4 = some (ad i) := by rw [hA']; show (if 8 = 8 ∧ 4 = 4 then some (ad i) else hA h 8 4) = _; rw [if_pos ⟨rfl, rfl⟩]
    have hAo : ∀ b j, ¬ (b = 8 ∧ j = 4) → hA t b j = hA h b j := fun b j z => by rw [hA']; show (if b = 8 ∧ j = 4 then some (ad i) else hA h b j) = _; rw [if_neg z]
    have u2 : agU h t := u1.tr (c1.agU (fun b q => by omega))
    refine ⟨c1.1 ▸ F1, r2.cg rfl (by rw [hI' 8 (by decide)]) (hI' 9 (by decide)), r3.cu rfl u2 (by rw [hI' 8 (by decide)]) (fun i _ => hAo _ _ (by omega)), ⟨hA4, fun j hj k hk => ?_⟩, ?_, r6.cg rfl (by rw [hI' 8 (by decide)]) (hI' 16 (by decide)) (hI' 18 (by decide)) (hI' 20 (by decide)), r7.cg rfl rfl (hAo _ _ (by omega)) (hAo _ _ (by omega)) (fun j _ => by rw [hI' 21 (by decide)])⟩
    · have : j = i := (Option.some.inj hj).symm
      subst this; exact c2 k hk
    · have k0 : kup (Sk h) (Sk t) := u2.1
      exact ⟨r5.1.up k0 (by unfold nm; decide), by rw [hI' 14 (by decide)]; exact r5.2.1, r5.2.2.1, fun i hi => by rw [hI' 15 (by decide)]; exact r5.2.2.2.1 i hi, r5.2.2.2.2⟩
  · exact f1.tr (hq.1.frC (fun b q => by omega))
theorem C_editionAt {x : Int32} {ad : Nat → Nat} (r1 : LX10 (Sk h) 8) (r3 : RE h ad A) (ok : okA A) : Cd X mX10_editionAt [.ref 8, .int x] h 0 0 (oA (fun r t => t = h ∧ r = if 0 ≤ x ∧ x < nI (nE A) then some (ad x.toNatClampNeg) else none) nX) := by
  have h6 := ok.2.1
  refine bkX10_editionAt_0 (fun q => ?_) (fun q => ?_)
  · refine bkX10_editionAt_12 (bkX10_editionAt_22 (rs0 := none) ⟨rfl, ?_⟩)
    rw [if_neg (fun z => i_neg.mp q z.1)]
  · have q0 : (0 : Int32) ≤ x := Int32.not_lt.mp q
    obtain ⟨n, hn, rfl⟩ := nI_some q0
    refine bkX10_editionAt_4 r1 (fun z => ?_) (fun z => ?_)
    · rw [r3.1] at z
      have z' := (nI_ltI hn (by omega)).mp z
      refine bkX10_editionAt_16 r1 (vp_in_nI (by omega) (by omega)) (bkX10_editionAt_22 ?_)
      rw [nI_clamp (by omega)]
      have e : hA h (8 + 2) n = some (ad n) := (r3.2 n z').1
      rw [e]
      refine ⟨rfl, ?_⟩
      rw [if_pos ⟨q0, z⟩]
    · rw [r3.1] at z
      refine bkX10_editionAt_12 (bkX10_editionAt_22 (rs0 := none) ⟨rfl, ?_⟩)
      rw [if_neg (fun y => z y.2)]
theorem C_isDay {x : Int32} : Cd X mX10_isDay [.int x] h 0 0 (oI (fun r t => t = h ∧ r = bI (decide (0 ≤ x ∧ x ≤ 9999))) nX) := by
  refine bkX10_isDay_0 (fun q => ?_) (fun q => ?_)
  · refine bkX10_isDay_15 (bkX10_isDay_16 (Or.inl rfl) ⟨rfl, ?_⟩)
    rw [decide_eq_false (fun z => i_neg.mp q z.1)]; rfl
  · refine bkX10_isDay_4 (fun z => ?_) (fun z => ?_)
    · refine bkX10_isDay_15 (bkX10_isDay_16 (Or.inl rfl) ⟨rfl, ?_⟩)
      rw [decide_eq_false (fun y => absurd z (Int32.not_lt.mpr y.2))]; rfl
    · refine bkX10_isDay_11 (bkX10_isDay_16 (Or.inr rfl) ⟨rfl, ?_⟩)
      rw [decide_eq_true ⟨Int32.not_lt.mp q, Int32.not_lt.mp z⟩]; rfl
def fTake (A : Abs) (x : Int32) : Int32 × Abs := if 0 ≤ x ∧ x < nI (nE A) then (1, takeA A x.toNatClampNeg) else (0, A)
theorem C_take {x : Int32} (R : RepC h A) (ok : okA A) : Cd X mX10_take [.ref 8, .int x] h 0 0 (oI (CP h (fTake A x)) nX) := by
  have R0 := R
  obtain ⟨ad, r1, r2, r3, r4, r5, r6, r7⟩ := R
  have h6 := ok.2.1
  refine bkX10_take_0 r1 (C_editionAt r1 r3 ok) (fun r t hq => ?_)
  obtain ⟨rfl, rfl⟩ := hq
  by_cases q : 0 ≤ x ∧ x < nI (nE A)
  · rw [if_pos q]
    obtain ⟨n, hn, rfl⟩ := nI_some q.1
    have hlt := (nI_ltI hn (by omega)).mp q.2
    rw [nI_clamp (by omega)]
    refine bkX10_take_5 (fun z hz => ?_) (fun z => by cases z)
    refine bkX10_take_12 r1 (C_takeInHand r1 r2 r3 r5 r6 r7 ok hlt) (fun u hq => bkX10_take_17 ?_)
    unfold fTake
    rw [if_pos q, nI_clamp (by omega)]
    exact ⟨rfl, hq.1, hq.2⟩
  · rw [if_neg q]
    refine bkX10_take_5 (fun z hz => by cases hz) (fun _ => bkX10_take_10 ?_)
    unfold fTake
    rw [if_neg q]
    exact ⟨rfl, R0, frC.rf⟩
/-- the model takes an edition in hand -/
theorem M_takes {i : Nat} (R : RepM h A) (ok : okA A) (hi : i < nE A) : Cd X mX11_takes [.ref 35, .int (nI i)] h 0 0 (oV (fun t => RepM t (takeA A i) ∧ frM h t) nX) := by
  have h6 := ok.2.1
  have hq := c_takes (X := X) (R.2.2.1.2 i hi).1 (ok.2.2.1 i hi) R.1 (by omega)
  refine Gd.mono (Nat.le_refl _) (Nat.le_refl _) (fun o t => ?_) hq
  match o with
  | .inl none =>
    rintro ⟨c1, c2, c3, c4⟩
    refine ⟨R.gen (A' := takeA A i) ok c1 (fun b q => by omega) rfl rfl rfl (c2 2 (by decide)) (c2 10 (by decide)) (c2 36 (by decide)) c3 (fun j hj k hk => ?_) (R.let (fun j hj => c2 j (by omega)) (c1.2.2 69 (by omega)) (c1.2.2 70 (by omega))), c1.frM (fun b q => by omega)⟩
    have : j = i := (Option.some.inj hj).symm
    subst this; exact c4 k hk
  | .inl (some _) => exact fun z => z
  | .inr _ => exact fun z => z
theorem M_take {x : Int32} (R : RepM h A) (ok : okA A) : Cd X mX11_take [.ref 35, .int x] h 0 0 (oI (MP h (fTake A x)) nX) := by
  have R1 := R.z (v := 0) ok
  have h6 := ok.2.1
  have no : ¬ (0 ≤ x ∧ x < nI (nE A)) → Gd X mX11_take 17 [none, none] [] (sI h 35 0 0) 0 0 (oI (MP h (fTake A x)) nX) := fun q => bkX11_take_17 (by
    show MP h (fTake A x) 0 _
    unfold fTake; rw [if_neg q]; exact ⟨rfl, R1, z_fr⟩)
  refine bkX11_take_0 R.1 (fun q => no (fun z => i_neg.mp q z.1)) (fun q => ?_)
  have q0 : (0 : Int32) ≤ x := Int32.not_lt.mp q
  obtain ⟨n, hn, rfl⟩ := nI_some q0
  refine bkX11_take_9 R1.1 (fun z => ?_) (fun z => ?_)
  · rw [R1.2.2.1.1] at z
    have z' := (nI_ltI hn (by omega)).mp z
    refine bkX11_take_19 R1.1 (M_takes R1 ok z') (fun t hq => bkX11_take_24 ?_)
    show MP h (fTake A (nI n)) 1 t
    unfold fTake; rw [if_pos ⟨q0, z⟩, nI_clamp (by omega)]
    exact ⟨rfl, hq.1, z_fr.tr hq.2⟩
  · rw [R1.2.2.1.1] at z
    exact no (fun y => z y.2)
/-- the last edition whose day has come -/
def lastIn (A : Abs) (d : Int32) : Nat → Option Nat
  | 0 => none
  | n + 1 => if nI (ed A n).1 ≤ d then some n else lastIn A d n
theorem lastIn_s {d : Int32} {n : Nat} : lastIn A d (n + 1) = if nI (ed A n).1 ≤ d then some n else lastIn A d n := rfl
theorem lastIn_lt {d : Int32} : ∀ {n i : Nat}, lastIn A d n = some i → i < n
  | 0, i, h => by cases h
  | n + 1, i, h => by
    unfold lastIn at h
    by_cases q : nI (ed A n).1 ≤ d
    · rw [if_pos q] at h; have := Option.some.inj h; omega
    · rw [if_neg q] at h; have := lastIn_lt h; omega
def fInForce (A : Abs) (x : Int32) : Int32 × Abs := if 0 ≤ x ∧ x ≤ 9999 then (match lastIn A x (nE A) with | some i => (nI i, takeA A i) | none => (-1, A)) else (-1, A)
theorem C_inForce {x : Int32} (R : RepC h A) (ok : okA A) : Cd X mX10_inForce [.ref 8, .int x] h 0 0 (oI (CP h (fInForce A x)) nX) := by
  have R0 := R
  obtain ⟨ad, r1, r2, r3, r4, r5, r6, r7⟩ := R
  have h6 := ok.2.1
  refine bkX10_inForce_0 C_isDay (fun r t hq => ?_)
  obtain ⟨rfl, rfl⟩ := hq
  by_cases q : 0 ≤ x ∧ x ≤ 9999
  · rw [decide_eq_true q]
    refine bkX10_inForce_4 (fun _ => ?_) (fun z => absurd z (by decide))
    refine bkX10_inForce_9 r1 ?_
    rw [r3.1]
    have key : ∀ (n : Nat) (y : Int32), n ≤ nE A → y = nI n - 1 → lastIn A x n = lastIn A x (nE A) → Gd X mX10_inForce 16 [some (.ref 8), some (.int x), some (.int y), none] [] t 0 0 (oI (CP t (fInForce A x)) nX) := by
      intro n
      induction n with
      | zero =>
        intro y _ hy hl
        subst hy
        refine bkX10_inForce_16 (fun _ => bkX10_inForce_51 ?_) (fun z => absurd (by decide) z)
        show CP t (fInForce A x) (-1) t
        unfold fInForce
        rw [if_pos q, ← hl]
        exact ⟨rfl, R0, frC.rf⟩
      | succ n ih =>
        intro y hn hy hl
        rw [nI_pred] at hy
        subst hy
        have hnl : n < nE A := by omega
        obtain ⟨g1, g2, g3, g4⟩ := r3.2 n hnl
        refine bkX10_inForce_16 (fun z => absurd z (nI_pos (by omega))) (fun _ => ?_)
        refine bkX10_inForce_20 r1 (C_editionAt r1 r3 ok) (fun r u hq => ?_)
        obtain ⟨rfl, rfl⟩ := hq
        rw [if_pos ⟨nI_pos' (by omega), nI_lt hnl (by omega)⟩, nI_clamp (by omega)]
        refine bkX10_inForce_25 (fun z => by cases z) (fun z _ => ?_)
        rw [lastIn_s] at hl
        refine bkX10_inForce_30 g2.2.1 (fun z => ?_) (fun z => ?_)
        · rw [g2.2.2.1] at z
          rw [if_neg (Int32.not_le.mpr z)] at hl
          refine bkX10_inForce_45 (ih _ (by omega) ?_ hl)
          rw [show (-1 : Int32) = 0 - 1 by decide, Int32.sub_eq_add_neg, Int32.zero_add, ← Int32.sub_eq_add_neg]
        · rw [g2.2.2.1] at z
          rw [if_pos (Int32.not_lt.mp z)] at hl
          refine bkX10_inForce_38 r1 (C_takeInHand r1 r2 r3 r5 r6 r7 ok hnl) (fun v hq => bkX10_inForce_43 ?_)
          show CP u (fInForce A x) (nI n) v
          unfold fInForce
          rw [if_pos q, ← hl]
          exact ⟨rfl, hq.1, hq.2⟩
    exact key (nE A) _ (Nat.le_refl _) rfl rfl
  · rw [decide_eq_false q]
    refine bkX10_inForce_4 (fun z => absurd rfl z) (fun _ => bkX10_inForce_7 ?_)
    show CP t (fInForce A x) (-1) t
    unfold fInForce
    rw [if_neg q]
    exact ⟨rfl, R0, frC.rf⟩
theorem M_inForce {x : Int32} (R : RepM h A) (ok : okA A) : Cd X mX11_inForce [.ref 35, .int x] h 0 0 (oI (MP h (fInForce A x)) nX) := by
  have R1 := R.z (v := 0) ok
  have h6 := ok.2.1
  generalize hh : sI h 35 0 0 = h1 at R1
  have z1 : frM h h1 := hh ▸ z_fr
  refine bkX11_inForce_0 R.1 ?_
  rw [hh]
  have neg1 : Gd X mX11_inForce 50 [some (.ref 35), none, some (.int (-1)), none] [] h1 0 0 (oI (fun r t => r = -1 ∧ t = h1) nX) := bkX11_inForce_50 (fun _ => bkX11_inForce_59 ⟨rfl, rfl⟩) (fun z => absurd (by decide) z)
  have none0 : fInForce A x = (-1, A) → Gd X mX11_inForce 50 [some (.ref 35), none, some (.int (-1)), none] [] h1 0 0 (oI (MP h (fInForce A x)) nX) := fun e => bkX11_inForce_50 (fun _ => bkX11_inForce_59 (by
    show MP h (fInForce A x) (-1) h1
    rw [e]; exact ⟨rfl, R1, z1⟩)) (fun z => absurd (by decide) z)
  by_cases q : 0 ≤ x ∧ x ≤ 9999
  · refine for_up (G := fun n u => Gd X mX11_inForce 9 [some (.ref 35), some (.int x), some (.int (match lastIn A x n with | some i => nI i | none => -1)), some (.int (nI n))] [] u 0 0 (oI (MP h (fInForce A x)) nX)) (I := fun _ u => u = h1) (nE A) ?_ ?_ 0 h1 (Nat.zero_le _) rfl
    · rintro u rfl
      refine bkX11_inForce_9 R1.1 (fun _ => ?_) (fun z => absurd (by rw [R1.2.2.1.1]; exact (Int32.le_refl _)) z)
      cases hl : lastIn A x (nE A) with
      | none => exact none0 (by unfold fInForce; rw [if_pos q, hl])
      | some i =>
        have hlt := lastIn_lt hl
        refine bkX11_inForce_50 (fun z => absurd z (nI_pos (by omega))) (fun _ => ?_)
        refine bkX11_inForce_54 R1.1 (M_takes R1 ok hlt) (fun v hq => bkX11_inForce_59 ?_)
        show MP h (fInForce A x) (nI i) v
        unfold fInForce
        rw [if_pos q, hl]
        exact ⟨rfl, hq.1, z1.tr hq.2⟩
    · rintro n u hn rfl ih
      have hfr := (R1.2.2.1.2 n hn).2
      refine bkX11_inForce_9 R1.1 (fun z => ?_) (fun _ => ?_)
      · rw [R1.2.2.1.1] at z; exact absurd z (nI_ge hn (by omega))
      refine bkX11_inForce_17 (fun z => absurd q.1 (i_neg.mp z)) (fun _ => ?_)
      refine bkX11_inForce_21 (fun z => absurd z (Int32.not_lt.mpr q.2)) (fun _ => ?_)
      have nx := ih _ rfl
      unfold lastIn at nx
      refine bkX11_inForce_28 R1.1 (vp_in_nI (by omega) (by omega)) (fun z => ?_) (fun z => ?_)
      · rw [nI_clamp (by omega)] at z
        have e : hI _ (35 + 6) n = nI (ed A n).1 := hfr
        rw [e] at z
        rw [if_neg (Int32.not_le.mpr z)] at nx
        refine bkX11_inForce_42 (bkX11_inForce_43 ?_)
        rw [nI_1]; exact nx
      · rw [nI_clamp (by omega)] at z
        have e : hI _ (35 + 6) n = nI (ed A n).1 := hfr
        rw [e] at z
        rw [if_pos (Int32.not_lt.mp z)] at nx
        refine bkX11_inForce_38 (bkX11_inForce_43 ?_)
        rw [nI_1]; exact nx
  · have e : fInForce A x = (-1, A) := by unfold fInForce; rw [if_neg q]
    refine bkX11_inForce_9 R1.1 (fun _ => none0 e) (fun _ => ?_)
    refine bkX11_inForce_17 (fun _ => none0 e) (fun z1 => ?_)
    refine bkX11_inForce_21 (fun _ => none0 e) (fun z2 => ?_)
    exact absurd ⟨Int32.not_lt.mp z1, Int32.not_lt.mp z2⟩ q
end SC
