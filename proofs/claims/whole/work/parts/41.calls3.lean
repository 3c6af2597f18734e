/-! ===== working, free, make, look ===== -/
section S3
variable {X : GX} {h : SH} {A : Abs}
def fWorking (A : Abs) (x y : Int32) : Int32 × Abs := (if 0 ≤ x ∧ y ≤ 9999 ∧ x ≤ y then nI (wkc (aF A) x.toNatClampNeg y.toNatClampNeg) else -1, A)
theorem C_working {x y : Int32} (R : RepC h A) : Cd X mX10_working [.ref 8, .int x, .int y] h 0 0 (oI (CP h (fWorking A x y)) nX) := by
  have R0 := R
  obtain ⟨ad, r1, r2, r3, r4, r5, r6, r7⟩ := R
  have no : ¬ (0 ≤ x ∧ y ≤ 9999 ∧ x ≤ y) → Gd X mX10_working 19 [none, none, none] [] h 0 0 (oI (CP h (fWorking A x y)) nX) := fun q => bkX10_working_19 (by
    show CP h (fWorking A x y) (-1) h
    exact ⟨(if_neg q).symm, R0, frC.rf⟩)
  refine bkX10_working_0 C_isDay (fun r t hq => ?_)
  obtain ⟨rfl, rfl⟩ := hq
  refine bkX10_working_4 (fun q => ?_) (fun q1 => ?_)
  · rw [bI_0, decide_eq_false_iff_not] at q
    exact no (fun z => q ⟨z.1, Int32.le_trans z.2.2 z.2.1⟩)
  rw [bI_0, Bool.not_eq_false, decide_eq_true_iff] at q1
  refine bkX10_working_7 C_isDay (fun r u hq => ?_)
  obtain ⟨rfl, rfl⟩ := hq
  refine bkX10_working_11 (fun q => ?_) (fun q2 => ?_)
  · rw [bI_0, decide_eq_false_iff_not] at q
    exact no (fun z => q ⟨Int32.le_trans z.1 z.2.2, z.2.1⟩)
  rw [bI_0, Bool.not_eq_false, decide_eq_true_iff] at q2
  refine bkX10_working_14 (fun q3 => ?_) (fun q => no (fun z => q z.2.2))
  obtain ⟨n, hn, rfl⟩ := nI_some q1.1
  obtain ⟨k, hk, rfl⟩ := nI_some q2.1
  have b1 := q2.2
  rw [n9999, nI_leI (by omega) (by omega)] at b1
  have b2 := (nI_leI (by omega) (by omega)).mp q3
  refine bkX10_working_21 r1 (c_workingDays r5 b2 b1) (fun r v hq => bkX10_working_30 ?_)
  obtain ⟨rfl, rfl⟩ := hq
  refine ⟨?_, R0, frC.rf⟩
  show _ = if _ then _ else _
  rw [if_pos ⟨q1.1, q2.2, q3⟩, nI_clamp (by omega), nI_clamp (by omega)]
theorem M_working {x y : Int32} (R : RepM h A) (ok : okA A) : Cd X mX11_working [.ref 35, .int x, .int y] h 0 0 (oI (MP h (fWorking A x y)) nX) := by
  have R1 := R.z (v := 0) ok
  generalize hh1 : sI h 35 0 0 = h1 at R1
  have z1 : frM h h1 := hh1 ▸ z_fr
  have no : ¬ (0 ≤ x ∧ y ≤ 9999 ∧ x ≤ y) → Gd X mX11_working 21 [none, none, none] [] h1 0 0 (oI (MP h (fWorking A x y)) nX) := fun q => bkX11_working_21 (bkX11_working_31 (by
    show MP h (fWorking A x y) (-1) h1
    exact ⟨(if_neg q).symm, R1, z1⟩))
  refine bkX11_working_0 R.1 (fun q => ?_) (fun q1 => ?_)
  · rw [hh1]; exact no (fun z => i_neg.mp q z.1)
  rw [hh1]
  refine bkX11_working_9 (fun q => no (fun z => absurd q (Int32.not_lt.mpr z.2.1))) (fun q2 => ?_)
  refine bkX11_working_16 (fun q3 => ?_) (fun q => no (fun z => q z.2.2))
  have a1 : (0 : Int32) ≤ x := Int32.not_lt.mp q1
  have a2 : y ≤ 9999 := Int32.not_lt.mp q2
  obtain ⟨n, hn, rfl⟩ := nI_some a1
  obtain ⟨k, hk, rfl⟩ := nI_some (Int32.le_trans a1 q3)
  have b1 := a2
  rw [n9999, nI_leI (by omega) (by omega)] at b1
  have b2 := (nI_leI (by omega) (by omega)).mp q3
  refine bkX11_working_25 R1.1 (c_workingIn R1.1 R1.2.2.2.2.1 b2 b1) (fun r v hq => bkX11_working_31 ?_)
  obtain ⟨rfl, rfl⟩ := hq
  refine ⟨?_, R1, z1⟩
  show _ = if _ then _ else _
  rw [if_pos ⟨a1, a2, q3⟩, nI_clamp (by omega), nI_clamp (by omega)]
def setF (A : Abs) (L : List Nat) : Abs := (aT A, aE A, aH A, aN A, L, aL A)
def fFree (A : Abs) (x : Int32) (b : Bool) : Int32 × Abs := if 0 ≤ x ∧ x ≤ 9999 then
    (if b then (if (aF A).length = 40 ∨ x.toNatClampNeg ∈ aF A then (0, A) else (1, setF A (addF (aF A) x.toNatClampNeg)))
      else (if x.toNatClampNeg ∈ aF A then (1, setF A (remF (aF A) x.toNatClampNeg)) else (0, A)))
  else (0, A)
theorem fFree_ok {x : Int32} {b : Bool} (ok : okA A) : okA (fFree A x b).2 := by
  unfold fFree
  split
  · split
    · split
      · exact ok
      · exact ok
    · split
      · exact ok
      · exact ok
  · exact ok
theorem sA_at {a i : Nat} {v : Option Nat} : hA (sA h a i v) a i = v := by show (if a = a ∧ i = i then v else _) = v; rw [if_pos ⟨rfl, rfl⟩]
theorem sA_ne {a i b j : Nat} {v : Option Nat} (q : ¬ (b = a ∧ j = i)) : hA (sA h a i v) b j = hA h b j := by show (if b = a ∧ j = i then v else _) = _; rw [if_neg q]; rfl
theorem kup_sA {a i : Nat} {v : Option Nat} (hm : mutR a i) : kup (Sk h) (Sk (sA h a i v)) := ⟨Nat.le_refl _, fun _ _ => rfl, fun b j hb hn => sA_ne (h := h) (fun z => hn (by rw [z.1, z.2]; exact hm))⟩
/-- the comparison forgotten, other free days -/
theorem c_forget (F : LX8 (Sk h) 21) : Cd X mX8_forgetComparison [.ref 21] h 0 0 (oV (fun t => t = sA (sA h 21 3 none) 21 4 none) nX) := by
  have F1 : LX8 (Sk (sA h 21 3 none)) 21 := F.up (kup_sA (Or.inr (Or.inr ⟨rfl, Or.inl rfl⟩)))
  exact bkX8_forgetComparison_0 F (bkX8_forgetComparison_5 F1 (bkX8_forgetComparison_10 rfl))
theorem C_free {x : Int32} {b : Bool} (R : RepC h A) (ok : okA A) : Cd X mX10_free [.ref 8, .int x, .int (bI b)] h 0 0 (oI (CP h (fFree A x b)) nX) := by
  have R0 := R
  obtain ⟨ad, r1, r2, r3, r4, r5, r6, r7⟩ := R
  refine bkX10_free_0 C_isDay (fun r t hq => ?_)
  obtain ⟨rfl, rfl⟩ := hq
  refine bkX10_free_4 (fun q => ?_) (fun q => ?_)
  · rw [bI_0, Bool.not_eq_false, decide_eq_true_iff] at q
    obtain ⟨n, hn, rfl⟩ := nI_some q.1
    have b1 := q.2
    rw [n9999, nI_leI (by omega) (by omega)] at b1
    have ef : fFree A (nI n) b = (if b then (if (aF A).length = 40 ∨ n ∈ aF A then (0, A) else (1, setF A (addF (aF A) n))) else (if n ∈ aF A then (1, setF A (remF (aF A) n)) else (0, A))) := by unfold fFree; rw [if_pos q, nI_clamp (by omega)]
    have no : fFree A (nI n) b = (0, A) → Gd X mX10_free 32 [some (.ref 8), none, none, none] [.int 0] t 0 0 (oI (CP t (fFree A (nI n) b)) nX) := fun e => bkX10_free_32 (fun _ => bkX10_free_44 (Or.inl rfl) (by
      show CP t (fFree A (nI n) b) 0 t
      rw [e]; exact ⟨rfl, R0, frC.rf⟩)) (fun z => absurd rfl z)
    have yes : ∀ (u : SH) (L : List Nat), fFree A (nI n) b = (1, setF A L) → chI (caS 14) t u → CalR u 14 L → Gd X mX10_free 32 [some (.ref 8), none, none, none] [.int 1] u 0 0 (oI (CP t (fFree A (nI n) b)) nX) := fun u L e c1 c2 => by
      have F1 : LX10 (Sk u) 8 := c1.1 ▸ r1
      refine bkX10_free_32 (fun z => absurd z (by decide)) (fun _ => ?_)
      refine bkX10_free_37 F1 (c_forget (LX10.l_survey F1)) (fun v hv => bkX10_free_44 (Or.inr rfl) ?_)
      subst hv
      show CP t (fFree A (nI n) b) 1 _
      rw [e]
      have k1 : kup (Sk u) (Sk (sA u 21 3 none)) := kup_sA (Or.inr (Or.inr ⟨rfl, Or.inl rfl⟩))
      have k2 : kup (Sk (sA u 21 3 none)) (Sk (sA (sA u 21 3 none) 21 4 none)) := kup_sA (Or.inr (Or.inr ⟨rfl, Or.inr rfl⟩))
      have k3 := k1.tr k2
      have u1 : agU t (sA (sA u 21 3 none) 21 4 none) := (c1.agU (fun b q => by omega)).tr ⟨k3, fun _ _ _ => ⟨rfl, rfl⟩⟩
      have hI' : ∀ b, b ≠ 14 → b ≠ 15 → hI (sA (sA u 21 3 none) 21 4 none) b = hI t b := fun b h1 h2 => c1.2.2 b (by omega)
      have hA' : ∀ b j, b ≠ 21 → hA (sA (sA u 21 3 none) 21 4 none) b j = hA t b j := fun b j hb => by rw [sA_ne (fun z => hb z.1), sA_ne (fun z => hb z.1), c1.hA]
      refine ⟨rfl, ⟨ad, F1.up k3, r2.cg rfl (by rw [hI' 8 (by decide) (by decide)]) (hI' 9 (by decide) (by decide)), r3.cu rfl u1 (by rw [hI' 8 (by decide) (by decide)]) (fun i _ => hA' _ _ (by decide)), r4.cg rfl rfl rfl (hA' _ _ (by decide)) (hI' 12 (by decide) (by decide)), ⟨c2.1.up k3 (by unfold nm; decide), c2.2.1, c2.2.2.1, c2.2.2.2.1, c2.2.2.2.2⟩, r6.cg rfl (by rw [hI' 8 (by decide) (by decide)]) (hI' 16 (by decide) (by decide)) (hI' 18 (by decide) (by decide)) (hI' 20 (by decide) (by decide)), Or.inl ?_⟩, (c1.frC (fun b q => by omega)).tr ⟨k3, fun _ _ _ => ⟨rfl, rfl⟩⟩⟩
      rw [sA_ne (by decide), sA_at]
    cases b with
    | true =>
      refine bkX10_free_9 (fun z => absurd z (by decide)) (fun _ => ?_)
      refine bkX10_free_13 r1 (c_addFree r5 b1) (fun r u hq => bkX10_free_21 ?_)
      obtain ⟨g1, g2⟩ := hq
      by_cases z : (aF A).length = 40 ∨ n ∈ aF A
      · rw [if_pos z] at g2
        obtain ⟨rfl, rfl⟩ := g2
        exact no (by rw [ef, if_pos rfl, if_pos z])
      · rw [if_neg z] at g2
        obtain ⟨rfl, g2⟩ := g2
        exact yes u _ (by rw [ef, if_pos rfl, if_neg z]) g1 g2
    | false =>
      refine bkX10_free_9 (fun _ => ?_) (fun z => absurd (by decide) z)
      refine bkX10_free_24 r1 (c_removeFree r5 b1) (fun r u hq => ?_)
      obtain ⟨g1, g2⟩ := hq
      by_cases z : n ∈ aF A
      · rw [if_pos z] at g2
        obtain ⟨rfl, g2⟩ := g2
        exact yes u _ (by rw [ef, if_neg (by decide), if_pos z]) g1 g2
      · rw [if_neg z] at g2
        obtain ⟨rfl, rfl⟩ := g2
        exact no (by rw [ef, if_neg (by decide), if_neg z])
  · rw [bI_0, decide_eq_false_iff_not] at q
    refine bkX10_free_7 ?_
    show CP t (fFree A x b) 0 t
    unfold fFree
    rw [if_neg q]
    exact ⟨rfl, R0, frC.rf⟩
theorem cont_eq {L L' : List Nat} {d n : Nat} (h : d ∈ L' ↔ (if d = n then True else d ∈ L)) : L'.contains d = (if d = n then true else L.contains d) := by
  by_cases q : d = n
  · rw [if_pos q] at h ⊢; exact List.contains_iff_mem.mpr (h.mpr trivial)
  · rw [if_neg q] at h ⊢
    cases e : L.contains d with
    | true => exact List.contains_iff_mem.mpr (h.mpr (List.contains_iff_mem.mp e))
    | false =>
      cases e2 : L'.contains d with
      | false => rfl
      | true => have := h.mp (List.contains_iff_mem.mp e2); rw [List.contains_iff_mem.mpr this] at e; cases e
theorem cont_eq2 {L L' : List Nat} {d n : Nat} (h : d ∈ L' ↔ (d ≠ n ∧ d ∈ L)) : L'.contains d = (if d = n then false else L.contains d) := by
  by_cases q : d = n
  · rw [if_pos q]
    cases e2 : L'.contains d with
    | false => rfl
    | true => exact absurd q (h.mp (List.contains_iff_mem.mp e2)).1
  · rw [if_neg q]
    cases e : L.contains d with
    | true => exact List.contains_iff_mem.mpr (h.mpr ⟨q, List.contains_iff_mem.mp e⟩)
    | false =>
      cases e2 : L'.contains d with
      | false => rfl
      | true => have := (h.mp (List.contains_iff_mem.mp e2)).2; rw [List.contains_iff_mem.mpr this] at e; cases e
theorem M_free {x : Int32} {b : Bool} (R : RepM h A) (ok : okA A) : Cd X mX11_free [.ref 35, .int x, .int (bI b)] h 0 0 (oI (MP h (fFree A x b)) nX) := by
  have R1 := R.z (v := 0) ok
  generalize hh1 : sI h 35 0 0 = h1 at R1
  have z1 : frM h h1 := hh1 ▸ z_fr
  have no : fFree A x b = (0, A) → Gd X mX11_free 39 [none, none, none] [] h1 0 0 (oI (MP h (fFree A x b)) nX) := fun e => bkX11_free_39 (by
    show MP h (fFree A x b) 0 h1
    rw [e]; exact ⟨rfl, R1, z1⟩)
  refine bkX11_free_0 R.1 (fun q => ?_) (fun q1 => ?_)
  · rw [hh1]; exact no (by unfold fFree; rw [if_neg (fun z => i_neg.mp q z.1)])
  rw [hh1]
  refine bkX11_free_9 (fun q => no (by unfold fFree; rw [if_neg (fun z => absurd q (Int32.not_lt.mpr z.2))])) (fun q2 => ?_)
  have a1 : (0 : Int32) ≤ x := Int32.not_lt.mp q1
  have a2 : x ≤ 9999 := Int32.not_lt.mp q2
  obtain ⟨n, hn, rfl⟩ := nI_some a1
  have b1 := a2
  rw [n9999, nI_leI (by omega) (by omega)] at b1
  have ef : fFree A (nI n) b = (if b then (if (aF A).length = 40 ∨ n ∈ aF A then (0, A) else (1, setF A (addF (aF A) n))) else (if n ∈ aF A then (1, setF A (remF (aF A) n)) else (0, A))) := by unfold fFree; rw [if_pos ⟨a1, a2⟩, nI_clamp (by omega)]
  have CM := R1.2.2.2.2.1
  have hl40 := CM.2.1
  have e28 : hI h1 (35 + 28) n = bI ((aF A).contains n) := CM.2.2.1 n (by omega)
  have bi : ∀ p q : Bool, bI p = bI q ↔ p = q := by decide
  have yes : ∀ L : List Nat, fFree A (nI n) b = (1, setF A L) → L.length ≤ 40 → (nI (aF A).length + (if b then 1 else -1) = nI L.length) → (∀ d, L.contains d = (if d = n then b else (aF A).contains d)) → L.Pairwise (· < ·) → (∀ d ∈ L, d ≤ 9999) → Gd X mX11_free 41 [some (.ref 35), some (.int (nI n)), some (.int (bI b))] [] h1 0 0 (oI (MP h (fFree A (nI n) b)) nX) := fun L e hl hlen hc hp hm => by
    have fin : ∀ w : Int32, w = (if b then 1 else -1) → Gd X mX11_free 62 [none, none, none] [.int w, .int (hI (sI h1 63 n (bI b)) 35 36), .ref 35] (sI h1 63 n (bI b)) 0 0 (oI (MP h (fFree A (nI n) b)) nX) := fun w hw => by
      refine bkX11_free_62 (show LX11 (Sk (sI h1 63 n (bI b))) 35 from R1.1) ?_
      show MP h (fFree A (nI n) b) 1 _
      rw [e, sI_nb (h := h1) (b := 35) (by decide), CM.1, hw, hlen]
      have c1 : chI (fun b => b = 35 ∨ b = 63) h1 (sI (sI h1 63 n (bI b)) 35 36 (nI L.length)) := (chI.rf.s (Or.inr rfl)).s (Or.inl rfl)
      have h35 : ∀ j, j ≠ 36 → hI (sI (sI h1 63 n (bI b)) 35 36 (nI L.length)) 35 j = hI h1 35 j := fun j hj => by rw [sI_nj hj, sI_nb (by decide)]
      have hbo : ∀ q, q ≠ 35 → q ≠ 63 → hI (sI (sI h1 63 n (bI b)) 35 36 (nI L.length)) q = hI h1 q := fun q g1 g2 => by rw [sI_nb g1, sI_nb g2]
      obtain ⟨r1, r2, r3, r4, r5, r6, r7⟩ := R1
      refine ⟨rfl, ⟨r1, ?_, ⟨by rw [h35 10 (by decide)]; exact r3.1, fun i hi => ⟨(r3.2 i hi).1.cg ⟨fun q j z => by rw [hbo q (by unfold sgm at z; omega) (by unfold sgm at z; omega)], fun q j z => rfl⟩ (ok.2.2.1 i hi), by rw [hbo 41 (by decide) (by decide)]; exact (r3.2 i hi).2⟩⟩, ?_, ?_, ?_, r7⟩, z1.tr (c1.frM (fun b q => by omega))⟩
      · rw [h35 2 (by decide), hbo 36 (by decide) (by decide)]; exact r2
      · rw [h35 34 (by decide), hbo 62 (by decide) (by decide)]; exact r4
      · refine ⟨sI_at, hl, fun d hd => ?_, hp, hm⟩
        rw [sI_nb (by decide)]
        show hI (sI h1 63 n (bI b)) 63 d = bI (L.contains d)
        rw [hc d]
        by_cases y : d = n
        · subst y; rw [sI_at, if_pos rfl]
        · rw [sI_nj y, if_neg y]; exact r5.2.2.1 d hd
      · rw [h35 49 (by decide), h35 50 (by decide), h35 51 (by decide), h35 52 (by decide), h35 53 (by decide), hbo 69 (by decide) (by decide), hbo 70 (by decide) (by decide)]; exact r6
    refine bkX11_free_41 R1.1 (vp_in_nI (by omega) (by omega)) (fun z => ?_) (fun z => ?_)
    · rw [nI_clamp (by omega), nar_b]
      rw [bI_0] at z
      exact bkX11_free_61 (fin _ (by rw [z]; rfl))
    · rw [nI_clamp (by omega), nar_b]
      rw [bI_0, Bool.not_eq_false] at z
      exact bkX11_free_57 (fin _ (by rw [z]; rfl))
  refine bkX11_free_16 R1.1 (vp_in_nI (by omega) (by omega)) (fun q => ?_) (fun q => ?_)
  · rw [nI_clamp (by omega), e28, bi] at q
    refine no ?_
    rw [ef]
    cases b with
    | true => rw [if_pos rfl, if_pos (Or.inr (List.contains_iff_mem.mp q))]
    | false => rw [if_neg (by decide), if_neg (fun z => by rw [List.contains_iff_mem.mpr z] at q; cases q)]
  · rw [nI_clamp (by omega), e28, bi] at q
    cases b with
    | false =>
      refine bkX11_free_26 (fun _ => ?_) (fun z => absurd (by decide) z)
      have hm : n ∈ aF A := by
        cases e : (aF A).contains n with
        | true => exact List.contains_iff_mem.mp e
        | false => exact absurd e q
      obtain ⟨hlt, _⟩ := (fnb_mem CM.2.2.2.1).mp hm
      refine yes (remF (aF A) n) (by rw [ef, if_neg (by decide), if_pos hm]) (by rw [remF_len hlt]; omega) ?_ (fun d => cont_eq2 (remF_mem CM.2.2.2.1 hm)) (remF_ok CM.2.2.2.1) (fun d hd => CM.2.2.2.2 d (remF_sub hd))
      rw [remF_len hlt]
      obtain ⟨k, hk⟩ : ∃ k, (aF A).length = k + 1 := ⟨(aF A).length - 1, by omega⟩
      rw [hk, if_neg (by decide), pk_m1, Nat.add_sub_cancel]
    | true =>
      refine bkX11_free_26 (fun z => absurd z (by decide)) (fun _ => ?_)
      have hm : n ∉ aF A := fun z => q (List.contains_iff_mem.mpr z)
      refine bkX11_free_30 R1.1 (fun z => ?_) (fun z => ?_)
      · rw [CM.1, n40, nI_eq (by omega) (by omega)] at z
        refine yes (addF (aF A) n) (by rw [ef, if_pos rfl, if_neg (fun y => y.elim z hm)]) (by rw [addF_len CM.2.2.2.1]; omega) (by rw [addF_len CM.2.2.2.1, if_pos rfl, nI_1]) (fun d => cont_eq ?_) (addF_ok CM.2.2.2.1 hm) (fun d hd => (addF_mem.mp hd).elim (fun y => by omega) (fun y => CM.2.2.2.2 d y))
        rw [addF_mem]
        by_cases y : d = n
        · rw [if_pos y]; exact ⟨fun _ => trivial, fun _ => Or.inl y⟩
        · rw [if_neg y]; exact ⟨fun w => w.resolve_left y, Or.inr⟩
      · rw [CM.1, n40, nI_eq (by omega) (by omega)] at z
        exact no (by rw [ef, if_pos rfl, if_pos (Or.inl z)])
def setL (A : Abs) (Z : Ltr) : Abs := (aT A, aE A, aH A, aN A, aF A, some Z)
def fMake (A : Abs) (x : Int32) : Int32 × Abs := match aH A with
  | none => (-1, A)
  | some i => if 0 ≤ x ∧ x ≤ 9999 then (nI (lett (dueN (aF A) x.toNatClampNeg) (ed A i) (aN A)).1.1, setL A (lett (dueN (aF A) x.toNatClampNeg) (ed A i) (aN A))) else (-1, A)
theorem fMake_ok {x : Int32} (ok : okA A) : okA (fMake A x).2 := by
  unfold fMake
  cases hh : aH A with
  | none => exact ok
  | some i => show okA (if _ then _ else _ : Int32 × Abs).2
              split
              · exact ok
              · exact ok
theorem num_w (ok : okA A) {i : Nat} (hh : aH A = some i) : ∀ k, k < (eF (ed A i)).length → (aN A k).toInt.natAbs ≤ 9999 := fun k hk => by
  have o2 := ok.2.2.2.2 i hh
  obtain ⟨n, e, h1, h2⟩ := o2.2 k hk
  have := ok_fact (ok.2.2.1 i o2.1) hk
  rw [e, nI_toInt (by omega)]; omega
theorem C_make {x : Int32} (R : RepC h A) (ok : okA A) : Cd X mX10_make [.ref 8, .int x] h 0 0 (oI (CP h (fMake A x)) nX) := by
  have R0 := R
  obtain ⟨ad, r1, r2, r3, r4, r5, r6, r7⟩ := R
  have no : fMake A x = (-1, A) → Gd X mX10_make 14 [none, none] [] h 0 0 (oI (CP h (fMake A x)) nX) := fun e => bkX10_make_14 (by
    show CP h (fMake A x) (-1) h
    rw [e]; exact ⟨rfl, R0, frC.rf⟩)
  cases hh : aH A with
  | none =>
    have e4 : hA h 8 4 = none := by rw [r4.1, hh]; rfl
    exact bkX10_make_0 r1 (fun _ => no (by unfold fMake; rw [hh])) (fun z hz => by rw [e4] at hz; cases hz)
  | some i =>
    obtain ⟨hlt, h4, hE, oke⟩ := RH.ed r3 r4 ok hh
    refine bkX10_make_0 r1 (fun z => by rw [h4] at z; cases z) (fun z hz => ?_)
    refine bkX10_make_7 C_isDay (fun r t hq => ?_)
    obtain ⟨rfl, rfl⟩ := hq
    refine bkX10_make_11 (fun q => ?_) (fun q => ?_)
    · rw [bI_0, Bool.not_eq_false, decide_eq_true_iff] at q
      obtain ⟨n, hn, rfl⟩ := nI_some q.1
      have b1 := q.2
      rw [n9999, nI_leI (by omega) (by omega)] at b1
      have c0 : chI (fun b => b = 8 ∨ cmS 16 11 b) t (sI t 8 8 1) := chI.rf.s (Or.inl rfl)
      have hE1 := hE.cg ((chI.rf.s (S := (· = 8)) rfl : chI (· = 8) t (sI t 8 8 1)).ag (fun b q => by omega))
      have F1 : LX10 (Sk (sI t 8 8 1)) 8 := r1
      have C1 : CalR (sI t 8 8 1) (8 + 6) (aF A) := r5.cg rfl (by rw [sI_nb (by decide)]) (by rw [sI_nb (by decide)])
      refine bkX10_make_16 r1 h4 (c_compose (a := 8 + 8) (c := 8 + 3) (k := 8 + 6) (cs := aN A) hE1 oke (LX10.l_latest F1) (by decide) (LX10.l_facts F1) (by decide) (Or.inl (by decide)) (fun k hk => ?_) (num_w ok hh) C1 (by decide) (Or.inl (by decide)) (Or.inr (by decide)) b1) (fun u hq => ?_)
      · show hI (sI t 8 8 1) 12 k = _
        rw [sI_nb (by decide)]; exact r4.2 i hh k hk
      obtain ⟨g1, g2⟩ := hq
      have g1' : chI (cmS 16 11) (sI t 8 8 1) u := g1
      have c1 : chI (fun b => b = 8 ∨ cmS 16 11 b) t u := c0.tr (g1'.up (fun b q => Or.inr q))
      have hI' : ∀ b, b ≠ 8 → ¬ cmS 16 11 b → hI u b = hI t b := fun b h1 h2 => c1.2.2 b (fun z => z.elim h1 h2)
      have h8' : hI u 8 = hI (sI t 8 8 1) 8 := g1'.2.2 8 (by unfold cmS; omega)
      have h88 : hI u 8 8 = 1 := by rw [h8', sI_at]
      have h8o : ∀ j, j ≠ 8 → hI u 8 j = hI t 8 j := fun j hj => by rw [h8', sI_nj hj]
      have F2 : LX10 (Sk u) 8 := c1.1 ▸ r1
      refine bkX10_make_41 F2 ?_
      have ef : fMake A (nI n) = (nI (lett (dueN (aF A) n) (ed A i) (aN A)).1.1, setL A (lett (dueN (aF A) n) (ed A i) (aN A))) := by unfold fMake; rw [hh]; show (if _ then _ else _) = _; rw [if_pos q, nI_clamp (by omega)]
      show CP t (fMake A (nI n)) _ u
      rw [ef]
      have S73 : ∀ b, (b = 8 ∨ cmS 16 11 b) → b < 35 := fun b q => by unfold cmS at q; omega
      refine ⟨g2.1.1, ⟨ad, F2, r2.cg rfl (h8o 1 (by decide)) (hI' 9 (by decide) (by unfold cmS; omega)), r3.cu rfl (c1.agU (fun b q => by have := S73 b q; omega)) (h8o 3 (by decide)) (fun i _ => by rw [c1.hA]), r4.cg rfl rfl rfl (by rw [c1.hA]) (hI' 12 (by decide) (by unfold cmS; omega)), r5.cg c1.1 (by rw [hI' 14 (by decide) (by unfold cmS; omega)]) (hI' 15 (by decide) (by unfold cmS; omega)), ⟨h88, g2⟩, r7.cg rfl rfl (by rw [c1.hA]) (by rw [c1.hA]) (fun j _ => by rw [hI' 21 (by decide) (by unfold cmS; omega)])⟩, c1.frC (fun b q => by have := S73 b q; omega)⟩
    · rw [bI_0, decide_eq_false_iff_not] at q
      exact no (by unfold fMake; rw [hh]; show (if _ then _ else _) = _; rw [if_neg q])
theorem lett_bd {D : Int32 → Int32} {E : Edn} {cs : Nat → Int32} (ok : okE E) : (lett D E cs).1.1 ≤ 4 ∧ (lett D E cs).2.1.length ≤ 12 ∧ (lett D E cs).2.2.length ≤ 2772 := by
  refine ⟨by rw [lett_q]; exact quar_4 _ _, ?_, ?_⟩
  · unfold lett; split
    · have := prts_len E (insd E cs); have h2 : (eC E).length ≤ 12 := ok.2.2.1; show (prts E (insd E cs)).length ≤ 12; omega
    · exact Nat.zero_le _
  · unfold lett; split
    · have h1 := prts_len E (insd E cs)
      have h2 : (eC E).length ≤ 12 := ok.2.2.1
      have := txt_len (D := D) (cs := cs) (L := prts E (insd E cs)) ok (fun c hc => (prts_mem.mp hc).1) _ (Nat.le_refl _)
      show (txt D cs E (prts E (insd E cs))).length ≤ 2772
      unfold txt
      omega
    · exact Nat.zero_le _
theorem M_make {x : Int32} (R : RepM h A) (ok : okA A) : Cd X mX11_make [.ref 35, .int x] h 0 0 (oI (MP h (fMake A x)) nX) := by
  have R1 := R.z (v := 0) ok
  generalize hh1 : sI h 35 0 0 = h1 at R1
  have z1 : frM h h1 := hh1 ▸ z_fr
  have no : fMake A x = (-1, A) → Gd X mX11_make 23 [none, none, none] [] h1 0 0 (oI (MP h (fMake A x)) nX) := fun e => bkX11_make_23 (by
    show MP h (fMake A x) (-1) h1
    rw [e]; exact ⟨rfl, R1, z1⟩)
  refine bkX11_make_0 R.1 (fun q => ?_) (fun q => ?_)
  · rw [hh1] at q ⊢
    cases hh : aH A with
    | none => exact no (by unfold fMake; rw [hh])
    | some i => obtain ⟨_, _, h34, _, _⟩ := R1.hand ok hh
                rw [h34] at q; exact absurd q (nI_pos (by omega))
  · rw [hh1] at q ⊢
    cases hh : aH A with
    | none => have h34 := R1.2.2.2.1.1
              rw [hh] at h34
              rw [h34] at q; exact absurd (by decide) q
    | some i =>
      obtain ⟨hlt, h6, h34, hE, oke⟩ := R1.hand ok hh
      have ng : ¬ (0 ≤ x ∧ x ≤ 9999) → fMake A x = (-1, A) := fun q => by unfold fMake; rw [hh]; show (if _ then _ else _) = _; rw [if_neg q]
      refine bkX11_make_12 (fun z => no (ng (fun y => i_neg.mp z y.1))) (fun q1 => ?_)
      refine bkX11_make_16 (fun q2 => ?_) (fun z => no (ng (fun y => z y.2)))
      have a1 : (0 : Int32) ≤ x := Int32.not_lt.mp q1
      obtain ⟨n, hn, rfl⟩ := nI_some a1
      have b1 := q2
      rw [n9999, nI_leI (by omega) (by omega)] at b1
      have ef : fMake A (nI n) = (nI (lett (dueN (aF A) n) (ed A i) (aN A)).1.1, setL A (lett (dueN (aF A) n) (ed A i) (aN A))) := by unfold fMake; rw [hh]; show (if _ then _ else _) = _; rw [if_pos ⟨a1, q2⟩, nI_clamp (by omega)]
      refine bkX11_make_25 R1.1 (c_findBehind R1.1 R1.2.2.2.2.1 b1) (fun t hq => ?_)
      obtain ⟨⟨c1, c2⟩, c3⟩ := hq
      have hE2 := hE.cg (c1.agM (fun b q => by omega) i) oke
      have t34 : hI t 35 34 = nI i := (c2 34 (by decide)).trans h34
      have F2 : LX11 (Sk t) 35 := c1.1 ▸ R1.1
      refine bkX11_make_30 F2 (by rw [t34]; exact c_makes (cs := aN A) F2 hE2 oke h6 (fun k hk => by rw [c1.2.2 (35 + 27) (by omega)]; exact R1.2.2.2.1.2 i hh k hk) (num_w ok hh) c3 b1) (fun u hq => ?_)
      obtain ⟨d1, d2⟩ := hq
      have bd := lett_bd (D := dueN (aF A) n) (cs := aN A) oke
      generalize lett (dueN (aF A) n) (ed A i) (aN A) = Z at d2 ef bd
      have F3 : LX11 (Sk u) 35 := d1.1.1 ▸ F2
      obtain ⟨⟨m1, m2, m3⟩, ⟨m4, m5⟩, m6, m7, m8⟩ := d2
      -- the fields
      refine bkX11_make_39 F3 ?_
      rw [sI_nj (h := u) (j := 45) (by decide), m1, m2]
      have e46 : hI (sI (sI u 35 49 (nI Z.1.1)) 35 50 Z.1.2.1) 35 46 = Z.1.2.2 := by rw [sI_nj (by decide), sI_nj (by decide), m3]
      rw [e46]
      refine bkX11_make_63 F3 ?_
      have e48 : hI (sI (sI (sI u 35 49 (nI Z.1.1)) 35 50 Z.1.2.1) 35 51 Z.1.2.2) 35 48 = nI Z.2.2.length := by rw [sI_nj (by decide), sI_nj (by decide), sI_nj (by decide), m6]
      rw [e48]
      have e43 : hI (sI (sI (sI (sI u 35 49 (nI Z.1.1)) 35 50 Z.1.2.1) 35 51 Z.1.2.2) 35 52 (nI Z.2.2.length)) 35 43 = nI Z.2.1.length := by rw [sI_nj (by decide), sI_nj (by decide), sI_nj (by decide), sI_nj (by decide), m4]
      rw [e43]
      have w49 : hI (sI (sI (sI (sI (sI u 35 49 (nI Z.1.1)) 35 50 Z.1.2.1) 35 51 Z.1.2.2) 35 52 (nI Z.2.2.length)) 35 53 (nI Z.2.1.length)) 35 49 = nI Z.1.1 := by rw [sI_nj (by decide), sI_nj (by decide), sI_nj (by decide), sI_nj (by decide), sI_at]
      have w50 : hI (sI (sI (sI (sI (sI u 35 49 (nI Z.1.1)) 35 50 Z.1.2.1) 35 51 Z.1.2.2) 35 52 (nI Z.2.2.length)) 35 53 (nI Z.2.1.length)) 35 50 = Z.1.2.1 := by rw [sI_nj (by decide), sI_nj (by decide), sI_nj (by decide), sI_at]
      have w51 : hI (sI (sI (sI (sI (sI u 35 49 (nI Z.1.1)) 35 50 Z.1.2.1) 35 51 Z.1.2.2) 35 52 (nI Z.2.2.length)) 35 53 (nI Z.2.1.length)) 35 51 = Z.1.2.2 := by rw [sI_nj (by decide), sI_nj (by decide), sI_at]
      have w52 : hI (sI (sI (sI (sI (sI u 35 49 (nI Z.1.1)) 35 50 Z.1.2.1) 35 51 Z.1.2.2) 35 52 (nI Z.2.2.length)) 35 53 (nI Z.2.1.length)) 35 52 = nI Z.2.2.length := by rw [sI_nj (by decide), sI_at]
      have w53 : hI (sI (sI (sI (sI (sI u 35 49 (nI Z.1.1)) 35 50 Z.1.2.1) 35 51 Z.1.2.2) 35 52 (nI Z.2.2.length)) 35 53 (nI Z.2.1.length)) 35 53 = nI Z.2.1.length := sI_at
      have wlo : ∀ j, j < 49 → hI (sI (sI (sI (sI (sI u 35 49 (nI Z.1.1)) 35 50 Z.1.2.1) 35 51 Z.1.2.2) 35 52 (nI Z.2.2.length)) 35 53 (nI Z.2.1.length)) 35 j = hI u 35 j := fun j hj => by rw [sI_nj (by omega), sI_nj (by omega), sI_nj (by omega), sI_nj (by omega), sI_nj (by omega)]
      have wch : chI (· = 35) u (sI (sI (sI (sI (sI u 35 49 (nI Z.1.1)) 35 50 Z.1.2.1) 35 51 Z.1.2.2) 35 52 (nI Z.2.2.length)) 35 53 (nI Z.2.1.length)) := (((((chI.rf (S := (· = 35))).s rfl).s rfl).s rfl).s rfl).s rfl
      generalize sI (sI (sI (sI (sI u 35 49 (nI Z.1.1)) 35 50 Z.1.2.1) 35 51 Z.1.2.2) 35 52 (nI Z.2.2.length)) 35 53 (nI Z.2.1.length) = w at w49 w50 w51 w52 w53 wlo wch
      have Fw : LX11 (Sk w) 35 := wch.1 ▸ F3
      have v48 : hI w 35 48 = nI Z.2.2.length := (wlo 48 (by decide)).trans m6
      have v43 : hI w 35 43 = nI Z.2.1.length := (wlo 43 (by decide)).trans m4
      have v68 : ∀ (i : Nat) (hi : i < Z.2.2.length), hI w 68 i = nI Z.2.2[i] := fun i hi => by rw [wch.2.2 68 (by decide)]; exact m8 i hi
      have v67 : ∀ (i : Nat) (hi : i < Z.2.1.length), hI w 67 i = nI Z.2.1[i] := fun i hi => by rw [wch.2.2 67 (by decide)]; exact m5 i hi
      refine for_up (G := fun j y => Gd X mX11_make 81 [some (.ref 35), none, some (.int (nI j))] [] y 0 0 (oI (MP h (fMake A (nI n))) nX)) (I := fun j y => chI (· = 69) w y ∧ ∀ (i : Nat) (hi : i < Z.2.2.length), i < j → hI y 69 i = nI Z.2.2[i]) Z.2.2.length ?_ ?_ 0 w (Nat.zero_le _) ⟨chI.rf, fun i _ hi => absurd hi (Nat.not_lt_zero _)⟩
      · rintro y ⟨k1, k2⟩
        have y35 : hI y 35 = hI w 35 := k1.2.2 35 (by decide)
        refine bkX11_make_81 (k1.1 ▸ Fw) (fun _ => bkX11_make_107 ?_) (fun z => absurd (by rw [y35, v48]; exact (Int32.le_refl _)) z)
        refine for_up (G := fun j y => Gd X mX11_make 109 [some (.ref 35), none, some (.int (nI j))] [] y 0 0 (oI (MP h (fMake A (nI n))) nX)) (I := fun j v => chI (· = 70) y v ∧ ∀ (i : Nat) (hi : i < Z.2.1.length), i < j → hI v 70 i = nI Z.2.1[i]) Z.2.1.length ?_ ?_ 0 y (Nat.zero_le _) ⟨chI.rf, fun i _ hi => absurd hi (Nat.not_lt_zero _)⟩
        · rintro v ⟨l1, l2⟩
          have v35 : hI v 35 = hI w 35 := (l1.2.2 35 (by decide)).trans y35
          refine bkX11_make_109 (l1.1 ▸ k1.1 ▸ Fw) (fun _ => ?_) (fun z => absurd (by rw [v35, v43]; exact (Int32.le_refl _)) z)
          refine bkX11_make_135 (l1.1 ▸ k1.1 ▸ Fw) ?_
          show MP h (fMake A (nI n)) (hI v 35 49) v
          rw [ef]
          have call : chI (fun b => b = 35 ∨ b = 62 ∨ (64 ≤ b ∧ b ≤ 72)) h1 v := (((c1.up (fun b q => by omega)).tr (d1.1.up (fun b q => by omega))).tr (wch.up (fun b q => by omega))).tr ((k1.up (fun b q => by omega)).tr (l1.up (fun b q => by omega)))
          have lo : ∀ j, j < 43 → j ≠ 38 → hI v 35 j = hI h1 35 j := fun j g1 g2 => by rw [v35, wlo j (by omega), d1.2 j (by omega), c2 j g2]
          refine ⟨by rw [v35, w49], R1.gen (A' := setL A Z) ok call (fun b q => by omega) rfl rfl rfl (lo 2 (by decide) (by decide)) (lo 10 (by decide) (by decide)) (lo 36 (by decide) (by decide)) ?_ (fun j hj k hk => ?_) ?_, z1.tr (call.frM (fun b q => by omega))⟩
          · rw [lo 34 (by decide) (by decide)]; exact R1.2.2.2.1.1
          · rw [l1.2.2 62 (by decide), k1.2.2 62 (by decide), wch.2.2 62 (by decide), d1.1.2.2 62 (by omega), c1.2.2 62 (by omega)]
            exact R1.2.2.2.1.2 j hj k hk
          · refine ⟨by rw [v35, w49], by rw [v35, w50], by rw [v35, w51], by rw [v35, w52], by rw [v35, w53], fun i hi => by rw [l1.2.2 69 (by decide)]; exact k2 i hi hi, fun i hi => l2 i hi hi, bd.1, bd.2.1, bd.2.2⟩
        · rintro j v hj ⟨l1, l2⟩ ih
          have v35 : hI v 35 = hI w 35 := (l1.2.2 35 (by decide)).trans y35
          have bd2 := bd.2.1
          refine bkX11_make_109 (l1.1 ▸ k1.1 ▸ Fw) (fun z => ?_) (fun _ => ?_)
          · rw [v35, v43] at z; exact absurd z (nI_ge hj (by omega))
          refine bkX11_make_117 (l1.1 ▸ k1.1 ▸ Fw) (vp_in_nI (by omega) (by omega)) ?_
          rw [nI_clamp (by omega), nI_1]
          have e1 : hI v (35 + 32) j = nI Z.2.1[j] := by rw [l1.2.2 (35 + 32) (by decide), k1.2.2 (35 + 32) (by decide)]; exact v67 j hj
          rw [e1]
          refine ih _ ⟨l1.s rfl, fun i hi hij => ?_⟩
          show hI (sI v 70 j _) 70 i = _
          by_cases z : i = j
          · subst z; rw [sI_at]
          · rw [sI_nj z]; exact l2 i hi (by omega)
      · rintro j y hj ⟨k1, k2⟩ ih
        have y35 : hI y 35 = hI w 35 := k1.2.2 35 (by decide)
        have bd2 := bd.2.2
        refine bkX11_make_81 (k1.1 ▸ Fw) (fun z => ?_) (fun _ => ?_)
        · rw [y35, v48] at z; exact absurd z (nI_ge hj (by omega))
        refine bkX11_make_89 (k1.1 ▸ Fw) (vp_in_nI (by omega) (by omega)) ?_
        rw [nI_clamp (by omega), nI_1]
        have e1 : hI y (35 + 33) j = nI Z.2.2[j] := by rw [k1.2.2 (35 + 33) (by decide)]; exact v68 j hj
        rw [e1]
        refine ih _ ⟨k1.s rfl, fun i hi hij => ?_⟩
        show hI (sI y 69 j _) 69 i = _
        by_cases z : i = j
        · subst z; rw [sI_at]
        · rw [sI_nj z]; exact k2 i hi (by omega)
end S3
