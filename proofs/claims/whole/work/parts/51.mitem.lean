/-! ===== the model reads an item ===== -/
section MI2
variable {X : GX} {h : SH} {T : List Tk} {i f : Nat} {F : List Fct}
theorem c_isItem (M : MR h T i) (hT : okT T) : Cd X mX11_isItem [.ref 35] h 0 0 (oI (fun r t => r = bI (stI (kd T i)) ∧ t = h) nX) := by
  have yes : stI (kd T i) = true → Gd X mX11_isItem 34 [none] [] h 0 0 (oI (fun r t => r = bI (stI (kd T i)) ∧ t = h) nX) := fun e => bkX11_isItem_34 (bkX11_isItem_39 (Or.inr rfl) ⟨by rw [e]; rfl, rfl⟩)
  refine bkX11_isItem_0 M.1 (c_isName M hT) (fun r t q => ?_)
  obtain ⟨rfl, ht⟩ := q
  rw [ht]
  refine bkX11_isItem_4 (fun z => yes ?_) (fun z1 => ?_)
  · rw [bI_0, decide_eq_false_iff_not, Decidable.not_not] at z; unfold stI; rw [decide_eq_true (by omega)]
  rw [bI_0, decide_eq_false_iff_not] at z1
  refine bkX11_isItem_7 M.1 (c_isSign (c := 61) M hT (by decide)) (fun r t q => ?_)
  obtain ⟨rfl, ht⟩ := q
  rw [ht]
  refine bkX11_isItem_13 (fun z => yes ?_) (fun z2 => ?_)
  · rw [bI_0, decide_eq_false_iff_not, Decidable.not_not] at z; unfold stI; rw [decide_eq_true (by omega)]
  rw [bI_0, decide_eq_false_iff_not] at z2
  refine bkX11_isItem_16 M.1 (c_isWord (k := 9) M hT (by decide)) (fun r t q => ?_)
  obtain ⟨rfl, ht⟩ := q
  rw [ht]
  refine bkX11_isItem_22 (fun z => yes ?_) (fun z3 => ?_)
  · rw [bI_0, decide_eq_false_iff_not, Decidable.not_not] at z; unfold stI; rw [decide_eq_true (by omega)]
  rw [bI_0, decide_eq_false_iff_not] at z3
  refine bkX11_isItem_25 M.1 (c_isWord (k := 10) M hT (by decide)) (fun r t q => ?_)
  obtain ⟨rfl, ht⟩ := q
  rw [ht]
  refine bkX11_isItem_31 (fun z => ?_) (fun z => yes ?_)
  · rw [bI_0, decide_eq_false_iff_not] at z
    refine bkX11_isItem_38 (bkX11_isItem_39 (Or.inl rfl) ⟨?_, rfl⟩)
    unfold stI; rw [decide_eq_false (by omega)]; rfl
  · rw [bI_0, decide_eq_false_iff_not, Decidable.not_not] at z; unfold stI; rw [decide_eq_true (by omega)]
theorem b_isItem (M : MB h f) : Cd X mX11_isItem [.ref 35] h 0 0 (oI (fun r t => r = 0 ∧ t = h) nX) := by
  refine bkX11_isItem_0 M.1 (b_isName M) (fun r t q => ?_)
  obtain ⟨rfl, ht⟩ := q
  rw [ht]
  refine bkX11_isItem_4 (fun z => absurd rfl z) (fun _ => ?_)
  refine bkX11_isItem_7 M.1 (b_isSign M) (fun r t q => ?_)
  obtain ⟨rfl, ht⟩ := q
  rw [ht]
  refine bkX11_isItem_13 (fun z => absurd rfl z) (fun _ => ?_)
  refine bkX11_isItem_16 M.1 (b_isWord M) (fun r t q => ?_)
  obtain ⟨rfl, ht⟩ := q
  rw [ht]
  refine bkX11_isItem_22 (fun z => absurd rfl z) (fun _ => ?_)
  refine bkX11_isItem_25 M.1 (b_isWord M) (fun r t q => ?_)
  obtain ⟨rfl, ht⟩ := q
  rw [ht]
  exact bkX11_isItem_31 (fun _ => bkX11_isItem_38 (bkX11_isItem_39 (Or.inl rfl) ⟨rfl, rfl⟩)) (fun z => absurd rfl z)
def ikd (k : Nat) : Nat := if k = 11 then 0 else if k = 61 then 1 else if k = 9 then 2 else 3
abbrev wI (i0 k b j : Nat) : Prop := (b = 35 ∧ (j = 7 ∨ j = 8 ∨ j = 30 ∨ j = 31)) ∨ b = 60 ∨ b = 61 ∨ (b = 54 ∧ j = i0) ∨ ((b = 55 ∨ b = 56 ∨ b = 57) ∧ 20 * i0 ≤ j ∧ j < 20 * i0 + 20) ∨ ((b = 58 ∨ b = 59) ∧ 15600 + k ≤ j)
def pIt (T : List Tk) (F : List Fct) (n i : Nat) : Except Nat (Itm × Nat) := if n = 20 then .error (flt T 5 i) else pItem T F i
theorem isk_pu {t : SH} {i0 k k' : Nat} {A : List Itm} {x : Itm} (K : IsK h i0 k A) (h0 : i0 < 84) (c : cf (wI i0 k) h t) (e54 : hI t 54 i0 = nI (A.length + 1)) (hp : ∀ j, j < A.length → hI t 55 (20 * i0 + j) = hI h 55 (20 * i0 + j) ∧ hI t 56 (20 * i0 + j) = hI h 56 (20 * i0 + j) ∧ hJ t 57 (20 * i0 + j) = hJ h 57 (20 * i0 + j)) (hx : ItK t (20 * i0 + A.length) k' x) (hk : k ≤ k') : IsK t i0 k' (A ++ [x]) := by
  refine ⟨by rw [e54, List.length_append]; rfl, fun j hj => ?_⟩
  rw [List.length_append] at hj
  by_cases y : j < A.length
  · rw [List.getElem_append_left y]
    obtain ⟨g1, g2, g3, g4⟩ := K.2 j y
    obtain ⟨p1, p2, p3⟩ := hp j y
    refine ⟨by rw [p1]; exact g1, fun z => by rw [p3]; exact g2 z, fun z => by rw [p2]; exact g3 z, fun z => ?_⟩
    obtain ⟨s, a1, a2, a3⟩ := g4 z
    exact ⟨s, by rw [p2]; exact a1, a2.kf (i := 1000) a3 c (fun b j z y => by unfold wI at z; unfold clS at y; omega), by omega⟩
  · have e : j = A.length := by simp at hj; omega
    subst e
    rw [List.getElem_append_right (Nat.le_refl _)]
    simp only [Nat.sub_self, List.getElem_singleton]
    exact hx
theorem c_item {i0 k : Nat} {A : List Itm} (M : MR h T i) (hT : okT T) (Q : FM h F) (ok : okFs F) (K : IsK h i0 k A) (h0 : i0 < 84) (h20 : A.length ≤ 20) (h30 : hI h 35 30 = nI k) (hk : k ≤ i) (hs : stI (kd T i) = true) :
    Cd X mX11_item [.ref 35, .int (nI i0)] h 0 0 (oV (fun t => cf (wI i0 k) h t ∧ match pIt T F A.length i with
      | .ok r => MR t T r.2 ∧ ∃ k', k ≤ k' ∧ k' ≤ r.2 ∧ hI t 35 30 = nI k' ∧ IsK t i0 k' (A ++ [rsI (gM T) r.1])
      | .error f => MB t f) nX) := by
  have hi := M.2.2.2.2.2
  have hl := hT.2.1
  have hkd : kd T i = 11 ∨ kd T i = 61 ∨ kd T i = 9 ∨ kd T i = 10 := by simpa [stI] using hs
  have hi1 : i + 1 < T.length := hT.lt hi (by omega)
  obtain ⟨s1, s2, s3, s4⟩ := M.s hT
  have e54 : ∀ g, hI g 54 = hI h 54 → hI g (35 + 19) (nI i0).toNatClampNeg = nI A.length := fun g e => by rw [nI_clamp (by omega)]; show hI g 54 i0 = _; rw [e]; exact K.1
  unfold pIt
  refine bkX11_item_0 M.1 (vp_in_nI (by omega) (by omega)) (fun z => ?_) (fun z => ?_)
  rotate_left
  · rw [e54 h rfl, show (20 : Int32) = nI 20 from rfl, nI_eq (by omega) (by omega)] at z
    rw [if_pos z]
    have hb := flt_b (k := 5) hT hi (by decide)
    refine bkX11_item_11 M.1 (c_wrong (k := 5) M hT) (fun t q => bkX11_item_16 ?_)
    subst q
    exact ⟨cf.rf.s (by unfold wI; omega), M.bad hb.1 hb.2⟩
  rw [e54 h rfl, show (20 : Int32) = nI 20 from rfl, nI_eq (by omega) (by omega)] at z
  rw [if_neg z]
  generalize hP : oV (fun t => cf (wI i0 k) h t ∧ match pItem T F i with
      | .ok r => MR t T r.2 ∧ ∃ k', k ≤ k' ∧ k' ≤ r.2 ∧ hI t 35 30 = nI k' ∧ IsK t i0 k' (A ++ [rsI (gM T) r.1])
      | .error f => MB t f) nX = P
  have eix : (20 : Int32) * nI i0 + hI h (35 + 19) (nI i0).toNatClampNeg = nI (20 * i0 + A.length) := by rw [e54 h rfl, ix20, nI_add]
  generalize hq : 20 * i0 + A.length = q at eix
  -- the last row
  have fin : ∀ w, cf (wI i0 k) h w → LX11 (Sk w) 35 → hI w 54 = hI h 54 → P (.inl none) (sI w 54 i0 (nI (A.length + 1))) → Gd X mX11_item 144 [some (.ref 35), some (.int (nI i0)), none] [] w 0 0 P := fun w _ lw w54 hp => by
    refine bkX11_item_144 lw (vp_in_nI (by omega) (by omega)) ?_
    rw [e54 w w54, nI_1, nI_clamp (by omega)]; exact hp
  -- at 108
  have p108 : ∀ (x : Nat), x = ikd (kd T i) → Gd X mX11_item 108 [some (.ref 35), some (.int (nI i0)), some (.int (nI q))] [] (sI (sI (sI (sJ h 57 q (hJ h 39 i)) 55 q (nI x)) 35 7 (nI (i + 1))) 56 q (nI k)) 0 0 P := fun x hx => by
    generalize hg : sI (sI (sI (sJ h 57 q (hJ h 39 i)) 55 q (nI x)) 35 7 (nI (i + 1))) 56 q (nI k) = g
    have hx3 : x ≤ 3 := by rw [hx]; unfold ikd; (repeat' split) <;> omega
    have C : cf (wI i0 k) h g := by rw [← hg]; exact (((cf.rf.j (by unfold wI; omega)).s (by unfold wI; omega)).s (by unfold wI; omega)).s (by unfold wI; omega)
    have Mg : MR g T (i + 1) := by
      rw [← hg]
      exact (((M.cf (S := fun b _ => b = 57) (cf.rf.j rfl) (fun b j z => by omega)).cf (S := fun b _ => b = 55) (cf.rf.s rfl) (fun b j z => by omega)).at hi1).cf (S := fun b _ => b = 56) (cf.rf.s rfl) (fun b j z => by omega)
    have g54 : hI g 54 = hI h 54 := by rw [← hg, sI_nb (by decide), sI_nb (by decide), sI_nb (by decide)]; rfl
    have g55 : hI g 55 q = nI x := by rw [← hg, sI_nb (by decide), sI_nb (by decide)]; exact sI_at
    have g56 : hI g 56 q = nI k := by rw [← hg]; exact sI_at
    have g57 : hJ g 57 q = hJ h 39 i := by rw [← hg]; exact sJ_at
    have gp : ∀ j, j < A.length → hI g 55 (20 * i0 + j) = hI h 55 (20 * i0 + j) ∧ hI g 56 (20 * i0 + j) = hI h 56 (20 * i0 + j) ∧ hJ g 57 (20 * i0 + j) = hJ h 57 (20 * i0 + j) := fun j hj => by
      rw [← hg]
      refine ⟨?_, ?_, ?_⟩
      · rw [sI_nb (by decide), sI_nb (by decide), sI_nj (by omega)]; rfl
      · rw [sI_nj (by omega), sI_nb (by decide), sI_nb (by decide)]; rfl
      · exact sJ_nj (by omega)
    have g30 : hI g 35 30 = nI k := by rw [← hg, sI_nb (by decide), sI_nj (by decide), sI_nb (by decide)]; exact h30
    have Qg : FM g F := Q.cf C (fun b j z => by unfold wI at z; omega)
    clear hg
    have e55 : hI g (35 + 20) (nI q).toNatClampNeg = nI x := by rw [nI_clamp (by omega)]; exact g55
    have ev : hJ h 39 i = hJ h (35 + 4) (hI h 35 7).toNatClampNeg := by rw [M.2.2.2.2.1, nI_clamp (by omega)]
    refine bkX11_item_108 Mg.1 (vp_in_nI (by omega) (by omega)) (fun y => ?_) (fun y => ?_)
    · rw [e55, n2, nI_eq (by omega) (by omega)] at y
      refine bkX11_item_131 Mg.1 (vp_in_nI (by omega) (by omega)) (fun y2 => ?_) (fun y2 => ?_)
      · rw [e55, n0, nI_leI (by omega) (by omega)] at y2
        have k11 : kd T i = 11 := by
          have hx0 : ikd (kd T i) = 0 := by omega
          unfold ikd at hx0; (repeat' split at hx0) <;> omega
        refine fin g C Mg.1 g54 ?_
        rw [← hP]
        have ep : pItem T F i = .ok ((0, wd T i, 0, []), i + 1) := by unfold pItem; rw [if_pos k11]
        refine ⟨C.s (by unfold wI; omega), ?_⟩
        rw [ep]
        have C2 : cf (wI i0 k) h (sI g 54 i0 (nI (A.length + 1))) := C.s (by unfold wI; omega)
        refine ⟨Mg.cf (S := fun b _ => b = 54) (cf.rf.s rfl) (fun b j z => by omega), k, Nat.le_refl _, (by show k ≤ i + 1; omega), by rw [sI_nb (by decide)]; exact g30, isk_pu K h0 C2 sI_at (fun j hj => by rw [sI_nb (by decide), sI_nb (by decide)]; exact gp j hj) ⟨?_, fun _ => ?_, fun y => absurd (show (0 : Nat) = 2 from y) (by decide), fun y => absurd (show (0 : Nat) = 1 ∨ (0 : Nat) = 3 from y) (by decide)⟩ (Nat.le_refl _)⟩
        · rw [sI_nb (by decide), hq, g55]; show nI x = nI 0; rw [show x = 0 by omega]
        · show hJ g 57 (20 * i0 + A.length) = _
          rw [hq, g57, ev]; exact s3.a (by omega)
      · rw [e55, n0, nI_leI (by omega) (by omega)] at y2
        have k61 : kd T i = 61 ∨ kd T i = 10 := by
          have hx0 : ikd (kd T i) = 1 ∨ ikd (kd T i) = 3 := by omega
          unfold ikd at hx0; (repeat' split at hx0) <;> omega
        have hxx : x = if kd T i = 61 then 1 else 3 := by rw [hx]; unfold ikd; rw [if_neg (by omega)]; by_cases y : kd T i = 61; rw [if_pos y, if_pos y]; rw [if_neg y, if_neg y, if_neg (by omega)]
        have ep : pItem T F i = (match pE T F (i + 1) with | .error e => .error e | .ok r => .ok ((if kd T i = 61 then 1 else 3, [], 0, r.1), r.2)) := by unfold pItem; rw [if_neg (by omega), if_neg (by omega)]; cases pE T F (i + 1) <;> rfl
        refine bkX11_item_140 Mg.1 (c_expression Mg hT Qg ok g30 (by omega)) (fun w hw => ?_)
        obtain ⟨c1, hw⟩ := hw
        have cw : cf (wI i0 k) h w := C.tr (c1.up (fun b j z => by unfold wE at z; unfold wI; omega))
        have wsame : ∀ b, 54 ≤ b → b ≤ 57 → hI w b = hI g b ∧ hJ w b = hJ g b := fun b b1 b2 => c1.row (fun j z => by unfold wE at z; omega)
        cases hpe : pE T F (i + 1) with
        | ok r =>
          rw [hpe] at hw ep
          obtain ⟨w1, w2, w3⟩ := hw
          have hen := pE_ok hT hi1 hpe
          have h3 : r.1.length + (i + 1) ≤ r.2 := hen.2.2.1
          refine fin w cw w1.1 (by rw [(wsame 54 (by decide) (by decide)).1]; exact g54) ?_
          rw [← hP]
          refine ⟨cw.s (by unfold wI; omega), ?_⟩
          rw [ep]
          have C2 : cf (wI i0 k) h (sI w 54 i0 (nI (A.length + 1))) := cw.s (by unfold wI; omega)
          refine ⟨w1.cf (S := fun b _ => b = 54) (cf.rf.s rfl) (fun b j z => by omega), k + r.1.length + 1, by omega, (by show k + r.1.length + 1 ≤ r.2; omega), by rw [sI_nb (by decide)]; exact w2, isk_pu K h0 C2 sI_at (fun j hj => by rw [sI_nb (by decide), sI_nb (by decide), (wsame 55 (by decide) (by decide)).1, (wsame 56 (by decide) (by decide)).1, show hJ (sI w 54 i0 (nI (A.length + 1))) 57 = hJ w 57 from rfl, (wsame 57 (by decide) (by decide)).2]; exact gp j hj) ⟨?_, fun y => ?_, fun y => ?_, fun _ => ⟨k, ?_, ?_, ?_⟩⟩ (by omega)⟩
          · rw [sI_nb (by decide), hq, (wsame 55 (by decide) (by decide)).1, g55, hxx]; rfl
          · exfalso; have y : (if kd T i = 61 then 1 else 3) = 0 := y
            split at y <;> omega
          · exfalso; have y : (if kd T i = 61 then 1 else 3) = 2 := y
            split at y <;> omega
          · rw [sI_nb (by decide), hq, (wsame 56 (by decide) (by decide)).1]; exact g56
          · exact w3.kf (i := 1000) (k := k + r.1.length + 1) (by omega) (cf.rf.s (S := fun b j => b = 54 ∧ j = i0) ⟨rfl, rfl⟩) (fun b j z y => by unfold clS at y; omega)
          · show k + r.1.length < k + r.1.length + 1; omega
        | error e =>
          rw [hpe] at hw ep
          refine fin w cw hw.1 (by rw [(wsame 54 (by decide) (by decide)).1]; exact g54) ?_
          rw [← hP]
          refine ⟨cw.s (by unfold wI; omega), ?_⟩
          rw [ep]
          exact hw.cf (S := fun b _ => b = 54) (cf.rf.s rfl) (by omega)
    · rw [e55, n2, nI_eq (by omega) (by omega)] at y
      have k9 : kd T i = 9 := by
        have hx0 : ikd (kd T i) = 2 := by omega
        unfold ikd at hx0; (repeat' split at hx0) <;> omega
      have p127 : ∀ (w : SH) (r : Int32), cf (wI i0 k) h w → LX11 (Sk w) 35 → hI w 54 = hI h 54 → P (.inl none) (sI (sI w 56 q r) 54 i0 (nI (A.length + 1))) → Gd X mX11_item 127 [some (.ref 35), some (.int (nI i0)), none] [.int r, .int (nI q), .ref (35 + 21)] w 0 0 P := fun w r cw lw w54 hp => by
        refine bkX11_item_127 (LX11.a_itemAt lw) (vp_in_nI (by omega) (by omega)) ?_
        rw [nI_clamp (by omega)]
        exact fin _ (cw.s (by unfold wI; omega)) lw (by rw [sI_nb (by decide)]; exact w54) hp
      by_cases k11 : kd T (i + 1) = 11
      · cases kt : isT T (wd T (i + 1)) with
        | true =>
          have ep : pItem T F i = .ok ((2, wd T (i + 1), 0, []), i + 2) := by unfold pItem; rw [if_neg (by omega), if_pos k9, if_neg (by omega), if_neg (by rw [kt]; decide)]
          have hi2 : i + 2 < T.length := hT.lt hi1 (by omega)
          refine bkX11_item_118 Mg.1 (c_takeClause Mg hT k11 kt) (fun r w hw => ?_)
          obtain ⟨rfl, rfl⟩ := hw
          refine p127 _ _ (C.s (by unfold wI; omega)) Mg.1 (by rw [sI_nb (by decide)]; exact g54) ?_
          rw [← hP]
          have C2 : cf (wI i0 k) h (sI (sI (sI g 35 7 (nI (i + 2))) 56 q (nI (gM T (wd T (i + 1))))) 54 i0 (nI (A.length + 1))) := ((C.s (by unfold wI; omega)).s (by unfold wI; omega)).s (by unfold wI; omega)
          refine ⟨C2, ?_⟩
          rw [ep]
          refine ⟨((Mg.at hi2).cf (S := fun b _ => b = 56) (cf.rf.s rfl) (fun b j z => by omega)).cf (S := fun b _ => b = 54) (cf.rf.s rfl) (fun b j z => by omega), k, Nat.le_refl _, (by show k ≤ i + 2; omega), ?_, isk_pu K h0 C2 sI_at (fun j hj => ?_) ⟨?_, fun y => absurd (show (2 : Nat) = 0 from y) (by decide), fun _ => ?_, fun y => absurd (show (2 : Nat) = 1 ∨ (2 : Nat) = 3 from y) (by decide)⟩ (Nat.le_refl _)⟩
          · rw [sI_nb (by decide), sI_nb (by decide), sI_nj (by decide)]; exact g30
          · have gg := gp j hj
            rw [sI_nb (by decide), sI_nb (by decide), sI_nb (by decide), sI_nb (by decide)]
            exact ⟨gg.1, by rw [sI_nj (by omega), sI_nb (by decide)]; exact gg.2.1, gg.2.2⟩
          · rw [sI_nb (by decide), sI_nb (by decide), sI_nb (by decide), hq, g55]; show nI x = nI 2; rw [y]
          · rw [sI_nb (by decide), hq]; exact sI_at
        | false =>
          have hb := flt_b (k := 2) hT hi1 (by decide)
          have ep : pItem T F i = .error (flt T 2 (i + 1)) := by unfold pItem; rw [if_neg (by omega), if_pos k9, if_neg (by omega), if_pos kt]
          refine bkX11_item_118 Mg.1 (x_takeClause (k := 2) Mg hT (Or.inr ⟨k11, kt, rfl⟩)) (fun r w hw => ?_)
          subst hw
          refine p127 _ _ ((C.s (by unfold wI; omega)).s (by unfold wI; omega)) Mg.1 (by rw [sI_nb (by decide), sI_nb (by decide)]; exact g54) ?_
          rw [← hP]
          refine ⟨(((C.s (by unfold wI; omega)).s (by unfold wI; omega)).s (by unfold wI; omega)).s (by unfold wI; omega), ?_⟩
          rw [ep]
          exact ((Mg.bad hb.1 hb.2).at.cf (S := fun b _ => b = 56) (cf.rf.s rfl) (by omega)).cf (S := fun b _ => b = 54) (cf.rf.s rfl) (by omega)
      · have hb := flt_b (k := 1) hT hi1 (by decide)
        have ep : pItem T F i = .error (flt T 1 (i + 1)) := by unfold pItem; rw [if_neg (by omega), if_pos k9, if_pos k11]
        refine bkX11_item_118 Mg.1 (x_takeClause (k := 1) Mg hT (Or.inl ⟨k11, rfl⟩)) (fun r w hw => ?_)
        subst hw
        refine p127 _ _ ((C.s (by unfold wI; omega)).s (by unfold wI; omega)) Mg.1 (by rw [sI_nb (by decide), sI_nb (by decide)]; exact g54) ?_
        rw [← hP]
        refine ⟨(((C.s (by unfold wI; omega)).s (by unfold wI; omega)).s (by unfold wI; omega)).s (by unfold wI; omega), ?_⟩
        rw [ep]
        exact ((Mg.bad hb.1 hb.2).at.cf (S := fun b _ => b = 56) (cf.rf.s rfl) (by omega)).cf (S := fun b _ => b = 54) (cf.rf.s rfl) (by omega)
  -- the kind
  have M1 : MR (sJ h 57 q (hJ h 39 i)) T i := M.cf (S := fun b _ => b = 57) (cf.rf.j rfl) (fun b j z => by omega)
  have p87 : ∀ x : Nat, x = ikd (kd T i) → Gd X mX11_item 87 [some (.ref 35), some (.int (nI i0)), some (.int (nI q))] [.int (nI x), .int (nI q), .ref (35 + 20)] (sJ h 57 q (hJ h 39 i)) 0 0 P := fun x hx => by
    refine bkX11_item_87 (LX11.a_itemKind M1.1) (vp_in_nI (by omega) (by omega)) M1.1 (vp_in_nI (by omega) (by omega)) ?_
    have e7 : hI (sI (sJ h 57 q (hJ h 39 i)) (35 + 20) q (nI x)) 35 7 + 1 = nI (i + 1) := by rw [sI_nb (by decide)]; show hI h 35 7 + 1 = _; rw [M.2.2.2.2.1, nI_1]
    have e30 : hI (sI (sI (sJ h 57 q (hJ h 39 i)) (35 + 20) q (nI x)) 35 7 (nI (i + 1))) 35 30 = nI k := by rw [sI_nj (by decide), sI_nb (by decide)]; exact h30
    rw [nI_clamp (by omega), e7, e30]
    exact p108 x hx
  have ev : hJ h (35 + 4) (hI h 35 7).toNatClampNeg = hJ h 39 i := by rw [M.2.2.2.2.1, nI_clamp (by omega)]
  refine bkX11_item_17 M.1 (vp_in_nI (by omega) (by omega)) s1 (by rw [eix]; exact (vp_in_nI (by omega) (by omega))) (by rw [eix, nI_clamp (by omega), ev]; exact c_isName M1 hT) (fun r t hq2 => ?_)
  obtain ⟨rfl, ht⟩ := hq2
  rw [ht, eix]
  refine bkX11_item_53 (fun y1 => ?_) (fun y1 => ?_)
  rotate_left
  · rw [bI_0, decide_eq_false_iff_not, Decidable.not_not] at y1
    exact bkX11_item_56 (p87 0 (by unfold ikd; rw [if_pos y1]))
  rw [bI_0, decide_eq_false_iff_not] at y1
  refine bkX11_item_60 M1.1 (c_isSign (c := 61) M1 hT (by decide)) (fun r t hq2 => ?_)
  obtain ⟨rfl, ht⟩ := hq2
  rw [ht]
  refine bkX11_item_66 (fun y2 => ?_) (fun y2 => ?_)
  rotate_left
  · rw [bI_0, decide_eq_false_iff_not, Decidable.not_not] at y2
    exact bkX11_item_69 (p87 1 (by unfold ikd; rw [if_neg y1, if_pos y2]))
  rw [bI_0, decide_eq_false_iff_not] at y2
  refine bkX11_item_73 M1.1 (c_isWord (k := 9) M1 hT (by decide)) (fun r t hq2 => ?_)
  obtain ⟨rfl, ht⟩ := hq2
  rw [ht]
  refine bkX11_item_79 (fun y3 => ?_) (fun y3 => ?_)
  · rw [bI_0, decide_eq_false_iff_not] at y3
    exact bkX11_item_86 (p87 3 (by unfold ikd; rw [if_neg y1, if_neg y2, if_neg y3]))
  · rw [bI_0, decide_eq_false_iff_not, Decidable.not_not] at y3
    exact bkX11_item_82 (p87 2 (by unfold ikd; rw [if_neg y1, if_neg y2, if_pos y3]))
end MI2
