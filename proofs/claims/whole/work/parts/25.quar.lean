/-! ===== the quarrel ===== -/
theorem fs_none {α : Type} {f : Nat → Option α} : ∀ {n : Nat}, (∀ j, j < n → f j = none) → (List.range n).findSome? f = none
  | 0, _ => rfl
  | n + 1, h => by
    rw [List.range_succ, List.findSome?_append, fs_none (fun j hj => h j (by omega))]
    simp [h n (by omega)]
theorem fs_some {α : Type} {f : Nat → Option α} {x : α} {c : Nat} : ∀ {n : Nat}, c < n → (∀ j, j < c → f j = none) → f c = some x → (List.range n).findSome? f = some x
  | 0, h, _, _ => absurd h (Nat.not_lt_zero _)
  | n + 1, h, hlo, hf => by
    rw [List.range_succ, List.findSome?_append]
    by_cases q : c = n
    · subst q; rw [fs_none hlo]; simp [hf]
    · rw [fs_some (by omega) hlo hf]; rfl
theorem fl_none {α : Type} {p : α → Bool} : ∀ {l : List α}, (∀ (i : Nat) (hi : i < l.length), p l[i] = false) → l.find? p = none
  | [], _ => rfl
  | a :: l, h => by
    have h0 : p a = false := h 0 (by simp)
    rw [List.find?_cons, h0]
    exact fl_none (fun i hi => by have := h (i + 1) (by simp; omega); simpa using this)
theorem fl_some {α : Type} {p : α → Bool} : ∀ {l : List α} {j : Nat} (hj : j < l.length), (∀ (i : Nat) (hi : i < l.length), i < j → p l[i] = false) → p l[j] = true → l.find? p = some l[j]
  | [], j, hj, _, _ => absurd hj (Nat.not_lt_zero _)
  | a :: l, 0, hj, _, hp => by
    rw [List.find?_cons]; have : p a = true := hp; rw [this]; rfl
  | a :: l, j + 1, hj, hlo, hp => by
    have h0 : p a = false := hlo 0 (by simp) (by omega)
    rw [List.find?_cons, h0]
    exact fl_some (l := l) (j := j) (by simpa using hj) (fun i hi hij => by have := hlo (i + 1) (by simp; omega) (by omega); simpa using this) (by simpa using hp)
def qMiss (E : Edn) (s : Ins) : Option Nat := (List.range (eC E).length).findSome? (fun c => if cMust (cl E c) && !s c then some c else none)
def bar1 (E : Edn) (s : Ins) (c : Nat) : Option Nat := if s c then (cBars (cl E c)).find? (fun b => decide (b ≠ c) && s b) else none
def qBar (E : Edn) (s : Ins) : Option (Nat × Nat) := (List.range (eC E).length).findSome? (fun c => (bar1 E s c).map (fun b => (c, b)))
def rfp (s : Ins) (it : Itm) : Bool := decide (it.1 = 2) && !s it.2.2.1
def ref1 (E : Edn) (s : Ins) (c : Nat) : Option Nat := if s c then ((cItems (cl E c)).find? (rfp s)).map (fun it => it.2.2.1) else none
def qRef (E : Edn) (s : Ins) : Option (Nat × Nat) := (List.range (eC E).length).findSome? (fun c => (ref1 E s c).map (fun b => (c, b)))
def qNone (E : Edn) (s : Ins) : Bool := (List.range (eC E).length).all (fun c => !s c)
def quar (E : Edn) (s : Ins) : Nat × Int32 × Int32 := match qMiss E s with
  | some c => (1, nI c, -1)
  | none => match qBar E s with
    | some p => (2, nI p.1, nI p.2)
    | none => match qRef E s with
      | some p => (3, nI p.1, nI p.2)
      | none => if qNone E s then (4, -1, -1) else (0, -1, -1)
section QC
variable {X : GX} {h : SH} {a e : Nat} {E : Edn} {s : Ins}
theorem c_findMissing (hE : EdC h e E) (ok : okE E) (F : LX6 (Sk h) a) (hs : RB (hI h (a + 1)) s (eC E).length) :
    Cd X mX6_findMissing [.ref a, .ref e] h 0 0 (oI (fun r t => match qMiss E s with | some c => r = 1 ∧ t = sI (sI h a 6 1) a 7 (nI c) | none => r = 0 ∧ t = h) nX) := by
  have hn : (eC E).length ≤ 12 := ok.2.2.1
  refine bkX6_findMissing_0 ?_
  generalize hP : oI (fun r t => match qMiss E s with | some c => r = 1 ∧ t = sI (sI h a 6 1) a 7 (nI c) | none => r = 0 ∧ t = h) nX = P
  refine for_up (G := fun c t => Gd X mX6_findMissing 2 [some (.ref a), some (.ref e), some (.int (nI c))] [] t 0 0 P)
    (I := fun c t => t = h ∧ ∀ j, j < c → (if cMust (cl E j) && !s j then some j else none) = none) (eC E).length ?_ ?_ 0 h (Nat.zero_le _) ⟨rfl, fun j hj => absurd hj (Nat.not_lt_zero _)⟩
  · rintro t ⟨rfl, hlo⟩
    refine bkX6_findMissing_2 hE.2.1 (fun _ => ?_) (fun q => absurd (by rw [hE.2.2.2.2.2.1]; exact Int32.le_refl _) q)
    refine bkX6_findMissing_49 ?_
    rw [← hP]
    show (match qMiss E s with | some c => (0 : Int32) = 1 ∧ t = _ | none => (0 : Int32) = 0 ∧ t = t)
    unfold qMiss
    rw [fs_none hlo]
    exact ⟨rfl, rfl⟩
  · rintro c t hc ⟨rfl, hlo⟩ ih
    obtain ⟨b, hb, hB⟩ := hE.2.2.2.2.2.2.2.1 c hc
    refine bkX6_findMissing_2 hE.2.1 (fun q => ?_) (fun _ => ?_)
    · rw [hE.2.2.2.2.2.1] at q; exact absurd q (nI_ge hc (by omega))
    have go : (if cMust (cl E c) && !s c then some c else none) = none → Gd X mX6_findMissing 43 [some (.ref a), some (.ref e), some (.int (nI c))] [] t 0 0 P := fun hx => by
      refine bkX6_findMissing_43 ?_
      rw [nI_1]
      refine ih t ⟨rfl, fun j hj => ?_⟩
      rcases Nat.lt_or_ge j c with z | z
      · exact hlo j z
      · have : j = c := by omega
        subst this; exact hx
    refine bkX6_findMissing_10 hE.2.1 (vp_in_nI (by omega) (by omega)) (by rw [nI_clamp (by omega)]; exact hb) hB.2.1 (fun q => ?_) (fun q => ?_)
    · rw [hB.2.2.2.1, bI_0] at q; exact go (by rw [q]; rfl)
    · rw [hB.2.2.2.1, bI_0] at q
      refine bkX6_findMissing_22 F (vp_in_nI (by omega) (by omega)) (fun z => ?_) (fun z => ?_)
      · rw [nI_clamp (by omega), hs c hc, bI_0] at z
        exact go (by simp at z; rw [z]; simp)
      · rw [nI_clamp (by omega), hs c hc, bI_0] at z
        refine bkX6_findMissing_31 F ?_
        rw [← hP]
        have e1 : qMiss E s = some c := fs_some hc hlo (by simp at q; rw [q, z]; rfl)
        show (match qMiss E s with | some c => (1 : Int32) = 1 ∧ _ = sI (sI t a 6 1) a 7 (nI c) | none => (1 : Int32) = 0 ∧ _ = t)
        rw [e1]
        exact ⟨rfl, rfl⟩
theorem c_isEmpty (hE : EdC h e E) (ok : okE E) (F : LX6 (Sk h) a) (hs : RB (hI h (a + 1)) s (eC E).length) :
    Cd X mX6_isEmpty [.ref a, .ref e] h 0 0 (oI (fun r t => t = h ∧ r = bI (qNone E s)) nX) := by
  have hn : (eC E).length ≤ 12 := ok.2.2.1
  refine bkX6_isEmpty_0 ?_
  generalize hP : oI (fun r t => t = h ∧ r = bI (qNone E s)) nX = P
  refine for_up (G := fun c t => Gd X mX6_isEmpty 2 [some (.ref a), some (.ref e), some (.int (nI c))] [] t 0 0 P)
    (I := fun c t => t = h ∧ ∀ j, j < c → s j = false) (eC E).length ?_ ?_ 0 h (Nat.zero_le _) ⟨rfl, fun j hj => absurd hj (Nat.not_lt_zero _)⟩
  · rintro t ⟨rfl, hlo⟩
    refine bkX6_isEmpty_2 hE.2.1 (fun _ => ?_) (fun q => absurd (by rw [hE.2.2.2.2.2.1]; exact Int32.le_refl _) q)
    refine bkX6_isEmpty_27 ?_
    rw [← hP]
    refine ⟨rfl, ?_⟩
    have : qNone E s = true := by unfold qNone; rw [List.all_eq_true]; intro c hc; rw [hlo c (List.mem_range.mp hc)]; rfl
    rw [this]; rfl
  · rintro c t hc ⟨rfl, hlo⟩ ih
    refine bkX6_isEmpty_2 hE.2.1 (fun q => ?_) (fun _ => ?_)
    · rw [hE.2.2.2.2.2.1] at q; exact absurd q (nI_ge hc (by omega))
    refine bkX6_isEmpty_10 F (vp_in_nI (by omega) (by omega)) (fun z => ?_) (fun z => ?_)
    · rw [nI_clamp (by omega), hs c hc, bI_0] at z
      refine bkX6_isEmpty_21 ?_
      rw [nI_1]
      refine ih t ⟨rfl, fun j hj => ?_⟩
      rcases Nat.lt_or_ge j c with y | y
      · exact hlo j y
      · have : j = c := by omega
        subst this; exact z
    · rw [nI_clamp (by omega), hs c hc, bI_0] at z
      refine bkX6_isEmpty_19 ?_
      rw [← hP]
      refine ⟨rfl, ?_⟩
      have : qNone E s = false := by
        cases h9 : qNone E s with
        | false => rfl
        | true =>
          unfold qNone at h9
          have := List.all_eq_true.mp h9 c (List.mem_range.mpr hc)
          simp at this z; rw [z] at this; cases this
      rw [this]; rfl
theorem c_findBarred (hE : EdC h e E) (ok : okE E) (F : LX6 (Sk h) a) (hs : RB (hI h (a + 1)) s (eC E).length) :
    Cd X mX6_findBarred [.ref a, .ref e] h 0 0 (oI (fun r t => match qBar E s with | some p => r = 1 ∧ t = sI (sI (sI h a 6 2) a 7 (nI p.1)) a 8 (nI p.2) | none => r = 0 ∧ t = h) nX) := by
  have hn : (eC E).length ≤ 12 := ok.2.2.1
  refine bkX6_findBarred_0 ?_
  generalize hP : oI (fun r t => match qBar E s with | some p => r = 1 ∧ t = sI (sI (sI h a 6 2) a 7 (nI p.1)) a 8 (nI p.2) | none => r = 0 ∧ t = h) nX = P
  refine for_up (G := fun c t => Gd X mX6_findBarred 2 [some (.ref a), some (.ref e), some (.int (nI c)), none, none, none] [] t 0 0 P)
    (I := fun c t => t = h ∧ ∀ j, j < c → (bar1 E s j).map (fun b => (j, b)) = none) (eC E).length ?_ ?_ 0 h (Nat.zero_le _) ⟨rfl, fun j hj => absurd hj (Nat.not_lt_zero _)⟩
  · rintro t ⟨rfl, hlo⟩
    refine bkX6_findBarred_2 hE.2.1 (fun _ => ?_) (fun q => absurd (by rw [hE.2.2.2.2.2.1]; exact Int32.le_refl _) q)
    refine bkX6_findBarred_93 ?_
    rw [← hP]
    show (match qBar E s with | some p => (0 : Int32) = 1 ∧ t = _ | none => (0 : Int32) = 0 ∧ t = t)
    unfold qBar
    rw [fs_none hlo]
    exact ⟨rfl, rfl⟩
  · rintro c t hc ⟨rfl, hlo⟩ ih
    obtain ⟨b, hb, hB⟩ := hE.2.2.2.2.2.2.2.1 c hc
    have okc := ok.2.2.2.2.2 c hc
    have hbl : (cBars (cl E c)).length ≤ 8 := by have := okc.2.2.1; omega
    refine bkX6_findBarred_2 hE.2.1 (fun q => ?_) (fun _ => ?_)
    · rw [hE.2.2.2.2.2.1] at q; exact absurd q (nI_ge hc (by omega))
    refine bkX6_findBarred_10 hE.2.1 (vp_in_nI (by omega) (by omega)) ?_
    rw [nI_clamp (by omega), hb]
    have go : bar1 E s c = none → Gd X mX6_findBarred 87 [some (.ref a), some (.ref e), some (.int (nI c)), none, none, none] [] t 0 0 P := fun hx => by
      refine bkX6_findBarred_87 ?_
      rw [nI_1]
      refine ih t ⟨rfl, fun j hj => ?_⟩
      rcases Nat.lt_or_ge j c with z | z
      · exact hlo j z
      · have : j = c := by omega
        subst this; rw [hx]; rfl
    refine for_up (G := fun j u => Gd X mX6_findBarred 20 [some (.ref a), some (.ref e), some (.int (nI c)), some (va_rf (some b)), some (.int (nI j)), none] [] u 0 0 P)
      (I := fun j u => u = t ∧ ∀ (i : Nat) (hi : i < (cBars (cl E c)).length), i < j → (decide ((cBars (cl E c))[i] ≠ c) && s (cBars (cl E c))[i]) = false) (cBars (cl E c)).length ?_ ?_ 0 t (Nat.zero_le _) ⟨rfl, fun i _ hi => absurd hi (Nat.not_lt_zero _)⟩
    · rintro u ⟨rfl, hl2⟩
      have hx : bar1 E s c = none := by unfold bar1; split; exact fl_none (fun i hi => hl2 i hi hi); rfl
      refine bkX6_findBarred_20 F (vp_in_nI (by omega) (by omega)) (fun q => go hx) (fun q => ?_)
      exact bkX6_findBarred_29 hB.2.1 (fun _ => go hx) (fun z => absurd (by rw [hB.2.2.2.2.2.2.2.1]; exact Int32.le_refl _) z)
    · rintro j u hj ⟨rfl, hl2⟩ ih2
      refine bkX6_findBarred_20 F (vp_in_nI (by omega) (by omega)) (fun q => ?_) (fun q => ?_)
      · rw [nI_clamp (by omega), hs c hc, bI_0] at q
        exact go (by unfold bar1; rw [q]; rfl)
      · rw [nI_clamp (by omega), hs c hc, bI_0] at q
        have hsc : s c = true := by simpa using q
        refine bkX6_findBarred_29 hB.2.1 (fun z => ?_) (fun _ => ?_)
        · rw [hB.2.2.2.2.2.2.2.1] at z; exact absurd z (nI_ge hj (by omega))
        have hkl : (cBars (cl E c))[j] < (eC E).length := okc.2.2.2.2.1 _ (List.getElem_mem hj)
        have e1 : hI u (b + 4) (nI j).toNatClampNeg = nI (cBars (cl E c))[j] := by rw [nI_clamp (by omega)]; exact hB.2.2.2.2.2.2.2.2.1 j hj
        have go2 : (decide ((cBars (cl E c))[j] ≠ c) && s (cBars (cl E c))[j]) = false → Gd X mX6_findBarred 81 [some (.ref a), some (.ref e), some (.int (nI c)), some (va_rf (some b)), some (.int (nI j)), none] [] u 0 0 P := fun hx => by
          refine bkX6_findBarred_81 (r3 := some b) ?_
          rw [nI_1]
          refine ih2 u ⟨rfl, fun i hi hij => ?_⟩
          rcases Nat.lt_or_ge i j with z | z
          · exact hl2 i hi z
          · have : i = j := by omega
            subst this; exact hx
        refine bkX6_findBarred_38 hB.2.1 (vp_in_nI (by omega) (by omega)) (fun z => ?_) (fun z => ?_)
        · rw [e1, nI_eq (by omega) (by omega)] at z
          exact go2 (by simp [z])
        · rw [e1, nI_eq (by omega) (by omega)] at z
          rw [e1]
          refine bkX6_findBarred_53 (r3 := some b) F (vp_in_nI (by omega) (by omega)) (fun y => ?_) (fun y => ?_)
          · rw [nI_clamp (by omega), hs _ hkl, bI_0] at y
            exact go2 (by rw [y]; simp)
          · rw [nI_clamp (by omega), hs _ hkl, bI_0] at y
            refine bkX6_findBarred_63 F ?_
            rw [← hP]
            have e2 : bar1 E s c = some (cBars (cl E c))[j] := by unfold bar1; rw [if_pos hsc]; exact fl_some hj hl2 (by simp at y; simp [z, y])
            have e3 : qBar E s = some (c, (cBars (cl E c))[j]) := fs_some hc hlo (by rw [e2]; rfl)
            show (match qBar E s with | some p => (1 : Int32) = 1 ∧ _ = sI (sI (sI u a 6 2) a 7 (nI p.1)) a 8 (nI p.2) | none => (1 : Int32) = 0 ∧ _ = u)
            rw [e3]
            exact ⟨rfl, rfl⟩
theorem kcode9 {k : Nat} : kcode k = 9 ↔ k = 2 := by
  unfold kcode
  by_cases h0 : k = 0
  · subst h0; decide
  · by_cases h1 : k = 1
    · subst h1; decide
    · by_cases h2 : k = 2
      · subst h2; decide
      · simp [h0, h1, h2]
theorem c_findBadReference (hE : EdC h e E) (ok : okE E) (F : LX6 (Sk h) a) (ha : a + 4 < 73) (hs : RB (hI h (a + 1)) s (eC E).length) :
    Cd X mX6_findBadReference [.ref a, .ref e] h 0 0 (oI (fun r t => match qRef E s with | some p => r = 1 ∧ t = sI (sI (sI h a 6 3) a 7 (nI p.1)) a 8 (nI p.2) | none => r = 0 ∧ t = h) nX) := by
  have hn : (eC E).length ≤ 12 := ok.2.2.1
  refine bkX6_findBadReference_0 ?_
  generalize hP : oI (fun r t => match qRef E s with | some p => r = 1 ∧ t = sI (sI (sI h a 6 3) a 7 (nI p.1)) a 8 (nI p.2) | none => r = 0 ∧ t = h) nX = P
  refine for_up (G := fun c t => Gd X mX6_findBadReference 2 [some (.ref a), some (.ref e), some (.int (nI c)), none, none, none] [] t 0 0 P)
    (I := fun c t => t = h ∧ ∀ j, j < c → (ref1 E s j).map (fun b => (j, b)) = none) (eC E).length ?_ ?_ 0 h (Nat.zero_le _) ⟨rfl, fun j hj => absurd hj (Nat.not_lt_zero _)⟩
  · rintro t ⟨rfl, hlo⟩
    refine bkX6_findBadReference_2 hE.2.1 (fun _ => ?_) (fun q => absurd (by rw [hE.2.2.2.2.2.1]; exact Int32.le_refl _) q)
    refine bkX6_findBadReference_103 ?_
    rw [← hP]
    show (match qRef E s with | some p => (0 : Int32) = 1 ∧ t = _ | none => (0 : Int32) = 0 ∧ t = t)
    unfold qRef
    rw [fs_none hlo]
    exact ⟨rfl, rfl⟩
  · rintro c t hc ⟨rfl, hlo⟩ ih
    obtain ⟨b, hb, hB⟩ := hE.2.2.2.2.2.2.2.1 c hc
    have okc := ok.2.2.2.2.2 c hc
    have hil : (cItems (cl E c)).length ≤ 20 := okc.2.2.2.2.2.1
    refine bkX6_findBadReference_2 hE.2.1 (fun q => ?_) (fun _ => ?_)
    · rw [hE.2.2.2.2.2.1] at q; exact absurd q (nI_ge hc (by omega))
    refine bkX6_findBadReference_10 hE.2.1 (vp_in_nI (by omega) (by omega)) ?_
    rw [nI_clamp (by omega), hb]
    have go : ref1 E s c = none → Gd X mX6_findBadReference 97 [some (.ref a), some (.ref e), some (.int (nI c)), none, none, none] [] t 0 0 P := fun hx => by
      refine bkX6_findBadReference_97 ?_
      rw [nI_1]
      refine ih t ⟨rfl, fun j hj => ?_⟩
      rcases Nat.lt_or_ge j c with z | z
      · exact hlo j z
      · have : j = c := by omega
        subst this; rw [hx]; rfl
    refine for_up (G := fun j u => Gd X mX6_findBadReference 20 [some (.ref a), some (.ref e), some (.int (nI c)), some (va_rf (some b)), some (.int (nI j)), none] [] u 0 0 P)
      (I := fun j u => u = t ∧ ∀ (i : Nat) (hi : i < (cItems (cl E c)).length), i < j → rfp s (cItems (cl E c))[i] = false) (cItems (cl E c)).length ?_ ?_ 0 t (Nat.zero_le _) ⟨rfl, fun i _ hi => absurd hi (Nat.not_lt_zero _)⟩
    · rintro u ⟨rfl, hl2⟩
      have hx : ref1 E s c = none := by
        unfold ref1; split
        · rw [fl_none (fun i hi => hl2 i hi hi)]; rfl
        · rfl
      refine bkX6_findBadReference_20 F (vp_in_nI (by omega) (by omega)) (fun q => go hx) (fun q => ?_)
      exact bkX6_findBadReference_29 hB.2.1 (fun _ => go hx) (fun z => absurd (by rw [hB.2.2.2.2.2.2.2.2.2.1]; exact Int32.le_refl _) z)
    · rintro j u hj ⟨rfl, hl2⟩ ih2
      refine bkX6_findBadReference_20 F (vp_in_nI (by omega) (by omega)) (fun q => ?_) (fun q => ?_)
      · rw [nI_clamp (by omega), hs c hc, bI_0] at q
        exact go (by unfold ref1; rw [q]; rfl)
      · rw [nI_clamp (by omega), hs c hc, bI_0] at q
        have hsc : s c = true := by simpa using q
        refine bkX6_findBadReference_29 hB.2.1 (fun z => ?_) (fun _ => ?_)
        · rw [hB.2.2.2.2.2.2.2.2.2.1] at z; exact absurd z (nI_ge hj (by omega))
        obtain ⟨q9, hq1, hq2⟩ := hB.2.2.2.2.2.2.2.2.2.2 j hj
        have oki := okc.2.2.2.2.2.2 _ (List.getElem_mem hj)
        have go2 : rfp s (cItems (cl E c))[j] = false → Gd X mX6_findBadReference 91 [some (.ref a), some (.ref e), some (.int (nI c)), some (va_rf (some b)), some (.int (nI j)), none] [] u 0 0 P := fun hx => by
          refine bkX6_findBadReference_91 (r3 := some b) ?_
          rw [nI_1]
          refine ih2 u ⟨rfl, fun i hi hij => ?_⟩
          rcases Nat.lt_or_ge i j with z | z
          · exact hl2 i hi z
          · have : i = j := by omega
            subst this; exact hx
        refine bkX6_findBadReference_38 hB.2.1 (vp_in_nI (by omega) (by omega)) (by rw [nI_clamp (by omega)]; exact hq1) hq2.2.1 (fun z => ?_) (fun z => ?_)
        · rw [hq2.2.2.1, kcode9] at z
          exact go2 (by unfold rfp; simp [z])
        · rw [hq2.2.2.1, kcode9] at z
          have htg := hq2.2.2.2.2.1 z
          have hkl := oki.2.2.1 z
          refine bkX6_findBadReference_57 (r3 := some b) F hq2.2.1 (by rw [htg]; exact vp_in_nI (by omega) (by omega)) (fun y => ?_) (fun y => ?_)
          · rw [htg, nI_clamp (by omega), hs _ hkl, bI_0] at y
            exact go2 (by simp at y; unfold rfp; simp [y])
          · rw [htg, nI_clamp (by omega), hs _ hkl, bI_0] at y
            refine bkX6_findBadReference_70 F hq2.2.1 (bkX6_findBadReference_89 ?_)
            rw [← hP]
            have e2 : ref1 E s c = some (cItems (cl E c))[j].2.2.1 := by unfold ref1; rw [if_pos hsc, fl_some hj hl2 (by unfold rfp; simp [z, y])]; rfl
            have e3 : qRef E s = some (c, (cItems (cl E c))[j].2.2.1) := fs_some hc hlo (by rw [e2]; rfl)
            have h73 := hq2.1
            have e4 : hI (sI (sI u a 6 3) a 7 (nI c)) q9 2 = nI (cItems (cl E c))[j].2.2.1 := by rw [sI_nb (by omega), sI_nb (by omega)]; exact htg
            show (match qRef E s with | some p => (1 : Int32) = 1 ∧ _ = sI (sI (sI u a 6 3) a 7 (nI p.1)) a 8 (nI p.2) | none => (1 : Int32) = 0 ∧ _ = u)
            rw [e3, e4]
            exact ⟨rfl, rfl⟩
end QC
