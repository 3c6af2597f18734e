/-! ===== the model's edition ===== -/
theorem pFacts_s {T : List Tk} {n i : Nat} {F : List Fct} : pFacts T (n + 1) F i = if kd T i = 0 then (match pFact T F i with | .error e => .error e | .ok f => pFacts T n (F ++ [f]) (i + 6)) else .ok (F, i) := rfl
theorem pClauses_s {T : List Tk} {F : List Fct} {n i : Nat} {C : List PC2} : pClauses T F (n + 1) C i = if kd T i = 2 then (match pClause T F (C.map (·.1)) i with | .error e => .error e | .ok r => pClauses T F n (C ++ [(wd T (i + 1), r.1)]) r.2) else .ok (C, i) := rfl
section MED
variable {X : GX} {h : SH} {T : List Tk} {i f : Nat} {F : List Fct} {P : Out → SH → Prop}
abbrev wFs (b j : Nat) : Prop := (b = 35 ∧ (j = 7 ∨ j = 8)) ∨ (b = 42 ∧ j = 6) ∨ ((b = 43 ∨ b = 44 ∨ b = 45) ∧ 48 ≤ j)
theorem mfacts (hT : okT T) {x : Int32} : ∀ (n : Nat) (F : List Fct) (i : Nat) (g : SH), n + F.length = 9 → MR g T i → FM g F → okFs F → hI g 46 6 = 0 → no2 T 0 i →
    (∀ F' i' t, pFacts T n F i = .ok (F', i') → MR t T i' → FM t F' → okFs F' → no2 T 0 i' → cf wFs g t → Gd X mX11_edition 94 [some (.ref 35), some (.int x)] [] t 0 0 P) →
    (∀ e t, pFacts T n F i = .error e → MB t e → cf wFs g t → Gd X mX11_edition 94 [some (.ref 35), some (.int x)] [] t 0 0 P) → Gd X mX11_edition 79 [some (.ref 35), some (.int x)] [] g 0 0 P := by
  intro n
  induction n with
  | zero => intro F i g h1 M Q ok; have := ok.1; omega
  | succ n ih =>
    intro F i g h1 M Q ok h46 hn ko ke
    rw [pFacts_s] at ko ke
    refine bkX11_edition_79 M.1 (c_isWord (k := 0) M hT (by decide)) (fun r t q => ?_)
    obtain ⟨rfl, ht⟩ := q
    rw [ht]
    refine bkX11_edition_84 (fun z => ?_) (fun z => ?_)
    · rw [bI_0, decide_eq_false_iff_not] at z
      rw [if_neg z] at ko
      exact ko F i g rfl M Q ok hn cf.rf
    · rw [bI_0, decide_eq_false_iff_not, Decidable.not_not] at z
      rw [if_pos z] at ko ke
      refine bkX11_edition_87 M.1 (c_factIs M hT Q ok h46 z) (fun w hq => bkX11_edition_91 ?_)
      obtain ⟨C, hq⟩ := hq
      have h8 := ok.1
      have C2 : cf wFs g w := C.up (fun b j y => by unfold wF at y; unfold wFs; omega)
      cases hp : pFact T F i with
      | ok f =>
        rw [hp] at hq ko ke
        obtain ⟨p1, p2, p3⟩ := pFact_ok hT M.2.2.2.2.2 z ok hp
        exact ih (F ++ [f]) (i + 6) w (by rw [List.length_append]; simp; omega) hq.1 hq.2 p3 (by rw [(C.2 46 6 (by unfold wF; omega)).1]; exact h46) (hn.tr p2) (fun F' i' t a b c d e f => ko F' i' t a b c d e (C2.tr f)) (fun e t a b c => ke e t a b (C2.tr c))
      | error e =>
        rw [hp] at hq ke
        refine bkX11_edition_79 hq.1 (b_isWord hq) (fun r t q => ?_)
        obtain ⟨rfl, ht⟩ := q
        rw [ht]
        exact bkX11_edition_84 (fun _ => ke e w rfl hq C2) (fun y => absurd rfl y)
abbrev wCs (b j : Nat) : Prop := (b = 35 ∧ (j = 7 ∨ j = 8 ∨ j = 30 ∨ j = 31)) ∨ b = 60 ∨ b = 61 ∨ (b = 46 ∧ j = 6) ∨ (((47 ≤ b ∧ b ≤ 51) ∨ b = 54) ∧ 72 ≤ j) ∨ ((b = 52 ∨ b = 53) ∧ 576 ≤ j) ∨ ((55 ≤ b ∧ b ≤ 57) ∧ 1440 ≤ j) ∨ ((b = 58 ∨ b = 59) ∧ 15600 ≤ j)
theorem lks_rsl {g : List Nat → Nat} {c : PCl} : (lks (rsl g c)).length = c.2.2.2.1.length + c.2.2.2.2.1.length := by
  rw [lks_len]; show (c.2.2.2.1.map g).length + (c.2.2.2.2.1.map g).length = _; rw [List.length_map, List.length_map]
theorem mclauses (hT : okT T) {x : Int32} (ok : okFs F) : ∀ (n : Nat) (C : List PC2) (i k : Nat) (g : SH), n + C.length = 13 → C.length ≤ 12 → MR g T i → FM g F → NMI T i (C.map (·.1)) → (∀ p ∈ C, okPC T F.length p.2) → hI g 46 6 = nI C.length → hI g 35 30 = nI k → k ≤ i → (∀ (c : Nat) (hc : c < C.length), ClK g (72 + c) k (rsl (gM T) C[c].2)) →
    (∀ C' i' k' t, pClauses T F n C i = .ok (C', i') → MR t T i' → FM t F → NMI T i' (C'.map (·.1)) → (∀ p ∈ C', okPC T F.length p.2) → C'.length ≤ 12 → hI t 46 6 = nI C'.length → hI t 35 30 = nI k' → k' ≤ i' → (∀ (c : Nat) (hc : c < C'.length), ClK t (72 + c) k' (rsl (gM T) C'[c].2)) → cf wCs g t → Gd X mX11_edition 109 [some (.ref 35), some (.int x)] [] t 0 0 P) →
    (∀ e t, pClauses T F n C i = .error e → MB t e → cf wCs g t → Gd X mX11_edition 109 [some (.ref 35), some (.int x)] [] t 0 0 P) → Gd X mX11_edition 94 [some (.ref 35), some (.int x)] [] g 0 0 P := by
  intro n
  induction n with
  | zero => intro C i k g h1 h2; omega
  | succ n ih =>
    intro C i k g h1 h2 M Q N okC h46 h30 hk K ko ke
    rw [pClauses_s] at ko ke
    refine bkX11_edition_94 M.1 (c_isWord (k := 2) M hT (by decide)) (fun r t q => ?_)
    obtain ⟨rfl, ht⟩ := q
    rw [ht]
    refine bkX11_edition_99 (fun z => ?_) (fun z => ?_)
    · rw [bI_0, decide_eq_false_iff_not] at z
      rw [if_neg z] at ko
      exact ko C i k g rfl M Q N okC h2 h46 h30 hk K cf.rf
    · rw [bI_0, decide_eq_false_iff_not, Decidable.not_not] at z
      rw [if_pos z] at ko ke
      have hlm : (C.map (·.1)).length = C.length := List.length_map ..
      refine bkX11_edition_102 M.1 (c_clauseIs M hT Q ok N (by rw [hlm]; exact h2) (by rw [hlm]; exact h46) h30 hk z) (fun w hq => bkX11_edition_106 ?_)
      obtain ⟨Cf, hq⟩ := hq
      rw [hlm] at Cf hq
      have C2 : cf wCs g w := Cf.up (fun b j y => by unfold wC wCg at y; unfold wCs; omega)
      cases hp : pClause T F (C.map (·.1)) i with
      | ok r =>
        rw [hp] at hq ko ke
        obtain ⟨p0, p1, p2, p3, p4, p5, p6⟩ := pClause_ok hT M.2.2.2.2.2 z hp
        rw [hlm] at p0
        obtain ⟨q1, k', q2, q3, q4, q5, q6⟩ := hq
        have N2 : NMI T r.2 ((C ++ [(wd T (i + 1), r.1)]).map (·.1)) := by rw [List.map_append]; exact (N.s1 z p1).s0 (by omega) p5
        refine ih (C ++ [(wd T (i + 1), r.1)]) r.2 k' w (by rw [List.length_append]; simp; omega) (by rw [List.length_append]; simp; omega) q1 (Q.cf C2 (fun b j y => by unfold wCs at y; omega)) N2 (fun p hp => ?_) (by rw [List.length_append]; exact q6) q4 q3 (fun c hc => ?_) (fun C' i' k2 t a1 a2 a3 a4 a5 a6 a7 a8 a9 a10 a11 => ko C' i' k2 t a1 a2 a3 a4 a5 a6 a7 a8 a9 a10 (C2.tr a11)) (fun e t a b c => ke e t a b (C2.tr c))
        · rcases List.mem_append.mp hp with y | y
          · exact okC p y
          · rw [List.mem_singleton.mp y]; exact p6
        · rw [List.length_append] at hc
          by_cases y : c < C.length
          · rw [List.getElem_append_left y]
            have hokc := okC _ (List.getElem_mem y)
            refine ((K c y).cf (by rw [lks_rsl]; exact hokc.2.2.1) ?_ Cf (fun b j z1 z2 => by unfold wC wCg at z1; unfold clS at z2; omega)).mono q2
            show (C[c].2.2.2.2.2.2.map (rsI (gM T))).length ≤ 20
            rw [List.length_map]; exact hokc.2.2.2.2.2.1
          · have e : c = C.length := by simp at hc; omega
            subst e
            rw [List.getElem_append_right (Nat.le_refl _)]
            simp only [Nat.sub_self, List.getElem_singleton]
            exact q5
      | error e =>
        rw [hp] at hq ke
        refine bkX11_edition_94 hq.1 (b_isWord hq) (fun r t q => ?_)
        obtain ⟨rfl, ht⟩ := q
        rw [ht]
        exact bkX11_edition_99 (fun _ => ke e w rfl hq C2) (fun y => absurd rfl y)
/-- what reading writes -/
abbrev wR (b j : Nat) : Prop := (b = 35 ∧ (j = 0 ∨ j = 2 ∨ j = 3 ∨ j = 7 ∨ j = 8 ∨ j = 30 ∨ j = 31)) ∨ (37 ≤ b ∧ b ≤ 39) ∨ (b = 42 ∧ j = 6) ∨ ((b = 43 ∨ b = 44 ∨ b = 45) ∧ 48 ≤ j) ∨ (b = 46 ∧ j = 6) ∨ b = 47 ∨ (((48 ≤ b ∧ b ≤ 51) ∨ b = 54) ∧ 72 ≤ j) ∨ ((b = 52 ∨ b = 53) ∧ 576 ≤ j) ∨ ((55 ≤ b ∧ b ≤ 57) ∧ 1440 ≤ j) ∨ ((b = 58 ∨ b = 59) ∧ 15600 ≤ j) ∨ b = 60 ∨ b = 61
def emp (A : Abs) : Abs := ([], aE A, aH A, aN A, aF A, aL A)
theorem RepM.rd {t : SH} {A : Abs} (R : RepM h A) (ok : okA A) (c : cf wR h t) (h2 : hI t 35 2 = 0) : RepM t (emp A) := by
  obtain ⟨r1, r2, r3, r4, r5, r6, r7⟩ := R
  have e35 : ∀ j, (j = 10 ∨ j = 34 ∨ j = 36 ∨ (49 ≤ j ∧ j ≤ 53)) → hI t 35 j = hI h 35 j := fun j hj => (c.2 35 j (by unfold wR; omega)).1
  have er : ∀ b, (b = 41 ∨ 62 ≤ b) → hI t b = hI h b := fun b hb => (c.row (fun j z => by unfold wR at z; omega)).1
  have h6 := ok.2.1
  refine ⟨c.1 ▸ r1, ⟨h2, fun i hi => absurd hi (Nat.not_lt_zero _)⟩, ⟨(e35 10 (by omega)).trans r3.1, fun i hi => ?_⟩, ?_, ?_, ?_, fun k hk => ?_⟩
  · have hi : i < nE A := hi
    have := r3.2 i hi
    refine ⟨this.1.cg ⟨fun b j z => (c.2 b j (fun y => ?_)).1, fun b j z => (c.2 b j (fun y => ?_)).2⟩ (ok.2.2.1 i hi), by rw [er 41 (by omega)]; exact this.2⟩
    · unfold sgm at z; unfold wR at y; omega
    · unfold sgm at z; unfold wR at y; omega
  · rw [e35 34 (by omega), er 62 (by omega)]; exact r4
  · exact ⟨(e35 36 (by omega)).trans r5.1, r5.2.1, fun d hd => by show hI t 63 d = _; rw [er 63 (by omega)]; exact r5.2.2.1 d hd, r5.2.2.2⟩
  · show (match aL A with | none => _ | some Z => _)
    rw [e35 49 (by omega), e35 50 (by omega), e35 51 (by omega), e35 52 (by omega), e35 53 (by omega), er 69 (by omega), er 70 (by omega)]; exact r6
  · rw [(c.2 40 k (by unfold wR; omega)).2]; exact r7 k hk
theorem cf.frM {S : Nat → Nat → Prop} {t : SH} (c : cf S h t) (hS : ∀ b j, S b j → 35 ≤ b ∧ b ≤ 72) : frM h t := ⟨c.1, fun b hb => c.row (fun j z => by have := hS b j z; omega)⟩
theorem emp_ok {A : Abs} (ok : okA A) : okA (emp A) := ⟨⟨Nat.zero_le _, fun c hc => by cases hc⟩, ok.2⟩
def addE (A : Abs) (E : Edn) : Abs := ([], aE A ++ [E], aH A, aN A, aF A, aL A)
theorem ed_l {A : Abs} {E : Edn} {i : Nat} (hi : i < nE A) : ed (addE A E) i = ed A i := by
  unfold ed; show (aE A ++ [E]).getD i _ = _
  rw [List.getD_eq_getElem?_getD, List.getElem?_append_left hi, ← List.getD_eq_getElem?_getD]
theorem ed_r {A : Abs} {E : Edn} : ed (addE A E) (nE A) = E := by
  unfold ed; show (aE A ++ [E]).getD (aE A).length _ = _
  rw [List.getD_eq_getElem?_getD, List.getElem?_append_right (Nat.le_refl _)]; simp
theorem nE_add {A : Abs} {E : Edn} : nE (addE A E) = nE A + 1 := by show (aE A ++ [E]).length = _; rw [List.length_append]; rfl
theorem addE_ok {A : Abs} {E : Edn} (ok : okA A) (hE : okE E) (h6 : nE A ≠ 6) (hd : ∀ i, i < nE A → (ed A i).1 < E.1) : okA (addE A E) := by
  have h6' := ok.2.1
  refine ⟨⟨Nat.zero_le _, fun c hc => by cases hc⟩, by rw [nE_add]; omega, fun i hi => ?_, fun i j hij hj => ?_, fun i hi => ?_⟩
  · rw [nE_add] at hi
    by_cases y : i < nE A
    · rw [ed_l y]; exact ok.2.2.1 i y
    · rw [show i = nE A by omega, ed_r]; exact hE
  · rw [nE_add] at hj
    rw [ed_l (show i < nE A by omega)]
    by_cases y : j < nE A
    · rw [ed_l y]; exact ok.2.2.2.1 i j hij y
    · rw [show j = nE A by omega, ed_r]; exact hd i (by omega)
  · obtain ⟨a, b⟩ := ok.2.2.2.2 i hi
    rw [nE_add, ed_l a]
    exact ⟨by omega, b⟩
def okDay (A : Abs) (x : Int32) : Bool := decide ((0 ≤ x ∧ x ≤ 9999) ∧ nE A ≠ 6 ∧ (nE A ≠ 0 → nI (ed A (nE A - 1)).1 < x))
def fEdition (A : Abs) (x : Int32) : Int32 × Abs := if okDay A x = true then (match pEdn (toks (aT A)) with
  | .error e => (nI e, emp A)
  | .ok r => (0, takeA (addE A (mkE x.toNatClampNeg r.1 r.2)) (nE A))) else (-1, emp A)
theorem RepM.add {t : SH} {A : Abs} {E : Edn} (R : RepM h (emp A)) (ok : okA A) (h6 : nE A < 6) (c : cf (fun b j => sgm 35 (nE A) b j ∨ (b = 41 ∧ j = nE A) ∨ (b = 35 ∧ j = 10)) h t) (hE : EdM t 35 (nE A) E) (h41 : hI t 41 (nE A) = nI E.1) (h10 : hI t 35 10 = nI (nE A + 1)) : RepM t (addE A E) := by
  obtain ⟨r1, r2, r3, r4, r5, r6, r7⟩ := R
  have e35 : ∀ j, j ≠ 10 → hI t 35 j = hI h 35 j := fun j hj => (c.2 35 j (by unfold sgm; omega)).1
  have er : ∀ b, (b = 36 ∨ 62 ≤ b) → hI t b = hI h b := fun b hb => (c.row (fun j z => by unfold sgm at z; omega)).1
  refine ⟨c.1 ▸ r1, ⟨(e35 2 (by decide)).trans r2.1, fun i hi => absurd hi (Nat.not_lt_zero _)⟩, ⟨by rw [nE_add]; exact h10, fun i hi => ?_⟩, ?_, ?_, ?_, fun k hk => ?_⟩
  · rw [nE_add] at hi
    by_cases y : i < nE A
    · rw [ed_l y]
      have := r3.2 i y
      refine ⟨this.1.cg ⟨fun b j z => (c.2 b j (fun w => ?_)).1, fun b j z => (c.2 b j (fun w => ?_)).2⟩ (ok.2.2.1 i y), by rw [(c.2 41 i (by unfold sgm; omega)).1]; exact this.2⟩
      · unfold sgm at z w; omega
      · unfold sgm at z w; omega
    · have e : i = nE A := by omega
      subst e
      rw [ed_r]; exact ⟨hE, h41⟩
  · refine ⟨by rw [e35 34 (by decide)]; exact r4.1, fun i hi k hk => ?_⟩
    have hlt := (ok.2.2.2.2 i hi).1
    rw [ed_l hlt] at hk
    rw [er 62 (by omega)]; exact r4.2 i hi k hk
  · exact ⟨(e35 36 (by decide)).trans r5.1, r5.2.1, fun d hd => by show hI t 63 d = _; rw [er 63 (by omega)]; exact r5.2.2.1 d hd, r5.2.2.2⟩
  · show (match aL A with | none => _ | some Z => _)
    rw [e35 49 (by decide), e35 50 (by decide), e35 51 (by decide), e35 52 (by decide), e35 53 (by decide), er 69 (by omega), er 70 (by omega)]; exact r6
  · rw [(c.2 40 k (by unfold sgm; omega)).2]; exact r7 k hk
theorem rep_x {x : Int32} (hx : 0 ≤ x ∧ x ≤ 9999) : ∃ n, n ≤ 9999 ∧ x = nI n := by
  obtain ⟨n, hn, rfl⟩ := nI_some hx.1
  have := hx.2
  rw [n9999, nI_leI (by omega) (by omega)] at this
  exact ⟨n, this, rfl⟩
theorem M_takes8 {A : Abs} {i : Nat} (R : RepM h A) (ok : okA A) (hi : i < nE A) : Cd X mX11_takes [.ref 35, .int (nI i)] h 0 0 (oV (fun t => RepM t (takeA A i) ∧ frM h t ∧ hI t 35 8 = hI h 35 8) nX) := by
  have h6 := ok.2.1
  have hq := c_takes (X := X) (R.2.2.1.2 i hi).1 (ok.2.2.1 i hi) R.1 (by omega)
  refine Gd.mono (Nat.le_refl _) (Nat.le_refl _) (fun o t => ?_) hq
  match o with
  | .inl none =>
    rintro ⟨c1, c2, c3, c4⟩
    refine ⟨R.gen (A' := takeA A i) ok c1 (fun b q => by omega) rfl rfl rfl (c2 2 (by decide)) (c2 10 (by decide)) (c2 36 (by decide)) c3 (fun j hj k hk => ?_) (R.let (fun j hj => c2 j (by omega)) (c1.2.2 69 (by omega)) (c1.2.2 70 (by omega))), c1.frM (fun b q => by omega), c2 8 (by decide)⟩
    have : j = i := (Option.some.inj hj).symm
    subst this; exact c4 k hk
  | .inl (some _) => exact fun z => z
  | .inr _ => exact fun z => z
theorem fEd_err {A : Abs} {x : Int32} {e : Nat} (h1 : okDay A x = true) (h2 : pEdn (toks (aT A)) = .error e) : fEdition A x = (nI e, emp A) := by unfold fEdition; rw [if_pos h1, h2]
theorem fEd_ok {A : Abs} {x : Int32} {r : List Fct × List PC2} (h1 : okDay A x = true) (h2 : pEdn (toks (aT A)) = .ok r) : fEdition A x = (0, takeA (addE A (mkE x.toNatClampNeg r.1 r.2)) (nE A)) := by unfold fEdition; rw [if_pos h1, h2]
theorem pEdn_1 {e : Nat} (h1 : pFacts T 9 [] 0 = .error e) : pEdn T = .error e := by unfold pEdn; rw [h1]
theorem pEdn_2 {e i1 : Nat} (h1 : pFacts T 9 [] 0 = .ok (F, i1)) (h2 : pClauses T F 13 [] i1 = .error e) : pEdn T = .error e := by unfold pEdn; rw [h1]; simp only; rw [h2]
theorem pEdn_3 {i1 i2 : Nat} {C : List PC2} (h1 : pFacts T 9 [] 0 = .ok (F, i1)) (h2 : pClauses T F 13 [] i1 = .ok (C, i2)) : pEdn T = if kd T i2 ≠ 14 then .error (flt T 1 i2) else .ok (F, C) := by unfold pEdn; rw [h1]; simp only; rw [h2]
theorem medn_fin {x : Int32} {A : Abs} {xn i2 k2 : Nat} {C : List PC2} {h0 : SH} {v : Int32 × Abs} (hv : v = (0, takeA (addE A (mkE xn F C)) (nE A))) (ok : okA A) (hT : okT T) (hlt6 : nE A < 6) (hxn : xn ≤ 9999) (hxe : x = nI xn) (hdd : ∀ i, i < nE A → (ed A i).1 < xn)
    (RE : RepM h (emp A)) (z1 : frM h0 h) (M2 : MR h T i2) (Q2 : FM h F) (y : kd T i2 = 14) (ok2 : okC2 T F C) (N2 : NMI T i2 (C.map (·.1))) (C46 : hI h 46 6 = nI C.length) (C30 : hI h 35 30 = nI k2) (hk2 : k2 ≤ i2) (K2 : ∀ (c : Nat) (hc : c < C.length), ClK h (72 + c) k2 (rsl (gM T) C[c].2)) :
    Gd X mX11_edition 140 [some (.ref 35), some (.int x)] [] h 0 0 (oI (MP h0 v) nX) := by
  have okC := ok2.2.1
  have hi2 := M2.2.2.2.2.2
  have hE := mkE_ok (x := xn) hT hxn ok2
  have hge : ∀ p ∈ C, rsl (gM T) p.2 = rsl (gN C) p.2 := fun p hp => rsl_cg (okC p hp) (fun w hw => ((N2.fin hT hi2 y).2 w hw).1)
  have hmk : mkE xn F C = (xn, F, C.map (fun p => rsl (gM T) p.2)) := by
    unfold mkE; rw [List.map_congr_left (fun p hp => (hge p hp).symm)]
  have e10' : hI h 35 10 = nI (nE A) := RE.2.2.1.1
  have L2 := M2.1
  have D2 : DrM (sI h 41 (nE A) x) F (C.map (fun p => rsl (gM T) p.2)) k2 := by
    have cx : cf (fun b _ => b = 41) h (sI h 41 (nE A) x) := cf.rf.s rfl
    refine ⟨Q2.cf cx (fun b j z => by omega), by rw [sI_nb (by decide), List.length_map]; exact C46, by rw [sI_nb (by decide)]; exact C30, fun c hc => ?_⟩
    rw [List.length_map] at hc
    rw [List.getElem_map]
    have hokc := okC _ (List.getElem_mem hc)
    exact (K2 c hc).cf (by rw [lks_rsl]; exact hokc.2.2.1) (by show (C[c].2.2.2.2.2.2.map (rsI (gM T))).length ≤ 20; rw [List.length_map]; exact hokc.2.2.2.2.2.1) cx (fun b j z w => by unfold clS at w; omega)
  have hl2401 := hT.2.1
  have e10x : hI (sI h (35 + 6) (nE A) x) 35 10 = nI (nE A) := by rw [sI_nb (by decide)]; exact e10'
  refine bkX11_edition_140 L2 (by rw [e10']; exact (vp_in_nI (by omega) (by omega))) (by rw [e10', nI_clamp (by omega), e10x]; exact c_keeps (x := xn) hlt6 L2 D2 (by rw [← hmk]; exact hE) (by omega)) (fun t3 hq => ?_)
  obtain ⟨c3, E3⟩ := hq
  rw [← hmk] at E3
  have c4 : cf (fun b j => sgm 35 (nE A) b j ∨ (b = 41 ∧ j = nE A) ∨ (b = 35 ∧ j = 10)) h (sI t3 35 10 (nI (nE A + 1))) := ((cf.rf.s (S := fun b j => sgm 35 (nE A) b j ∨ (b = 41 ∧ j = nE A) ∨ (b = 35 ∧ j = 10)) (Or.inr (Or.inl ⟨rfl, rfl⟩))).tr (c3.up (fun b j z => Or.inl z))).s (Or.inr (Or.inr ⟨rfl, rfl⟩))
  have E4 : EdM (sI t3 35 10 (nI (nE A + 1))) 35 (nE A) (mkE xn F C) := E3.cg ⟨fun b j z => sI_ne (fun w => by unfold sgm at z; omega), fun b j z => rfl⟩ hE
  have e41 : hI (sI t3 35 10 (nI (nE A + 1))) 41 (nE A) = nI xn := by
    rw [sI_nb (by decide), (c3.2 41 _ (by unfold sgm; omega)).1, sI_at, hxe]
  have RA : RepM (sI t3 35 10 (nI (nE A + 1))) (addE A (mkE xn F C)) := RE.add ok hlt6 c4 E4 e41 sI_at
  have okAdd : okA (addE A (mkE xn F C)) := addE_ok ok hE (by omega) hdd
  have e10'' : hI t3 35 10 = nI (nE A) := by rw [(c3.2 35 10 (by unfold sgm; omega)).1, sI_nb (by decide)]; exact e10'
  have em : nI (nE A + 1) - 1 = nI (nE A) := by rw [show (1 : Int32) = nI 1 from rfl, pk_sub (by omega)]; rfl
  have hfin : hI (sI t3 35 10 (nI (nE A + 1))) 35 8 = 0 := by rw [sI_nj (by decide), (c3.2 35 8 (by unfold sgm; omega)).1, sI_nb (by decide)]; exact M2.2.2.2.1
  have fr4 : frM h (sI t3 35 10 (nI (nE A + 1))) := c4.frM (fun b j z => by unfold sgm at z; omega)
  refine bkX11_edition_158 (show LX11 (Sk t3) 35 from RA.1) (by rw [e10'', nI_1, sI_at, em]; exact M_takes8 RA okAdd (by rw [nE_add]; omega)) (fun t5 hq => ?_)
  refine bkX11_edition_178 hq.1.1 ?_
  rw [hq.2.2, hfin, hv]
  exact ⟨rfl, hq.1, z1.tr (fr4.tr hq.2.1)⟩
end MED
