/-! ===== the model reads: its small methods ===== -/
/-- only the cells in S have changed -/
def cf (S : Nat → Nat → Prop) (h t : SH) : Prop := Sk t = Sk h ∧ ∀ b j, ¬ S b j → hI t b j = hI h b j ∧ hJ t b j = hJ h b j
theorem cf.rf {S : Nat → Nat → Prop} {h : SH} : cf S h h := ⟨rfl, fun _ _ _ => ⟨rfl, rfl⟩⟩
theorem cf.tr {S : Nat → Nat → Prop} {h t u : SH} (a : cf S h t) (b : cf S t u) : cf S h u := ⟨b.1.trans a.1, fun q j hq => ⟨(b.2 q j hq).1.trans (a.2 q j hq).1, (b.2 q j hq).2.trans (a.2 q j hq).2⟩⟩
theorem cf.up {S S' : Nat → Nat → Prop} {h t : SH} (a : cf S h t) (hs : ∀ b j, S b j → S' b j) : cf S' h t := ⟨a.1, fun q j hq => a.2 q j (fun z => hq (hs q j z))⟩
theorem cf.s {S : Nat → Nat → Prop} {h t : SH} {a i : Nat} {v : Int32} (c : cf S h t) (ha : S a i) : cf S h (sI t a i v) :=
  ⟨c.1, fun b j hb => ⟨(sI_ne (fun q : b = a ∧ j = i => hb (by rw [q.1, q.2]; exact ha))).trans (c.2 b j hb).1, (c.2 b j hb).2⟩⟩
theorem cf.j {S : Nat → Nat → Prop} {h t : SH} {a i : Nat} {v : Int64} (c : cf S h t) (ha : S a i) : cf S h (sJ t a i v) :=
  ⟨c.1, fun b j hb => ⟨(c.2 b j hb).1, (sJ_ne (fun q : b = a ∧ j = i => hb (by rw [q.1, q.2]; exact ha))).trans (c.2 b j hb).2⟩⟩
theorem cf.row {S : Nat → Nat → Prop} {h t : SH} (c : cf S h t) {b : Nat} (hb : ∀ j, ¬ S b j) : hI t b = hI h b ∧ hJ t b = hJ h b := ⟨funext fun j => (c.2 b j (hb j)).1, funext fun j => (c.2 b j (hb j)).2⟩
theorem srt_1 {k : Nat} : srt k = 1 ↔ k ≤ 11 := by unfold srt; (repeat' split) <;> omega
theorem srt_2 {k : Nat} : srt k = 2 ↔ k = 12 := by unfold srt; (repeat' split) <;> omega
theorem srt_3 {k : Nat} : srt k = 3 ↔ 15 ≤ k := by unfold srt; (repeat' split) <;> omega
theorem srt_0 {k : Nat} : srt k = 0 ↔ k = 14 := by unfold srt; (repeat' split) <;> omega
theorem srt_le (k : Nat) : srt k ≤ 4 := by unfold srt; (repeat' split) <;> omega
/-- no fault yet, token i is next -/
def MR (h : SH) (T : List Tk) (i : Nat) : Prop := LX11 (Sk h) 35 ∧ TkM h T ∧ (∀ k, k < 11 → hJ h 40 k = enc37 (rw1 k)) ∧ hI h 35 8 = 0 ∧ hI h 35 7 = nI i ∧ i < T.length
/-- a fault -/
def MB (h : SH) (f : Nat) : Prop := LX11 (Sk h) 35 ∧ hI h 35 8 = nI f ∧ 1 ≤ f ∧ f < 2 ^ 31
theorem MR.cf {S : Nat → Nat → Prop} {h t : SH} {T : List Tk} {i : Nat} (M : MR h T i) (c : cf S h t) (h1 : ∀ b j, S b j → b ≠ 37 ∧ b ≠ 38 ∧ b ≠ 39 ∧ b ≠ 40 ∧ ¬ (b = 35 ∧ (j = 7 ∨ j = 8))) : MR t T i := by
  obtain ⟨m1, m2, m3, m4, m5, m6⟩ := M
  refine ⟨c.1 ▸ m1, m2.cg (c.row (fun j z => (h1 _ _ z).1 rfl)).1 (c.row (fun j z => (h1 _ _ z).2.1 rfl)).1 (c.row (fun j z => (h1 _ _ z).2.2.1 rfl)).2, fun k hk => ?_, ?_, ?_, m6⟩
  · rw [(c.2 40 k (fun z => (h1 _ _ z).2.2.2.1 rfl)).2]; exact m3 k hk
  · rw [(c.2 35 8 (fun z => (h1 _ _ z).2.2.2.2 ⟨rfl, Or.inr rfl⟩)).1]; exact m4
  · rw [(c.2 35 7 (fun z => (h1 _ _ z).2.2.2.2 ⟨rfl, Or.inl rfl⟩)).1]; exact m5
theorem MR.at {h : SH} {T : List Tk} {i j : Nat} (M : MR h T i) (hj : j < T.length) : MR (sI h 35 7 (nI j)) T j := by
  obtain ⟨m1, m2, m3, m4, m5, m6⟩ := M
  exact ⟨m1, m2.cg (sI_nb (by decide)) (sI_nb (by decide)) rfl, m3, by rw [sI_nj (by decide)]; exact m4, sI_at, hj⟩
theorem MB.cf {S : Nat → Nat → Prop} {h t : SH} {f : Nat} (M : MB h f) (c : cf S h t) (h1 : ¬ S 35 8) : MB t f := by
  obtain ⟨m1, m2, m3⟩ := M
  exact ⟨c.1 ▸ m1, by rw [(c.2 35 8 h1).1]; exact m2, m3⟩
theorem MR.bad {h : SH} {T : List Tk} {i f : Nat} (M : MR h T i) (h1 : 1 ≤ f) (h2 : f < 2 ^ 31) : MB (sI h 35 8 (nI f)) f := ⟨M.1, sI_at, h1, h2⟩
theorem MB.at {h : SH} {f : Nat} {v : Int32} (M : MB h f) : MB (sI h 35 7 v) f := ⟨M.1, by rw [sI_nj (by decide)]; exact M.2.1, M.2.2⟩
theorem MB.ne {h : SH} {f : Nat} (M : MB h f) : ¬ hI h 35 8 = 0 := by
  rw [M.2.1, n0, nI_eq M.2.2.2 (by decide)]
  have := M.2.2.1; omega
theorem flt_b {T : List Tk} {k i : Nat} (hT : okT T) (hi : i < T.length) (hk : 1 ≤ k ∧ k ≤ 5) : 1 ≤ flt T k i ∧ flt T k i < 2 ^ 31 := by
  have := hT.p hi; unfold flt; omega
theorem MR.s {h : SH} {T : List Tk} {i : Nat} (M : MR h T i) (hT : okT T) : vp_in (hI h 35 7) 2402 ∧ hI h (35 + 2) (hI h 35 7).toNatClampNeg = nI (srt (kd T i)) ∧ vM (tk T i) (hJ h (35 + 4) (hI h 35 7).toNatClampNeg) ∧ hI h (35 + 3) (hI h 35 7).toNatClampNeg = nI (pl T i) := by
  obtain ⟨m1, m2, m3, m4, m5, m6⟩ := M
  have h1 := hT.2.1
  obtain ⟨a, b, c⟩ := m2 i m6
  rw [m5, nI_clamp (by omega)]
  exact ⟨(vp_in_nI (by omega) (by omega)), a, c, b⟩
theorem vM.w {T : List Tk} {i k : Nat} {v : Int64} (V : vM (tk T i) v) (hT : okT T) (hi : i < T.length) (h11 : kd T i ≤ 11) (hk : k < 11) : v = enc37 (rw1 k) ↔ kd T i = k := by
  have hw := hT.w hi h11
  rw [V.1 h11, enc37_inj hw.1 (rw_ok k hk), hw.2, kwd_iff hk]
theorem vM.a {T : List Tk} {i : Nat} {v : Int64} (V : vM (tk T i) v) (h : kd T i ≤ 11) : v = enc37 (wd T i) := V.1 h
theorem vM.b {T : List Tk} {i : Nat} {v : Int64} (V : vM (tk T i) v) (h : kd T i = 12) : v = lN (nu T i) := V.2.1 h
theorem in67 : vp_in 6 7 := vp_in_nI (n := 6) (by decide) (by decide)
theorem in211 : vp_in 2 11 := vp_in_nI (n := 2) (by decide) (by decide)
section ML
variable {X : GX} {h : SH} {T : List Tk} {i f : Nat}
theorem c_wrong {k : Nat} (M : MR h T i) (hT : okT T) : Cd X mX11_wrong [.ref 35, .int (nI k)] h 0 0 (oV (fun t => t = sI h 35 8 (nI (flt T k i))) nX) := by
  obtain ⟨s1, s2, s3, s4⟩ := M.s hT
  refine bkX11_wrong_0 M.1 (fun q => absurd M.2.2.2.1 q) (fun _ => bkX11_wrong_7 M.1 s1 (bkX11_wrong_25 ?_))
  rw [s4, show (16 : Int32) = nI 16 from rfl, pk_mul, nI_add]; rfl
theorem b_wrong {x : Int32} (M : MB h f) : Cd X mX11_wrong [.ref 35, .int x] h 0 0 (oV (fun t => t = h) nX) :=
  bkX11_wrong_0 M.1 (fun _ => bkX11_wrong_25 rfl) (fun q => absurd q M.ne)
theorem c_isSign {c : Nat} (M : MR h T i) (hT : okT T) (hc : 15 ≤ c ∧ c ≤ 61) : Cd X mX11_isSign [.ref 35, .int (nI c)] h 0 0 (oI (fun r t => r = bI (decide (kd T i = c)) ∧ t = h) nX) := by
  obtain ⟨s1, s2, s3, s4⟩ := M.s hT
  have h61 := hT.k M.2.2.2.2.2
  have hsl := srt_le (kd T i)
  have no : kd T i ≠ c → Gd X mX11_isSign 39 [none, none] [] h 0 0 (oI (fun r t => r = bI (decide (kd T i = c)) ∧ t = h) nX) := fun e => bkX11_isSign_39 (bkX11_isSign_40 (Or.inl rfl) ⟨by rw [decide_eq_false e]; rfl, rfl⟩)
  refine bkX11_isSign_0 M.1 (fun q => absurd M.2.2.2.1 q) (fun _ => ?_)
  refine bkX11_isSign_7 M.1 s1 (fun q => no ?_) (fun q => ?_)
  · rw [s2, n3, nI_eq (by omega) (by omega), srt_3] at q; omega
  rw [s2, n3, nI_eq (by omega) (by omega), srt_3] at q
  have ev : hJ h (35 + 4) (hI h 35 7).toNatClampNeg = lN (kd T i) := s3.2.2 q
  refine bkX11_isSign_20 M.1 s1 (fun z => no ?_) (fun z => ?_)
  · rw [lg_cmp_eq, ev, nI_l (by omega), pk_lEQ (by omega) (by omega)] at z; exact z
  rw [lg_cmp_eq, ev, nI_l (by omega), pk_lEQ (by omega) (by omega)] at z
  exact bkX11_isSign_35 (bkX11_isSign_40 (Or.inr rfl) ⟨by rw [decide_eq_true z]; rfl, rfl⟩)
theorem b_isSign {x : Int32} (M : MB h f) : Cd X mX11_isSign [.ref 35, .int x] h 0 0 (oI (fun r t => r = 0 ∧ t = h) nX) :=
  bkX11_isSign_0 M.1 (fun _ => bkX11_isSign_39 (bkX11_isSign_40 (Or.inl rfl) ⟨rfl, rfl⟩)) (fun q => absurd q M.ne)
theorem c_isWord {k : Nat} (M : MR h T i) (hT : okT T) (hk : k < 11) : Cd X mX11_isWord [.ref 35, .int (nI k)] h 0 0 (oI (fun r t => r = bI (decide (kd T i = k)) ∧ t = h) nX) := by
  obtain ⟨s1, s2, s3, s4⟩ := M.s hT
  have hsl := srt_le (kd T i)
  have no : kd T i ≠ k → Gd X mX11_isWord 43 [none, none] [] h 0 0 (oI (fun r t => r = bI (decide (kd T i = k)) ∧ t = h) nX) := fun e => bkX11_isWord_43 (bkX11_isWord_44 (Or.inl rfl) ⟨by rw [decide_eq_false e]; rfl, rfl⟩)
  refine bkX11_isWord_0 M.1 (fun q => absurd M.2.2.2.1 q) (fun _ => ?_)
  refine bkX11_isWord_7 M.1 s1 (fun q => no ?_) (fun q => ?_)
  · rw [s2, n1, nI_eq (by omega) (by omega), srt_1] at q; omega
  rw [s2, n1, nI_eq (by omega) (by omega), srt_1] at q
  have e40 : hJ h (35 + 5) (nI k).toNatClampNeg = enc37 (rw1 k) := by rw [nI_clamp (by omega)]; exact M.2.2.1 k hk
  refine bkX11_isWord_20 M.1 s1 (vp_in_nI (by omega) (by omega)) (fun z => no ?_) (fun z => ?_)
  · rw [lg_cmp_eq, e40, s3.w hT M.2.2.2.2.2 q hk] at z; exact z
  rw [lg_cmp_eq, e40, s3.w hT M.2.2.2.2.2 q hk] at z
  exact bkX11_isWord_39 (bkX11_isWord_44 (Or.inr rfl) ⟨by rw [decide_eq_true z]; rfl, rfl⟩)
theorem b_isWord {x : Int32} (M : MB h f) : Cd X mX11_isWord [.ref 35, .int x] h 0 0 (oI (fun r t => r = 0 ∧ t = h) nX) :=
  bkX11_isWord_0 M.1 (fun _ => bkX11_isWord_43 (bkX11_isWord_44 (Or.inl rfl) ⟨rfl, rfl⟩)) (fun q => absurd q M.ne)
theorem c_isName (M : MR h T i) (hT : okT T) : Cd X mX11_isName [.ref 35] h 0 0 (oI (fun r t => r = bI (decide (kd T i = 11)) ∧ t = h) nX) := by
  obtain ⟨s1, s2, s3, s4⟩ := M.s hT
  have hsl := srt_le (kd T i)
  have loop : Gd X mX11_isName 28 [some (.ref 35), some (.int (bI (decide (kd T i ≤ 11 ∧ 0 ≤ kd T i)))), some (.int (nI 0))] [] h 0 0 (oI (fun r t => r = bI (decide (kd T i = 11)) ∧ t = h) nX) := by
    refine for_up (G := fun k t => Gd X mX11_isName 28 [some (.ref 35), some (.int (bI (decide (kd T i ≤ 11 ∧ k ≤ kd T i)))), some (.int (nI k))] [] t 0 0 (oI (fun r t => r = bI (decide (kd T i = 11)) ∧ t = h) nX)) (I := fun _ t => t = h) 11 ?_ ?_ 0 h (Nat.zero_le _) rfl
    · rintro t rfl
      refine bkX11_isName_28 (fun _ => bkX11_isName_69 (bI_01 _) ⟨?_, rfl⟩) (fun z => absurd (Int32.le_refl _) z)
      congr 1
      exact decide_eq_decide.mpr ⟨fun z => by omega, fun z => by omega⟩
    · rintro k t hk rfl ih
      have nx := ih _ rfl
      refine bkX11_isName_28 (fun z => ?_) (fun _ => ?_)
      · rw [show (11 : Int32) = nI 11 from rfl, nI_leI (by omega) (by omega)] at z; omega
      refine bkX11_isName_34 (fun z => ?_) (fun z => ?_)
      · rw [bI_0, decide_eq_false_iff_not] at z
        refine bkX11_isName_61 (bkX11_isName_62 ?_)
        rw [nI_1]
        rw [decide_eq_false (by omega)] at nx
        exact nx
      · rw [bI_0, decide_eq_false_iff_not, Decidable.not_not] at z
        have e40 : hJ t (35 + 5) (nI k).toNatClampNeg = enc37 (rw1 k) := by rw [nI_clamp (by omega)]; exact M.2.2.1 k hk
        refine bkX11_isName_38 M.1 s1 (vp_in_nI (by omega) (by omega)) (fun y => ?_) (fun y => ?_)
        · rw [lg_cmp_eq, e40, s3.w hT M.2.2.2.2.2 z.1 hk] at y
          refine bkX11_isName_61 (bkX11_isName_62 ?_)
          rw [nI_1]
          rw [decide_eq_false (by omega)] at nx
          exact nx
        · rw [lg_cmp_eq, e40, s3.w hT M.2.2.2.2.2 z.1 hk] at y
          refine bkX11_isName_57 (bkX11_isName_62 ?_)
          rw [nI_1]
          rw [decide_eq_true (by omega)] at nx
          exact nx
  refine bkX11_isName_0 M.1 (fun q => absurd M.2.2.2.1 q) (fun _ => ?_)
  refine bkX11_isName_7 M.1 s1 (fun q => ?_) (fun q => ?_)
  · rw [s2, n1, nI_eq (by omega) (by omega), srt_1] at q
    refine bkX11_isName_24 (bkX11_isName_25 ?_)
    rw [decide_eq_false (by omega)] at loop; exact loop
  · rw [s2, n1, nI_eq (by omega) (by omega), srt_1] at q
    refine bkX11_isName_20 (bkX11_isName_25 ?_)
    rw [decide_eq_true ⟨q, Nat.zero_le _⟩] at loop; exact loop
theorem b_isName (M : MB h f) : Cd X mX11_isName [.ref 35] h 0 0 (oI (fun r t => r = 0 ∧ t = h) nX) := by
  refine bkX11_isName_0 M.1 (fun _ => bkX11_isName_24 (bkX11_isName_25 ?_)) (fun q => absurd q M.ne)
  refine for_up (G := fun k t => Gd X mX11_isName 28 [some (.ref 35), some (.int 0), some (.int (nI k))] [] t 0 0 (oI (fun r t => r = 0 ∧ t = h) nX)) (I := fun _ t => t = h) 11 ?_ ?_ 0 h (Nat.zero_le _) rfl
  · rintro t rfl
    exact bkX11_isName_28 (fun _ => bkX11_isName_69 (Or.inl rfl) ⟨rfl, rfl⟩) (fun z => absurd (Int32.le_refl _) z)
  · rintro k t hk rfl ih
    refine bkX11_isName_28 (fun z => ?_) (fun _ => bkX11_isName_34 (fun _ => bkX11_isName_61 (bkX11_isName_62 ?_)) (fun z => absurd rfl z))
    · rw [show (11 : Int32) = nI 11 from rfl, nI_leI (by omega) (by omega)] at z; omega
    · rw [nI_1]; exact ih _ rfl
/-- what a take leaves: the next token, or a fault -/
def tak (T : List Tk) (h : SH) (i k : Nat) : SH := if kd T i = k then sI h 35 7 (nI (i + 1)) else sI h 35 8 (nI (flt T 1 i))
theorem c_takeSign {c : Nat} (M : MR h T i) (hT : okT T) (hc : 15 ≤ c ∧ c ≤ 61) : Cd X mX11_takeSign [.ref 35, .int (nI c)] h 0 0 (oV (fun t => t = tak T h i c) nX) := by
  refine bkX11_takeSign_0 M.1 (c_isSign M hT hc) (fun r t q => ?_)
  obtain ⟨rfl, rfl⟩ := q
  refine bkX11_takeSign_5 (fun z => ?_) (fun z => ?_)
  · rw [bI_0, decide_eq_false_iff_not] at z
    refine bkX11_takeSign_21 M.1 (c_wrong (k := 1) M hT) (fun u q => bkX11_takeSign_26 ?_)
    rw [q]; unfold tak; rw [if_neg z]; exact rfl
  · rw [bI_0, decide_eq_false_iff_not, Decidable.not_not] at z
    refine bkX11_takeSign_8 M.1 (bkX11_takeSign_26 ?_)
    unfold tak; rw [if_pos z, M.2.2.2.2.1, nI_1]; exact rfl
theorem b_takeSign {x : Int32} (M : MB h f) : Cd X mX11_takeSign [.ref 35, .int x] h 0 0 (oV (fun t => t = h) nX) := by
  refine bkX11_takeSign_0 M.1 (b_isSign M) (fun r t q => ?_)
  obtain ⟨rfl, rfl⟩ := q
  exact bkX11_takeSign_5 (fun z => bkX11_takeSign_21 M.1 (b_wrong M) (fun u q => bkX11_takeSign_26 q)) (fun z => absurd rfl z)
theorem c_hasSign {c : Nat} (M : MR h T i) (hT : okT T) (hc : 15 ≤ c ∧ c ≤ 61) : Cd X mX11_hasSign [.ref 35, .int (nI c)] h 0 0 (oI (fun r t => r = bI (decide (kd T i = c)) ∧ t = sI h 35 7 (nI (if kd T i = c then i + 1 else i))) nX) := by
  refine bkX11_hasSign_0 M.1 (c_isSign M hT hc) (fun r t q => ?_)
  obtain ⟨rfl, rfl⟩ := q
  refine bkX11_hasSign_5 M.1 (fun z => ?_) (fun z => ?_)
  · refine bkX11_hasSign_19 (bkX11_hasSign_20 M.1 (bI_01 _) ⟨rfl, ?_⟩)
    rw [bI_0, decide_eq_false_iff_not] at z
    rw [if_neg z, M.2.2.2.2.1, n0, nI_add]; rfl
  · refine bkX11_hasSign_15 (bkX11_hasSign_20 M.1 (bI_01 _) ⟨rfl, ?_⟩)
    rw [bI_0, decide_eq_false_iff_not, Decidable.not_not] at z
    rw [if_pos z, M.2.2.2.2.1, nI_1]
theorem c_hasWord {k : Nat} (M : MR h T i) (hT : okT T) (hk : k < 11) : Cd X mX11_hasWord [.ref 35, .int (nI k)] h 0 0 (oI (fun r t => r = bI (decide (kd T i = k)) ∧ t = sI h 35 7 (nI (if kd T i = k then i + 1 else i))) nX) := by
  refine bkX11_hasWord_0 M.1 (c_isWord M hT hk) (fun r t q => ?_)
  obtain ⟨rfl, rfl⟩ := q
  refine bkX11_hasWord_5 M.1 (fun z => ?_) (fun z => ?_)
  · refine bkX11_hasWord_19 (bkX11_hasWord_20 M.1 (bI_01 _) ⟨rfl, ?_⟩)
    rw [bI_0, decide_eq_false_iff_not] at z
    rw [if_neg z, M.2.2.2.2.1, n0, nI_add]; rfl
  · refine bkX11_hasWord_15 (bkX11_hasWord_20 M.1 (bI_01 _) ⟨rfl, ?_⟩)
    rw [bI_0, decide_eq_false_iff_not, Decidable.not_not] at z
    rw [if_pos z, M.2.2.2.2.1, nI_1]
theorem b_hasWord {x : Int32} (M : MB h f) : Cd X mX11_hasWord [.ref 35, .int x] h 0 0 (oI (fun r t => r = 0 ∧ ∃ v, t = sI h 35 7 v) nX) := by
  refine bkX11_hasWord_0 M.1 (b_isWord M) (fun r t q => ?_)
  obtain ⟨rfl, rfl⟩ := q
  exact bkX11_hasWord_5 M.1 (fun z => bkX11_hasWord_19 (bkX11_hasWord_20 M.1 (Or.inl rfl) ⟨rfl, _, rfl⟩)) (fun z => absurd rfl z)
/-- a take by way of has: the same cells, told with a write that changes nothing -/
def takW (T : List Tk) (h : SH) (i k : Nat) : SH := if kd T i = k then sI h 35 7 (nI (i + 1)) else sI (sI h 35 7 (nI i)) 35 8 (nI (flt T 1 i))
theorem c_takeWord {k : Nat} (M : MR h T i) (hT : okT T) (hk : k < 11) : Cd X mX11_takeWord [.ref 35, .int (nI k)] h 0 0 (oV (fun t => t = takW T h i k) nX) := by
  refine bkX11_takeWord_0 M.1 (c_hasWord M hT hk) (fun r t q => ?_)
  obtain ⟨rfl, rfl⟩ := q
  refine bkX11_takeWord_5 (fun z => ?_) (fun z => ?_)
  · rw [bI_0, decide_eq_false_iff_not, Decidable.not_not] at z
    refine bkX11_takeWord_13 ?_
    unfold takW; rw [if_pos z, if_pos z]; exact rfl
  · rw [bI_0, decide_eq_false_iff_not] at z
    have M2 : MR (sI h 35 7 (nI (if kd T i = k then i + 1 else i))) T i := by rw [if_neg z]; exact M.at M.2.2.2.2.2
    refine bkX11_takeWord_8 M2.1 (c_wrong (k := 1) M2 hT) (fun u q => bkX11_takeWord_13 ?_)
    rw [q]; unfold takW; rw [if_neg z, if_neg z]; exact rfl
theorem b_takeWord {x : Int32} (M : MB h f) : Cd X mX11_takeWord [.ref 35, .int x] h 0 0 (oV (fun t => ∃ v, t = sI h 35 7 v) nX) := by
  refine bkX11_takeWord_0 M.1 (b_hasWord M) (fun r t q => ?_)
  obtain ⟨rfl, v, rfl⟩ := q
  exact bkX11_takeWord_5 (fun z => absurd rfl z) (fun z => bkX11_takeWord_8 M.1 (b_wrong M.at) (fun u q => bkX11_takeWord_13 ⟨v, q⟩))
theorem c_takeNumber {lo hi : Nat} (M : MR h T i) (hT : okT T) (hk : kd T i = 12) (h1 : lo ≤ nu T i) (h2 : nu T i ≤ hi) (hh : hi < 2 ^ 31) : Cd X mX11_takeNumber [.ref 35, .int (nI lo), .int (nI hi)] h 0 0 (oI (fun r t => r = nI (nu T i) ∧ t = sI h 35 7 (nI (i + 1))) nX) := by
  obtain ⟨s1, s2, s3, s4⟩ := M.s hT
  have hn := hT.n M.2.2.2.2.2 hk
  have hl := hT.2.1
  have hil := M.2.2.2.2.2
  have e2 : srt (kd T i) = 2 := srt_2.mpr hk
  have ev := s3.2.1 hk
  refine bkX11_takeNumber_0 M.1 (fun q => absurd M.2.2.2.1 q) (fun _ => ?_)
  refine bkX11_takeNumber_7 M.1 s1 (fun _ => ?_) (fun q => absurd (by rw [s2, e2]; rfl) q)
  refine bkX11_takeNumber_28 M.1 (fun q => absurd M.2.2.2.1 q) (fun _ => ?_)
  refine bkX11_takeNumber_35 M.1 s1 (fun q => ?_) (fun _ => ?_)
  · rw [lg_cmp_lt, ev, nI_l (by omega)] at q
    have q' := (pk_lLT (a := nu T i) (b := lo) (by omega) (by omega)).mp q
    omega
  refine bkX11_takeNumber_50 M.1 s1 (fun _ => ?_) (fun q => ?_)
  rotate_left
  · rw [lg_cmp_le, ev, nI_l (by omega)] at q
    exact absurd ((pk_lLE (a := nu T i) (b := hi) (by omega) (by omega)).mpr h2) q
  refine bkX11_takeNumber_70 M.1 (fun _ => ?_) (fun q => absurd ?_ q)
  rotate_left
  · rw [sI_nj (by decide), M.2.2.2.1]; exact Int32.le_refl _
  rw [M.2.2.2.2.1, nI_1]
  have e7 : hI (sI h 35 7 (nI (i + 1))) 35 7 - 1 = nI i := by rw [sI_at, n1, pk_sub (by omega)]; rfl
  refine bkX11_takeNumber_91 M.1 (by rw [e7]; exact vp_in_nI (by omega) (by decide)) (bkX11_takeNumber_103 ⟨?_, rfl⟩)
  rw [e7, nI_clamp (by omega)]
  have e9 : hJ (sI h 35 7 (nI (i + 1))) (35 + 4) i = lN (nu T i) := by
    have := s3.2.1 hk
    rw [M.2.2.2.2.1, nI_clamp (by omega)] at this; exact this
  rw [e9, ← nI_l (by omega)]
  exact Int32.toInt32_toInt64 _
theorem x_takeNumber {lo hi k : Nat} (M : MR h T i) (hT : okT T) (hk : (kd T i ≠ 12 ∧ k = 1) ∨ (kd T i = 12 ∧ k = 4 ∧ (nu T i < lo ∨ hi < nu T i))) (h1 : lo < 2 ^ 31) (hh : hi < 2 ^ 31) : Cd X mX11_takeNumber [.ref 35, .int (nI lo), .int (nI hi)] h 0 0 (oI (fun r t => r = 0 ∧ t = sI (sI h 35 8 (nI (flt T k i))) 35 7 (nI (i + 1))) nX) := by
  obtain ⟨s1, s2, s3, s4⟩ := M.s hT
  have hl := hT.2.1
  have hil := M.2.2.2.2.2
  have hsl := srt_le (kd T i)
  have fin : Gd X mX11_takeNumber 70 [some (.ref 35), none, none] [] (sI h 35 8 (nI (flt T k i))) 0 0 (oI (fun r t => r = 0 ∧ t = sI (sI h 35 8 (nI (flt T k i))) 35 7 (nI (i + 1))) nX) := by
    have hb := flt_b (k := k) hT hil (by omega)
    refine bkX11_takeNumber_70 M.1 (fun q => ?_) (fun _ => bkX11_takeNumber_87 (bkX11_takeNumber_103 ⟨rfl, ?_⟩))
    · rw [sI_nj (by decide), sI_at, n0, nI_leI (by omega) (by omega)] at q; omega
    · rw [sI_nj (by decide), M.2.2.2.2.1, nI_1]
  rcases hk with ⟨k1, rfl⟩ | ⟨k1, rfl, k2⟩
  · refine bkX11_takeNumber_0 M.1 (fun q => absurd M.2.2.2.1 q) (fun _ => ?_)
    refine bkX11_takeNumber_7 M.1 s1 (fun q => ?_) (fun _ => ?_)
    · rw [s2, n2, nI_eq (by omega) (by omega), srt_2] at q; exact absurd q k1
    refine bkX11_takeNumber_20 M.1 (c_wrong (k := 1) M hT) (fun u q => bkX11_takeNumber_25 ?_)
    rw [q]; exact fin
  · have hn := hT.n hil k1
    have ev := s3.2.1 k1
    have e2 : srt (kd T i) = 2 := srt_2.mpr k1
    have bad : Gd X mX11_takeNumber 65 [some (.ref 35), none, none] [] h 0 0 (oI (fun r t => r = 0 ∧ t = sI (sI h 35 8 (nI (flt T 4 i))) 35 7 (nI (i + 1))) nX) := bkX11_takeNumber_65 M.1 (c_wrong (k := 4) M hT) (fun u q => by rw [q]; exact fin)
    refine bkX11_takeNumber_0 M.1 (fun q => absurd M.2.2.2.1 q) (fun _ => ?_)
    refine bkX11_takeNumber_7 M.1 s1 (fun _ => ?_) (fun q => absurd (by rw [s2, e2]; rfl) q)
    refine bkX11_takeNumber_28 M.1 (fun q => absurd M.2.2.2.1 q) (fun _ => ?_)
    refine bkX11_takeNumber_35 M.1 s1 (fun _ => bad) (fun q => ?_)
    rw [lg_cmp_lt, ev, nI_l h1] at q
    have q' : ¬ nu T i < lo := fun z => q ((pk_lLT (a := nu T i) (b := lo) (by omega) (by omega)).mpr z)
    refine bkX11_takeNumber_50 M.1 s1 (fun q2 => ?_) (fun _ => bad)
    rw [lg_cmp_le, ev, nI_l hh] at q2
    have q2' := (pk_lLE (a := nu T i) (b := hi) (by omega) (by omega)).mp q2
    omega
theorem b_takeNumber {x y : Int32} (M : MB h f) : Cd X mX11_takeNumber [.ref 35, .int x, .int y] h 0 0 (oI (fun r t => r = 0 ∧ ∃ v, t = sI h 35 7 v) nX) := by
  refine bkX11_takeNumber_0 M.1 (fun _ => ?_) (fun q => absurd q M.ne)
  refine bkX11_takeNumber_28 M.1 (fun _ => ?_) (fun q => absurd q M.ne)
  refine bkX11_takeNumber_70 M.1 (fun q => ?_) (fun _ => bkX11_takeNumber_87 (bkX11_takeNumber_103 ⟨rfl, _, rfl⟩))
  rw [sI_nj (by decide), M.2.1, n0, nI_leI M.2.2.2 (by decide)] at q
  have := M.2.2.1; omega
end ML
