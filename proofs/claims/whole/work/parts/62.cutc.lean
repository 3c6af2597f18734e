/-! ===== the component cuts a text, whole ===== -/
theorem enc32_app {w : List Nat} {a : Nat} : enc32 (w ++ [a]) = enc32 w * 32 + lN a := by unfold enc32; rw [List.foldl_append]; rfl
/-- the object k and its text -/
def TX (h : SH) (k : Nat) (T : List Nat) : Prop := LX9 (Sk h) k ∧ (hA h k 0 = some 9 ∧ Ar h 9 21 2400) ∧ hI h k 1 = nI T.length ∧ (∀ (i : Nat) (hi : i < T.length), hI h 9 i = nI T[i]) ∧ (hN h (k + 2) = T.length + 1 ∧ hN h (k + 3) = T.length + 1 ∧ hN h (k + 4) = T.length + 1) ∧ RsC h k ∧ 73 ≤ k
def TXo (T : List Nat) : Prop := T.length ≤ 2400 ∧ ∀ c ∈ T, c ≤ 126
section CC
variable {X : GX} {h h0 : SH} {k : Nat} {T : List Nat} {A : List Tk}
theorem TX.cg {t : SH} (W : TX h k T) (c : chR (kpS k) h t) (h1 : hI t k 1 = hI h k 1) : TX t k T := by
  obtain ⟨w1, w2, w3, w4, w5, w6, w7⟩ := W
  have hA' : hA t = hA h := c.hA
  refine ⟨c.1 ▸ w1, ⟨by rw [hA']; exact w2.1, ?_⟩, h1.trans w3, fun i hi => by rw [(c.2 9 (by unfold kpS; omega)).1]; exact w4 i hi, ⟨(c.hN _).trans w5.1, (c.hN _).trans w5.2.1, (c.hN _).trans w5.2.2⟩, fun q hq => by rw [(c.2 (k + 1) (by unfold kpS; omega)).2]; exact w6 q hq, w7⟩
  exact ⟨w2.2.1, by rw [c.hz]; exact w2.2.2.1, by rw [show hK t 9 = hK h 9 from congrArg (fun k : Skl => (k.2.1 9).1) c.1]; exact w2.2.2.2.1, by rw [c.hN]; exact w2.2.2.2.2⟩
theorem c_cutLetters {p : Nat} (W : TX h k T) (o : TXo T) (C : CT h0 h k T.length A) (hp : p < T.length) (hl : isLt T[p] = true) (hA : A.length ≤ p) :
    Cd X mX9_cutLetters [.ref k, .int (nI p)] h 0 0 (oI (fun r t => r = nI (p + ((T.drop p).takeWhile isLt).length) ∧ CT h0 t k T.length (A ++ [wTk p ((T.drop p).takeWhile isLt)])) nX) := by
  obtain ⟨w1, w2, w3, w4, w5, w6, w7⟩ := W
  have hT := o.1
  generalize hr : (T.drop p).takeWhile isLt = r
  have hk1 : 1 ≤ r.length := by rw [← hr, List.drop_eq_getElem_cons hp]; exact tw_pos hl
  have hk2 : p + r.length ≤ T.length := by have := tw_le (f := isLt) (T.drop p); rw [hr, List.length_drop] at this; omega
  have hlr : (ltr r).length = r.length := by unfold ltr; rw [List.length_map]
  have rj : ∀ (j : Nat) (hj : j < r.length), ∃ (hp2 : p + j < T.length), T[p + j] = r[j] ∧ isLt r[j] = true := fun j hj => by
    have hj2 : j < ((T.drop p).takeWhile isLt).length := by rw [hr]; exact hj
    obtain ⟨a1, a2, a3⟩ := tw_at hj2
    have a4 : ((T.drop p).takeWhile isLt)[j] = r[j] := by simp only [hr]
    rw [List.getElem_drop] at a2 a3
    exact ⟨by omega, by rw [← a4, a2], by rw [← a4, a2]; exact a3⟩
  generalize hP : oI (fun z t => z = nI (p + r.length) ∧ CT h0 t k T.length (A ++ [wTk p r])) nX = P
  refine bkX9_cutLetters_0 ?_
  have kp : ∀ (y : Int64), vC (wTk p r) y → Gd X mX9_cutLetters 65 [none, some (.int (nI p)), some (.long y), none, some (.int (nI (p + r.length)))] [.int (nI (wTk p r).1), .ref k] h 0 0 P := fun y hy => by
    have hpl : (wTk p r).2.1 = p := by unfold wTk; split <;> rfl
    refine bkX9_cutLetters_65 w1 (by have := c_keep (X := X) C w1 w5 hT hy; rw [hpl] at this; exact this) (fun t q => bkX9_cutLetters_70 ?_)
    rw [← hP]; exact ⟨rfl, q.1 (by omega)⟩
  have done : Gd X mX9_cutLetters 45 [some (.ref k), some (.int (nI p)), some (.long (enc32 ((ltr r).take r.length))), none, some (.int (nI (p + r.length)))] [] h 0 0 P := by
    refine bkX9_cutLetters_45 (fun z => ?_) (fun z => ?_)
    · rw [pk_sub (by omega), Nat.add_sub_cancel_left, show (10 : Int32) = nI 10 from rfl, nI_leI (by omega) (by omega)] at z
      have ex : wTk p r = (kwd (ltr r), p, ltr r, 0) := by unfold wTk; rw [if_pos z]
      have e1 : (ltr r).take r.length = ltr r := by rw [← hlr, List.take_length]
      have hok : okW (ltr r) := by
        have := (wTk_ok (L := T.length) (p := p) (l := T.drop p) (by omega) (by rw [hr]; exact hk1)).2.1
        rw [hr, ex] at this
        exact (this (kwd_le _)).1
      rw [e1]
      refine bkX9_cutLetters_60 w1 (c_kindOfWord w1 w6 hok) (fun z2 t q => ?_)
      obtain ⟨rfl, ht⟩ := q
      rw [ht]
      have := kp (enc32 (ltr r)) (by rw [ex]; exact ⟨fun _ => rfl, fun y => by have := kwd_le (ltr r); have y : kwd (ltr r) = 12 := y; omega⟩)
      rw [ex] at this; exact this
    · rw [pk_sub (by omega), Nat.add_sub_cancel_left, show (10 : Int32) = nI 10 from rfl, nI_leI (by omega) (by omega)] at z
      have ex : wTk p r = (13, p, [], 0) := by unfold wTk; rw [if_neg z]
      refine bkX9_cutLetters_55 ?_
      have := kp (enc32 ((ltr r).take r.length)) (by rw [ex]; exact ⟨fun y => by simp at y, fun y => by simp at y⟩)
      rw [ex] at this; exact this
  refine for_up (G := fun j t => Gd X mX9_cutLetters 5 [some (.ref k), some (.int (nI p)), some (.long (enc32 ((ltr r).take j))), none, some (.int (nI (p + j)))] [] t 0 0 P) (I := fun _ t => t = h) r.length ?_ ?_ 0 h (Nat.zero_le _) rfl
  · rintro t rfl
    by_cases qe : p + r.length < T.length
    · have hne : isLt T[p + r.length] = false := by
        have hq : ((T.drop p).takeWhile isLt).length < (T.drop p).length := by rw [hr, List.length_drop]; omega
        have := tw_end hq
        simp only [hr, List.getElem_drop] at this
        exact this
      have h126 := o.2 _ (List.getElem_mem qe)
      refine bkX9_cutLetters_5 w1 (fun _ => done) (fun _ => ?_)
      refine bkX9_cutLetters_14 w1 w2.1 w2.2 (vp_in_nI (by omega) (by omega)) (by rw [nI_clamp (by omega), w4 _ qe]; exact c_isLetterC (by omega)) (fun z t' q => ?_)
      obtain ⟨rfl, rfl⟩ := q
      rw [hne]
      exact bkX9_cutLetters_24 (fun _ => done) (fun z => absurd rfl z)
    · refine bkX9_cutLetters_5 w1 (fun _ => done) (fun z => absurd ?_ z)
      rw [w3]; exact nI_le (by omega) (by omega)
  · rintro j t hj rfl ih
    obtain ⟨hp2, e1, e2⟩ := rj j hj
    have hb : 97 ≤ r[j] ∧ r[j] ≤ 122 := by simpa [isLt] using e2
    refine bkX9_cutLetters_5 w1 (fun z => ?_) (fun _ => ?_)
    · rw [w3] at z; exact absurd z (nI_ge hp2 (by omega))
    refine bkX9_cutLetters_14 w1 w2.1 w2.2 (vp_in_nI (by omega) (by omega)) (by rw [nI_clamp (by omega), w4 _ hp2, e1]; exact c_isLetterC (by omega)) (fun z t' q => ?_)
    obtain ⟨rfl, rfl⟩ := q
    rw [e2]
    refine bkX9_cutLetters_24 (fun z => absurd z (by decide)) (fun _ => ?_)
    refine bkX9_cutLetters_27 w1 w2.1 w2.2 (vp_in_nI (by omega) (by omega)) (by rw [nI_clamp (by omega), w4 _ hp2, e1]; exact c_packLetter hb) (fun z t' q => ?_)
    obtain ⟨rfl, rfl⟩ := q
    refine bkX9_cutLetters_38 ?_
    rw [nI_1, enc32_app]
    have nx := ih _ rfl
    rw [enc32_s (by omega), show (ltr r)[j]'(by omega) = r[j] - 96 by simp [ltr]] at nx
    exact nx
theorem c_cutDigits {p : Nat} (W : TX h k T) (o : TXo T) (C : CT h0 h k T.length A) (hp : p < T.length) (hl : isDg T[p] = true) (hA : A.length ≤ p) :
    Cd X mX9_cutDigits [.ref k, .int (nI p)] h 0 0 (oI (fun r t => r = nI (p + ((T.drop p).takeWhile isDg).length) ∧ CT h0 t k T.length (A ++ [dTk p ((T.drop p).takeWhile isDg)])) nX) := by
  obtain ⟨w1, w2, w3, w4, w5, w6, w7⟩ := W
  have hT := o.1
  generalize hr : (T.drop p).takeWhile isDg = r
  have hk1 : 1 ≤ r.length := by rw [← hr, List.drop_eq_getElem_cons hp]; exact tw_pos hl
  have hk2 : p + r.length ≤ T.length := by have := tw_le (f := isDg) (T.drop p); rw [hr, List.length_drop] at this; omega
  have rj : ∀ (j : Nat) (hj : j < r.length), ∃ (hp2 : p + j < T.length), T[p + j] = r[j] ∧ isDg r[j] = true := fun j hj => by
    have hj2 : j < ((T.drop p).takeWhile isDg).length := by rw [hr]; exact hj
    obtain ⟨a1, a2, a3⟩ := tw_at hj2
    have a4 : ((T.drop p).takeWhile isDg)[j] = r[j] := by simp only [hr]
    rw [List.getElem_drop] at a2 a3
    exact ⟨by omega, by rw [← a4, a2], by rw [← a4, a2]; exact a3⟩
  have r4 : ∀ j, j ≤ r.length → j ≤ 4 → dnm (r.take j) ≤ 9999 := fun j hj h4 => by
    have h1 := dnm_le (r.take j) 0 (fun c hc => by
      have := List.mem_of_mem_take hc
      rw [← hr] at this
      exact tw_all c this)
    have h2 : 10 ^ (r.take j).length ≤ 10 ^ 4 := Nat.pow_le_pow_right (by decide) (by rw [List.length_take]; omega)
    unfold dnm; omega
  generalize hP : oI (fun z t => z = nI (p + r.length) ∧ CT h0 t k T.length (A ++ [dTk p r])) nX = P
  refine bkX9_cutDigits_0 ?_
  have kp : ∀ (y : Int32), vC (dTk p r) y.toInt64 → Gd X mX9_cutDigits 60 [none, some (.int (nI p)), some (.int y), some (.int (nI (p + r.length)))] [.int (nI (dTk p r).1), .ref k] h 0 0 P := fun y hy => by
    have hpl : (dTk p r).2.1 = p := by unfold dTk; split <;> rfl
    refine bkX9_cutDigits_60 w1 (by have := c_keep (X := X) C w1 w5 hT hy; rw [hpl] at this; exact this) (fun t q => bkX9_cutDigits_66 ?_)
    rw [← hP]; exact ⟨rfl, q.1 (by omega)⟩
  have done : ∀ y : Int32, (r.length ≤ 4 → y = nI (dnm r)) → Gd X mX9_cutDigits 45 [some (.ref k), some (.int (nI p)), some (.int y), some (.int (nI (p + r.length)))] [] h 0 0 P := fun y hy => by
    refine bkX9_cutDigits_45 (fun z => ?_) (fun z => ?_)
    · rw [pk_sub (by omega), Nat.add_sub_cancel_left, n4, nI_leI (by omega) (by omega)] at z
      have ex : dTk p r = (12, p, [], dnm r) := by unfold dTk; rw [if_pos z]
      have hb := r4 r.length (Nat.le_refl _) z
      rw [List.take_length] at hb
      refine bkX9_cutDigits_58 ?_
      have := kp y (by rw [ex, hy z, nI_l (by omega)]; exact ⟨fun y => by simp at y, fun _ => rfl⟩)
      rw [ex] at this; exact this
    · rw [pk_sub (by omega), Nat.add_sub_cancel_left, n4, nI_leI (by omega) (by omega)] at z
      have ex : dTk p r = (13, p, [], 0) := by unfold dTk; rw [if_neg z]
      refine bkX9_cutDigits_53 ?_
      have := kp y (by rw [ex]; exact ⟨fun y => by simp at y, fun y => by simp at y⟩)
      rw [ex] at this; exact this
  have key : ∀ n j (y : Int32), r.length - j = n → j ≤ r.length → (j ≤ 4 → y = nI (dnm (r.take j))) → Gd X mX9_cutDigits 4 [some (.ref k), some (.int (nI p)), some (.int y), some (.int (nI (p + j)))] [] h 0 0 P := by
    intro n
    induction n with
    | zero =>
      intro j y hn hj hy
      have e : j = r.length := by omega
      subst e
      rw [List.take_length] at hy
      by_cases qe : p + r.length < T.length
      · have hne : isDg T[p + r.length] = false := by
          have hq : ((T.drop p).takeWhile isDg).length < (T.drop p).length := by rw [hr, List.length_drop]; omega
          have := tw_end hq
          simp only [hr, List.getElem_drop] at this
          exact this
        have h126 := o.2 _ (List.getElem_mem qe)
        refine bkX9_cutDigits_4 w1 (fun _ => done y hy) (fun _ => ?_)
        refine bkX9_cutDigits_12 w1 w2.1 w2.2 (vp_in_nI (by omega) (by omega)) (by rw [nI_clamp (by omega), w4 _ qe]; exact c_isDigitC (by omega)) (fun z t' q => ?_)
        obtain ⟨rfl, ht⟩ := q
        rw [ht, hne]
        exact bkX9_cutDigits_21 (fun _ => done y hy) (fun z => absurd rfl z)
      · refine bkX9_cutDigits_4 w1 (fun _ => done y hy) (fun z => absurd ?_ z)
        rw [w3]; exact nI_le (by omega) (by omega)
    | succ n ih =>
      intro j y hn hj hy
      have hj2 : j < r.length := by omega
      obtain ⟨hp2, e1, e2⟩ := rj j hj2
      have hb : 48 ≤ r[j] ∧ r[j] ≤ 57 := by simpa [isDg] using e2
      refine bkX9_cutDigits_4 w1 (fun z => ?_) (fun _ => ?_)
      · rw [w3] at z; exact absurd z (nI_ge hp2 (by omega))
      refine bkX9_cutDigits_12 w1 w2.1 w2.2 (vp_in_nI (by omega) (by omega)) (by rw [nI_clamp (by omega), w4 _ hp2, e1]; exact c_isDigitC (by omega)) (fun z t' q => ?_)
      obtain ⟨rfl, ht⟩ := q
      rw [ht, e2]
      refine bkX9_cutDigits_21 (fun z => absurd z (by decide)) (fun _ => ?_)
      refine bkX9_cutDigits_24 w1 w2.1 w2.2 (vp_in_nI (by omega) (by omega)) ?_
      rw [nI_1, nI_clamp (by omega), w4 _ hp2, e1]
      refine ih (j + 1) _ (by omega) (by omega) (fun h4 => ?_)
      rw [hy (by omega), dnm_s hj2, show (10 : Int32) = nI 10 from rfl, show (48 : Int32) = nI 48 from rfl, pk_mul, nI_add, pk_sub (by omega)]
      congr 1; omega
  exact key r.length 0 0 rfl (Nat.zero_le _) (fun _ => rfl)
/-- a token is in hand -/
def Hd (h : SH) (k : Nat) (T : List Tk) (i : Nat) : Prop := hI h k 7 = nI (i + 1) ∧ hI h k 8 = nI (kd T i) ∧ hI h k 9 = nI (pl T i) ∧ vC (tk T i) (hJ h k 10) ∧ i < T.length
/-- all tokens stand -/
def Tks (h : SH) (k : Nat) (T : List Tk) : Prop := LX9 (Sk h) k ∧ TkC h k T ∧ hI h k 6 = nI T.length ∧ (T.length ≤ hN h (k + 2) ∧ T.length ≤ hN h (k + 3) ∧ T.length ≤ hN h (k + 4)) ∧ (hN h (k + 2) < 2 ^ 31 ∧ hN h (k + 3) < 2 ^ 31 ∧ hN h (k + 4) < 2 ^ 31)
theorem c_toNext {T : List Tk} {j : Nat} (W : Tks h k T) (h7 : hI h k 7 = nI j) (hj : j < T.length) (hl : T.length < 2 ^ 30) : Cd X mX9_toNext [.ref k] h 0 0 (oV (fun t => chR (· = k) h t ∧ (∀ q, q < 7 → hI t k q = hI h k q) ∧ Hd t k T j) nX) := by
  obtain ⟨w1, w2, w3, w4, w5⟩ := W
  have ij : ∀ n, T.length ≤ n → n < 2 ^ 31 → vp_in (nI j) n := fun n h1 h2 => vp_in_nI (by omega) h2
  obtain ⟨a1, a2, a3⟩ := w2 j hj
  refine bkX9_toNext_0 w1 (fun z => ?_) (fun _ => ?_)
  · rw [w3, h7, nI_leI (by omega) (by omega)] at z; omega
  have e7 : hI (sI h k 8 (hI h (k + 2) (hI h k 7).toNatClampNeg)) k 7 = nI j := by rw [sI_nj (by decide)]; exact h7
  refine bkX9_toNext_11 w1 (by rw [h7]; exact ij _ w4.1 w5.1) (by rw [e7]; exact ij _ w4.2.1 w5.2.1) ?_
  rw [e7, h7, nI_clamp (by omega), a1, show hI (sI h k 8 (nI (kd T j))) (k + 3) j = nI (pl T j) by rw [sI_nb (by omega)]; exact a2]
  have e72 : hI (sI (sI h k 8 (nI (kd T j))) k 9 (nI (pl T j))) k 7 = nI j := by rw [sI_nj (by decide), sI_nj (by decide)]; exact h7
  refine bkX9_toNext_37 w1 (by rw [e72]; exact ij _ w4.2.2 w5.2.2) (bkX9_toNext_60 ?_)
  rw [e72, nI_clamp (by omega)]
  have e73 : ∀ v, hI (sJ (sI (sI h k 8 (nI (kd T j))) k 9 (nI (pl T j))) k 10 v) k 7 = nI j := fun v => e72
  rw [e73, nI_1]
  refine ⟨((((chR.rf (S := (· = k))).s rfl).s rfl).j rfl).s rfl, fun q hq => ?_, sI_at, ?_, ?_, ?_, hj⟩
  · rw [sI_nj (by omega)]; show hI (sI (sI h k 8 _) k 9 _) k q = _
    rw [sI_nj (by omega), sI_nj (by omega)]
  · rw [sI_nj (by decide)]; show hI (sI (sI h k 8 _) k 9 _) k 8 = _
    rw [sI_nj (by decide), sI_at]
  · rw [sI_nj (by decide)]; show hI (sI (sI h k 8 _) k 9 _) k 9 = _
    rw [sI_at]
  · show vC (tk T j) (hJ (sJ _ k 10 _) k 10)
    rw [sJ_at]
    exact a3
theorem c_cutText (hZ : SZ X) {T : List Nat} (F : LX9 (Sk h) k) (w2 : hA h k 0 = some 9 ∧ Ar h 9 21 2400) (w3 : hI h k 1 = nI T.length) (w4 : ∀ (i : Nat) (hi : i < T.length), hI h 9 i = nI T[i]) (w5 : hN h (k + 2) = T.length + 1 ∧ hN h (k + 3) = T.length + 1 ∧ hN h (k + 4) = T.length + 1) (w7 : 73 ≤ k) (o : TXo T) (h6 : hI h k 6 = 0) (h7 : hI h k 7 = 0) :
    Cd X mX9_cutText [.ref k] h 0 0 (oV (fun t => chR (fun b => k ≤ b ∧ b ≤ k + 4) h t ∧ Tks t k (toks T) ∧ Hd t k (toks T) 0) nX) := by
  generalize hP : oV (fun t => chR (fun b => k ≤ b ∧ b ≤ k + 4) h t ∧ Tks t k (toks T) ∧ Hd t k (toks T) 0) nX = P
  have hT := o.1
  refine Gd.z (bkX9_cutText_0 F (c_packReserved hZ F) (fun g hq => ?_))
  obtain ⟨c0, i0, R0⟩ := hq
  have Fg : LX9 (Sk g) k := c0.1 ▸ F
  have W : TX g k T := ⟨Fg, ⟨by rw [c0.hA]; exact w2.1, w2.2.1, by rw [c0.hz]; exact w2.2.2.1, by rw [show hK g 9 = hK h 9 from congrArg (fun k : Skl => (k.2.1 9).1) c0.1]; exact w2.2.2.2.1, by rw [c0.hN]; exact w2.2.2.2.2⟩, by rw [i0]; exact w3, by rw [i0]; exact w4, ⟨(c0.hN _).trans w5.1, (c0.hN _).trans w5.2.1, (c0.hN _).trans w5.2.2⟩, R0, w7⟩
  have g6 : hI g k 6 = 0 := by rw [i0]; exact h6
  have g7 : hI g k 7 = 0 := by rw [i0]; exact h7
  have up : ∀ {t}, chR (kpS k) g t → chR (fun b => k ≤ b ∧ b ≤ k + 4) h t := fun c => (c0.up (fun b q => by omega)).tr (c.up (fun b q => by unfold kpS at q; omega))
  refine bkX9_cutText_4 ?_
  -- the end
  have fin : ∀ (A : List Tk) (t : SH), A = tkz T.length 0 T → CT g t k T.length A → Gd X mX9_cutText 112 [some (.ref k), none, none, none] [] t 0 0 P := fun A t hA C => by
    have Wt : TX t k T := W.cg C.1 (C.2.1 1 (by decide))
    have hlen : (toks T).length = A.length + 1 := by unfold toks; rw [← hA, List.length_append]; rfl
    have htk : toks T = A ++ [(14, T.length, [], 0)] := by unfold toks; rw [← hA]
    have hAl := C.2.2.2.2.2
    refine bkX9_cutText_112 Wt.1 (by rw [Wt.2.2.1]; exact c_keep (x := (14, T.length, [], 0)) C Wt.1 Wt.2.2.2.2.1 hT ⟨fun y => by simp at y, fun y => by simp at y⟩) (fun u hq => ?_)
    obtain ⟨-, u1, u2, u3, u4, u5⟩ := hq
    rw [← htk] at u5
    have Wu : TX u k T := W.cg u1 (u2 1 (by decide))
    have Tu : Tks u k (toks T) := ⟨Wu.1, u5, by rw [hlen]; exact u4, by rw [Wu.2.2.2.2.1.1, Wu.2.2.2.2.1.2.1, Wu.2.2.2.2.1.2.2, hlen]; omega, by rw [Wu.2.2.2.2.1.1, Wu.2.2.2.2.1.2.1, Wu.2.2.2.2.1.2.2]; omega⟩
    refine bkX9_cutText_123 Wu.1 (c_toNext (j := 0) Tu (by rw [u2 7 (by decide)]; exact g7) (by omega) (by omega)) (fun w hq => bkX9_cutText_127 ?_)
    obtain ⟨c1, c2, c3⟩ := hq
    rw [← hP]
    refine ⟨(up u1).tr (c1.up (fun b q => by omega)), ⟨c1.1 ▸ Wu.1, u5.cg (c1.2 _ (by omega)).1 (c1.2 _ (by omega)).1 (c1.2 _ (by omega)).2, by rw [c2 6 (by decide)]; exact Tu.2.2.1, by rw [c1.hN, c1.hN, c1.hN]; exact Tu.2.2.2.1, by rw [c1.hN, c1.hN, c1.hN]; exact Tu.2.2.2.2⟩, c3⟩
  have key : ∀ (f n p : Nat) (A : List Tk) (t : SH), n + f = T.length → n ≤ p → p ≤ T.length → A.length ≤ n → A ++ tkz f p (T.drop p) = tkz T.length 0 T → CT g t k T.length A → Gd X mX9_cutText 8 [some (.ref k), some (.int (nI p)), some (.int (nI n)), none] [] t 0 0 P := by
    intro f
    induction f with
    | zero =>
      intro n p A t hn hnp hp hA hz C
      have Wt : TX t k T := W.cg C.1 (C.2.1 1 (by decide))
      refine bkX9_cutText_8 Wt.1 (fun _ => fin A t ?_ C) (fun z => absurd ?_ z)
      · rw [← hz]; simp [tkz]
      · rw [Wt.2.2.1]; exact nI_le (by omega) (by omega)
    | succ f ih =>
      intro n p A t hn hnp hp hA hz C
      have Wt : TX t k T := W.cg C.1 (C.2.1 1 (by decide))
      refine bkX9_cutText_8 Wt.1 (fun z => ?_) (fun _ => ?_)
      · rw [Wt.2.2.1, nI_leI (by omega) (by omega)] at z; omega
      by_cases hlt : p < T.length
      rotate_left
      · refine bkX9_cutText_16 Wt.1 (fun _ => fin A t ?_ C) (fun z => absurd ?_ z)
        · have e2 : T.drop p = [] := List.drop_eq_nil_of_le (by omega)
          rw [← hz, e2, tkz_nil, List.append_nil]
        · rw [Wt.2.2.1]; exact nI_le (by omega) (by omega)
      refine bkX9_cutText_16 Wt.1 (fun z => ?_) (fun _ => ?_)
      · rw [Wt.2.2.1] at z; exact absurd z (nI_ge hlt (by omega))
      rw [tkz_at hlt] at hz
      have hcp := Wt.2.2.2.1 p hlt
      have h126 := o.2 _ (List.getElem_mem hlt)
      have next : ∀ (x : Tk) (q : Nat) (u : SH), 1 ≤ q → p + q ≤ T.length → A ++ x :: tkz f (p + q) (T.drop (p + q)) = tkz T.length 0 T → CT g u k T.length (A ++ [x]) → Gd X mX9_cutText 106 [some (.ref k), some (.int (nI (p + q))), some (.int (nI n)), none] [] u 0 0 P := fun x q u hq1 hq2 hz2 Cu => by
        refine bkX9_cutText_106 ?_
        rw [nI_1]
        exact ih (n + 1) (p + q) (A ++ [x]) u (by omega) (by omega) hq2 (by rw [List.length_append]; simp; omega) (by rw [List.append_assoc]; exact hz2) Cu
      have skip : (T[p] = 10 ∨ T[p] = 32) → Gd X mX9_cutText 43 [some (.ref k), some (.int (nI p)), some (.int (nI n)), none] [] t 0 0 P := fun q => by
        rw [if_pos q] at hz
        refine bkX9_cutText_43 (bkX9_cutText_106 ?_)
        rw [nI_1, nI_1]
        exact ih (n + 1) (p + 1) A t (by omega) (by omega) (by omega) (by omega) hz C
      refine bkX9_cutText_24 Wt.1 Wt.2.1.1 Wt.2.1.2 (vp_in_nI (by omega) (by omega)) (fun q => ?_) (fun q => ?_)
      · rw [nI_clamp (by omega), hcp, show (10 : Int32) = nI 10 from rfl, nI_eq (by omega) (by omega)] at q; exact skip (Or.inl q)
      rw [nI_clamp (by omega), hcp] at q ⊢
      rw [show (10 : Int32) = nI 10 from rfl, nI_eq (by omega) (by omega)] at q
      refine bkX9_cutText_37 (fun q2 => ?_) (fun q2 => ?_)
      rotate_left
      · rw [show (32 : Int32) = nI 32 from rfl, nI_eq (by omega) (by omega)] at q2; exact skip (Or.inr q2)
      rw [show (32 : Int32) = nI 32 from rfl, nI_eq (by omega) (by omega)] at q2
      rw [if_neg (by omega)] at hz
      refine bkX9_cutText_49 (c_isLetterC (by omega)) (fun r u hq => ?_)
      obtain ⟨rfl, hu⟩ := hq
      rw [hu]
      refine bkX9_cutText_53 (fun q3 => ?_) (fun q3 => ?_)
      rotate_left
      · rw [bI_0, Bool.not_eq_false] at q3
        rw [if_pos q3] at hz
        have hk1 : 1 ≤ ((T.drop p).takeWhile isLt).length := by rw [List.drop_eq_getElem_cons hlt]; exact tw_pos q3
        have hk2 : p + ((T.drop p).takeWhile isLt).length ≤ T.length := by have := tw_le (f := isLt) (T.drop p); rw [List.length_drop] at this; omega
        refine bkX9_cutText_56 Wt.1 (c_cutLetters Wt o C hlt q3 (by omega)) (fun r u hq => ?_)
        obtain ⟨rfl, Cu⟩ := hq
        exact bkX9_cutText_61 (next _ _ u hk1 hk2 hz Cu)
      rw [bI_0] at q3
      rw [if_neg (by rw [q3]; decide)] at hz
      refine bkX9_cutText_65 (c_isDigitC (by omega)) (fun r u hq => ?_)
      obtain ⟨rfl, hu⟩ := hq
      rw [hu]
      refine bkX9_cutText_69 (fun q4 => ?_) (fun q4 => ?_)
      rotate_left
      · rw [bI_0, Bool.not_eq_false] at q4
        rw [if_pos q4] at hz
        have hk1 : 1 ≤ ((T.drop p).takeWhile isDg).length := by rw [List.drop_eq_getElem_cons hlt]; exact tw_pos q4
        have hk2 : p + ((T.drop p).takeWhile isDg).length ≤ T.length := by have := tw_le (f := isDg) (T.drop p); rw [List.length_drop] at this; omega
        refine bkX9_cutText_72 Wt.1 (c_cutDigits Wt o C hlt q4 (by omega)) (fun r u hq => ?_)
        obtain ⟨rfl, Cu⟩ := hq
        exact bkX9_cutText_77 (next _ _ u hk1 hk2 hz Cu)
      rw [bI_0] at q4
      rw [if_neg (by rw [q4]; decide)] at hz
      have last : ∀ v : Nat, v = (sTk p T[p]).1 → Gd X mX9_cutText 98 [some (.ref k), some (.int (nI p)), some (.int (nI n)), none] [.int (nI v), .ref k] t 0 0 P := fun v hv => by
        have hvv : vC (sTk p T[p]) 0 := by
          unfold sTk
          by_cases y : isSg T[p] = true
          · rw [if_pos y]
            have hcs : T[p] = 40 ∨ T[p] = 41 ∨ T[p] = 59 ∨ T[p] = 61 ∨ T[p] = 60 ∨ T[p] = 43 ∨ T[p] = 45 := by simpa [isSg] using y
            exact ⟨fun z => absurd (show T[p] ≤ 11 from z) (by omega), fun z => absurd (show T[p] = 12 from z) (by omega)⟩
          · rw [if_neg y]; exact ⟨fun y => by simp at y, fun y => by simp at y⟩
        have ck := c_keep (X := X) (x := sTk p T[p]) (v := 0) C Wt.1 Wt.2.2.2.2.1 hT hvv
        rw [← hv, show (sTk p T[p]).2.1 = p from rfl] at ck
        refine bkX9_cutText_98 Wt.1 ck (fun u hq => bkX9_cutText_103 ?_)
        rw [nI_1]
        exact next _ 1 u (by decide) (by omega) hz (hq.1 (by omega))
      refine bkX9_cutText_81 h126 (fun r hr => ?_)
      refine bkX9_cutText_89 (fun z => ?_) (fun z => ?_)
      · refine bkX9_cutText_97 (last T[p] ?_)
        unfold sTk; rw [if_pos (hr.mp z)]
      · refine bkX9_cutText_92 (last 13 ?_)
        unfold sTk; rw [if_neg (fun y => z (hr.mpr y))]
  exact key T.length 0 0 [] g (by omega) (by omega) (by omega) (by simp) (by simp) ⟨chR.rf, fun _ _ => rfl, rfl, g6, fun i hi => by simp at hi, by simp⟩
end CC
