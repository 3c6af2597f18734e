/-! ===== the component cuts a text into tokens ===== -/
def vC (t : Tk) (v : Int64) : Prop := (t.1 ≤ 11 → v = enc32 t.2.2.1) ∧ (t.1 = 12 → v = lN t.2.2.2)
/-- tokens kept in the rows of the object k -/
def TkC (h : SH) (k : Nat) (A : List Tk) : Prop := ∀ i, i < A.length → hI h (k + 2) i = nI (kd A i) ∧ hI h (k + 3) i = nI (pl A i) ∧ vC (tk A i) (hJ h (k + 4) i)
theorem TkC.push {h t : SH} {k : Nat} {A : List Tk} {x : Tk} (H : TkC h k A) (e1 : ∀ i, i < A.length → hI t (k + 2) i = hI h (k + 2) i ∧ hI t (k + 3) i = hI h (k + 3) i ∧ hJ t (k + 4) i = hJ h (k + 4) i) (f1 : hI t (k + 2) A.length = nI x.1) (f2 : hI t (k + 3) A.length = nI x.2.1) (f3 : vC x (hJ t (k + 4) A.length)) : TkC t k (A ++ [x]) := by
  intro i hi
  rw [List.length_append] at hi
  by_cases q : i < A.length
  · rw [kd, pl, tk_l q, (e1 i q).1, (e1 i q).2.1, (e1 i q).2.2]; exact H i q
  · have e : i = A.length := by simp at hi; omega
    subst e
    rw [kd, pl, tk_r]; exact ⟨f1, f2, f3⟩
theorem TkC.cg {h t : SH} {k : Nat} {A : List Tk} (H : TkC h k A) (h1 : hI t (k + 2) = hI h (k + 2)) (h2 : hI t (k + 3) = hI h (k + 3)) (h3 : hJ t (k + 4) = hJ h (k + 4)) : TkC t k A := by
  unfold TkC; rw [h1, h2, h3]; exact H
theorem res_fold : ∀ k, k < 11 → True := fun _ _ => trivial
/-- the reserved words as they are packed: how many, the word under way -/
def rsS : Nat → Nat × List Nat
  | 0 => (0, [])
  | j + 1 => if resB j = 32 then ((rsS j).1 + 1, []) else ((rsS j).1, (rsS j).2 ++ [resB j - 96])
theorem rsS_ok : ∀ j, j < 52 → (resB j = 32 → (rsS j).1 < 11 ∧ (rsS j).2 = rw1 (rsS j).1) ∧ (resB j ≠ 32 → (rsS j).1 < 11 ∧ 97 ≤ resB j ∧ resB j ≤ 122) := by decide
theorem rsS_end : (rsS 52).1 = 11 := by decide
section TC
variable {X : GX} {h : SH}
theorem c_isLetterC {c : Nat} (hc : c < 2 ^ 31) : Cd X mX9_isLetter [.int (nI c)] h 0 0 (oI (fun r t => r = bI (isLt c) ∧ t = h) nX) := by
  refine bkX9_isLetter_0 (fun q => ?_) (fun q => ?_)
  · rw [show (97 : Int32) = nI 97 from rfl, nI_ltI (by omega) (by omega)] at q
    refine bkX9_isLetter_16 (bkX9_isLetter_17 (Or.inl rfl) ⟨?_, rfl⟩)
    unfold isLt; rw [decide_eq_false (by omega)]; rfl
  · rw [show (97 : Int32) = nI 97 from rfl, nI_ltI (by omega) (by omega)] at q
    refine bkX9_isLetter_6 (fun z => ?_) (fun z => ?_)
    · rw [show (122 : Int32) = nI 122 from rfl, nI_ltI (by omega) (by omega)] at z
      refine bkX9_isLetter_16 (bkX9_isLetter_17 (Or.inl rfl) ⟨?_, rfl⟩)
      unfold isLt; rw [decide_eq_false (by omega)]; rfl
    · rw [show (122 : Int32) = nI 122 from rfl, nI_ltI (by omega) (by omega)] at z
      refine bkX9_isLetter_12 (bkX9_isLetter_17 (Or.inr rfl) ⟨?_, rfl⟩)
      unfold isLt; rw [decide_eq_true (by omega)]; rfl
theorem c_isDigitC {c : Nat} (hc : c < 2 ^ 31) : Cd X mX9_isDigit [.int (nI c)] h 0 0 (oI (fun r t => r = bI (isDg c) ∧ t = h) nX) := by
  refine bkX9_isDigit_0 (fun q => ?_) (fun q => ?_)
  · rw [show (48 : Int32) = nI 48 from rfl, nI_ltI (by omega) (by omega)] at q
    refine bkX9_isDigit_16 (bkX9_isDigit_17 (Or.inl rfl) ⟨?_, rfl⟩)
    unfold isDg; rw [decide_eq_false (by omega)]; rfl
  · rw [show (48 : Int32) = nI 48 from rfl, nI_ltI (by omega) (by omega)] at q
    refine bkX9_isDigit_6 (fun z => ?_) (fun z => ?_)
    · rw [show (57 : Int32) = nI 57 from rfl, nI_ltI (by omega) (by omega)] at z
      refine bkX9_isDigit_16 (bkX9_isDigit_17 (Or.inl rfl) ⟨?_, rfl⟩)
      unfold isDg; rw [decide_eq_false (by omega)]; rfl
    · rw [show (57 : Int32) = nI 57 from rfl, nI_ltI (by omega) (by omega)] at z
      refine bkX9_isDigit_12 (bkX9_isDigit_17 (Or.inr rfl) ⟨?_, rfl⟩)
      unfold isDg; rw [decide_eq_true (by omega)]; rfl
theorem pack_e {y : Int64} {c : Nat} (hc : 97 ≤ c ∧ c ≤ 122) : y * 32 + lN c - 97 + 1 = y * 32 + lN (c - 96) := by
  have e : lN c = lN (c - 96) + lN 96 := by rw [l_add]; congr 1; omega
  rw [e, ← Int64.add_assoc, Int64.sub_eq_add_neg, Int64.add_assoc, Int64.add_assoc, show lN 96 + (-97 + 1) = 0 by decide, Int64.add_zero]
theorem c_packLetter {c : Nat} {w : List Nat} (hc : 97 ≤ c ∧ c ≤ 122) : Cd X mX9_packLetter [.long (enc32 w), .int (nI c)] h 0 0 (oJ (fun r t => r = enc32 (w ++ [c - 96]) ∧ t = h) nX) := by
  refine bkX9_packLetter_0 ⟨?_, rfl⟩
  rw [nI_l (by omega), pack_e hc]
  unfold enc32; rw [List.foldl_append]; rfl
/-- the reserved words stand -/
def RsC (h : SH) (k : Nat) : Prop := ∀ q, q < 11 → hJ h (k + 1) q = enc32 (rw1 q)
theorem c_packReserved {k : Nat} (hZ : SZ X) (F : LX9 (Sk h) k) : Cd X mX9_packReserved [.ref k] h 0 0 (oV (fun t => chR (· = k + 1) h t ∧ hI t = hI h ∧ RsC t k) nX) := by
  refine bkX9_packReserved_0 ?_
  refine for_up (G := fun j t => Gd X mX9_packReserved 7 [some (.ref k), some (.long (enc32 (rsS j).2)), none, some (.int (nI (rsS j).1)), some (.int (nI j))] [] t 0 0 (oV (fun t => chR (· = k + 1) h t ∧ hI t = hI h ∧ RsC t k) nX)) (I := fun j t => chR (· = k + 1) h t ∧ hI t = hI h ∧ ∀ q, q < (rsS j).1 → hJ t (k + 1) q = enc32 (rw1 q)) 52 ?_ ?_ 0 h (Nat.zero_le _) ⟨chR.rf, rfl, fun q hq => absurd hq (Nat.not_lt_zero _)⟩
  · rintro t ⟨c1, c2, c3⟩
    refine bkX9_packReserved_7 (bkX9_packReserved_14 (fun _ => bkX9_packReserved_68 ⟨c1, c2, fun q hq => c3 q (by rw [rsS_end]; exact hq)⟩) (fun z => absurd (Int32.le_refl _) z))
  · rintro j t hj ⟨c1, c2, c3⟩ ih
    have hr := rsS_ok j hj
    have Ft : LX9 (Sk t) k := c1.1 ▸ F
    have h11 : (rsS j).1 < 11 := by
      by_cases y : resB j = 32
      · exact (hr.1 y).1
      · exact (hr.2 y).1
    refine bkX9_packReserved_7 (bkX9_packReserved_14 (fun z => ?_) (fun _ => ?_))
    · rw [nI_leI (by omega) (by omega)] at z; omega
    refine bkX9_packReserved_17 (fun z => ?_) (fun _ => ?_)
    · rw [show (11 : Int32) = nI 11 from rfl, nI_leI (by omega) (by omega)] at z; omega
    have hb : resB j ≤ 122 := by
      by_cases y : resB j = 32
      · omega
      · exact (hr.2 y).2.2
    refine bkX9_packReserved_23 hZ hj (bkX9_packReserved_30 (fun z => ?_) (fun z => ?_))
    · rw [show (32 : Int32) = nI 32 from rfl, nI_eq (by omega) (by omega)] at z
      refine bkX9_packReserved_50 hZ hj (bkX9_packReserved_58 (c_packLetter (hr.2 z).2) (fun r w q => ?_))
      obtain ⟨rfl, hw⟩ := q
      rw [hw]
      refine bkX9_packReserved_61 (bkX9_packReserved_62 ?_)
      rw [nI_1]
      have e : rsS (j + 1) = ((rsS j).1, (rsS j).2 ++ [resB j - 96]) := if_neg z
      have nx := ih t ⟨c1, c2, fun q hq => by rw [e] at hq; exact c3 q hq⟩
      rw [e] at nx; exact nx
    · rw [show (32 : Int32) = nI 32 from rfl, nI_eq (by omega) (by omega)] at z
      refine bkX9_packReserved_35 Ft (vp_in_nI (by omega) (by omega)) (bkX9_packReserved_62 ?_)
      rw [nI_1, nI_1, nI_clamp (by omega)]
      have e : rsS (j + 1) = ((rsS j).1 + 1, []) := if_pos z
      have nx := ih (sJ t (k + 1) (rsS j).1 (enc32 (rsS j).2)) ⟨c1.j rfl, c2, fun q hq => ?_⟩
      · rw [e] at nx; exact nx
      · rw [e] at hq
        have hq : q < (rsS j).1 + 1 := hq
        by_cases y : q = (rsS j).1
        · subst y; rw [sJ_at, (hr.1 z).2]
        · rw [sJ_nj y]; exact c3 q (by omega)
theorem c_kindOfWord {k : Nat} {w : List Nat} (F : LX9 (Sk h) k) (R : RsC h k) (hw : okW w) : Cd X mX9_kindOfWord [.ref k, .long (enc32 w)] h 0 0 (oI (fun r t => r = nI (kwd w) ∧ t = h) nX) := by
  refine bkX9_kindOfWord_0 ?_
  have hk := kwd_le w
  refine for_up (G := fun j t => Gd X mX9_kindOfWord 2 [some (.ref k), some (.long (enc32 w)), none, some (.int (nI j))] [] t 0 0 (oI (fun r t => r = nI (kwd w) ∧ t = h) nX)) (I := fun j t => t = h ∧ j ≤ kwd w) 11 ?_ ?_ 0 h (Nat.zero_le _) ⟨rfl, Nat.zero_le _⟩
  · rintro t ⟨rfl, hj⟩
    exact bkX9_kindOfWord_2 (fun _ => bkX9_kindOfWord_27 ⟨by rw [show kwd w = 11 by omega]; rfl, rfl⟩) (fun z => absurd (Int32.le_refl _) z)
  · rintro j t hj ⟨rfl, hjk⟩ ih
    refine bkX9_kindOfWord_2 (fun z => ?_) (fun _ => ?_)
    · rw [show (11 : Int32) = nI 11 from rfl, nI_leI (by omega) (by omega)] at z; omega
    refine bkX9_kindOfWord_8 F (vp_in_nI (by omega) (by omega)) (fun z => ?_) (fun z => ?_)
    · rw [lg_cmp_eq, nI_clamp (by omega), R j hj, enc32_inj (rw_ok j hj) hw] at z
      refine bkX9_kindOfWord_21 ?_
      rw [nI_1]
      refine ih t ⟨rfl, ?_⟩
      have : kwd w ≠ j := fun y => z ((kwd_iff hj).mp y).symm
      omega
    · rw [lg_cmp_eq, nI_clamp (by omega), R j hj, enc32_inj (rw_ok j hj) hw] at z
      exact bkX9_kindOfWord_19 ⟨by rw [(kwd_iff hj).mpr z.symm], rfl⟩
/-- what keeping a token writes -/
abbrev kpS (k b : Nat) : Prop := b = k ∨ b = k + 2 ∨ b = k + 3 ∨ b = k + 4
/-- the object while a text is cut -/
def CT (h0 h : SH) (k L : Nat) (A : List Tk) : Prop := chR (kpS k) h0 h ∧ (∀ j, j ≠ 6 → hI h k j = hI h0 k j) ∧ hJ h k = hJ h0 k ∧ hI h k 6 = nI A.length ∧ TkC h k A ∧ A.length ≤ L
theorem c_keep {h0 : SH} {k L : Nat} {A : List Tk} {x : Tk} {v : Int64} (C : CT h0 h k L A) (F : LX9 (Sk h) k) (hN : hN h (k + 2) = L + 1 ∧ hN h (k + 3) = L + 1 ∧ hN h (k + 4) = L + 1) (hL : L ≤ 2400) (hv : vC x v) : Cd X mX9_keep [.ref k, .int (nI x.1), .int (nI x.2.1), .long v] h 0 0 (oV (fun t => (A.length < L → CT h0 t k L (A ++ [x])) ∧ chR (kpS k) h0 t ∧ (∀ j, j ≠ 6 → hI t k j = hI h0 k j) ∧ hJ t k = hJ h0 k ∧ hI t k 6 = nI (A.length + 1) ∧ TkC t k (A ++ [x])) nX) := by
  obtain ⟨C1, C2, C3, C4, C5, C6⟩ := C
  have e1 : hI h k 6 = nI A.length := C4
  have e2 : ∀ b i v, b ≠ k → hI (sI h b i v) k 6 = nI A.length := fun b i v hb => by rw [sI_ne (fun z => hb z.1.symm)]; exact e1
  refine bkX9_keep_0 F (fun z => ?_) (fun _ => ?_)
  · rw [hN.1, e1, show Int32.ofNat (L + 1) = nI (L + 1) from rfl, nI_leI (by omega) (by omega)] at z; omega
  have iv : ∀ n, n = L + 1 → vp_in (nI A.length) n := fun n hn => by rw [hn]; exact (vp_in_nI (by omega) (by omega))
  have e3 : hI (sI (sI h (k + 2) (hI h k 6).toNatClampNeg (nI x.1)) (k + 3) (hI (sI h (k + 2) (hI h k 6).toNatClampNeg (nI x.1)) k 6).toNatClampNeg (nI x.2.1)) k 6 = nI A.length := by rw [sI_ne (by omega), e2 _ _ _ (by omega)]
  refine bkX9_keep_12 F (by rw [e1]; exact iv _ hN.1) (by rw [e2 _ _ _ (by omega)]; exact iv _ hN.2.1) (by rw [e3]; exact iv _ hN.2.2) ?_
  rw [e3, e2 _ _ _ (by omega), e1, nI_clamp (by omega)]
  have e4 : hI (sJ (sI (sI h (k + 2) A.length (nI x.1)) (k + 3) A.length (nI x.2.1)) (k + 4) A.length v) k 6 = nI A.length := by show hI (sI (sI h (k + 2) A.length (nI x.1)) (k + 3) A.length (nI x.2.1)) k 6 = _; rw [sI_ne (by omega), sI_ne (by omega)]; exact e1
  refine bkX9_keep_42 F (bkX9_keep_52 ?_)
  rw [e4, nI_1]
  generalize ht : sI (sJ (sI (sI h (k + 2) A.length (nI x.1)) (k + 3) A.length (nI x.2.1)) (k + 4) A.length v) k 6 (nI (A.length + 1)) = t
  have D1 : chR (kpS k) h0 t := by rw [← ht]; exact (((C1.s (Or.inr (Or.inl rfl))).s (Or.inr (Or.inr (Or.inl rfl)))).j (Or.inr (Or.inr (Or.inr rfl)))).s (Or.inl rfl)
  have D2 : ∀ j, j ≠ 6 → hI t k j = hI h0 k j := fun j hj => by
    rw [← ht, sI_nj hj]; show hI (sI (sI h (k + 2) A.length (nI x.1)) (k + 3) A.length (nI x.2.1)) k j = _
    rw [sI_ne (by omega), sI_ne (by omega)]; exact C2 j hj
  have D3 : hJ t k = hJ h0 k := by rw [← ht]; show hJ (sJ _ (k + 4) A.length v) k = _; rw [sJ_nb (by omega)]; exact C3
  have D4 : hI t k 6 = nI (A.length + 1) := by rw [← ht]; exact sI_at
  have D5 : TkC t k (A ++ [x]) := by
    rw [← ht]
    refine C5.push (fun i hi => ⟨?_, ?_, ?_⟩) ?_ ?_ ?_
    · rw [sI_nb (by omega)]; show hI (sI (sI h (k + 2) A.length (nI x.1)) (k + 3) A.length (nI x.2.1)) (k + 2) i = _
      rw [sI_nb (by omega), sI_nj (by omega)]
    · rw [sI_nb (by omega)]; show hI (sI (sI h (k + 2) A.length (nI x.1)) (k + 3) A.length (nI x.2.1)) (k + 3) i = _
      rw [sI_nj (by omega), sI_nb (by omega)]
    · show hJ (sJ _ (k + 4) A.length v) (k + 4) i = _
      rw [sJ_nj (by omega)]; rfl
    · rw [sI_nb (by omega)]; show hI (sI (sI h (k + 2) A.length (nI x.1)) (k + 3) A.length (nI x.2.1)) (k + 2) A.length = _
      rw [sI_nb (by omega), sI_at]
    · rw [sI_nb (by omega)]; show hI (sI (sI h (k + 2) A.length (nI x.1)) (k + 3) A.length (nI x.2.1)) (k + 3) A.length = _
      rw [sI_at]
    · show vC x (hJ (sJ _ (k + 4) A.length v) (k + 4) A.length)
      rw [sJ_at]; exact hv
  exact ⟨fun hl => ⟨D1, D2, D3, by rw [List.length_append]; exact D4, D5, by rw [List.length_append]; simp; omega⟩, D1, D2, D3, D4, D5⟩
end TC
