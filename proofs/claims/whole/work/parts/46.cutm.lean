/-! ===== the model cuts a text into tokens ===== -/
theorem tk_l {A B : List Tk} {i : Nat} (hi : i < A.length) : tk (A ++ B) i = tk A i := by rw [tk_at (by rw [List.length_append]; omega), tk_at hi, List.getElem_append_left hi]
theorem tk_r {A : List Tk} {x : Tk} : tk (A ++ [x]) A.length = x := by rw [tk_at (by simp), List.getElem_append_right (Nat.le_refl _)]; simp
def srt (k : Nat) : Nat := if k ≤ 11 then 1 else if k = 12 then 2 else if k = 13 then 4 else if k = 14 then 0 else 3
def vM (t : Tk) (v : Int64) : Prop := (t.1 ≤ 11 → v = enc37 t.2.2.1) ∧ (t.1 = 12 → v = lN t.2.2.2) ∧ (15 ≤ t.1 → v = lN t.1)
def TkM (h : SH) (A : List Tk) : Prop := ∀ i, i < A.length → hI h 37 i = nI (srt (kd A i)) ∧ hI h 38 i = nI (pl A i) ∧ vM (tk A i) (hJ h 39 i)
theorem TkM.push {h t : SH} {A : List Tk} {x : Tk} (H : TkM h A) (e1 : ∀ i, i < A.length → hI t 37 i = hI h 37 i ∧ hI t 38 i = hI h 38 i ∧ hJ t 39 i = hJ h 39 i) (f1 : hI t 37 A.length = nI (srt x.1)) (f2 : hI t 38 A.length = nI x.2.1) (f3 : vM x (hJ t 39 A.length)) : TkM t (A ++ [x]) := by
  intro i hi
  rw [List.length_append] at hi
  by_cases q : i < A.length
  · rw [kd, pl, tk_l q, (e1 i q).1, (e1 i q).2.1, (e1 i q).2.2]; exact H i q
  · have e : i = A.length := by simp at hi; omega
    subst e
    rw [kd, pl, tk_r]; exact ⟨f1, f2, f3⟩
theorem TkM.cg {h t : SH} {A : List Tk} (H : TkM h A) (h1 : hI t 37 = hI h 37) (h2 : hI t 38 = hI h 38) (h3 : hJ t 39 = hJ h 39) : TkM t A := by
  unfold TkM; rw [h1, h2, h3]; exact H
theorem nI_small {a b : Nat} (ha : a < 2 ^ 31) (hb : b < 2 ^ 31) : nI a = nI b ↔ a = b := nI_eq ha hb
section CM
variable {X : GX} {h : SH}
theorem c_isLetterM {c : Nat} (hc : c < 2 ^ 31) : Cd X mX11_isLetter [.int (nI c)] h 0 0 (oI (fun r t => r = bI (isLt c) ∧ t = h) nX) := by
  refine bkX11_isLetter_0 (fun q => ?_) (fun q => ?_)
  · rw [show (97 : Int32) = nI 97 from rfl, nI_ltI (by omega) (by omega)] at q
    refine bkX11_isLetter_16 (bkX11_isLetter_17 (Or.inl rfl) ⟨?_, rfl⟩)
    unfold isLt; rw [decide_eq_false (by omega)]; rfl
  · rw [show (97 : Int32) = nI 97 from rfl, nI_ltI (by omega) (by omega)] at q
    refine bkX11_isLetter_6 (fun z => ?_) (fun z => ?_)
    · rw [show (122 : Int32) = nI 122 from rfl, nI_ltI (by omega) (by omega)] at z
      refine bkX11_isLetter_16 (bkX11_isLetter_17 (Or.inl rfl) ⟨?_, rfl⟩)
      unfold isLt; rw [decide_eq_false (by omega)]; rfl
    · rw [show (122 : Int32) = nI 122 from rfl, nI_ltI (by omega) (by omega)] at z
      refine bkX11_isLetter_12 (bkX11_isLetter_17 (Or.inr rfl) ⟨?_, rfl⟩)
      unfold isLt; rw [decide_eq_true (by omega)]; rfl
theorem c_isDigitM {c : Nat} (hc : c < 2 ^ 31) : Cd X mX11_isDigit [.int (nI c)] h 0 0 (oI (fun r t => r = bI (isDg c) ∧ t = h) nX) := by
  refine bkX11_isDigit_0 (fun q => ?_) (fun q => ?_)
  · rw [show (48 : Int32) = nI 48 from rfl, nI_ltI (by omega) (by omega)] at q
    refine bkX11_isDigit_16 (bkX11_isDigit_17 (Or.inl rfl) ⟨?_, rfl⟩)
    unfold isDg; rw [decide_eq_false (by omega)]; rfl
  · rw [show (48 : Int32) = nI 48 from rfl, nI_ltI (by omega) (by omega)] at q
    refine bkX11_isDigit_6 (fun z => ?_) (fun z => ?_)
    · rw [show (57 : Int32) = nI 57 from rfl, nI_ltI (by omega) (by omega)] at z
      refine bkX11_isDigit_16 (bkX11_isDigit_17 (Or.inl rfl) ⟨?_, rfl⟩)
      unfold isDg; rw [decide_eq_false (by omega)]; rfl
    · rw [show (57 : Int32) = nI 57 from rfl, nI_ltI (by omega) (by omega)] at z
      refine bkX11_isDigit_12 (bkX11_isDigit_17 (Or.inr rfl) ⟨?_, rfl⟩)
      unfold isDg; rw [decide_eq_true (by omega)]; rfl
theorem c_rank {c : Nat} (hc : isLt c = true) : Cd X mX11_rank [.int (nI c)] h 0 0 (oI (fun r t => r = nI (c - 96) ∧ t = h) nX) := by
  have hb : 97 ≤ c ∧ c ≤ 122 := by simpa [isLt] using hc
  refine bkX11_rank_0 (c_isLetterM (by omega)) (fun r t q => ?_)
  obtain ⟨rfl, rfl⟩ := q
  rw [hc]
  refine bkX11_rank_4 (fun z => absurd z (by decide)) (fun _ => bkX11_rank_7 (bkX11_rank_18 ⟨?_, rfl⟩))
  rw [show (96 : Int32) = nI 96 from rfl, pk_sub (by omega)]
theorem c_isSignOf {c : Nat} (hc : c < 2 ^ 31) : Cd X mX11_isSignOf [.int (nI c)] h 0 0 (oI (fun r t => r = bI (isSg c) ∧ t = h) nX) := by
  have yes : isSg c = true → Gd X mX11_isSignOf 42 [none] [] h 0 0 (oI (fun r t => r = bI (isSg c) ∧ t = h) nX) := fun e => bkX11_isSignOf_42 (bkX11_isSignOf_47 (Or.inr rfl) ⟨by rw [e]; rfl, rfl⟩)
  have d : ∀ n, n < 2 ^ 31 → (nI c = nI n ↔ c = n) := fun n hn => nI_eq hc hn
  refine bkX11_isSignOf_0 (fun q => yes ?_) (fun q1 => ?_)
  · rw [show (40 : Int32) = nI 40 from rfl, d 40 (by decide)] at q; unfold isSg; rw [decide_eq_true (by omega)]
  refine bkX11_isSignOf_6 (fun q => yes ?_) (fun q2 => ?_)
  · rw [show (41 : Int32) = nI 41 from rfl, d 41 (by decide)] at q; unfold isSg; rw [decide_eq_true (by omega)]
  refine bkX11_isSignOf_12 (fun q => yes ?_) (fun q3 => ?_)
  · rw [show (59 : Int32) = nI 59 from rfl, d 59 (by decide)] at q; unfold isSg; rw [decide_eq_true (by omega)]
  refine bkX11_isSignOf_18 (fun q => yes ?_) (fun q4 => ?_)
  · rw [show (61 : Int32) = nI 61 from rfl, d 61 (by decide)] at q; unfold isSg; rw [decide_eq_true (by omega)]
  refine bkX11_isSignOf_24 (fun q => yes ?_) (fun q5 => ?_)
  · rw [show (60 : Int32) = nI 60 from rfl, d 60 (by decide)] at q; unfold isSg; rw [decide_eq_true (by omega)]
  refine bkX11_isSignOf_30 (fun q => yes ?_) (fun q6 => ?_)
  · rw [show (43 : Int32) = nI 43 from rfl, d 43 (by decide)] at q; unfold isSg; rw [decide_eq_true (by omega)]
  refine bkX11_isSignOf_36 (fun q => ?_) (fun q => yes ?_)
  · refine bkX11_isSignOf_46 (bkX11_isSignOf_47 (Or.inl rfl) ⟨?_, rfl⟩)
    rw [show (40 : Int32) = nI 40 from rfl, d 40 (by decide)] at q1
    rw [show (41 : Int32) = nI 41 from rfl, d 41 (by decide)] at q2
    rw [show (59 : Int32) = nI 59 from rfl, d 59 (by decide)] at q3
    rw [show (61 : Int32) = nI 61 from rfl, d 61 (by decide)] at q4
    rw [show (60 : Int32) = nI 60 from rfl, d 60 (by decide)] at q5
    rw [show (43 : Int32) = nI 43 from rfl, d 43 (by decide)] at q6
    rw [show (45 : Int32) = nI 45 from rfl, d 45 (by decide)] at q
    unfold isSg; rw [decide_eq_false (by omega)]; rfl
  · rw [show (45 : Int32) = nI 45 from rfl, d 45 (by decide)] at q; unfold isSg; rw [decide_eq_true (by omega)]
/-- a longer row of letters, of digits -/
theorem enc37_s {w : List Nat} {j : Nat} (hj : j < w.length) : enc37 (w.take (j + 1)) = 37 * enc37 (w.take j) + lN w[j] := by unfold enc37; rw [take_fold hj]
theorem enc32_s {w : List Nat} {j : Nat} (hj : j < w.length) : enc32 (w.take (j + 1)) = enc32 (w.take j) * 32 + lN w[j] := by unfold enc32; rw [take_fold hj]
theorem dnm_s {w : List Nat} {j : Nat} (hj : j < w.length) : dnm (w.take (j + 1)) = dnm (w.take j) * 10 + (w[j] - 48) := by unfold dnm; rw [take_fold hj]
theorem l_sub {a b : Nat} (h : b ≤ a) : lN a - lN b = lN (a - b) := by
  obtain ⟨d, rfl⟩ := Nat.le.dest h
  rw [Nat.add_sub_cancel_left, show lN (b + d) = lN b + lN d from Int64.ofNat_add b d]
  rw [Int64.add_comm, Int64.add_sub_cancel]
theorem l_add (a b : Nat) : lN a + lN b = lN (a + b) := (Int64.ofNat_add a b).symm
theorem l_mul (a b : Nat) : lN a * lN b = lN (a * b) := (Int64.ofNat_mul a b).symm
abbrev ctS : Nat → Prop := fun b => b = 35 ∨ b = 37 ∨ b = 38 ∨ b = 39
theorem c_cutAll {T : List Nat} (F : LX11 (Sk h) 35) (h2 : hI h 35 2 = nI T.length) (hT : T.length ≤ 2400) (hc : ∀ (i : Nat) (hi : i < T.length), hI h 36 i = nI T[i]) (hs : ∀ c ∈ T, c ≤ 126) :
    Cd X mX11_cutAll [.ref 35] h 0 0 (oV (fun t => chR ctS h t ∧ (∀ j, j ≠ 2 → j ≠ 3 → j ≠ 7 → j ≠ 8 → hI t 35 j = hI h 35 j) ∧ hJ t 35 = hJ h 35 ∧ hI t 35 2 = 0 ∧ hI t 35 7 = 0 ∧ hI t 35 8 = 0 ∧ TkM t (toks T)) nX) := by
  generalize hP : oV (fun t => chR ctS h t ∧ (∀ j, j ≠ 2 → j ≠ 3 → j ≠ 7 → j ≠ 8 → hI t 35 j = hI h 35 j) ∧ hJ t 35 = hJ h 35 ∧ hI t 35 2 = 0 ∧ hI t 35 7 = 0 ∧ hI t 35 8 = 0 ∧ TkM t (toks T)) nX = P
  refine bkX11_cutAll_0 F ?_
  generalize hh : sI (sI h 35 3 (hI h 35 2)) 35 2 0 = h1
  have k1 : chR ctS h h1 := by rw [← hh]; exact (chR.rf.s (Or.inl rfl)).s (Or.inl rfl)
  have k3 : hI h1 35 3 = nI T.length := by rw [← hh, sI_nj (by decide), sI_at]; exact h2
  have k2 : hI h1 35 2 = 0 := by rw [← hh, sI_at]
  have ko : ∀ j, j ≠ 2 → j ≠ 3 → hI h1 35 j = hI h 35 j := fun j a b => by rw [← hh, sI_nj a, sI_nj b]
  have kj : hJ h1 35 = hJ h 35 := by rw [← hh]; rfl
  clear hh
  -- what a turn keeps
  have key : ∀ (f p : Nat) (A : List Tk) (u : SH), T.length ≤ p + f → p ≤ T.length → A.length ≤ p → A ++ tkz f p (T.drop p) = tkz T.length 0 T → chR ctS h1 u → hI u 35 = hI h1 35 → hJ u 35 = hJ h1 35 → TkM u A →
      Gd X mX11_cutAll 17 [some (.ref 35), some (.int (nI A.length)), some (.int (nI p)), none, none, none, none] [] u 0 0 P := by
    intro f
    induction f with
    | zero =>
      intro p A u hf hp hA hz ku k35 k35j hM
      have e : p = T.length := by omega
      subst e
      have Fu : LX11 (Sk u) 35 := ku.1 ▸ k1.1 ▸ F
      refine bkX11_cutAll_17 Fu (fun _ => ?_) (fun q => absurd (by rw [k35, k3]; exact (Int32.le_refl _)) q)
      refine bkX11_cutAll_279 Fu (vp_in_nI (by omega) (by decide)) (bkX11_cutAll_301 ?_ ?_)
      · exact Fu
      rw [← hP, nI_clamp (by omega)]
      have hA0 : A = tkz T.length 0 T := by rw [← hz]; simp [tkz]
      refine ⟨?_, fun j a b c d => ?_, ?_, ?_, ?_, ?_, ?_⟩
      · exact k1.tr (((((ku.s (i := A.length) (v := 0) (Or.inr (Or.inl rfl))).s (i := A.length) (v := _) (Or.inr (Or.inr (Or.inl rfl)))).s (Or.inl rfl)).s (Or.inl rfl)))
      · rw [sI_nj d, sI_nj c, sI_ne (by omega), sI_ne (by omega), k35]; exact ko j a b
      · show hJ u 35 = _
        rw [k35j]; exact kj
      · rw [sI_nj (by decide), sI_nj (by decide), sI_ne (by omega), sI_ne (by omega), k35]; exact k2
      · rw [sI_nj (by decide), sI_at]
      · rw [sI_at]
      · unfold toks
        rw [← hA0]
        refine hM.push (fun i hi => ⟨?_, ?_, rfl⟩) ?_ ?_ ?_
        · rw [sI_nb (by decide), sI_nb (by decide), sI_nb (by decide)]; exact sI_nj (by omega)
        · rw [sI_nb (by decide), sI_nb (by decide)]
          show hI (sI _ (35 + 3) A.length _) 38 i = _
          rw [sI_nj (by omega)]; exact congrFun (sI_nb (by decide)) i
        · rw [sI_nb (by decide), sI_nb (by decide), sI_nb (by decide)]; exact sI_at
        · rw [sI_nb (by decide), sI_nb (by decide)]
          show hI (sI _ (35 + 3) A.length _) 38 A.length = _
          rw [sI_at, sI_ne (by omega), k35, k3]
        · exact ⟨fun z => by simp at z, fun z => by simp at z, fun z => by simp at z⟩
    | succ f ih =>
      intro p A u hf hp hA hz ku k35 k35j hM
      have Fu : LX11 (Sk u) 35 := ku.1 ▸ k1.1 ▸ F
      have u36 : hI u 36 = hI h 36 := ((ku.2 36 (by unfold ctS; omega)).1).trans (k1.2 36 (by unfold ctS; omega)).1
      by_cases hlt : p < T.length
      · have hcp : hI u 36 p = nI T[p] := by rw [u36]; exact hc p hlt
        have h126 := hs _ (List.getElem_mem hlt)
        rw [tkz_at hlt] at hz
        refine bkX11_cutAll_17 Fu (fun q => ?_) (fun _ => ?_)
        · rw [k35, k3] at q; exact absurd q (nI_ge hlt (by omega))
        have skip : (T[p] = 10 ∨ T[p] = 32) → Gd X mX11_cutAll 44 [some (.ref 35), some (.int (nI A.length)), some (.int (nI p)), none, none, none, none] [] u 0 0 P := fun q => by
          rw [if_pos q] at hz
          refine bkX11_cutAll_44 ?_
          rw [nI_1]
          exact ih (p + 1) A u (by omega) (by omega) (by omega) hz ku k35 k35j hM
        refine bkX11_cutAll_25 Fu (vp_in_nI (by omega) (by omega)) (fun q => ?_) (fun q => ?_)
        · rw [nI_clamp (by omega)] at q
          have e : hI u (35 + 1) p = nI T[p] := hcp
          rw [e, show (10 : Int32) = nI 10 from rfl, nI_eq (by omega) (by omega)] at q
          exact skip (Or.inl q)
        rw [nI_clamp (by omega)] at q ⊢
        have e : hI u (35 + 1) p = nI T[p] := hcp
        rw [e] at q ⊢
        rw [show (10 : Int32) = nI 10 from rfl, nI_eq (by omega) (by omega)] at q
        refine bkX11_cutAll_38 (fun q2 => ?_) (fun q2 => ?_)
        rotate_left
        · rw [show (32 : Int32) = nI 32 from rfl, nI_eq (by omega) (by omega)] at q2
          exact skip (Or.inr q2)
        rw [show (32 : Int32) = nI 32 from rfl, nI_eq (by omega) (by omega)] at q2
        rw [if_neg (by omega)] at hz
        refine bkX11_cutAll_50 Fu (vp_in_nI (by omega) (by decide)) (c_isLetterM (by omega)) (fun r t hq => ?_)
        obtain ⟨rfl, rfl⟩ := hq
        rw [nI_clamp (by omega)]
        generalize hu2 : sI u (35 + 3) A.length (nI p) = u2
        have ku2 : chR ctS h1 u2 := by rw [← hu2]; exact ku.s (Or.inr (Or.inr (Or.inl rfl)))
        have k35' : hI u2 35 = hI h1 35 := by rw [← hu2, sI_nb (by decide)]; exact k35
        have k35j' : hJ u2 35 = hJ h1 35 := by rw [← hu2]; exact k35j
        have Fu2 : LX11 (Sk u2) 35 := ku2.1 ▸ k1.1 ▸ F
        have u236 : ∀ (i : Nat) (hi : i < T.length), hI u2 (35 + 1) i = nI T[i] := fun i hi => by
          rw [← hu2, sI_nb (by decide)]; show hI u 36 i = _; rw [u36]; exact hc i hi
        have fin : ∀ (x : Tk) (k : Nat) (v : Int64), 1 ≤ k → p + k ≤ T.length → A ++ x :: tkz f (p + k) (T.drop (p + k)) = tkz T.length 0 T → x.2.1 = p → vM x v →
            Gd X mX11_cutAll 265 [some (.ref 35), some (.int (nI A.length)), some (.int (nI (p + k))), none, none, some (.long v), none] [] (sI u2 (35 + 2) A.length (nI (srt x.1))) 0 0 P := fun x k v hk1 hk2 hz2 hx hv => by
          refine bkX11_cutAll_265 (show LX11 (Sk (sI u2 (35 + 2) A.length (nI (srt x.1)))) 35 from Fu2) (vp_in_nI (by omega) (by decide)) ?_
          rw [nI_clamp (by omega), nI_1]
          have e2 : A.length + 1 = (A ++ [x]).length := by simp
          rw [e2]
          refine ih (p + k) (A ++ [x]) _ (by omega) hk2 (by rw [← e2]; omega) (by rw [List.append_assoc]; exact hz2) ((ku2.s (Or.inr (Or.inl rfl))).j (Or.inr (Or.inr (Or.inr rfl)))) ?_ ?_ ?_
          · show hI (sI u2 (35 + 2) A.length (nI (srt x.1))) 35 = _
            rw [sI_nb (by decide)]; exact k35'
          · rw [sJ_nb (by decide)]; exact k35j'
          · refine hM.push (fun i hi => ⟨?_, ?_, ?_⟩) ?_ ?_ ?_
            · show hI (sI u2 37 A.length (nI (srt x.1))) 37 i = _
              rw [sI_nj (by omega), ← hu2]; exact congrFun (sI_nb (by decide)) i
            · show hI (sI u2 37 A.length (nI (srt x.1))) 38 i = _
              rw [sI_nb (by decide), ← hu2]; show hI (sI u 38 A.length (nI p)) 38 i = _
              exact sI_nj (by omega)
            · show hJ (sJ _ 39 A.length v) 39 i = _
              rw [sJ_nj (by omega), ← hu2]; rfl
            · show hI (sI u2 37 A.length (nI (srt x.1))) 37 A.length = _
              exact sI_at
            · show hI (sI u2 37 A.length (nI (srt x.1))) 38 A.length = _
              rw [sI_nb (by decide), ← hu2]; show hI (sI u 38 A.length (nI p)) 38 A.length = _
              rw [sI_at, hx]
            · show vM x (hJ (sJ _ 39 A.length v) 39 A.length)
              rw [sJ_at]; exact hv
        refine bkX11_cutAll_67 (fun q3 => ?_) (fun q3 => ?_)
        rotate_left
        · -- a word
          rw [bI_0, Bool.not_eq_false] at q3
          rw [if_pos q3] at hz
          generalize hr : (T.drop p).takeWhile isLt = r at hz
          have hk1 : 1 ≤ r.length := by rw [← hr, List.drop_eq_getElem_cons hlt]; exact tw_pos q3
          have hk2 : p + r.length ≤ T.length := by have := tw_le (f := isLt) (T.drop p); rw [hr, List.length_drop] at this; omega
          have hlr : (ltr r).length = r.length := by unfold ltr; rw [List.length_map]
          have rj : ∀ (j : Nat) (hj : j < r.length), ∃ (hp2 : p + j < T.length), T[p + j] = r[j] ∧ isLt r[j] = true := fun j hj => by
            have hj2 : j < ((T.drop p).takeWhile isLt).length := by rw [hr]; exact hj
            obtain ⟨a1, a2, a3⟩ := tw_at hj2
            have a4 : ((T.drop p).takeWhile isLt)[j] = r[j] := by simp only [hr]
            rw [List.getElem_drop] at a2 a3
            exact ⟨by omega, by rw [← a4, a2], by rw [← a4, a2]; exact a3⟩
          refine for_up (G := fun j t => Gd X mX11_cutAll 70 [some (.ref 35), some (.int (nI A.length)), some (.int (nI (p + j))), none, some (.int (nI p)), some (.long (enc37 ((ltr r).take (min j 10)))), none] [] t 0 0 P) (I := fun _ t => t = u2) r.length ?_ ?_ 0 u2 (Nat.zero_le _) rfl
          · rintro t rfl
            have done : Gd X mX11_cutAll 129 [some (.ref 35), some (.int (nI A.length)), some (.int (nI (p + r.length))), none, some (.int (nI p)), some (.long (enc37 ((ltr r).take (min r.length 10)))), none] [] t 0 0 P := by
              refine bkX11_cutAll_129 Fu2 (fun z => ?_) (fun z => ?_)
              · rw [pk_sub (by omega), Nat.add_sub_cancel_left, show (10 : Int32) = nI 10 from rfl, nI_leI (by omega) (by omega)] at z
                have ex : wTk p r = (kwd (ltr r), p, ltr r, 0) := by unfold wTk; rw [if_pos z]
                have hkw := kwd_le (ltr r)
                refine bkX11_cutAll_147 (bkX11_cutAll_148 (LX11.a_sort Fu2) (vp_in_nI (by omega) (by decide)) ?_)
                rw [nI_clamp (by omega)]
                have e1 : (1 : Int32) = nI (srt (wTk p r).1) := by rw [ex]; show _ = nI (srt (kwd (ltr r))); unfold srt; rw [if_pos hkw]; rfl
                rw [e1]
                refine fin (wTk p r) r.length _ hk1 hk2 hz (by rw [ex]) ?_
                rw [ex, Nat.min_eq_left z, ← hlr, List.take_length]
                exact ⟨fun _ => rfl, fun y => absurd (show kwd (ltr r) = 12 from y) (by omega), fun y => absurd (show 15 ≤ kwd (ltr r) from y) (by omega)⟩
              · rw [pk_sub (by omega), Nat.add_sub_cancel_left, show (10 : Int32) = nI 10 from rfl, nI_leI (by omega) (by omega)] at z
                have ex : wTk p r = (13, p, [], 0) := by unfold wTk; rw [if_neg z]
                refine bkX11_cutAll_143 (bkX11_cutAll_148 (LX11.a_sort Fu2) (vp_in_nI (by omega) (by decide)) ?_)
                rw [nI_clamp (by omega)]
                have e1 : (4 : Int32) = nI (srt (wTk p r).1) := by rw [ex]; rfl
                rw [e1]
                refine fin (wTk p r) r.length _ hk1 hk2 hz (by rw [ex]) ?_
                rw [ex]
                exact ⟨fun y => by simp at y, fun y => by simp at y, fun y => by simp at y⟩
            by_cases qe : p + r.length < T.length
            · have hne : isLt T[p + r.length] = false := by
                have hq : ((T.drop p).takeWhile isLt).length < (T.drop p).length := by rw [hr, List.length_drop]; omega
                have := tw_end hq
                simp only [hr, List.getElem_drop] at this
                exact this
              have h126' := hs _ (List.getElem_mem qe)
              refine bkX11_cutAll_70 Fu2 (fun _ => done) (fun _ => ?_)
              refine bkX11_cutAll_78 Fu2 (vp_in_nI (by omega) (by omega)) (by rw [nI_clamp (by omega), u236 _ qe]; exact c_isLetterM (by omega)) (fun r' t' hq' => ?_)
              obtain ⟨rfl, rfl⟩ := hq'
              rw [hne]
              exact bkX11_cutAll_87 (fun _ => done) (fun z => absurd rfl z)
            · refine bkX11_cutAll_70 Fu2 (fun _ => done) (fun z => absurd ?_ z)
              rw [k35', k3]; exact nI_le (by omega) (by omega)
          · rintro j t hj rfl ih2
            obtain ⟨hp2, e1, e2⟩ := rj j hj
            have hb : 97 ≤ r[j] ∧ r[j] ≤ 122 := by simpa [isLt] using e2
            refine bkX11_cutAll_70 Fu2 (fun z => ?_) (fun _ => ?_)
            · rw [k35', k3] at z; exact absurd z (nI_ge hp2 (by omega))
            refine bkX11_cutAll_78 Fu2 (vp_in_nI (by omega) (by omega)) (by rw [nI_clamp (by omega), u236 _ hp2, e1]; exact c_isLetterM (by omega)) (fun r' t' hq' => ?_)
            obtain ⟨rfl, rfl⟩ := hq'
            rw [e2]
            refine bkX11_cutAll_87 (fun z => absurd z (by decide)) (fun _ => ?_)
            have nx := ih2 _ rfl
            refine bkX11_cutAll_90 (fun z => ?_) (fun z => ?_)
            · rw [pk_sub (by omega), Nat.add_sub_cancel_left, show (10 : Int32) = nI 10 from rfl, nI_leI (by omega) (by omega)] at z
              refine bkX11_cutAll_119 (bkX11_cutAll_121 ?_)
              rw [nI_1]
              rw [show min (j + 1) 10 = min j 10 by omega] at nx
              exact nx
            · rw [pk_sub (by omega), Nat.add_sub_cancel_left, show (10 : Int32) = nI 10 from rfl, nI_leI (by omega) (by omega)] at z
              refine bkX11_cutAll_99 Fu2 (vp_in_nI (by omega) (by omega)) (by rw [nI_clamp (by omega), u236 _ hp2, e1]; exact c_rank e2) (fun r' t' hq' => ?_)
              obtain ⟨rfl, rfl⟩ := hq'
              refine bkX11_cutAll_114 (bkX11_cutAll_121 ?_)
              rw [nI_1, nI_l (by omega)]
              rw [show min (j + 1) 10 = j + 1 by omega, enc37_s (by omega)] at nx
              rw [show min j 10 = j by omega]
              have e3 : (ltr r)[j]'(by omega) = r[j] - 96 := by simp [ltr]
              rw [e3] at nx
              exact nx
        · rw [bI_0] at q3
          rw [if_neg (by rw [q3]; decide)] at hz
          refine bkX11_cutAll_152 (c_isDigitM (by omega)) (fun r' t' hq' => ?_)
          obtain ⟨rfl, ht'⟩ := hq'
          rw [ht']
          refine bkX11_cutAll_156 (fun q4 => ?_) (fun q4 => ?_)
          · -- a sign
            rw [bI_0] at q4
            rw [if_neg (by rw [q4]; decide)] at hz
            refine bkX11_cutAll_240 Fu2 (c_isSignOf (by omega)) (fun r' t' hq' => ?_)
            obtain ⟨rfl, rfl⟩ := hq'
            rw [nI_l (by omega)]
            refine bkX11_cutAll_253 (fun z => ?_) (fun z => ?_)
            · rw [bI_0] at z
              have ex : sTk p T[p] = (13, p, [], 0) := by unfold sTk; rw [if_neg (by rw [z]; decide)]
              refine bkX11_cutAll_260 (bkX11_cutAll_261 (LX11.a_sort Fu2) (vp_in_nI (by omega) (by decide)) ?_)
              rw [nI_clamp (by omega), nI_1]
              have e1 : (4 : Int32) = nI (srt (sTk p T[p]).1) := by rw [ex]; rfl
              rw [e1]
              refine fin (sTk p T[p]) 1 _ (by decide) (by omega) hz (by rw [ex]) ?_
              rw [ex]
              exact ⟨fun y => by simp at y, fun y => by simp at y, fun y => by simp at y⟩
            · rw [bI_0, Bool.not_eq_false] at z
              have ex : sTk p T[p] = (T[p], p, [], 0) := by unfold sTk; rw [if_pos z]
              have hcs : T[p] = 40 ∨ T[p] = 41 ∨ T[p] = 59 ∨ T[p] = 61 ∨ T[p] = 60 ∨ T[p] = 43 ∨ T[p] = 45 := by simpa [isSg] using z
              refine bkX11_cutAll_256 (bkX11_cutAll_261 (LX11.a_sort Fu2) (vp_in_nI (by omega) (by decide)) ?_)
              rw [nI_clamp (by omega), nI_1]
              have e1 : (3 : Int32) = nI (srt (sTk p T[p]).1) := by
                rw [ex]; show _ = nI (srt T[p]); unfold srt
                rw [if_neg (by omega), if_neg (by omega), if_neg (by omega), if_neg (by omega)]; rfl
              rw [e1]
              refine fin (sTk p T[p]) 1 _ (by decide) (by omega) hz (by rw [ex]) ?_
              rw [ex]
              exact ⟨fun y => absurd (show T[p] ≤ 11 from y) (by omega), fun y => absurd (show T[p] = 12 from y) (by omega), fun _ => rfl⟩
          · -- a number
            rw [bI_0, Bool.not_eq_false] at q4
            rw [if_pos q4] at hz
            generalize hr : (T.drop p).takeWhile isDg = r at hz
            have hk1 : 1 ≤ r.length := by rw [← hr, List.drop_eq_getElem_cons hlt]; exact tw_pos q4
            have hk2 : p + r.length ≤ T.length := by have := tw_le (f := isDg) (T.drop p); rw [hr, List.length_drop] at this; omega
            have rj : ∀ (j : Nat) (hj : j < r.length), ∃ (hp2 : p + j < T.length), T[p + j] = r[j] ∧ isDg r[j] = true := fun j hj => by
              have hj2 : j < ((T.drop p).takeWhile isDg).length := by rw [hr]; exact hj
              obtain ⟨a1, a2, a3⟩ := tw_at hj2
              have a4 : ((T.drop p).takeWhile isDg)[j] = r[j] := by simp only [hr]
              rw [List.getElem_drop] at a2 a3
              exact ⟨by omega, by rw [← a4, a2], by rw [← a4, a2]; exact a3⟩
            refine for_up (G := fun j t => Gd X mX11_cutAll 159 [some (.ref 35), some (.int (nI A.length)), some (.int (nI (p + j))), none, some (.int (nI p)), some (.long (lN (dnm (r.take (min j 4))))), none] [] t 0 0 P) (I := fun _ t => t = u2) r.length ?_ ?_ 0 u2 (Nat.zero_le _) rfl
            · rintro t rfl
              have done : Gd X mX11_cutAll 218 [some (.ref 35), some (.int (nI A.length)), some (.int (nI (p + r.length))), none, some (.int (nI p)), some (.long (lN (dnm (r.take (min r.length 4))))), none] [] t 0 0 P := by
                refine bkX11_cutAll_218 Fu2 (fun z => ?_) (fun z => ?_)
                · rw [pk_sub (by omega), Nat.add_sub_cancel_left, n4, nI_leI (by omega) (by omega)] at z
                  have ex : dTk p r = (12, p, [], dnm r) := by unfold dTk; rw [if_pos z]
                  refine bkX11_cutAll_235 (bkX11_cutAll_236 (LX11.a_sort Fu2) (vp_in_nI (by omega) (by decide)) ?_)
                  rw [nI_clamp (by omega)]
                  have e1 : (2 : Int32) = nI (srt (dTk p r).1) := by rw [ex]; rfl
                  rw [e1]
                  refine fin (dTk p r) r.length _ hk1 hk2 hz (by rw [ex]) ?_
                  rw [ex, Nat.min_eq_left z, List.take_length]
                  exact ⟨fun y => by simp at y, fun _ => rfl, fun y => by simp at y⟩
                · rw [pk_sub (by omega), Nat.add_sub_cancel_left, n4, nI_leI (by omega) (by omega)] at z
                  have ex : dTk p r = (13, p, [], 0) := by unfold dTk; rw [if_neg z]
                  refine bkX11_cutAll_231 (bkX11_cutAll_236 (LX11.a_sort Fu2) (vp_in_nI (by omega) (by decide)) ?_)
                  rw [nI_clamp (by omega)]
                  have e1 : (4 : Int32) = nI (srt (dTk p r).1) := by rw [ex]; rfl
                  rw [e1]
                  refine fin (dTk p r) r.length _ hk1 hk2 hz (by rw [ex]) ?_
                  rw [ex]
                  exact ⟨fun y => by simp at y, fun y => by simp at y, fun y => by simp at y⟩
              by_cases qe : p + r.length < T.length
              · have hne : isDg T[p + r.length] = false := by
                  have hq : ((T.drop p).takeWhile isDg).length < (T.drop p).length := by rw [hr, List.length_drop]; omega
                  have := tw_end hq
                  simp only [hr, List.getElem_drop] at this
                  exact this
                have h126' := hs _ (List.getElem_mem qe)
                refine bkX11_cutAll_159 Fu2 (fun _ => done) (fun _ => ?_)
                refine bkX11_cutAll_167 Fu2 (vp_in_nI (by omega) (by omega)) (by rw [nI_clamp (by omega), u236 _ qe]; exact c_isDigitM (by omega)) (fun r' t' hq' => ?_)
                obtain ⟨rfl, rfl⟩ := hq'
                rw [hne]
                exact bkX11_cutAll_176 (fun _ => done) (fun z => absurd rfl z)
              · refine bkX11_cutAll_159 Fu2 (fun _ => done) (fun z => absurd ?_ z)
                rw [k35', k3]; exact nI_le (by omega) (by omega)
            · rintro j t hj rfl ih2
              obtain ⟨hp2, e1, e2⟩ := rj j hj
              have hb : 48 ≤ r[j] ∧ r[j] ≤ 57 := by simpa [isDg] using e2
              refine bkX11_cutAll_159 Fu2 (fun z => ?_) (fun _ => ?_)
              · rw [k35', k3] at z; exact absurd z (nI_ge hp2 (by omega))
              refine bkX11_cutAll_167 Fu2 (vp_in_nI (by omega) (by omega)) (by rw [nI_clamp (by omega), u236 _ hp2, e1]; exact c_isDigitM (by omega)) (fun r' t' hq' => ?_)
              obtain ⟨rfl, rfl⟩ := hq'
              rw [e2]
              refine bkX11_cutAll_176 (fun z => absurd z (by decide)) (fun _ => ?_)
              have nx := ih2 _ rfl
              refine bkX11_cutAll_179 (fun z => ?_) (fun z => ?_)
              · rw [pk_sub (by omega), Nat.add_sub_cancel_left, n4, nI_leI (by omega) (by omega)] at z
                refine bkX11_cutAll_208 (bkX11_cutAll_210 ?_)
                rw [nI_1]
                rw [show min (j + 1) 4 = min j 4 by omega] at nx
                exact nx
              · rw [pk_sub (by omega), Nat.add_sub_cancel_left, n4, nI_leI (by omega) (by omega)] at z
                refine bkX11_cutAll_187 Fu2 (vp_in_nI (by omega) (by omega)) (bkX11_cutAll_210 ?_)
                rw [nI_1, nI_clamp (by omega), u236 _ hp2, e1, nI_l (by omega)]
                rw [show min (j + 1) 4 = j + 1 by omega, dnm_s hj] at nx
                rw [show min j 4 = j by omega, show (10 : Int64) = lN 10 from rfl, show (48 : Int64) = lN 48 from rfl, l_mul, l_add, l_sub (by omega)]
                rw [show 10 * dnm (r.take j) + r[j] - 48 = dnm (r.take j) * 10 + (r[j] - 48) by omega]
                exact nx
      · have e : p = T.length := by omega
        have hz0 : A ++ tkz 0 p (T.drop p) = tkz T.length 0 T := by
          have e2 : T.drop p = [] := List.drop_eq_nil_of_le (by omega)
          rw [e2] at hz ⊢
          rw [tkz_nil] at hz ⊢; exact hz
        subst e
        have Fu : LX11 (Sk u) 35 := ku.1 ▸ k1.1 ▸ F
        refine bkX11_cutAll_17 Fu (fun _ => ?_) (fun q => absurd (by rw [k35, k3]; exact (Int32.le_refl _)) q)
        refine bkX11_cutAll_279 Fu (vp_in_nI (by omega) (by decide)) (bkX11_cutAll_301 ?_ ?_)
        · exact Fu
        rw [← hP, nI_clamp (by omega)]
        have hA0 : A = tkz T.length 0 T := by rw [← hz0]; simp [tkz]
        refine ⟨?_, fun j a b c d => ?_, ?_, ?_, ?_, ?_, ?_⟩
        · exact k1.tr (((((ku.s (i := A.length) (v := 0) (Or.inr (Or.inl rfl))).s (i := A.length) (v := _) (Or.inr (Or.inr (Or.inl rfl)))).s (Or.inl rfl)).s (Or.inl rfl)))
        · rw [sI_nj d, sI_nj c, sI_ne (by omega), sI_ne (by omega), k35]; exact ko j a b
        · show hJ u 35 = _
          rw [k35j]; exact kj
        · rw [sI_nj (by decide), sI_nj (by decide), sI_ne (by omega), sI_ne (by omega), k35]; exact k2
        · rw [sI_nj (by decide), sI_at]
        · rw [sI_at]
        · unfold toks
          rw [← hA0]
          refine hM.push (fun i hi => ⟨?_, ?_, rfl⟩) ?_ ?_ ?_
          · rw [sI_nb (by decide), sI_nb (by decide), sI_nb (by decide)]; exact sI_nj (by omega)
          · rw [sI_nb (by decide), sI_nb (by decide)]
            show hI (sI _ (35 + 3) A.length _) 38 i = _
            rw [sI_nj (by omega)]; exact congrFun (sI_nb (by decide)) i
          · rw [sI_nb (by decide), sI_nb (by decide), sI_nb (by decide)]; exact sI_at
          · rw [sI_nb (by decide), sI_nb (by decide)]
            show hI (sI _ (35 + 3) A.length _) 38 A.length = _
            rw [sI_at, sI_ne (by omega), k35, k3]
          · exact ⟨fun z => by simp at z, fun z => by simp at z, fun z => by simp at z⟩
  exact key T.length 0 [] h1 (by omega) (by omega) (by simp) (by simp) chR.rf rfl rfl (fun i hi => by simp at hi)
end CM
