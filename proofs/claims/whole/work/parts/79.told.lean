/-! ===== the reader: the names that are told ===== -/
/-- how many words clause have a word behind them -/
def c2 : List Tk → Nat
  | [] => 0
  | a :: ts => (if a.1 = 2 ∧ kd ts 0 ≤ 11 then 1 else 0) + c2 ts
theorem c2_s {a : Tk} {ts : List Tk} : c2 (a :: ts) = (if a.1 = 2 ∧ kd ts 0 ≤ 11 then 1 else 0) + c2 ts := rfl
theorem c2_n {a : Tk} {ts : List Tk} (h : a.1 ≠ 2) : c2 (a :: ts) = c2 ts := by rw [c2_s, if_neg (fun z => h z.1), Nat.zero_add]
theorem c2_12 {a : Tk} {ts : List Tk} (h : ¬ kd ts 0 ≤ 11) : c2 (a :: ts) = c2 ts := by rw [c2_s, if_neg (fun z => h z.2), Nat.zero_add]
theorem kd_nil : ¬ kd [] 0 ≤ 11 := by decide
theorem wTk_2 {p : Nat} {r : List Nat} (h : (wTk p r).1 = 2) : r.length = 6 := by
  unfold wTk at h
  by_cases q : r.length ≤ 10
  · rw [if_pos q] at h
    have h : kwd (ltr r) = 2 := h
    rw [kwd_iff (by decide)] at h
    have := congrArg List.length h
    unfold ltr at this
    rw [List.length_map] at this
    rw [this]; decide
  · rw [if_neg q] at h; exact absurd (show (13 : Nat) = 2 from h) (by decide)
theorem dTk_12 {p : Nat} {r : List Nat} : 12 ≤ (dTk p r).1 := by
  unfold dTk
  split
  · exact Nat.le_refl 12
  · exact (show 12 ≤ 13 from (by decide))
theorem sTk_12 {p c : Nat} : 12 ≤ (sTk p c).1 := by
  unfold sTk
  by_cases q : isSg c = true
  · rw [if_pos q]; have : c = 40 ∨ c = 41 ∨ c = 59 ∨ c = 61 ∨ c = 60 ∨ c = 43 ∨ c = 45 := by simpa [isSg] using q
    show 12 ≤ c; omega
  · rw [if_neg q]; exact (show 12 ≤ 13 from (by decide))
theorem kd_c {a : Tk} {ts : List Tk} : kd (a :: ts) 0 = a.1 := rfl
theorem dw_head {f : Nat → Bool} {l : List Nat} : ∀ c r, l.drop (l.takeWhile f).length = c :: r → f c = false := fun c r h => by
  have hl : (l.takeWhile f).length < l.length := by
    rcases Nat.lt_or_ge (l.takeWhile f).length l.length with z | z
    · exact z
    · rw [List.drop_eq_nil_of_le z] at h; cases h
  have := tw_end hl
  rw [List.drop_eq_getElem_cons hl] at h
  injection h with h1 _
  rw [← h1]; exact this
theorem c2_leM : ∀ (M n p : Nat) (l : List Nat), n ≤ M → 7 * c2 (tkz n p l) ≤ l.length
  | _, 0, _, _, _ => Nat.zero_le _
  | 0, n + 1, _, _, h => absurd h (by omega)
  | _ + 1, _ + 1, _, [], _ => Nat.zero_le _
  | M + 1, n + 1, p, c :: r, hM => by
    show 7 * c2 (if c = 10 ∨ c = 32 then tkz n (p + 1) r else if isLt c = true then wTk p ((c :: r).takeWhile isLt) :: tkz n (p + ((c :: r).takeWhile isLt).length) ((c :: r).drop ((c :: r).takeWhile isLt).length) else if isDg c = true then dTk p ((c :: r).takeWhile isDg) :: tkz n (p + ((c :: r).takeWhile isDg).length) ((c :: r).drop ((c :: r).takeWhile isDg).length) else sTk p c :: tkz n (p + 1) r) ≤ (c :: r).length
    by_cases q1 : c = 10 ∨ c = 32
    · rw [if_pos q1, List.length_cons]
      have := c2_leM M n (p + 1) r (by omega); omega
    rw [if_neg q1]
    by_cases q2 : isLt c = true
    · rw [if_pos q2]
      have ih := c2_leM M n (p + ((c :: r).takeWhile isLt).length) ((c :: r).drop ((c :: r).takeWhile isLt).length) (by omega)
      have hd := dw_head (f := isLt) (l := c :: r)
      have tl := tw_le (f := isLt) (c :: r)
      have hp : 1 ≤ ((c :: r).takeWhile isLt).length := tw_pos q2
      have ld : ((c :: r).drop ((c :: r).takeWhile isLt).length).length = (c :: r).length - ((c :: r).takeWhile isLt).length := List.length_drop
      by_cases q3 : (wTk p ((c :: r).takeWhile isLt)).1 = 2
      · have w6 := wTk_2 q3
        generalize hlw : (c :: r).drop ((c :: r).takeWhile isLt).length = l2 at ih hd ld
        generalize hpp : p + ((c :: r).takeWhile isLt).length = p2 at ih
        rw [w6] at tl ld
        rcases n with _ | n
        · rw [show tkz 0 p2 l2 = [] from rfl, c2_12 kd_nil]; exact Nat.zero_le _
        · rcases l2 with _ | ⟨d, r2⟩
          · rw [tkz_nil, c2_12 kd_nil]; exact Nat.zero_le _
          · have hd2 : isLt d = false := hd d r2 rfl
            by_cases q4 : d = 10 ∨ d = 32
            · have e1 : tkz (n + 1) p2 (d :: r2) = tkz n (p2 + 1) r2 := if_pos q4
              rw [e1] at ih ⊢
              have ih2 := c2_leM M n (p2 + 1) r2 (by omega)
              rw [List.length_cons] at ld
              rw [c2_s]
              split <;> omega
            · have e0 : ∃ a ts, tkz (n + 1) p2 (d :: r2) = a :: ts ∧ 12 ≤ a.1 := by
                have e1 : tkz (n + 1) p2 (d :: r2) = if isDg d = true then dTk p2 ((d :: r2).takeWhile isDg) :: tkz n (p2 + ((d :: r2).takeWhile isDg).length) ((d :: r2).drop ((d :: r2).takeWhile isDg).length) else sTk p2 d :: tkz n (p2 + 1) r2 := by
                  show (if d = 10 ∨ d = 32 then _ else if isLt d = true then _ else _) = _
                  rw [if_neg q4, if_neg (by rw [hd2]; exact (by decide))]
                rw [e1]
                by_cases q5 : isDg d = true
                · rw [if_pos q5]; exact ⟨_, _, rfl, dTk_12⟩
                · rw [if_neg q5]; exact ⟨_, _, rfl, sTk_12⟩
              obtain ⟨a, ts, e1, e2⟩ := e0
              rw [e1] at ih ⊢
              rw [c2_12 (by rw [kd_c]; omega)]
              omega
      · rw [c2_n q3]; omega
    rw [if_neg q2]
    by_cases q3 : isDg c = true
    · rw [if_pos q3, c2_n (by have := dTk_12 (p := p) (r := (c :: r).takeWhile isDg); omega)]
      have ih := c2_leM M n (p + ((c :: r).takeWhile isDg).length) ((c :: r).drop ((c :: r).takeWhile isDg).length) (by omega)
      rw [List.length_drop] at ih; omega
    · rw [if_neg q3, c2_n (by have := sTk_12 (p := p) (c := c); omega)]
      have ih := c2_leM M n (p + 1) r (by omega)
      rw [List.length_cons]; omega
theorem c2_le (n p : Nat) (l : List Nat) : 7 * c2 (tkz n p l) ≤ l.length := c2_leM n n p l (Nat.le_refl _)
theorem c2_app {z : Tk} (hz : ¬ z.1 ≤ 11) : ∀ ts : List Tk, c2 (ts ++ [z]) = c2 ts
  | [] => by show c2 [z] = c2 []; rw [c2_12 kd_nil]
  | a :: ts => by
    show c2 (a :: (ts ++ [z])) = c2 (a :: ts)
    rw [c2_s, c2_s, c2_app hz ts]
    rcases ts with _ | ⟨b, ts⟩
    · rw [if_neg (fun y => hz y.2), if_neg (fun y => kd_nil y.2)]
    · rfl
theorem tld_len : ∀ T : List Tk, (tld T T.length).length = c2 T
  | [] => rfl
  | a :: ts => by
    have ih := tld_len ts
    unfold tld at ih ⊢
    rw [List.length_map] at ih ⊢
    rw [List.length_cons, List.range_succ_eq_map, List.filter_cons]
    have e : ((List.map Nat.succ (List.range ts.length)).filter (fun j => decide (kd (a :: ts) j = 2 ∧ kd (a :: ts) (j + 1) ≤ 11))).length = ((List.range ts.length).filter (fun j => decide (kd ts j = 2 ∧ kd ts (j + 1) ≤ 11))).length := by
      rw [List.filter_map, List.length_map]; rfl
    rw [c2_s]
    by_cases q : a.1 = 2 ∧ kd ts 0 ≤ 11
    · rw [if_pos (show decide (kd (a :: ts) 0 = 2 ∧ kd (a :: ts) (0 + 1) ≤ 11) = true from decide_eq_true q), if_pos q, List.length_cons, e, ih]; omega
    · rw [if_neg (show ¬ decide (kd (a :: ts) 0 = 2 ∧ kd (a :: ts) (0 + 1) ≤ 11) = true from fun z => q (of_decide_eq_true z)), if_neg q, e, ih]; omega
theorem tld_bd (L : List Nat) : 7 * (tld (toks L) (toks L).length).length ≤ L.length := by
  rw [tld_len]
  unfold toks
  rw [c2_app (show ¬ (14 : Nat) ≤ 11 from (by decide))]
  exact c2_le _ _ _
theorem tld_s {T : List Tk} {n : Nat} : tld T (n + 1) = tld T n ++ (if kd T n = 2 ∧ kd T (n + 1) ≤ 11 then [wd T (n + 1)] else []) := by
  unfold tld
  rw [List.range_succ, List.filter_append, List.map_append]
  congr 1
  by_cases q : kd T n = 2 ∧ kd T (n + 1) ≤ 11
  · rw [if_pos q, List.filter_cons, if_pos (decide_eq_true q)]; rfl
  · rw [if_neg q, List.filter_cons, if_neg (fun z => q (of_decide_eq_true z))]; rfl
theorem tld_mono {T : List Tk} {n : Nat} : ∀ d, (tld T n).length ≤ (tld T (n + d)).length
  | 0 => Nat.le_refl _
  | d + 1 => by
    have := tld_mono (T := T) (n := n) d
    rw [← Nat.add_assoc, tld_s, List.length_append]; omega
section TN
variable {X : GX} {h : SH} {T : List Tk} {k e i : Nat} {N : List (List Nat)}
theorem RD.add {w : List Nat} (R : RD h k e T N i) (hl : N.length < hN h (k + 8)) : RD (sI (sJ h (k + 8) N.length (enc32 w)) k 3 (nI (N.length + 1))) k e T (N ++ [w]) i := by
  have hz9 := R.sz
  obtain ⟨r1, r2, ⟨t1, t2, t3, t4, t5⟩, ⟨d1, d2, d3, d4, d5⟩, ⟨n1, n2, n3, n4⟩, ⟨o1, o2⟩, r7⟩ := R
  have c : chR (fun q => q = k ∨ q = k + 8) h (sI (sJ h (k + 8) N.length (enc32 w)) k 3 (nI (N.length + 1))) := ((chR.rf (S := fun q => q = k ∨ q = k + 8)).j (Or.inr rfl)).s (Or.inl rfl)
  have e3 := c.2 (k + 3) (by omega)
  refine ⟨c.1 ▸ r1, r2, ⟨c.1 ▸ t1, t2.cg (c.2 _ (by omega)).1 (c.2 _ (by omega)).1 (c.2 _ (by omega)).2, by rw [e3.1]; exact t3, t4, t5⟩, ⟨by rw [e3.1]; exact d1, by rw [e3.1]; exact d2, by rw [e3.1]; exact d3, by rw [e3.2]; exact d4, d5⟩, ⟨by rw [sI_at]; simp, fun q hq => ?_, by rw [List.length_append]; exact hl, n4⟩, ⟨o1, o2⟩, r7⟩
  show hJ (sJ h (k + 8) N.length (enc32 w)) (k + 8) q = _
  rw [List.length_append, List.length_singleton] at hq
  by_cases y : q = N.length
  · subst y; rw [sJ_at, List.getElem_append_right (Nat.le_refl _)]; simp
  · rw [sJ_nj y, List.getElem_append_left (by omega)]; exact n2 q (by omega)
theorem c_tellsClause {j : Nat} (R : RD h k e T N i) (hT : okT T) (hj : j + 1 < T.length) : Cd X mX9_tellsClause [.ref (k + 3), .int (nI (j + 1))] h 0 0 (oI (fun r t => r = bI (decide (kd T j = 2 ∧ kd T (j + 1) ≤ 11)) ∧ t = h) nX) := by
  have hl := hT.2.1
  obtain ⟨t1, t2, t3, t4, t5⟩ := R.2.2.1
  have a1 := (t2 (j + 1) hj).1
  have a0 := (t2 j (by omega)).1
  have k1 := hT.k hj
  have k0 := hT.k (i := j) (by omega)
  have no : ¬ (kd T j = 2 ∧ kd T (j + 1) ≤ 11) → Gd X mX9_tellsClause 40 [none, none] [] h 0 0 (oI (fun r t => r = bI (decide (kd T j = 2 ∧ kd T (j + 1) ≤ 11)) ∧ t = h) nX) := fun z => bkX9_tellsClause_40 (bkX9_tellsClause_41 (Or.inl rfl) ⟨by rw [decide_eq_false z]; rfl, rfl⟩)
  refine bkX9_tellsClause_0 (fun z => ?_) (fun _ => ?_)
  · rw [show (1 : Int32) = nI 1 from rfl, nI_ltI (by omega) (by omega)] at z; omega
  refine bkX9_tellsClause_5 t1 (fun z => ?_) (fun _ => ?_)
  · rw [t3, nI_leI (by omega) (by omega)] at z; omega
  refine bkX9_tellsClause_13 t1 (vp_in_nI (by omega) (by omega)) (fun z => ?_) (fun z => ?_) <;> rw [nI_clamp (by omega), a1, show (11 : Int32) = nI 11 from rfl, nI_ltI (by omega) (by omega)] at z
  · exact no (fun y => by omega)
  have hm : nI (j + 1) - 1 = nI j := by rw [Int32.sub_eq_add_neg]; exact pk_m1 _
  refine bkX9_tellsClause_24 t1 (by rw [hm]; exact (vp_in_nI (by omega) (by omega))) (fun z2 => ?_) (fun z2 => ?_) <;> rw [hm, nI_clamp (by omega), a0, show (2 : Int32) = nI 2 from rfl, nI_eq (by omega) (by omega)] at z2
  · exact no (fun y => z2 y.1)
  · exact bkX9_tellsClause_36 (bkX9_tellsClause_41 (Or.inr rfl) ⟨by rw [decide_eq_true ⟨z2, by omega⟩]; rfl, rfl⟩)
theorem c_findToldNames (R : RD h k e T [] i) (hT : okT T) (hl : (tld T T.length).length < hN h (k + 8)) : Cd X mX7_findToldNames [.ref k] h 0 0 (oV (fun t => chR (fun q => q = k ∨ q = k + 8) h t ∧ RD t k e T (tld T T.length) i ∧ ∀ j, j ≠ 3 → hI t k j = hI h k j) nX) := by
  have hT1 := hT.1
  have hL := hT.2.1
  generalize hP : oV (fun t => chR (fun q => q = k ∨ q = k + 8) h t ∧ RD t k e T (tld T T.length) i ∧ ∀ j, j ≠ 3 → hI t k j = hI h k j) nX = P
  have lst : ∀ n, n < T.length → (tld T n).length ≤ (tld T T.length).length := fun n hn => by
    have := tld_mono (T := T) (n := n) (T.length - n)
    rwa [show n + (T.length - n) = T.length by omega] at this
  refine bkX7_findToldNames_0 ?_
  refine for_up (G := fun j t => Gd X mX7_findToldNames 2 [some (.ref k), some (.int (nI (j + 1)))] [] t 0 0 P) (I := fun j t => chR (fun q => q = k ∨ q = k + 8) h t ∧ RD t k e T (tld T j) i ∧ ∀ j, j ≠ 3 → hI t k j = hI h k j) (T.length - 1) ?_ ?_ 0 h (Nat.zero_le _) ⟨chR.rf, R, fun _ _ => rfl⟩
  · rintro t ⟨c, R, kk⟩
    refine bkX7_findToldNames_2 R.1 (fun _ => bkX7_findToldNames_70 ?_) (fun z => absurd (by rw [R.2.2.1.2.2.1]; rw [nI_leI (by omega) (by omega)]; omega) z)
    rw [← hP]
    have e : tld T T.length = tld T (T.length - 1) := by
      obtain ⟨n, hn⟩ : ∃ n, T.length = n + 1 := ⟨T.length - 1, by omega⟩
      rw [hn, Nat.add_sub_cancel, tld_s, if_neg (fun z => by have := (hT.2.2.1 n (by omega)).mpr (by omega); omega), List.append_nil]
    exact ⟨c, by rw [e]; exact R, kk⟩
  · rintro j t hj ⟨c, R, kk⟩ ih
    refine bkX7_findToldNames_2 R.1 (fun z => ?_) (fun _ => ?_)
    · rw [R.2.2.1.2.2.1, nI_leI (by omega) (by omega)] at z; omega
    refine bkX7_findToldNames_13 R.1 (c_tellsClause R hT (by omega)) (fun r t9 q => ?_)
    obtain ⟨rfl, ht⟩ := q
    rw [ht]
    have hs := tld_s (T := T) (n := j)
    refine bkX7_findToldNames_21 (fun z => ?_) (fun z => ?_) <;> rw [bI_0] at z
    · have z : ¬ (kd T j = 2 ∧ kd T (j + 1) ≤ 11) := of_decide_eq_false z
      rw [if_neg z, List.append_nil] at hs
      refine bkX7_findToldNames_64 ?_
      rw [nI_1]
      exact ih t ⟨c, by rw [hs]; exact R, kk⟩
    · have z : kd T j = 2 ∧ kd T (j + 1) ≤ 11 := by simpa using z
      rw [if_pos z] at hs
      have ln := lst (j + 1) (by omega)
      rw [hs, List.length_append, List.length_singleton] at ln
      have n8 : hN t (k + 8) = hN h (k + 8) := c.hN _
      have n31 := R.2.2.2.2.1.2.2.2
      have e3 : hI t k 3 = nI (tld T j).length := R.2.2.2.2.1.1
      refine bkX7_findToldNames_24 R.1 (fun y => ?_) (fun _ => ?_)
      · rw [e3, show Int32.ofNat (hN t (k + 8)) = nI (hN t (k + 8)) from rfl, nI_leI (by omega) (by omega)] at y; omega
      obtain ⟨t1, t2, t3, t4, t5⟩ := R.2.2.1
      have vv : hJ t (k + 3 + 4) (j + 1) = enc32 (wd T (j + 1)) := (t2 (j + 1) (by omega)).2.2.a z.2
      refine bkX7_findToldNames_36 R.1 (vp_in_nI (by omega) (by omega)) (by rw [e3]; exact (vp_in_nI (by omega) (by omega))) ?_
      rw [e3, nI_clamp (by omega), nI_clamp (by omega), vv, show hI (sJ t (k + 8) (tld T j).length (enc32 (wd T (j + 1)))) k 3 = nI (tld T j).length from e3, nI_1]
      refine bkX7_findToldNames_64 ?_
      rw [nI_1]
      refine ih _ ⟨(c.j (Or.inr rfl)).s (Or.inl rfl), by rw [hs]; exact R.add (by omega), fun q hq => ?_⟩
      rw [sI_nj hq]; exact kk q hq
end TN
