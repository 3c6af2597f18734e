/-! ===== the order of the clauses, one clause more ===== -/
theorem cl_lt {E : Edn} {c : Nat} (hc : c < (eC E).length) : cl E c = (eC E)[c] := by
  unfold cl; rw [List.getD_eq_getElem?_getD, List.getElem?_eq_getElem hc]; rfl
theorem insOrd_cg {E E' : Edn} {l : List Nat} {c : Nat} (h : ∀ d ∈ l, cl E d = cl E' d) (hc : cl E c = cl E' c) : insOrd E l c = insOrd E' l c := by
  unfold insOrd
  rw [List.filter_congr (p := fun d => decide (cAt (cl E d) ≤ cAt (cl E c))) (q := fun d => decide (cAt (cl E' d) ≤ cAt (cl E' c))) (fun d hd => by rw [h d hd, hc]), List.filter_congr (p := fun d => decide (¬ cAt (cl E d) ≤ cAt (cl E c))) (q := fun d => decide (¬ cAt (cl E' d) ≤ cAt (cl E' c))) (fun d hd => by rw [h d hd, hc])]
theorem fold_cg {E E' : Edn} : ∀ n, (∀ d, d < n → cl E d = cl E' d) → (List.range n).foldl (insOrd E) [] = (List.range n).foldl (insOrd E') []
  | 0, _ => rfl
  | n + 1, h => by
    rw [range_fold, range_fold, fold_cg n (fun d hd => h d (by omega))]
    refine insOrd_cg (fun d hd => ?_) (h n (by omega))
    exact h d (by have := List.mem_range.mp ((ordr_permk E' n).mem_iff.mp hd); omega)
/-- by at -/
def srtE (E : Edn) (l : List Nat) : Prop := l.Pairwise (fun a b => cAt (cl E a) ≤ cAt (cl E b))
theorem ins_srt {E : Edn} {l : List Nat} {c : Nat} (h : srtE E l) : srtE E (insOrd E l c) := by
  unfold srtE insOrd
  rw [List.pairwise_append, List.pairwise_cons]
  refine ⟨h.filter _, ⟨fun a ha => ?_, h.filter _⟩, fun a ha b hb => ?_⟩
  · have := (List.mem_filter.mp ha).2
    have : ¬ cAt (cl E a) ≤ cAt (cl E c) := by simpa using this
    omega
  · have h1 : cAt (cl E a) ≤ cAt (cl E c) := by simpa using (List.mem_filter.mp ha).2
    rcases List.mem_cons.mp hb with z | z
    · rw [z]; exact h1
    · have : ¬ cAt (cl E b) ≤ cAt (cl E c) := by simpa using (List.mem_filter.mp z).2
      omega
theorem fold_srt {E : Edn} : ∀ n, srtE E ((List.range n).foldl (insOrd E) [])
  | 0 => List.Pairwise.nil
  | n + 1 => by rw [range_fold]; exact ins_srt (fold_srt n)
/-- where it goes in: behind what is at most as it, before what is more -/
theorem ins_at {E : Edn} {l1 l2 : List Nat} {c : Nat} (hs : srtE E (l1 ++ l2)) (h1 : ∀ (hn : 0 < l1.length), cAt (cl E l1[l1.length - 1]) ≤ cAt (cl E c)) (h2 : ∀ d ∈ l2, ¬ cAt (cl E d) ≤ cAt (cl E c)) : insOrd E (l1 ++ l2) c = l1 ++ c :: l2 := by
  have h3 : ∀ d ∈ l1, cAt (cl E d) ≤ cAt (cl E c) := fun d hd => by
    obtain ⟨j, hj, rfl⟩ := List.mem_iff_getElem.mp hd
    have hl := h1 (by omega)
    by_cases y : j = l1.length - 1
    · subst y; exact hl
    · have := (List.pairwise_append.mp hs).1
      have := List.pairwise_iff_getElem.mp this j (l1.length - 1) hj (by omega) (by omega)
      omega
  unfold insOrd
  rw [List.filter_append, List.filter_append, List.filter_eq_self.mpr (fun d hd => decide_eq_true (h3 d hd)), List.filter_eq_nil_iff.mpr (fun d hd => by simpa using h2 d hd), List.filter_eq_nil_iff.mpr (fun d hd => by simpa using h3 d hd), List.filter_eq_self.mpr (fun d hd => decide_eq_true (h2 d hd)), List.append_nil, List.nil_append]
section ADD
variable {X : GX} {h : SH} {e lo b : Nat} {N : List (List Nat)} {F : List Fct}
theorem EN_len {C : List PC2} : (eC (EN N F C)).length = C.length := List.length_map _
theorem EN_cl {C : List PC2} {c : Nat} (hc : c < C.length) : cl (EN N F C) c = rsl (gC N) C[c].2 := by
  rw [cl_lt (by rw [EN_len]; exact hc)]
  exact List.getElem_map _
theorem EN_old {C : List PC2} {x : PC2} {c : Nat} (hc : c < C.length) : cl (EN N F (C ++ [x])) c = cl (EN N F C) c := by
  rw [EN_cl hc, EN_cl (by rw [List.length_append]; omega), List.getElem_append_left hc]
theorem EN_new {C : List PC2} {x : PC2} : cl (EN N F (C ++ [x])) C.length = rsl (gC N) x.2 := by
  rw [EN_cl (by rw [List.length_append]; simp)]
  simp
theorem EN_ord {C : List PC2} {x : PC2} : ordr (EN N F (C ++ [x])) = insOrd (EN N F (C ++ [x])) (ordr (EN N F C)) C.length := by
  unfold ordr
  rw [EN_len, EN_len, List.length_append, List.length_singleton, range_fold, fold_cg C.length (fun d hd => EN_old hd)]
theorem EN_srt {C : List PC2} {x : PC2} : srtE (EN N F (C ++ [x])) (ordr (EN N F C)) := by
  unfold ordr
  rw [EN_len, ← fold_cg (E := EN N F (C ++ [x])) C.length (fun d hd => EN_old hd)]
  exact fold_srt _
theorem c_addClause {C : List PC2} {w : List Nat} {c : PCl} (K : CPe h e lo N F C) (hC : C.length < 12) (ok : ∀ p ∈ C, p.2.1 ≤ 99) (hw : okW w) (hc : c.1 ≤ 99) (B : ClR h lo (hz h) b w (rsl (gC N) c)) (hlo : e + 8 ≤ lo) :
    Cd X mX3_addClause [.ref e, .ref b] h 0 0 (oV (fun t => gr (fun q => q = e ∨ q = e + 5) (· = e + 4) h t ∧ hz t = hz h ∧ CPe t e lo N F (C ++ [(w, c)]) ∧ ∀ j, j ≠ 7 → hI t e j = hI h e j) nX) := by
  have hz7 : e + 7 < hz h := K.1.1.2.2.2.2.2.2.2.2.2.1
  have hb1 : hI h b 1 = nI c.1 := B.2.2.2.1
  have hlb : lo ≤ b ∧ b + 5 < hz h := B.1
  have aC : ∀ (q : Nat) (hq : q < C.length), cAt (cl (EN N F (C ++ [(w, c)])) q) = C[q].2.1 := fun q hq => by rw [EN_old hq, EN_cl hq]; rfl
  have aN : cAt (cl (EN N F (C ++ [(w, c)])) C.length) = c.1 := by rw [EN_new]; rfl
  have hlen : (ordr (EN N F C)).length = C.length := by rw [ordr_len, EN_len]
  have hlt : ∀ (j : Nat) (hj : j < (ordr (EN N F C)).length), (ordr (EN N F C))[j] < C.length := fun j hj => by
    have := ordr_mem.mp (List.getElem_mem hj); rwa [EN_len] at this
  have srtd : srtE (EN N F (C ++ [(w, c)])) (ordr (EN N F C)) := EN_srt
  generalize hO : ordr (EN N F C) = O at hlen hlt srtd
  have K5 : ∀ (j : Nat) (hj : j < O.length), hI h (e + 5) j = nI O[j] := by subst hO; exact K.2.2.2.2
  have fin : ∀ (p : Nat) (t : SH), p ≤ C.length → chR (· = e + 5) h t → (∀ (j : Nat) (hj : j < O.length), j < p → hI t (e + 5) j = nI O[j]) → (∀ (j : Nat) (hj : j < O.length), p ≤ j → hI t (e + 5) (j + 1) = nI O[j] ∧ ¬ cAt (cl (EN N F (C ++ [(w, c)])) O[j]) ≤ cAt (cl (EN N F (C ++ [(w, c)])) C.length)) → (∀ (hp : p - 1 < O.length), 0 < p → cAt (cl (EN N F (C ++ [(w, c)])) O[p - 1]) ≤ cAt (cl (EN N F (C ++ [(w, c)])) C.length)) →
      Gd X mX3_addClause 52 [some (.ref e), some (.ref b), some (.int (nI p))] [] t 0 0 (oV (fun t => gr (fun q => q = e ∨ q = e + 5) (· = e + 4) h t ∧ hz t = hz h ∧ CPe t e lo N F (C ++ [(w, c)]) ∧ ∀ j, j ≠ 7 → hI t e j = hI h e j) nX) := by
    intro p t hp ct i1 i2 i3
    have Lt : LX3 (Sk t) e := ct.1 ▸ K.1.1
    have e7 : hI t e 7 = nI C.length := by rw [(ct.2 e (by omega)).1]; exact K.2.1
    have e7' : hI (sI t (e + 5) p (nI C.length)) e 7 = nI C.length := by rw [sI_nb (by omega)]; exact e7
    refine bkX3_addClause_52 Lt (vp_in_nI (by omega) (by omega)) (by rw [nI_clamp (by omega), e7, e7']; exact (vp_in_nI (by omega) (by omega))) (ct.1 ▸ B.2.1) ?_
    rw [nI_clamp (by omega), e7, e7', nI_clamp (by omega)]
    have gt : gr (fun q => q = e ∨ q = e + 5) (· = e + 4) h t := (ct.gr).up (fun q _ z => Or.inr z) (fun q _ z => z)
    have gu : gr (fun q => q = e ∨ q = e + 5) (· = e + 4) t (sI (sA (sI t (e + 5) p (nI C.length)) (e + 4) C.length (some b)) e 7 (nI (C.length + 1))) := (((gr.rf (S := fun q => q = e ∨ q = e + 5) (SA := (· = e + 4))).s (Or.inl (Or.inr rfl))).a (Or.inl rfl)).s (Or.inl (Or.inl rfl))
    have gu' : gr (fun q => q = e ∨ q = e + 5) (· = e + 4) t (sA (sI t (e + 5) p (nI C.length)) (e + 4) C.length (some b)) := ((gr.rf (S := fun q => q = e ∨ q = e + 5) (SA := (· = e + 4))).s (Or.inl (Or.inr rfl))).a (Or.inl rfl)
    refine bkX3_addClause_72 (gu'.L3 (by omega) Lt) ?_
    rw [show hI (sA (sI t (e + 5) p (nI C.length)) (e + 4) C.length (some b)) e 7 = nI C.length from e7', nI_1]
    have zt : hz t = hz h := ct.hz
    have ord : ordr (EN N F (C ++ [(w, c)])) = O.take p ++ C.length :: O.drop p := by
      rw [EN_ord, hO]
      have := ins_at (E := EN N F (C ++ [(w, c)])) (l1 := O.take p) (l2 := O.drop p) (c := C.length) (by rw [List.take_append_drop]; exact srtd) (fun hn => by
        have hn' : (O.take p).length = p := by rw [List.length_take]; omega
        rw [List.getElem_take]
        have := i3 (by rw [hn'] at hn; omega) (by omega)
        simpa only [hn'] using this) (fun d hd => by
        obtain ⟨j, hj, rfl⟩ := List.mem_iff_getElem.mp hd
        rw [List.length_drop] at hj
        rw [List.getElem_drop]
        exact (i2 (p + j) (by omega) (by omega)).2)
      rw [List.take_append_drop] at this
      exact this
    have G := gt.tr gu
    refine ⟨G, zt, ⟨⟨G.L3 (by omega) K.1.1, ?_, ?_⟩, ?_, ?_, fun q hq => ?_, fun j hj => ?_⟩, fun j hj => ?_⟩
    · rw [sI_nj (by decide)]; show hI (sI t (e + 5) p (nI C.length)) e 2 = _; rw [sI_nb (by omega), (ct.2 e (by omega)).1]; exact K.1.2.1
    · show ∀ (q : Nat) (hq : q < F.length), hJ t (e + 1) q = _
      rw [(ct.2 (e + 1) (by omega)).2]; exact K.1.2.2
    · rw [sI_at]; simp
    · rw [List.length_append]; simp; omega
    · have A4 : ∀ q, hA (sI (sA (sI t (e + 5) p (nI C.length)) (e + 4) C.length (some b)) e 7 (nI (C.length + 1))) (e + 4) q = if q = C.length then some b else hA h (e + 4) q := fun q => by
        show hA (sA (sI t (e + 5) p (nI C.length)) (e + 4) C.length (some b)) (e + 4) q = _
        by_cases y : q = C.length
        · subst y; rw [if_pos rfl]; exact sA_at (h := sI t (e + 5) p (nI C.length))
        · rw [if_neg y, sA_ne (by omega)]; show hA t (e + 4) q = _; rw [ct.hA]
      rw [List.length_append, List.length_singleton] at hq
      by_cases y : q < C.length
      · obtain ⟨wk, b', b1, b2⟩ := K.2.2.2.1 q y
        rw [List.getElem_append_left y]
        refine ⟨wk, b', by rw [A4, if_neg (by omega)]; exact b1, ?_⟩
        rw [show hz (sI (sA (sI t (e + 5) p (nI C.length)) (e + 4) C.length (some b)) e 7 (nI (C.length + 1))) = hz h from zt]
        exact b2.g G (Nat.le_refl _) (fun q _ _ => ⟨by omega, by omega⟩)
      · have eq : q = C.length := by omega
        subst eq
        rw [List.getElem_append_right (Nat.le_refl _)]
        simp only [Nat.sub_self, List.getElem_cons_zero]
        refine ⟨hw, b, by rw [A4, if_pos rfl], ?_⟩
        rw [show hz (sI (sA (sI t (e + 5) p (nI C.length)) (e + 4) C.length (some b)) e 7 (nI (C.length + 1))) = hz h from zt]
        exact B.g G (Nat.le_refl _) (fun q _ _ => ⟨by omega, by omega⟩)
    · have hj' : j < C.length + 1 := by rw [ordr_len, EN_len, List.length_append] at hj; exact hj
      rw [sI_nb (by omega)]
      show hI (sI t (e + 5) p (nI C.length)) (e + 5) j = _
      have tl : (O.take p).length = p := by rw [List.length_take]; omega
      have hg : (ordr (EN N F (C ++ [(w, c)])))[j] = (O.take p ++ C.length :: O.drop p)[j]'(by rw [← ord]; exact hj) := by congr 1
      rw [hg]
      by_cases y : j < p
      · rw [sI_nj (by omega), List.getElem_append_left (by omega), List.getElem_take]
        exact i1 j (by omega) y
      · by_cases y2 : j = p
        · subst y2
          rw [sI_at, List.getElem_append_right (by omega)]
          simp [tl]
        · rw [sI_nj y2, List.getElem_append_right (by omega)]
          have := (i2 (j - 1) (by omega) (by omega)).1
          rw [show j - 1 + 1 = j by omega] at this
          rw [this]
          congr 1
          have e1 : j - (O.take p).length = (j - 1 - p) + 1 := by omega
          simp only [e1, List.getElem_cons_succ, List.getElem_drop]
          congr 1
          omega
    · rw [sI_nj hj]; show hI (sI t (e + 5) p (nI C.length)) e j = _; rw [sI_nb (by omega), (ct.2 e (by omega)).1]
  have loop : ∀ (p : Nat) (t : SH), p ≤ C.length → chR (· = e + 5) h t → (∀ (j : Nat) (hj : j < O.length), j < p → hI t (e + 5) j = nI O[j]) → (∀ (j : Nat) (hj : j < O.length), p ≤ j → hI t (e + 5) (j + 1) = nI O[j] ∧ ¬ cAt (cl (EN N F (C ++ [(w, c)])) O[j]) ≤ cAt (cl (EN N F (C ++ [(w, c)])) C.length)) →
      Gd X mX3_addClause 5 [some (.ref e), some (.ref b), some (.int (nI p))] [] t 0 0 (oV (fun t => gr (fun q => q = e ∨ q = e + 5) (· = e + 4) h t ∧ hz t = hz h ∧ CPe t e lo N F (C ++ [(w, c)]) ∧ ∀ j, j ≠ 7 → hI t e j = hI h e j) nX) := by
    intro p
    induction p with
    | zero => exact fun t hp ct i1 i2 => bkX3_addClause_5 (fun _ => fin 0 t hp ct i1 i2 (fun _ z => absurd z (Nat.lt_irrefl _))) (fun z => absurd (by decide) z)
    | succ p ih =>
      intro t hp ct i1 i2
      have Lt : LX3 (Sk t) e := ct.1 ▸ K.1.1
      have hm : nI (p + 1) - 1 = nI p := by rw [Int32.sub_eq_add_neg]; exact pk_m1 _
      have e5 : hI t (e + 5) (nI p).toNatClampNeg = nI O[p] := by rw [nI_clamp (by omega)]; exact i1 p (by omega) (by omega)
      have hop := hlt p (by omega)
      obtain ⟨wk, b', b1, b2⟩ := K.2.2.2.1 O[p] hop
      have bl : lo ≤ b' ∧ b' + 5 < hz h := b2.1
      have c9 : C[O[p]].2.1 ≤ 99 := ok _ (List.getElem_mem hop)
      have x1 : hI t b' 1 = nI (C[O[p]].2.1) := by rw [(ct.2 b' (by omega)).1]; exact b2.2.2.2.1
      have x2 : hI t b 1 = nI c.1 := by rw [(ct.2 b (by omega)).1]; exact hb1
      refine bkX3_addClause_5 (fun z => ?_) (fun _ => ?_)
      · rw [n0, nI_leI (by omega) (by omega)] at z; omega
      refine bkX3_addClause_9 (b3 := b') Lt (by rw [hm]; exact (vp_in_nI (by omega) (by omega))) (by rw [hm, e5]; exact (vp_in_nI (by omega) (by omega))) (by rw [hm, e5, nI_clamp (by omega), ct.hA]; exact b1) (ct.1 ▸ b2.2.1) (ct.1 ▸ B.2.1) (fun z => ?_) (fun z => ?_)
      · rw [x1, x2, nI_leI (by omega) (by omega)] at z
        exact fin (p + 1) t hp ct i1 i2 (fun _ _ => by
          show cAt (cl _ O[p]) ≤ _
          rw [aC _ hop, aN]; exact z)
      · rw [x1, x2, nI_leI (by omega) (by omega)] at z
        refine bkX3_addClause_32 Lt (by rw [hm]; exact (vp_in_nI (by omega) (by omega))) (vp_in_nI (by omega) (by omega)) ?_
        rw [hm, e5, nI_clamp (by omega), pk_m1]
        refine ih _ (by omega) (ct.s rfl) (fun j hj hjp => by rw [sI_nj (by omega)]; exact i1 j hj (by omega)) (fun j hj hpj => ?_)
        by_cases y : j = p
        · subst y
          exact ⟨sI_at, by rw [aC _ hop, aN]; exact z⟩
        · rw [sI_nj (by omega)]
          exact i2 j hj (by omega)
  exact bkX3_addClause_0 K.1.1 (by rw [K.2.1]; exact loop C.length h (Nat.le_refl _) chR.rf (fun j hj _ => K5 j hj) (fun j hj hp => by omega))
end ADD
