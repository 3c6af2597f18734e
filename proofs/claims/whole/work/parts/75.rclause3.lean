/-! ===== the reader: a clause from its word when on, the names told before ===== -/
section RC
variable {X : GX} {h : SH} {T : List Tk} {k e i b : Nat} {N : List (List Nat)} {F : List Fct} {P : Out → SH → Prop} {nc ns : Nat}
/-- a clause read, its object the first new cell -/
def CF (h : SH) (k e : Nat) (T : List Tk) (N : List (List Nat)) (w : List Nat) (r : PCl × Nat) (t : SH) : Prop := gr (fS k) (fun _ => False) h t ∧ RD t k e T N r.2 ∧ ClR t (hz h) (hz t) (hz h) w (rsl (gC N) r.1)
theorem okF_ne {nf : Nat} {c : Fml} (h : okF nf c 0) : 1 ≤ c.length := by
  rcases c with _ | ⟨x, c⟩
  · exact absurd (show (0 : Nat) = 1 from h) (by decide)
  · rw [List.length_cons]; omega
theorem rc1 {w : List Nat} {a : Nat} {m : Bool} (hT : okT T) (hek : e + 8 ≤ k) (ok : okFs F) (hNt : N = tld T T.length) (hl : N.length < 2 ^ 30) (R : RD h k e T N i) (Q : FC h e F) (h9 : hN h (k + 9) < 2 ^ 24)
    (ko : ∀ r, pCl1 T F a m i = .ok r → 3 * (r.2 - i) + 6 ≤ nc ∧ 8 * (r.2 - i) + 32 ≤ ns ∧ ∀ t, CF h k e T N w r t → Gd X mX7_readClause 161 [some (.ref k), none, none, none, none, some (.ref (hz h))] [] t 0 0 P)
    (ke : ∀ f, pCl1 T F a m i = .error f → 3 * (T.length - i) + 8 ≤ nc ∧ 8 * (T.length - i) + 42 ≤ ns ∧ ∀ E t, Zr e k f h E t → P (.inr E) t) (ha : a ≤ 99) : Gd X mX7_readClause 109 [some (.ref k), some (.long (enc32 w)), none, some (.int (nI a)), some (.int (bI m)), none] [] h nc ns P := by
  have hi := R.2.2.2.1.2.2.2.2
  have sz := R.sz
  have h73 : 73 ≤ k := R.2.2.2.2.2.2
  have nw0 : ∀ c, 3 * (T.length - i) + 8 ≤ c → 1 ≤ c := fun c _ => by omega
  have pok : ∀ r, pCl1 T F a m i = .ok r → i < r.2 := fun r hr => (pCl1_ok hT hi ha hr).1
  unfold pCl1 at ko ke pok
  by_cases q8 : kd T i ≠ 5
  · rw [if_pos q8] at ke
    obtain ⟨b1, b2, b3⟩ := ke _ rfl
    exact Gd.le (nc := 1 + 0) (ns := 6 + 0) (by omega) (by omega) (bkX7_readClause_109 R.1 (x_pass (x := 5) R hT (by omega) q8 (by omega)) b3 (fun t q => q.elim))
  rw [if_neg q8] at ko ke pok
  have q8 : kd T i = 5 := by omega
  have hi1 : i + 1 < T.length := hT.lt hi (by omega)
  refine Gd.z (bkX7_readClause_109 R.1 (c_pass (x := 5) R hT q8 (by omega)) (fun E t z => z.elim) (fun t q => ?_))
  obtain ⟨ct, Rt⟩ := q
  have hzt : hz t = hz h := ct.hz
  have gt : gr (fS k) (fun _ => False) h t := (ct.gr).up (fun q _ z => by unfold fS; omega) (fun q _ z => z)
  have gn : gr (fS k) (fun _ => False) h (nw t 2 0) := gt.nw
  have gz : gZ e k h (nw t 2 0) := gn.up (fun q _ z => by unfold fS at z; omega) (fun q _ z => z.elim)
  have Rn : RD (nw t 2 0) k e T N (i + 1) := Rt.nw
  have Qn : FC (nw t 2 0) e F := Q.g gn (fun b hb => by unfold fS; omega) (fun z => z)
  have h9n : hN (nw t 2 0) (k + 9) < 2 ^ 24 := by rw [gn.N (by omega)]; exact h9
  have zn : hz (nw t 2 0) = hz h + 1 := by rw [nw_z, hzt]
  cases hp : pE T F (i + 1) with
  | error f =>
    rw [hp] at ke
    obtain ⟨b1, b2, b3⟩ := ke _ rfl
    exact Gd.le (nc := 1 + 0 + 1) (ns := 6 + 0 + 10) (by omega) (by omega) (bkX7_readClause_114 (bkX7_readClause_117 (n1 := 1) (s1 := 6) (nc := 0) (ns := 0) Rn.1 (x_readFormula Rn hT hek ok Qn hp) (fun E u z => b3 E u (Zr.tr gz z)) (fun r u q => q.elim)))
  | ok r =>
  rw [hp] at ko ke pok
  simp only at ko ke pok
  obtain ⟨d1, d2, d3, d4, d5, d6⟩ := pE_ok hT hi1 hp
  have d7 := okF_ne d5
  have hr2 : ∀ r', pCl2 T F (a, m, r.1) r.2 = .ok r' → r.2 ≤ r'.2 := fun r' hr => by
    have := pok r' hr
    unfold pCl2 at hr
    by_cases q : kd T r.2 ≠ 59
    · rw [if_pos q] at hr; cases hr
    rw [if_neg q] at hr
    have y1 : r.2 + 1 < T.length := hT.lt d2 (by omega)
    cases y2 : pLinks T 6 0 9 [] (r.2 + 1) with
    | error f => rw [y2] at hr; cases hr
    | ok s1 =>
    rw [y2] at hr
    simp only at hr
    have m1 := pLinks_ok hT ⟨(by decide), (by decide)⟩ 9 [] (r.2 + 1) s1 y1 (by simp) (fun w hw => absurd hw List.not_mem_nil) y2
    cases y3 : pLinks T 7 s1.1.length 9 [] s1.2 with
    | error f => rw [y3] at hr; cases hr
    | ok s2 =>
    rw [y3] at hr
    simp only at hr
    have m2 := pLinks_ok hT ⟨(by decide), (by decide)⟩ 9 [] s1.2 s2 m1.2.1 (by simp; omega) (fun w hw => absurd hw List.not_mem_nil) y3
    unfold pCl3 at hr
    by_cases q : kd T s2.2 ≠ 8
    · rw [if_pos q] at hr; cases hr
    rw [if_neg q] at hr
    have y4 : s2.2 + 1 < T.length := hT.lt m2.2.1 (by omega)
    cases y5 : pItems T F 21 [] (s2.2 + 1) with
    | error f => rw [y5] at hr; cases hr
    | ok s3 =>
    rw [y5] at hr
    simp only at hr
    have m3 := pItems_ok hT 21 [] (s2.2 + 1) s3 rfl y4 (fun it hit => absurd hit List.not_mem_nil) y5
    by_cases q : kd T s3.2 ≠ 59
    · rw [if_pos q] at hr; cases hr
    rw [if_neg q] at hr
    cases hr
    show r.2 ≤ s3.2 + 1
    omega
  have bud : 6 ≤ nc ∧ 47 + r.1.length ≤ ns := by
    cases y : pCl2 T F (a, m, r.1) r.2 with
    | error f => obtain ⟨b1, b2, _⟩ := ke f y; omega
    | ok r' => obtain ⟨b1, b2, _⟩ := ko r' y; have := hr2 r' y; omega
  refine Gd.le (nc := 2 + (3 + (nc - 6)) + 1) (ns := 1 + r.1.length + (36 + (ns - (47 + r.1.length))) + 10) (by omega) (by omega) (bkX7_readClause_114 (bkX7_readClause_117 (n1 := 2) (s1 := 1 + r.1.length) Rn.1 (c_readFormula Rn hT hek ok Qn (by omega) h9n hp) (fun E u z => z.elim) (fun y u q => ?_)))
  obtain ⟨rfl, gu, hzu, Ru, Fu, ku⟩ := q
  rw [zn] at hzu Fu
  have On : Ob (nw t 2 0) (hz h) 2 := by rw [← hzt]; exact nw_ob (by omega)
  have Ou : Ob u (hz h) 2 := gu.ob On
  have iu : hI u (hz h) = fun _ => 0 := by
    rw [(gu.2.2.2 (hz h) (by omega) (by unfold fS; omega)).1, ← hzt]; exact nw_I
  rw [hzt, zn]
  refine bkX7_readClause_126 (n1 := 3) (s1 := 36) (c_X2init Ou (by omega) (bI_01 m)) (fun v q => ?_)
  obtain ⟨gv, hzv, Lv, j0, i1, i2, a3, iv⟩ := q
  have Rv : RD v k e T N r.2 := Ru.mv gv (fun q _ _ => by omega) (fun q _ _ => by omega) (by rw [(gv.2.2.2 k (by omega) (by omega)).1])
  have Hv : CH v (hz h) w (a, m, r.1) := ⟨Lv, j0, i1, i2, a3, (show FmR u (hz h + 1) (hz h + 3) (hz h + 1) r.1 from ⟨by omega, by omega, Fu⟩).g gv (by omega) (fun q _ _ => ⟨by omega, by omega⟩)⟩
  have z0 : ∀ j, j ≠ 1 → j ≠ 2 → hI v (hz h) j = nI 0 := fun j h1 h2 => by rw [iv j h1 h2, iu]; rfl
  have Cv : CB v (hz h) N [] [] := ⟨Lv, ⟨z0 5 (by decide) (by decide), fun j hj => absurd hj (Nat.not_lt_zero _)⟩, z0 7 (by decide) (by decide), fun j hj => absurd hj (Nat.not_lt_zero _)⟩
  have Iv : IsC v (hz h) N [] := ⟨Lv, z0 9 (by decide) (by decide), fun j hj => absurd hj (Nat.not_lt_zero _)⟩
  have Qv : FC v e F := (Qn.g gu (fun b hb => by unfold fS; omega) (fun z => z)).g gv (fun b hb => by omega) (by omega)
  have h9v : hN v (k + 9) < 2 ^ 24 := by rw [gv.N (by omega), gu.N (by omega)]; exact h9n
  have gall : gr (fun q => fS k q ∨ hz h ≤ q) (fun q => hz h ≤ q) h v := (gn.up (fun q _ z => Or.inl z) (fun q _ z => z.elim)).tr ((gu.up (fun q _ z => Or.inl z) (fun q _ z => z.elim)).tr (gv.up (fun q _ z => Or.inr (by omega)) (fun q _ z => by omega)))
  refine rc2 hT hek (by omega) ok hNt hl Rv Hv Cv Iv Qv h9v (fun r3 h3 => ?_) (fun f hf => ?_)
  · obtain ⟨b1, b2, b3⟩ := ko r3 h3
    have := hr2 r3 h3
    exact ⟨by omega, by omega, fun v' z => b3 v' ⟨(gall.tr z.1).up (fun q hq z => z.elim (fun z => z) (fun z => by omega)) (fun q hq z => by omega), z.2.1, z.2.2⟩⟩
  · obtain ⟨b1, b2, b3⟩ := ke f hf
    exact ⟨by omega, by omega, fun E v' z => b3 E v' (Zr.tr (gall.up (fun q _ z => by unfold fS at z; omega) (fun q _ z => by omega)) z)⟩
/-- the edition under way: facts F, clauses C (all from lo on), the order -/
def EN (N : List (List Nat)) (F : List Fct) (C : List PC2) : Edn := (0, F, C.map (fun p => rsl (gC N) p.2))
def CPe (h : SH) (e lo : Nat) (N : List (List Nat)) (F : List Fct) (C : List PC2) : Prop := FC h e F ∧ hI h e 7 = nI C.length ∧ C.length ≤ 12 ∧ (∀ (c : Nat) (hc : c < C.length), okW C[c].1 ∧ ∃ b, hA h (e + 4) c = some b ∧ ClR h lo (hz h) b C[c].1 (rsl (gC N) C[c].2)) ∧ ∀ (j : Nat) (hj : j < (ordr (EN N F C)).length), hI h (e + 5) j = nI (ordr (EN N F C))[j]
theorem CPe.g {S SA : Nat → Prop} {t : SH} {lo : Nat} {C : List PC2} (K : CPe h e lo N F C) (g : gr S SA h t) (h1 : ∀ b, b < e + 8 → ¬ S b) (h2 : ∀ b, b < e + 8 → ¬ SA b) (h3 : ∀ q, lo ≤ q → q < hz h → ¬ S q ∧ ¬ SA q) : CPe t e lo N F C := by
  have hz7 : e + 7 < hz h := K.1.1.2.2.2.2.2.2.2.2.2.1
  refine ⟨K.1.g g h1 (h2 _ (by omega)), by rw [(g.2.2.2 e (by omega) (h1 _ (by omega))).1]; exact K.2.1, K.2.2.1, fun c hc => ?_, by rw [(g.2.2.2 (e + 5) (by omega) (h1 _ (by omega))).1]; exact K.2.2.2.2⟩
  obtain ⟨w, b, b1, b2⟩ := K.2.2.2.1 c hc
  exact ⟨w, b, by rw [g.2.2.1 (e + 4) (by omega) (h2 _ (by omega))]; exact b1, (b2.g g (Nat.le_refl _) h3).mono (Nat.le_refl _) g.1⟩
theorem c_hasClauseNamed {lo : Nat} {C : List PC2} {w : List Nat} (K : CPe h e lo N F C) (hw : okW w) : Cd X mX3_hasClauseNamed [.ref e, .long (enc32 w)] h 0 0 (oI (fun r t => r = bI ((C.map (·.1)).contains w) ∧ t = h) nX) := by
  have h12 := K.2.2.1
  generalize hP : oI (fun r t => r = bI ((C.map (·.1)).contains w) ∧ t = h) nX = P
  refine bkX3_hasClauseNamed_0 ?_
  refine for_up (G := fun j t => Gd X mX3_hasClauseNamed 2 [some (.ref e), some (.long (enc32 w)), none, some (.int (nI j))] [] t 0 0 P) (I := fun j t => t = h ∧ ∀ (q : Nat) (hq : q < C.length), q < j → C[q].1 ≠ w) C.length ?_ ?_ 0 h (Nat.zero_le _) ⟨rfl, fun q hq hj => absurd hj (Nat.not_lt_zero _)⟩
  · rintro t ⟨rfl, hj⟩
    refine bkX3_hasClauseNamed_2 K.1.1 (fun _ => bkX3_hasClauseNamed_32 ?_) (fun z => absurd (by rw [K.2.1]; exact (Int32.le_refl _)) z)
    rw [← hP]
    refine ⟨?_, rfl⟩
    have : (C.map (·.1)).contains w = false := by
      rw [Bool.eq_false_iff]
      intro z
      rw [List.contains_iff_mem, List.mem_map] at z
      obtain ⟨p, p1, p2⟩ := z
      obtain ⟨q, hq, rfl⟩ := List.mem_iff_getElem.mp p1
      exact hj q hq hq p2
    rw [this]; rfl
  · rintro j t hj ⟨rfl, hjk⟩ ih
    refine bkX3_hasClauseNamed_2 K.1.1 (fun z => ?_) (fun _ => ?_)
    · rw [K.2.1, nI_leI (by omega) (by omega)] at z; omega
    obtain ⟨wk, b, b1, b2⟩ := K.2.2.2.1 j hj
    refine bkX3_hasClauseNamed_10 K.1.1 (vp_in_nI (by omega) (by omega)) (by rw [nI_clamp (by omega)]; exact b1) b2.2.1 (fun z => ?_) (fun z => ?_)
    · rw [lg_cmp_eq, b2.2.2.1, enc32_inj wk hw] at z
      refine bkX3_hasClauseNamed_26 ?_
      rw [nI_1]
      refine ih t ⟨rfl, fun q hq hqj => ?_⟩
      by_cases y : q = j
      · subst y; exact z
      · exact hjk q hq (by omega)
    · rw [lg_cmp_eq, b2.2.2.1, enc32_inj wk hw] at z
      refine bkX3_hasClauseNamed_24 ?_
      rw [← hP]
      refine ⟨?_, rfl⟩
      have : (C.map (·.1)).contains w = true := by
        rw [List.contains_iff_mem, List.mem_map]
        exact ⟨C[j], List.getElem_mem hj, z⟩
      rw [this]; rfl
end RC
