/-! ===== the reader: a clause ===== -/
section RC
variable {X : GX} {h : SH} {T : List Tk} {k e i : Nat} {N : List (List Nat)} {F : List Fct} {P : Out → SH → Prop} {nc ns : Nat}
abbrev cS (k e q : Nat) : Prop := fS k q ∨ q = e ∨ q = e + 5
def CG (h : SH) (k e : Nat) (T : List Tk) (N : List (List Nat)) (F : List Fct) (C : List PC2) (j : Nat) (t : SH) : Prop := gr (cS k e) (· = e + 4) h t ∧ RD t k e T N j ∧ CPe t e (k + 10) N F C ∧ ∀ j, j ≠ 7 → hI t e j = hI h e j
theorem CPe.k3 {C : List PC2} {t : SH} (K : CPe h e (k + 10) N F C) (hek : e + 8 ≤ k) (c : chR (· = k + 3) h t) : CPe t e (k + 10) N F C := K.g (c.gr (SA := fun _ => False)) (fun b hb => by omega) (fun b hb z => z) (fun q h1 _ => ⟨by omega, fun z => z⟩)
theorem chR.z {t : SH} (c : chR (· = k + 3) h t) (he : e ≤ k) : gZ e k h t := (c.gr (SA := fun _ => False)).up (fun q _ z => by omega) (fun q _ z => z.elim)
theorem rcl {C : List PC2} (hT : okT T) (hek : e + 8 ≤ k) (ok : okFs F) (hNt : N = tld T T.length) (hl : N.length < 2 ^ 30) (R : RD h k e T N i) (K : CPe h e (k + 10) N F C) (okC : ∀ p ∈ C, okPC T F.length p.2) (h9 : hN h (k + 9) < 2 ^ 24) (hk2 : kd T i = 2)
    (ko : ∀ r, pClause T F (C.map (·.1)) i = .ok r → 3 * (r.2 - i) ≤ nc ∧ 8 * (r.2 - i) ≤ ns ∧ ∀ t, CG h k e T N F (C ++ [(wd T (i + 1), r.1)]) r.2 t → P (.inl none) t)
    (ke : ∀ f, pClause T F (C.map (·.1)) i = .error f → 3 * (T.length - i) + 2 ≤ nc ∧ 8 * (T.length - i) + 10 ≤ ns ∧ ∀ E t, Zr e k f h E t → P (.inr E) t) : Gd X mX7_readClause 0 [some (.ref k), none, none, none, none, none] [] h nc ns P := by
  have hi := R.2.2.2.1.2.2.2.2
  have sz := R.sz
  have h12 := K.2.2.1
  have hi1 : i + 1 < T.length := hT.lt hi (by omega)
  have pok : ∀ r, pClause T F (C.map (·.1)) i = .ok r → okPC T F.length r.1 ∧ r.2 < T.length := fun r hr => by
    have := pClause_ok hT hi hk2 hr
    exact ⟨this.2.2.2.2.2.2, this.2.2.2.2.1⟩
  unfold pClause at ko ke pok
  rw [List.length_map] at ko ke pok
  have fail1 : ∀ {f : Nat}, 3 * (T.length - i) + 2 ≤ nc ∧ 8 * (T.length - i) + 10 ≤ ns ∧ (∀ E t, Zr e k f h E t → P (.inr E) t) → 1 + 0 ≤ nc ∧ 6 + 0 ≤ ns := fun z => by omega
  by_cases q0 : C.length = 12
  · rw [if_pos q0] at ke
    have z := ke _ rfl
    refine bkX7_readClause_0 R.1 R.2.1 K.1.1 (fun y => ?_) (fun _ => ?_)
    · rw [K.2.1, q0] at y; exact absurd y (by decide)
    · exact Gd.le (fail1 z).1 (fail1 z).2 (bkX7_readClause_12 R.1 (x_fail (x := 5) R (by omega)) z.2.2 (fun t q => q.elim))
  rw [if_neg q0] at ko ke pok
  refine bkX7_readClause_0 R.1 R.2.1 K.1.1 (fun _ => ?_) (fun y => ?_)
  rotate_left
  · rw [K.2.1, show (12 : Int32) = nI 12 from rfl, nI_ltI (by omega) (by omega)] at y; omega
  refine bkX7_readClause_17 R.1 (c_next R hT (by omega)) (fun t1 q => ?_)
  obtain ⟨c1, R1⟩ := q
  have K1 := K.k3 hek c1
  by_cases q1 : kd T (i + 1) ≠ 11
  · rw [if_pos q1] at ke
    have z := ke _ rfl
    exact Gd.le (fail1 z).1 (fail1 z).2 (bkX7_readClause_24 R1.1 (x_require (x := 11) R1 hT (by omega) q1 (by omega)) (fun E t y => z.2.2 E t (Zr.tr (c1.z (by omega)) y)) (fun t q => q.elim))
  rw [if_neg q1] at ko ke pok
  have q1 : kd T (i + 1) = 11 := by omega
  have hi2 : i + 2 < T.length := hT.lt hi1 (by omega)
  refine Gd.z (bkX7_readClause_24 R1.1 (c_require (x := 11) R1 q1) (fun E t y => y.elim) (fun t1' ht => ?_))
  rw [ht]
  have hy : hJ t1 (k + 3) 10 = enc32 (wd T (i + 1)) := R1.2.2.2.1.2.2.2.1.a (by omega)
  have hw : okW (wd T (i + 1)) := (hT.w hi1 (by omega)).1
  refine bkX7_readClause_30 R1.1 R1.2.1 K1.1.1 (by rw [hy]; exact c_hasClauseNamed K1 hw) (fun r t1'' q => ?_)
  obtain ⟨rfl, ht⟩ := q
  rw [ht, hy]
  by_cases q2 : (C.map (·.1)).contains (wd T (i + 1)) = true
  · rw [if_pos q2] at ke
    have z := ke _ rfl
    rw [q2]
    exact bkX7_readClause_46 (fun y => absurd y (by decide)) (fun _ => Gd.le (fail1 z).1 (fail1 z).2 (bkX7_readClause_49 R1.1 (x_fail (x := 3) R1 (by omega)) (fun E t y => z.2.2 E t (Zr.tr (c1.z (by omega)) y)) (fun t q => q.elim)))
  rw [if_neg q2] at ko ke pok
  have q2 : (C.map (·.1)).contains (wd T (i + 1)) = false := by simpa using q2
  rw [q2]
  refine bkX7_readClause_46 (fun _ => ?_) (fun y => absurd rfl y)
  refine bkX7_readClause_54 R1.1 (c_next R1 hT (by omega)) (fun t2 q => ?_)
  obtain ⟨c2, R2⟩ := q
  have c2 := c1.tr c2
  have R2 : RD t2 k e T N (i + 2) := R2
  by_cases q3 : kd T (i + 2) ≠ 3
  · rw [if_pos q3] at ke
    have z := ke _ rfl
    exact Gd.le (fail1 z).1 (fail1 z).2 (bkX7_readClause_61 R2.1 (x_pass (x := 3) R2 hT (by omega) q3 (by omega)) (fun E t y => z.2.2 E t (Zr.tr (c2.z (by omega)) y)) (fun t q => q.elim))
  rw [if_neg q3] at ko ke pok
  have q3 : kd T (i + 2) = 3 := by omega
  have hi3 : i + 3 < T.length := hT.lt hi2 (by omega)
  refine Gd.z (bkX7_readClause_61 R2.1 (c_pass (x := 3) R2 hT q3 (by omega)) (fun E t y => y.elim) (fun t3 q => ?_))
  obtain ⟨c3, R3⟩ := q
  have c3 := c2.tr c3
  have R3 : RD t3 k e T N (i + 3) := R3
  by_cases q4 : kd T (i + 3) ≠ 12
  · rw [if_pos q4] at ke
    have z := ke _ rfl
    exact Gd.le (fail1 z).1 (fail1 z).2 (bkX7_readClause_66 R3.1 (x_requireNumber (lo := 0) (x := 1) R3 hT (by omega) (by omega) (Or.inl ⟨q4, rfl⟩)) (fun E t y => z.2.2 E t (Zr.tr (c3.z (by omega)) y)) (fun r t q => q.elim))
  rw [if_neg q4] at ko ke pok
  have q4 : kd T (i + 3) = 12 := by omega
  by_cases q5 : 99 < nu T (i + 3)
  · rw [if_pos q5] at ke
    have z := ke _ rfl
    exact Gd.le (fail1 z).1 (fail1 z).2 (bkX7_readClause_66 R3.1 (x_requireNumber (lo := 0) (x := 4) R3 hT (by omega) (by omega) (Or.inr ⟨q4, rfl, Or.inr q5⟩)) (fun E t y => z.2.2 E t (Zr.tr (c3.z (by omega)) y)) (fun r t q => q.elim))
  rw [if_neg q5] at ko ke pok
  have hi4 : i + 4 < T.length := hT.lt hi3 (by omega)
  refine Gd.z (bkX7_readClause_66 R3.1 (c_requireNumber (lo := 0) R3 hT q4 (by omega) (by omega)) (fun E t y => y.elim) (fun r t3' q => ?_))
  obtain ⟨rfl, ht⟩ := q
  rw [ht]
  refine bkX7_readClause_71 R3.1 (c_next R3 hT (by omega)) (fun t4 q => ?_)
  obtain ⟨c4, R4⟩ := q
  have c4 := c3.tr c4
  have R4 : RD t4 k e T N (i + 4) := R4
  have e8 : hI t4 (k + 3) 8 = nI (kd T (i + 4)) := R4.2.2.2.1.2.1
  have h61 := hT.k hi4
  -- the rest
  have rest : ∀ (g : SH) (m : Bool) (j : Nat), chR (· = k + 3) h g → RD g k e T N j → i + 4 ≤ j → j < T.length →
      (∀ r, pCl1 T F (nu T (i + 3)) m j = .ok r → (3 * (r.2 - i) ≤ nc ∧ 8 * (r.2 - i) ≤ ns ∧ ∀ t, CG h k e T N F (C ++ [(wd T (i + 1), r.1)]) r.2 t → P (.inl none) t) ∧ okPC T F.length r.1) →
      (∀ f, pCl1 T F (nu T (i + 3)) m j = .error f → 3 * (T.length - i) + 2 ≤ nc ∧ 8 * (T.length - i) + 10 ≤ ns ∧ ∀ E t, Zr e k f h E t → P (.inr E) t) →
      Gd X mX7_readClause 109 [some (.ref k), some (.long (enc32 (wd T (i + 1)))), none, some (.int (nI (nu T (i + 3)))), some (.int (bI m)), none] [] g nc ns P := by
    intro g m j cg Rg hj hj2 ko ke
    have Kg := K.k3 hek cg
    have szg := Rg.sz
    refine rc1 (w := wd T (i + 1)) hT hek ok hNt hl Rg Kg.1 (by rw [(cg.gr (SA := fun _ => False)).N (by omega)]; exact h9) (fun r hr => ?_) (fun f hf => ?_) (by omega)
    · obtain ⟨⟨b1, b2, b3⟩, okr⟩ := ko r hr
      have := (pCl1_ok hT hj2 (by omega) hr).1
      refine ⟨by omega, by omega, fun t z => ?_⟩
      obtain ⟨gt, Rt, Bt⟩ := z
      have Kt : CPe t e (k + 10) N F C := Kg.g gt (fun b hb => by unfold fS; omega) (fun b hb z => z) (fun q h1 _ => ⟨by unfold fS; omega, fun z => z⟩)
      refine bkX7_readClause_161 Rt.1 Rt.2.1 Kt.1.1 (c_addClause Kt (by omega) (fun p hp => (okC p hp).1) hw okr.1 (Bt.mono (by omega) (Nat.le_refl _)) (by omega)) (fun u q => bkX7_readClause_170 ?_)
      obtain ⟨gu, zu, Ku, eu⟩ := q
      have g1 : gr (cS k e) (· = e + 4) h g := (cg.gr).up (fun q _ z => Or.inl (by unfold fS; omega)) (fun q _ z => z)
      have g2 : gr (cS k e) (· = e + 4) g t := gt.up (fun q _ z => Or.inl z) (fun q _ z => z.elim)
      have g3 : gr (cS k e) (· = e + 4) t u := gu.up (fun q _ z => Or.inr z) (fun q _ z => z)
      have szt := Rt.sz
      refine b3 u ⟨g1.tr (g2.tr g3), Rt.mv gu (fun q _ _ => by omega) (fun q _ _ => by omega) (by rw [(gu.2.2.2 k (by omega) (by omega)).1]), Ku, fun j hj => ?_⟩
      rw [eu j hj, (gt.2.2.2 e (by omega) (by unfold fS; omega)).1, (cg.2 e (by omega)).1]
    · obtain ⟨b1, b2, b3⟩ := ke f hf
      exact ⟨by omega, by omega, fun E t y => b3 E t (Zr.tr (cg.z (by omega)) y)⟩
  by_cases q6 : kd T (i + 4) = 4
  · rw [if_pos q6] at ko ke pok
    refine bkX7_readClause_79 R4.1 (fun z => absurd (by rw [e8, q6]; rfl) z) (fun _ => bkX7_readClause_90 (bkX7_readClause_95 (fun z => absurd z (by decide)) (fun _ => ?_)))
    have hi5 : i + 5 < T.length := hT.lt hi4 (by omega)
    refine bkX7_readClause_102 R4.1 (c_next R4 hT (by omega)) (fun t5 q => ?_)
    obtain ⟨c5, R5⟩ := q
    have R5 : RD t5 k e T N (i + 5) := R5
    exact rest t5 true (i + 5) (c4.tr c5) R5 (by omega) hi5 (fun r hr => ⟨ko r hr, (pok r hr).1⟩) ke
  · rw [if_neg q6] at ko ke pok
    refine bkX7_readClause_79 R4.1 (fun _ => bkX7_readClause_94 (bkX7_readClause_95 (fun _ => ?_) (fun z => absurd rfl z))) (fun z => ?_)
    · exact rest t4 false (i + 4) c4 R4 (by omega) hi4 (fun r hr => ⟨ko r hr, (pok r hr).1⟩) ke
    · rw [e8, show (4 : Int32) = nI 4 from rfl, nI_eq (by omega) (by omega)] at z; exact absurd z q6
theorem c_readClause {C : List PC2} {r : PCl × Nat} (hT : okT T) (hek : e + 8 ≤ k) (ok : okFs F) (hNt : N = tld T T.length) (hl : N.length < 2 ^ 30) (R : RD h k e T N i) (K : CPe h e (k + 10) N F C) (okC : ∀ p ∈ C, okPC T F.length p.2) (h9 : hN h (k + 9) < 2 ^ 24) (hk2 : kd T i = 2) (hp : pClause T F (C.map (·.1)) i = .ok r) : Cd X mX7_readClause [.ref k] h (3 * (r.2 - i)) (8 * (r.2 - i)) (oV (CG h k e T N F (C ++ [(wd T (i + 1), r.1)]) r.2) nX) :=
  rcl hT hek ok hNt hl R K okC h9 hk2 (fun r' hr => by rw [hp] at hr; cases hr; exact ⟨Nat.le_refl _, Nat.le_refl _, fun t z => z⟩) (fun f hf => by rw [hp] at hf; cases hf)
theorem x_readClause {C : List PC2} {f : Nat} (hT : okT T) (hek : e + 8 ≤ k) (ok : okFs F) (hNt : N = tld T T.length) (hl : N.length < 2 ^ 30) (R : RD h k e T N i) (K : CPe h e (k + 10) N F C) (okC : ∀ p ∈ C, okPC T F.length p.2) (h9 : hN h (k + 9) < 2 ^ 24) (hk2 : kd T i = 2) (hp : pClause T F (C.map (·.1)) i = .error f) : Cd X mX7_readClause [.ref k] h (3 * (T.length - i) + 2) (8 * (T.length - i) + 10) (oV (fun _ => False) (Zr e k f h)) :=
  rcl hT hek ok hNt hl R K okC h9 hk2 (fun r' hr => by rw [hp] at hr; cases hr) (fun f' hf => by rw [hp] at hf; cases hf; exact ⟨Nat.le_refl _, Nat.le_refl _, fun E t z => z⟩)
end RC
