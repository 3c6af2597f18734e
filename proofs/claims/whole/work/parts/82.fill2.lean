/-! ===== the reader's whole run ===== -/
section FI
variable {X : GX} {h : SH} {T : List Tk} {k e i : Nat} {N : List (List Nat)} {F : List Fct} {P : Out → SH → Prop}
/-- the room at token i -/
def bc (T : List Tk) (i : Nat) : Nat := 3 * (T.length - i) + 2
def bs (T : List Tk) (i : Nat) : Nat := 8 * (T.length - i) + 10
theorem zr_c {nc ns f : Nat} {g : SH} (L : LX7 (Sk g) k) (hP : ∀ t, hI t k 8 = nI f → gZ e k g t → P (.inl (some (.int (nI f)))) t) : cX nc ns k P (Zr e k f g) := fun E t z => by
  obtain ⟨z1, z2, z3⟩ := z
  exact ⟨z1, z3.L7 (by omega) (by omega) L, by rw [z2]; exact hP t z2 z3⟩
theorem flC (hT : okT T) (hek : e + 8 ≤ k) (ok : okFs F) (hNt : N = tld T T.length) (hl : N.length < 2 ^ 30) : ∀ (n : Nat) (C : List PC2) (i : Nat) (g : SH), n + C.length = 13 → C.length ≤ 12 → RD g k e T N i → CPe g e (k + 10) N F C → (∀ p ∈ C, okPC T F.length p.2) → hN g (k + 9) < 2 ^ 24 →
    (∀ C' i' t, pClauses T F n C i = .ok (C', i') → i' < T.length → RD t k e T N i' → CPe t e (k + 10) N F C' → (∀ p ∈ C', okPC T F.length p.2) → gr (cS k e) (· = e + 4) g t → (∀ j, j ≠ 7 → hI t e j = hI g e j) → Gd X mX7_fillEdition 68 [some (.ref k), none] [] t (bc T i') (bs T i') P) →
    (∀ f, pClauses T F n C i = .error f → ∀ t, hI t k 8 = nI f → gZ e k g t → P (.inl (some (.int (nI f)))) t) → Gd X mX7_fillEdition 41 [some (.ref k), some (.int (nI C.length))] [] g (bc T i) (bs T i) P := by
  intro n
  induction n with
  | zero => intro C i g h1 h2; omega
  | succ n ih =>
    intro C i g h1 h2 R K okC h9 ko ke
    rw [pClauses_s] at ko ke
    have hi := R.2.2.2.1.2.2.2.2
    have hk8 : hI g (k + 3) 8 = nI (kd T i) := R.2.2.2.1.2.1
    have h61 := hT.k hi
    refine bkX7_fillEdition_41 (fun z => ?_) (fun _ => ?_)
    · rw [show (12 : Int32) = nI 12 from rfl, nI_ltI (by omega) (by omega)] at z; omega
    refine bkX7_fillEdition_47 R.1 (fun z => ?_) (fun z => ?_) <;> rw [hk8, show (2 : Int32) = nI 2 from rfl, nI_eq (by omega) (by omega)] at z
    · rw [if_neg z] at ko
      exact ko C i g rfl hi R K okC gr.rf (fun _ _ => rfl)
    rw [if_pos z] at ko ke
    cases hp : pClause T F (C.map (·.1)) i with
    | error f =>
      rw [hp] at ke
      exact Gd.le (nc := 3 * (T.length - i) + 2 + 0) (ns := 8 * (T.length - i) + 10 + 0) (by unfold bc; omega) (by unfold bs; omega) (bkX7_fillEdition_58 R.1 (x_readClause hT hek ok hNt hl R K okC h9 z hp) (zr_c R.1 (ke f rfl)) (fun t q => q.elim))
    | ok r =>
      rw [hp] at ko ke
      simp only at ko ke
      obtain ⟨p1, p2, p3, p4, p5, p6, p7⟩ := pClause_ok hT hi z hp
      rw [List.length_map] at p1
      refine Gd.le (nc := 3 * (r.2 - i) + bc T r.2) (ns := 8 * (r.2 - i) + bs T r.2) (by unfold bc; omega) (by unfold bs; omega) (bkX7_fillEdition_58 R.1 (c_readClause hT hek ok hNt hl R K okC h9 z hp) (fun E t q => q.elim) (fun t q => bkX7_fillEdition_62 ?_))
      obtain ⟨gt, Rt, Kt, et⟩ := q
      rw [nI_1]
      have len : (C ++ [(wd T (i + 1), r.1)]).length = C.length + 1 := by simp
      rw [← len]
      have sz := R.sz
      refine ih (C ++ [(wd T (i + 1), r.1)]) r.2 t (by omega) (by omega) Rt Kt (fun p hp => ?_) (by rw [gt.N (by omega)]; exact h9) (fun C' i' u a1 a2 a3 a4 a5 a6 a7 => ko C' i' u a1 a2 a3 a4 a5 (gt.tr a6) (fun j hj => (a7 j hj).trans (et j hj))) (fun f hf u u1 u2 => ke f hf u u1 (gr.tr (gt.up (fun q _ z => by unfold cS fS at z; omega) (fun q _ z => by omega)) u2))
      rcases List.mem_append.mp hp with y | y
      · exact okC p y
      · rw [List.mem_singleton.mp y]; exact p7
theorem flF (hT : okT T) (hek : e + 8 ≤ k) : ∀ (n : Nat) (F : List Fct) (i : Nat) (g : SH), n + F.length = 9 → RD g k e T N i → FE g e F → okFs F →
    (∀ F' i' t, pFacts T n F i = .ok (F', i') → RD t k e T N i' → FE t e F' → okFs F' → chR (fun q => q = k + 3 ∨ eS e q) g t → (∀ j, j ≠ 2 → j ≠ 6 → hI t e j = hI g e j) → Gd X mX7_fillEdition 39 [some (.ref k), none] [] t (bc T i') (bs T i') P) →
    (∀ f, pFacts T n F i = .error f → ∀ t, hI t k 8 = nI f → gZ e k g t → P (.inl (some (.int (nI f)))) t) → Gd X mX7_fillEdition 13 [some (.ref k), some (.int (nI F.length))] [] g (bc T i) (bs T i) P := by
  intro n
  induction n with
  | zero => intro F i g h1 R K ok; have := ok.1; omega
  | succ n ih =>
    intro F i g h1 R K ok ko ke
    rw [pFacts_s] at ko ke
    have h8 := ok.1
    have hi := R.2.2.2.1.2.2.2.2
    have hk8 : hI g (k + 3) 8 = nI (kd T i) := R.2.2.2.1.2.1
    have h61 := hT.k hi
    refine bkX7_fillEdition_13 (fun z => ?_) (fun _ => ?_)
    · rw [n8, nI_ltI (by omega) (by omega)] at z; omega
    refine bkX7_fillEdition_19 R.1 (fun z => ?_) (fun z => ?_) <;> rw [hk8, n0, nI_eq (by omega) (by omega)] at z
    · rw [if_neg z] at ko
      exact ko F i g rfl R K ok chR.rf (fun _ _ _ => rfl)
    rw [if_pos z] at ko ke
    cases hp : pFact T F i with
    | error f =>
      rw [hp] at ke
      exact Gd.le (nc := 1 + 0) (ns := 6 + 0) (by unfold bc; omega) (by unfold bs; omega) (bkX7_fillEdition_29 R.1 (x_readFact hT hek ok R K z hp) (zr_c R.1 (ke f rfl)) (fun t q => q.elim))
    | ok f =>
      rw [hp] at ko ke
      simp only at ko ke
      obtain ⟨p1, p2, p3⟩ := pFact_ok hT hi z ok hp
      refine Gd.le (nc := 0 + bc T (i + 6)) (ns := 0 + bs T (i + 6)) (by unfold bc; omega) (by unfold bs; omega) (bkX7_fillEdition_29 R.1 (c_readFact hT hek ok R K z hp) (fun E t q => q.elim) (fun t q => bkX7_fillEdition_33 ?_))
      obtain ⟨ct, Rt, Kt, et⟩ := q
      rw [nI_1]
      have len : (F ++ [f]).length = F.length + 1 := by simp
      rw [← len]
      exact ih (F ++ [f]) (i + 6) t (by omega) Rt Kt p3 (fun F' i' u a1 a2 a3 a4 a5 a6 => ko F' i' u a1 a2 a3 a4 (ct.tr a5) (fun j h2 h6 => (a6 j h2 h6).trans (et j h2 h6))) (fun f' hf u u1 u2 => ke f' hf u u1 (gr.tr ((ct.gr (SA := fun _ => False)).up (fun q _ z => by unfold eS at z; omega) (fun q _ z => z.elim)) u2))
/-- what a right text makes -/
def FL (h : SH) (k e : Nat) (N : List (List Nat)) (F : List Fct) (C : List PC2) (t : SH) : Prop := gr (fun q => e ≤ q) (· = e + 4) h t ∧ FE t e F ∧ CPe t e (k + 10) N F C ∧ (∀ j, j ≠ 2 → j ≠ 6 → j ≠ 7 → hI t e j = hI h e j) ∧ hI t (e + 6) = hI h (e + 6)
theorem flA (hT : okT T) (hek : e + 8 ≤ k) (hNt : N = tld T T.length) (hl : N.length < 2 ^ 30) (R : RD h k e T N 0) (K : FE h e []) (h7 : hI h e 7 = 0) (h9 : hN h (k + 9) < 2 ^ 24)
    (ko : ∀ F C t, pEdn T = .ok (F, C) → FL h k e N F C t → P (.inl (some (.int 0))) t) (ke : ∀ f, pEdn T = .error f → ∀ t, hI t k 8 = nI f → gZ e k h t → P (.inl (some (.int (nI f)))) t) : Gd X mX7_fillEdition 11 [some (.ref k), none] [] h (bc T 0) (bs T 0) P := by
  unfold pEdn at ko ke
  have sz := R.sz
  refine bkX7_fillEdition_11 (flF hT hek 9 [] 0 h rfl R K ⟨by simp, fun f hf => absurd hf List.not_mem_nil, List.nodup_nil, by decide⟩ (fun F' i' t a1 a2 a3 a4 a5 a6 => ?_) (fun f hf => ?_))
  rotate_left
  · rw [hf] at ke; exact ke f rfl
  rw [a1] at ko ke
  simp only at ko ke
  have gt : gr (fun q => e ≤ q) (· = e + 4) h t := (a5.gr).up (fun q _ z => by unfold eS at z; omega) (fun q _ z => z)
  have gz : gZ e k h t := (a5.gr (SA := fun _ => False)).up (fun q _ z => by unfold eS at z; omega) (fun q _ z => z.elim)
  have K0 : CPe t e (k + 10) N F' [] := ⟨a3.1, by rw [a6 7 (by decide) (by decide)]; exact h7, by simp, fun c hc => absurd hc (Nat.not_lt_zero _), fun j hj => absurd hj (by rw [ordr_len]; exact Nat.not_lt_zero _)⟩
  refine bkX7_fillEdition_39 (flC hT hek a4 hNt hl 13 [] i' t rfl (by simp) a2 K0 (fun p hp => absurd hp List.not_mem_nil) (by rw [a5.hN]; exact h9) (fun C' i2 u b1 b2 b3 b4 b5 b6 b7 => ?_) (fun f hf => ?_))
  rotate_left
  · rw [hf] at ke; exact fun u u1 u2 => ke f rfl u u1 (gr.tr gz u2)
  rw [b1] at ko ke
  simp only at ko ke
  have gu : gr (fun q => e ≤ q) (· = e + 4) t u := b6.up (fun q _ z => by unfold cS fS at z; omega) (fun q _ z => z)
  by_cases q14 : kd T i2 ≠ 14
  · rw [if_pos q14] at ke
    exact Gd.le (nc := 1 + 0) (ns := 6 + 0) (by unfold bc; omega) (by unfold bs; omega) (bkX7_fillEdition_68 b3.1 (x_require (x := 14) b3 hT (by omega) q14 (by omega)) (zr_c b3.1 (fun v v1 v2 => ke _ rfl v v1 (gr.tr gz (gr.tr (gu.up (fun q _ z => z) (fun q _ z => by omega)) v2)))) (fun t q => q.elim))
  · rw [if_neg q14] at ko
    have q14 : kd T i2 = 14 := by omega
    refine Gd.z (bkX7_fillEdition_68 b3.1 (c_require (x := 14) b3 q14) (fun E t q => q.elim) (fun v hv => bkX7_fillEdition_74 (bkX7_fillEdition_83 ?_)))
    rw [hv]
    refine ko F' C' u rfl ⟨gt.tr gu, ⟨b4.1, by rw [b7 6 (by decide)]; exact a3.2.1, fun q hq => ?_⟩, b4, fun j h2 h6 h7 => (b7 j h7).trans (a6 j h2 h6), ?_⟩
    rotate_left
    · have szt := a2.sz
      rw [(b6.2.2.2 (e + 6) (by omega) (by unfold cS fS; omega)).1, (a5.2 (e + 6) (by unfold eS; omega)).1]
    have szt := a2.sz
    rw [(b6.2.2.2 (e + 2) (by omega) (by unfold cS fS; omega)).1, (b6.2.2.2 (e + 3) (by omega) (by unfold cS fS; omega)).1]
    exact a3.2.2 q hq
end FI
