/-! ===== a fault is never 0 ===== -/
section PEr
variable {T : List Tk} {F : List Fct} {e : Nat}
def erB (e : Nat) : Prop := 1 ≤ e ∧ e < 2 ^ 31
theorem flt_e (hT : okT T) {x i : Nat} (h1 : 1 ≤ x) (h2 : x ≤ 9) : erB (flt T x i) := by
  unfold erB flt
  by_cases hi : i < T.length
  · have := hT.p hi; omega
  · have : pl T i = 0 := by show (tk T i).2.1 = 0; unfold tk; rw [List.getD_eq_getElem?_getD, List.getElem?_eq_none (by omega)]; rfl
    omega
theorem stE_er (hT : okT T) {s : StE} (hl : s.2.1 ≠ []) (h : stE T F s = .inr (.error e)) : erB e := by
  obtain ⟨m, lv, cd, i⟩ := s
  rcases lv with _ | ⟨⟨j, c⟩, u⟩
  · exact absurd rfl hl
  unfold stE at h
  simp only at h
  repeat' (split at h)
  all_goals first | (cases h; done) | (cases h; exact flt_e hT (by decide) (by decide))
theorem runE_er (hT : okT T) {i0 : Nat} : ∀ (n : Nat) (s : StE), invE T F i0 s → n = T.length - s.2.2.2 → runE T F n s = .error e → erB e
  | 0, s, I, hn, _ => by have := I.2.1; omega
  | n + 1, s, I, hn, h => by
    unfold runE at h
    have hl : s.2.1 ≠ [] := fun z => by have := I.2.2.2.2.2.2.1; rw [z] at this; exact absurd this (by decide)
    match hs : stE T F s with
    | .inl s' =>
      rw [hs] at h
      obtain ⟨a, b⟩ := stE_l hT I hs
      exact runE_er hT n s' a (by omega) h
    | .inr (.ok r') => rw [hs] at h; cases h
    | .inr (.error e') => rw [hs] at h; cases h; exact stE_er hT hl hs
theorem pE_er (hT : okT T) {i : Nat} (hi : i < T.length) (h : pE T F i = .error e) : erB e := runE_er hT _ _ (inv0 hi) rfl h
theorem stI_14 {k : Nat} (h : stI k = true) : k ≠ 14 := by unfold stI at h; rw [decide_eq_true_iff] at h; omega
theorem pItem_er (hT : okT T) {i : Nat} (hi : i < T.length) (hs : stI (kd T i) = true) (h : pItem T F i = .error e) : erB e := by
  have h1 := hT.lt hi (stI_14 hs)
  unfold pItem at h
  split at h
  · cases h
  split at h
  · repeat' (split at h)
    all_goals first | (cases h; done) | (cases h; exact flt_e hT (by decide) (by decide))
  cases hp : pE T F (i + 1) with
  | error e' => rw [hp] at h; cases h; exact pE_er hT h1 hp
  | ok r => rw [hp] at h; cases h
theorem pItems_er (hT : okT T) : ∀ (n : Nat) (A : List Itm) (i : Nat), i < T.length → pItems T F n A i = .error e → erB e
  | 0, A, i, _, h => by cases h
  | n + 1, A, i, hi, h => by
    unfold pItems at h
    split at h
    · rename_i hs
      split at h
      · cases h; exact flt_e hT (by decide) (by decide)
      cases hp : pItem T F i with
      | error e' => rw [hp] at h; cases h; exact pItem_er hT hi hs hp
      | ok r => rw [hp] at h; exact pItems_er hT n _ _ (pItem_ok hT hi hs hp).2.1 h
    · cases h
theorem pLinks_er (hT : okT T) {k m : Nat} : ∀ (n : Nat) (A : List (List Nat)) (i : Nat), pLinks T k m n A i = .error e → erB e
  | 0, A, i, h => by cases h
  | n + 1, A, i, h => by
    unfold pLinks at h
    split at h
    · split at h
      · cases h; exact flt_e hT (by decide) (by decide)
      split at h
      · cases h; exact flt_e hT (by decide) (by decide)
      split at h
      · cases h; exact flt_e hT (by decide) (by decide)
      split at h
      · cases h; exact flt_e hT (by decide) (by decide)
      exact pLinks_er hT n _ _ h
    · cases h
theorem pCl3_er (hT : okT T) {b : Nat × Bool × Fml} {A B : List (List Nat)} {i : Nat} (hi : i < T.length) (h : pCl3 T F b A B i = .error e) : erB e := by
  unfold pCl3 at h
  split at h
  · cases h; exact flt_e hT (by decide) (by decide)
  rename_i h8
  cases hp : pItems T F 21 [] (i + 1) with
  | error e' => rw [hp] at h; cases h; exact pItems_er hT _ _ _ (hT.lt hi (by omega)) hp
  | ok r =>
    rw [hp] at h
    simp only at h
    split at h
    · cases h; exact flt_e hT (by decide) (by decide)
    · cases h
theorem pCl2_er (hT : okT T) {b : Nat × Bool × Fml} {i : Nat} (hi : i < T.length) (h : pCl2 T F b i = .error e) : erB e := by
  unfold pCl2 at h
  split at h
  · cases h; exact flt_e hT (by decide) (by decide)
  rename_i h8
  cases hp : pLinks T 6 0 9 [] (i + 1) with
  | error e' => rw [hp] at h; cases h; exact pLinks_er hT _ _ _ hp
  | ok r =>
    rw [hp] at h
    simp only at h
    obtain ⟨-, r2, -, r3, -⟩ := pLinks_ok hT ⟨by decide, by decide⟩ 9 [] (i + 1) r (hT.lt hi (by omega)) (by simp) (fun w hw => absurd hw List.not_mem_nil) hp
    cases hq : pLinks T 7 r.1.length 9 [] r.2 with
    | error e' => rw [hq] at h; cases h; exact pLinks_er hT _ _ _ hq
    | ok q =>
      rw [hq] at h
      exact pCl3_er hT (pLinks_ok hT ⟨by decide, by decide⟩ 9 [] r.2 q r2 (by simp; omega) (fun w hw => absurd hw List.not_mem_nil) hq).2.1 h
theorem pCl1_er (hT : okT T) {a i : Nat} {m : Bool} (hi : i < T.length) (h : pCl1 T F a m i = .error e) : erB e := by
  unfold pCl1 at h
  split at h
  · cases h; exact flt_e hT (by decide) (by decide)
  rename_i h8
  have h1 := hT.lt hi (show kd T i ≠ 14 by omega)
  cases hp : pE T F (i + 1) with
  | error e' => rw [hp] at h; cases h; exact pE_er hT h1 hp
  | ok r => rw [hp] at h; exact pCl2_er hT (pE_ok hT h1 hp).2.1 h
theorem pClause_er (hT : okT T) {NM : List (List Nat)} {i : Nat} (hi : i < T.length) (hk : kd T i = 2) (h : pClause T F NM i = .error e) : erB e := by
  have i1 := hT.lt hi (show kd T i ≠ 14 by omega)
  unfold pClause at h
  split at h
  · cases h; exact flt_e hT (by decide) (by decide)
  split at h
  · cases h; exact flt_e hT (by decide) (by decide)
  rename_i k1
  have i2 := hT.lt i1 (show kd T (i + 1) ≠ 14 by omega)
  split at h
  · cases h; exact flt_e hT (by decide) (by decide)
  split at h
  · cases h; exact flt_e hT (by decide) (by decide)
  rename_i k2
  have i3 := hT.lt i2 (show kd T (i + 2) ≠ 14 by omega)
  split at h
  · cases h; exact flt_e hT (by decide) (by decide)
  rename_i k3
  have i4 := hT.lt i3 (show kd T (i + 3) ≠ 14 by omega)
  split at h
  · cases h; exact flt_e hT (by decide) (by decide)
  split at h
  · rename_i k4
    exact pCl1_er hT (hT.lt i4 (show kd T (i + 4) ≠ 14 by omega)) h
  · exact pCl1_er hT i4 h
theorem pFact_er (hT : okT T) {i : Nat} (h : pFact T F i = .error e) : erB e := by
  unfold pFact at h
  repeat' (split at h)
  all_goals first | (cases h; done) | (cases h; exact flt_e hT (by decide) (by decide))
theorem pFacts_er (hT : okT T) : ∀ (n : Nat) (F : List Fct) (i : Nat), pFacts T n F i = .error e → erB e
  | 0, F, i, h => by cases h
  | n + 1, F, i, h => by
    rw [pFacts_s] at h
    split at h
    · cases hp : pFact T F i with
      | error e' => rw [hp] at h; cases h; exact pFact_er hT hp
      | ok r => rw [hp] at h; exact pFacts_er hT n _ _ h
    · cases h
theorem pClauses_er (hT : okT T) : ∀ (n : Nat) (C : List PC2) (i : Nat), i < T.length → pClauses T F n C i = .error e → erB e
  | 0, C, i, _, h => by cases h
  | n + 1, C, i, hi, h => by
    rw [pClauses_s] at h
    split at h
    · rename_i hk
      cases hp : pClause T F (C.map (·.1)) i with
      | error e' => rw [hp] at h; cases h; exact pClause_er hT hi hk hp
      | ok r => rw [hp] at h; exact pClauses_er hT n _ _ (pClause_ok hT hi hk hp).2.2.2.2.1 h
    · cases h
theorem pEdn_er (hT : okT T) (h : pEdn T = .error e) : erB e := by
  have h1 := hT.1
  unfold pEdn at h
  cases hp : pFacts T 9 [] 0 with
  | error e' => rw [hp] at h; cases h; exact pFacts_er hT _ _ _ hp
  | ok r =>
    rw [hp] at h
    simp only at h
    have r2 := (pFacts_ok hT 9 [] 0 r (by omega) ⟨by simp, fun f hf => absurd hf List.not_mem_nil, List.nodup_nil, by decide⟩ (fun q q1 q2 => absurd q2 (Nat.not_lt_zero _)) hp).2.1
    cases hq : pClauses T r.1 13 [] r.2 with
    | error e' => rw [hq] at h; cases h; exact pClauses_er hT _ _ _ r2 hq
    | ok q =>
      rw [hq] at h
      simp only at h
      split at h
      · cases h; exact flt_e hT (by decide) (by decide)
      · cases h
end PEr
