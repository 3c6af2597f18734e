/-! ===== what a right text gives, of the parser alone ===== -/
section PO
variable {T : List Tk} {F : List Fct}
theorem pFacts_ok (hT : okT T) : ∀ (n : Nat) (F : List Fct) (i : Nat) (r : List Fct × Nat), i < T.length → okFs F → no2 T 0 i → pFacts T n F i = .ok r → okFs r.1 ∧ r.2 < T.length ∧ no2 T 0 r.2
  | 0, F, i, r, hi, ok, n2, h => by cases h; exact ⟨ok, hi, n2⟩
  | n + 1, F, i, r, hi, ok, n2, h => by
    rw [pFacts_s] at h
    by_cases q : kd T i = 0
    · rw [if_pos q] at h
      cases hp : pFact T F i with
      | error f => rw [hp] at h; cases h
      | ok f =>
        rw [hp] at h
        obtain ⟨p1, p2, p3⟩ := pFact_ok hT hi q ok hp
        exact pFacts_ok hT n (F ++ [f]) (i + 6) r p1 p3 (fun j h1 h2 => by
          by_cases y : j < i
          · exact n2 j h1 y
          · exact p2 j (by omega) h2) h
    · rw [if_neg q] at h; cases h; exact ⟨ok, hi, n2⟩
theorem pClauses_ok (hT : okT T) : ∀ (n : Nat) (C : List PC2) (i : Nat) (r : List PC2 × Nat), i < T.length → NMI T i (C.map (·.1)) → (∀ p ∈ C, okPC T F.length p.2) → C.length ≤ 12 → pClauses T F n C i = .ok r → r.2 < T.length ∧ NMI T r.2 (r.1.map (·.1)) ∧ (∀ p ∈ r.1, okPC T F.length p.2) ∧ r.1.length ≤ 12
  | 0, C, i, r, hi, nm, ok, hl, h => by cases h; exact ⟨hi, nm, ok, hl⟩
  | n + 1, C, i, r, hi, nm, ok, hl, h => by
    rw [pClauses_s] at h
    by_cases q : kd T i = 2
    · rw [if_pos q] at h
      cases hp : pClause T F (C.map (·.1)) i with
      | error f => rw [hp] at h; cases h
      | ok r1 =>
        rw [hp] at h
        obtain ⟨p1, p2, p3, p4, p5, p6, p7⟩ := pClause_ok hT hi q hp
        rw [List.length_map] at p1
        refine pClauses_ok hT n (C ++ [(wd T (i + 1), r1.1)]) r1.2 r p5 ?_ (fun p hp => ?_) (by rw [List.length_append]; simp; omega) h
        · rw [List.map_append]
          exact (nm.s1 q p2).s0 (by omega) p6
        · rcases List.mem_append.mp hp with y | y
          · exact ok p y
          · rw [List.mem_singleton.mp y]; exact p7
    · rw [if_neg q] at h; cases h; exact ⟨hi, nm, ok, hl⟩
theorem pEdn_ok {C : List PC2} (hT : okT T) (h : pEdn T = .ok (F, C)) : okC2 T F C ∧ tld T T.length = C.map (·.1) := by
  unfold pEdn at h
  cases h1 : pFacts T 9 [] 0 with
  | error f => rw [h1] at h; cases h
  | ok r =>
  rw [h1] at h
  simp only at h
  obtain ⟨a1, a2, a3⟩ := pFacts_ok hT 9 [] 0 r hT.1 ⟨by simp, fun f hf => absurd hf List.not_mem_nil, List.nodup_nil, by decide⟩ (fun j h1 h2 => absurd h2 (Nat.not_lt_zero _)) h1
  cases h2 : pClauses T r.1 13 [] r.2 with
  | error f => rw [h2] at h; cases h
  | ok r2 =>
  rw [h2] at h
  simp only at h
  have n0 : NMI T 0 [] := ⟨rfl, fun q hq => absurd hq (Nat.not_lt_zero _)⟩
  obtain ⟨b1, b2, b3, b4⟩ := pClauses_ok hT 13 [] r.2 r2 a2 (n0.s0 (Nat.zero_le _) a3) (fun p hp => absurd hp List.not_mem_nil) (by simp) h2
  by_cases q : kd T r2.2 ≠ 14
  · rw [if_pos q] at h; cases h
  rw [if_neg q] at h
  cases h
  have q : kd T r2.2 = 14 := by omega
  exact ⟨⟨a1, b3, b4, r2.2, b1, q, b2⟩, (NMI.fin hT b2 b1 q).1⟩
end PO
