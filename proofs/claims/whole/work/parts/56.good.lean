/-! ===== what a text that is right gives ===== -/
def no2 (T : List Tk) (i j : Nat) : Prop := ∀ q, i ≤ q → q < j → kd T q ≠ 2
theorem no2.tr {T : List Tk} {i j k : Nat} (a : no2 T i j) (b : no2 T j k) : no2 T i k := fun q h1 h2 => by
  rcases Nat.lt_or_ge q j with z | z
  · exact a q h1 z
  · exact b q z h2
theorem no2.s {T : List Tk} {i j : Nat} (a : no2 T i j) (h : kd T j ≠ 2) : no2 T i (j + 1) := kd2s a h
theorem no2.z {T : List Tk} {i : Nat} : no2 T i i := fun q h1 h2 => by omega
def okPI (T : List Tk) (nf : Nat) (it : Itm) : Prop := it.1 ≤ 3 ∧ (it.1 = 0 → okW it.2.1) ∧ (it.1 = 2 → isT T it.2.1 = true) ∧ (it.1 = 1 ∨ it.1 = 3 → okF nf it.2.2.2 0 ∧ z0F it.2.2.2 ∧ it.2.2.2.length ≤ 2400)
theorem pItem_ok {T : List Tk} {F : List Fct} {i : Nat} {r : Itm × Nat} (hT : okT T) (hi : i < T.length) (hs : stI (kd T i) = true) (h : pItem T F i = .ok r) : i < r.2 ∧ r.2 < T.length ∧ no2 T i r.2 ∧ okPI T F.length r.1 := by
  have hkd : kd T i = 11 ∨ kd T i = 61 ∨ kd T i = 9 ∨ kd T i = 10 := by simpa [stI] using hs
  have hi1 : i + 1 < T.length := hT.lt hi (by omega)
  have n1 : no2 T i (i + 1) := no2.z.s (by omega)
  have hl := hT.2.1
  unfold pItem at h
  by_cases q1 : kd T i = 11
  · rw [if_pos q1] at h
    cases h
    exact ⟨by show i < i + 1; omega, hi1, n1, by show (0 : Nat) ≤ 3; omega, fun _ => (hT.w hi (by omega)).1, fun z => absurd (show (0 : Nat) = 2 from z) (by decide), fun z => absurd (show (0 : Nat) = 1 ∨ (0 : Nat) = 3 from z) (by decide)⟩
  rw [if_neg q1] at h
  by_cases q2 : kd T i = 9
  · rw [if_pos q2] at h
    by_cases q3 : kd T (i + 1) ≠ 11
    · rw [if_pos q3] at h; cases h
    rw [if_neg q3] at h
    by_cases q4 : isT T (wd T (i + 1)) = false
    · rw [if_pos q4] at h; cases h
    rw [if_neg q4] at h
    cases h
    exact ⟨by show i < i + 2; omega, hT.lt hi1 (by omega), n1.s (by omega), by show (2 : Nat) ≤ 3; omega, fun z => absurd (show (2 : Nat) = 0 from z) (by decide), fun _ => by simpa using q4, fun z => absurd (show (2 : Nat) = 1 ∨ (2 : Nat) = 3 from z) (by decide)⟩
  rw [if_neg q2] at h
  cases hp : pE T F (i + 1) with
  | error e => rw [hp] at h; cases h
  | ok r2 =>
    rw [hp] at h
    cases h
    obtain ⟨e1, e2, e3, e4, e5, e6⟩ := pE_ok hT hi1 hp
    have hv : (if kd T i = 61 then 1 else 3) = 1 ∨ (if kd T i = 61 then 1 else 3) = 3 := by split; exact Or.inl rfl; exact Or.inr rfl
    refine ⟨by show i < r2.2; omega, e2, n1.tr e4, ?_, fun z => ?_, fun z => ?_, fun _ => ⟨e5, e6, by show r2.1.length ≤ 2400; omega⟩⟩
    · show (if kd T i = 61 then 1 else 3) ≤ 3; omega
    · have z : (if kd T i = 61 then 1 else 3) = 0 := z; omega
    · have z : (if kd T i = 61 then 1 else 3) = 2 := z; omega
theorem pItems_ok {T : List Tk} {F : List Fct} (hT : okT T) : ∀ (n : Nat) (A : List Itm) (i : Nat) (r : List Itm × Nat), n + A.length = 21 → i < T.length → (∀ it ∈ A, okPI T F.length it) → pItems T F n A i = .ok r → i ≤ r.2 ∧ r.2 < T.length ∧ no2 T i r.2 ∧ r.1.length ≤ 21 ∧ (A.length ≤ 20 → r.1.length ≤ 20) ∧ ∀ it ∈ r.1, okPI T F.length it
  | 0, A, i, r, hn, hi, hA, h => by cases h; exact ⟨Nat.le_refl _, hi, no2.z, by show A.length ≤ 21; omega, fun z => z, hA⟩
  | n + 1, A, i, r, hn, hi, hA, h => by
    rw [pItems_s] at h
    by_cases q : stI (kd T i) = true
    · rw [if_pos q] at h
      unfold pIt at h
      by_cases q2 : A.length = 20
      · rw [if_pos q2] at h; cases h
      rw [if_neg q2] at h
      cases hp : pItem T F i with
      | error e => rw [hp] at h; cases h
      | ok x =>
        rw [hp] at h
        obtain ⟨a1, a2, a3, a4⟩ := pItem_ok hT hi q hp
        obtain ⟨b1, b2, b3, b4, b5, b6⟩ := pItems_ok hT n (A ++ [x.1]) x.2 r (by rw [List.length_append]; simp; omega) a2 (fun it hit => by
          rcases List.mem_append.mp hit with z | z
          · exact hA it z
          · rw [List.mem_singleton.mp z]; exact a4) h
        exact ⟨by omega, b2, a3.tr b3, b4, fun z => b5 (by rw [List.length_append]; simp; omega), b6⟩
    · rw [if_neg q] at h
      cases h
      exact ⟨Nat.le_refl _, hi, no2.z, by show A.length ≤ 21; omega, fun z => z, hA⟩
theorem pLinks_ok {T : List Tk} {k m : Nat} (hT : okT T) (hk : k ≠ 2 ∧ k ≠ 14) : ∀ (n : Nat) (A : List (List Nat)) (i : Nat) (r : List (List Nat) × Nat), i < T.length → m + A.length ≤ 8 → (∀ w ∈ A, isT T w = true) → pLinks T k m n A i = .ok r → i ≤ r.2 ∧ r.2 < T.length ∧ no2 T i r.2 ∧ m + r.1.length ≤ 8 ∧ ∀ w ∈ r.1, isT T w = true
  | 0, A, i, r, hi, h8, hA, h => by cases h; exact ⟨Nat.le_refl _, hi, no2.z, h8, hA⟩
  | n + 1, A, i, r, hi, h8, hA, h => by
    rw [pLinks_s] at h
    by_cases q : kd T i = k
    · rw [if_pos q] at h
      have hi1 : i + 1 < T.length := hT.lt hi (by omega)
      cases hp : pLk T (m + A.length) i with
      | some f => rw [hp] at h; cases h
      | none =>
        rw [hp] at h
        unfold pLk at hp
        by_cases q1 : m + A.length = 8
        · rw [if_pos q1] at hp; cases hp
        rw [if_neg q1] at hp
        by_cases q2 : kd T (i + 1) ≠ 11
        · rw [if_pos q2] at hp; cases hp
        rw [if_neg q2] at hp
        by_cases q3 : isT T (wd T (i + 1)) = false
        · rw [if_pos q3] at hp; cases hp
        rw [if_neg q3] at hp
        by_cases q4 : kd T (i + 2) ≠ 59
        · rw [if_pos q4] at hp; cases hp
        have hi2 : i + 2 < T.length := hT.lt hi1 (by omega)
        have hi3 : i + 3 < T.length := hT.lt hi2 (by omega)
        obtain ⟨b1, b2, b3, b4, b5⟩ := pLinks_ok hT hk n (A ++ [wd T (i + 1)]) (i + 3) r hi3 (by rw [List.length_append]; simp; omega) (fun w hw => by
          rcases List.mem_append.mp hw with z | z
          · exact hA w z
          · rw [List.mem_singleton.mp z]; simpa using q3) h
        have n3 : no2 T i (i + 3) := fun q h1 h2 => by
          rcases (show q = i ∨ q = i + 1 ∨ q = i + 2 by omega) with z | z | z <;> subst z <;> omega
        exact ⟨by omega, b2, n3.tr b3, b4, b5⟩
    · rw [if_neg q] at h
      cases h
      exact ⟨Nat.le_refl _, hi, no2.z, h8, hA⟩
def okPC (T : List Tk) (nf : Nat) (c : PCl) : Prop := c.1 ≤ 99 ∧ (okF nf c.2.2.1 0 ∧ z0F c.2.2.1 ∧ c.2.2.1.length ≤ 2400) ∧ c.2.2.2.1.length + c.2.2.2.2.1.length ≤ 8 ∧ (∀ w ∈ c.2.2.2.1, isT T w = true) ∧ (∀ w ∈ c.2.2.2.2.1, isT T w = true) ∧ c.2.2.2.2.2.length ≤ 20 ∧ ∀ it ∈ c.2.2.2.2.2, okPI T nf it
theorem pCl1_ok {T : List Tk} {F : List Fct} {a i : Nat} {m : Bool} {r : PCl × Nat} (hT : okT T) (hi : i < T.length) (ha : a ≤ 99) (h : pCl1 T F a m i = .ok r) : i < r.2 ∧ r.2 < T.length ∧ no2 T i r.2 ∧ okPC T F.length r.1 := by
  have hl := hT.2.1
  unfold pCl1 at h
  by_cases q1 : kd T i ≠ 5
  · rw [if_pos q1] at h; cases h
  rw [if_neg q1] at h
  have hi1 : i + 1 < T.length := hT.lt hi (by omega)
  cases hp : pE T F (i + 1) with
  | error e => rw [hp] at h; cases h
  | ok x =>
  rw [hp] at h
  obtain ⟨e1, e2, e3, e4, e5, e6⟩ := pE_ok hT hi1 hp
  have h : pCl2 T F (a, m, x.1) x.2 = .ok r := h
  unfold pCl2 at h
  by_cases q2 : kd T x.2 ≠ 59
  · rw [if_pos q2] at h; cases h
  rw [if_neg q2] at h
  have hi2 : x.2 + 1 < T.length := hT.lt e2 (by omega)
  cases hA : pLinks T 6 0 9 [] (x.2 + 1) with
  | error e => rw [hA] at h; cases h
  | ok A =>
  rw [hA] at h
  obtain ⟨a1, a2, a3, a4, a5⟩ := pLinks_ok hT (by decide) 9 [] (x.2 + 1) A hi2 (by simp) (fun w hw => by cases hw) hA
  have h : (match pLinks T 7 A.1.length 9 [] A.2 with | .error e => .error e | .ok r2 => pCl3 T F (a, m, x.1) A.1 r2.1 r2.2) = Except.ok r := h
  cases hB : pLinks T 7 A.1.length 9 [] A.2 with
  | error e => rw [hB] at h; cases h
  | ok B =>
  rw [hB] at h
  obtain ⟨b1, b2, b3, b4, b5⟩ := pLinks_ok hT (by decide) 9 [] A.2 B a2 (by simp; omega) (fun w hw => by cases hw) hB
  have h : pCl3 T F (a, m, x.1) A.1 B.1 B.2 = .ok r := h
  unfold pCl3 at h
  by_cases q3 : kd T B.2 ≠ 8
  · rw [if_pos q3] at h; cases h
  rw [if_neg q3] at h
  have hi3 : B.2 + 1 < T.length := hT.lt b2 (by omega)
  cases hI : pItems T F 21 [] (B.2 + 1) with
  | error e => rw [hI] at h; cases h
  | ok I =>
  rw [hI] at h
  obtain ⟨c1, c2, c3, c4, c5, c6⟩ := pItems_ok hT 21 [] (B.2 + 1) I rfl hi3 (fun w hw => by cases hw) hI
  simp only at h
  by_cases q4 : kd T I.2 ≠ 59
  · rw [if_pos q4] at h; cases h
  rw [if_neg q4] at h
  cases h
  have n0 : no2 T i (i + 1) := no2.z.s (by omega)
  have nn : no2 T i (I.2 + 1) := ((((n0.tr e4).s (by omega)).tr a3).tr b3 |>.s (by omega)).tr c3 |>.s (by omega)
  refine ⟨by show i < I.2 + 1; omega, hT.lt c2 (by omega), nn, ha, ⟨e5, e6, ?_⟩, ?_, a5, b5, c5 (by simp), c6⟩
  · show x.1.length ≤ 2400; omega
  · show A.1.length + B.1.length ≤ 8; exact b4
theorem pClause_ok {T : List Tk} {F : List Fct} {NM : List (List Nat)} {i : Nat} {r : PCl × Nat} (hT : okT T) (hi : i < T.length) (hk : kd T i = 2) (h : pClause T F NM i = .ok r) : NM.length ≠ 12 ∧ kd T (i + 1) = 11 ∧ NM.contains (wd T (i + 1)) = false ∧ i + 1 < r.2 ∧ r.2 < T.length ∧ no2 T (i + 1) r.2 ∧ okPC T F.length r.1 := by
  unfold pClause at h
  by_cases q0 : NM.length = 12
  · rw [if_pos q0] at h; cases h
  rw [if_neg q0] at h
  have hi1 : i + 1 < T.length := hT.lt hi (by omega)
  by_cases q1 : kd T (i + 1) ≠ 11
  · rw [if_pos q1] at h; cases h
  rw [if_neg q1] at h
  have hi2 : i + 2 < T.length := hT.lt hi1 (by omega)
  by_cases q2 : NM.contains (wd T (i + 1)) = true
  · rw [if_pos q2] at h; cases h
  rw [if_neg q2] at h
  by_cases q3 : kd T (i + 2) ≠ 3
  · rw [if_pos q3] at h; cases h
  rw [if_neg q3] at h
  have hi3 : i + 3 < T.length := hT.lt hi2 (by omega)
  by_cases q4 : kd T (i + 3) ≠ 12
  · rw [if_pos q4] at h; cases h
  rw [if_neg q4] at h
  have hi4 : i + 4 < T.length := hT.lt hi3 (by omega)
  by_cases q5 : 99 < nu T (i + 3)
  · rw [if_pos q5] at h; cases h
  rw [if_neg q5] at h
  have n4 : no2 T (i + 1) (i + 4) := fun q h1 h2 => by
    rcases (show q = i + 1 ∨ q = i + 2 ∨ q = i + 3 by omega) with z | z | z <;> subst z <;> omega
  by_cases q6 : kd T (i + 4) = 4
  · rw [if_pos q6] at h
    obtain ⟨a1, a2, a3, a4⟩ := pCl1_ok hT (hT.lt hi4 (by omega)) (by omega) h
    exact ⟨q0, by omega, by simpa using q2, by omega, a2, (n4.s (by omega)).tr a3, a4⟩
  · rw [if_neg q6] at h
    obtain ⟨a1, a2, a3, a4⟩ := pCl1_ok hT hi4 (by omega) h
    exact ⟨q0, by omega, by simpa using q2, by omega, a2, n4.tr a3, a4⟩
theorem NMI.s0 {T : List Tk} {i j : Nat} {NM : List (List Nat)} (N : NMI T i NM) (hij : i ≤ j) (h : no2 T i j) : NMI T j NM := by
  obtain ⟨d, rfl⟩ := Nat.le.dest hij
  clear hij
  induction d with
  | zero => exact N
  | succ d ih =>
    have N2 := ih (fun q h1 h2 => h q h1 (by omega))
    have hk := h (i + d) (by omega) (by omega)
    rw [← Nat.add_assoc]
    refine ⟨?_, fun q hq hk2 => ?_⟩
    · rw [List.range_succ, List.filter_append, List.filter_cons, if_neg (by simpa using hk)]
      simp only [List.filter_nil, List.append_nil]
      exact N2.1
    · rcases Nat.lt_or_ge q (i + d) with z | z
      · exact N2.2 q z hk2
      · have e : q = i + d := by omega
        subst e; exact absurd hk2 hk
theorem NMI.s1 {T : List Tk} {i : Nat} {NM : List (List Nat)} (N : NMI T i NM) (h2 : kd T i = 2) (h11 : kd T (i + 1) = 11) : NMI T (i + 1) (NM ++ [wd T (i + 1)]) := by
  refine ⟨?_, fun q hq hk2 => ?_⟩
  · rw [List.range_succ, List.filter_append, List.map_append, ← N.1, List.filter_cons, if_pos (by simpa using h2)]; rfl
  · rcases Nat.lt_or_ge q i with z | z
    · exact N.2 q z hk2
    · have e : q = i := by omega
      subst e; exact h11
theorem pFact_ok {T : List Tk} {F : List Fct} {i : Nat} {f : Fct} (hT : okT T) (hi : i < T.length) (hk : kd T i = 0) (ok : okFs F) (h : pFact T F i = .ok f) : i + 6 < T.length ∧ no2 T i (i + 6) ∧ okFs (F ++ [f]) := by
  unfold pFact at h
  by_cases q0 : F.length = 8
  · rw [if_pos q0] at h; cases h
  rw [if_neg q0] at h
  have hi1 : i + 1 < T.length := hT.lt hi (by omega)
  by_cases q1 : kd T (i + 1) ≠ 11
  · rw [if_pos q1] at h; cases h
  rw [if_neg q1] at h
  have hi2 : i + 2 < T.length := hT.lt hi1 (by omega)
  by_cases q2 : fdx F (wd T (i + 1)) < F.length
  · rw [if_pos q2] at h; cases h
  rw [if_neg q2] at h
  by_cases q3 : kd T (i + 2) ≠ 12
  · rw [if_pos q3] at h; cases h
  rw [if_neg q3] at h
  have hi3 : i + 3 < T.length := hT.lt hi2 (by omega)
  by_cases q4 : 99 < nu T (i + 2)
  · rw [if_pos q4] at h; cases h
  rw [if_neg q4] at h
  by_cases q5 : kd T (i + 3) ≠ 1
  · rw [if_pos q5] at h; cases h
  rw [if_neg q5] at h
  have hi4 : i + 4 < T.length := hT.lt hi3 (by omega)
  by_cases q6 : kd T (i + 4) ≠ 12
  · rw [if_pos q6] at h; cases h
  rw [if_neg q6] at h
  have hi5 : i + 5 < T.length := hT.lt hi4 (by omega)
  by_cases q7 : nu T (i + 4) < nu T (i + 2) ∨ 99 < nu T (i + 4)
  · rw [if_pos q7] at h; cases h
  rw [if_neg q7] at h
  by_cases q8 : 2000 < wl F * (nu T (i + 4) - nu T (i + 2) + 1)
  · rw [if_pos q8] at h; cases h
  rw [if_neg q8] at h
  by_cases q9 : kd T (i + 5) ≠ 59
  · rw [if_pos q9] at h; cases h
  rw [if_neg q9] at h
  cases h
  refine ⟨hT.lt hi5 (by omega), fun q h1 h2 => ?_, ?_, fun f hf => ?_, ?_, ?_⟩
  · rcases (show q = i ∨ q = i + 1 ∨ q = i + 2 ∨ q = i + 3 ∨ q = i + 4 ∨ q = i + 5 by omega) with z | z | z | z | z | z <;> subst z <;> omega
  · rw [List.length_append]; have := ok.1; simp; omega
  · rcases List.mem_append.mp hf with z | z
    · exact ok.2.1 f z
    · rw [List.mem_singleton.mp z]
      exact ⟨(hT.w hi1 (by omega)).1, by show nu T (i + 2) ≤ nu T (i + 4); omega, by show nu T (i + 4) ≤ 99; omega⟩
  · rw [List.map_append, List.nodup_append]
    refine ⟨ok.2.2.1, by simp, fun a ha b hb e => ?_⟩
    have hb2 : b = wd T (i + 1) := by simpa using hb
    rw [e, hb2] at ha
    have : (F.map (·.1)).idxOf (wd T (i + 1)) < (F.map (·.1)).length := List.idxOf_lt_length_iff.mpr ha
    rw [List.length_map] at this
    exact q2 this
  · show wl (F ++ [(wd T (i + 1), nu T (i + 2), nu T (i + 4))]) ≤ 2000
    unfold wl
    rw [List.map_append, List.foldl_append]
    show wl F * fspan (wd T (i + 1), nu T (i + 2), nu T (i + 4)) ≤ 2000
    unfold fspan
    show wl F * (nu T (i + 4) - nu T (i + 2) + 1) ≤ 2000
    omega
