/-! ===== the model reads a clause ===== -/
/-- the names of the clauses ahead of token i -/
def NMI (T : List Tk) (i : Nat) (NM : List (List Nat)) : Prop := NM = ((List.range i).filter (fun q => decide (kd T q = 2))).map (fun q => wd T (q + 1)) ∧ ∀ q, q < i → kd T q = 2 → kd T (q + 1) = 11
theorem NMI.len {T : List Tk} {i : Nat} {NM : List (List Nat)} (N : NMI T i NM) : NM.length = cnt2 T i := by rw [N.1, List.length_map]; rfl
theorem cnt2_mono {T : List Tk} {a b : Nat} (h : a ≤ b) : cnt2 T a ≤ cnt2 T b := by
  obtain ⟨d, rfl⟩ := Nat.le.dest h
  induction d with
  | zero => exact Nat.le_refl _
  | succ d ih => rw [← Nat.add_assoc, cnt2_s]; exact Nat.le_trans (ih (by omega)) (Nat.le_add_right _ _)
theorem NMI.mem {T : List Tk} {i : Nat} {NM : List (List Nat)} (N : NMI T i NM) {w : List Nat} : w ∈ NM ↔ ∃ q, q < i ∧ mt T w q = true := by
  rw [N.1, List.mem_map]
  constructor
  · rintro ⟨q, hq, e⟩
    rw [List.mem_filter, List.mem_range, decide_eq_true_iff] at hq
    exact ⟨q, hq.1, by unfold mt; rw [decide_eq_true_iff]; exact ⟨hq.2, by rw [N.2 q hq.1 hq.2]; exact Nat.le_refl _, e⟩⟩
  · rintro ⟨q, hq, e⟩
    unfold mt at e
    rw [decide_eq_true_iff] at e
    exact ⟨q, by rw [List.mem_filter, List.mem_range, decide_eq_true_iff]; exact ⟨hq, e.1⟩, e.2.2⟩
theorem first_at {p : Nat → Bool} : ∀ {n : Nat}, (∃ q, q < n ∧ p q = true) → ∃ j, j < n ∧ p j = true ∧ ∀ q, q < j → p q = false
  | 0, ⟨q, hq, _⟩ => absurd hq (Nat.not_lt_zero _)
  | n + 1, ⟨q, hq, e⟩ => by
    by_cases y : ∃ q, q < n ∧ p q = true
    · obtain ⟨j, h1, h2, h3⟩ := first_at y
      exact ⟨j, by omega, h2, h3⟩
    · have e2 : q = n := by
        rcases Nat.lt_or_ge q n with z | z
        · exact absurd ⟨q, z, e⟩ y
        · omega
      subst e2
      refine ⟨q, by omega, e, fun r hr => ?_⟩
      cases hp : p r with
      | false => rfl
      | true => exact absurd ⟨r, hr, hp⟩ y
theorem gM_lt {T : List Tk} {i : Nat} {NM : List (List Nat)} (N : NMI T i NM) (hi : i < T.length) (h2 : kd T i = 2) (h11 : kd T (i + 1) = 11) : (gM T (wd T (i + 1)) < NM.length ↔ NM.contains (wd T (i + 1)) = true) ∧ gM T (wd T (i + 1)) ≤ NM.length ∧ isT T (wd T (i + 1)) = true := by
  have hm : mt T (wd T (i + 1)) i = true := by unfold mt; rw [decide_eq_true_iff]; exact ⟨h2, by omega, rfl⟩
  rw [List.contains_iff_mem, N.mem, N.len]
  refine ⟨?_, ?_, isT_iff.mpr ⟨i, hi, hm⟩⟩
  · by_cases y : ∃ q, q < i ∧ mt T (wd T (i + 1)) q = true
    · obtain ⟨j, j1, j2, j3⟩ := first_at y
      have e : gM T (wd T (i + 1)) = cnt2 T j := by unfold gM; rw [find_some (by omega) j3 j2]
      have kj : kd T j = 2 := by unfold mt at j2; rw [decide_eq_true_iff] at j2; exact j2.1
      have h1 : cnt2 T (j + 1) = cnt2 T j + 1 := by rw [cnt2_s, if_pos kj]
      have h3 := cnt2_mono (T := T) (show j + 1 ≤ i by omega)
      exact ⟨fun _ => y, fun _ => by omega⟩
    · have e : gM T (wd T (i + 1)) = cnt2 T i := by
        unfold gM; rw [find_some hi (fun q hq => ?_) hm]
        cases hp : mt T (wd T (i + 1)) q with
        | false => rfl
        | true => exact absurd ⟨q, hq, hp⟩ y
      exact ⟨fun z => by omega, fun z => absurd z y⟩
  · by_cases y : ∃ q, q < i ∧ mt T (wd T (i + 1)) q = true
    · obtain ⟨j, j1, j2, j3⟩ := first_at y
      have e : gM T (wd T (i + 1)) = cnt2 T j := by unfold gM; rw [find_some (by omega) j3 j2]
      have h3 := cnt2_mono (T := T) (show j ≤ i by omega)
      omega
    · have e : gM T (wd T (i + 1)) = cnt2 T i := by
        unfold gM; rw [find_some hi (fun q hq => ?_) hm]
        cases hp : mt T (wd T (i + 1)) q with
        | false => rfl
        | true => exact absurd ⟨q, hq, hp⟩ y
      omega
theorem pLinks_s {T : List Tk} {k m n i : Nat} {A : List (List Nat)} : pLinks T k m (n + 1) A i = if kd T i = k then (match pLk T (m + A.length) i with | some f => .error f | none => pLinks T k m n (A ++ [wd T (i + 1)]) (i + 3)) else .ok (A, i) := by
  unfold pLk
  by_cases q : kd T i = k
  · rw [if_pos q]
    show (if kd T i = k then _ else _) = _
    rw [if_pos q]
    (repeat' split) <;> first | rfl | (simp_all; done) | skip
  · rw [if_neg q]
    show (if kd T i = k then _ else _) = _
    rw [if_neg q]
theorem pItems_s {T : List Tk} {F : List Fct} {n i : Nat} {A : List Itm} : pItems T F (n + 1) A i = if stI (kd T i) = true then (match pIt T F A.length i with | .error e => .error e | .ok r => pItems T F n (A ++ [r.1]) r.2) else .ok (A, i) := by
  unfold pIt
  show (if stI (kd T i) = true then (if A.length = 20 then _ else _) else _) = _
  by_cases q : stI (kd T i) = true
  · rw [if_pos q, if_pos q]
    by_cases y : A.length = 20
    · rw [if_pos y, if_pos y]
    · rw [if_neg y, if_neg y]; cases pItem T F i <;> rfl
  · rw [if_neg q, if_neg q]
section MCl
variable {X : GX} {h : SH} {T : List Tk} {i f : Nat} {F : List Fct} {P : Out → SH → Prop}
theorem b_expression {k : Nat} (B : MB h f) (h30 : hI h 35 30 = nI k) (hk : k < 2600) : Cd X mX11_expression [.ref 35] h 0 0 (oV (fun t => cf (wE k) h t ∧ MB t f) nX) := by
  refine bkX11_expression_0 B.1 (c_opens (d := 0) B.1 sI_at (by decide)) (fun t q => bkX11_expression_9 ?_)
  subst q
  have C : cf (wE k) h (sI (sI (sI h 35 31 0) 60 0 0) 61 0 0) := ((cf.rf.s (by unfold wE; omega)).s (by unfold wE; omega)).s (by unfold wE; omega)
  have B2 : MB (sI (sI (sI h 35 31 0) 60 0 0) 61 0 0) f := B.cf (S := fun b j => (b = 35 ∧ j = 31) ∨ b = 60 ∨ b = 61) (((cf.rf.s (Or.inl ⟨rfl, rfl⟩)).s (Or.inr (Or.inl rfl))).s (Or.inr (Or.inr rfl))) (by omega)
  refine bkX11_expression_11 (fun z => absurd z (by decide)) (fun _ => bkX11_expression_15 B2.1 (fun _ => ?_) (fun z => absurd z B2.ne))
  refine bkX11_expression_45 B2.1 (c_emit B2.1 (k := k) (by rw [sI_nb (by decide), sI_nb (by decide), sI_nj (by decide)]; exact h30) hk) (fun w q => bkX11_expression_51 ?_)
  subst q
  exact ⟨em_cf C (Nat.le_refl _), B2.cf (S := fun b j => b = 58 ∨ b = 59 ∨ (b = 35 ∧ j = 30)) (((cf.rf.s (Or.inl rfl)).s (Or.inr (Or.inl rfl))).s (Or.inr (Or.inr ⟨rfl, rfl⟩))) (by omega)⟩
theorem mlk6 {i0 : Nat} (hT : okT T) (h0 : i0 < 84) {Lp : List (Nat × Bool)} : ∀ (n : Nat) (A : List (List Nat)) (i : Nat) (g : SH), n + A.length = 9 → Lp.length + A.length ≤ 8 → MR g T i → LnK g i0 (Lp ++ A.map (fun w => (gM T w, false))) →
    (∀ A' i' t, pLinks T 6 Lp.length n A i = .ok (A', i') → MR t T i' → LnK t i0 (Lp ++ A'.map (fun w => (gM T w, false))) → Lp.length + A'.length ≤ 8 → i ≤ i' → cf (wL i0) g t → Gd X mX11_clauseIs 187 [some (.ref 35), none, some (.int (nI i0))] [] t 0 0 P) →
    (∀ e t, pLinks T 6 Lp.length n A i = .error e → MB t e → cf (wL i0) g t → Gd X mX11_clauseIs 187 [some (.ref 35), none, some (.int (nI i0))] [] t 0 0 P) → Gd X mX11_clauseIs 169 [some (.ref 35), none, some (.int (nI i0))] [] g 0 0 P := by
  intro n
  induction n with
  | zero => intro A i g h1 h2; omega
  | succ n ih =>
    intro A i g h1 h2 M K ko ke
    rw [pLinks_s] at ko ke
    refine bkX11_clauseIs_169 M.1 (c_isWord (k := 6) M hT (by decide)) (fun r t q => ?_)
    obtain ⟨rfl, ht⟩ := q
    rw [ht]
    refine bkX11_clauseIs_175 (fun z => ?_) (fun z => ?_)
    · rw [bI_0, decide_eq_false_iff_not] at z
      rw [if_neg z] at ko
      exact ko A i g rfl M K h2 (Nat.le_refl _) cf.rf
    · rw [bI_0, decide_eq_false_iff_not, Decidable.not_not] at z
      rw [if_pos z] at ko ke
      have hlen : (Lp ++ A.map (fun w => (gM T w, false))).length = Lp.length + A.length := by rw [List.length_append, List.length_map]
      refine bkX11_clauseIs_178 M.1 (c_link (b := false) M hT K h0 (by rw [hlen]; exact h2) (by omega)) (fun w hq => bkX11_clauseIs_184 ?_)
      obtain ⟨C, hq⟩ := hq
      rw [hlen] at hq
      cases hp : pLk T (Lp.length + A.length) i with
      | none =>
        rw [hp] at hq ko ke
        have hn8 : Lp.length + A.length ≠ 8 := fun y => by unfold pLk at hp; rw [if_pos y] at hp; cases hp
        have e2 : Lp ++ A.map (fun w => (gM T w, false)) ++ [(gM T (wd T (i + 1)), false)] = Lp ++ (A ++ [wd T (i + 1)]).map (fun w => (gM T w, false)) := by rw [List.map_append, List.append_assoc]; rfl
        refine ih (A ++ [wd T (i + 1)]) (i + 3) w (by rw [List.length_append]; simp; omega) (by rw [List.length_append]; simp; omega) hq.1 (by rw [← e2]; exact hq.2) (fun A' i' t a b c d e f => ko A' i' t a b c d (by omega) (C.tr f)) (fun e t a b c => ke e t a b (C.tr c))
      | some e =>
        rw [hp] at hq ke
        refine bkX11_clauseIs_169 hq.1 (b_isWord hq) (fun r t q => ?_)
        obtain ⟨rfl, ht⟩ := q
        rw [ht]
        exact bkX11_clauseIs_175 (fun _ => ke e w rfl hq C) (fun y => absurd rfl y)
theorem mlk7 {i0 : Nat} (hT : okT T) (h0 : i0 < 84) {Lp : List (Nat × Bool)} : ∀ (n : Nat) (A : List (List Nat)) (i : Nat) (g : SH), n + A.length = 9 → Lp.length + A.length ≤ 8 → MR g T i → LnK g i0 (Lp ++ A.map (fun w => (gM T w, true))) →
    (∀ A' i' t, pLinks T 7 Lp.length n A i = .ok (A', i') → MR t T i' → LnK t i0 (Lp ++ A'.map (fun w => (gM T w, true))) → Lp.length + A'.length ≤ 8 → i ≤ i' → cf (wL i0) g t → Gd X mX11_clauseIs 205 [some (.ref 35), none, some (.int (nI i0))] [] t 0 0 P) →
    (∀ e t, pLinks T 7 Lp.length n A i = .error e → MB t e → cf (wL i0) g t → Gd X mX11_clauseIs 205 [some (.ref 35), none, some (.int (nI i0))] [] t 0 0 P) → Gd X mX11_clauseIs 187 [some (.ref 35), none, some (.int (nI i0))] [] g 0 0 P := by
  intro n
  induction n with
  | zero => intro A i g h1 h2; omega
  | succ n ih =>
    intro A i g h1 h2 M K ko ke
    rw [pLinks_s] at ko ke
    refine bkX11_clauseIs_187 M.1 (c_isWord (k := 7) M hT (by decide)) (fun r t q => ?_)
    obtain ⟨rfl, ht⟩ := q
    rw [ht]
    refine bkX11_clauseIs_193 (fun z => ?_) (fun z => ?_)
    · rw [bI_0, decide_eq_false_iff_not] at z
      rw [if_neg z] at ko
      exact ko A i g rfl M K h2 (Nat.le_refl _) cf.rf
    · rw [bI_0, decide_eq_false_iff_not, Decidable.not_not] at z
      rw [if_pos z] at ko ke
      have hlen : (Lp ++ A.map (fun w => (gM T w, true))).length = Lp.length + A.length := by rw [List.length_append, List.length_map]
      refine bkX11_clauseIs_196 M.1 (c_link (b := true) M hT K h0 (by rw [hlen]; exact h2) (by omega)) (fun w hq => bkX11_clauseIs_202 ?_)
      obtain ⟨C, hq⟩ := hq
      rw [hlen] at hq
      cases hp : pLk T (Lp.length + A.length) i with
      | none =>
        rw [hp] at hq ko ke
        have hn8 : Lp.length + A.length ≠ 8 := fun y => by unfold pLk at hp; rw [if_pos y] at hp; cases hp
        have e2 : Lp ++ A.map (fun w => (gM T w, true)) ++ [(gM T (wd T (i + 1)), true)] = Lp ++ (A ++ [wd T (i + 1)]).map (fun w => (gM T w, true)) := by rw [List.map_append, List.append_assoc]; rfl
        refine ih (A ++ [wd T (i + 1)]) (i + 3) w (by rw [List.length_append]; simp; omega) (by rw [List.length_append]; simp; omega) hq.1 (by rw [← e2]; exact hq.2) (fun A' i' t a b c d e f => ko A' i' t a b c d (by omega) (C.tr f)) (fun e t a b c => ke e t a b (C.tr c))
      | some e =>
        rw [hp] at hq ke
        refine bkX11_clauseIs_187 hq.1 (b_isWord hq) (fun r t q => ?_)
        obtain ⟨rfl, ht⟩ := q
        rw [ht]
        exact bkX11_clauseIs_193 (fun _ => ke e w rfl hq C) (fun y => absurd rfl y)
theorem mits {i0 : Nat} (hT : okT T) (h0 : i0 < 84) (ok : okFs F) : ∀ (n : Nat) (A : List Itm) (i k : Nat) (g : SH), n + A.length = 21 → A.length ≤ 20 → MR g T i → FM g F → hI g 35 30 = nI k → k ≤ i → IsK g i0 k (A.map (rsI (gM T))) →
    (∀ A' i' k' t, pItems T F n A i = .ok (A', i') → MR t T i' → hI t 35 30 = nI k' → k ≤ k' → k' ≤ i' → IsK t i0 k' (A'.map (rsI (gM T))) → A'.length ≤ 20 → cf (wI i0 k) g t → Gd X mX11_clauseIs 233 [some (.ref 35), none, none] [] t 0 0 P) →
    (∀ e t, pItems T F n A i = .error e → MB t e → cf (wI i0 k) g t → Gd X mX11_clauseIs 233 [some (.ref 35), none, none] [] t 0 0 P) → Gd X mX11_clauseIs 218 [some (.ref 35), none, some (.int (nI i0))] [] g 0 0 P := by
  intro n
  induction n with
  | zero => intro A i k g h1 h2; omega
  | succ n ih =>
    intro A i k g h1 h2 M Q h30 hk K ko ke
    rw [pItems_s] at ko ke
    refine bkX11_clauseIs_218 M.1 (c_isItem M hT) (fun r t q => ?_)
    obtain ⟨rfl, ht⟩ := q
    rw [ht]
    refine bkX11_clauseIs_222 (fun z => ?_) (fun z => ?_)
    · rw [bI_0] at z
      rw [if_neg (by rw [z]; decide)] at ko
      exact ko A i k g rfl M h30 (Nat.le_refl _) hk K h2 cf.rf
    · rw [bI_0, Bool.not_eq_false] at z
      rw [if_pos z] at ko ke
      refine bkX11_clauseIs_225 M.1 (c_item M hT Q ok K h0 (by rw [List.length_map]; exact h2) h30 hk z) (fun w hq => bkX11_clauseIs_230 ?_)
      obtain ⟨C, hq⟩ := hq
      rw [List.length_map] at hq
      cases hp : pIt T F A.length i with
      | ok r =>
        rw [hp] at hq ko ke
        obtain ⟨q1, k', q2, q3, q4, q5⟩ := hq
        have hn : A.length ≠ 20 := fun y => by unfold pIt at hp; rw [if_pos y] at hp; cases hp
        have e2 : A.map (rsI (gM T)) ++ [rsI (gM T) r.1] = (A ++ [r.1]).map (rsI (gM T)) := by rw [List.map_append]; rfl
        rw [e2] at q5
        have up : ∀ {a b}, cf (wI i0 k') a b → cf (wI i0 k) a b := fun c => c.up (fun b j z => by unfold wI at z; unfold wI; omega)
        exact ih (A ++ [r.1]) r.2 k' w (by rw [List.length_append]; simp; omega) (by rw [List.length_append]; simp; omega) q1 (Q.cf C (fun b j z => by unfold wI at z; omega)) q4 q3 q5 (fun A' i' k2 t a b c d e f g x => ko A' i' k2 t a b c (by omega) e f g (C.tr (up x))) (fun e t a b c => ke e t a b (C.tr (up c)))
      | error e =>
        rw [hp] at hq ke
        refine bkX11_clauseIs_218 hq.1 (b_isItem hq) (fun r t q => ?_)
        obtain ⟨rfl, ht⟩ := q
        rw [ht]
        exact bkX11_clauseIs_222 (fun _ => ke e w rfl hq C) (fun y => absurd rfl y)
end MCl
