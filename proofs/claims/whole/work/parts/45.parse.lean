/-! ===== reading, told once: what a text's tokens are as an edition, or its fault ===== -/
def flt (T : List Tk) (k i : Nat) : Nat := k + 16 * pl T i
def fdx (F : List Fct) (w : List Nat) : Nat := (F.map (·.1)).idxOf w
def wl (F : List Fct) : Nat := (F.map fspan).foldl (· * ·) 1
def pFact (T : List Tk) (F : List Fct) (i : Nat) : Except Nat Fct :=
  if F.length = 8 then .error (flt T 5 i)
  else if kd T (i + 1) ≠ 11 then .error (flt T 1 (i + 1))
  else if fdx F (wd T (i + 1)) < F.length then .error (flt T 3 (i + 1))
  else if kd T (i + 2) ≠ 12 then .error (flt T 1 (i + 2))
  else if 99 < nu T (i + 2) then .error (flt T 4 (i + 2))
  else if kd T (i + 3) ≠ 1 then .error (flt T 1 (i + 3))
  else if kd T (i + 4) ≠ 12 then .error (flt T 1 (i + 4))
  else if nu T (i + 4) < nu T (i + 2) ∨ 99 < nu T (i + 4) then .error (flt T 4 (i + 4))
  else if 2000 < wl F * (nu T (i + 4) - nu T (i + 2) + 1) then .error (flt T 5 (i + 4))
  else if kd T (i + 5) ≠ 59 then .error (flt T 1 (i + 5))
  else .ok (wd T (i + 1), nu T (i + 2), nu T (i + 4))
def pFacts (T : List Tk) : Nat → List Fct → Nat → Except Nat (List Fct × Nat)
  | 0, F, i => .ok (F, i)
  | n + 1, F, i => if kd T i = 0 then (match pFact T F i with | .error e => .error e | .ok f => pFacts T n (F ++ [f]) (i + 6)) else .ok (F, i)
/-- an E: whether a part or what is behind one is due, the levels (what waits for a part, for a sum), the codes, the token -/
abbrev StE : Type := Nat × List (Nat × Nat) × Fml × Nat
def opt (j : Nat) : Fml := if j = 0 then [] else [(j, 0)]
def vcode (T : List Tk) (F : List Fct) (i : Nat) : Nat × Nat := if kd T i = 12 then (1, nu T i) else (2, fdx F (wd T i))
def stE (T : List Tk) (F : List Fct) (s : StE) : StE ⊕ Except Nat (Fml × Nat) := match s with
  | (_, [], _, _) => .inr (.error 0)
  | (m, (j, c) :: u, cd, i) => if m = 0 then
      (if kd T i = 40 then (if u.length = 5 then .inr (.error (flt T 5 i)) else .inl (0, (0, 0) :: (j, c) :: u, cd, i + 1))
      else if kd T i = 12 ∨ kd T i = 11 then
        (if kd T i = 11 ∧ ¬ fdx F (wd T i) < F.length then .inr (.error (flt T 2 i))
        else if u.length = 5 then .inr (.error (flt T 5 i))
        else .inl (1, (0, c) :: u, cd ++ vcode T F i :: opt j, i + 1))
      else .inr (.error (flt T 1 i)))
    else (if kd T i = 43 ∨ kd T i = 45 then .inl (0, (if kd T i = 43 then 3 else 4, c) :: u, cd, i + 1)
      else if c = 0 ∧ (kd T i = 60 ∨ kd T i = 61) then .inl (0, (0, if kd T i = 60 then 5 else 6) :: u, cd, i + 1)
      else match u with
        | [] => .inr (.ok (cd ++ opt c, i))
        | (j2, c2) :: u2 => if kd T i = 41 then .inl (1, (0, c2) :: u2, cd ++ opt c ++ opt j2, i + 1) else .inr (.error (flt T 1 i)))
theorem stE_0 {T : List Tk} {F : List Fct} {j c i : Nat} {u : List (Nat × Nat)} {cd : Fml} : stE T F (0, (j, c) :: u, cd, i) =
    (if kd T i = 40 then (if u.length = 5 then .inr (.error (flt T 5 i)) else .inl (0, (0, 0) :: (j, c) :: u, cd, i + 1))
      else if kd T i = 12 ∨ kd T i = 11 then
        (if kd T i = 11 ∧ ¬ fdx F (wd T i) < F.length then .inr (.error (flt T 2 i))
        else if u.length = 5 then .inr (.error (flt T 5 i))
        else .inl (1, (0, c) :: u, cd ++ vcode T F i :: opt j, i + 1))
      else .inr (.error (flt T 1 i))) := by
  unfold stE
  exact if_pos rfl
theorem stE_1 {T : List Tk} {F : List Fct} {m j c i : Nat} {u : List (Nat × Nat)} {cd : Fml} (hm : ¬ m = 0) : stE T F (m, (j, c) :: u, cd, i) =
    (if kd T i = 43 ∨ kd T i = 45 then .inl (0, (if kd T i = 43 then 3 else 4, c) :: u, cd, i + 1)
      else if c = 0 ∧ (kd T i = 60 ∨ kd T i = 61) then .inl (0, (0, if kd T i = 60 then 5 else 6) :: u, cd, i + 1)
      else match u with
        | [] => .inr (.ok (cd ++ opt c, i))
        | (j2, c2) :: u2 => if kd T i = 41 then .inl (1, (0, c2) :: u2, cd ++ opt c ++ opt j2, i + 1) else .inr (.error (flt T 1 i))) := by
  unfold stE
  exact if_neg hm
def runE (T : List Tk) (F : List Fct) : Nat → StE → Except Nat (Fml × Nat)
  | 0, _ => .error 0
  | n + 1, s => match stE T F s with
    | .inl s' => runE T F n s'
    | .inr r => r
def pE (T : List Tk) (F : List Fct) (i : Nat) : Except Nat (Fml × Nat) := runE T F (T.length - i) (0, [(0, 0)], [], i)
/-- the places of the word clause with a word behind it; the names that are told -/
def tld (T : List Tk) (n : Nat) : List (List Nat) := ((List.range n).filter (fun j => decide (kd T j = 2 ∧ kd T (j + 1) ≤ 11))).map (fun j => wd T (j + 1))
def isT (T : List Tk) (w : List Nat) : Bool := (tld T T.length).contains w
def pLinks (T : List Tk) (k m : Nat) : Nat → List (List Nat) → Nat → Except Nat (List (List Nat) × Nat)
  | 0, A, i => .ok (A, i)
  | n + 1, A, i => if kd T i = k then
      (if m + A.length = 8 then .error (flt T 5 i)
      else if kd T (i + 1) ≠ 11 then .error (flt T 1 (i + 1))
      else if isT T (wd T (i + 1)) = false then .error (flt T 2 (i + 1))
      else if kd T (i + 2) ≠ 59 then .error (flt T 1 (i + 2))
      else pLinks T k m n (A ++ [wd T (i + 1)]) (i + 3))
    else .ok (A, i)
def stI (k : Nat) : Bool := decide (k = 11 ∨ k = 61 ∨ k = 9 ∨ k = 10)
def pItem (T : List Tk) (F : List Fct) (i : Nat) : Except Nat (Itm × Nat) :=
  if kd T i = 11 then .ok ((0, wd T i, 0, []), i + 1)
  else if kd T i = 9 then
    (if kd T (i + 1) ≠ 11 then .error (flt T 1 (i + 1)) else if isT T (wd T (i + 1)) = false then .error (flt T 2 (i + 1)) else .ok ((2, wd T (i + 1), 0, []), i + 2))
  else match pE T F (i + 1) with
    | .error e => .error e
    | .ok r => .ok ((if kd T i = 61 then 1 else 3, [], 0, r.1), r.2)
def pItems (T : List Tk) (F : List Fct) : Nat → List Itm → Nat → Except Nat (List Itm × Nat)
  | 0, A, i => .ok (A, i)
  | n + 1, A, i => if stI (kd T i) = true then
      (if A.length = 20 then .error (flt T 5 i)
      else match pItem T F i with
        | .error e => .error e
        | .ok r => pItems T F n (A ++ [r.1]) r.2)
    else .ok (A, i)
/-- a clause whose names aren't numbers yet: at, must, when, needs, bars, items -/
abbrev PCl : Type := Nat × Bool × Fml × List (List Nat) × List (List Nat) × List Itm
/-- behind the links -/
def pCl3 (T : List Tk) (F : List Fct) (b : Nat × Bool × Fml) (A B : List (List Nat)) (i : Nat) : Except Nat (PCl × Nat) :=
  if kd T i ≠ 8 then .error (flt T 1 i) else match pItems T F 21 [] (i + 1) with
    | .error e => .error e
    | .ok r => if kd T r.2 ≠ 59 then .error (flt T 1 r.2) else .ok ((b.1, b.2.1, b.2.2, A, B, r.1), r.2 + 1)
/-- behind the formula -/
def pCl2 (T : List Tk) (F : List Fct) (b : Nat × Bool × Fml) (i : Nat) : Except Nat (PCl × Nat) :=
  if kd T i ≠ 59 then .error (flt T 1 i) else match pLinks T 6 0 9 [] (i + 1) with
    | .error e => .error e
    | .ok r => match pLinks T 7 r.1.length 9 [] r.2 with
      | .error e => .error e
      | .ok r2 => pCl3 T F b r.1 r2.1 r2.2
/-- from the word when on -/
def pCl1 (T : List Tk) (F : List Fct) (a : Nat) (m : Bool) (i : Nat) : Except Nat (PCl × Nat) :=
  if kd T i ≠ 5 then .error (flt T 1 i) else match pE T F (i + 1) with
    | .error e => .error e
    | .ok r => pCl2 T F (a, m, r.1) r.2
def pClause (T : List Tk) (F : List Fct) (NM : List (List Nat)) (i : Nat) : Except Nat (PCl × Nat) :=
  if NM.length = 12 then .error (flt T 5 i)
  else if kd T (i + 1) ≠ 11 then .error (flt T 1 (i + 1))
  else if NM.contains (wd T (i + 1)) = true then .error (flt T 3 (i + 1))
  else if kd T (i + 2) ≠ 3 then .error (flt T 1 (i + 2))
  else if kd T (i + 3) ≠ 12 then .error (flt T 1 (i + 3))
  else if 99 < nu T (i + 3) then .error (flt T 4 (i + 3))
  else if kd T (i + 4) = 4 then pCl1 T F (nu T (i + 3)) true (i + 5) else pCl1 T F (nu T (i + 3)) false (i + 4)
def pClauses (T : List Tk) (F : List Fct) : Nat → List (List Nat × PCl) → Nat → Except Nat (List (List Nat × PCl) × Nat)
  | 0, C, i => .ok (C, i)
  | n + 1, C, i => if kd T i = 2 then (match pClause T F (C.map (·.1)) i with | .error e => .error e | .ok r => pClauses T F n (C ++ [(wd T (i + 1), r.1)]) r.2) else .ok (C, i)
def pEdn (T : List Tk) : Except Nat (List Fct × List (List Nat × PCl)) := match pFacts T 9 [] 0 with
  | .error e => .error e
  | .ok r => match pClauses T r.1 13 [] r.2 with
    | .error e => .error e
    | .ok r2 => if kd T r2.2 ≠ 14 then .error (flt T 1 r2.2) else .ok (r.1, r2.1)
def rsI (g : List Nat → Nat) (it : Itm) : Itm := (it.1, it.2.1, if it.1 = 2 then g it.2.1 else 0, it.2.2.2)
def rsl (g : List Nat → Nat) (c : PCl) : Cls := (c.1, c.2.1, c.2.2.1, c.2.2.2.1.map g, c.2.2.2.2.1.map g, c.2.2.2.2.2.map (rsI g))
/-! ===== what a good end gives ===== -/
/-- codes that take d open values to d' -/
def okP (nf : Nat) : Fml → Nat → Nat → Prop
  | [], d, d' => d = d'
  | (c, x) :: r, d, d' => if c = 1 then x ≤ 9999 ∧ d < 11 ∧ okP nf r (d + 1) d' else if c = 2 then x < nf ∧ d < 11 ∧ okP nf r (d + 1) d' else 3 ≤ c ∧ c ≤ 6 ∧ 2 ≤ d ∧ okP nf r (d - 1) d'
theorem okP.app {nf : Nat} : ∀ {a b : Fml} {d e f : Nat}, okP nf a d e → okP nf b e f → okP nf (a ++ b) d f
  | [], b, d, e, f, h1, h2 => by have h3 : d = e := h1; subst h3; exact h2
  | (c, x) :: r, b, d, e, f, h1, h2 => by
    show okP nf ((c, x) :: (r ++ b)) d f
    unfold okP at h1 ⊢
    by_cases q1 : c = 1
    · rw [if_pos q1] at h1 ⊢; exact ⟨h1.1, h1.2.1, h1.2.2.app h2⟩
    rw [if_neg q1] at h1 ⊢
    by_cases q2 : c = 2
    · rw [if_pos q2] at h1 ⊢; exact ⟨h1.1, h1.2.1, h1.2.2.app h2⟩
    rw [if_neg q2] at h1 ⊢
    exact ⟨h1.1, h1.2.1, h1.2.2.1, h1.2.2.2.app h2⟩
theorem okP.F {nf : Nat} : ∀ {a : Fml} {d : Nat}, okP nf a d 1 → okF nf a d
  | [], d, h => h
  | (c, x) :: r, d, h => by
    unfold okP at h; unfold okF
    by_cases q1 : c = 1
    · rw [if_pos q1] at h ⊢; exact ⟨h.1, h.2.1, h.2.2.F⟩
    rw [if_neg q1] at h ⊢
    by_cases q2 : c = 2
    · rw [if_pos q2] at h ⊢; exact ⟨h.1, h.2.1, h.2.2.F⟩
    rw [if_neg q2] at h ⊢
    exact ⟨h.1, h.2.1, h.2.2.1, h.2.2.2.F⟩
def pn1 (p : Nat × Nat) : Nat := (if p.1 = 0 then 0 else 1) + (if p.2 = 0 then 0 else 1)
def pnd : List (Nat × Nat) → Nat
  | [] => 0
  | p :: r => pn1 p + pnd r
theorem pn1_le (p : Nat × Nat) : pn1 p ≤ 2 := by unfold pn1; split <;> split <;> omega
theorem pnd_le : ∀ l : List (Nat × Nat), pnd l ≤ 2 * l.length
  | [] => Nat.le_refl _
  | p :: r => by have := pnd_le r; have := pn1_le p; rw [List.length_cons]; unfold pnd; omega
abbrev okL (p : Nat × Nat) : Prop := (p.1 = 0 ∨ p.1 = 3 ∨ p.1 = 4) ∧ (p.2 = 0 ∨ p.2 = 5 ∨ p.2 = 6)
theorem opt_len (j : Nat) : (opt j).length = if j = 0 then 0 else 1 := by unfold opt; split <;> rfl
theorem opt_okP {nf j d : Nat} (hj : j = 0 ∨ (3 ≤ j ∧ j ≤ 6)) (hd : j ≠ 0 → 2 ≤ d) : okP nf (opt j) d (d - (if j = 0 then 0 else 1)) := by
  unfold opt
  by_cases q : j = 0
  · rw [if_pos q, if_pos q]; exact rfl
  · rw [if_neg q, if_neg q]
    unfold okP
    rw [if_neg (by omega), if_neg (by omega)]
    exact ⟨by omega, by omega, hd q, rfl⟩
theorem opt_z0 (j : Nat) : z0F (opt j) := by
  unfold opt
  by_cases q : j = 0
  · rw [if_pos q]; intro x hx; cases hx
  · rw [if_neg q]; intro x hx _ _; rw [List.mem_singleton.mp hx]
theorem z0_app {a b : Fml} (h1 : z0F a) (h2 : z0F b) : z0F (a ++ b) := fun q hq => by
  rcases List.mem_append.mp hq with z | z
  · exact h1 q z
  · exact h2 q z
/-- an E under way -/
def invE (T : List Tk) (F : List Fct) (i0 : Nat) (s : StE) : Prop := i0 ≤ s.2.2.2 ∧ s.2.2.2 < T.length ∧ s.2.2.1.length + pnd s.2.1 + i0 ≤ s.2.2.2 ∧ (∀ q, i0 ≤ q → q < s.2.2.2 → kd T q ≠ 2) ∧
  okP F.length s.2.2.1 0 (pnd s.2.1 + s.1) ∧ z0F s.2.2.1 ∧ 1 ≤ s.2.1.length ∧ s.2.1.length ≤ 6 ∧ (∀ p ∈ s.2.1, okL p) ∧ (s.1 = 0 ∨ (s.1 = 1 ∧ s.2.1.length ≤ 5 ∧ ∃ c u, s.2.1 = (0, c) :: u))
def endE (T : List Tk) (F : List Fct) (i0 : Nat) (r : Fml × Nat) : Prop := i0 ≤ r.2 ∧ r.2 < T.length ∧ r.1.length + i0 ≤ r.2 ∧ (∀ q, i0 ≤ q → q < r.2 → kd T q ≠ 2) ∧ okF F.length r.1 0 ∧ z0F r.1
theorem kd2s {T : List Tk} {i0 i : Nat} (h : ∀ q, i0 ≤ q → q < i → kd T q ≠ 2) (hi : kd T i ≠ 2) : ∀ q, i0 ≤ q → q < i + 1 → kd T q ≠ 2 := fun q h1 h2 => by
  by_cases z : q = i
  · rw [z]; exact hi
  · exact h q h1 (by omega)
theorem stE_l {T : List Tk} {F : List Fct} {i0 : Nat} {s s' : StE} (hT : okT T) (I : invE T F i0 s) (h : stE T F s = .inl s') : invE T F i0 s' ∧ s'.2.2.2 = s.2.2.2 + 1 := by
  obtain ⟨m, lv, cd, i⟩ := s
  obtain ⟨h1, h2, h3, h4, h5, h6, h7, h8, h9, h10⟩ := I
  simp only at h1 h2 h3 h4 h5 h6 h7 h8 h9 h10
  rcases lv with _ | ⟨⟨j, c⟩, u⟩
  · exact absurd h7 (by simp)
  · skip
    have hu : ∀ p ∈ u, okL p := fun p hp => h9 p (List.mem_cons_of_mem _ hp)
    have hjc : okL (j, c) := h9 _ List.mem_cons_self
    have hjc1 : j = 0 ∨ j = 3 ∨ j = 4 := hjc.1
    have hjc2 : c = 0 ∨ c = 5 ∨ c = 6 := hjc.2
    rw [List.length_cons] at h7 h8 h10
    simp only [pnd] at h3 h5
    have lt : kd T i ≠ 14 → i + 1 < T.length := hT.lt h2
    by_cases qm : m = 0
    · subst qm
      rw [stE_0] at h
      by_cases q1 : kd T i = 40
      · rw [if_pos q1] at h
        by_cases q2 : u.length = 5
        · rw [if_pos q2] at h; cases h
        · rw [if_neg q2] at h
          cases h
          refine ⟨⟨by show i0 ≤ i + 1; omega, lt (by omega), ?_, kd2s h4 (by omega), ?_, h6, by simp, by simp; omega, fun p hp => ?_, Or.inl rfl⟩, rfl⟩
          · show cd.length + pnd ((0, 0) :: (j, c) :: u) + i0 ≤ i + 1
            simp only [pnd]
            have : pn1 (0, 0) = 0 := rfl
            omega
          · show okP F.length cd 0 (pnd ((0, 0) :: (j, c) :: u) + 0)
            simp only [pnd]
            rw [show pn1 (0, 0) = 0 from rfl, Nat.zero_add]; exact h5
          · rcases List.mem_cons.mp hp with z | z
            · rw [z]; exact ⟨Or.inl rfl, Or.inl rfl⟩
            · exact h9 p z
      rw [if_neg q1] at h
      by_cases q2 : kd T i = 12 ∨ kd T i = 11
      · rw [if_pos q2] at h
        by_cases q3 : kd T i = 11 ∧ ¬ fdx F (wd T i) < F.length
        · rw [if_pos q3] at h; cases h
        rw [if_neg q3] at h
        by_cases q4 : u.length = 5
        · rw [if_pos q4] at h; cases h
        rw [if_neg q4] at h
        cases h
        have hpl : pnd u ≤ 2 * u.length := pnd_le u
        have hp1 := pn1_le (j, c)
        have hc1 : (if c = 0 then 0 else 1) = pn1 (0, c) := by unfold pn1; simp
        have hj1 : pn1 (j, c) = (if j = 0 then 0 else 1) + pn1 (0, c) := by unfold pn1; simp
        refine ⟨⟨by show i0 ≤ i + 1; omega, lt (by omega), ?_, kd2s h4 (by omega), ?_, ?_, by simp, by simp; omega, fun p hp => ?_, Or.inr ⟨rfl, by simp; omega, c, u, rfl⟩⟩, rfl⟩
        · show (cd ++ vcode T F i :: opt j).length + pnd ((0, c) :: u) + i0 ≤ i + 1
          rw [List.length_append, List.length_cons, opt_len]
          simp only [pnd]
          omega
        · show okP F.length (cd ++ vcode T F i :: opt j) 0 (pnd ((0, c) :: u) + 1)
          refine h5.app ?_
          have o1 : okP F.length (opt j) (pn1 (j, c) + pnd u + 0 + 1) (pn1 (j, c) + pnd u + 0 + 1 - (if j = 0 then 0 else 1)) := opt_okP (by omega) (fun z => by
            rw [if_neg z] at hj1; omega)
          have e1 : pn1 (j, c) + pnd u + 0 + 1 - (if j = 0 then 0 else 1) = pnd ((0, c) :: u) + 1 := by simp only [pnd]; omega
          rw [e1] at o1
          unfold vcode
          by_cases q5 : kd T i = 12
          · rw [if_pos q5]
            show okP F.length ((1, nu T i) :: opt j) _ _
            unfold okP
            rw [if_pos rfl]
            exact ⟨hT.n h2 q5, by omega, o1⟩
          · rw [if_neg q5]
            have q6 : fdx F (wd T i) < F.length := Decidable.byContradiction fun z => q3 ⟨by omega, z⟩
            show okP F.length ((2, fdx F (wd T i)) :: opt j) _ _
            unfold okP
            rw [if_neg (by decide), if_pos rfl]
            exact ⟨q6, by omega, o1⟩
        · refine z0_app h6 (fun q hq => ?_)
          rcases List.mem_cons.mp hq with z | z
          · intro y1 y2
            rw [z] at y1 y2
            unfold vcode at y1 y2
            by_cases q5 : kd T i = 12
            · rw [if_pos q5] at y1; exact absurd rfl y1
            · rw [if_neg q5] at y2; exact absurd rfl y2
          · exact opt_z0 j q z
        · rcases List.mem_cons.mp hp with z | z
          · rw [z]; exact ⟨Or.inl rfl, hjc.2⟩
          · exact hu p z
      · rw [if_neg q2] at h; cases h
    · rw [stE_1 qm] at h
      obtain ⟨g1, g2, c', u', g3⟩ := h10.resolve_left qm
      injection g3 with g4 g5
      injection g4 with g6 g7
      subst g6; subst g1
      have hc1 : pn1 (0, c) = (if c = 0 then 0 else 1) := by unfold pn1; simp
      by_cases q1 : kd T i = 43 ∨ kd T i = 45
      · rw [if_pos q1] at h
        cases h
        have hk : pn1 (if kd T i = 43 then 3 else 4, c) = 1 + pn1 (0, c) := by
          unfold pn1; by_cases z : kd T i = 43
          · simp [z]
          · simp [z]
        refine ⟨⟨by show i0 ≤ i + 1; omega, lt (by omega), ?_, kd2s h4 (by omega), ?_, h6, by simp, by simp; omega, fun p hp => ?_, Or.inl rfl⟩, rfl⟩
        · show cd.length + pnd ((if kd T i = 43 then 3 else 4, c) :: u) + i0 ≤ i + 1
          simp only [pnd]; omega
        · show okP F.length cd 0 (pnd ((if kd T i = 43 then 3 else 4, c) :: u) + 0)
          simp only [pnd]
          rw [hk, show 1 + pn1 (0, c) + pnd u + 0 = pn1 (0, c) + pnd u + 1 by omega]; exact h5
        · rcases List.mem_cons.mp hp with z | z
          · rw [z]
            refine ⟨?_, hjc.2⟩
            show (if kd T i = 43 then 3 else 4) = 0 ∨ (if kd T i = 43 then 3 else 4) = 3 ∨ (if kd T i = 43 then 3 else 4) = 4
            by_cases y : kd T i = 43
            · rw [if_pos y]; exact Or.inr (Or.inl rfl)
            · rw [if_neg y]; exact Or.inr (Or.inr rfl)
          · exact hu p z
      rw [if_neg q1] at h
      by_cases q2 : c = 0 ∧ (kd T i = 60 ∨ kd T i = 61)
      · rw [if_pos q2] at h
        cases h
        obtain ⟨q3, q4⟩ := q2
        subst q3
        have hk : pn1 (0, if kd T i = 60 then 5 else 6) = 1 := by
          unfold pn1; by_cases z : kd T i = 60
          · simp [z]
          · simp [z]
        have h00 : pn1 (0, 0) = 0 := rfl
        refine ⟨⟨by show i0 ≤ i + 1; omega, lt (by omega), ?_, kd2s h4 (by omega), ?_, h6, by simp, by simp; omega, fun p hp => ?_, Or.inl rfl⟩, rfl⟩
        · show cd.length + pnd ((0, if kd T i = 60 then 5 else 6) :: u) + i0 ≤ i + 1
          simp only [pnd]; omega
        · show okP F.length cd 0 (pnd ((0, if kd T i = 60 then 5 else 6) :: u) + 0)
          simp only [pnd]
          rw [hk, show 1 + pnd u + 0 = pn1 (0, 0) + pnd u + 1 by omega]; exact h5
        · rcases List.mem_cons.mp hp with z | z
          · rw [z]
            refine ⟨Or.inl rfl, ?_⟩
            show (if kd T i = 60 then 5 else 6) = 0 ∨ (if kd T i = 60 then 5 else 6) = 5 ∨ (if kd T i = 60 then 5 else 6) = 6
            by_cases y : kd T i = 60
            · rw [if_pos y]; exact Or.inr (Or.inl rfl)
            · rw [if_neg y]; exact Or.inr (Or.inr rfl)
          · exact hu p z
      rw [if_neg q2] at h
      rcases u with _ | ⟨⟨j2, c2⟩, u2⟩
      · cases h
      · simp only at h
        by_cases q3 : kd T i = 41
        · rw [if_pos q3] at h
          cases h
          have hj2 : okL (j2, c2) := hu _ List.mem_cons_self
          have hj21 : j2 = 0 ∨ j2 = 3 ∨ j2 = 4 := hj2.1
          have hk : pn1 (j2, c2) = (if j2 = 0 then 0 else 1) + pn1 (0, c2) := by unfold pn1; simp
          simp only [pnd] at h3 h5
          rw [List.length_cons] at h7 h8 g2
          refine ⟨⟨by show i0 ≤ i + 1; omega, lt (by omega), ?_, kd2s h4 (by omega), ?_, z0_app (z0_app h6 (opt_z0 _)) (opt_z0 _), by simp, by simp; omega, fun p hp => ?_, Or.inr ⟨rfl, by simp; omega, c2, u2, rfl⟩⟩, rfl⟩
          · show (cd ++ opt c ++ opt j2).length + pnd ((0, c2) :: u2) + i0 ≤ i + 1
            rw [List.length_append, List.length_append, opt_len, opt_len]
            simp only [pnd]; omega
          · show okP F.length (cd ++ opt c ++ opt j2) 0 (pnd ((0, c2) :: u2) + 1)
            have o1 := opt_okP (nf := F.length) (j := c) (d := pn1 (0, c) + (pn1 (j2, c2) + pnd u2) + 1) (by omega) (fun z => by rw [if_neg z] at hc1; omega)
            have e1 : pn1 (0, c) + (pn1 (j2, c2) + pnd u2) + 1 - (if c = 0 then 0 else 1) = pn1 (j2, c2) + pnd u2 + 1 := by omega
            rw [e1] at o1
            have o2 := opt_okP (nf := F.length) (j := j2) (d := pn1 (j2, c2) + pnd u2 + 1) (by omega) (fun z => by rw [if_neg z] at hk; omega)
            have e2 : pn1 (j2, c2) + pnd u2 + 1 - (if j2 = 0 then 0 else 1) = pnd ((0, c2) :: u2) + 1 := by simp only [pnd]; omega
            rw [e2] at o2
            exact (h5.app o1).app o2
          · rcases List.mem_cons.mp hp with z | z
            · rw [z]; exact ⟨Or.inl rfl, hj2.2⟩
            · exact hu p (List.mem_cons_of_mem _ z)
        · rw [if_neg q3] at h; cases h
theorem stE_r {T : List Tk} {F : List Fct} {i0 : Nat} {s : StE} {r : Fml × Nat} (I : invE T F i0 s) (h : stE T F s = .inr (.ok r)) : endE T F i0 r := by
  obtain ⟨m, lv, cd, i⟩ := s
  obtain ⟨h1, h2, h3, h4, h5, h6, h7, h8, h9, h10⟩ := I
  simp only at h1 h2 h3 h4 h5 h6 h7 h8 h9 h10
  rcases lv with _ | ⟨⟨j, c⟩, u⟩
  · exact absurd h7 (by simp)
  · skip
    have hjc2 : c = 0 ∨ c = 5 ∨ c = 6 := (h9 _ List.mem_cons_self).2
    simp only [pnd] at h3 h5
    by_cases qm : m = 0
    · subst qm
      rw [stE_0] at h
      by_cases q1 : kd T i = 40
      · rw [if_pos q1] at h
        by_cases q2 : u.length = 5
        · rw [if_pos q2] at h; cases h
        · rw [if_neg q2] at h; cases h
      rw [if_neg q1] at h
      by_cases q2 : kd T i = 12 ∨ kd T i = 11
      · rw [if_pos q2] at h
        by_cases q3 : kd T i = 11 ∧ ¬ fdx F (wd T i) < F.length
        · rw [if_pos q3] at h; cases h
        rw [if_neg q3] at h
        by_cases q4 : u.length = 5
        · rw [if_pos q4] at h; cases h
        · rw [if_neg q4] at h; cases h
      · rw [if_neg q2] at h; cases h
    · rw [stE_1 qm] at h
      obtain ⟨g1, g2, c', u', g3⟩ := h10.resolve_left qm
      injection g3 with g4 g5
      injection g4 with g6 g7
      subst g6; subst g1
      have hc1 : pn1 (0, c) = (if c = 0 then 0 else 1) := by unfold pn1; simp
      by_cases q1 : kd T i = 43 ∨ kd T i = 45
      · rw [if_pos q1] at h; cases h
      rw [if_neg q1] at h
      by_cases q2 : c = 0 ∧ (kd T i = 60 ∨ kd T i = 61)
      · rw [if_pos q2] at h; cases h
      rw [if_neg q2] at h
      rcases u with _ | ⟨⟨j2, c2⟩, u2⟩
      · cases h
        simp only [pnd] at h3 h5
        have o1 := opt_okP (nf := F.length) (j := c) (d := pn1 (0, c) + 0 + 1) (by omega) (fun z => by rw [if_neg z] at hc1; omega)
        have e1 : pn1 (0, c) + 0 + 1 - (if c = 0 then 0 else 1) = 1 := by omega
        rw [e1] at o1
        exact ⟨h1, h2, by show (cd ++ opt c).length + i0 ≤ i; rw [List.length_append, opt_len]; omega, h4, (h5.app o1).F, z0_app h6 (opt_z0 _)⟩
      · simp only at h
        by_cases q3 : kd T i = 41
        · rw [if_pos q3] at h; cases h
        · rw [if_neg q3] at h; cases h
theorem runE_ok {T : List Tk} {F : List Fct} {i0 : Nat} {r : Fml × Nat} (hT : okT T) : ∀ (n : Nat) (s : StE), invE T F i0 s → runE T F n s = .ok r → endE T F i0 r
  | 0, s, I, h => by cases h
  | n + 1, s, I, h => by
    unfold runE at h
    match hs : stE T F s with
    | .inl s' => rw [hs] at h; exact runE_ok hT n s' (stE_l hT I hs).1 h
    | .inr (.ok r') => rw [hs] at h; cases h; exact stE_r I hs
    | .inr (.error e) => rw [hs] at h; cases h
theorem inv0 {T : List Tk} {F : List Fct} {i : Nat} (hi : i < T.length) : invE T F i (0, [(0, 0)], [], i) := by
  refine ⟨Nat.le_refl _, hi, ?_, fun q h1 h2 => ?_, rfl, fun q hq => ?_, Nat.le_refl _, ?_, fun p hp => ?_, Or.inl rfl⟩
  · show 0 + 0 + i ≤ i; omega
  · have h2' : q < i := h2
    omega
  · exact absurd hq List.not_mem_nil
  · show 1 ≤ 6; decide
  · rw [List.mem_singleton.mp hp]; exact ⟨Or.inl rfl, Or.inl rfl⟩
theorem pE_ok {T : List Tk} {F : List Fct} {i : Nat} {r : Fml × Nat} (hT : okT T) (hi : i < T.length) (h : pE T F i = .ok r) : endE T F i r := runE_ok hT _ _ (inv0 hi) h
/-- one turn -/
theorem runE_s {T : List Tk} {F : List Fct} {i0 : Nat} {s : StE} (I : invE T F i0 s) : runE T F (T.length - s.2.2.2) s = match stE T F s with
    | .inl s' => runE T F (T.length - (s.2.2.2 + 1)) s'
    | .inr r => r := by
  have h := I.2.1
  rw [show T.length - s.2.2.2 = (T.length - (s.2.2.2 + 1)) + 1 by omega]
  rfl
