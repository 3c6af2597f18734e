/-! ===== the pure side: editions, formulas; how they lie in the heap ===== -/
/-- only the rows of ints in S have changed -/
def chI (S : Nat → Prop) (h t : SH) : Prop := Sk t = Sk h ∧ hJ t = hJ h ∧ ∀ b, ¬ S b → hI t b = hI h b
theorem chI.rf {S : Nat → Prop} {h : SH} : chI S h h := ⟨rfl, rfl, fun _ _ => rfl⟩
theorem chI.tr {S : Nat → Prop} {h t u : SH} (a : chI S h t) (b : chI S t u) : chI S h u := ⟨b.1.trans a.1, b.2.1.trans a.2.1, fun q hq => (b.2.2 q hq).trans (a.2.2 q hq)⟩
theorem chI.up {S S' : Nat → Prop} {h t : SH} (a : chI S h t) (hs : ∀ b, S b → S' b) : chI S' h t := ⟨a.1, a.2.1, fun q hq => a.2.2 q (fun z => hq (hs q z))⟩
theorem chI.s {S : Nat → Prop} {h t : SH} {a i : Nat} {v : Int32} (c : chI S h t) (ha : S a) : chI S h (sI t a i v) :=
  ⟨c.1, c.2.1, fun b hb => (funext fun j => by rw [hI_sI, if_neg (fun q : b = a ∧ j = i => hb (q.1 ▸ ha))]).trans (c.2.2 b hb)⟩
theorem chI.hA {S : Nat → Prop} {h t : SH} (a : chI S h t) : hA t = hA h := congrArg (fun k : Skl => k.2.2) a.1
theorem chI.hN {S : Nat → Prop} {h t : SH} (a : chI S h t) (b : Nat) : hN t b = hN h b := congrArg (fun k : Skl => (k.2.1 b).2) a.1
theorem chI.hK {S : Nat → Prop} {h t : SH} (a : chI S h t) (b : Nat) : hK t b = hK h b := congrArg (fun k : Skl => (k.2.1 b).1) a.1
theorem chI.hz {S : Nat → Prop} {h t : SH} (a : chI S h t) : hz t = hz h := congrArg (fun k : Skl => k.1) a.1
theorem sI_at {h : SH} {a i : Nat} {v : Int32} : hI (sI h a i v) a i = v := by rw [hI_sI, if_pos ⟨rfl, rfl⟩]
theorem sI_ne {h : SH} {a i b j : Nat} {v : Int32} (q : ¬ (b = a ∧ j = i)) : hI (sI h a i v) b j = hI h b j := by rw [hI_sI, if_neg q]
theorem sI_nj {h : SH} {a i j : Nat} {v : Int32} (q : ¬ j = i) : hI (sI h a i v) a j = hI h a j := sI_ne (fun z => q z.2)
theorem sI_nb {h : SH} {a i b : Nat} {v : Int32} (q : ¬ b = a) : hI (sI h a i v) b = hI h b := funext fun _ => sI_ne (fun z => q z.1)
abbrev Fml : Type := List (Nat × Nat)
/-- kind (0 a word, 1 = E, 2 ref, 3 day E), word, target, formula -/
abbrev Itm : Type := Nat × List Nat × Nat × Fml
/-- at, must, when, needs, bars, items -/
abbrev Cls : Type := Nat × Bool × Fml × List Nat × List Nat × List Itm
abbrev Fct : Type := List Nat × Nat × Nat
/-- day, facts, clauses -/
abbrev Edn : Type := Nat × List Fct × List Cls
def enc32 (w : List Nat) : Int64 := w.foldl (fun v l => v * 32 + lN l) 0
def enc37 (w : List Nat) : Int64 := w.foldl (fun v l => 37 * v + lN l) 0
def jn (c : Nat) (a b : Int32) : Int32 := if c = 3 then a + b else if c = 4 then a - b else if c = 5 then (if a < b then 1 else 0) else (if a = b then 1 else 0)
/-- a formula's run, the top first -/
def evS (cs : Nat → Int32) : Fml → List Int32 → List Int32
  | [], s => s
  | (c, x) :: r, s => if c = 1 then evS cs r (nI x :: s) else if c = 2 then evS cs r (cs x :: s) else match s with
    | b :: a :: u => evS cs r (jn c a b :: u)
    | _ => []
def evF (cs : Nat → Int32) (f : Fml) : Int32 := (evS cs f []).headD 0
/-- from d open values on the rest of a formula ends with one, never above 11 -/
def okF (nf : Nat) : Fml → Nat → Prop
  | [], d => d = 1
  | (c, x) :: r, d => if c = 1 then x ≤ 9999 ∧ d < 11 ∧ okF nf r (d + 1) else if c = 2 then x < nf ∧ d < 11 ∧ okF nf r (d + 1) else 3 ≤ c ∧ c ≤ 6 ∧ 2 ≤ d ∧ okF nf r (d - 1)
/-- a row holds a stack, the bottom at 0 -/
def SR (f : Nat → Int32) (s : List Int32) : Prop := ∀ (i : Nat) (hi : i < s.length), f i = s[s.length - 1 - i]
theorem SR.push {f g : Nat → Int32} {s : List Int32} {v : Int32} (h : SR f s) (hg : ∀ i, i < s.length → g i = f i) (hv : g s.length = v) : SR g (v :: s) := by
  intro i hi
  rw [List.length_cons] at hi
  by_cases q : i = s.length
  · subst q; rw [hv]; simp
  · have hi2 : i < s.length := by omega
    rw [hg i hi2, h i hi2]
    have e : (v :: s).length - 1 - i = (s.length - 1 - i) + 1 := by rw [List.length_cons]; omega
    simp only [e, List.getElem_cons_succ]
theorem SR.join {f g : Nat → Int32} {u : List Int32} {a b v : Int32} (h : SR f (b :: a :: u)) (hg : ∀ i, i < u.length → g i = f i) (hv : g u.length = v) : SR g (v :: u) := by
  refine SR.push (f := f) (fun i hi => ?_) hg hv
  rw [h i (by simp; omega)]
  have e : (b :: a :: u).length - 1 - i = (u.length - 1 - i) + 1 + 1 := by simp; omega
  simp only [e, List.getElem_cons_succ]
theorem SR.top {f : Nat → Int32} {u : List Int32} {a b : Int32} (h : SR f (b :: a :: u)) : f (u.length + 1) = b ∧ f u.length = a := by
  constructor
  · rw [h (u.length + 1) (by simp)]; simp
  · rw [h u.length (by simp; omega)]; simp
theorem evS_len {nf : Nat} {cs : Nat → Int32} : ∀ (r : Fml) (s : List Int32), okF nf r s.length → ∃ v, evS cs r s = [v]
  | [], s, h => by
    have h1 : s.length = 1 := h
    match s, h1 with
    | [v], _ => exact ⟨v, rfl⟩
  | (c, x) :: r, s, h => by
    unfold okF at h
    unfold evS
    by_cases q1 : c = 1
    · rw [if_pos q1] at h ⊢
      exact evS_len r _ h.2.2
    · rw [if_neg q1] at h ⊢
      by_cases q2 : c = 2
      · rw [if_pos q2] at h ⊢
        exact evS_len r _ h.2.2
      · rw [if_neg q2] at h ⊢
        match s, h with
        | b :: a :: u, h => exact evS_len r _ h.2.2.2
        | [], h => exact absurd h.2.2.1 (by simp)
        | [_], h => exact absurd h.2.2.1 (by simp)
/-- a formula's object; a formula in the model's rows of codes -/
def FmC (h : SH) (f : Nat) (o : Fml) : Prop := LX4 (Sk h) f ∧ hN h (f + 1) = o.length ∧ o.length ≤ 2400 ∧ ∀ (i : Nat) (hi : i < o.length), hI h (f + 1) i = nI (o[i].1 + 8 * o[i].2)
def FmM (h : SH) (m e s : Nat) (o : Fml) : Prop := s + o.length < 2600 ∧ (∀ (i : Nat) (hi : i < o.length), hI h (m + 23) (2600 * e + s + i) = nI o[i].1 ∧ hI h (m + 24) (2600 * e + s + i) = nI o[i].2) ∧ hI h (m + 23) (2600 * e + s + o.length) = 0
theorem nIl (n : Nat) [OfNat Int32 n] (h : (OfNat.ofNat n : Int32) = nI n) : (OfNat.ofNat n : Int32) = nI n := h
theorem n0 : (0 : Int32) = nI 0 := rfl
theorem n1 : (1 : Int32) = nI 1 := rfl
theorem n2 : (2 : Int32) = nI 2 := rfl
theorem n3 : (3 : Int32) = nI 3 := rfl
theorem n4 : (4 : Int32) = nI 4 := rfl
theorem n5 : (5 : Int32) = nI 5 := rfl
theorem n6 : (6 : Int32) = nI 6 := rfl
theorem n7 : (7 : Int32) = nI 7 := rfl
theorem n8 : (8 : Int32) = nI 8 := rfl
theorem n9999 : (9999 : Int32) = nI 9999 := rfl
theorem n2600 : (2600 : Int32) = nI 2600 := rfl
theorem n40 : (40 : Int32) = nI 40 := rfl
