/-! ===== what changes in the skeleton; all worlds gone through ===== -/
def mutR (b j : Nat) : Prop := (b = 8 ∧ j = 4) ∨ b = 10 ∨ (b = 21 ∧ (j = 3 ∨ j = 4))
def kup (k k' : Skl) : Prop := k.1 ≤ k'.1 ∧ (∀ b, b < k.1 → k'.2.1 b = k.2.1 b) ∧ ∀ b j, b < k.1 → ¬ mutR b j → k'.2.2 b j = k.2.2 b j
theorem kup.rf {k : Skl} : kup k k := ⟨Nat.le_refl _, fun _ _ => rfl, fun _ _ _ _ => rfl⟩
theorem kup.tr {k l n : Skl} (a : kup k l) (b : kup l n) : kup k n := ⟨Nat.le_trans a.1 b.1, fun q hq => (b.2.1 q (Nat.lt_of_lt_of_le hq a.1)).trans (a.2.1 q hq), fun q j hq hm => (b.2.2 q j (Nat.lt_of_lt_of_le hq a.1) hm).trans (a.2.2 q j hq hm)⟩
theorem kOb.up {k k' : Skl} {a c : Nat} (q : kup k k') (F : kOb k a c) : kOb k' a c := ⟨F.1, Nat.lt_of_lt_of_le F.2.1 q.1, by rw [q.2.1 a F.2.1]; exact F.2.2⟩
theorem kAr.up {k k' : Skl} {a c n : Nat} (q : kup k k') (F : kAr k a c n) : kAr k' a c n := ⟨F.1, Nat.lt_of_lt_of_le F.2.1 q.1, by rw [q.2.1 a F.2.1]; exact F.2.2.1, by rw [q.2.1 a F.2.1]; exact F.2.2.2⟩
def nm (a : Nat) : Prop := a ≠ 8 ∧ a ≠ 10 ∧ a ≠ 21
theorem nm.not {a j : Nat} (h : nm a) : ¬ mutR a j := by unfold nm at h; unfold mutR; omega
section UP
variable {k k' : Skl} {a : Nat}
theorem LX0.up (q : kup k k') (F : LX0 k a) (hm : nm a) : LX0 k' a := by
  have hr : ∀ j v, k.2.2 a j = v → k'.2.2 a j = v := fun j v e => (q.2.2 a j F.1.2.1 hm.not).trans e
  have h1 : ∀ b c, kOb k b c → kOb k' b c := fun b c => kOb.up q
  have h2 : ∀ b c n, kAr k b c n → kAr k' b c n := fun b c n => kAr.up q
  revert F; unfold LX0
  repeat' first | exact h1 _ _ | exact hr _ _ | exact h2 _ _ _ | apply And.imp
theorem LX1.up (q : kup k k') (F : LX1 k a) (hm : nm a) : LX1 k' a := by
  have hr : ∀ j v, k.2.2 a j = v → k'.2.2 a j = v := fun j v e => (q.2.2 a j F.1.2.1 hm.not).trans e
  have h1 : ∀ b c, kOb k b c → kOb k' b c := fun b c => kOb.up q
  have h2 : ∀ b c n, kAr k b c n → kAr k' b c n := fun b c n => kAr.up q
  revert F; unfold LX1
  repeat' first | exact h1 _ _ | exact hr _ _ | exact h2 _ _ _ | apply And.imp
theorem LX2.up (q : kup k k') (F : LX2 k a) (hm : nm a) : LX2 k' a := by
  have hr : ∀ j v, k.2.2 a j = v → k'.2.2 a j = v := fun j v e => (q.2.2 a j F.1.2.1 hm.not).trans e
  have h1 : ∀ b c, kOb k b c → kOb k' b c := fun b c => kOb.up q
  have h2 : ∀ b c n, kAr k b c n → kAr k' b c n := fun b c n => kAr.up q
  revert F; unfold LX2
  repeat' first | exact h1 _ _ | exact hr _ _ | exact h2 _ _ _ | apply And.imp
theorem LX3.up (q : kup k k') (F : LX3 k a) (hm : nm a) : LX3 k' a := by
  have hr : ∀ j v, k.2.2 a j = v → k'.2.2 a j = v := fun j v e => (q.2.2 a j F.1.2.1 hm.not).trans e
  have h1 : ∀ b c, kOb k b c → kOb k' b c := fun b c => kOb.up q
  have h2 : ∀ b c n, kAr k b c n → kAr k' b c n := fun b c n => kAr.up q
  revert F; unfold LX3
  repeat' first | exact h1 _ _ | exact hr _ _ | exact h2 _ _ _ | apply And.imp
theorem LX4.up (q : kup k k') (F : LX4 k a) (hm : nm a) : LX4 k' a := by
  obtain ⟨f1, f2, f3⟩ := F
  have e : (k'.2.1 (a + 1)) = (k.2.1 (a + 1)) := q.2.1 _ f3.2.1
  refine ⟨f1.up q, (q.2.2 a 0 f1.2.1 hm.not).trans f2, ?_⟩
  rw [e]; exact f3.up q
theorem LX5.up (q : kup k k') (F : LX5 k a) : LX5 k' a := kOb.up q F
theorem LX6.up (q : kup k k') (F : LX6 k a) (hm : nm a) : LX6 k' a := by
  have hr : ∀ j v, k.2.2 a j = v → k'.2.2 a j = v := fun j v e => (q.2.2 a j F.1.2.1 hm.not).trans e
  have h1 : ∀ b c, kOb k b c → kOb k' b c := fun b c => kOb.up q
  have h2 : ∀ b c n, kAr k b c n → kAr k' b c n := fun b c n => kAr.up q
  revert F; unfold LX6
  repeat' first | exact h1 _ _ | exact hr _ _ | exact h2 _ _ _ | apply And.imp
theorem LX11.up (q : kup k k') (F : LX11 k a) (hm : nm a) : LX11 k' a := by
  have hr : ∀ j v, k.2.2 a j = v → k'.2.2 a j = v := fun j v e => (q.2.2 a j F.1.2.1 hm.not).trans e
  have h1 : ∀ b c, kOb k b c → kOb k' b c := fun b c => kOb.up q
  have h2 : ∀ b c n, kAr k b c n → kAr k' b c n := fun b c n => kAr.up q
  revert F; unfold LX11
  repeat' first | exact h1 _ _ | exact hr _ _ | exact h2 _ _ _ | apply And.imp
theorem LX8.up (q : kup k k') (F : LX8 k 21) : LX8 k' 21 := by
  have hr : ∀ j v, (j ≠ 3 ∧ j ≠ 4) → k.2.2 21 j = v → k'.2.2 21 j = v := fun j v hj e => (q.2.2 21 j F.1.2.1 (by unfold mutR; omega)).trans e
  obtain ⟨f1, ⟨f2, f3⟩, ⟨f4, f5⟩, f6, f7⟩ := F
  exact ⟨f1.up q, ⟨hr _ _ (by decide) f2, f3.up q (by unfold nm; decide)⟩, ⟨hr _ _ (by decide) f4, f5.up q (by unfold nm; decide)⟩, hr _ _ (by decide) f6, f7.up q (by unfold nm; decide)⟩
theorem LX10.up (q : kup k k') (F : LX10 k 8) : LX10 k' 8 := by
  have hr : ∀ j v, j ≠ 4 → k.2.2 8 j = v → k'.2.2 8 j = v := fun j v hj e => (q.2.2 8 j F.1.2.1 (by unfold mutR; omega)).trans e
  obtain ⟨f1, ⟨f2, f3⟩, ⟨f4, f5⟩, ⟨f6, f7⟩, ⟨f8, f9⟩, ⟨f10, f11⟩, f12, f13⟩ := F
  exact ⟨f1.up q, ⟨hr _ _ (by decide) f2, f3.up q⟩, ⟨hr _ _ (by decide) f4, f5.up q⟩, ⟨hr _ _ (by decide) f6, f7.up q (by unfold nm; decide)⟩, ⟨hr _ _ (by decide) f8, f9.up q (by unfold nm; decide)⟩, ⟨hr _ _ (by decide) f10, f11.up q (by unfold nm; decide)⟩, hr _ _ (by decide) f12, f13.up q⟩
end UP
/-- the editions' cells are as they were, cells may have come -/
def agU (h t : SH) : Prop := kup (Sk h) (Sk t) ∧ ∀ b, 73 ≤ b → b < hz h → hI t b = hI h b ∧ hJ t b = hJ h b
theorem agU.rf {h : SH} : agU h h := ⟨kup.rf, fun _ _ _ => ⟨rfl, rfl⟩⟩
theorem agU.tr {h t u : SH} (a : agU h t) (b : agU t u) : agU h u := ⟨a.1.tr b.1, fun q h1 h2 => ⟨(b.2 q h1 (Nat.lt_of_lt_of_le h2 a.1.1)).1.trans (a.2 q h1 h2).1, (b.2 q h1 (Nat.lt_of_lt_of_le h2 a.1.1)).2.trans (a.2 q h1 h2).2⟩⟩
theorem nm73 {a : Nat} (h : 73 ≤ a) : nm a := by unfold nm; omega
theorem agU.A {h t : SH} (a : agU h t) {b j : Nat} (h1 : 73 ≤ b) (h2 : b < hz h) : hA t b j = hA h b j := a.1.2.2 b j h2 (nm73 h1).not
theorem FmC.cu {h t : SH} {f : Nat} {o : Fml} (a : agU h t) (hf : 73 ≤ f) (F : FmC h f o) : FmC t f o := by
  obtain ⟨L, h1, h2, h3⟩ := F
  have hb : f + 1 < hz h := L.2.2.2.1
  refine ⟨L.up a.1 (nm73 hf), ?_, h2, fun i hi => by rw [(a.2 (f + 1) (by omega) hb).1]; exact h3 i hi⟩
  have : (Sk t).2.1 (f + 1) = (Sk h).2.1 (f + 1) := a.1.2.1 _ hb
  show ((Sk t).2.1 (f + 1)).2 = _
  rw [this]; exact h1
theorem ItC.cu {h t : SH} {q : Nat} {it : Itm} (a : agU h t) (F : ItC h q it) : ItC t q it := by
  obtain ⟨h1, L, h2, h3, h4, h5⟩ := F
  have hb : q < hz h := L.2.1
  have e := a.2 q h1 hb
  refine ⟨h1, L.up a.1, by rw [e.1]; exact h2, fun z => by rw [e.2]; exact h3 z, fun z => by rw [e.1]; exact h4 z, fun z => ?_⟩
  obtain ⟨f, g1, g2, g3⟩ := h5 z
  exact ⟨f, g1, by rw [a.A h1 hb]; exact g2, g3.cu a g1⟩
theorem ClC.cu {h t : SH} {b : Nat} {c : Cls} (a : agU h t) (F : ClC h b c) : ClC t b c := by
  obtain ⟨h1, L, h2, h3, ⟨f, g1, g2, g3⟩, h4, h5, h6, h7, h8, h9⟩ := F
  have hb : b < hz h := L.1.2.1
  have hb1 : b + 3 < hz h := L.2.1.2.2.1
  have hb2 : b + 4 < hz h := L.2.2.1.2.2.1
  have hb3 : b + 5 < hz h := L.2.2.2.2.2.1
  have e := (a.2 b h1 hb).1
  have e1 := (a.2 (b + 3) (by omega) hb1).1
  have e2 := (a.2 (b + 4) (by omega) hb2).1
  refine ⟨h1, L.up a.1 (nm73 h1), by rw [e]; exact h2, by rw [e]; exact h3, ⟨f, g1, by rw [a.A h1 hb]; exact g2, g3.cu a g1⟩, by rw [e]; exact h4, fun j hj => by rw [e1]; exact h5 j hj, by rw [e]; exact h6, fun j hj => by rw [e2]; exact h7 j hj, by rw [e]; exact h8, fun j hj => ?_⟩
  obtain ⟨q, q1, q2⟩ := h9 j hj
  exact ⟨q, by rw [a.A (show 73 ≤ b + 5 by omega) hb3]; exact q1, q2.cu a⟩
theorem EdC.cu {h t : SH} {e : Nat} {E : Edn} (a : agU h t) (F : EdC h e E) : EdC t e E := by
  obtain ⟨h1, L, h2, h3, h4, h5, h6, h7, h8⟩ := F
  have k := L.ks
  have e0 := (a.2 e h1 k.1.2.1).1
  have e1 := (a.2 (e + 1) (by omega) k.2.1.2.1).2
  have e2 := (a.2 (e + 2) (by omega) k.2.2.1.2.1).1
  have e3 := (a.2 (e + 3) (by omega) k.2.2.2.1.2.1).1
  have e5 := (a.2 (e + 5) (by omega) k.2.2.2.2.2.1.2.1).1
  refine ⟨h1, L.up a.1 (nm73 h1), by rw [e0]; exact h2, by rw [e0]; exact h3, by rw [e0]; exact h4, by rw [e0]; exact h5, fun q hq => by rw [e1, e2, e3]; exact h6 q hq, fun c hc => ?_, fun i hi => by rw [e5]; exact h8 i hi⟩
  obtain ⟨b, g1, g2⟩ := h7 c hc
  exact ⟨b, by rw [a.A (show 73 ≤ e + 4 by omega) k.2.2.2.2.1.2.1]; exact g1, g2.cu a⟩
/-- how many, which first -/
def cn (p : Nat → Bool) (n : Nat) : Nat := ((List.range n).filter p).length
def fst1 (p : Nat → Bool) (n : Nat) : Int32 := match (List.range n).find? p with
  | some w => nI w
  | none => -1
theorem cn_s (p : Nat → Bool) (n : Nat) : cn p (n + 1) = cn p n + (if p n = true then 1 else 0) := by
  unfold cn; rw [List.range_succ, List.filter_append, List.length_append]
  by_cases h : p n = true <;> simp [h]
theorem cn_le (p : Nat → Bool) (n : Nat) : cn p n ≤ n := by have := List.length_filter_le p (List.range n); rw [List.length_range] at this; exact this
theorem cn_0 {p : Nat → Bool} {n : Nat} : cn p n = 0 ↔ (List.range n).find? p = none := by
  unfold cn; rw [List.length_eq_zero_iff, List.filter_eq_nil_iff, List.find?_eq_none]
theorem fst_s (p : Nat → Bool) (n : Nat) : fst1 p (n + 1) = if cn p n = 0 then (if p n = true then nI n else -1) else fst1 p n := by
  unfold fst1
  rw [List.range_succ, List.find?_append]
  by_cases h : cn p n = 0
  · rw [if_pos h, cn_0.mp h]
    by_cases q : p n = true
    · simp [q]
    · simp [q]
  · rw [if_neg h]
    cases e : (List.range n).find? p with
    | none => exact absurd (cn_0.mpr e) h
    | some w => rfl
theorem fst_0 {p : Nat → Bool} {n : Nat} (h : cn p n = 0) : fst1 p n = -1 := by unfold fst1; rw [cn_0.mp h]
theorem fst_n {p : Nat → Bool} {n : Nat} (h : ¬ cn p n = 0) (hn : n < 2 ^ 31) : (0 : Int32) ≤ fst1 p n := by
  unfold fst1
  cases e : (List.range n).find? p with
  | none => exact absurd (cn_0.mpr e) h
  | some w =>
    have := List.mem_range.mp (List.mem_of_find?_eq_some e)
    exact nI_pos' (by omega)
def jq (E : Edn) (w : Nat) : Nat := (quar E (insd E (csW E w))).1
def jp (E : Edn) (k w : Nat) : Bool := decide (jq E w = k)
def JC (h : SH) (e : Nat) (E : Edn) : Prop := (hI h e 10 = 0 ∧ ∀ k, k < 5 → hI h (e + 6) k = 0) ∨ (hI h e 10 = 1 ∧ ∀ k, k < 5 → hI h (e + 6) k = nI (cn (jp E k) (worlds E)) ∧ hI h (e + 7) k = fst1 (jp E k) (worlds E))
def dp (FL : List Nat) (E E2 : Edn) (day w : Nat) : Bool := !decide ((lett (dueN FL day) E (csW E w)).1 = (lett (dueN FL day) E2 (csW E w)).1 ∧ (lett (dueN FL day) E (csW E w)).2.2 = (lett (dueN FL day) E2 (csW E w)).2.2)
theorem csW_w {E : Edn} (ok : okE E) {w k : Nat} (hk : k < (eF E).length) : (csW E w k).toInt.natAbs ≤ 9999 := by
  obtain ⟨n, e, h1, h2⟩ := csW_in ok (w := w) hk
  have := ok_fact ok hk
  rw [e, nI_toInt (by omega)]; omega
section SV
variable {X : GX} {h : SH} {a e c m b e2 : Nat} {E E2 : Edn} {cs : Nat → Int32} {L FL : List Nat} {day : Nat}
theorem c_fill {n : Nat} {v : Int32} (F : Ar h a 20 n) (hn : n < 2 ^ 31) : Cd X mJ7_fill_53178 [.ref a, .int v] h 0 0 (oV (fun t => chI (· = a) h t ∧ ∀ k, k < n → hI t a k = v) nX) := by
  generalize hP : oV (fun t => chI (· = a) h t ∧ ∀ k, k < n → hI t a k = v) nX = P
  refine bkJ7_fill_53178_0 (n2 := n) F ?_
  refine for_up (G := fun i u => Gd X mJ7_fill_53178 5 [some (.ref a), some (.int v), some (.int (nI i)), some (.int (Int32.ofNat n))] [] u 0 0 P) (I := fun i t => chI (· = a) h t ∧ ∀ k, k < i → hI t a k = v) n ?_ ?_ 0 h (Nat.zero_le _) ⟨chI.rf, fun k hk => absurd hk (Nat.not_lt_zero _)⟩
  · rintro t k
    refine bkJ7_fill_53178_5 (fun _ => bkJ7_fill_53178_20 ?_) (fun q => absurd (Int32.le_refl _) q)
    rw [← hP]; exact k
  · rintro i t hi ⟨k1, k2⟩ ih
    have F' : Ar t a 20 n := ⟨F.1, by rw [k1.hz]; exact F.2.1, by rw [k1.hK]; exact F.2.2.1, by rw [k1.hN]; exact F.2.2.2⟩
    refine bkJ7_fill_53178_5 (fun q => absurd q (nI_ge hi (by omega))) (fun _ => ?_)
    refine bkJ7_fill_53178_10 (n4 := n) F' (vp_in_nI hi hn) ?_
    rw [nI_clamp (by omega), nI_1]
    refine ih _ ⟨k1.s rfl, fun k hk => ?_⟩
    by_cases z : k = i
    · subst z; rw [sI_at]
    · rw [sI_nj z]; exact k2 k (by omega)
/-- what judging writes -/
def jok (a e : Nat) (h t : SH) : Prop := chI (fun b => (a + 1 ≤ b ∧ b ≤ a + 8) ∨ b = e ∨ b = e + 6 ∨ b = e + 7) h t ∧ ∀ j, j ≠ 10 → hI t e j = hI h e j
theorem jok.tr {h t u : SH} (p : jok a e h t) (q : jok a e t u) : jok a e h u := ⟨p.1.tr q.1, fun j hj => (q.2 j hj).trans (p.2 j hj)⟩
theorem jok.ag {h t : SH} (p : jok a e h t) (ha : a + 13 < 73) (he : 73 ≤ e) (L : LX3 (Sk h) e) : ag h t := ⟨p.1.1, fun b _ => by rw [p.1.2.1], fun b j hb hn => by
  by_cases z : b = e
  · subst z
    exact p.2 j (fun y => hn ⟨b, L, Or.inl ⟨rfl, y⟩⟩)
  · rw [p.1.2.2 b ?_]
    rintro (y | y | y | y)
    · omega
    · exact z y
    · exact hn ⟨e, L, Or.inr (Or.inl y)⟩
    · exact hn ⟨e, L, Or.inr (Or.inr y)⟩⟩
theorem c_judgeWorlds (hE : EdC h e E) (ok : okE E) (F : LX8 (Sk h) a) (ha : a + 13 < 73) (J : JC h e E) : Cd X mX8_judgeWorlds [.ref a, .ref e] h 0 0 (oV (fun t => jok a e h t ∧ hI t e 10 = 1 ∧ ∀ k, k < 5 → hI t (e + 6) k = nI (cn (jp E k) (worlds E)) ∧ hI t (e + 7) k = fst1 (jp E k) (worlds E)) nX) := by
  generalize hP : oV (fun t => jok a e h t ∧ hI t e 10 = 1 ∧ ∀ k, k < 5 → hI t (e + 6) k = nI (cn (jp E k) (worlds E)) ∧ hI t (e + 7) k = fst1 (jp E k) (worlds E)) nX = P
  have he := hE.1
  have hwb : worlds E ≤ 2000 := ok.2.2.2.2.1
  refine bkX8_judgeWorlds_0 hE.2.1 (fun q => ?_) (fun q => ?_)
  · rcases J with J | J
    · have c1 : jok a e h (sI h e 10 1) := ⟨chI.rf.s (Or.inr (Or.inl rfl)), fun j hj => sI_nj hj⟩
      refine bkX8_judgeWorlds_8 hE.2.1 (c_fill (n := 5) (LX3.a_quarrelLeast (h := sI h e 10 1) hE.2.1) (by omega)) (fun t hq => ?_)
      have c2 : jok a e h t := c1.tr ⟨hq.1.up (fun b z => Or.inr (Or.inr (Or.inr z))), fun j hj => by rw [hq.1.2.2 e (by omega)]⟩
      refine bkX8_judgeWorlds_21 ?_
      have kp : ∀ t, jok a e h t → EdC t e E ∧ LX8 (Sk t) a := fun t q => ⟨hE.cg (q.ag ha he hE.2.1), q.1.1 ▸ F⟩
      refine for_up (G := fun w u => Gd X mX8_judgeWorlds 23 [some (.ref a), some (.ref e), some (.int (nI w)), none] [] u 0 0 P)
        (I := fun w t => jok a e h t ∧ hI t e 10 = 1 ∧ ∀ k, k < 5 → hI t (e + 6) k = nI (cn (jp E k) w) ∧ hI t (e + 7) k = fst1 (jp E k) w) (worlds E) ?_ ?_ 0 t (Nat.zero_le _) ⟨c2, ?_, fun k hk => ⟨?_, ?_⟩⟩
      · rintro t k
        have K := kp t k.1
        refine bkX8_judgeWorlds_23 K.1.2.1 (fun _ => bkX8_judgeWorlds_92 ?_) (fun q => absurd (by rw [K.1.2.2.2.2.1]; exact (Int32.le_refl _)) q)
        rw [← hP]; exact k
      · rintro w t hw ⟨k1, k2, k3⟩ ih
        have K := kp t k1
        refine bkX8_judgeWorlds_23 K.1.2.1 (fun q => ?_) (fun _ => ?_)
        · rw [K.1.2.2.2.2.1] at q; exact absurd q (nI_ge hw (by omega))
        refine bkX8_judgeWorlds_31 K.2 (c_setWorld K.1 ok (LX8.l_tried K.2) (by omega) (by omega)) (fun u hq => ?_)
        have c3 : jok a e h u := k1.tr ⟨hq.1.up (fun b z => Or.inl (by omega)), fun j hj => by rw [hq.1.2.2 e (by omega)]⟩
        have K3 := kp u c3
        refine bkX8_judgeWorlds_40 K3.2 (c_settle (cs := csW E w) K3.1 ok (LX8.l_letterOfOne K3.2) (by omega) (LX8.l_tried K3.2) (by omega) (Or.inl (by omega)) (fun k hk => hq.2 k hk)) (fun v hq2 => ?_)
        obtain ⟨s1, s2, s3, s4⟩ := hq2
        have c4 : jok a e h v := c3.tr ⟨s1.up (fun b z => Or.inl (by unfold stS at z; omega)), fun j hj => by rw [s1.2.2 e (by unfold stS; omega)]⟩
        have K4 := kp v c4
        have e6 : hI v (e + 6) = hI t (e + 6) := (s1.2.2 (e + 6) (by unfold stS; omega)).trans (hq.1.2.2 (e + 6) (by omega))
        have e7 : hI v (e + 7) = hI t (e + 7) := (s1.2.2 (e + 7) (by unfold stS; omega)).trans (hq.1.2.2 (e + 7) (by omega))
        have e10 : hI v e 10 = 1 := by rw [s1.2.2 e (by unfold stS; omega), hq.1.2.2 e (by omega)]; exact k2
        have eq : hI v (a + 4) 6 = nI (jq E w) := s4.1
        have hj4 : jq E w ≤ 4 := quar_4 E _
        have hcl := cn_le (jp E (jq E w)) w
        have hpw : ∀ k, jp E k w = true ↔ k = jq E w := fun k => by unfold jp; rw [decide_eq_true_iff]; exact eq_comm
        have fin : ∀ (u : SH), jok a e h u → hI u e 10 = 1 → (∀ k, hI u (e + 6) k = hI v (e + 6) k) → (∀ k, k < 5 → hI u (e + 7) k = fst1 (jp E k) (w + 1)) → Gd X mX8_judgeWorlds 76 [some (.ref a), some (.ref e), some (.int (nI w)), some (.int (nI (jq E w)))] [] u 0 0 P := fun u g1 g2 g3 g4 => by
          have K5 := kp u g1
          refine bkX8_judgeWorlds_76 K5.1.2.1 (vp_in_nI (by omega) (by omega)) ?_
          rw [nI_clamp (by omega), nI_1]
          refine ih _ ⟨g1.tr ⟨chI.rf.s (Or.inr (Or.inr (Or.inl rfl))), fun j hj => by rw [sI_nb (by omega)]⟩, by rw [sI_nb (by omega)]; exact g2, fun k hk => ⟨?_, ?_⟩⟩
          · by_cases z : k = jq E w
            · subst z
              rw [sI_at, g3, e6, (k3 _ hk).1, nI_1, cn_s, if_pos ((hpw _).mpr rfl)]
            · rw [sI_nj z, g3, e6, (k3 _ hk).1, cn_s, if_neg (fun y => z ((hpw k).mp y)), Nat.add_zero]
          · rw [sI_nb (by omega)]; exact g4 k hk
        refine bkX8_judgeWorlds_52 K4.2 K4.1.2.1 (by rw [eq]; exact (vp_in_nI (by omega) (by omega))) (fun q => ?_) (fun q => ?_)
        · rw [eq] at q ⊢
          rw [nI_clamp (by omega), e6, (k3 _ (show jq E w < 5 by omega)).1, n0, nI_eq (by omega) (by omega)] at q
          refine fin v c4 e10 (fun _ => rfl) (fun k hk => ?_)
          rw [e7, (k3 k hk).2, fst_s]
          by_cases z : k = jq E w
          · subst z; rw [if_neg q]
          · by_cases y : cn (jp E k) w = 0
            · rw [if_pos y, if_neg (fun y => z ((hpw k).mp y)), fst_0 y]
            · rw [if_neg y]
        · rw [eq] at q ⊢
          rw [nI_clamp (by omega), e6, (k3 _ (show jq E w < 5 by omega)).1, n0, nI_eq (by omega) (by omega)] at q
          refine bkX8_judgeWorlds_69 K4.1.2.1 (vp_in_nI (by omega) (by omega)) ?_
          rw [nI_clamp (by omega)]
          refine fin _ (c4.tr ⟨chI.rf.s (Or.inr (Or.inr (Or.inr rfl))), fun j hj => by rw [sI_nb (by omega)]⟩) (by rw [sI_nb (by omega)]; exact e10) (fun k => by rw [sI_nb (by omega)]) (fun k hk => ?_)
          rw [fst_s]
          by_cases z : k = jq E w
          · subst z; rw [sI_at, if_pos q, if_pos ((hpw _).mpr rfl)]
          · rw [sI_nj z, e7, (k3 k hk).2]
            by_cases y : cn (jp E k) w = 0
            · rw [if_pos y, if_neg (fun y => z ((hpw k).mp y)), fst_0 y]
            · rw [if_neg y]
      · rw [hq.1.2.2 e (by omega), sI_at]
      · rw [hq.1.2.2 (e + 6) (by omega), sI_nb (by omega)]; exact J.2 k hk
      · exact hq.2 k hk
    · rw [J.1] at q; exact absurd q (by decide)
  · refine bkX8_judgeWorlds_7 ?_
    rw [← hP]
    rcases J with J | J
    · exact absurd J.1 q
    · exact ⟨⟨chI.rf, fun _ _ => rfl⟩, J.1, J.2⟩
end SV
