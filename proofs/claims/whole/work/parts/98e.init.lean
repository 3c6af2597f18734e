/-! ===== the heap at the loop's start ===== -/
def h00 : SH := (8, fun _ => (0, 0), fun _ _ => 0, fun _ _ => 0, fun _ _ => none)
def hD0 : SH := Ca10 (nw h00 10 0) 8
def hM0 : SH := Ca11 (nw hD0 11 0) 35
def hL0 : SH := nw hM0 23 1
theorem hD0_z : hz hD0 = 35 := by decide +kernel
theorem hM0_z : hz hM0 = 73 := by decide +kernel
theorem hL0_z : hz hL0 = 74 := by decide +kernel
theorem hL0_10 : LX10 (Sk hL0) 8 := by
  unfold LX10 LX8 LX1 LX0 LX6 kOb kAr
  repeat' apply And.intro
  all_goals decide +kernel
theorem hL0_11 : LX11 (Sk hL0) 35 := by
  unfold LX11 kOb kAr
  repeat' apply And.intro
  all_goals decide +kernel
theorem hL0_73 : Ar hL0 73 23 1 := by
  show kAr (Sk hL0) 73 23 1
  unfold kAr
  decide +kernel
/-- where a number isn't 0 -/
def ZI (S : Nat → Nat → Prop) (h : SH) : Prop := ∀ b j, ¬ S b j → hI h b j = 0
section ZI
variable {S : Nat → Nat → Prop} {h : SH} {b j c n : Nat} {f : SH → Nat → SH}
theorem ZI.nw (z : ZI S h) : ZI S (nw h c n) := fun b j hS => by
  show (if b = h.1 then 0 else hI h b j) = 0
  split
  · rfl
  · exact z b j hS
theorem ZI.a {v : Option Nat} (z : ZI S h) : ZI S (sA h b j v) := z
theorem ZI.s {v : Int32} (z : ZI S h) (hs : S b j) : ZI S (sI h b j v) := fun b' j' hS => by
  rw [sI_ne (fun q => by rw [q.1, q.2] at hS; exact hS hs)]
  exact z b' j' hS
theorem ZI.F (z : ZI S h) : ZI S (nwF h b j c n) := z.nw.a
theorem ZI.c1 (z : ZI S h) : ZI S (Ca1 h b) := z.F.F
theorem ZI.c0 (z : ZI S h) : ZI S (Ca0 h b) := z.F
theorem ZI.c6 (z : ZI S h) (h7 : S b 7) (h8 : S b 8) : ZI S (Ca6 h b) := (z.F.F.F.F.s h7).s h8
theorem ZI.rws (z : ZI S h) : ∀ l, ZI S (rwsF b l h) := fun l => by
  induction l generalizing h with
  | nil => exact z
  | cons r l ih => exact ih z.F
end ZI
/-- the places that constructors set -/
def zS (b j : Nat) : Prop := ((b = 16 ∨ b = 25 ∨ b = 30) ∧ (j = 7 ∨ j = 8)) ∨ (b = 35 ∧ (j = 34 ∨ j = 49))
theorem hL0_I : ZI zS hL0 := by
  have z0 : ZI zS h00 := fun _ _ _ => rfl
  have e1 : hz (mkF (mkF (nwF (nwF (nw h00 10 0) 8 0 21 2400) 8 2 24 6) 8 5 1 Ca1) 8 6 0 Ca0) = 16 := by decide +kernel
  have z1 : ZI zS (mkF (mkF (nwF (nwF (nw h00 10 0) 8 0 21 2400) 8 2 24 6) 8 5 1 Ca1) 8 6 0 Ca0) := (((z0.nw.F.F.nw.c1).a.nw.c0).a)
  have z2 : ZI zS (mkF (mkF (mkF (nwF (nwF (nw h00 10 0) 8 0 21 2400) 8 2 24 6) 8 5 1 Ca1) 8 6 0 Ca0) 8 7 6 Ca6) := (z1.nw.c6 (by rw [e1]; exact Or.inl ⟨Or.inl rfl, Or.inl rfl⟩) (by rw [e1]; exact Or.inl ⟨Or.inl rfl, Or.inr rfl⟩)).a
  generalize hq : mkF (mkF (mkF (nwF (nwF (nw h00 10 0) 8 0 21 2400) 8 2 24 6) 8 5 1 Ca1) 8 6 0 Ca0) 8 7 6 Ca6 = h2 at z2
  have e2 : hz h2 = 21 := by rw [← hq]; decide +kernel
  have hD : hD0 = mkF h2 8 9 8 Ca8 := by rw [← hq]; rfl
  have e3 : hz (mkF (nw h2 8 0) 21 0 1 Ca1) = 25 := by rw [← hq]; decide +kernel
  have e4 : hz (mkF (mkF (nw h2 8 0) 21 0 1 Ca1) 21 1 6 Ca6) = 30 := by rw [← hq]; decide +kernel
  have z3 : ZI zS (mkF (nw h2 8 0) 21 0 1 Ca1) := (z2.nw.nw.c1).a
  have z4 : ZI zS (mkF (mkF (nw h2 8 0) 21 0 1 Ca1) 21 1 6 Ca6) := (z3.nw.c6 (by rw [e3]; exact Or.inl ⟨Or.inr (Or.inl rfl), Or.inl rfl⟩) (by rw [e3]; exact Or.inl ⟨Or.inr (Or.inl rfl), Or.inr rfl⟩)).a
  have z5 : ZI zS (Ca8 (nw h2 8 0) 21) := (z4.nw.c6 (by rw [e4]; exact Or.inl ⟨Or.inr (Or.inr rfl), Or.inl rfl⟩) (by rw [e4]; exact Or.inl ⟨Or.inr (Or.inr rfl), Or.inr rfl⟩)).a
  have z6 : ZI zS hD0 := by rw [hD]; show ZI zS (sA (Ca8 (nw h2 8 0) (hz h2)) 8 9 (some (hz h2))); rw [e2]; exact z5.a
  have z7 : ZI zS (Ca9 (rwsF 35 rwA (nw hD0 11 0)) 35) := ZI.nw (c := 23) (n := 11) ((z6.nw).rws rwA)
  exact (((z7.rws rwB).s (Or.inr ⟨rfl, Or.inr rfl⟩)).s (Or.inr ⟨rfl, Or.inl rfl⟩)).nw
def A00 : Abs := ([], [], none, fun _ => 0, [], none)
theorem A00_ok : okA A00 := ⟨⟨Nat.zero_le _, fun c hc => by cases hc⟩, Nat.zero_le _, fun i hi => absurd hi (Nat.not_lt_zero _), fun i j _ hj => absurd hj (Nat.not_lt_zero _), fun i hi => by cases hi⟩
theorem hL0_C : RepC hL0 A00 := by
  have i0 : ∀ b j, ¬ zS b j → hI hL0 b j = 0 := hL0_I
  have l0 : LX0 (Sk hL0) 14 := by unfold LX0 kOb kAr; decide +kernel
  refine ⟨fun _ => 0, hL0_10, ⟨i0 8 1 (by unfold zS; omega), fun i hi => absurd hi (Nat.not_lt_zero _)⟩, ⟨i0 8 3 (by unfold zS; omega), fun i hi => absurd hi (Nat.not_lt_zero _)⟩, ⟨by decide +kernel, fun i hi => by cases hi⟩, ⟨l0, i0 14 1 (by unfold zS; omega), Nat.zero_le _, fun i hi => absurd hi (Nat.not_lt_zero _), List.Pairwise.nil, fun d hd => by cases hd⟩, ⟨i0 8 8 (by unfold zS; omega), i0 16 3 (by unfold zS; omega), i0 16 5 (by unfold zS; omega)⟩, Or.inl (by decide +kernel)⟩
theorem hL0_M : RepM hL0 A00 := by
  have i0 : ∀ b j, ¬ zS b j → hI hL0 b j = 0 := hL0_I
  refine ⟨hL0_11, ⟨i0 35 2 (by unfold zS; omega), fun i hi => absurd hi (Nat.not_lt_zero _)⟩, ⟨i0 35 10 (by unfold zS; omega), fun i hi => absurd hi (Nat.not_lt_zero _)⟩, ⟨by show hI hL0 35 34 = -1; decide +kernel, fun i hi => by cases hi⟩, ⟨i0 35 36 (by unfold zS; omega), Nat.zero_le _, fun d hd => i0 63 d (by unfold zS; omega), List.Pairwise.nil, fun d hd => by cases hd⟩, by show hI hL0 35 49 = -1; decide +kernel, by decide +kernel⟩
