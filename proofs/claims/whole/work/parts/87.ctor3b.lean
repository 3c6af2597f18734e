section C3
variable {X : GX} {h : SH} {b : Nat} {x1 x2 : Int32}
/-- an edition that is made -/
def EK (h : SH) (b : Nat) (x1 x2 : Int32) (t : SH) : Prop := gr (· = b) (· = b) h t ∧ hz t = b + 8 ∧ FE t b [] ∧ hI t b 0 = x1 ∧ hI t b 1 = x2 ∧ (∀ j, j ≠ 0 → j ≠ 1 → j ≠ 6 → hI t b j = 0) ∧ hI t (b + 6) = fun _ => 0
theorem Ed3_ok (O : Ob h b 3) (hb : hz h = b + 1) (hI0 : hI h b = fun _ => 0) : EK h b x1 x2 (Ed3 h b x1 x2) := by
  have h8 : 8 ≤ b := O.1
  unfold Ed3
  generalize e1 : nwF h b 3 23 8 = h1
  have z1 : hz h1 = b + 2 := by rw [← e1, nwF_z, hb]
  generalize e2 : nwF h1 b 4 20 8 = h2
  have z2 : hz h2 = b + 3 := by rw [← e2, nwF_z, z1]
  generalize e3 : nwF h2 b 5 20 8 = h3
  have z3 : hz h3 = b + 4 := by rw [← e3, nwF_z, z2]
  generalize e4 : sI h3 b 6 1 = h4
  have z4 : hz h4 = b + 4 := by rw [← e4]; exact z3
  generalize e5 : nwF h4 b 8 25 12 = h5
  have z5 : hz h5 = b + 5 := by rw [← e5, nwF_z, z4]
  generalize e6 : nwF h5 b 9 20 12 = h6
  have z6 : hz h6 = b + 6 := by rw [← e6, nwF_z, z5]
  generalize e7 : nwF h6 b 11 20 5 = h7
  have z7 : hz h7 = b + 7 := by rw [← e7, nwF_z, z6]
  generalize e8 : nwF h7 b 12 20 5 = h8'
  have z8 : hz h8' = b + 8 := by rw [← e8, nwF_z, z7]
  generalize e9 : sI (sI h8' b 0 x1) b 1 x2 = t
  have z9 : hz t = b + 8 := by rw [← e9]; exact z8
  have g1 : gr (· = b) (· = b) h h1 := by rw [← e1]; exact nwF_g
  have g2 : gr (· = b) (· = b) h1 h2 := by rw [← e2]; exact nwF_g
  have g3 : gr (· = b) (· = b) h2 h3 := by rw [← e3]; exact nwF_g
  have g4 : gr (· = b) (· = b) h3 h4 := by rw [← e4]; exact (gr.rf (S := (· = b)) (SA := (· = b))).s (Or.inl rfl)
  have g5 : gr (· = b) (· = b) h4 h5 := by rw [← e5]; exact nwF_g
  have g6 : gr (· = b) (· = b) h5 h6 := by rw [← e6]; exact nwF_g
  have g7 : gr (· = b) (· = b) h6 h7 := by rw [← e7]; exact nwF_g
  have g8 : gr (· = b) (· = b) h7 h8' := by rw [← e8]; exact nwF_g
  have g9 : gr (· = b) (· = b) h8' t := by rw [← e9]; exact ((gr.rf (S := (· = b)) (SA := (· = b))).s (Or.inl rfl)).s (Or.inl rfl)
  have G9 := g9
  have G8 := g8.tr G9
  have G7 := g7.tr G8
  have G6 := g6.tr G7
  have G5 := g5.tr G6
  have G3 := g4.tr G5
  have G2 := g3.tr G3
  have G1 := g2.tr G2
  have G := g1.tr G1
  have a1 : kAr (Sk h1) (b + 1) 23 8 := by rw [← e1, ← hb]; exact nwF_ar (by omega)
  have a2 : kAr (Sk h2) (b + 2) 20 8 := by rw [← e2, ← z1]; exact nwF_ar (by omega)
  have a3 : kAr (Sk h3) (b + 3) 20 8 := by rw [← e3, ← z2]; exact nwF_ar (by omega)
  have a4 : kAr (Sk h5) (b + 4) 25 12 := by rw [← e5, ← z4]; exact nwF_ar (by omega)
  have a5 : kAr (Sk h6) (b + 5) 20 12 := by rw [← e6, ← z5]; exact nwF_ar (by omega)
  have a6 : kAr (Sk h7) (b + 6) 20 5 := by rw [← e7, ← z6]; exact nwF_ar (by omega)
  have a7 : kAr (Sk h8') (b + 7) 20 5 := by rw [← e8, ← z7]; exact nwF_ar (by omega)
  have r9 : ∀ j, hA t b j = hA h8' b j := fun j => by rw [← e9]; rfl
  have r8 : ∀ j, j ≠ 12 → hA h8' b j = hA h7 b j := fun j hj => by rw [← e8]; exact nwF_ne hj (by omega)
  have r7 : ∀ j, j ≠ 11 → hA h7 b j = hA h6 b j := fun j hj => by rw [← e7]; exact nwF_ne hj (by omega)
  have r6 : ∀ j, j ≠ 9 → hA h6 b j = hA h5 b j := fun j hj => by rw [← e6]; exact nwF_ne hj (by omega)
  have r5 : ∀ j, j ≠ 8 → hA h5 b j = hA h3 b j := fun j hj => by rw [← e5, nwF_ne hj (by omega), ← e4]; rfl
  have r3 : ∀ j, j ≠ 5 → hA h3 b j = hA h2 b j := fun j hj => by rw [← e3]; exact nwF_ne hj (by omega)
  have r2 : ∀ j, j ≠ 4 → hA h2 b j = hA h1 b j := fun j hj => by rw [← e2]; exact nwF_ne hj (by omega)
  have Lt : LX3 (Sk t) b := by
    refine ⟨G.ob O, ⟨?_, G1.ar a1⟩, ⟨?_, G2.ar a2⟩, ⟨?_, G3.ar a3⟩, ⟨?_, G6.ar a4⟩, ⟨?_, G7.ar a5⟩, ⟨?_, G8.ar a6⟩, ⟨?_, G9.ar a7⟩⟩
    · show hA t b 3 = _; rw [r9, r8 3 (by decide), r7 3 (by decide), r6 3 (by decide), r5 3 (by decide), r3 3 (by decide), r2 3 (by decide), ← e1, nwF_at, hb]
    · show hA t b 4 = _; rw [r9, r8 4 (by decide), r7 4 (by decide), r6 4 (by decide), r5 4 (by decide), r3 4 (by decide), ← e2, nwF_at, z1]
    · show hA t b 5 = _; rw [r9, r8 5 (by decide), r7 5 (by decide), r6 5 (by decide), r5 5 (by decide), ← e3, nwF_at, z2]
    · show hA t b 8 = _; rw [r9, r8 8 (by decide), r7 8 (by decide), r6 8 (by decide), ← e5, nwF_at, z4]
    · show hA t b 9 = _; rw [r9, r8 9 (by decide), r7 9 (by decide), ← e6, nwF_at, z5]
    · show hA t b 11 = _; rw [r9, r8 11 (by decide), ← e7, nwF_at, z6]
    · show hA t b 12 = _; rw [r9, ← e8, nwF_at, z7]
  have i8 : hI h8' b = hI h4 b := by rw [← e8, nwF_I (by omega), ← e7, nwF_I (by omega), ← e6, nwF_I (by omega), ← e5, nwF_I (by omega)]
  have i3 : hI h3 b = fun _ => 0 := by rw [← e3, nwF_I (by omega), ← e2, nwF_I (by omega), ← e1, nwF_I (by omega)]; exact hI0
  have i4 : ∀ j, hI h8' b j = if j = 6 then 1 else 0 := fun j => by
    rw [i8, ← e4]
    by_cases y : j = 6
    · subst y; rw [if_pos rfl, sI_at]
    · rw [if_neg y, sI_nj y, i3]
  have it : ∀ j, j ≠ 0 → j ≠ 1 → hI t b j = if j = 6 then 1 else 0 := fun j h0 h1 => by rw [← e9, sI_nj h1, sI_nj h0, i4]
  refine ⟨G, z9, ⟨⟨Lt, by rw [it 2 (by decide) (by decide)]; rfl, fun q hq => absurd hq (Nat.not_lt_zero _)⟩, by rw [it 6 (by decide) (by decide)]; rfl, fun q hq => absurd hq (Nat.not_lt_zero _)⟩, ?_, ?_, fun j h0 h1 h6 => by rw [it j h0 h1, if_neg h6], ?_⟩
  · rw [← e9, sI_nj (by decide), sI_at]
  · rw [← e9, sI_at]
  · rw [← e9, sI_nb (by omega), sI_nb (by omega), ← e8, nwF_I (by omega), ← e7]
    show hI (nw h6 20 5) (b + 6) = _
    rw [← z6]; exact nw_I
theorem c_X3init (O : Ob h b 3) (hb : hz h = b + 1) (hI0 : hI h b = fun _ => 0) : Cd X mX3_init [.ref b, .int x1, .int x2] h 7 58 (oV (EK h b x1 x2) nX) := by
  refine Gd.mono (Nat.le_refl _) (Nat.le_refl _) (fun o t q => ?_) (c_X3init0 O)
  match o, q with
  | .inl none, q =>
    have q : t = Ed3 h b x1 x2 := q
    rw [q]; exact Ed3_ok O hb hI0
end C3
