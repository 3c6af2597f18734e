/-! ===== the tokens' constructor ===== -/
section C9
variable {X : GX} {h : SH} {b a1 l : Nat}
def Tk9 (h : SH) (b a1 l : Nat) : SH := nwF (nwF (nwF (sI (sA (sI (nwF h b 2 23 11) b 8 14) b 0 (some a1)) b 1 (nI l)) b 3 20 (l + 1)) b 4 20 (l + 1)) b 5 23 (l + 1)
theorem c_X9init0 (O : Ob h b 9) (hl : l ≤ 2400) : Cd X mX9_init [.ref b, .ref a1, .int (nI l)] h 4 (3 * l + 14) (oV (fun t => t = Tk9 h b a1 l) nX) := by
  have O1 : Ob (nwF h b 2 23 11) b 9 := nwFO O
  have O2 : Ob (sA (sI (nwF h b 2 23 11) b 8 14) b 0 (some a1)) b 9 := O1
  have O3 : Ob (sI (sA (sI (nwF h b 2 23 11) b 8 14) b 0 (some a1)) b 1 (nI l)) b 9 := O1
  have c1 : ¬ (nI l + 1) < 0 := by rw [nI_1, n0, nI_ltI (by omega) (by omega)]; omega
  have c2 : (nI l + 1 : Int32).toNatClampNeg = l + 1 := by rw [nI_1, nI_clamp (by omega)]
  refine Gd.le (nc := 0 + 1 + 1 + 1 + 1) (ns := 0 + (l + 1) + (l + 1) + (l + 1) + 11) (by omega) (by omega) (bkX9_init_0 (bkX9_init_4 (boX9_init_9 (nwO O) (bkX9_init_12 O1 (bkX9_init_23 O2 c1 c2 (by omega) (boX9_init_34 (nwO O3) (bkX9_init_37 c1 c2 (by omega) (boX9_init_43 (nwO (nwFO O3)) (bkX9_init_46 c1 c2 (by omega) (boX9_init_52 (nwO (nwFO (nwFO O3))) (bkX9_init_55 ?_)))))))))))
  exact rfl
/-- tokens that are made -/
def TK (h : SH) (b a1 l : Nat) (t : SH) : Prop := gr (· = b) (· = b) h t ∧ hz t = b + 5 ∧ LX9 (Sk t) b ∧ hA t b 0 = some a1 ∧ hI t b 1 = nI l ∧ hI t b 6 = 0 ∧ hI t b 7 = 0 ∧ (hN t (b + 2) = l + 1 ∧ hN t (b + 3) = l + 1 ∧ hN t (b + 4) = l + 1)
theorem Tk9_ok (O : Ob h b 9) (hb : hz h = b + 1) (hI0 : hI h b = fun _ => 0) : TK h b a1 l (Tk9 h b a1 l) := by
  have h8 : 8 ≤ b := O.1
  unfold Tk9
  generalize e1 : nwF h b 2 23 11 = h1
  have z1 : hz h1 = b + 2 := by rw [← e1, nwF_z, hb]
  generalize e2 : sI (sA (sI h1 b 8 14) b 0 (some a1)) b 1 (nI l) = h2
  have z2 : hz h2 = b + 2 := by rw [← e2]; exact z1
  generalize e3 : nwF h2 b 3 20 (l + 1) = h3
  have z3 : hz h3 = b + 3 := by rw [← e3, nwF_z, z2]
  generalize e4 : nwF h3 b 4 20 (l + 1) = h4
  have z4 : hz h4 = b + 4 := by rw [← e4, nwF_z, z3]
  generalize e5 : nwF h4 b 5 23 (l + 1) = t
  have z5 : hz t = b + 5 := by rw [← e5, nwF_z, z4]
  have g1 : gr (· = b) (· = b) h h1 := by rw [← e1]; exact nwF_g
  have g2 : gr (· = b) (· = b) h1 h2 := by rw [← e2]; exact (((gr.rf (S := (· = b)) (SA := (· = b))).s (Or.inl rfl)).a (Or.inl rfl)).s (Or.inl rfl)
  have g3 : gr (· = b) (· = b) h2 h3 := by rw [← e3]; exact nwF_g
  have g4 : gr (· = b) (· = b) h3 h4 := by rw [← e4]; exact nwF_g
  have g5 : gr (· = b) (· = b) h4 t := by rw [← e5]; exact nwF_g
  have G3 := g4.tr g5
  have G1 := g2.tr (g3.tr G3)
  have G := g1.tr G1
  have a1' : kAr (Sk h1) (b + 1) 23 11 := by rw [← e1, ← hb]; exact nwF_ar (by omega)
  have a2 : kAr (Sk t) (b + 2) 20 (l + 1) := G3.ar (by rw [← e3, ← z2]; exact nwF_ar (by omega))
  have a3 : kAr (Sk t) (b + 3) 20 (l + 1) := g5.ar (by rw [← e4, ← z3]; exact nwF_ar (by omega))
  have a4 : kAr (Sk t) (b + 4) 23 (l + 1) := by rw [← e5, ← z4]; exact nwF_ar (by omega)
  have r5 : ∀ j, j ≠ 5 → hA t b j = hA h4 b j := fun j hj => by rw [← e5]; exact nwF_ne hj (by omega)
  have r4 : ∀ j, j ≠ 4 → hA h4 b j = hA h3 b j := fun j hj => by rw [← e4]; exact nwF_ne hj (by omega)
  have r3 : ∀ j, j ≠ 3 → hA h3 b j = hA h2 b j := fun j hj => by rw [← e3]; exact nwF_ne hj (by omega)
  have r2 : ∀ j, j ≠ 0 → hA h2 b j = hA h1 b j := fun j hj => by rw [← e2]; exact sA_ne (h := sI h1 b 8 14) (by omega)
  have n2 : hN t (b + 2) = l + 1 := a2.2.2.2
  have n3 : hN t (b + 3) = l + 1 := a3.2.2.2
  have n4 : hN t (b + 4) = l + 1 := a4.2.2.2
  have it : hI t b = hI h2 b := by rw [← e5, nwF_I (by omega), ← e4, nwF_I (by omega), ← e3, nwF_I (by omega)]
  have i1 : hI h1 b = fun _ => 0 := by rw [← e1, nwF_I (by omega)]; exact hI0
  have i2 : ∀ j, j ≠ 1 → j ≠ 8 → hI t b j = 0 := fun j hj1 hj8 => by
    rw [it, ← e2, sI_nj hj1]; show hI (sI h1 b 8 14) b j = 0; rw [sI_nj hj8, i1]
  refine ⟨G, z5, ⟨G.ob O, ⟨?_, G1.ar a1'⟩, ⟨?_, ?_⟩, ⟨?_, ?_⟩, ⟨?_, ?_⟩⟩, ?_, ?_, i2 6 (by decide) (by decide), i2 7 (by decide) (by decide), n2, n3, n4⟩
  · show hA t b 2 = _; rw [r5 2 (by decide), r4 2 (by decide), r3 2 (by decide), r2 2 (by decide), ← e1, nwF_at, hb]
  · show hA t b 3 = _; rw [r5 3 (by decide), r4 3 (by decide), ← e3, nwF_at, z2]
  · show kAr (Sk t) (b + 2) 20 (hN t (b + 2)); rw [n2]; exact a2
  · show hA t b 4 = _; rw [r5 4 (by decide), ← e4, nwF_at, z3]
  · show kAr (Sk t) (b + 3) 20 (hN t (b + 3)); rw [n3]; exact a3
  · show hA t b 5 = _; rw [← e5, nwF_at, z4]
  · show kAr (Sk t) (b + 4) 23 (hN t (b + 4)); rw [n4]; exact a4
  · rw [r5 0 (by decide), r4 0 (by decide), r3 0 (by decide), ← e2]; exact sA_at (h := sI h1 b 8 14)
  · rw [it, ← e2, sI_at]
theorem c_X9init (O : Ob h b 9) (hb : hz h = b + 1) (hI0 : hI h b = fun _ => 0) (hl : l ≤ 2400) : Cd X mX9_init [.ref b, .ref a1, .int (nI l)] h 4 (3 * l + 14) (oV (TK h b a1 l) nX) := by
  refine Gd.mono (Nat.le_refl _) (Nat.le_refl _) (fun o t q => ?_) (c_X9init0 O hl)
  match o, q with
  | .inl none, q =>
    have q : t = Tk9 h b a1 l := q
    rw [q]; exact Tk9_ok O hb hI0
end C9
