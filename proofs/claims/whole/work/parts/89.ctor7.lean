/-! ===== the reader's constructor ===== -/
section C7
variable {X : GX} {h : SH} {b e : Nat} {L : List Nat}
/-- behind the tokens -/
def Rd7 (t : SH) (b e l : Nat) : SH := nwF (nwF (sA (sA t b 0 (some (b + 3))) b 1 (some e)) b 2 23 (l / 7 + 1)) b 4 20 l
def Rk7 (h : SH) (b : Nat) : SH := nw (nwF (nwF h b 6 20 6) b 7 20 6) 9 0
theorem Rd7_ok {t : SH} (O : Ob h b 7) (hb : hz h = b + 1) (hI0 : hI h b = fun _ => 0) (T9 : Ar h 9 21 2400) (hT : ∀ (i : Nat) (hi : i < L.length), hI h 9 i = nI L[i]) (h73 : 73 ≤ b) (he : e + 8 ≤ b) (q : TK (Rk7 h b) (b + 3) 9 L.length t) : RK (Rd7 t b e L.length) b e L ∧ gr (· = b) (· = b) h (Rd7 t b e L.length) ∧ hz (Rd7 t b e L.length) = b + 10 := by
  have h8 : 8 ≤ b := O.1
  unfold Rk7 at q
  unfold Rd7
  generalize e1 : nwF h b 6 20 6 = h1 at q
  have z1 : hz h1 = b + 2 := by rw [← e1, nwF_z, hb]
  generalize e2 : nwF h1 b 7 20 6 = h2 at q
  have z2 : hz h2 = b + 3 := by rw [← e2, nwF_z, z1]
  generalize e3 : nw h2 9 0 = h3 at q
  have z3 : hz h3 = b + 4 := by rw [← e3]; show hz h2 + 1 = _; rw [z2]
  obtain ⟨q1, q2, q3, q4, q5, q6, q7, q8, q9, q10⟩ := q
  generalize e4 : sA (sA t b 0 (some (b + 3))) b 1 (some e) = h4
  have z4 : hz h4 = b + 8 := by rw [← e4]; exact q2
  generalize e5 : nwF h4 b 2 23 (L.length / 7 + 1) = h5
  have z5 : hz h5 = b + 9 := by rw [← e5, nwF_z, z4]
  generalize e6 : nwF h5 b 4 20 L.length = u
  have z6 : hz u = b + 10 := by rw [← e6, nwF_z, z5]
  have g1 : gr (· = b) (· = b) h h1 := by rw [← e1]; exact nwF_g
  have g2 : gr (· = b) (· = b) h1 h2 := by rw [← e2]; exact nwF_g
  have g3 : gr (· = b) (· = b) h2 h3 := by rw [← e3]; exact (gr.rf (S := (· = b)) (SA := (· = b))).nw
  have g4 : gr (· = b) (· = b) t h4 := by rw [← e4]; exact ((gr.rf (S := (· = b)) (SA := (· = b))).a (Or.inl rfl)).a (Or.inl rfl)
  have g5 : gr (· = b) (· = b) h4 h5 := by rw [← e5]; exact nwF_g
  have g6 : gr (· = b) (· = b) h5 u := by rw [← e6]; exact nwF_g
  have w : ∀ {x y : SH}, gr (· = b) (· = b) x y → gr (fun q => q = b ∨ q = b + 3) (fun q => q = b ∨ q = b + 3) x y := fun g => g.up (fun _ _ z => Or.inl z) (fun _ _ z => Or.inl z)
  have qw : gr (fun q => q = b ∨ q = b + 3) (fun q => q = b ∨ q = b + 3) h3 t := q1.up (fun _ _ z => Or.inr z) (fun _ _ z => Or.inr z)
  have G4 := g4.tr (g5.tr g6)
  have G3 := qw.tr (w G4)
  have G2 := (w g3).tr G3
  have G1 := (w g2).tr G2
  have G := (w g1).tr G1
  have a1 : kAr (Sk h1) (b + 1) 20 6 := by rw [← e1, ← hb]; exact nwF_ar (by omega)
  have a2 : kAr (Sk h2) (b + 2) 20 6 := by rw [← e2, ← z1]; exact nwF_ar (by omega)
  have a5 : kAr (Sk h5) (b + 8) 23 (L.length / 7 + 1) := by rw [← e5, ← z4]; exact nwF_ar (by omega)
  have a6 : kAr (Sk u) (b + 9) 20 L.length := by rw [← e6, ← z5]; exact nwF_ar (by omega)
  have n5 : hN u (b + 8) = L.length / 7 + 1 := (g6.ar a5).2.2.2
  have n6 : hN u (b + 9) = L.length := a6.2.2.2
  have r6 : ∀ j, j ≠ 4 → hA u b j = hA h5 b j := fun j hj => by rw [← e6]; exact nwF_ne hj (by omega)
  have r5 : ∀ j, j ≠ 2 → hA h5 b j = hA h4 b j := fun j hj => by rw [← e5]; exact nwF_ne hj (by omega)
  have r4 : ∀ j, j ≠ 0 → j ≠ 1 → hA h4 b j = hA t b j := fun j h0 h1 => by
    rw [← e4]
    show hA (sA (sA t b 0 (some (b + 3))) b 1 (some e)) b j = _
    rw [sA_ne (h := sA t b 0 (some (b + 3))) (by omega), sA_ne (h := t) (by omega)]
  have rt : hA t b = hA h2 b := by rw [q1.2.2.1 b (by omega) (by omega), ← e3, nwA_ne (by omega)]
  have r2 : ∀ j, j ≠ 7 → hA h2 b j = hA h1 b j := fun j hj => by rw [← e2]; exact nwF_ne hj (by omega)
  have o3 : ∀ c, b + 3 ≤ c → c < b + 8 → hI u c = hI t c ∧ hJ u c = hJ t c := fun c h1 h2 => G4.2.2.2 c (by rw [q2]; omega) (by omega)
  have x3 : hA u (b + 3) = hA t (b + 3) := G4.2.2.1 (b + 3) (by rw [q2]; omega) (by omega)
  have L9 : LX9 (Sk u) (b + 3) := G4.L9 (by omega) q3
  have nn : ∀ c, c < b + 8 → hN u c = hN t c := fun c hc => G4.N (by rw [q2]; omega)
  have ib : hI u b = fun _ => 0 := by
    rw [← e6, nwF_I (by omega), ← e5, nwF_I (by omega), ← e4]
    show hI t b = _
    rw [(q1.2.2.2 b (by omega) (by omega)).1, ← e3, nwI_ne (by omega), ← e2, nwF_I (by omega), ← e1, nwF_I (by omega), hI0]
  refine ⟨⟨⟨G.ob O, ⟨?_, G1.ar a1⟩, ⟨?_, G2.ar a2⟩, ⟨?_, L9⟩, ⟨?_, ?_⟩, ?_, ?_⟩, ?_, ⟨?_, G.ar T9⟩, ?_, ?_, ⟨?_, ?_, ?_⟩, ?_, ?_, ?_, n5, n6, h73, he⟩, G.up (fun c hc z => by omega) (fun c hc z => by omega), z6⟩
  · show hA u b 6 = _; rw [r6 6 (by decide), r5 6 (by decide), r4 6 (by decide) (by decide), rt, r2 6 (by decide), ← e1, nwF_at, hb]
  · show hA u b 7 = _; rw [r6 7 (by decide), r5 7 (by decide), r4 7 (by decide) (by decide), rt, ← e2, nwF_at, z1]
  · show hA u b 0 = _; rw [r6 0 (by decide), r5 0 (by decide), ← e4, sA_ne (h := sA t b 0 (some (b + 3))) (by omega)]; exact sA_at (h := t)
  · show hA u b 2 = _; rw [r6 2 (by decide), ← e5, nwF_at, z4]
  · show kAr (Sk u) (b + 8) 23 (hN u (b + 8)); rw [n5]; exact g6.ar a5
  · show hA u b 4 = _; rw [← e6, nwF_at, z5]
  · show kAr (Sk u) (b + 9) 20 (hN u (b + 9)); rw [n6]; exact a6
  · rw [r6 1 (by decide), r5 1 (by decide), ← e4]; exact sA_at (h := sA t b 0 (some (b + 3)))
  · rw [x3]; exact q4
  · rw [(o3 (b + 3) (by omega) (by omega)).1]; exact q5
  · intro i hi; rw [(G.2.2.2 9 (by omega) (by omega)).1]; exact hT i hi
  · rw [nn _ (by omega)]; exact q8
  · rw [nn _ (by omega)]; exact q9
  · rw [nn _ (by omega)]; exact q10
  · rw [(o3 (b + 3) (by omega) (by omega)).1]; exact q6
  · rw [(o3 (b + 3) (by omega) (by omega)).1]; exact q7
  · rw [ib]
theorem c_X7init (O : Ob h b 7) (hb : hz h = b + 1) (hI0 : hI h b = fun _ => 0) (oL : L.length ≤ 2400) (T9 : Ar h 9 21 2400) (hT : ∀ (i : Nat) (hi : i < L.length), hI h 9 i = nI L[i]) (h73 : 73 ≤ b) (he : e + 8 ≤ b) : Cd X mX7_init [.ref b, .ref 9, .int (nI L.length), .ref e] h 9 (5 * L.length + 38) (oV (fun t => RK t b e L ∧ gr (· = b) (· = b) h t ∧ hz t = b + 10) nX) := by
  have z2 : hz (nwF (nwF h b 6 20 6) b 7 20 6) = b + 3 := by rw [nwF_z, nwF_z, hb]
  have O2 : Ob (nwF (nwF h b 6 20 6) b 7 20 6) b 7 := nwFO (nwFO O)
  have O9 : Ob (Rk7 h b) (b + 3) 9 := by unfold Rk7; rw [← z2]; exact nw_ob (by omega)
  have i9 : hI (Rk7 h b) (b + 3) = fun _ => 0 := by unfold Rk7; rw [← z2]; exact nw_I
  have z9 : hz (Rk7 h b) = b + 3 + 1 := by unfold Rk7; show hz (nwF (nwF h b 6 20 6) b 7 20 6) + 1 = _; rw [z2]
  have c1 : ¬ (nI L.length / 7 + 1) < 0 := by rw [show (7 : Int32) = nI 7 from rfl, pk_div (by omega) (by decide) (by decide), nI_1, n0, nI_ltI (by omega) (by omega)]; omega
  have c2 : (nI L.length / 7 + 1 : Int32).toNatClampNeg = L.length / 7 + 1 := by rw [show (7 : Int32) = nI 7 from rfl, pk_div (by omega) (by decide) (by decide), nI_1, nI_clamp (by omega)]
  have c3 : ¬ nI L.length < 0 := by rw [n0, nI_ltI (by omega) (by omega)]; omega
  refine Gd.le (nc := 4 + (0 + 1 + 1) + 1 + 1 + 1) (ns := 3 * L.length + 14 + (0 + L.length + (L.length / 7 + 1)) + 11 + 6 + 6) (by omega) (by omega) (bkX7_init_0 (bkX7_init_4 (boX7_init_9 (nwO O) (bkX7_init_12 (boX7_init_17 (nwO (nwFO O)) (bkX7_init_20 ?_))))))
  show Gd X mX7_init 24 _ [.ref (hz (nwF (nwF h b 6 20 6) b 7 20 6)), .ref b] (Rk7 h b) _ _ _
  rw [z2]
  refine bkX7_init_24 (c_X9init (l := L.length) O9 z9 i9 oL) (fun t q => ?_)
  have g0 : gr (· = b) (· = b) h (Rk7 h b) := ((nwF_g (j := 6) (c := 20) (n := 6)).tr nwF_g).nw
  have Ot : Ob t b 7 := q.1.ob (g0.ob O)
  have O4 : Ob (sA (sA t b 0 (some (b + 3))) b 1 (some e)) b 7 := Ot
  refine boX7_init_30 Ot (bkX7_init_33 Ot (bkX7_init_38 c1 c2 (by omega) (boX7_init_47 (nwO O4) (bkX7_init_50 c3 (nI_clamp (by omega)) (by omega) (boX7_init_54 (nwO (nwFO O4)) (bkX7_init_57 ?_))))))
  exact Rd7_ok O hb hI0 T9 hT h73 he q
end C7
