/-! ===== the edition's constructor ===== -/
/-- a new row, put into field j of b -/
def nwF (h : SH) (b j c n : Nat) : SH := sA (nw h c n) b j (some (hz h))
section AF
variable {h : SH} {b j c n i k : Nat}
theorem nwF_g : gr (· = b) (· = b) h (nwF h b j c n) := (gr.rf (S := (· = b)) (SA := (· = b))).nw.a (Or.inl rfl)
theorem nwF_z : hz (nwF h b j c n) = hz h + 1 := rfl
theorem nwF_ar (h8 : 8 ≤ hz h) : kAr (Sk (nwF h b j c n)) (hz h) c n := nw_ar h8
theorem nwF_at : hA (nwF h b j c n) b j = some (hz h) := sA_at (h := nw h c n)
theorem nwF_ne (hi : i ≠ j) (hb : b < hz h) : hA (nwF h b j c n) b i = hA h b i := by unfold nwF; rw [sA_ne (by omega), nwA_ne (by omega)]
theorem nwF_I (hb : k < hz h) : hI (nwF h b j c n) k = hI h k := by show hI (nw h c n) k = _; rw [nwI_ne (by omega)]
theorem nwO (O : Ob h b k) : Ob (nw h c n) b k := (gr.rf (S := fun _ => False) (SA := fun _ => False)).nw.ob O
theorem nwFO (O : Ob h b k) : Ob (nwF h b j c n) b k := (nwF_g (h := h) (b := b) (j := j) (c := c) (n := n)).ob O
end AF
section C3
variable {X : GX} {h : SH} {b : Nat} {x1 x2 : Int32}
def Ed3 (h : SH) (b : Nat) (x1 x2 : Int32) : SH := sI (sI (nwF (nwF (nwF (nwF (sI (nwF (nwF (nwF h b 3 23 8) b 4 20 8) b 5 20 8) b 6 1) b 8 25 12) b 9 20 12) b 11 20 5) b 12 20 5) b 0 x1) b 1 x2
theorem c_X3init0 (O : Ob h b 3) : Cd X mX3_init [.ref b, .int x1, .int x2] h 7 58 (oV (fun t => t = Ed3 h b x1 x2) nX) := by
  have O3 : Ob (nwF (nwF (nwF h b 3 23 8) b 4 20 8) b 5 20 8) b 3 := nwFO (nwFO (nwFO O))
  have O4 : Ob (sI (nwF (nwF (nwF h b 3 23 8) b 4 20 8) b 5 20 8) b 6 1) b 3 := O3
  refine Gd.le (nc := 0 + 1 + 1 + 1 + 1 + 1 + 1 + 1) (ns := 0 + 5 + 5 + 12 + 12 + 8 + 8 + 8) (by omega) (by omega) (bkX3_init_0 (bkX3_init_4 (boX3_init_9 (nwO O) (bkX3_init_12 (boX3_init_17 (nwO (nwFO O)) (bkX3_init_20 (boX3_init_25 (nwO (nwFO (nwFO O))) (bkX3_init_28 O3 (boX3_init_39 (nwO O4) (bkX3_init_42 (boX3_init_47 (nwO (nwFO O4)) (bkX3_init_50 (boX3_init_54 (nwO (nwFO (nwFO O4))) (bkX3_init_57 (boX3_init_61 (nwO (nwFO (nwFO (nwFO O4)))) (bkX3_init_64 (nwFO (nwFO (nwFO (nwFO O4)))) ?_))))))))))))))))
  exact rfl
end C3
