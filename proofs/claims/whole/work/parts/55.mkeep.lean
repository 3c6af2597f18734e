/-! ===== a draft is kept ===== -/
section KP
variable {X : GX} {h : SH} {P : Out → SH → Prop}
theorem kp_a {e : Nat} (he : e < 6) (F : LX11 (Sk h) 35) 
    (kont : ∀ t, cf (fun b j => (b = 43 ∨ b = 44 ∨ b = 45) ∧ 8 * e ≤ j ∧ j < 8 * e + 8) h t → (∀ q, q < 8 → hJ t 43 (8 * e + q) = hJ h 43 (48 + q) ∧ hI t 44 (8 * e + q) = hI h 44 (48 + q) ∧ hI t 45 (8 * e + q) = hI h 45 (48 + q)) → Gd X mX11_keeps 100 [some (.ref 35), some (.int (nI e)), none, none, none] [] t 0 0 P) : Gd X mX11_keeps 28 [some (.ref 35), some (.int (nI e)), some (.int (nI 0)), none, none] [] h 0 0 P := by
  refine for_up (G := fun n t => Gd X mX11_keeps 28 [some (.ref 35), some (.int (nI e)), some (.int (nI n)), none, none] [] t 0 0 P) (I := fun n t => cf (fun b j => (b = 43 ∨ b = 44 ∨ b = 45) ∧ 8 * e ≤ j ∧ j < 8 * e + 8) h t ∧ ∀ q, q < n → hJ t 43 (8 * e + q) = hJ h 43 (48 + q) ∧ hI t 44 (8 * e + q) = hI h 44 (48 + q) ∧ hI t 45 (8 * e + q) = hI h 45 (48 + q)) 8 ?_ ?_ 0 h (Nat.zero_le _) ⟨cf.rf, fun q hq => absurd hq (Nat.not_lt_zero _)⟩
  · rintro t ⟨c, K⟩
    exact bkX11_keeps_28 (fun _ => kont t c K) (fun z => absurd (Int32.le_refl _) z)
  · rintro n t hn ⟨c, K⟩ ih
    have Ft : LX11 (Sk t) 35 := c.1 ▸ F
    have e1 : (48 : Int32) + nI n = nI (48 + n) := nI_add 48 n
    have e2 : (8 : Int32) * nI e + nI n = nI (8 * e + n) := by rw [show (8 : Int32) = nI 8 from rfl, pk_mul, nI_add]
    have sr : ∀ b, hI t b (48 + n) = hI h b (48 + n) ∧ hJ t b (48 + n) = hJ h b (48 + n) := fun b => c.2 b _ (by omega)
    refine bkX11_keeps_28 (fun z => ?_) (fun _ => ?_)
    · rw [show (8 : Int32) = nI 8 from rfl, nI_leI (by omega) (by omega)] at z; omega
    refine bkX11_keeps_34 Ft (by rw [e1]; exact (vp_in_nI (by omega) (by omega))) (by rw [e2]; exact (vp_in_nI (by omega) (by omega))) ?_
    rw [e1, e2, nI_clamp (n := 48 + n) (by omega), nI_clamp (n := 8 * e + n) (by omega)]
    refine bkX11_keeps_94 ?_
    rw [nI_1]
    refine ih _ ⟨(((c).j (by omega)).s (by omega)).s (by omega), fun q hq => ?_⟩
    by_cases y : q = n
    · subst y
      simp only [hI_sI, hI_sJ, hJ_sI, hJ_sJ]
      simp [sr]
    · have K1 := K q (by omega)
      simp only [hI_sI, hI_sJ, hJ_sI, hJ_sJ]
      simp [y, K1]
theorem kp_b {e : Nat} (he : e < 6) (F : LX11 (Sk h) 35) 
    (kont : ∀ t, cf (fun b j => (b = 48 ∨ b = 49 ∨ b = 50 ∨ b = 51 ∨ b = 54) ∧ 12 * e ≤ j ∧ j < 12 * e + 12) h t → (∀ q, q < 12 → hI t 48 (12 * e + q) = hI h 48 (72 + q) ∧ hI t 49 (12 * e + q) = vp_nar .boolean (hI h 49 (72 + q)) ∧ hI t 50 (12 * e + q) = hI h 50 (72 + q) ∧ hI t 51 (12 * e + q) = hI h 51 (72 + q) ∧ hI t 54 (12 * e + q) = hI h 54 (72 + q)) → Gd X mX11_keeps 192 [some (.ref 35), some (.int (nI e)), none, none, none] [] t 0 0 P) : Gd X mX11_keeps 102 [some (.ref 35), some (.int (nI e)), some (.int (nI 0)), none, none] [] h 0 0 P := by
  refine for_up (G := fun n t => Gd X mX11_keeps 102 [some (.ref 35), some (.int (nI e)), some (.int (nI n)), none, none] [] t 0 0 P) (I := fun n t => cf (fun b j => (b = 48 ∨ b = 49 ∨ b = 50 ∨ b = 51 ∨ b = 54) ∧ 12 * e ≤ j ∧ j < 12 * e + 12) h t ∧ ∀ q, q < n → hI t 48 (12 * e + q) = hI h 48 (72 + q) ∧ hI t 49 (12 * e + q) = vp_nar .boolean (hI h 49 (72 + q)) ∧ hI t 50 (12 * e + q) = hI h 50 (72 + q) ∧ hI t 51 (12 * e + q) = hI h 51 (72 + q) ∧ hI t 54 (12 * e + q) = hI h 54 (72 + q)) 12 ?_ ?_ 0 h (Nat.zero_le _) ⟨cf.rf, fun q hq => absurd hq (Nat.not_lt_zero _)⟩
  · rintro t ⟨c, K⟩
    exact bkX11_keeps_102 (fun _ => kont t c K) (fun z => absurd (Int32.le_refl _) z)
  · rintro n t hn ⟨c, K⟩ ih
    have Ft : LX11 (Sk t) 35 := c.1 ▸ F
    have e1 : (72 : Int32) + nI n = nI (72 + n) := nI_add 72 n
    have e2 : (12 : Int32) * nI e + nI n = nI (12 * e + n) := by rw [show (12 : Int32) = nI 12 from rfl, pk_mul, nI_add]
    have sr : ∀ b, hI t b (72 + n) = hI h b (72 + n) ∧ hJ t b (72 + n) = hJ h b (72 + n) := fun b => c.2 b _ (by omega)
    refine bkX11_keeps_102 (fun z => ?_) (fun _ => ?_)
    · rw [show (12 : Int32) = nI 12 from rfl, nI_leI (by omega) (by omega)] at z; omega
    refine bkX11_keeps_108 Ft (by rw [e1]; exact (vp_in_nI (by omega) (by omega))) (by rw [e2]; exact (vp_in_nI (by omega) (by omega))) ?_
    rw [e1, e2, nI_clamp (n := 72 + n) (by omega), nI_clamp (n := 12 * e + n) (by omega)]
    refine bkX11_keeps_160 (by exact Ft) (vp_in_nI (by omega) (by omega)) (vp_in_nI (by omega) (by omega)) ?_
    rw [nI_clamp (n := 72 + n) (by omega), nI_clamp (n := 12 * e + n) (by omega), nI_1]
    refine ih _ ⟨(((((c).s (by omega)).s (by omega)).s (by omega)).s (by omega)).s (by omega), fun q hq => ?_⟩
    by_cases y : q = n
    · subst y
      simp only [hI_sI, hI_sJ, hJ_sI, hJ_sJ]
      simp [sr]
    · have K1 := K q (by omega)
      simp only [hI_sI, hI_sJ, hJ_sI, hJ_sJ]
      simp [y, K1]
theorem kp_c {e : Nat} (he : e < 6) (F : LX11 (Sk h) 35) 
    (kont : ∀ t, cf (fun b j => (b = 52 ∨ b = 53) ∧ 96 * e ≤ j ∧ j < 96 * e + 96) h t → (∀ q, q < 96 → hI t 52 (96 * e + q) = hI h 52 (576 + q) ∧ hI t 53 (96 * e + q) = vp_nar .boolean (hI h 53 (576 + q))) → Gd X mX11_keeps 248 [some (.ref 35), some (.int (nI e)), none, none, none] [] t 0 0 P) : Gd X mX11_keeps 194 [some (.ref 35), some (.int (nI e)), some (.int (nI 0)), none, none] [] h 0 0 P := by
  refine for_up (G := fun n t => Gd X mX11_keeps 194 [some (.ref 35), some (.int (nI e)), some (.int (nI n)), none, none] [] t 0 0 P) (I := fun n t => cf (fun b j => (b = 52 ∨ b = 53) ∧ 96 * e ≤ j ∧ j < 96 * e + 96) h t ∧ ∀ q, q < n → hI t 52 (96 * e + q) = hI h 52 (576 + q) ∧ hI t 53 (96 * e + q) = vp_nar .boolean (hI h 53 (576 + q))) 96 ?_ ?_ 0 h (Nat.zero_le _) ⟨cf.rf, fun q hq => absurd hq (Nat.not_lt_zero _)⟩
  · rintro t ⟨c, K⟩
    exact bkX11_keeps_194 (fun _ => kont t c K) (fun z => absurd (Int32.le_refl _) z)
  · rintro n t hn ⟨c, K⟩ ih
    have Ft : LX11 (Sk t) 35 := c.1 ▸ F
    have e1 : (576 : Int32) + nI n = nI (576 + n) := nI_add 576 n
    have e2 : (96 : Int32) * nI e + nI n = nI (96 * e + n) := by rw [show (96 : Int32) = nI 96 from rfl, pk_mul, nI_add]
    have sr : ∀ b, hI t b (576 + n) = hI h b (576 + n) ∧ hJ t b (576 + n) = hJ h b (576 + n) := fun b => c.2 b _ (by omega)
    refine bkX11_keeps_194 (fun z => ?_) (fun _ => ?_)
    · rw [show (96 : Int32) = nI 96 from rfl, nI_leI (by omega) (by omega)] at z; omega
    refine bkX11_keeps_200 Ft (by rw [e1]; exact (vp_in_nI (by omega) (by omega))) (by rw [e2]; exact (vp_in_nI (by omega) (by omega))) ?_
    rw [e1, e2, nI_clamp (n := 576 + n) (by omega), nI_clamp (n := 96 * e + n) (by omega)]
    rw [nI_1]
    refine ih _ ⟨((c).s (by omega)).s (by omega), fun q hq => ?_⟩
    by_cases y : q = n
    · subst y
      simp only [hI_sI, hI_sJ, hJ_sI, hJ_sJ]
      simp [sr]
    · have K1 := K q (by omega)
      simp only [hI_sI, hI_sJ, hJ_sI, hJ_sJ]
      simp [y, K1]
theorem kp_d {e : Nat} (he : e < 6) (F : LX11 (Sk h) 35) 
    (kont : ∀ t, cf (fun b j => (b = 55 ∨ b = 56 ∨ b = 57) ∧ 240 * e ≤ j ∧ j < 240 * e + 240) h t → (∀ q, q < 240 → hI t 55 (240 * e + q) = hI h 55 (1440 + q) ∧ hI t 56 (240 * e + q) = hI h 56 (1440 + q) ∧ hJ t 57 (240 * e + q) = hJ h 57 (1440 + q)) → Gd X mX11_keeps 329 [some (.ref 35), some (.int (nI e)), none, none, none] [] t 0 0 P) : Gd X mX11_keeps 250 [some (.ref 35), some (.int (nI e)), some (.int (nI 0)), none, none] [] h 0 0 P := by
  refine for_up (G := fun n t => Gd X mX11_keeps 250 [some (.ref 35), some (.int (nI e)), some (.int (nI n)), none, none] [] t 0 0 P) (I := fun n t => cf (fun b j => (b = 55 ∨ b = 56 ∨ b = 57) ∧ 240 * e ≤ j ∧ j < 240 * e + 240) h t ∧ ∀ q, q < n → hI t 55 (240 * e + q) = hI h 55 (1440 + q) ∧ hI t 56 (240 * e + q) = hI h 56 (1440 + q) ∧ hJ t 57 (240 * e + q) = hJ h 57 (1440 + q)) 240 ?_ ?_ 0 h (Nat.zero_le _) ⟨cf.rf, fun q hq => absurd hq (Nat.not_lt_zero _)⟩
  · rintro t ⟨c, K⟩
    exact bkX11_keeps_250 (fun _ => kont t c K) (fun z => absurd (Int32.le_refl _) z)
  · rintro n t hn ⟨c, K⟩ ih
    have Ft : LX11 (Sk t) 35 := c.1 ▸ F
    have e1 : (1440 : Int32) + nI n = nI (1440 + n) := nI_add 1440 n
    have e2 : (240 : Int32) * nI e + nI n = nI (240 * e + n) := by rw [show (240 : Int32) = nI 240 from rfl, pk_mul, nI_add]
    have sr : ∀ b, hI t b (1440 + n) = hI h b (1440 + n) ∧ hJ t b (1440 + n) = hJ h b (1440 + n) := fun b => c.2 b _ (by omega)
    refine bkX11_keeps_250 (fun z => ?_) (fun _ => ?_)
    · rw [show (240 : Int32) = nI 240 from rfl, nI_leI (by omega) (by omega)] at z; omega
    refine bkX11_keeps_257 Ft (by rw [e1]; exact (vp_in_nI (by omega) (by omega))) (by rw [e2]; exact (vp_in_nI (by omega) (by omega))) ?_
    rw [e1, e2, nI_clamp (n := 1440 + n) (by omega), nI_clamp (n := 240 * e + n) (by omega)]
    refine bkX11_keeps_323 ?_
    rw [nI_1]
    refine ih _ ⟨(((c).s (by omega)).s (by omega)).j (by omega), fun q hq => ?_⟩
    by_cases y : q = n
    · subst y
      simp only [hI_sI, hI_sJ, hJ_sI, hJ_sJ]
      simp [sr]
    · have K1 := K q (by omega)
      simp only [hI_sI, hI_sJ, hJ_sI, hJ_sJ]
      simp [y, K1]
theorem kp_f {e : Nat} (he : e < 6) (F : LX11 (Sk h) 35) (k : Nat) (hk : k ≤ 2600) (h30 : hI h 35 30 = nI k) 
    (kont : ∀ t, cf (fun b j => (b = 58 ∨ b = 59) ∧ 2600 * e ≤ j ∧ j < 2600 * e + k) h t → (∀ q, q < k → hI t 58 (2600 * e + q) = hI h 58 (15600 + q) ∧ hI t 59 (2600 * e + q) = hI h 59 (15600 + q)) → Gd X mX11_keeps 389 [none, none, none, none, none] [] t 0 0 P) : Gd X mX11_keeps 331 [some (.ref 35), some (.int (nI e)), some (.int (nI 0)), none, none] [] h 0 0 P := by
  refine for_up (G := fun n t => Gd X mX11_keeps 331 [some (.ref 35), some (.int (nI e)), some (.int (nI n)), none, none] [] t 0 0 P) (I := fun n t => cf (fun b j => (b = 58 ∨ b = 59) ∧ 2600 * e ≤ j ∧ j < 2600 * e + k) h t ∧ ∀ q, q < n → hI t 58 (2600 * e + q) = hI h 58 (15600 + q) ∧ hI t 59 (2600 * e + q) = hI h 59 (15600 + q)) k ?_ ?_ 0 h (Nat.zero_le _) ⟨cf.rf, fun q hq => absurd hq (Nat.not_lt_zero _)⟩
  · rintro t ⟨c, K⟩
    exact bkX11_keeps_331 (c.1 ▸ F) (fun _ => kont t c K) (fun z => absurd (by rw [(c.2 35 30 (by omega)).1, h30]; exact (Int32.le_refl _)) z)
  · rintro n t hn ⟨c, K⟩ ih
    have Ft : LX11 (Sk t) 35 := c.1 ▸ F
    have e1 : (15600 : Int32) + nI n = nI (15600 + n) := nI_add 15600 n
    have e2 : (2600 : Int32) * nI e + nI n = nI (2600 * e + n) := by rw [show (2600 : Int32) = nI 2600 from rfl, pk_mul, nI_add]
    have sr : ∀ b, hI t b (15600 + n) = hI h b (15600 + n) ∧ hJ t b (15600 + n) = hJ h b (15600 + n) := fun b => c.2 b _ (by omega)
    refine bkX11_keeps_331 Ft (fun z => ?_) (fun _ => ?_)
    · rw [(c.2 35 30 (by omega)).1, h30, nI_leI (by omega) (by omega)] at z; omega
    refine bkX11_keeps_339 Ft (by rw [e1]; exact (vp_in_nI (by omega) (by omega))) (by rw [e2]; exact (vp_in_nI (by omega) (by omega))) ?_
    rw [e1, e2, nI_clamp (n := 15600 + n) (by omega), nI_clamp (n := 2600 * e + n) (by omega)]
    rw [nI_1]
    refine ih _ ⟨((c).s (by omega)).s (by omega), fun q hq => ?_⟩
    by_cases y : q = n
    · subst y
      simp only [hI_sI, hI_sJ, hJ_sI, hJ_sJ]
      simp [sr]
    · have K1 := K q (by omega)
      simp only [hI_sI, hI_sJ, hJ_sI, hJ_sJ]
      simp [y, K1]
end KP
