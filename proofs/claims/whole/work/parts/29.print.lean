/-! ===== printed signs ===== -/
def blk (T : List Nat) : List Nat := if T = [] then [] else T ++ [32]
/-- the k + 1 low digits -/
def dgl : Nat → Nat → List Nat
  | 0, n => [48 + n / 10 ^ 0 % 10]
  | k + 1, n => (48 + n / 10 ^ (k + 1) % 10) :: dgl k n
def ndg (n : Nat) : Nat := if n < 10 then 0 else if n < 100 then 1 else if n < 1000 then 2 else if n < 10000 then 3 else if n < 100000 then 4 else if n < 1000000 then 5 else if n < 10000000 then 6 else if n < 100000000 then 7 else 8
def nmb (v : Int32) : List Nat := (if v < 0 then [45] else []) ++ dgl (ndg v.toInt.natAbs) v.toInt.natAbs
def LT (h : SH) (a : Nat) (T : List Nat) : Prop := hI h a 5 = nI T.length ∧ T.length ≤ 2772 ∧ (∀ x ∈ T, x ≤ 127) ∧ ∀ (i : Nat) (hi : i < T.length), hI h (a + 4) i = nI T[i]
def OT (h : SH) (m : Nat) (T : List Nat) : Prop := hI h m 48 = nI T.length ∧ T.length ≤ 2772 ∧ ∀ (i : Nat) (hi : i < T.length), hI h (m + 33) i = nI T[i]
def LTo (a : Nat) (h t : SH) : Prop := chI (fun b => b = a ∨ b = a + 4) h t ∧ ∀ j, j ≠ 5 → hI t a j = hI h a j
def OTo (m : Nat) (h t : SH) : Prop := chI (fun b => b = m ∨ b = m + 33) h t ∧ ∀ j, j ≠ 48 → hI t m j = hI h m j
theorem LTo.rf {a : Nat} {h : SH} : LTo a h h := ⟨chI.rf, fun _ _ => rfl⟩
theorem LTo.tr {a : Nat} {h t u : SH} (p : LTo a h t) (q : LTo a t u) : LTo a h u := ⟨p.1.tr q.1, fun j hj => (q.2 j hj).trans (p.2 j hj)⟩
theorem OTo.rf {a : Nat} {h : SH} : OTo a h h := ⟨chI.rf, fun _ _ => rfl⟩
theorem OTo.tr {a : Nat} {h t u : SH} (p : OTo a h t) (q : OTo a t u) : OTo a h u := ⟨p.1.tr q.1, fun j hj => (q.2 j hj).trans (p.2 j hj)⟩
theorem blk_len (T : List Nat) : (blk T).length ≤ T.length + 1 := by unfold blk; split <;> simp
theorem dgl_len : ∀ (k n : Nat), (dgl k n).length = k + 1
  | 0, _ => rfl
  | k + 1, n => by show (dgl k n).length + 1 = _; rw [dgl_len k n]
theorem dgl_le : ∀ (k n : Nat), ∀ x ∈ dgl k n, x ≤ 127
  | 0, n, x, h => by
    have : x = 48 + n / 10 ^ 0 % 10 := by simpa [dgl] using h
    omega
  | k + 1, n, x, h => by
    rcases List.mem_cons.mp h with q | q
    · omega
    · exact dgl_le k n x q
theorem ndg_8 (n : Nat) : ndg n ≤ 8 := by unfold ndg; repeat' split
                                          all_goals omega
theorem nmb_len (v : Int32) : (nmb v).length ≤ 10 := by
  unfold nmb
  have := ndg_8 v.toInt.natAbs
  rw [List.length_append, dgl_len]
  split <;> simp <;> omega
/-- the unit of the first digit -/
theorem ndg_ok {n : Nat} (hn : n < 10 ^ 9) : n / 10 ^ ndg n < 10 ∧ ∀ j, j < ndg n → 10 ≤ n / 10 ^ j := by
  have key : ∀ k, k ≤ 8 → n < 10 ^ (k + 1) → (k = 0 ∨ 10 ^ k ≤ n) → n / 10 ^ k < 10 ∧ ∀ j, j < k → 10 ≤ n / 10 ^ j := by
    intro k _ h1 h2
    refine ⟨Nat.div_lt_of_lt_mul (by rw [← Nat.pow_succ]; exact h1), fun j hj => ?_⟩
    rcases h2 with q | q
    · omega
    · rw [Nat.le_div_iff_mul_le (Nat.pow_pos (by decide))]
      calc 10 * 10 ^ j = 10 ^ (j + 1) := by rw [Nat.pow_succ, Nat.mul_comm]
        _ ≤ 10 ^ k := Nat.pow_le_pow_right (by decide) hj
        _ ≤ n := q
  unfold ndg
  by_cases h0 : n < 10
  · rw [if_pos h0]; exact key 0 (by omega) (by simpa using h0) (Or.inl rfl)
  rw [if_neg h0]
  by_cases h1 : n < 100
  · rw [if_pos h1]; exact key 1 (by omega) (by simpa using h1) (Or.inr (by simpa using h0))
  rw [if_neg h1]
  by_cases h2 : n < 1000
  · rw [if_pos h2]; exact key 2 (by omega) (by simpa using h2) (Or.inr (by simpa using h1))
  rw [if_neg h2]
  by_cases h3 : n < 10000
  · rw [if_pos h3]; exact key 3 (by omega) (by simpa using h3) (Or.inr (by simpa using h2))
  rw [if_neg h3]
  by_cases h4 : n < 100000
  · rw [if_pos h4]; exact key 4 (by omega) (by simpa using h4) (Or.inr (by simpa using h3))
  rw [if_neg h4]
  by_cases h5 : n < 1000000
  · rw [if_pos h5]; exact key 5 (by omega) (by simpa using h5) (Or.inr (by simpa using h4))
  rw [if_neg h5]
  by_cases h6 : n < 10000000
  · rw [if_pos h6]; exact key 6 (by omega) (by simpa using h6) (Or.inr (by simpa using h5))
  rw [if_neg h6]
  by_cases h7 : n < 100000000
  · rw [if_pos h7]; exact key 7 (by omega) (by simpa using h7) (Or.inr (by simpa using h6))
  rw [if_neg h7]
  exact key 8 (by omega) (by simpa using hn) (Or.inr (by simpa using h7))
theorem p10 {k : Nat} (h : k ≤ 9) : 10 ^ k < 2 ^ 31 := Nat.lt_of_le_of_lt (Nat.pow_le_pow_right (by decide) h) (by decide)
theorem nar_byte {x : Nat} (h : x ≤ 127) : vp_nar .byte ((nI x : Int32).toInt8.toInt32) = nI x := by
  rw [pk_vb]
  have : ∀ x : Fin 128, (nI x.val : Int32).toInt8.toInt32 = nI x.val := by decide
  exact this ⟨x, by omega⟩
section PR
variable {X : GX} {h : SH} {a m : Nat} {T : List Nat}
theorem LT.put {t : SH} {x : Nat} (L : LT h a T) (hx : x ≤ 127) (hl : T.length < 2772) (h5 : hI t a 5 = nI (T.length + 1)) (hn : hI t (a + 4) T.length = nI x) (ho : ∀ i, i ≠ T.length → hI t (a + 4) i = hI h (a + 4) i) : LT t a (T ++ [x]) := by
  refine ⟨by rw [h5]; simp, by simp; omega, fun y hy => ?_, fun i hi => ?_⟩
  · rcases List.mem_append.mp hy with q | q
    · exact L.2.2.1 y q
    · rw [List.mem_singleton.mp q]; exact hx
  · by_cases q : i = T.length
    · subst q; rw [hn]; simp
    · have : i < T.length := by simp at hi; omega
      rw [ho i q, L.2.2.2 i this, List.getElem_append_left this]
theorem OT.put {t : SH} {x : Nat} (L : OT h m T) (hl : T.length < 2772) (h5 : hI t m 48 = nI (T.length + 1)) (hn : hI t (m + 33) T.length = nI x) (ho : ∀ i, i ≠ T.length → hI t (m + 33) i = hI h (m + 33) i) : OT t m (T ++ [x]) := by
  refine ⟨by rw [h5]; simp, by simp; omega, fun i hi => ?_⟩
  by_cases q : i = T.length
  · subst q; rw [hn]; simp
  · have : i < T.length := by simp at hi; omega
    rw [ho i q, L.2.2 i this, List.getElem_append_left this]
theorem c_printSign {x : Nat} (F : LX6 (Sk h) a) (L : LT h a T) (hx : x ≤ 127) (hl : T.length < 2772) : Cd X mX6_printSign [.ref a, .int (nI x)] h 0 0 (oV (fun t => LTo a h t ∧ LT t a (T ++ [x])) nX) := by
  have e5 := L.1
  refine bkX6_printSign_0 F (fun q => ?_) (fun _ => ?_)
  · rw [e5] at q; exact absurd q (nI_ge hl (by omega))
  refine bkX6_printSign_12 F (by rw [e5]; exact (vp_in_nI (by omega) (by omega))) (bkX6_printSign_33 ?_)
  rw [e5, nI_clamp (by omega), nar_byte hx, sI_nb (by omega), e5, nI_1]
  refine ⟨⟨(chI.rf.s (Or.inr rfl)).s (Or.inl rfl), fun j hj => by rw [sI_nj hj, sI_nb (by omega)]⟩, L.put hx hl sI_at (by rw [sI_nb (by omega), sI_at]) (fun i hi => by rw [sI_nb (by omega), sI_nj hi])⟩
theorem c_put {x : Nat} (F : LX11 (Sk h) m) (L : OT h m T) (hl : T.length < 2772) : Cd X mX11_put [.ref m, .int (nI x)] h 0 0 (oV (fun t => OTo m h t ∧ OT t m (T ++ [x])) nX) := by
  have e5 := L.1
  refine bkX11_put_0 F (by rw [e5]; exact (vp_in_nI (by omega) (by omega))) ?_
  rw [e5, nI_clamp (by omega), sI_nb (by omega), e5, nI_1]
  refine ⟨⟨(chI.rf.s (Or.inr rfl)).s (Or.inl rfl), fun j hj => by rw [sI_nj hj, sI_nb (by omega)]⟩, L.put hl sI_at (by rw [sI_nb (by omega), sI_at]) (fun i hi => by rw [sI_nb (by omega), sI_nj hi])⟩
theorem c_printBlank (F : LX6 (Sk h) a) (L : LT h a T) (hl : T.length < 2772) : Cd X mX6_printBlankBetween [.ref a] h 0 0 (oV (fun t => LTo a h t ∧ LT t a (blk T)) nX) := by
  refine bkX6_printBlankBetween_0 F (fun q => ?_) (fun q => ?_)
  · rw [L.1, n0, nI_leI (by omega) (by omega)] at q
    have : T = [] := List.eq_nil_of_length_eq_zero (by omega)
    subst this
    exact bkX6_printBlankBetween_13 ⟨LTo.rf, L⟩
  · rw [L.1, n0, nI_leI (by omega) (by omega)] at q
    refine bkX6_printBlankBetween_7 F (c_printSign (x := 32) F L (by omega) hl) (fun t hq => bkX6_printBlankBetween_13 ?_)
    have : blk T = T ++ [32] := if_neg (fun z => by rw [z] at q; exact q (Nat.le_refl _))
    rw [this]; exact hq
theorem c_blank (F : LX11 (Sk h) m) (L : OT h m T) (hl : T.length < 2772) : Cd X mX11_blank [.ref m] h 0 0 (oV (fun t => OTo m h t ∧ OT t m (blk T)) nX) := by
  refine bkX11_blank_0 F (fun q => ?_) (fun q => ?_)
  · rw [L.1, n0, nI_leI (by omega) (by omega)] at q
    have : T = [] := List.eq_nil_of_length_eq_zero (by omega)
    subst this
    exact bkX11_blank_13 ⟨OTo.rf, L⟩
  · rw [L.1, n0, nI_leI (by omega) (by omega)] at q
    refine bkX11_blank_7 F (c_put (x := 32) F L hl) (fun t hq => bkX11_blank_13 ?_)
    have : blk T = T ++ [32] := if_neg (fun z => by rw [z] at q; exact q (Nat.le_refl _))
    rw [this]; exact hq
theorem abs_nat {v : Int32} (hv : v.toInt.natAbs < 10 ^ 9) : (if 0 ≤ v then v else 0 - v) = nI v.toInt.natAbs := by
  apply Int32.toInt_inj.mp
  rw [nI_toInt (by omega)]
  split
  · rename_i q
    have := Int32.le_iff_toInt_le.mp q
    simp at this; omega
  · rename_i q
    have q1 : v.toInt < 0 := by
      have := (not_congr Int32.le_iff_toInt_le).mp q
      simp at this; exact this
    rw [Int32.toInt_sub]
    have : (0 : Int32).toInt = 0 := rfl
    rw [this, Int.bmod_eq_of_le (by omega) (by omega)]; omega
theorem neg_iff {v : Int32} : v < 0 ↔ ¬ (0 : Int32) ≤ v := by
  rw [Int32.lt_iff_toInt_lt, Int32.le_iff_toInt_le]; simp
theorem c_printNumber {v : Int32} (F : LX6 (Sk h) a) (L : LT h a T) (hv : v.toInt.natAbs < 10 ^ 9) (hl : T.length + 11 ≤ 2772) : Cd X mX6_printNumber [.ref a, .int v] h 0 0 (oV (fun t => LTo a h t ∧ LT t a (blk T ++ nmb v)) nX) := by
  generalize hP : oV (fun t => LTo a h t ∧ LT t a (blk T ++ nmb v)) nX = P
  have hb := blk_len T
  generalize hr : v.toInt.natAbs = r at hv
  refine bkX6_printNumber_0 F (c_printBlank F L (by omega)) (fun t hq => ?_)
  have main : ∀ (t : SH) (U : List Nat), LTo a h t → LT t a U → U ++ dgl (ndg r) r = blk T ++ nmb v → Gd X mX6_printNumber 14 [some (.ref a), some (.int v), none, none, none] [] t 0 0 P := fun t U k1 k2 k3 => by
    refine bkX6_printNumber_14 ?_
    rw [abs_nat (by omega), hr]
    refine bkX6_printNumber_18 ?_
    obtain ⟨d1, d2⟩ := ndg_ok hv
    have d8 := ndg_8 r
    have hU : U.length + (ndg r + 1) ≤ 2772 := by
      have e := congrArg List.length k3
      rw [List.length_append, List.length_append, dgl_len] at e
      have := nmb_len v
      omega
    -- the digits
    have loop2 : ∀ (k : Nat) (t : SH) (V : List Nat), k ≤ 8 → LTo a h t → LT t a V → V ++ dgl k r = blk T ++ nmb v → V.length + (k + 1) ≤ 2772 → Gd X mX6_printNumber 50 [some (.ref a), none, some (.int (nI r)), some (.int (nI (10 ^ k))), none] [] t 0 0 P := by
      intro k
      induction k with
      | zero =>
        intro t V hk k1 k2 k3 k4
        have F' : LX6 (Sk t) a := k1.1.1 ▸ F
        refine bkX6_printNumber_50 (fun q => absurd q (by decide)) (fun _ => ?_)
        have e1 : (48 : Int32) + (nI r / nI (10 ^ 0) - nI r / nI (10 ^ 0) / 10 * 10) = nI (48 + r / 10 ^ 0 % 10) := by
          rw [pk_div (by omega) (by decide) (by decide), show (10 : Int32) = nI 10 from rfl, pk_rem (by simp; omega) (by decide) (by decide), show (48 : Int32) = nI 48 from rfl, nI_add]
        refine bkX6_printNumber_55 (by decide) F' (by rw [e1]; exact c_printSign F' k2 (by omega) (by omega)) (fun u hq => ?_)
        refine bkX6_printNumber_68 ?_
        refine bkX6_printNumber_50 (fun _ => ?_) (fun q => absurd (by decide) q)
        refine bkX6_printNumber_76 ?_
        rw [← hP]
        refine ⟨k1.tr hq.1, ?_⟩
        rw [← k3]; exact hq.2
      | succ k ih =>
        intro t V hk k1 k2 k3 k4
        have F' : LX6 (Sk t) a := k1.1.1 ▸ F
        have hp := p10 (k := k + 1) (by omega)
        have hp0 : 0 < 10 ^ (k + 1) := Nat.pow_pos (by decide)
        refine bkX6_printNumber_50 (fun q => ?_) (fun _ => ?_)
        · rw [n1, nI_ltI hp (by omega)] at q; omega
        have e1 : (48 : Int32) + (nI r / nI (10 ^ (k + 1)) - nI r / nI (10 ^ (k + 1)) / 10 * 10) = nI (48 + r / 10 ^ (k + 1) % 10) := by
          rw [pk_div (by omega) hp0 hp, show (10 : Int32) = nI 10 from rfl, pk_rem (Nat.lt_of_le_of_lt (Nat.div_le_self _ _) (by omega)) (by decide) (by decide), show (48 : Int32) = nI 48 from rfl, nI_add]
        refine bkX6_printNumber_55 (nI_ne0 hp0 hp) F' (by rw [e1]; exact c_printSign F' k2 (by omega) (by omega)) (fun u hq => ?_)
        refine bkX6_printNumber_68 ?_
        have e2 : nI (10 ^ (k + 1)) / 10 = nI (10 ^ k) := by rw [show (10 : Int32) = nI 10 from rfl, pk_div hp (by decide) (by decide), Nat.pow_succ, Nat.mul_div_cancel _ (by decide)]
        rw [e2]
        refine ih u (V ++ [48 + r / 10 ^ (k + 1) % 10]) (by omega) (k1.tr hq.1) hq.2 ?_ (by simp; omega)
        rw [← k3]; show V ++ [_] ++ dgl k r = V ++ (_ :: dgl k r); simp
    have loop1 : ∀ (d j : Nat), ndg r - j = d → j ≤ ndg r → Gd X mX6_printNumber 24 [some (.ref a), none, some (.int (nI r)), some (.int (nI (10 ^ j))), some (.int (nI (j + 1)))] [] t 0 0 P := by
      intro d
      induction d with
      | zero =>
        intro j hj hj2
        have e : j = ndg r := by omega
        subst e
        have out := loop2 (ndg r) t U d8 k1 k2 k3 hU
        refine bkX6_printNumber_24 (fun _ => out) (fun _ => ?_)
        have hp := p10 (k := ndg r) (by omega)
        have hp0 : 0 < 10 ^ ndg r := Nat.pow_pos (by decide)
        refine bkX6_printNumber_31 (nI_ne0 hp0 hp) (fun _ => out) (fun q => absurd ?_ q)
        rw [pk_div (by omega) hp0 hp, show (10 : Int32) = nI 10 from rfl]
        exact nI_lt d1 (by decide)
      | succ d ih =>
        intro j hj hj2
        have hp := p10 (k := j) (by omega)
        have hp0 : 0 < 10 ^ j := Nat.pow_pos (by decide)
        refine bkX6_printNumber_24 (fun q => ?_) (fun _ => ?_)
        · rw [show (10 : Int32) = nI 10 from rfl, nI_leI (by omega) (by omega)] at q; omega
        refine bkX6_printNumber_31 (nI_ne0 hp0 hp) (fun q => ?_) (fun _ => ?_)
        · rw [pk_div (by omega) hp0 hp, show (10 : Int32) = nI 10 from rfl, nI_ltI (Nat.lt_of_le_of_lt (Nat.div_le_self _ _) (by omega)) (by decide)] at q
          have := d2 j (by omega)
          omega
        refine bkX6_printNumber_39 ?_
        rw [show (10 : Int32) = nI 10 from rfl, pk_mul, nI_1, ← Nat.pow_succ]
        exact ih (j + 1) (by omega) (by omega)
    exact loop1 (ndg r) 0 (by omega) (by omega)
  have F' : LX6 (Sk t) a := hq.1.1.1 ▸ F
  refine bkX6_printNumber_4 (fun q => ?_) (fun q => ?_)
  · refine main t (blk T) hq.1 hq.2 ?_
    unfold nmb
    rw [if_neg (fun z => neg_iff.mp z q), hr]; rfl
  · refine bkX6_printNumber_8 F' (c_printSign (x := 45) F' hq.2 (by omega) (by omega)) (fun u hq2 => ?_)
    refine main u (blk T ++ [45]) (hq.1.tr hq2.1) hq2.2 ?_
    unfold nmb
    rw [if_pos (neg_iff.mpr q), hr, List.append_assoc]
theorem l10 : (10 : Int64) = lN 10 := rfl
theorem l37 : (37 : Int64) = lN 37 := rfl
theorem lN_eq0 {n : Nat} (h : n < 2 ^ 63) : lN n = 0 ↔ n = 0 := by rw [show (0 : Int64) = lN 0 from rfl, pk_lEQ h (by decide)]
theorem abs_lN {v : Int32} (hv : v.toInt.natAbs < 10 ^ 9) : (if 0 ≤ v then v.toInt64 else -v.toInt64) = lN v.toInt.natAbs := by
  apply Int64.toInt_inj.mp
  rw [pk_lT (by omega)]
  split
  · rename_i q
    have := Int32.le_iff_toInt_le.mp q
    rw [Int32.toInt_toInt64]
    simp at this; omega
  · rename_i q
    have q1 : v.toInt < 0 := by
      have := (not_congr Int32.le_iff_toInt_le).mp q
      simp at this; exact this
    rw [Int64.toInt_neg, Int32.toInt_toInt64, Int.bmod_eq_of_le (by omega) (by omega)]; omega
theorem c_prints {v : Int32} (F : LX11 (Sk h) m) (L : OT h m T) (hv : v.toInt.natAbs < 10 ^ 9) (hl : T.length + 11 ≤ 2772) : Cd X mX11_prints [.ref m, .int v] h 0 0 (oV (fun t => OTo m h t ∧ OT t m (blk T ++ nmb v)) nX) := by
  generalize hP : oV (fun t => OTo m h t ∧ OT t m (blk T ++ nmb v)) nX = P
  have hb := blk_len T
  have eA := abs_lN hv
  generalize hr : v.toInt.natAbs = r at hv eA
  refine bkX11_prints_0 F (c_blank F L (by omega)) (fun t hq => ?_)
  have main : ∀ (t : SH) (U : List Nat), OTo m h t → OT t m U → U ++ dgl (ndg r) r = blk T ++ nmb v → Gd X mX11_prints 27 [some (.ref m), none, some (.long (lN r)), none, none, none] [] t 0 0 P := fun t U k1 k2 k3 => by
    refine bkX11_prints_27 ?_
    obtain ⟨d1, d2⟩ := ndg_ok hv
    have d8 := ndg_8 r
    have hU : U.length + (ndg r + 1) ≤ 2772 := by
      have e := congrArg List.length k3
      rw [List.length_append, List.length_append, dgl_len] at e
      have := nmb_len v
      omega
    have loop2 : ∀ (k : Nat) (t : SH) (V : List Nat), k ≤ 8 → OTo m h t → OT t m V → V ++ dgl k r = blk T ++ nmb v → V.length + (k + 1) ≤ 2772 → Gd X mX11_prints 52 [some (.ref m), none, some (.long (lN r)), none, some (.long (lN (10 ^ k))), none] [] t 0 0 P := by
      intro k
      induction k with
      | zero =>
        intro t V hk k1 k2 k3 k4
        have F' : LX11 (Sk t) m := k1.1.1 ▸ F
        refine bkX11_prints_52 (fun q => absurd q (by decide)) (fun _ => ?_)
        have e1 : ((48 : Int64) + (lN r / lN (10 ^ 0) - lN r / lN (10 ^ 0) / 10 * 10)).toInt32 = nI (48 + r / 10 ^ 0 % 10) := by
          rw [pk_lDiv (by omega) (by decide) (by decide), l10, pk_lRem (by simp; omega) (by decide) (by decide), show (48 : Int64) = lN 48 from rfl, lN_add, lN_i]
        refine bkX11_prints_59 (by decide) F' (by rw [e1]; exact c_put F' k2 (by omega)) (fun u hq => ?_)
        refine bkX11_prints_76 ?_
        refine bkX11_prints_52 (fun _ => ?_) (fun q => absurd (by decide) q)
        refine bkX11_prints_87 ?_
        rw [← hP]
        refine ⟨k1.tr hq.1, ?_⟩
        rw [← k3]; exact hq.2
      | succ k ih =>
        intro t V hk k1 k2 k3 k4
        have F' : LX11 (Sk t) m := k1.1.1 ▸ F
        have hp := p10 (k := k + 1) (by omega)
        have hp0 : 0 < 10 ^ (k + 1) := Nat.pow_pos (by decide)
        refine bkX11_prints_52 (fun q => ?_) (fun _ => ?_)
        · rw [lg_cmp_le, show (0 : Int64) = lN 0 from rfl, pk_lLE (by omega) (by decide)] at q; omega
        have e1 : ((48 : Int64) + (lN r / lN (10 ^ (k + 1)) - lN r / lN (10 ^ (k + 1)) / 10 * 10)).toInt32 = nI (48 + r / 10 ^ (k + 1) % 10) := by
          rw [pk_lDiv (by omega) hp0 (by omega), l10, pk_lRem (Nat.lt_of_le_of_lt (Nat.div_le_self _ _) (by omega)) (by decide) (by decide), show (48 : Int64) = lN 48 from rfl, lN_add, lN_i]
        refine bkX11_prints_59 (fun q => by rw [lN_eq0 (by omega)] at q; omega) F' (by rw [e1]; exact c_put F' k2 (by omega)) (fun u hq => ?_)
        refine bkX11_prints_76 ?_
        have e2 : lN (10 ^ (k + 1)) / 10 = lN (10 ^ k) := by rw [l10, pk_lDiv (by omega) (by decide) (by decide), Nat.pow_succ, Nat.mul_div_cancel _ (by decide)]
        rw [e2]
        refine ih u (V ++ [48 + r / 10 ^ (k + 1) % 10]) (by omega) (k1.tr hq.1) hq.2 ?_ (by simp; omega)
        rw [← k3]; show V ++ [_] ++ dgl k r = V ++ (_ :: dgl k r); simp
    have loop1 : ∀ (d j : Nat), ndg r - j = d → j ≤ ndg r → Gd X mX11_prints 30 [some (.ref m), none, some (.long (lN r)), none, some (.long (lN (10 ^ j))), none] [] t 0 0 P := by
      intro d
      induction d with
      | zero =>
        intro j hj hj2
        have e : j = ndg r := by omega
        subst e
        have out := loop2 (ndg r) t U d8 k1 k2 k3 hU
        have hp := p10 (k := ndg r) (by omega)
        have hp0 : 0 < 10 ^ ndg r := Nat.pow_pos (by decide)
        refine bkX11_prints_30 (fun q => by rw [lN_eq0 (by omega)] at q; omega) (fun _ => out) (fun q => absurd ?_ q)
        rw [lg_cmp_le, pk_lDiv (by omega) hp0 (by omega), show (9 : Int64) = lN 9 from rfl, pk_lLE (by omega) (by decide)]
        omega
      | succ d ih =>
        intro j hj hj2
        have hp := p10 (k := j) (by omega)
        have hp0 : 0 < 10 ^ j := Nat.pow_pos (by decide)
        refine bkX11_prints_30 (fun q => by rw [lN_eq0 (by omega)] at q; omega) (fun q => ?_) (fun _ => ?_)
        · rw [lg_cmp_le, pk_lDiv (by omega) hp0 (by omega), show (9 : Int64) = lN 9 from rfl, pk_lLE (Nat.lt_of_le_of_lt (Nat.div_le_self _ _) (by omega)) (by decide)] at q
          have := d2 j (by omega)
          omega
        refine bkX11_prints_41 ?_
        rw [l10, lN_mul, ← Nat.pow_succ]
        exact ih (j + 1) (by omega) (by omega)
    exact loop1 (ndg r) 0 (by omega) (by omega)
  have F' : LX11 (Sk t) m := hq.1.1.1 ▸ F
  have mid : ∀ y : Int64, y = lN r → Gd X mX11_prints 16 [some (.ref m), some (.int v), none, none, none, none] [.long y] t 0 0 P := fun y hy => by
    subst hy
    refine bkX11_prints_16 (fun q => ?_) (fun q => ?_)
    · refine main t (blk T) hq.1 hq.2 ?_
      unfold nmb
      rw [if_neg (fun z => neg_iff.mp z q), hr]; rfl
    · refine bkX11_prints_21 F' (c_put (x := 45) F' hq.2 (by omega)) (fun u hq2 => ?_)
      refine main u (blk T ++ [45]) (hq.1.tr hq2.1) hq2.2 ?_
      unfold nmb
      rw [if_pos (neg_iff.mpr q), hr, List.append_assoc]
  refine bkX11_prints_4 (fun q => ?_) (fun q => ?_)
  · rw [if_pos q] at eA
    exact bkX11_prints_14 (mid _ eA)
  · rw [if_neg q] at eA
    exact bkX11_prints_8 (mid _ eA)
end PR
