/-! ===== the reader: values, closings, signs ===== -/
theorem pnd_j {j c : Nat} {u : List (Nat × Nat)} (h : j ≠ 0) : 1 ≤ pnd ((j, c) :: u) := by
  simp only [pnd]; unfold pn1; rw [if_neg h]; omega
theorem pnd_c {j c : Nat} {u : List (Nat × Nat)} (h : c ≠ 0) : 1 ≤ pnd ((j, c) :: u) := by
  simp only [pnd]; unfold pn1; simp only; rw [if_neg h]; omega
section RF3
variable {X : GX} {h h0 : SH} {T : List Tk} {k e i0 : Nat} {N : List (List Nat)} {F : List Fct}
theorem FC.cg {t : SH} {S : Nat → Prop} (Q : FC h e F) (c : chR S h t) (h1 : ¬ S e) (h2 : ¬ S (e + 1)) : FC t e F := ⟨c.1 ▸ Q.1, by rw [(c.2 e h1).1]; exact Q.2.1, by rw [(c.2 (e + 1) h2).2]; exact Q.2.2⟩
theorem c_readValue {j c i : Nat} {u : List (Nat × Nat)} {cd : Fml} {s' : StE} (E : EC h0 h k e T N (0, (j, c) :: u, cd, i)) (I : invE T F i0 (0, (j, c) :: u, cd, i)) (hT : okT T) (hek : e + 8 ≤ k) (Q : FC h e F) (ok : okFs F) (k40 : kd T i ≠ 40) (hst : stE T F (0, (j, c) :: u, cd, i) = .inl s') : Cd X mX7_readValue [.ref k, .int (nI u.length)] h 0 0 (oV (fun t => EC h0 t k e T N s' ∧ s' = (1, (0, c) :: u, cd ++ vcode T F i :: opt j, i + 1) ∧ chR (fS k) h t) nX) := by
  have R := E.R
  simp only at R
  have hi := R.2.2.2.1.2.2.2.2
  have hk8 : hI h (k + 3) 8 = nI (kd T i) := R.2.2.2.1.2.1
  have h61 := hT.k hi
  have h8 := ok.1
  have hjc : okL (j, c) := I.2.2.2.2.2.2.2.2.1 (j, c) List.mem_cons_self
  have hj : j = 0 ∨ j = 3 ∨ j = 4 := hjc.1
  have hlen : cd.length + pnd ((j, c) :: u) + i0 ≤ i := I.2.2.1
  have hu6 : u.length + 1 ≤ 6 := I.2.2.2.2.2.2.2.1
  rw [stE_0, if_neg k40] at hst
  by_cases q2 : kd T i = 12 ∨ kd T i = 11
  rotate_left
  · rw [if_neg q2] at hst; cases hst
  rw [if_pos q2] at hst
  by_cases q3 : kd T i = 11 ∧ ¬ fdx F (wd T i) < F.length
  · rw [if_pos q3] at hst; cases hst
  rw [if_neg q3] at hst
  by_cases q4 : u.length = 5
  · rw [if_pos q4] at hst; cases hst
  rw [if_neg q4] at hst
  cases hst
  have hi1 : i + 1 < T.length := hT.lt hi (by omega)
  generalize hP : oV (fun t => EC h0 t k e T N (1, (0, c) :: u, cd ++ vcode T F i :: opt j, i + 1) ∧ (1, (0, c) :: u, cd ++ vcode T F i :: opt j, i + 1) = ((1, (0, c) :: u, cd ++ vcode T F i :: opt j, i + 1) : StE) ∧ chR (fS k) h t) nX = P
  -- behind the operand
  have tail : ∀ (a : Nat) (y : Int32), a = (vcode T F i).1 → y = nI (vcode T F i).2 → Gd X mX7_readValue 99 [some (.ref k), some (.int (nI u.length)), none, some (.int y)] [.int (nI a), .ref k] h 0 0 P := fun a y ha hy => by
    have hvb : (vcode T F i).1 ≤ 2 ∧ 1 ≤ (vcode T F i).1 ∧ (vcode T F i).2 ≤ 9999 := by
      unfold vcode
      by_cases z : kd T i = 12
      · rw [if_pos z]; exact ⟨by show 1 ≤ 2; omega, by show 1 ≤ 1; omega, hT.n hi z⟩
      · rw [if_neg z]; exact ⟨by show 2 ≤ 2; omega, by show 1 ≤ 2; omega, by show fdx F (wd T i) ≤ 9999; have := fdx_le F (wd T i); omega⟩
    have ev : nI a + 8 * y = nI (a + 8 * (vcode T F i).2) := by rw [hy, n8, pk_mul, nI_add]
    refine bkX7_readValue_99 R.1 (by rw [ev]; exact c_addOp (c := (vcode T F i).1) (x := (vcode T F i).2) R E.2.2.2.2 (by rw [ha]) (by omega) (by omega) (by simp only; omega) hT) (fun t q => ?_)
    obtain ⟨ht, D⟩ := q
    have ct : chR (fun b => b = k ∨ b = k + 9) h t := by rw [ht]; exact (chR.rf.s (Or.inr rfl)).s (Or.inl rfl)
    have c5 : ∀ q, q ≠ 5 → hI t k q = hI h k q := fun q hq => by rw [ht, sI_nj hq, sI_ne (by omega)]
    have E2 : EC h0 t k e T N (0, (j, c) :: u, cd ++ [vcode T F i], i) := E.op ct c5 D
    have ej : hI t (k + 1) (nI u.length).toNatClampNeg = nI j := by
      have := E2.2.2.2.1
      simp only at this
      rw [if_pos trivial] at this
      rw [nI_clamp (by omega)]; exact this.1.1
    refine bkX7_readValue_107 E2.R.1 (vp_in_nI (by omega) (by omega)) (by rw [ej]; exact c_addOpt (cd := cd ++ [vcode T F i]) E2 hT (by omega) rfl (fun hj0 => by have := pnd_j (c := c) (u := u) hj0; rw [List.length_append]; simp; omega)) (fun t2 q => ?_)
    obtain ⟨c2, c52, D2⟩ := q
    have E3 : EC h0 t2 k e T N (0, (j, c) :: u, (cd ++ [vcode T F i]) ++ opt j, i) := E2.op c2 c52 D2
    have E3R := E3.R
    simp only at E3R
    refine bkX7_readValue_117 E3R.1 (c_next E3R hT (by omega)) (fun t3 q => bkX7_readValue_124 ?_)
    have E4 := E3.nx q.1 q.2 (m' := 0) Iff.rfl
    rw [← hP]
    have eA : cd ++ vcode T F i :: opt j = (cd ++ [vcode T F i]) ++ opt j := by rw [List.append_assoc]; rfl
    refine ⟨?_, rfl, (ct.up (fun b z => by unfold fS; omega)).tr ((c2.up (fun b z => by unfold fS; omega)).tr (q.1.up (fun b z => by unfold fS; omega)))⟩
    rw [eA]
    obtain ⟨f1, f2, f3, f4, f5⟩ := E4
    simp only at f4
    rw [if_pos trivial] at f4
    refine ⟨f1, f2, f3, ?_, f5⟩
    simp only
    rw [if_neg (by decide)]
    exact ⟨f4.1.2, f4.2⟩
  have p89 : ∀ (a : Nat) (x2 y : Int32), (x2 = 0 → a = 1) → (x2 ≠ 0 → a = 2) → a = (vcode T F i).1 → y = nI (vcode T F i).2 → y ≠ -1 → Gd X mX7_readValue 68 [some (.ref k), some (.int (nI u.length)), some (.int x2), none] [.int y] h 0 0 P := fun a x2 y h1 h2 ha hy hm => by
    refine bkX7_readValue_68 (fun _ => ?_) (fun z => absurd z hm)
    refine bkX7_readValue_79 (fun _ => ?_) (fun z => absurd (by rw [n5, nI_ltI (by omega) (by omega)]; omega) z)
    refine bkX7_readValue_89 (fun z => ?_) (fun z => ?_)
    · have := tail a y ha hy; rw [h1 z] at this; exact bkX7_readValue_98 this
    · have := tail a y ha hy; rw [h2 z] at this; exact bkX7_readValue_94 this
  refine bkX7_readValue_0 R.1 (fun z => ?_) (fun z => ?_)
  · rw [hk8, show (11 : Int32) = nI 11 from rfl, nI_eq (by omega) (by omega)] at z
    have k12 : kd T i = 12 := by omega
    have hn := hT.n hi k12
    refine bkX7_readValue_16 (bkX7_readValue_17 (fun y => absurd rfl y) (fun _ => ?_))
    refine bkX7_readValue_22 R.1 (fun _ => ?_) (fun y => absurd (by rw [hk8, k12]; rfl) y)
    refine bkX7_readValue_39 (fun _ => ?_) (fun y => absurd rfl y)
    refine bkX7_readValue_60 R.1 ?_
    have ev : (hJ h (k + 3) 10).toInt32 = nI (nu T i) := by rw [R.2.2.2.1.2.2.2.1.b k12, ← nI_l (by omega)]; exact Int32.toInt32_toInt64 _
    rw [ev]
    refine p89 1 0 _ (fun _ => rfl) (fun y => absurd rfl y) (by unfold vcode; rw [if_pos k12]) (by unfold vcode; rw [if_pos k12]) (fun y => ?_)
    have := nI_pos' (n := nu T i) (by omega)
    rw [y] at this; exact absurd this (by decide)
  · rw [hk8, show (11 : Int32) = nI 11 from rfl, nI_eq (by omega) (by omega)] at z
    have hf : fdx F (wd T i) < F.length := Decidable.byContradiction fun y => q3 ⟨z, y⟩
    refine bkX7_readValue_12 (bkX7_readValue_17 (fun _ => ?_) (fun y => absurd y (by decide)))
    refine bkX7_readValue_39 (fun y => absurd y (by decide)) (fun _ => ?_)
    refine bkX7_readValue_43 R.1 R.2.1 Q.1 (by rw [R.2.2.2.1.2.2.2.1.a (by omega)]; exact c_factNamed Q ok (hT.w hi (by omega)).1) (fun r t q => ?_)
    obtain ⟨rfl, ht⟩ := q
    rw [ht, if_pos hf]
    refine bkX7_readValue_57 (p89 2 1 _ (fun y => absurd y (by decide)) (fun _ => rfl) (by unfold vcode; rw [if_neg (by omega)]) (by unfold vcode; rw [if_neg (by omega)]) (fun y => ?_))
    have := nI_pos' (n := fdx F (wd T i)) (by omega)
    rw [y] at this; exact absurd this (by decide)
theorem x_readValue {j c i f : Nat} {u : List (Nat × Nat)} {cd : Fml} (E : EC h0 h k e T N (0, (j, c) :: u, cd, i)) (I : invE T F i0 (0, (j, c) :: u, cd, i)) (hT : okT T) (he : e ≤ k) (Q : FC h e F) (ok : okFs F) (k40 : kd T i ≠ 40) (hst : stE T F (0, (j, c) :: u, cd, i) = .inr (.error f)) : Cd X mX7_readValue [.ref k, .int (nI u.length)] h 1 6 (oV (fun _ => False) (Zr e k f h)) := by
  have R := E.R
  simp only at R
  have hi := R.2.2.2.1.2.2.2.2
  have hk8 : hI h (k + 3) 8 = nI (kd T i) := R.2.2.2.1.2.1
  have h61 := hT.k hi
  have h8 := ok.1
  have hu6 : u.length + 1 ≤ 6 := I.2.2.2.2.2.2.2.1
  rw [stE_0, if_neg k40] at hst
  have F_ : ∀ {x : Nat}, Cd X mX7_fail [.ref k, .int (nI x)] h 1 6 (oV (fun _ => False) (Zr e k (flt T x i) h)) := fun {x} => x_fail (x := x) R he
  -- the depth is looked at last
  have p68 : ∀ (x2 y : Int32), y ≠ -1 → u.length = 5 → f = flt T 5 i → Gd X mX7_readValue 68 [some (.ref k), some (.int (nI u.length)), some (.int x2), none] [.int y] h 1 6 (oV (fun _ => False) (Zr e k f h)) := fun x2 y hm h5 hf => by
    refine bkX7_readValue_68 (fun _ => ?_) (fun z => absurd z hm)
    refine bkX7_readValue_79 (fun z => ?_) (fun _ => ?_)
    · rw [n5, nI_ltI (by omega) (by omega)] at z; omega
    rw [hf]
    exact bkX7_readValue_84 (nc := 0) (ns := 0) R.1 F_ (fun E t z => z) (fun t z => z.elim)
  by_cases q2 : kd T i = 12 ∨ kd T i = 11
  rotate_left
  · rw [if_neg q2] at hst
    cases hst
    refine bkX7_readValue_0 R.1 (fun z => ?_) (fun z => ?_)
    · refine bkX7_readValue_16 (bkX7_readValue_17 (fun y => absurd rfl y) (fun _ => ?_))
      refine bkX7_readValue_22 R.1 (fun y => ?_) (fun _ => ?_)
      · rw [hk8, show (12 : Int32) = nI 12 from rfl, nI_eq (by omega) (by omega)] at y; omega
      exact bkX7_readValue_34 (nc := 0) (ns := 0) R.1 F_ (fun E t z => z) (fun t z => z.elim)
    · rw [hk8, show (11 : Int32) = nI 11 from rfl, nI_eq (by omega) (by omega)] at z; omega
  rw [if_pos q2] at hst
  refine bkX7_readValue_0 R.1 (fun z => ?_) (fun z => ?_)
  · rw [hk8, show (11 : Int32) = nI 11 from rfl, nI_eq (by omega) (by omega)] at z
    have k12 : kd T i = 12 := by omega
    have hn := hT.n hi k12
    rw [if_neg (by omega)] at hst
    by_cases q4 : u.length = 5
    rotate_left
    · rw [if_neg q4] at hst; cases hst
    rw [if_pos q4] at hst
    refine bkX7_readValue_16 (bkX7_readValue_17 (fun y => absurd rfl y) (fun _ => ?_))
    refine bkX7_readValue_22 R.1 (fun _ => ?_) (fun y => absurd (by rw [hk8, k12]; rfl) y)
    refine bkX7_readValue_39 (fun _ => ?_) (fun y => absurd rfl y)
    refine bkX7_readValue_60 R.1 ?_
    have ev : (hJ h (k + 3) 10).toInt32 = nI (nu T i) := by rw [R.2.2.2.1.2.2.2.1.b k12, ← nI_l (by omega)]; exact Int32.toInt32_toInt64 _
    rw [ev]
    refine p68 _ _ (fun y => ?_) q4 (by cases hst; rfl)
    have := nI_pos' (n := nu T i) (by omega)
    rw [y] at this; exact absurd this (by decide)
  · rw [hk8, show (11 : Int32) = nI 11 from rfl, nI_eq (by omega) (by omega)] at z
    refine bkX7_readValue_12 (bkX7_readValue_17 (fun _ => ?_) (fun y => absurd y (by decide)))
    refine bkX7_readValue_39 (fun y => absurd y (by decide)) (fun _ => ?_)
    refine bkX7_readValue_43 R.1 R.2.1 Q.1 (by rw [R.2.2.2.1.2.2.2.1.a (by omega)]; exact c_factNamed Q ok (hT.w hi (by omega)).1) (fun r t q => ?_)
    obtain ⟨rfl, ht⟩ := q
    rw [ht]
    by_cases hf : fdx F (wd T i) < F.length
    · rw [if_neg (fun y => y.2 hf)] at hst
      by_cases q4 : u.length = 5
      rotate_left
      · rw [if_neg q4] at hst; cases hst
      rw [if_pos q4] at hst
      rw [if_pos hf]
      refine bkX7_readValue_57 (p68 _ _ (fun y => ?_) q4 (by cases hst; rfl))
      have := nI_pos' (n := fdx F (wd T i)) (by omega)
      rw [y] at this; exact absurd this (by decide)
    · rw [if_pos ⟨z, hf⟩] at hst
      cases hst
      rw [if_neg hf]
      refine bkX7_readValue_57 (bkX7_readValue_68 (fun y => absurd rfl y) (fun _ => ?_))
      exact bkX7_readValue_74 (nc := 0) (ns := 0) R.1 F_ (fun E t z => z) (fun t z => z.elim)
end RF3
