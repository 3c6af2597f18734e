/-! ===== the reader: closings, signs, a formula whole ===== -/
section RF4
variable {X : GX} {h h0 : SH} {T : List Tk} {k e i0 : Nat} {N : List (List Nat)} {F : List Fct}
theorem c_close (hT : okT T) {RR : Except Nat (Fml × Nat)} : ∀ (u : List (Nat × Nat)) (j c : Nat) (cd : Fml) (i x : Nat) (h : SH), x + u.length ≤ 4 → EC h0 h k e T N (1, (j, c) :: u, cd, i) → invE T F i0 (1, (j, c) :: u, cd, i) → runE T F (T.length - i) (1, (j, c) :: u, cd, i) = RR →
    Gd X mX7_readClosings 4 [some (.ref k), none, some (.int (nI u.length)), some (.int (nI x))] [] h 0 0 (oI (fun r t => ∃ j' c' u' cd' i', r = nI u'.length ∧ EC h0 t k e T N (1, (j', c') :: u', cd', i') ∧ invE T F i0 (1, (j', c') :: u', cd', i') ∧ i ≤ i' ∧ runE T F (T.length - i') (1, (j', c') :: u', cd', i') = RR ∧ (u' = [] ∨ kd T i' ≠ 41) ∧ chR (fS k) h t) nX) := by
  intro u
  induction u with
  | nil =>
    intro j c cd i x h hx E I hr
    refine bkX7_readClosings_4 (fun z => ?_) (fun _ => ?_)
    · rw [n5, nI_leI (by omega) (by omega)] at z; simp at hx; omega
    exact bkX7_readClosings_9 (fun _ => bkX7_readClosings_61 ⟨j, c, [], cd, i, rfl, E, I, Nat.le_refl _, hr, Or.inl rfl, chR.rf⟩) (fun z => absurd (Int32.le_refl _) z)
  | cons p u ih =>
    intro j c cd i x h hx E I hr
    obtain ⟨j2, c2⟩ := p
    rw [List.length_cons] at hx
    have R := E.R
    simp only at R
    have hi := R.2.2.2.1.2.2.2.2
    have hk8 : hI h (k + 3) 8 = nI (kd T i) := R.2.2.2.1.2.1
    have h61 := hT.k hi
    refine bkX7_readClosings_4 (fun z => ?_) (fun _ => ?_)
    · rw [n5, nI_leI (by omega) (by omega)] at z; omega
    refine bkX7_readClosings_9 (fun z => ?_) (fun _ => ?_)
    · rw [List.length_cons, n0, nI_leI (by omega) (by omega)] at z; omega
    by_cases k41 : kd T i = 41
    rotate_left
    · refine bkX7_readClosings_13 R.1 (fun _ => bkX7_readClosings_61 ⟨j, c, (j2, c2) :: u, cd, i, rfl, E, I, Nat.le_refl _, hr, Or.inr k41, chR.rf⟩) (fun z => ?_)
      rw [hk8, show (41 : Int32) = nI 41 from rfl, nI_eq (by omega) (by omega)] at z; exact absurd z k41
    refine bkX7_readClosings_13 R.1 (fun z => absurd (by rw [hk8, k41]; rfl) z) (fun _ => ?_)
    obtain ⟨-, -, c', u', g3⟩ := I.2.2.2.2.2.2.2.2.2.resolve_left (show ¬ (1 : Nat) = 0 by decide)
    injection g3 with g4 g5
    injection g4 with g6 g7
    subst g6
    have hc : c = 0 ∨ c = 5 ∨ c = 6 := (I.2.2.2.2.2.2.2.2.1 (0, c) List.mem_cons_self).2
    have hj2 : j2 = 0 ∨ j2 = 3 ∨ j2 = 4 := (I.2.2.2.2.2.2.2.2.1 (j2, c2) (List.mem_cons_of_mem _ List.mem_cons_self)).1
    have hlen : cd.length + pnd ((0, c) :: (j2, c2) :: u) + i0 ≤ i := I.2.2.1
    have hi1 : i + 1 < T.length := hT.lt hi (by omega)
    have lv := E.2.2.2.1
    simp only at lv
    rw [if_neg (by decide)] at lv
    have hlt : u.length + 1 < 6 := by omega
    have ec : hI h (k + 2) (nI (((j2, c2) :: u).length)).toNatClampNeg = nI c := by rw [List.length_cons, nI_clamp (by omega)]; exact lv.1
    have pn0 : pnd ((0, c) :: (j2, c2) :: u) = (if c = 0 then 0 else 1) + ((if j2 = 0 then 0 else 1) + (if c2 = 0 then 0 else 1) + pnd u) := by simp only [pnd]; unfold pn1; simp
    refine bkX7_readClosings_25 R.1 (by rw [List.length_cons]; exact (vp_in_nI (by omega) (by omega))) (by rw [ec]; exact c_addOpt (cd := cd) E hT (by omega) rfl (fun hc0 => by rw [if_neg hc0] at pn0; omega)) (fun t1 q => ?_)
    obtain ⟨c1, c51, D1⟩ := q
    have E1 : EC h0 t1 k e T N (1, (0, c) :: (j2, c2) :: u, cd ++ opt c, i) := E.op c1 c51 D1
    have lv1 := E1.2.2.2.1
    simp only at lv1
    rw [if_neg (by decide)] at lv1
    have em : nI ((j2, c2) :: u).length + (-1) = nI u.length := by rw [List.length_cons]; exact pk_m1 _
    have ej : hI t1 (k + 1) (nI ((j2, c2) :: u).length + (-1)).toNatClampNeg = nI j2 := by rw [em, nI_clamp (by omega)]; exact lv1.2.1.1
    have R1 := E1.R
    simp only at R1
    refine bkX7_readClosings_35 R1.1 (by rw [em]; exact (vp_in_nI (by omega) (by omega))) (by rw [ej]; exact c_addOpt (cd := cd ++ opt c) E1 hT (by omega) rfl (fun hj0 => by rw [if_neg hj0] at pn0; rw [List.length_append, opt_len]; omega)) (fun t2 q => ?_)
    obtain ⟨c2', c52, D2⟩ := q
    have E2 : EC h0 t2 k e T N (1, (0, c) :: (j2, c2) :: u, cd ++ opt c ++ opt j2, i) := E1.op c2' c52 D2
    have R2 := E2.R
    simp only at R2
    refine bkX7_readClosings_48 R2.1 (c_next R2 hT (by omega)) (fun t3 q => bkX7_readClosings_55 ?_)
    rw [em, nI_1]
    have E3 := E2.nx q.1 q.2 (m' := 1) (by decide)
    have n1 : ¬ (kd T i = 43 ∨ kd T i = 45) := by omega
    have n2 : ¬ (c = 0 ∧ (kd T i = 60 ∨ kd T i = 61)) := by omega
    have hst : stE T F (1, (0, c) :: (j2, c2) :: u, cd, i) = .inl (1, (0, c2) :: u, cd ++ opt c ++ opt j2, i + 1) := by rw [stE_1 (by decide), if_neg n1, if_neg n2]; simp only; rw [if_pos k41]
    have E4 : EC h0 t3 k e T N (1, (0, c2) :: u, cd ++ opt c ++ opt j2, i + 1) := by
      obtain ⟨f1, f2, f3, f4, f5⟩ := E3
      simp only at f4
      rw [if_neg (by decide)] at f4
      refine ⟨f1, f2, f3, ?_, f5⟩
      simp only
      rw [if_neg (by decide)]
      exact ⟨f4.2.1.2, f4.2.2⟩
    have hr2 : runE T F (T.length - (i + 1)) (1, (0, c2) :: u, cd ++ opt c ++ opt j2, i + 1) = RR := by
      rw [← hr]
      have := runE_s I
      simp only at this
      rw [this, hst]
    have nx := ih 0 c2 (cd ++ opt c ++ opt j2) (i + 1) (x + 1) t3 (by omega) E4 (stE_l hT I hst).1 hr2
    have ct : chR (fS k) h t3 := (c1.up (fun b z => by unfold fS; omega)).tr ((c2'.up (fun b z => by unfold fS; omega)).tr (q.1.up (fun b z => by unfold fS; omega)))
    refine Gd.mono (Nat.le_refl _) (Nat.le_refl _) (fun o w y => ?_) nx
    match o, y with
    | .inl (some (.int r)), ⟨j', c', u', cd', i', y1, y2, y3, y4, y5, y6, y7⟩ => exact ⟨j', c', u', cd', i', y1, y2, y3, by omega, y5, y6, ct.tr y7⟩
/-- a sign that goes on, or none -/
theorem c_readOperator {c i : Nat} {u : List (Nat × Nat)} {cd : Fml} (hT : okT T) (E : EC h0 h k e T N (1, (0, c) :: u, cd, i)) (I : invE T F i0 (1, (0, c) :: u, cd, i)) :
    Cd X mX7_readOperator [.ref k, .int (nI u.length)] h 0 0 (oI (fun r t => (r = 1 ∧ ∃ p, stE T F (1, (0, c) :: u, cd, i) = .inl (0, p :: u, cd, i + 1) ∧ EC h0 t k e T N (0, p :: u, cd, i + 1) ∧ chR (fS k) h t) ∨ (r = 0 ∧ t = h ∧ ¬ (kd T i = 43 ∨ kd T i = 45) ∧ ¬ (c = 0 ∧ (kd T i = 60 ∨ kd T i = 61)))) nX) := by
  have R := E.R
  simp only at R
  have hi := R.2.2.2.1.2.2.2.2
  have hk8 : hI h (k + 3) 8 = nI (kd T i) := R.2.2.2.1.2.1
  have h61 := hT.k hi
  have hu6 : u.length + 1 ≤ 6 := I.2.2.2.2.2.2.2.1
  have lv := E.2.2.2.1
  simp only at lv
  rw [if_neg (by decide)] at lv
  have hc : c = 0 ∨ c = 5 ∨ c = 6 := (I.2.2.2.2.2.2.2.2.1 (0, c) List.mem_cons_self).2
  generalize hP : oI (fun r t => (r = 1 ∧ ∃ p, stE T F (1, (0, c) :: u, cd, i) = .inl (0, p :: u, cd, i + 1) ∧ EC h0 t k e T N (0, p :: u, cd, i + 1) ∧ chR (fS k) h t) ∨ (r = 0 ∧ t = h ∧ ¬ (kd T i = 43 ∨ kd T i = 45) ∧ ¬ (c = 0 ∧ (kd T i = 60 ∨ kd T i = 61)))) nX = P
  have d : ∀ n, n < 100 → (nI (kd T i) = nI n ↔ kd T i = n) := fun n hn => nI_eq (by omega) (by omega)
  -- the end of a sign
  have fin : ∀ (p : Nat × Nat) (g : SH), g = sI (sI h (k + 2) u.length (nI p.2)) (k + 1) u.length (nI p.1) ∨ (p.2 = c ∧ g = sI h (k + 1) u.length (nI p.1)) → kd T i ≠ 14 → stE T F (1, (0, c) :: u, cd, i) = .inl (0, p :: u, cd, i + 1) → Gd X mX7_readOperator 139 [some (.ref k), none, none, none] [] g 0 0 P := fun p g hg h14 hst => by
    have cg : chR (fun b => b = k + 1 ∨ b = k + 2) h g := by
      rcases hg with rfl | ⟨-, rfl⟩
      · exact (chR.rf.s (Or.inr rfl)).s (Or.inl rfl)
      · exact chR.rf.s (Or.inl rfl)
    have Rg : RD g k e T N i := R.mv (cg.gr (SA := fun _ => False)) (fun b _ _ => by omega) (fun b _ _ z => z) (by rw [(cg.2 k (by omega)).1])
    refine bkX7_readOperator_139 Rg.1 (c_next Rg hT h14) (fun t q => bkX7_readOperator_146 ?_)
    rw [← hP]
    have e1 := (q.1.2 (k + 1) (by omega)).1
    have e2 := (q.1.2 (k + 2) (by omega)).1
    refine Or.inl ⟨rfl, p, hst, ⟨?_, fun y hy => ?_, q.2, ?_, ?_, fun y hy => ?_⟩, (cg.up (fun b z => by unfold fS; omega)).tr (q.1.up (fun b z => by unfold fS; omega))⟩
    · exact (E.1.tr (cg.up (fun b z => by unfold fS; omega))).tr (q.1.up (fun b z => by unfold fS; omega))
    · rw [(q.1.2 k (by omega)).1, (cg.2 k (by omega)).1]; exact E.2.1 y hy
    · simp only
      rw [if_pos trivial]
      refine ⟨⟨?_, ?_⟩, lv.2.cg (fun dd hd => ?_)⟩
      · rw [e1]
        rcases hg with rfl | ⟨-, rfl⟩ <;> exact sI_at
      · rw [e2]
        rcases hg with rfl | ⟨h2, rfl⟩
        · rw [sI_nb (by omega)]; exact sI_at
        · rw [sI_nb (by omega), h2]; exact lv.1
      · rw [e1, e2]
        rcases hg with rfl | ⟨-, rfl⟩
        · exact ⟨by rw [sI_nj (by omega), sI_nb (by omega)], by rw [sI_nb (by omega), sI_nj (by omega)]⟩
        · exact ⟨sI_nj (by omega), by rw [sI_nb (by omega)]⟩
    · rw [(q.1.2 k (by omega)).1, (cg.2 k (by omega)).1]; exact E.2.2.2.2.1
    · rw [(q.1.2 (k + 9) (by omega)).1, (cg.2 (k + 9) (by omega)).1]; exact E.2.2.2.2.2 y hy
  have no : ¬ (kd T i = 43 ∨ kd T i = 45) → ¬ (c = 0 ∧ (kd T i = 60 ∨ kd T i = 61)) → Gd X mX7_readOperator 137 [none, none, none, none] [] h 0 0 P := fun n1 n2 => bkX7_readOperator_137 (by rw [← hP]; exact Or.inr ⟨rfl, rfl, n1, n2⟩)
  -- a sum that goes on
  have sum : (kd T i = 43 ∨ kd T i = 45) → Gd X mX7_readOperator 64 [some (.ref k), some (.int (nI u.length)), none, none] [] h 0 0 P := fun hk => by
    have hst : stE T F (1, (0, c) :: u, cd, i) = .inl (0, (if kd T i = 43 then 3 else 4, c) :: u, cd, i + 1) := by rw [stE_1 (by decide), if_pos hk]
    refine bkX7_readOperator_64 R.1 (fun z => ?_) (fun z => ?_)
    · rw [hk8, show (43 : Int32) = nI 43 from rfl, d 43 (by decide)] at z
      rw [if_neg z] at hst
      refine bkX7_readOperator_85 (bkX7_readOperator_86 (LX7.a_waitingJoins R.1) (vp_in_nI (by omega) (by omega)) ?_)
      rw [nI_clamp (by omega)]
      exact fin (4, c) _ (Or.inr ⟨rfl, rfl⟩) (by omega) hst
    · rw [hk8, show (43 : Int32) = nI 43 from rfl, d 43 (by decide)] at z
      rw [if_pos z] at hst
      refine bkX7_readOperator_81 (bkX7_readOperator_86 (LX7.a_waitingJoins R.1) (vp_in_nI (by omega) (by omega)) ?_)
      rw [nI_clamp (by omega)]
      exact fin (3, c) _ (Or.inr ⟨rfl, rfl⟩) (by omega) hst
  -- a comparison, or none
  have cmp : ¬ (kd T i = 43 ∨ kd T i = 45) → ∀ b : Bool, b = decide (kd T i = 60 ∨ kd T i = 61) → Gd X mX7_readOperator 90 [some (.ref k), some (.int (nI u.length)), none, some (.int (bI b))] [] h 0 0 P := fun hn b hb => by
    refine bkX7_readOperator_90 (fun z => ?_) (fun z => ?_)
    · rw [bI_0, hb, decide_eq_false_iff_not] at z
      exact no hn (fun y => z y.2)
    · rw [bI_0, hb, decide_eq_false_iff_not, Decidable.not_not] at z
      have e2 : hI h (k + 2) (nI u.length).toNatClampNeg = nI c := by rw [nI_clamp (by omega)]; exact lv.1
      refine bkX7_readOperator_94 R.1 (vp_in_nI (by omega) (by omega)) (fun y => ?_) (fun y => ?_)
      · rw [e2, n0, nI_eq (by omega) (by omega)] at y
        exact no hn (fun w => y w.1)
      · rw [e2, n0, nI_eq (by omega) (by omega)] at y
        have hst : stE T F (1, (0, c) :: u, cd, i) = .inl (0, (0, if kd T i = 60 then 5 else 6) :: u, cd, i + 1) := by rw [stE_1 (by decide), if_neg hn, if_pos ⟨y, z⟩]
        refine bkX7_readOperator_103 R.1 (fun w => ?_) (fun w => ?_)
        · rw [hk8, show (60 : Int32) = nI 60 from rfl, d 60 (by decide)] at w
          rw [if_neg w] at hst
          refine bkX7_readOperator_124 (bkX7_readOperator_126 (LX7.a_waitingComparisons R.1) (vp_in_nI (by omega) (by omega)) R.1 (vp_in_nI (by omega) (by omega)) ?_)
          rw [nI_clamp (by omega)]
          exact fin (0, 6) _ (Or.inl rfl) (by omega) hst
        · rw [hk8, show (60 : Int32) = nI 60 from rfl, d 60 (by decide)] at w
          rw [if_pos w] at hst
          refine bkX7_readOperator_120 (bkX7_readOperator_126 (LX7.a_waitingComparisons R.1) (vp_in_nI (by omega) (by omega)) R.1 (vp_in_nI (by omega) (by omega)) ?_)
          rw [nI_clamp (by omega)]
          exact fin (0, 5) _ (Or.inl rfl) (by omega) hst
  have p29 : ∀ b : Bool, b = decide (kd T i = 43 ∨ kd T i = 45) → Gd X mX7_readOperator 29 [some (.ref k), some (.int (nI u.length)), none, none] [.int (bI b)] h 0 0 P := fun b hb => by
    have p59 : ∀ b2 : Bool, b2 = decide (kd T i = 60 ∨ kd T i = 61) → Gd X mX7_readOperator 59 [some (.ref k), some (.int (nI u.length)), some (.int (bI b)), none] [.int (bI b2)] h 0 0 P := fun b2 hb2 => by
      refine bkX7_readOperator_59 (fun z => ?_) (fun z => ?_)
      · rw [bI_0, hb, decide_eq_false_iff_not] at z; exact cmp z b2 hb2
      · rw [bI_0, hb, decide_eq_false_iff_not, Decidable.not_not] at z; exact sum z
    refine bkX7_readOperator_29 R.1 (fun z => ?_) (fun z => ?_)
    · rw [hk8, show (60 : Int32) = nI 60 from rfl, d 60 (by decide)] at z
      exact bkX7_readOperator_54 (p59 true (by rw [decide_eq_true (Or.inl z)]))
    rw [hk8, show (60 : Int32) = nI 60 from rfl, d 60 (by decide)] at z
    refine bkX7_readOperator_42 R.1 (fun y => ?_) (fun y => ?_)
    · rw [hk8, show (61 : Int32) = nI 61 from rfl, d 61 (by decide)] at y
      exact bkX7_readOperator_58 (p59 false (by rw [decide_eq_false (by omega)]))
    · rw [hk8, show (61 : Int32) = nI 61 from rfl, d 61 (by decide)] at y
      exact bkX7_readOperator_54 (p59 true (by rw [decide_eq_true (Or.inr y)]))
  refine bkX7_readOperator_0 R.1 (fun z => ?_) (fun z => ?_)
  · rw [hk8, show (43 : Int32) = nI 43 from rfl, d 43 (by decide)] at z
    exact bkX7_readOperator_24 (p29 true (by rw [decide_eq_true (Or.inl z)]))
  rw [hk8, show (43 : Int32) = nI 43 from rfl, d 43 (by decide)] at z
  refine bkX7_readOperator_12 R.1 (fun y => ?_) (fun y => ?_)
  · rw [hk8, show (45 : Int32) = nI 45 from rfl, d 45 (by decide)] at y
    exact bkX7_readOperator_28 (p29 false (by rw [decide_eq_false (by omega)]))
  · rw [hk8, show (45 : Int32) = nI 45 from rfl, d 45 (by decide)] at y
    exact bkX7_readOperator_24 (p29 true (by rw [decide_eq_true (Or.inr y)]))
end RF4
