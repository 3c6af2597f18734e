section MED2
variable {X : GX} {h : SH}
theorem wFs_R (b j : Nat) (z : wFs b j) : wR b j := by
  rcases z with z | z | z
  · exact Or.inl ⟨z.1, by omega⟩
  · exact Or.inr (Or.inr (Or.inl z))
  · exact Or.inr (Or.inr (Or.inr (Or.inl z)))
theorem wCs_R (b j : Nat) (z : wCs b j) : wR b j := by
  rcases z with z | z | z | z | z | z | z | z
  · exact Or.inl ⟨z.1, by omega⟩
  · exact Or.inr (Or.inr (Or.inr (Or.inr (Or.inr (Or.inr (Or.inr (Or.inr (Or.inr (Or.inr (Or.inl z))))))))))
  · exact Or.inr (Or.inr (Or.inr (Or.inr (Or.inr (Or.inr (Or.inr (Or.inr (Or.inr (Or.inr (Or.inr z))))))))))
  · exact Or.inr (Or.inr (Or.inr (Or.inr (Or.inl z))))
  · by_cases y : b = 47
    · exact Or.inr (Or.inr (Or.inr (Or.inr (Or.inr (Or.inl y)))))
    · exact Or.inr (Or.inr (Or.inr (Or.inr (Or.inr (Or.inr (Or.inl ⟨by omega, z.2⟩))))))
  · exact Or.inr (Or.inr (Or.inr (Or.inr (Or.inr (Or.inr (Or.inr (Or.inl z)))))))
  · exact Or.inr (Or.inr (Or.inr (Or.inr (Or.inr (Or.inr (Or.inr (Or.inr (Or.inl z))))))))
  · exact Or.inr (Or.inr (Or.inr (Or.inr (Or.inr (Or.inr (Or.inr (Or.inr (Or.inr (Or.inl z)))))))))
theorem wR_M (b j : Nat) (z : wR b j) : 35 ≤ b ∧ b ≤ 72 := by unfold wR at z; omega
theorem cut_cf {t : SH} (k1 : chR ctS h t) (k2 : ∀ j, j ≠ 2 → j ≠ 3 → j ≠ 7 → j ≠ 8 → hI t 35 j = hI h 35 j) (k3 : hJ t 35 = hJ h 35) : cf wR h t := ⟨k1.1, fun b j z => by
  by_cases y : b = 35
  · subst y
    exact ⟨k2 j (fun e => z (Or.inl ⟨rfl, by omega⟩)) (fun e => z (Or.inl ⟨rfl, by omega⟩)) (fun e => z (Or.inl ⟨rfl, by omega⟩)) (fun e => z (Or.inl ⟨rfl, by omega⟩)), congrFun k3 j⟩
  · have := k1.2 b (fun w => z (Or.inr (Or.inl (by unfold ctS at w; omega))))
    exact ⟨congrFun this.1 j, congrFun this.2 j⟩⟩
theorem M_edition {x : Int32} {A : Abs} (R : RepM h A) (ok : okA A) : Cd X mX11_edition [.ref 35, .int x] h 0 0 (oI (MP h (fEdition A x)) nX) := by
  have R1 := R.z (v := 0) ok
  have h6 := ok.2.1
  generalize hh1 : sI h 35 0 0 = h1 at R1
  have z1 : frM h h1 := hh1 ▸ z_fr
  generalize hP : oI (MP h (fEdition A x)) nX = P
  have no : okDay A x = false → Gd X mX11_edition 47 [some (.ref 35), none] [] h1 0 0 P := fun e => by
    have c : cf wR h1 (sI h1 35 2 0) := cf.rf.s (by unfold wR; omega)
    refine bkX11_edition_47 R1.1 ?_
    rw [← hP]
    unfold fEdition
    rw [if_neg (by rw [e]; decide)]
    exact ⟨rfl, R1.rd ok c sI_at, z1.tr (c.frM wR_M)⟩
  have e10 : hI h1 35 10 = nI (nE A) := R1.2.2.1.1
  refine bkX11_edition_0 R.1 (fun q => ?_) (fun q => ?_)
  · rw [hh1]
    exact no (by unfold okDay; rw [decide_eq_false (fun z => absurd z.1.1 (i_neg.mp q))])
  rw [hh1]
  refine bkX11_edition_9 (fun q2 => no (by unfold okDay; rw [decide_eq_false (fun z => absurd q2 (Int32.not_lt.mpr z.1.2))])) (fun q2 => ?_)
  refine bkX11_edition_16 R1.1 (fun q3 => ?_) (fun q3 => ?_)
  · rw [e10, n6, nI_eq (by omega) (by omega)] at q3
    exact no (by unfold okDay; rw [decide_eq_false (fun z => z.2.1 q3)])
  rw [e10, n6, nI_eq (by omega) (by omega)] at q3
  have hx : 0 ≤ x ∧ x ≤ 9999 := ⟨Int32.not_lt.mp q, Int32.not_lt.mp q2⟩
  -- a day above the latest
  have main : okDay A x = true → Gd X mX11_edition 54 [some (.ref 35), some (.int x)] [] h1 0 0 P := fun hday => by
    have hday' := hday
    unfold okDay at hday'
    rw [decide_eq_true_iff] at hday'
    have hfe : ∀ e, pEdn (toks (aT A)) = .error e → fEdition A x = (nI e, emp A) := fun e => fEd_err hday
    have hfo : ∀ r, pEdn (toks (aT A)) = .ok r → fEdition A x = (0, takeA (addE A (mkE x.toNatClampNeg r.1 r.2)) (nE A)) := fun r => fEd_ok hday
    obtain ⟨xn, hxn, hxe⟩ := rep_x hx
    have okt := toks_ok ok.1.1
    generalize hTT : toks (aT A) = T at okt hfe hfo
    have hT := okt.1
    refine bkX11_edition_54 R1.1 (c_cutAll R1.1 R1.2.1.1 ok.1.1 R1.2.1.2 (fun c hc => by rcases ok.1.2 c hc with z | z <;> omega)) (fun t hq => ?_)
    obtain ⟨k1, k2, k3, k4, k5, k6, k7⟩ := hq
    rw [hTT] at k7
    have cA : cf wR h1 t := cut_cf k1 k2 k3
    have Lt : LX11 (Sk t) 35 := cA.1 ▸ R1.1
    refine bkX11_edition_58 Lt in67 ?_
    rw [show (6 : Int32).toNatClampNeg = 6 by decide]
    generalize hg : sI (sI (sI t (35 + 7) 6 0) (35 + 11) 6 0) 35 30 0 = g
    have cB : cf wR h1 g := by rw [← hg]; exact ((cA.s (by unfold wR; omega)).s (by unfold wR; omega)).s (by unfold wR; omega)
    have Mg : MR g T 0 := by
      have hM : MR t T 0 := ⟨Lt, k7, fun k hk => by rw [(cA.2 40 k (by unfold wR; omega)).2]; exact R1.2.2.2.2.2.2 k hk, k6, k5, hT.1⟩
      rw [← hg]
      exact hM.cf (S := fun b j => b = 42 ∨ b = 46 ∨ (b = 35 ∧ j = 30)) (((cf.rf.s (Or.inl rfl)).s (Or.inr (Or.inl rfl))).s (Or.inr (Or.inr ⟨rfl, rfl⟩))) (fun b j z => by omega)
    have g42 : hI g 42 6 = nI 0 := by rw [← hg, sI_nb (by decide), sI_nb (by decide)]; exact sI_at
    have g46 : hI g 46 6 = 0 := by rw [← hg, sI_nb (by decide)]; exact sI_at
    have g30 : hI g 35 30 = nI 0 := by rw [← hg]; exact sI_at
    have g2 : hI g 35 2 = 0 := by rw [← hg, sI_nj (by decide), sI_nb (by decide), sI_nb (by decide)]; exact k4
    clear hg
    -- the end with a fault
    have dead : ∀ e w, pEdn T = .error e → MB w e → cf wR h1 w → hI w 35 2 = 0 → Gd X mX11_edition 133 [some (.ref 35), some (.int x)] [] w 0 0 P := fun e w he B c w2 => by
      refine bkX11_edition_133 B.1 (fun _ => bkX11_edition_178 B.1 ?_) (fun y => absurd y B.ne)
      rw [B.2.1, ← hP, hfe e he]
      exact ⟨rfl, R1.rd ok c w2, z1.tr (c.frM wR_M)⟩
    have d109 : ∀ e w, pEdn T = .error e → MB w e → cf wR h1 w → hI w 35 2 = 0 → Gd X mX11_edition 109 [some (.ref 35), some (.int x)] [] w 0 0 P := fun e w he B c w2 =>
      bkX11_edition_109 B.1 (fun _ => dead e w he B c w2) (fun y => absurd y B.ne)
    have upF : ∀ {a b}, cf wFs a b → cf wR a b := fun c => c.up wFs_R
    have upC : ∀ {a b}, cf wCs a b → cf wR a b := fun c => c.up wCs_R
    refine mfacts hT 9 [] 0 g rfl Mg ⟨g42, fun k hk => absurd hk (Nat.not_lt_zero _)⟩ ⟨Nat.zero_le _, fun f hf => absurd hf List.not_mem_nil, List.nodup_nil, by decide⟩ g46 no2.z (fun F i1 t1 hF M1 Q1 ok1 n1' c1 => ?_) (fun e t1 hF B1 c1 => ?_)
    rotate_left
    · have he : pEdn T = .error e := pEdn_1 hF
      refine bkX11_edition_94 B1.1 (b_isWord B1) (fun r w q => ?_)
      obtain ⟨rfl, hw⟩ := q
      rw [hw]
      exact bkX11_edition_99 (fun _ => d109 e t1 he B1 (cB.tr (upF c1)) (by rw [(c1.2 35 2 (by unfold wFs; omega)).1]; exact g2)) (fun y => absurd rfl y)
    have h46' : hI t1 46 6 = nI ([] : List PC2).length := by rw [(c1.2 46 6 (by unfold wFs; omega)).1]; exact g46
    have h30' : hI t1 35 30 = nI 0 := by rw [(c1.2 35 30 (by unfold wFs; omega)).1]; exact g30
    have N0 : NMI T i1 (([] : List PC2).map (·.1)) := NMI.s0 (i := 0) ⟨rfl, fun q hq => absurd hq (Nat.not_lt_zero _)⟩ (Nat.zero_le _) n1'
    refine mclauses hT ok1 13 [] i1 0 t1 rfl (Nat.zero_le _) M1 Q1 N0 (fun p hp => absurd hp List.not_mem_nil) h46' h30' (Nat.zero_le _) (fun c hc => absurd hc (Nat.not_lt_zero _)) (fun C i2 k2' t2 hC M2 Q2 N2 okC lC C46 C30 hk2 K2 c2 => ?_) (fun e t2 hC B2 c2 => ?_)
    rotate_left
    · have he : pEdn T = .error e := pEdn_2 hF hC
      exact d109 e t2 he B2 ((cB.tr (upF c1)).tr (upC c2)) (by rw [(c2.2 35 2 (by unfold wCs; omega)).1, (c1.2 35 2 (by unfold wFs; omega)).1]; exact g2)
    have hed := pEdn_3 hF hC
    have cD : cf wR h1 t2 := (cB.tr (upF c1)).tr (upC c2)
    have t22 : hI t2 35 2 = 0 := by rw [(c2.2 35 2 (by unfold wCs; omega)).1, (c1.2 35 2 (by unfold wFs; omega)).1]; exact g2
    obtain ⟨s1, s2, s3, s4⟩ := M2.s hT
    have hsl := srt_le (kd T i2)
    have hi2 := M2.2.2.2.2.2
    refine bkX11_edition_109 M2.1 (fun y => absurd M2.2.2.2.1 y) (fun _ => ?_)
    refine bkX11_edition_116 M2.1 s1 (fun y => ?_) (fun y => ?_)
    rotate_left
    · rw [s2, n0, nI_eq (by omega) (by omega), srt_0] at y
      rw [if_pos y] at hed
      have hb := flt_b (k := 1) hT hi2 (by decide)
      refine bkX11_edition_128 M2.1 (c_wrong (k := 1) M2 hT) (fun w q => ?_)
      subst q
      exact dead _ _ hed (M2.bad hb.1 hb.2) (cD.s (by unfold wR; omega)) (by rw [sI_nj (by decide)]; exact t22)
    rw [s2, n0, nI_eq (by omega) (by omega), srt_0] at y
    rw [if_neg (by omega)] at hed
    refine bkX11_edition_133 M2.1 (fun z => absurd M2.2.2.2.1 z) (fun _ => ?_)
    rw [← hP]
    refine medn_fin (C := C) (F := F) ?_ ok hT (by omega) hxn hxe (fun i hi => ?_) (R1.rd ok cD t22) (z1.tr (cD.frM wR_M)) M2 Q2 y ⟨ok1, okC, lC, i2, hi2, y, N2⟩ N2 C46 C30 hk2 K2
    · rw [hfo _ hed, hxe, nI_clamp (show xn < 2 ^ 31 by omega)]
    · have h0 := hday'.2.2 (by omega)
      rw [hxe] at h0
      have hb1 := (ok.2.2.1 (nE A - 1) (by omega)).1
      rw [nI_ltI (by omega) (by omega)] at h0
      rcases Nat.lt_or_ge i (nE A - 1) with z | z
      · have := ok.2.2.2.1 i (nE A - 1) z (by omega); omega
      · rw [show i = nE A - 1 by omega]; exact h0
  by_cases q4 : nE A = 0
  · refine bkX11_edition_25 R1.1 (fun _ => main ?_) (fun q5 => ?_)
    · unfold okDay; rw [decide_eq_true ⟨hx, q3, fun z => absurd q4 z⟩]
    · rw [e10, q4] at q5; exact absurd (Int32.le_refl _) q5
  · refine bkX11_edition_25 R1.1 (fun q5 => ?_) (fun q5 => ?_)
    · rw [e10, n0, nI_leI (by omega) (by omega)] at q5; omega
    have em1 : hI h1 35 10 - 1 = nI (nE A - 1) := by rw [e10, show (1 : Int32) = nI 1 from rfl, pk_sub (by omega)]
    have ef : hI h1 (35 + 6) (hI h1 35 10 - 1).toNatClampNeg = nI (ed A (nE A - 1)).1 := by rw [em1, nI_clamp (by omega)]; exact (R1.2.2.1.2 (nE A - 1) (by omega)).2
    refine bkX11_edition_32 R1.1 (by rw [em1]; exact (vp_in_nI (by omega) (by omega))) (fun q6 => main ?_) (fun q6 => no ?_)
    · rw [ef] at q6
      unfold okDay; rw [decide_eq_true ⟨hx, q3, fun _ => q6⟩]
    · rw [ef] at q6
      unfold okDay; rw [decide_eq_false (fun z => q6 (z.2.2 q4))]
end MED2
