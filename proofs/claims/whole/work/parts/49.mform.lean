/-! ===== the model reads a formula ===== -/
section MF2
variable {X : GX} {T : List Tk} {f : Nat} {F : List Fct}
theorem opt0 : opt 0 = [] := rfl
theorem optn {j : Nat} (h : j ≠ 0) : opt j = [(j, 0)] := if_neg h
/-- how reading behind a part ends -/
def GB (T : List Tk) (F : List Fct) (h0 : SH) (k0 i0 i : Nat) (R : Except Nat (Fml × Nat)) (r : Int32) (t : SH) : Prop :=
  (r = 1 ∧ ∃ s' : StE, s'.1 = 0 ∧ EM h0 t T k0 s' ∧ invE T F i0 s' ∧ i < s'.2.2.2 ∧ runE T F (T.length - s'.2.2.2) s' = R) ∨
  (r = 0 ∧ ((∃ cd' i', R = .ok (cd', i') ∧ MR t T i' ∧ CD t k0 cd' ∧ cf (wE k0) h0 t) ∨ ∃ f, R = .error f ∧ MB t f ∧ cf (wE k0) h0 t ∧ ∃ k, hI t 35 30 = nI k ∧ k0 ≤ k ∧ k < 2600))
theorem GB.le {h0 : SH} {k0 i0 i i' : Nat} {R : Except Nat (Fml × Nat)} {r : Int32} {t : SH} (hi : i ≤ i') (G : GB T F h0 k0 i0 i' R r t) : GB T F h0 k0 i0 i R r t := by
  rcases G with ⟨a, s', b, c, d, e, g⟩ | G
  · exact Or.inl ⟨a, s', b, c, d, by omega, g⟩
  · exact Or.inr G
theorem goesOn_core {h0 h : SH} {k0 i0 : Nat} (hT : okT T) (hk0 : k0 ≤ i0) {u : List (Nat × Nat)} {j c : Nat} {cd : Fml} {i : Nat} (hj : j = 0 ∨ j = 3 ∨ j = 4) (E : EM h0 h T k0 (1, (j, c) :: u, cd, i)) (I : invE T F i0 (1, (0, c) :: u, cd ++ opt j, i))
    (ih : ∀ j2 c2 u2, u = (j2, c2) :: u2 → ∀ (cd : Fml) (i : Nat) (h : SH), (j2 = 0 ∨ j2 = 3 ∨ j2 = 4) → EM h0 h T k0 (1, (j2, c2) :: u2, cd, i) → invE T F i0 (1, (0, c2) :: u2, cd ++ opt j2, i) → Gd X mX11_goesOnBehind 0 [some (.ref 35)] [] h 0 0 (oI (GB T F h0 k0 i0 i (runE T F (T.length - i) (1, (0, c2) :: u2, cd ++ opt j2, i))) nX)) :
    Gd X mX11_goesOnBehind 0 [some (.ref 35)] [] h 0 0 (oI (GB T F h0 k0 i0 i (runE T F (T.length - i) (1, (0, c) :: u, cd ++ opt j, i))) nX) := by
  have hs := runE_s I
  simp only at hs
  generalize hR : runE T F (T.length - i) (1, (0, c) :: u, cd ++ opt j, i) = RR at hs ⊢
  rw [stE_1 (by decide)] at hs
  have hil : i < T.length := I.2.1
  have hl := hT.2.1
  have hlen : (cd ++ opt j).length + pnd ((0, c) :: u) + i0 ≤ i := I.2.2.1
  have hu6 : u.length + 1 ≤ 6 := I.2.2.2.2.2.2.2.1
  have hpj : (0, c) ∈ (0, c) :: u := List.mem_cons_self
  have hc : c = 0 ∨ c = 5 ∨ c = 6 := (I.2.2.2.2.2.2.2.2.1 (0, c) hpj).2
  -- at 43
  have m43 : ∀ g, EM h0 g T k0 (1, (0, c) :: u, cd ++ opt j, i) → Gd X mX11_goesOnBehind 43 [some (.ref 35)] [] g 0 0 (oI (GB T F h0 k0 i0 i RR) nX) := by
    rintro g ⟨G1, G2, G3, G4, G5⟩
    simp only at G2 G3 G4 G5
    have e31 : hI g 35 31 = nI u.length := G3
    have nl : kd T i ≠ 14 → i + 1 < T.length := hT.lt hil
    -- a sign that is taken
    have take : ∀ (b v : Nat) (p : Nat × Nat), (b = 60 ∧ p = (v, c)) ∨ (b = 61 ∧ p = (0, v)) → kd T i ≠ 14 → stE T F (1, (0, c) :: u, cd ++ opt j, i) = .inl (0, p :: u, cd ++ opt j, i + 1) →
        GB T F h0 k0 i0 i RR 1 (sI (sI g b u.length (nI v)) 35 7 (nI (i + 1))) := fun b v p hb h14 hst => by
      have I2 := stE_l hT I hst
      refine Or.inl ⟨rfl, (0, p :: u, cd ++ opt j, i + 1), rfl, ⟨?_, ?_, ?_, ⟨?_, ?_⟩, ?_⟩, I2.1, by show i < i + 1; omega, ?_⟩
      · exact (G1.s (by unfold wE; omega)).s (by unfold wE; omega)
      · exact (G2.cf (S := fun q _ => q = b) (cf.rf.s rfl) (fun q r z => by omega)).at (nl h14)
      · show hI _ 35 31 = nI u.length
        rw [sI_nj (by decide), sI_ne (by omega)]; exact e31
      · rcases hb with ⟨rfl, rfl⟩ | ⟨rfl, rfl⟩
        · exact ⟨by rw [sI_nb (by decide)]; exact sI_at, by rw [sI_nb (by decide), sI_nb (by decide)]; exact G4.1.2⟩
        · exact ⟨by rw [sI_nb (by decide), sI_nb (by decide)]; exact G4.1.1, by rw [sI_nb (by decide)]; exact sI_at⟩
      · refine G4.2.cg (fun d hd => ⟨?_, ?_⟩)
        · rw [sI_nb (by decide), sI_ne (by omega)]
        · rw [sI_nb (by decide), sI_ne (by omega)]
      · exact G5.cg (by rw [sI_nj (by decide), sI_ne (by omega)]) (by rw [sI_nb (by decide), sI_nb (by omega)]) (by rw [sI_nb (by decide), sI_nb (by omega)])
      · show runE T F (T.length - (i + 1)) _ = RR
        rw [← hR, runE_s I]
        simp only
        rw [hst]
    have iu : vp_in (nI u.length) 7 := (vp_in_nI (by omega) (by omega))
    -- the sum goes on
    have p61 : (kd T i = 43 ∨ kd T i = 45) → Gd X mX11_goesOnBehind 61 [some (.ref 35)] [] g 0 0 (oI (GB T F h0 k0 i0 i RR) nX) := fun hk => by
      have hst : stE T F (1, (0, c) :: u, cd ++ opt j, i) = .inl (0, (if kd T i = 43 then 3 else 4, c) :: u, cd ++ opt j, i + 1) := by rw [stE_1 (by decide), if_pos hk]
      have fin : ∀ v : Nat, v = (if kd T i = 43 then 3 else 4) → Gd X mX11_goesOnBehind 83 [some (.ref 35)] [.int (nI v), .int (nI u.length), .ref (35 + 25)] g 0 0 (oI (GB T F h0 k0 i0 i RR) nX) := fun v hv => by
        refine bkX11_goesOnBehind_83 (LX11.a_sumWaits G2.1) iu G2.1 ?_
        rw [nI_clamp (by omega), sI_ne (by omega), G2.2.2.2.2.1, nI_1]
        exact take 60 v _ (Or.inl ⟨rfl, by rw [hv]⟩) (by omega) hst
      refine bkX11_goesOnBehind_61 G2.1 (c_isSign (c := 43) G2 hT (by decide)) (fun r t q => ?_)
      obtain ⟨rfl, rfl⟩ := q
      rw [e31]
      refine bkX11_goesOnBehind_75 (fun z => ?_) (fun z => ?_)
      · rw [bI_0, decide_eq_false_iff_not] at z
        exact bkX11_goesOnBehind_82 (fin 4 (by rw [if_neg z]))
      · rw [bI_0, decide_eq_false_iff_not, Decidable.not_not] at z
        exact bkX11_goesOnBehind_78 (fin 3 (by rw [if_pos z]))
    have p143 : ¬ (kd T i = 43 ∨ kd T i = 45) → c = 0 → (kd T i = 60 ∨ kd T i = 61) → Gd X mX11_goesOnBehind 143 [some (.ref 35)] [] g 0 0 (oI (GB T F h0 k0 i0 i RR) nX) := fun hn h0' hk => by
      have hst : stE T F (1, (0, c) :: u, cd ++ opt j, i) = .inl (0, (0, if kd T i = 60 then 5 else 6) :: u, cd ++ opt j, i + 1) := by rw [stE_1 (by decide), if_neg hn, if_pos ⟨h0', hk⟩]
      have fin : ∀ v : Nat, v = (if kd T i = 60 then 5 else 6) → Gd X mX11_goesOnBehind 166 [some (.ref 35)] [.int (nI v), .int (nI u.length), .ref (35 + 26)] g 0 0 (oI (GB T F h0 k0 i0 i RR) nX) := fun v hv => by
        refine bkX11_goesOnBehind_166 (LX11.a_signWaits G2.1) iu G2.1 ?_
        rw [nI_clamp (by omega), sI_ne (by omega), G2.2.2.2.2.1, nI_1]
        exact take 61 v _ (Or.inr ⟨rfl, by rw [hv]⟩) (by omega) hst
      refine bkX11_goesOnBehind_143 G2.1 (c_isSign (c := 60) G2 hT (by decide)) (fun r t q => ?_)
      obtain ⟨rfl, rfl⟩ := q
      rw [e31]
      refine bkX11_goesOnBehind_157 (fun z => ?_) (fun z => ?_)
      · rw [bI_0, decide_eq_false_iff_not] at z
        exact bkX11_goesOnBehind_164 (fin 6 (by rw [if_neg z]))
      · rw [bI_0, decide_eq_false_iff_not, Decidable.not_not] at z
        exact bkX11_goesOnBehind_160 (fin 5 (by rw [if_pos z]))
    -- the end of a level
    have p179 : ¬ (kd T i = 43 ∨ kd T i = 45) → ¬ (c = 0 ∧ (kd T i = 60 ∨ kd T i = 61)) → ∀ v, cf (wE k0) h0 v → MR v T i → hI v 35 31 = nI u.length → LV v u → CD v k0 (cd ++ opt j ++ opt c) → Gd X mX11_goesOnBehind 179 [some (.ref 35)] [] v 0 0 (oI (GB T F h0 k0 i0 i RR) nX) := fun n1 n2 v V1 V2 V3 V4 V5 => by
      rw [if_neg n1, if_neg n2] at hs
      refine bkX11_goesOnBehind_179 V2.1 (fun z => ?_) (fun z => ?_)
      · rw [V3, n0, nI_eq (by omega) (by omega)] at z
        rcases u with _ | ⟨⟨j2, c2⟩, u2⟩
        · exact absurd rfl z
        · simp only at hs
          have hj2 : okL (j2, c2) := I.2.2.2.2.2.2.2.2.1 (j2, c2) (List.mem_cons_of_mem _ List.mem_cons_self)
          rw [List.length_cons] at V3
          refine bkX11_goesOnBehind_188 V2.1 (c_takeSign (c := 41) V2 hT (by decide)) (fun w q => ?_)
          subst q
          unfold tak
          by_cases k41 : kd T i = 41
          · rw [if_pos k41] at hs ⊢
            have hi1 := nl (by omega)
            have M2 : MR (sI v 35 7 (nI (i + 1))) T (i + 1) := V2.at hi1
            refine bkX11_goesOnBehind_194 M2.1 ?_
            have hst : stE T F (1, (0, c) :: (j2, c2) :: u2, cd ++ opt j, i) = .inl (1, (0, c2) :: u2, cd ++ opt j ++ opt c ++ opt j2, i + 1) := by rw [stE_1 (by decide), if_neg n1, if_neg n2]; simp only; rw [if_pos k41]
            have e32 : hI (sI v 35 7 (nI (i + 1))) 35 31 - 1 = nI u2.length := by rw [sI_nj (by decide), V3, show (1 : Int32) = nI 1 from rfl, pk_sub (by omega)]; rfl
            rw [e32]
            have nx := ih j2 c2 u2 rfl (cd ++ opt j ++ opt c) (i + 1) (sI (sI v 35 7 (nI (i + 1))) 35 31 (nI u2.length)) hj2.1 ⟨?_, ?_, ?_, ?_, ?_⟩ (stE_l hT I hst).1
            · rw [show runE T F (T.length - (i + 1)) (1, (0, c2) :: u2, cd ++ opt j ++ opt c ++ opt j2, i + 1) = RR from hs.symm] at nx
              refine Gd.mono (Nat.le_refl _) (Nat.le_refl _) (fun o t q => ?_) nx
              match o, q with
              | .inl (some (.int r)), q => exact GB.le (by omega) q
            · exact (V1.s (by unfold wE; omega)).s (by unfold wE; omega)
            · exact M2.cf (S := fun b j => b = 35 ∧ j = 31) (cf.rf.s ⟨rfl, rfl⟩) (fun b j z => by omega)
            · exact sI_at
            · exact V4.cg (fun d hd => ⟨by rw [sI_nb (by decide), sI_nb (by decide)], by rw [sI_nb (by decide), sI_nb (by decide)]⟩)
            · exact V5.cg (by rw [sI_nj (by decide), sI_nj (by decide)]) (by rw [sI_nb (by decide), sI_nb (by decide)]) (by rw [sI_nb (by decide), sI_nb (by decide)])
          · rw [if_neg k41] at hs ⊢
            have hb := flt_b (k := 1) hT hil (by decide)
            refine bkX11_goesOnBehind_194 V2.1 ?_
            have B : MB (sI (sI v 35 8 (nI (flt T 1 i))) 35 31 (hI (sI v 35 8 (nI (flt T 1 i))) 35 31 - 1)) (flt T 1 i) := (V2.bad hb.1 hb.2).cf (S := fun b j => b = 35 ∧ j = 31) (cf.rf.s ⟨rfl, rfl⟩) (by omega)
            refine bkX11_goesOnBehind_0 B.1 (fun _ => bkX11_goesOnBehind_207 ?_) (fun z => absurd z B.ne)
            have hol : (opt c).length ≤ 1 := by rw [opt_len]; split <;> omega
            exact Or.inr ⟨rfl, Or.inr ⟨_, hs, B, (V1.s (by unfold wE; omega)).s (by unfold wE; omega), k0 + (cd ++ opt j ++ opt c).length, by rw [sI_nj (by decide), sI_nj (by decide)]; exact V5.1, (by omega), by rw [List.length_append]; omega⟩⟩
      · rw [V3, n0, nI_eq (by omega) (by omega)] at z
        have e : u = [] := List.length_eq_zero_iff.mp z
        subst e
        simp only at hs
        exact bkX11_goesOnBehind_186 (Or.inr ⟨rfl, Or.inl ⟨_, _, hs, V2, V5, V1⟩⟩)
    have p96 : ¬ (kd T i = 43 ∨ kd T i = 45) → Gd X mX11_goesOnBehind 96 [some (.ref 35)] [] g 0 0 (oI (GB T F h0 k0 i0 i RR) nX) := fun hn => by
      have e61 : hI g (35 + 26) (hI g 35 31).toNatClampNeg = nI c := by rw [e31, nI_clamp (by omega)]; exact G4.1.2
      have iu2 : vp_in (hI g 35 31) 7 := by rw [e31]; exact iu
      refine bkX11_goesOnBehind_96 G2.1 iu2 (fun z => ?_) (fun z => ?_)
      · rw [e61, n0, nI_eq (by omega) (by omega)] at z
        subst z
        have nop : ¬ (kd T i = 60 ∨ kd T i = 61) → Gd X mX11_goesOnBehind 179 [some (.ref 35)] [] g 0 0 (oI (GB T F h0 k0 i0 i RR) nX) := fun q => p179 hn (fun y => q y.2) g G1 G2 e31 G4.2 (by rw [opt0, List.append_nil]; exact G5)
        refine bkX11_goesOnBehind_125 G2.1 (c_isSign (c := 60) G2 hT (by decide)) (fun r t q => ?_)
        obtain ⟨rfl, rfl⟩ := q
        refine bkX11_goesOnBehind_131 (fun y => ?_) (fun y => ?_)
        · rw [bI_0, decide_eq_false_iff_not, Decidable.not_not] at y; exact p143 hn rfl (Or.inl y)
        rw [bI_0, decide_eq_false_iff_not] at y
        refine bkX11_goesOnBehind_134 G2.1 (c_isSign (c := 61) G2 hT (by decide)) (fun r t q => ?_)
        obtain ⟨rfl, rfl⟩ := q
        refine bkX11_goesOnBehind_140 (fun x => ?_) (fun x => ?_)
        · rw [bI_0, decide_eq_false_iff_not] at x; exact nop (by omega)
        · rw [bI_0, decide_eq_false_iff_not, Decidable.not_not] at x; exact p143 hn rfl (Or.inr x)
      · rw [e61, n0, nI_eq (by omega) (by omega)] at z
        refine bkX11_goesOnBehind_108 G2.1 iu2 (by rw [e61]; exact c_emit (k := k0 + (cd ++ opt j).length) G2.1 G5.1 (by omega)) (fun t q => bkX11_goesOnBehind_122 ?_)
        subst q
        exact p179 hn (fun y => z y.1) _ (em_cf G1 (by omega)) (em_MR G2) (by rw [em_I (by omega) (by omega) (by omega)]; exact e31) (em_LV G4.2) (by rw [optn z]; exact CD.pu (a := 0) G5)
    refine bkX11_goesOnBehind_43 G2.1 (c_isSign (c := 43) G2 hT (by decide)) (fun r t q => ?_)
    obtain ⟨rfl, rfl⟩ := q
    refine bkX11_goesOnBehind_49 (fun y => ?_) (fun y => ?_)
    · rw [bI_0, decide_eq_false_iff_not, Decidable.not_not] at y; exact p61 (Or.inl y)
    rw [bI_0, decide_eq_false_iff_not] at y
    refine bkX11_goesOnBehind_52 G2.1 (c_isSign (c := 45) G2 hT (by decide)) (fun r t q => ?_)
    obtain ⟨rfl, rfl⟩ := q
    refine bkX11_goesOnBehind_58 (fun x => ?_) (fun x => ?_)
    · rw [bI_0, decide_eq_false_iff_not] at x; exact p96 (by omega)
    · rw [bI_0, decide_eq_false_iff_not, Decidable.not_not] at x; exact p61 (Or.inr x)
  obtain ⟨E1, E2, E3, E4, E5⟩ := E
  simp only at E2 E3 E4 E5
  have e31 : hI h 35 31 = nI u.length := E3
  have iu2 : vp_in (hI h 35 31) 7 := by rw [e31]; exact (vp_in_nI (by omega) (by omega))
  have e60 : hI h (35 + 25) (hI h 35 31).toNatClampNeg = nI j := by rw [e31, nI_clamp (by omega)]; exact E4.1.1
  rw [List.length_append, opt_len] at hlen
  refine bkX11_goesOnBehind_0 E2.1 (fun z => absurd E2.2.2.2.1 z) (fun _ => ?_)
  refine bkX11_goesOnBehind_7 E2.1 iu2 (fun z => ?_) (fun z => ?_)
  · rw [e60, n0, nI_eq (by omega) (by omega)] at z
    subst z
    exact m43 h ⟨E1, E2, E3, E4, by rw [opt0, List.append_nil]; exact E5⟩
  · rw [e60, n0, nI_eq (by omega) (by omega)] at z
    rw [if_neg z] at hlen
    refine bkX11_goesOnBehind_19 E2.1 iu2 (by rw [e60]; exact c_emit (k := k0 + cd.length) E2.1 E5.1 (by omega)) (fun t q => ?_)
    subst q
    have e312 : hI (em h (k0 + cd.length) (nI j) 0) 35 31 = nI u.length := by rw [em_I (by omega) (by omega) (by omega)]; exact e31
    refine bkX11_goesOnBehind_33 (em_MR E2).1 (by rw [e312]; exact (vp_in_nI (by omega) (by omega))) ?_
    rw [e312, nI_clamp (by omega)]
    refine m43 _ ⟨(em_cf E1 (by omega)).s (by unfold wE; omega), (em_MR E2).cf (S := fun b _ => b = 60) (cf.rf.s rfl) (fun b j z => by omega), ?_, ⟨⟨sI_at, ?_⟩, ?_⟩, ?_⟩
    · rw [sI_nb (by decide)]; exact e312
    · rw [sI_nb (by decide)]; exact (em_LV E4).1.2
    · exact (em_LV E4).2.cg (fun d hd => ⟨sI_nj (by omega), by rw [sI_nb (by decide)]⟩)
    · have D := CD.pu (a := 0) (c := j) E5
      rw [optn z]
      exact D.cg (by rw [sI_nb (by decide)]; rfl) (by rw [sI_nb (by decide)]; rfl) (by rw [sI_nb (by decide)]; rfl)
theorem c_goesOn {h0 : SH} {k0 i0 : Nat} (hT : okT T) (hk0 : k0 ≤ i0) : ∀ (u : List (Nat × Nat)) (j c : Nat) (cd : Fml) (i : Nat) (h : SH), (j = 0 ∨ j = 3 ∨ j = 4) → EM h0 h T k0 (1, (j, c) :: u, cd, i) → invE T F i0 (1, (0, c) :: u, cd ++ opt j, i) →
    Gd X mX11_goesOnBehind 0 [some (.ref 35)] [] h 0 0 (oI (GB T F h0 k0 i0 i (runE T F (T.length - i) (1, (0, c) :: u, cd ++ opt j, i))) nX)
  | [], _, _, _, _, _, hj, E, I => goesOn_core hT hk0 hj E I (fun j2 c2 u2 e => by cases e)
  | (a, b) :: u2, _, _, _, _, _, hj, E, I => goesOn_core hT hk0 hj E I (fun j2 c2 u3 e => by
      injection e with e1 e2
      injection e1 with e3 e4
      subst e2; subst e3; subst e4
      exact c_goesOn hT hk0 u2 a b)
/-- how a formula ends -/
def XE (T : List Tk) (h0 : SH) (k0 : Nat) (R : Except Nat (Fml × Nat)) (t : SH) : Prop := cf (wE k0) h0 t ∧ match R with
  | .ok r => MR t T r.2 ∧ hI t 35 30 = nI (k0 + r.1.length + 1) ∧ FmM t 35 6 k0 r.1
  | .error f => MB t f
theorem c_expression {h : SH} {i k0 : Nat} (M : MR h T i) (hT : okT T) (Q : FM h F) (ok : okFs F) (h30 : hI h 35 30 = nI k0) (hk0 : k0 ≤ i) : Cd X mX11_expression [.ref 35] h 0 0 (oV (XE T h k0 (pE T F i)) nX) := by
  have hil := M.2.2.2.2.2
  have hl := hT.2.1
  refine bkX11_expression_0 M.1 (c_opens (d := 0) M.1 sI_at (by decide)) (fun t q => bkX11_expression_9 ?_)
  subst q
  have I0 : invE T F i (0, [(0, 0)], [], i) := inv0 hil
  have E0 : EM h (sI (sI (sI h 35 31 0) 60 0 0) 61 0 0) T k0 (0, [(0, 0)], [], i) := by
    refine ⟨((cf.rf.s (by unfold wE; omega)).s (by unfold wE; omega)).s (by unfold wE; omega), M.cf (S := fun b j => (b = 35 ∧ j = 31) ∨ b = 60 ∨ b = 61) (((cf.rf.s (Or.inl ⟨rfl, rfl⟩)).s (Or.inr (Or.inl rfl))).s (Or.inr (Or.inr rfl))) (fun b j z => by omega), ?_, ⟨⟨?_, sI_at⟩, trivial⟩, ⟨?_, fun q hq => absurd hq (Nat.not_lt_zero _)⟩⟩
    · rw [sI_nb (by decide), sI_nb (by decide)]; exact sI_at
    · show hI _ 60 0 = _
      rw [sI_nb (by decide)]; exact sI_at
    · rw [sI_nb (by decide), sI_nb (by decide), sI_nj (by decide)]; exact h30
  generalize hR : pE T F i = R
  have hR0 : runE T F (T.length - i) (0, [(0, 0)], [], i) = R := hR
  -- the end
  have fin : ∀ t, ((∃ cd' i', R = .ok (cd', i') ∧ MR t T i' ∧ CD t k0 cd' ∧ cf (wE k0) h t) ∨ ∃ f, R = .error f ∧ MB t f ∧ cf (wE k0) h t ∧ ∃ k, hI t 35 30 = nI k ∧ k0 ≤ k ∧ k < 2600) → Gd X mX11_expression 45 [some (.ref 35), none] [] t 0 0 (oV (XE T h k0 R) nX) := by
    rintro t (⟨cd', i', e, m, D, C⟩ | ⟨f, e, B, C, k, e30, hk1, hk⟩)
    · have hen := pE_ok hT hil (hR.trans e)
      have h3 : cd'.length + i ≤ i' := hen.2.2.1
      have h4 : i' < T.length := hen.2.1
      refine bkX11_expression_45 m.1 (c_emit m.1 D.1 (by omega)) (fun w q => bkX11_expression_51 ?_)
      subst q
      have D2 := CD.pu (c := 0) (a := 0) D
      refine ⟨em_cf C (by omega), ?_⟩
      rw [e]
      refine ⟨em_MR m, ?_, (by show k0 + cd'.length < 2600; omega), fun q hq => ?_, ?_⟩
      · exact sI_at
      · have hq : q < cd'.length := hq
        have := D2.2 q (by rw [List.length_append]; omega)
        rw [List.getElem_append_left hq] at this
        exact this
      · have := (D2.2 cd'.length (by rw [List.length_append]; exact Nat.lt_succ_self _)).1
        rw [List.getElem_append_right (Nat.le_refl _)] at this
        simp only [Nat.sub_self, List.getElem_singleton] at this
        exact this
    · refine bkX11_expression_45 B.1 (c_emit B.1 e30 hk) (fun w q => bkX11_expression_51 ?_)
      subst q
      refine ⟨em_cf C hk1, ?_⟩
      rw [e]
      exact B.cf (S := fun b j => b = 58 ∨ b = 59 ∨ (b = 35 ∧ j = 30)) (((cf.rf.s (Or.inl rfl)).s (Or.inr (Or.inl rfl))).s (Or.inr (Or.inr ⟨rfl, rfl⟩))) (by omega)
  -- the turns
  have key : ∀ (n : Nat) (s : StE) (t : SH), T.length - s.2.2.2 = n → s.1 = 0 → EM h t T k0 s → invE T F i s → runE T F (T.length - s.2.2.2) s = R → Gd X mX11_expression 11 [some (.ref 35), some (.int 1)] [] t 0 0 (oV (XE T h k0 R) nX) := by
    intro n
    induction n using Nat.strongRecOn with
    | ind n ih =>
      rintro ⟨m, lv, cd, i1⟩ t hn h0 E I hr
      simp only at hn h0
      subst h0
      have h3 : cd.length + pnd lv + i ≤ i1 := I.2.2.1
      have h4 : i1 < T.length := I.2.1
      rcases lv with _ | ⟨⟨j, c⟩, u⟩
      · exact absurd I.2.2.2.2.2.2.1 (by simp)
      have hjc : okL (j, c) := I.2.2.2.2.2.2.2.2.1 (j, c) List.mem_cons_self
      refine bkX11_expression_11 (fun z => absurd z (by decide)) (fun _ => ?_)
      refine bkX11_expression_15 E.2.1.1 (fun z => absurd E.2.1.2.2.2.1 z) (fun _ => ?_)
      refine bkX11_expression_22 E.2.1.1 (c_part E hT I hk0 (wE_FM Q E.1) ok) (fun r w hq => ?_)
      have hrs := runE_s I
      simp only at hrs
      rcases hq with ⟨rfl, k40, hst, E2⟩ | ⟨rfl, hst, E2⟩ | ⟨rfl, f, hst, B, C⟩
      · refine bkX11_expression_26 (fun _ => bkX11_expression_36 (bkX11_expression_41 ?_)) (fun z => absurd z (by decide))
        rw [hst] at hrs
        exact ih (T.length - (i1 + 1)) (by omega) (0, (0, 0) :: (j, c) :: u, cd, i1 + 1) w rfl rfl E2 (stE_l hT I hst).1 (by rw [← hr]; exact hrs.symm)
      · refine bkX11_expression_26 (fun z => absurd rfl z) (fun _ => ?_)
        rw [hst] at hrs
        have I2 := (stE_l hT I hst).1
        have eA : cd ++ vcode T F i1 :: opt j = (cd ++ [vcode T F i1]) ++ opt j := by rw [List.append_assoc]; rfl
        rw [eA] at I2 hrs
        refine bkX11_expression_29 E2.2.1.1 (c_goesOn hT hk0 u j c (cd ++ [vcode T F i1]) (i1 + 1) w hjc.1 E2 I2) (fun r x hq => ?_)
        rw [show runE T F (T.length - (i1 + 1)) (1, (0, c) :: u, cd ++ [vcode T F i1] ++ opt j, i1 + 1) = R from hrs.symm.trans hr] at hq
        rcases hq with ⟨rfl, s', g1, g2, g3, g4, g5⟩ | ⟨rfl, hq⟩
        · refine bkX11_expression_33 (fun z => absurd z (by decide)) (fun _ => bkX11_expression_36 (bkX11_expression_41 ?_))
          exact ih (T.length - s'.2.2.2) (by have := g3.2.1; omega) s' x rfl g1 g2 g3 g5
        · refine bkX11_expression_33 (fun _ => bkX11_expression_40 (bkX11_expression_41 ?_)) (fun z => absurd rfl z)
          exact bkX11_expression_11 (fun _ => fin x hq) (fun z => absurd rfl z)
      · refine bkX11_expression_26 (fun z => absurd rfl z) (fun _ => ?_)
        rw [hst] at hrs
        refine bkX11_expression_29 B.1 (show Cd X mX11_goesOnBehind [.ref 35] w 0 0 (oI (fun r t => r = 0 ∧ t = w) nX) from bkX11_goesOnBehind_0 B.1 (fun _ => bkX11_goesOnBehind_207 ⟨rfl, rfl⟩) (fun z => absurd z B.ne)) (fun r x hq => ?_)
        obtain ⟨rfl, rfl⟩ := hq
        refine bkX11_expression_33 (fun _ => bkX11_expression_40 (bkX11_expression_41 ?_)) (fun z => absurd rfl z)
        exact bkX11_expression_11 (fun _ => fin _ (Or.inr ⟨f, hr.symm.trans hrs, B, C⟩)) (fun z => absurd rfl z)
  exact key _ _ _ rfl rfl E0 I0 hR0
end MF2
