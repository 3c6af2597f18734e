/-! ===== the reader: brackets, values, signs ===== -/
section RF2
variable {X : GX} {h h0 : SH} {T : List Tk} {k e i0 : Nat} {N : List (List Nat)} {F : List Fct}
theorem EC.R {h0 h : SH} {s : StE} (E : EC h0 h k e T N s) : RD h k e T N s.2.2.2 := E.2.2.1
theorem EC.z {h0 h : SH} {s : StE} (E : EC h0 h k e T N s) (he : e ≤ k) : gZ e k h0 h := (E.1.gr (SA := fun _ => False)).up (fun b _ z => by unfold fS at z; omega) (fun b _ z => z.elim)
/-- a token further -/
theorem EC.nx {t : SH} {m m' : Nat} {lv : List (Nat × Nat)} {cd : Fml} {i : Nat} (E : EC h0 h k e T N (m, lv, cd, i)) (c : chR (· = k + 3) h t) (R : RD t k e T N (i + 1)) (hm : m = 0 ↔ m' = 0) : EC h0 t k e T N (m', lv, cd, i + 1) := by
  obtain ⟨E1, E2, E3, E4, E5⟩ := E
  have e1 := (c.2 (k + 1) (by omega)).1
  have e2 := (c.2 (k + 2) (by omega)).1
  refine ⟨E1.tr (c.up (fun b z => by unfold fS; omega)), fun j hj => by rw [(c.2 k (by omega)).1]; exact E2 j hj, R, ?_, by rw [(c.2 k (by omega)).1]; exact E5.1, fun q hq => by rw [(c.2 (k + 9) (by omega)).1]; exact E5.2 q hq⟩
  simp only at E4 ⊢
  have cg0 : ∀ u, LC0 h k u → LC0 t k u := fun u K => K.cg (fun d _ => ⟨by rw [e1], by rw [e2]⟩)
  by_cases y : m = 0
  · rw [if_pos y] at E4; rw [if_pos (hm.mp y)]; exact cg0 _ E4
  · rw [if_neg y] at E4; rw [if_neg (fun z => y (hm.mpr z))]
    match lv, E4 with
    | [], _ => trivial
    | p :: u, K => exact ⟨by rw [e2]; exact K.1, cg0 u K.2⟩
/-- an operation behind -/
theorem EC.op {t : SH} {m : Nat} {lv : List (Nat × Nat)} {cd cd' : Fml} {i : Nat} (E : EC h0 h k e T N (m, lv, cd, i)) (c : chR (fun b => b = k ∨ b = k + 9) h t) (c5 : ∀ q, q ≠ 5 → hI t k q = hI h k q) (D : CDc t k cd') : EC h0 t k e T N (m, lv, cd', i) := by
  obtain ⟨E1, E2, E3, E4, E5⟩ := E
  have e1 := (c.2 (k + 1) (by omega)).1
  have e2 := (c.2 (k + 2) (by omega)).1
  refine ⟨E1.tr (c.up (fun b z => by unfold fS; omega)), fun j hj => (c5 j hj).trans (E2 j hj), E3.mv (c.gr (SA := fun _ => False)) (fun b _ _ => by omega) (fun b _ _ z => z) (c5 3 (by decide)), ?_, D⟩
  simp only at E4 ⊢
  have cg0 : ∀ u, LC0 h k u → LC0 t k u := fun u K => K.cg (fun d _ => ⟨by rw [e1], by rw [e2]⟩)
  by_cases y : m = 0
  · rw [if_pos y] at E4 ⊢; exact cg0 _ E4
  · rw [if_neg y] at E4 ⊢
    match lv, E4 with
    | [], _ => trivial
    | p :: u, K => exact ⟨by rw [e2]; exact K.1, cg0 u K.2⟩
theorem open_s {nc ns : Nat} {P : Out → SH → Prop} {RR : Except Nat (Fml × Nat)} {cd : Fml} {j c i x : Nat} {u : List (Nat × Nat)} (hT : okT T) (k40 : kd T i = 40) (hul : u.length < 5) (hx : x ≤ u.length) (E : EC h0 h k e T N (0, (j, c) :: u, cd, i)) (I : invE T F i0 (0, (j, c) :: u, cd, i)) (hr : runE T F (T.length - i) (0, (j, c) :: u, cd, i) = RR)
    (kk : ∀ t, EC h0 t k e T N (0, (0, 0) :: (j, c) :: u, cd, i + 1) → invE T F i0 (0, (0, 0) :: (j, c) :: u, cd, i + 1) → runE T F (T.length - (i + 1)) (0, (0, 0) :: (j, c) :: u, cd, i + 1) = RR → chR (fun b => b = k + 1 ∨ b = k + 2 ∨ b = k + 3) h t → Gd X mX7_readOpenings 4 [some (.ref k), none, some (.int (nI (u.length + 1))), some (.int (nI (x + 1)))] [] t nc ns P) : Gd X mX7_readOpenings 4 [some (.ref k), none, some (.int (nI u.length)), some (.int (nI x))] [] h nc ns P := by
  have R := E.R
  simp only at R
  have hk8 : hI h (k + 3) 8 = nI (kd T i) := R.2.2.2.1.2.1
  have hst : stE T F (0, (j, c) :: u, cd, i) = .inl (0, (0, 0) :: (j, c) :: u, cd, i + 1) := by rw [stE_0, if_pos k40, if_neg (by omega)]
  have I2 := (stE_l hT I hst).1
  have hr2 : runE T F (T.length - (i + 1)) (0, (0, 0) :: (j, c) :: u, cd, i + 1) = RR := by
    rw [← hr]
    have := runE_s I
    simp only at this
    rw [this, hst]
  have Rg : RD (sI (sI h (k + 1) (u.length + 1) 0) (k + 2) (u.length + 1) 0) k e T N i := R.mv (((chR.rf (S := fun b => b = k + 1 ∨ b = k + 2)).s (Or.inl rfl)).s (Or.inr rfl)).gr (SA := fun _ => False) (fun b _ _ => by omega) (fun b _ _ z => z) (by rw [sI_nb (by omega), sI_nb (by omega)])
  refine bkX7_readOpenings_4 (fun z => ?_) (fun _ => ?_)
  · rw [n5, nI_ltI (by omega) (by omega)] at z; omega
  refine bkX7_readOpenings_9 R.1 (fun z => absurd (by rw [hk8, k40]; rfl) z) (fun _ => ?_)
  refine bkX7_readOpenings_21 (fun _ => ?_) (fun z => absurd (by rw [n5, nI_ltI (by omega) (by omega)]; exact hul) z)
  refine bkX7_readOpenings_31 R.1 (by rw [nI_1]; exact c_openLevel R.1 (by omega)) (fun g hg => ?_)
  refine bkX7_readOpenings_39 (hg ▸ Rg).1 (c_next (hg ▸ Rg) hT (by omega)) (fun t q => bkX7_readOpenings_46 ?_)
  rw [nI_1, nI_1]
  obtain ⟨ct, Rt⟩ := q
  have cg : chR (fun b => b = k + 1 ∨ b = k + 2 ∨ b = k + 3) h g := by rw [hg]; exact ((chR.rf (S := fun b => b = k + 1 ∨ b = k + 2 ∨ b = k + 3)).s (Or.inl rfl)).s (Or.inr (Or.inl rfl))
  refine kk t ?_ I2 hr2 (cg.tr (ct.up (fun b z => by omega)))
  obtain ⟨E1, E2, E3, E4, E5⟩ := E
  simp only at E4
  rw [if_pos trivial] at E4
  refine ⟨(E1.tr (cg.up (fun b z => by unfold fS; omega))).tr (ct.up (fun b z => by unfold fS; omega)), fun q hq => ?_, Rt, ?_, ?_, fun q hq => ?_⟩
  · rw [(ct.2 k (by omega)).1, (cg.2 k (by omega)).1]; exact E2 q hq
  · simp only
    rw [if_pos trivial]
    have e1 := (ct.2 (k + 1) (by omega)).1
    have e2 := (ct.2 (k + 2) (by omega)).1
    refine ⟨⟨?_, ?_⟩, LC0.cg E4 (fun d hd => ?_)⟩
    · rw [e1, hg, sI_nb (by omega)]; exact sI_at
    · rw [e2, hg]; exact sI_at
    · rw [List.length_cons] at hd
      rw [e1, e2, hg]
      exact ⟨by rw [sI_nb (by omega), sI_nj (by omega)], by rw [sI_nj (by omega), sI_nb (by omega)]⟩
  · rw [(ct.2 k (by omega)).1, (cg.2 k (by omega)).1]; exact E5.1
  · rw [(ct.2 (k + 9) (by omega)).1, (cg.2 (k + 9) (by omega)).1]; exact E5.2 q hq
theorem c_open (hT : okT T) {RR : Except Nat (Fml × Nat)} {cd : Fml} : ∀ (q : Nat) (lv : List (Nat × Nat)) (i x : Nat) (h : SH), x + 1 ≤ lv.length → lv.length + q ≤ 6 → (∀ r, r < q → kd T (i + r) = 40) → kd T (i + q) ≠ 40 → EC h0 h k e T N (0, lv, cd, i) → invE T F i0 (0, lv, cd, i) → runE T F (T.length - i) (0, lv, cd, i) = RR →
    Gd X mX7_readOpenings 4 [some (.ref k), none, some (.int (nI (lv.length - 1))), some (.int (nI x))] [] h 0 0 (oI (fun r t => ∃ lv' i', r = nI (lv'.length - 1) ∧ EC h0 t k e T N (0, lv', cd, i') ∧ invE T F i0 (0, lv', cd, i') ∧ i ≤ i' ∧ runE T F (T.length - i') (0, lv', cd, i') = RR ∧ kd T i' ≠ 40) nX) := by
  intro q
  induction q with
  | zero =>
    intro lv i x h hx h6 hr h40 E I hR
    have R := E.R
    simp only at R
    have hk8 : hI h (k + 3) 8 = nI (kd T i) := R.2.2.2.1.2.1
    have h61 := hT.k R.2.2.2.1.2.2.2.2
    refine bkX7_readOpenings_4 (fun z => ?_) (fun _ => ?_)
    · rw [n5, nI_ltI (by omega) (by omega)] at z; omega
    refine bkX7_readOpenings_9 R.1 (fun _ => bkX7_readOpenings_52 ⟨lv, i, rfl, E, I, Nat.le_refl _, hR, h40⟩) (fun z => ?_)
    rw [hk8, show (40 : Int32) = nI 40 from rfl, nI_eq (by omega) (by omega)] at z; exact absurd z h40
  | succ q ih =>
    intro lv i x h hx h6 hr h40 E I hR
    rcases lv with _ | ⟨⟨j, c⟩, u⟩
    · simp at hx
    rw [List.length_cons] at hx h6
    refine open_s hT (hr 0 (by omega)) (by omega) (by omega) E I hR (fun t E2 I2 hR2 _ => ?_)
    have nx := ih ((0, 0) :: (j, c) :: u) (i + 1) (x + 1) t (by simp; omega) (by simp; omega) (fun r hr2 => by rw [show i + 1 + r = i + (r + 1) by omega]; exact hr _ (by omega)) (by rw [show i + 1 + q = i + (q + 1) by omega]; exact h40) E2 I2 hR2
    refine Gd.mono (Nat.le_refl _) (Nat.le_refl _) (fun o w y => ?_) nx
    match o, y with
    | .inl (some (.int r)), ⟨lv', i', y1, y2, y3, y4, y5⟩ => exact ⟨lv', i', y1, y2, y3, by omega, y5⟩
theorem x_open (hT : okT T) (he : e ≤ k) {RR : Except Nat (Fml × Nat)} {cd : Fml} : ∀ (q : Nat) (lv : List (Nat × Nat)) (i x : Nat) (h : SH), x + 1 ≤ lv.length → lv.length + q = 6 → (∀ r, r ≤ q → kd T (i + r) = 40) → EC h0 h k e T N (0, lv, cd, i) → invE T F i0 (0, lv, cd, i) → runE T F (T.length - i) (0, lv, cd, i) = RR →
    RR = .error (flt T 5 (i + q)) ∧ Gd X mX7_readOpenings 4 [some (.ref k), none, some (.int (nI (lv.length - 1))), some (.int (nI x))] [] h 1 6 (oI (fun _ _ => False) (Zr e k (flt T 5 (i + q)) h)) := by
  intro q
  induction q with
  | zero =>
    intro lv i x h hx h6 hr E I hR
    have R := E.R
    simp only at R
    have hk8 : hI h (k + 3) 8 = nI (kd T i) := R.2.2.2.1.2.1
    have k40 : kd T i = 40 := hr 0 (Nat.le_refl _)
    rcases lv with _ | ⟨⟨j, c⟩, u⟩
    · simp at hx
    rw [List.length_cons] at h6 hx
    constructor
    · rw [← hR]
      have := runE_s I
      simp only at this
      rw [this, stE_0, if_pos k40, if_pos (by omega)]; rfl
    · have el : ((j, c) :: u).length - 1 = u.length := rfl
      rw [el]
      refine bkX7_readOpenings_4 (fun z => ?_) (fun _ => ?_)
      · rw [n5, nI_ltI (by omega) (by omega)] at z; omega
      refine bkX7_readOpenings_9 R.1 (fun z => absurd (by rw [hk8, k40]; rfl) z) (fun _ => ?_)
      refine bkX7_readOpenings_21 (fun z => ?_) (fun _ => ?_)
      · rw [n5, nI_ltI (by omega) (by omega)] at z; omega
      exact bkX7_readOpenings_26 (nc := 0) (ns := 0) R.1 (x_fail (x := 5) R he) (fun E t z => z) (fun t z => z.elim)
  | succ q ih =>
    intro lv i x h hx h6 hr E I hR
    rcases lv with _ | ⟨⟨j, c⟩, u⟩
    · simp at hx
    rw [List.length_cons] at hx h6
    have hst : stE T F (0, (j, c) :: u, cd, i) = .inl (0, (0, 0) :: (j, c) :: u, cd, i + 1) := by rw [stE_0, if_pos (show kd T i = 40 from hr 0 (by omega)), if_neg (by omega)]
    have I2 := (stE_l hT I hst).1
    have hr' : ∀ r, r ≤ q → kd T (i + 1 + r) = 40 := fun r hr2 => by rw [show i + 1 + r = i + (r + 1) by omega]; exact hr _ (by omega)
    have ei : i + 1 + q = i + (q + 1) := by omega
    have hRR : RR = .error (flt T 5 (i + (q + 1))) := by
      rw [← hR]
      have key : ∀ (n : Nat) (l2 : List (Nat × Nat)) (i2 : Nat), l2.length + n = 6 → 1 ≤ l2.length → (∀ r, r ≤ n → kd T (i2 + r) = 40) → invE T F i0 (0, l2, cd, i2) → runE T F (T.length - i2) (0, l2, cd, i2) = .error (flt T 5 (i2 + n)) := by
        intro n
        induction n with
        | zero =>
          intro l2 i2 a1 a2 a3 a4
          rcases l2 with _ | ⟨⟨j, c⟩, u⟩
          · simp at a2
          rw [List.length_cons] at a1
          have := runE_s a4
          simp only at this
          rw [this, stE_0, if_pos (show kd T i2 = 40 from a3 0 (Nat.le_refl _)), if_pos (by omega)]; rfl
        | succ n ih2 =>
          intro l2 i2 a1 a2 a3 a4
          rcases l2 with _ | ⟨⟨j, c⟩, u⟩
          · simp at a2
          rw [List.length_cons] at a1
          have hs2 : stE T F (0, (j, c) :: u, cd, i2) = .inl (0, (0, 0) :: (j, c) :: u, cd, i2 + 1) := by rw [stE_0, if_pos (show kd T i2 = 40 from a3 0 (by omega)), if_neg (by omega)]
          have := runE_s a4
          simp only at this
          rw [this, hs2]
          have r2 := ih2 ((0, 0) :: (j, c) :: u) (i2 + 1) (by simp; omega) (by simp) (fun r hr2 => by rw [show i2 + 1 + r = i2 + (r + 1) by omega]; exact a3 _ (by omega)) (stE_l hT a4 hs2).1
          rw [show i2 + 1 + n = i2 + (n + 1) by omega] at r2
          exact r2
      exact key (q + 1) ((j, c) :: u) i (by simp; omega) (by simp) hr I
    refine ⟨hRR, open_s hT (hr 0 (by omega)) (by omega) (by omega) E I hR (fun t E2 I2 hR2 ct => ?_)⟩
    have nx := (ih ((0, 0) :: (j, c) :: u) (i + 1) (x + 1) t (by simp; omega) (by simp; omega) hr' E2 I2 hR2).2
    rw [ei] at nx
    refine Gd.mono (Nat.le_refl _) (Nat.le_refl _) (fun o w y => ?_) nx
    match o, y with
    | .inr E, y => exact Zr.tr ((ct.gr (SA := fun _ => False)).up (fun b _ z => by omega) (fun b _ z => z.elim)) y
theorem q40 (hT : okT T) {i : Nat} (hi : i < T.length) : ∃ q, (∀ r, r < q → kd T (i + r) = 40) ∧ kd T (i + q) ≠ 40 := by
  have h14 : kd T (T.length - 1) = 14 := (hT.2.2.1 _ (by omega)).mpr (by omega)
  obtain ⟨j, j1, j2, j3⟩ := first_at (p := fun j => decide (kd T (i + j) ≠ 40)) (n := T.length) ⟨T.length - 1 - i, by omega, by rw [decide_eq_true_iff, show i + (T.length - 1 - i) = T.length - 1 by omega, h14]; decide⟩
  rw [decide_eq_true_iff] at j2
  exact ⟨j, fun r hr => by have := j3 r hr; rw [decide_eq_false_iff_not, Decidable.not_not] at this; exact this, j2⟩
end RF2
