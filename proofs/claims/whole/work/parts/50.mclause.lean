/-! ===== the model reads links and items ===== -/
def ItK (h : SH) (q k : Nat) (it : Itm) : Prop := hI h 55 q = nI it.1 ∧ (it.1 = 0 → hJ h 57 q = enc37 it.2.1) ∧ (it.1 = 2 → hI h 56 q = nI it.2.2.1) ∧ (it.1 = 1 ∨ it.1 = 3 → ∃ s, hI h 56 q = nI s ∧ FmM h 35 6 s it.2.2.2 ∧ s + it.2.2.2.length < k)
def LnK (h : SH) (i : Nat) (L : List (Nat × Bool)) : Prop := hI h 51 i = nI L.length ∧ ∀ (j : Nat) (hj : j < L.length), hI h 52 (8 * i + j) = nI L[j].1 ∧ hI h 53 (8 * i + j) = bI L[j].2
def IsK (h : SH) (i k : Nat) (A : List Itm) : Prop := hI h 54 i = nI A.length ∧ ∀ (j : Nat) (hj : j < A.length), ItK h (20 * i + j) k A[j]
def HdK (h : SH) (i k : Nat) (b : Nat × Bool × Fml) : Prop := hI h 48 i = nI b.1 ∧ hI h 49 i = bI b.2.1 ∧ ∃ s, hI h 50 i = nI s ∧ FmM h 35 6 s b.2.2 ∧ s + b.2.2.length < k
/-- the cells of clause i, and the codes up to k -/
abbrev clS (i k b j : Nat) : Prop := (((48 ≤ b ∧ b ≤ 51) ∨ b = 54) ∧ j = i) ∨ ((b = 52 ∨ b = 53) ∧ 8 * i ≤ j ∧ j < 8 * i + 8) ∨ ((55 ≤ b ∧ b ≤ 57) ∧ 20 * i ≤ j ∧ j < 20 * i + 20) ∨ ((b = 58 ∨ b = 59) ∧ 15600 ≤ j ∧ j < 15600 + k)
section KF
variable {S : Nat → Nat → Prop} {h t : SH} {i k k' : Nat}
theorem FmM.kf {s : Nat} {o : Fml} (K : FmM h 35 6 s o) (hs : s + o.length < k) (c : cf S h t) (hS : ∀ b j, S b j → ¬ clS i k b j) : FmM t 35 6 s o := by
  obtain ⟨g1, g2, g3⟩ := K
  refine ⟨g1, fun q hq => ?_, ?_⟩
  · have e1 : hI t (35 + 23) (2600 * 6 + s + q) = hI h (35 + 23) (2600 * 6 + s + q) := (c.2 _ _ (fun z => hS _ _ z (by unfold clS; omega))).1
    have e2 : hI t (35 + 24) (2600 * 6 + s + q) = hI h (35 + 24) (2600 * 6 + s + q) := (c.2 _ _ (fun z => hS _ _ z (by unfold clS; omega))).1
    rw [e1, e2]; exact g2 q hq
  · have e1 : hI t (35 + 23) (2600 * 6 + s + o.length) = hI h (35 + 23) (2600 * 6 + s + o.length) := (c.2 _ _ (fun z => hS _ _ z (by unfold clS; omega))).1
    rw [e1]; exact g3
theorem ItK.cf {q : Nat} {it : Itm} (K : ItK h q k it) (hq : 20 * i ≤ q ∧ q < 20 * i + 20) (c : cf S h t) (hS : ∀ b j, S b j → ¬ clS i k b j) : ItK t q k it := by
  obtain ⟨g1, g2, g3, g4⟩ := K
  have e5 := (c.2 55 q (fun z => hS _ _ z (by unfold clS; omega))).1
  have e6 := (c.2 56 q (fun z => hS _ _ z (by unfold clS; omega))).1
  have e7 := (c.2 57 q (fun z => hS _ _ z (by unfold clS; omega))).2
  refine ⟨by rw [e5]; exact g1, fun z => by rw [e7]; exact g2 z, fun z => by rw [e6]; exact g3 z, fun z => ?_⟩
  obtain ⟨s, a1, a2, a3⟩ := g4 z
  exact ⟨s, by rw [e6]; exact a1, a2.kf a3 c hS, a3⟩
theorem ItK.mono {q : Nat} {it : Itm} (K : ItK h q k it) (hk : k ≤ k') : ItK h q k' it := by
  obtain ⟨g1, g2, g3, g4⟩ := K
  refine ⟨g1, g2, g3, fun z => ?_⟩
  obtain ⟨s, a1, a2, a3⟩ := g4 z
  exact ⟨s, a1, a2, by omega⟩
theorem LnK.cf {L : List (Nat × Bool)} (K : LnK h i L) (hl : L.length ≤ 8) (c : cf S h t) (hS : ∀ b j, S b j → ¬ clS i k b j) : LnK t i L := by
  refine ⟨by rw [(c.2 51 i (fun z => hS _ _ z (by unfold clS; omega))).1]; exact K.1, fun j hj => ?_⟩
  rw [(c.2 52 _ (fun z => hS _ _ z (by unfold clS; omega))).1, (c.2 53 _ (fun z => hS _ _ z (by unfold clS; omega))).1]
  exact K.2 j hj
theorem IsK.cf {A : List Itm} (K : IsK h i k A) (hl : A.length ≤ 20) (c : cf S h t) (hS : ∀ b j, S b j → ¬ clS i k b j) : IsK t i k A :=
  ⟨by rw [(c.2 54 i (fun z => hS _ _ z (by unfold clS; omega))).1]; exact K.1, fun j hj => (K.2 j hj).cf (i := i) (by omega) c hS⟩
theorem IsK.mono {A : List Itm} (K : IsK h i k A) (hk : k ≤ k') : IsK h i k' A := ⟨K.1, fun j hj => (K.2 j hj).mono hk⟩
theorem HdK.cf {b : Nat × Bool × Fml} (K : HdK h i k b) (c : cf S h t) (hS : ∀ b j, S b j → ¬ clS i k b j) : HdK t i k b := by
  obtain ⟨g1, g2, s, a1, a2, a3⟩ := K
  exact ⟨by rw [(c.2 48 i (fun z => hS _ _ z (by unfold clS; omega))).1]; exact g1, by rw [(c.2 49 i (fun z => hS _ _ z (by unfold clS; omega))).1]; exact g2, s, by rw [(c.2 50 i (fun z => hS _ _ z (by unfold clS; omega))).1]; exact a1, a2.kf a3 c hS, a3⟩
theorem HdK.mono {b : Nat × Bool × Fml} (K : HdK h i k b) (hk : k ≤ k') : HdK h i k' b := by
  obtain ⟨g1, g2, s, a1, a2, a3⟩ := K
  exact ⟨g1, g2, s, a1, a2, by omega⟩
def ClK (h : SH) (i k : Nat) (c : Cls) : Prop := HdK h i k (cAt c, cMust c, cWhen c) ∧ LnK h i (lks c) ∧ IsK h i k (cItems c)
theorem ClK.M {c : Cls} (K : ClK h i k c) : ClM h 35 6 i c := by
  obtain ⟨⟨g1, g2, s, a1, a2, a3⟩, ⟨l1, l2⟩, m1, m2⟩ := K
  refine ⟨g1, g2, ⟨s, a1, a2⟩, l1, l2, m1, fun j hj => ?_⟩
  obtain ⟨b1, b2, b3, b4⟩ := m2 j hj
  refine ⟨b1, b2, b3, fun z => ?_⟩
  obtain ⟨s, c1, c2, _⟩ := b4 z
  exact ⟨s, c1, c2⟩
theorem ClK.mono {c : Cls} (K : ClK h i k c) (hk : k ≤ k') : ClK h i k' c := ⟨K.1.mono hk, K.2.1, K.2.2.mono hk⟩
theorem ClK.cf {c : Cls} (K : ClK h i k c) (h8 : (lks c).length ≤ 8) (h20 : (cItems c).length ≤ 20) (f : cf S h t) (hS : ∀ b j, S b j → ¬ clS i k b j) : ClK t i k c := ⟨K.1.cf f hS, K.2.1.cf h8 f hS, K.2.2.cf h20 f hS⟩
end KF
section MK
variable {X : GX} {h : SH} {T : List Tk} {i f : Nat} {F : List Fct}
/-- one link: what is wrong with it -/
def pLk (T : List Tk) (n i : Nat) : Option Nat :=
  if n = 8 then some (flt T 5 i) else if kd T (i + 1) ≠ 11 then some (flt T 1 (i + 1)) else if isT T (wd T (i + 1)) = false then some (flt T 2 (i + 1)) else if kd T (i + 2) ≠ 59 then some (flt T 1 (i + 2)) else none
abbrev wL (i0 b j : Nat) : Prop := (b = 35 ∧ (j = 7 ∨ j = 8)) ∨ (b = 51 ∧ j = i0) ∨ ((b = 52 ∨ b = 53) ∧ 8 * i0 ≤ j ∧ j < 8 * i0 + 8)
theorem c_link {i0 : Nat} {L : List (Nat × Bool)} {b : Bool} (M : MR h T i) (hT : okT T) (K : LnK h i0 L) (h0 : i0 < 84) (h8 : L.length ≤ 8) (hk : kd T i ≠ 14) :
    Cd X mX11_link [.ref 35, .int (nI i0), .int (bI b)] h 0 0 (oV (fun t => cf (wL i0) h t ∧ match pLk T L.length i with
      | none => MR t T (i + 3) ∧ LnK t i0 (L ++ [(gM T (wd T (i + 1)), b)])
      | some f => MB t f) nX) := by
  have hi := M.2.2.2.2.2
  have hl := hT.2.1
  have hi1 : i + 1 < T.length := hT.lt hi hk
  have e51 : ∀ g, hI g 51 = hI h 51 → hI g (35 + 16) (nI i0).toNatClampNeg = nI L.length := fun g e => by rw [nI_clamp (by omega)]; show hI g 51 i0 = _; rw [e]; exact K.1
  unfold pLk
  refine bkX11_link_0 M.1 (vp_in_nI (by omega) (by omega)) (fun z => ?_) (fun z => ?_)
  rotate_left
  · rw [e51 h rfl, n8, nI_eq (by omega) (by omega)] at z
    rw [if_pos z]
    have hb := flt_b (k := 5) hT hi (by decide)
    refine bkX11_link_11 M.1 (c_wrong (k := 5) M hT) (fun t q => bkX11_link_16 ?_)
    subst q
    exact ⟨cf.rf.s (by unfold wL; omega), M.bad hb.1 hb.2⟩
  rw [e51 h rfl, n8, nI_eq (by omega) (by omega)] at z
  rw [if_neg z]
  have M1 : MR (sI h 35 7 (nI (i + 1))) T (i + 1) := M.at hi1
  have eix : ∀ g, hI g 51 = hI h 51 → (8 : Int32) * nI i0 + hI g (35 + 16) (nI i0).toNatClampNeg = nI (8 * i0 + L.length) := fun g e => by rw [e51 g e, n8, pk_mul, nI_add]
  have e7 : hI h 35 7 + 1 = nI (i + 1) := by rw [M.2.2.2.2.1, nI_1]
  have ge : hI (sI h 35 7 (hI h 35 7 + 1)) 51 = hI h 51 := sI_nb (by decide)
  -- behind takeClause
  have tail : ∀ (g : SH) (r : Int32), cf (wL i0) h g → hI g 51 = hI h 51 → (MR g T (i + 2) ∧ r = nI (gM T (wd T (i + 1))) ∧ (∀ j, hI g 52 j = hI h 52 j) ∧ (∀ j, hI g 53 j = if j = 8 * i0 + L.length then bI b else hI h 53 j) ∧ kd T (i + 1) = 11 ∧ isT T (wd T (i + 1)) = true ∨ ∃ f, MB g f ∧ (if kd T (i + 1) ≠ 11 then some (flt T 1 (i + 1)) else if isT T (wd T (i + 1)) = false then some (flt T 2 (i + 1)) else if kd T (i + 2) ≠ 59 then some (flt T 1 (i + 2)) else none) = some f) →
      Gd X mX11_link 63 [some (.ref 35), some (.int (nI i0)), none] [.int r, .int (nI (8 * i0 + L.length)), .ref (35 + 17)] g 0 0 (oV (fun t => cf (wL i0) h t ∧ match (if kd T (i + 1) ≠ 11 then some (flt T 1 (i + 1)) else if isT T (wd T (i + 1)) = false then some (flt T 2 (i + 1)) else if kd T (i + 2) ≠ 59 then some (flt T 1 (i + 2)) else none) with
      | none => MR t T (i + 3) ∧ LnK t i0 (L ++ [(gM T (wd T (i + 1)), b)])
      | some f => MB t f) nX) := by
    rintro g r c1 g51 (⟨m, hr, h52, h53, k11, kt⟩ | ⟨f, B, hf⟩)
    · rw [if_neg (by omega), if_neg (by rw [kt]; decide)]
      have m2 : MR (sI g (35 + 17) (8 * i0 + L.length) r) T (i + 2) := m.cf (S := fun b _ => b = 52) (cf.rf.s rfl) (fun b j z => by omega)
      have c2 : cf (wL i0) h (sI g (35 + 17) (8 * i0 + L.length) r) := c1.s (by unfold wL; omega)
      have fin : ∀ w, cf (wL i0) h w → LX11 (Sk w) 35 → hI w 51 = hI h 51 → (oV (fun t => cf (wL i0) h t ∧ match (if kd T (i + 2) ≠ 59 then some (flt T 1 (i + 2)) else none) with
        | none => MR t T (i + 3) ∧ LnK t i0 (L ++ [(gM T (wd T (i + 1)), b)])
        | some f => MB t f) nX) (.inl none) (sI w 51 i0 (nI (L.length + 1))) → Gd X mX11_link 70 [some (.ref 35), some (.int (nI i0)), none] [] w 0 0 (oV (fun t => cf (wL i0) h t ∧ match (if kd T (i + 2) ≠ 59 then some (flt T 1 (i + 2)) else none) with
        | none => MR t T (i + 3) ∧ LnK t i0 (L ++ [(gM T (wd T (i + 1)), b)])
        | some f => MB t f) nX) := fun w _ lw w51 hp => by
        refine bkX11_link_70 lw (vp_in_nI (by omega) (by omega)) ?_
        rw [e51 w w51, nI_1, nI_clamp (by omega)]; exact hp
      refine bkX11_link_63 (LX11.a_linkTo m.1) (vp_in_nI (by omega) (by omega)) (show LX11 (Sk (sI g (35 + 17) (nI (8 * i0 + L.length)).toNatClampNeg r)) 35 from m.1) (by rw [nI_clamp (by omega)]; exact c_takeSign (c := 59) m2 hT (by decide)) (fun w q => ?_)
      subst q
      unfold tak
      by_cases k59 : kd T (i + 2) = 59
      · rw [if_pos k59]
        have hi3 : i + 3 < T.length := hT.lt m.2.2.2.2.2 (by omega)
        refine fin _ (c2.s (by unfold wL; omega)) m.1 (by rw [sI_nb (by decide), sI_nb (by decide)]; exact g51) ?_
        refine ⟨(c2.s (by unfold wL; omega)).s (by unfold wL; omega), ?_⟩
        rw [if_neg (by omega)]
        refine ⟨(m2.at hi3).cf (S := fun b _ => b = 51) (cf.rf.s rfl) (fun b j z => by omega), by rw [sI_at, List.length_append]; rfl, fun j hj => ?_⟩
        rw [List.length_append] at hj
        have f52 : hI (sI (sI (sI g (35 + 17) (8 * i0 + L.length) r) 35 7 (nI (i + 2 + 1))) 51 i0 (nI (L.length + 1))) 52 = hI (sI g (35 + 17) (8 * i0 + L.length) r) 52 := by rw [sI_nb (by decide), sI_nb (by decide)]
        have f53 : hI (sI (sI (sI g (35 + 17) (8 * i0 + L.length) r) 35 7 (nI (i + 2 + 1))) 51 i0 (nI (L.length + 1))) 53 = hI g 53 := by rw [sI_nb (by decide), sI_nb (by decide), sI_nb (by decide)]
        rw [f52, f53, h53]
        by_cases y : j < L.length
        · rw [List.getElem_append_left y, if_neg (by omega)]
          have : hI (sI g (35 + 17) (8 * i0 + L.length) r) 52 (8 * i0 + j) = hI h 52 (8 * i0 + j) := (sI_nj (by omega)).trans (h52 _)
          rw [this]; exact K.2 j y
        · have e : j = L.length := by simp at hj; omega
          subst e
          rw [List.getElem_append_right (Nat.le_refl _), if_pos rfl]
          simp only [Nat.sub_self, List.getElem_singleton]
          exact ⟨(sI_at (h := g)).trans hr, trivial⟩
      · rw [if_neg k59]
        have hb := flt_b (k := 1) hT m.2.2.2.2.2 (by decide)
        refine fin _ (c2.s (by unfold wL; omega)) m.1 (by rw [sI_nb (by decide), sI_nb (by decide)]; exact g51) ?_
        refine ⟨(c2.s (by unfold wL; omega)).s (by unfold wL; omega), ?_⟩
        rw [if_pos k59]
        exact (m2.bad hb.1 hb.2).cf (S := fun b _ => b = 51) (cf.rf.s rfl) (by omega)
    · rw [hf]
      have B2 : MB (sI g (35 + 17) (8 * i0 + L.length) r) f := B.cf (S := fun b _ => b = 52) (cf.rf.s rfl) (by omega)
      refine bkX11_link_63 (LX11.a_linkTo B.1) (vp_in_nI (by omega) (by omega)) (show LX11 (Sk (sI g (35 + 17) (nI (8 * i0 + L.length)).toNatClampNeg r)) 35 from B.1) (by rw [nI_clamp (by omega)]; exact b_takeSign B2) (fun w q => ?_)
      subst q
      refine bkX11_link_70 B2.1 (vp_in_nI (by omega) (by omega)) ?_
      exact ⟨(c1.s (by unfold wL; omega)).s (by unfold wL; rw [nI_clamp (by omega)]; omega), B2.cf (S := fun b _ => b = 51) (cf.rf.s rfl) (by omega)⟩
  have cc : cf (wL i0) h (sI (sI h 35 7 (nI (i + 1))) 53 (8 * i0 + L.length) (bI b)) := (cf.rf.s (by unfold wL; omega)).s (by unfold wL; omega)
  have M2 : MR (sI (sI h 35 7 (nI (i + 1))) 53 (8 * i0 + L.length) (bI b)) T (i + 1) := M1.cf (S := fun b _ => b = 53) (cf.rf.s rfl) (fun b j z => by omega)
  have hh : sI (sI h 35 7 (hI h 35 7 + 1)) (35 + 18) (((8 : Int32) * nI i0 + hI (sI h 35 7 (hI h 35 7 + 1)) (35 + 16) (nI i0).toNatClampNeg).toNatClampNeg) (vp_nar .boolean (bI b)) = sI (sI h 35 7 (nI (i + 1))) 53 (8 * i0 + L.length) (bI b) := by
    rw [eix _ ge, nI_clamp (by omega), nar_b, e7]
  have b51 : ∀ x y z, hI (sI (sI (sI (sI h 35 7 x) 53 (8 * i0 + L.length) (bI b)) 35 8 y) 35 7 z) 51 = hI h 51 := fun x y z => by rw [sI_nb (by decide), sI_nb (by decide), sI_nb (by decide), sI_nb (by decide)]
  refine bkX11_link_17 M.1 (vp_in_nI (by omega) (by omega)) (by rw [eix _ ge]; exact (vp_in_nI (by omega) (by omega))) (by rw [hh]; exact (show Cd X mX11_takeClause [.ref 35] (sI (sI h 35 7 (nI (i + 1))) 53 (8 * i0 + L.length) (bI b)) 0 0 (oI (fun r g => cf (wL i0) h g ∧ hI g 51 = hI h 51 ∧ (MR g T (i + 2) ∧ r = nI (gM T (wd T (i + 1))) ∧ (∀ j, hI g 52 j = hI h 52 j) ∧ (∀ j, hI g 53 j = if j = 8 * i0 + L.length then bI b else hI h 53 j) ∧ kd T (i + 1) = 11 ∧ isT T (wd T (i + 1)) = true ∨ ∃ f, MB g f ∧ (if kd T (i + 1) ≠ 11 then some (flt T 1 (i + 1)) else if isT T (wd T (i + 1)) = false then some (flt T 2 (i + 1)) else if kd T (i + 2) ≠ 59 then some (flt T 1 (i + 2)) else none) = some f)) nX) from by
      by_cases k11 : kd T (i + 1) = 11
      · cases kt : isT T (wd T (i + 1)) with
        | true =>
          refine Gd.mono (Nat.le_refl _) (Nat.le_refl _) (fun o t q => ?_) (c_takeClause M2 hT k11 kt)
          match o, q with
          | .inl (some (.int r)), ⟨q1, q2⟩ =>
            subst q2
            have hi2 : i + 2 < T.length := hT.lt hi1 (by omega)
            refine ⟨cc.s (by unfold wL; omega), by rw [sI_nb (by decide), sI_nb (by decide), sI_nb (by decide)], Or.inl ⟨M2.at hi2, q1, fun j => by rw [sI_nb (by decide), sI_nb (by decide), sI_nb (by decide)], fun j => ?_, k11, rfl⟩⟩
            rw [sI_nb (by decide)]
            by_cases y : j = 8 * i0 + L.length
            · subst y; rw [sI_at, if_pos rfl]
            · rw [sI_nj y, if_neg y, sI_nb (by decide)]
        | false =>
          have hb := flt_b (k := 2) hT hi1 (by decide)
          refine Gd.mono (Nat.le_refl _) (Nat.le_refl _) (fun o t q => ?_) (x_takeClause (k := 2) M2 hT (Or.inr ⟨k11, kt, rfl⟩))
          match o, q with
          | .inl (some (.int r)), q =>
            have q : t = _ := q
            subst q
            exact ⟨(cc.s (by unfold wL; omega)).s (by unfold wL; omega), b51 _ _ _, Or.inr ⟨_, (M2.bad hb.1 hb.2).at, by rw [if_neg (by omega), if_pos rfl]⟩⟩
      · have hb := flt_b (k := 1) hT hi1 (by decide)
        refine Gd.mono (Nat.le_refl _) (Nat.le_refl _) (fun o t q => ?_) (x_takeClause (k := 1) M2 hT (Or.inl ⟨k11, rfl⟩))
        match o, q with
        | .inl (some (.int r)), q =>
          have q : t = _ := q
          subst q
          exact ⟨(cc.s (by unfold wL; omega)).s (by unfold wL; omega), b51 _ _ _, Or.inr ⟨_, (M2.bad hb.1 hb.2).at, by rw [if_pos k11]⟩⟩)) (fun r g q => ?_)
  rw [show hI (sI (sI h 35 7 (hI h 35 7 + 1)) (35 + 18) (((8 : Int32) * nI i0 + hI (sI h 35 7 (hI h 35 7 + 1)) (35 + 16) (nI i0).toNatClampNeg).toNatClampNeg) (vp_nar .boolean (bI b))) (35 + 16) (nI i0).toNatClampNeg = hI (sI h 35 7 (hI h 35 7 + 1)) (35 + 16) (nI i0).toNatClampNeg from congrFun (sI_nb (by decide)) _, eix _ ge]
  exact tail g r q.1 q.2.1 q.2.2
end MK
