/-! ===== findQuarrel, settle ===== -/
def QR (t : SH) (a : Nat) (q : Nat × Int32 × Int32) : Prop := hI t a 6 = nI q.1 ∧ hI t a 7 = q.2.1 ∧ hI t a 8 = q.2.2
theorem RB.cg {f g : Nat → Int32} {s : Ins} {n : Nat} (h : RB f s n) (e : g = f) : RB g s n := e ▸ h
theorem stp1_flag {p : Ins × Bool} {k : Nat} (h : (stp1 p k).2 = false) : stp1 p k = p := by
  unfold stp1 at h ⊢
  by_cases q : p.1 k
  · rw [if_pos q]
  · rw [if_neg q] at h; cases h
theorem stpL_flag {l : List Nat} : ∀ {p : Ins × Bool}, (l.foldl stp1 p).2 = false → l.foldl stp1 p = p := by
  induction l with
  | nil => exact fun _ => rfl
  | cons a l ih => intro p h
                   have h1 : (l.foldl stp1 (stp1 p a)).2 = false := h
                   have h2 := ih h1
                   show l.foldl stp1 (stp1 p a) = p
                   rw [h2] at h1 ⊢
                   exact stp1_flag h1
theorem swp1_flag {E : Edn} {p : Ins × Bool} {c : Nat} (h : (swp1 E p c).2 = false) : swp1 E p c = p := by
  unfold swp1 at h ⊢
  by_cases q : p.1 c
  · rw [if_pos q] at h ⊢; exact stpL_flag h
  · rw [if_neg q]
theorem swpL_flag {E : Edn} {l : List Nat} : ∀ {p : Ins × Bool}, (l.foldl (swp1 E) p).2 = false → l.foldl (swp1 E) p = p := by
  induction l with
  | nil => exact fun _ => rfl
  | cons a l ih => intro p h
                   have h1 : (l.foldl (swp1 E) (swp1 E p a)).2 = false := h
                   have h2 := ih h1
                   show l.foldl (swp1 E) (swp1 E p a) = p
                   rw [h2] at h1 ⊢
                   exact swp1_flag h1
theorem swp_same {E : Edn} {s : Ins} (h : (swp E s).2 = false) : (swp E s).1 = s := congrArg Prod.fst (swpL_flag h)
section ST
variable {X : GX} {h : SH} {a e c : Nat} {E : Edn} {s : Ins} {cs : Nat → Int32}
theorem c_findQuarrel (hE : EdC h e E) (ok : okE E) (F : LX6 (Sk h) a) (ha : a + 4 < 73) (hs : RB (hI h (a + 1)) s (eC E).length) :
    Cd X mX6_findQuarrel [.ref a, .ref e] h 0 0 (oV (fun t => chI (· = a) h t ∧ (∀ j, j < 6 → hI t a j = hI h a j) ∧ QR t a (quar E s)) nX) := by
  generalize hP : oV (fun t => chI (· = a) h t ∧ (∀ j, j < 6 → hI t a j = hI h a j) ∧ QR t a (quar E s)) nX = P
  have c0 : chI (· = a) h (sI (sI (sI h a 6 0) a 7 (-1)) a 8 (-1)) := (((chI.rf (S := (· = a))).s rfl).s rfl).s rfl
  generalize h1d : sI (sI (sI h a 6 0) a 7 (-1)) a 8 (-1) = h1 at c0
  have l1 : ∀ j, j < 6 → hI h1 a j = hI h a j := fun j hj => by rw [← h1d, sI_nj (by omega), sI_nj (by omega), sI_nj (by omega)]
  have q6 : hI h1 a 6 = 0 := by rw [← h1d, sI_nj (by decide), sI_nj (by decide), sI_at]
  have q7 : hI h1 a 7 = -1 := by rw [← h1d, sI_nj (by decide), sI_at]
  have q8 : hI h1 a 8 = -1 := by rw [← h1d, sI_at]
  have hE1 := hE.cg (c0.ag (fun b q => by omega))
  have F1 : LX6 (Sk h1) a := c0.1 ▸ F
  have s1 : RB (hI h1 (a + 1)) s (eC E).length := hs.cg (c0.2.2 _ (by omega))
  have fin : ∀ t, chI (· = a) h1 t → (∀ j, j < 6 → hI t a j = hI h1 a j) → QR t a (quar E s) → Gd X mX6_findQuarrel 62 [none, none, none] [] t 0 0 P := fun t k1 k2 k3 =>
    bkX6_findQuarrel_62 (by rw [← hP]; exact ⟨c0.tr k1, fun j hj => (k2 j hj).trans (l1 j hj), k3⟩)
  have yes : ∀ t, chI (· = a) h1 t → (∀ j, j < 6 → hI t a j = hI h1 a j) → QR t a (quar E s) → Gd X mX6_findQuarrel 39 [some (.ref a), some (.ref e), none] [] t 0 0 P := fun t k1 k2 k3 =>
    bkX6_findQuarrel_39 (bkX6_findQuarrel_44 (fun _ => fin t k1 k2 k3) (fun q => absurd q (by decide)))
  refine bkX6_findQuarrel_0 F (by rw [h1d]; exact c_findMissing hE1 ok F1 s1) (fun r t hq => ?_)
  cases hm : qMiss E s with
  | some c =>
    rw [hm] at hq
    obtain ⟨rfl, rfl⟩ := hq
    refine bkX6_findQuarrel_20 (fun _ => ?_) (fun q => absurd q (by decide))
    refine yes _ (((chI.rf (S := (· = a))).s rfl).s rfl) (fun j hj => by rw [sI_nj (by omega), sI_nj (by omega)]) ?_
    unfold quar; rw [hm]
    exact ⟨by rw [sI_nj (by decide), sI_at]; rfl, by rw [sI_at], by rw [sI_nj (by decide), sI_nj (by decide), q8]⟩
  | none =>
    rw [hm] at hq
    obtain ⟨rfl, rfl⟩ := hq
    refine bkX6_findQuarrel_20 (fun q => absurd rfl q) (fun _ => ?_)
    refine bkX6_findQuarrel_23 F1 (c_findBarred hE1 ok F1 s1) (fun r t hq => ?_)
    cases hb : qBar E s with
    | some p =>
      rw [hb] at hq
      obtain ⟨rfl, rfl⟩ := hq
      refine bkX6_findQuarrel_28 (fun _ => ?_) (fun q => absurd q (by decide))
      refine yes _ ((((chI.rf (S := (· = a))).s rfl).s rfl).s rfl) (fun j hj => by rw [sI_nj (by omega), sI_nj (by omega), sI_nj (by omega)]) ?_
      unfold quar; rw [hm, hb]
      exact ⟨by rw [sI_nj (by decide), sI_nj (by decide), sI_at]; rfl, by rw [sI_nj (by decide), sI_at], by rw [sI_at]⟩
    | none =>
      rw [hb] at hq
      obtain ⟨rfl, rfl⟩ := hq
      refine bkX6_findQuarrel_28 (fun q => absurd rfl q) (fun _ => ?_)
      refine bkX6_findQuarrel_31 F1 (c_findBadReference hE1 ok F1 ha s1) (fun r t hq => ?_)
      cases hr : qRef E s with
      | some p =>
        rw [hr] at hq
        obtain ⟨rfl, rfl⟩ := hq
        refine bkX6_findQuarrel_36 (fun q => absurd q (by decide)) (fun _ => ?_)
        refine yes _ ((((chI.rf (S := (· = a))).s rfl).s rfl).s rfl) (fun j hj => by rw [sI_nj (by omega), sI_nj (by omega), sI_nj (by omega)]) ?_
        unfold quar; rw [hm, hb, hr]
        exact ⟨by rw [sI_nj (by decide), sI_nj (by decide), sI_at]; rfl, by rw [sI_nj (by decide), sI_at], by rw [sI_at]⟩
      | none =>
        rw [hr] at hq
        obtain ⟨rfl, rfl⟩ := hq
        refine bkX6_findQuarrel_36 (fun _ => ?_) (fun q => absurd rfl q)
        refine bkX6_findQuarrel_43 (bkX6_findQuarrel_44 (fun q => absurd rfl q) (fun _ => ?_))
        refine bkX6_findQuarrel_49 F1 (c_isEmpty hE1 ok F1 s1) (fun r t hq => ?_)
        obtain ⟨rfl, rfl⟩ := hq
        cases hx : qNone E s with
        | true =>
          refine bkX6_findQuarrel_54 (fun q => absurd q (by decide)) (fun _ => ?_)
          refine bkX6_findQuarrel_57 F1 (fin _ ((chI.rf (S := (· = a))).s rfl) (fun j hj => by rw [sI_nj (by omega)]) ?_)
          unfold quar; rw [hm, hb, hr, hx]
          exact ⟨by rw [sI_at]; rfl, by rw [sI_nj (by decide), q7]; rfl, by rw [sI_nj (by decide), q8]; rfl⟩
        | false =>
          refine bkX6_findQuarrel_54 (fun _ => ?_) (fun q => absurd rfl q)
          refine fin _ chI.rf (fun j hj => rfl) ?_
          unfold quar; rw [hm, hb, hr, hx]
          exact ⟨q6, q7, q8⟩
/-- what settle writes -/
def stS (a c : Nat) : Nat → Prop := fun b => b = a ∨ b = a + 1 ∨ b = c + 2
theorem c_settle (hE : EdC h e E) (ok : okE E) (F : LX6 (Sk h) a) (ha : a + 4 < 73) (hC : LX1 (Sk h) c) (hc : c + 2 < 73) (hd : c + 2 < a ∨ a + 4 < c) (hcs : ∀ k, k < (eF E).length → hI h (c + 1) k = cs k) :
    Cd X mX6_settle [.ref a, .ref e, .ref c] h 0 0 (oV (fun t => chI (stS a c) h t ∧ (∀ j, j < 6 → hI t a j = hI h a j) ∧ RB (hI t (a + 1)) (insd E cs) (eC E).length ∧ QR t a (quar E (insd E cs))) nX) := by
  have hn : (eC E).length ≤ 12 := ok.2.2.1
  generalize hP : oV (fun t => chI (stS a c) h t ∧ (∀ j, j < 6 → hI t a j = hI h a j) ∧ RB (hI t (a + 1)) (insd E cs) (eC E).length ∧ QR t a (quar E (insd E cs))) nX = P
  have hS : ∀ b, (b = a + 1 ∨ b = c + 2) → b < 73 := fun b q => by omega
  refine bkX6_settle_0 ?_
  refine for_up (G := fun i t => Gd X mX6_settle 2 [some (.ref a), some (.ref e), some (.ref c), some (.int (nI i)), none] [] t 0 0 P)
    (I := fun i t => chI (fun b => b = a + 1 ∨ b = c + 2) h t ∧ ∀ j, j < i → hI t (a + 1) j = bI (in0 E cs j)) (eC E).length ?_ ?_ 0 h (Nat.zero_le _) ⟨chI.rf, fun j hj => absurd hj (Nat.not_lt_zero _)⟩
  · rintro t ⟨hch, hrow⟩
    have hE' := hE.cg (hch.ag hS)
    refine bkX6_settle_2 hE'.2.1 (fun _ => ?_) (fun q => absurd (by rw [hE'.2.2.2.2.2.1]; exact (Int32.le_refl _)) q)
    refine bkX6_settle_43 ?_
    refine for_up (G := fun r u => ∀ (x3 : Int32) (s : Ins) (g : Bool), x3 = bI g → RB (hI u (a + 1)) s (eC E).length → (if g then clo E ((eC E).length - r) s else s) = insd E cs → Gd X mX6_settle 48 [some (.ref a), some (.ref e), none, some (.int x3), some (.int (nI r))] [] u 0 0 P)
      (I := fun r u => chI (fun b => b = a + 1 ∨ b = c + 2) h u) (eC E).length ?_ ?_ 0 t (Nat.zero_le _) hch 1 (in0 E cs) true rfl hrow rfl
    · intro u hch x3 s g hx hs hg
      have hE' := hE.cg (hch.ag hS)
      have hs' : s = insd E cs := by rw [← hg, Nat.sub_self]; cases g <;> rfl
      subst hs'
      refine bkX6_settle_48 hE'.2.1 (fun _ => ?_) (fun q => absurd (by rw [hE'.2.2.2.2.2.1]; exact (Int32.le_refl _)) q)
      have F' : LX6 (Sk u) a := hch.1 ▸ F
      refine bkX6_settle_73 F' (c_findQuarrel hE' ok F' ha hs) (fun t hq => bkX6_settle_78 ?_)
      rw [← hP]
      refine ⟨(hch.up (fun b q => Or.inr q)).tr (hq.1.up (fun b q => Or.inl q)), fun j hj => (hq.2.1 j hj).trans (by rw [hch.2.2 a (by omega)]), hs.cg (hq.1.2.2 _ (by omega)), hq.2.2⟩
    · intro r u hr hch ih x3 s g hx hs hg
      have hE' := hE.cg (hch.ag hS)
      have F' : LX6 (Sk u) a := hch.1 ▸ F
      have out : s = insd E cs → Gd X mX6_settle 73 [some (.ref a), some (.ref e), none, none, none] [] u 0 0 P := fun hs' => by
        subst hs'
        refine bkX6_settle_73 F' (c_findQuarrel hE' ok F' ha hs) (fun t hq => bkX6_settle_78 ?_)
        rw [← hP]
        refine ⟨(hch.up (fun b q => Or.inr q)).tr (hq.1.up (fun b q => Or.inl q)), fun j hj => (hq.2.1 j hj).trans (by rw [hch.2.2 a (by omega)]), hs.cg (hq.1.2.2 _ (by omega)), hq.2.2⟩
      refine bkX6_settle_48 hE'.2.1 (fun q => ?_) (fun _ => ?_)
      · rw [hE'.2.2.2.2.2.1] at q; exact absurd q (nI_ge hr (by omega))
      cases g with
      | false => exact bkX6_settle_57 (fun _ => out hg) (fun q => absurd hx q)
      | true =>
        refine bkX6_settle_57 (fun q => absurd (hx.symm.trans q) (by decide)) (fun _ => ?_)
        refine bkX6_settle_61 F' (c_addNeeded hE' ok F' ha hs) (fun r9 t9 hq => ?_)
        refine bkX6_settle_66 ?_
        rw [nI_1]
        refine ih t9 (hch.tr (hq.1.up (fun b q => Or.inl q))) r9 (swp E s).1 (swp E s).2 hq.2.2 hq.2.1 ?_
        rw [← hg, show (eC E).length - r = ((eC E).length - (r + 1)) + 1 by omega]
        show _ = clo E _ s
        conv => rhs; unfold clo
        cases hz : (swp E s).2 with
        | true => rfl
        | false =>
          have hsame : (swp E s).1 = s := swp_same hz
          rw [hsame]
  · rintro i t hi ⟨hch, hrow⟩ ih
    have hE' := hE.cg (hch.ag hS)
    have F' : LX6 (Sk t) a := hch.1 ▸ F
    have hC' : LX1 (Sk t) c := hch.1 ▸ hC
    obtain ⟨b, hb, hB⟩ := hE'.2.2.2.2.2.2.2.1 i hi
    obtain ⟨f, g1, g2, g3⟩ := hB.2.2.2.2.1
    have okc := ok.2.2.2.2.2 i hi
    refine bkX6_settle_2 hE'.2.1 (fun q => ?_) (fun _ => ?_)
    · rw [hE'.2.2.2.2.2.1] at q; exact absurd q (nI_ge hi (by omega))
    refine bkX6_settle_10 F' hE'.2.1 (vp_in_nI (by omega) (by omega)) (by rw [nI_clamp (by omega)]; exact hb) hB.2.1 g2 g3.1 (c_reckon (nf := (eF E).length) (cs := cs) g3 hC' (fun k hk => by rw [hch.2.2 _ (by omega)]; exact hcs k hk) ok.2.1 (by omega) okc.2.1.1 okc.2.1.2) (fun r9 t9 hq => ?_)
    have F9 : LX6 (Sk t9) a := hq.1.1 ▸ F'
    have go : ∀ v : Bool, v = in0 E cs i → Gd X mX6_settle 36 [some (.ref a), some (.ref e), some (.ref c), some (.int (nI i)), none] [.int (bI v), .int (nI i), .ref (a + 1)] t9 0 0 P := fun v hv => by
      refine bkX6_settle_36 (n7 := 12) (LX6.a_inside (h := t9) F9) (vp_in_nI (by omega) (by omega)) ?_
      rw [nI_1, nI_clamp (by omega), nar_b]
      refine ih _ ⟨(hch.tr (hq.1.up (fun b q => Or.inr q))).s (Or.inl rfl), fun j hj => ?_⟩
      by_cases z : j = i
      · subst z; rw [sI_at, hv]
      · rw [sI_nj z, hq.1.2.2 _ (by omega)]; exact hrow j (by omega)
    refine bkX6_settle_28 (fun q => ?_) (fun q => ?_)
    · exact bkX6_settle_35 (go false (by unfold in0; rw [← hq.2, q]; rfl))
    · refine bkX6_settle_31 (go true ?_)
      unfold in0; rw [← hq.2]; simp [q]
end ST
