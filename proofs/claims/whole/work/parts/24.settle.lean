/-! ===== who is in: the sweeps ===== -/
abbrev Ins : Type := Nat → Bool
def stp1 (p : Ins × Bool) (k : Nat) : Ins × Bool := if p.1 k then p else (fun j => if j = k then true else p.1 j, true)
def swp1 (E : Edn) (p : Ins × Bool) (c : Nat) : Ins × Bool := if p.1 c then (cNeeds (cl E c)).foldl stp1 p else p
def swp (E : Edn) (s : Ins) : Ins × Bool := (List.range (eC E).length).foldl (swp1 E) (s, false)
def clo (E : Edn) : Nat → Ins → Ins
  | 0, s => s
  | k + 1, s => if (swp E s).2 then clo E k (swp E s).1 else s
def in0 (E : Edn) (cs : Nat → Int32) : Ins := fun c => decide (¬ evF cs (cWhen (cl E c)) = 0)
/-- in the letter -/
def insd (E : Edn) (cs : Nat → Int32) : Ins := clo E (eC E).length (in0 E cs)
theorem stp1_t {p : Ins × Bool} {k : Nat} (h : p.1 k = true) : stp1 p k = p := if_pos h
theorem stp1_f {p : Ins × Bool} {k : Nat} (h : p.1 k = false) : stp1 p k = (fun j => if j = k then true else p.1 j, true) := if_neg (by rw [h]; decide)
theorem stp1_keep {p : Ins × Bool} {k c : Nat} (h : p.1 c = true) : (stp1 p k).1 c = true := by
  unfold stp1
  by_cases q : p.1 k
  · rw [if_pos q]; exact h
  · rw [if_neg q]; show (if c = k then true else p.1 c) = true; split <;> simp_all
theorem stpL_keep {l : List Nat} : ∀ {p : Ins × Bool} {c : Nat}, p.1 c = true → (l.foldl stp1 p).1 c = true := by
  induction l with
  | nil => exact fun h => h
  | cons a l ih => exact fun h => ih (stp1_keep h)
/-- rows of booleans up to n -/
def RB (f : Nat → Int32) (s : Ins) (n : Nat) : Prop := ∀ i, i < n → f i = bI (s i)
theorem RB.set {f g : Nat → Int32} {s : Ins} {n k : Nat} (h : RB f s n) (hg : ∀ i, i ≠ k → g i = f i) (hk : g k = 1) : RB g (fun j => if j = k then true else s j) n := by
  intro i hi
  by_cases q : i = k
  · subst q; rw [hk]; simp [bI]
  · rw [hg i q, h i hi]; simp [q]
theorem take_fold {α β : Type} {f : α → β → α} {l : List β} {j : Nat} (hj : j < l.length) (p : α) : (l.take (j + 1)).foldl f p = f ((l.take j).foldl f p) l[j] := by
  rw [List.take_succ_eq_append_getElem hj, List.foldl_append]; rfl
theorem range_fold {α : Type} {f : α → Nat → α} {j : Nat} (p : α) : (List.range (j + 1)).foldl f p = f ((List.range j).foldl f p) j := by
  rw [List.range_succ, List.foldl_append]; rfl
theorem c_addNeeded {X : GX} {h0 : SH} {a e : Nat} {E : Edn} {s : Ins} (hE : EdC h0 e E) (ok : okE E) (F : LX6 (Sk h0) a) (ha : a + 4 < 73) (hs : RB (hI h0 (a + 1)) s (eC E).length) :
    Cd X mX6_addNeeded [.ref a, .ref e] h0 0 0 (oI (fun r t => chI (· = a + 1) h0 t ∧ RB (hI t (a + 1)) (swp E s).1 (eC E).length ∧ r = bI (swp E s).2) nX) := by
  have hn : (eC E).length ≤ 12 := ok.2.2.1
  refine bkX6_addNeeded_0 ?_
  generalize hP : oI (fun r t => chI (· = a + 1) h0 t ∧ RB (hI t (a + 1)) (swp E s).1 (eC E).length ∧ r = bI (swp E s).2) nX = P
  refine for_up (G := fun c t => ∀ x2 : Int32, x2 = bI ((List.range c).foldl (swp1 E) (s, false)).2 → Gd X mX6_addNeeded 4 [some (.ref a), some (.ref e), some (.int x2), some (.int (nI c)), none, none, none] [] t 0 0 P)
    (I := fun c t => chI (· = a + 1) h0 t ∧ RB (hI t (a + 1)) ((List.range c).foldl (swp1 E) (s, false)).1 (eC E).length) (eC E).length ?_ ?_ 0 h0 (Nat.zero_le _) ⟨chI.rf, hs⟩ 0 rfl
  · intro t ⟨hch, hrow⟩ x2 hx2
    have hE' := hE.cg (hch.ag (fun b q => by omega))
    refine bkX6_addNeeded_4 hE'.2.1 (fun _ => ?_) (fun q => absurd (by rw [hE'.2.2.2.2.2.1]; exact Int32.le_refl _) q)
    exact bkX6_addNeeded_84 (hx2 ▸ bI_01 _) (by rw [← hP]; exact ⟨hch, hrow, hx2⟩)
  · intro c t hc ⟨hch, hrow⟩ ih x2 hx2
    have hE' := hE.cg (hch.ag (fun b q => by omega))
    obtain ⟨b, hb, hB⟩ := hE.2.2.2.2.2.2.2.1 c hc
    have okc := ok.2.2.2.2.2 c hc
    have hnl : (cNeeds (cl E c)).length ≤ 8 := by have := okc.2.2.1; omega
    refine bkX6_addNeeded_4 hE'.2.1 (fun q => ?_) (fun _ => ?_)
    · rw [hE'.2.2.2.2.2.1] at q; exact absurd q (nI_ge hc (by omega))
    refine bkX6_addNeeded_12 hE'.2.1 (vp_in_nI (by omega) (by omega)) ?_
    rw [nI_clamp (by omega), hch.hA, hb]
    generalize hp0 : (List.range c).foldl (swp1 E) (s, false) = p0 at hrow hx2
    have hout : ∀ (u : SH) (p : Ins × Bool) (x2 : Int32), chI (· = a + 1) h0 u → RB (hI u (a + 1)) p.1 (eC E).length → x2 = bI p.2 → swp1 E p0 c = p → Gd X mX6_addNeeded 78 [some (.ref a), some (.ref e), some (.int x2), some (.int (nI c)), none, none, none] [] u 0 0 P := by
      intro u p x2 g1 g2 g3 g4
      have e9 : (List.range (c + 1)).foldl (swp1 E) (s, false) = p := by rw [range_fold, hp0, g4]
      refine bkX6_addNeeded_78 ?_
      rw [nI_1]
      exact ih u ⟨g1, by rw [e9]; exact g2⟩ x2 (by rw [e9]; exact g3)
    -- the needs of the clause c
    refine for_up (G := fun j u => ∀ x2 : Int32, x2 = bI (((cNeeds (cl E c)).take j).foldl stp1 p0).2 → Gd X mX6_addNeeded 23 [some (.ref a), some (.ref e), some (.int x2), some (.int (nI c)), some (va_rf (some b)), some (.int (nI j)), none] [] u 0 0 P)
      (I := fun j u => chI (· = a + 1) h0 u ∧ RB (hI u (a + 1)) (((cNeeds (cl E c)).take j).foldl stp1 p0).1 (eC E).length ∧ (0 < j → p0.1 c = true)) (cNeeds (cl E c)).length ?_ ?_ 0 t (Nat.zero_le _) ⟨hch, hrow, fun z => absurd z (Nat.lt_irrefl _)⟩ x2 hx2
    · intro u ⟨hch, hrow, hj0⟩ x2 hx2
      have F' : LX6 (Sk u) a := hch.1 ▸ F
      have hB' := hB.cg (hch.ag (fun b q => by omega))
      rw [List.take_length] at hrow hx2
      refine bkX6_addNeeded_23 F' (vp_in_nI (by omega) (by omega)) (fun q => ?_) (fun q => ?_)
      · rw [nI_clamp (by omega), hrow c hc, bI_0] at q
        have h0c : p0.1 c = false := by
          cases h9 : p0.1 c with
          | false => rfl
          | true => rw [stpL_keep h9] at q; cases q
        have hl0 : (cNeeds (cl E c)).length = 0 := by
          rcases Nat.eq_zero_or_pos (cNeeds (cl E c)).length with z | z
          · exact z
          · rw [hj0 z] at h0c; cases h0c
        refine hout u _ x2 hch hrow hx2 ?_
        rw [List.length_eq_zero_iff.mp hl0]
        unfold swp1
        rw [if_neg (by rw [h0c]; decide)]
        rfl
      · rw [nI_clamp (by omega), hrow c hc, bI_0] at q
        refine bkX6_addNeeded_32 hB'.2.1 (fun _ => ?_) (fun z => absurd (by rw [hB'.2.2.2.2.2.1]; exact Int32.le_refl _) z)
        refine hout u _ x2 hch hrow hx2 ?_
        unfold swp1
        by_cases z : p0.1 c = true
        · rw [if_pos z]
        · have hl0 : (cNeeds (cl E c)).length = 0 := by
            rcases Nat.eq_zero_or_pos (cNeeds (cl E c)).length with y | y
            · exact y
            · exact absurd (hj0 y) z
          rw [if_neg z, List.length_eq_zero_iff.mp hl0]; rfl
    · intro j u hj ⟨hch, hrow, hj0⟩ ih2 x2 hx2
      have F' : LX6 (Sk u) a := hch.1 ▸ F
      have hB' := hB.cg (hch.ag (fun b q => by omega))
      refine bkX6_addNeeded_23 F' (vp_in_nI (by omega) (by omega)) (fun q => ?_) (fun q => ?_)
      · rw [nI_clamp (by omega), hrow c hc, bI_0] at q
        have h0c : p0.1 c = false := by
          cases h9 : p0.1 c with
          | false => rfl
          | true => rw [stpL_keep h9] at q; cases q
        have hj : j = 0 := by
          rcases Nat.eq_zero_or_pos j with z | z
          · exact z
          · rw [hj0 z] at h0c; cases h0c
        subst hj
        refine hout u p0 x2 hch hrow hx2 ?_
        unfold swp1
        rw [if_neg (by rw [h0c]; decide)]
      · rw [nI_clamp (by omega), hrow c hc, bI_0] at q
        have h0c : p0.1 c = true := by
          rcases Nat.eq_zero_or_pos j with z | z
          · subst z
            cases h9 : p0.1 c with
            | true => rfl
            | false => exact absurd h9 q
          · exact hj0 z
        refine bkX6_addNeeded_32 hB'.2.1 (fun z => ?_) (fun _ => ?_)
        · rw [hB'.2.2.2.2.2.1] at z; exact absurd z (nI_ge hj (by omega))
        have hk := hB'.2.2.2.2.2.2.1 j hj
        have hkl : (cNeeds (cl E c))[j] < (eC E).length := okc.2.2.2.1 _ (List.getElem_mem hj)
        have e1 : hI u (b + 3) (nI j).toNatClampNeg = nI (cNeeds (cl E c))[j] := by rw [nI_clamp (by omega)]; exact hk
        refine bkX6_addNeeded_42 hB'.2.1 (vp_in_nI (by omega) (by omega)) F' (by rw [e1]; exact vp_in_nI (by omega) (by omega)) (fun z => ?_) (fun z => ?_)
        · rw [e1, nI_clamp (by omega), hrow _ hkl, bI_0] at z
          refine bkX6_addNeeded_72 (r4 := some b) ?_
          rw [nI_1]
          have e2 : ((cNeeds (cl E c)).take (j + 1)).foldl stp1 p0 = ((cNeeds (cl E c)).take j).foldl stp1 p0 := by
            rw [take_fold hj]; exact stp1_t (by simpa using z)
          exact ih2 u ⟨hch, by rw [e2]; exact hrow, fun _ => h0c⟩ x2 (by rw [e2]; exact hx2)
        · rw [e1, nI_clamp (by omega), hrow _ hkl, bI_0] at z
          rw [e1]
          refine bkX6_addNeeded_62 (r4 := some b) F' (vp_in_nI (by omega) (by omega)) ?_
          rw [nI_clamp (by omega), nar_1]
          refine bkX6_addNeeded_72 (r4 := some b) ?_
          rw [nI_1]
          have e2 : ((cNeeds (cl E c)).take (j + 1)).foldl stp1 p0 = (fun q => if q = (cNeeds (cl E c))[j] then true else (((cNeeds (cl E c)).take j).foldl stp1 p0).1 q, true) := by
            rw [take_fold hj]; exact stp1_f z
          exact ih2 _ ⟨hch.s rfl, by rw [e2]; exact hrow.set (fun i hi => sI_nj hi) sI_at, fun _ => h0c⟩ 1 (by rw [e2]; rfl)
