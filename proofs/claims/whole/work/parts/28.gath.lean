/-! ===== the model's gathers and quarrels ===== -/
def cnt (n : Nat) (s : Ins) : Nat := ((List.range n).filter s).length
theorem cnt_le {n : Nat} {s : Ins} : cnt n s ≤ n := by have := List.length_filter_le s (List.range n); rw [List.length_range] at this; exact this
theorem cnt_succ {n : Nat} {s : Ins} : cnt (n + 1) s = cnt n s + (if s n then 1 else 0) := by
  unfold cnt; rw [List.range_succ, List.filter_append, List.length_append]
  by_cases h : s n <;> simp [h]
theorem cnt_mono {s t : Ins} (h : ∀ c, s c = true → t c = true) : ∀ n, cnt n s ≤ cnt n t
  | 0 => Nat.le_refl _
  | n + 1 => by
    rw [cnt_succ, cnt_succ]
    have := cnt_mono h n
    by_cases q : s n
    · rw [if_pos q, if_pos (h n q)]; omega
    · rw [if_neg q]; split <;> omega
theorem cnt_lt {s t : Ins} (h : ∀ c, s c = true → t c = true) {k : Nat} (hs : s k = false) (ht : t k = true) : ∀ n, k < n → cnt n s < cnt n t
  | 0, z => absurd z (Nat.not_lt_zero _)
  | n + 1, z => by
    rw [cnt_succ, cnt_succ]
    by_cases q : k = n
    · subst q
      have := cnt_mono h k
      rw [hs, ht]; simp; omega
    · have := cnt_lt h hs ht n (by omega)
      by_cases q : s n
      · rw [if_pos q, if_pos (h n q)]; omega
      · rw [if_neg q]; split <;> omega
/-- a sweep only adds; if it says so it has added one -/
def grew (n : Nat) (p q : Ins × Bool) : Prop := (∀ c, p.1 c = true → q.1 c = true) ∧ (q.2 = true → p.2 = true ∨ ∃ k, k < n ∧ p.1 k = false ∧ q.1 k = true)
theorem grew.rf {n : Nat} {p : Ins × Bool} : grew n p p := ⟨fun _ h => h, fun h => Or.inl h⟩
theorem grew.tr {n : Nat} {p q r : Ins × Bool} (a : grew n p q) (b : grew n q r) : grew n p r := ⟨fun c h => b.1 c (a.1 c h), fun h => by
  rcases b.2 h with z | ⟨k, k1, k2, k3⟩
  · rcases a.2 z with y | ⟨k, k1, k2, k3⟩
    · exact Or.inl y
    · exact Or.inr ⟨k, k1, k2, b.1 k k3⟩
  · refine Or.inr ⟨k, k1, ?_, k3⟩
    cases hp : p.1 k with
    | false => rfl
    | true => rw [a.1 k hp] at k2; cases k2⟩
theorem grew_stp1 {n : Nat} {p : Ins × Bool} {k : Nat} (hk : k < n) : grew n p (stp1 p k) := by
  cases hp : p.1 k with
  | true => rw [stp1_t hp]; exact grew.rf
  | false => exact ⟨fun c h => stp1_keep h, fun _ => Or.inr ⟨k, hk, hp, by rw [stp1_f hp]; simp⟩⟩
theorem grew_stpL {n : Nat} : ∀ {l : List Nat} {p : Ins × Bool}, (∀ k ∈ l, k < n) → grew n p (l.foldl stp1 p)
  | [], _, _ => grew.rf
  | a :: l, p, h => (grew_stp1 (h a (List.mem_cons_self ..))).tr (grew_stpL (fun k hk => h k (List.mem_cons_of_mem _ hk)))
theorem grew_swp1 {E : Edn} {p : Ins × Bool} {c : Nat} (h : ∀ k ∈ cNeeds (cl E c), k < (eC E).length) : grew (eC E).length p (swp1 E p c) := by
  unfold swp1; split
  · exact grew_stpL h
  · exact grew.rf
theorem grew_swpL {E : Edn} : ∀ {l : List Nat} {p : Ins × Bool}, (∀ c ∈ l, ∀ k ∈ cNeeds (cl E c), k < (eC E).length) → grew (eC E).length p (l.foldl (swp1 E) p)
  | [], _, _ => grew.rf
  | a :: l, p, h => (grew_swp1 (h a (List.mem_cons_self ..))).tr (grew_swpL (fun c hc => h c (List.mem_cons_of_mem _ hc)))
theorem swp_cnt {E : Edn} {s : Ins} (ok : okE E) (h : (swp E s).2 = true) : cnt (eC E).length s < cnt (eC E).length (swp E s).1 := by
  have g : grew (eC E).length (s, false) (swp E s) := grew_swpL (fun c hc => (ok.2.2.2.2.2 c (List.mem_range.mp hc)).2.2.2.1)
  rcases g.2 h with z | ⟨k, k1, k2, k3⟩
  · cases z
  · exact cnt_lt g.1 k2 k3 _ k1
theorem lks_fold {C : Cls} {p : Ins × Bool} : (lks C).foldl (fun p q => if q.2 then p else stp1 p q.1) p = (cNeeds C).foldl stp1 p := by
  unfold lks
  rw [List.foldl_append, List.foldl_map, List.foldl_map]
  show List.foldl (fun p _ => p) (List.foldl (fun p k => stp1 p k) p (cNeeds C)) (cBars C) = _
  generalize (cBars C) = l
  generalize (cNeeds C).foldl (fun p k => stp1 p k) p = w
  induction l with
  | nil => rfl
  | cons a l ih => exact ih
section MG
variable {X : GX} {h : SH} {m e c : Nat} {E : Edn} {s : Ins} {cs : Nat → Int32}
abbrev gaS (m : Nat) : Nat → Prop := fun b => b = m + 30 ∨ b = m + 31
/-- one sweep of the model -/
theorem m_sweep {P : Out → SH → Prop} (F : LX11 (Sk h) m) (hE : EdM h m e E) (ok : okE E) (he : e ≤ 6) (hs : RB (hI h (m + 31)) s (eC E).length)
    (k : ∀ (t : SH) (x : Int32), chI (gaS m) h t → RB (hI t (m + 31)) (swp E s).1 (eC E).length → x = bI (swp E s).2 → Gd X mX11_gathers 172 [some (.ref m), some (.int (nI e)), some (.int x), none, none] [] t 0 0 P) :
    Gd X mX11_gathers 60 [some (.ref m), some (.int (nI e)), none, none, none] [] h 0 0 P := by
  have hn : (eC E).length ≤ 12 := ok.2.2.1
  refine bkX11_gathers_60 ?_
  refine for_up (G := fun c t => ∀ x : Int32, x = bI ((List.range c).foldl (swp1 E) (s, false)).2 → Gd X mX11_gathers 64 [some (.ref m), some (.int (nI e)), some (.int x), some (.int (nI c)), none] [] t 0 0 P)
    (I := fun c t => chI (gaS m) h t ∧ RB (hI t (m + 31)) ((List.range c).foldl (swp1 E) (s, false)).1 (eC E).length) (eC E).length ?_ ?_ 0 h (Nat.zero_le _) ⟨chI.rf, hs⟩ 0 rfl
  · rintro t ⟨hch, hrow⟩ x hx
    have hE' := hE.cg (hch.agM (fun b q => by omega) e) ok
    exact bkX11_gathers_64 (hch.1 ▸ F) (vp_in_nI (by omega) (by omega)) (fun _ => k t x hch hrow hx) (fun q => absurd (by rw [nI_clamp (by omega), hE'.2.1]; exact (Int32.le_refl _)) q)
  · rintro c t hc ⟨hch, hrow⟩ ih x hx
    have hE' := hE.cg (hch.agM (fun b q => by omega) e) ok
    have okc := ok.2.2.2.2.2 c hc
    have C := hE'.2.2.2 c hc
    have hl : (lks (cl E c)).length ≤ 8 := by rw [lks_len]; exact okc.2.2.1
    refine bkX11_gathers_64 (hch.1 ▸ F) (vp_in_nI (by omega) (by omega)) (fun q => ?_) (fun _ => ?_)
    · rw [nI_clamp (by omega), hE'.2.1] at q; exact absurd q (nI_ge hc (by omega))
    refine bkX11_gathers_74 ?_
    rw [ix12, ix8]
    have nx : ∀ (u : SH) (y : Int32), chI (gaS m) h u → RB (hI u (m + 31)) (swp1 E ((List.range c).foldl (swp1 E) (s, false)) c).1 (eC E).length → y = bI (swp1 E ((List.range c).foldl (swp1 E) (s, false)) c).2 → Gd X mX11_gathers 166 [some (.ref m), some (.int (nI e)), some (.int y), some (.int (nI c)), none] [] u 0 0 P := fun u y h1 h2 h3 => by
      refine bkX11_gathers_166 ?_
      rw [nI_1]
      exact ih u ⟨h1, by rw [range_fold]; exact h2⟩ y (by rw [range_fold]; exact h3)
    generalize hw : (List.range c).foldl (swp1 E) (s, false) = w at hrow hx nx
    refine for_up (G := fun j u => ∀ y : Int32, y = bI (((lks (cl E c)).take j).foldl (fun p q => if q.2 then p else stp1 p q.1) w).2 → (0 < j → w.1 c = true) → Gd X mX11_gathers 85 [some (.ref m), some (.int (nI e)), some (.int y), some (.int (nI c)), some (.int (nI (8 * (12 * e + c) + j)))] [] u 0 0 P)
      (I := fun j u => chI (gaS m) h u ∧ RB (hI u (m + 31)) (((lks (cl E c)).take j).foldl (fun p q => if q.2 then p else stp1 p q.1) w).1 (eC E).length) (lks (cl E c)).length ?_ ?_ 0 t (Nat.zero_le _) ⟨hch, hrow⟩ x hx (fun z => absurd z (Nat.lt_irrefl _))
    · rintro u ⟨hc1, hr1⟩ y hy hpos
      have C' := (hE.cg (hc1.agM (fun b q => by omega) e) ok).2.2.2 c hc
      refine bkX11_gathers_85 (hc1.1 ▸ F) (by rw [ix12]; exact (vp_in_nI (by omega) (by omega))) (fun _ => ?_) (fun q => absurd (by rw [ix12, nI_clamp (by omega), C'.2.2.2.1, ix8, nI_add]; exact (Int32.le_refl _)) q)
      rw [List.take_length, lks_fold] at hy hr1
      have e1 : (cNeeds (cl E c)).foldl stp1 w = swp1 E w c := by
        unfold swp1
        by_cases z : w.1 c
        · rw [if_pos z]
        · rw [if_neg z]
          rcases Nat.eq_zero_or_pos (lks (cl E c)).length with z0 | z0
          · rw [lks_len] at z0
            have : cNeeds (cl E c) = [] := List.eq_nil_of_length_eq_zero (by omega)
            rw [this]; rfl
          · exact absurd (hpos z0) z
      rw [e1] at hy hr1
      exact nx u y hc1 hr1 hy
    · rintro j u hj ⟨hc1, hr1⟩ ih2 y hy hpos
      have C' := (hE.cg (hc1.agM (fun b q => by omega) e) ok).2.2.2 c hc
      obtain ⟨l1, l2⟩ := C'.2.2.2.2.1 j hj
      have hk := lks_lt okc hj
      have F' : LX11 (Sk u) m := hc1.1 ▸ F
      refine bkX11_gathers_85 F' (by rw [ix12]; exact (vp_in_nI (by omega) (by omega))) (fun q => ?_) (fun _ => ?_)
      · rw [ix12, nI_clamp (by omega), C'.2.2.2.1, ix8, nI_add] at q; exact absurd q (nI_ge (by omega) (by omega))
      rw [take_fold hj] at ih2
      generalize hv : ((lks (cl E c)).take j).foldl (fun p q => if q.2 then p else stp1 p q.1) w = v at hy hr1 ih2
      have keep : ∀ (l : List (Nat × Bool)) (p : Ins × Bool), p.1 c = true → (l.foldl (fun p q => if q.2 then p else stp1 p q.1) p).1 c = true := by
        intro l
        induction l with
        | nil => exact fun _ z => z
        | cons a l ihl => intro p z
                          refine ihl _ ?_
                          show (if a.2 = true then p else stp1 p a.1).1 c = true
                          split
                          · exact z
                          · exact stp1_keep z
      refine bkX11_gathers_111 F' (vp_in_nI (by omega) (by omega)) (fun q => ?_) (fun q => ?_)
      · rw [nI_clamp (by omega), hr1 c hc, bI_0] at q
        have hw0 : w.1 c = false := by
          cases z : w.1 c with
          | false => rfl
          | true => rw [← hv, keep _ _ z] at q; cases q
        have hj0 : j = 0 := by
          rcases Nat.eq_zero_or_pos j with z | z
          · exact z
          · rw [hpos z] at hw0; cases hw0
        subst hj0
        have : v = w := hv.symm
        subst this
        have e1 : swp1 E v c = v := by unfold swp1; rw [hw0]; rfl
        exact nx u y hc1 (by rw [e1]; exact hr1) (by rw [e1]; exact hy)
      · rw [nI_clamp (by omega), hr1 c hc, bI_0] at q
        have hvc : v.1 c = true := by simpa using q
        have hwc : w.1 c = true := by
          rcases Nat.eq_zero_or_pos j with z | z
          · subst z; have : v = w := hv.symm
            rw [← this]; exact hvc
          · exact hpos z
        refine bkX11_gathers_120 F' (vp_in_nI (by omega) (by omega)) (fun q => ?_) (fun q => ?_)
        · rw [nI_clamp (by omega), l2, bI_0] at q
          have hb : (lks (cl E c))[j].2 = true := by simpa using q
          rw [hb] at ih2
          refine bkX11_gathers_160 ?_
          rw [nI_1, Nat.add_assoc]
          exact ih2 u ⟨hc1, hr1⟩ y hy (fun _ => hwc)
        · rw [nI_clamp (by omega), l2, bI_0] at q
          rw [q] at ih2
          refine bkX11_gathers_130 F' (vp_in_nI (by omega) (by omega)) (by rw [nI_clamp (by omega), l1]; exact (vp_in_nI (by omega) (by omega))) (fun z => ?_) (fun z => ?_)
          · rw [nI_clamp (by omega), l1, nI_clamp (by omega), hr1 _ hk, bI_0] at z
            have hin : v.1 (lks (cl E c))[j].1 = true := by simpa using z
            refine bkX11_gathers_160 ?_
            rw [nI_1, Nat.add_assoc]
            have e1 : (if false = true then v else stp1 v (lks (cl E c))[j].1) = v := by simp [stp1_t hin]
            rw [e1] at ih2
            exact ih2 u ⟨hc1, hr1⟩ y hy (fun _ => hwc)
          · rw [nI_clamp (by omega), l1, nI_clamp (by omega), hr1 _ hk, bI_0] at z
            have hin : v.1 (lks (cl E c))[j].1 = false := by simpa using z
            refine bkX11_gathers_145 F' (vp_in_nI (by omega) (by omega)) (by rw [nI_clamp (by omega), l1]; exact (vp_in_nI (by omega) (by omega))) ?_
            rw [nI_clamp (by omega), l1, nI_clamp (by omega), nar_1]
            refine bkX11_gathers_160 ?_
            rw [nI_1, Nat.add_assoc]
            have e1 : (if false = true then v else stp1 v (lks (cl E c))[j].1) = (fun i => if i = (lks (cl E c))[j].1 then true else v.1 i, true) := by simp [stp1_f hin]
            rw [e1] at ih2
            exact ih2 _ ⟨hc1.s (Or.inr rfl), hr1.set (fun i hi => sI_nj hi) sI_at⟩ 1 rfl (fun _ => hwc)
theorem c_gathers (F : LX11 (Sk h) m) (hE : EdM h m e E) (ok : okE E) (he : e ≤ 6) (hcs : ∀ k, k < (eF E).length → hI h (m + 27) k = cs k) :
    Cd X mX11_gathers [.ref m, .int (nI e)] h 0 0 (oV (fun t => chI (gaS m) h t ∧ RB (hI t (m + 31)) (insd E cs) (eC E).length) nX) := by
  have hn : (eC E).length ≤ 12 := ok.2.2.1
  generalize hP : oV (fun t => chI (gaS m) h t ∧ RB (hI t (m + 31)) (insd E cs) (eC E).length) nX = P
  refine bkX11_gathers_0 ?_
  refine for_up (G := fun c t => Gd X mX11_gathers 2 [some (.ref m), some (.int (nI e)), some (.int (nI c)), none, none] [] t 0 0 P)
    (I := fun c t => chI (gaS m) h t ∧ ∀ j, j < c → j < (eC E).length → hI t (m + 31) j = bI (in0 E cs j)) 12 ?_ ?_ 0 h (Nat.zero_le _) ⟨chI.rf, fun j hj => absurd hj (Nat.not_lt_zero _)⟩
  · rintro t ⟨hch, hrow⟩
    refine bkX11_gathers_2 (fun _ => ?_) (fun q => absurd (by exact (Int32.le_refl _)) q)
    refine bkX11_gathers_54 ?_
    refine bkX11_gathers_56 (fun q => absurd q (by decide)) (fun _ => ?_)
    have key : ∀ (d : Nat) (s : Ins) (t : SH), (eC E).length - cnt (eC E).length s ≤ d → chI (gaS m) h t → RB (hI t (m + 31)) s (eC E).length → clo E d s = insd E cs → Gd X mX11_gathers 60 [some (.ref m), some (.int (nI e)), none, none, none] [] t 0 0 P := by
      intro d
      induction d with
      | zero =>
        intro s t hd hch hs hr
        refine m_sweep (hch.1 ▸ F) (hE.cg (hch.agM (fun b q => by omega) e) ok) ok he hs (fun u x k1 k2 k3 => ?_)
        refine bkX11_gathers_172 ?_
        cases hz : (swp E s).2 with
        | true => have := swp_cnt ok hz; have h2 := cnt_le (n := (eC E).length) (s := (swp E s).1); omega
        | false =>
          rw [hz] at k3
          refine bkX11_gathers_56 (fun _ => ?_) (fun q => absurd k3 q)
          refine bkX11_gathers_175 ?_
          rw [← hP]
          rw [swp_same hz] at k2
          have hr' : s = insd E cs := hr
          exact ⟨hch.tr k1, hr' ▸ k2⟩
      | succ d ih =>
        intro s t hd hch hs hr
        refine m_sweep (hch.1 ▸ F) (hE.cg (hch.agM (fun b q => by omega) e) ok) ok he hs (fun u x k1 k2 k3 => ?_)
        refine bkX11_gathers_172 ?_
        unfold clo at hr
        cases hz : (swp E s).2 with
        | true =>
          rw [hz] at k3 hr
          have := swp_cnt ok hz
          refine bkX11_gathers_56 (fun q => absurd (k3.symm.trans q) (by decide)) (fun _ => ?_)
          exact ih (swp E s).1 u (by omega) (hch.tr k1) k2 hr
        | false =>
          rw [hz] at k3 hr
          refine bkX11_gathers_56 (fun _ => ?_) (fun q => absurd k3 q)
          refine bkX11_gathers_175 ?_
          rw [← hP]
          rw [swp_same hz] at k2
          have hr' : s = insd E cs := hr
          exact ⟨hch.tr k1, hr' ▸ k2⟩
    exact key (eC E).length (in0 E cs) t (Nat.sub_le _ _) hch (fun i hi => hrow i (by omega) hi) rfl
  · rintro c t hc ⟨hch, hrow⟩ ih
    have hE' := hE.cg (hch.agM (fun b q => by omega) e) ok
    have F' : LX11 (Sk t) m := hch.1 ▸ F
    refine bkX11_gathers_2 (fun q => ?_) (fun _ => ?_)
    · rw [n12] at q; exact absurd q (nI_ge hc (by omega))
    have go : ∀ (v : Bool) (u : SH), chI (gaS m) h u → hI u (m + 31) = hI t (m + 31) → (c < (eC E).length → v = in0 E cs c) → Gd X mX11_gathers 47 [some (.ref m), some (.int (nI e)), some (.int (nI c)), none, none] [.int (bI v), .int (nI c), .ref (m + 31)] u 0 0 P := fun v u hu hr hv => by
      have Fu : LX11 (Sk u) m := hu.1 ▸ F
      refine bkX11_gathers_47 (n6 := 12) (LX11.a_isIn (h := u) Fu) (vp_in_nI (by omega) (by omega)) ?_
      rw [nI_1, nI_clamp (by omega), nar_b]
      refine ih _ ⟨hu.s (Or.inr rfl), fun j hj hj2 => ?_⟩
      by_cases z : j = c
      · subst z; rw [sI_at, hv hj2]
      · rw [sI_nj z, hr]; exact hrow j (by omega) hj2
    refine bkX11_gathers_8 F' (vp_in_nI (by omega) (by omega)) (fun q => ?_) (fun q => ?_)
    · rw [nI_clamp (by omega), hE'.2.1, nI_leI (by omega) (by omega)] at q
      exact bkX11_gathers_46 (go false t hch rfl (fun z => by omega))
    · rw [nI_clamp (by omega), hE'.2.1, nI_leI (by omega) (by omega)] at q
      have hc2 : c < (eC E).length := by omega
      obtain ⟨s0, g1, g2⟩ := (hE'.2.2.2 c hc2).2.2.1
      have okc := ok.2.2.2.2.2 c hc2
      refine bkX11_gathers_23 F' (by rw [ix12]; exact (vp_in_nI (by omega) (by omega))) (by rw [ix12, nI_clamp (by omega), g1]; exact c_worth (nf := (eF E).length) (cs := cs) F' g2 he (fun k hk => by rw [hch.2.2 _ (by omega)]; exact hcs k hk) ok.2.1 okc.2.1.1 okc.2.1.2) (fun r u hq => ?_)
      have h1 := hch.tr (hq.1.up (fun b z => Or.inl z))
      have h2 := hq.1.2.2 (m + 31) (by omega)
      refine bkX11_gathers_39 (fun z => ?_) (fun z => ?_)
      · exact bkX11_gathers_46 (go false u h1 h2 (fun _ => by unfold in0; rw [← hq.2, z]; rfl))
      · exact bkX11_gathers_42 (go true u h1 h2 (fun _ => by unfold in0; rw [← hq.2]; simp [z]))
/-- the quarrel's cells by the first three looks, up to a clause -/
def fM (E : Edn) (s : Ins) (c : Nat) : Option Nat := if cMust (cl E c) && !s c then some c else none
def fB (E : Edn) (s : Ins) (c : Nat) : Option (Nat × Nat) := (bar1 E s c).map (fun b => (c, b))
def fR (E : Edn) (s : Ins) (c : Nat) : Option (Nat × Nat) := (ref1 E s c).map (fun b => (c, b))
theorem fs_succ {α : Type} {f : Nat → Option α} {n : Nat} : (List.range (n + 1)).findSome? f = ((List.range n).findSome? f).or (f n) := by
  rw [List.range_succ, List.findSome?_append]; cases h : f n <;> simp [List.findSome?_cons, h]
def qst (o : Option Nat) (p q : Option (Nat × Nat)) : Nat × Int32 × Int32 := match o with
  | some c => (1, nI c, -1)
  | none => match p with
    | some p => (2, nI p.1, nI p.2)
    | none => match q with
      | some p => (3, nI p.1, nI p.2)
      | none => (0, -1, -1)
theorem quar_qst (E : Edn) (s : Ins) : quar E s = (if (qst (qMiss E s) (qBar E s) (qRef E s)).1 = 0 ∧ qNone E s = true then (4, -1, -1) else qst (qMiss E s) (qBar E s) (qRef E s)) := by
  unfold quar qst
  cases qMiss E s with
  | some c => simp
  | none => cases qBar E s with
    | some p => simp
    | none => cases qRef E s with
      | some p => simp
      | none => by_cases q : qNone E s = true <;> simp [q]
theorem qst_0 {o : Option Nat} {p q : Option (Nat × Nat)} : (qst o p q).1 = 0 ↔ o = none ∧ p = none ∧ q = none := by
  unfold qst
  cases o <;> cases p <;> cases q <;> simp
theorem c_quarrels (F : LX11 (Sk h) m) (hE : EdM h m e E) (ok : okE E) (he : e ≤ 6) (hs : RB (hI h (m + 31)) s (eC E).length) :
    Cd X mX11_quarrels [.ref m, .int (nI e)] h 0 0 (oV (fun t => qok m h t ∧ QM t m (quar E s)) nX) := by
  have hn : (eC E).length ≤ 12 := ok.2.2.1
  generalize hP : oV (fun t => qok m h t ∧ QM t m (quar E s)) nX = P
  have kp : ∀ t, qok m h t → EdM t m e E ∧ LX11 (Sk t) m ∧ RB (hI t (m + 31)) s (eC E).length := fun t q => ⟨hE.cg (q.1.agM (fun b q => by omega) e) ok, q.1.1 ▸ F, hs.cg (q.1.2.2 _ (by omega))⟩
  have nx0 : ∀ (o : Option Nat) (p q : Option (Nat × Nat)), nI (qst o p q).1 = 0 ↔ (o = none ∧ p = none ∧ q = none) := fun o p q => by
    rw [n0, nI_eq (by unfold qst; cases o <;> cases p <;> cases q <;> simp) (by omega), qst_0]
  refine bkX11_quarrels_0 F ?_
  -- the end
  have fin : ∀ (t : SH) (x : Int32), qok m h t → QM t m (qst (qMiss E s) (qBar E s) (qRef E s)) → x = bI (!qNone E s) → Gd X mX11_quarrels 156 [some (.ref m), none, some (.int x), none] [] t 0 0 P := fun t x k1 k2 k3 => by
    have F' := (kp t k1).2.1
    have e6 : ∀ v : Nat, QM (sI t m 44 (nI v)) m (v, (qst (qMiss E s) (qBar E s) (qRef E s)).2) := fun v => ⟨sI_at, by rw [sI_nj (by decide)]; exact k2.2.1, by rw [sI_nj (by decide)]; exact k2.2.2⟩
    have keepv : ¬ ((qst (qMiss E s) (qBar E s) (qRef E s)).1 = 0 ∧ qNone E s = true) → Gd X mX11_quarrels 172 [some (.ref m), none, none, none] [.ref m] t 0 0 P := fun hq => by
      refine bkX11_quarrels_172 F' (bkX11_quarrels_176 F' ?_)
      rw [← hP]
      refine ⟨k1.s (by omega), ?_⟩
      rw [quar_qst, if_neg hq, k2.1]
      exact e6 _
    refine bkX11_quarrels_156 F' (fun q => ?_) (fun q => ?_)
    · rw [k2.1] at q
      exact keepv (fun z => q (by rw [z.1]; rfl))
    · rw [k2.1] at q
      have hz : (qst (qMiss E s) (qBar E s) (qRef E s)).1 = 0 := qst_0.mpr ((nx0 _ _ _).mp q)
      refine bkX11_quarrels_164 (fun y => ?_) (fun y => ?_)
      · rw [k3, bI_0] at y
        exact keepv (fun z => y (by rw [z.2]; rfl))
      · rw [k3, bI_0] at y
        refine bkX11_quarrels_168 (bkX11_quarrels_176 F' ?_)
        rw [← hP]
        refine ⟨k1.s (by omega), ?_⟩
        rw [quar_qst, if_pos ⟨hz, by simpa using y⟩]
        have h3 := qst_0.mp hz
        have e7 := e6 4
        rw [h3.1, h3.2.1, h3.2.2] at e7
        exact e7
  -- the third loop
  have third : ∀ (t : SH) (x : Int32), qok m h t → QM t m (qst (qMiss E s) (qBar E s) none) → x = bI (!qNone E s) → Gd X mX11_quarrels 125 [some (.ref m), some (.int (nI e)), some (.int x), none] [] t 0 0 P := fun t x k1 k2 k3 => by
    refine bkX11_quarrels_125 ?_
    refine for_up (G := fun c t => Gd X mX11_quarrels 127 [some (.ref m), some (.int (nI e)), some (.int x), some (.int (nI c))] [] t 0 0 P)
      (I := fun c t => qok m h t ∧ QM t m (qst (qMiss E s) (qBar E s) ((List.range c).findSome? (fR E s)))) (eC E).length ?_ ?_ 0 t (Nat.zero_le _) ⟨k1, k2⟩
    · rintro t ⟨k1, k2⟩
      have K := kp t k1
      exact bkX11_quarrels_127 K.2.1 (vp_in_nI (by omega) (by omega)) (fun _ => fin t x k1 k2 k3) (fun q => absurd (by rw [nI_clamp (by omega), K.1.2.1]; exact (Int32.le_refl _)) q)
    · rintro c t hc ⟨k1, k2⟩ ih
      have K := kp t k1
      refine bkX11_quarrels_127 K.2.1 (vp_in_nI (by omega) (by omega)) (fun q => ?_) (fun _ => ?_)
      · rw [nI_clamp (by omega), K.1.2.1] at q; exact absurd q (nI_ge hc (by omega))
      refine bkX11_quarrels_137 K.2.1 (fun q => ?_) (fun q => ?_)
      · rw [k2.1, nx0] at q
        refine fin t x k1 ?_ k3
        have : qst (qMiss E s) (qBar E s) (qRef E s) = qst (qMiss E s) (qBar E s) ((List.range c).findSome? (fR E s)) := by
          cases hm : qMiss E s with
          | some _ => rfl
          | none => cases hb : qBar E s with
            | some _ => rfl
            | none =>
              cases hr : (List.range c).findSome? (fR E s) with
              | none => exact absurd ⟨hm, hb, hr⟩ q
              | some p =>
                have : qRef E s = some p := by
                  unfold qRef
                  have e : (eC E).length = c + ((eC E).length - c) := by omega
                  rw [e, List.range_add, List.findSome?_append]
                  show (List.findSome? (fR E s) (List.range c)).or _ = _
                  rw [hr]; rfl
                rw [this]
        rw [this]; exact k2
      · rw [k2.1, nx0] at q
        have q44 : hI t m 44 = 0 := by rw [k2.1, nx0]; exact q
        refine bkX11_quarrels_144 K.2.1 (c_refsOf K.2.1 K.1 ok he K.2.2 hc q44) (fun u hq => ?_)
        refine bkX11_quarrels_150 ?_
        rw [nI_1]
        have hfr : fR E s c = (ref1 E s c).map (fun b => (c, b)) := rfl
        cases hr : ref1 E s c with
        | none =>
          rw [hr] at hq hfr
          have : u = t := hq
          subst this
          refine ih u ⟨k1, ?_⟩
          rw [fs_succ, hfr, Option.map_none, Option.or_none]; exact k2
        | some b =>
          rw [hr] at hq hfr
          have : u = sI (sI (sI t m 44 3) m 45 (nI c)) m 46 (nI b) := hq
          subst this
          refine ih _ ⟨((k1.s (by omega)).s (by omega)).s (by omega), ?_⟩
          rw [fs_succ, hfr, q.1, q.2.1, q.2.2]
          exact ⟨by rw [sI_nj (by decide), sI_nj (by decide), sI_at]; rfl, by rw [sI_nj (by decide), sI_at]; rfl, by rw [sI_at]; rfl⟩
  have second : ∀ (t : SH) (x : Int32), qok m h t → QM t m (qst (qMiss E s) none none) → x = bI (!qNone E s) → Gd X mX11_quarrels 94 [some (.ref m), some (.int (nI e)), some (.int x), none] [] t 0 0 P := fun t x k1 k2 k3 => by
    refine bkX11_quarrels_94 ?_
    refine for_up (G := fun c t => Gd X mX11_quarrels 96 [some (.ref m), some (.int (nI e)), some (.int x), some (.int (nI c))] [] t 0 0 P)
      (I := fun c t => qok m h t ∧ QM t m (qst (qMiss E s) ((List.range c).findSome? (fB E s)) none)) (eC E).length ?_ ?_ 0 t (Nat.zero_le _) ⟨k1, k2⟩
    · rintro t ⟨k1, k2⟩
      have K := kp t k1
      exact bkX11_quarrels_96 K.2.1 (vp_in_nI (by omega) (by omega)) (fun _ => third t x k1 k2 k3) (fun q => absurd (by rw [nI_clamp (by omega), K.1.2.1]; exact (Int32.le_refl _)) q)
    · rintro c t hc ⟨k1, k2⟩ ih
      have K := kp t k1
      refine bkX11_quarrels_96 K.2.1 (vp_in_nI (by omega) (by omega)) (fun q => ?_) (fun _ => ?_)
      · rw [nI_clamp (by omega), K.1.2.1] at q; exact absurd q (nI_ge hc (by omega))
      refine bkX11_quarrels_106 K.2.1 (fun q => ?_) (fun q => ?_)
      · rw [k2.1, nx0] at q
        refine third t x k1 ?_ k3
        have : qst (qMiss E s) (qBar E s) none = qst (qMiss E s) ((List.range c).findSome? (fB E s)) none := by
          cases hm : qMiss E s with
          | some _ => rfl
          | none =>
            cases hr : (List.range c).findSome? (fB E s) with
            | none => exact absurd ⟨hm, hr, rfl⟩ q
            | some p =>
              have : qBar E s = some p := by
                unfold qBar
                have e : (eC E).length = c + ((eC E).length - c) := by omega
                rw [e, List.range_add, List.findSome?_append]
                show (List.findSome? (fB E s) (List.range c)).or _ = _
                rw [hr]; rfl
              rw [this]
        rw [this]; exact k2
      · rw [k2.1, nx0] at q
        have q44 : hI t m 44 = 0 := by rw [k2.1, nx0]; exact q
        refine bkX11_quarrels_113 K.2.1 (c_barsOf K.2.1 K.1 ok he K.2.2 hc q44) (fun u hq => ?_)
        refine bkX11_quarrels_119 ?_
        rw [nI_1]
        have hfr : fB E s c = (bar1 E s c).map (fun b => (c, b)) := rfl
        cases hr : bar1 E s c with
        | none =>
          rw [hr] at hq hfr
          have : u = t := hq
          subst this
          refine ih u ⟨k1, ?_⟩
          rw [fs_succ, hfr, Option.map_none, Option.or_none]; exact k2
        | some b =>
          rw [hr] at hq hfr
          have : u = sI (sI (sI t m 44 2) m 45 (nI c)) m 46 (nI b) := hq
          subst this
          refine ih _ ⟨((k1.s (by omega)).s (by omega)).s (by omega), ?_⟩
          rw [fs_succ, hfr, q.1, q.2.1]
          exact ⟨by rw [sI_nj (by decide), sI_nj (by decide), sI_at]; rfl, by rw [sI_nj (by decide), sI_at]; rfl, by rw [sI_at]; rfl⟩
  refine for_up (G := fun c t => ∀ x : Int32, x = bI (!(List.range c).all (fun c => !s c)) → Gd X mX11_quarrels 19 [some (.ref m), some (.int (nI e)), some (.int x), some (.int (nI c))] [] t 0 0 P)
    (I := fun c t => qok m h t ∧ QM t m (qst ((List.range c).findSome? (fM E s)) none none)) (eC E).length ?_ ?_ 0 _ (Nat.zero_le _) ⟨((qok.rf.s (by omega)).s (by omega)).s (by omega), ⟨by rw [sI_nj (by decide), sI_nj (by decide), sI_at]; rfl, by rw [sI_nj (by decide), sI_at]; rfl, by rw [sI_at]; rfl⟩⟩ 0 rfl
  · rintro t ⟨k1, k2⟩ x hx
    have K := kp t k1
    exact bkX11_quarrels_19 K.2.1 (vp_in_nI (by omega) (by omega)) (fun _ => second t x k1 k2 hx) (fun q => absurd (by rw [nI_clamp (by omega), K.1.2.1]; exact (Int32.le_refl _)) q)
  · rintro c t hc ⟨k1, k2⟩ ih x hx
    have K := kp t k1
    have C := K.1.2.2.2 c hc
    refine bkX11_quarrels_19 K.2.1 (vp_in_nI (by omega) (by omega)) (fun q => ?_) (fun _ => ?_)
    · rw [nI_clamp (by omega), K.1.2.1] at q; exact absurd q (nI_ge hc (by omega))
    have all1 : (List.range (c + 1)).all (fun c => !s c) = ((List.range c).all (fun c => !s c) && !s c) := by rw [List.range_succ, List.all_append]; simp
    have nx : ∀ (u : SH) (x : Int32), qok m h u → QM u m (qst ((List.range (c + 1)).findSome? (fM E s)) none none) → x = bI (!(List.range (c + 1)).all (fun c => !s c)) → Gd X mX11_quarrels 88 [some (.ref m), some (.int (nI e)), some (.int x), some (.int (nI c))] [] u 0 0 P := fun u x k1 k2 k3 => by
      refine bkX11_quarrels_88 ?_
      rw [nI_1]
      exact ih u ⟨k1, k2⟩ x k3
    have mid : ∀ x : Int32, x = bI (!(List.range (c + 1)).all (fun c => !s c)) → Gd X mX11_quarrels 47 [some (.ref m), some (.int (nI e)), none, some (.int (nI c))] [.int x] t 0 0 P := fun x hx => by
      refine bkX11_quarrels_47 K.2.1 (fun q => ?_) (fun q => ?_)
      · rw [k2.1, nx0] at q
        refine nx t x k1 ?_ hx
        rw [fs_succ]
        cases hr : (List.range c).findSome? (fM E s) with
        | none => exact absurd ⟨hr, rfl, rfl⟩ q
        | some p => rw [hr] at k2; exact k2
      · rw [k2.1, nx0] at q
        have same : fM E s c = none → QM t m (qst ((List.range (c + 1)).findSome? (fM E s)) none none) := fun hx => by rw [fs_succ, hx, Option.or_none]; exact k2
        refine bkX11_quarrels_55 K.2.1 (by rw [ix12]; exact (vp_in_nI (by omega) (by omega))) (fun z => ?_) (fun z => ?_)
        · rw [ix12, nI_clamp (by omega), C.2.1, bI_0] at z
          exact nx t x k1 (same (by unfold fM; rw [z]; rfl)) hx
        · rw [ix12, nI_clamp (by omega), C.2.1, bI_0] at z
          have hmu : cMust (cl E c) = true := by simpa using z
          refine bkX11_quarrels_69 K.2.1 (vp_in_nI (by omega) (by omega)) (fun y => ?_) (fun y => ?_)
          · rw [nI_clamp (by omega), K.2.2 c hc, bI_0] at y
            have : s c = true := by simpa using y
            exact nx t x k1 (same (by unfold fM; rw [this]; simp)) hx
          · rw [nI_clamp (by omega), K.2.2 c hc, bI_0] at y
            refine bkX11_quarrels_78 K.2.1 (nx _ x ((k1.s (by omega)).s (by omega)) ?_ hx)
            have e1 : fM E s c = some c := by unfold fM; rw [hmu, y]; rfl
            have q46 := k2.2.2
            rw [fs_succ, e1, q.1]
            rw [q.1] at q46
            exact ⟨by rw [sI_nj (by decide), sI_at]; rfl, by rw [sI_at]; rfl, by rw [sI_nj (by decide), sI_nj (by decide), q46]; rfl⟩
    have one : s c = true ∨ (List.range c).all (fun c => !s c) = false → Gd X mX11_quarrels 42 [some (.ref m), some (.int (nI e)), none, some (.int (nI c))] [] t 0 0 P := fun hq => by
      refine bkX11_quarrels_42 (mid 1 ?_)
      rw [all1]
      rcases hq with q | q <;> rw [q] <;> simp [bI]
    refine bkX11_quarrels_29 (fun q => ?_) (fun q => ?_)
    · rw [hx, bI_0] at q
      exact one (Or.inr (by simpa using q))
    · rw [hx, bI_0] at q
      refine bkX11_quarrels_33 K.2.1 (vp_in_nI (by omega) (by omega)) (fun z => ?_) (fun z => ?_)
      · rw [nI_clamp (by omega), K.2.2 c hc, bI_0] at z
        refine bkX11_quarrels_46 (mid 0 ?_)
        rw [all1, z]
        have : (List.range c).all (fun c => !s c) = true := by simpa using q
        rw [this]; rfl
      · rw [nI_clamp (by omega), K.2.2 c hc, bI_0] at z
        exact one (Or.inl (by simpa using z))
end MG
