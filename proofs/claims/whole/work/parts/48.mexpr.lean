/-! ===== the model reads: names, formulas ===== -/
theorem nd_inj {L : List (List Nat)} (hn : L.Nodup) {i j : Nat} (hi : i < L.length) (hj : j < L.length) (e : L[i] = L[j]) : i = j := by
  rcases Nat.lt_trichotomy i j with q | q | q
  · exact absurd e (List.pairwise_iff_getElem.mp hn i j hi hj q)
  · exact q
  · exact absurd e.symm (List.pairwise_iff_getElem.mp hn j i hj hi q)
/-- facts that could be told -/
def okFs (F : List Fct) : Prop := F.length ≤ 8 ∧ (∀ f ∈ F, okW f.1 ∧ f.2.1 ≤ f.2.2 ∧ f.2.2 ≤ 99) ∧ (F.map (·.1)).Nodup ∧ wl F ≤ 2000
theorem fdx_iff {F : List Fct} {w : List Nat} {k : Nat} (hn : (F.map (·.1)).Nodup) (hk : k < F.length) : F[k].1 = w ↔ fdx F w = k := by
  have hk2 : k < (F.map (·.1)).length := by rw [List.length_map]; exact hk
  have e1 : (F.map (·.1))[k] = F[k].1 := List.getElem_map _
  constructor
  · intro e
    have hm : w ∈ F.map (·.1) := by rw [← e, ← e1]; exact List.getElem_mem hk2
    have hl : (F.map (·.1)).idxOf w < (F.map (·.1)).length := List.idxOf_lt_length_iff.mpr hm
    show (F.map (·.1)).idxOf w = k
    exact nd_inj hn hl hk2 (by rw [List.getElem_idxOf hl, e1, e])
  · intro e
    have hl : (F.map (·.1)).idxOf w < (F.map (·.1)).length := by unfold fdx at e; omega
    have := List.getElem_idxOf hl
    unfold fdx at e
    simp only [e] at this
    rw [← e1]; exact this
theorem fdx_le (F : List Fct) (w : List Nat) : fdx F w ≤ F.length := by
  have : (F.map (·.1)).idxOf w ≤ (F.map (·.1)).length := List.idxOf_le_length
  rw [List.length_map] at this; exact this
/-- the facts of the draft in the model's rows -/
def FM (h : SH) (F : List Fct) : Prop := hI h 42 6 = nI F.length ∧ ∀ (k : Nat) (hk : k < F.length), hJ h 43 (48 + k) = enc37 F[k].1 ∧ hI h 44 (48 + k) = nI F[k].2.1 ∧ hI h 45 (48 + k) = nI F[k].2.2
theorem FM.cf {S : Nat → Nat → Prop} {h t : SH} {F : List Fct} (M : FM h F) (c : cf S h t) (h1 : ∀ b j, S b j → b ≠ 42 ∧ b ≠ 43 ∧ b ≠ 44 ∧ b ≠ 45) : FM t F := by
  refine ⟨by rw [(c.2 42 6 (fun z => (h1 _ _ z).1 rfl)).1]; exact M.1, fun k hk => ?_⟩
  rw [(c.2 43 _ (fun z => (h1 _ _ z).2.1 rfl)).2, (c.2 44 _ (fun z => (h1 _ _ z).2.2.1 rfl)).1, (c.2 45 _ (fun z => (h1 _ _ z).2.2.2 rfl)).1]
  exact M.2 k hk
/-- the model's number of a clause's name -/
def mt (T : List Tk) (w : List Nat) (j : Nat) : Bool := decide (kd T j = 2 ∧ kd T (j + 1) ≤ 11 ∧ wd T (j + 1) = w)
def cnt2 (T : List Tk) (j : Nat) : Nat := ((List.range j).filter (fun q => decide (kd T q = 2))).length
def gM (T : List Tk) (w : List Nat) : Nat := match (List.range T.length).find? (mt T w) with
  | some j => cnt2 T j
  | none => 0
theorem cnt2_s (T : List Tk) (j : Nat) : cnt2 T (j + 1) = cnt2 T j + (if kd T j = 2 then 1 else 0) := by
  unfold cnt2
  rw [List.range_succ, List.filter_append, List.length_append]
  by_cases q : kd T j = 2 <;> simp [q]
theorem cnt2_le (T : List Tk) (j : Nat) : cnt2 T j ≤ j := by
  unfold cnt2
  exact Nat.le_trans (List.length_filter_le _ _) (by rw [List.length_range]; exact Nat.le_refl _)
theorem isT_iff {T : List Tk} {w : List Nat} : isT T w = true ↔ ∃ j, j < T.length ∧ mt T w j = true := by
  unfold isT tld
  rw [List.contains_iff_mem, List.mem_map]
  constructor
  · rintro ⟨j, hj, e⟩
    rw [List.mem_filter, List.mem_range] at hj
    exact ⟨j, hj.1, by unfold mt; have := hj.2; rw [decide_eq_true_iff] at this ⊢; exact ⟨this.1, this.2, e⟩⟩
  · rintro ⟨j, hj, e⟩
    unfold mt at e
    rw [decide_eq_true_iff] at e
    exact ⟨j, by rw [List.mem_filter, List.mem_range]; exact ⟨hj, by rw [decide_eq_true_iff]; exact ⟨e.1, e.2.1⟩⟩, e.2.2⟩
theorem find_none {p : Nat → Bool} {n : Nat} (h : ∀ j, j < n → p j = false) : (List.range n).find? p = none := by
  rw [List.find?_eq_none]
  intro x hx
  rw [h x (List.mem_range.mp hx)]; decide
theorem find_some {p : Nat → Bool} {n j : Nat} (hj : j < n) (h : ∀ q, q < j → p q = false) (hp : p j = true) : (List.range n).find? p = some j := by
  rw [List.find?_range_eq_some]
  exact ⟨hp, by simpa using hj, fun q hq => by rw [h q hq]; rfl⟩
section ME
variable {X : GX} {h : SH} {T : List Tk} {i f : Nat} {F : List Fct}
theorem c_findFact {w : List Nat} (L : LX11 (Sk h) 35) (M : FM h F) (ok : okFs F) (hw : okW w) : Cd X mX11_findFact [.ref 35, .long (enc37 w)] h 0 0 (oI (fun r t => r = (if fdx F w < F.length then nI (fdx F w) else -1) ∧ t = h) nX) := by
  have h8 := ok.1
  generalize hP : oI (fun r t => r = (if fdx F w < F.length then nI (fdx F w) else -1) ∧ t = h) nX = P
  refine bkX11_findFact_0 ?_
  refine for_up (G := fun k t => Gd X mX11_findFact 5 [some (.ref 35), some (.long (enc37 w)), none, some (.int (if fdx F w < k then nI (fdx F w) else -1)), some (.int (nI k))] [] t 0 0 P) (I := fun _ t => t = h) F.length ?_ ?_ 0 h (Nat.zero_le _) rfl
  · rintro t rfl
    exact bkX11_findFact_5 L in67 (fun _ => bkX11_findFact_45 (by rw [← hP]; exact ⟨rfl, rfl⟩)) (fun z => absurd (by show hI t 42 6 ≤ _; rw [M.1]; exact (Int32.le_refl _)) z)
  · rintro k t hk rfl ih
    have nx := ih _ rfl
    have r1 := M.2 k hk
    refine bkX11_findFact_5 L in67 (fun z => ?_) (fun _ => ?_)
    · have e : hI t (35 + 7) ((6 : Int32).toNatClampNeg) = nI F.length := M.1
      rw [e, nI_leI (by omega) (by omega)] at z; omega
    have e48 : (48 : Int32) + nI k = nI (48 + k) := nI_add 48 k
    have hwk : okW F[k].1 := (ok.2.1 _ (List.getElem_mem hk)).1
    have e1 : hJ t (35 + 8) ((48 : Int32) + nI k).toNatClampNeg = enc37 F[k].1 := by rw [e48, nI_clamp (by omega)]; exact r1.1
    refine bkX11_findFact_17 L (by rw [e48]; exact (vp_in_nI (by omega) (by omega))) (fun z => ?_) (fun z => ?_)
    · rw [e1, lg_cmp_eq, enc37_inj hwk hw, fdx_iff ok.2.2.1 hk] at z
      refine bkX11_findFact_37 (bkX11_findFact_38 ?_)
      rw [nI_1]
      have e : (if fdx F w < k + 1 then nI (fdx F w) else -1) = (if fdx F w < k then nI (fdx F w) else -1) := by
        by_cases q : fdx F w < k
        · rw [if_pos q, if_pos (by omega)]
        · rw [if_neg q, if_neg (by omega)]
      rw [e] at nx; exact nx
    · rw [e1, lg_cmp_eq, enc37_inj hwk hw, fdx_iff ok.2.2.1 hk] at z
      refine bkX11_findFact_32 (bkX11_findFact_38 ?_)
      rw [nI_1]
      rw [if_pos (by omega), z] at nx; exact nx
theorem c_findClause {w : List Nat} (M : MR h T i) (hT : okT T) (hw : okW w) : Cd X mX11_findClause [.ref 35, .long (enc37 w)] h 0 0 (oI (fun r t => r = (if isT T w = true then nI (gM T w) else -1) ∧ t = h) nX) := by
  have hl := hT.2.1
  have hl1 := hT.1
  refine bkX11_findClause_0 ?_
  have key : ∀ n j, T.length - 1 - j = n → j < T.length → (∀ q, q < j → mt T w q = false) → Gd X mX11_findClause 5 [some (.ref 35), some (.long (enc37 w)), none, some (.int (nI (cnt2 T j))), some (.int (nI j))] [] h 0 0 (oI (fun r t => r = (if isT T w = true then nI (gM T w) else -1) ∧ t = h) nX) := by
    intro n
    induction n with
    | zero =>
      intro j hn hj hq
      have e : j + 1 = T.length := by omega
      have k14 : kd T j = 14 := (hT.2.2.1 j hj).mpr e
      have r := (M.2.1 j hj).1
      refine bkX11_findClause_5 M.1 (vp_in_nI (by omega) (by omega)) (fun _ => bkX11_findClause_81 ⟨?_, rfl⟩) (fun z => absurd ?_ z)
      · have : isT T w = false := by
          rw [← Bool.not_eq_true, isT_iff]
          rintro ⟨q, h1, h2⟩
          by_cases y : q < j
          · rw [hq q y] at h2; cases h2
          · have e2 : q = j := by omega
            subst e2
            unfold mt at h2
            rw [decide_eq_true_iff, k14] at h2
            exact absurd h2.1 (by decide)
        rw [this]; rfl
      · rw [nI_clamp (by omega)]; show hI h 37 j = 0
        rw [r, k14]; rfl
    | succ n ih =>
      intro j hn hj hq
      have hj1 : j + 1 < T.length := by omega
      have hc := cnt2_le T j
      have kn : kd T j ≠ 14 := fun z => by have := (hT.2.2.1 j hj).mp z; omega
      have r := M.2.1 j hj
      have r1 := M.2.1 (j + 1) hj1
      have hsl := srt_le (kd T j)
      have hsl1 := srt_le (kd T (j + 1))
      have eS : hI h (35 + 2) (nI j).toNatClampNeg = nI (srt (kd T j)) := by rw [nI_clamp (by omega)]; exact r.1
      have nxt : mt T w j = false → ∀ y, y = nI (cnt2 T (j + 1)) → Gd X mX11_findClause 75 [some (.ref 35), some (.long (enc37 w)), none, some (.int y), some (.int (nI j))] [] h 0 0 (oI (fun r t => r = (if isT T w = true then nI (gM T w) else -1) ∧ t = h) nX) := fun hm y hy => by
        refine bkX11_findClause_75 ?_
        rw [nI_1, hy]
        refine ih (j + 1) (by omega) hj1 (fun q hq2 => ?_)
        by_cases z : q = j
        · rw [z]; exact hm
        · exact hq q (by omega)
      have not2 : kd T j ≠ 2 → Gd X mX11_findClause 75 [some (.ref 35), some (.long (enc37 w)), none, some (.int (nI (cnt2 T j))), some (.int (nI j))] [] h 0 0 (oI (fun r t => r = (if isT T w = true then nI (gM T w) else -1) ∧ t = h) nX) := fun z =>
        nxt (by unfold mt; rw [decide_eq_false (fun y => z y.1)]) _ (by rw [cnt2_s, if_neg z]; rfl)
      refine bkX11_findClause_5 M.1 (vp_in_nI (by omega) (by omega)) (fun z => ?_) (fun _ => ?_)
      · rw [eS, n0, nI_eq (by omega) (by omega), srt_0] at z; exact absurd z kn
      refine bkX11_findClause_15 M.1 (vp_in_nI (by omega) (by omega)) (fun z => ?_) (fun z => ?_)
      · rw [eS, n1, nI_eq (by omega) (by omega), srt_1] at z; exact not2 (by omega)
      rw [eS, n1, nI_eq (by omega) (by omega), srt_1] at z
      have e40 : hJ h (35 + 5) ((2 : Int32).toNatClampNeg) = enc37 (rw1 2) := M.2.2.1 2 (by decide)
      have eV : hJ h (35 + 4) (nI j).toNatClampNeg = hJ h 39 j := by rw [nI_clamp (by omega)]
      refine bkX11_findClause_26 M.1 (vp_in_nI (by omega) (by omega)) in211 (fun y => ?_) (fun y => ?_)
      · rw [lg_cmp_eq, eV, e40, r.2.2.w hT hj z (by decide)] at y; exact not2 y
      rw [lg_cmp_eq, eV, e40, r.2.2.w hT hj z (by decide)] at y
      have go : mt T w j = false → Gd X mX11_findClause 72 [some (.ref 35), some (.long (enc37 w)), none, some (.int (nI (cnt2 T j))), some (.int (nI j))] [] h 0 0 (oI (fun r t => r = (if isT T w = true then nI (gM T w) else -1) ∧ t = h) nX) := fun hm =>
        bkX11_findClause_72 (nxt hm _ (by rw [cnt2_s, if_pos y, nI_1]))
      have eS1 : hI h (35 + 2) (nI j + 1).toNatClampNeg = nI (srt (kd T (j + 1))) := by rw [nI_1, nI_clamp (by omega)]; exact r1.1
      have eV1 : hJ h (35 + 4) (nI j + 1).toNatClampNeg = hJ h 39 (j + 1) := by rw [nI_1, nI_clamp (by omega)]
      refine bkX11_findClause_43 M.1 (by rw [nI_1]; exact (vp_in_nI (by omega) (by omega))) (fun x => ?_) (fun x => ?_)
      · rw [eS1, n1, nI_eq (by omega) (by omega), srt_1] at x
        exact go (by unfold mt; rw [decide_eq_false (fun y => x y.2.1)])
      rw [eS1, n1, nI_eq (by omega) (by omega), srt_1] at x
      refine bkX11_findClause_56 M.1 (by rw [nI_1]; exact (vp_in_nI (by omega) (by omega))) (fun u => ?_) (fun u => ?_)
      · rw [lg_cmp_eq, eV1, r1.2.2.a x, enc37_inj (hT.w hj1 x).1 hw] at u
        exact go (by unfold mt; rw [decide_eq_false (fun y => u y.2.2)])
      rw [lg_cmp_eq, eV1, r1.2.2.a x, enc37_inj (hT.w hj1 x).1 hw] at u
      have hm : mt T w j = true := by unfold mt; rw [decide_eq_true ⟨y, x, u⟩]
      refine bkX11_findClause_70 ⟨?_, rfl⟩
      rw [if_pos (isT_iff.mpr ⟨j, hj, hm⟩)]
      unfold gM
      rw [find_some hj hq hm]
  exact key _ 0 rfl (by omega) (fun q hq => absurd hq (Nat.not_lt_zero _))
theorem c_takeClause (M : MR h T i) (hT : okT T) (hk : kd T i = 11) (ht : isT T (wd T i) = true) : Cd X mX11_takeClause [.ref 35] h 0 0 (oI (fun r t => r = nI (gM T (wd T i)) ∧ t = sI h 35 7 (nI (i + 1))) nX) := by
  obtain ⟨s1, s2, s3, s4⟩ := M.s hT
  have hw := hT.w M.2.2.2.2.2 (by omega)
  have gb : gM T (wd T i) < 2 ^ 31 := by
    have := hT.2.1
    unfold gM
    split
    · rename_i j hj
      have hm := List.mem_of_find?_eq_some hj
      rw [List.mem_range] at hm
      have := cnt2_le T j
      omega
    · decide
  refine bkX11_takeClause_0 M.1 (c_isName M hT) (fun r t q => ?_)
  obtain ⟨rfl, rfl⟩ := q
  rw [decide_eq_true hk]
  refine bkX11_takeClause_4 (fun z => absurd z (by decide)) (fun _ => ?_)
  refine bkX11_takeClause_7 M.1 s1 (by rw [s3.a (by omega)]; exact c_findClause M hT hw.1) (fun r t q => ?_)
  obtain ⟨rfl, rfl⟩ := q
  rw [if_pos ht]
  refine bkX11_takeClause_20 (bkX11_takeClause_24 M.1 (c_isName M hT) (fun r t q => ?_))
  obtain ⟨rfl, rfl⟩ := q
  rw [decide_eq_true hk]
  refine bkX11_takeClause_29 (fun _ => ?_) (fun z => absurd z (by decide))
  refine bkX11_takeClause_40 (fun _ => ?_) (fun z => absurd (nI_pos' gb) z)
  refine bkX11_takeClause_49 M.1 (fun z => absurd M.2.2.2.1 z) (fun _ => bkX11_takeClause_61 (bkX11_takeClause_66 M.1 ⟨rfl, ?_⟩))
  rw [M.2.2.2.2.1, nI_1]
theorem x_takeClause {k : Nat} (M : MR h T i) (hT : okT T) (hk : (kd T i ≠ 11 ∧ k = 1) ∨ (kd T i = 11 ∧ isT T (wd T i) = false ∧ k = 2)) : Cd X mX11_takeClause [.ref 35] h 0 0 (oI (fun _ t => t = sI (sI h 35 8 (nI (flt T k i))) 35 7 (nI i)) nX) := by
  obtain ⟨s1, s2, s3, s4⟩ := M.s hT
  have fin : ∀ x : Int32, Gd X mX11_takeClause 49 [some (.ref 35), some (.int x)] [] (sI h 35 8 (nI (flt T k i))) 0 0 (oI (fun _ t => t = sI (sI h 35 8 (nI (flt T k i))) 35 7 (nI i)) nX) := fun x => by
    have hb := flt_b (k := k) hT M.2.2.2.2.2 (by omega)
    refine bkX11_takeClause_49 M.1 (fun _ => bkX11_takeClause_65 (bkX11_takeClause_66 M.1 ?_)) (fun z => ?_)
    · show sI _ 35 7 _ = _
      rw [sI_nj (by decide), M.2.2.2.2.1, n0, nI_add]; rfl
    · rw [sI_at, n0, nI_eq (by omega) (by omega)] at z; omega
  rcases hk with ⟨k1, rfl⟩ | ⟨k1, k2, rfl⟩
  · refine bkX11_takeClause_0 M.1 (c_isName M hT) (fun r t q => ?_)
    obtain ⟨rfl, rfl⟩ := q
    rw [decide_eq_false k1]
    refine bkX11_takeClause_4 (fun _ => ?_) (fun z => absurd rfl z)
    refine bkX11_takeClause_23 (bkX11_takeClause_24 M.1 (c_isName M hT) (fun r t q => ?_))
    obtain ⟨rfl, rfl⟩ := q
    rw [decide_eq_false k1]
    refine bkX11_takeClause_29 (fun z => absurd rfl z) (fun _ => ?_)
    refine bkX11_takeClause_32 M.1 (c_wrong (k := 1) M hT) (fun u q => bkX11_takeClause_37 ?_)
    rw [q]; exact fin _
  · have hw := hT.w M.2.2.2.2.2 (by omega)
    refine bkX11_takeClause_0 M.1 (c_isName M hT) (fun r t q => ?_)
    obtain ⟨rfl, rfl⟩ := q
    rw [decide_eq_true k1]
    refine bkX11_takeClause_4 (fun z => absurd z (by decide)) (fun _ => ?_)
    refine bkX11_takeClause_7 M.1 s1 (by rw [s3.a (by omega)]; exact c_findClause M hT hw.1) (fun r t q => ?_)
    obtain ⟨rfl, rfl⟩ := q
    rw [if_neg (by rw [k2]; decide)]
    refine bkX11_takeClause_20 (bkX11_takeClause_24 M.1 (c_isName M hT) (fun r t q => ?_))
    obtain ⟨rfl, rfl⟩ := q
    rw [decide_eq_true k1]
    refine bkX11_takeClause_29 (fun _ => ?_) (fun z => absurd z (by decide))
    refine bkX11_takeClause_40 (fun z => absurd z (by decide)) (fun _ => ?_)
    refine bkX11_takeClause_44 M.1 (c_wrong (k := 2) M hT) (fun u q => ?_)
    rw [q]; exact fin _
/-! formulas -/
abbrev wE (k0 b j : Nat) : Prop := (b = 35 ∧ (j = 7 ∨ j = 8 ∨ j = 30 ∨ j = 31)) ∨ b = 60 ∨ b = 61 ∨ ((b = 58 ∨ b = 59) ∧ 15600 + k0 ≤ j)
def em (h : SH) (k : Nat) (c a : Int32) : SH := sI (sI (sI h 58 (15600 + k) c) 59 (15600 + k) a) 35 30 (nI (k + 1))
theorem c_emit {k : Nat} {c a : Int32} (L : LX11 (Sk h) 35) (h30 : hI h 35 30 = nI k) (hk : k < 2600) : Cd X mX11_emit [.ref 35, .int c, .int a] h 0 0 (oV (fun t => t = em h k c a) nX) := by
  have e0 : (15600 : Int32) + nI k = nI (15600 + k) := nI_add 15600 k
  have e1 : ∀ (b j : Nat) (v : Int32), b ≠ 35 → hI (sI h b j v) 35 30 = nI k := fun b j v hb => by rw [sI_ne (fun z => hb z.1.symm)]; exact h30
  refine bkX11_emit_0 L (by rw [h30, e0]; exact (vp_in_nI (by omega) (by omega))) (by rw [e1 _ _ _ (by decide), e0]; exact (vp_in_nI (by omega) (by omega))) (bkX11_emit_38 ?_)
  show _ = em h k c a
  unfold em
  have e2 : hI (sI (sI h (35 + 23) (15600 + k) c) (35 + 24) (15600 + k) a) 35 30 = nI k := by rw [sI_ne (by omega), sI_ne (by omega)]; exact h30
  rw [h30, e0, nI_clamp (by omega), e1 _ _ _ (by decide), e0, nI_clamp (by omega), e2, nI_1]
def CD (h : SH) (k0 : Nat) (cd : Fml) : Prop := hI h 35 30 = nI (k0 + cd.length) ∧ ∀ (q : Nat) (hq : q < cd.length), hI h 58 (15600 + k0 + q) = nI cd[q].1 ∧ hI h 59 (15600 + k0 + q) = nI cd[q].2
theorem CD.pu {k0 c a : Nat} {cd : Fml} (K : CD h k0 cd) : CD (em h (k0 + cd.length) (nI c) (nI a)) k0 (cd ++ [(c, a)]) := by
  unfold em
  refine ⟨by rw [sI_at, List.length_append]; rfl, fun q hq => ?_⟩
  rw [List.length_append] at hq
  by_cases z : q < cd.length
  · rw [List.getElem_append_left z, sI_ne (by omega), sI_ne (by omega), sI_ne (by omega), sI_ne (by omega), sI_ne (by omega), sI_ne (by omega)]
    exact K.2 q z
  · have e : q = cd.length := by simp at hq; omega
    subst e
    rw [List.getElem_append_right (Nat.le_refl _)]
    simp only [Nat.sub_self, List.getElem_singleton]
    rw [sI_ne (by omega), sI_ne (by omega), Nat.add_assoc, sI_at, sI_ne (by omega), sI_at]
    exact ⟨rfl, rfl⟩
theorem CD.cg {t : SH} {k0 : Nat} {cd : Fml} (K : CD h k0 cd) (h1 : hI t 35 30 = hI h 35 30) (h2 : hI t 58 = hI h 58) (h3 : hI t 59 = hI h 59) : CD t k0 cd := by
  unfold CD; rw [h1, h2, h3]; exact K
def LV (h : SH) : List (Nat × Nat) → Prop
  | [] => True
  | p :: u => (hI h 60 u.length = nI p.1 ∧ hI h 61 u.length = nI p.2) ∧ LV h u
theorem LV.cg {h t : SH} : ∀ {u : List (Nat × Nat)}, LV h u → (∀ d, d < u.length → hI t 60 d = hI h 60 d ∧ hI t 61 d = hI h 61 d) → LV t u
  | [], _, _ => trivial
  | p :: u, K, e => ⟨by
      rw [(e u.length (by simp)).1, (e u.length (by simp)).2]; exact K.1, K.2.cg (fun d hd => e d (by simp; omega))⟩
theorem c_opens {d : Nat} (L : LX11 (Sk h) 35) (h31 : hI h 35 31 = nI d) (hd : d < 7) : Cd X mX11_opens [.ref 35] h 0 0 (oV (fun t => t = sI (sI h 60 d 0) 61 d 0) nX) := by
  have e1 : hI (sI h (35 + 25) (hI h 35 31).toNatClampNeg 0) 35 31 = nI d := by rw [sI_ne (fun z => absurd z.1 (by decide))]; exact h31
  refine bkX11_opens_0 L (by rw [h31]; exact (vp_in_nI (by omega) (by omega))) (by rw [e1]; exact (vp_in_nI (by omega) (by omega))) ?_
  show _ = _
  rw [e1, h31, nI_clamp (by omega)]
/-- a formula under way -/
def EM (h0 h : SH) (T : List Tk) (k0 : Nat) (s : StE) : Prop := cf (wE k0) h0 h ∧ MR h T s.2.2.2 ∧ hI h 35 31 = nI (s.2.1.length - 1) ∧ LV h s.2.1 ∧ CD h k0 s.2.2.1
theorem em_I {k b j : Nat} {c a : Int32} (h1 : ¬ (b = 58 ∧ j = 15600 + k)) (h2 : ¬ (b = 59 ∧ j = 15600 + k)) (h3 : ¬ (b = 35 ∧ j = 30)) : hI (em h k c a) b j = hI h b j := by
  unfold em; rw [sI_ne h3, sI_ne h2, sI_ne h1]
theorem em_cf {h0 : SH} {k0 k : Nat} {c a : Int32} (C : cf (wE k0) h0 h) (hk : k0 ≤ k) : cf (wE k0) h0 (em h k c a) := ((C.s (by unfold wE; omega)).s (by unfold wE; omega)).s (by unfold wE; omega)
theorem em_MR {k : Nat} {c a : Int32} (M : MR h T i) : MR (em h k c a) T i :=
  M.cf (S := fun b j => b = 58 ∨ b = 59 ∨ (b = 35 ∧ j = 30)) (((cf.rf.s (Or.inl rfl)).s (Or.inr (Or.inl rfl))).s (Or.inr (Or.inr ⟨rfl, rfl⟩))) (fun b j z => by omega)
theorem em_LV {k : Nat} {c a : Int32} {u : List (Nat × Nat)} (M : LV h u) : LV (em h k c a) u := M.cg (fun d _ => ⟨em_I (by omega) (by omega) (by omega), em_I (by omega) (by omega) (by omega)⟩)
theorem wE_FM {t : SH} {k0 : Nat} (M : FM h F) (c : cf (wE k0) h t) : FM t F := M.cf c (fun b j z => by unfold wE at z; omega)
/-- a part: a bracket, or a value behind which what waits is still to come; or a fault -/
theorem c_part {h0 : SH} {k0 i0 j c : Nat} {u : List (Nat × Nat)} {cd : Fml} (E : EM h0 h T k0 (0, (j, c) :: u, cd, i)) (hT : okT T) (I : invE T F i0 (0, (j, c) :: u, cd, i)) (hk0 : k0 ≤ i0) (M : FM h F) (ok : okFs F) :
    Cd X mX11_part [.ref 35] h 0 0 (oI (fun r t => (r = 1 ∧ kd T i = 40 ∧ stE T F (0, (j, c) :: u, cd, i) = .inl (0, (0, 0) :: (j, c) :: u, cd, i + 1) ∧ EM h0 t T k0 (0, (0, 0) :: (j, c) :: u, cd, i + 1)) ∨
      (r = 0 ∧ stE T F (0, (j, c) :: u, cd, i) = .inl (1, (0, c) :: u, cd ++ vcode T F i :: opt j, i + 1) ∧ EM h0 t T k0 (1, (j, c) :: u, cd ++ [vcode T F i], i + 1)) ∨
      (r = 0 ∧ ∃ f, stE T F (0, (j, c) :: u, cd, i) = .inr (.error f) ∧ MB t f ∧ cf (wE k0) h0 t ∧ ∃ k, hI t 35 30 = nI k ∧ k0 ≤ k ∧ k < 2600)) nX) := by
  generalize hP : (fun (r : Int32) (t : SH) => (r = 1 ∧ kd T i = 40 ∧ stE T F (0, (j, c) :: u, cd, i) = .inl (0, (0, 0) :: (j, c) :: u, cd, i + 1) ∧ EM h0 t T k0 (0, (0, 0) :: (j, c) :: u, cd, i + 1)) ∨
      (r = 0 ∧ stE T F (0, (j, c) :: u, cd, i) = .inl (1, (0, c) :: u, cd ++ vcode T F i :: opt j, i + 1) ∧ EM h0 t T k0 (1, (j, c) :: u, cd ++ [vcode T F i], i + 1)) ∨
      (r = 0 ∧ ∃ f, stE T F (0, (j, c) :: u, cd, i) = .inr (.error f) ∧ MB t f ∧ cf (wE k0) h0 t ∧ ∃ k, hI t 35 30 = nI k ∧ k0 ≤ k ∧ k < 2600)) = P
  obtain ⟨E1, E2, E3, E4, E5⟩ := E
  simp only at E2 E3 E4 E5
  obtain ⟨s1, s2, s3, s4⟩ := E2.s hT
  have hil := E2.2.2.2.2.2
  have hl := hT.2.1
  have hu6 : u.length + 1 ≤ 6 := I.2.2.2.2.2.2.2.1
  have hcd : cd.length + pnd ((j, c) :: u) + i0 ≤ i := I.2.2.1
  have e31 : hI h 35 31 = nI u.length := E3
  have hsl := srt_le (kd T i)
  -- a fault
  have bad : ∀ k, 1 ≤ k → k ≤ 5 → stE T F (0, (j, c) :: u, cd, i) = .inr (.error (flt T k i)) → Gd X mX11_part 88 [some (.ref 35)] [] (sI h 35 8 (nI (flt T k i))) 0 0 (oI P nX) := fun k h1 h5 hs => by
    have hb := flt_b (k := k) hT hil ⟨h1, h5⟩
    refine bkX11_part_88 E2.1 (fun z => ?_) (fun _ => bkX11_part_95 ?_)
    · rw [sI_at, n0, nI_leI (by omega) (by omega)] at z; omega
    · rw [← hP]
      exact Or.inr (Or.inr ⟨rfl, _, hs, E2.bad hb.1 hb.2, E1.s (by unfold wE; omega), k0 + cd.length, by rw [sI_nj (by decide)]; exact E5.1, (by omega), (by omega)⟩)
  have st0 : stE T F (0, (j, c) :: u, cd, i) = (if kd T i = 40 then (if u.length = 5 then .inr (.error (flt T 5 i)) else .inl (0, (0, 0) :: (j, c) :: u, cd, i + 1))
      else if kd T i = 12 ∨ kd T i = 11 then
        (if kd T i = 11 ∧ ¬ fdx F (wd T i) < F.length then .inr (.error (flt T 2 i))
        else if u.length = 5 then .inr (.error (flt T 5 i))
        else .inl (1, (0, c) :: u, cd ++ vcode T F i :: opt j, i + 1))
      else .inr (.error (flt T 1 i))) := stE_0
  -- behind the checks
  have good : u.length ≠ 5 → (kd T i = 40 ∨ kd T i = 12 ∨ (kd T i = 11 ∧ fdx F (wd T i) < F.length)) → Gd X mX11_part 88 [some (.ref 35)] [] h 0 0 (oI P nX) := fun h5 hk => by
    refine bkX11_part_88 E2.1 (fun _ => ?_) (fun z => absurd (by rw [E2.2.2.2.1]; exact Int32.le_refl _) z)
    have hi1 : i + 1 < T.length := hT.lt hil (by omega)
    refine bkX11_part_97 E2.1 (c_hasSign (c := 40) E2 hT (by decide)) (fun r t q => ?_)
    obtain ⟨rfl, rfl⟩ := q
    refine bkX11_part_103 (fun z => ?_) (fun z => ?_)
    · rw [bI_0, decide_eq_false_iff_not] at z
      rw [if_neg z]
      have M2 : MR (sI h 35 7 (nI i)) T i := E2.at hil
      have C2 : cf (wE k0) h0 (sI h 35 7 (nI i)) := E1.s (by unfold wE; omega)
      have e312 : hI (sI h 35 7 (nI i)) 35 31 = nI u.length := by rw [sI_nj (by decide)]; exact e31
      have L2 : LV (sI h 35 7 (nI i)) ((j, c) :: u) := E4.cg (fun d _ => ⟨by rw [sI_nb (by decide)], by rw [sI_nb (by decide)]⟩)
      have D2 : CD (sI h 35 7 (nI i)) k0 cd := E5.cg (sI_nj (by decide)) (sI_nb (by decide)) (sI_nb (by decide))
      have F2 : FM (sI h 35 7 (nI i)) F := M.cf (S := fun b j => b = 35) (cf.rf.s rfl) (fun b j z => by omega)
      generalize sI h 35 7 (nI i) = g at M2 C2 e312 L2 D2 F2
      obtain ⟨t1, t2, t3, t4⟩ := M2.s hT
      have last : ∀ (a : Int32) (y : Int32), a = nI (vcode T F i).1 → y = nI (vcode T F i).2 → Gd X mX11_part 180 [some (.ref 35)] [.int y, .int a, .ref 35] g 0 0 (oI P nX) := fun a y ha hy => by
        refine bkX11_part_180 M2.1 (c_emit M2.1 D2.1 (by omega)) (fun t q => ?_)
        subst q
        refine bkX11_part_183 (em_MR M2).1 ?_
        rw [ha, hy, em_I (by omega) (by omega) (by omega), M2.2.2.2.2.1, nI_1, ← hP]
        refine Or.inr (Or.inl ⟨rfl, ?_, ?_⟩)
        · rw [st0, if_neg z, if_pos (by omega), if_neg (by omega), if_neg h5]
        · refine ⟨(em_cf C2 (by omega)).s (by unfold wE; omega), (em_MR M2).at hi1, ?_, (em_LV L2).cg (fun d _ => ⟨by rw [sI_nb (by decide)], by rw [sI_nb (by decide)]⟩), (CD.pu D2).cg (sI_nj (by decide)) (sI_nb (by decide)) (sI_nb (by decide))⟩
          rw [sI_nj (by decide), em_I (by omega) (by omega) (by omega)]; exact e312
      refine bkX11_part_122 M2.1 t1 (fun y => ?_) (fun y => ?_)
      · rw [t2, n2, nI_eq (by omega) (by omega), srt_2] at y
        have k11 : kd T i = 11 := by omega
        have hf : fdx F (wd T i) < F.length := by
          rcases hk with a | a | a
          · omega
          · omega
          · exact a.2
        refine bkX11_part_140 (bkX11_part_141 M2.1 t1 (fun y2 => ?_) (fun y2 => ?_))
        · have hw := hT.w hil (show kd T i ≤ 11 by omega)
          refine bkX11_part_167 M2.1 t1 (by rw [t3.a (by omega)]; exact c_findFact M2.1 F2 ok hw.1) (fun r t q => ?_)
          obtain ⟨rfl, rfl⟩ := q
          rw [if_pos hf]
          exact last _ _ (by unfold vcode; rw [if_neg y]; rfl) (by unfold vcode; rw [if_neg y])
        · rw [t2, n2, nI_eq (by omega) (by omega), srt_2] at y2; omega
      · rw [t2, n2, nI_eq (by omega) (by omega), srt_2] at y
        refine bkX11_part_136 (bkX11_part_141 M2.1 t1 (fun y2 => ?_) (fun y2 => ?_))
        · rw [t2, n2, nI_eq (by omega) (by omega), srt_2] at y2; omega
        · refine bkX11_part_154 M2.1 t1 (last _ _ (by unfold vcode; rw [if_pos y]; rfl) ?_)
          have hn := hT.n hil y
          unfold vcode; rw [if_pos y, t3.b y, ← nI_l (by omega)]
          exact Int32.toInt32_toInt64 _
    · rw [bI_0, decide_eq_false_iff_not, Decidable.not_not] at z
      rw [if_pos z]
      have M2 : MR (sI h 35 7 (nI (i + 1))) T (i + 1) := E2.at hi1
      have e32 : hI (sI h 35 7 (nI (i + 1))) 35 31 + 1 = nI (u.length + 1) := by rw [sI_nj (by decide), e31, nI_1]
      refine bkX11_part_106 M2.1 (c_opens (d := u.length + 1) M2.1 (by rw [sI_at, e32]) (by omega)) (fun t q => bkX11_part_120 ?_)
      subst q
      rw [← hP, e32]
      refine Or.inl ⟨rfl, z, by rw [st0, if_pos z, if_neg h5], ?_⟩
      refine ⟨?_, ?_, ?_, ⟨⟨?_, ?_⟩, ?_⟩, ?_⟩
      · exact ((((E1.s (a := 35) (i := 7) (by unfold wE; omega)).s (a := 35) (i := 31) (by unfold wE; omega)).s (a := 60) (by unfold wE; omega)).s (a := 61) (by unfold wE; omega))
      · exact M2.cf (S := fun b j => b = 60 ∨ b = 61 ∨ (b = 35 ∧ j = 31)) (((cf.rf.s (Or.inr (Or.inr ⟨rfl, rfl⟩))).s (Or.inl rfl)).s (Or.inr (Or.inl rfl))) (fun b j z => by omega)
      · rw [sI_nb (by decide), sI_nb (by decide), sI_at]; rfl
      · rw [sI_nb (by decide)]; exact sI_at
      · exact sI_at
      · refine E4.cg (fun d hd => ?_)
        rw [List.length_cons] at hd
        constructor
        · rw [sI_nb (by decide), sI_nj (by omega), sI_nb (by decide), sI_nb (by decide)]
        · rw [sI_nj (by omega), sI_nb (by decide), sI_nb (by decide), sI_nb (by decide)]
      · exact E5.cg (by rw [sI_nb (by decide), sI_nb (by decide), sI_nj (by decide), sI_nj (by decide)]) (by rw [sI_nb (by decide), sI_nb (by decide), sI_nb (by decide), sI_nb (by decide)]) (by rw [sI_nb (by decide), sI_nb (by decide), sI_nb (by decide), sI_nb (by decide)])
  -- is it too deep
  have p75 : (kd T i = 40 ∨ kd T i = 12 ∨ (kd T i = 11 ∧ fdx F (wd T i) < F.length)) → Gd X mX11_part 75 [some (.ref 35)] [] h 0 0 (oI P nX) := fun hk => by
    refine bkX11_part_75 E2.1 (fun z => ?_) (fun z => ?_)
    · rw [e31, n5, nI_eq (by omega) (by omega)] at z; exact good z hk
    · rw [e31, n5, nI_eq (by omega) (by omega)] at z
      refine bkX11_part_83 E2.1 (c_wrong (k := 5) E2 hT) (fun t q => ?_)
      subst q
      refine bad 5 (by decide) (by decide) ?_
      rw [st0]
      by_cases y : kd T i = 40
      · rw [if_pos y, if_pos z]
      · rw [if_neg y, if_pos (by omega), if_neg (by omega), if_pos z]
  -- is it a fact
  have p44 : (kd T i = 40 ∨ kd T i = 12 ∨ kd T i = 11) → Gd X mX11_part 44 [some (.ref 35)] [] h 0 0 (oI P nX) := fun hk => by
    refine bkX11_part_44 E2.1 (c_isName E2 hT) (fun r t q => ?_)
    obtain ⟨rfl, rfl⟩ := q
    refine bkX11_part_48 (fun z => ?_) (fun z => ?_)
    · rw [bI_0, decide_eq_false_iff_not] at z; exact p75 (by omega)
    · rw [bI_0, decide_eq_false_iff_not, Decidable.not_not] at z
      have hw := hT.w hil (show kd T i ≤ 11 by omega)
      have h8 := ok.1
      refine bkX11_part_51 E2.1 s1 (by rw [s3.a (by omega)]; exact c_findFact E2.1 M ok hw.1) (fun r t q => ?_)
      obtain ⟨rfl, rfl⟩ := q
      refine bkX11_part_64 (fun y => ?_) (fun y => ?_)
      · by_cases x : fdx F (wd T i) < F.length
        · exact p75 (Or.inr (Or.inr ⟨z, x⟩))
        · rw [if_neg x] at y; exact absurd y (by decide)
      · by_cases x : fdx F (wd T i) < F.length
        · rw [if_pos x] at y; exact absurd (nI_pos' (by omega)) y
        · refine bkX11_part_67 E2.1 (c_wrong (k := 2) E2 hT) (fun t q => bkX11_part_72 ?_)
          subst q
          refine bad 2 (by decide) (by decide) ?_
          rw [st0, if_neg (by omega), if_pos (by omega), if_pos ⟨z, x⟩]
  refine bkX11_part_0 E2.1 (fun z => absurd E2.2.2.2.1 z) (fun _ => ?_)
  refine bkX11_part_7 E2.1 s1 (fun z => ?_) (fun z => ?_)
  · rw [s2, n2, nI_eq (by omega) (by omega), srt_2] at z; exact p44 (by omega)
  rw [s2, n2, nI_eq (by omega) (by omega), srt_2] at z
  refine bkX11_part_20 E2.1 (c_isSign (c := 40) E2 hT (by decide)) (fun r t q => ?_)
  obtain ⟨rfl, rfl⟩ := q
  refine bkX11_part_26 (fun y => ?_) (fun y => ?_)
  · rw [bI_0, decide_eq_false_iff_not, Decidable.not_not] at y; exact p44 (by omega)
  rw [bI_0, decide_eq_false_iff_not] at y
  refine bkX11_part_29 E2.1 (c_isName E2 hT) (fun r t q => ?_)
  obtain ⟨rfl, rfl⟩ := q
  refine bkX11_part_33 (fun x => ?_) (fun x => ?_)
  · rw [bI_0, decide_eq_false_iff_not, Decidable.not_not] at x; exact p44 (by omega)
  rw [bI_0, decide_eq_false_iff_not] at x
  refine bkX11_part_36 E2.1 (c_wrong (k := 1) E2 hT) (fun t q => bkX11_part_41 ?_)
  subst q
  refine bad 1 (by decide) (by decide) ?_
  rw [st0, if_neg y, if_neg (by omega)]
end ME
