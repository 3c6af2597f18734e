/-! ===== the parts of a letter ===== -/
theorem insOrd_perm (E : Edn) (l : List Nat) (c : Nat) : (insOrd E l c).Perm (c :: l) := by
  unfold insOrd
  refine List.perm_middle.trans (List.Perm.cons c ?_)
  have e : (fun d => decide (¬ cAt (cl E d) ≤ cAt (cl E c))) = (fun d => !decide (cAt (cl E d) ≤ cAt (cl E c))) := by funext d; exact decide_not
  rw [e]
  exact List.filter_append_perm _ l
theorem ordr_permk (E : Edn) : ∀ k, ((List.range k).foldl (insOrd E) []).Perm (List.range k)
  | 0 => List.Perm.refl _
  | k + 1 => by
    rw [range_fold, List.range_succ]
    refine (insOrd_perm E _ k).trans ?_
    exact ((ordr_permk E k).cons k).trans (List.perm_append_singleton k (List.range k)).symm
theorem ordr_perm (E : Edn) : (ordr E).Perm (List.range (eC E).length) := ordr_permk E _
theorem ordr_len (E : Edn) : (ordr E).length = (eC E).length := by rw [(ordr_perm E).length_eq, List.length_range]
theorem ordr_nodup (E : Edn) : (ordr E).Nodup := (ordr_perm E).nodup_iff.mpr List.nodup_range
theorem ordr_mem {E : Edn} {c : Nat} : c ∈ ordr E ↔ c < (eC E).length := by rw [(ordr_perm E).mem_iff, List.mem_range]
def prts (E : Edn) (s : Ins) : List Nat := (ordr E).filter s
theorem prts_mem {E : Edn} {s : Ins} {c : Nat} : c ∈ prts E s ↔ c < (eC E).length ∧ s c = true := by unfold prts; rw [List.mem_filter, ordr_mem]
theorem prts_len (E : Edn) (s : Ins) : (prts E s).length ≤ (eC E).length := by unfold prts; have := List.length_filter_le s (ordr E); rw [ordr_len] at this; exact this
/-- by places -/
def mog (E : Edn) (n p : Nat) : List Nat := (List.range n).filter (fun c => decide (cAt (cl E c) = p))
theorem mog_s (E : Edn) (n p : Nat) : mog E (n + 1) p = mog E n p ++ (if cAt (cl E n) = p then [n] else []) := by
  unfold mog; rw [List.range_succ, List.filter_append]; congr 1
  by_cases q : cAt (cl E n) = p <;> simp [q]
theorem mog_at {E : Edn} {n p c : Nat} (h : c ∈ mog E n p) : cAt (cl E c) = p := by unfold mog at h; simpa using (List.mem_filter.mp h).2
theorem mo_ins (E : Edn) (n : Nat) : ∀ K, (List.range K).flatMap (mog E (n + 1)) = if cAt (cl E n) < K then insOrd E ((List.range K).flatMap (mog E n)) n else (List.range K).flatMap (mog E n)
  | 0 => by simp
  | K + 1 => by
    have ih := mo_ins E n K
    rw [List.range_succ, List.flatMap_append, List.flatMap_append, ih]
    simp only [List.flatMap_cons, List.flatMap_nil, List.append_nil]
    rw [mog_s]
    have hlow : ∀ c ∈ (List.range K).flatMap (mog E n), cAt (cl E c) < K := fun c hc => by
      obtain ⟨p, hp, hc⟩ := List.mem_flatMap.mp hc
      rw [mog_at hc]; exact List.mem_range.mp hp
    generalize (List.range K).flatMap (mog E n) = A at hlow
    have hK : ∀ c ∈ mog E n K, cAt (cl E c) = K := fun c hc => mog_at hc
    generalize mog E n K = B at hK
    unfold insOrd
    rcases Nat.lt_trichotomy (cAt (cl E n)) K with q | q | q
    · rw [if_pos q, if_neg (show ¬ cAt (cl E n) = K by omega), if_pos (show cAt (cl E n) < K + 1 by omega), List.append_nil, List.filter_append, List.filter_append]
      have e1 : B.filter (fun d => decide (cAt (cl E d) ≤ cAt (cl E n))) = [] := by
        rw [List.filter_eq_nil_iff]; intro c hc; rw [hK c hc]; simp; omega
      have e2 : B.filter (fun d => decide (¬ cAt (cl E d) ≤ cAt (cl E n))) = B := by
        rw [List.filter_eq_self]; intro c hc; rw [hK c hc]; simp; omega
      rw [e1, e2, List.append_nil, List.append_assoc]; rfl
    · rw [if_neg (show ¬ cAt (cl E n) < K by omega), if_pos q, if_pos (show cAt (cl E n) < K + 1 by omega), List.filter_append, List.filter_append]
      have e1 : A.filter (fun d => decide (cAt (cl E d) ≤ cAt (cl E n))) = A := by
        rw [List.filter_eq_self]; intro c hc; have := hlow c hc; simp; omega
      have e2 : B.filter (fun d => decide (cAt (cl E d) ≤ cAt (cl E n))) = B := by
        rw [List.filter_eq_self]; intro c hc; rw [hK c hc]; simp; omega
      have e3 : A.filter (fun d => decide (¬ cAt (cl E d) ≤ cAt (cl E n))) = [] := by
        rw [List.filter_eq_nil_iff]; intro c hc; have := hlow c hc; simp; omega
      have e4 : B.filter (fun d => decide (¬ cAt (cl E d) ≤ cAt (cl E n))) = [] := by
        rw [List.filter_eq_nil_iff]; intro c hc; rw [hK c hc]; simp; omega
      rw [e1, e2, e3, e4, List.append_assoc]; rfl
    · rw [if_neg (show ¬ cAt (cl E n) < K by omega), if_neg (show ¬ cAt (cl E n) = K by omega), if_neg (show ¬ cAt (cl E n) < K + 1 by omega), List.append_nil]
theorem ordr_mo {E : Edn} : ∀ n, (∀ c, c < n → cAt (cl E c) < 100) → (List.range n).foldl (insOrd E) [] = (List.range 100).flatMap (mog E n)
  | 0, _ => by
    have : ∀ l : List Nat, l.flatMap (mog E 0) = [] := fun l => by
      induction l with
      | nil => rfl
      | cons a l ih => rw [List.flatMap_cons, ih]; rfl
    rw [this]; rfl
  | n + 1, h => by rw [range_fold, ordr_mo n (fun c hc => h c (by omega)), mo_ins, if_pos (h n (by omega))]
theorem filter_flat {s : Ins} {f : Nat → List Nat} : ∀ l : List Nat, (l.flatMap f).filter s = l.flatMap (fun p => (f p).filter s)
  | [] => rfl
  | a :: l => by rw [List.flatMap_cons, List.flatMap_cons, List.filter_append, filter_flat l]
def pms (E : Edn) (s : Ins) (n p : Nat) : List Nat := (List.range n).filter (fun c => s c && decide (cAt (cl E c) = p))
theorem prts_mo {E : Edn} {s : Ins} (ok : okE E) : prts E s = (List.range 100).flatMap (pms E s (eC E).length) := by
  unfold prts ordr
  rw [ordr_mo _ (fun c hc => by have := (ok.2.2.2.2.2 c hc).1; omega), filter_flat]
  congr 1
  funext p
  unfold mog pms
  rw [List.filter_filter]
theorem pms_s (E : Edn) (s : Ins) (n p : Nat) : pms E s (n + 1) p = pms E s n p ++ (if (s n && decide (cAt (cl E n) = p)) = true then [n] else []) := by
  unfold pms; rw [List.range_succ, List.filter_append]; congr 1
  by_cases q : (s n && decide (cAt (cl E n) = p)) = true
  · rw [if_pos q]; simp only [List.filter_cons, List.filter_nil]; rw [if_pos q]
  · rw [if_neg q]; simp only [List.filter_cons, List.filter_nil]; rw [if_neg q]
def PC (t : SH) (a : Nat) (L : List Nat) : Prop := hI t a 3 = nI L.length ∧ (∀ (i : Nat) (hi : i < L.length), hI t (a + 2) i = nI L[i]) ∧ ∀ c ∈ L, hI t (a + 3) c = nI (L.idxOf c + 1)
def PM (t : SH) (m : Nat) (L : List Nat) : Prop := hI t m 43 = nI L.length ∧ ∀ (i : Nat) (hi : i < L.length), hI t (m + 32) i = nI L[i]
theorem idx_ne {c : Nat} : ∀ {L : List Nat} {i : Nat} (hi : i < L.length), i < L.idxOf c → L[i] ≠ c
  | a :: l, 0, _, h => fun z => by
    have : a = c := z
    subst this; simp at h
  | a :: l, i + 1, hi, h => by
    rw [List.idxOf_cons] at h
    by_cases q : a = c
    · subst q; simp at h
    · have e : (a == c) = false := by simpa using q
      rw [e] at h
      exact idx_ne (L := l) (i := i) (by simpa using hi) (by simpa using h)
section PA
variable {X : GX} {h : SH} {a e m : Nat} {E : Edn} {s : Ins}
theorem c_numberParts (hE : EdC h e E) (ok : okE E) (F : LX6 (Sk h) a) (ha : a + 4 < 73) (hs : RB (hI h (a + 1)) s (eC E).length) (h0 : hI h a 3 = 0) :
    Cd X mX6_numberParts [.ref a, .ref e] h 0 0 (oV (fun t => chI (fun b => b = a ∨ b = a + 2 ∨ b = a + 3) h t ∧ (∀ j, j ≠ 3 → hI t a j = hI h a j) ∧ PC t a (prts E s)) nX) := by
  have hn : (eC E).length ≤ 12 := ok.2.2.1
  have hol := ordr_len E
  generalize hP : oV (fun t => chI (fun b => b = a ∨ b = a + 2 ∨ b = a + 3) h t ∧ (∀ j, j ≠ 3 → hI t a j = hI h a j) ∧ PC t a (prts E s)) nX = P
  refine bkX6_numberParts_0 ?_
  refine for_up (G := fun i t => Gd X mX6_numberParts 2 [some (.ref a), some (.ref e), some (.int (nI i)), none] [] t 0 0 P)
    (I := fun i t => chI (fun b => b = a ∨ b = a + 2 ∨ b = a + 3) h t ∧ (∀ j, j ≠ 3 → hI t a j = hI h a j) ∧ PC t a (((ordr E).take i).filter s)) (eC E).length ?_ ?_ 0 h (Nat.zero_le _) ⟨chI.rf, fun _ _ => rfl, h0, fun i hi => absurd hi (Nat.not_lt_zero _), fun c hc => absurd hc (by simp)⟩
  · rintro t ⟨k1, k2, k3⟩
    have hE' := hE.cg (k1.ag (fun b q => by omega))
    refine bkX6_numberParts_2 hE'.2.1 (fun _ => bkX6_numberParts_62 ?_) (fun q => absurd (by rw [hE'.2.2.2.2.2.1]; exact (Int32.le_refl _)) q)
    rw [← hP]
    rw [← hol, List.take_length] at k3
    exact ⟨k1, k2, k3⟩
  · rintro i t hi ⟨k1, k2, k3⟩ ih
    have hE' := hE.cg (k1.ag (fun b q => by omega))
    have F' : LX6 (Sk t) a := k1.1 ▸ F
    have hi2 : i < (ordr E).length := by omega
    have hx := hE'.2.2.2.2.2.2.2.2 i hi2
    have hxl : (ordr E)[i] < (eC E).length := ordr_mem.mp (List.getElem_mem hi2)
    have et : (ordr E).take (i + 1) = (ordr E).take i ++ [(ordr E)[i]] := List.take_succ_eq_append_getElem hi2
    have hnot : (ordr E)[i] ∉ (ordr E).take i := fun z => by
      have := ordr_nodup E
      rw [← List.take_append_drop (i + 1) (ordr E), et, List.append_assoc] at this
      exact (List.nodup_append.mp this).2.2 _ z _ (List.mem_append_left _ (List.mem_singleton.mpr rfl)) rfl
    refine bkX6_numberParts_2 hE'.2.1 (fun q => ?_) (fun _ => ?_)
    · rw [hE'.2.2.2.2.2.1] at q; exact absurd q (nI_ge hi (by omega))
    have s1 : hI t (a + 1) = hI h (a + 1) := k1.2.2 _ (by omega)
    refine bkX6_numberParts_10 hE'.2.1 (vp_in_nI (by omega) (by omega)) F' (by rw [nI_clamp (by omega), hx]; exact (vp_in_nI (by omega) (by omega))) (fun q => ?_) (fun q => ?_)
    · rw [nI_clamp (by omega), hx, nI_clamp (by omega), s1, hs _ hxl, bI_0] at q
      refine bkX6_numberParts_56 ?_
      rw [nI_1]
      refine ih t ⟨k1, k2, ?_⟩
      rw [et, List.filter_append]
      have : [(ordr E)[i]].filter s = [] := by simp [q]
      rw [this, List.append_nil]; exact k3
    · rw [nI_clamp (by omega), hx, nI_clamp (by omega), s1, hs _ hxl, bI_0] at q
      rw [nI_clamp (by omega), hx]
      have hsx : s (ordr E)[i] = true := by simpa using q
      have hLl : (((ordr E).take i).filter s).length ≤ i := by have := List.length_filter_le s ((ordr E).take i); rw [List.length_take] at this; omega
      have hLn : (ordr E)[i] ∉ ((ordr E).take i).filter s := fun z => hnot (List.mem_filter.mp z).1
      have ef : ((ordr E).take (i + 1)).filter s = ((ordr E).take i).filter s ++ [(ordr E)[i]] := by
        rw [et, List.filter_append]; congr 1; simp [hsx]
      generalize ((ordr E).take i).filter s = L at k3 hLl hLn ef
      generalize hxe : (ordr E)[i] = x at hxl hLn ef
      refine bkX6_numberParts_26 F' (by rw [k3.1]; exact (vp_in_nI (by omega) (by omega))) (vp_in_nI (by omega) (by omega)) ?_
      rw [k3.1, nI_clamp (by omega), sI_nb (by omega), k3.1, nI_1, nI_clamp (by omega), sI_at]
      refine bkX6_numberParts_56 ?_
      rw [nI_1]
      refine ih _ ⟨((k1.s (Or.inr (Or.inl rfl))).s (Or.inl rfl)).s (Or.inr (Or.inr rfl)), fun j hj => by rw [sI_nb (by omega), sI_nj hj, sI_nb (by omega)]; exact k2 j hj, ?_⟩
      rw [ef]
      refine ⟨by rw [sI_nb (by omega), sI_at]; simp, fun j hj => ?_, fun c hc => ?_⟩
      · rw [sI_nb (by omega), sI_nb (by omega)]
        by_cases z : j = L.length
        · subst z; rw [sI_at]; simp
        · have : j < L.length := by simp at hj; omega
          rw [sI_nj z, k3.2.1 j this, List.getElem_append_left this]
      · rcases List.mem_append.mp hc with z | z
        · have : c ≠ x := fun y => hLn (y ▸ z)
          rw [sI_nj this, sI_nb (by omega), sI_nb (by omega), k3.2.2 c z, List.idxOf_append, if_pos z]
        · have : c = x := List.mem_singleton.mp z
          subst this
          rw [sI_at, List.idxOf_append, if_neg hLn]; simp
theorem c_orders (F : LX11 (Sk h) m) (hE : EdM h m e E) (ok : okE E) (he : e ≤ 6) (hs : RB (hI h (m + 31)) s (eC E).length) :
    Cd X mX11_orders [.ref m, .int (nI e)] h 0 0 (oV (fun t => chI (fun b => b = m ∨ b = m + 32) h t ∧ (∀ j, j ≠ 43 → hI t m j = hI h m j) ∧ PM t m (prts E s)) nX) := by
  have hn : (eC E).length ≤ 12 := ok.2.2.1
  rw [show prts E s = (List.range 100).flatMap (pms E s (eC E).length) from prts_mo ok]
  have hlen := prts_len E s
  rw [prts_mo ok] at hlen
  generalize hP : oV (fun t => chI (fun b => b = m ∨ b = m + 32) h t ∧ (∀ j, j ≠ 43 → hI t m j = hI h m j) ∧ PM t m ((List.range 100).flatMap (pms E s (eC E).length))) nX = P
  have hpre : ∀ p, p < 100 → ∀ c, c < (eC E).length → (s c && decide (cAt (cl E c) = p)) = true → ((List.range p).flatMap (pms E s (eC E).length) ++ pms E s c p).length < 12 := fun p hp c hc hsc => by
    have e1 : List.range 100 = List.range p ++ (List.range (100 - p)).map (p + ·) := by rw [← List.range_add, show p + (100 - p) = 100 by omega]
    have e2 : (List.range (100 - p)).map (p + ·) = p :: (List.range (100 - p - 1)).map (fun x => p + (1 + x)) := by
      rw [show 100 - p = 1 + (100 - p - 1) by omega, List.range_add, List.map_append, List.map_map, show 1 + (100 - p - 1) - 1 = 100 - p - 1 by omega]; rfl
    rw [e1, e2, List.flatMap_append, List.flatMap_cons, List.length_append, List.length_append] at hlen
    have e3 : (pms E s c p).length + 1 ≤ (pms E s (eC E).length p).length := by
      have : ∀ k, c < k → (pms E s c p).length + 1 ≤ (pms E s k p).length := by
        intro k hk
        induction k with
        | zero => exact absurd hk (Nat.not_lt_zero _)
        | succ k ih =>
          rw [pms_s, List.length_append]
          rcases Nat.lt_or_ge c k with z | z
          · have := ih z; omega
          · have : c = k := by omega
            subst this
            rw [if_pos hsc]; simp
      exact this _ hc
    rw [List.length_append]; omega
  refine bkX11_orders_0 F ?_
  refine for_up (G := fun p t => Gd X mX11_orders 7 [some (.ref m), some (.int (nI e)), some (.int (nI p)), none] [] t 0 0 P)
    (I := fun p t => chI (fun b => b = m ∨ b = m + 32) h t ∧ (∀ j, j ≠ 43 → hI t m j = hI h m j) ∧ PM t m ((List.range p).flatMap (pms E s (eC E).length))) 100 ?_ ?_ 0 (sI h m 43 0) (Nat.zero_le _) ⟨chI.rf.s (Or.inl rfl), fun j hj => sI_nj hj, sI_at, fun i hi => absurd hi (Nat.not_lt_zero _)⟩
  · rintro t k
    refine bkX11_orders_7 (fun _ => bkX11_orders_81 ?_) (fun q => absurd (Int32.le_refl _) q)
    rw [← hP]; exact k
  · rintro p t hp k ih
    refine bkX11_orders_7 (fun q => ?_) (fun _ => ?_)
    · rw [show (100 : Int32) = nI 100 from rfl] at q; exact absurd q (nI_ge hp (by omega))
    refine bkX11_orders_13 ?_
    refine for_up (G := fun c t => Gd X mX11_orders 15 [some (.ref m), some (.int (nI e)), some (.int (nI p)), some (.int (nI c))] [] t 0 0 P)
      (I := fun c t => chI (fun b => b = m ∨ b = m + 32) h t ∧ (∀ j, j ≠ 43 → hI t m j = hI h m j) ∧ PM t m ((List.range p).flatMap (pms E s (eC E).length) ++ pms E s c p)) (eC E).length ?_ ?_ 0 t (Nat.zero_le _) ⟨k.1, k.2.1, by rw [show pms E s 0 p = [] from rfl, List.append_nil]; exact k.2.2⟩
    · rintro t ⟨k1, k2, k3⟩
      have hE' := hE.cg (k1.agM (fun b q => by omega) e) ok
      refine bkX11_orders_15 (k1.1 ▸ F) (vp_in_nI (by omega) (by omega)) (fun _ => bkX11_orders_75 ?_) (fun q => absurd (by rw [nI_clamp (by omega), hE'.2.1]; exact (Int32.le_refl _)) q)
      rw [nI_1]
      refine ih t ⟨k1, k2, ?_⟩
      rw [List.range_succ, List.flatMap_append, List.flatMap_cons, List.flatMap_nil, List.append_nil]; exact k3
    · rintro c t hc ⟨k1, k2, k3⟩ ih2
      have hE' := hE.cg (k1.agM (fun b q => by omega) e) ok
      have F' : LX11 (Sk t) m := k1.1 ▸ F
      have s1 : hI t (m + 31) = hI h (m + 31) := k1.2.2 _ (by omega)
      have C := hE'.2.2.2 c hc
      have hat := (ok.2.2.2.2.2 c hc).1
      refine bkX11_orders_15 F' (vp_in_nI (by omega) (by omega)) (fun q => ?_) (fun _ => ?_)
      · rw [nI_clamp (by omega), hE'.2.1] at q; exact absurd q (nI_ge hc (by omega))
      have no : ¬ (s c && decide (cAt (cl E c) = p)) = true → Gd X mX11_orders 69 [some (.ref m), some (.int (nI e)), some (.int (nI p)), some (.int (nI c))] [] t 0 0 P := fun q => by
        refine bkX11_orders_69 ?_
        rw [nI_1]
        refine ih2 t ⟨k1, k2, ?_⟩
        rw [pms_s, if_neg q, List.append_nil]; exact k3
      refine bkX11_orders_25 F' (vp_in_nI (by omega) (by omega)) (fun q => ?_) (fun q => ?_)
      · rw [nI_clamp (by omega), s1, hs c hc, bI_0] at q
        exact no (by rw [q]; simp)
      rw [nI_clamp (by omega), s1, hs c hc, bI_0] at q
      have hsc : s c = true := by simpa using q
      refine bkX11_orders_34 F' (by rw [ix12]; exact (vp_in_nI (by omega) (by omega))) (fun z => ?_) (fun z => ?_)
      · rw [ix12, nI_clamp (by omega), C.1, nI_eq (by omega) (by omega)] at z
        exact no (by simp [z])
      · rw [ix12, nI_clamp (by omega), C.1, nI_eq (by omega) (by omega)] at z
        have hc2 : (s c && decide (cAt (cl E c) = p)) = true := by simp [hsc, z]
        have hl := hpre p hp c hc hc2
        have ef : (List.range p).flatMap (pms E s (eC E).length) ++ pms E s (c + 1) p = ((List.range p).flatMap (pms E s (eC E).length) ++ pms E s c p) ++ [c] := by rw [pms_s, if_pos hc2, List.append_assoc]
        rw [ef] at ih2
        generalize (List.range p).flatMap (pms E s (eC E).length) ++ pms E s c p = L at k3 hl ih2
        refine bkX11_orders_49 F' (by rw [k3.1]; exact (vp_in_nI (by omega) (by omega))) ?_
        rw [k3.1, nI_clamp (by omega), sI_nb (by omega), k3.1, nI_1]
        refine bkX11_orders_69 ?_
        rw [nI_1]
        refine ih2 _ ⟨(k1.s (Or.inr rfl)).s (Or.inl rfl), fun j hj => by rw [sI_nj hj, sI_nb (by omega)]; exact k2 j hj, by rw [sI_at]; simp, fun j hj => ?_⟩
        rw [sI_nb (by omega)]
        by_cases y : j = L.length
        · subst y; rw [sI_at]; simp
        · have : j < L.length := by simp at hj; omega
          rw [sI_nj y, k3.2 j this, List.getElem_append_left this]
theorem c_partOf {L : List Nat} {c : Nat} (F : LX11 (Sk h) m) (K : PM h m L) (hl : L.length ≤ 12) (hm : ∀ x ∈ L, x < 12) (hc : c ∈ L) (hc2 : c < 12) : Cd X mX11_partOf [.ref m, .int (nI c)] h 0 0 (oI (fun r t => t = h ∧ r = nI (L.idxOf c + 1)) nX) := by
  refine bkX11_partOf_0 ?_
  generalize hP : oI (fun r u => u = h ∧ r = nI (L.idxOf c + 1)) nX = P
  have hx := List.idxOf_lt_length_of_mem hc
  refine for_up (G := fun i u => Gd X mX11_partOf 2 [some (.ref m), some (.int (nI c)), some (.int (nI i))] [] u 0 0 P) (I := fun i u => u = h) (L.idxOf c) ?_ ?_ 0 h (Nat.zero_le _) rfl
  · rintro u rfl
    refine bkX11_partOf_2 F (vp_in_nI (by omega) (by omega)) (fun _ => bkX11_partOf_18 ?_) (fun q => absurd ?_ q)
    · rw [← hP]; exact ⟨rfl, by rw [nI_1]⟩
    · rw [nI_clamp (by omega), K.2 _ hx, List.getElem_idxOf hx]
  · rintro i u hi rfl ih
    have hil : i < L.length := by omega
    have hne : L[i] ≠ c := idx_ne hil hi
    have h12 := hm _ (List.getElem_mem hil)
    refine bkX11_partOf_2 F (vp_in_nI (by omega) (by omega)) (fun q => ?_) (fun _ => ?_)
    · rw [nI_clamp (by omega), K.2 _ hil, nI_eq (by omega) (by omega)] at q; exact absurd q hne
    · refine bkX11_partOf_12 ?_
      rw [nI_1]; exact ih u rfl
end PA
