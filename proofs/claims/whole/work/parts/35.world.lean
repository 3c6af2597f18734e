/-! ===== worlds, facts, free days ===== -/
def fa (E : Edn) (k : Nat) : Fct := (eF E).getD k ([], 0, 0)
theorem fa_at {E : Edn} {k : Nat} (hk : k < (eF E).length) : fa E k = (eF E)[k] := by unfold fa; rw [List.getD_eq_getElem?_getD, List.getElem?_eq_getElem hk]; rfl
/-- all numbers of the facts from k on -/
def sfx (E : Edn) (k : Nat) : Nat := (((eF E).drop k).map fspan).foldl (· * ·) 1
theorem fold_mul : ∀ (l : List Nat) (x : Nat), l.foldl (· * ·) x = x * l.foldl (· * ·) 1
  | [], x => by simp
  | a :: l, x => by show l.foldl (· * ·) (x * a) = x * l.foldl (· * ·) (1 * a); rw [fold_mul l (x * a), fold_mul l (1 * a), Nat.one_mul, Nat.mul_assoc]
theorem sfx_s {E : Edn} {k : Nat} (hk : k < (eF E).length) : sfx E k = fspan (fa E k) * sfx E (k + 1) := by
  unfold sfx
  rw [List.drop_eq_getElem_cons hk, List.map_cons, fa_at hk]
  show (List.map fspan ((eF E).drop (k + 1))).foldl (· * ·) (1 * fspan (eF E)[k]) = _
  rw [fold_mul, Nat.one_mul]
theorem sfx_n (E : Edn) : sfx E (eF E).length = 1 := by unfold sfx; rw [List.drop_length]; rfl
theorem sfx_0 (E : Edn) : sfx E 0 = worlds E := by unfold sfx worlds; rw [List.drop_zero]
/-- the facts of a world -/
def csW (E : Edn) (w k : Nat) : Int32 := nI ((fa E k).2.1 + w / sfx E (k + 1) % fspan (fa E k))
theorem fspan_1 (f : Fct) : 1 ≤ fspan f := by unfold fspan; omega
theorem ok_fact {E : Edn} (ok : okE E) {k : Nat} (hk : k < (eF E).length) : (fa E k).2.1 ≤ (fa E k).2.2 ∧ (fa E k).2.2 ≤ 99 := by rw [fa_at hk]; have := ok.2.2.2.1 _ (List.getElem_mem hk); exact ⟨this.1, this.2.1⟩
theorem ok_fname {E : Edn} (ok : okE E) {k : Nat} (hk : k < (eF E).length) : okW (fa E k).1 := by rw [fa_at hk]; exact (ok.2.2.2.1 _ (List.getElem_mem hk)).2.2
theorem csW_in {E : Edn} (ok : okE E) {k w : Nat} (hk : k < (eF E).length) : ∃ n, csW E w k = nI n ∧ (fa E k).2.1 ≤ n ∧ n ≤ (fa E k).2.2 := by
  have h1 := ok_fact ok hk
  refine ⟨_, rfl, by omega, ?_⟩
  have := Nat.mod_lt (w / sfx E (k + 1)) (show 0 < fspan (fa E k) from fspan_1 _)
  unfold fspan at this ⊢; omega
theorem csW_0 {E : Edn} {k : Nat} : csW E 0 k = nI (fa E k).2.1 := by unfold csW; rw [Nat.zero_div, Nat.zero_mod]; rfl
def wOf (E : Edn) (cs : Nat → Int32) (n : Nat) : Int32 := (List.range n).foldl (fun v k => v * nI (fspan (fa E k)) + cs k - nI (fa E k).2.1) 0
section WO
variable {X : GX} {h : SH} {a e c m b : Nat} {E E2 : Edn} {cs : Nat → Int32} {L : List Nat}
theorem EdC.lo (hE : EdC h e E) {k : Nat} (hk : k < (eF E).length) : hJ h (e + 1) k = enc32 (fa E k).1 ∧ hI h (e + 2) k = nI (fa E k).2.1 ∧ hI h (e + 3) k = nI (fa E k).2.2 := by rw [fa_at hk]; exact hE.2.2.2.2.2.2.1 k hk
theorem EdM.lo (hE : EdM h m e E) {k : Nat} (hk : k < (eF E).length) : hJ h (m + 8) (8 * e + k) = enc37 (fa E k).1 ∧ hI h (m + 9) (8 * e + k) = nI (fa E k).2.1 ∧ hI h (m + 10) (8 * e + k) = nI (fa E k).2.2 := by rw [fa_at hk]; exact hE.2.2.1 k hk
theorem span_nI {E : Edn} (ok : okE E) {k : Nat} (hk : k < (eF E).length) : nI (fa E k).2.2 - nI (fa E k).2.1 + 1 = nI (fspan (fa E k)) := by
  have := ok_fact ok hk
  rw [pk_sub this.1, nI_1]; rfl
theorem c_spanOf {k : Nat} (hE : EdC h e E) (ok : okE E) (hk : k < (eF E).length) : Cd X mX3_spanOf [.ref e, .int (nI k)] h 0 0 (oI (fun r t => t = h ∧ r = nI (fspan (fa E k))) nX) := by
  have hf : (eF E).length ≤ 8 := ok.2.1
  have hb := ok_fact ok hk
  have h1 := fspan_1 (fa E k)
  have h2 : fspan (fa E k) ≤ 100 := by unfold fspan; omega
  refine bkX3_spanOf_0 hE.2.1 (vp_in_nI (by omega) (by omega)) (bkX3_spanOf_19 ⟨rfl, ?_⟩)
  rw [nI_clamp (by omega), (hE.lo hk).2.1, (hE.lo hk).2.2, span_nI ok hk, n1]
  by_cases q : 1 < fspan (fa E k)
  · rw [if_pos (nI_lt q (by omega))]
  · rw [if_neg (nI_nlt (by omega) (by omega)), show fspan (fa E k) = 1 by omega]
theorem c_setWorld {w : Nat} (hE : EdC h e E) (ok : okE E) (F : LX1 (Sk h) c) (hc : c + 2 < 73) (hw : w < 2 ^ 31) : Cd X mX1_setWorld [.ref c, .ref e, .int (nI w)] h 0 0 (oV (fun t => chI (· = c + 1) h t ∧ ∀ k, k < (eF E).length → hI t (c + 1) k = csW E w k) nX) := by
  have hf : (eF E).length ≤ 8 := ok.2.1
  generalize hP : oV (fun t => chI (· = c + 1) h t ∧ ∀ k, k < (eF E).length → hI t (c + 1) k = csW E w k) nX = P
  refine bkX1_setWorld_0 hE.2.1 ?_
  rw [hE.2.2.2.1]
  have key : ∀ (j : Nat) (t : SH) (x : Int32), j ≤ (eF E).length → x = nI j - 1 → chI (· = c + 1) h t → (∀ k, j ≤ k → k < (eF E).length → hI t (c + 1) k = csW E w k) → Gd X mX1_setWorld 10 [some (.ref c), some (.ref e), none, some (.int (nI (w / sfx E j))), some (.int x), none] [] t 0 0 P := by
    intro j
    induction j with
    | zero =>
      intro t x _ hx k1 k2
      subst hx
      refine bkX1_setWorld_10 (fun _ => bkX1_setWorld_53 ?_) (fun q => absurd (by decide) q)
      rw [← hP]; exact ⟨k1, fun k hk => k2 k (Nat.zero_le _) hk⟩
    | succ j ih =>
      intro t x hj hx k1 k2
      have hjl : j < (eF E).length := by omega
      have hE' := hE.cg (k1.ag (fun b q => by omega))
      have h1 := fspan_1 (fa E j)
      have hb := ok_fact ok hjl
      have h2 : fspan (fa E j) ≤ 100 := by unfold fspan; omega
      rw [nI_pred] at hx
      subst hx
      refine bkX1_setWorld_10 (fun q => absurd q (nI_pos (by omega))) (fun _ => ?_)
      refine bkX1_setWorld_15 hE'.2.1 (c_spanOf hE' ok hjl) (fun r t9 hq => ?_)
      obtain ⟨rfl, rfl⟩ := hq
      have hwl : w / sfx E (j + 1) < 2 ^ 31 := Nat.lt_of_le_of_lt (Nat.div_le_self _ _) hw
      refine bkX1_setWorld_21 (k1.1 ▸ F) hE'.2.1 (vp_in_nI (by omega) (by omega)) (nI_ne0 (by omega) (by omega)) ?_
      rw [nI_clamp (by omega), pk_rem hwl (by omega) (by omega), pk_div hwl (by omega) (by omega), (hE'.lo hjl).2.1, nI_add]
      have e1 : w / sfx E (j + 1) / fspan (fa E j) = w / sfx E j := by rw [Nat.div_div_eq_div_mul, sfx_s hjl, Nat.mul_comm]
      rw [e1]
      refine ih _ _ (by omega) ?_ (k1.s rfl) (fun k hk1 hk2 => ?_)
      · rw [show (-1 : Int32) = 0 - 1 by decide]
        rw [Int32.sub_eq_add_neg, Int32.zero_add, ← Int32.sub_eq_add_neg]
      · by_cases z : k = j
        · subst z; rw [sI_at]; rfl
        · rw [sI_nj z]; exact k2 k (by omega) hk2
  have := key (eF E).length h (nI (eF E).length - 1) (Nat.le_refl _) rfl chI.rf (fun k h1 h2 => by omega)
  rw [sfx_n, Nat.div_one] at this
  exact this
theorem c_comes {w : Nat} (hE : EdM h m e E) (ok : okE E) (F : LX11 (Sk h) m) (he : e ≤ 6) (hw : w < 2 ^ 31) : Cd X mX11_comes [.ref m, .int (nI e), .int (nI w)] h 0 0 (oV (fun t => chI (· = m + 27) h t ∧ ∀ k, k < (eF E).length → hI t (m + 27) k = csW E w k) nX) := by
  have hf : (eF E).length ≤ 8 := ok.2.1
  generalize hP : oV (fun t => chI (· = m + 27) h t ∧ ∀ k, k < (eF E).length → hI t (m + 27) k = csW E w k) nX = P
  refine bkX11_comes_0 F (vp_in_nI (by omega) (by omega)) ?_
  rw [nI_clamp (by omega), hE.1]
  have key : ∀ (j : Nat) (t : SH) (x : Int32), j ≤ (eF E).length → x = nI j - 1 → chI (· = m + 27) h t → (∀ k, j ≤ k → k < (eF E).length → hI t (m + 27) k = csW E w k) → Gd X mX11_comes 12 [some (.ref m), some (.int (nI e)), none, some (.int (nI (w / sfx E j))), some (.int x), none] [] t 0 0 P := by
    intro j
    induction j with
    | zero =>
      intro t x _ hx k1 k2
      subst hx
      refine bkX11_comes_12 (fun _ => bkX11_comes_81 ?_) (fun q => absurd (by decide) q)
      rw [← hP]; exact ⟨k1, fun k hk => k2 k (Nat.zero_le _) hk⟩
    | succ j ih =>
      intro t x hj hx k1 k2
      have hjl : j < (eF E).length := by omega
      have hE' := hE.cg (k1.agM (fun b q => by omega) e) ok
      have h1 := fspan_1 (fa E j)
      have hb := ok_fact ok hjl
      have h2 : fspan (fa E j) ≤ 100 := by unfold fspan; omega
      rw [nI_pred] at hx
      subst hx
      refine bkX11_comes_12 (fun q => absurd q (nI_pos (by omega))) (fun _ => ?_)
      have hwl : w / sfx E (j + 1) < 2 ^ 31 := Nat.lt_of_le_of_lt (Nat.div_le_self _ _) hw
      have ei : (8 : Int32) * nI e + nI j = nI (8 * e + j) := by rw [ix8, nI_add]
      have es : hI t (m + 10) (nI (8 * e + j)).toNatClampNeg - hI t (m + 9) (nI (8 * e + j)).toNatClampNeg + 1 = nI (fspan (fa E j)) := by rw [nI_clamp (by omega), (hE'.lo hjl).2.1, (hE'.lo hjl).2.2, span_nI ok hjl]
      refine bkX11_comes_17 (k1.1 ▸ F) (by rw [ei]; exact (vp_in_nI (by omega) (by omega))) (by rw [ei, es]; exact nI_ne0 (by omega) (by omega)) (vp_in_nI (by omega) (by omega)) ?_
      rw [ei, es, pk_rem hwl (by omega) (by omega), pk_div hwl (by omega) (by omega), nI_clamp (by omega), nI_clamp (by omega), (hE'.lo hjl).2.1, nI_add]
      have e1 : w / sfx E (j + 1) / fspan (fa E j) = w / sfx E j := by rw [Nat.div_div_eq_div_mul, sfx_s hjl, Nat.mul_comm]
      rw [e1]
      refine ih _ _ (by omega) ?_ (k1.s rfl) (fun k hk1 hk2 => ?_)
      · rw [show (-1 : Int32) = 0 - 1 by decide]
        rw [Int32.sub_eq_add_neg, Int32.zero_add, ← Int32.sub_eq_add_neg]
      · by_cases z : k = j
        · subst z; rw [sI_at]; rfl
        · rw [sI_nj z]; exact k2 k (by omega) hk2
  have := key (eF E).length h (nI (eF E).length - 1) (Nat.le_refl _) rfl chI.rf (fun k h1 h2 => by omega)
  rw [sfx_n, Nat.div_one] at this
  exact this
theorem c_takes (hE : EdM h m e E) (ok : okE E) (F : LX11 (Sk h) m) (he : e ≤ 6) : Cd X mX11_takes [.ref m, .int (nI e)] h 0 0 (oV (fun t => chI (fun b => b = m ∨ b = m + 27) h t ∧ (∀ j, j ≠ 34 → hI t m j = hI h m j) ∧ hI t m 34 = nI e ∧ ∀ k, k < (eF E).length → hI t (m + 27) k = csW E 0 k) nX) := by
  have hf : (eF E).length ≤ 8 := ok.2.1
  generalize hP : oV (fun t => chI (fun b => b = m ∨ b = m + 27) h t ∧ (∀ j, j ≠ 34 → hI t m j = hI h m j) ∧ hI t m 34 = nI e ∧ ∀ k, k < (eF E).length → hI t (m + 27) k = csW E 0 k) nX = P
  refine bkX11_takes_0 F ?_
  refine for_up (G := fun i u => Gd X mX11_takes 7 [some (.ref m), some (.int (nI e)), some (.int (nI i))] [] u 0 0 P)
    (I := fun i t => chI (fun b => b = m ∨ b = m + 27) h t ∧ (∀ j, j ≠ 34 → hI t m j = hI h m j) ∧ hI t m 34 = nI e ∧ ∀ k, k < i → hI t (m + 27) k = csW E 0 k) (eF E).length ?_ ?_ 0 _ (Nat.zero_le _) ⟨chI.rf.s (Or.inl rfl), fun j hj => sI_nj hj, sI_at, fun k hk => absurd hk (Nat.not_lt_zero _)⟩
  · rintro t ⟨k1, k2⟩
    have hE' := hE.cg (k1.agM (fun b q => by omega) e) ok
    refine bkX11_takes_7 (k1.1 ▸ F) (vp_in_nI (by omega) (by omega)) (fun _ => bkX11_takes_40 ?_) (fun q => absurd (by rw [nI_clamp (by omega), hE'.1]; exact (Int32.le_refl _)) q)
    rw [← hP]; exact ⟨k1, k2⟩
  · rintro i t hi ⟨k1, k2, k3, k4⟩ ih
    have hE' := hE.cg (k1.agM (fun b q => by omega) e) ok
    have ei : (8 : Int32) * nI e + nI i = nI (8 * e + i) := by rw [ix8, nI_add]
    refine bkX11_takes_7 (k1.1 ▸ F) (vp_in_nI (by omega) (by omega)) (fun q => ?_) (fun _ => ?_)
    · rw [nI_clamp (by omega), hE'.1] at q; exact absurd q (nI_ge hi (by omega))
    refine bkX11_takes_17 (k1.1 ▸ F) (by rw [ei]; exact (vp_in_nI (by omega) (by omega))) (vp_in_nI (by omega) (by omega)) ?_
    rw [ei, nI_clamp (by omega), nI_clamp (by omega), (hE'.lo hi).2.1, nI_1]
    refine ih _ ⟨k1.s (Or.inr rfl), fun j hj => by rw [sI_nb (by omega)]; exact k2 j hj, by rw [sI_nb (by omega)]; exact k3, fun k hk => ?_⟩
    by_cases z : k = i
    · subst z; rw [sI_at, csW_0]
    · rw [sI_nj z]; exact k4 k (by omega)
theorem c_worldOf (hE : EdC h e E) (ok : okE E) (F : LX1 (Sk h) c) (hcs : ∀ k, k < (eF E).length → hI h (c + 1) k = cs k) : Cd X mX1_worldOf [.ref c, .ref e] h 0 0 (oI (fun r t => t = h ∧ r = wOf E cs (eF E).length) nX) := by
  have hf : (eF E).length ≤ 8 := ok.2.1
  generalize hP : oI (fun r t => t = h ∧ r = wOf E cs (eF E).length) nX = P
  refine bkX1_worldOf_0 ?_
  refine for_up (G := fun i u => Gd X mX1_worldOf 4 [some (.ref c), some (.ref e), some (.int (wOf E cs i)), some (.int (nI i))] [] u 0 0 P) (I := fun _ t => t = h) (eF E).length ?_ ?_ 0 h (Nat.zero_le _) rfl
  · rintro t rfl
    refine bkX1_worldOf_4 hE.2.1 (fun _ => bkX1_worldOf_40 ?_) (fun q => absurd (by rw [hE.2.2.2.1]; exact (Int32.le_refl _)) q)
    rw [← hP]; exact ⟨rfl, rfl⟩
  · rintro i t hi rfl ih
    refine bkX1_worldOf_4 hE.2.1 (fun q => ?_) (fun _ => ?_)
    · rw [hE.2.2.2.1] at q; exact absurd q (nI_ge hi (by omega))
    refine bkX1_worldOf_12 hE.2.1 (c_spanOf hE ok hi) (fun r t9 hq => ?_)
    obtain ⟨rfl, rfl⟩ := hq
    refine bkX1_worldOf_18 F (vp_in_nI (by omega) (by omega)) hE.2.1 ?_
    rw [nI_clamp (by omega), (hE.lo hi).2.1, hcs i hi, nI_1]
    have := ih _ rfl
    unfold wOf at this
    rw [range_fold] at this
    exact this
theorem c_worldNow (hE : EdM h m e E) (ok : okE E) (F : LX11 (Sk h) m) (he : e ≤ 6) (h34 : hI h m 34 = nI e) (hcs : ∀ k, k < (eF E).length → hI h (m + 27) k = cs k) : Cd X mX11_worldNow [.ref m] h 0 0 (oI (fun r t => t = h ∧ r = wOf E cs (eF E).length) nX) := by
  have hf : (eF E).length ≤ 8 := ok.2.1
  generalize hP : oI (fun r t => t = h ∧ r = wOf E cs (eF E).length) nX = P
  refine bkX11_worldNow_0 F ?_
  rw [h34, ix8]
  refine for_up (G := fun i u => Gd X mX11_worldNow 10 [some (.ref m), some (.int (wOf E cs i)), some (.int (nI (8 * e + i)))] [] u 0 0 P) (I := fun _ t => t = h) (eF E).length ?_ ?_ 0 h (Nat.zero_le _) rfl
  · rintro t rfl
    refine bkX11_worldNow_10 F (by rw [h34]; exact (vp_in_nI (by omega) (by omega))) (fun _ => bkX11_worldNow_77 ?_) (fun q => absurd (by rw [h34, nI_clamp (by omega), hE.1, ix8, nI_add]; exact (Int32.le_refl _)) q)
    rw [← hP]; exact ⟨rfl, rfl⟩
  · rintro i t hi rfl ih
    refine bkX11_worldNow_10 F (by rw [h34]; exact (vp_in_nI (by omega) (by omega))) (fun q => ?_) (fun _ => ?_)
    · rw [h34, nI_clamp (by omega), hE.1, ix8, nI_add] at q; exact absurd q (nI_ge (by omega) (by omega))
    have e2 : nI (8 * e + i) - 8 * hI t m 34 = nI i := by rw [h34, ix8, pk_sub (by omega)]; congr 1; omega
    refine bkX11_worldNow_31 F (vp_in_nI (by omega) (by omega)) (by rw [e2]; exact (vp_in_nI (by omega) (by omega))) ?_
    rw [e2, nI_clamp (by omega), nI_clamp (by omega), (hE.lo hi).2.1, (hE.lo hi).2.2, span_nI ok hi, hcs i hi, nI_1, Nat.add_assoc]
    have := ih _ rfl
    unfold wOf at this
    rw [range_fold] at this
    exact this
theorem wpre {E : Edn} {i : Nat} (hi : i < (eF E).length) : (((eF E).take (i + 1)).map fspan).foldl (· * ·) 1 = (((eF E).take i).map fspan).foldl (· * ·) 1 * fspan (fa E i) := by
  rw [List.take_succ_eq_append_getElem hi, List.map_append, List.foldl_append, fa_at hi]; rfl
theorem c_worlds (hE : EdM h m e E) (ok : okE E) (F : LX11 (Sk h) m) (he : e ≤ 6) : Cd X mX11_worlds [.ref m, .int (nI e)] h 0 0 (oJ (fun r t => t = h ∧ r = lN (worlds E)) nX) := by
  have hf : (eF E).length ≤ 8 := ok.2.1
  generalize hP : oJ (fun r t => t = h ∧ r = lN (worlds E)) nX = P
  refine bkX11_worlds_0 ?_
  rw [ix8]
  refine for_up (G := fun i u => Gd X mX11_worlds 8 [some (.ref m), some (.int (nI e)), some (.long (lN ((((eF E).take i).map fspan).foldl (· * ·) 1))), none, some (.int (nI (8 * e + i)))] [] u 0 0 P) (I := fun _ t => t = h) (eF E).length ?_ ?_ 0 h (Nat.zero_le _) rfl
  · rintro t rfl
    refine bkX11_worlds_8 F (vp_in_nI (by omega) (by omega)) (fun _ => bkX11_worlds_51 ?_) (fun q => absurd (by rw [nI_clamp (by omega), hE.1, ix8, nI_add]; exact (Int32.le_refl _)) q)
    rw [← hP, List.take_length]; exact ⟨rfl, rfl⟩
  · rintro i t hi rfl ih
    refine bkX11_worlds_8 F (vp_in_nI (by omega) (by omega)) (fun q => ?_) (fun _ => ?_)
    · rw [nI_clamp (by omega), hE.1, ix8, nI_add] at q; exact absurd q (nI_ge (by omega) (by omega))
    have hb := ok_fact ok hi
    have h2 : fspan (fa E i) ≤ 100 := by unfold fspan; omega
    refine bkX11_worlds_24 F (vp_in_nI (by omega) (by omega)) ?_
    rw [nI_clamp (by omega), (hE.lo hi).2.1, (hE.lo hi).2.2, span_nI ok hi, nI_l (by omega), lN_mul, ← wpre hi, nI_1, Nat.add_assoc]
    exact ih _ rfl
theorem c_hasFact {x : Int32} (hE : EdC h e E) (ok : okE E) : Cd X mX3_hasFact [.ref e, .int x] h 0 0 (oI (fun r t => t = h ∧ r = bI (decide (0 ≤ x ∧ x < nI (eF E).length))) nX) := by
  refine bkX3_hasFact_0 (fun q => ?_) (fun q => ?_)
  · refine bkX3_hasFact_16 (bkX3_hasFact_17 (Or.inl rfl) ⟨rfl, ?_⟩)
    rw [decide_eq_false (fun z => absurd q (Int32.not_lt.mpr z.1))]; rfl
  · refine bkX3_hasFact_4 hE.2.1 (fun z => ?_) (fun z => ?_)
    · rw [hE.2.2.2.1] at z
      refine bkX3_hasFact_16 (bkX3_hasFact_17 (Or.inl rfl) ⟨rfl, ?_⟩)
      rw [decide_eq_false (fun y => absurd y.2 (Int32.not_lt.mpr z))]; rfl
    · rw [hE.2.2.2.1] at z
      refine bkX3_hasFact_12 (bkX3_hasFact_17 (Or.inr rfl) ⟨rfl, ?_⟩)
      rw [decide_eq_true ⟨Int32.not_lt.mp q, Int32.not_le.mp z⟩]; rfl
end WO
