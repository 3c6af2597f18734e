/-! ===== names; the same facts; free days ===== -/
theorem eb_ge {b : Nat} (hb : 26 < b) {w : List Nat} (hw : okW w) : b ^ (w.length - 1) ≤ eb b w := by
  have hlt : ∀ l ∈ w, l < b := fun l hl => by have := hw.2.2 l hl; omega
  have h1 := hw.1
  have hd := eb_div (b := b) (by omega) hlt (j := w.length - 1) (by omega)
  have hw0 := (hw.2.2 _ (List.getElem_mem (show 0 < w.length by omega))).1
  have e1 : w.take (w.length - (w.length - 1)) = [w[0]] := by
    rw [show w.length - (w.length - 1) = 0 + 1 by omega, List.take_succ_eq_append_getElem (by omega)]; rfl
  rw [e1] at hd
  have e2 : eb b [w[0]] = w[0] := by simp [eb]
  rw [e2] at hd
  rcases Nat.lt_or_ge (eb b w) (b ^ (w.length - 1)) with y | y
  · rw [Nat.div_eq_of_lt y] at hd; omega
  · exact y
theorem eb_inj {b : Nat} (hb : 26 < b) {v w : List Nat} (hv : okW v) (hw : okW w) (e : eb b v = eb b w) : v = w := by
  have lv : ∀ l ∈ v, l < b := fun l hl => by have := hv.2.2 l hl; omega
  have lw : ∀ l ∈ w, l < b := fun l hl => by have := hw.2.2 l hl; omega
  have hl : v.length = w.length := by
    have a1 := eb_ge hb hv
    have a2 := eb_lt (b := b) (by omega) v lv
    have b1 := eb_ge hb hw
    have b2 := eb_lt (b := b) (by omega) w lw
    have h1 := hv.1
    have h2 := hw.1
    rcases Nat.lt_trichotomy v.length w.length with q | q | q
    · have : b ^ v.length ≤ b ^ (w.length - 1) := Nat.pow_le_pow_right (by omega) (by omega)
      omega
    · exact q
    · have : b ^ w.length ≤ b ^ (v.length - 1) := Nat.pow_le_pow_right (by omega) (by omega)
      omega
  refine List.ext_getElem hl (fun i h1 h2 => ?_)
  have e1 := eb_dig (b := b) (by omega) lv (j := w.length - 1 - i) (by omega)
  have e2 := eb_dig (b := b) (by omega) lw (j := w.length - 1 - i) (by omega)
  rw [e, e2] at e1
  have i1 : w.length - 1 - (w.length - 1 - i) = i := by omega
  have i2 : v.length - 1 - (w.length - 1 - i) = i := by omega
  simp only [i1, i2] at e1
  exact e1.symm
theorem enc32_inj {v w : List Nat} (hv : okW v) (hw : okW w) : enc32 v = enc32 w ↔ v = w := by
  rw [enc32_eb, enc32_eb, pk_lEQ (eb_63 (Or.inl rfl) hv) (eb_63 (Or.inl rfl) hw)]
  exact ⟨eb_inj (by decide) hv hw, fun e => by rw [e]⟩
theorem enc37_inj {v w : List Nat} (hv : okW v) (hw : okW w) : enc37 v = enc37 w ↔ v = w := by
  rw [enc37_eb, enc37_eb, pk_lEQ (eb_63 (Or.inr rfl) hv) (eb_63 (Or.inr rfl) hw)]
  exact ⟨eb_inj (by decide) hv hw, fun e => by rw [e]⟩
theorem fa_ext {E E2 : Edn} (hl : (eF E).length = (eF E2).length) (h : ∀ k, k < (eF E).length → fa E k = fa E2 k) : eF E = eF E2 := by
  refine List.ext_getElem hl (fun i h1 h2 => ?_)
  have := h i h1
  rw [fa_at h1, fa_at h2] at this; exact this
section SA
variable {X : GX} {h : SH} {a e c m b e2 : Nat} {E E2 : Edn} {cs : Nat → Int32} {L : List Nat}
theorem c_hasFactsOf (hE : EdC h e E) (ok : okE E) (hE2 : EdC h e2 E2) (ok2 : okE E2) : Cd X mX3_hasFactsOf [.ref e, .ref e2] h 0 0 (oI (fun r t => t = h ∧ r = bI (decide (eF E = eF E2))) nX) := by
  have hf : (eF E).length ≤ 8 := ok.2.1
  have hf2 : (eF E2).length ≤ 8 := ok2.2.1
  generalize hP : oI (fun r t => t = h ∧ r = bI (decide (eF E = eF E2))) nX = P
  refine bkX3_hasFactsOf_0 hE.2.1 hE2.2.1 (fun q => ?_) (fun q => ?_)
  · rw [hE.2.2.2.1, hE2.2.2.2.1, nI_eq (by omega) (by omega)] at q
    refine bkX3_hasFactsOf_13 ?_
    refine for_up (G := fun i u => Gd X mX3_hasFactsOf 15 [some (.ref e), some (.ref e2), some (.int (nI i)), none] [] u 0 0 P) (I := fun i u => u = h ∧ ∀ k, k < i → fa E k = fa E2 k) (eF E).length ?_ ?_ 0 h (Nat.zero_le _) ⟨rfl, fun k hk => absurd hk (Nat.not_lt_zero _)⟩
    · rintro u ⟨rfl, hlo⟩
      refine bkX3_hasFactsOf_15 hE.2.1 (fun _ => bkX3_hasFactsOf_87 ?_) (fun z => absurd (by rw [hE.2.2.2.1]; exact (Int32.le_refl _)) z)
      rw [← hP]
      exact ⟨rfl, by rw [decide_eq_true (fa_ext q hlo)]; rfl⟩
    · rintro i u hi ⟨rfl, hlo⟩ ih
      have hi2 : i < (eF E2).length := by omega
      have l1 := hE.lo hi
      have l2 := hE2.lo hi2
      have b1 := ok_fact ok hi
      have b2 := ok_fact ok2 hi2
      refine bkX3_hasFactsOf_15 hE.2.1 (fun z => ?_) (fun _ => ?_)
      · rw [hE.2.2.2.1] at z; exact absurd z (nI_ge hi (by omega))
      have no : ¬ fa E i = fa E2 i → Gd X mX3_hasFactsOf 73 [some (.ref e), some (.ref e2), some (.int (nI i)), none] [] u 0 0 P := fun z => by
        refine bkX3_hasFactsOf_73 (bkX3_hasFactsOf_74 (fun y => absurd rfl y) (fun _ => bkX3_hasFactsOf_79 ?_))
        rw [← hP]
        refine ⟨rfl, ?_⟩
        rw [decide_eq_false (fun y => z (by unfold fa; rw [y]))]; rfl
      refine bkX3_hasFactsOf_23 hE.2.1 (vp_in_nI (by omega) (by omega)) hE2.2.1 (fun z => ?_) (fun z1 => ?_)
      · rw [nI_clamp (by omega), l1.1, l2.1, lg_cmp_eq, enc32_inj (ok_fname ok hi) (ok_fname ok2 hi2)] at z
        exact no (fun y => z (by rw [y]))
      rw [nI_clamp (by omega), l1.1, l2.1, lg_cmp_eq, enc32_inj (ok_fname ok hi) (ok_fname ok2 hi2)] at z1
      refine bkX3_hasFactsOf_39 hE.2.1 (vp_in_nI (by omega) (by omega)) hE2.2.1 (fun z => ?_) (fun z2 => ?_)
      · rw [nI_clamp (by omega), l1.2.1, l2.2.1, nI_eq (by omega) (by omega)] at z
        exact no (fun y => z (by rw [y]))
      rw [nI_clamp (by omega), l1.2.1, l2.2.1, nI_eq (by omega) (by omega)] at z2
      refine bkX3_hasFactsOf_54 hE.2.1 (vp_in_nI (by omega) (by omega)) hE2.2.1 (fun z => ?_) (fun z3 => ?_)
      · rw [nI_clamp (by omega), l1.2.2, l2.2.2, nI_eq (by omega) (by omega)] at z
        exact no (fun y => z (by rw [y]))
      rw [nI_clamp (by omega), l1.2.2, l2.2.2, nI_eq (by omega) (by omega)] at z3
      refine bkX3_hasFactsOf_69 (bkX3_hasFactsOf_74 (fun _ => bkX3_hasFactsOf_81 ?_) (fun y => absurd y (by decide)))
      rw [nI_1]
      refine ih u ⟨rfl, fun k hk => ?_⟩
      rcases Nat.lt_or_ge k i with y | y
      · exact hlo k y
      · have : k = i := by omega
        subst this
        exact Prod.ext z1 (Prod.ext z2 z3)
  · rw [hE.2.2.2.1, hE2.2.2.2.1, nI_eq (by omega) (by omega)] at q
    refine bkX3_hasFactsOf_11 ?_
    rw [← hP]
    exact ⟨rfl, by rw [decide_eq_false (fun y => q (by rw [y]))]; rfl⟩
theorem c_haveSameFacts (F : LX11 (Sk h) m) (hE : EdM h m e E) (ok : okE E) (hE2 : EdM h m e2 E2) (ok2 : okE E2) (he : e ≤ 6) (he2 : e2 ≤ 6) : Cd X mX11_haveSameFacts [.ref m, .int (nI e), .int (nI e2)] h 0 0 (oI (fun r t => t = h ∧ r = bI (decide (eF E = eF E2))) nX) := by
  have hf : (eF E).length ≤ 8 := ok.2.1
  have hf2 : (eF E2).length ≤ 8 := ok2.2.1
  generalize hP : oI (fun r t => t = h ∧ r = bI (decide (eF E = eF E2))) nX = P
  have ei : ∀ i, (8 : Int32) * nI e + nI i = nI (8 * e + i) := fun i => by rw [ix8, nI_add]
  have ei2 : ∀ i, (8 : Int32) * nI e2 + nI i = nI (8 * e2 + i) := fun i => by rw [ix8, nI_add]
  have out : ∀ b : Bool, b = decide (eF E = eF E2) → Gd X mX11_haveSameFacts 133 [none, none, none, some (.int (bI b)), none] [] h 0 0 P := fun b hb => bkX11_haveSameFacts_133 (bI_01 b) (by rw [← hP]; exact ⟨rfl, by rw [hb]⟩)
  have key : ∀ b : Bool, b = decide ((eF E).length = (eF E2).length) → Gd X mX11_haveSameFacts 20 [some (.ref m), some (.int (nI e)), some (.int (nI e2)), none, none] [.int (bI b)] h 0 0 P := fun b hb => by
    refine bkX11_haveSameFacts_20 ?_
    refine for_up (G := fun i u => ∀ b : Bool, b = decide ((eF E).length = (eF E2).length ∧ ∀ k, k < i → fa E k = fa E2 k) → Gd X mX11_haveSameFacts 24 [some (.ref m), some (.int (nI e)), some (.int (nI e2)), some (.int (bI b)), some (.int (nI i))] [] u 0 0 P) (I := fun i u => u = h) (eF E).length ?_ ?_ 0 h (Nat.zero_le _) rfl b (by rw [hb]; congr 1; exact propext ⟨fun z => ⟨z, fun k hk => absurd hk (Nat.not_lt_zero _)⟩, fun z => z.1⟩)
    · rintro u rfl b hb
      refine bkX11_haveSameFacts_24 F (vp_in_nI (by omega) (by omega)) (fun _ => out b ?_) (fun z => absurd (by rw [nI_clamp (by omega), hE.1]; exact (Int32.le_refl _)) z)
      rw [hb]; congr 1; exact propext ⟨fun z => fa_ext z.1 z.2, fun z => ⟨by rw [z], fun k _ => by unfold fa; rw [z]⟩⟩
    · rintro i u hi rfl ih b hb
      refine bkX11_haveSameFacts_24 F (vp_in_nI (by omega) (by omega)) (fun z => ?_) (fun _ => ?_)
      · rw [nI_clamp (by omega), hE.1] at z; exact absurd z (nI_ge hi (by omega))
      refine bkX11_haveSameFacts_35 (fun z => ?_) (fun z => ?_)
      · rw [bI_0] at z
        refine out b ?_
        rw [z] at hb ⊢
        have := of_decide_eq_false hb.symm
        exact (decide_eq_false (fun y => this ⟨by rw [y], fun k _ => by unfold fa; rw [y]⟩)).symm
      rw [bI_0] at z
      have hbt : b = true := by simpa using z
      rw [hbt] at hb
      have hlo := of_decide_eq_true hb.symm
      have hi2 : i < (eF E2).length := by have := hlo.1; omega
      have l1 := hE.lo hi
      have l2 := hE2.lo hi2
      have b1 := ok_fact ok hi
      have b2 := ok_fact ok2 hi2
      have nx : ∀ b : Bool, b = decide (fa E i = fa E2 i) → Gd X mX11_haveSameFacts 126 [some (.ref m), some (.int (nI e)), some (.int (nI e2)), none, some (.int (nI i))] [.int (bI b)] u 0 0 P := fun b hb => by
        refine bkX11_haveSameFacts_126 ?_
        rw [nI_1]
        refine ih u rfl b ?_
        rw [hb]; congr 1
        refine propext ⟨fun y => ⟨hlo.1, fun k hk => ?_⟩, fun y => y.2 i (by omega)⟩
        rcases Nat.lt_or_ge k i with w | w
        · exact hlo.2 k w
        · have : k = i := by omega
          subst this; exact y
      have no : ¬ fa E i = fa E2 i → Gd X mX11_haveSameFacts 125 [some (.ref m), some (.int (nI e)), some (.int (nI e2)), none, some (.int (nI i))] [] u 0 0 P := fun y => bkX11_haveSameFacts_125 (nx false (decide_eq_false y).symm)
      refine bkX11_haveSameFacts_39 F (by rw [ei]; exact (vp_in_nI (by omega) (by omega))) (by rw [ei2]; exact (vp_in_nI (by omega) (by omega))) (fun z => ?_) (fun z1 => ?_)
      · rw [ei, ei2, nI_clamp (by omega), nI_clamp (by omega), l1.1, l2.1, lg_cmp_eq, enc37_inj (ok_fname ok hi) (ok_fname ok2 hi2)] at z
        exact no (fun y => z (by rw [y]))
      rw [ei, ei2, nI_clamp (by omega), nI_clamp (by omega), l1.1, l2.1, lg_cmp_eq, enc37_inj (ok_fname ok hi) (ok_fname ok2 hi2)] at z1
      refine bkX11_haveSameFacts_67 F (by rw [ei]; exact (vp_in_nI (by omega) (by omega))) (by rw [ei2]; exact (vp_in_nI (by omega) (by omega))) (fun z => ?_) (fun z2 => ?_)
      · rw [ei, ei2, nI_clamp (by omega), nI_clamp (by omega), l1.2.1, l2.2.1, nI_eq (by omega) (by omega)] at z
        exact no (fun y => z (by rw [y]))
      rw [ei, ei2, nI_clamp (by omega), nI_clamp (by omega), l1.2.1, l2.2.1, nI_eq (by omega) (by omega)] at z2
      refine bkX11_haveSameFacts_94 F (by rw [ei]; exact (vp_in_nI (by omega) (by omega))) (by rw [ei2]; exact (vp_in_nI (by omega) (by omega))) (fun z => ?_) (fun z3 => ?_)
      · rw [ei, ei2, nI_clamp (by omega), nI_clamp (by omega), l1.2.2, l2.2.2, nI_eq (by omega) (by omega)] at z
        exact no (fun y => z (by rw [y]))
      rw [ei, ei2, nI_clamp (by omega), nI_clamp (by omega), l1.2.2, l2.2.2, nI_eq (by omega) (by omega)] at z3
      exact bkX11_haveSameFacts_121 (nx true (decide_eq_true (Prod.ext z1 (Prod.ext z2 z3))).symm)
  refine bkX11_haveSameFacts_0 F (vp_in_nI (by omega) (by omega)) (vp_in_nI (by omega) (by omega)) (fun q => ?_) (fun q => ?_)
  · rw [nI_clamp (by omega), nI_clamp (by omega), hE.1, hE2.1, nI_eq (by omega) (by omega)] at q
    exact bkX11_haveSameFacts_19 (key false (decide_eq_false q).symm)
  · rw [nI_clamp (by omega), nI_clamp (by omega), hE.1, hE2.1, nI_eq (by omega) (by omega)] at q
    exact bkX11_haveSameFacts_15 (key true (decide_eq_true q).symm)
theorem c_keepsFacts {v : Bool} (F : LX11 (Sk h) m) : Cd X mX11_keepsFacts [.ref m, .int (bI v)] h 0 0 (oV (fun t => if v then chI (· = m + 27) h t ∧ ∀ k, k < 8 → hI t (m + 27) k = hI h (m + 36) k else chI (· = m + 36) h t ∧ ∀ k, k < 8 → hI t (m + 36) k = hI h (m + 27) k) nX) := by
  generalize hP : oV (fun t => if v then chI (· = m + 27) h t ∧ ∀ k, k < 8 → hI t (m + 27) k = hI h (m + 36) k else chI (· = m + 36) h t ∧ ∀ k, k < 8 → hI t (m + 36) k = hI h (m + 27) k) nX = P
  refine bkX11_keepsFacts_0 ?_
  cases v with
  | true =>
    refine for_up (G := fun i u => Gd X mX11_keepsFacts 2 [some (.ref m), some (.int (bI true)), some (.int (nI i))] [] u 0 0 P) (I := fun i t => chI (· = m + 27) h t ∧ ∀ k, k < i → hI t (m + 27) k = hI h (m + 36) k) 8 ?_ ?_ 0 h (Nat.zero_le _) ⟨chI.rf, fun k hk => absurd hk (Nat.not_lt_zero _)⟩
    · rintro t k
      refine bkX11_keepsFacts_2 (fun _ => bkX11_keepsFacts_45 ?_) (fun q => absurd (Int32.le_refl _) q)
      rw [← hP]; exact k
    · rintro i t hi ⟨k1, k2⟩ ih
      refine bkX11_keepsFacts_2 (fun q => ?_) (fun _ => ?_)
      · rw [n8] at q; exact absurd q (nI_ge hi (by omega))
      refine bkX11_keepsFacts_8 (fun q => absurd q (by decide)) (fun _ => ?_)
      refine bkX11_keepsFacts_12 (k1.1 ▸ F) (vp_in_nI (by omega) (by omega)) ?_
      rw [nI_clamp (by omega), k1.2.2 (m + 36) (by omega)]
      refine bkX11_keepsFacts_39 ?_
      rw [nI_1]
      refine ih _ ⟨k1.s rfl, fun k hk => ?_⟩
      by_cases z : k = i
      · subst z; rw [sI_at]
      · rw [sI_nj z]; exact k2 k (by omega)
  | false =>
    refine for_up (G := fun i u => Gd X mX11_keepsFacts 2 [some (.ref m), some (.int (bI false)), some (.int (nI i))] [] u 0 0 P) (I := fun i t => chI (· = m + 36) h t ∧ ∀ k, k < i → hI t (m + 36) k = hI h (m + 27) k) 8 ?_ ?_ 0 h (Nat.zero_le _) ⟨chI.rf, fun k hk => absurd hk (Nat.not_lt_zero _)⟩
    · rintro t k
      refine bkX11_keepsFacts_2 (fun _ => bkX11_keepsFacts_45 ?_) (fun q => absurd (Int32.le_refl _) q)
      rw [← hP]; exact k
    · rintro i t hi ⟨k1, k2⟩ ih
      refine bkX11_keepsFacts_2 (fun q => ?_) (fun _ => ?_)
      · rw [n8] at q; exact absurd q (nI_ge hi (by omega))
      refine bkX11_keepsFacts_8 (fun _ => ?_) (fun q => absurd (by decide) q)
      refine bkX11_keepsFacts_27 (k1.1 ▸ F) (vp_in_nI (by omega) (by omega)) ?_
      rw [nI_clamp (by omega), k1.2.2 (m + 27) (by omega)]
      refine bkX11_keepsFacts_39 ?_
      rw [nI_1]
      refine ih _ ⟨k1.s rfl, fun k hk => ?_⟩
      by_cases z : k = i
      · subst z; rw [sI_at]
      · rw [sI_nj z]; exact k2 k (by omega)
/-- free days put in, taken out -/
abbrev addF (L : List Nat) (d : Nat) : List Nat := L.take (fnb L d) ++ d :: L.drop (fnb L d)
abbrev remF (L : List Nat) (d : Nat) : List Nat := L.take (fnb L d) ++ L.drop (fnb L d + 1)
theorem fnb_ok : ∀ {L : List Nat} {d : Nat}, L.Pairwise (· < ·) → fnb L d ≤ L.length ∧ (∀ (j : Nat) (hj : j < L.length), j < fnb L d → L[j] < d) ∧ ∀ (j : Nat) (hj : j < L.length), fnb L d ≤ j → d ≤ L[j]
  | [], d, _ => ⟨Nat.le_refl _, fun j hj => absurd hj (Nat.not_lt_zero _), fun j hj => absurd hj (Nat.not_lt_zero _)⟩
  | a :: l, d, hs => by
    have h2 := List.pairwise_cons.mp hs
    obtain ⟨i1, i2, i3⟩ := fnb_ok (d := d) h2.2
    by_cases q : a < d
    · have e : fnb (a :: l) d = fnb l d + 1 := by unfold fnb; rw [List.filter_cons, if_pos (by simpa using q)]; rfl
      rw [e]
      refine ⟨by simp; omega, fun j hj hjl => ?_, fun j hj hjl => ?_⟩
      · cases j with
        | zero => exact q
        | succ j => exact i2 j (by simpa using hj) (by omega)
      · cases j with
        | zero => omega
        | succ j => exact i3 j (by simpa using hj) (by omega)
    · have e : fnb (a :: l) d = 0 := by
        unfold fnb
        rw [List.length_eq_zero_iff, List.filter_eq_nil_iff]
        intro x hx
        rcases List.mem_cons.mp hx with z | z
        · subst z; simpa using q
        · have := h2.1 x z; simp; omega
      rw [e]
      refine ⟨Nat.zero_le _, fun j hj hjl => absurd hjl (Nat.not_lt_zero _), fun j hj _ => ?_⟩
      cases j with
      | zero => show d ≤ a; omega
      | succ j =>
        have hj' : j < l.length := by simpa using hj
        have := h2.1 _ (List.getElem_mem hj')
        show d ≤ l[j]; omega
theorem fnb_mem {L : List Nat} {d : Nat} (hs : L.Pairwise (· < ·)) : d ∈ L ↔ ∃ h : fnb L d < L.length, L[fnb L d] = d := by
  obtain ⟨i1, i2, i3⟩ := fnb_ok (d := d) hs
  refine ⟨fun hm => ?_, fun ⟨h1, h2⟩ => h2 ▸ List.getElem_mem h1⟩
  obtain ⟨j, hj, e⟩ := List.mem_iff_getElem.mp hm
  rcases Nat.lt_trichotomy j (fnb L d) with q | q | q
  · have := i2 j hj q; omega
  · subst q; exact ⟨hj, e⟩
  · have h1 := i3 (fnb L d) (by omega) (Nat.le_refl _)
    have h2 := List.pairwise_iff_getElem.mp hs (fnb L d) j (by omega) hj q
    omega
theorem addF_get {L : List Nat} {d i : Nat} (hs : L.Pairwise (· < ·)) (hi : i < (addF L d).length) : (addF L d)[i] = if h1 : i < fnb L d then L[i]'(by have := (fnb_ok (d := d) hs).1; omega) else if h2 : i = fnb L d then d else L[i - 1]'(by unfold addF at hi; rw [List.length_append, List.length_take, List.length_cons, List.length_drop] at hi; have := (fnb_ok (d := d) hs).1; omega) := by
  have h0 := (fnb_ok (d := d) hs).1
  have hl : (L.take (fnb L d)).length = fnb L d := by rw [List.length_take]; omega
  unfold addF
  by_cases h1 : i < fnb L d
  · rw [dif_pos h1, List.getElem_append_left (by omega), List.getElem_take]
  · rw [dif_neg h1, List.getElem_append_right (by omega)]
    by_cases h2 : i = fnb L d
    · rw [dif_pos h2]
      have : i - (L.take (fnb L d)).length = 0 := by omega
      simp only [this]; rfl
    · rw [dif_neg h2]
      have e : i - (L.take (fnb L d)).length = (i - 1 - fnb L d) + 1 := by omega
      simp only [e, List.getElem_cons_succ]
      rw [List.getElem_drop]
      congr 1; omega
theorem addF_len {L : List Nat} {d : Nat} (hs : L.Pairwise (· < ·)) : (addF L d).length = L.length + 1 := by
  have := (fnb_ok (d := d) hs).1
  unfold addF; rw [List.length_append, List.length_take, List.length_cons, List.length_drop]; omega
theorem addF_mem {L : List Nat} {d x : Nat} : x ∈ addF L d ↔ x = d ∨ x ∈ L := by
  unfold addF
  rw [List.mem_append, List.mem_cons]
  conv => rhs; rw [← List.take_append_drop (fnb L d) L, List.mem_append]
  constructor
  · rintro (q | q | q)
    · exact Or.inr (Or.inl q)
    · exact Or.inl q
    · exact Or.inr (Or.inr q)
  · rintro (q | q | q)
    · exact Or.inr (Or.inl q)
    · exact Or.inl q
    · exact Or.inr (Or.inr q)
theorem addF_ok {L : List Nat} {d : Nat} (hs : L.Pairwise (· < ·)) (hn : d ∉ L) : (addF L d).Pairwise (· < ·) := by
  obtain ⟨i1, i2, i3⟩ := fnb_ok (d := d) hs
  have hp := hs
  rw [← List.take_append_drop (fnb L d) L, List.pairwise_append] at hp
  have ht : ∀ x ∈ L.take (fnb L d), x < d := fun x hx => by
    obtain ⟨j, hj, rfl⟩ := List.mem_iff_getElem.mp hx
    rw [List.length_take] at hj
    rw [List.getElem_take]; exact i2 j (by omega) (by omega)
  have hdp : ∀ x ∈ L.drop (fnb L d), d < x := fun x hx => by
    obtain ⟨j, hj, rfl⟩ := List.mem_iff_getElem.mp hx
    rw [List.length_drop] at hj
    rw [List.getElem_drop]
    have h1 := i3 (fnb L d + j) (by omega) (by omega)
    have h2 : L[fnb L d + j] ≠ d := fun z => hn (z ▸ List.getElem_mem _)
    omega
  unfold addF
  rw [List.pairwise_append, List.pairwise_cons]
  refine ⟨hp.1, ⟨hdp, hp.2.1⟩, fun x hx y hy => ?_⟩
  rcases List.mem_cons.mp hy with z | z
  · rw [z]; exact ht x hx
  · exact Nat.lt_trans (ht x hx) (hdp y z)
theorem remF_sub {L : List Nat} {d x : Nat} (h : x ∈ remF L d) : x ∈ L := by
  unfold remF at h
  rcases List.mem_append.mp h with q | q
  · exact List.mem_of_mem_take q
  · exact List.mem_of_mem_drop q
theorem remF_mem {L : List Nat} {d x : Nat} (hs : L.Pairwise (· < ·)) (hm : d ∈ L) : x ∈ remF L d ↔ x ≠ d ∧ x ∈ L := by
  obtain ⟨h1, h2⟩ := (fnb_mem hs).mp hm
  have e : L = L.take (fnb L d) ++ (d :: L.drop (fnb L d + 1)) := by
    conv => lhs; rw [← List.take_append_drop (fnb L d) L, List.drop_eq_getElem_cons h1, h2]
  have hp := hs
  rw [e, List.pairwise_append, List.pairwise_cons] at hp
  constructor
  · intro hx
    refine ⟨fun z => ?_, remF_sub hx⟩
    subst z
    unfold remF at hx
    rcases List.mem_append.mp hx with q | q
    · exact Nat.lt_irrefl _ (hp.2.2 x q x (List.mem_cons_self ..))
    · exact Nat.lt_irrefl _ (hp.2.1.1 x q)
  · rintro ⟨q1, q2⟩
    rw [e] at q2
    unfold remF
    rcases List.mem_append.mp q2 with q | q
    · exact List.mem_append_left _ q
    · rcases List.mem_cons.mp q with z | z
      · exact absurd z q1
      · exact List.mem_append_right _ z
theorem remF_ok {L : List Nat} {d : Nat} (hs : L.Pairwise (· < ·)) : (remF L d).Pairwise (· < ·) := by
  have hp := hs
  rw [← List.take_append_drop (fnb L d) L, List.pairwise_append] at hp
  unfold remF
  rw [List.pairwise_append]
  have hsub : ∀ x ∈ L.drop (fnb L d + 1), x ∈ L.drop (fnb L d) := fun x hx => by
    rw [← List.drop_drop] at hx; exact List.mem_of_mem_drop hx
  refine ⟨hp.1, ?_, fun x hx y hy => hp.2.2 x hx y (hsub y hy)⟩
  rw [← List.drop_drop]
  exact hp.2.1.drop
theorem remF_len {L : List Nat} {d : Nat} (h : fnb L d < L.length) : (remF L d).length = L.length - 1 := by
  unfold remF; rw [List.length_append, List.length_take, List.length_drop]; omega
theorem remF_get {L : List Nat} {d i : Nat} (h : fnb L d < L.length) (hi : i < (remF L d).length) : (remF L d)[i] = if h1 : i < fnb L d then L[i]'(by omega) else L[i + 1]'(by rw [remF_len h] at hi; omega) := by
  have hl : (L.take (fnb L d)).length = fnb L d := by rw [List.length_take]; omega
  unfold remF
  by_cases h1 : i < fnb L d
  · rw [dif_pos h1, List.getElem_append_left (by omega), List.getElem_take]
  · rw [dif_neg h1, List.getElem_append_right (by omega), List.getElem_drop]
    congr 1; omega
abbrev caS (a : Nat) : Nat → Prop := fun b => b = a ∨ b = a + 1
theorem c_addFree {d : Nat} (C : CalR h a L) (hd : d ≤ 9999) : Cd X mX0_addFree [.ref a, .int (nI d)] h 0 0 (oI (fun r t => chI (caS a) h t ∧ if L.length = 40 ∨ d ∈ L then r = 0 ∧ t = h else r = 1 ∧ CalR t a (addF L d)) nX) := by
  have C0 := C
  obtain ⟨F, hc, hl, hv, hs, hm⟩ := C
  obtain ⟨i1, i2, i3⟩ := fnb_ok (d := d) hs
  generalize hP : oI (fun r t => chI (caS a) h t ∧ if L.length = 40 ∨ d ∈ L then r = 0 ∧ t = h else r = 1 ∧ CalR t a (addF L d)) nX = P
  have no : L.length = 40 ∨ d ∈ L → Gd X mX0_addFree 33 [none, none, none, none] [] h 0 0 P := fun q => bkX0_addFree_33 (by rw [← hP]; refine ⟨chI.rf, ?_⟩; rw [if_pos q]; exact ⟨rfl, rfl⟩)
  refine bkX0_addFree_0 F (c_firstNotBelow C0 hd) (fun r t hq => ?_)
  obtain ⟨rfl, rfl⟩ := hq
  refine bkX0_addFree_5 F (fun q => ?_) (fun q40 => ?_)
  · rw [hc, n40, nI_leI (by omega) (by omega)] at q; exact no (Or.inl (by omega))
  rw [hc, n40, nI_leI (by omega) (by omega)] at q40
  have yes : d ∉ L → Gd X mX0_addFree 35 [some (.ref a), some (.int (nI d)), some (.int (nI (fnb L d))), none] [] t 0 0 P := fun hn => by
    refine bkX0_addFree_35 F ?_
    rw [hc]
    have key : ∀ (k : Nat) (u : SH), k + fnb L d ≤ L.length → chI (caS a) t u → hI u a 1 = hI t a 1 → (∀ (j : Nat) (hj : j < L.length), j < k + fnb L d → hI u (a + 1) j = nI L[j]) → (∀ (j : Nat) (hj : j < L.length), k + fnb L d ≤ j → hI u (a + 1) (j + 1) = nI L[j]) → Gd X mX0_addFree 40 [some (.ref a), some (.int (nI d)), some (.int (nI (fnb L d))), some (.int (nI (k + fnb L d)))] [] u 0 0 P := by
      intro k
      induction k with
      | zero =>
        intro u hk k1 k2 k3 k4
        rw [Nat.zero_add] at k3 k4 ⊢
        refine bkX0_addFree_40 (fun _ => ?_) (fun q => absurd (Int32.le_refl _) q)
        refine bkX0_addFree_65 (k1.1 ▸ F) (vp_in_nI (by omega) (by omega)) ?_
        rw [nI_clamp (by omega), sI_nb (by omega), k2, hc, nI_1]
        rw [← hP]
        refine ⟨(k1.s (Or.inr rfl)).s (Or.inl rfl), ?_⟩
        rw [if_neg (fun z => z.elim (fun y => by omega) (fun y => hn y))]
        refine ⟨rfl, k1.1 ▸ F, ?_, ?_, fun i hi => ?_, addF_ok hs hn, fun x hx => ?_⟩
        · rw [sI_at, addF_len hs]
        · rw [addF_len hs]; omega
        · rw [addF_len hs] at hi
          rw [sI_nb (by omega), addF_get hs]
          by_cases h1 : i < fnb L d
          · rw [dif_pos h1, sI_nj (by omega)]; exact k3 i _ h1
          · rw [dif_neg h1]
            by_cases h2 : i = fnb L d
            · rw [dif_pos h2, h2, sI_at]
            · rw [dif_neg h2, sI_nj h2]
              have := k4 (i - 1) (by omega) (by omega)
              rw [show i - 1 + 1 = i by omega] at this; exact this
        · rcases addF_mem.mp hx with z | z
          · omega
          · exact hm x z
      | succ k ih =>
        intro u hk k1 k2 k3 k4
        have e : k + 1 + fnb L d = (k + fnb L d) + 1 := by omega
        refine bkX0_addFree_40 (fun q => ?_) (fun _ => ?_)
        · rw [nI_leI (by omega) (by omega)] at q; omega
        have e1 : nI (k + 1 + fnb L d) - 1 = nI (k + fnb L d) := by rw [e, nI_pred]
        refine bkX0_addFree_45 (k1.1 ▸ F) (by rw [e1]; exact (vp_in_nI (by omega) (by omega))) (vp_in_nI (by omega) (by omega)) ?_
        rw [e1, nI_clamp (by omega), nI_clamp (by omega), k3 (k + fnb L d) (by omega) (by omega), e, pk_m1]
        refine ih _ (by omega) (k1.s (Or.inr rfl)) (by rw [sI_nb (by omega)]; exact k2) (fun j hj hjk => by rw [sI_nj (by omega)]; exact k3 j hj (by omega)) (fun j hj hjk => ?_)
        by_cases z : j = k + fnb L d
        · subst z; rw [sI_at]
        · rw [sI_nj (by omega)]; exact k4 j hj (by omega)
    have := key (L.length - fnb L d) t (by omega) chI.rf rfl (fun j hj _ => hv j hj) (fun j hj hjk => by omega)
    rw [show L.length - fnb L d + fnb L d = L.length by omega] at this
    exact this
  refine bkX0_addFree_15 F (fun q => ?_) (fun q => ?_)
  · rw [hc, nI_leI (by omega) (by omega)] at q
    exact yes (fun z => by obtain ⟨h1, _⟩ := (fnb_mem hs).mp z; omega)
  · rw [hc, nI_leI (by omega) (by omega)] at q
    have hlt : fnb L d < L.length := by omega
    have hb := hm _ (List.getElem_mem hlt)
    refine bkX0_addFree_23 F (vp_in_nI (by omega) (by omega)) (fun z => ?_) (fun z => ?_)
    · rw [nI_clamp (by omega), hv _ hlt, nI_eq (by omega) (by omega)] at z
      exact yes (fun y => by obtain ⟨h1, h2⟩ := (fnb_mem hs).mp y; exact z h2)
    · rw [nI_clamp (by omega), hv _ hlt, nI_eq (by omega) (by omega)] at z
      exact no (Or.inr ((fnb_mem hs).mpr ⟨hlt, z⟩))
theorem c_removeFree {d : Nat} (C : CalR h a L) (hd : d ≤ 9999) : Cd X mX0_removeFree [.ref a, .int (nI d)] h 0 0 (oI (fun r t => chI (caS a) h t ∧ if d ∈ L then r = 1 ∧ CalR t a (remF L d) else r = 0 ∧ t = h) nX) := by
  have C0 := C
  obtain ⟨F, hc, hl, hv, hs, hm⟩ := C
  obtain ⟨i1, i2, i3⟩ := fnb_ok (d := d) hs
  generalize hP : oI (fun r t => chI (caS a) h t ∧ if d ∈ L then r = 1 ∧ CalR t a (remF L d) else r = 0 ∧ t = h) nX = P
  have no : d ∉ L → Gd X mX0_removeFree 24 [none, none, none, none] [] h 0 0 P := fun q => bkX0_removeFree_24 (by rw [← hP]; refine ⟨chI.rf, ?_⟩; rw [if_neg q]; exact ⟨rfl, rfl⟩)
  refine bkX0_removeFree_0 F (c_firstNotBelow C0 hd) (fun r t hq => ?_)
  obtain ⟨rfl, rfl⟩ := hq
  refine bkX0_removeFree_5 F (fun q => ?_) (fun q => ?_)
  · rw [hc, nI_leI (by omega) (by omega)] at q
    exact no (fun z => by obtain ⟨h1, _⟩ := (fnb_mem hs).mp z; omega)
  rw [hc, nI_leI (by omega) (by omega)] at q
  have hlt : fnb L d < L.length := by omega
  have hb := hm _ (List.getElem_mem hlt)
  refine bkX0_removeFree_14 F (vp_in_nI (by omega) (by omega)) (fun z => ?_) (fun z => ?_)
  · rw [nI_clamp (by omega), hv _ hlt, nI_eq (by omega) (by omega)] at z
    have hmem : d ∈ L := (fnb_mem hs).mpr ⟨hlt, z⟩
    refine bkX0_removeFree_26 ?_
    rw [nI_1]
    have k := for_up (G := fun i u => Gd X mX0_removeFree 30 [some (.ref a), none, none, some (.int (nI (fnb L d + 1 + i)))] [] u 0 0 P)
      (I := fun i u => chI (caS a) t u ∧ hI u a 1 = hI t a 1 ∧ (∀ (j : Nat) (hj : j < L.length), j < fnb L d → hI u (a + 1) j = nI L[j]) ∧ (∀ (j : Nat) (hj : j < L.length), fnb L d < j → j < fnb L d + 1 + i → hI u (a + 1) (j - 1) = nI L[j]) ∧ ∀ (j : Nat) (hj : j < L.length), fnb L d + i < j → hI u (a + 1) j = nI L[j]) (L.length - (fnb L d + 1)) ?_ ?_ 0 t (Nat.zero_le _) ⟨chI.rf, rfl, fun j hj _ => hv j hj, fun j hj h1 h2 => by omega, fun j hj _ => hv j hj⟩
    · exact k
    · rintro u ⟨k1, k2, k3, k4, k5⟩
      refine bkX0_removeFree_30 (k1.1 ▸ F) (fun _ => ?_) (fun y => absurd (by rw [k2, hc]; exact nI_le (by omega) (by omega)) y)
      refine bkX0_removeFree_58 (k1.1 ▸ F) ?_
      rw [k2, hc]
      obtain ⟨n, hn⟩ : ∃ n, L.length = n + 1 := ⟨L.length - 1, by omega⟩
      rw [hn, nI_pred]
      rw [← hP]
      refine ⟨k1.s (Or.inl rfl), ?_⟩
      rw [if_pos hmem]
      refine ⟨rfl, k1.1 ▸ F, ?_, ?_, fun i hi => ?_, remF_ok hs, fun x hx => hm x (remF_sub hx)⟩
      · rw [sI_at, remF_len hlt]; congr 1; omega
      · rw [remF_len hlt]; omega
      · have hi' := hi
        rw [remF_len hlt] at hi'
        rw [sI_nb (by omega), remF_get hlt hi]
        by_cases h1 : i < fnb L d
        · rw [dif_pos h1]; exact k3 i _ h1
        · rw [dif_neg h1]
          have := k4 (i + 1) (by omega) (by omega) (by omega)
          rw [Nat.add_sub_cancel] at this; exact this
    · rintro i u hi ⟨k1, k2, k3, k4, k5⟩ ih
      refine bkX0_removeFree_30 (k1.1 ▸ F) (fun y => ?_) (fun _ => ?_)
      · rw [k2, hc] at y; exact absurd y (nI_ge (by omega) (by omega))
      have e1 : nI (fnb L d + 1 + i) - 1 = nI (fnb L d + i) := by rw [show fnb L d + 1 + i = (fnb L d + i) + 1 by omega, nI_pred]
      refine bkX0_removeFree_38 (k1.1 ▸ F) (vp_in_nI (by omega) (by omega)) (by rw [e1]; exact (vp_in_nI (by omega) (by omega))) ?_
      rw [e1, nI_clamp (by omega), nI_clamp (by omega), k5 (fnb L d + 1 + i) (by omega) (by omega), nI_1]
      refine ih _ ⟨k1.s (Or.inr rfl), by rw [sI_nb (by omega)]; exact k2, fun j hj h1 => by rw [sI_nj (by omega)]; exact k3 j hj h1, fun j hj h1 h2 => ?_, fun j hj h1 => by rw [sI_nj (by omega)]; exact k5 j hj (by omega)⟩
      by_cases y : j = fnb L d + 1 + i
      · subst y; rw [show fnb L d + 1 + i - 1 = fnb L d + i by omega, sI_at]
      · rw [sI_nj (by omega)]; exact k4 j hj h1 (by omega)
  · rw [nI_clamp (by omega), hv _ hlt, nI_eq (by omega) (by omega)] at z
    exact no (fun y => by obtain ⟨h1, h2⟩ := (fnb_mem hs).mp y; exact z h2)
end SA
