/-! ===== the reader: names, links ===== -/
theorem Gd.le {X : GX} {M : MI} {pc : Nat} {L : List (Option Value)} {st : List Value} {h : SH} {nc ns nc' ns' : Nat} {P : Out → SH → Prop} (h1 : nc ≤ nc') (h2 : ns ≤ ns') (g : Gd X M pc L st h nc ns P) : Gd X M pc L st h nc' ns' P := Gd.mono h1 h2 (fun _ _ q => q) g
theorem idx_le {L : List (List Nat)} {j : Nat} (hj : j < L.length) : L.idxOf L[j] ≤ j := by
  induction L generalizing j with
  | nil => exact absurd hj (Nat.not_lt_zero _)
  | cons a r ih =>
    match j with
    | 0 => simp
    | j + 1 =>
      have hj' : j < r.length := by simpa using hj
      rw [List.getElem_cons_succ, List.idxOf_cons]
      cases a == r[j] with
      | true => exact Nat.zero_le _
      | false => exact Nat.succ_le_succ (ih (by simpa using hj))
section RL
variable {X : GX} {h : SH} {T : List Tk} {k e i : Nat} {N : List (List Nat)}
theorem tg_key {P : Out → SH → Prop} {w : List Nat} {nc ns : Nat} (R : RD h k e T N i) (hw : okW w) (hN : ∀ v ∈ N, okW v) (hv : hJ h (k + 3) 10 = enc32 w) (hl : N.length < 2 ^ 30)
    (ko : w ∈ N → Gd X mX7_readTarget 33 [some (.ref k), some (.int (nI (gC N w)))] [] h nc ns P) (ke : w ∉ N → Gd X mX7_readTarget 48 [some (.ref k), none] [] h nc ns P) : Gd X mX7_readTarget 8 [some (.ref k), some (.int (nI 0))] [] h nc ns P := by
  obtain ⟨n1', n2', n3', n4'⟩ := R.2.2.2.2.1
  refine for_up (G := fun j t => Gd X mX7_readTarget 8 [some (.ref k), some (.int (nI j))] [] t nc ns P) (I := fun j t => t = h ∧ ∀ (q : Nat) (hq : q < N.length), q < j → N[q] ≠ w) N.length ?_ ?_ 0 h (Nat.zero_le _) ⟨rfl, fun q hq z => absurd z (Nat.not_lt_zero _)⟩
  · rintro t ⟨rfl, hno⟩
    refine bkX7_readTarget_8 R.1 (fun _ => ke (fun hm => ?_)) (fun z => absurd (by rw [n1']; exact (Int32.le_refl _)) z)
    obtain ⟨q, hq, e1⟩ := List.mem_iff_getElem.mp hm
    exact hno q hq hq e1
  · rintro j t hj ⟨rfl, hno⟩ ih
    refine bkX7_readTarget_8 R.1 (fun z => ?_) (fun _ => ?_)
    · rw [n1', nI_leI (by omega) (by omega)] at z; omega
    refine bkX7_readTarget_16 R.1 (vp_in_nI (by omega) n4') (fun z => ?_) (fun z => ?_)
    · rw [nI_clamp (by omega), n2' j hj, hv, lg_cmp_eq, enc32_inj (hN _ (List.getElem_mem hj)) hw] at z
      refine bkX7_readTarget_42 ?_
      rw [nI_1]
      exact ih t ⟨rfl, fun q hq hqj => by
        by_cases y : q = j
        · subst y; exact z
        · exact hno q hq (by omega)⟩
    · rw [nI_clamp (by omega), n2' j hj, hv, lg_cmp_eq, enc32_inj (hN _ (List.getElem_mem hj)) hw] at z
      have hm : w ∈ N := by rw [← z]; exact List.getElem_mem hj
      have e2 : gC N w = j := by
        have hlt : N.idxOf w < N.length := List.idxOf_lt_length_iff.mpr hm
        have hge : N[N.idxOf w] = w := List.getElem_idxOf hlt
        have h1 : j ≤ N.idxOf w := Nat.not_lt.mp (fun y => hno _ hlt y hge)
        have h2 : N.idxOf w ≤ j := by
          rw [← z]
          exact idx_le hj
        show N.idxOf w = j
        omega
      have := ko hm
      rw [e2] at this; exact this
theorem okN (hT : okT T) (hN : N = tld T T.length) : ∀ v ∈ N, okW v := fun v hv => by
  rw [hN] at hv
  unfold tld at hv
  obtain ⟨j, hj, rfl⟩ := List.mem_map.mp hv
  rw [List.mem_filter, List.mem_range, decide_eq_true_iff] at hj
  exact (hT.w (hT.lt hj.1 (by omega)) hj.2.2).1
theorem c_readTarget (R : RD h k e T N i) (hT : okT T) (hN : N = tld T T.length) (hl : N.length < 2 ^ 30) (hk : kd T i = 11) (hm : isT T (wd T i) = true) : Cd X mX7_readTarget [.ref k] h 0 0 (oI (fun r t => r = nI (gC N (wd T i)) ∧ chR (· = k + 3) h t ∧ RD t k e T N (i + 1)) nX) := by
  have hi := R.2.2.2.1.2.2.2.2
  refine Gd.z (bkX7_readTarget_0 R.1 (c_require (x := 11) R hk) (fun E t z => z.elim) (fun t q => bkX7_readTarget_6 ?_))
  subst q
  refine tg_key R (hT.w hi (by omega)).1 (okN hT hN) (R.2.2.2.1.2.2.2.1.a (by omega)) hl (fun _ => ?_) (fun z => ?_)
  · exact bkX7_readTarget_33 R.1 (c_next R hT (by omega)) (fun t q => bkX7_readTarget_40 ⟨rfl, q⟩)
  · exfalso; unfold isT at hm; rw [List.contains_iff_mem, ← hN] at hm; exact z hm
theorem x_readTarget {x : Nat} (R : RD h k e T N i) (hT : okT T) (he : e ≤ k) (hN : N = tld T T.length) (hl : N.length < 2 ^ 30) (hk : (kd T i ≠ 11 ∧ x = 1) ∨ (kd T i = 11 ∧ isT T (wd T i) = false ∧ x = 2)) : Cd X mX7_readTarget [.ref k] h 1 6 (oI (fun _ _ => False) (Zr e k (flt T x i) h)) := by
  have hi := R.2.2.2.1.2.2.2.2
  rcases hk with ⟨h1, rfl⟩ | ⟨h1, h2, rfl⟩
  · exact bkX7_readTarget_0 (nc := 0) (ns := 0) R.1 (x_require (x := 11) R hT he h1 (by decide)) (fun E t z => z) (fun t z => z.elim)
  · refine Gd.z (bkX7_readTarget_0 R.1 (c_require (x := 11) R h1) (fun E t z => z.elim) (fun t q => bkX7_readTarget_6 ?_))
    subst q
    refine tg_key R (hT.w hi (by omega)).1 (okN hT hN) (R.2.2.2.1.2.2.2.1.a (by omega)) hl (fun z => ?_) (fun _ => ?_)
    · exfalso; unfold isT at h2; rw [← hN] at h2
      rw [← Bool.not_eq_true, List.contains_iff_mem] at h2; exact h2 z
    · exact bkX7_readTarget_48 (nc := 0) (ns := 0) R.1 (x_fail (x := 2) R he) (fun E t z => z) (fun t z => z.elim)
/-- a clause under way: its links -/
def CB (h : SH) (b : Nat) (N : List (List Nat)) (A B : List (List Nat)) : Prop := LX2 (Sk h) b ∧ (hI h b 5 = nI A.length ∧ ∀ (j : Nat) (hj : j < A.length), hI h (b + 3) j = nI (gC N A[j])) ∧ hI h b 7 = nI B.length ∧ ∀ (j : Nat) (hj : j < B.length), hI h (b + 4) j = nI (gC N B[j])
theorem CB.cg {t : SH} {b : Nat} {A B : List (List Nat)} (C : CB h b N A B) (c : chR (· = k + 3) h t) (hb : k + 9 < b) : CB t b N A B := by
  refine ⟨c.1 ▸ C.1, ⟨by rw [(c.2 b (by omega)).1]; exact C.2.1.1, fun j hj => by rw [(c.2 (b + 3) (by omega)).1]; exact C.2.1.2 j hj⟩, by rw [(c.2 b (by omega)).1]; exact C.2.2.1, fun j hj => by rw [(c.2 (b + 4) (by omega)).1]; exact C.2.2.2 j hj⟩
theorem c_hasAllLinks {b : Nat} {A B : List (List Nat)} (C : CB h b N A B) (h8 : A.length + B.length ≤ 8) : Cd X mX2_hasAllLinks [.ref b] h 0 0 (oI (fun r t => r = bI (decide (A.length + B.length = 8)) ∧ t = h) nX) := by
  refine bkX2_hasAllLinks_0 C.1 (fun z => ?_) (fun z => ?_)
  · rw [C.2.1.1, C.2.2.1, nI_add, n8, nI_ltI (by omega) (by omega)] at z
    exact bkX2_hasAllLinks_18 (bkX2_hasAllLinks_19 (Or.inl rfl) ⟨by rw [decide_eq_false (by omega)]; rfl, rfl⟩)
  · rw [C.2.1.1, C.2.2.1, nI_add, n8, nI_ltI (by omega) (by omega)] at z
    exact bkX2_hasAllLinks_14 (bkX2_hasAllLinks_19 (Or.inr rfl) ⟨by rw [decide_eq_true (by omega)]; rfl, rfl⟩)
theorem c_readLink {b : Nat} {A B : List (List Nat)} (C : CB h b N A B) (hb : k + 9 < b) (h8 : A.length + B.length ≤ 8) (R : RD h k e T N i) (hT : okT T) (hN : N = tld T T.length) (hl : N.length < 2 ^ 30) (hk : kd T i ≠ 14) (hp : pLk T (A.length + B.length) i = none) : Cd X mX7_readLink [.ref k, .ref b] h 0 0 (oI (fun r t => r = nI (gC N (wd T (i + 1))) ∧ chR (· = k + 3) h t ∧ RD t k e T N (i + 3)) nX) := by
  unfold pLk at hp
  by_cases q1 : A.length + B.length = 8
  · rw [if_pos q1] at hp; cases hp
  rw [if_neg q1] at hp
  by_cases q2 : kd T (i + 1) ≠ 11
  · rw [if_pos q2] at hp; cases hp
  rw [if_neg q2] at hp
  by_cases q3 : isT T (wd T (i + 1)) = false
  · rw [if_pos q3] at hp; cases hp
  rw [if_neg q3] at hp
  by_cases q4 : kd T (i + 2) ≠ 59
  · rw [if_pos q4] at hp; cases hp
  refine bkX7_readLink_0 C.1 (c_hasAllLinks C h8) (fun r t q => ?_)
  obtain ⟨rfl, ht⟩ := q
  rw [ht, decide_eq_false q1]
  refine bkX7_readLink_4 (fun _ => ?_) (fun z => absurd rfl z)
  refine bkX7_readLink_12 R.1 (c_next R hT hk) (fun t1 q => ?_)
  refine Gd.z (bkX7_readLink_19 q.2.1 (c_readTarget q.2 hT hN hl (by omega) (by simpa using q3)) (fun E t z => z.elim) (fun r t2 q5 => ?_))
  refine Gd.z (bkX7_readLink_23 q5.2.2.1 (c_pass (x := 59) q5.2.2 hT (show kd T (i + 2) = 59 by omega) (by decide)) (fun E t z => z.elim) (fun t3 q6 => bkX7_readLink_30 ⟨q5.1, ?_, q6.2⟩))
  exact (q.1.tr q5.2.1).tr q6.1
theorem x_readLink {b f : Nat} {A B : List (List Nat)} (C : CB h b N A B) (hb : k + 9 < b) (h8 : A.length + B.length ≤ 8) (R : RD h k e T N i) (hT : okT T) (he : e ≤ k) (hN : N = tld T T.length) (hl : N.length < 2 ^ 30) (hk : kd T i ≠ 14) (hp : pLk T (A.length + B.length) i = some f) : Cd X mX7_readLink [.ref k, .ref b] h 1 6 (oI (fun _ _ => False) (Zr e k f h)) := by
  have gz : ∀ {t}, chR (· = k + 3) h t → gZ e k h t := fun c => (c.gr (SA := fun _ => False)).up (fun b _ z => by omega) (fun b _ z => z.elim)
  unfold pLk at hp
  refine bkX7_readLink_0 C.1 (c_hasAllLinks C h8) (fun r t q => ?_)
  obtain ⟨rfl, ht⟩ := q
  rw [ht]
  by_cases q1 : A.length + B.length = 8
  · rw [if_pos q1] at hp
    cases hp
    rw [decide_eq_true q1]
    refine bkX7_readLink_4 (fun z => absurd z (by decide)) (fun _ => ?_)
    exact bkX7_readLink_7 (nc := 0) (ns := 0) R.1 (x_fail (x := 5) R he) (fun E t z => z) (fun t z => z.elim)
  rw [if_neg q1] at hp
  rw [decide_eq_false q1]
  refine bkX7_readLink_4 (fun _ => ?_) (fun z => absurd rfl z)
  refine bkX7_readLink_12 R.1 (c_next R hT hk) (fun t1 q => ?_)
  by_cases q2 : kd T (i + 1) ≠ 11
  · rw [if_pos q2] at hp
    cases hp
    exact bkX7_readLink_19 (nc := 0) (ns := 0) q.2.1 (x_readTarget q.2 hT he hN hl (Or.inl ⟨q2, rfl⟩)) (fun E t z => Zr.tr (gz q.1) z) (fun r t z => z.elim)
  rw [if_neg q2] at hp
  by_cases q3 : isT T (wd T (i + 1)) = false
  · rw [if_pos q3] at hp
    cases hp
    exact bkX7_readLink_19 (nc := 0) (ns := 0) q.2.1 (x_readTarget q.2 hT he hN hl (Or.inr ⟨by omega, q3, rfl⟩)) (fun E t z => Zr.tr (gz q.1) z) (fun r t z => z.elim)
  rw [if_neg q3] at hp
  by_cases q4 : kd T (i + 2) ≠ 59
  · rw [if_pos q4] at hp
    cases hp
    refine Gd.z (bkX7_readLink_19 q.2.1 (c_readTarget q.2 hT hN hl (by omega) (by simpa using q3)) (fun E t z => z.elim) (fun r t2 q5 => ?_))
    exact bkX7_readLink_23 (nc := 0) (ns := 0) q5.2.2.1 (x_pass (x := 59) q5.2.2 hT he q4 (by decide)) (fun E t z => Zr.tr (gz (q.1.tr q5.2.1)) z) (fun t z => z.elim)
  · rw [if_neg q4] at hp; cases hp
/-- what reading links writes -/
abbrev lS (k b q : Nat) : Prop := q = k + 3 ∨ q = b ∨ q = b + 3 ∨ q = b + 4
theorem lkC6 {b : Nat} {P : Out → SH → Prop} {nc ns : Nat} (hb : k + 9 < b) (hT : okT T) (he : e ≤ k) (hN : N = tld T T.length) (hl : N.length < 2 ^ 30) {B : List (List Nat)} : ∀ (n : Nat) (A : List (List Nat)) (i : Nat) (g : SH), n + A.length = 9 → B.length + A.length ≤ 8 → RD g k e T N i → CB g b N A B →
    (∀ V' i' t, pLinks T 6 B.length n A i = .ok (V', i') → RD t k e T N i' → CB t b N V' B → chR (lS k b) g t → (∀ j, j ≠ 5 → j ≠ 7 → hI t b j = hI g b j) → hJ t b = hJ g b → Gd X mX7_readLinks 37 [some (.ref k), some (.ref b), some (.int (nI 0))] [] t nc ns P) →
    (∀ f, pLinks T 6 B.length n A i = .error f → (1 ≤ nc ∧ 6 ≤ ns) ∧ ∀ E t, Zr e k f g E t → P (.inr E) t) → Gd X mX7_readLinks 2 [some (.ref k), some (.ref b), some (.int (nI A.length))] [] g nc ns P := by
  intro n
  induction n with
  | zero => intro A i g h1 h2; omega
  | succ n ih =>
    intro A i g h1 h2 R C ko ke
    rw [pLinks_s] at ko ke
    have hk8 : hI g (k + 3) 8 = nI (kd T i) := R.2.2.2.1.2.1
    have h61 := hT.k R.2.2.2.1.2.2.2.2
    refine bkX7_readLinks_2 (fun z => ?_) (fun _ => ?_)
    · rw [n8, nI_ltI (by omega) (by omega)] at z; omega
    refine bkX7_readLinks_8 R.1 (fun z => ?_) (fun z => ?_)
    · rw [hk8, show (6 : Int32) = nI 6 from rfl, nI_eq (by omega) (by omega)] at z
      rw [if_neg z] at ko
      exact bkX7_readLinks_35 (ko A i g rfl R C chR.rf (fun _ _ _ => rfl) rfl)
    · rw [hk8, show (6 : Int32) = nI 6 from rfl, nI_eq (by omega) (by omega)] at z
      rw [if_pos z] at ko ke
      cases hp : pLk T (B.length + A.length) i with
      | some f =>
        rw [hp] at ke
        obtain ⟨⟨b1, b2⟩, hz⟩ := ke f rfl
        refine Gd.le (nc := 1 + 0) (ns := 6 + 0) b1 b2 (bkX7_readLinks_20 R.1 (x_readLink C hb (by omega) R hT he hN hl (by omega) (by rw [Nat.add_comm]; exact hp)) (fun E t y => hz E t y) (fun r t y => y.elim))
      | none =>
        rw [hp] at ko ke
        have hn8 : B.length + A.length ≠ 8 := fun y => by unfold pLk at hp; rw [if_pos y] at hp; cases hp
        refine Gd.z (bkX7_readLinks_20 R.1 (c_readLink C hb (by omega) R hT hN hl (by omega) (by rw [Nat.add_comm]; exact hp)) (fun E t y => y.elim) (fun r t q => ?_))
        obtain ⟨rfl, c1, R2⟩ := q
        have C2 := C.cg c1 hb
        have sz := R2.sz
        have e5 : hI t b 5 = nI A.length := C2.2.1.1
        refine bkX7_readLinks_26 C2.1 (show Cd X mX2_addNeed [.ref b, .int (nI (gC N (wd T (i + 1))))] t 0 0 (oV (fun u => u = sI (sI t (b + 3) A.length (nI (gC N (wd T (i + 1))))) b 5 (nI (A.length + 1))) nX) from bkX2_addNeed_0 C2.1 (by rw [e5]; exact (vp_in_nI (by omega) (by omega))) (by
          show _ = _
          rw [e5, nI_clamp (by omega), sI_ne (by omega), e5, nI_1])) (fun u q => bkX7_readLinks_29 ?_)
        subst q
        rw [nI_1]
        have c2 : chR (lS k b) g (sI (sI t (b + 3) A.length (nI (gC N (wd T (i + 1))))) b 5 (nI (A.length + 1))) := ((c1.up (fun q z => Or.inl z)).s (by omega)).s (by omega)
        have c3 : chR (fun q => q = b ∨ q = b + 3) t (sI (sI t (b + 3) A.length (nI (gC N (wd T (i + 1))))) b 5 (nI (A.length + 1))) := (chR.rf.s (Or.inr rfl)).s (Or.inl rfl)
        have R3 : RD (sI (sI t (b + 3) A.length (nI (gC N (wd T (i + 1))))) b 5 (nI (A.length + 1))) k e T N (i + 3) := R2.mv (c3.gr (SA := fun _ => False)) (fun q h1 h2 => by omega) (fun q h1 h2 z => z) (by rw [sI_nb (by omega), sI_nb (by omega)])
        have row : ∀ (j : Nat) (hj : j < (A ++ [wd T (i + 1)]).length), hI (sI (sI t (b + 3) A.length (nI (gC N (wd T (i + 1))))) b 5 (nI (A.length + 1))) (b + 3) j = nI (gC N (A ++ [wd T (i + 1)])[j]) := fun j hj => by
          rw [List.length_append] at hj
          rw [sI_nb (by omega)]
          by_cases y : j < A.length
          · rw [List.getElem_append_left y, sI_nj (by omega)]; exact C2.2.1.2 j y
          · have e : j = A.length := by simp at hj; omega
            subst e
            rw [List.getElem_append_right (Nat.le_refl _), sI_at]
            simp
        have oth : ∀ j, j ≠ 5 → hI (sI (sI t (b + 3) A.length (nI (gC N (wd T (i + 1))))) b 5 (nI (A.length + 1))) b j = hI t b j := fun j hj => by rw [sI_nj hj, sI_ne (by omega)]
        have en : A.length + 1 = (A ++ [wd T (i + 1)]).length := by simp
        rw [en] at R3 row oth c2 ⊢
        refine ih (A ++ [wd T (i + 1)]) (i + 3) _ (by rw [← en]; omega) (by rw [← en]; omega) R3 ⟨C2.1, ⟨sI_at, row⟩, by rw [oth 7 (by decide)]; exact C2.2.2.1, fun j hj => by rw [sI_nb (by omega), sI_nb (by omega)]; exact C2.2.2.2 j hj⟩ (fun V' i' w a1 a2 a3 a4 a5 a6 => ko V' i' w a1 a2 a3 (c2.tr a4) (fun j h5 h7 => (a5 j h5 h7).trans ((oth j h5).trans (by rw [(c1.2 b (by omega)).1]))) (a6.trans (by show hJ t b = hJ g b; rw [(c1.2 b (by omega)).2]))) (fun f hf => ⟨(ke f hf).1, fun E w z => (ke f hf).2 E w (Zr.tr ((c2.gr (SA := fun _ => False)).up (fun q _ z => by unfold lS at z; omega) (fun q _ z => z.elim)) z)⟩)
theorem lkC7 {b : Nat} {P : Out → SH → Prop} {nc ns : Nat} (hb : k + 9 < b) (hT : okT T) (he : e ≤ k) (hN : N = tld T T.length) (hl : N.length < 2 ^ 30) {A : List (List Nat)} : ∀ (n : Nat) (B : List (List Nat)) (i : Nat) (g : SH), n + B.length = 9 → A.length + B.length ≤ 8 → RD g k e T N i → CB g b N A B →
    (∀ V' i' t, pLinks T 7 A.length n B i = .ok (V', i') → RD t k e T N i' → CB t b N A V' → chR (lS k b) g t → (∀ j, j ≠ 5 → j ≠ 7 → hI t b j = hI g b j) → hJ t b = hJ g b → Gd X mX7_readLinks 70 [none, none, none] [] t nc ns P) →
    (∀ f, pLinks T 7 A.length n B i = .error f → (1 ≤ nc ∧ 6 ≤ ns) ∧ ∀ E t, Zr e k f g E t → P (.inr E) t) → Gd X mX7_readLinks 37 [some (.ref k), some (.ref b), some (.int (nI B.length))] [] g nc ns P := by
  intro n
  induction n with
  | zero => intro B i g h1 h2; omega
  | succ n ih =>
    intro B i g h1 h2 R C ko ke
    rw [pLinks_s] at ko ke
    have hk8 : hI g (k + 3) 8 = nI (kd T i) := R.2.2.2.1.2.1
    have h61 := hT.k R.2.2.2.1.2.2.2.2
    refine bkX7_readLinks_37 (fun z => ?_) (fun _ => ?_)
    · rw [n8, nI_ltI (by omega) (by omega)] at z; omega
    refine bkX7_readLinks_43 R.1 (fun z => ?_) (fun z => ?_)
    · rw [hk8, show (7 : Int32) = nI 7 from rfl, nI_eq (by omega) (by omega)] at z
      rw [if_neg z] at ko
      exact ko B i g rfl R C chR.rf (fun _ _ _ => rfl) rfl
    · rw [hk8, show (7 : Int32) = nI 7 from rfl, nI_eq (by omega) (by omega)] at z
      rw [if_pos z] at ko ke
      cases hp : pLk T (A.length + B.length) i with
      | some f =>
        rw [hp] at ke
        obtain ⟨⟨b1, b2⟩, hz⟩ := ke f rfl
        refine Gd.le (nc := 1 + 0) (ns := 6 + 0) b1 b2 (bkX7_readLinks_55 R.1 (x_readLink C hb (by omega) R hT he hN hl (by omega) hp) (fun E t y => hz E t y) (fun r t y => y.elim))
      | none =>
        rw [hp] at ko ke
        have hn8 : A.length + B.length ≠ 8 := fun y => by unfold pLk at hp; rw [if_pos y] at hp; cases hp
        refine Gd.z (bkX7_readLinks_55 R.1 (c_readLink C hb (by omega) R hT hN hl (by omega) hp) (fun E t y => y.elim) (fun r t q => ?_))
        obtain ⟨rfl, c1, R2⟩ := q
        have C2 := C.cg c1 hb
        have sz := R2.sz
        have e5 : hI t b 7 = nI B.length := C2.2.2.1
        refine bkX7_readLinks_61 C2.1 (show Cd X mX2_addBar [.ref b, .int (nI (gC N (wd T (i + 1))))] t 0 0 (oV (fun u => u = sI (sI t (b + 4) B.length (nI (gC N (wd T (i + 1))))) b 7 (nI (B.length + 1))) nX) from bkX2_addBar_0 C2.1 (by rw [e5]; exact (vp_in_nI (by omega) (by omega))) (by
          show _ = _
          rw [e5, nI_clamp (by omega), sI_ne (by omega), e5, nI_1])) (fun u q => bkX7_readLinks_64 ?_)
        subst q
        rw [nI_1]
        have c2 : chR (lS k b) g (sI (sI t (b + 4) B.length (nI (gC N (wd T (i + 1))))) b 7 (nI (B.length + 1))) := ((c1.up (fun q z => Or.inl z)).s (by omega)).s (by omega)
        have c3 : chR (fun q => q = b ∨ q = b + 4) t (sI (sI t (b + 4) B.length (nI (gC N (wd T (i + 1))))) b 7 (nI (B.length + 1))) := (chR.rf.s (Or.inr rfl)).s (Or.inl rfl)
        have R3 : RD (sI (sI t (b + 4) B.length (nI (gC N (wd T (i + 1))))) b 7 (nI (B.length + 1))) k e T N (i + 3) := R2.mv (c3.gr (SA := fun _ => False)) (fun q h1 h2 => by omega) (fun q h1 h2 z => z) (by rw [sI_nb (by omega), sI_nb (by omega)])
        have row : ∀ (j : Nat) (hj : j < (B ++ [wd T (i + 1)]).length), hI (sI (sI t (b + 4) B.length (nI (gC N (wd T (i + 1))))) b 7 (nI (B.length + 1))) (b + 4) j = nI (gC N (B ++ [wd T (i + 1)])[j]) := fun j hj => by
          rw [List.length_append] at hj
          rw [sI_nb (by omega)]
          by_cases y : j < B.length
          · rw [List.getElem_append_left y, sI_nj (by omega)]; exact C2.2.2.2 j y
          · have e : j = B.length := by simp at hj; omega
            subst e
            rw [List.getElem_append_right (Nat.le_refl _), sI_at]
            simp
        have oth : ∀ j, j ≠ 7 → hI (sI (sI t (b + 4) B.length (nI (gC N (wd T (i + 1))))) b 7 (nI (B.length + 1))) b j = hI t b j := fun j hj => by rw [sI_nj hj, sI_ne (by omega)]
        have en : B.length + 1 = (B ++ [wd T (i + 1)]).length := by simp
        rw [en] at R3 row oth c2 ⊢
        refine ih (B ++ [wd T (i + 1)]) (i + 3) _ (by rw [← en]; omega) (by rw [← en]; omega) R3 ⟨C2.1, ⟨by rw [oth 5 (by decide)]; exact C2.2.1.1, fun j hj => by rw [sI_nb (by omega), sI_nb (by omega)]; exact C2.2.1.2 j hj⟩, sI_at, row⟩ (fun V' i' w a1 a2 a3 a4 a5 a6 => ko V' i' w a1 a2 a3 (c2.tr a4) (fun j h5 h7 => (a5 j h5 h7).trans ((oth j h7).trans (by rw [(c1.2 b (by omega)).1]))) (a6.trans (by show hJ t b = hJ g b; rw [(c1.2 b (by omega)).2]))) (fun f hf => ⟨(ke f hf).1, fun E w z => (ke f hf).2 E w (Zr.tr ((c2.gr (SA := fun _ => False)).up (fun q _ z => by unfold lS at z; omega) (fun q _ z => z.elim)) z)⟩)
end RL
