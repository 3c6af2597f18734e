/-! ===== the reader: items that are wrong, the items of a clause ===== -/
section RI
variable {X : GX} {h : SH} {T : List Tk} {k e i : Nat} {N : List (List Nat)} {F : List Fct}
theorem FC.g {S SA : Nat → Prop} {t : SH} (Q : FC h e F) (g : gr S SA h t) (h1 : ∀ b, b < e + 8 → ¬ S b) (h2 : ¬ SA e) : FC t e F := by
  have hz : e + 7 < hz h := Q.1.2.2.2.2.2.2.2.2.2.1
  refine ⟨g.L3 h2 Q.1, ?_, ?_⟩
  · rw [(g.2.2.2 e (by omega) (h1 _ (by omega))).1]; exact Q.2.1
  · rw [(g.2.2.2 (e + 1) (by omega) (h1 _ (by omega))).2]; exact Q.2.2
theorem x_readItem {f : Nat} (R : RD h k e T N i) (hT : okT T) (hek : e + 8 ≤ k) (ok : okFs F) (Q : FC h e F) (hNt : N = tld T T.length) (hl : N.length < 2 ^ 30) (hs : stI (kd T i) = true) (hp : pItem T F i = .error f) : Cd X mX7_readItem [.ref k] h 2 10 (oA (fun _ _ => False) (Zr e k f h)) := by
  have hkd : kd T i = 11 ∨ kd T i = 61 ∨ kd T i = 9 ∨ kd T i = 10 := by simpa [stI] using hs
  have hi := R.2.2.2.1.2.2.2.2
  have hi1 : i + 1 < T.length := hT.lt hi (by omega)
  have sz := R.sz
  have e8 : hI h (k + 3) 8 = nI (kd T i) := R.2.2.2.1.2.1
  refine bkX7_readItem_0 R.1 (c_next R hT (by omega)) (fun t q => ?_)
  obtain ⟨ct, Rt⟩ := q
  rw [e8]
  have gt : gr (fS k) (fun _ => False) h t := (ct.gr).up (fun b _ z => by unfold fS; omega) (fun b _ z => z)
  have gn : gr (fS k) (fun _ => False) h (nw t 5 0) := gt.nw
  have gz : gZ e k h (nw t 5 0) := gn.up (fun b _ z => by unfold fS at z; omega) (fun b _ z => z.elim)
  unfold pItem at hp
  by_cases k11 : kd T i = 11
  · rw [if_pos k11] at hp; cases hp
  rw [if_neg k11] at hp
  refine bkX7_readItem_23 (fun _ => ?_) (fun z => ?_)
  rotate_left
  · rw [show (11 : Int32) = nI 11 from rfl, nI_eq (by omega) (by omega)] at z; exact absurd z k11
  by_cases k9 : kd T i = 9
  · rw [if_pos k9] at hp
    refine Gd.le (nc := 1 + 0 + 1) (ns := 6 + 0 + 4) (by omega) (by omega) ?_
    refine bkX7_readItem_41 (fun z => absurd (by rw [k9]; rfl) z) (fun _ => ?_)
    have hx : ∃ x, ((kd T (i + 1) ≠ 11 ∧ x = 1) ∨ (kd T (i + 1) = 11 ∧ isT T (wd T (i + 1)) = false ∧ x = 2)) ∧ f = flt T x (i + 1) := by
      by_cases q3 : kd T (i + 1) ≠ 11
      · rw [if_pos q3] at hp; cases hp; exact ⟨1, Or.inl ⟨q3, rfl⟩, rfl⟩
      rw [if_neg q3] at hp
      by_cases q4 : isT T (wd T (i + 1)) = false
      · rw [if_pos q4] at hp; cases hp; exact ⟨2, Or.inr ⟨by omega, q4, rfl⟩, rfl⟩
      rw [if_neg q4] at hp
      cases hp
    obtain ⟨x, hx, rfl⟩ := hx
    exact bkX7_readItem_47 (bkX7_readItem_50 (n1 := 1) (s1 := 6) (nc := 0) (ns := 0) (Rt.nw (c := 5) (n := 0)).1 (x_readTarget (Rt.nw (c := 5) (n := 0)) hT (by omega) hNt hl hx) (fun E u z => Zr.tr gz z) (fun x4 u q => q.elim))
  rw [if_neg k9] at hp
  refine bkX7_readItem_41 (fun _ => ?_) (fun z => ?_)
  rotate_left
  · rw [show (9 : Int32) = nI 9 from rfl, nI_eq (by omega) (by omega)] at z; exact absurd z k9
  cases hpe : pE T F (i + 1) with
  | ok r2 => rw [hpe] at hp; cases hp
  | error f2 =>
  rw [hpe] at hp
  cases hp
  have Qn : FC (nw t 5 0) e F := Q.g gn (fun b hb => by unfold fS; omega) (fun z => z)
  refine Gd.le (nc := 1 + 0 + 1) (ns := 6 + 0 + 4) (by omega) (by omega) ?_
  exact bkX7_readItem_62 (bkX7_readItem_65 (n1 := 1) (s1 := 6) (nc := 0) (ns := 0) (Rt.nw (c := 5) (n := 0)).1 (x_readFormula (Rt.nw (c := 5) (n := 0)) hT hek ok Qn hpe) (fun E u z => Zr.tr gz z) (fun a u q => q.elim))
theorem c_startsItem (R : RD h k e T N i) (hT : okT T) : Cd X mX7_startsItem [.ref k] h 0 0 (oI (fun r t => r = bI (stI (kd T i)) ∧ t = h) nX) := by
  have e8 : hI h (k + 3) 8 = nI (kd T i) := R.2.2.2.1.2.1
  have h61 := hT.k R.2.2.2.1.2.2.2.2
  have fT : stI (kd T i) = true → Gd X mX7_startsItem 48 [none] [] h 0 0 (oI (fun r t => r = bI (stI (kd T i)) ∧ t = h) nX) := fun z => bkX7_startsItem_48 (bkX7_startsItem_53 (Or.inr rfl) ⟨by rw [z]; rfl, rfl⟩)
  refine bkX7_startsItem_0 R.1 (fun z => ?_) (fun z => ?_) <;> rw [e8, show (11 : Int32) = nI 11 from rfl, nI_eq (by omega) (by omega)] at z
  · exact fT (decide_eq_true (Or.inl z))
  refine bkX7_startsItem_12 R.1 (fun z2 => ?_) (fun z2 => ?_) <;> rw [e8, show (61 : Int32) = nI 61 from rfl, nI_eq (by omega) (by omega)] at z2
  · exact fT (decide_eq_true (Or.inr (Or.inl z2)))
  refine bkX7_startsItem_24 R.1 (fun z3 => ?_) (fun z3 => ?_) <;> rw [e8, show (9 : Int32) = nI 9 from rfl, nI_eq (by omega) (by omega)] at z3
  · exact fT (decide_eq_true (Or.inr (Or.inr (Or.inl z3))))
  refine bkX7_startsItem_36 R.1 (fun z4 => ?_) (fun z4 => ?_) <;> rw [e8, show (10 : Int32) = nI 10 from rfl, nI_eq (by omega) (by omega)] at z4
  · exact bkX7_startsItem_52 (bkX7_startsItem_53 (Or.inl rfl) ⟨by rw [show stI (kd T i) = false from decide_eq_false (by omega)]; rfl, rfl⟩)
  · exact fT (decide_eq_true (Or.inr (Or.inr (Or.inr z4))))
/-- the items that a clause has so far -/
def IsC (h : SH) (b : Nat) (N : List (List Nat)) (V : List Itm) : Prop := LX2 (Sk h) b ∧ hI h b 9 = nI V.length ∧ ∀ (j : Nat) (hj : j < V.length), ∃ q, hA h (b + 5) j = some q ∧ ItR h (b + 6) (hz h) q (rsI (gC N) V[j])
theorem c_hasAllItems {b : Nat} {V : List Itm} (C : IsC h b N V) (h8 : V.length ≤ 20) : Cd X mX2_hasAllItems [.ref b] h 0 0 (oI (fun r t => r = bI (decide (V.length = 20)) ∧ t = h) nX) := by
  refine bkX2_hasAllItems_0 C.1 (fun z => ?_) (fun z => ?_)
  · rw [C.2.1, show (20 : Int32) = nI 20 from rfl, nI_ltI (by omega) (by omega)] at z
    exact bkX2_hasAllItems_13 (bkX2_hasAllItems_14 (Or.inl rfl) ⟨by rw [decide_eq_false (by omega)]; rfl, rfl⟩)
  · rw [C.2.1, show (20 : Int32) = nI 20 from rfl, nI_ltI (by omega) (by omega)] at z
    exact bkX2_hasAllItems_9 (bkX2_hasAllItems_14 (Or.inr rfl) ⟨by rw [decide_eq_true (by omega)]; rfl, rfl⟩)
abbrev iS (k b q : Nat) : Prop := fS k q ∨ q = b
/-- the items read -/
def IE (g : SH) (k e b : Nat) (T : List Tk) (N : List (List Nat)) (r : List Itm × Nat) (t : SH) : Prop := gr (iS k b) (· = b + 5) g t ∧ RD t k e T N r.2 ∧ IsC t b N r.1 ∧ (∀ j, j ≠ 9 → hI t b j = hI g b j) ∧ hJ t b = hJ g b ∧ ∀ j, j ≠ 5 → hI t k j = hI g k j
theorem itC {b : Nat} (hT : okT T) (hek : e + 8 ≤ k) (hb : k + 9 < b) (ok : okFs F) (hNt : N = tld T T.length) (hl : N.length < 2 ^ 30) : ∀ (n : Nat) (A : List Itm) (i : Nat) (g : SH) (nc ns : Nat) (P : Out → SH → Prop), n + A.length = 21 → A.length ≤ 20 → RD g k e T N i → IsC g b N A → (∀ it ∈ A, okPI T F.length it) → FC g e F → hN g (k + 9) < 2 ^ 24 →
    (∀ r, pItems T F n A i = .ok r → 3 * (r.2 - i) ≤ nc ∧ 8 * (r.2 - i) ≤ ns ∧ ∀ t, IE g k e b T N r t → P (.inl none) t) →
    (∀ f, pItems T F n A i = .error f → 3 * (T.length - i) + 2 ≤ nc ∧ 8 * (T.length - i) + 10 ≤ ns ∧ ∀ E t, Zr e k f g E t → P (.inr E) t) → Gd X mX7_readItems 2 [some (.ref k), some (.ref b), some (.int (nI A.length))] [] g nc ns P := by
  intro n
  induction n with
  | zero => intro A i g nc ns P h1 h2; omega
  | succ n ih =>
    intro A i g nc ns P h1 h2 R C okA Q h9 ko ke
    rw [pItems_s] at ko ke
    have hi := R.2.2.2.1.2.2.2.2
    have szb : b + 5 < hz g := C.1.2.2.2.2.2.1
    refine bkX7_readItems_2 (fun z => ?_) (fun _ => ?_)
    · rw [show (20 : Int32) = nI 20 from rfl, nI_ltI (by omega) (by omega)] at z; omega
    refine bkX7_readItems_8 R.1 (c_startsItem R hT) (fun r t q => ?_)
    obtain ⟨rfl, ht⟩ := q
    rw [ht]
    refine bkX7_readItems_12 (fun z => ?_) (fun z => ?_)
    · rw [bI_0] at z
      rw [if_neg (by rw [z]; decide)] at ko
      exact bkX7_readItems_41 ((ko _ rfl).2.2 g ⟨gr.rf, R, C, fun _ _ => rfl, rfl, fun _ _ => rfl⟩)
    rw [bI_0] at z
    have z : stI (kd T i) = true := by simpa using z
    rw [if_pos z] at ko ke
    refine bkX7_readItems_15 C.1 (c_hasAllItems C h2) (fun r t q => ?_)
    obtain ⟨rfl, ht⟩ := q
    rw [ht]
    refine bkX7_readItems_19 (fun y => ?_) (fun y => ?_)
    rotate_left
    · rw [bI_0] at y
      have y : A.length = 20 := by simpa using y
      have hp : pIt T F A.length i = .error (flt T 5 i) := by unfold pIt; rw [if_pos y]
      rw [hp] at ke
      obtain ⟨b1, b2, b3⟩ := ke _ rfl
      exact Gd.le (nc := 1 + 0) (ns := 6 + 0) (by omega) (by omega) (bkX7_readItems_22 R.1 (x_fail R (by omega)) b3 (fun t q => q.elim))
    rw [bI_0] at y
    have y : ¬ A.length = 20 := by simpa using y
    have hp : pIt T F A.length i = pItem T F i := by unfold pIt; rw [if_neg y]
    rw [hp] at ko ke
    cases hpi : pItem T F i with
    | error f =>
      rw [hpi] at ke
      obtain ⟨b1, b2, b3⟩ := ke _ rfl
      exact Gd.le (nc := 2 + 0) (ns := 10 + 0) (by omega) (by omega) (bkX7_readItems_27 R.1 (x_readItem R hT hek ok Q hNt hl z hpi) b3 (fun r t q => q.elim))
    | ok r =>
      rw [hpi] at ko ke
      obtain ⟨p1, p2, p3, p4⟩ := pItem_ok hT hi z hpi
      have okA' : ∀ it ∈ A ++ [r.1], okPI T F.length it := fun it hit => by
        rcases List.mem_append.mp hit with y | y
        · exact okA it y
        · rw [List.mem_singleton.mp y]; exact p4
      have len : (A ++ [r.1]).length = A.length + 1 := by simp
      have bud : 3 * (r.2 - i) ≤ nc ∧ 8 * (r.2 - i) ≤ ns := by
        cases hq : pItems T F n (A ++ [r.1]) r.2 with
        | ok r' =>
          have := (pItems_ok hT n (A ++ [r.1]) r.2 r' (by omega) p2 okA' hq).1
          obtain ⟨b1, b2, _⟩ := ko r' hq
          omega
        | error f =>
          obtain ⟨b1, b2, _⟩ := ke f hq
          omega
      refine Gd.le (nc := 3 * (r.2 - i) + (nc - 3 * (r.2 - i))) (ns := 8 * (r.2 - i) + (ns - 8 * (r.2 - i))) (by omega) (by omega) (bkX7_readItems_27 R.1 (c_readItem R hT hek ok Q hNt hl h9 z hpi) (fun E t y => y.elim) (fun a t q => ?_))
      obtain ⟨rfl, gt, hzt, Rt, It, kt⟩ := q
      have sz := R.sz
      have Lt : LX2 (Sk t) b := gt.L2 (fun y => y) C.1
      have e9 : hI t b 9 = nI A.length := by rw [(gt.2.2.2 b (by omega) (by unfold fS; omega)).1]; exact C.2.1
      refine bkX7_readItems_32 Lt (show Cd X mX2_addItem [.ref b, .ref (hz g)] t 0 0 (oV (fun u => u = sI (sA t (b + 5) A.length (some (hz g))) b 9 (nI (A.length + 1))) nX) from bkX2_addItem_0 Lt (by rw [e9]; exact (vp_in_nI (by omega) (by omega))) It.2.1 (by
        rw [e9, nI_clamp (by omega)]
        refine bkX2_addItem_10 ?_ ?_
        · exact (gr.a (S := fun _ => False) (SA := (· = b + 5)) gr.rf (Or.inl rfl)).L2 (by omega) Lt
        · show _ = _
          rw [show hI (sA t (b + 5) A.length (some (hz g))) b 9 = hI t b 9 from rfl, e9, nI_1])) (fun u q => bkX7_readItems_35 ?_)
      subst q
      rw [nI_1]
      have g2 : gr (· = b) (· = b + 5) t (sI (sA t (b + 5) A.length (some (hz g))) b 9 (nI (A.length + 1))) := ((gr.rf (S := (· = b)) (SA := (· = b + 5))).a (Or.inl rfl)).s (Or.inl rfl)
      have g3 : gr (iS k b) (· = b + 5) g (sI (sA t (b + 5) A.length (some (hz g))) b 9 (nI (A.length + 1))) := (gt.up (fun q _ y => Or.inl y) (fun q _ y => y.elim)).tr (g2.up (fun q _ y => Or.inr y) (fun q _ y => y))
      have R3 : RD (sI (sA t (b + 5) A.length (some (hz g))) b 9 (nI (A.length + 1))) k e T N r.2 := Rt.mv g2 (fun q _ _ => by omega) (fun q _ _ => by omega) (by rw [sI_nb (by omega)]; rfl)
      have C3 : IsC (sI (sA t (b + 5) A.length (some (hz g))) b 9 (nI (A.length + 1))) b N (A ++ [r.1]) := by
        refine ⟨g2.L2 (by omega) Lt, by rw [len]; exact sI_at, fun j hj => ?_⟩
        rw [len] at hj
        by_cases y : j < A.length
        · obtain ⟨q, q1, q2⟩ := C.2.2 j y
          refine ⟨q, ?_, ?_⟩
          · show hA (sA t (b + 5) A.length (some (hz g))) (b + 5) j = _
            rw [sA_ne (by omega), gt.2.2.1 (b + 5) (by omega) (fun y => y)]; exact q1
          · rw [List.getElem_append_left y]
            exact ((q2.g gt (Nat.le_refl _) (fun q _ _ => ⟨by unfold fS; omega, fun y => y⟩)).mono (hi' := hz t) (Nat.le_refl _) (by omega)).g g2 (Nat.le_refl _) (fun q _ _ => ⟨by omega, by omega⟩)
        · have ej : j = A.length := by omega
          subst ej
          refine ⟨hz g, sA_at (h := t), ?_⟩
          rw [List.getElem_append_right (Nat.le_refl _)]
          simp only [Nat.sub_self, List.getElem_cons_zero]
          exact (It.mono (lo' := b + 6) (by omega) (Nat.le_refl _)).g g2 (Nat.le_refl _) (fun q _ _ => ⟨by omega, by omega⟩)
      rw [show A.length + 1 = (A ++ [r.1]).length from len.symm] at R3 C3 g3 g2 ⊢
      have kb : ∀ j, j ≠ 9 → hI (sI (sA t (b + 5) A.length (some (hz g))) b 9 (nI (A ++ [r.1]).length)) b j = hI g b j := fun j hj => by
        rw [sI_nj hj]; show hI t b j = _; rw [(gt.2.2.2 b (by omega) (by unfold fS; omega)).1]
      have jb : hJ (sI (sA t (b + 5) A.length (some (hz g))) b 9 (nI (A ++ [r.1]).length)) b = hJ g b := (gt.2.2.2 b (by omega) (by unfold fS; omega)).2
      have kk : ∀ j, j ≠ 5 → hI (sI (sA t (b + 5) A.length (some (hz g))) b 9 (nI (A ++ [r.1]).length)) k j = hI g k j := fun j hj => by
        rw [sI_nb (by omega)]; exact kt j hj
      refine ih (A ++ [r.1]) r.2 _ _ _ P (by omega) (by omega) R3 C3 okA' (Q.g g3 (fun q _ => by unfold iS fS; omega) (by omega)) (by rw [g3.N (by omega)]; exact h9) (fun r' hr => ?_) (fun f hf => ?_)
      · have := (pItems_ok hT n (A ++ [r.1]) r.2 r' (by omega) p2 okA' hr).1
        obtain ⟨b1, b2, b3⟩ := ko r' hr
        exact ⟨by omega, by omega, fun w y => b3 w ⟨g3.tr y.1, y.2.1, y.2.2.1, fun j hj => (y.2.2.2.1 j hj).trans (kb j hj), y.2.2.2.2.1.trans jb, fun j hj => (y.2.2.2.2.2 j hj).trans (kk j hj)⟩⟩
      · obtain ⟨b1, b2, b3⟩ := ke f hf
        exact ⟨by omega, by omega, fun E w y => b3 E w (Zr.tr (g3.up (fun q _ z => by unfold iS fS at z; omega) (fun q _ z => by omega)) y)⟩
theorem c_readItems {b : Nat} {r : List Itm × Nat} (hT : okT T) (hek : e + 8 ≤ k) (hb : k + 9 < b) (ok : okFs F) (hNt : N = tld T T.length) (hl : N.length < 2 ^ 30) (R : RD h k e T N i) (C : IsC h b N []) (Q : FC h e F) (h9 : hN h (k + 9) < 2 ^ 24) (hp : pItems T F 21 [] i = .ok r) : Cd X mX7_readItems [.ref k, .ref b] h (3 * (r.2 - i)) (8 * (r.2 - i)) (oV (IE h k e b T N r) nX) := by
  refine bkX7_readItems_0 (itC hT hek hb ok hNt hl 21 [] i h _ _ _ rfl (by simp) R C (fun it hit => absurd hit List.not_mem_nil) Q h9 (fun r' hr => ?_) (fun f hf => ?_))
  · rw [hp] at hr; cases hr; exact ⟨Nat.le_refl _, Nat.le_refl _, fun t y => y⟩
  · rw [hp] at hf; cases hf
theorem x_readItems {b f : Nat} (hT : okT T) (hek : e + 8 ≤ k) (hb : k + 9 < b) (ok : okFs F) (hNt : N = tld T T.length) (hl : N.length < 2 ^ 30) (R : RD h k e T N i) (C : IsC h b N []) (Q : FC h e F) (h9 : hN h (k + 9) < 2 ^ 24) (hp : pItems T F 21 [] i = .error f) : Cd X mX7_readItems [.ref k, .ref b] h (3 * (T.length - i) + 2) (8 * (T.length - i) + 10) (oV (fun _ => False) (Zr e k f h)) := by
  refine bkX7_readItems_0 (itC hT hek hb ok hNt hl 21 [] i h _ _ _ rfl (by simp) R C (fun it hit => absurd hit List.not_mem_nil) Q h9 (fun r' hr => ?_) (fun f' hf => ?_))
  · rw [hp] at hr; cases hr
  · rw [hp] at hf; cases hf; exact ⟨Nat.le_refl _, Nat.le_refl _, fun E t y => y⟩
end RI
