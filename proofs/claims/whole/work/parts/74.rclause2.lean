/-! ===== the reader: a clause from its word when on ===== -/
section RC
variable {X : GX} {h : SH} {T : List Tk} {k e i b : Nat} {N : List (List Nat)} {F : List Fct} {P : Out → SH → Prop} {nc ns : Nat}
/-- where a clause's reading stands before it is added -/
def CE (h : SH) (k e b : Nat) (T : List Tk) (N : List (List Nat)) (w : List Nat) (r : PCl × Nat) (t : SH) : Prop := gr (fun q => fS k q ∨ b ≤ q) (fun q => b ≤ q) h t ∧ RD t k e T N r.2 ∧ ClR t b (hz t) b w (rsl (gC N) r.1)
theorem CE.tr {g : SH} {w : List Nat} {r : PCl × Nat} {t : SH} (a : gr (fun q => fS k q ∨ b ≤ q) (fun q => b ≤ q) g h) (c : CE h k e b T N w r t) : CE g k e b T N w r t := ⟨a.tr c.1, c.2.1, c.2.2⟩
theorem rc3 {w : List Nat} {c : Nat × Bool × Fml} {A B : List (List Nat)} (hT : okT T) (hek : e + 8 ≤ k) (hb : k + 9 < b) (ok : okFs F) (hNt : N = tld T T.length) (hl : N.length < 2 ^ 30) (R : RD h k e T N i) (H : CH h b w c) (C : CB h b N A B) (I : IsC h b N []) (Q : FC h e F) (h9 : hN h (k + 9) < 2 ^ 24)
    (ko : ∀ r, pCl3 T F c A B i = .ok r → 3 * (r.2 - i) ≤ nc ∧ 8 * (r.2 - i) ≤ ns ∧ ∀ t, CE h k e b T N w r t → Gd X mX7_readClause 161 [some (.ref k), none, none, none, none, some (.ref b)] [] t 0 0 P)
    (ke : ∀ f, pCl3 T F c A B i = .error f → 3 * (T.length - i) + 2 ≤ nc ∧ 8 * (T.length - i) + 10 ≤ ns ∧ ∀ E t, Zr e k f h E t → P (.inr E) t) : Gd X mX7_readClause 143 [some (.ref k), none, none, none, none, some (.ref b)] [] h nc ns P := by
  have hi := R.2.2.2.1.2.2.2.2
  have szb : b + 5 < hz h := C.1.2.2.2.2.2.1
  unfold pCl3 at ko ke
  by_cases q8 : kd T i ≠ 8
  · rw [if_pos q8] at ke
    obtain ⟨b1, b2, b3⟩ := ke _ rfl
    exact Gd.le (nc := 1 + 0) (ns := 6 + 0) (by omega) (by omega) (bkX7_readClause_143 R.1 (x_pass (x := 8) R hT (by omega) q8 (by omega)) b3 (fun t q => q.elim))
  rw [if_neg q8] at ko ke
  have q8 : kd T i = 8 := by omega
  have hi1 : i + 1 < T.length := hT.lt hi (by omega)
  refine Gd.z (bkX7_readClause_143 R.1 (c_pass (x := 8) R hT q8 (by omega)) (fun E t z => z.elim) (fun t q => ?_))
  obtain ⟨ct, Rt⟩ := q
  have gt : gr (fun q => fS k q ∨ b ≤ q) (fun q => b ≤ q) h t := (ct.gr (SA := fun q => b ≤ q)).up (fun q _ z => Or.inl (by unfold fS; omega)) (fun q _ z => z)
  have Ht : CH t b w c := H.mv (ct.gr (SA := fun _ => False)) (fun q _ _ z => z) (fun q _ _ => by omega) (ct.2 b (by omega)).2 (by rw [(ct.2 b (by omega)).1]) (by rw [(ct.2 b (by omega)).1])
  have Ct : CB t b N A B := C.cg ct hb
  have It : IsC t b N [] := ⟨Ct.1, by rw [(ct.2 b (by omega)).1]; exact I.2.1, fun j hj => absurd hj (Nat.not_lt_zero _)⟩
  have Qt : FC t e F := Q.g (ct.gr (SA := fun _ => False)) (fun q _ => by omega) (fun z => z)
  have h9t : hN t (k + 9) < 2 ^ 24 := by rw [(ct.gr (SA := fun _ => False)).N (by omega)]; exact h9
  cases hp : pItems T F 21 [] (i + 1) with
  | error f =>
    rw [hp] at ke
    obtain ⟨b1, b2, b3⟩ := ke _ rfl
    exact Gd.le (nc := 3 * (T.length - (i + 1)) + 2 + 0) (ns := 8 * (T.length - (i + 1)) + 10 + 0) (by omega) (by omega) (bkX7_readClause_149 Rt.1 (x_readItems hT hek hb ok hNt hl Rt It Qt h9t hp) (fun E u z => b3 E u (Zr.tr (gt.up (fun q _ z => by unfold fS at z; omega) (fun q _ z => by omega)) z)) (fun u q => q.elim))
  | ok r =>
    rw [hp] at ko ke
    simp only at ko ke
    obtain ⟨p1, p2, p3, p4, p5, p6⟩ := pItems_ok hT 21 [] (i + 1) r rfl hi1 (fun it hit => absurd hit List.not_mem_nil) hp
    have hr59 : kd T r.2 = 59 → r.2 + 1 < T.length := fun z => hT.lt p2 (by omega)
    have bud : 3 * (r.2 - (i + 1)) + (if kd T r.2 ≠ 59 then 1 else 0) ≤ nc ∧ 8 * (r.2 - (i + 1)) + (if kd T r.2 ≠ 59 then 6 else 0) ≤ ns := by
      by_cases q : kd T r.2 ≠ 59
      · rw [if_pos q] at ke
        obtain ⟨b1, b2, b3⟩ := ke _ rfl
        rw [if_pos q, if_pos q]; omega
      · rw [if_neg q] at ko
        obtain ⟨b1, b2, b3⟩ := ko _ rfl
        simp only at b1 b2
        rw [if_neg q, if_neg q]; omega
    refine Gd.le (nc := 3 * (r.2 - (i + 1)) + (if kd T r.2 ≠ 59 then 1 else 0)) (ns := 8 * (r.2 - (i + 1)) + (if kd T r.2 ≠ 59 then 6 else 0)) bud.1 bud.2 (bkX7_readClause_149 Rt.1 (c_readItems hT hek hb ok hNt hl Rt It Qt h9t hp) (fun E u z => z.elim) (fun u q => ?_))
    obtain ⟨gu, Ru, Iu, ku, ju, _⟩ := q
    have gu2 : gr (fun q => fS k q ∨ b ≤ q) (fun q => b ≤ q) t u := gu.up (fun q _ z => z.elim Or.inl (fun z => Or.inr (by omega))) (fun q _ z => by omega)
    have hzt : hz t = hz h := ct.hz
    have Hu : CH u b w c := Ht.mv gu (fun q _ _ => by omega) (fun q _ _ => by unfold iS fS; omega) ju (ku 1 (by decide)) (ku 2 (by decide))
    have Cu : CB u b N A B := ⟨Hu.1, ⟨(ku 5 (by decide)).trans Ct.2.1.1, fun j hj => by rw [(gu.2.2.2 (b + 3) (by omega) (by unfold iS fS; omega)).1]; exact Ct.2.1.2 j hj⟩, (ku 7 (by decide)).trans Ct.2.2.1, fun j hj => by rw [(gu.2.2.2 (b + 4) (by omega) (by unfold iS fS; omega)).1]; exact Ct.2.2.2 j hj⟩
    by_cases q : kd T r.2 ≠ 59
    · rw [if_pos q] at ke
      obtain ⟨b1, b2, b3⟩ := ke _ rfl
      rw [if_pos q, if_pos q]
      exact bkX7_readClause_155 (n1 := 1) (s1 := 6) (nc := 0) (ns := 0) Ru.1 (x_pass (x := 59) Ru hT (by omega) q (by omega)) (fun E v z => b3 E v (Zr.tr ((gt.tr gu2).up (fun q _ z => by unfold fS at z; omega) (fun q _ z => by omega)) z)) (fun t q => q.elim)
    · rw [if_neg q] at ko
      obtain ⟨b1, b2, b3⟩ := ko _ rfl
      rw [if_neg q, if_neg q]
      refine bkX7_readClause_155 (n1 := 0) (s1 := 0) (nc := 0) (ns := 0) Ru.1 (c_pass (x := 59) Ru hT (by omega) (by omega)) (fun E v z => z.elim) (fun v y => ?_)
      obtain ⟨cv, Rv⟩ := y
      have gv : gr (fun q => fS k q ∨ b ≤ q) (fun q => b ≤ q) u v := (cv.gr (SA := fun q => b ≤ q)).up (fun q _ z => Or.inl (by unfold fS; omega)) (fun q _ z => z)
      refine b3 v ⟨gt.tr (gu2.tr gv), Rv, ?_⟩
      have cl := ClR.mk Hu Cu Iu
      have := cl.g (cv.gr (SA := fun _ => False)) (Nat.le_refl _) (fun q h1 _ => ⟨by omega, fun z => z⟩)
      rw [show hz v = hz u from cv.hz]
      exact this
theorem rc2 {w : List Nat} {c : Nat × Bool × Fml} (hT : okT T) (hek : e + 8 ≤ k) (hb : k + 9 < b) (ok : okFs F) (hNt : N = tld T T.length) (hl : N.length < 2 ^ 30) (R : RD h k e T N i) (H : CH h b w c) (C : CB h b N [] []) (I : IsC h b N []) (Q : FC h e F) (h9 : hN h (k + 9) < 2 ^ 24)
    (ko : ∀ r, pCl2 T F c i = .ok r → 3 * (r.2 - i) ≤ nc ∧ 8 * (r.2 - i) ≤ ns ∧ ∀ t, CE h k e b T N w r t → Gd X mX7_readClause 161 [some (.ref k), none, none, none, none, some (.ref b)] [] t 0 0 P)
    (ke : ∀ f, pCl2 T F c i = .error f → 3 * (T.length - i) + 2 ≤ nc ∧ 8 * (T.length - i) + 10 ≤ ns ∧ ∀ E t, Zr e k f h E t → P (.inr E) t) : Gd X mX7_readClause 129 [some (.ref k), none, none, none, none, none] [.ref b] h nc ns P := by
  have hi := R.2.2.2.1.2.2.2.2
  have szb : b + 5 < hz h := C.1.2.2.2.2.2.1
  unfold pCl2 at ko ke
  by_cases q8 : kd T i ≠ 59
  · rw [if_pos q8] at ke
    obtain ⟨b1, b2, b3⟩ := ke _ rfl
    exact Gd.le (nc := 1 + 0) (ns := 6 + 0) (by omega) (by omega) (bkX7_readClause_129 R.1 (x_pass (x := 59) R hT (by omega) q8 (by omega)) b3 (fun t q => q.elim))
  rw [if_neg q8] at ko ke
  have q8 : kd T i = 59 := by omega
  have hi1 : i + 1 < T.length := hT.lt hi (by omega)
  refine Gd.z (bkX7_readClause_129 R.1 (c_pass (x := 59) R hT q8 (by omega)) (fun E t z => z.elim) (fun t q => ?_))
  obtain ⟨ct, Rt⟩ := q
  have hzt : hz t = hz h := ct.hz
  have gt : gr (fun q => fS k q ∨ b ≤ q) (fun q => b ≤ q) h t := (ct.gr (SA := fun q => b ≤ q)).up (fun q _ z => Or.inl (by unfold fS; omega)) (fun q _ z => z)
  have Ht : CH t b w c := H.mv (ct.gr (SA := fun _ => False)) (fun q _ _ z => z) (fun q _ _ => by omega) (ct.2 b (by omega)).2 (by rw [(ct.2 b (by omega)).1]) (by rw [(ct.2 b (by omega)).1])
  have Ct : CB t b N [] [] := C.cg ct hb
  have Qt : FC t e F := Q.g (ct.gr (SA := fun _ => False)) (fun q _ => by omega) (fun z => z)
  have h9t : hN t (k + 9) < 2 ^ 24 := by rw [(ct.gr (SA := fun _ => False)).N (by omega)]; exact h9
  have gz : gZ e k h t := gt.up (fun q _ z => by unfold fS at z; omega) (fun q _ z => by omega)
  cases h1 : pLinks T 6 0 9 [] (i + 1) with
  | error f =>
    rw [h1] at ke
    obtain ⟨b1, b2, b3⟩ := ke _ rfl
    exact Gd.le (nc := 1 + 0) (ns := 6 + 0) (by omega) (by omega) (bkX7_readClause_137 Rt.1 (x_readLinks hb hT (by omega) hNt hl Rt Ct (Or.inl h1)) (fun E u z => b3 E u (Zr.tr gz z)) (fun t q => q.elim))
  | ok r =>
  rw [h1] at ko ke
  simp only at ko ke
  have m1 := pLinks_ok hT ⟨(by decide), (by decide)⟩ 9 [] (i + 1) r hi1 (by simp) (fun w hw => absurd hw List.not_mem_nil) h1
  cases h2 : pLinks T 7 r.1.length 9 [] r.2 with
  | error f =>
    rw [h2] at ke
    obtain ⟨b1, b2, b3⟩ := ke _ rfl
    exact Gd.le (nc := 1 + 0) (ns := 6 + 0) (by omega) (by omega) (bkX7_readClause_137 Rt.1 (x_readLinks hb hT (by omega) hNt hl Rt Ct (Or.inr ⟨r, h1, h2⟩)) (fun E u z => b3 E u (Zr.tr gz z)) (fun t q => q.elim))
  | ok r2 =>
  rw [h2] at ko ke
  simp only at ko ke
  have m2 := pLinks_ok hT ⟨(by decide), (by decide)⟩ 9 [] r.2 r2 m1.2.1 (by simp; omega) (fun w hw => absurd hw List.not_mem_nil) h2
  refine Gd.z (bkX7_readClause_137 Rt.1 (c_readLinks hb hT (by omega) hNt hl Rt Ct h1 h2) (fun E u z => z.elim) (fun u q => ?_))
  obtain ⟨Ru, Cu, cu, ku, ju⟩ := q
  have gu : gr (fun q => fS k q ∨ b ≤ q) (fun q => b ≤ q) t u := (cu.gr (SA := fun q => b ≤ q)).up (fun q _ z => by unfold lS at z; unfold fS; omega) (fun q _ z => z)
  have Hu : CH u b w c := Ht.mv (cu.gr (SA := fun _ => False)) (fun q _ _ z => z) (fun q _ _ => by unfold lS; omega) ju (ku 1 (by decide) (by decide)) (ku 2 (by decide) (by decide))
  have Iu : IsC u b N [] := ⟨Cu.1, by rw [ku 9 (by decide) (by decide), (ct.2 b (by omega)).1]; exact I.2.1, fun j hj => absurd hj (Nat.not_lt_zero _)⟩
  have Qu : FC u e F := Qt.g (cu.gr (SA := fun _ => False)) (fun q _ => by unfold lS; omega) (fun z => z)
  have h9u : hN u (k + 9) < 2 ^ 24 := by rw [(cu.gr (SA := fun _ => False)).N (by have := Rt.sz; omega)]; exact h9t
  refine rc3 hT hek hb ok hNt hl Ru Hu Cu Iu Qu h9u (fun r3 h3 => ?_) (fun f hf => ?_)
  · obtain ⟨b1, b2, b3⟩ := ko r3 h3
    exact ⟨by omega, by omega, fun v z => b3 v (CE.tr (gt.tr gu) z)⟩
  · obtain ⟨b1, b2, b3⟩ := ke f hf
    exact ⟨by omega, by omega, fun E v z => b3 E v (Zr.tr ((gt.tr gu).up (fun q _ z => by unfold fS at z; omega) (fun q _ z => by omega)) z)⟩
end RC
