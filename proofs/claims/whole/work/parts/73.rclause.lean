/-! ===== the reader: a clause's object, its links, what is behind its formula ===== -/
section RC
variable {X : GX} {h : SH} {T : List Tk} {k e i b : Nat} {N : List (List Nat)} {F : List Fct}
def CI (h : SH) (b : Nat) (y : Int64) (x m : Int32) (f : Nat) (t : SH) : Prop := gr (· = b) (· = b) h t ∧ hz t = hz h + 3 ∧ LX2 (Sk t) b ∧ hJ t b 0 = y ∧ hI t b 1 = x ∧ hI t b 2 = m ∧ hA t b 3 = some f ∧ ∀ j, j ≠ 1 → j ≠ 2 → hI t b j = hI h b j
theorem c_X2init {y : Int64} {x m : Int32} {f : Nat} (O : Ob h b 2) (hb : hz h = b + 3) (hm : m = 0 ∨ m = 1) : Cd X mX2_init [.ref b, .long y, .int x, .int m, .ref f] h 3 36 (oV (CI h b y x m f) nX) := by
  have h8 : 8 ≤ b := O.1
  have z1 : hz (nw h 20 8) = hz h + 1 := rfl
  generalize e1 : nw h 20 8 = h1 at z1
  generalize e2 : sA h1 b 4 (some (hz h)) = h2
  have z2 : hz h2 = hz h + 1 := by rw [← e2]; exact z1
  generalize e3 : nw h2 20 8 = h3
  have z3 : hz h3 = hz h + 2 := by rw [← e3, nw_z, z2]
  generalize e4 : sA h3 b 6 (some (hz h2)) = h4
  have z4 : hz h4 = hz h + 2 := by rw [← e4]; exact z3
  generalize e5 : nw h4 26 20 = h5
  have z5 : hz h5 = hz h + 3 := by rw [← e5, nw_z, z4]
  generalize e6 : sA h5 b 8 (some (hz h4)) = h6
  have z6 : hz h6 = hz h + 3 := by rw [← e6]; exact z5
  generalize e7 : sA (sI (sI (sJ h6 b 0 y) b 1 x) b 2 m) b 3 (some f) = h7
  have z7 : hz h7 = hz h + 3 := by rw [← e7]; exact z6
  have g1 : gr (· = b) (· = b) h h1 := by rw [← e1]; exact gr.rf.nw
  have g2 : gr (· = b) (· = b) h1 h2 := by rw [← e2]; exact gr.rf.a (Or.inl rfl)
  have g3 : gr (· = b) (· = b) h2 h3 := by rw [← e3]; exact gr.rf.nw
  have g4 : gr (· = b) (· = b) h3 h4 := by rw [← e4]; exact gr.rf.a (Or.inl rfl)
  have g5 : gr (· = b) (· = b) h4 h5 := by rw [← e5]; exact gr.rf.nw
  have g6 : gr (· = b) (· = b) h5 h6 := by rw [← e6]; exact gr.rf.a (Or.inl rfl)
  have g7 : gr (· = b) (· = b) h6 h7 := by rw [← e7]; exact ((((gr.rf (S := (· = b)) (SA := (· = b))).j (Or.inl rfl)).s (Or.inl rfl)).s (Or.inl rfl)).a (Or.inl rfl)
  have O1 := g1.ob O
  have O3 := g3.ob (g2.ob O1)
  have O5 := g5.ob (g4.ob O3)
  have O6 := g6.ob O5
  have O7 := g7.ob O6
  have a1 : kAr (Sk h1) (b + 3) 20 8 := by rw [← e1, ← hb]; exact nw_ar (by omega)
  have a2 : kAr (Sk h3) (b + 4) 20 8 := by
    rw [← e3, show b + 4 = hz h2 by omega]; exact nw_ar (by omega)
  have a3 : kAr (Sk h5) (b + 5) 26 20 := by
    rw [← e5, show b + 5 = hz h4 by omega]; exact nw_ar (by omega)
  have r7 : ∀ j, j ≠ 3 → hA h7 b j = hA h6 b j := fun j hj => by
    rw [← e7]; exact sA_ne (h := sI (sI (sJ h6 b 0 y) b 1 x) b 2 m) (by omega)
  have r6 : ∀ j, j ≠ 8 → hA h6 b j = hA h4 b j := fun j hj => by
    rw [← e6, sA_ne (by omega), ← e5, nwA_ne (by omega)]
  have r4 : ∀ j, j ≠ 6 → hA h4 b j = hA h2 b j := fun j hj => by
    rw [← e4, sA_ne (by omega), ← e3, nwA_ne (by omega)]
  have L : LX2 (Sk h7) b := by
    refine ⟨O7, ⟨?_, g7.ar (g6.ar (g5.ar (g4.ar (g3.ar (g2.ar a1)))))⟩, ⟨?_, g7.ar (g6.ar (g5.ar (g4.ar a2)))⟩, ⟨?_, g7.ar (g6.ar a3)⟩⟩
    · show hA h7 b 4 = _
      rw [r7 4 (by decide), r6 4 (by decide), r4 4 (by decide), ← e2, sA_at, hb]
    · show hA h7 b 6 = _
      rw [r7 6 (by decide), r6 6 (by decide), ← e4, sA_at, z2, hb]
    · show hA h7 b 8 = _
      rw [r7 8 (by decide), ← e6, sA_at, z4, hb]
  have i6 : hI h6 b = hI h b := by
    rw [← e6]; show hI h5 b = _; rw [← e5, nwI_ne (by omega), ← e4]; show hI h3 b = _; rw [← e3, nwI_ne (by omega), ← e2]; show hI h1 b = _; rw [← e1, nwI_ne (by omega)]
  refine Gd.le (nc := 0 + 1 + 1 + 1) (ns := 0 + 20 + 8 + 8) (by omega) (by omega) (bkX2_init_0 (r5 := some f) (bkX2_init_4 (boX2_init_9 (by rw [e1]; exact O1) (bkX2_init_12 (boX2_init_17 (by rw [e1, e2, e3]; exact O3) (bkX2_init_20 (boX2_init_26 (by rw [e1, e2, e3, e4, e5]; exact O5) (bkX2_init_29 (by rw [e1, e2, e3, e4, e5, e6]; exact O6) hm (bkX2_init_51 ?_)))))))))
  rw [e1, e2, e3, e4, e5, e6, e7]
  refine ⟨g1.tr (g2.tr (g3.tr (g4.tr (g5.tr (g6.tr g7))))), z7, L, ?_, ?_, ?_, ?_, fun j h1 h2 => ?_⟩
  · rw [← e7]; show hJ (sJ h6 b 0 y) b 0 = y; exact sJ_at
  · rw [← e7]; show hI (sI (sI (sJ h6 b 0 y) b 1 x) b 2 m) b 1 = x; rw [sI_nj (by decide), sI_at]
  · rw [← e7]; show hI (sI (sI (sJ h6 b 0 y) b 1 x) b 2 m) b 2 = m; rw [sI_at]
  · rw [← e7]; exact sA_at (h := sI (sI (sJ h6 b 0 y) b 1 x) b 2 m)
  · rw [← e7]; show hI (sI (sI (sJ h6 b 0 y) b 1 x) b 2 m) b j = _; rw [sI_nj h2, sI_nj h1]; show hI h6 b j = _; rw [i6]
/-- the links read -/
def LE (h : SH) (k e b : Nat) (T : List Tk) (N A B : List (List Nat)) (i : Nat) (t : SH) : Prop := RD t k e T N i ∧ CB t b N A B ∧ chR (lS k b) h t ∧ (∀ j, j ≠ 5 → j ≠ 7 → hI t b j = hI h b j) ∧ hJ t b = hJ h b
theorem c_readLinks {r r2 : List (List Nat) × Nat} (hb : k + 9 < b) (hT : okT T) (he : e ≤ k) (hNt : N = tld T T.length) (hl : N.length < 2 ^ 30) (R : RD h k e T N i) (C : CB h b N [] []) (h1 : pLinks T 6 0 9 [] i = .ok r) (h2 : pLinks T 7 r.1.length 9 [] r.2 = .ok r2) : Cd X mX7_readLinks [.ref k, .ref b] h 0 0 (oV (LE h k e b T N r.1 r2.1 r2.2) nX) := by
  have m8 := (pLinks_ok hT ⟨(by decide), (by decide)⟩ 9 [] i r R.2.2.2.1.2.2.2.2 (by simp) (fun w hw => absurd hw List.not_mem_nil) h1).2.2.2.1
  refine bkX7_readLinks_0 (lkC6 hb hT he hNt hl (B := []) 9 [] i h rfl (by simp) R C (fun V' i' t hp Rt Ct ct kt jt => ?_) (fun f hf => ?_))
  rotate_left
  · have hf : pLinks T 6 0 9 [] i = .error f := hf
    rw [h1] at hf; cases hf
  have hp : pLinks T 6 0 9 [] i = .ok (V', i') := hp
  rw [h1] at hp; cases hp
  refine lkC7 hb hT he hNt hl (A := V') 9 [] i' t rfl (by simp at m8 ⊢; omega) Rt Ct (fun V2 i2 u hp Ru Cu cu ku ju => bkX7_readLinks_70 ?_) (fun f hf => ?_)
  rotate_left
  · rw [h2] at hf; cases hf
  rw [h2] at hp; cases hp
  exact ⟨Ru, Cu, ct.tr cu, fun j h5 h7 => (ku j h5 h7).trans (kt j h5 h7), ju.trans jt⟩
theorem x_readLinks {f : Nat} (hb : k + 9 < b) (hT : okT T) (he : e ≤ k) (hNt : N = tld T T.length) (hl : N.length < 2 ^ 30) (R : RD h k e T N i) (C : CB h b N [] []) (hp : pLinks T 6 0 9 [] i = .error f ∨ ∃ r, pLinks T 6 0 9 [] i = .ok r ∧ pLinks T 7 r.1.length 9 [] r.2 = .error f) : Cd X mX7_readLinks [.ref k, .ref b] h 1 6 (oV (fun _ => False) (Zr e k f h)) := by
  refine bkX7_readLinks_0 (lkC6 hb hT he hNt hl (B := []) 9 [] i h rfl (by simp) R C (fun V' i' t h1 Rt Ct ct kt jt => ?_) (fun f' hf => ?_))
  rotate_left
  · have hf : pLinks T 6 0 9 [] i = .error f' := hf
    rcases hp with y | ⟨r, y, _⟩
    · rw [hf] at y; cases y; exact ⟨⟨Nat.le_refl _, Nat.le_refl _⟩, fun E t z => z⟩
    · rw [hf] at y; cases y
  have h1 : pLinks T 6 0 9 [] i = .ok (V', i') := h1
  rcases hp with y | ⟨r, y, h2⟩
  · rw [h1] at y; cases y
  rw [h1] at y; cases y
  have m8 := (pLinks_ok hT ⟨(by decide), (by decide)⟩ 9 [] i _ R.2.2.2.1.2.2.2.2 (by simp) (fun w hw => absurd hw List.not_mem_nil) h1).2.2.2.1
  refine lkC7 hb hT he hNt hl (A := V') 9 [] i' t rfl (by simp at m8 ⊢; omega) Rt Ct (fun V2 i2 u hp Ru Cu cu ku ju => ?_) (fun f' hf => ?_)
  · rw [h2] at hp; cases hp
  · rw [h2] at hf; cases hf
    exact ⟨⟨Nat.le_refl _, Nat.le_refl _⟩, fun E u z => Zr.tr ((ct.gr (SA := fun _ => False)).up (fun q _ z => by unfold lS at z; omega) (fun q _ z => z.elim)) z⟩
/-- a clause's head -/
def CH (h : SH) (b : Nat) (w : List Nat) (c : Nat × Bool × Fml) : Prop := LX2 (Sk h) b ∧ hJ h b 0 = enc32 w ∧ hI h b 1 = nI c.1 ∧ hI h b 2 = bI c.2.1 ∧ hA h b 3 = some (b + 1) ∧ FmR h (b + 1) (b + 3) (b + 1) c.2.2
theorem CH.mv {S SA : Nat → Prop} {t : SH} {w : List Nat} {c : Nat × Bool × Fml} (C : CH h b w c) (g : gr S SA h t) (h1 : ∀ q, b ≤ q → q < b + 3 → ¬ SA q) (h2 : ∀ q, b < q → q < b + 3 → ¬ S q) (hj : hJ t b = hJ h b) (hi1 : hI t b 1 = hI h b 1) (hi2 : hI t b 2 = hI h b 2) : CH t b w c := by
  have szb : b + 5 < hz h := C.1.2.2.2.2.2.1
  exact ⟨g.L2 (h1 b (by omega) (by omega)) C.1, by rw [hj]; exact C.2.1, hi1.trans C.2.2.1, hi2.trans C.2.2.2.1, by rw [g.2.2.1 b (by omega) (h1 b (by omega) (by omega))]; exact C.2.2.2.2.1, C.2.2.2.2.2.g g (by omega) (fun q h3 h4 => ⟨h2 q (by omega) h4, h1 q (by omega) h4⟩)⟩
/-- a clause that is read, all its cells from lo to hi -/
def ClR (h : SH) (lo hi b : Nat) (w : List Nat) (c : Cls) : Prop := (lo ≤ b ∧ b + 5 < hi) ∧ LX2 (Sk h) b ∧ hJ h b 0 = enc32 w ∧ hI h b 1 = nI (cAt c) ∧ hI h b 2 = bI (cMust c) ∧ (∃ f, hA h b 3 = some f ∧ FmR h lo hi f (cWhen c)) ∧
  hI h b 5 = nI (cNeeds c).length ∧ (∀ (j : Nat) (hj : j < (cNeeds c).length), hI h (b + 3) j = nI (cNeeds c)[j]) ∧ hI h b 7 = nI (cBars c).length ∧ (∀ (j : Nat) (hj : j < (cBars c).length), hI h (b + 4) j = nI (cBars c)[j]) ∧
  hI h b 9 = nI (cItems c).length ∧ ∀ (j : Nat) (hj : j < (cItems c).length), ∃ q, hA h (b + 5) j = some q ∧ ItR h lo hi q (cItems c)[j]
theorem ClR.g {S SA : Nat → Prop} {t : SH} {lo hi : Nat} {w : List Nat} {c : Cls} (K : ClR h lo hi b w c) (g : gr S SA h t) (hz : hi ≤ hz h) (hS : ∀ q, lo ≤ q → q < hi → ¬ S q ∧ ¬ SA q) : ClR t lo hi b w c := by
  obtain ⟨⟨a1, a2⟩, L, k0, k1, k2, ⟨f, f1, f2⟩, k5, k6, k7, k8, k9, k10⟩ := K
  have s0 := hS b a1 (by omega)
  have e0 := g.2.2.2 b (by omega) s0.1
  have e3 := g.2.2.2 (b + 3) (by omega) (hS _ (by omega) (by omega)).1
  have e4 := g.2.2.2 (b + 4) (by omega) (hS _ (by omega) (by omega)).1
  refine ⟨⟨a1, a2⟩, g.L2 s0.2 L, by rw [e0.2]; exact k0, by rw [e0.1]; exact k1, by rw [e0.1]; exact k2, ⟨f, by rw [g.2.2.1 b (by omega) s0.2]; exact f1, f2.g g hz hS⟩, by rw [e0.1]; exact k5, by rw [e3.1]; exact k6, by rw [e0.1]; exact k7, by rw [e4.1]; exact k8, by rw [e0.1]; exact k9, fun j hj => ?_⟩
  obtain ⟨q, q1, q2⟩ := k10 j hj
  exact ⟨q, by rw [g.2.2.1 (b + 5) (by omega) (hS _ (by omega) (by omega)).2]; exact q1, q2.g g hz hS⟩
theorem ClR.mono {lo hi lo' hi' : Nat} {w : List Nat} {c : Cls} (K : ClR h lo hi b w c) (h1 : lo' ≤ lo) (h2 : hi ≤ hi') : ClR h lo' hi' b w c := by
  obtain ⟨⟨a1, a2⟩, L, k0, k1, k2, ⟨f, f1, f2⟩, k5, k6, k7, k8, k9, k10⟩ := K
  refine ⟨⟨by omega, by omega⟩, L, k0, k1, k2, ⟨f, f1, f2.mono h1 h2⟩, k5, k6, k7, k8, k9, fun j hj => ?_⟩
  obtain ⟨q, q1, q2⟩ := k10 j hj
  exact ⟨q, q1, q2.mono h1 h2⟩
theorem ClR.C {lo hi : Nat} {w : List Nat} {c : Cls} (K : ClR h lo hi b w c) (h73 : 73 ≤ lo) : ClC h b c := by
  obtain ⟨⟨a1, a2⟩, L, k0, k1, k2, ⟨f, f1, f2⟩, k5, k6, k7, k8, k9, k10⟩ := K
  refine ⟨by omega, L, k1, k2, ⟨f, by have := f2.1; omega, f1, f2.2.2⟩, k5, k6, k7, k8, k9, fun j hj => ?_⟩
  obtain ⟨q, q1, q2⟩ := k10 j hj
  exact ⟨q, q1, q2.C h73⟩
theorem ClR.mk {w : List Nat} {c : Nat × Bool × Fml} {A B : List (List Nat)} {V : List Itm} (a : CH h b w c) (b1 : CB h b N A B) (d : IsC h b N V) : ClR h b (hz h) b w (rsl (gC N) (c.1, c.2.1, c.2.2, A, B, V)) := by
  have szb : b + 5 < hz h := a.1.2.2.2.2.2.1
  refine ⟨⟨Nat.le_refl _, szb⟩, a.1, a.2.1, a.2.2.1, a.2.2.2.1, ⟨b + 1, a.2.2.2.2.1, a.2.2.2.2.2.mono (by omega) (by omega)⟩, ?_, fun j hj => ?_, ?_, fun j hj => ?_, ?_, fun j hj => ?_⟩
  · show _ = nI (A.map (gC N)).length; rw [List.length_map]; exact b1.2.1.1
  · have hj : j < (A.map (gC N)).length := hj
    show _ = nI (A.map (gC N))[j]
    rw [List.getElem_map]; exact b1.2.1.2 j (by simpa using hj)
  · show _ = nI (B.map (gC N)).length; rw [List.length_map]; exact b1.2.2.1
  · have hj : j < (B.map (gC N)).length := hj
    show _ = nI (B.map (gC N))[j]
    rw [List.getElem_map]; exact b1.2.2.2 j (by simpa using hj)
  · show _ = nI (V.map (rsI (gC N))).length; rw [List.length_map]; exact d.2.1
  · have hj : j < (V.map (rsI (gC N))).length := hj
    obtain ⟨q, q1, q2⟩ := d.2.2 j (by simpa using hj)
    refine ⟨q, q1, ?_⟩
    show ItR h b (hz h) q (V.map (rsI (gC N)))[j]
    rw [List.getElem_map]; exact q2.mono (by omega) (Nat.le_refl _)
end RC
