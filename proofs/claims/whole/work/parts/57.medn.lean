/-! ===== the edition of a right text; the model keeps it ===== -/
theorem idx_first {p : Nat → Bool} {f : Nat → List Nat} {n j : Nat} {w : List Nat} (hj : j < n) (hp : p j = true) (hf : f j = w) (hno : ∀ q, q < j → p q = true → f q ≠ w) : (((List.range n).filter p).map f).idxOf w = ((List.range j).filter p).length := by
  obtain ⟨d, rfl⟩ := Nat.le.dest hj
  rw [show j + 1 + d = j + (d + 1) by omega, List.range_add, List.range_succ_eq_map, List.map_cons, List.filter_append, List.filter_cons, if_pos (by simpa using hp), List.map_append, List.map_cons, List.idxOf_append, if_neg]
  · rw [Nat.add_zero, hf, List.idxOf_cons_self, List.length_map]; omega
  · intro hm
    rw [List.mem_map] at hm
    obtain ⟨q, hq, e⟩ := hm
    rw [List.mem_filter, List.mem_range] at hq
    exact hno q hq.1 hq.2 e
abbrev PC2 : Type := List Nat × PCl
def gN (C : List PC2) (w : List Nat) : Nat := (C.map (·.1)).idxOf w
def mkE (x : Nat) (F : List Fct) (C : List PC2) : Edn := (x, F, C.map (fun p => rsl (gN C) p.2))
/-- names, once all is read -/
theorem NMI.fin {T : List Tk} {j : Nat} {NM : List (List Nat)} (hT : okT T) (N : NMI T j NM) (hj : j < T.length) (h14 : kd T j = 14) : tld T T.length = NM ∧ ∀ w, isT T w = true → gM T w = NM.idxOf w ∧ NM.idxOf w < NM.length := by
  have ej : T.length = j + 1 := ((hT.2.2.1 j hj).mp h14).symm
  have e1 : tld T T.length = NM := by
    unfold tld
    rw [ej, List.range_succ, List.filter_append, List.map_append, N.1]
    have e2 : ([j].filter (fun j => decide (kd T j = 2 ∧ kd T (j + 1) ≤ 11))) = [] := by
      rw [List.filter_cons, if_neg (by simp [h14])]; rfl
    rw [e2, List.map_nil, List.append_nil]
    congr 1
    refine List.filter_congr (fun q hq => ?_)
    rw [List.mem_range] at hq
    refine decide_eq_decide.mpr ⟨fun z => z.1, fun z => ⟨z, by rw [N.2 q hq z]; exact Nat.le_refl _⟩⟩
  refine ⟨e1, fun w hw => ?_⟩
  obtain ⟨q0, h1, h2⟩ := isT_iff.mp hw
  obtain ⟨q, a1, a2, a3⟩ := first_at ⟨q0, h1, h2⟩
  have hq2 : kd T q = 2 ∧ kd T (q + 1) ≤ 11 ∧ wd T (q + 1) = w := by unfold mt at a2; rw [decide_eq_true_iff] at a2; exact a2
  have hqj : q < j := by
    rcases Nat.lt_or_ge q j with z | z
    · exact z
    · have : q = j := by omega
      subst this; rw [h14] at hq2; exact absurd hq2.1 (by decide)
  constructor
  · have eg : gM T w = cnt2 T q := by unfold gM; rw [find_some a1 a3 a2]
    rw [eg, N.1, idx_first hqj (by simpa using hq2.1) hq2.2.2 (fun r hr hp e => ?_)]
    · rfl
    · have hp2 : kd T r = 2 := by simpa using hp
      have := a3 r hr
      unfold mt at this
      rw [decide_eq_false_iff_not] at this
      exact this ⟨hp2, by rw [N.2 r (by omega) hp2]; exact Nat.le_refl _, e⟩
  · rw [List.idxOf_lt_length_iff, ← e1]
    unfold isT at hw
    rwa [List.contains_iff_mem] at hw
theorem rsl_cg {T : List Tk} {nf : Nat} {c : PCl} {g g' : List Nat → Nat} (h : okPC T nf c) (hg : ∀ w, isT T w = true → g w = g' w) : rsl g c = rsl g' c := by
  obtain ⟨h1, h2, h3, h4, h5, h6, h7⟩ := h
  unfold rsl
  have e1 : c.2.2.2.1.map g = c.2.2.2.1.map g' := List.map_congr_left (fun w hw => hg w (h4 w hw))
  have e2 : c.2.2.2.2.1.map g = c.2.2.2.2.1.map g' := List.map_congr_left (fun w hw => hg w (h5 w hw))
  have e3 : c.2.2.2.2.2.map (rsI g) = c.2.2.2.2.2.map (rsI g') := List.map_congr_left (fun it hit => by
    unfold rsI
    by_cases q : it.1 = 2
    · rw [if_pos q, if_pos q, hg _ ((h7 it hit).2.2.1 q)]
    · rw [if_neg q, if_neg q])
  rw [e1, e2, e3]
/-- a right text's edition could be told -/
def okC2 (T : List Tk) (F : List Fct) (C : List PC2) : Prop := okFs F ∧ (∀ p ∈ C, okPC T F.length p.2) ∧ C.length ≤ 12 ∧ ∃ j, j < T.length ∧ kd T j = 14 ∧ NMI T j (C.map (·.1))
theorem cl_mk {x : Nat} {F : List Fct} {C : List PC2} {c : Nat} (hc : c < C.length) : cl (mkE x F C) c = rsl (gN C) C[c].2 := by
  show (C.map (fun p => rsl (gN C) p.2)).getD c _ = _
  rw [List.getD_eq_getElem?_getD, List.getElem?_eq_getElem (by rw [List.length_map]; exact hc), List.getElem_map]; rfl
theorem mkE_ok {T : List Tk} {x : Nat} {F : List Fct} {C : List PC2} (hT : okT T) (hx : x ≤ 9999) (h : okC2 T F C) : okE (mkE x F C) := by
  obtain ⟨h1, h2, h3, j, j1, j2, N⟩ := h
  have hf := (N.fin hT j1 j2).2
  have hlen : (eC (mkE x F C)).length = C.length := by show (C.map _).length = _; rw [List.length_map]
  have hb : ∀ w, isT T w = true → gN C w < C.length := fun w hw => by have := (hf w hw).2; rw [List.length_map] at this; exact this
  refine ⟨hx, h1.1, by rw [hlen]; exact h3, fun f hf => ?_, h1.2.2.2, fun c hc => ?_⟩
  · obtain ⟨a, b, c⟩ := h1.2.1 f hf
    exact ⟨b, c, a⟩
  · rw [hlen] at hc
    rw [cl_mk hc, hlen]
    obtain ⟨g1, g2, g3, g4, g5, g6, g7⟩ := h2 _ (List.getElem_mem hc)
    refine ⟨g1, ⟨g2.1, g2.2.1⟩, ?_, fun k hk => ?_, fun k hk => ?_, ?_, fun it hit => ?_⟩
    · show (C[c].2.2.2.2.1.map (gN C)).length + (C[c].2.2.2.2.2.1.map (gN C)).length ≤ 8
      rw [List.length_map, List.length_map]; exact g3
    · obtain ⟨w, hw, rfl⟩ := List.mem_map.mp hk
      exact hb w (g4 w hw)
    · obtain ⟨w, hw, rfl⟩ := List.mem_map.mp hk
      exact hb w (g5 w hw)
    · show (C[c].2.2.2.2.2.2.map (rsI (gN C))).length ≤ 20
      rw [List.length_map]; exact g6
    · obtain ⟨it0, h0, rfl⟩ := List.mem_map.mp hit
      obtain ⟨k1, k2, k3, k4⟩ := g7 it0 h0
      refine ⟨k1, fun z => k2 z, fun z => ?_, fun z => k4 z⟩
      show (if it0.1 = 2 then gN C it0.2.1 else 0) < C.length
      have z : it0.1 = 2 := z
      rw [if_pos z]
      exact hb _ (k3 z)
section ED
variable {X : GX} {h : SH} {T : List Tk}
/-- the draft -/
def DrM (h : SH) (F : List Fct) (C : List Cls) (k : Nat) : Prop := FM h F ∧ hI h 46 6 = nI C.length ∧ hI h 35 30 = nI k ∧ ∀ (c : Nat) (hc : c < C.length), ClK h (72 + c) k C[c]
theorem c_keeps {e x : Nat} {F : List Fct} {C : List Cls} {k : Nat} (he : e < 6) (L : LX11 (Sk h) 35) (D : DrM h F C k) (ok : okE (x, F, C)) (hk : k ≤ 2600) : Cd X mX11_keeps [.ref 35, .int (nI e)] h 0 0 (oV (fun t => cf (sgm 35 e) h t ∧ EdM t 35 e (x, F, C)) nX) := by
  obtain ⟨D1, D2, D3, D4⟩ := D
  have h8 : F.length ≤ 8 := ok.2.1
  have h12 : C.length ≤ 12 := ok.2.2.1
  refine bkX11_keeps_0 L in67 (vp_in_nI (by omega) (by omega)) ?_
  rw [nI_clamp (by omega), show (6 : Int32).toNatClampNeg = 6 by decide]
  generalize hh : sI (sI h (35 + 7) e (hI h (35 + 7) 6)) (35 + 11) e (hI (sI h (35 + 7) e (hI h (35 + 7) 6)) (35 + 11) 6) = t0
  have c0 : cf (fun b j => (b = 42 ∨ b = 46) ∧ j = e) h t0 := by rw [← hh]; exact (cf.rf.s ⟨Or.inl rfl, rfl⟩).s ⟨Or.inr rfl, rfl⟩
  have v42 : hI t0 42 e = nI F.length := by rw [← hh, sI_nb (by decide)]; exact (sI_at (h := h)).trans D1.1
  have v46 : hI t0 46 e = nI C.length := by
    rw [← hh]
    refine (sI_at (h := sI h (35 + 7) e _)).trans ?_
    rw [sI_nb (by decide)]; exact D2
  clear hh
  refine kp_a he (c0.1 ▸ L) (fun t1 c1 K1 => bkX11_keeps_100 ?_)
  refine kp_b he (c1.1 ▸ c0.1 ▸ L) (fun t2 c2 K2 => bkX11_keeps_192 ?_)
  refine kp_c he (c2.1 ▸ c1.1 ▸ c0.1 ▸ L) (fun t3 c3 K3 => bkX11_keeps_248 ?_)
  refine kp_d he (c3.1 ▸ c2.1 ▸ c1.1 ▸ c0.1 ▸ L) (fun t4 c4 K4 => bkX11_keeps_329 ?_)
  have e30 : hI t4 35 30 = nI k := by
    rw [(c4.2 35 30 (by omega)).1, (c3.2 35 30 (by omega)).1, (c2.2 35 30 (by omega)).1, (c1.2 35 30 (by omega)).1, (c0.2 35 30 (by omega)).1]; exact D3
  refine kp_f he (c4.1 ▸ c3.1 ▸ c2.1 ▸ c1.1 ▸ c0.1 ▸ L) k hk e30 (fun t5 c5 K5 => bkX11_keeps_389 ?_)
  have A0 := c0.up (S' := sgm 35 e) (fun b j z => by unfold sgm; omega)
  have A1 := c1.up (S' := sgm 35 e) (fun b j z => by unfold sgm; omega)
  have A2 := c2.up (S' := sgm 35 e) (fun b j z => by unfold sgm; omega)
  have A3 := c3.up (S' := sgm 35 e) (fun b j z => by unfold sgm; omega)
  have A4 := c4.up (S' := sgm 35 e) (fun b j z => by unfold sgm; omega)
  have A5 := c5.up (S' := sgm 35 e) (fun b j z => by unfold sgm; omega)
  have B1 := A0
  have B2 := B1.tr A1
  have B3 := B2.tr A2
  have B4 := B3.tr A3
  have B5 := B4.tr A4
  have src : ∀ {t} (_ : cf (sgm 35 e) h t) b j, ¬ sgm 35 e b j → hI t b j = hI h b j ∧ hJ t b j = hJ h b j := fun c b j z => c.2 b j z
  have fml : ∀ s (o : Fml), FmM h 35 6 s o → s + o.length < k → FmM t5 35 e s o := fun s o ⟨f1, f2, f3⟩ hs => by
    refine ⟨f1, fun i hi => ?_, ?_⟩
    · have q := K5 (s + i) (by omega)
      have e1 := (src B5 58 (15600 + (s + i)) (by unfold sgm; omega)).1
      have e2 := (src B5 59 (15600 + (s + i)) (by unfold sgm; omega)).1
      rw [show 2600 * e + s + i = 2600 * e + (s + i) by omega]
      show hI t5 58 _ = _ ∧ hI t5 59 _ = _
      rw [q.1, q.2, e1, e2]
      have := f2 i hi
      rw [show 2600 * 6 + s + i = 15600 + (s + i) by omega] at this
      exact this
    · have q := K5 (s + o.length) hs
      have e1 := (src B5 58 (15600 + (s + o.length)) (by unfold sgm; omega)).1
      rw [show 2600 * e + s + o.length = 2600 * e + (s + o.length) by omega]
      show hI t5 58 _ = _
      rw [q.1, e1]
      rw [show 2600 * 6 + s + o.length = 15600 + (s + o.length) by omega] at f3
      exact f3
  refine ⟨B5.tr A5, ?_, ?_, fun q hq => ?_, fun c hc => ?_⟩
  · show hI t5 42 e = _
    rw [(c5.2 42 e (by omega)).1, (c4.2 42 e (by omega)).1, (c3.2 42 e (by omega)).1, (c2.2 42 e (by omega)).1, (c1.2 42 e (by omega)).1]; exact v42
  · show hI t5 46 e = _
    rw [(c5.2 46 e (by omega)).1, (c4.2 46 e (by omega)).1, (c3.2 46 e (by omega)).1, (c2.2 46 e (by omega)).1, (c1.2 46 e (by omega)).1]; exact v46
  · have hq : q < F.length := hq
    have k1 := K1 q (by omega)
    have d1 := D1.2 q hq
    show hJ t5 43 _ = _ ∧ hI t5 44 _ = _ ∧ hI t5 45 _ = _
    have tr : ∀ b, b = 43 ∨ b = 44 ∨ b = 45 → hI t5 b (8 * e + q) = hI t1 b (8 * e + q) ∧ hJ t5 b (8 * e + q) = hJ t1 b (8 * e + q) := fun b hb => by
      rw [(c5.2 b _ (by omega)).1, (c4.2 b _ (by omega)).1, (c3.2 b _ (by omega)).1, (c2.2 b _ (by omega)).1, (c5.2 b _ (by omega)).2, (c4.2 b _ (by omega)).2, (c3.2 b _ (by omega)).2, (c2.2 b _ (by omega)).2]; exact ⟨rfl, rfl⟩
    rw [(tr 43 (by omega)).2, (tr 44 (by omega)).1, (tr 45 (by omega)).1, k1.1, k1.2.1, k1.2.2, (c0.2 43 _ (by omega)).2, (c0.2 44 _ (by omega)).1, (c0.2 45 _ (by omega)).1]
    exact d1
  · have hc : c < C.length := hc
    have ecl : cl (x, F, C) c = C[c] := by unfold cl; show C.getD c _ = _; rw [List.getD_eq_getElem?_getD, List.getElem?_eq_getElem hc]; rfl
    have okc := ok.2.2.2.2.2 c hc
    rw [ecl] at okc ⊢
    obtain ⟨⟨g1, g2, s, a1, a2, a3⟩, ⟨l1, l2⟩, m1, m2⟩ := D4 c hc
    have hl8 : (lks C[c]).length ≤ 8 := by rw [lks_len]; exact okc.2.2.1
    have hm20 : (cItems C[c]).length ≤ 20 := okc.2.2.2.2.2.1
    have k2 := K2 c (by omega)
    have trb : ∀ b, (b = 48 ∨ b = 49 ∨ b = 50 ∨ b = 51 ∨ b = 54) → hI t5 b (12 * e + c) = hI t2 b (12 * e + c) ∧ hI t1 b (72 + c) = hI h b (72 + c) := fun b hb => by
      rw [(c5.2 b _ (by omega)).1, (c4.2 b _ (by omega)).1, (c3.2 b _ (by omega)).1, (c1.2 b _ (by omega)).1, (c0.2 b _ (by omega)).1]; exact ⟨rfl, rfl⟩
    refine ⟨?_, ?_, ⟨s, ?_, fml s _ a2 a3⟩, ?_, fun j hj => ?_, ?_, fun j hj => ?_⟩
    · show hI t5 48 _ = _
      rw [(trb 48 (by omega)).1, k2.1, (trb 48 (by omega)).2]; exact g1
    · show hI t5 49 _ = _
      rw [(trb 49 (by omega)).1, k2.2.1, (trb 49 (by omega)).2, g2, nar_b]
    · show hI t5 50 _ = _
      rw [(trb 50 (by omega)).1, k2.2.2.1, (trb 50 (by omega)).2]; exact a1
    · show hI t5 51 _ = _
      rw [(trb 51 (by omega)).1, k2.2.2.2.1, (trb 51 (by omega)).2]; exact l1
    · have k3 := K3 (8 * c + j) (by omega)
      have tr3 : ∀ b, (b = 52 ∨ b = 53) → hI t5 b (96 * e + (8 * c + j)) = hI t3 b (96 * e + (8 * c + j)) ∧ hI t2 b (576 + (8 * c + j)) = hI h b (576 + (8 * c + j)) := fun b hb => by
        rw [(c5.2 b _ (by omega)).1, (c4.2 b _ (by omega)).1, (c2.2 b _ (by omega)).1, (c1.2 b _ (by omega)).1, (c0.2 b _ (by omega)).1]; exact ⟨rfl, rfl⟩
      have l2j := l2 j hj
      rw [show 8 * (12 * e + c) + j = 96 * e + (8 * c + j) by omega]
      rw [show 8 * (72 + c) + j = 576 + (8 * c + j) by omega] at l2j
      show hI t5 52 _ = _ ∧ hI t5 53 _ = _
      rw [(tr3 52 (by omega)).1, (tr3 53 (by omega)).1, k3.1, k3.2, (tr3 52 (by omega)).2, (tr3 53 (by omega)).2, l2j.2, nar_b]
      exact ⟨l2j.1, rfl⟩
    · show hI t5 54 _ = _
      rw [(trb 54 (by omega)).1, k2.2.2.2.2, (trb 54 (by omega)).2]; exact m1
    · have k4 := K4 (20 * c + j) (by omega)
      have tr4 : ∀ b, (b = 55 ∨ b = 56 ∨ b = 57) → (hI t5 b (240 * e + (20 * c + j)) = hI t4 b (240 * e + (20 * c + j)) ∧ hJ t5 b (240 * e + (20 * c + j)) = hJ t4 b (240 * e + (20 * c + j))) ∧ hI t3 b (1440 + (20 * c + j)) = hI h b (1440 + (20 * c + j)) ∧ hJ t3 b (1440 + (20 * c + j)) = hJ h b (1440 + (20 * c + j)) := fun b hb => by
        rw [(c5.2 b _ (by omega)).1, (c5.2 b _ (by omega)).2, (c3.2 b _ (by omega)).1, (c3.2 b _ (by omega)).2, (c2.2 b _ (by omega)).1, (c2.2 b _ (by omega)).2, (c1.2 b _ (by omega)).1, (c1.2 b _ (by omega)).2, (c0.2 b _ (by omega)).1, (c0.2 b _ (by omega)).2]; exact ⟨⟨rfl, rfl⟩, rfl, rfl⟩
      obtain ⟨b1, b2, b3, b4⟩ := m2 j hj
      rw [show 20 * (72 + c) + j = 1440 + (20 * c + j) by omega] at b1 b2 b3 b4
      rw [show 20 * (12 * e + c) + j = 240 * e + (20 * c + j) by omega]
      have i5 : hI t5 55 (240 * e + (20 * c + j)) = hI h 55 (1440 + (20 * c + j)) := by rw [(tr4 55 (by omega)).1.1, k4.1, (tr4 55 (by omega)).2.1]
      have i6 : hI t5 56 (240 * e + (20 * c + j)) = hI h 56 (1440 + (20 * c + j)) := by rw [(tr4 56 (by omega)).1.1, k4.2.1, (tr4 56 (by omega)).2.1]
      have i7 : hJ t5 57 (240 * e + (20 * c + j)) = hJ h 57 (1440 + (20 * c + j)) := by rw [(tr4 57 (by omega)).1.2, k4.2.2, (tr4 57 (by omega)).2.2]
      refine ⟨i5.trans b1, fun z => i7.trans (b2 z), fun z => i6.trans (b3 z), fun z => ?_⟩
      obtain ⟨s2, d1, d2, d3⟩ := b4 z
      exact ⟨s2, i6.trans d1, fml s2 _ d2 d3⟩
end ED
