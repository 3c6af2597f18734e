/-! ===== the reader: items ===== -/
def FmR (h : SH) (lo hi f : Nat) (o : Fml) : Prop := lo ≤ f ∧ f + 1 < hi ∧ FmC h f o
def ItR (h : SH) (lo hi q : Nat) (it : Itm) : Prop := (lo ≤ q ∧ q < hi) ∧ LX5 (Sk h) q ∧ hI h q 0 = kcode it.1 ∧ (it.1 = 0 → hJ h q 1 = enc32 it.2.1) ∧ (it.1 = 2 → hI h q 2 = nI it.2.2.1) ∧ (it.1 = 1 ∨ it.1 = 3 → ∃ f, hA h q 3 = some f ∧ FmR h lo hi f it.2.2.2)
section RNG
variable {S SA : Nat → Prop} {h t : SH} {lo hi lo' hi' : Nat}
theorem FmR.g {f : Nat} {o : Fml} (K : FmR h lo hi f o) (g : gr S SA h t) (hz : hi ≤ hz h) (hS : ∀ b, lo ≤ b → b < hi → ¬ S b ∧ ¬ SA b) : FmR t lo hi f o := by
  obtain ⟨a1, a2, L, h1, h2, h3⟩ := K
  refine ⟨a1, a2, g.L4 (hS f a1 (by omega)).2 L, (g.N (by omega)).trans h1, h2, fun i hi => ?_⟩
  rw [(g.2.2.2 (f + 1) (by omega) (hS _ (by omega) a2).1).1]; exact h3 i hi
theorem FmR.mono {f : Nat} {o : Fml} (K : FmR h lo hi f o) (h1 : lo' ≤ lo) (h2 : hi ≤ hi') : FmR h lo' hi' f o := ⟨by have := K.1; omega, by have := K.2.1; omega, K.2.2⟩
theorem ItR.g {q : Nat} {it : Itm} (K : ItR h lo hi q it) (g : gr S SA h t) (hz : hi ≤ hz h) (hS : ∀ b, lo ≤ b → b < hi → ¬ S b ∧ ¬ SA b) : ItR t lo hi q it := by
  obtain ⟨⟨a1, a2⟩, L, h1, h2, h3, h4⟩ := K
  have e := g.2.2.2 q (by omega) (hS q a1 a2).1
  refine ⟨⟨a1, a2⟩, g.ob L, by rw [e.1]; exact h1, fun z => by rw [e.2]; exact h2 z, fun z => by rw [e.1]; exact h3 z, fun z => ?_⟩
  obtain ⟨f, f1, f2⟩ := h4 z
  exact ⟨f, by rw [g.2.2.1 q (by omega) (hS q a1 a2).2]; exact f1, f2.g g hz hS⟩
theorem ItR.mono {q : Nat} {it : Itm} (K : ItR h lo hi q it) (h1 : lo' ≤ lo) (h2 : hi ≤ hi') : ItR h lo' hi' q it := by
  obtain ⟨⟨a1, a2⟩, L, k1, k2, k3, k4⟩ := K
  refine ⟨⟨by omega, by omega⟩, L, k1, k2, k3, fun z => ?_⟩
  obtain ⟨f, f1, f2⟩ := k4 z
  exact ⟨f, f1, f2.mono h1 h2⟩
theorem ItR.C {q : Nat} {it : Itm} (K : ItR h lo hi q it) (h73 : 73 ≤ lo) : ItC h q it := by
  obtain ⟨⟨a1, a2⟩, L, k1, k2, k3, k4⟩ := K
  refine ⟨by omega, L, k1, k2, k3, fun z => ?_⟩
  obtain ⟨f, f1, f2⟩ := k4 z
  exact ⟨f, by have := f2.1; omega, f1, f2.2.2⟩
end RNG
section RI
variable {X : GX} {h : SH} {T : List Tk} {k e i : Nat} {N : List (List Nat)} {F : List Fct}
/-- the room that is left at token i -/
def cB (T : List Tk) (i : Nat) : Nat := 3 * (T.length - i) + 10
def sB (T : List Tk) (i : Nat) : Nat := 8 * (T.length - i) + 60
theorem kcode_k {n : Nat} (h : n = 11 ∨ n = 61 ∨ n = 9 ∨ n = 10) : kcode (ikd n) = nI n := by
  rcases h with rfl | rfl | rfl | rfl <;> decide
theorem RD.nw (R : RD h k e T N i) {c n : Nat} : RD (nw h c n) k e T N i := R.mv (gr.nw (S := fun _ => False) (SA := fun _ => False) gr.rf) (fun b _ _ z => z) (fun b _ _ z => z) (by
  have := R.sz
  show (if k = h.1 then 0 else h.2.2.1 k 3) = _
  rw [if_neg (by have : hz h = h.1 := rfl; omega)]; rfl)
theorem nw_ob {c : Nat} (h8 : 8 ≤ hz h) : Ob (nw h c 0) (hz h) c := ⟨h8, Nat.lt_succ_self _, nw_K⟩
/-- an item's object -/
theorem c_X5init {q : Nat} {x x4 : Int32} {y : Int64} {r : Option Nat} (O : Ob h q 5) : Cd X mX5_init [.ref q, .int x, .long y, .int x4, va_rf r] h 0 0 (oV (fun t => t = sA (sI (sJ (sI h q 0 x) q 1 y) q 2 x4) q 3 r) nX) := by
  have : Cd X mX5_init [.ref q, .int x, .long y, .int x4, va_rf r] h 0 0 (oV (fun t => t = sA (sI (sJ (sI h q 0 x) q 1 y) q 2 x4) q 3 r) nX) ↔ Gd X mX5_init 0 [some (.ref q), some (.int x), some (.long y), none, some (.int x4), some (va_rf r)] [] h 0 0 (oV (fun t => t = sA (sI (sJ (sI h q 0 x) q 1 y) q 2 x4) q 3 r) nX) := by cases r <;> exact Iff.rfl
  exact this.mpr (bkX5_init_0 (bkX5_init_4 O (bkX5_init_26 rfl)))
/-- what an item's reading gives -/
def IO (h : SH) (k e : Nat) (T : List Tk) (N : List (List Nat)) (r : Itm × Nat) (a : Option Nat) (t : SH) : Prop := a = some (hz h) ∧ gr (fS k) (fun _ => False) h t ∧ hz h < hz t ∧ RD t k e T N r.2 ∧ ItR t (hz h) (hz t) (hz h) (rsI (gC N) r.1) ∧ ∀ j, j ≠ 5 → hI t k j = hI h k j
theorem hd_fin {q : Nat} {g : SH} {it : Itm} {x4 : Int32} {y : Int64} {r : Option Nat} (O : Ob g q 5) (hg : q < hz g) (h1 : it.1 ≤ 3) (h2 : it.1 = 0 → y = enc32 it.2.1) (h3 : it.1 = 2 → x4 = nI it.2.2.1) (h4 : it.1 = 1 ∨ it.1 = 3 → ∃ f, r = some f ∧ FmR g (q + 1) (hz g) f it.2.2.2) : ItR (sA (sI (sJ (sI g q 0 (kcode it.1)) q 1 y) q 2 x4) q 3 r) q (hz g) q it := by
  refine ⟨⟨Nat.le_refl _, hg⟩, O, ?_, fun z => ?_, fun z => ?_, fun z => ?_⟩
  · show hI (sI (sJ (sI g q 0 (kcode it.1)) q 1 y) q 2 x4) q 0 = _
    rw [sI_nj (by decide)]; exact sI_at (h := g)
  · show hJ (sJ (sI g q 0 (kcode it.1)) q 1 y) q 1 = _
    rw [sJ_at]; exact h2 z
  · show hI (sI (sJ (sI g q 0 (kcode it.1)) q 1 y) q 2 x4) q 2 = _
    rw [sI_at]; exact h3 z
  · obtain ⟨f, rfl, K⟩ := h4 z
    refine ⟨f, sA_at (h := sI (sJ (sI g q 0 (kcode it.1)) q 1 y) q 2 x4), ?_⟩
    have gg : gr (· = q) (· = q) g (sA (sI (sJ (sI g q 0 (kcode it.1)) q 1 y) q 2 x4) q 3 (some f)) := ((((gr.rf (S := (· = q)) (SA := (· = q))).s (Or.inl rfl)).j (Or.inl rfl)).s (Or.inl rfl)).a (Or.inl rfl)
    exact (K.g gg (Nat.le_refl _) (fun b hb _ => ⟨by omega, by omega⟩)).mono (by omega) (Nat.le_refl _)
theorem c_readItem {r : Itm × Nat} (R : RD h k e T N i) (hT : okT T) (hek : e + 8 ≤ k) (ok : okFs F) (Q : FC h e F) (hNt : N = tld T T.length) (hl : N.length < 2 ^ 30) (h9 : hN h (k + 9) < 2 ^ 24) (hs : stI (kd T i) = true) (hp : pItem T F i = .ok r) : Cd X mX7_readItem [.ref k] h (3 * (r.2 - i)) (8 * (r.2 - i)) (oA (IO h k e T N r) nX) := by
  have hkd : kd T i = 11 ∨ kd T i = 61 ∨ kd T i = 9 ∨ kd T i = 10 := by simpa [stI] using hs
  have hi := R.2.2.2.1.2.2.2.2
  have hi1 : i + 1 < T.length := hT.lt hi (by omega)
  have sz := R.sz
  obtain ⟨p1, p2, p3, p4⟩ := pItem_ok hT hi hs hp
  have e8 : hI h (k + 3) 8 = nI (kd T i) := R.2.2.2.1.2.1
  have ev := R.2.2.2.1.2.2.2.1
  refine bkX7_readItem_0 R.1 (c_next R hT (by omega)) (fun t q => ?_)
  obtain ⟨ct, Rt⟩ := q
  rw [e8]
  have gt : gr (fS k) (fun _ => False) h t := (ct.gr).up (fun b _ z => by unfold fS; omega) (fun b _ z => z)
  have hzt : hz t = hz h := ct.hz
  have kt : ∀ j, hI t k j = hI h k j := fun j => by rw [(ct.2 k (by omega)).1]
  have hO : Ob (nw t 5 0) (hz t) 5 := nw_ob (by omega)
  have gn : gr (fS k) (fun _ => False) h (nw t 5 0) := gt.nw
  have kn : ∀ j, hI (nw t 5 0) k j = hI h k j := fun j => by
    show (if k = t.1 then 0 else t.2.2.1 k j) = _
    rw [if_neg (by have : hz t = t.1 := rfl; omega)]; exact kt j
  have hz1 : hz (nw t 5 0) = hz h + 1 := by show t.1 + 1 = _; rw [← hzt]; rfl
  unfold pItem at hp
  by_cases k11 : kd T i = 11
  · rw [if_pos k11] at hp
    cases hp
    refine Gd.le (nc := 0 + 1) (ns := 0 + 4) (by simp only; omega) (by simp only; omega) ?_
    refine bkX7_readItem_23 (fun z => absurd (by rw [k11]; rfl) z) (fun _ => ?_)
    refine bkX7_readItem_29 (bkX7_readItem_32 (c_X5init (r := none) hO) (fun u q => bkX7_readItem_40 ?_))
    subst q
    rw [k11]
    refine ⟨by rw [hzt], ((gn.s (Or.inr (by omega))).j (Or.inr (by omega))).s (Or.inr (by omega)) |>.a (Or.inr (by omega)), by show hz h < hz (nw t 5 0); omega, (Rt.nw (c := 5) (n := 0)).mv (S := (· = hz t)) (SA := (· = hz t)) (((((gr.rf (S := (· = hz t)) (SA := (· = hz t))).s (Or.inl rfl)).j (Or.inl rfl)).s (Or.inl rfl)).a (Or.inl rfl)) (fun b _ _ => by omega) (fun b _ _ => by omega) ?_, ?_, fun j hj => ?_⟩
    · show hI (sI (sJ (sI (nw t 5 0) _ _ _) _ _ _) _ _ _) k 3 = _
      rw [sI_nb (by omega)]; show hI (sI (nw t 5 0) _ _ _) k 3 = _; rw [sI_nb (by omega)]
    · rw [← hzt]
      exact hd_fin (it := rsI (gC N) (0, wd T i, 0, [])) hO (by omega) (by show 0 ≤ 3; omega) (fun _ => ev.a (by omega)) (fun z => absurd (show (0 : Nat) = 2 from z) (by decide)) (fun z => absurd (show (0 : Nat) = 1 ∨ (0 : Nat) = 3 from z) (by decide))
    · show hI (sI (sJ (sI (nw t 5 0) _ _ _) _ _ _) _ _ _) k j = _
      rw [sI_nb (by omega)]; show hI (sI (nw t 5 0) _ _ _) k j = _; rw [sI_nb (by omega)]; exact kn j
  rw [if_neg k11] at hp
  refine bkX7_readItem_23 (fun _ => ?_) (fun z => ?_)
  rotate_left
  · rw [show (11 : Int32) = nI 11 from rfl, nI_eq (by omega) (by omega)] at z; exact absurd z k11
  by_cases k9 : kd T i = 9
  · rw [if_pos k9] at hp
    by_cases q3 : kd T (i + 1) ≠ 11
    · rw [if_pos q3] at hp; cases hp
    rw [if_neg q3] at hp
    by_cases q4 : isT T (wd T (i + 1)) = false
    · rw [if_pos q4] at hp; cases hp
    rw [if_neg q4] at hp
    cases hp
    refine Gd.le (nc := 0 + 0 + 1) (ns := 0 + 0 + 4) (by simp only; omega) (by simp only; omega) ?_
    refine bkX7_readItem_41 (fun z => absurd (by rw [k9]; rfl) z) (fun _ => ?_)
    refine bkX7_readItem_47 (bkX7_readItem_50 (n1 := 0) (s1 := 0) (nc := 0) (ns := 0) (Rt.nw (c := 5) (n := 0)).1 (c_readTarget (Rt.nw (c := 5) (n := 0)) hT hNt hl (by omega) (by simpa using q4)) (fun E u z => z.elim) (fun x4 u q => ?_))
    obtain ⟨rfl, cu, Ru⟩ := q
    have Ou : Ob u (hz t) 5 := ⟨hO.1, by rw [cu.hz]; exact hO.2.1, by rw [show hK u (hz t) = hK (nw t 5 0) (hz t) from congrArg (fun k : Skl => (k.2.1 (hz t)).1) cu.1]; exact hO.2.2⟩
    have gu : gr (fS k) (fun _ => False) h u := gn.tr ((cu.gr).up (fun b _ z => by unfold fS; omega) (fun b _ z => z))
    have hzu : hz u = hz h + 1 := cu.hz.trans hz1
    refine bkX7_readItem_57 (c_X5init (r := none) Ou) (fun w q => bkX7_readItem_61 ?_)
    subst q
    rw [k9]
    refine ⟨by rw [hzt], ((gu.s (Or.inr (by omega))).j (Or.inr (by omega))).s (Or.inr (by omega)) |>.a (Or.inr (by omega)), by show hz h < hz u; omega, Ru.mv (S := (· = hz t)) (SA := (· = hz t)) (((((gr.rf (S := (· = hz t)) (SA := (· = hz t))).s (Or.inl rfl)).j (Or.inl rfl)).s (Or.inl rfl)).a (Or.inl rfl)) (fun b _ _ => by omega) (fun b _ _ => by omega) ?_, ?_, fun j hj => ?_⟩
    · show hI (sI (sJ (sI u _ _ _) _ _ _) _ _ _) k 3 = _
      rw [sI_nb (by omega)]; show hI (sI u _ _ _) k 3 = _; rw [sI_nb (by omega)]
    · rw [← hzt]
      exact hd_fin (it := rsI (gC N) (2, wd T (i + 1), 0, [])) Ou (by omega) (by show 2 ≤ 3; omega) (fun z => absurd (show (2 : Nat) = 0 from z) (by decide)) (fun _ => rfl) (fun z => absurd (show (2 : Nat) = 1 ∨ (2 : Nat) = 3 from z) (by decide))
    · show hI (sI (sJ (sI u _ _ _) _ _ _) _ _ _) k j = _
      rw [sI_nb (by omega)]; show hI (sI u _ _ _) k j = _; rw [sI_nb (by omega), (cu.2 k (by omega)).1]; exact kn j
  rw [if_neg k9] at hp
  refine bkX7_readItem_41 (fun _ => ?_) (fun z => ?_)
  rotate_left
  · rw [show (9 : Int32) = nI 9 from rfl, nI_eq (by omega) (by omega)] at z; exact absurd z k9
  cases hpe : pE T F (i + 1) with
  | error f => rw [hpe] at hp; cases hp
  | ok r2 =>
  rw [hpe] at hp
  cases hp
  obtain ⟨d1, d2, d3, d4, d5, d6⟩ := pE_ok hT hi1 hpe
  have Qn : FC (nw t 5 0) e F := by
    have gg : gr (fS k) (fun _ => False) h (nw t 5 0) := gn
    refine ⟨gg.L3 (fun z => z) Q.1, ?_, ?_⟩
    · rw [(gg.2.2.2 e (by omega) (by unfold fS; omega)).1]; exact Q.2.1
    · rw [(gg.2.2.2 (e + 1) (by omega) (by unfold fS; omega)).2]; exact Q.2.2
  have n9 : hN (nw t 5 0) (k + 9) < 2 ^ 24 := by rw [gn.N (by omega)]; exact h9
  refine Gd.le (nc := 2 + 0 + 1) (ns := 1 + r2.1.length + 0 + 4) (by simp only; omega) (by simp only; omega) ?_
  refine bkX7_readItem_62 (bkX7_readItem_65 (n1 := 2) (s1 := 1 + r2.1.length) (nc := 0) (ns := 0) (Rt.nw (c := 5) (n := 0)).1 (c_readFormula (Rt.nw (c := 5) (n := 0)) hT hek ok Qn (by omega) n9 hpe) (fun E u z => z.elim) (fun a u q => ?_))
  obtain ⟨rfl, gu, hzu, Ru, Fu, ku⟩ := q
  rw [hz1] at hzu Fu
  have Ou : Ob u (hz t) 5 := ⟨hO.1, by omega, by show (u.2.1 (hz t)).1 = 5; rw [gu.2.1 _ (by omega)]; exact hO.2.2⟩
  have gu2 : gr (fS k) (fun _ => False) h u := gn.tr gu
  have e2 : kcode (if kd T i = 61 then 1 else 3) = nI (kd T i) := by
    by_cases y : kd T i = 61
    · rw [if_pos y, y]; decide
    · rw [if_neg y, show kd T i = 10 by omega]; decide
  refine bkX7_readItem_73 (c_X5init (r := some (hz (nw t 5 0))) Ou) (fun w q => bkX7_readItem_76 ?_)
  subst q
  rw [← e2]
  refine ⟨by rw [hzt], ((gu2.s (Or.inr (by omega))).j (Or.inr (by omega))).s (Or.inr (by omega)) |>.a (Or.inr (by omega)), by show hz h < hz u; omega, Ru.mv (S := (· = hz t)) (SA := (· = hz t)) (((((gr.rf (S := (· = hz t)) (SA := (· = hz t))).s (Or.inl rfl)).j (Or.inl rfl)).s (Or.inl rfl)).a (Or.inl rfl)) (fun b _ _ => by omega) (fun b _ _ => by omega) ?_, ?_, fun j hj => ?_⟩
  · show hI (sI (sJ (sI u _ _ _) _ _ _) _ _ _) k 3 = _
    rw [sI_nb (by omega)]; show hI (sI u _ _ _) k 3 = _; rw [sI_nb (by omega)]
  · rw [← hzt]
    refine hd_fin (it := rsI (gC N) (if kd T i = 61 then 1 else 3, [], 0, r2.1)) Ou (by omega) (by show (if kd T i = 61 then 1 else 3) ≤ 3; split <;> omega) (fun z => ?_) (fun z => ?_) (fun _ => ⟨_, rfl, by omega, by omega, by rw [hz1]; exact Fu⟩)
    · have z : (if kd T i = 61 then 1 else 3) = 0 := z
      split at z <;> omega
    · have z : (if kd T i = 61 then 1 else 3) = 2 := z
      split at z <;> omega
  · show hI (sI (sJ (sI u _ _ _) _ _ _) _ _ _) k j = _
    rw [sI_nb (by omega)]; show hI (sI u _ _ _) k j = _; rw [sI_nb (by omega), ku j hj]; exact kn j
end RI
