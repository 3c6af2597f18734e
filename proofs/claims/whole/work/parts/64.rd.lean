/-! ===== the component reads: frames, its small methods ===== -/
/-- cells may have come; of the old ones the rows in S (numbers) and SA (references) may have changed -/
def gr (S SA : Nat → Prop) (h t : SH) : Prop := hz h ≤ hz t ∧ (∀ b, b < hz h → t.2.1 b = h.2.1 b) ∧ (∀ b, b < hz h → ¬ SA b → hA t b = hA h b) ∧ ∀ b, b < hz h → ¬ S b → hI t b = hI h b ∧ hJ t b = hJ h b
section GR
variable {S SA S' SA' : Nat → Prop} {h t u : SH}
theorem gr.rf : gr S SA h h := ⟨Nat.le_refl _, fun _ _ => rfl, fun _ _ _ => rfl, fun _ _ _ => ⟨rfl, rfl⟩⟩
theorem gr.tr (a : gr S SA h t) (b : gr S SA t u) : gr S SA h u := ⟨Nat.le_trans a.1 b.1, fun q hq => (b.2.1 q (Nat.lt_of_lt_of_le hq a.1)).trans (a.2.1 q hq), fun q hq hn => (b.2.2.1 q (Nat.lt_of_lt_of_le hq a.1) hn).trans (a.2.2.1 q hq hn), fun q hq hn => ⟨(b.2.2.2 q (Nat.lt_of_lt_of_le hq a.1) hn).1.trans (a.2.2.2 q hq hn).1, (b.2.2.2 q (Nat.lt_of_lt_of_le hq a.1) hn).2.trans (a.2.2.2 q hq hn).2⟩⟩
theorem gr.up (a : gr S SA h t) (h1 : ∀ b, b < hz h → S b → S' b) (h2 : ∀ b, b < hz h → SA b → SA' b) : gr S' SA' h t := ⟨a.1, a.2.1, fun q hq hn => a.2.2.1 q hq (fun z => hn (h2 q hq z)), fun q hq hn => a.2.2.2 q hq (fun z => hn (h1 q hq z))⟩
theorem gr.s {a i : Nat} {v : Int32} (c : gr S SA h t) (ha : S a ∨ hz h ≤ a) : gr S SA h (sI t a i v) := ⟨c.1, c.2.1, c.2.2.1, fun b hb hn => ⟨(sI_nb (fun q : b = a => by subst q; exact ha.elim hn (fun z => absurd hb (Nat.not_lt.mpr z)))).trans (c.2.2.2 b hb hn).1, (c.2.2.2 b hb hn).2⟩⟩
theorem gr.j {a i : Nat} {v : Int64} (c : gr S SA h t) (ha : S a ∨ hz h ≤ a) : gr S SA h (sJ t a i v) := ⟨c.1, c.2.1, c.2.2.1, fun b hb hn => ⟨(c.2.2.2 b hb hn).1, (sJ_nb (fun q : b = a => by subst q; exact ha.elim hn (fun z => absurd hb (Nat.not_lt.mpr z)))).trans (c.2.2.2 b hb hn).2⟩⟩
theorem gr.a {a i : Nat} {v : Option Nat} (c : gr S SA h t) (ha : SA a ∨ hz h ≤ a) : gr S SA h (sA t a i v) := ⟨c.1, c.2.1, fun b hb hn => (funext fun j => sA_ne (h := t) (fun q => by rw [q.1] at hb hn; exact ha.elim hn (fun z => absurd hb (Nat.not_lt.mpr z)))).trans (c.2.2.1 b hb hn), c.2.2.2⟩
theorem gr.nw {k n : Nat} (c : gr S SA h t) : gr S SA h (nw t k n) := by
  have e : ∀ b, b < hz h → b ≠ t.1 := fun b hb => Nat.ne_of_lt (Nat.lt_of_lt_of_le hb c.1)
  refine ⟨Nat.le_trans c.1 (Nat.le_succ _), fun b hb => ?_, fun b hb hn => ?_, fun b hb hn => ⟨?_, ?_⟩⟩
  · show (if b = t.1 then (k, n) else t.2.1 b) = _
    rw [if_neg (e b hb)]; exact c.2.1 b hb
  · funext j; show (if b = t.1 then none else t.2.2.2.2 b j) = _
    rw [if_neg (e b hb)]; exact congrFun (c.2.2.1 b hb hn) j
  · funext j; show (if b = t.1 then 0 else t.2.2.1 b j) = _
    rw [if_neg (e b hb)]; exact congrFun (c.2.2.2 b hb hn).1 j
  · funext j; show (if b = t.1 then 0 else t.2.2.2.1 b j) = _
    rw [if_neg (e b hb)]; exact congrFun (c.2.2.2 b hb hn).2 j
theorem gr.ext {n : Nat} (c : gr S SA h t) (hn : hz t ≤ n) : gr S SA h (ext t n) := by
  refine ⟨Nat.le_trans c.1 hn, fun b hb => ?_, c.2.2.1, c.2.2.2⟩
  show (if t.1 ≤ b ∧ b < n then (99, 0) else t.2.1 b) = _
  rw [if_neg (fun z => absurd (Nat.lt_of_lt_of_le hb c.1) (Nat.not_lt.mpr z.1))]; exact c.2.1 b hb
theorem chR.gr (c : chR S h t) : gr S SA h t := ⟨by rw [c.hz]; exact Nat.le_refl _, fun b _ => congrArg (fun k : Skl => k.2.1 b) c.1, fun b _ _ => by rw [c.hA], fun b _ hn => c.2 b hn⟩
theorem gr.ob {a c : Nat} (g : gr S SA h t) (F : kOb (Sk h) a c) : kOb (Sk t) a c := ⟨F.1, Nat.lt_of_lt_of_le F.2.1 g.1, by show (t.2.1 a).1 = c; rw [g.2.1 a F.2.1]; exact F.2.2⟩
theorem gr.ar {a c n : Nat} (g : gr S SA h t) (F : kAr (Sk h) a c n) : kAr (Sk t) a c n := ⟨F.1, Nat.lt_of_lt_of_le F.2.1 g.1, by show (t.2.1 a).1 = c; rw [g.2.1 a F.2.1]; exact F.2.2.1, by show (t.2.1 a).2 = n; rw [g.2.1 a F.2.1]; exact F.2.2.2⟩
theorem gr.N {a : Nat} (g : gr S SA h t) (ha : a < hz h) : hN t a = hN h a := congrArg Prod.snd (g.2.1 a ha)
theorem gr.L3 {a : Nat} (g : gr S SA h t) (ha : ¬ SA a) (F : LX3 (Sk h) a) : LX3 (Sk t) a := by
  have hr : ∀ j v, (Sk h).2.2 a j = v → (Sk t).2.2 a j = v := fun j v e => (congrFun (g.2.2.1 a F.1.2.1 ha) j).trans e
  have h1 : ∀ b c, kOb (Sk h) b c → kOb (Sk t) b c := fun b c => g.ob
  have h2 : ∀ b c n, kAr (Sk h) b c n → kAr (Sk t) b c n := fun b c n => g.ar
  revert F; unfold LX3
  repeat' first | exact h1 _ _ | exact hr _ _ | exact h2 _ _ _ | apply And.imp
theorem gr.L2 {a : Nat} (g : gr S SA h t) (ha : ¬ SA a) (F : LX2 (Sk h) a) : LX2 (Sk t) a := by
  have hr : ∀ j v, (Sk h).2.2 a j = v → (Sk t).2.2 a j = v := fun j v e => (congrFun (g.2.2.1 a F.1.2.1 ha) j).trans e
  have h1 : ∀ b c, kOb (Sk h) b c → kOb (Sk t) b c := fun b c => g.ob
  have h2 : ∀ b c n, kAr (Sk h) b c n → kAr (Sk t) b c n := fun b c n => g.ar
  revert F; unfold LX2
  repeat' first | exact h1 _ _ | exact hr _ _ | exact h2 _ _ _ | apply And.imp
theorem gr.L4 {a : Nat} (g : gr S SA h t) (ha : ¬ SA a) (F : LX4 (Sk h) a) : LX4 (Sk t) a := by
  obtain ⟨f1, f2, f3⟩ := F
  refine ⟨g.ob f1, (congrFun (g.2.2.1 a f1.2.1 ha) 0).trans f2, ?_⟩
  have := g.ar f3
  show kAr (Sk t) (a + 1) 20 (t.2.1 (a + 1)).2
  rw [g.2.1 _ f3.2.1]; exact this
theorem gr.L9 {a : Nat} (g : gr S SA h t) (ha : ¬ SA a) (F : LX9 (Sk h) a) : LX9 (Sk t) a := by
  obtain ⟨f1, ⟨f2, f3⟩, ⟨f4, f5⟩, ⟨f6, f7⟩, f8, f9⟩ := F
  have hr : ∀ j v, (Sk h).2.2 a j = v → (Sk t).2.2 a j = v := fun j v e => (congrFun (g.2.2.1 a f1.2.1 ha) j).trans e
  refine ⟨g.ob f1, ⟨hr _ _ f2, g.ar f3⟩, ⟨hr _ _ f4, ?_⟩, ⟨hr _ _ f6, ?_⟩, hr _ _ f8, ?_⟩
  · show kAr (Sk t) (a + 2) 20 (t.2.1 (a + 2)).2; rw [g.2.1 _ f5.2.1]; exact g.ar f5
  · show kAr (Sk t) (a + 3) 20 (t.2.1 (a + 3)).2; rw [g.2.1 _ f7.2.1]; exact g.ar f7
  · show kAr (Sk t) (a + 4) 23 (t.2.1 (a + 4)).2; rw [g.2.1 _ f9.2.1]; exact g.ar f9
theorem gr.L7 {a : Nat} (g : gr S SA h t) (ha : ¬ SA a) (ha3 : ¬ SA (a + 3)) (F : LX7 (Sk h) a) : LX7 (Sk t) a := by
  obtain ⟨f1, ⟨f2, f3⟩, ⟨f4, f5⟩, ⟨f6, f7⟩, ⟨f8, f9⟩, f10, f11⟩ := F
  have hr : ∀ j v, (Sk h).2.2 a j = v → (Sk t).2.2 a j = v := fun j v e => (congrFun (g.2.2.1 a f1.2.1 ha) j).trans e
  refine ⟨g.ob f1, ⟨hr _ _ f2, g.ar f3⟩, ⟨hr _ _ f4, g.ar f5⟩, ⟨hr _ _ f6, g.L9 ha3 f7⟩, ⟨hr _ _ f8, ?_⟩, hr _ _ f10, ?_⟩
  · show kAr (Sk t) (a + 8) 23 (t.2.1 (a + 8)).2; rw [g.2.1 _ f9.2.1]; exact g.ar f9
  · show kAr (Sk t) (a + 9) 20 (t.2.1 (a + 9)).2; rw [g.2.1 _ f11.2.1]; exact g.ar f11
end GR
theorem vC.a {T : List Tk} {i : Nat} {v : Int64} (V : vC (tk T i) v) (h : kd T i ≤ 11) : v = enc32 (wd T i) := V.1 h
theorem vC.b {T : List Tk} {i : Nat} {v : Int64} (V : vC (tk T i) v) (h : kd T i = 12) : v = lN (nu T i) := V.2 h
/-- the reader k of edition e at token i; the names told -/
def RD (h : SH) (k e : Nat) (T : List Tk) (N : List (List Nat)) (i : Nat) : Prop := LX7 (Sk h) k ∧ hA h k 1 = some e ∧ Tks h (k + 3) T ∧ Hd h (k + 3) T i ∧ (hI h k 3 = nI N.length ∧ (∀ (q : Nat) (hq : q < N.length), hJ h (k + 8) q = enc32 N[q]) ∧ N.length ≤ hN h (k + 8) ∧ hN h (k + 8) < 2 ^ 31) ∧ (T.length ≤ hN h (k + 9) + 1 ∧ hN h (k + 9) < 2 ^ 31) ∧ 73 ≤ k
def ISE : String := "java/lang/IllegalStateException"
/-- what a fault leaves -/
abbrev gZ (e k : Nat) (h t : SH) : Prop := gr (fun b => e ≤ b) (fun b => e ≤ b ∧ (b < k ∨ k + 9 < b)) h t
def Zr (e k f : Nat) (h : SH) (E : String) (t : SH) : Prop := E = ISE ∧ hI t k 8 = nI f ∧ gZ e k h t
theorem Zr.tr {e k f : Nat} {h t u : SH} {E : String} (a : gZ e k h t) (b : Zr e k f t E u) : Zr e k f h E u := ⟨b.1, b.2.1, gr.tr a b.2.2⟩
section RDs
variable {X : GX} {h : SH} {T : List Tk} {k e i : Nat} {N : List (List Nat)}
theorem RD.sz (R : RD h k e T N i) : k + 9 < hz h := R.1.2.2.2.2.2.2.2.1
theorem RD.mv {S SA : Nat → Prop} {t : SH} (R : RD h k e T N i) (g : gr S SA h t) (h1 : ∀ b, k + 3 ≤ b → b ≤ k + 8 → ¬ S b) (h2 : ∀ b, k ≤ b → b ≤ k + 9 → ¬ SA b) (h3 : hI t k 3 = hI h k 3) : RD t k e T N i := by
  have hz9 := R.sz
  obtain ⟨r1, r2, ⟨t1, t2, t3, t4, t5⟩, ⟨d1, d2, d3, d4, d5⟩, ⟨n1, n2, n3, n4⟩, ⟨o1, o2⟩, r7⟩ := R
  have e3 := g.2.2.2 (k + 3) (by omega) (h1 _ (by omega) (by omega))
  have e5 := g.2.2.2 (k + 3 + 2) (by omega) (h1 _ (by omega) (by omega))
  have e6 := g.2.2.2 (k + 3 + 3) (by omega) (h1 _ (by omega) (by omega))
  have e7 := g.2.2.2 (k + 3 + 4) (by omega) (h1 _ (by omega) (by omega))
  have e8 := g.2.2.2 (k + 8) (by omega) (h1 _ (by omega) (by omega))
  have nn : ∀ b, b ≤ k + 9 → hN t b = hN h b := fun b hb => g.N (by omega)
  refine ⟨g.L7 (h2 _ (by omega) (by omega)) (h2 _ (by omega) (by omega)) r1, by rw [g.2.2.1 k (by omega) (h2 _ (by omega) (by omega))]; exact r2, ⟨g.L9 (h2 _ (by omega) (by omega)) t1, t2.cg e5.1 e6.1 e7.2, by rw [e3.1]; exact t3, by rw [nn _ (by omega), nn _ (by omega), nn _ (by omega)]; exact t4, by rw [nn _ (by omega), nn _ (by omega), nn _ (by omega)]; exact t5⟩, ⟨by rw [e3.1]; exact d1, by rw [e3.1]; exact d2, by rw [e3.1]; exact d3, by rw [e3.2]; exact d4, d5⟩, ⟨h3.trans n1, by rw [e8.2]; exact n2, by rw [nn _ (by omega)]; exact n3, by rw [nn _ (by omega)]; exact n4⟩, ⟨by rw [nn _ (by omega)]; exact o1, by rw [nn _ (by omega)]; exact o2⟩, r7⟩
/-- the next token -/
theorem c_next (R : RD h k e T N i) (hT : okT T) (hk : kd T i ≠ 14) : Cd X mX9_toNext [.ref (k + 3)] h 0 0 (oV (fun t => chR (· = k + 3) h t ∧ RD t k e T N (i + 1)) nX) := by
  have hi := R.2.2.2.1.2.2.2.2
  have hl := hT.2.1
  refine Gd.mono (Nat.le_refl _) (Nat.le_refl _) (fun o t q => ?_) (c_toNext (X := X) (j := i + 1) R.2.2.1 R.2.2.2.1.1 (hT.lt hi hk) (by omega))
  match o, q with
  | .inl none, ⟨c1, c2, c3⟩ =>
    have hz9 := R.sz
    obtain ⟨r1, r2, ⟨t1, t2, t3, t4, t5⟩, r4, ⟨n1, n2, n3, n4⟩, ⟨o1, o2⟩, r7⟩ := R
    have nn : ∀ b, hN t b = hN h b := fun b => c1.hN b
    exact ⟨c1, c1.1 ▸ r1, by rw [c1.hA]; exact r2, ⟨c1.1 ▸ t1, t2.cg (c1.2 _ (by omega)).1 (c1.2 _ (by omega)).1 (c1.2 _ (by omega)).2, by rw [c2 6 (by decide)]; exact t3, by rw [nn, nn, nn]; exact t4, by rw [nn, nn, nn]; exact t5⟩, c3, ⟨by rw [(c1.2 k (by omega)).1]; exact n1, by rw [(c1.2 (k + 8) (by omega)).2]; exact n2, by rw [nn]; exact n3, by rw [nn]; exact n4⟩, ⟨by rw [nn]; exact o1, by rw [nn]; exact o2⟩, r7⟩
theorem x_fail {x : Nat} (R : RD h k e T N i) (he : e ≤ k) : Cd X mX7_fail [.ref k, .int (nI x)] h 1 6 (oV (fun _ => False) (Zr e k (flt T x i) h)) := by
  have hp : hI h (k + 3) 9 = nI (pl T i) := R.2.2.2.1.2.2.1
  show Gd X mX7_fail 0 [some (.ref k), some (.int (nI x))] [] h (0 + 1) (0 + 6) _
  refine g_aload_n dX7_fail_0 rfl (g_iload_n dX7_fail_1 rfl (g_bipush (v := 16) dX7_fail_2 (by decide) (g_aload_n dX7_fail_4 rfl ?_)))
  refine g_getAs (c := 7) (k := 0) (b := k + 3) dX7_fail_5 (by decide) (by decide) kw_413 rfl (LX7.o (h := h) R.1) (LX7.r_tokens (h := h) R.1) ?_
  refine g_getNI (c := 9) (k := 9) dX7_fail_8 (by decide) (by decide) kn_386 rfl (LX9.o (h := h) (LX7.l_tokens R.1)) ?_
  refine g_imul dX7_fail_11 (g_iadd dX7_fail_12 ?_)
  rw [hp, show (16 : Int32) = nI 16 from rfl, pk_mul, nI_add]
  refine g_put (c := 7) (k := 8) (h1 := sI h k 8 (nI (x + 16 * pl T i))) dX7_fail_13 (by decide) (by decide) kw_421 rfl (LX7.o (h := h) R.1) rfl rfl (Put.I rfl) ?_
  refine g_throwS (cls := "java/lang/IllegalStateException") (text := "the token in hand is wrong") (ik := 58) (is := 66) (ic := 68) (by decide) kw_445 kw_111 (fun s0 => s0.2.2.2.2.2.2.1) tw7 dX7_fail_16 dX7_fail_19 dX7_fail_20 dX7_fail_22 dX7_fail_25 rfl (by decide) (by decide) (fun n hn => ?_)
  exact ⟨rfl, sI_at, gr.ext (gr.s gr.rf (Or.inl he)) hn⟩
theorem oVx {Q : SH → Prop} {Z Z' : String → SH → Prop} {M : MI} {args : List Value} {nc ns : Nat} (hz : ∀ E t, Z E t → Z' E t) (c : Cd X M args h nc ns (oV (fun _ => False) Z)) : Cd X M args h nc ns (oV Q Z') :=
  Gd.mono (Nat.le_refl _) (Nat.le_refl _) (fun o t q => match o, q with
    | .inr E, q => hz E t q) c
theorem c_require {x : Nat} (R : RD h k e T N i) (hx : kd T i = x) : Cd X mX7_require [.ref k, .int (nI x)] h 0 0 (oV (fun t => t = h) nX) := by
  have hk : hI h (k + 3) 8 = nI (kd T i) := R.2.2.2.1.2.1
  exact bkX7_require_0 R.1 (fun _ => bkX7_require_16 rfl) (fun z => absurd (by rw [hk, hx]) z)
theorem x_require {x : Nat} (R : RD h k e T N i) (hT : okT T) (he : e ≤ k) (hx : kd T i ≠ x) (hb : x < 100) : Cd X mX7_require [.ref k, .int (nI x)] h 1 6 (oV (fun _ => False) (Zr e k (flt T 1 i) h)) := by
  have hk : hI h (k + 3) 8 = nI (kd T i) := R.2.2.2.1.2.1
  have h61 := hT.k R.2.2.2.1.2.2.2.2
  refine bkX7_require_0 R.1 (fun z => ?_) (fun _ => ?_)
  · rw [hk, nI_eq (by omega) (by omega)] at z; exact absurd z hx
  exact bkX7_require_11 (nc := 0) (ns := 0) R.1 (x_fail (x := 1) R he) (fun E t z => z) (fun t z => z.elim)
theorem c_pass {x : Nat} (R : RD h k e T N i) (hT : okT T) (hx : kd T i = x) (h14 : x ≠ 14) : Cd X mX7_pass [.ref k, .int (nI x)] h 0 0 (oV (fun t => chR (· = k + 3) h t ∧ RD t k e T N (i + 1)) nX) := by
  refine Gd.z (bkX7_pass_0 R.1 (c_require R hx) (fun E t z => z.elim) (fun t q => ?_))
  subst q
  exact bkX7_pass_5 R.1 (c_next R hT (by omega)) (fun t q => bkX7_pass_12 q)
theorem x_pass {x : Nat} (R : RD h k e T N i) (hT : okT T) (he : e ≤ k) (hx : kd T i ≠ x) (hb : x < 100) : Cd X mX7_pass [.ref k, .int (nI x)] h 1 6 (oV (fun _ => False) (Zr e k (flt T 1 i) h)) :=
  bkX7_pass_0 (nc := 0) (ns := 0) R.1 (x_require R hT he hx hb) (fun E t z => z) (fun t z => z.elim)
theorem c_requireNumber {lo : Nat} (R : RD h k e T N i) (hT : okT T) (hx : kd T i = 12) (h1 : lo ≤ nu T i) (h2 : nu T i ≤ 99) : Cd X mX7_requireNumber [.ref k, .int (nI lo)] h 0 0 (oI (fun r t => r = nI (nu T i) ∧ t = h) nX) := by
  have hv : hJ h (k + 3) 10 = lN (nu T i) := R.2.2.2.1.2.2.2.1.b hx
  refine Gd.z (bkX7_requireNumber_0 R.1 (c_require (x := 12) R hx) (fun E t z => z.elim) (fun t q => ?_))
  subst q
  refine bkX7_requireNumber_6 R.1 (fun z => ?_) (fun _ => ?_)
  · rw [lg_cmp_lt, hv, nI_l (by omega)] at z
    have := (pk_lLT (a := nu T i) (b := lo) (by omega) (by omega)).mp z; omega
  refine bkX7_requireNumber_19 R.1 (fun _ => bkX7_requireNumber_38 R.1 ⟨?_, rfl⟩) (fun z => ?_)
  · rw [hv, ← nI_l (by omega)]; exact Int32.toInt32_toInt64 _
  · rw [lg_cmp_le, hv, show (99 : Int64) = lN 99 from rfl] at z
    exact absurd ((pk_lLE (a := nu T i) (b := 99) (by omega) (by omega)).mpr h2) z
theorem x_requireNumber {lo x : Nat} (R : RD h k e T N i) (hT : okT T) (he : e ≤ k) (hl : lo ≤ 99) (hx : (kd T i ≠ 12 ∧ x = 1) ∨ (kd T i = 12 ∧ x = 4 ∧ (nu T i < lo ∨ 99 < nu T i))) : Cd X mX7_requireNumber [.ref k, .int (nI lo)] h 1 6 (oI (fun _ _ => False) (Zr e k (flt T x i) h)) := by
  rcases hx with ⟨h1, rfl⟩ | ⟨h1, rfl, h2⟩
  · exact bkX7_requireNumber_0 (nc := 0) (ns := 0) R.1 (x_require (x := 12) R hT he h1 (by decide)) (fun E t z => z) (fun t z => z.elim)
  · have hv : hJ h (k + 3) 10 = lN (nu T i) := R.2.2.2.1.2.2.2.1.b h1
    have hn := hT.n R.2.2.2.1.2.2.2.2 h1
    have bad : Gd X mX7_requireNumber 33 [some (.ref k), none] [] h 1 6 (oI (fun _ _ => False) (Zr e k (flt T 4 i) h)) := bkX7_requireNumber_33 (nc := 0) (ns := 0) R.1 (x_fail (x := 4) R he) (fun E t z => z) (fun t z => z.elim)
    refine Gd.z (bkX7_requireNumber_0 R.1 (c_require (x := 12) R h1) (fun E t z => z.elim) (fun t q => ?_))
    subst q
    refine bkX7_requireNumber_6 R.1 (fun _ => bad) (fun z => ?_)
    rw [lg_cmp_lt, hv, nI_l (by omega)] at z
    have z' : ¬ nu T i < lo := fun y => z ((pk_lLT (a := nu T i) (b := lo) (by omega) (by omega)).mpr y)
    refine bkX7_requireNumber_19 R.1 (fun y => ?_) (fun _ => bad)
    rw [lg_cmp_le, hv, show (99 : Int64) = lN 99 from rfl] at y
    have := (pk_lLE (a := nu T i) (b := 99) (by omega) (by omega)).mp y
    omega
/-- the component's number of a name -/
def gC (N : List (List Nat)) (w : List Nat) : Nat := N.idxOf w
end RDs
