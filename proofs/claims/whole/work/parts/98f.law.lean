/-! ===== the law ===== -/
theorem bkL_law_721 {X : GX} {h : SH} {nc ns : Nat} {P : Out → SH → Prop} {n1 s1 : Nat} {Q : Int32 → SH → Prop} {a1 : Nat} {a2 : Nat} {a3 : Nat} {x4 : Int32} (i0 : vp_in (x4 + 1) (xL X)) (i1 : vp_in (x4 + 2) (xL X)) (hN : Cd X mL_told [.ref a1, .int (xsc X ((x4 + 1 : Int32).toNatClampNeg)), .int (xsc X ((x4 + 2 : Int32).toNatClampNeg)), .ref a3] (h) n1 s1 (oI Q nX)) (g : ∀ r t, Q r t → Gd X mL_law 738 [some (.ref 0), some (.ref a1), some (.ref a2), some (.ref a3), some (.int x4), none, none] [.int r] (t) nc ns P) : Gd X mL_law 721 [some (.ref 0), some (.ref a1), some (.ref a2), some (.ref a3), some (.int x4), none, none] [] h (n1 + nc) (s1 + ns) P := by
  refine g_aload_n dL_law_721 rfl ?_
  refine g_aload_n dL_law_722 rfl ?_
  refine g_iload dL_law_723 rfl ?_
  refine g_iconst (v := 1) dL_law_725 (by decide) ?_
  refine g_iadd dL_law_726 ?_
  refine g_sld dL_law_727 i0 ?_
  refine g_aload_n dL_law_728 rfl ?_
  refine g_iload dL_law_729 rfl ?_
  refine g_iconst (v := 2) dL_law_731 (by decide) ?_
  refine g_iadd dL_law_732 ?_
  refine g_sld dL_law_733 i1 ?_
  refine g_aload_n dL_law_734 rfl ?_
  exact g_callSH [.ref a1, .int (xsc X ((x4 + 1 : Int32).toNatClampNeg)), .int (xsc X ((x4 + 2 : Int32).toNatClampNeg)), .ref a3] dL_law_735 mhL_told ⟨by decide, by decide⟩ kw_1074 kw_1075 rfl (Nat.le_of_ble_eq_true rfl) (by intro x hx; cases hx) (Nat.le_of_ble_eq_true rfl) hN (fun _ _ q => q.elim) (oI_go (G := fun a b => Gd X mL_law 738 _ a b nc ns P) (fun r t q => Gd.wk (g r t q) ⟨rfl, ⟨rfl, ⟨rfl, ⟨rfl, ⟨rfl, trivial⟩⟩⟩⟩⟩))
section RW
variable {h : SH} {v : Int64}
/-- the law's row is written -/
theorem ItC.w {q : Nat} {it : Itm} (B : Ar h 73 23 1) (F : ItC h q it) : ItC (sJ h 73 0 v) q it := by
  obtain ⟨h1, L, h2, h3, h4, h5⟩ := F
  exact ⟨h1, L, h2, fun z => by rw [sJ_nb (kind_ar L B (by decide))]; exact h3 z, h4, h5⟩
theorem ClC.w {b : Nat} {c : Cls} (B : Ar h 73 23 1) (F : ClC h b c) : ClC (sJ h 73 0 v) b c := by
  obtain ⟨h1, L, h2, h3, h4, h5, h6, h7, h8, h9, h10⟩ := F
  refine ⟨h1, L, h2, h3, h4, h5, h6, h7, h8, h9, fun j hj => ?_⟩
  obtain ⟨q, q1, q2⟩ := h10 j hj
  exact ⟨q, q1, q2.w B⟩
theorem EdC.w {e : Nat} {E : Edn} (B : Ar h 73 23 1) (F : EdC h e E) : EdC (sJ h 73 0 v) e E := by
  obtain ⟨h1, L, h2, h3, h4, h5, h6, h7, h8⟩ := F
  refine ⟨h1, L, h2, h3, h4, h5, fun k hk => by rw [sJ_nb (show e + 1 ≠ 73 by omega)]; exact h6 k hk, fun c hc => ?_, h8⟩
  obtain ⟨b, g1, g2⟩ := h7 c hc
  exact ⟨b, g1, g2.w B⟩
theorem RepC.w {A : Abs} (B : Ar h 73 23 1) (R : RepC h A) : RepC (sJ h 73 0 v) A := by
  obtain ⟨ad, r1, r2, r3, r4, r5, r6, r7⟩ := R
  exact ⟨ad, r1, r2, ⟨r3.1, fun i hi => by
    obtain ⟨g1, g2, g3, g4⟩ := r3.2 i hi
    exact ⟨g1, g2.w B, g3, g4⟩⟩, r4, r5, r6, r7⟩
theorem lg_self (x : Int64) : lg_cmp x x = 0 := by unfold lg_cmp; simp
end RW
section LAW
variable {X : GX} {h : SH} {A : Abs} {P : Out → SH → Prop}
/-- both states, the law's row -/
def LwS (A : Abs) (t : SH) : Prop := okA A ∧ RepC t A ∧ RepM t A ∧ Ar t 73 23 1 ∧ 74 ≤ hz t
theorem LwS.st {t t1 t2 : SH} {A' : Abs} (S : LwS A t) (ok' : okA A') (q1 : RepC t1 A') (q2 : frC t t1) (q3 : RepM t2 A') (q4 : frM t1 t2) : LwS A' t2 := by
  have k1 : kAr (Sk t1) 73 23 1 := kAr.up q2.1 S.2.2.2.1
  refine ⟨ok', q1.fr q4, q3, by show kAr (Sk t2) 73 23 1; rw [q4.1]; exact k1, ?_⟩
  have e : hz t2 = hz t1 := congrArg (fun k : Skl => k.1) q4.1
  have := q2.1.1
  have h1 : hz t ≤ hz t1 := this
  have := S.2.2.2.2
  omega
theorem fTake_ok {x : Int32} (ok : okA A) : okA (fTake A x).2 := by
  have h6 := ok.2.1
  unfold fTake
  split
  · rename_i q
    obtain ⟨n, hn, rfl⟩ := nI_some q.1
    rw [nI_clamp hn]
    exact takeA_ok ok ((nI_ltI hn (by omega)).mp q.2)
  · exact ok
theorem fInForce_ok {x : Int32} (ok : okA A) : okA (fInForce A x).2 := by
  unfold fInForce
  split
  · cases hl : lastIn A x (nE A) with
    | none => exact ok
    | some i => exact takeA_ok ok (lastIn_lt hl)
  · exact ok
theorem fEdition_ok {x : Int32} (ok : okA A) : okA (fEdition A x).2 ∧ aT (fEdition A x).2 = [] := by
  by_cases hd : okDay A x = true
  · cases hp : pEdn (toks (aT A)) with
    | error f => rw [fEd_err hd hp]; exact ⟨emp_ok ok, rfl⟩
    | ok p =>
      rw [fEd_ok hd hp]
      refine ⟨?_, rfl⟩
      unfold okDay at hd
      rw [decide_eq_true_iff] at hd
      obtain ⟨hx, h6, hdd⟩ := hd
      have h6' := ok.2.1
      obtain ⟨hT, -⟩ := toks_ok ok.1.1
      obtain ⟨ok2, -⟩ := pEdn_ok hT (F := p.1) (C := p.2) hp
      obtain ⟨xn, hxn, hxe⟩ := rep_x hx
      have hE := mkE_ok (x := xn) hT hxn ok2
      rw [hxe, nI_clamp (show xn < 2 ^ 31 by omega)]
      refine takeA_ok (addE_ok ok hE (by omega) (fun i hi => ?_)) (by rw [nE_add]; omega)
      have h0 := hdd (by omega)
      rw [hxe] at h0
      have hb1 := (ok.2.2.1 (nE A - 1) (by omega)).1
      rw [nI_ltI (by omega) (by omega)] at h0
      show _ < xn
      rcases Nat.lt_or_ge i (nE A - 1) with z | z
      · have := ok.2.2.2.1 i (nE A - 1) z (by omega); omega
      · rw [show i = nE A - 1 by omega]; exact h0
  · have : fEdition A x = (-1, emp A) := by unfold fEdition; rw [if_neg hd]
    rw [this]; exact ⟨emp_ok ok, rfl⟩
theorem fTake_t {x : Int32} : aT (fTake A x).2 = aT A := by unfold fTake; split <;> rfl
theorem fInForce_t {x : Int32} : aT (fInForce A x).2 = aT A := by unfold fInForce; repeat' split
                                                                  all_goals rfl
theorem fFact_t {x y : Int32} : aT (fFact A x y).2 = aT A := by unfold fFact; repeat' split
                                                                all_goals rfl
theorem fWorld_t {x : Int32} : aT (fWorld A x).2 = aT A := by unfold fWorld; repeat' split
                                                              all_goals rfl
theorem fFree_t {x : Int32} {b : Bool} : aT (fFree A x b).2 = aT A := by unfold fFree; repeat' split
                                                                         all_goals rfl
theorem fMake_t {x : Int32} : aT (fMake A x).2 = aT A := by unfold fMake; repeat' split
                                                            all_goals rfl
theorem sub7 {L k : Nat} (hL : L ≤ 3584) (hk : k ≤ 3584) (h : ¬ (nI L - 7 : Int32) < nI k) : k + 7 ≤ L := by
  by_cases q : 7 ≤ L
  · rw [show (7 : Int32) = nI 7 from rfl, pk_sub q, nI_ltI (by omega) (by omega)] at h; omega
  · exfalso
    refine h (Int32.lt_of_lt_of_le (b := 0) ?_ (by rw [n0, nI_leI (by omega) (by omega)]; omega))
    have : L = 0 ∨ L = 1 ∨ L = 2 ∨ L = 3 ∨ L = 4 ∨ L = 5 ∨ L = 6 := by omega
    rcases this with rfl | rfl | rfl | rfl | rfl | rfl | rfl <;> decide
theorem c_thrown (R : LX11 (Sk h) 35) : Cd X mX11_thrown [.ref 35] h 0 0 (oI (fun r t => r = hI h 35 0 ∧ t = h) nX) := bkX11_thrown_0 R ⟨rfl, rfl⟩
theorem law_loop (hZ : SZ X) (hL : xL X ≤ 3584) (hP : ∀ u, P (.inl (some (.int 1))) u) : ∀ (r c : Nat) (A : Abs) (t : SH), xL X < 7 * (c + r + 1) → 7 * c ≤ 3584 → LwS A t →
    Gd X mL_law 23 [some (.ref 0), some (.ref 8), some (.ref 35), some (.ref 73), some (.int (nI (7 * c))), none, none] [] t (3 * (aT A).length + 100 * r) (13 * (aT A).length + 500 * r) P := by
  intro r
  induction r with
  | zero =>
    intro c A t h1 h2 S
    refine bkL_law_23 (fun _ => bkL_law_820 (hP _)) (fun z => ?_)
    have := sub7 hL h2 z
    omega
  | succ r ih =>
    intro c A t h1 h2 S
    refine bkL_law_23 (fun _ => bkL_law_820 (hP _)) (fun z => ?_)
    have hc := sub7 hL h2 z
    have nx : ∀ (A' : Abs) (u : SH) (nc ns : Nat), LwS A' u → 3 * (aT A').length + 100 * r ≤ nc → 13 * (aT A').length + 500 * r ≤ ns → Gd X mL_law 814 [some (.ref 0), some (.ref 8), some (.ref 35), some (.ref 73), some (.int (nI (7 * c))), none, none] [] u nc ns P := fun A' u nc ns S' b1 b2 => by
      refine Gd.le b1 b2 (bkL_law_814 ?_)
      rw [show (7 : Int32) = nI 7 from rfl, nI_add, show 7 * c + 7 = 7 * (c + 1) by omega]
      exact ih (c + 1) A' u (by omega) (by omega) S'
    have v : ∀ k, k ≤ 6 → vp_in (nI (7 * c) + nI k) (xL X) := fun k hk => by rw [nI_add]; exact vp_in_nI (by omega) (by omega)
    have v0 : vp_in (nI (7 * c)) (xL X) := vp_in_nI (by omega) (by omega)
    obtain ⟨ok, RC', RM', B, hz74⟩ := S
    have S : LwS A t := ⟨ok, RC', RM', B, hz74⟩
    have F10 : LX10 (Sk t) 8 := by obtain ⟨ad, q, -⟩ := RC'; exact q
    have f11 : ∀ {u : SH}, frC t u → LX11 (Sk u) 35 := fun f => RM'.1.up f.1 (by unfold nm; decide)
    have fRM : ∀ {u : SH}, frC t u → RepM u A := fun f => RM'.fr f ok
    clear z ih
    refine bkL_law_33 v0 (fun _ => ?_) (fun _ => ?_) (fun _ => ?_) (fun _ => ?_) (fun _ => ?_) (fun _ => ?_) (fun _ => ?_) (fun _ => ?_) (fun _ => ?_) (fun _ => ?_) (fun _ => ?_) (fun _ => ?_) (fun _ => ?_) (fun _ => ?_) (fun _ => ?_) (fun _ => ?_) (fun _ => ?_) (fun _ _ _ _ _ _ _ _ _ _ _ _ _ _ _ _ _ => nx A t _ _ S (by omega) (by omega))
    · -- feed
      refine bkL_law_124 (v 1 (by decide)) (v 2 (by decide)) (v 3 (by decide)) (v 4 (by decide)) (v 5 (by decide)) (v 6 (by decide)) F10 (C_feed RC' ok) (fun r1 t1 q1 => ?_)
      refine bkL_law_195 (v 1 (by decide)) (v 2 (by decide)) (v 3 (by decide)) (v 4 (by decide)) (v 5 (by decide)) (v 6 (by decide)) (f11 q1.2.2) (M_feed (fRM q1.2.2) ok) (fun r2 t2 q2 => ?_)
      have l3 := lay3 (x := (((xsc X ((nI (7 * c) + 1 : Int32).toNatClampNeg) : Int32).toInt64) <<< ((32 : Int32).toInt64 &&& 63)) ||| (((xsc X ((nI (7 * c) + 2 : Int32).toNatClampNeg) : Int32).toInt64) &&& 4294967295)) (y := (((xsc X ((nI (7 * c) + 3 : Int32).toNatClampNeg) : Int32).toInt64) <<< ((32 : Int32).toInt64 &&& 63)) ||| (((xsc X ((nI (7 * c) + 4 : Int32).toNatClampNeg) : Int32).toInt64) &&& 4294967295)) (z := (((xsc X ((nI (7 * c) + 5 : Int32).toNatClampNeg) : Int32).toInt64) <<< ((32 : Int32).toInt64 &&& 63)) ||| (((xsc X ((nI (7 * c) + 6 : Int32).toNatClampNeg) : Int32).toInt64) &&& 4294967295)) ok.1
      refine bkL_law_266 (fun _ => nx _ t2 _ _ (S.st (setT_ok ok l3.1) q1.2.1 q1.2.2 q2.2.1 q2.2.2) ?_ ?_) (fun y => absurd (q1.1.trans q2.1.symm) y)
      · have := l3.2
        refine Nat.le_trans (Nat.add_le_add_right (Nat.mul_le_mul_left 3 this) _) ?_
        omega
      · have := l3.2
        refine Nat.le_trans (Nat.add_le_add_right (Nat.mul_le_mul_left 13 this) _) ?_
        omega
    · -- edition
      obtain ⟨e1, e2⟩ := fEdition_ok (x := xsc X ((nI (7 * c) + 1 : Int32).toNatClampNeg)) ok
      refine Gd.le (nc := 3 * (aT A).length + 23 + 100 * r) (ns := 13 * (aT A).length + 136 + 500 * r) (by omega) (by omega) (bkL_law_271 (v 1 (by decide)) F10 (C_edition hZ (by omega) RC' ok) (fun r1 t1 q1 => ?_))
      refine bkL_law_281 (v 1 (by decide)) (f11 q1.2.2) (M_edition (fRM q1.2.2) ok) (fun r2 t2 q2 => ?_)
      exact bkL_law_291 (fun _ => nx _ t2 _ _ (S.st e1 q1.2.1 q1.2.2 q2.2.1 q2.2.2) (by rw [e2]; show 3 * 0 + _ ≤ _; omega) (by rw [e2]; show 13 * 0 + _ ≤ _; omega)) (fun y => absurd (q1.1.trans q2.1.symm) y)
    · -- take
      refine bkL_law_296 (v 1 (by decide)) F10 (C_take RC' ok) (fun r1 t1 q1 => ?_)
      refine bkL_law_306 (v 1 (by decide)) (f11 q1.2.2) (M_take (fRM q1.2.2) ok) (fun r2 t2 q2 => ?_)
      refine bkL_law_316 (fun _ => nx _ t2 _ _ (S.st (fTake_ok ok) q1.2.1 q1.2.2 q2.2.1 q2.2.2) (by rw [fTake_t]; omega) (by rw [fTake_t]; omega)) (fun y => absurd (q1.1.trans q2.1.symm) y)
    · -- inForce
      refine bkL_law_321 (v 1 (by decide)) F10 (C_inForce RC' ok) (fun r1 t1 q1 => ?_)
      refine bkL_law_331 (v 1 (by decide)) (f11 q1.2.2) (M_inForce (fRM q1.2.2) ok) (fun r2 t2 q2 => ?_)
      refine bkL_law_341 (fun _ => nx _ t2 _ _ (S.st (fInForce_ok ok) q1.2.1 q1.2.2 q2.2.1 q2.2.2) (by rw [fInForce_t]; omega) (by rw [fInForce_t]; omega)) (fun y => absurd (q1.1.trans q2.1.symm) y)
    · -- fact
      refine bkL_law_346 (v 1 (by decide)) (v 2 (by decide)) F10 (C_fact RC' ok) (fun r1 t1 q1 => ?_)
      refine bkL_law_362 (v 1 (by decide)) (v 2 (by decide)) (f11 q1.2.2) (M_fact (fRM q1.2.2) ok) (fun r2 t2 q2 => ?_)
      refine bkL_law_378 (fun _ => nx _ t2 _ _ (S.st (fFact_ok ok) q1.2.1 q1.2.2 q2.2.1 q2.2.2) (by rw [fFact_t]; omega) (by rw [fFact_t]; omega)) (fun y => absurd (q1.1.trans q2.1.symm) y)
    · -- world
      refine bkL_law_383 (v 1 (by decide)) F10 (C_world RC' ok) (fun r1 t1 q1 => ?_)
      refine bkL_law_393 (v 1 (by decide)) (f11 q1.2.2) (M_world (fRM q1.2.2) ok) (fun r2 t2 q2 => ?_)
      refine bkL_law_403 (fun _ => nx _ t2 _ _ (S.st (fWorld_ok ok) q1.2.1 q1.2.2 q2.2.1 q2.2.2) (by rw [fWorld_t]; omega) (by rw [fWorld_t]; omega)) (fun y => absurd (q1.1.trans q2.1.symm) y)
    · -- free
      have go : ∀ b : Bool, (∀ u x, Gd X mL_law 453 [some (.ref 0), some (.ref 8), some (.ref 35), some (.ref 73), some (.int (nI (7 * c))), none, none] [.int (bI b), .int (xsc X ((nI (7 * c) + 1 : Int32).toNatClampNeg)), .ref 35, .int x] u (3 * (aT A).length + 100 * (r + 1)) (13 * (aT A).length + 500 * (r + 1)) P → Gd X mL_law 432 [some (.ref 0), some (.ref 8), some (.ref 35), some (.ref 73), some (.int (nI (7 * c))), none, none] [.int x] u (3 * (aT A).length + 100 * (r + 1)) (13 * (aT A).length + 500 * (r + 1)) P) → Gd X mL_law 429 [some (.ref 0), some (.ref 8), some (.ref 35), some (.ref 73), some (.int (nI (7 * c))), none, none] [.int (bI b), .int (xsc X ((nI (7 * c) + 1 : Int32).toNatClampNeg)), .ref 8] t (3 * (aT A).length + 100 * (r + 1)) (13 * (aT A).length + 500 * (r + 1)) P := fun b hg => by
        refine bkL_law_429 F10 (C_free RC' ok) (fun r1 t1 q1 => hg t1 r1 ?_)
        refine bkL_law_453 (f11 q1.2.2) (M_free (fRM q1.2.2) ok) (fun r2 t2 q2 => ?_)
        exact bkL_law_456 (fun _ => nx _ t2 _ _ (S.st (fFree_ok ok) q1.2.1 q1.2.2 q2.2.1 q2.2.2) (by rw [fFree_t]; omega) (by rw [fFree_t]; omega)) (fun y => absurd (q1.1.trans q2.1.symm) y)
      refine bkL_law_408 (v 1 (by decide)) (v 2 (by decide)) (fun y => bkL_law_428 (go false (fun u x g => ?_))) (fun y => bkL_law_424 (go true (fun u x g => ?_)))
      · exact bkL_law_432 (v 1 (by decide)) (v 2 (by decide)) (fun _ => bkL_law_452 g) (fun w => absurd y w)
      · exact bkL_law_432 (v 1 (by decide)) (v 2 (by decide)) (fun w => absurd w y) (fun _ => bkL_law_448 g)
    · -- make
      refine bkL_law_461 (v 1 (by decide)) F10 (C_make RC' ok) (fun r1 t1 q1 => ?_)
      refine bkL_law_471 (v 1 (by decide)) (f11 q1.2.2) (M_make (fRM q1.2.2) ok) (fun r2 t2 q2 => ?_)
      refine bkL_law_481 (fun _ => nx _ t2 _ _ (S.st (fMake_ok ok) q1.2.1 q1.2.2 q2.2.1 q2.2.2) (by rw [fMake_t]; omega) (by rw [fMake_t]; omega)) (fun y => absurd (q1.1.trans q2.1.symm) y)
    · -- letter
      refine bkL_law_486 (v 1 (by decide)) F10 (C_letter RC') (fun r1 t1 q1 => ?_)
      refine bkL_law_496 (v 1 (by decide)) (f11 q1.2.2) (M_letter (fRM q1.2.2) ok) (fun r2 t2 q2 => ?_)
      refine bkL_law_506 (fun _ => nx _ t2 _ _ (S.st ok q1.2.1 q1.2.2 q2.2.1 q2.2.2) (by show 3 * (aT A).length + 100 * r ≤ _; omega) (by show 13 * (aT A).length + 500 * r ≤ _; omega)) (fun y => absurd (q1.1.trans q2.1.symm) y)
    · -- out
      refine bkL_law_511 (v 1 (by decide)) F10 (C_out RC') (fun r1 t1 q1 => ?_)
      refine bkL_law_521 (v 1 (by decide)) (f11 q1.2.2) (M_out (fRM q1.2.2) ok) (fun r2 t2 q2 => ?_)
      refine bkL_law_531 (fun _ => nx _ t2 _ _ (S.st ok q1.2.1 q1.2.2 q2.2.1 q2.2.2) (by show 3 * (aT A).length + 100 * r ≤ _; omega) (by show 13 * (aT A).length + 500 * r ≤ _; omega)) (fun y => absurd (q1.1.trans q2.1.symm) y)
    · -- part
      refine bkL_law_536 (v 1 (by decide)) F10 (C_part RC') (fun r1 t1 q1 => ?_)
      refine bkL_law_546 (v 1 (by decide)) (f11 q1.2.2) (M_part (fRM q1.2.2) ok) (fun r2 t2 q2 => ?_)
      refine bkL_law_556 (fun _ => nx _ t2 _ _ (S.st ok q1.2.1 q1.2.2 q2.2.1 q2.2.2) (by show 3 * (aT A).length + 100 * r ≤ _; omega) (by show 13 * (aT A).length + 500 * r ≤ _; omega)) (fun y => absurd (q1.1.trans q2.1.symm) y)
    · -- working
      refine bkL_law_561 (v 1 (by decide)) (v 2 (by decide)) F10 (C_working RC') (fun r1 t1 q1 => ?_)
      refine bkL_law_577 (v 1 (by decide)) (v 2 (by decide)) (f11 q1.2.2) (M_working (fRM q1.2.2) ok) (fun r2 t2 q2 => ?_)
      refine bkL_law_593 (fun _ => nx _ t2 _ _ (S.st ok q1.2.1 q1.2.2 q2.2.1 q2.2.2) (by show 3 * (aT A).length + 100 * r ≤ _; omega) (by show 13 * (aT A).length + 500 * r ≤ _; omega)) (fun y => absurd (q1.1.trans q2.1.symm) y)
    · -- judge
      refine bkL_law_598 (v 1 (by decide)) (v 2 (by decide)) F10 (C_judge RC' ok) (fun r1 t1 q1 => ?_)
      refine bkL_law_614 (v 1 (by decide)) (v 2 (by decide)) (f11 q1.2.2) (M_judge (fRM q1.2.2) ok) (fun r2 t2 q2 => ?_)
      refine bkL_law_630 (fun _ => nx _ t2 _ _ (S.st ok q1.2.1 q1.2.2 q2.2.1 q2.2.2) (by show 3 * (aT A).length + 100 * r ≤ _; omega) (by show 13 * (aT A).length + 500 * r ≤ _; omega)) (fun y => absurd (q1.1.trans q2.1.symm) y)
    · -- changed
      refine bkL_law_635 (v 1 (by decide)) (v 2 (by decide)) (v 3 (by decide)) (v 4 (by decide)) F10 (C_changed RC' ok) (fun r1 t1 q1 => ?_)
      refine bkL_law_663 (v 1 (by decide)) (v 2 (by decide)) (v 3 (by decide)) (v 4 (by decide)) (f11 q1.2.2) (M_changed (fRM q1.2.2) ok) (fun r2 t2 q2 => ?_)
      refine bkL_law_691 (fun _ => nx _ t2 _ _ (S.st ok q1.2.1 q1.2.2 q2.2.1 q2.2.2) (by show 3 * (aT A).length + 100 * r ≤ _; omega) (by show 13 * (aT A).length + 500 * r ≤ _; omega)) (fun y => absurd (q1.1.trans q2.1.symm) y)
    · -- look
      refine bkL_law_696 (v 1 (by decide)) F10 (C_look RC' ok) (fun r1 t1 q1 => ?_)
      refine bkL_law_706 (v 1 (by decide)) (f11 q1.2.2) (M_look (fRM q1.2.2) ok) (fun r2 t2 q2 => ?_)
      refine bkL_law_716 (fun _ => nx _ t2 _ _ (S.st ok q1.2.1 q1.2.2 q2.2.1 q2.2.2) (by show 3 * (aT A).length + 100 * r ≤ _; omega) (by show 13 * (aT A).length + 500 * r ≤ _; omega)) (fun y => absurd (q1.1.trans q2.1.symm) y)
    · -- told
      refine Gd.le (nc := 1 + (3 * (aT A).length + 100 * r)) (ns := 6 + (13 * (aT A).length + 500 * r)) (by omega) (by omega) (bkL_law_721 (v 1 (by decide)) (v 2 (by decide)) (L_told RC' ok B) (fun r1 t1 q1 => ?_))
      generalize hx : xsc X ((nI (7 * c) + 1 : Int32).toNatClampNeg) = x at q1
      generalize hy : xsc X ((nI (7 * c) + 2 : Int32).toNatClampNeg) = y at q1
      by_cases ho : okTo A x y = true
      · obtain ⟨rfl, ht⟩ := q1.1 ho
        have f1 : frC t t1 := by rw [ht]; exact ⟨kup.rf, fun b h1 h2 => ⟨rfl, sJ_nb (by omega)⟩⟩
        have R1 : RepC t1 A := by
          rw [ht]
          exact RC'.w B
        have B1 : Ar t1 73 23 1 := by rw [ht]; exact B
        refine bkL_law_738 (v 1 (by decide)) (v 2 (by decide)) (f11 f1) (by rw [hx, hy]; exact M_told (fRM f1) ok) (fun r2 t2 q2 => ?_)
        obtain ⟨⟨m1, m2⟩, m3, -⟩ := q2
        obtain ⟨m4, m5⟩ := m3 ho
        refine bkL_law_756 m1.1 (c_thrown m1.1) (fun r3 t3 q3 => ?_)
        obtain ⟨rfl, h3⟩ := q3
        rw [h3, m4]
        have B2 : Ar t2 73 23 1 := by show kAr (Sk t2) 73 23 1; rw [m2.1]; exact B1
        refine bkL_law_762 (fun _ => bkL_law_769 (fun w => absurd rfl w) (fun _ => ?_)) (fun w => absurd rfl w)
        refine bkL_law_774 (n5 := 1) B2 (show vp_in (nI 0) 1 from vp_in_nI (by decide) (by decide)) (fun _ => bkL_law_786 (nx A t2 _ _ (S.st ok R1 f1 m1 m2) (by omega) (by omega))) (fun w => absurd ?_ w)
        rw [(m2.2 73 (Or.inr (by decide))).2, ht, m5]
        show lg_cmp (hJ (sJ t 73 0 ((vTo A x y).toInt64)) 73 0) _ = 0
        rw [sJ_at]
        exact lg_self _
      · have ho : okTo A x y = false := by cases h : okTo A x y; rfl; exact absurd h ho
        obtain ⟨rfl, n, hn, ht⟩ := q1.2 ho
        have g1 : gO t t1 := by rw [ht]; exact gr.ext gr.rf hn
        have f1 : frC t t1 := g1.frC (by omega)
        have R1 : RepC t1 A := by
          obtain ⟨ad, q⟩ := RC'
          exact ⟨ad, RC.old q g1 (by omega)⟩
        refine bkL_law_738 (v 1 (by decide)) (v 2 (by decide)) (f11 f1) (by rw [hx, hy]; exact M_told (fRM f1) ok) (fun r2 t2 q2 => ?_)
        obtain ⟨⟨m1, m2⟩, -, m3⟩ := q2
        refine bkL_law_756 m1.1 (c_thrown m1.1) (fun r3 t3 q3 => ?_)
        obtain ⟨rfl, h3⟩ := q3
        rw [h3, m3 ho]
        exact bkL_law_762 (fun _ => bkL_law_769 (fun _ => bkL_law_786 (nx A t2 _ _ (S.st ok R1 f1 m1 m2) (by omega) (by omega))) (fun w => absurd w (by decide))) (fun w => absurd rfl w)
    · -- count
      refine bkL_law_789 (v 1 (by decide)) F10 (C_count RC') (fun r1 t1 q1 => ?_)
      refine bkL_law_799 (v 1 (by decide)) (f11 q1.2.2) (M_count (fRM q1.2.2) ok) (fun r2 t2 q2 => ?_)
      refine bkL_law_809 (fun _ => nx _ t2 _ _ (S.st ok q1.2.1 q1.2.2 q2.2.1 q2.2.2) (by show 3 * (aT A).length + 100 * r ≤ _; omega) (by show 13 * (aT A).length + 500 * r ≤ _; omega)) (fun y => absurd (q1.1.trans q2.1.symm) y)
end LAW
