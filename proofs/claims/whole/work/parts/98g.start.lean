/-! ===== the law from its entry; what holds there ===== -/
section ST
variable {X : GX} {P : Out → SH → Prop}
theorem law_all (hZ : SZ X) (hL : xL X ≤ 3584) (hP : ∀ u, P (.inl (some (.int 1))) u) : Cd X mL_law [.ref 0] h00 51266 357779 P := by
  show Gd X mL_law 0 [some (.ref 0), none, none, none, none, none, none] [] h00 51266 357779 P
  have O1 : Ob (nw h00 10 0) 8 10 := nw_ob (by decide)
  refine Gd.le (nc := 26 + 51239 + 1) (ns := 10951 + 346818 + 10) (by decide) (by decide) (bkL_law_0 (bkL_law_3 (c_X10init (b := 8) (by decide) O1) (fun t q => ?_)))
  have q : t = hD0 := q
  rw [q]
  refine Gd.le (nc := 37 + 51201 + 1) (ns := 90759 + 256001 + 58) (by decide) (by decide) (bkL_law_7 ?_)
  rw [hD0_z]
  have O2 : Ob (nw hD0 11 0) 35 11 := by rw [← hD0_z]; exact nw_ob (by rw [hD0_z]; decide)
  refine bkL_law_11 (c_X11init (by show 8 ≤ hz hD0 + 1; rw [hD0_z]; decide) O2) (fun u q => ?_)
  have q : u = hM0 := q
  rw [q]
  refine Gd.le (nc := 51200 + 1) (ns := 256000 + 1) (by decide) (by decide) (bkL_law_15 ?_)
  rw [hM0_z]
  refine bkL_law_19 ?_
  show Gd X mL_law 23 [some (.ref 0), some (.ref 8), some (.ref 35), some (.ref 73), some (.int (nI (7 * 0))), none, none] [] hL0 51200 256000 P
  refine Gd.le (nc := 3 * (aT A00).length + 100 * 512) (ns := 13 * (aT A00).length + 500 * 512) (by decide) (by decide) (law_loop hZ hL hP 512 0 A00 hL0 (by omega) (by decide) ⟨A00_ok, hL0_C, hL0_M, hL0_73, by rw [hL0_z]; decide⟩)
end ST
section SS
variable {s : State} {b L : Nat} {xs : Nat → Int32}
theorem st_arr {ty : FieldType} {args : Array Value} (h : (Cond.arrayClass ty).before args s = true) (ht : ∀ C, ty ≠ .object C) : ∃ c : ClassId, ArrOfT s c ty ∧ va_RA s c ty := by
  obtain ⟨c, k, comp, h1, h2, h3⟩ := Cond.arrayClass_spec h
  refine ⟨c, fun N z => ⟨(fun k h => by cases h), k, h2, comp, h3⟩, ?_⟩
  cases ty with
  | object C => exact absurd rfl (ht C)
  | _ => exact h1
theorem st_arO {C : String} {args : Array Value} (h : (Cond.arrayOver (.object C)).before args s = true) : ∃ c : ClassId, ArrOfT s c (.object C) ∧ va_RA s c (.object C) := by
  obtain ⟨comp, c, k, h1, -, h2, h3, h4⟩ := Cond.arrayOver_spec h
  exact ⟨c, fun N z => ⟨(fun k h => by cases h), k, h2, comp, h3⟩, k, comp, h2, h3, h1, h4⟩
theorem st_str {own : String} {k : Nat} {args : Array Value} {tx : String} (h1 : (Cond.stringRef own k tx).before args s = true) (h2 : (Cond.exactly (.string own k) "java/lang/String").before args s = true) : ∃ a, vk_R own k tx a s := by
  obtain ⟨a, c, cA, kA, q1, -⟩ := Cond.exactly_spec (args := args) (first := s) (o := none) (s := s) (idx := []) (t := .string own k) (cls := "java/lang/String") h2
  exact ⟨a, vk_R.of h1 q1⟩
theorem fl_co : ∀ i, i < 2 → Cond.exactly (.string RX9 (ixS i)) "java/lang/String" ∈ flatC (Cond.and given_1 narrow_1) ∧ Cond.eq (.field (.string RX9 (ixS i)) "java/lang/String" "coder" "B") (.int 0) ∈ flatC (Cond.and given_1 narrow_1) ∧ Cond.arrayOf (.field (.string RX9 (ixS i)) "java/lang/String" "value" "[B") .byte ∈ flatC (Cond.and given_1 narrow_1) ∧ Cond.eq (.length (.field (.string RX9 (ixS i)) "java/lang/String" "value" "[B")) (.int (Int32.ofNat (lenS.getD i 0))) ∈ flatC (Cond.and given_1 narrow_1) := by decide +kernel
theorem fl_el : ∀ i, i < 2 → ∀ j, j < lenS.getD i 0 → Cond.eq (.elem (.field (.string RX9 (ixS i)) "java/lang/String" "value" "[B") (.int (Int32.ofNat j))) (.int ((bytS.getD i []).getD j 0)) ∈ flatC (Cond.and given_1 narrow_1) := by decide +kernel
theorem fl_ne : ∀ i, i < 2 → ∀ j, j < 2 → i ≠ j → Cond.not (Cond.eq (.string RX9 (ixS i)) (.string RX9 (ixS j))) ∈ flatC (Cond.and given_1 narrow_1) ∨ Cond.not (Cond.eq (.string RX9 (ixS j)) (.string RX9 (ixS i))) ∈ flatC (Cond.and given_1 narrow_1) := by decide +kernel
theorem tb_str : ∀ i, i < 2 → Cond.stringRef RX9 (ixS i) (txS i) ∈ lw_tbl := by decide +kernel
/-- where a static's reference lies, for the small machine -/
def xpO (n b k0 k1 v0 v1 : Nat) (t : Nat) : Nat → Nat := fun a => if a = 0 then b else if a = 1 then k0 else if a = 2 then k1 else if a = 3 then v0 else if a = 4 then v1 else if a = 5 then (if t < n then t else b) else b
theorem start_X (l : Launch) (hst : l.stackTraces = false) (hts : ∀ w ∈ lw_tbl, w.before #[Value.ref b] s = true) (hX : va_X b L xs s s.heap) (hbl : b < s.heap.size) (hgv : (Jvm.Cond.and given_1 narrow_1).before #[Value.ref b] s = true) :
    ∃ X : GX, S0 X ∧ SZ X ∧ xs0 X = s ∧ xl X = l ∧ xL X = L ∧ xph X 0 = b := by
  have hs := flat_of_before _ hgv
  have hA : ∀ a : Nat, a < s.heap.size → ¬ (fun q : Nat => s.heap.size ≤ q) a := fun a h => Nat.not_le.mpr h
  obtain ⟨adK, adV, hVS, hev⟩ := vk_Sof (args := #[Value.ref b]) (s := s) (N := 2) (tm := fun i => Term.string RX9 (ixS i)) (len := lenS) (byt := bytS) (A := fun q : Nat => s.heap.size ≤ q)
    (fun i hi => Nat.lt_of_le_of_lt (len_lt hi) (by decide)) (fun i hi => hs _ (fl_co i hi).1) (fun i hi => hs _ (fl_co i hi).2.1) (fun i hi => hs _ (fl_co i hi).2.2.1) (fun i hi => hs _ (fl_co i hi).2.2.2) (fun i hi j hj => hs _ (fl_el i hi j hj))
    (fun i j hi hj hne => (fl_ne i hi j hj hne).elim (fun z => Or.inl (hs _ z)) (fun z => Or.inr (hs _ z))) hA
  obtain ⟨c0, i0, hK0⟩ := u_known (C := RX0) (T := TX0) (N := 2) (n := 2) hts (by decide +kernel) (hts (.instantiable RX0 2) (by decide +kernel))
  obtain ⟨c1, i1, hK1⟩ := u_known (C := RX1) (T := TX1) (N := 2) (n := 2) hts (by decide +kernel) (hts (.instantiable RX1 2) (by decide +kernel))
  obtain ⟨c2, i2, hK2⟩ := u_known (C := RX2) (T := TX2) (N := 10) (n := 10) hts (by decide +kernel) (hts (.instantiable RX2 10) (by decide +kernel))
  obtain ⟨c3, i3, hK3⟩ := u_known (C := RX3) (T := TX3) (N := 13) (n := 13) hts (by decide +kernel) (hts (.instantiable RX3 13) (by decide +kernel))
  obtain ⟨c4, i4, hK4⟩ := u_known (C := RX4) (T := TX4) (N := 1) (n := 1) hts (by decide +kernel) (hts (.instantiable RX4 1) (by decide +kernel))
  obtain ⟨c5, i5, hK5⟩ := u_known (C := RX5) (T := TX5) (N := 4) (n := 4) hts (by decide +kernel) (hts (.instantiable RX5 4) (by decide +kernel))
  obtain ⟨c6, i6, hK6⟩ := u_known (C := RX6) (T := TX6) (N := 9) (n := 9) hts (by decide +kernel) (hts (.instantiable RX6 9) (by decide +kernel))
  obtain ⟨c7, i7, hK7⟩ := u_known (C := RX7) (T := TX7) (N := 9) (n := 9) hts (by decide +kernel) (hts (.instantiable RX7 9) (by decide +kernel))
  obtain ⟨c8, i8, hK8⟩ := u_known (C := RX8) (T := TX8) (N := 8) (n := 8) hts (by decide +kernel) (hts (.instantiable RX8 8) (by decide +kernel))
  obtain ⟨c9, i9, hK9⟩ := u_known (C := RX9) (T := TX9) (N := 11) (n := 11) hts (by decide +kernel) (hts (.instantiable RX9 11) (by decide +kernel))
  obtain ⟨c10, i10, hK10⟩ := u_known (C := RX10) (T := TX10) (N := 10) (n := 10) hts (by decide +kernel) (hts (.instantiable RX10 10) (by decide +kernel))
  obtain ⟨c11, i11, hK11⟩ := u_known (C := RX11) (T := TX11) (N := 58) (n := 58) hts (by decide +kernel) (hts (.instantiable RX11 58) (by decide +kernel))
  obtain ⟨dC, dI, hKc⟩ : ∃ (dC : Nat → ClassId) (dI : Nat → Nat → Nat), ∀ (k : Nat) (q : vw_C), ctl[k]? = some q → u_Kn s q.1 q.2.1 q.2.2 (dC k) (dI k) := by
    refine ⟨fun k => match k with | 0 => c0 | 1 => c1 | 2 => c2 | 3 => c3 | 4 => c4 | 5 => c5 | 6 => c6 | 7 => c7 | 8 => c8 | 9 => c9 | 10 => c10 | _ => c11, fun k => match k with | 0 => i0 | 1 => i1 | 2 => i2 | 3 => i3 | 4 => i4 | 5 => i5 | 6 => i6 | 7 => i7 | 8 => i8 | 9 => i9 | 10 => i10 | _ => i11, ?_⟩
    intro k q hq
    match k, hq with
    | 0, hq => cases hq; exact hK0
    | 1, hq => cases hq; exact hK1
    | 2, hq => cases hq; exact hK2
    | 3, hq => cases hq; exact hK3
    | 4, hq => cases hq; exact hK4
    | 5, hq => cases hq; exact hK5
    | 6, hq => cases hq; exact hK6
    | 7, hq => cases hq; exact hK7
    | 8, hq => cases hq; exact hK8
    | 9, hq => cases hq; exact hK9
    | 10, hq => cases hq; exact hK10
    | 11, hq => cases hq; exact hK11
    | k + 12, hq => simp [ctl] at hq
  obtain ⟨a0, hr0⟩ := st_arr (ty := .int) (hts (.arrayClass .int) (by decide +kernel)) (fun C h => by cases h)
  obtain ⟨a1, hr1⟩ := st_arr (ty := .byte) (hts (.arrayClass .byte) (by decide +kernel)) (fun C h => by cases h)
  obtain ⟨a2, hr2⟩ := st_arr (ty := .boolean) (hts (.arrayClass .boolean) (by decide +kernel)) (fun C h => by cases h)
  obtain ⟨a3, hr3⟩ := st_arr (ty := .long) (hts (.arrayClass .long) (by decide +kernel)) (fun C h => by cases h)
  obtain ⟨a4, hr4⟩ := st_arO (C := "LetterDesk$Edition") (hts (.arrayOver (.object "LetterDesk$Edition")) (by decide +kernel))
  obtain ⟨a5, hr5⟩ := st_arO (C := "LetterDesk$Clause") (hts (.arrayOver (.object "LetterDesk$Clause")) (by decide +kernel))
  obtain ⟨a6, hr6⟩ := st_arO (C := "LetterDesk$Item") (hts (.arrayOver (.object "LetterDesk$Item")) (by decide +kernel))
  have zC : va_Z "java/lang/String" "COMPACT_STRINGS" "Z" (.int 1) (fun q : Nat => s.heap.size ≤ q) s s.heap := va_Zof (hts _ (by decide +kernel)) (hts _ (by decide +kernel)) (va_eqi (hs _ (by decide +kernel))) hA
  have zU : vx_Zq Bundle.tN "UNASSIGNED_STACK" Bundle.steD (fun q : Nat => s.heap.size ≤ q) s s.heap := vx_Zqof (hts _ (by decide +kernel)) (hts _ (by decide +kernel)) (hs _ (by decide +kernel)) hA
  have zS : vx_Zq Bundle.tN "SUPPRESSED_SENTINEL" Bundle.listD (fun q : Nat => s.heap.size ≤ q) s s.heap := vx_Zqof (hts _ (by decide +kernel)) (hts _ (by decide +kernel)) (hs _ (by decide +kernel)) hA
  have zF : va_Zq "jdk/internal/util/Preconditions" "SIOOBE_FORMATTER" "Ljava/util/function/BiFunction;" (fun q : Nat => s.heap.size ≤ q) s s.heap := va_Zqof (hts _ (by decide +kernel)) (hts _ (by decide +kernel)) (hs _ (by decide +kernel)) hA
  have t7 : ∃ a, vk_R RX7 66 "the token in hand is wrong" a s := st_str (hts _ (by decide +kernel)) (hs _ (by decide +kernel))
  have t10 : ∃ a, vk_R RX10 192 "no such fact, or nothing such of it" a s := st_str (hts _ (by decide +kernel)) (hs _ (by decide +kernel))
  have key : ∀ t : Nat, ∃ X : GX, S0 X ∧ xs0 X = s ∧ xl X = l ∧ xL X = L ∧ xph X 0 = b ∧ xph X 5 = (if t < s.heap.size then t else b) := fun t => by
    have l0 : ∀ i, i < 2 → adK i < s.heap.size ∧ adV i < s.heap.size := fun i hi => by
      obtain ⟨⟨cell, q1, -⟩, -, -, ⟨cell2, q2, -⟩⟩ := hVS.1 i hi
      exact ⟨(Array.getElem?_eq_some_iff.mp q1).1, (Array.getElem?_eq_some_iff.mp q2).1⟩
    obtain ⟨b0, b1⟩ := l0 0 (by decide)
    obtain ⟨b2, b3⟩ := l0 1 (by decide)
    refine ⟨(s, l, (dC, dI), (fun k => match k with | 20 => a0 | 21 => a1 | 22 => a2 | 23 => a3 | 24 => a4 | 25 => a5 | _ => a6), xpO s.heap.size b (adK 0) (adK 1) (adV 0) (adV 1) t, L, xs), ?_, rfl, rfl, rfl, rfl, rfl⟩
    refine ⟨hts, ⟨hKc, fun k q hq => ?_⟩, ⟨hX, fun a ha => ?_⟩, hst, ⟨⟨fun i hi => ?_, fun i j hi hj e => ?_⟩, fun i hi => ?_, t7, t10, zU, zS, zC⟩⟩
    · match k, hq with
      | 0, hq => cases hq; exact hr0
      | 1, hq => cases hq; exact hr1
      | 2, hq => cases hq; exact hr2
      | 3, hq => cases hq; exact hr3
      | 4, hq => cases hq; exact hr4
      | 5, hq => cases hq; exact hr5
      | 6, hq => cases hq; exact hr6
      | k + 7, hq => simp [tysX] at hq
    · show xpO s.heap.size b (adK 0) (adK 1) (adV 0) (adV 1) t a < s.heap.size
      unfold xpO
      repeat' split
      all_goals assumption
    · match i, hi with
      | 0, _ => exact hVS.1 0 (by decide)
      | 1, _ => exact hVS.1 1 (by decide)
    · match i, hi, j, hj, e with
      | 0, _, 0, _, _ => rfl
      | 1, _, 1, _, _ => rfl
      | 0, _, 1, _, e => exact absurd (hVS.2 0 1 (by decide) (by decide) e) (by decide)
      | 1, _, 0, _, e => exact absurd (hVS.2 1 0 (by decide) (by decide) e) (by decide)
    · match i, hi with
      | 0, _ => exact vk_R.of (hts _ (tb_str 0 (by decide))) (hev 0 (by decide))
      | 1, _ => exact vk_R.of (hts _ (tb_str 1 (by decide))) (hev 1 (by decide))
  rcases zF with z | ⟨t, z⟩
  · obtain ⟨X, x1, x2, x3, x4, x5, -⟩ := key 0
    exact ⟨X, x1, Or.inl (by unfold fr; rw [x2]; exact z), x2, x3, x4, x5⟩
  · obtain ⟨X, x1, x2, x3, x4, x5, x6⟩ := key t
    refine ⟨X, x1, Or.inr ?_, x2, x3, x4, x5⟩
    by_cases ht : t < s.heap.size
    · refine ⟨5, ?_⟩
      rw [ph_lo (by decide), x6, if_pos ht]
      unfold fr; rw [x2]; exact z
    · refine ⟨8 + (t - s.heap.size), ?_⟩
      rw [ph_ge (by omega), x2, show s.heap.size + (8 + (t - s.heap.size) - 8) = t by omega]
      unfold fr; rw [x2]; exact z
end SS
