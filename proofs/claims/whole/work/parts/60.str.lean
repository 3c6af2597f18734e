/-! ===== constant texts: String's methods ===== -/
/-- the static that the check of an index reads: null, or some cell -/
def SZ (X : GX) : Prop := va_Z "jdk/internal/util/Preconditions" "SIOOBE_FORMATTER" "Ljava/util/function/BiFunction;" .null (fr X) (xs0 X) (xs0 X).heap ∨ ∃ a, va_Z "jdk/internal/util/Preconditions" "SIOOBE_FORMATTER" "Ljava/util/function/BiFunction;" (.ref (ph X a)) (fr X) (xs0 X) (xs0 X).heap
def resB (j : Nat) : Nat := ([102, 97, 99, 116, 32, 116, 111, 32, 99, 108, 97, 117, 115, 101, 32, 97, 116, 32, 109, 117, 115, 116, 32, 119, 104, 101, 110, 32, 110, 101, 101, 100, 115, 32, 98, 97, 114, 115, 32, 115, 97, 121, 115, 32, 114, 101, 102, 32, 100, 97, 121, 32] : List Nat).getD j 0
theorem len_lt {i : Nat} (hi : i < 2) : lenS.getD i 0 ≤ 52 := by
  match i, hi with
  | 0, _ => decide
  | 1, _ => decide
section STR
variable {X : GX} {M N : MI} {pc : Nat} {L : List (Option Value)} {st : List Value} {h : SH} {nc ns n1 s1 : Nat} {P P1 : Out → SH → Prop}
theorem Act.z {p : Program} {R : Room} {s : State} {m : MethodId} {meth : Method} {c : Code} {C n d : String} {v : Value} (A : Act X M p R s m meth c) (hZ : va_Z C n d v (fr X) (xs0 X) (xs0 X).heap) : va_Z C n d v (fr X) s s.heap :=
  va_Z.moved A.w.alike (hZ.kept (fun a ha _ => A.2.2.2.1 a ha))
theorem g_getsK {idx : Nat} {C n d : String} {v : Value} (hZ : S0 X → va_Z C n d (mv X v) (fr X) (xs0 X) (xs0 X).heap) (hd : decode M.2.1 pc = .ok (.getstatic idx, 3)) (hw : KW (Cond.fieldLink M.1.cls idx C n d)) (g : Gd X M (pc + 3) L (v :: st) h nc ns P) : Gd X M pc L st h nc ns P :=
  Gd.goT (fun p e R s m args below meth c A H locs cells slots ls Q hS hV k9 => va_gets A.x A.b (A.z (hZ A.1)) hS A.own (A.word hw args) (fun _ z => z) hd k9) g
theorem g_gets1 {idx : Nat} (hd : decode M.2.1 pc = .ok (.getstatic idx, 3)) (hw : KW (Cond.fieldLink M.1.cls idx "java/lang/String" "COMPACT_STRINGS" "Z")) (g : Gd X M (pc + 3) L (.int 1 :: st) h nc ns P) : Gd X M pc L st h nc ns P :=
  g_getsK (v := .int 1) (fun s0 => s0.2.2.2.2.2.2.2.2.2.2) hd hw g
theorem g_getsZ {idx : Nat} (hZ : SZ X) (hd : decode M.2.1 pc = .ok (.getstatic idx, 3)) (hw : KW (Cond.fieldLink M.1.cls idx "jdk/internal/util/Preconditions" "SIOOBE_FORMATTER" "Ljava/util/function/BiFunction;")) (g : ∀ r : Option Nat, Gd X M (pc + 3) L (va_rf r :: st) h nc ns P) : Gd X M pc L st h nc ns P := by
  rcases hZ with z | ⟨a, z⟩
  · exact g_getsK (v := .null) (fun _ => z) hd hw (g none)
  · exact g_getsK (v := .ref a) (fun _ => z) hd hw (g (some a))
theorem g_tlenS {i : Nat} (hi : i < 2) (hd : decode M.2.1 pc = .ok (.arraylength, 1)) (g : Gd X M (pc + 1) L (.int (nI (lenS.getD i 0)) :: st) h nc ns P) : Gd X M pc L (.ref (3 + i) :: st) h nc ns P :=
  Gd.goT (fun p e R s m args below meth c A H locs cells slots ls Q hS hV k9 => by
    have e2 : mv X (.ref (3 + i)) = .ref (xph X (3 + i)) := congrArg Value.ref (ph_lo (by omega))
    rw [List.map_cons, e2]
    exact va_tlen A.x A.b (A.ks.1 i hi).2.2.2 hS rfl hd k9) g
theorem g_baS {i j : Nat} (hi : i < 2) (hj : j < lenS.getD i 0) (hj2 : j < 2 ^ 31) (hd : decode M.2.1 pc = .ok (.baload, 1)) (g : Gd X M (pc + 1) L (.int ((bytS.getD i []).getD j 0) :: st) h nc ns P) : Gd X M pc L (.int (nI j) :: .ref (3 + i) :: st) h nc ns P :=
  Gd.goT (fun p e R s m args below meth c A H locs cells slots ls Q hS hV k9 => by
    have e2 : mv X (.ref (3 + i)) = .ref (xph X (3 + i)) := congrArg Value.ref (ph_lo (by omega))
    rw [List.map_cons, List.map_cons, e2]
    exact va_tb (v := .int ((bytS.getD i []).getD j 0)) A.x A.b (A.ks.1 i hi).2.2.2 hS (vp_in_nI hj (Nat.lt_of_le_of_lt (len_lt hi) (by decide))) (by show Value.int ((bytS.getD i []).getD (nI j).toNatClampNeg 0) = _; rw [nI_clamp hj2]) hd k9) g
theorem g_pop {v : Value} (hd : decode M.2.1 pc = .ok (.pop, 1)) (hv : v.category = 1) (g : Gd X M (pc + 1) L st h nc ns P) : Gd X M pc L (v :: st) h nc ns P :=
  Gd.go (fun p e R s m args below meth c A H locs cells slots ls Q hl hV k => lv_pop A.x A.b hd ((mv_cat X v).trans hv) k) g
/-- a call on a constant text -/
theorem g_callVS {i idx : Nat} (As : List Value) (hi : i < 2) (hd : decode M.2.1 pc = .ok (.invokevirtual idx, 3)) (F : MF N) (hdp : DP M N) (hw : KW (Cond.methodLink M.1.cls idx N.1)) (hin : KW (Cond.instanceMethod N.1)) (hse : KW (Cond.selects "java/lang/String" N.1 N.1)) (hn : (parseMethodDescriptor N.1.desc).map (fun d => d.parameters.length) = some As.length)
    (hrest : (st.map fun v => v.category).sum ≤ 8) (hnh : ∀ x ∈ tableOf M.2.2.2.2.2, covers x pc = false) (hsl : (entL (.ref (1 + i) :: As)).length ≤ N.2.2.1) (hN : Cd X N (.ref (1 + i) :: As) h n1 s1 P1) (hx : ∀ E h1, P1 (.inr E) h1 → P (.inr E) h1)
    (g : ∀ v h1, P1 (.inl v) h1 → Gd X M (pc + 3) L (v.toList ++ st) h1 nc ns P) : Gd X M pc L (As.reverse ++ .ref (1 + i) :: st) h (n1 + nc) (s1 + ns) P := by
  intro p e R s m args below meth c A H locs cells slots ls mc ms S
  have b1 := S.2.2.2.1
  have b2 := S.2.2.2.2.1
  have b3 := S.2.2.2.2.2.1
  have b4 := S.2.2.2.2.2.2
  have hrc : ∃ cellB : Cell, H[ph X (1 + i)]? = some cellB ∧ cellB.vm.isStatics = false ∧ s.vm.findClass "java/lang/String" = some cellB.cls := by
    obtain ⟨cell, h1, h2, h3, -⟩ := (A.ks.1 i hi).1.kept (H1 := H) (fun q hq hn => by
      have hq0 : q < (xs0 X).heap.size := Nat.not_le.mp hn
      rw [S.1.2.2.1 q hq0, A.2.2.2.1 q hq0])
    exact ⟨cell, by rw [ph_lo (by omega)]; exact h1, h2, h3⟩
  have hr := vx_runV (p := p) (l := xl X) (e := e) (R := R) (s := s) (m := m) (args := args) (below := below) (meth := meth) (c := c) (H := H) (locs := locs) (cells := cells) (slots := slots) (As := As.map (mv X)) (rest := st.map (mv X)) (b := ph X (1 + i)) (Ts := []) (g := F0 m pc ls ((As.map (mv X)).reverse ++ .ref (ph X (1 + i)) :: st.map (mv X)))
    ⟨A.x, A.b, A.ml, A.own, fun w hw9 => by cases hw9⟩ (cd_metX A.1 F hN hsl) (C := "java/lang/String") ⟨A.callB (args := args) F hdp hw hn, A.word hin args, A.word hse args⟩ ⟨Pcd.blind, hrc, pcd_pre A.w S.1⟩ rfl (by rw [List.length_map]) S.2.1.1 rfl (by rw [cat_st]; show 2 * 0 + _ ≤ 8; omega) hd ⟨by omega, by omega⟩
  have k9 := run_go A S hr hnh hx g
  rw [List.map_append, List.map_reverse]
  exact k9
end STR
section STM
variable {X : GX} {h : SH} {nc ns : Nat} {P : Out → SH → Prop} {i : Nat}
theorem c_coder (hi : i < 2) : Cd X mJ0_coder_7d493 [.ref (1 + i)] h 0 0 (oI (fun r t => r = 0 ∧ t = h) nX) := by
  show Gd X mJ0_coder_7d493 0 [some (.ref (1 + i))] [] h 0 0 _
  refine g_gets1 dJ0_coder_7d493_0 kw_463 ?_
  refine g_if_eq (tgt := 13) dJ0_coder_7d493_3 (by decide) (fun q => absurd q (by decide)) (fun _ => ?_)
  refine g_aload_n dJ0_coder_7d493_6 rfl (g_strC hi dJ0_coder_7d493_7 kw_1596 ?_)
  refine g_goto (tgt := 14) dJ0_coder_7d493_10 (by decide) ?_
  exact Gd.wk (L' := [none]) (bkJ0_coder_7d493_14 rfl ⟨rfl, rfl⟩) trivial
theorem c_isLatin1 (hi : i < 2) : Cd X mJ0_isLatin1_aae02 [.ref (1 + i)] h 0 0 (oI (fun r t => r = 1 ∧ t = h) nX) := by
  show Gd X mJ0_isLatin1_aae02 0 [some (.ref (1 + i))] [] h 0 0 _
  refine g_gets1 dJ0_isLatin1_aae02_0 kw_463 ?_
  refine g_if_eq (tgt := 17) dJ0_isLatin1_aae02_3 (by decide) (fun q => absurd q (by decide)) (fun _ => ?_)
  refine g_aload_n dJ0_isLatin1_aae02_6 rfl (g_strC hi dJ0_isLatin1_aae02_7 kw_1596 ?_)
  refine g_if_ne (tgt := 17) dJ0_isLatin1_aae02_10 (by decide) (fun q => absurd rfl q) (fun _ => ?_)
  exact Gd.wk (L' := [none]) (bkJ0_isLatin1_aae02_13 (bkJ0_isLatin1_aae02_18 (Or.inr rfl) ⟨rfl, rfl⟩)) trivial
theorem c_length (hi : i < 2) : Cd X mJ0_length_8abf5 [.ref (1 + i)] h 0 0 (oI (fun r t => r = nI (lenS.getD i 0) ∧ t = h) nX) := by
  show Gd X mJ0_length_8abf5 0 [some (.ref (1 + i))] [] h 0 0 _
  refine g_aload_n dJ0_length_8abf5_0 rfl (g_strV hi dJ0_length_8abf5_1 kw_1595 (g_tlenS hi dJ0_length_8abf5_4 (g_aload_n dJ0_length_8abf5_5 rfl ?_)))
  refine Gd.z ?_
  refine g_callVS [] hi dJ0_length_8abf5_6 mfJ0_coder_7d493 ⟨by decide, by decide⟩ kw_459 kw_460 kw_461 rfl (Nat.le_of_ble_eq_true rfl) (by intro x hx; cases hx) (Nat.le_of_ble_eq_true rfl) (c_coder hi) (fun _ _ q => q.elim) (oI_go (G := fun a b => Gd X mJ0_length_8abf5 9 _ a b 0 0 _) (fun r t q => ?_))
  obtain ⟨rfl, ht⟩ := q
  rw [ht]
  refine Gd.wk (L' := [none]) (bkJ0_length_8abf5_9 ⟨?_, rfl⟩) trivial
  rw [show ((0 : Int32) &&& 31) = 0 by decide]
  exact Int32.shiftRight_zero
theorem c_chk3 {j n : Nat} {r : Option Nat} (hj : j < n) (hn : n < 2 ^ 31) : Cd X mJ3_checkIndex_8e157 [.int (nI j), .int (nI n), va_rf r] h 0 0 (oI (fun v t => v = nI j ∧ t = h) nX) := by
  have go : ∀ {v : Option Value}, Gd X mJ3_checkIndex_8e157 0 [some (.int (nI j)), some (.int (nI n)), v] [] h 0 0 (oI (fun v t => v = nI j ∧ t = h) nX) := fun {v} => by
    refine g_iload_n dJ3_checkIndex_8e157_0 rfl ?_
    refine g_if_lt (tgt := 9) dJ3_checkIndex_8e157_1 (by decide) (fun q => ?_) (fun _ => ?_)
    · rw [n0, nI_ltI (by omega) (by omega)] at q; omega
    refine g_iload_n dJ3_checkIndex_8e157_4 rfl (g_iload_n dJ3_checkIndex_8e157_5 rfl ?_)
    refine g_icmp_lt (tgt := 16) dJ3_checkIndex_8e157_6 (by decide) (fun _ => ?_) (fun q => ?_)
    · exact g_iload_n dJ3_checkIndex_8e157_16 rfl (g_ireturn (st := []) dJ3_checkIndex_8e157_17 rfl rfl ⟨rfl, rfl⟩)
    · rw [nI_ltI (by omega) (by omega)] at q; omega
  cases r <;> exact go
theorem c_chk0 {j n : Nat} (hZ : SZ X) (hj : j < n) (hn : n < 2 ^ 31) : Cd X mJ0_checkIndex_df160 [.int (nI j), .int (nI n)] h 0 0 (oV (fun t => t = h) nX) := by
  show Gd X mJ0_checkIndex_df160 0 [some (.int (nI j)), some (.int (nI n))] [] h 0 0 _
  refine g_iload_n dJ0_checkIndex_df160_0 rfl (g_iload_n dJ0_checkIndex_df160_1 rfl (g_getsZ hZ dJ0_checkIndex_df160_2 kw_479 (fun r => ?_)))
  refine Gd.z ?_
  refine g_callS [.int (nI j), .int (nI n), va_rf r] dJ0_checkIndex_df160_5 mfJ3_checkIndex_8e157 ⟨by decide, by decide⟩ kw_481 kw_482 rfl (Nat.le_of_ble_eq_true rfl) (by intro x hx; cases hx) (by cases r <;> exact Nat.le_of_ble_eq_true rfl) (c_chk3 hj hn) (fun _ _ q => q.elim) (oI_go (G := fun a b => Gd X mJ0_checkIndex_df160 8 _ a b 0 0 _) (fun v t q => ?_))
  obtain ⟨rfl, ht⟩ := q
  rw [ht]
  exact g_pop dJ0_checkIndex_df160_8 rfl (g_return (st := []) dJ0_checkIndex_df160_9 rfl rfl)
theorem byt_ok : ∀ i, i < 2 → ∀ j, j < lenS.getD i 0 → ((((bytS.getD i []).getD j 0) &&& 255 : Int32).toUInt32 % 65536).toInt32 = (bytS.getD i []).getD j 0 ∧ narrow .char (.int ((bytS.getD i []).getD j 0)) = .int ((bytS.getD i []).getD j 0) := by decide +kernel
theorem c_charAt1 {j : Nat} (hZ : SZ X) (hi : i < 2) (hj : j < lenS.getD i 0) : Cd X mJ1_charAt_3b067 [.ref (3 + i), .int (nI j)] h 0 0 (oI (fun r t => r = (bytS.getD i []).getD j 0 ∧ t = h) nX) := by
  have hl := len_lt hi
  obtain ⟨b1, b2⟩ := byt_ok i hi j hj
  show Gd X mJ1_charAt_3b067 0 [some (.ref (3 + i)), some (.int (nI j))] [] h 0 0 _
  refine g_iload_n dJ1_charAt_3b067_0 rfl (g_aload_n dJ1_charAt_3b067_1 rfl (g_tlenS hi dJ1_charAt_3b067_2 ?_))
  refine Gd.z ?_
  refine g_callS [.int (nI j), .int (nI (lenS.getD i 0))] dJ1_charAt_3b067_3 mfJ0_checkIndex_df160 ⟨by decide, by decide⟩ kw_476 kw_477 rfl (Nat.le_of_ble_eq_true rfl) (by intro x hx; cases hx) (Nat.le_of_ble_eq_true rfl) (c_chk0 hZ hj (by omega)) (fun _ _ q => q.elim) (oV_go (G := fun a b => Gd X mJ1_charAt_3b067 6 _ a b 0 0 _) (fun t q => ?_))
  rw [q]
  refine g_aload_n dJ1_charAt_3b067_6 rfl (g_iload_n dJ1_charAt_3b067_7 rfl (g_baS hi hj (by omega) dJ1_charAt_3b067_8 ?_))
  refine g_sipush (v := 255) dJ1_charAt_3b067_9 (by decide) (g_iand dJ1_charAt_3b067_12 (g_i2c dJ1_charAt_3b067_13 ?_))
  rw [b1]
  exact g_ireturn (st := []) dJ1_charAt_3b067_14 rfl b2 ⟨rfl, rfl⟩
theorem c_charAt {j : Nat} (hZ : SZ X) (hi : i < 2) (hj : j < lenS.getD i 0) : Cd X mJ0_charAt_5068e [.ref (1 + i), .int (nI j)] h 0 0 (oI (fun r t => r = (bytS.getD i []).getD j 0 ∧ t = h) nX) := by
  obtain ⟨b1, b2⟩ := byt_ok i hi j hj
  show Gd X mJ0_charAt_5068e 0 [some (.ref (1 + i)), some (.int (nI j))] [] h 0 0 _
  refine g_aload_n dJ0_charAt_5068e_0 rfl (Gd.z ?_)
  refine g_callVS [] hi dJ0_charAt_5068e_1 mfJ0_isLatin1_aae02 ⟨by decide, by decide⟩ kw_469 kw_470 kw_471 rfl (Nat.le_of_ble_eq_true rfl) (by intro x hx; cases hx) (Nat.le_of_ble_eq_true rfl) (c_isLatin1 hi) (fun _ _ q => q.elim) (oI_go (G := fun a b => Gd X mJ0_charAt_5068e 4 _ a b 0 0 _) (fun r t q => ?_))
  obtain ⟨rfl, ht⟩ := q
  rw [ht]
  refine bkJ0_charAt_5068e_4 (fun q => absurd q (by decide)) (fun _ => ?_)
  refine g_aload_n dJ0_charAt_5068e_7 rfl (g_strV hi dJ0_charAt_5068e_8 kw_1595 (g_iload_n dJ0_charAt_5068e_11 rfl (Gd.z ?_)))
  refine g_callS [.ref (3 + i), .int (nI j)] dJ0_charAt_5068e_12 mfJ1_charAt_3b067 ⟨by decide, by decide⟩ kw_473 kw_474 rfl (Nat.le_of_ble_eq_true rfl) (by intro x hx; cases hx) (Nat.le_of_ble_eq_true rfl) (c_charAt1 hZ hi hj) (fun _ _ q => q.elim) (oI_go (G := fun a b => Gd X mJ0_charAt_5068e 15 _ a b 0 0 _) (fun r t q => ?_))
  obtain ⟨rfl, ht⟩ := q
  rw [ht]
  exact Gd.wk (L' := [none, none]) (bkJ0_charAt_5068e_15 b2 ⟨rfl, rfl⟩) trivial
end STM
section STN
variable {X : GX} {h : SH} {nc ns : Nat} {P : Out → SH → Prop}
theorem bkX9_packReserved_7 {a0 : Nat} {y1 : Int64} {x3 x4 : Int32} (g : Gd X mX9_packReserved 14 [some (.ref a0), some (.long y1), none, some (.int x3), some (.int x4)] [.int (nI 52), .int x4] h nc ns P) : Gd X mX9_packReserved 7 [some (.ref a0), some (.long y1), none, some (.int x3), some (.int x4)] [] h nc ns P := by
  refine g_iload dX9_packReserved_7 rfl (g_ldcS (i := 0) (by decide) rfl dX9_packReserved_9 (Gd.z ?_))
  refine g_callVS (i := 0) [] (by decide) dX9_packReserved_11 mfJ0_length_8abf5 ⟨by decide, by decide⟩ kw_455 kw_456 kw_457 rfl (Nat.le_of_ble_eq_true rfl) (by intro x hx; cases hx) (Nat.le_of_ble_eq_true rfl) (c_length (by decide)) (fun _ _ q => q.elim) (oI_go (G := fun a b => Gd X mX9_packReserved 14 _ a b nc ns P) (fun r t q => ?_))
  obtain ⟨rfl, ht⟩ := q
  rw [ht]
  exact g
theorem res_eq : ∀ j, j < 52 → (bytS.getD 0 []).getD j 0 = nI (resB j) := by decide +kernel
theorem bkX9_packReserved_23 {a0 j : Nat} {y1 : Int64} {x3 : Int32} (hZ : SZ X) (hj : j < 52) (g : Gd X mX9_packReserved 30 [some (.ref a0), some (.long y1), none, some (.int x3), some (.int (nI j))] [.int (nI (resB j))] h nc ns P) : Gd X mX9_packReserved 23 [some (.ref a0), some (.long y1), none, some (.int x3), some (.int (nI j))] [] h nc ns P := by
  refine g_ldcS (i := 0) (by decide) rfl dX9_packReserved_23 (g_iload dX9_packReserved_25 rfl (Gd.z ?_))
  refine g_callVS (i := 0) [.int (nI j)] (by decide) dX9_packReserved_27 mfJ0_charAt_5068e ⟨by decide, by decide⟩ kw_465 kw_466 kw_467 rfl (Nat.le_of_ble_eq_true rfl) (by intro x hx; cases hx) (Nat.le_of_ble_eq_true rfl) (c_charAt hZ (by decide) hj) (fun _ _ q => q.elim) (oI_go (G := fun a b => Gd X mX9_packReserved 30 _ a b nc ns P) (fun r t q => ?_))
  obtain ⟨rfl, ht⟩ := q
  rw [ht, res_eq j hj]
  exact g
theorem bkX9_packReserved_50 {a0 j : Nat} {y1 : Int64} {x3 : Int32} (hZ : SZ X) (hj : j < 52) (g : Gd X mX9_packReserved 58 [some (.ref a0), none, none, some (.int x3), some (.int (nI j))] [.int (nI (resB j)), .long y1] h nc ns P) : Gd X mX9_packReserved 50 [some (.ref a0), some (.long y1), none, some (.int x3), some (.int (nI j))] [] h nc ns P := by
  refine g_lload_n dX9_packReserved_50 rfl (g_ldcS (i := 0) (by decide) rfl dX9_packReserved_51 (g_iload dX9_packReserved_53 rfl (Gd.z ?_)))
  refine g_callVS (i := 0) [.int (nI j)] (by decide) dX9_packReserved_55 mfJ0_charAt_5068e ⟨by decide, by decide⟩ kw_465 kw_466 kw_467 rfl (Nat.le_of_ble_eq_true rfl) (by intro x hx; cases hx) (Nat.le_of_ble_eq_true rfl) (c_charAt hZ (by decide) hj) (fun _ _ q => q.elim) (oI_go (G := fun a b => Gd X mX9_packReserved 58 _ a b nc ns P) (fun r t q => ?_))
  obtain ⟨rfl, ht⟩ := q
  rw [ht, res_eq j hj]
  exact Gd.wk g ⟨rfl, rfl, rfl, trivial⟩
theorem c_canEncode {c : Nat} (hc : c ≤ 126) : Cd X mJ1_canEncode_9a6ad [.int (nI c)] h 0 0 (oI (fun r t => r = 1 ∧ t = h) nX) := by
  refine bkJ1_canEncode_9a6ad_0 (fun q => ?_) (fun _ => bkJ1_canEncode_9a6ad_4 (fun q => ?_) (fun _ => bkJ1_canEncode_9a6ad_11 (bkJ1_canEncode_9a6ad_16 (Or.inr rfl) ⟨rfl, rfl⟩)))
  · rw [n0, nI_ltI (by omega) (by omega)] at q; omega
  · rw [show (255 : Int32) = nI 255 from rfl, nI_ltI (by omega) (by omega)] at q; omega
def sgs : List Nat := [40, 41, 60, 61, 43, 45, 59]
theorem sgs_eq : ∀ j, j < 7 → (bytS.getD 1 []).getD j 0 = nI (sgs.getD j 0) ∧ sgs.getD j 0 < 128 := by decide +kernel
theorem sgs_is (c : Nat) : isSg c = true ↔ ∃ j, j < 7 ∧ sgs.getD j 0 = c := by
  unfold isSg
  rw [decide_eq_true_iff]
  constructor
  · rintro (rfl | rfl | rfl | rfl | rfl | rfl | rfl)
    · exact ⟨0, by decide, rfl⟩
    · exact ⟨1, by decide, rfl⟩
    · exact ⟨6, by decide, rfl⟩
    · exact ⟨3, by decide, rfl⟩
    · exact ⟨2, by decide, rfl⟩
    · exact ⟨4, by decide, rfl⟩
    · exact ⟨5, by decide, rfl⟩
  · rintro ⟨j, hj, rfl⟩
    have : j = 0 ∨ j = 1 ∨ j = 2 ∨ j = 3 ∨ j = 4 ∨ j = 5 ∨ j = 6 := by omega
    rcases this with rfl | rfl | rfl | rfl | rfl | rfl | rfl <;> decide
theorem i8_ok : ∀ c, c < 128 → (nI c : Int32).toInt8.toInt32 = nI c := by decide +kernel
/-- where the sign stands -/
def sgA (c : Nat) (r : Int32) (t h : SH) : Prop := (0 ≤ r ↔ isSg c = true) ∧ t = h
theorem c_ixChar {c : Nat} (hc : c ≤ 126) : Cd X mJ1_indexOfChar_4cfef [.ref 4, .int (nI c), .int (nI 0), .int (nI 7)] h 0 0 (oI (fun r t => sgA c r t h) nX) := by
  refine bkJ1_indexOfChar_4cfef_0 ?_
  rw [i8_ok c (by omega)]
  refine for_up (G := fun j u => Gd X mJ1_indexOfChar_4cfef 7 [some (.ref 4), none, none, some (.int (nI 7)), some (.int (nI c)), some (.int (nI j))] [] u 0 0 (oI (fun r t => sgA c r t h) nX)) (I := fun j u => u = h ∧ ∀ k, k < j → sgs.getD k 0 ≠ c) 7 ?_ ?_ 0 h (Nat.zero_le _) ⟨rfl, fun k hk => absurd hk (Nat.not_lt_zero _)⟩
  · rintro u ⟨rfl, hlo⟩
    refine bkJ1_indexOfChar_4cfef_7 (fun _ => bkJ1_indexOfChar_4cfef_31 ⟨⟨fun q => absurd q (by decide), fun q => ?_⟩, rfl⟩) (fun q => absurd (Int32.le_refl _) q)
    obtain ⟨j, hj, e⟩ := (sgs_is c).mp q
    exact absurd e (hlo j hj)
  · rintro j u hj ⟨hu, hlo⟩ ih
    rw [hu]
    obtain ⟨s1, s2⟩ := sgs_eq j hj
    refine bkJ1_indexOfChar_4cfef_7 (fun q => absurd q (nI_ge hj (by omega))) (fun _ => ?_)
    refine g_aload_n dJ1_indexOfChar_4cfef_13 rfl (g_iload dJ1_indexOfChar_4cfef_14 rfl ?_)
    refine g_baS (i := 1) (j := j) (by decide) (by show j < 7; omega) (by omega) dJ1_indexOfChar_4cfef_16 (g_iload dJ1_indexOfChar_4cfef_17 rfl ?_)
    rw [s1]
    refine g_icmp_ne (tgt := 25) dJ1_indexOfChar_4cfef_19 (by decide) (fun q => ?_) (fun q => ?_) <;> rw [nI_eq (by omega) (by omega)] at q
    · refine bkJ1_indexOfChar_4cfef_25 ?_
      rw [nI_1]
      refine ih h ⟨rfl, fun k hk => ?_⟩
      rcases Nat.lt_or_ge k j with w | w
      · exact hlo k w
      · rw [show k = j by omega]; exact q
    · refine Gd.wk (L' := [none, none, none, none, none, some (.int (nI j))]) (bkJ1_indexOfChar_4cfef_22 ⟨⟨fun _ => (sgs_is c).mpr ⟨j, hj, q⟩, fun _ => ?_⟩, rfl⟩) ⟨rfl, trivial⟩
      rw [n0, nI_leI (by omega) (by omega)]; omega
theorem c_ixLatin {c : Nat} (hc : c ≤ 126) : Cd X mJ1_indexOf_4cfef [.ref 4, .int (nI c), .int 0, .int (nI 7)] h 0 0 (oI (fun r t => sgA c r t h) nX) := by
  show Gd X mJ1_indexOf_4cfef 0 [some (.ref 4), some (.int (nI c)), some (.int 0), some (.int (nI 7))] [] h 0 0 _
  refine g_iload_n dJ1_indexOf_4cfef_0 rfl (Gd.z ?_)
  refine g_callS [.int (nI c)] dJ1_indexOf_4cfef_1 mfJ1_canEncode_9a6ad ⟨by decide, by decide⟩ kw_543 kw_544 rfl (Nat.le_of_ble_eq_true rfl) (by intro x hx; cases hx) (Nat.le_of_ble_eq_true rfl) (c_canEncode hc) (fun _ _ q => q.elim) (oI_go (G := fun a b => Gd X mJ1_indexOf_4cfef 4 _ a b 0 0 _) (fun r t q => ?_))
  obtain ⟨rfl, ht⟩ := q
  rw [ht]
  refine bkJ1_indexOf_4cfef_4 (fun _ => ?_) (fun q => absurd q (by decide))
  refine bkJ1_indexOf_4cfef_9 ?_
  rw [if_neg (by decide)]
  refine g_istore_n (L' := [some (.ref 4), some (.int (nI c)), some (.int 0), some (.int (nI 7))]) dJ1_indexOf_4cfef_14 (by decide) rfl (g_iload_n dJ1_indexOf_4cfef_15 rfl (g_aload_n dJ1_indexOf_4cfef_16 rfl (g_tlenS (i := 1) (by decide) dJ1_indexOf_4cfef_17 ?_)))
  refine g_mmin dJ1_indexOf_4cfef_18 kw_549 (by decide) (Nat.le_of_ble_eq_true rfl) ?_
  rw [if_neg (show ¬ nI (lenS.getD 1 0) < nI 7 by decide)]
  refine Gd.wk (L' := [some (.ref 4), some (.int (nI c)), some (.int 0), none]) (bkJ1_indexOf_4cfef_21 (fun _ => ?_) (fun q => absurd (by decide) q)) ⟨rfl, rfl, rfl, trivial⟩
  refine g_aload_n dJ1_indexOf_4cfef_29 rfl (g_iload_n dJ1_indexOf_4cfef_30 rfl (g_iload_n dJ1_indexOf_4cfef_31 rfl (g_iload_n dJ1_indexOf_4cfef_32 rfl (Gd.z ?_))))
  refine g_callS [.ref 4, .int (nI c), .int 0, .int (nI 7)] dJ1_indexOf_4cfef_33 mfJ1_indexOfChar_4cfef ⟨by decide, by decide⟩ kw_552 kw_553 rfl (Nat.le_of_ble_eq_true rfl) (by intro x hx; cases hx) (Nat.le_of_ble_eq_true rfl) (c_ixChar hc) (fun _ _ q => q.elim) (oI_go (G := fun a b => Gd X mJ1_indexOf_4cfef 36 _ a b 0 0 _) (fun r t q => ?_))
  exact Gd.wk (L' := [none, none, none, none]) (bkJ1_indexOf_4cfef_36 q) trivial
theorem c_ix2 {c : Nat} (hc : c ≤ 126) : Cd X mJ0_indexOf_7cf53 [.ref 2, .int (nI c), .int 0] h 0 0 (oI (fun r t => sgA c r t h) nX) := by
  show Gd X mJ0_indexOf_7cf53 0 [some (.ref 2), some (.int (nI c)), some (.int 0)] [] h 0 0 _
  refine g_aload_n dJ0_indexOf_7cf53_0 rfl (Gd.z ?_)
  refine g_callVS (i := 1) [] (by decide) dJ0_indexOf_7cf53_1 mfJ0_isLatin1_aae02 ⟨by decide, by decide⟩ kw_469 kw_470 kw_471 rfl (Nat.le_of_ble_eq_true rfl) (by intro x hx; cases hx) (Nat.le_of_ble_eq_true rfl) (c_isLatin1 (by decide)) (fun _ _ q => q.elim) (oI_go (G := fun a b => Gd X mJ0_indexOf_7cf53 4 _ a b 0 0 _) (fun r t q => ?_))
  obtain ⟨rfl, ht⟩ := q
  rw [ht]
  refine bkJ0_indexOf_7cf53_4 (fun q => absurd q (by decide)) (fun _ => ?_)
  refine g_aload_n dJ0_indexOf_7cf53_7 rfl (g_strV (i := 1) (by decide) dJ0_indexOf_7cf53_8 kw_1595 (g_iload_n dJ0_indexOf_7cf53_11 rfl (g_iload_n dJ0_indexOf_7cf53_12 rfl (g_aload_n dJ0_indexOf_7cf53_13 rfl (Gd.z ?_)))))
  refine g_callVS (i := 1) [] (by decide) dJ0_indexOf_7cf53_14 mfJ0_length_8abf5 ⟨by decide, by decide⟩ kw_539 kw_456 kw_457 rfl (Nat.le_of_ble_eq_true rfl) (by intro x hx; cases hx) (Nat.le_of_ble_eq_true rfl) (c_length (by decide)) (fun _ _ q => q.elim) (oI_go (G := fun a b => Gd X mJ0_indexOf_7cf53 17 _ a b 0 0 _) (fun r t q => ?_))
  obtain ⟨rfl, ht⟩ := q
  rw [ht]
  refine Gd.z ?_
  refine g_callS [.ref 4, .int (nI c), .int 0, .int (nI 7)] dJ0_indexOf_7cf53_17 mfJ1_indexOf_4cfef ⟨by decide, by decide⟩ kw_540 kw_541 rfl (Nat.le_of_ble_eq_true rfl) (by intro x hx; cases hx) (Nat.le_of_ble_eq_true rfl) (c_ixLatin hc) (fun _ _ q => q.elim) (oI_go (G := fun a b => Gd X mJ0_indexOf_7cf53 20 _ a b 0 0 _) (fun r t q => ?_))
  exact Gd.wk (L' := [none, none, none]) (bkJ0_indexOf_7cf53_20 (bkJ0_indexOf_7cf53_36 q)) trivial
theorem c_ix1 {c : Nat} (hc : c ≤ 126) : Cd X mJ0_indexOf_0f7a4 [.ref 2, .int (nI c)] h 0 0 (oI (fun r t => sgA c r t h) nX) := by
  show Gd X mJ0_indexOf_0f7a4 0 [some (.ref 2), some (.int (nI c))] [] h 0 0 _
  refine g_aload_n dJ0_indexOf_0f7a4_0 rfl (g_iload_n dJ0_indexOf_0f7a4_1 rfl (g_iconst (v := 0) dJ0_indexOf_0f7a4_2 (by decide) (Gd.z ?_)))
  refine g_callVS (i := 1) [.int (nI c), .int 0] (by decide) dJ0_indexOf_0f7a4_3 mfJ0_indexOf_7cf53 ⟨by decide, by decide⟩ kw_535 kw_536 kw_537 rfl (Nat.le_of_ble_eq_true rfl) (by intro x hx; cases hx) (Nat.le_of_ble_eq_true rfl) (c_ix2 hc) (fun _ _ q => q.elim) (oI_go (G := fun a b => Gd X mJ0_indexOf_0f7a4 6 _ a b 0 0 _) (fun r t q => ?_))
  exact Gd.wk (L' := [none, none]) (bkJ0_indexOf_0f7a4_6 q) trivial
theorem i2c_ok : ∀ c, c < 128 → ((nI c : Int32).toUInt32 % 65536).toInt32 = nI c := by decide +kernel
theorem bkX9_cutText_81 {a0 c : Nat} {x1 x2 : Int32} (hc : c ≤ 126) (g : ∀ r : Int32, (0 ≤ r ↔ isSg c = true) → Gd X mX9_cutText 89 [some (.ref a0), some (.int x1), some (.int x2), some (.int (nI c))] [.int r, .ref a0] h nc ns P) : Gd X mX9_cutText 81 [some (.ref a0), some (.int x1), some (.int x2), some (.int (nI c))] [] h nc ns P := by
  refine g_aload_n dX9_cutText_81 rfl (g_ldcS (i := 1) (by decide) rfl dX9_cutText_82 (g_iload_n dX9_cutText_84 rfl (g_i2c dX9_cutText_85 (Gd.z ?_))))
  rw [i2c_ok c (by omega)]
  refine g_callVS (i := 1) [.int (nI c)] (by decide) dX9_cutText_86 mfJ0_indexOf_0f7a4 ⟨by decide, by decide⟩ kw_531 kw_532 kw_533 rfl (Nat.le_of_ble_eq_true rfl) (by intro x hx; cases hx) (Nat.le_of_ble_eq_true rfl) (c_ix1 hc) (fun _ _ q => q.elim) (oI_go (G := fun a b => Gd X mX9_cutText 89 _ a b nc ns P) (fun r t q => ?_))
  rw [q.2]
  exact g r q.1
end STN
