/-! ===== Arrays.copyOf ===== -/
section NWX
variable {h : SH} {b c n : Nat}
theorem nwA_ne (hb : b ≠ hz h) : hA (nw h c n) b = hA h b := by
  funext j; show (if b = h.1 then none else h.2.2.2.2 b j) = _; rw [if_neg (by have : hz h = h.1 := rfl; omega)]; rfl
theorem nwI_ne (hb : b ≠ hz h) : hI (nw h c n) b = hI h b := by
  funext j; show (if b = h.1 then 0 else h.2.2.1 b j) = _; rw [if_neg (by have : hz h = h.1 := rfl; omega)]; rfl
theorem nwJ_ne (hb : b ≠ hz h) : hJ (nw h c n) b = hJ h b := by
  funext j; show (if b = h.1 then 0 else h.2.2.2.1 b j) = _; rw [if_neg (by have : hz h = h.1 := rfl; omega)]; rfl
theorem nw_ar (h8 : 8 ≤ hz h) : kAr (Sk (nw h c n)) (hz h) c n := ⟨h8, Nat.lt_succ_self _, nw_K, nw_N⟩
theorem nw_z : hz (nw h c n) = hz h + 1 := rfl
end NWX
/-- a new row with the first n of row a -/
def cpH (h : SH) (a n : Nat) : SH := ((nw h 20 n).1, (nw h 20 n).2.1, (fun b j => if b = hz h then (if j < n then hI h a j else 0) else hI h b j), (nw h 20 n).2.2.2.1, (nw h 20 n).2.2.2.2)
def cpy (h : SH) (a b n : Nat) : SH := (h.1, h.2.1, (fun c j => if c = b then (if j < n then hI h a j else hI h b j) else hI h c j), h.2.2.2.1, h.2.2.2.2)
theorem kw_nat : KW (Cond.native arraycopyName) := kw_of 755 (by decide +kernel)
section CPY
variable {X : GX} {M N : MI} {pc : Nat} {L : List (Option Value)} {st : List Value} {h : SH} {nc ns n1 s1 : Nat} {P P1 : Out → SH → Prop}
theorem VR.cpR {H H1 : Heap} {a b n k : Nat} (V : VR X h H) (ho : Ar h b 20 n) (e : H1[ph X b]? = some (arrV (xac X 20) n (fun j => .int (if j < k then hI h a j else hI h b j)))) (z : H1.size = H.size) (oq : ∀ q : Nat, q ≠ ph X b → H1[q]? = H[q]?) : VR X (cpy h a b k) H1 := by
  refine V.set ho.1 ho.2.1 rfl (fun _ => rfl) (fun c hc => eE_ext rfl rfl (funext fun j => if_neg hc) rfl rfl) z oq ?_
  rw [eE_ar (h := cpy h a b k) (show hK (cpy h a b k) b = 20 from ho.2.2.1) (by omega), arE_I (by omega) (by omega)]
  show H1[ph X b]? = some (vp_cell _ (hN h b, _))
  rw [e, vp_cell_i, ho.2.2.2]
  congr 2
  funext j
  show _ = Value.int (if b = b then _ else _)
  rw [if_pos rfl]
theorem g_acopy {a b n m idx : Nat} (hd : decode M.2.1 pc = .ok (.invokestatic idx, 3)) (hw : KW (Cond.methodLink M.1.cls idx arraycopyName)) (hst : KW (Cond.static arraycopyName)) (ha : Ar h a 20 m) (hb : Ar h b 20 n) (hn : n ≤ m) (hn2 : n < 2 ^ 31) (hdp : 2 ≤ M.2.2.2.2.1) (hrest : (st.map fun v => v.category).sum ≤ 8)
    (g : Gd X M (pc + 3) L st (cpy h a b n) nc ns P) : Gd X M pc L (.int (nI n) :: .int 0 :: .ref b :: .int 0 :: .ref a :: st) h nc ns P := by
  intro p e R s m0 args below meth c A H locs cells slots ls mc ms S T hT XS
  have d1 := A.2.2.2.2.2.1
  have d2 := A.2.2.2.2.2.2
  have hc0 : H[ph X a]? = some (vp_cell (xac X 20) (m, .inl (hI h a))) := S.1.arI ha (by omega) (by omega)
  have hc1 : H[ph X b]? = some (vp_cell (xac X 20) (n, .inl (hI h b))) := S.1.arI hb (by omega) (by omega)
  obtain ⟨-, k0, hk0, cm0, hkk0⟩ := (A.k.2 0 _ (tysX_at 0 (by omega))).1 m (fun j => .int (hI h a j))
  obtain ⟨-, k1, hk1, cm1, hkk1⟩ := (A.k.2 0 _ (tysX_at 0 (by omega))).1 n (fun j => .int (hI h b j))
  have nz : ((0 : Int32).toNatClampNeg) = 0 := by decide
  have nn : (nI n).toNatClampNeg = n := nI_clamp hn2
  have tz : (0 : Int32).toInt = 0 := by decide
  have tn : (nI n).toInt = (n : Int) := nI_toInt hn2
  obtain ⟨vm', X', step⟩ := XS.arraycopy A.x A.own (A.word hw args) (A.word kw_nat args) (A.word hst args) (A.word kw_115 args) (src := ph X a) (dst := ph X b) (cs := vp_cell (xac X 20) (m, .inl (hI h a))) (cd := vp_cell (xac X 20) (n, .inl (hI h b))) (srcPos := 0) (destPos := 0) (n := nI n) (by rw [hT]; exact hc0) (by rw [hT]; exact hc1)
    (fun _ h => by cases h) (fun _ h => by cases h) (fun h => by cases h) (fun h => by cases h) hk0 hk1 hkk0 hkk1 (by simp [refKind]) (by decide) (by decide) (by rw [n0, nI_ltI (by omega) (by omega)]; omega)
    (by rw [tz, tn]; show ¬ _ > ((arrV (xac X 20) m (fun j => .int (hI h a j))).slots.size : Int); rw [arrV_size]; omega)
    (by rw [tz, tn]; show ¬ _ > ((arrV (xac X 20) n (fun j => .int (hI h b j))).slots.size : Int); rw [arrV_size]; omega)
    (fun vm₁ _ i hi => by
      rw [nn] at hi
      have e : (vp_cell (xac X 20) (m, .inl (hI h a))).slots.getD ((0 : Int32).toNatClampNeg + i) .null = .int (hI h a ((0 : Int32).toNatClampNeg + i)) := by
        show (arrV (xac X 20) m (fun j => .int (hI h a j))).slots.getD _ _ = _
        rw [Array.getD_eq_getD_getElem?, arrV_read _ _ (by rw [nz]; omega)]
        rfl
      refine ⟨?_, ?_⟩
      · rw [e]; rfl
      · rw [e]; exact trivial)
    (g := F0 m0 pc ls ((Value.int (nI n) :: .int 0 :: .ref b :: .int 0 :: .ref a :: st).map (mv X))) rfl (by rw [A.ml]; exact S.2.1.1) (rest := st.map (mv X)) rfl (by rw [A.b]; exact hd) (by omega) (by rw [cat_st]; show 2 * 0 + _ + (5 + 2 + 11) ≤ _; omega)
  have e1 : copied (vp_cell (xac X 20) (m, .inl (hI h a))) (vp_cell (xac X 20) (n, .inl (hI h b))) 0 0 (nI n) = vp_cell (xac X 20) (n, .inl (va_cpy (hI h a) (hI h b) ((0 : Int32).toNatClampNeg) ((0 : Int32).toNatClampNeg) (nI n).toNatClampNeg)) := va_copied (fun z => .int z) (xac X 20) (xac X 20) (hI h a) (hI h b) (by rw [nz, nn]; omega)
  rw [e1, nz, nn] at X' step
  generalize hC : vp_cell (xac X 20) (n, .inl (va_cpy (hI h a) (hI h b) 0 0 n)) = C at X' step
  have hl : ph X b < H.size := (Array.getElem?_eq_some_iff.mp hc1).1
  have hheap : ((T.setVm vm').setCell (ph X b) C).heap = H.setIfInBounds (ph X b) C := by rw [← hT]; rfl
  have oq : ∀ q : Nat, q ≠ ph X b → (H.setIfInBounds (ph X b) C)[q]? = H[q]? := fun q hq => by simp [Array.getElem?_setIfInBounds, Ne.symm hq]
  have hV : VR X (cpy h a b n) (H.setIfInBounds (ph X b) C) := S.1.cpR hb (by
    have : (H.setIfInBounds (ph X b) C)[ph X b]? = some C := by simp [Array.getElem?_setIfInBounds, hl]
    rw [this, ← hC, vp_cell_i]
    congr 2
    funext j
    unfold va_cpy
    by_cases q : j < n
    · rw [if_pos ⟨Nat.zero_le _, by omega⟩, if_pos q]; congr 2; omega
    · rw [if_neg (fun z => q (by omega)), if_neg q]) (by simp) oq
  obtain ⟨t, a1, b1⟩ := g p e R s m0 args below meth c A _ _ cells slots ls mc ms ⟨hV, S.2.1, fun z hz => by
      rcases List.mem_append.mp hz with q | q
      · exact S.2.2.1 z q
      · obtain ⟨w, -, hw⟩ := List.mem_map.mp q
        rw [← hw]
        show (xs0 X).heap.size ≤ ph X b
        rw [ph_ge hb.1]; omega, S.2.2.2.1, S.2.2.2.2.1, S.2.2.2.2.2⟩ _ hheap X'
  exact ⟨t, step t a1, b1⟩
theorem cp_nw {a n : Nat} (ha : a < hz h) : cpy (nw h 20 n) a (hz h) n = cpH h a n := by
  have e : hI (nw h 20 n) a = hI h a := nwI_ne (by omega)
  unfold cpy cpH
  have : (fun c j => if c = hz h then (if j < n then hI (nw h 20 n) a j else hI (nw h 20 n) (hz h) j) else hI (nw h 20 n) c j) = (fun b j => if b = hz h then (if j < n then hI h a j else 0) else hI h b j) := ?_
  rw [this]
  funext c j
  by_cases q : c = hz h
  · rw [if_pos q, if_pos q, e]
    by_cases y : j < n
    · rw [if_pos y, if_pos y]
    · rw [if_neg y, if_neg y]; rw [nw_I]
  · rw [if_neg q, if_neg q]
    exact congrFun (nwI_ne q) j
theorem c_copyOf {a n m : Nat} (A : Ar h a 20 m) (hn : n < m) (hm : m < 2 ^ 24) : Cd X mJ7_copyOf_59c91 [.ref a, .int (nI n)] h 1 n (oA (fun r t => r = some (hz h) ∧ t = cpH h a n) nX) := by
  have ha := A.2.1
  show Gd X mJ7_copyOf_59c91 0 [some (.ref a), some (.int (nI n)), none] [] h 1 n _
  refine g_iload_n dJ7_copyOf_59c91_0 rfl (g_aload_n dJ7_copyOf_59c91_1 rfl (g_alen (k := 20) dJ7_copyOf_59c91_2 (by decide) (by decide) A ?_))
  refine g_icmp_ne (tgt := 14) dJ7_copyOf_59c91_3 (by decide) (fun _ => ?_) (fun q => ?_)
  rotate_left
  · have q : nI n = nI m := q
    rw [nI_eq (by omega) (by omega)] at q; omega
  refine g_iload_n dJ7_copyOf_59c91_14 rfl ?_
  refine Gd.le (nc := 0 + 1) (ns := 0 + n) (by omega) (by omega) (g_newarrN (k := 20) (N := n) dJ7_copyOf_59c91_15 (by decide) (by decide) rfl kw_145 (by rw [n0, nI_ltI (by omega) (by omega)]; omega) (nI_clamp (by omega)) (by show n * 4 ≤ _; omega) ?_)
  refine g_astore_n (r := some (hz h)) (L' := [some (.ref a), some (.int (nI n)), some (.ref (hz h))]) dJ7_copyOf_59c91_17 (by decide) rfl ?_
  refine g_aload_n dJ7_copyOf_59c91_18 rfl (g_iconst (v := 0) dJ7_copyOf_59c91_19 (by decide) (g_aload_n dJ7_copyOf_59c91_20 rfl (g_iconst (v := 0) dJ7_copyOf_59c91_21 (by decide) (g_aload_n dJ7_copyOf_59c91_22 rfl ?_))))
  have A' : Ar (nw h 20 n) a 20 m := (gr.rf (S := fun _ => False) (SA := fun _ => False)).nw.ar A
  have h8 := A.1
  have B' : Ar (nw h 20 n) (hz h) 20 n := nw_ar (by omega)
  refine g_alen (k := 20) dJ7_copyOf_59c91_23 (by decide) (by decide) A' (g_iload_n dJ7_copyOf_59c91_24 rfl ?_)
  refine g_mmin dJ7_copyOf_59c91_25 kw_752 (by decide) (Nat.le_of_ble_eq_true rfl) ?_
  have e : (if nI n < Int32.ofNat m then nI n else Int32.ofNat m) = nI n := if_pos (by show nI n < nI m; rw [nI_ltI (by omega) (by omega)]; exact hn)
  rw [e]
  refine g_acopy (st := []) dJ7_copyOf_59c91_28 kw_753 kw_754 A' B' (by omega) (by omega) (by decide) (Nat.le_of_ble_eq_true rfl) ?_
  rw [cp_nw ha]
  exact g_aload_n dJ7_copyOf_59c91_31 rfl (g_areturn (r := some (hz h)) (st := []) (rt := .array .int) dJ7_copyOf_59c91_32 rfl (Or.inr ⟨_, rfl⟩) ⟨rfl, rfl⟩)
end CPY
