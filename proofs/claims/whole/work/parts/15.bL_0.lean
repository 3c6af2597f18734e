theorem bkJ0_length_8abf5_9 {X : GX} {h : SH} {nc ns : Nat} {P : Out → SH → Prop} {xs0 : Int32} {xs1 : Int32} (hp : P (.inl (some (.int (xs0 >>> (xs1 &&& 31))))) (h)) : Gd X mJ0_length_8abf5 9 [none] [.int xs1, .int xs0] h nc ns P := by
  refine g_ishr dJ0_length_8abf5_9 ?_
  exact g_ireturn (st := []) dJ0_length_8abf5_10 rfl rfl hp
theorem bkJ0_charAt_5068e_4 {X : GX} {h : SH} {nc ns : Nat} {P : Out → SH → Prop} {a0 : Nat} {x1 : Int32} {xs0 : Int32} (kt : xs0 = 0 → Gd X mJ0_charAt_5068e 16 [some (.ref a0), some (.int x1)] [] (h) nc ns P) (kf : ¬ xs0 = 0 → Gd X mJ0_charAt_5068e 7 [some (.ref a0), some (.int x1)] [] (h) nc ns P) : Gd X mJ0_charAt_5068e 4 [some (.ref a0), some (.int x1)] [.int xs0] h nc ns P := by
  exact g_if_eq (tgt := 16) dJ0_charAt_5068e_4 (by decide) (fun q => Gd.wk (kt q) ⟨rfl, ⟨rfl, trivial⟩⟩) (fun q => Gd.wk (kf q) ⟨rfl, ⟨rfl, trivial⟩⟩)
theorem bkJ0_charAt_5068e_15 {X : GX} {h : SH} {nc ns : Nat} {P : Out → SH → Prop} {xs0 : Int32} (w0 : narrow .char (.int (xs0)) = .int (xs0)) (hp : P (.inl (some (.int (xs0)))) (h)) : Gd X mJ0_charAt_5068e 15 [none, none] [.int xs0] h nc ns P := by
  exact g_ireturn (st := []) dJ0_charAt_5068e_15 rfl w0 hp
theorem bkJ0_charAt_5068e_24 {X : GX} {h : SH} {nc ns : Nat} {P : Out → SH → Prop} {xs0 : Int32} (w0 : narrow .char (.int (xs0)) = .int (xs0)) (hp : P (.inl (some (.int (xs0)))) (h)) : Gd X mJ0_charAt_5068e 24 [none, none] [.int xs0] h nc ns P := by
  exact g_ireturn (st := []) dJ0_charAt_5068e_24 rfl w0 hp
theorem bkJ0_indexOf_0f7a4_6 {X : GX} {h : SH} {nc ns : Nat} {P : Out → SH → Prop} {xs0 : Int32} (hp : P (.inl (some (.int (xs0)))) (h)) : Gd X mJ0_indexOf_0f7a4 6 [none, none] [.int xs0] h nc ns P := by
  exact g_ireturn (st := []) dJ0_indexOf_0f7a4_6 rfl rfl hp
theorem bkJ0_indexOf_7cf53_4 {X : GX} {h : SH} {nc ns : Nat} {P : Out → SH → Prop} {a0 : Nat} {x1 : Int32} {x2 : Int32} {xs0 : Int32} (kt : xs0 = 0 → Gd X mJ0_indexOf_7cf53 23 [some (.ref a0), some (.int x1), some (.int x2)] [] (h) nc ns P) (kf : ¬ xs0 = 0 → Gd X mJ0_indexOf_7cf53 7 [some (.ref a0), some (.int x1), some (.int x2)] [] (h) nc ns P) : Gd X mJ0_indexOf_7cf53 4 [some (.ref a0), some (.int x1), some (.int x2)] [.int xs0] h nc ns P := by
  exact g_if_eq (tgt := 23) dJ0_indexOf_7cf53_4 (by decide) (fun q => Gd.wk (kt q) ⟨rfl, ⟨rfl, ⟨rfl, trivial⟩⟩⟩) (fun q => Gd.wk (kf q) ⟨rfl, ⟨rfl, ⟨rfl, trivial⟩⟩⟩)
theorem bkJ0_indexOf_7cf53_20 {X : GX} {h : SH} {nc ns : Nat} {P : Out → SH → Prop} {xs0 : Int32} (g : Gd X mJ0_indexOf_7cf53 36 [none, none, none] [.int xs0] (h) nc ns P) : Gd X mJ0_indexOf_7cf53 20 [none, none, none] [.int xs0] h nc ns P := by
  refine g_goto (tgt := 36) dJ0_indexOf_7cf53_20 (by decide) ?_
  exact Gd.wk g trivial
theorem bkJ0_indexOf_7cf53_36 {X : GX} {h : SH} {nc ns : Nat} {P : Out → SH → Prop} {xs0 : Int32} (hp : P (.inl (some (.int (xs0)))) (h)) : Gd X mJ0_indexOf_7cf53 36 [none, none, none] [.int xs0] h nc ns P := by
  exact g_ireturn (st := []) dJ0_indexOf_7cf53_36 rfl rfl hp
theorem bkJ0_coder_7d493_13 {X : GX} {h : SH} {nc ns : Nat} {P : Out → SH → Prop} (g : Gd X mJ0_coder_7d493 14 [none] [.int 1] (h) nc ns P) : Gd X mJ0_coder_7d493 13 [none] [] h nc ns P := by
  refine g_iconst (v := 1) dJ0_coder_7d493_13 (by decide) ?_
  exact Gd.wk g trivial
theorem bkJ0_coder_7d493_14 {X : GX} {h : SH} {nc ns : Nat} {P : Out → SH → Prop} {xs0 : Int32} (w0 : narrow .byte (.int (xs0)) = .int (xs0)) (hp : P (.inl (some (.int (xs0)))) (h)) : Gd X mJ0_coder_7d493 14 [none] [.int xs0] h nc ns P := by
  exact g_ireturn (st := []) dJ0_coder_7d493_14 rfl w0 hp
theorem bkJ0_isLatin1_aae02_13 {X : GX} {h : SH} {nc ns : Nat} {P : Out → SH → Prop} (g : Gd X mJ0_isLatin1_aae02 18 [none] [.int 1] (h) nc ns P) : Gd X mJ0_isLatin1_aae02 13 [none] [] h nc ns P := by
  refine g_iconst (v := 1) dJ0_isLatin1_aae02_13 (by decide) ?_
  refine g_goto (tgt := 18) dJ0_isLatin1_aae02_14 (by decide) ?_
  exact Gd.wk g trivial
theorem bkJ0_isLatin1_aae02_17 {X : GX} {h : SH} {nc ns : Nat} {P : Out → SH → Prop} (g : Gd X mJ0_isLatin1_aae02 18 [none] [.int 0] (h) nc ns P) : Gd X mJ0_isLatin1_aae02 17 [none] [] h nc ns P := by
  refine g_iconst (v := 0) dJ0_isLatin1_aae02_17 (by decide) ?_
  exact Gd.wk g trivial
theorem bkJ0_isLatin1_aae02_18 {X : GX} {h : SH} {nc ns : Nat} {P : Out → SH → Prop} {xs0 : Int32} (w0 : xs0 = 0 ∨ xs0 = 1) (hp : P (.inl (some (.int (xs0)))) (h)) : Gd X mJ0_isLatin1_aae02 18 [none] [.int xs0] h nc ns P := by
  exact g_ireturn (st := []) dJ0_isLatin1_aae02_18 rfl (bl_n w0) hp
theorem bkJ1_charAt_3b067_6 {X : GX} {h : SH} {nc ns : Nat} {P : Out → SH → Prop} {a0 : Nat} {x1 : Int32} {n2 : Nat} (B0 : Ar h (a0) 21 n2) (i1 : vp_in (x1) n2) (w2 : narrow .char (.int ((((hI h a0 ((x1 : Int32).toNatClampNeg)) &&& 255 : Int32).toUInt32 % 65536).toInt32)) = .int ((((hI h a0 ((x1 : Int32).toNatClampNeg)) &&& 255 : Int32).toUInt32 % 65536).toInt32)) (hp : P (.inl (some (.int ((((hI h a0 ((x1 : Int32).toNatClampNeg)) &&& 255 : Int32).toUInt32 % 65536).toInt32)))) (h)) : Gd X mJ1_charAt_3b067 6 [some (.ref a0), some (.int x1)] [] h nc ns P := by
  refine g_aload_n dJ1_charAt_3b067_6 rfl ?_
  refine g_iload_n dJ1_charAt_3b067_7 rfl ?_
  refine g_baload dJ1_charAt_3b067_8 B0 i1 ?_
  refine g_sipush (v := 255) dJ1_charAt_3b067_9 (by decide) ?_
  refine g_iand dJ1_charAt_3b067_12 ?_
  refine g_i2c dJ1_charAt_3b067_13 ?_
  exact g_ireturn (st := []) dJ1_charAt_3b067_14 rfl w2 hp
theorem bkJ1_canEncode_9a6ad_0 {X : GX} {h : SH} {nc ns : Nat} {P : Out → SH → Prop} {x0 : Int32} (kt : x0 < 0 → Gd X mJ1_canEncode_9a6ad 15 [none] [] (h) nc ns P) (kf : ¬ x0 < 0 → Gd X mJ1_canEncode_9a6ad 4 [some (.int x0)] [] (h) nc ns P) : Gd X mJ1_canEncode_9a6ad 0 [some (.int x0)] [] h nc ns P := by
  refine g_iload_n dJ1_canEncode_9a6ad_0 rfl ?_
  exact g_if_lt (tgt := 15) dJ1_canEncode_9a6ad_1 (by decide) (fun q => Gd.wk (kt q) trivial) (fun q => Gd.wk (kf q) ⟨rfl, trivial⟩)
theorem bkJ1_canEncode_9a6ad_4 {X : GX} {h : SH} {nc ns : Nat} {P : Out → SH → Prop} {x0 : Int32} (kt : (255 : Int32) < x0 → Gd X mJ1_canEncode_9a6ad 15 [none] [] (h) nc ns P) (kf : ¬ (255 : Int32) < x0 → Gd X mJ1_canEncode_9a6ad 11 [none] [] (h) nc ns P) : Gd X mJ1_canEncode_9a6ad 4 [some (.int x0)] [] h nc ns P := by
  refine g_iload_n dJ1_canEncode_9a6ad_4 rfl ?_
  refine g_sipush (v := 255) dJ1_canEncode_9a6ad_5 (by decide) ?_
  exact g_icmp_gt (tgt := 15) dJ1_canEncode_9a6ad_8 (by decide) (fun q => Gd.wk (kt q) trivial) (fun q => Gd.wk (kf q) trivial)
theorem bkJ1_canEncode_9a6ad_11 {X : GX} {h : SH} {nc ns : Nat} {P : Out → SH → Prop} (g : Gd X mJ1_canEncode_9a6ad 16 [none] [.int 1] (h) nc ns P) : Gd X mJ1_canEncode_9a6ad 11 [none] [] h nc ns P := by
  refine g_iconst (v := 1) dJ1_canEncode_9a6ad_11 (by decide) ?_
  refine g_goto (tgt := 16) dJ1_canEncode_9a6ad_12 (by decide) ?_
  exact Gd.wk g trivial
theorem bkJ1_canEncode_9a6ad_15 {X : GX} {h : SH} {nc ns : Nat} {P : Out → SH → Prop} (g : Gd X mJ1_canEncode_9a6ad 16 [none] [.int 0] (h) nc ns P) : Gd X mJ1_canEncode_9a6ad 15 [none] [] h nc ns P := by
  refine g_iconst (v := 0) dJ1_canEncode_9a6ad_15 (by decide) ?_
  exact Gd.wk g trivial
theorem bkJ1_canEncode_9a6ad_16 {X : GX} {h : SH} {nc ns : Nat} {P : Out → SH → Prop} {xs0 : Int32} (w0 : xs0 = 0 ∨ xs0 = 1) (hp : P (.inl (some (.int (xs0)))) (h)) : Gd X mJ1_canEncode_9a6ad 16 [none] [.int xs0] h nc ns P := by
  exact g_ireturn (st := []) dJ1_canEncode_9a6ad_16 rfl (bl_n w0) hp
theorem bkJ1_indexOf_4cfef_4 {X : GX} {h : SH} {nc ns : Nat} {P : Out → SH → Prop} {a0 : Nat} {x1 : Int32} {x2 : Int32} {x3 : Int32} {xs0 : Int32} (kt : ¬ xs0 = 0 → Gd X mJ1_indexOf_4cfef 9 [some (.ref a0), some (.int x1), some (.int x2), some (.int x3)] [] (h) nc ns P) (kf : xs0 = 0 → Gd X mJ1_indexOf_4cfef 7 [none, none, none, none] [] (h) nc ns P) : Gd X mJ1_indexOf_4cfef 4 [some (.ref a0), some (.int x1), some (.int x2), some (.int x3)] [.int xs0] h nc ns P := by
  exact g_if_ne (tgt := 9) dJ1_indexOf_4cfef_4 (by decide) (fun q => Gd.wk (kt q) ⟨rfl, ⟨rfl, ⟨rfl, ⟨rfl, trivial⟩⟩⟩⟩) (fun q => Gd.wk (kf q) trivial)
theorem bkJ1_indexOf_4cfef_7 {X : GX} {h : SH} {nc ns : Nat} {P : Out → SH → Prop} (hp : P (.inl (some (.int ((-1))))) (h)) : Gd X mJ1_indexOf_4cfef 7 [none, none, none, none] [] h nc ns P := by
  refine g_iconst (v := (-1)) dJ1_indexOf_4cfef_7 (by decide) ?_
  exact g_ireturn (st := []) dJ1_indexOf_4cfef_8 rfl rfl hp
theorem bkJ1_indexOf_4cfef_9 {X : GX} {h : SH} {nc ns : Nat} {P : Out → SH → Prop} {a0 : Nat} {x1 : Int32} {x2 : Int32} {x3 : Int32} (g : Gd X mJ1_indexOf_4cfef 14 [some (.ref a0), some (.int x1), none, some (.int x3)] [.int (if x2 < (0 : Int32) then (0 : Int32) else x2)] (h) nc ns P) : Gd X mJ1_indexOf_4cfef 9 [some (.ref a0), some (.int x1), some (.int x2), some (.int x3)] [] h nc ns P := by
  refine g_iload_n dJ1_indexOf_4cfef_9 rfl ?_
  refine g_iconst (v := 0) dJ1_indexOf_4cfef_10 (by decide) ?_
  refine g_mmax dJ1_indexOf_4cfef_11 kw_546 (by decide) (Nat.le_of_ble_eq_true rfl) ?_
  exact Gd.wk g ⟨rfl, ⟨rfl, ⟨rfl, trivial⟩⟩⟩
theorem bkJ1_indexOf_4cfef_14 {X : GX} {h : SH} {nc ns : Nat} {P : Out → SH → Prop} {a0 : Nat} {x1 : Int32} {x3 : Int32} {xs0 : Int32} {n4 : Nat} (B0 : Ar h (a0) 21 n4) (g : Gd X mJ1_indexOf_4cfef 21 [some (.ref a0), some (.int x1), some (.int xs0), none] [.int (if (Int32.ofNat n4) < x3 then Int32.ofNat n4 else x3)] (h) nc ns P) : Gd X mJ1_indexOf_4cfef 14 [some (.ref a0), some (.int x1), none, some (.int x3)] [.int xs0] h nc ns P := by
  refine g_istore_n (L' := [some (.ref a0), some (.int x1), some (.int xs0), some (.int x3)]) dJ1_indexOf_4cfef_14 (by decide) rfl ?_
  refine g_iload_n dJ1_indexOf_4cfef_15 rfl ?_
  refine g_aload_n dJ1_indexOf_4cfef_16 rfl ?_
  refine g_alen (k := 21) dJ1_indexOf_4cfef_17 (by decide) (by decide) B0 ?_
  refine g_mmin dJ1_indexOf_4cfef_18 kw_549 (by decide) (Nat.le_of_ble_eq_true rfl) ?_
  exact Gd.wk g ⟨rfl, ⟨rfl, ⟨rfl, trivial⟩⟩⟩
theorem bkJ1_indexOf_4cfef_21 {X : GX} {h : SH} {nc ns : Nat} {P : Out → SH → Prop} {a0 : Nat} {x1 : Int32} {x2 : Int32} {xs0 : Int32} (kt : x2 < xs0 → Gd X mJ1_indexOf_4cfef 29 [some (.ref a0), some (.int x1), some (.int x2), some (.int xs0)] [] (h) nc ns P) (kf : ¬ x2 < xs0 → Gd X mJ1_indexOf_4cfef 27 [none, none, none, none] [] (h) nc ns P) : Gd X mJ1_indexOf_4cfef 21 [some (.ref a0), some (.int x1), some (.int x2), none] [.int xs0] h nc ns P := by
  refine g_istore_n (L' := [some (.ref a0), some (.int x1), some (.int x2), some (.int xs0)]) dJ1_indexOf_4cfef_21 (by decide) rfl ?_
  refine g_iload_n dJ1_indexOf_4cfef_22 rfl ?_
  refine g_iload_n dJ1_indexOf_4cfef_23 rfl ?_
  exact g_icmp_lt (tgt := 29) dJ1_indexOf_4cfef_24 (by decide) (fun q => Gd.wk (kt q) ⟨rfl, ⟨rfl, ⟨rfl, ⟨rfl, trivial⟩⟩⟩⟩) (fun q => Gd.wk (kf q) trivial)
theorem bkJ1_indexOf_4cfef_27 {X : GX} {h : SH} {nc ns : Nat} {P : Out → SH → Prop} (hp : P (.inl (some (.int ((-1))))) (h)) : Gd X mJ1_indexOf_4cfef 27 [none, none, none, none] [] h nc ns P := by
  refine g_iconst (v := (-1)) dJ1_indexOf_4cfef_27 (by decide) ?_
  exact g_ireturn (st := []) dJ1_indexOf_4cfef_28 rfl rfl hp
theorem bkJ1_indexOf_4cfef_36 {X : GX} {h : SH} {nc ns : Nat} {P : Out → SH → Prop} {xs0 : Int32} (hp : P (.inl (some (.int (xs0)))) (h)) : Gd X mJ1_indexOf_4cfef 36 [none, none, none, none] [.int xs0] h nc ns P := by
  exact g_ireturn (st := []) dJ1_indexOf_4cfef_36 rfl rfl hp
theorem bkJ1_indexOfChar_4cfef_0 {X : GX} {h : SH} {nc ns : Nat} {P : Out → SH → Prop} {a0 : Nat} {x1 : Int32} {x2 : Int32} {x3 : Int32} (g : Gd X mJ1_indexOfChar_4cfef 7 [some (.ref a0), none, none, some (.int x3), some (.int ((x1 : Int32).toInt8.toInt32)), some (.int x2)] [] (h) nc ns P) : Gd X mJ1_indexOfChar_4cfef 0 [some (.ref a0), some (.int x1), some (.int x2), some (.int x3), none, none] [] h nc ns P := by
  refine g_iload_n dJ1_indexOfChar_4cfef_0 rfl ?_
  refine g_i2b dJ1_indexOfChar_4cfef_1 ?_
  refine g_istore (L' := [some (.ref a0), some (.int x1), some (.int x2), some (.int x3), some (.int ((x1 : Int32).toInt8.toInt32)), none]) dJ1_indexOfChar_4cfef_2 (by decide) rfl ?_
  refine g_iload_n dJ1_indexOfChar_4cfef_4 rfl ?_
  refine g_istore (L' := [some (.ref a0), some (.int x1), some (.int x2), some (.int x3), some (.int ((x1 : Int32).toInt8.toInt32)), some (.int x2)]) dJ1_indexOfChar_4cfef_5 (by decide) rfl ?_
  exact Gd.wk g ⟨rfl, ⟨rfl, ⟨rfl, ⟨rfl, trivial⟩⟩⟩⟩
theorem bkJ1_indexOfChar_4cfef_7 {X : GX} {h : SH} {nc ns : Nat} {P : Out → SH → Prop} {a0 : Nat} {x3 : Int32} {x4 : Int32} {x5 : Int32} (kt : x3 ≤ x5 → Gd X mJ1_indexOfChar_4cfef 31 [none, none, none, none, none, none] [] (h) nc ns P) (kf : ¬ x3 ≤ x5 → Gd X mJ1_indexOfChar_4cfef 13 [some (.ref a0), none, none, some (.int x3), some (.int x4), some (.int x5)] [] (h) nc ns P) : Gd X mJ1_indexOfChar_4cfef 7 [some (.ref a0), none, none, some (.int x3), some (.int x4), some (.int x5)] [] h nc ns P := by
  refine g_iload dJ1_indexOfChar_4cfef_7 rfl ?_
  refine g_iload_n dJ1_indexOfChar_4cfef_9 rfl ?_
  exact g_icmp_ge (tgt := 31) dJ1_indexOfChar_4cfef_10 (by decide) (fun q => Gd.wk (kt q) trivial) (fun q => Gd.wk (kf q) ⟨rfl, ⟨rfl, ⟨rfl, ⟨rfl, trivial⟩⟩⟩⟩)
theorem bkJ1_indexOfChar_4cfef_13 {X : GX} {h : SH} {nc ns : Nat} {P : Out → SH → Prop} {a0 : Nat} {x3 : Int32} {x4 : Int32} {x5 : Int32} {n4 : Nat} (B0 : Ar h (a0) 21 n4) (i1 : vp_in (x5) n4) (kt : ¬ (hI h a0 ((x5 : Int32).toNatClampNeg)) = x4 → Gd X mJ1_indexOfChar_4cfef 25 [some (.ref a0), none, none, some (.int x3), some (.int x4), some (.int x5)] [] (h) nc ns P) (kf : (hI h a0 ((x5 : Int32).toNatClampNeg)) = x4 → Gd X mJ1_indexOfChar_4cfef 22 [none, none, none, none, none, some (.int x5)] [] (h) nc ns P) : Gd X mJ1_indexOfChar_4cfef 13 [some (.ref a0), none, none, some (.int x3), some (.int x4), some (.int x5)] [] h nc ns P := by
  refine g_aload_n dJ1_indexOfChar_4cfef_13 rfl ?_
  refine g_iload dJ1_indexOfChar_4cfef_14 rfl ?_
  refine g_baload dJ1_indexOfChar_4cfef_16 B0 i1 ?_
  refine g_iload dJ1_indexOfChar_4cfef_17 rfl ?_
  exact g_icmp_ne (tgt := 25) dJ1_indexOfChar_4cfef_19 (by decide) (fun q => Gd.wk (kt q) ⟨rfl, ⟨rfl, ⟨rfl, ⟨rfl, trivial⟩⟩⟩⟩) (fun q => Gd.wk (kf q) ⟨rfl, trivial⟩)
theorem bkJ1_indexOfChar_4cfef_22 {X : GX} {h : SH} {nc ns : Nat} {P : Out → SH → Prop} {x5 : Int32} (hp : P (.inl (some (.int (x5)))) (h)) : Gd X mJ1_indexOfChar_4cfef 22 [none, none, none, none, none, some (.int x5)] [] h nc ns P := by
  refine g_iload dJ1_indexOfChar_4cfef_22 rfl ?_
  exact g_ireturn (st := []) dJ1_indexOfChar_4cfef_24 rfl rfl hp
theorem bkJ1_indexOfChar_4cfef_25 {X : GX} {h : SH} {nc ns : Nat} {P : Out → SH → Prop} {a0 : Nat} {x3 : Int32} {x4 : Int32} {x5 : Int32} (g : Gd X mJ1_indexOfChar_4cfef 7 [some (.ref a0), none, none, some (.int x3), some (.int x4), some (.int (x5 + 1))] [] (h) nc ns P) : Gd X mJ1_indexOfChar_4cfef 25 [some (.ref a0), none, none, some (.int x3), some (.int x4), some (.int x5)] [] h nc ns P := by
  refine g_iinc (v := x5 + 1) (L' := [some (.ref a0), none, none, some (.int x3), some (.int x4), some (.int (x5 + 1))]) dJ1_indexOfChar_4cfef_25 rfl rfl (by decide) rfl ?_
  refine g_goto (tgt := 7) dJ1_indexOfChar_4cfef_28 (by decide) ?_
  exact Gd.wk g ⟨rfl, ⟨rfl, ⟨rfl, ⟨rfl, trivial⟩⟩⟩⟩
theorem bkJ1_indexOfChar_4cfef_31 {X : GX} {h : SH} {nc ns : Nat} {P : Out → SH → Prop} (hp : P (.inl (some (.int ((-1))))) (h)) : Gd X mJ1_indexOfChar_4cfef 31 [none, none, none, none, none, none] [] h nc ns P := by
  refine g_iconst (v := (-1)) dJ1_indexOfChar_4cfef_31 (by decide) ?_
  exact g_ireturn (st := []) dJ1_indexOfChar_4cfef_32 rfl rfl hp
theorem bkJ7_fill_53178_0 {X : GX} {h : SH} {nc ns : Nat} {P : Out → SH → Prop} {a0 : Nat} {x1 : Int32} {n2 : Nat} (B0 : Ar h (a0) 20 n2) (g : Gd X mJ7_fill_53178 5 [some (.ref a0), some (.int x1), some (.int 0), some (.int (Int32.ofNat n2))] [] (h) nc ns P) : Gd X mJ7_fill_53178 0 [some (.ref a0), some (.int x1), none, none] [] h nc ns P := by
  refine g_iconst (v := 0) dJ7_fill_53178_0 (by decide) ?_
  refine g_istore_n (L' := [some (.ref a0), some (.int x1), some (.int 0), none]) dJ7_fill_53178_1 (by decide) rfl ?_
  refine g_aload_n dJ7_fill_53178_2 rfl ?_
  refine g_alen (k := 20) dJ7_fill_53178_3 (by decide) (by decide) B0 ?_
  refine g_istore_n (L' := [some (.ref a0), some (.int x1), some (.int 0), some (.int (Int32.ofNat n2))]) dJ7_fill_53178_4 (by decide) rfl ?_
  exact Gd.wk g ⟨rfl, ⟨rfl, ⟨rfl, ⟨rfl, trivial⟩⟩⟩⟩
theorem bkJ7_fill_53178_5 {X : GX} {h : SH} {nc ns : Nat} {P : Out → SH → Prop} {a0 : Nat} {x1 : Int32} {x2 : Int32} {x3 : Int32} (kt : x3 ≤ x2 → Gd X mJ7_fill_53178 20 [none, none, none, none] [] (h) nc ns P) (kf : ¬ x3 ≤ x2 → Gd X mJ7_fill_53178 10 [some (.ref a0), some (.int x1), some (.int x2), some (.int x3)] [] (h) nc ns P) : Gd X mJ7_fill_53178 5 [some (.ref a0), some (.int x1), some (.int x2), some (.int x3)] [] h nc ns P := by
  refine g_iload_n dJ7_fill_53178_5 rfl ?_
  refine g_iload_n dJ7_fill_53178_6 rfl ?_
  exact g_icmp_ge (tgt := 20) dJ7_fill_53178_7 (by decide) (fun q => Gd.wk (kt q) trivial) (fun q => Gd.wk (kf q) ⟨rfl, ⟨rfl, ⟨rfl, ⟨rfl, trivial⟩⟩⟩⟩)
theorem bkJ7_fill_53178_10 {X : GX} {h : SH} {nc ns : Nat} {P : Out → SH → Prop} {a0 : Nat} {x1 : Int32} {x2 : Int32} {x3 : Int32} {n4 : Nat} (B0 : Ar h (a0) 20 n4) (i1 : vp_in (x2) n4) (g : Gd X mJ7_fill_53178 5 [some (.ref a0), some (.int x1), some (.int (x2 + 1)), some (.int x3)] [] (sI h a0 ((x2 : Int32).toNatClampNeg) x1) nc ns P) : Gd X mJ7_fill_53178 10 [some (.ref a0), some (.int x1), some (.int x2), some (.int x3)] [] h nc ns P := by
  refine g_aload_n dJ7_fill_53178_10 rfl ?_
  refine g_iload_n dJ7_fill_53178_11 rfl ?_
  refine g_iload_n dJ7_fill_53178_12 rfl ?_
  refine g_iastore dJ7_fill_53178_13 B0 i1 ?_
  refine g_iinc (v := x2 + 1) (L' := [some (.ref a0), some (.int x1), some (.int (x2 + 1)), some (.int x3)]) dJ7_fill_53178_14 rfl rfl (by decide) rfl ?_
  refine g_goto (tgt := 5) dJ7_fill_53178_17 (by decide) ?_
  exact Gd.wk g ⟨rfl, ⟨rfl, ⟨rfl, ⟨rfl, trivial⟩⟩⟩⟩
theorem bkJ7_fill_53178_20 {X : GX} {h : SH} {nc ns : Nat} {P : Out → SH → Prop} (hp : P (.inl (none)) (h)) : Gd X mJ7_fill_53178 20 [none, none, none, none] [] h nc ns P := by
  exact g_return (st := []) dJ7_fill_53178_20 rfl hp
theorem bkL_told_8 {X : GX} {h : SH} {nc ns : Nat} {P : Out → SH → Prop} {as0 : Nat} {xs1 : Int32} {xs2 : Int32} {n3 : Nat} (B0 : Ar h (as0) 23 n3) (i1 : vp_in (xs1) n3) (g : Gd X mL_told 17 [none, none, none, none, none] [] (sJ h as0 ((xs1 : Int32).toNatClampNeg) ((xs2 : Int32).toInt64)) nc ns P) : Gd X mL_told 8 [none, none, none, none, none] [.int xs2, .int xs1, .ref as0] h nc ns P := by
  refine g_i2l dL_told_8 ?_
  refine g_lastore dL_told_9 B0 i1 ?_
  refine g_goto (tgt := 17) dL_told_10 (by decide) ?_
  exact Gd.wk g trivial
theorem bkL_told_13 {X : GX} {h : SH} {nc ns : Nat} {P : Out → SH → Prop} {as0 : Nat} (hp : P (.inl (some (.int (1)))) (h)) : Gd X mL_told 13 [none, none, none, none, none] [.ref as0] h nc ns P := by
  refine g_astore (r := (some (as0))) (L' := [none, none, none, none, some (.ref as0)]) dL_told_13 (by decide) rfl ?_
  refine g_iconst (v := 1) dL_told_15 (by decide) ?_
  exact g_ireturn (st := []) dL_told_16 rfl rfl hp
theorem bkL_told_17 {X : GX} {h : SH} {nc ns : Nat} {P : Out → SH → Prop} (hp : P (.inl (some (.int (0)))) (h)) : Gd X mL_told 17 [none, none, none, none, none] [] h nc ns P := by
  refine g_iconst (v := 0) dL_told_17 (by decide) ?_
  exact g_ireturn (st := []) dL_told_18 rfl rfl hp
theorem bkL_law_0 {X : GX} {h : SH} {nc ns : Nat} {P : Out → SH → Prop} (g : Gd X mL_law 3 [some (.ref 0), none, none, none, none, none, none] [.ref (hz h)] (nw h 10 0) nc ns P) : Gd X mL_law 0 [some (.ref 0), none, none, none, none, none, none] [] h (nc + 1) (ns + 10) P := by
  refine g_new (c := 10) dL_law_0 (by decide) kw_118 kw_119 kw_93 ?_
  exact Gd.wk g ⟨rfl, trivial⟩
theorem bkL_law_7 {X : GX} {h : SH} {nc ns : Nat} {P : Out → SH → Prop} {as0 : Nat} (g : Gd X mL_law 11 [some (.ref 0), some (.ref as0), none, none, none, none, none] [.ref (hz h)] (nw h 11 0) nc ns P) : Gd X mL_law 7 [some (.ref 0), none, none, none, none, none, none] [.ref as0] h (nc + 1) (ns + 58) P := by
  refine g_astore_n (r := (some (as0))) (L' := [some (.ref 0), some (.ref as0), none, none, none, none, none]) dL_law_7 (by decide) rfl ?_
  refine g_new (c := 11) dL_law_8 (by decide) kw_1111 kw_1109 kw_98 ?_
  exact Gd.wk g ⟨rfl, ⟨rfl, trivial⟩⟩
theorem bkL_law_15 {X : GX} {h : SH} {nc ns : Nat} {P : Out → SH → Prop} {a1 : Nat} {as0 : Nat} (g : Gd X mL_law 19 [some (.ref 0), some (.ref a1), some (.ref as0), none, none, none, none] [.ref (hz h)] (nw h 23 1) nc ns P) : Gd X mL_law 15 [some (.ref 0), some (.ref a1), none, none, none, none, none] [.ref as0] h (nc + 1) (ns + 1) P := by
  refine g_astore_n (r := (some (as0))) (L' := [some (.ref 0), some (.ref a1), some (.ref as0), none, none, none, none]) dL_law_15 (by decide) rfl ?_
  refine g_iconst (v := 1) dL_law_16 (by decide) ?_
  refine g_newarrN (k := 23) (N := 1) dL_law_17 (by decide) (by decide) rfl kw_361 (by decide) (by decide) (by decide) ?_
  exact Gd.wk g ⟨rfl, ⟨rfl, ⟨rfl, trivial⟩⟩⟩
theorem bkL_law_23 {X : GX} {h : SH} {nc ns : Nat} {P : Out → SH → Prop} {a1 : Nat} {a2 : Nat} {a3 : Nat} {x4 : Int32} (kt : ((Int32.ofNat (xL X)) - 7) < x4 → Gd X mL_law 820 [none, none, none, none, none, none, none] [] (h) nc ns P) (kf : ¬ ((Int32.ofNat (xL X)) - 7) < x4 → Gd X mL_law 33 [some (.ref 0), some (.ref a1), some (.ref a2), some (.ref a3), some (.int x4), none, none] [] (h) nc ns P) : Gd X mL_law 23 [some (.ref 0), some (.ref a1), some (.ref a2), some (.ref a3), some (.int x4), none, none] [] h nc ns P := by
  refine g_iload dL_law_23 rfl ?_
  refine g_aload_n dL_law_25 rfl ?_
  refine g_slen dL_law_26 ?_
  refine g_bipush (v := 7) dL_law_27 (by decide) ?_
  refine g_isub dL_law_29 ?_
  exact g_icmp_gt (tgt := 820) dL_law_30 (by decide) (fun q => Gd.wk (kt q) trivial) (fun q => Gd.wk (kf q) ⟨rfl, ⟨rfl, ⟨rfl, ⟨rfl, ⟨rfl, trivial⟩⟩⟩⟩⟩)
theorem bkL_law_33 {X : GX} {h : SH} {nc ns : Nat} {P : Out → SH → Prop} {a1 : Nat} {a2 : Nat} {a3 : Nat} {x4 : Int32} (i0 : vp_in (x4) (xL X)) (k0 : ((xsc X ((x4 : Int32).toNatClampNeg)) &&& 31) = 0 → Gd X mL_law 124 [some (.ref 0), some (.ref a1), some (.ref a2), some (.ref a3), some (.int x4), none, none] [] (h) nc ns P) (k1 : ((xsc X ((x4 : Int32).toNatClampNeg)) &&& 31) = 1 → Gd X mL_law 271 [some (.ref 0), some (.ref a1), some (.ref a2), some (.ref a3), some (.int x4), none, none] [] (h) nc ns P) (k2 : ((xsc X ((x4 : Int32).toNatClampNeg)) &&& 31) = 2 → Gd X mL_law 296 [some (.ref 0), some (.ref a1), some (.ref a2), some (.ref a3), some (.int x4), none, none] [] (h) nc ns P) (k3 : ((xsc X ((x4 : Int32).toNatClampNeg)) &&& 31) = 3 → Gd X mL_law 321 [some (.ref 0), some (.ref a1), some (.ref a2), some (.ref a3), some (.int x4), none, none] [] (h) nc ns P) (k4 : ((xsc X ((x4 : Int32).toNatClampNeg)) &&& 31) = 4 → Gd X mL_law 346 [some (.ref 0), some (.ref a1), some (.ref a2), some (.ref a3), some (.int x4), none, none] [] (h) nc ns P) (k5 : ((xsc X ((x4 : Int32).toNatClampNeg)) &&& 31) = 5 → Gd X mL_law 383 [some (.ref 0), some (.ref a1), some (.ref a2), some (.ref a3), some (.int x4), none, none] [] (h) nc ns P) (k6 : ((xsc X ((x4 : Int32).toNatClampNeg)) &&& 31) = 6 → Gd X mL_law 408 [some (.ref 0), some (.ref a1), some (.ref a2), some (.ref a3), some (.int x4), none, none] [] (h) nc ns P) (k7 : ((xsc X ((x4 : Int32).toNatClampNeg)) &&& 31) = 7 → Gd X mL_law 461 [some (.ref 0), some (.ref a1), some (.ref a2), some (.ref a3), some (.int x4), none, none] [] (h) nc ns P) (k8 : ((xsc X ((x4 : Int32).toNatClampNeg)) &&& 31) = 8 → Gd X mL_law 486 [some (.ref 0), some (.ref a1), some (.ref a2), some (.ref a3), some (.int x4), none, none] [] (h) nc ns P) (k9 : ((xsc X ((x4 : Int32).toNatClampNeg)) &&& 31) = 9 → Gd X mL_law 511 [some (.ref 0), some (.ref a1), some (.ref a2), some (.ref a3), some (.int x4), none, none] [] (h) nc ns P) (k10 : ((xsc X ((x4 : Int32).toNatClampNeg)) &&& 31) = 10 → Gd X mL_law 536 [some (.ref 0), some (.ref a1), some (.ref a2), some (.ref a3), some (.int x4), none, none] [] (h) nc ns P) (k11 : ((xsc X ((x4 : Int32).toNatClampNeg)) &&& 31) = 11 → Gd X mL_law 561 [some (.ref 0), some (.ref a1), some (.ref a2), some (.ref a3), some (.int x4), none, none] [] (h) nc ns P) (k12 : ((xsc X ((x4 : Int32).toNatClampNeg)) &&& 31) = 12 → Gd X mL_law 598 [some (.ref 0), some (.ref a1), some (.ref a2), some (.ref a3), some (.int x4), none, none] [] (h) nc ns P) (k13 : ((xsc X ((x4 : Int32).toNatClampNeg)) &&& 31) = 13 → Gd X mL_law 635 [some (.ref 0), some (.ref a1), some (.ref a2), some (.ref a3), some (.int x4), none, none] [] (h) nc ns P) (k14 : ((xsc X ((x4 : Int32).toNatClampNeg)) &&& 31) = 14 → Gd X mL_law 696 [some (.ref 0), some (.ref a1), some (.ref a2), some (.ref a3), some (.int x4), none, none] [] (h) nc ns P) (k15 : ((xsc X ((x4 : Int32).toNatClampNeg)) &&& 31) = 15 → Gd X mL_law 721 [some (.ref 0), some (.ref a1), some (.ref a2), some (.ref a3), some (.int x4), none, none] [] (h) nc ns P) (k16 : ((xsc X ((x4 : Int32).toNatClampNeg)) &&& 31) = 16 → Gd X mL_law 789 [some (.ref 0), some (.ref a1), some (.ref a2), some (.ref a3), some (.int x4), none, none] [] (h) nc ns P) (kd : ¬ ((xsc X ((x4 : Int32).toNatClampNeg)) &&& 31) = 0 → ¬ ((xsc X ((x4 : Int32).toNatClampNeg)) &&& 31) = 1 → ¬ ((xsc X ((x4 : Int32).toNatClampNeg)) &&& 31) = 2 → ¬ ((xsc X ((x4 : Int32).toNatClampNeg)) &&& 31) = 3 → ¬ ((xsc X ((x4 : Int32).toNatClampNeg)) &&& 31) = 4 → ¬ ((xsc X ((x4 : Int32).toNatClampNeg)) &&& 31) = 5 → ¬ ((xsc X ((x4 : Int32).toNatClampNeg)) &&& 31) = 6 → ¬ ((xsc X ((x4 : Int32).toNatClampNeg)) &&& 31) = 7 → ¬ ((xsc X ((x4 : Int32).toNatClampNeg)) &&& 31) = 8 → ¬ ((xsc X ((x4 : Int32).toNatClampNeg)) &&& 31) = 9 → ¬ ((xsc X ((x4 : Int32).toNatClampNeg)) &&& 31) = 10 → ¬ ((xsc X ((x4 : Int32).toNatClampNeg)) &&& 31) = 11 → ¬ ((xsc X ((x4 : Int32).toNatClampNeg)) &&& 31) = 12 → ¬ ((xsc X ((x4 : Int32).toNatClampNeg)) &&& 31) = 13 → ¬ ((xsc X ((x4 : Int32).toNatClampNeg)) &&& 31) = 14 → ¬ ((xsc X ((x4 : Int32).toNatClampNeg)) &&& 31) = 15 → ¬ ((xsc X ((x4 : Int32).toNatClampNeg)) &&& 31) = 16 → Gd X mL_law 814 [some (.ref 0), some (.ref a1), some (.ref a2), some (.ref a3), some (.int x4), none, none] [] (h) nc ns P) : Gd X mL_law 33 [some (.ref 0), some (.ref a1), some (.ref a2), some (.ref a3), some (.int x4), none, none] [] h nc ns P := by
  refine g_aload_n dL_law_33 rfl ?_
  refine g_iload dL_law_34 rfl ?_
  refine g_sld dL_law_36 i0 ?_
  refine g_bipush (v := 31) dL_law_37 (by decide) ?_
  refine g_iand dL_law_39 ?_
  generalize (xsc X ((x4 : Int32).toNatClampNeg)) &&& 31 = xx at *
  by_cases q0 : xx = 0
  · subst q0; exact g_tswI (off := 84) (tgt := 124) dL_law_40 (by decide) (by decide) (by decide) (by decide) (Gd.wk (k0 rfl) ⟨rfl, ⟨rfl, ⟨rfl, ⟨rfl, ⟨rfl, trivial⟩⟩⟩⟩⟩)
  by_cases q1 : xx = 1
  · subst q1; exact g_tswI (off := 231) (tgt := 271) dL_law_40 (by decide) (by decide) (by decide) (by decide) (Gd.wk (k1 rfl) ⟨rfl, ⟨rfl, ⟨rfl, ⟨rfl, ⟨rfl, trivial⟩⟩⟩⟩⟩)
  by_cases q2 : xx = 2
  · subst q2; exact g_tswI (off := 256) (tgt := 296) dL_law_40 (by decide) (by decide) (by decide) (by decide) (Gd.wk (k2 rfl) ⟨rfl, ⟨rfl, ⟨rfl, ⟨rfl, ⟨rfl, trivial⟩⟩⟩⟩⟩)
  by_cases q3 : xx = 3
  · subst q3; exact g_tswI (off := 281) (tgt := 321) dL_law_40 (by decide) (by decide) (by decide) (by decide) (Gd.wk (k3 rfl) ⟨rfl, ⟨rfl, ⟨rfl, ⟨rfl, ⟨rfl, trivial⟩⟩⟩⟩⟩)
  by_cases q4 : xx = 4
  · subst q4; exact g_tswI (off := 306) (tgt := 346) dL_law_40 (by decide) (by decide) (by decide) (by decide) (Gd.wk (k4 rfl) ⟨rfl, ⟨rfl, ⟨rfl, ⟨rfl, ⟨rfl, trivial⟩⟩⟩⟩⟩)
  by_cases q5 : xx = 5
  · subst q5; exact g_tswI (off := 343) (tgt := 383) dL_law_40 (by decide) (by decide) (by decide) (by decide) (Gd.wk (k5 rfl) ⟨rfl, ⟨rfl, ⟨rfl, ⟨rfl, ⟨rfl, trivial⟩⟩⟩⟩⟩)
  by_cases q6 : xx = 6
  · subst q6; exact g_tswI (off := 368) (tgt := 408) dL_law_40 (by decide) (by decide) (by decide) (by decide) (Gd.wk (k6 rfl) ⟨rfl, ⟨rfl, ⟨rfl, ⟨rfl, ⟨rfl, trivial⟩⟩⟩⟩⟩)
  by_cases q7 : xx = 7
  · subst q7; exact g_tswI (off := 421) (tgt := 461) dL_law_40 (by decide) (by decide) (by decide) (by decide) (Gd.wk (k7 rfl) ⟨rfl, ⟨rfl, ⟨rfl, ⟨rfl, ⟨rfl, trivial⟩⟩⟩⟩⟩)
  by_cases q8 : xx = 8
  · subst q8; exact g_tswI (off := 446) (tgt := 486) dL_law_40 (by decide) (by decide) (by decide) (by decide) (Gd.wk (k8 rfl) ⟨rfl, ⟨rfl, ⟨rfl, ⟨rfl, ⟨rfl, trivial⟩⟩⟩⟩⟩)
  by_cases q9 : xx = 9
  · subst q9; exact g_tswI (off := 471) (tgt := 511) dL_law_40 (by decide) (by decide) (by decide) (by decide) (Gd.wk (k9 rfl) ⟨rfl, ⟨rfl, ⟨rfl, ⟨rfl, ⟨rfl, trivial⟩⟩⟩⟩⟩)
  by_cases q10 : xx = 10
  · subst q10; exact g_tswI (off := 496) (tgt := 536) dL_law_40 (by decide) (by decide) (by decide) (by decide) (Gd.wk (k10 rfl) ⟨rfl, ⟨rfl, ⟨rfl, ⟨rfl, ⟨rfl, trivial⟩⟩⟩⟩⟩)
  by_cases q11 : xx = 11
  · subst q11; exact g_tswI (off := 521) (tgt := 561) dL_law_40 (by decide) (by decide) (by decide) (by decide) (Gd.wk (k11 rfl) ⟨rfl, ⟨rfl, ⟨rfl, ⟨rfl, ⟨rfl, trivial⟩⟩⟩⟩⟩)
  by_cases q12 : xx = 12
  · subst q12; exact g_tswI (off := 558) (tgt := 598) dL_law_40 (by decide) (by decide) (by decide) (by decide) (Gd.wk (k12 rfl) ⟨rfl, ⟨rfl, ⟨rfl, ⟨rfl, ⟨rfl, trivial⟩⟩⟩⟩⟩)
  by_cases q13 : xx = 13
  · subst q13; exact g_tswI (off := 595) (tgt := 635) dL_law_40 (by decide) (by decide) (by decide) (by decide) (Gd.wk (k13 rfl) ⟨rfl, ⟨rfl, ⟨rfl, ⟨rfl, ⟨rfl, trivial⟩⟩⟩⟩⟩)
  by_cases q14 : xx = 14
  · subst q14; exact g_tswI (off := 656) (tgt := 696) dL_law_40 (by decide) (by decide) (by decide) (by decide) (Gd.wk (k14 rfl) ⟨rfl, ⟨rfl, ⟨rfl, ⟨rfl, ⟨rfl, trivial⟩⟩⟩⟩⟩)
  by_cases q15 : xx = 15
  · subst q15; exact g_tswI (off := 681) (tgt := 721) dL_law_40 (by decide) (by decide) (by decide) (by decide) (Gd.wk (k15 rfl) ⟨rfl, ⟨rfl, ⟨rfl, ⟨rfl, ⟨rfl, trivial⟩⟩⟩⟩⟩)
  by_cases q16 : xx = 16
  · subst q16; exact g_tswI (off := 749) (tgt := 789) dL_law_40 (by decide) (by decide) (by decide) (by decide) (Gd.wk (k16 rfl) ⟨rfl, ⟨rfl, ⟨rfl, ⟨rfl, ⟨rfl, trivial⟩⟩⟩⟩⟩)
  have t0 : ¬ xx.toInt = 0 := fun z => q0 (Int32.toInt_inj.mp (z.trans (by decide)))
  have t1 : ¬ xx.toInt = 1 := fun z => q1 (Int32.toInt_inj.mp (z.trans (by decide)))
  have t2 : ¬ xx.toInt = 2 := fun z => q2 (Int32.toInt_inj.mp (z.trans (by decide)))
  have t3 : ¬ xx.toInt = 3 := fun z => q3 (Int32.toInt_inj.mp (z.trans (by decide)))
  have t4 : ¬ xx.toInt = 4 := fun z => q4 (Int32.toInt_inj.mp (z.trans (by decide)))
  have t5 : ¬ xx.toInt = 5 := fun z => q5 (Int32.toInt_inj.mp (z.trans (by decide)))
  have t6 : ¬ xx.toInt = 6 := fun z => q6 (Int32.toInt_inj.mp (z.trans (by decide)))
  have t7 : ¬ xx.toInt = 7 := fun z => q7 (Int32.toInt_inj.mp (z.trans (by decide)))
  have t8 : ¬ xx.toInt = 8 := fun z => q8 (Int32.toInt_inj.mp (z.trans (by decide)))
  have t9 : ¬ xx.toInt = 9 := fun z => q9 (Int32.toInt_inj.mp (z.trans (by decide)))
  have t10 : ¬ xx.toInt = 10 := fun z => q10 (Int32.toInt_inj.mp (z.trans (by decide)))
  have t11 : ¬ xx.toInt = 11 := fun z => q11 (Int32.toInt_inj.mp (z.trans (by decide)))
  have t12 : ¬ xx.toInt = 12 := fun z => q12 (Int32.toInt_inj.mp (z.trans (by decide)))
  have t13 : ¬ xx.toInt = 13 := fun z => q13 (Int32.toInt_inj.mp (z.trans (by decide)))
  have t14 : ¬ xx.toInt = 14 := fun z => q14 (Int32.toInt_inj.mp (z.trans (by decide)))
  have t15 : ¬ xx.toInt = 15 := fun z => q15 (Int32.toInt_inj.mp (z.trans (by decide)))
  have t16 : ¬ xx.toInt = 16 := fun z => q16 (Int32.toInt_inj.mp (z.trans (by decide)))
  exact g_tswO (tgt := 814) dL_law_40 (by omega) (by decide) (Gd.wk (kd q0 q1 q2 q3 q4 q5 q6 q7 q8 q9 q10 q11 q12 q13 q14 q15 q16) ⟨rfl, ⟨rfl, ⟨rfl, ⟨rfl, ⟨rfl, trivial⟩⟩⟩⟩⟩)
theorem bkL_law_124 {X : GX} {h : SH} {nc ns : Nat} {P : Out → SH → Prop} {Q : Int32 → SH → Prop} {a1 : Nat} {a2 : Nat} {a3 : Nat} {x4 : Int32} (i0 : vp_in (x4 + 1) (xL X)) (i1 : vp_in (x4 + 2) (xL X)) (i2 : vp_in (x4 + 3) (xL X)) (i3 : vp_in (x4 + 4) (xL X)) (i4 : vp_in (x4 + 5) (xL X)) (i5 : vp_in (x4 + 6) (xL X)) (F6 : LX10 (Sk h) (a1)) (hN : Cd X mX10_feed [.ref a1, .long ((((xsc X ((x4 + 1 : Int32).toNatClampNeg) : Int32).toInt64) <<< ((32 : Int32).toInt64 &&& 63)) ||| (((xsc X ((x4 + 2 : Int32).toNatClampNeg) : Int32).toInt64) &&& 4294967295)), .long ((((xsc X ((x4 + 3 : Int32).toNatClampNeg) : Int32).toInt64) <<< ((32 : Int32).toInt64 &&& 63)) ||| (((xsc X ((x4 + 4 : Int32).toNatClampNeg) : Int32).toInt64) &&& 4294967295)), .long ((((xsc X ((x4 + 5 : Int32).toNatClampNeg) : Int32).toInt64) <<< ((32 : Int32).toInt64 &&& 63)) ||| (((xsc X ((x4 + 6 : Int32).toNatClampNeg) : Int32).toInt64) &&& 4294967295))] (h) 0 0 (oI Q nX)) (g : ∀ r t, Q r t → Gd X mL_law 195 [some (.ref 0), some (.ref a1), some (.ref a2), some (.ref a3), some (.int x4), none, none] [.int r] (t) nc ns P) : Gd X mL_law 124 [some (.ref 0), some (.ref a1), some (.ref a2), some (.ref a3), some (.int x4), none, none] [] h nc ns P := by
  refine g_aload_n dL_law_124 rfl ?_
  refine g_aload_n dL_law_125 rfl ?_
  refine g_iload dL_law_126 rfl ?_
  refine g_iconst (v := 1) dL_law_128 (by decide) ?_
  refine g_iadd dL_law_129 ?_
  refine g_sld dL_law_130 i0 ?_
  refine g_i2l dL_law_131 ?_
  refine g_bipush (v := 32) dL_law_132 (by decide) ?_
  refine g_lshl dL_law_134 ?_
  refine g_aload_n dL_law_135 rfl ?_
  refine g_iload dL_law_136 rfl ?_
  refine g_iconst (v := 2) dL_law_138 (by decide) ?_
  refine g_iadd dL_law_139 ?_
  refine g_sld dL_law_140 i1 ?_
  refine g_i2l dL_law_141 ?_
  refine g_ldc2 (v := 4294967295) dL_law_142 kw_1577 ?_
  refine g_land dL_law_145 ?_
  refine g_lor dL_law_146 ?_
  refine g_aload_n dL_law_147 rfl ?_
  refine g_iload dL_law_148 rfl ?_
  refine g_iconst (v := 3) dL_law_150 (by decide) ?_
  refine g_iadd dL_law_151 ?_
  refine g_sld dL_law_152 i2 ?_
  refine g_i2l dL_law_153 ?_
  refine g_bipush (v := 32) dL_law_154 (by decide) ?_
  refine g_lshl dL_law_156 ?_
  refine g_aload_n dL_law_157 rfl ?_
  refine g_iload dL_law_158 rfl ?_
  refine g_iconst (v := 4) dL_law_160 (by decide) ?_
  refine g_iadd dL_law_161 ?_
  refine g_sld dL_law_162 i3 ?_
  refine g_i2l dL_law_163 ?_
  refine g_ldc2 (v := 4294967295) dL_law_164 kw_1577 ?_
  refine g_land dL_law_167 ?_
  refine g_lor dL_law_168 ?_
  refine g_aload_n dL_law_169 rfl ?_
  refine g_iload dL_law_170 rfl ?_
  refine g_iconst (v := 5) dL_law_172 (by decide) ?_
  refine g_iadd dL_law_173 ?_
  refine g_sld dL_law_174 i4 ?_
  refine g_i2l dL_law_175 ?_
  refine g_bipush (v := 32) dL_law_176 (by decide) ?_
  refine g_lshl dL_law_178 ?_
  refine g_aload_n dL_law_179 rfl ?_
  refine g_iload dL_law_180 rfl ?_
  refine g_bipush (v := 6) dL_law_182 (by decide) ?_
  refine g_iadd dL_law_184 ?_
  refine g_sld dL_law_185 i5 ?_
  refine g_i2l dL_law_186 ?_
  refine g_ldc2 (v := 4294967295) dL_law_187 kw_1577 ?_
  refine g_land dL_law_190 ?_
  refine g_lor dL_law_191 ?_
  refine Gd.z ?_
  exact g_callV (k := 10) [.long ((((xsc X ((x4 + 1 : Int32).toNatClampNeg) : Int32).toInt64) <<< ((32 : Int32).toInt64 &&& 63)) ||| (((xsc X ((x4 + 2 : Int32).toNatClampNeg) : Int32).toInt64) &&& 4294967295)), .long ((((xsc X ((x4 + 3 : Int32).toNatClampNeg) : Int32).toInt64) <<< ((32 : Int32).toInt64 &&& 63)) ||| (((xsc X ((x4 + 4 : Int32).toNatClampNeg) : Int32).toInt64) &&& 4294967295)), .long ((((xsc X ((x4 + 5 : Int32).toNatClampNeg) : Int32).toInt64) <<< ((32 : Int32).toInt64 &&& 63)) ||| (((xsc X ((x4 + 6 : Int32).toNatClampNeg) : Int32).toInt64) &&& 4294967295))] dL_law_192 mfX10_feed ⟨by decide, by decide⟩ kw_271 kw_272 kw_273 rfl (by decide) (Nat.le_of_ble_eq_true rfl) (by intro x hx; cases hx) (LX10.o (h := h) F6) (Nat.le_of_ble_eq_true rfl) hN (fun _ _ q => q.elim) (oI_go (G := fun a b => Gd X mL_law 195 _ a b nc ns P) (fun r t q => Gd.wk (g r t q) ⟨rfl, ⟨rfl, ⟨rfl, ⟨rfl, ⟨rfl, trivial⟩⟩⟩⟩⟩))
theorem bkL_law_195 {X : GX} {h : SH} {nc ns : Nat} {P : Out → SH → Prop} {Q : Int32 → SH → Prop} {a1 : Nat} {a2 : Nat} {a3 : Nat} {x4 : Int32} {xs0 : Int32} (i0 : vp_in (x4 + 1) (xL X)) (i1 : vp_in (x4 + 2) (xL X)) (i2 : vp_in (x4 + 3) (xL X)) (i3 : vp_in (x4 + 4) (xL X)) (i4 : vp_in (x4 + 5) (xL X)) (i5 : vp_in (x4 + 6) (xL X)) (F6 : LX11 (Sk h) (a2)) (hN : Cd X mX11_feed [.ref a2, .long ((((xsc X ((x4 + 1 : Int32).toNatClampNeg) : Int32).toInt64) <<< ((32 : Int32).toInt64 &&& 63)) ||| (((xsc X ((x4 + 2 : Int32).toNatClampNeg) : Int32).toInt64) &&& 4294967295)), .long ((((xsc X ((x4 + 3 : Int32).toNatClampNeg) : Int32).toInt64) <<< ((32 : Int32).toInt64 &&& 63)) ||| (((xsc X ((x4 + 4 : Int32).toNatClampNeg) : Int32).toInt64) &&& 4294967295)), .long ((((xsc X ((x4 + 5 : Int32).toNatClampNeg) : Int32).toInt64) <<< ((32 : Int32).toInt64 &&& 63)) ||| (((xsc X ((x4 + 6 : Int32).toNatClampNeg) : Int32).toInt64) &&& 4294967295))] (h) 0 0 (oI Q nX)) (g : ∀ r t, Q r t → Gd X mL_law 266 [some (.ref 0), some (.ref a1), some (.ref a2), some (.ref a3), some (.int x4), none, none] [.int r, .int xs0] (t) nc ns P) : Gd X mL_law 195 [some (.ref 0), some (.ref a1), some (.ref a2), some (.ref a3), some (.int x4), none, none] [.int xs0] h nc ns P := by
  refine g_aload_n dL_law_195 rfl ?_
  refine g_aload_n dL_law_196 rfl ?_
  refine g_iload dL_law_197 rfl ?_
  refine g_iconst (v := 1) dL_law_199 (by decide) ?_
  refine g_iadd dL_law_200 ?_
  refine g_sld dL_law_201 i0 ?_
  refine g_i2l dL_law_202 ?_
  refine g_bipush (v := 32) dL_law_203 (by decide) ?_
  refine g_lshl dL_law_205 ?_
  refine g_aload_n dL_law_206 rfl ?_
  refine g_iload dL_law_207 rfl ?_
  refine g_iconst (v := 2) dL_law_209 (by decide) ?_
  refine g_iadd dL_law_210 ?_
  refine g_sld dL_law_211 i1 ?_
  refine g_i2l dL_law_212 ?_
  refine g_ldc2 (v := 4294967295) dL_law_213 kw_1577 ?_
  refine g_land dL_law_216 ?_
  refine g_lor dL_law_217 ?_
  refine g_aload_n dL_law_218 rfl ?_
  refine g_iload dL_law_219 rfl ?_
  refine g_iconst (v := 3) dL_law_221 (by decide) ?_
  refine g_iadd dL_law_222 ?_
  refine g_sld dL_law_223 i2 ?_
  refine g_i2l dL_law_224 ?_
  refine g_bipush (v := 32) dL_law_225 (by decide) ?_
  refine g_lshl dL_law_227 ?_
  refine g_aload_n dL_law_228 rfl ?_
  refine g_iload dL_law_229 rfl ?_
  refine g_iconst (v := 4) dL_law_231 (by decide) ?_
  refine g_iadd dL_law_232 ?_
  refine g_sld dL_law_233 i3 ?_
  refine g_i2l dL_law_234 ?_
  refine g_ldc2 (v := 4294967295) dL_law_235 kw_1577 ?_
  refine g_land dL_law_238 ?_
  refine g_lor dL_law_239 ?_
  refine g_aload_n dL_law_240 rfl ?_
  refine g_iload dL_law_241 rfl ?_
  refine g_iconst (v := 5) dL_law_243 (by decide) ?_
  refine g_iadd dL_law_244 ?_
  refine g_sld dL_law_245 i4 ?_
  refine g_i2l dL_law_246 ?_
  refine g_bipush (v := 32) dL_law_247 (by decide) ?_
  refine g_lshl dL_law_249 ?_
  refine g_aload_n dL_law_250 rfl ?_
  refine g_iload dL_law_251 rfl ?_
  refine g_bipush (v := 6) dL_law_253 (by decide) ?_
  refine g_iadd dL_law_255 ?_
  refine g_sld dL_law_256 i5 ?_
  refine g_i2l dL_law_257 ?_
  refine g_ldc2 (v := 4294967295) dL_law_258 kw_1577 ?_
  refine g_land dL_law_261 ?_
  refine g_lor dL_law_262 ?_
  refine Gd.z ?_
  exact g_callV (k := 11) [.long ((((xsc X ((x4 + 1 : Int32).toNatClampNeg) : Int32).toInt64) <<< ((32 : Int32).toInt64 &&& 63)) ||| (((xsc X ((x4 + 2 : Int32).toNatClampNeg) : Int32).toInt64) &&& 4294967295)), .long ((((xsc X ((x4 + 3 : Int32).toNatClampNeg) : Int32).toInt64) <<< ((32 : Int32).toInt64 &&& 63)) ||| (((xsc X ((x4 + 4 : Int32).toNatClampNeg) : Int32).toInt64) &&& 4294967295)), .long ((((xsc X ((x4 + 5 : Int32).toNatClampNeg) : Int32).toInt64) <<< ((32 : Int32).toInt64 &&& 63)) ||| (((xsc X ((x4 + 6 : Int32).toNatClampNeg) : Int32).toInt64) &&& 4294967295))] dL_law_263 mfX11_feed ⟨by decide, by decide⟩ kw_1102 kw_1103 kw_1104 rfl (by decide) (Nat.le_of_ble_eq_true rfl) (by intro x hx; cases hx) (LX11.o (h := h) F6) (Nat.le_of_ble_eq_true rfl) hN (fun _ _ q => q.elim) (oI_go (G := fun a b => Gd X mL_law 266 _ a b nc ns P) (fun r t q => Gd.wk (g r t q) ⟨rfl, ⟨rfl, ⟨rfl, ⟨rfl, ⟨rfl, trivial⟩⟩⟩⟩⟩))
theorem bkL_law_266 {X : GX} {h : SH} {nc ns : Nat} {P : Out → SH → Prop} {a1 : Nat} {a2 : Nat} {a3 : Nat} {x4 : Int32} {xs0 : Int32} {xs1 : Int32} (kt : xs0 = xs1 → Gd X mL_law 814 [some (.ref 0), some (.ref a1), some (.ref a2), some (.ref a3), some (.int x4), none, none] [] (h) nc ns P) (kf : ¬ xs0 = xs1 → Gd X mL_law 269 [none, none, none, none, none, none, none] [] (h) nc ns P) : Gd X mL_law 266 [some (.ref 0), some (.ref a1), some (.ref a2), some (.ref a3), some (.int x4), none, none] [.int xs1, .int xs0] h nc ns P := by
  exact g_icmp_eq (tgt := 814) dL_law_266 (by decide) (fun q => Gd.wk (kt q) ⟨rfl, ⟨rfl, ⟨rfl, ⟨rfl, ⟨rfl, trivial⟩⟩⟩⟩⟩) (fun q => Gd.wk (kf q) trivial)
theorem bkL_law_269 {X : GX} {h : SH} {nc ns : Nat} {P : Out → SH → Prop} (hp : P (.inl (some (.int (0)))) (h)) : Gd X mL_law 269 [none, none, none, none, none, none, none] [] h nc ns P := by
  refine g_iconst (v := 0) dL_law_269 (by decide) ?_
  exact g_ireturn (st := []) dL_law_270 rfl (bl_n (by decide)) hp
theorem bkL_law_271 {X : GX} {h : SH} {nc ns : Nat} {P : Out → SH → Prop} {n1 s1 : Nat} {Q : Int32 → SH → Prop} {a1 : Nat} {a2 : Nat} {a3 : Nat} {x4 : Int32} (i0 : vp_in (x4 + 1) (xL X)) (F1 : LX10 (Sk h) (a1)) (hN : Cd X mX10_edition [.ref a1, .int (xsc X ((x4 + 1 : Int32).toNatClampNeg))] (h) n1 s1 (oI Q nX)) (g : ∀ r t, Q r t → Gd X mL_law 281 [some (.ref 0), some (.ref a1), some (.ref a2), some (.ref a3), some (.int x4), none, none] [.int r] (t) nc ns P) : Gd X mL_law 271 [some (.ref 0), some (.ref a1), some (.ref a2), some (.ref a3), some (.int x4), none, none] [] h (n1 + nc) (s1 + ns) P := by
  refine g_aload_n dL_law_271 rfl ?_
  refine g_aload_n dL_law_272 rfl ?_
  refine g_iload dL_law_273 rfl ?_
  refine g_iconst (v := 1) dL_law_275 (by decide) ?_
  refine g_iadd dL_law_276 ?_
  refine g_sld dL_law_277 i0 ?_
  exact g_callV (k := 10) [.int (xsc X ((x4 + 1 : Int32).toNatClampNeg))] dL_law_278 mfX10_edition ⟨by decide, by decide⟩ kw_279 kw_280 kw_281 rfl (by decide) (Nat.le_of_ble_eq_true rfl) (by intro x hx; cases hx) (LX10.o (h := h) F1) (Nat.le_of_ble_eq_true rfl) hN (fun _ _ q => q.elim) (oI_go (G := fun a b => Gd X mL_law 281 _ a b nc ns P) (fun r t q => Gd.wk (g r t q) ⟨rfl, ⟨rfl, ⟨rfl, ⟨rfl, ⟨rfl, trivial⟩⟩⟩⟩⟩))
theorem bkL_law_281 {X : GX} {h : SH} {nc ns : Nat} {P : Out → SH → Prop} {Q : Int32 → SH → Prop} {a1 : Nat} {a2 : Nat} {a3 : Nat} {x4 : Int32} {xs0 : Int32} (i0 : vp_in (x4 + 1) (xL X)) (F1 : LX11 (Sk h) (a2)) (hN : Cd X mX11_edition [.ref a2, .int (xsc X ((x4 + 1 : Int32).toNatClampNeg))] (h) 0 0 (oI Q nX)) (g : ∀ r t, Q r t → Gd X mL_law 291 [some (.ref 0), some (.ref a1), some (.ref a2), some (.ref a3), some (.int x4), none, none] [.int r, .int xs0] (t) nc ns P) : Gd X mL_law 281 [some (.ref 0), some (.ref a1), some (.ref a2), some (.ref a3), some (.int x4), none, none] [.int xs0] h nc ns P := by
  refine g_aload_n dL_law_281 rfl ?_
  refine g_aload_n dL_law_282 rfl ?_
  refine g_iload dL_law_283 rfl ?_
  refine g_iconst (v := 1) dL_law_285 (by decide) ?_
  refine g_iadd dL_law_286 ?_
  refine g_sld dL_law_287 i0 ?_
  refine Gd.z ?_
  exact g_callV (k := 11) [.int (xsc X ((x4 + 1 : Int32).toNatClampNeg))] dL_law_288 mfX11_edition ⟨by decide, by decide⟩ kw_1302 kw_1303 kw_1304 rfl (by decide) (Nat.le_of_ble_eq_true rfl) (by intro x hx; cases hx) (LX11.o (h := h) F1) (Nat.le_of_ble_eq_true rfl) hN (fun _ _ q => q.elim) (oI_go (G := fun a b => Gd X mL_law 291 _ a b nc ns P) (fun r t q => Gd.wk (g r t q) ⟨rfl, ⟨rfl, ⟨rfl, ⟨rfl, ⟨rfl, trivial⟩⟩⟩⟩⟩))
theorem bkL_law_291 {X : GX} {h : SH} {nc ns : Nat} {P : Out → SH → Prop} {a1 : Nat} {a2 : Nat} {a3 : Nat} {x4 : Int32} {xs0 : Int32} {xs1 : Int32} (kt : xs0 = xs1 → Gd X mL_law 814 [some (.ref 0), some (.ref a1), some (.ref a2), some (.ref a3), some (.int x4), none, none] [] (h) nc ns P) (kf : ¬ xs0 = xs1 → Gd X mL_law 294 [none, none, none, none, none, none, none] [] (h) nc ns P) : Gd X mL_law 291 [some (.ref 0), some (.ref a1), some (.ref a2), some (.ref a3), some (.int x4), none, none] [.int xs1, .int xs0] h nc ns P := by
  exact g_icmp_eq (tgt := 814) dL_law_291 (by decide) (fun q => Gd.wk (kt q) ⟨rfl, ⟨rfl, ⟨rfl, ⟨rfl, ⟨rfl, trivial⟩⟩⟩⟩⟩) (fun q => Gd.wk (kf q) trivial)
theorem bkL_law_294 {X : GX} {h : SH} {nc ns : Nat} {P : Out → SH → Prop} (hp : P (.inl (some (.int (0)))) (h)) : Gd X mL_law 294 [none, none, none, none, none, none, none] [] h nc ns P := by
  refine g_iconst (v := 0) dL_law_294 (by decide) ?_
  exact g_ireturn (st := []) dL_law_295 rfl (bl_n (by decide)) hp
theorem bkL_law_296 {X : GX} {h : SH} {nc ns : Nat} {P : Out → SH → Prop} {Q : Int32 → SH → Prop} {a1 : Nat} {a2 : Nat} {a3 : Nat} {x4 : Int32} (i0 : vp_in (x4 + 1) (xL X)) (F1 : LX10 (Sk h) (a1)) (hN : Cd X mX10_take [.ref a1, .int (xsc X ((x4 + 1 : Int32).toNatClampNeg))] (h) 0 0 (oI Q nX)) (g : ∀ r t, Q r t → Gd X mL_law 306 [some (.ref 0), some (.ref a1), some (.ref a2), some (.ref a3), some (.int x4), none, none] [.int r] (t) nc ns P) : Gd X mL_law 296 [some (.ref 0), some (.ref a1), some (.ref a2), some (.ref a3), some (.int x4), none, none] [] h nc ns P := by
  refine g_aload_n dL_law_296 rfl ?_
  refine g_aload_n dL_law_297 rfl ?_
  refine g_iload dL_law_298 rfl ?_
  refine g_iconst (v := 1) dL_law_300 (by decide) ?_
  refine g_iadd dL_law_301 ?_
  refine g_sld dL_law_302 i0 ?_
  refine Gd.z ?_
  exact g_callV (k := 10) [.int (xsc X ((x4 + 1 : Int32).toNatClampNeg))] dL_law_303 mfX10_take ⟨by decide, by decide⟩ kw_891 kw_892 kw_893 rfl (by decide) (Nat.le_of_ble_eq_true rfl) (by intro x hx; cases hx) (LX10.o (h := h) F1) (Nat.le_of_ble_eq_true rfl) hN (fun _ _ q => q.elim) (oI_go (G := fun a b => Gd X mL_law 306 _ a b nc ns P) (fun r t q => Gd.wk (g r t q) ⟨rfl, ⟨rfl, ⟨rfl, ⟨rfl, ⟨rfl, trivial⟩⟩⟩⟩⟩))
theorem bkL_law_306 {X : GX} {h : SH} {nc ns : Nat} {P : Out → SH → Prop} {Q : Int32 → SH → Prop} {a1 : Nat} {a2 : Nat} {a3 : Nat} {x4 : Int32} {xs0 : Int32} (i0 : vp_in (x4 + 1) (xL X)) (F1 : LX11 (Sk h) (a2)) (hN : Cd X mX11_take [.ref a2, .int (xsc X ((x4 + 1 : Int32).toNatClampNeg))] (h) 0 0 (oI Q nX)) (g : ∀ r t, Q r t → Gd X mL_law 316 [some (.ref 0), some (.ref a1), some (.ref a2), some (.ref a3), some (.int x4), none, none] [.int r, .int xs0] (t) nc ns P) : Gd X mL_law 306 [some (.ref 0), some (.ref a1), some (.ref a2), some (.ref a3), some (.int x4), none, none] [.int xs0] h nc ns P := by
  refine g_aload_n dL_law_306 rfl ?_
  refine g_aload_n dL_law_307 rfl ?_
  refine g_iload dL_law_308 rfl ?_
  refine g_iconst (v := 1) dL_law_310 (by decide) ?_
  refine g_iadd dL_law_311 ?_
  refine g_sld dL_law_312 i0 ?_
  refine Gd.z ?_
  exact g_callV (k := 11) [.int (xsc X ((x4 + 1 : Int32).toNatClampNeg))] dL_law_313 mfX11_take ⟨by decide, by decide⟩ kw_1427 kw_1428 kw_1429 rfl (by decide) (Nat.le_of_ble_eq_true rfl) (by intro x hx; cases hx) (LX11.o (h := h) F1) (Nat.le_of_ble_eq_true rfl) hN (fun _ _ q => q.elim) (oI_go (G := fun a b => Gd X mL_law 316 _ a b nc ns P) (fun r t q => Gd.wk (g r t q) ⟨rfl, ⟨rfl, ⟨rfl, ⟨rfl, ⟨rfl, trivial⟩⟩⟩⟩⟩))
theorem bkL_law_316 {X : GX} {h : SH} {nc ns : Nat} {P : Out → SH → Prop} {a1 : Nat} {a2 : Nat} {a3 : Nat} {x4 : Int32} {xs0 : Int32} {xs1 : Int32} (kt : xs0 = xs1 → Gd X mL_law 814 [some (.ref 0), some (.ref a1), some (.ref a2), some (.ref a3), some (.int x4), none, none] [] (h) nc ns P) (kf : ¬ xs0 = xs1 → Gd X mL_law 319 [none, none, none, none, none, none, none] [] (h) nc ns P) : Gd X mL_law 316 [some (.ref 0), some (.ref a1), some (.ref a2), some (.ref a3), some (.int x4), none, none] [.int xs1, .int xs0] h nc ns P := by
  exact g_icmp_eq (tgt := 814) dL_law_316 (by decide) (fun q => Gd.wk (kt q) ⟨rfl, ⟨rfl, ⟨rfl, ⟨rfl, ⟨rfl, trivial⟩⟩⟩⟩⟩) (fun q => Gd.wk (kf q) trivial)
theorem bkL_law_319 {X : GX} {h : SH} {nc ns : Nat} {P : Out → SH → Prop} (hp : P (.inl (some (.int (0)))) (h)) : Gd X mL_law 319 [none, none, none, none, none, none, none] [] h nc ns P := by
  refine g_iconst (v := 0) dL_law_319 (by decide) ?_
  exact g_ireturn (st := []) dL_law_320 rfl (bl_n (by decide)) hp
theorem bkL_law_321 {X : GX} {h : SH} {nc ns : Nat} {P : Out → SH → Prop} {Q : Int32 → SH → Prop} {a1 : Nat} {a2 : Nat} {a3 : Nat} {x4 : Int32} (i0 : vp_in (x4 + 1) (xL X)) (F1 : LX10 (Sk h) (a1)) (hN : Cd X mX10_inForce [.ref a1, .int (xsc X ((x4 + 1 : Int32).toNatClampNeg))] (h) 0 0 (oI Q nX)) (g : ∀ r t, Q r t → Gd X mL_law 331 [some (.ref 0), some (.ref a1), some (.ref a2), some (.ref a3), some (.int x4), none, none] [.int r] (t) nc ns P) : Gd X mL_law 321 [some (.ref 0), some (.ref a1), some (.ref a2), some (.ref a3), some (.int x4), none, none] [] h nc ns P := by
  refine g_aload_n dL_law_321 rfl ?_
  refine g_aload_n dL_law_322 rfl ?_
  refine g_iload dL_law_323 rfl ?_
  refine g_iconst (v := 1) dL_law_325 (by decide) ?_
  refine g_iadd dL_law_326 ?_
  refine g_sld dL_law_327 i0 ?_
  refine Gd.z ?_
  exact g_callV (k := 10) [.int (xsc X ((x4 + 1 : Int32).toNatClampNeg))] dL_law_328 mfX10_inForce ⟨by decide, by decide⟩ kw_895 kw_896 kw_897 rfl (by decide) (Nat.le_of_ble_eq_true rfl) (by intro x hx; cases hx) (LX10.o (h := h) F1) (Nat.le_of_ble_eq_true rfl) hN (fun _ _ q => q.elim) (oI_go (G := fun a b => Gd X mL_law 331 _ a b nc ns P) (fun r t q => Gd.wk (g r t q) ⟨rfl, ⟨rfl, ⟨rfl, ⟨rfl, ⟨rfl, trivial⟩⟩⟩⟩⟩))
theorem bkL_law_331 {X : GX} {h : SH} {nc ns : Nat} {P : Out → SH → Prop} {Q : Int32 → SH → Prop} {a1 : Nat} {a2 : Nat} {a3 : Nat} {x4 : Int32} {xs0 : Int32} (i0 : vp_in (x4 + 1) (xL X)) (F1 : LX11 (Sk h) (a2)) (hN : Cd X mX11_inForce [.ref a2, .int (xsc X ((x4 + 1 : Int32).toNatClampNeg))] (h) 0 0 (oI Q nX)) (g : ∀ r t, Q r t → Gd X mL_law 341 [some (.ref 0), some (.ref a1), some (.ref a2), some (.ref a3), some (.int x4), none, none] [.int r, .int xs0] (t) nc ns P) : Gd X mL_law 331 [some (.ref 0), some (.ref a1), some (.ref a2), some (.ref a3), some (.int x4), none, none] [.int xs0] h nc ns P := by
  refine g_aload_n dL_law_331 rfl ?_
  refine g_aload_n dL_law_332 rfl ?_
  refine g_iload dL_law_333 rfl ?_
  refine g_iconst (v := 1) dL_law_335 (by decide) ?_
  refine g_iadd dL_law_336 ?_
  refine g_sld dL_law_337 i0 ?_
  refine Gd.z ?_
  exact g_callV (k := 11) [.int (xsc X ((x4 + 1 : Int32).toNatClampNeg))] dL_law_338 mfX11_inForce ⟨by decide, by decide⟩ kw_1431 kw_1432 kw_1433 rfl (by decide) (Nat.le_of_ble_eq_true rfl) (by intro x hx; cases hx) (LX11.o (h := h) F1) (Nat.le_of_ble_eq_true rfl) hN (fun _ _ q => q.elim) (oI_go (G := fun a b => Gd X mL_law 341 _ a b nc ns P) (fun r t q => Gd.wk (g r t q) ⟨rfl, ⟨rfl, ⟨rfl, ⟨rfl, ⟨rfl, trivial⟩⟩⟩⟩⟩))
theorem bkL_law_341 {X : GX} {h : SH} {nc ns : Nat} {P : Out → SH → Prop} {a1 : Nat} {a2 : Nat} {a3 : Nat} {x4 : Int32} {xs0 : Int32} {xs1 : Int32} (kt : xs0 = xs1 → Gd X mL_law 814 [some (.ref 0), some (.ref a1), some (.ref a2), some (.ref a3), some (.int x4), none, none] [] (h) nc ns P) (kf : ¬ xs0 = xs1 → Gd X mL_law 344 [none, none, none, none, none, none, none] [] (h) nc ns P) : Gd X mL_law 341 [some (.ref 0), some (.ref a1), some (.ref a2), some (.ref a3), some (.int x4), none, none] [.int xs1, .int xs0] h nc ns P := by
  exact g_icmp_eq (tgt := 814) dL_law_341 (by decide) (fun q => Gd.wk (kt q) ⟨rfl, ⟨rfl, ⟨rfl, ⟨rfl, ⟨rfl, trivial⟩⟩⟩⟩⟩) (fun q => Gd.wk (kf q) trivial)
theorem bkL_law_344 {X : GX} {h : SH} {nc ns : Nat} {P : Out → SH → Prop} (hp : P (.inl (some (.int (0)))) (h)) : Gd X mL_law 344 [none, none, none, none, none, none, none] [] h nc ns P := by
  refine g_iconst (v := 0) dL_law_344 (by decide) ?_
  exact g_ireturn (st := []) dL_law_345 rfl (bl_n (by decide)) hp
theorem bkL_law_346 {X : GX} {h : SH} {nc ns : Nat} {P : Out → SH → Prop} {Q : Int32 → SH → Prop} {a1 : Nat} {a2 : Nat} {a3 : Nat} {x4 : Int32} (i0 : vp_in (x4 + 1) (xL X)) (i1 : vp_in (x4 + 2) (xL X)) (F2 : LX10 (Sk h) (a1)) (hN : Cd X mX10_fact [.ref a1, .int (xsc X ((x4 + 1 : Int32).toNatClampNeg)), .int (xsc X ((x4 + 2 : Int32).toNatClampNeg))] (h) 0 0 (oI Q nX)) (g : ∀ r t, Q r t → Gd X mL_law 362 [some (.ref 0), some (.ref a1), some (.ref a2), some (.ref a3), some (.int x4), none, none] [.int r] (t) nc ns P) : Gd X mL_law 346 [some (.ref 0), some (.ref a1), some (.ref a2), some (.ref a3), some (.int x4), none, none] [] h nc ns P := by
  refine g_aload_n dL_law_346 rfl ?_
  refine g_aload_n dL_law_347 rfl ?_
  refine g_iload dL_law_348 rfl ?_
  refine g_iconst (v := 1) dL_law_350 (by decide) ?_
  refine g_iadd dL_law_351 ?_
  refine g_sld dL_law_352 i0 ?_
  refine g_aload_n dL_law_353 rfl ?_
  refine g_iload dL_law_354 rfl ?_
  refine g_iconst (v := 2) dL_law_356 (by decide) ?_
  refine g_iadd dL_law_357 ?_
  refine g_sld dL_law_358 i1 ?_
  refine Gd.z ?_
  exact g_callV (k := 10) [.int (xsc X ((x4 + 1 : Int32).toNatClampNeg)), .int (xsc X ((x4 + 2 : Int32).toNatClampNeg))] dL_law_359 mfX10_fact ⟨by decide, by decide⟩ kw_899 kw_900 kw_901 rfl (by decide) (Nat.le_of_ble_eq_true rfl) (by intro x hx; cases hx) (LX10.o (h := h) F2) (Nat.le_of_ble_eq_true rfl) hN (fun _ _ q => q.elim) (oI_go (G := fun a b => Gd X mL_law 362 _ a b nc ns P) (fun r t q => Gd.wk (g r t q) ⟨rfl, ⟨rfl, ⟨rfl, ⟨rfl, ⟨rfl, trivial⟩⟩⟩⟩⟩))
theorem bkL_law_362 {X : GX} {h : SH} {nc ns : Nat} {P : Out → SH → Prop} {Q : Int32 → SH → Prop} {a1 : Nat} {a2 : Nat} {a3 : Nat} {x4 : Int32} {xs0 : Int32} (i0 : vp_in (x4 + 1) (xL X)) (i1 : vp_in (x4 + 2) (xL X)) (F2 : LX11 (Sk h) (a2)) (hN : Cd X mX11_fact [.ref a2, .int (xsc X ((x4 + 1 : Int32).toNatClampNeg)), .int (xsc X ((x4 + 2 : Int32).toNatClampNeg))] (h) 0 0 (oI Q nX)) (g : ∀ r t, Q r t → Gd X mL_law 378 [some (.ref 0), some (.ref a1), some (.ref a2), some (.ref a3), some (.int x4), none, none] [.int r, .int xs0] (t) nc ns P) : Gd X mL_law 362 [some (.ref 0), some (.ref a1), some (.ref a2), some (.ref a3), some (.int x4), none, none] [.int xs0] h nc ns P := by
  refine g_aload_n dL_law_362 rfl ?_
  refine g_aload_n dL_law_363 rfl ?_
  refine g_iload dL_law_364 rfl ?_
  refine g_iconst (v := 1) dL_law_366 (by decide) ?_
  refine g_iadd dL_law_367 ?_
  refine g_sld dL_law_368 i0 ?_
  refine g_aload_n dL_law_369 rfl ?_
  refine g_iload dL_law_370 rfl ?_
  refine g_iconst (v := 2) dL_law_372 (by decide) ?_
  refine g_iadd dL_law_373 ?_
  refine g_sld dL_law_374 i1 ?_
  refine Gd.z ?_
  exact g_callV (k := 11) [.int (xsc X ((x4 + 1 : Int32).toNatClampNeg)), .int (xsc X ((x4 + 2 : Int32).toNatClampNeg))] dL_law_375 mfX11_fact ⟨by decide, by decide⟩ kw_1435 kw_1436 kw_1437 rfl (by decide) (Nat.le_of_ble_eq_true rfl) (by intro x hx; cases hx) (LX11.o (h := h) F2) (Nat.le_of_ble_eq_true rfl) hN (fun _ _ q => q.elim) (oI_go (G := fun a b => Gd X mL_law 378 _ a b nc ns P) (fun r t q => Gd.wk (g r t q) ⟨rfl, ⟨rfl, ⟨rfl, ⟨rfl, ⟨rfl, trivial⟩⟩⟩⟩⟩))
theorem bkL_law_378 {X : GX} {h : SH} {nc ns : Nat} {P : Out → SH → Prop} {a1 : Nat} {a2 : Nat} {a3 : Nat} {x4 : Int32} {xs0 : Int32} {xs1 : Int32} (kt : xs0 = xs1 → Gd X mL_law 814 [some (.ref 0), some (.ref a1), some (.ref a2), some (.ref a3), some (.int x4), none, none] [] (h) nc ns P) (kf : ¬ xs0 = xs1 → Gd X mL_law 381 [none, none, none, none, none, none, none] [] (h) nc ns P) : Gd X mL_law 378 [some (.ref 0), some (.ref a1), some (.ref a2), some (.ref a3), some (.int x4), none, none] [.int xs1, .int xs0] h nc ns P := by
  exact g_icmp_eq (tgt := 814) dL_law_378 (by decide) (fun q => Gd.wk (kt q) ⟨rfl, ⟨rfl, ⟨rfl, ⟨rfl, ⟨rfl, trivial⟩⟩⟩⟩⟩) (fun q => Gd.wk (kf q) trivial)
theorem bkL_law_381 {X : GX} {h : SH} {nc ns : Nat} {P : Out → SH → Prop} (hp : P (.inl (some (.int (0)))) (h)) : Gd X mL_law 381 [none, none, none, none, none, none, none] [] h nc ns P := by
  refine g_iconst (v := 0) dL_law_381 (by decide) ?_
  exact g_ireturn (st := []) dL_law_382 rfl (bl_n (by decide)) hp
theorem bkL_law_383 {X : GX} {h : SH} {nc ns : Nat} {P : Out → SH → Prop} {Q : Int32 → SH → Prop} {a1 : Nat} {a2 : Nat} {a3 : Nat} {x4 : Int32} (i0 : vp_in (x4 + 1) (xL X)) (F1 : LX10 (Sk h) (a1)) (hN : Cd X mX10_world [.ref a1, .int (xsc X ((x4 + 1 : Int32).toNatClampNeg))] (h) 0 0 (oI Q nX)) (g : ∀ r t, Q r t → Gd X mL_law 393 [some (.ref 0), some (.ref a1), some (.ref a2), some (.ref a3), some (.int x4), none, none] [.int r] (t) nc ns P) : Gd X mL_law 383 [some (.ref 0), some (.ref a1), some (.ref a2), some (.ref a3), some (.int x4), none, none] [] h nc ns P := by
  refine g_aload_n dL_law_383 rfl ?_
  refine g_aload_n dL_law_384 rfl ?_
  refine g_iload dL_law_385 rfl ?_
  refine g_iconst (v := 1) dL_law_387 (by decide) ?_
  refine g_iadd dL_law_388 ?_
  refine g_sld dL_law_389 i0 ?_
  refine Gd.z ?_
  exact g_callV (k := 10) [.int (xsc X ((x4 + 1 : Int32).toNatClampNeg))] dL_law_390 mfX10_world ⟨by decide, by decide⟩ kw_907 kw_908 kw_909 rfl (by decide) (Nat.le_of_ble_eq_true rfl) (by intro x hx; cases hx) (LX10.o (h := h) F1) (Nat.le_of_ble_eq_true rfl) hN (fun _ _ q => q.elim) (oI_go (G := fun a b => Gd X mL_law 393 _ a b nc ns P) (fun r t q => Gd.wk (g r t q) ⟨rfl, ⟨rfl, ⟨rfl, ⟨rfl, ⟨rfl, trivial⟩⟩⟩⟩⟩))
theorem bkL_law_393 {X : GX} {h : SH} {nc ns : Nat} {P : Out → SH → Prop} {Q : Int32 → SH → Prop} {a1 : Nat} {a2 : Nat} {a3 : Nat} {x4 : Int32} {xs0 : Int32} (i0 : vp_in (x4 + 1) (xL X)) (F1 : LX11 (Sk h) (a2)) (hN : Cd X mX11_world [.ref a2, .int (xsc X ((x4 + 1 : Int32).toNatClampNeg))] (h) 0 0 (oI Q nX)) (g : ∀ r t, Q r t → Gd X mL_law 403 [some (.ref 0), some (.ref a1), some (.ref a2), some (.ref a3), some (.int x4), none, none] [.int r, .int xs0] (t) nc ns P) : Gd X mL_law 393 [some (.ref 0), some (.ref a1), some (.ref a2), some (.ref a3), some (.int x4), none, none] [.int xs0] h nc ns P := by
  refine g_aload_n dL_law_393 rfl ?_
  refine g_aload_n dL_law_394 rfl ?_
  refine g_iload dL_law_395 rfl ?_
  refine g_iconst (v := 1) dL_law_397 (by decide) ?_
  refine g_iadd dL_law_398 ?_
  refine g_sld dL_law_399 i0 ?_
  refine Gd.z ?_
  exact g_callV (k := 11) [.int (xsc X ((x4 + 1 : Int32).toNatClampNeg))] dL_law_400 mfX11_world ⟨by decide, by decide⟩ kw_1439 kw_1440 kw_1441 rfl (by decide) (Nat.le_of_ble_eq_true rfl) (by intro x hx; cases hx) (LX11.o (h := h) F1) (Nat.le_of_ble_eq_true rfl) hN (fun _ _ q => q.elim) (oI_go (G := fun a b => Gd X mL_law 403 _ a b nc ns P) (fun r t q => Gd.wk (g r t q) ⟨rfl, ⟨rfl, ⟨rfl, ⟨rfl, ⟨rfl, trivial⟩⟩⟩⟩⟩))
theorem bkL_law_403 {X : GX} {h : SH} {nc ns : Nat} {P : Out → SH → Prop} {a1 : Nat} {a2 : Nat} {a3 : Nat} {x4 : Int32} {xs0 : Int32} {xs1 : Int32} (kt : xs0 = xs1 → Gd X mL_law 814 [some (.ref 0), some (.ref a1), some (.ref a2), some (.ref a3), some (.int x4), none, none] [] (h) nc ns P) (kf : ¬ xs0 = xs1 → Gd X mL_law 406 [none, none, none, none, none, none, none] [] (h) nc ns P) : Gd X mL_law 403 [some (.ref 0), some (.ref a1), some (.ref a2), some (.ref a3), some (.int x4), none, none] [.int xs1, .int xs0] h nc ns P := by
  exact g_icmp_eq (tgt := 814) dL_law_403 (by decide) (fun q => Gd.wk (kt q) ⟨rfl, ⟨rfl, ⟨rfl, ⟨rfl, ⟨rfl, trivial⟩⟩⟩⟩⟩) (fun q => Gd.wk (kf q) trivial)
theorem bkL_law_406 {X : GX} {h : SH} {nc ns : Nat} {P : Out → SH → Prop} (hp : P (.inl (some (.int (0)))) (h)) : Gd X mL_law 406 [none, none, none, none, none, none, none] [] h nc ns P := by
  refine g_iconst (v := 0) dL_law_406 (by decide) ?_
  exact g_ireturn (st := []) dL_law_407 rfl (bl_n (by decide)) hp
theorem bkL_law_408 {X : GX} {h : SH} {nc ns : Nat} {P : Out → SH → Prop} {a1 : Nat} {a2 : Nat} {a3 : Nat} {x4 : Int32} (i0 : vp_in (x4 + 1) (xL X)) (i1 : vp_in (x4 + 2) (xL X)) (kt : (xsc X ((x4 + 2 : Int32).toNatClampNeg)) = 0 → Gd X mL_law 428 [some (.ref 0), some (.ref a1), some (.ref a2), some (.ref a3), some (.int x4), none, none] [.int (xsc X ((x4 + 1 : Int32).toNatClampNeg)), .ref a1] (h) nc ns P) (kf : ¬ (xsc X ((x4 + 2 : Int32).toNatClampNeg)) = 0 → Gd X mL_law 424 [some (.ref 0), some (.ref a1), some (.ref a2), some (.ref a3), some (.int x4), none, none] [.int (xsc X ((x4 + 1 : Int32).toNatClampNeg)), .ref a1] (h) nc ns P) : Gd X mL_law 408 [some (.ref 0), some (.ref a1), some (.ref a2), some (.ref a3), some (.int x4), none, none] [] h nc ns P := by
  refine g_aload_n dL_law_408 rfl ?_
  refine g_aload_n dL_law_409 rfl ?_
  refine g_iload dL_law_410 rfl ?_
  refine g_iconst (v := 1) dL_law_412 (by decide) ?_
  refine g_iadd dL_law_413 ?_
  refine g_sld dL_law_414 i0 ?_
  refine g_aload_n dL_law_415 rfl ?_
  refine g_iload dL_law_416 rfl ?_
  refine g_iconst (v := 2) dL_law_418 (by decide) ?_
  refine g_iadd dL_law_419 ?_
  refine g_sld dL_law_420 i1 ?_
  exact g_if_eq (tgt := 428) dL_law_421 (by decide) (fun q => Gd.wk (kt q) ⟨rfl, ⟨rfl, ⟨rfl, ⟨rfl, ⟨rfl, trivial⟩⟩⟩⟩⟩) (fun q => Gd.wk (kf q) ⟨rfl, ⟨rfl, ⟨rfl, ⟨rfl, ⟨rfl, trivial⟩⟩⟩⟩⟩)
theorem bkL_law_424 {X : GX} {h : SH} {nc ns : Nat} {P : Out → SH → Prop} {a1 : Nat} {a2 : Nat} {a3 : Nat} {x4 : Int32} {as0 : Nat} {xs1 : Int32} (g : Gd X mL_law 429 [some (.ref 0), some (.ref a1), some (.ref a2), some (.ref a3), some (.int x4), none, none] [.int 1, .int xs1, .ref as0] (h) nc ns P) : Gd X mL_law 424 [some (.ref 0), some (.ref a1), some (.ref a2), some (.ref a3), some (.int x4), none, none] [.int xs1, .ref as0] h nc ns P := by
  refine g_iconst (v := 1) dL_law_424 (by decide) ?_
  refine g_goto (tgt := 429) dL_law_425 (by decide) ?_
  exact Gd.wk g ⟨rfl, ⟨rfl, ⟨rfl, ⟨rfl, ⟨rfl, trivial⟩⟩⟩⟩⟩
theorem bkL_law_428 {X : GX} {h : SH} {nc ns : Nat} {P : Out → SH → Prop} {a1 : Nat} {a2 : Nat} {a3 : Nat} {x4 : Int32} {as0 : Nat} {xs1 : Int32} (g : Gd X mL_law 429 [some (.ref 0), some (.ref a1), some (.ref a2), some (.ref a3), some (.int x4), none, none] [.int 0, .int xs1, .ref as0] (h) nc ns P) : Gd X mL_law 428 [some (.ref 0), some (.ref a1), some (.ref a2), some (.ref a3), some (.int x4), none, none] [.int xs1, .ref as0] h nc ns P := by
  refine g_iconst (v := 0) dL_law_428 (by decide) ?_
  exact Gd.wk g ⟨rfl, ⟨rfl, ⟨rfl, ⟨rfl, ⟨rfl, trivial⟩⟩⟩⟩⟩
theorem bkL_law_429 {X : GX} {h : SH} {nc ns : Nat} {P : Out → SH → Prop} {Q : Int32 → SH → Prop} {a1 : Nat} {a2 : Nat} {a3 : Nat} {x4 : Int32} {as0 : Nat} {xs1 : Int32} {xs2 : Int32} (F0 : LX10 (Sk h) (as0)) (hN : Cd X mX10_free [.ref as0, .int xs1, .int xs2] (h) 0 0 (oI Q nX)) (g : ∀ r t, Q r t → Gd X mL_law 432 [some (.ref 0), some (.ref a1), some (.ref a2), some (.ref a3), some (.int x4), none, none] [.int r] (t) nc ns P) : Gd X mL_law 429 [some (.ref 0), some (.ref a1), some (.ref a2), some (.ref a3), some (.int x4), none, none] [.int xs2, .int xs1, .ref as0] h nc ns P := by
  refine Gd.z ?_
  exact g_callV (k := 10) [.int xs1, .int xs2] dL_law_429 mfX10_free ⟨by decide, by decide⟩ kw_911 kw_912 kw_913 rfl (by decide) (Nat.le_of_ble_eq_true rfl) (by intro x hx; cases hx) (LX10.o (h := h) F0) (Nat.le_of_ble_eq_true rfl) hN (fun _ _ q => q.elim) (oI_go (G := fun a b => Gd X mL_law 432 _ a b nc ns P) (fun r t q => Gd.wk (g r t q) ⟨rfl, ⟨rfl, ⟨rfl, ⟨rfl, ⟨rfl, trivial⟩⟩⟩⟩⟩))
theorem bkL_law_432 {X : GX} {h : SH} {nc ns : Nat} {P : Out → SH → Prop} {a1 : Nat} {a2 : Nat} {a3 : Nat} {x4 : Int32} {xs0 : Int32} (i0 : vp_in (x4 + 1) (xL X)) (i1 : vp_in (x4 + 2) (xL X)) (kt : (xsc X ((x4 + 2 : Int32).toNatClampNeg)) = 0 → Gd X mL_law 452 [some (.ref 0), some (.ref a1), some (.ref a2), some (.ref a3), some (.int x4), none, none] [.int (xsc X ((x4 + 1 : Int32).toNatClampNeg)), .ref a2, .int xs0] (h) nc ns P) (kf : ¬ (xsc X ((x4 + 2 : Int32).toNatClampNeg)) = 0 → Gd X mL_law 448 [some (.ref 0), some (.ref a1), some (.ref a2), some (.ref a3), some (.int x4), none, none] [.int (xsc X ((x4 + 1 : Int32).toNatClampNeg)), .ref a2, .int xs0] (h) nc ns P) : Gd X mL_law 432 [some (.ref 0), some (.ref a1), some (.ref a2), some (.ref a3), some (.int x4), none, none] [.int xs0] h nc ns P := by
  refine g_aload_n dL_law_432 rfl ?_
  refine g_aload_n dL_law_433 rfl ?_
  refine g_iload dL_law_434 rfl ?_
  refine g_iconst (v := 1) dL_law_436 (by decide) ?_
  refine g_iadd dL_law_437 ?_
  refine g_sld dL_law_438 i0 ?_
  refine g_aload_n dL_law_439 rfl ?_
  refine g_iload dL_law_440 rfl ?_
  refine g_iconst (v := 2) dL_law_442 (by decide) ?_
  refine g_iadd dL_law_443 ?_
  refine g_sld dL_law_444 i1 ?_
  exact g_if_eq (tgt := 452) dL_law_445 (by decide) (fun q => Gd.wk (kt q) ⟨rfl, ⟨rfl, ⟨rfl, ⟨rfl, ⟨rfl, trivial⟩⟩⟩⟩⟩) (fun q => Gd.wk (kf q) ⟨rfl, ⟨rfl, ⟨rfl, ⟨rfl, ⟨rfl, trivial⟩⟩⟩⟩⟩)
theorem bkL_law_448 {X : GX} {h : SH} {nc ns : Nat} {P : Out → SH → Prop} {a1 : Nat} {a2 : Nat} {a3 : Nat} {x4 : Int32} {xs0 : Int32} {as1 : Nat} {xs2 : Int32} (g : Gd X mL_law 453 [some (.ref 0), some (.ref a1), some (.ref a2), some (.ref a3), some (.int x4), none, none] [.int 1, .int xs2, .ref as1, .int xs0] (h) nc ns P) : Gd X mL_law 448 [some (.ref 0), some (.ref a1), some (.ref a2), some (.ref a3), some (.int x4), none, none] [.int xs2, .ref as1, .int xs0] h nc ns P := by
  refine g_iconst (v := 1) dL_law_448 (by decide) ?_
  refine g_goto (tgt := 453) dL_law_449 (by decide) ?_
  exact Gd.wk g ⟨rfl, ⟨rfl, ⟨rfl, ⟨rfl, ⟨rfl, trivial⟩⟩⟩⟩⟩
theorem bkL_law_452 {X : GX} {h : SH} {nc ns : Nat} {P : Out → SH → Prop} {a1 : Nat} {a2 : Nat} {a3 : Nat} {x4 : Int32} {xs0 : Int32} {as1 : Nat} {xs2 : Int32} (g : Gd X mL_law 453 [some (.ref 0), some (.ref a1), some (.ref a2), some (.ref a3), some (.int x4), none, none] [.int 0, .int xs2, .ref as1, .int xs0] (h) nc ns P) : Gd X mL_law 452 [some (.ref 0), some (.ref a1), some (.ref a2), some (.ref a3), some (.int x4), none, none] [.int xs2, .ref as1, .int xs0] h nc ns P := by
  refine g_iconst (v := 0) dL_law_452 (by decide) ?_
  exact Gd.wk g ⟨rfl, ⟨rfl, ⟨rfl, ⟨rfl, ⟨rfl, trivial⟩⟩⟩⟩⟩
theorem bkL_law_453 {X : GX} {h : SH} {nc ns : Nat} {P : Out → SH → Prop} {Q : Int32 → SH → Prop} {a1 : Nat} {a2 : Nat} {a3 : Nat} {x4 : Int32} {xs0 : Int32} {as1 : Nat} {xs2 : Int32} {xs3 : Int32} (F0 : LX11 (Sk h) (as1)) (hN : Cd X mX11_free [.ref as1, .int xs2, .int xs3] (h) 0 0 (oI Q nX)) (g : ∀ r t, Q r t → Gd X mL_law 456 [some (.ref 0), some (.ref a1), some (.ref a2), some (.ref a3), some (.int x4), none, none] [.int r, .int xs0] (t) nc ns P) : Gd X mL_law 453 [some (.ref 0), some (.ref a1), some (.ref a2), some (.ref a3), some (.int x4), none, none] [.int xs3, .int xs2, .ref as1, .int xs0] h nc ns P := by
  refine Gd.z ?_
  exact g_callV (k := 11) [.int xs2, .int xs3] dL_law_453 mfX11_free ⟨by decide, by decide⟩ kw_1447 kw_1448 kw_1449 rfl (by decide) (Nat.le_of_ble_eq_true rfl) (by intro x hx; cases hx) (LX11.o (h := h) F0) (Nat.le_of_ble_eq_true rfl) hN (fun _ _ q => q.elim) (oI_go (G := fun a b => Gd X mL_law 456 _ a b nc ns P) (fun r t q => Gd.wk (g r t q) ⟨rfl, ⟨rfl, ⟨rfl, ⟨rfl, ⟨rfl, trivial⟩⟩⟩⟩⟩))
theorem bkL_law_456 {X : GX} {h : SH} {nc ns : Nat} {P : Out → SH → Prop} {a1 : Nat} {a2 : Nat} {a3 : Nat} {x4 : Int32} {xs0 : Int32} {xs1 : Int32} (kt : xs0 = xs1 → Gd X mL_law 814 [some (.ref 0), some (.ref a1), some (.ref a2), some (.ref a3), some (.int x4), none, none] [] (h) nc ns P) (kf : ¬ xs0 = xs1 → Gd X mL_law 459 [none, none, none, none, none, none, none] [] (h) nc ns P) : Gd X mL_law 456 [some (.ref 0), some (.ref a1), some (.ref a2), some (.ref a3), some (.int x4), none, none] [.int xs1, .int xs0] h nc ns P := by
  exact g_icmp_eq (tgt := 814) dL_law_456 (by decide) (fun q => Gd.wk (kt q) ⟨rfl, ⟨rfl, ⟨rfl, ⟨rfl, ⟨rfl, trivial⟩⟩⟩⟩⟩) (fun q => Gd.wk (kf q) trivial)
theorem bkL_law_459 {X : GX} {h : SH} {nc ns : Nat} {P : Out → SH → Prop} (hp : P (.inl (some (.int (0)))) (h)) : Gd X mL_law 459 [none, none, none, none, none, none, none] [] h nc ns P := by
  refine g_iconst (v := 0) dL_law_459 (by decide) ?_
  exact g_ireturn (st := []) dL_law_460 rfl (bl_n (by decide)) hp
theorem bkL_law_461 {X : GX} {h : SH} {nc ns : Nat} {P : Out → SH → Prop} {Q : Int32 → SH → Prop} {a1 : Nat} {a2 : Nat} {a3 : Nat} {x4 : Int32} (i0 : vp_in (x4 + 1) (xL X)) (F1 : LX10 (Sk h) (a1)) (hN : Cd X mX10_make [.ref a1, .int (xsc X ((x4 + 1 : Int32).toNatClampNeg))] (h) 0 0 (oI Q nX)) (g : ∀ r t, Q r t → Gd X mL_law 471 [some (.ref 0), some (.ref a1), some (.ref a2), some (.ref a3), some (.int x4), none, none] [.int r] (t) nc ns P) : Gd X mL_law 461 [some (.ref 0), some (.ref a1), some (.ref a2), some (.ref a3), some (.int x4), none, none] [] h nc ns P := by
  refine g_aload_n dL_law_461 rfl ?_
  refine g_aload_n dL_law_462 rfl ?_
  refine g_iload dL_law_463 rfl ?_
  refine g_iconst (v := 1) dL_law_465 (by decide) ?_
  refine g_iadd dL_law_466 ?_
  refine g_sld dL_law_467 i0 ?_
  refine Gd.z ?_
  exact g_callV (k := 10) [.int (xsc X ((x4 + 1 : Int32).toNatClampNeg))] dL_law_468 mfX10_make ⟨by decide, by decide⟩ kw_931 kw_932 kw_933 rfl (by decide) (Nat.le_of_ble_eq_true rfl) (by intro x hx; cases hx) (LX10.o (h := h) F1) (Nat.le_of_ble_eq_true rfl) hN (fun _ _ q => q.elim) (oI_go (G := fun a b => Gd X mL_law 471 _ a b nc ns P) (fun r t q => Gd.wk (g r t q) ⟨rfl, ⟨rfl, ⟨rfl, ⟨rfl, ⟨rfl, trivial⟩⟩⟩⟩⟩))
theorem bkL_law_471 {X : GX} {h : SH} {nc ns : Nat} {P : Out → SH → Prop} {Q : Int32 → SH → Prop} {a1 : Nat} {a2 : Nat} {a3 : Nat} {x4 : Int32} {xs0 : Int32} (i0 : vp_in (x4 + 1) (xL X)) (F1 : LX11 (Sk h) (a2)) (hN : Cd X mX11_make [.ref a2, .int (xsc X ((x4 + 1 : Int32).toNatClampNeg))] (h) 0 0 (oI Q nX)) (g : ∀ r t, Q r t → Gd X mL_law 481 [some (.ref 0), some (.ref a1), some (.ref a2), some (.ref a3), some (.int x4), none, none] [.int r, .int xs0] (t) nc ns P) : Gd X mL_law 471 [some (.ref 0), some (.ref a1), some (.ref a2), some (.ref a3), some (.int x4), none, none] [.int xs0] h nc ns P := by
  refine g_aload_n dL_law_471 rfl ?_
  refine g_aload_n dL_law_472 rfl ?_
  refine g_iload dL_law_473 rfl ?_
  refine g_iconst (v := 1) dL_law_475 (by decide) ?_
  refine g_iadd dL_law_476 ?_
  refine g_sld dL_law_477 i0 ?_
  refine Gd.z ?_
  exact g_callV (k := 11) [.int (xsc X ((x4 + 1 : Int32).toNatClampNeg))] dL_law_478 mfX11_make ⟨by decide, by decide⟩ kw_1463 kw_1464 kw_1465 rfl (by decide) (Nat.le_of_ble_eq_true rfl) (by intro x hx; cases hx) (LX11.o (h := h) F1) (Nat.le_of_ble_eq_true rfl) hN (fun _ _ q => q.elim) (oI_go (G := fun a b => Gd X mL_law 481 _ a b nc ns P) (fun r t q => Gd.wk (g r t q) ⟨rfl, ⟨rfl, ⟨rfl, ⟨rfl, ⟨rfl, trivial⟩⟩⟩⟩⟩))
theorem bkL_law_481 {X : GX} {h : SH} {nc ns : Nat} {P : Out → SH → Prop} {a1 : Nat} {a2 : Nat} {a3 : Nat} {x4 : Int32} {xs0 : Int32} {xs1 : Int32} (kt : xs0 = xs1 → Gd X mL_law 814 [some (.ref 0), some (.ref a1), some (.ref a2), some (.ref a3), some (.int x4), none, none] [] (h) nc ns P) (kf : ¬ xs0 = xs1 → Gd X mL_law 484 [none, none, none, none, none, none, none] [] (h) nc ns P) : Gd X mL_law 481 [some (.ref 0), some (.ref a1), some (.ref a2), some (.ref a3), some (.int x4), none, none] [.int xs1, .int xs0] h nc ns P := by
  exact g_icmp_eq (tgt := 814) dL_law_481 (by decide) (fun q => Gd.wk (kt q) ⟨rfl, ⟨rfl, ⟨rfl, ⟨rfl, ⟨rfl, trivial⟩⟩⟩⟩⟩) (fun q => Gd.wk (kf q) trivial)
theorem bkL_law_484 {X : GX} {h : SH} {nc ns : Nat} {P : Out → SH → Prop} (hp : P (.inl (some (.int (0)))) (h)) : Gd X mL_law 484 [none, none, none, none, none, none, none] [] h nc ns P := by
  refine g_iconst (v := 0) dL_law_484 (by decide) ?_
  exact g_ireturn (st := []) dL_law_485 rfl (bl_n (by decide)) hp
theorem bkL_law_486 {X : GX} {h : SH} {nc ns : Nat} {P : Out → SH → Prop} {Q : Int32 → SH → Prop} {a1 : Nat} {a2 : Nat} {a3 : Nat} {x4 : Int32} (i0 : vp_in (x4 + 1) (xL X)) (F1 : LX10 (Sk h) (a1)) (hN : Cd X mX10_letter [.ref a1, .int (xsc X ((x4 + 1 : Int32).toNatClampNeg))] (h) 0 0 (oI Q nX)) (g : ∀ r t, Q r t → Gd X mL_law 496 [some (.ref 0), some (.ref a1), some (.ref a2), some (.ref a3), some (.int x4), none, none] [.int r] (t) nc ns P) : Gd X mL_law 486 [some (.ref 0), some (.ref a1), some (.ref a2), some (.ref a3), some (.int x4), none, none] [] h nc ns P := by
  refine g_aload_n dL_law_486 rfl ?_
  refine g_aload_n dL_law_487 rfl ?_
  refine g_iload dL_law_488 rfl ?_
  refine g_iconst (v := 1) dL_law_490 (by decide) ?_
  refine g_iadd dL_law_491 ?_
  refine g_sld dL_law_492 i0 ?_
  refine Gd.z ?_
  exact g_callV (k := 10) [.int (xsc X ((x4 + 1 : Int32).toNatClampNeg))] dL_law_493 mfX10_letter ⟨by decide, by decide⟩ kw_1012 kw_1013 kw_1014 rfl (by decide) (Nat.le_of_ble_eq_true rfl) (by intro x hx; cases hx) (LX10.o (h := h) F1) (Nat.le_of_ble_eq_true rfl) hN (fun _ _ q => q.elim) (oI_go (G := fun a b => Gd X mL_law 496 _ a b nc ns P) (fun r t q => Gd.wk (g r t q) ⟨rfl, ⟨rfl, ⟨rfl, ⟨rfl, ⟨rfl, trivial⟩⟩⟩⟩⟩))
theorem bkL_law_496 {X : GX} {h : SH} {nc ns : Nat} {P : Out → SH → Prop} {Q : Int32 → SH → Prop} {a1 : Nat} {a2 : Nat} {a3 : Nat} {x4 : Int32} {xs0 : Int32} (i0 : vp_in (x4 + 1) (xL X)) (F1 : LX11 (Sk h) (a2)) (hN : Cd X mX11_letter [.ref a2, .int (xsc X ((x4 + 1 : Int32).toNatClampNeg))] (h) 0 0 (oI Q nX)) (g : ∀ r t, Q r t → Gd X mL_law 506 [some (.ref 0), some (.ref a1), some (.ref a2), some (.ref a3), some (.int x4), none, none] [.int r, .int xs0] (t) nc ns P) : Gd X mL_law 496 [some (.ref 0), some (.ref a1), some (.ref a2), some (.ref a3), some (.int x4), none, none] [.int xs0] h nc ns P := by
  refine g_aload_n dL_law_496 rfl ?_
  refine g_aload_n dL_law_497 rfl ?_
  refine g_iload dL_law_498 rfl ?_
  refine g_iconst (v := 1) dL_law_500 (by decide) ?_
  refine g_iadd dL_law_501 ?_
  refine g_sld dL_law_502 i0 ?_
  refine Gd.z ?_
  exact g_callV (k := 11) [.int (xsc X ((x4 + 1 : Int32).toNatClampNeg))] dL_law_503 mfX11_letter ⟨by decide, by decide⟩ kw_1529 kw_1530 kw_1531 rfl (by decide) (Nat.le_of_ble_eq_true rfl) (by intro x hx; cases hx) (LX11.o (h := h) F1) (Nat.le_of_ble_eq_true rfl) hN (fun _ _ q => q.elim) (oI_go (G := fun a b => Gd X mL_law 506 _ a b nc ns P) (fun r t q => Gd.wk (g r t q) ⟨rfl, ⟨rfl, ⟨rfl, ⟨rfl, ⟨rfl, trivial⟩⟩⟩⟩⟩))
theorem bkL_law_506 {X : GX} {h : SH} {nc ns : Nat} {P : Out → SH → Prop} {a1 : Nat} {a2 : Nat} {a3 : Nat} {x4 : Int32} {xs0 : Int32} {xs1 : Int32} (kt : xs0 = xs1 → Gd X mL_law 814 [some (.ref 0), some (.ref a1), some (.ref a2), some (.ref a3), some (.int x4), none, none] [] (h) nc ns P) (kf : ¬ xs0 = xs1 → Gd X mL_law 509 [none, none, none, none, none, none, none] [] (h) nc ns P) : Gd X mL_law 506 [some (.ref 0), some (.ref a1), some (.ref a2), some (.ref a3), some (.int x4), none, none] [.int xs1, .int xs0] h nc ns P := by
  exact g_icmp_eq (tgt := 814) dL_law_506 (by decide) (fun q => Gd.wk (kt q) ⟨rfl, ⟨rfl, ⟨rfl, ⟨rfl, ⟨rfl, trivial⟩⟩⟩⟩⟩) (fun q => Gd.wk (kf q) trivial)
theorem bkL_law_509 {X : GX} {h : SH} {nc ns : Nat} {P : Out → SH → Prop} (hp : P (.inl (some (.int (0)))) (h)) : Gd X mL_law 509 [none, none, none, none, none, none, none] [] h nc ns P := by
  refine g_iconst (v := 0) dL_law_509 (by decide) ?_
  exact g_ireturn (st := []) dL_law_510 rfl (bl_n (by decide)) hp
theorem bkL_law_511 {X : GX} {h : SH} {nc ns : Nat} {P : Out → SH → Prop} {Q : Int32 → SH → Prop} {a1 : Nat} {a2 : Nat} {a3 : Nat} {x4 : Int32} (i0 : vp_in (x4 + 1) (xL X)) (F1 : LX10 (Sk h) (a1)) (hN : Cd X mX10_out [.ref a1, .int (xsc X ((x4 + 1 : Int32).toNatClampNeg))] (h) 0 0 (oI Q nX)) (g : ∀ r t, Q r t → Gd X mL_law 521 [some (.ref 0), some (.ref a1), some (.ref a2), some (.ref a3), some (.int x4), none, none] [.int r] (t) nc ns P) : Gd X mL_law 511 [some (.ref 0), some (.ref a1), some (.ref a2), some (.ref a3), some (.int x4), none, none] [] h nc ns P := by
  refine g_aload_n dL_law_511 rfl ?_
  refine g_aload_n dL_law_512 rfl ?_
  refine g_iload dL_law_513 rfl ?_
  refine g_iconst (v := 1) dL_law_515 (by decide) ?_
  refine g_iadd dL_law_516 ?_
  refine g_sld dL_law_517 i0 ?_
  refine Gd.z ?_
  exact g_callV (k := 10) [.int (xsc X ((x4 + 1 : Int32).toNatClampNeg))] dL_law_518 mfX10_out ⟨by decide, by decide⟩ kw_1016 kw_1017 kw_1018 rfl (by decide) (Nat.le_of_ble_eq_true rfl) (by intro x hx; cases hx) (LX10.o (h := h) F1) (Nat.le_of_ble_eq_true rfl) hN (fun _ _ q => q.elim) (oI_go (G := fun a b => Gd X mL_law 521 _ a b nc ns P) (fun r t q => Gd.wk (g r t q) ⟨rfl, ⟨rfl, ⟨rfl, ⟨rfl, ⟨rfl, trivial⟩⟩⟩⟩⟩))
theorem bkL_law_521 {X : GX} {h : SH} {nc ns : Nat} {P : Out → SH → Prop} {Q : Int32 → SH → Prop} {a1 : Nat} {a2 : Nat} {a3 : Nat} {x4 : Int32} {xs0 : Int32} (i0 : vp_in (x4 + 1) (xL X)) (F1 : LX11 (Sk h) (a2)) (hN : Cd X mX11_out [.ref a2, .int (xsc X ((x4 + 1 : Int32).toNatClampNeg))] (h) 0 0 (oI Q nX)) (g : ∀ r t, Q r t → Gd X mL_law 531 [some (.ref 0), some (.ref a1), some (.ref a2), some (.ref a3), some (.int x4), none, none] [.int r, .int xs0] (t) nc ns P) : Gd X mL_law 521 [some (.ref 0), some (.ref a1), some (.ref a2), some (.ref a3), some (.int x4), none, none] [.int xs0] h nc ns P := by
  refine g_aload_n dL_law_521 rfl ?_
  refine g_aload_n dL_law_522 rfl ?_
  refine g_iload dL_law_523 rfl ?_
  refine g_iconst (v := 1) dL_law_525 (by decide) ?_
  refine g_iadd dL_law_526 ?_
  refine g_sld dL_law_527 i0 ?_
  refine Gd.z ?_
  exact g_callV (k := 11) [.int (xsc X ((x4 + 1 : Int32).toNatClampNeg))] dL_law_528 mfX11_out ⟨by decide, by decide⟩ kw_1533 kw_1534 kw_1535 rfl (by decide) (Nat.le_of_ble_eq_true rfl) (by intro x hx; cases hx) (LX11.o (h := h) F1) (Nat.le_of_ble_eq_true rfl) hN (fun _ _ q => q.elim) (oI_go (G := fun a b => Gd X mL_law 531 _ a b nc ns P) (fun r t q => Gd.wk (g r t q) ⟨rfl, ⟨rfl, ⟨rfl, ⟨rfl, ⟨rfl, trivial⟩⟩⟩⟩⟩))
theorem bkL_law_531 {X : GX} {h : SH} {nc ns : Nat} {P : Out → SH → Prop} {a1 : Nat} {a2 : Nat} {a3 : Nat} {x4 : Int32} {xs0 : Int32} {xs1 : Int32} (kt : xs0 = xs1 → Gd X mL_law 814 [some (.ref 0), some (.ref a1), some (.ref a2), some (.ref a3), some (.int x4), none, none] [] (h) nc ns P) (kf : ¬ xs0 = xs1 → Gd X mL_law 534 [none, none, none, none, none, none, none] [] (h) nc ns P) : Gd X mL_law 531 [some (.ref 0), some (.ref a1), some (.ref a2), some (.ref a3), some (.int x4), none, none] [.int xs1, .int xs0] h nc ns P := by
  exact g_icmp_eq (tgt := 814) dL_law_531 (by decide) (fun q => Gd.wk (kt q) ⟨rfl, ⟨rfl, ⟨rfl, ⟨rfl, ⟨rfl, trivial⟩⟩⟩⟩⟩) (fun q => Gd.wk (kf q) trivial)
theorem bkL_law_534 {X : GX} {h : SH} {nc ns : Nat} {P : Out → SH → Prop} (hp : P (.inl (some (.int (0)))) (h)) : Gd X mL_law 534 [none, none, none, none, none, none, none] [] h nc ns P := by
  refine g_iconst (v := 0) dL_law_534 (by decide) ?_
  exact g_ireturn (st := []) dL_law_535 rfl (bl_n (by decide)) hp
theorem bkL_law_536 {X : GX} {h : SH} {nc ns : Nat} {P : Out → SH → Prop} {Q : Int32 → SH → Prop} {a1 : Nat} {a2 : Nat} {a3 : Nat} {x4 : Int32} (i0 : vp_in (x4 + 1) (xL X)) (F1 : LX10 (Sk h) (a1)) (hN : Cd X mX10_part [.ref a1, .int (xsc X ((x4 + 1 : Int32).toNatClampNeg))] (h) 0 0 (oI Q nX)) (g : ∀ r t, Q r t → Gd X mL_law 546 [some (.ref 0), some (.ref a1), some (.ref a2), some (.ref a3), some (.int x4), none, none] [.int r] (t) nc ns P) : Gd X mL_law 536 [some (.ref 0), some (.ref a1), some (.ref a2), some (.ref a3), some (.int x4), none, none] [] h nc ns P := by
  refine g_aload_n dL_law_536 rfl ?_
  refine g_aload_n dL_law_537 rfl ?_
  refine g_iload dL_law_538 rfl ?_
  refine g_iconst (v := 1) dL_law_540 (by decide) ?_
  refine g_iadd dL_law_541 ?_
  refine g_sld dL_law_542 i0 ?_
  refine Gd.z ?_
  exact g_callV (k := 10) [.int (xsc X ((x4 + 1 : Int32).toNatClampNeg))] dL_law_543 mfX10_part ⟨by decide, by decide⟩ kw_1020 kw_1021 kw_1022 rfl (by decide) (Nat.le_of_ble_eq_true rfl) (by intro x hx; cases hx) (LX10.o (h := h) F1) (Nat.le_of_ble_eq_true rfl) hN (fun _ _ q => q.elim) (oI_go (G := fun a b => Gd X mL_law 546 _ a b nc ns P) (fun r t q => Gd.wk (g r t q) ⟨rfl, ⟨rfl, ⟨rfl, ⟨rfl, ⟨rfl, trivial⟩⟩⟩⟩⟩))
theorem bkL_law_546 {X : GX} {h : SH} {nc ns : Nat} {P : Out → SH → Prop} {Q : Int32 → SH → Prop} {a1 : Nat} {a2 : Nat} {a3 : Nat} {x4 : Int32} {xs0 : Int32} (i0 : vp_in (x4 + 1) (xL X)) (F1 : LX11 (Sk h) (a2)) (hN : Cd X mX11_part_ [.ref a2, .int (xsc X ((x4 + 1 : Int32).toNatClampNeg))] (h) 0 0 (oI Q nX)) (g : ∀ r t, Q r t → Gd X mL_law 556 [some (.ref 0), some (.ref a1), some (.ref a2), some (.ref a3), some (.int x4), none, none] [.int r, .int xs0] (t) nc ns P) : Gd X mL_law 546 [some (.ref 0), some (.ref a1), some (.ref a2), some (.ref a3), some (.int x4), none, none] [.int xs0] h nc ns P := by
  refine g_aload_n dL_law_546 rfl ?_
  refine g_aload_n dL_law_547 rfl ?_
  refine g_iload dL_law_548 rfl ?_
  refine g_iconst (v := 1) dL_law_550 (by decide) ?_
  refine g_iadd dL_law_551 ?_
  refine g_sld dL_law_552 i0 ?_
  refine Gd.z ?_
  exact g_callV (k := 11) [.int (xsc X ((x4 + 1 : Int32).toNatClampNeg))] dL_law_553 mfX11_part_ ⟨by decide, by decide⟩ kw_1537 kw_1538 kw_1539 rfl (by decide) (Nat.le_of_ble_eq_true rfl) (by intro x hx; cases hx) (LX11.o (h := h) F1) (Nat.le_of_ble_eq_true rfl) hN (fun _ _ q => q.elim) (oI_go (G := fun a b => Gd X mL_law 556 _ a b nc ns P) (fun r t q => Gd.wk (g r t q) ⟨rfl, ⟨rfl, ⟨rfl, ⟨rfl, ⟨rfl, trivial⟩⟩⟩⟩⟩))
theorem bkL_law_556 {X : GX} {h : SH} {nc ns : Nat} {P : Out → SH → Prop} {a1 : Nat} {a2 : Nat} {a3 : Nat} {x4 : Int32} {xs0 : Int32} {xs1 : Int32} (kt : xs0 = xs1 → Gd X mL_law 814 [some (.ref 0), some (.ref a1), some (.ref a2), some (.ref a3), some (.int x4), none, none] [] (h) nc ns P) (kf : ¬ xs0 = xs1 → Gd X mL_law 559 [none, none, none, none, none, none, none] [] (h) nc ns P) : Gd X mL_law 556 [some (.ref 0), some (.ref a1), some (.ref a2), some (.ref a3), some (.int x4), none, none] [.int xs1, .int xs0] h nc ns P := by
  exact g_icmp_eq (tgt := 814) dL_law_556 (by decide) (fun q => Gd.wk (kt q) ⟨rfl, ⟨rfl, ⟨rfl, ⟨rfl, ⟨rfl, trivial⟩⟩⟩⟩⟩) (fun q => Gd.wk (kf q) trivial)
theorem bkL_law_559 {X : GX} {h : SH} {nc ns : Nat} {P : Out → SH → Prop} (hp : P (.inl (some (.int (0)))) (h)) : Gd X mL_law 559 [none, none, none, none, none, none, none] [] h nc ns P := by
  refine g_iconst (v := 0) dL_law_559 (by decide) ?_
  exact g_ireturn (st := []) dL_law_560 rfl (bl_n (by decide)) hp
theorem bkL_law_561 {X : GX} {h : SH} {nc ns : Nat} {P : Out → SH → Prop} {Q : Int32 → SH → Prop} {a1 : Nat} {a2 : Nat} {a3 : Nat} {x4 : Int32} (i0 : vp_in (x4 + 1) (xL X)) (i1 : vp_in (x4 + 2) (xL X)) (F2 : LX10 (Sk h) (a1)) (hN : Cd X mX10_working [.ref a1, .int (xsc X ((x4 + 1 : Int32).toNatClampNeg)), .int (xsc X ((x4 + 2 : Int32).toNatClampNeg))] (h) 0 0 (oI Q nX)) (g : ∀ r t, Q r t → Gd X mL_law 577 [some (.ref 0), some (.ref a1), some (.ref a2), some (.ref a3), some (.int x4), none, none] [.int r] (t) nc ns P) : Gd X mL_law 561 [some (.ref 0), some (.ref a1), some (.ref a2), some (.ref a3), some (.int x4), none, none] [] h nc ns P := by
  refine g_aload_n dL_law_561 rfl ?_
  refine g_aload_n dL_law_562 rfl ?_
  refine g_iload dL_law_563 rfl ?_
  refine g_iconst (v := 1) dL_law_565 (by decide) ?_
  refine g_iadd dL_law_566 ?_
  refine g_sld dL_law_567 i0 ?_
  refine g_aload_n dL_law_568 rfl ?_
  refine g_iload dL_law_569 rfl ?_
  refine g_iconst (v := 2) dL_law_571 (by decide) ?_
  refine g_iadd dL_law_572 ?_
  refine g_sld dL_law_573 i1 ?_
  refine Gd.z ?_
  exact g_callV (k := 10) [.int (xsc X ((x4 + 1 : Int32).toNatClampNeg)), .int (xsc X ((x4 + 2 : Int32).toNatClampNeg))] dL_law_574 mfX10_working ⟨by decide, by decide⟩ kw_1024 kw_1025 kw_1026 rfl (by decide) (Nat.le_of_ble_eq_true rfl) (by intro x hx; cases hx) (LX10.o (h := h) F2) (Nat.le_of_ble_eq_true rfl) hN (fun _ _ q => q.elim) (oI_go (G := fun a b => Gd X mL_law 577 _ a b nc ns P) (fun r t q => Gd.wk (g r t q) ⟨rfl, ⟨rfl, ⟨rfl, ⟨rfl, ⟨rfl, trivial⟩⟩⟩⟩⟩))
theorem bkL_law_577 {X : GX} {h : SH} {nc ns : Nat} {P : Out → SH → Prop} {Q : Int32 → SH → Prop} {a1 : Nat} {a2 : Nat} {a3 : Nat} {x4 : Int32} {xs0 : Int32} (i0 : vp_in (x4 + 1) (xL X)) (i1 : vp_in (x4 + 2) (xL X)) (F2 : LX11 (Sk h) (a2)) (hN : Cd X mX11_working [.ref a2, .int (xsc X ((x4 + 1 : Int32).toNatClampNeg)), .int (xsc X ((x4 + 2 : Int32).toNatClampNeg))] (h) 0 0 (oI Q nX)) (g : ∀ r t, Q r t → Gd X mL_law 593 [some (.ref 0), some (.ref a1), some (.ref a2), some (.ref a3), some (.int x4), none, none] [.int r, .int xs0] (t) nc ns P) : Gd X mL_law 577 [some (.ref 0), some (.ref a1), some (.ref a2), some (.ref a3), some (.int x4), none, none] [.int xs0] h nc ns P := by
  refine g_aload_n dL_law_577 rfl ?_
  refine g_aload_n dL_law_578 rfl ?_
  refine g_iload dL_law_579 rfl ?_
  refine g_iconst (v := 1) dL_law_581 (by decide) ?_
  refine g_iadd dL_law_582 ?_
  refine g_sld dL_law_583 i0 ?_
  refine g_aload_n dL_law_584 rfl ?_
  refine g_iload dL_law_585 rfl ?_
  refine g_iconst (v := 2) dL_law_587 (by decide) ?_
  refine g_iadd dL_law_588 ?_
  refine g_sld dL_law_589 i1 ?_
  refine Gd.z ?_
  exact g_callV (k := 11) [.int (xsc X ((x4 + 1 : Int32).toNatClampNeg)), .int (xsc X ((x4 + 2 : Int32).toNatClampNeg))] dL_law_590 mfX11_working ⟨by decide, by decide⟩ kw_1451 kw_1452 kw_1453 rfl (by decide) (Nat.le_of_ble_eq_true rfl) (by intro x hx; cases hx) (LX11.o (h := h) F2) (Nat.le_of_ble_eq_true rfl) hN (fun _ _ q => q.elim) (oI_go (G := fun a b => Gd X mL_law 593 _ a b nc ns P) (fun r t q => Gd.wk (g r t q) ⟨rfl, ⟨rfl, ⟨rfl, ⟨rfl, ⟨rfl, trivial⟩⟩⟩⟩⟩))
theorem bkL_law_593 {X : GX} {h : SH} {nc ns : Nat} {P : Out → SH → Prop} {a1 : Nat} {a2 : Nat} {a3 : Nat} {x4 : Int32} {xs0 : Int32} {xs1 : Int32} (kt : xs0 = xs1 → Gd X mL_law 814 [some (.ref 0), some (.ref a1), some (.ref a2), some (.ref a3), some (.int x4), none, none] [] (h) nc ns P) (kf : ¬ xs0 = xs1 → Gd X mL_law 596 [none, none, none, none, none, none, none] [] (h) nc ns P) : Gd X mL_law 593 [some (.ref 0), some (.ref a1), some (.ref a2), some (.ref a3), some (.int x4), none, none] [.int xs1, .int xs0] h nc ns P := by
  exact g_icmp_eq (tgt := 814) dL_law_593 (by decide) (fun q => Gd.wk (kt q) ⟨rfl, ⟨rfl, ⟨rfl, ⟨rfl, ⟨rfl, trivial⟩⟩⟩⟩⟩) (fun q => Gd.wk (kf q) trivial)
theorem bkL_law_596 {X : GX} {h : SH} {nc ns : Nat} {P : Out → SH → Prop} (hp : P (.inl (some (.int (0)))) (h)) : Gd X mL_law 596 [none, none, none, none, none, none, none] [] h nc ns P := by
  refine g_iconst (v := 0) dL_law_596 (by decide) ?_
  exact g_ireturn (st := []) dL_law_597 rfl (bl_n (by decide)) hp
theorem bkL_law_598 {X : GX} {h : SH} {nc ns : Nat} {P : Out → SH → Prop} {Q : Int32 → SH → Prop} {a1 : Nat} {a2 : Nat} {a3 : Nat} {x4 : Int32} (i0 : vp_in (x4 + 1) (xL X)) (i1 : vp_in (x4 + 2) (xL X)) (F2 : LX10 (Sk h) (a1)) (hN : Cd X mX10_judge [.ref a1, .int (xsc X ((x4 + 1 : Int32).toNatClampNeg)), .int (xsc X ((x4 + 2 : Int32).toNatClampNeg))] (h) 0 0 (oI Q nX)) (g : ∀ r t, Q r t → Gd X mL_law 614 [some (.ref 0), some (.ref a1), some (.ref a2), some (.ref a3), some (.int x4), none, none] [.int r] (t) nc ns P) : Gd X mL_law 598 [some (.ref 0), some (.ref a1), some (.ref a2), some (.ref a3), some (.int x4), none, none] [] h nc ns P := by
  refine g_aload_n dL_law_598 rfl ?_
  refine g_aload_n dL_law_599 rfl ?_
  refine g_iload dL_law_600 rfl ?_
  refine g_iconst (v := 1) dL_law_602 (by decide) ?_
  refine g_iadd dL_law_603 ?_
  refine g_sld dL_law_604 i0 ?_
  refine g_aload_n dL_law_605 rfl ?_
  refine g_iload dL_law_606 rfl ?_
  refine g_iconst (v := 2) dL_law_608 (by decide) ?_
  refine g_iadd dL_law_609 ?_
  refine g_sld dL_law_610 i1 ?_
  refine Gd.z ?_
  exact g_callV (k := 10) [.int (xsc X ((x4 + 1 : Int32).toNatClampNeg)), .int (xsc X ((x4 + 2 : Int32).toNatClampNeg))] dL_law_611 mfX10_judge ⟨by decide, by decide⟩ kw_1032 kw_1033 kw_1034 rfl (by decide) (Nat.le_of_ble_eq_true rfl) (by intro x hx; cases hx) (LX10.o (h := h) F2) (Nat.le_of_ble_eq_true rfl) hN (fun _ _ q => q.elim) (oI_go (G := fun a b => Gd X mL_law 614 _ a b nc ns P) (fun r t q => Gd.wk (g r t q) ⟨rfl, ⟨rfl, ⟨rfl, ⟨rfl, ⟨rfl, trivial⟩⟩⟩⟩⟩))
theorem bkL_law_614 {X : GX} {h : SH} {nc ns : Nat} {P : Out → SH → Prop} {Q : Int32 → SH → Prop} {a1 : Nat} {a2 : Nat} {a3 : Nat} {x4 : Int32} {xs0 : Int32} (i0 : vp_in (x4 + 1) (xL X)) (i1 : vp_in (x4 + 2) (xL X)) (F2 : LX11 (Sk h) (a2)) (hN : Cd X mX11_judge [.ref a2, .int (xsc X ((x4 + 1 : Int32).toNatClampNeg)), .int (xsc X ((x4 + 2 : Int32).toNatClampNeg))] (h) 0 0 (oI Q nX)) (g : ∀ r t, Q r t → Gd X mL_law 630 [some (.ref 0), some (.ref a1), some (.ref a2), some (.ref a3), some (.int x4), none, none] [.int r, .int xs0] (t) nc ns P) : Gd X mL_law 614 [some (.ref 0), some (.ref a1), some (.ref a2), some (.ref a3), some (.int x4), none, none] [.int xs0] h nc ns P := by
  refine g_aload_n dL_law_614 rfl ?_
  refine g_aload_n dL_law_615 rfl ?_
  refine g_iload dL_law_616 rfl ?_
  refine g_iconst (v := 1) dL_law_618 (by decide) ?_
  refine g_iadd dL_law_619 ?_
  refine g_sld dL_law_620 i0 ?_
  refine g_aload_n dL_law_621 rfl ?_
  refine g_iload dL_law_622 rfl ?_
  refine g_iconst (v := 2) dL_law_624 (by decide) ?_
  refine g_iadd dL_law_625 ?_
  refine g_sld dL_law_626 i1 ?_
  refine Gd.z ?_
  exact g_callV (k := 11) [.int (xsc X ((x4 + 1 : Int32).toNatClampNeg)), .int (xsc X ((x4 + 2 : Int32).toNatClampNeg))] dL_law_627 mfX11_judge ⟨by decide, by decide⟩ kw_1541 kw_1542 kw_1543 rfl (by decide) (Nat.le_of_ble_eq_true rfl) (by intro x hx; cases hx) (LX11.o (h := h) F2) (Nat.le_of_ble_eq_true rfl) hN (fun _ _ q => q.elim) (oI_go (G := fun a b => Gd X mL_law 630 _ a b nc ns P) (fun r t q => Gd.wk (g r t q) ⟨rfl, ⟨rfl, ⟨rfl, ⟨rfl, ⟨rfl, trivial⟩⟩⟩⟩⟩))
theorem bkL_law_630 {X : GX} {h : SH} {nc ns : Nat} {P : Out → SH → Prop} {a1 : Nat} {a2 : Nat} {a3 : Nat} {x4 : Int32} {xs0 : Int32} {xs1 : Int32} (kt : xs0 = xs1 → Gd X mL_law 814 [some (.ref 0), some (.ref a1), some (.ref a2), some (.ref a3), some (.int x4), none, none] [] (h) nc ns P) (kf : ¬ xs0 = xs1 → Gd X mL_law 633 [none, none, none, none, none, none, none] [] (h) nc ns P) : Gd X mL_law 630 [some (.ref 0), some (.ref a1), some (.ref a2), some (.ref a3), some (.int x4), none, none] [.int xs1, .int xs0] h nc ns P := by
  exact g_icmp_eq (tgt := 814) dL_law_630 (by decide) (fun q => Gd.wk (kt q) ⟨rfl, ⟨rfl, ⟨rfl, ⟨rfl, ⟨rfl, trivial⟩⟩⟩⟩⟩) (fun q => Gd.wk (kf q) trivial)
theorem bkL_law_633 {X : GX} {h : SH} {nc ns : Nat} {P : Out → SH → Prop} (hp : P (.inl (some (.int (0)))) (h)) : Gd X mL_law 633 [none, none, none, none, none, none, none] [] h nc ns P := by
  refine g_iconst (v := 0) dL_law_633 (by decide) ?_
  exact g_ireturn (st := []) dL_law_634 rfl (bl_n (by decide)) hp
theorem bkL_law_635 {X : GX} {h : SH} {nc ns : Nat} {P : Out → SH → Prop} {Q : Int32 → SH → Prop} {a1 : Nat} {a2 : Nat} {a3 : Nat} {x4 : Int32} (i0 : vp_in (x4 + 1) (xL X)) (i1 : vp_in (x4 + 2) (xL X)) (i2 : vp_in (x4 + 3) (xL X)) (i3 : vp_in (x4 + 4) (xL X)) (F4 : LX10 (Sk h) (a1)) (hN : Cd X mX10_changed [.ref a1, .int (xsc X ((x4 + 1 : Int32).toNatClampNeg)), .int (xsc X ((x4 + 2 : Int32).toNatClampNeg)), .int (xsc X ((x4 + 3 : Int32).toNatClampNeg)), .int (xsc X ((x4 + 4 : Int32).toNatClampNeg))] (h) 0 0 (oI Q nX)) (g : ∀ r t, Q r t → Gd X mL_law 663 [some (.ref 0), some (.ref a1), some (.ref a2), some (.ref a3), some (.int x4), none, none] [.int r] (t) nc ns P) : Gd X mL_law 635 [some (.ref 0), some (.ref a1), some (.ref a2), some (.ref a3), some (.int x4), none, none] [] h nc ns P := by
  refine g_aload_n dL_law_635 rfl ?_
  refine g_aload_n dL_law_636 rfl ?_
  refine g_iload dL_law_637 rfl ?_
  refine g_iconst (v := 1) dL_law_639 (by decide) ?_
  refine g_iadd dL_law_640 ?_
  refine g_sld dL_law_641 i0 ?_
  refine g_aload_n dL_law_642 rfl ?_
  refine g_iload dL_law_643 rfl ?_
  refine g_iconst (v := 2) dL_law_645 (by decide) ?_
  refine g_iadd dL_law_646 ?_
  refine g_sld dL_law_647 i1 ?_
  refine g_aload_n dL_law_648 rfl ?_
  refine g_iload dL_law_649 rfl ?_
  refine g_iconst (v := 3) dL_law_651 (by decide) ?_
  refine g_iadd dL_law_652 ?_
  refine g_sld dL_law_653 i2 ?_
  refine g_aload_n dL_law_654 rfl ?_
  refine g_iload dL_law_655 rfl ?_
  refine g_iconst (v := 4) dL_law_657 (by decide) ?_
  refine g_iadd dL_law_658 ?_
  refine g_sld dL_law_659 i3 ?_
  refine Gd.z ?_
  exact g_callV (k := 10) [.int (xsc X ((x4 + 1 : Int32).toNatClampNeg)), .int (xsc X ((x4 + 2 : Int32).toNatClampNeg)), .int (xsc X ((x4 + 3 : Int32).toNatClampNeg)), .int (xsc X ((x4 + 4 : Int32).toNatClampNeg))] dL_law_660 mfX10_changed ⟨by decide, by decide⟩ kw_1045 kw_1046 kw_1047 rfl (by decide) (Nat.le_of_ble_eq_true rfl) (by intro x hx; cases hx) (LX10.o (h := h) F4) (Nat.le_of_ble_eq_true rfl) hN (fun _ _ q => q.elim) (oI_go (G := fun a b => Gd X mL_law 663 _ a b nc ns P) (fun r t q => Gd.wk (g r t q) ⟨rfl, ⟨rfl, ⟨rfl, ⟨rfl, ⟨rfl, trivial⟩⟩⟩⟩⟩))
theorem bkL_law_663 {X : GX} {h : SH} {nc ns : Nat} {P : Out → SH → Prop} {Q : Int32 → SH → Prop} {a1 : Nat} {a2 : Nat} {a3 : Nat} {x4 : Int32} {xs0 : Int32} (i0 : vp_in (x4 + 1) (xL X)) (i1 : vp_in (x4 + 2) (xL X)) (i2 : vp_in (x4 + 3) (xL X)) (i3 : vp_in (x4 + 4) (xL X)) (F4 : LX11 (Sk h) (a2)) (hN : Cd X mX11_changed [.ref a2, .int (xsc X ((x4 + 1 : Int32).toNatClampNeg)), .int (xsc X ((x4 + 2 : Int32).toNatClampNeg)), .int (xsc X ((x4 + 3 : Int32).toNatClampNeg)), .int (xsc X ((x4 + 4 : Int32).toNatClampNeg))] (h) 0 0 (oI Q nX)) (g : ∀ r t, Q r t → Gd X mL_law 691 [some (.ref 0), some (.ref a1), some (.ref a2), some (.ref a3), some (.int x4), none, none] [.int r, .int xs0] (t) nc ns P) : Gd X mL_law 663 [some (.ref 0), some (.ref a1), some (.ref a2), some (.ref a3), some (.int x4), none, none] [.int xs0] h nc ns P := by
  refine g_aload_n dL_law_663 rfl ?_
  refine g_aload_n dL_law_664 rfl ?_
  refine g_iload dL_law_665 rfl ?_
  refine g_iconst (v := 1) dL_law_667 (by decide) ?_
  refine g_iadd dL_law_668 ?_
  refine g_sld dL_law_669 i0 ?_
  refine g_aload_n dL_law_670 rfl ?_
  refine g_iload dL_law_671 rfl ?_
  refine g_iconst (v := 2) dL_law_673 (by decide) ?_
  refine g_iadd dL_law_674 ?_
  refine g_sld dL_law_675 i1 ?_
  refine g_aload_n dL_law_676 rfl ?_
  refine g_iload dL_law_677 rfl ?_
  refine g_iconst (v := 3) dL_law_679 (by decide) ?_
  refine g_iadd dL_law_680 ?_
  refine g_sld dL_law_681 i2 ?_
  refine g_aload_n dL_law_682 rfl ?_
  refine g_iload dL_law_683 rfl ?_
  refine g_iconst (v := 4) dL_law_685 (by decide) ?_
  refine g_iadd dL_law_686 ?_
  refine g_sld dL_law_687 i3 ?_
  refine Gd.z ?_
  exact g_callV (k := 11) [.int (xsc X ((x4 + 1 : Int32).toNatClampNeg)), .int (xsc X ((x4 + 2 : Int32).toNatClampNeg)), .int (xsc X ((x4 + 3 : Int32).toNatClampNeg)), .int (xsc X ((x4 + 4 : Int32).toNatClampNeg))] dL_law_688 mfX11_changed ⟨by decide, by decide⟩ kw_1549 kw_1550 kw_1551 rfl (by decide) (Nat.le_of_ble_eq_true rfl) (by intro x hx; cases hx) (LX11.o (h := h) F4) (Nat.le_of_ble_eq_true rfl) hN (fun _ _ q => q.elim) (oI_go (G := fun a b => Gd X mL_law 691 _ a b nc ns P) (fun r t q => Gd.wk (g r t q) ⟨rfl, ⟨rfl, ⟨rfl, ⟨rfl, ⟨rfl, trivial⟩⟩⟩⟩⟩))
theorem bkL_law_691 {X : GX} {h : SH} {nc ns : Nat} {P : Out → SH → Prop} {a1 : Nat} {a2 : Nat} {a3 : Nat} {x4 : Int32} {xs0 : Int32} {xs1 : Int32} (kt : xs0 = xs1 → Gd X mL_law 814 [some (.ref 0), some (.ref a1), some (.ref a2), some (.ref a3), some (.int x4), none, none] [] (h) nc ns P) (kf : ¬ xs0 = xs1 → Gd X mL_law 694 [none, none, none, none, none, none, none] [] (h) nc ns P) : Gd X mL_law 691 [some (.ref 0), some (.ref a1), some (.ref a2), some (.ref a3), some (.int x4), none, none] [.int xs1, .int xs0] h nc ns P := by
  exact g_icmp_eq (tgt := 814) dL_law_691 (by decide) (fun q => Gd.wk (kt q) ⟨rfl, ⟨rfl, ⟨rfl, ⟨rfl, ⟨rfl, trivial⟩⟩⟩⟩⟩) (fun q => Gd.wk (kf q) trivial)
theorem bkL_law_694 {X : GX} {h : SH} {nc ns : Nat} {P : Out → SH → Prop} (hp : P (.inl (some (.int (0)))) (h)) : Gd X mL_law 694 [none, none, none, none, none, none, none] [] h nc ns P := by
  refine g_iconst (v := 0) dL_law_694 (by decide) ?_
  exact g_ireturn (st := []) dL_law_695 rfl (bl_n (by decide)) hp
theorem bkL_law_696 {X : GX} {h : SH} {nc ns : Nat} {P : Out → SH → Prop} {Q : Int32 → SH → Prop} {a1 : Nat} {a2 : Nat} {a3 : Nat} {x4 : Int32} (i0 : vp_in (x4 + 1) (xL X)) (F1 : LX10 (Sk h) (a1)) (hN : Cd X mX10_look [.ref a1, .int (xsc X ((x4 + 1 : Int32).toNatClampNeg))] (h) 0 0 (oI Q nX)) (g : ∀ r t, Q r t → Gd X mL_law 706 [some (.ref 0), some (.ref a1), some (.ref a2), some (.ref a3), some (.int x4), none, none] [.int r] (t) nc ns P) : Gd X mL_law 696 [some (.ref 0), some (.ref a1), some (.ref a2), some (.ref a3), some (.int x4), none, none] [] h nc ns P := by
  refine g_aload_n dL_law_696 rfl ?_
  refine g_aload_n dL_law_697 rfl ?_
  refine g_iload dL_law_698 rfl ?_
  refine g_iconst (v := 1) dL_law_700 (by decide) ?_
  refine g_iadd dL_law_701 ?_
  refine g_sld dL_law_702 i0 ?_
  refine Gd.z ?_
  exact g_callV (k := 10) [.int (xsc X ((x4 + 1 : Int32).toNatClampNeg))] dL_law_703 mfX10_look ⟨by decide, by decide⟩ kw_1062 kw_1063 kw_1064 rfl (by decide) (Nat.le_of_ble_eq_true rfl) (by intro x hx; cases hx) (LX10.o (h := h) F1) (Nat.le_of_ble_eq_true rfl) hN (fun _ _ q => q.elim) (oI_go (G := fun a b => Gd X mL_law 706 _ a b nc ns P) (fun r t q => Gd.wk (g r t q) ⟨rfl, ⟨rfl, ⟨rfl, ⟨rfl, ⟨rfl, trivial⟩⟩⟩⟩⟩))
theorem bkL_law_706 {X : GX} {h : SH} {nc ns : Nat} {P : Out → SH → Prop} {Q : Int32 → SH → Prop} {a1 : Nat} {a2 : Nat} {a3 : Nat} {x4 : Int32} {xs0 : Int32} (i0 : vp_in (x4 + 1) (xL X)) (F1 : LX11 (Sk h) (a2)) (hN : Cd X mX11_look [.ref a2, .int (xsc X ((x4 + 1 : Int32).toNatClampNeg))] (h) 0 0 (oI Q nX)) (g : ∀ r t, Q r t → Gd X mL_law 716 [some (.ref 0), some (.ref a1), some (.ref a2), some (.ref a3), some (.int x4), none, none] [.int r, .int xs0] (t) nc ns P) : Gd X mL_law 706 [some (.ref 0), some (.ref a1), some (.ref a2), some (.ref a3), some (.int x4), none, none] [.int xs0] h nc ns P := by
  refine g_aload_n dL_law_706 rfl ?_
  refine g_aload_n dL_law_707 rfl ?_
  refine g_iload dL_law_708 rfl ?_
  refine g_iconst (v := 1) dL_law_710 (by decide) ?_
  refine g_iadd dL_law_711 ?_
  refine g_sld dL_law_712 i0 ?_
  refine Gd.z ?_
  exact g_callV (k := 11) [.int (xsc X ((x4 + 1 : Int32).toNatClampNeg))] dL_law_713 mfX11_look ⟨by decide, by decide⟩ kw_1561 kw_1562 kw_1563 rfl (by decide) (Nat.le_of_ble_eq_true rfl) (by intro x hx; cases hx) (LX11.o (h := h) F1) (Nat.le_of_ble_eq_true rfl) hN (fun _ _ q => q.elim) (oI_go (G := fun a b => Gd X mL_law 716 _ a b nc ns P) (fun r t q => Gd.wk (g r t q) ⟨rfl, ⟨rfl, ⟨rfl, ⟨rfl, ⟨rfl, trivial⟩⟩⟩⟩⟩))
theorem bkL_law_716 {X : GX} {h : SH} {nc ns : Nat} {P : Out → SH → Prop} {a1 : Nat} {a2 : Nat} {a3 : Nat} {x4 : Int32} {xs0 : Int32} {xs1 : Int32} (kt : xs0 = xs1 → Gd X mL_law 814 [some (.ref 0), some (.ref a1), some (.ref a2), some (.ref a3), some (.int x4), none, none] [] (h) nc ns P) (kf : ¬ xs0 = xs1 → Gd X mL_law 719 [none, none, none, none, none, none, none] [] (h) nc ns P) : Gd X mL_law 716 [some (.ref 0), some (.ref a1), some (.ref a2), some (.ref a3), some (.int x4), none, none] [.int xs1, .int xs0] h nc ns P := by
  exact g_icmp_eq (tgt := 814) dL_law_716 (by decide) (fun q => Gd.wk (kt q) ⟨rfl, ⟨rfl, ⟨rfl, ⟨rfl, ⟨rfl, trivial⟩⟩⟩⟩⟩) (fun q => Gd.wk (kf q) trivial)
theorem bkL_law_719 {X : GX} {h : SH} {nc ns : Nat} {P : Out → SH → Prop} (hp : P (.inl (some (.int (0)))) (h)) : Gd X mL_law 719 [none, none, none, none, none, none, none] [] h nc ns P := by
  refine g_iconst (v := 0) dL_law_719 (by decide) ?_
  exact g_ireturn (st := []) dL_law_720 rfl (bl_n (by decide)) hp
theorem bkL_law_738 {X : GX} {h : SH} {nc ns : Nat} {P : Out → SH → Prop} {Q : Int32 → SH → Prop} {a1 : Nat} {a2 : Nat} {a3 : Nat} {x4 : Int32} {xs0 : Int32} (i0 : vp_in (x4 + 1) (xL X)) (i1 : vp_in (x4 + 2) (xL X)) (F2 : LX11 (Sk h) (a2)) (hN : Cd X mX11_told [.ref a2, .int (xsc X ((x4 + 1 : Int32).toNatClampNeg)), .int (xsc X ((x4 + 2 : Int32).toNatClampNeg))] (h) 0 0 (oI Q nX)) (g : ∀ r t, Q r t → Gd X mL_law 756 [some (.ref 0), some (.ref a1), some (.ref a2), some (.ref a3), some (.int x4), some (.int xs0), none] [.int r] (t) nc ns P) : Gd X mL_law 738 [some (.ref 0), some (.ref a1), some (.ref a2), some (.ref a3), some (.int x4), none, none] [.int xs0] h nc ns P := by
  refine g_istore (L' := [some (.ref 0), some (.ref a1), some (.ref a2), some (.ref a3), some (.int x4), some (.int xs0), none]) dL_law_738 (by decide) rfl ?_
  refine g_aload_n dL_law_740 rfl ?_
  refine g_aload_n dL_law_741 rfl ?_
  refine g_iload dL_law_742 rfl ?_
  refine g_iconst (v := 1) dL_law_744 (by decide) ?_
  refine g_iadd dL_law_745 ?_
  refine g_sld dL_law_746 i0 ?_
  refine g_aload_n dL_law_747 rfl ?_
  refine g_iload dL_law_748 rfl ?_
  refine g_iconst (v := 2) dL_law_750 (by decide) ?_
  refine g_iadd dL_law_751 ?_
  refine g_sld dL_law_752 i1 ?_
  refine Gd.z ?_
  exact g_callV (k := 11) [.int (xsc X ((x4 + 1 : Int32).toNatClampNeg)), .int (xsc X ((x4 + 2 : Int32).toNatClampNeg))] dL_law_753 mfX11_told ⟨by decide, by decide⟩ kw_1569 kw_1570 kw_1571 rfl (by decide) (Nat.le_of_ble_eq_true rfl) (by intro x hx; cases hx) (LX11.o (h := h) F2) (Nat.le_of_ble_eq_true rfl) hN (fun _ _ q => q.elim) (oI_go (G := fun a b => Gd X mL_law 756 _ a b nc ns P) (fun r t q => Gd.wk (g r t q) ⟨rfl, ⟨rfl, ⟨rfl, ⟨rfl, ⟨rfl, ⟨rfl, trivial⟩⟩⟩⟩⟩⟩))
theorem bkL_law_756 {X : GX} {h : SH} {nc ns : Nat} {P : Out → SH → Prop} {Q : Int32 → SH → Prop} {a1 : Nat} {a2 : Nat} {a3 : Nat} {x4 : Int32} {x5 : Int32} {xs0 : Int32} (F0 : LX11 (Sk h) (a2)) (hN : Cd X mX11_thrown [.ref a2] (h) 0 0 (oI Q nX)) (g : ∀ r t, Q r t → Gd X mL_law 762 [some (.ref 0), some (.ref a1), some (.ref a2), some (.ref a3), some (.int x4), some (.int x5), some (.int xs0)] [.int r] (t) nc ns P) : Gd X mL_law 756 [some (.ref 0), some (.ref a1), some (.ref a2), some (.ref a3), some (.int x4), some (.int x5), none] [.int xs0] h nc ns P := by
  refine g_istore (L' := [some (.ref 0), some (.ref a1), some (.ref a2), some (.ref a3), some (.int x4), some (.int x5), some (.int xs0)]) dL_law_756 (by decide) rfl ?_
  refine g_aload_n dL_law_758 rfl ?_
  refine Gd.z ?_
  exact g_callV (k := 11) [] dL_law_759 mfX11_thrown ⟨by decide, by decide⟩ kw_1098 kw_1099 kw_1100 rfl (by decide) (Nat.le_of_ble_eq_true rfl) (by intro x hx; cases hx) (LX11.o (h := h) F0) (Nat.le_of_ble_eq_true rfl) hN (fun _ _ q => q.elim) (oI_go (G := fun a b => Gd X mL_law 762 _ a b nc ns P) (fun r t q => Gd.wk (g r t q) ⟨rfl, ⟨rfl, ⟨rfl, ⟨rfl, ⟨rfl, ⟨rfl, ⟨rfl, trivial⟩⟩⟩⟩⟩⟩⟩))
theorem bkL_law_762 {X : GX} {h : SH} {nc ns : Nat} {P : Out → SH → Prop} {a1 : Nat} {a2 : Nat} {a3 : Nat} {x4 : Int32} {x5 : Int32} {x6 : Int32} {xs0 : Int32} (kt : xs0 = x5 → Gd X mL_law 769 [some (.ref 0), some (.ref a1), some (.ref a2), some (.ref a3), some (.int x4), some (.int x5), some (.int x6)] [] (h) nc ns P) (kf : ¬ xs0 = x5 → Gd X mL_law 767 [none, none, none, none, none, none, none] [] (h) nc ns P) : Gd X mL_law 762 [some (.ref 0), some (.ref a1), some (.ref a2), some (.ref a3), some (.int x4), some (.int x5), some (.int x6)] [.int xs0] h nc ns P := by
  refine g_iload dL_law_762 rfl ?_
  exact g_icmp_eq (tgt := 769) dL_law_764 (by decide) (fun q => Gd.wk (kt q) ⟨rfl, ⟨rfl, ⟨rfl, ⟨rfl, ⟨rfl, ⟨rfl, ⟨rfl, trivial⟩⟩⟩⟩⟩⟩⟩) (fun q => Gd.wk (kf q) trivial)
theorem bkL_law_767 {X : GX} {h : SH} {nc ns : Nat} {P : Out → SH → Prop} (hp : P (.inl (some (.int (0)))) (h)) : Gd X mL_law 767 [none, none, none, none, none, none, none] [] h nc ns P := by
  refine g_iconst (v := 0) dL_law_767 (by decide) ?_
  exact g_ireturn (st := []) dL_law_768 rfl (bl_n (by decide)) hp
theorem bkL_law_769 {X : GX} {h : SH} {nc ns : Nat} {P : Out → SH → Prop} {a1 : Nat} {a2 : Nat} {a3 : Nat} {x4 : Int32} {x5 : Int32} {x6 : Int32} (kt : ¬ x5 = 0 → Gd X mL_law 786 [some (.ref 0), some (.ref a1), some (.ref a2), some (.ref a3), some (.int x4), none, none] [] (h) nc ns P) (kf : x5 = 0 → Gd X mL_law 774 [some (.ref 0), some (.ref a1), some (.ref a2), some (.ref a3), some (.int x4), none, some (.int x6)] [] (h) nc ns P) : Gd X mL_law 769 [some (.ref 0), some (.ref a1), some (.ref a2), some (.ref a3), some (.int x4), some (.int x5), some (.int x6)] [] h nc ns P := by
  refine g_iload dL_law_769 rfl ?_
  exact g_if_ne (tgt := 786) dL_law_771 (by decide) (fun q => Gd.wk (kt q) ⟨rfl, ⟨rfl, ⟨rfl, ⟨rfl, ⟨rfl, trivial⟩⟩⟩⟩⟩) (fun q => Gd.wk (kf q) ⟨rfl, ⟨rfl, ⟨rfl, ⟨rfl, ⟨rfl, ⟨rfl, trivial⟩⟩⟩⟩⟩⟩)
theorem bkL_law_774 {X : GX} {h : SH} {nc ns : Nat} {P : Out → SH → Prop} {a1 : Nat} {a2 : Nat} {a3 : Nat} {x4 : Int32} {x6 : Int32} {n5 : Nat} (B0 : Ar h (a3) 23 n5) (i1 : vp_in (0) n5) (kt : (lg_cmp (hJ h a3 ((0 : Int32).toNatClampNeg)) ((x6 : Int32).toInt64)) = 0 → Gd X mL_law 786 [some (.ref 0), some (.ref a1), some (.ref a2), some (.ref a3), some (.int x4), none, none] [] (h) nc ns P) (kf : ¬ (lg_cmp (hJ h a3 ((0 : Int32).toNatClampNeg)) ((x6 : Int32).toInt64)) = 0 → Gd X mL_law 784 [none, none, none, none, none, none, none] [] (h) nc ns P) : Gd X mL_law 774 [some (.ref 0), some (.ref a1), some (.ref a2), some (.ref a3), some (.int x4), none, some (.int x6)] [] h nc ns P := by
  refine g_aload_n dL_law_774 rfl ?_
  refine g_iconst (v := 0) dL_law_775 (by decide) ?_
  refine g_laload dL_law_776 B0 i1 ?_
  refine g_iload dL_law_777 rfl ?_
  refine g_i2l dL_law_779 ?_
  refine g_lcmp dL_law_780 ?_
  exact g_if_eq (tgt := 786) dL_law_781 (by decide) (fun q => Gd.wk (kt q) ⟨rfl, ⟨rfl, ⟨rfl, ⟨rfl, ⟨rfl, trivial⟩⟩⟩⟩⟩) (fun q => Gd.wk (kf q) trivial)
theorem bkL_law_784 {X : GX} {h : SH} {nc ns : Nat} {P : Out → SH → Prop} (hp : P (.inl (some (.int (0)))) (h)) : Gd X mL_law 784 [none, none, none, none, none, none, none] [] h nc ns P := by
  refine g_iconst (v := 0) dL_law_784 (by decide) ?_
  exact g_ireturn (st := []) dL_law_785 rfl (bl_n (by decide)) hp
theorem bkL_law_786 {X : GX} {h : SH} {nc ns : Nat} {P : Out → SH → Prop} {a1 : Nat} {a2 : Nat} {a3 : Nat} {x4 : Int32} (g : Gd X mL_law 814 [some (.ref 0), some (.ref a1), some (.ref a2), some (.ref a3), some (.int x4), none, none] [] (h) nc ns P) : Gd X mL_law 786 [some (.ref 0), some (.ref a1), some (.ref a2), some (.ref a3), some (.int x4), none, none] [] h nc ns P := by
  refine g_goto (tgt := 814) dL_law_786 (by decide) ?_
  exact Gd.wk g ⟨rfl, ⟨rfl, ⟨rfl, ⟨rfl, ⟨rfl, trivial⟩⟩⟩⟩⟩
theorem bkL_law_789 {X : GX} {h : SH} {nc ns : Nat} {P : Out → SH → Prop} {Q : Int32 → SH → Prop} {a1 : Nat} {a2 : Nat} {a3 : Nat} {x4 : Int32} (i0 : vp_in (x4 + 1) (xL X)) (F1 : LX10 (Sk h) (a1)) (hN : Cd X mX10_count [.ref a1, .int (xsc X ((x4 + 1 : Int32).toNatClampNeg))] (h) 0 0 (oI Q nX)) (g : ∀ r t, Q r t → Gd X mL_law 799 [some (.ref 0), some (.ref a1), some (.ref a2), some (.ref a3), some (.int x4), none, none] [.int r] (t) nc ns P) : Gd X mL_law 789 [some (.ref 0), some (.ref a1), some (.ref a2), some (.ref a3), some (.int x4), none, none] [] h nc ns P := by
  refine g_aload_n dL_law_789 rfl ?_
  refine g_aload_n dL_law_790 rfl ?_
  refine g_iload dL_law_791 rfl ?_
  refine g_iconst (v := 1) dL_law_793 (by decide) ?_
  refine g_iadd dL_law_794 ?_
  refine g_sld dL_law_795 i0 ?_
  refine Gd.z ?_
  exact g_callV (k := 10) [.int (xsc X ((x4 + 1 : Int32).toNatClampNeg))] dL_law_796 mfX10_count ⟨by decide, by decide⟩ kw_1070 kw_1071 kw_1072 rfl (by decide) (Nat.le_of_ble_eq_true rfl) (by intro x hx; cases hx) (LX10.o (h := h) F1) (Nat.le_of_ble_eq_true rfl) hN (fun _ _ q => q.elim) (oI_go (G := fun a b => Gd X mL_law 799 _ a b nc ns P) (fun r t q => Gd.wk (g r t q) ⟨rfl, ⟨rfl, ⟨rfl, ⟨rfl, ⟨rfl, trivial⟩⟩⟩⟩⟩))
theorem bkL_law_799 {X : GX} {h : SH} {nc ns : Nat} {P : Out → SH → Prop} {Q : Int32 → SH → Prop} {a1 : Nat} {a2 : Nat} {a3 : Nat} {x4 : Int32} {xs0 : Int32} (i0 : vp_in (x4 + 1) (xL X)) (F1 : LX11 (Sk h) (a2)) (hN : Cd X mX11_count [.ref a2, .int (xsc X ((x4 + 1 : Int32).toNatClampNeg))] (h) 0 0 (oI Q nX)) (g : ∀ r t, Q r t → Gd X mL_law 809 [some (.ref 0), some (.ref a1), some (.ref a2), some (.ref a3), some (.int x4), none, none] [.int r, .int xs0] (t) nc ns P) : Gd X mL_law 799 [some (.ref 0), some (.ref a1), some (.ref a2), some (.ref a3), some (.int x4), none, none] [.int xs0] h nc ns P := by
  refine g_aload_n dL_law_799 rfl ?_
  refine g_aload_n dL_law_800 rfl ?_
  refine g_iload dL_law_801 rfl ?_
  refine g_iconst (v := 1) dL_law_803 (by decide) ?_
  refine g_iadd dL_law_804 ?_
  refine g_sld dL_law_805 i0 ?_
  refine Gd.z ?_
  exact g_callV (k := 11) [.int (xsc X ((x4 + 1 : Int32).toNatClampNeg))] dL_law_806 mfX11_count ⟨by decide, by decide⟩ kw_1573 kw_1574 kw_1575 rfl (by decide) (Nat.le_of_ble_eq_true rfl) (by intro x hx; cases hx) (LX11.o (h := h) F1) (Nat.le_of_ble_eq_true rfl) hN (fun _ _ q => q.elim) (oI_go (G := fun a b => Gd X mL_law 809 _ a b nc ns P) (fun r t q => Gd.wk (g r t q) ⟨rfl, ⟨rfl, ⟨rfl, ⟨rfl, ⟨rfl, trivial⟩⟩⟩⟩⟩))
theorem bkL_law_809 {X : GX} {h : SH} {nc ns : Nat} {P : Out → SH → Prop} {a1 : Nat} {a2 : Nat} {a3 : Nat} {x4 : Int32} {xs0 : Int32} {xs1 : Int32} (kt : xs0 = xs1 → Gd X mL_law 814 [some (.ref 0), some (.ref a1), some (.ref a2), some (.ref a3), some (.int x4), none, none] [] (h) nc ns P) (kf : ¬ xs0 = xs1 → Gd X mL_law 812 [none, none, none, none, none, none, none] [] (h) nc ns P) : Gd X mL_law 809 [some (.ref 0), some (.ref a1), some (.ref a2), some (.ref a3), some (.int x4), none, none] [.int xs1, .int xs0] h nc ns P := by
  exact g_icmp_eq (tgt := 814) dL_law_809 (by decide) (fun q => Gd.wk (kt q) ⟨rfl, ⟨rfl, ⟨rfl, ⟨rfl, ⟨rfl, trivial⟩⟩⟩⟩⟩) (fun q => Gd.wk (kf q) trivial)
theorem bkL_law_812 {X : GX} {h : SH} {nc ns : Nat} {P : Out → SH → Prop} (hp : P (.inl (some (.int (0)))) (h)) : Gd X mL_law 812 [none, none, none, none, none, none, none] [] h nc ns P := by
  refine g_iconst (v := 0) dL_law_812 (by decide) ?_
  exact g_ireturn (st := []) dL_law_813 rfl (bl_n (by decide)) hp
theorem bkL_law_814 {X : GX} {h : SH} {nc ns : Nat} {P : Out → SH → Prop} {a1 : Nat} {a2 : Nat} {a3 : Nat} {x4 : Int32} (g : Gd X mL_law 23 [some (.ref 0), some (.ref a1), some (.ref a2), some (.ref a3), some (.int (x4 + 7)), none, none] [] (h) nc ns P) : Gd X mL_law 814 [some (.ref 0), some (.ref a1), some (.ref a2), some (.ref a3), some (.int x4), none, none] [] h nc ns P := by
  refine g_iinc (v := x4 + 7) (L' := [some (.ref 0), some (.ref a1), some (.ref a2), some (.ref a3), some (.int (x4 + 7)), none, none]) dL_law_814 rfl rfl (by decide) rfl ?_
  refine g_goto (tgt := 23) dL_law_817 (by decide) ?_
  exact Gd.wk g ⟨rfl, ⟨rfl, ⟨rfl, ⟨rfl, ⟨rfl, trivial⟩⟩⟩⟩⟩
theorem bkL_law_820 {X : GX} {h : SH} {nc ns : Nat} {P : Out → SH → Prop} (hp : P (.inl (some (.int (1)))) (h)) : Gd X mL_law 820 [none, none, none, none, none, none, none] [] h nc ns P := by
  refine g_iconst (v := 1) dL_law_820 (by decide) ?_
  exact g_ireturn (st := []) dL_law_821 rfl (bl_n (by decide)) hp
theorem bkL_law_3 {X : GX} {h : SH} {nc ns : Nat} {P : Out → SH → Prop} {n1 s1 : Nat} {Q : SH → Prop} {as0 : Nat} (hN : Cd X mX10_init [.ref as0] (h) n1 s1 (oV Q nX)) (g : ∀ t, Q t → Gd X mL_law 7 [some (.ref 0), none, none, none, none, none, none] [.ref as0] (t) nc ns P) : Gd X mL_law 3 [some (.ref 0), none, none, none, none, none, none] [.ref as0] h (n1 + nc) (s1 + ns) P := by
  refine g_dup dL_law_3 rfl ?_
  exact g_callI [] dL_law_4 mfX10_init rfl rfl ⟨by decide, by decide⟩ kw_120 kw_121 rfl (Nat.le_of_ble_eq_true rfl) (by intro x hx; cases hx) (Nat.le_of_ble_eq_true rfl) hN (fun _ _ q => q) (oV_go (G := fun a b => Gd X mL_law 7 _ a b nc ns P) (fun t q => Gd.wk (g t q) ⟨rfl, trivial⟩))
theorem bkL_law_11 {X : GX} {h : SH} {nc ns : Nat} {P : Out → SH → Prop} {n1 s1 : Nat} {Q : SH → Prop} {a1 : Nat} {as0 : Nat} (hN : Cd X mX11_init [.ref as0] (h) n1 s1 (oV Q nX)) (g : ∀ t, Q t → Gd X mL_law 15 [some (.ref 0), some (.ref a1), none, none, none, none, none] [.ref as0] (t) nc ns P) : Gd X mL_law 11 [some (.ref 0), some (.ref a1), none, none, none, none, none] [.ref as0] h (n1 + nc) (s1 + ns) P := by
  refine g_dup dL_law_11 rfl ?_
  exact g_callI [] dL_law_12 mfX11_init rfl rfl ⟨by decide, by decide⟩ kw_1112 kw_1113 rfl (Nat.le_of_ble_eq_true rfl) (by intro x hx; cases hx) (Nat.le_of_ble_eq_true rfl) hN (fun _ _ q => q) (oV_go (G := fun a b => Gd X mL_law 15 _ a b nc ns P) (fun t q => Gd.wk (g t q) ⟨rfl, ⟨rfl, trivial⟩⟩))
theorem bkL_law_19 {X : GX} {h : SH} {nc ns : Nat} {P : Out → SH → Prop} {a1 : Nat} {a2 : Nat} {as0 : Nat} (g : Gd X mL_law 23 [some (.ref 0), some (.ref a1), some (.ref a2), some (.ref as0), some (.int 0), none, none] [] (h) nc ns P) : Gd X mL_law 19 [some (.ref 0), some (.ref a1), some (.ref a2), none, none, none, none] [.ref as0] h nc ns P := by
  refine g_astore_n (r := (some (as0))) (L' := [some (.ref 0), some (.ref a1), some (.ref a2), some (.ref as0), none, none, none]) dL_law_19 (by decide) rfl ?_
  refine g_iconst (v := 0) dL_law_20 (by decide) ?_
  refine g_istore (L' := [some (.ref 0), some (.ref a1), some (.ref a2), some (.ref as0), some (.int 0), none, none]) dL_law_21 (by decide) rfl ?_
  exact Gd.wk g ⟨rfl, ⟨rfl, ⟨rfl, ⟨rfl, ⟨rfl, trivial⟩⟩⟩⟩⟩
