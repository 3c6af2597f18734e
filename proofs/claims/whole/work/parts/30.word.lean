/-! ===== printed words ===== -/
def eb (b : Nat) (w : List Nat) : Nat := w.foldl (fun v l => v * b + l) 0
theorem eb_fold {b : Nat} : ∀ (v : List Nat) (x : Nat), v.foldl (fun v l => v * b + l) x = x * b ^ v.length + eb b v
  | [], x => by simp [eb]
  | l :: v, x => by
    have h1 := eb_fold (b := b) v (x * b + l)
    have h2 := eb_fold (b := b) v (0 * b + l)
    show v.foldl (fun v l => v * b + l) (x * b + l) = x * b ^ (v.length + 1) + v.foldl (fun v l => v * b + l) (0 * b + l)
    rw [h1, h2, Nat.pow_succ, Nat.add_mul, Nat.add_mul, Nat.zero_mul, Nat.zero_mul, Nat.zero_add, Nat.mul_assoc, Nat.mul_comm b, Nat.add_assoc]
theorem eb_app {b : Nat} (u v : List Nat) : eb b (u ++ v) = eb b u * b ^ v.length + eb b v := by
  unfold eb; rw [List.foldl_append]; exact eb_fold v _
theorem eb_lt {b : Nat} (hb : 0 < b) : ∀ (w : List Nat), (∀ l ∈ w, l < b) → eb b w < b ^ w.length := by
  intro w
  generalize hn : w.length = n
  induction n generalizing w with
  | zero => intro _; have : w = [] := List.eq_nil_of_length_eq_zero hn
            subst this; simp [eb]
  | succ n ih =>
    intro hw
    have hne : w ≠ [] := fun z => by rw [z] at hn; simp at hn
    have e := List.dropLast_concat_getLast hne
    have hl : w.dropLast.length = n := by rw [List.length_dropLast]; omega
    have h1 := ih w.dropLast hl (fun l hl => hw l (List.dropLast_subset _ hl))
    have h2 := hw _ (List.getLast_mem hne)
    rw [← e, eb_app]
    have e3 : eb b [w.getLast hne] = w.getLast hne := by simp [eb]
    rw [e3, List.length_singleton, Nat.pow_one, Nat.pow_succ]
    have h3 : (eb b w.dropLast + 1) * b ≤ b ^ n * b := Nat.mul_le_mul_right b h1
    rw [Nat.add_mul] at h3; omega
theorem eb_div {b : Nat} (hb : 0 < b) {w : List Nat} (hw : ∀ l ∈ w, l < b) {j : Nat} (hj : j ≤ w.length) : eb b w / b ^ j = eb b (w.take (w.length - j)) := by
  have e : eb b w = eb b (w.take (w.length - j)) * b ^ j + eb b (w.drop (w.length - j)) := by
    conv => lhs; rw [← List.take_append_drop (w.length - j) w]
    rw [eb_app, List.length_drop, show w.length - (w.length - j) = j by omega]
  have h1 := eb_lt hb (w.drop (w.length - j)) (fun l hl => hw l (List.mem_of_mem_drop hl))
  rw [List.length_drop, show w.length - (w.length - j) = j by omega] at h1
  rw [e, Nat.mul_comm, Nat.mul_add_div (Nat.pow_pos hb), Nat.div_eq_of_lt h1, Nat.add_zero]
theorem eb_dig {b : Nat} (hb : 0 < b) {w : List Nat} (hw : ∀ l ∈ w, l < b) {j : Nat} (hj : j < w.length) : eb b w / b ^ j % b = w[w.length - 1 - j] := by
  rw [eb_div hb hw (Nat.le_of_lt hj)]
  have e : w.take (w.length - j) = w.take (w.length - 1 - j) ++ [w[w.length - 1 - j]] := by
    rw [show w.length - j = (w.length - 1 - j) + 1 by omega, List.take_succ_eq_append_getElem (by omega)]
  have h2 := hw _ (List.getElem_mem (show w.length - 1 - j < w.length by omega))
  rw [e, eb_app]
  have e3 : eb b [w[w.length - 1 - j]] = w[w.length - 1 - j] := by simp [eb]
  rw [e3, List.length_singleton, Nat.pow_one, Nat.mul_comm, Nat.mul_add_mod, Nat.mod_eq_of_lt h2]
theorem enc32_eb (w : List Nat) : enc32 w = lN (eb 32 w) := by
  have : ∀ (w : List Nat) (x : Nat), w.foldl (fun v l => v * 32 + lN l) (lN x) = lN (w.foldl (fun v l => v * 32 + l) x) := by
    intro w
    induction w with
    | nil => intro x; rfl
    | cons a w ih => intro x; show w.foldl _ (lN x * 32 + lN a) = lN (w.foldl _ (x * 32 + a)); rw [show (32 : Int64) = lN 32 from rfl, lN_mul, lN_add]; exact ih _
  exact this w 0
theorem enc37_eb (w : List Nat) : enc37 w = lN (eb 37 w) := by
  have : ∀ (w : List Nat) (x : Nat), w.foldl (fun v l => 37 * v + lN l) (lN x) = lN (w.foldl (fun v l => v * 37 + l) x) := by
    intro w
    induction w with
    | nil => intro x; rfl
    | cons a w ih => intro x; show w.foldl _ (37 * lN x + lN a) = lN (w.foldl _ (x * 37 + a)); rw [show (37 : Int64) = lN 37 from rfl, lN_mul, lN_add, Nat.mul_comm]; exact ih _
  exact this w 0
theorem lu_shr {E s : Nat} (hE : E < 2 ^ 63) (hs : s < 64) : ((lN E).toUInt64 >>> (UInt64.ofNat s)).toInt64 = lN (E / 2 ^ s) := by
  have h1 : (lN E).toUInt64 = UInt64.ofNat E := rfl
  have h2 : lN (E / 2 ^ s) = (UInt64.ofNat (E / 2 ^ s)).toInt64 := rfl
  rw [h1, h2]
  congr 1
  apply UInt64.toNat_inj.mp
  have h3 : E / 2 ^ s ≤ E := Nat.div_le_self _ _
  rw [UInt64.toNat_shiftRight, UInt64.toNat_ofNat_of_lt' (by show E < 18446744073709551616; omega), UInt64.toNat_ofNat_of_lt' (by show s < 18446744073709551616; omega), UInt64.toNat_ofNat_of_lt' (by show E / 2 ^ s < 18446744073709551616; omega), Nat.mod_eq_of_lt hs, Nat.shiftRight_eq_div_pow]
theorem sh5 : ∀ j : Fin 10, ((nI (5 * j.val) : Int32).toInt64.toUInt64 &&& Int64.toUInt64 63) = UInt64.ofNat (5 * j.val) := by decide
theorem and31 (q : Nat) : nI q &&& 31 = nI (q % 32) := by
  rw [pk_and (nI q) 5 rfl]
  congr 1
  show (q % 2 ^ 32) % 32 = q % 32
  omega
theorem ltr5 {E j : Nat} (hE : E < 2 ^ 63) (hj : j < 10) : ((((lN E : Int64).toUInt64 >>> ((nI (5 * j) : Int32).toInt64.toUInt64 &&& Int64.toUInt64 63)).toInt64 : Int64).toInt32) &&& 31 = nI (E / 32 ^ j % 32) := by
  rw [sh5 ⟨j, hj⟩, lu_shr hE (by show 5 * j < 64; omega), lN_i, and31, show (32 : Nat) ^ j = 2 ^ (5 * j) by rw [Nat.pow_mul]]
abbrev okW (w : List Nat) : Prop := 1 ≤ w.length ∧ w.length ≤ 10 ∧ ∀ l ∈ w, 1 ≤ l ∧ l ≤ 26
theorem eb_63 {b : Nat} (hb : b = 32 ∨ b = 37) {w : List Nat} (hw : okW w) : eb b w < 2 ^ 63 := by
  have h1 := eb_lt (b := b) (by omega) w (fun l hl => by have := hw.2.2 l hl; omega)
  have h2 : b ^ w.length ≤ b ^ 10 := Nat.pow_le_pow_right (by omega) hw.2.1
  have h3 : b ^ 10 ≤ 2 ^ 63 := by rcases hb with q | q <;> subst q <;> decide
  omega
theorem word_take {w : List Nat} {i : Nat} (hi : i < w.length) (T : List Nat) : T ++ (w.take i).map (96 + ·) ++ [96 + w[i]] = T ++ (w.take (i + 1)).map (96 + ·) := by
  rw [List.take_succ_eq_append_getElem hi, List.map_append, List.append_assoc]; rfl
section PW
variable {X : GX} {h : SH} {a m : Nat} {T w : List Nat}
theorem c_printWord (F : LX6 (Sk h) a) (L : LT h a T) (hw : okW w) (hl : T.length + 11 ≤ 2772) : Cd X mX6_printWord [.ref a, .long (enc32 w)] h 0 0 (oV (fun t => LTo a h t ∧ LT t a (blk T ++ w.map (96 + ·))) nX) := by
  generalize hP : oV (fun t => LTo a h t ∧ LT t a (blk T ++ w.map (96 + ·))) nX = P
  have hb := blk_len T
  have hE := eb_63 (Or.inl rfl) hw
  have hlt : ∀ l ∈ w, l < 32 := fun l hl => by have := hw.2.2 l hl; omega
  have h10 := hw.2.1
  refine bkX6_printWord_0 F (c_printBlank F L (by omega)) (fun t hq => ?_)
  refine bkX6_printWord_4 ?_
  rw [enc32_eb]
  have step : ∀ (j : Nat) (t : SH), j < 10 → LTo a h t → LT t a (blk T ++ (w.take (w.length - 1 - j)).map (96 + ·)) →
      (∀ u, LTo a h u → LT u a (blk T ++ (w.take (w.length - j)).map (96 + ·)) → Gd X mX6_printWord 34 [some (.ref a), some (.long (lN (eb 32 w))), none, some (.int (nI (5 * j))), none] [] u 0 0 P) → Gd X mX6_printWord 7 [some (.ref a), some (.long (lN (eb 32 w))), none, some (.int (nI (5 * j))), none] [] t 0 0 P := fun j t hj k1 k2 k => by
    have F' : LX6 (Sk t) a := k1.1.1 ▸ F
    refine bkX6_printWord_7 (fun q => absurd q (nI_pos (by omega))) (fun _ => ?_)
    rcases Nat.lt_or_ge j w.length with z | z
    · have hd := eb_dig (b := 32) (by decide) hlt z
      have hw1 := hw.2.2 _ (List.getElem_mem (show w.length - 1 - j < w.length by omega))
      refine bkX6_printWord_11 (fun q => ?_) (fun _ => ?_)
      · rw [ltr5 hE hj, hd, n0, nI_eq (by omega) (by omega)] at q; omega
      rw [ltr5 hE hj, hd]
      refine bkX6_printWord_25 F' (by rw [show (96 : Int32) = nI 96 from rfl, nI_add]; exact c_printSign F' k2 (by omega) (by simp; omega)) (fun u hq => ?_)
      refine k u (k1.tr hq.1) ?_
      rw [show w.length - j = w.length - 1 - j + 1 by omega, ← word_take (by omega)]; exact hq.2
    · have hz : eb 32 w / 32 ^ j = 0 := Nat.div_eq_of_lt (Nat.lt_of_lt_of_le (eb_lt (by decide) w hlt) (Nat.pow_le_pow_right (by decide) z))
      refine bkX6_printWord_11 (fun _ => ?_) (fun q => absurd (by rw [ltr5 hE hj, hz]; rfl) q)
      refine k t k1 ?_
      rw [show w.length - j = w.length - 1 - j by omega]; exact k2
  have key : ∀ (j : Nat) (t : SH), j < 10 → LTo a h t → LT t a (blk T ++ (w.take (w.length - 1 - j)).map (96 + ·)) → Gd X mX6_printWord 7 [some (.ref a), some (.long (lN (eb 32 w))), none, some (.int (nI (5 * j))), none] [] t 0 0 P := by
    intro j
    induction j with
    | zero =>
      intro t hj k1 k2
      refine step 0 t hj k1 k2 (fun u g1 g2 => ?_)
      refine bkX6_printWord_34 ?_
      refine bkX6_printWord_7 (fun _ => ?_) (fun q => absurd (by decide) q)
      refine bkX6_printWord_40 ?_
      rw [← hP]
      refine ⟨g1, ?_⟩
      rw [Nat.sub_zero, List.take_length] at g2; exact g2
    | succ j ih =>
      intro t hj k1 k2
      refine step (j + 1) t hj k1 k2 (fun u g1 g2 => ?_)
      refine bkX6_printWord_34 ?_
      have e : nI (5 * (j + 1)) + (-5) = nI (5 * j) := by
        have : (-5 : Int32) = 0 - nI 5 := by decide
        rw [this, show 5 * (j + 1) = 5 * j + 5 by omega, ← nI_add]
        have : (0 : Int32) - nI 5 + nI 5 = 0 := by decide
        rw [Int32.add_assoc, Int32.add_comm (nI 5), this, Int32.add_zero]
      rw [e]
      refine ih u (by omega) g1 ?_
      rw [show w.length - 1 - j = w.length - (j + 1) by omega]; exact g2
  refine key 9 t (by omega) hq.1 ?_
  rw [show w.length - 1 - 9 = 0 by omega]
  simpa using hq.2
theorem c_printsWord (F : LX11 (Sk h) m) (L : OT h m T) (hw : okW w) (hl : T.length + 11 ≤ 2772) : Cd X mX11_printsWord [.ref m, .long (enc37 w)] h 0 0 (oV (fun t => OTo m h t ∧ OT t m (blk T ++ w.map (96 + ·))) nX) := by
  generalize hP : oV (fun t => OTo m h t ∧ OT t m (blk T ++ w.map (96 + ·))) nX = P
  have hb := blk_len T
  have hE := eb_63 (Or.inr rfl) hw
  have hlt : ∀ l ∈ w, l < 37 := fun l hl => by have := hw.2.2 l hl; omega
  have h10 := hw.2.1
  have h1 := hw.1
  have p37 : ∀ k, k ≤ 10 → 37 ^ k < 2 ^ 63 ∧ 0 < 37 ^ k := fun k hk => ⟨Nat.lt_of_le_of_lt (Nat.pow_le_pow_right (by decide) hk) (by decide), Nat.pow_pos (by decide)⟩
  refine bkX11_printsWord_0 F (c_blank F L (by omega)) (fun t hq => ?_)
  refine bkX11_printsWord_4 ?_
  rw [enc37_eb]
  have loop2 : ∀ (k : Nat) (t : SH), k < w.length → OTo m h t → OT t m (blk T ++ (w.take (w.length - 1 - k)).map (96 + ·)) → Gd X mX11_printsWord 25 [some (.ref m), some (.long (lN (eb 37 w))), none, some (.long (lN (37 ^ k))), none] [] t 0 0 P := by
    intro k
    induction k with
    | zero =>
      intro t hk k1 k2
      have F' : LX11 (Sk t) m := k1.1.1 ▸ F
      have hd := eb_dig (b := 37) (by decide) hlt hk
      refine bkX11_printsWord_25 (fun q => absurd q (by decide)) (fun _ => ?_)
      have e1 : ((96 : Int64) + (lN (eb 37 w) / lN (37 ^ 0) - lN (eb 37 w) / lN (37 ^ 0) / 37 * 37)).toInt32 = nI (96 + w[w.length - 1 - 0]) := by
        rw [pk_lDiv hE (by decide) (by decide), l37, pk_lRem (Nat.lt_of_le_of_lt (Nat.div_le_self _ _) hE) (by decide) (by decide), show (96 : Int64) = lN 96 from rfl, lN_add, lN_i, hd]
      refine bkX11_printsWord_31 (by decide) F' (by rw [e1]; exact c_put F' k2 (by simp; omega)) (fun u hq => ?_)
      refine bkX11_printsWord_47 ?_
      refine bkX11_printsWord_25 (fun _ => ?_) (fun q => absurd (by decide) q)
      refine bkX11_printsWord_56 ?_
      rw [← hP]
      refine ⟨k1.tr hq.1, ?_⟩
      have g2 := hq.2
      rw [word_take (by omega), show w.length - 1 - 0 + 1 = w.length by omega, List.take_length] at g2
      exact g2
    | succ k ih =>
      intro t hk k1 k2
      have F' : LX11 (Sk t) m := k1.1.1 ▸ F
      have hd := eb_dig (b := 37) (by decide) hlt hk
      obtain ⟨hp, hp0⟩ := p37 (k + 1) (by omega)
      refine bkX11_printsWord_25 (fun q => ?_) (fun _ => ?_)
      · rw [lg_cmp_le, show (0 : Int64) = lN 0 from rfl, pk_lLE hp (by decide)] at q; omega
      have e1 : ((96 : Int64) + (lN (eb 37 w) / lN (37 ^ (k + 1)) - lN (eb 37 w) / lN (37 ^ (k + 1)) / 37 * 37)).toInt32 = nI (96 + w[w.length - 1 - (k + 1)]) := by
        rw [pk_lDiv hE hp0 hp, l37, pk_lRem (Nat.lt_of_le_of_lt (Nat.div_le_self _ _) hE) (by decide) (by decide), show (96 : Int64) = lN 96 from rfl, lN_add, lN_i, hd]
      refine bkX11_printsWord_31 (fun q => by rw [lN_eq0 hp] at q; omega) F' (by rw [e1]; exact c_put F' k2 (by simp; omega)) (fun u hq => ?_)
      refine bkX11_printsWord_47 ?_
      have e2 : lN (37 ^ (k + 1)) / 37 = lN (37 ^ k) := by rw [l37, pk_lDiv hp (by decide) (by decide), Nat.pow_succ, Nat.mul_div_cancel _ (by decide)]
      rw [e2]
      refine ih u (by omega) (k1.tr hq.1) ?_
      have g2 := hq.2
      rw [word_take (by omega), show w.length - 1 - (k + 1) + 1 = w.length - 1 - k by omega] at g2
      exact g2
  have loop1 : ∀ (d j : Nat), w.length - 1 - j = d → j < w.length → Gd X mX11_printsWord 6 [some (.ref m), some (.long (lN (eb 37 w))), none, some (.long (lN (37 ^ j))), none] [] t 0 0 P := by
    intro d
    induction d with
    | zero =>
      intro j hj hj2
      have e : j = w.length - 1 := by omega
      obtain ⟨hp, hp0⟩ := p37 j (by omega)
      refine bkX11_printsWord_6 (fun q => by rw [lN_eq0 hp] at q; omega) (fun _ => ?_) (fun q => absurd ?_ q)
      · refine loop2 j t hj2 hq.1 ?_
        rw [hj]; simpa using hq.2
      · rw [lg_cmp_lt, pk_lDiv hE hp0 hp, l37, pk_lLT (Nat.lt_of_le_of_lt (Nat.div_le_self _ _) hE) (by decide)]
        refine Nat.div_lt_of_lt_mul ?_
        have := eb_lt (b := 37) (by decide) w hlt
        rw [← Nat.pow_succ, show j.succ = w.length by omega]; exact this
    | succ d ih =>
      intro j hj hj2
      obtain ⟨hp, hp0⟩ := p37 j (by omega)
      refine bkX11_printsWord_6 (fun q => by rw [lN_eq0 hp] at q; omega) (fun q => ?_) (fun _ => ?_)
      · rw [lg_cmp_lt, pk_lDiv hE hp0 hp, l37, pk_lLT (Nat.lt_of_le_of_lt (Nat.div_le_self _ _) hE) (by decide)] at q
        exfalso
        have hd := eb_div (b := 37) (by decide) hlt (j := w.length - 1) (by omega)
        have hw0 := (hw.2.2 _ (List.getElem_mem (show 0 < w.length by omega))).1
        have e1 : w.take (w.length - (w.length - 1)) = [w[0]] := by
          rw [show w.length - (w.length - 1) = 0 + 1 by omega, List.take_succ_eq_append_getElem (by omega)]; rfl
        rw [e1] at hd
        have e2 : eb 37 [w[0]] = w[0] := by simp [eb]
        rw [e2] at hd
        have h3 : 37 ^ (j + 1) ≤ 37 ^ (w.length - 1) := Nat.pow_le_pow_right (by decide) (by omega)
        have h4 : 37 ^ (w.length - 1) ≤ eb 37 w := by
          rcases Nat.lt_or_ge (eb 37 w) (37 ^ (w.length - 1)) with y | y
          · rw [Nat.div_eq_of_lt y] at hd; omega
          · exact y
        have h5 : 37 ≤ eb 37 w / 37 ^ j := by
          rw [Nat.le_div_iff_mul_le hp0, Nat.mul_comm, ← Nat.pow_succ]; omega
        omega
      refine bkX11_printsWord_16 ?_
      rw [l37, lN_mul, ← Nat.pow_succ]
      exact ih (j + 1) (by omega) (by omega)
  exact loop1 (w.length - 1) 0 (by omega) (by omega)
end PW
