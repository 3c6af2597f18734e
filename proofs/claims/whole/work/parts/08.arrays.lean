/-! ===== arrays, new cells ===== -/
section GA
variable {X : GX} {M : MI} {pc : Nat} {L : List (Option Value)} {st : List Value} {h : SH} {nc ns : Nat} {P : Out → SH → Prop}
theorem arE_I {a k : Nat} (h1 : k ≠ 23) (h2 : k < 24) : arE X h a k = .inl (hI h a) := by unfold arE; rw [if_neg h1, if_neg (by omega)]
theorem arE_J {a : Nat} : arE X h a 23 = .inr (.inl (hJ h a)) := rfl
theorem arE_A {a k : Nat} (h1 : 24 ≤ k) : arE X h a k = .inr (.inr (.inr (.inr (fun i => (hA h a i).map (ph X))))) := by unfold arE; rw [if_neg (by omega), if_pos h1]
theorem VR.arI {H : Heap} {a k n : Nat} (V : VR X h H) (ho : Ar h a k n) (h1 : 12 ≤ k) (h2 : k < 23) : va_at (xD X) ctl (ph X a, .inl (xac X k, n, .inl (hI h a))) H := by
  have := V.ar ho h1 (by omega)
  rw [arE_I (by omega) (by omega)] at this
  exact this
theorem VR.arJ {H : Heap} {a n : Nat} (V : VR X h H) (ho : Ar h a 23 n) : va_at (xD X) ctl (ph X a, .inl (xac X 23, n, .inr (.inl (hJ h a)))) H := V.ar ho (by omega) (by omega)
theorem VR.arA {H : Heap} {a k n : Nat} (V : VR X h H) (ho : Ar h a k n) (h1 : 24 ≤ k) (h2 : k < 27) : va_at (xD X) ctl (ph X a, .inl (xac X k, n, .inr (.inr (.inr (.inr (fun i => (hA h a i).map (ph X))))))) H := by
  have := V.ar ho (by omega) (by omega)
  rw [arE_A h1] at this
  exact this
theorem g_iaload {a n : Nat} {i : Int32} (hd : decode M.2.1 pc = .ok (.iaload, 1)) (ho : Ar h a 20 n) (hin : vp_in i n) (g : Gd X M (pc + 1) L (.int (hI h a i.toNatClampNeg) :: st) h nc ns P) : Gd X M pc L (.int i :: .ref a :: st) h nc ns P :=
  Gd.go (fun p e R s m args below meth co A H locs cells slots ls Q hl hV k9 => va_iald A.x A.b A.k (va_one (hV.arI ho (by omega) (by omega))) 0 0 rfl (tysX_at 0 (by omega)) hin hd k9) g
theorem g_baload {a n : Nat} {i : Int32} (hd : decode M.2.1 pc = .ok (.baload, 1)) (ho : Ar h a 21 n) (hin : vp_in i n) (g : Gd X M (pc + 1) L (.int (hI h a i.toNatClampNeg) :: st) h nc ns P) : Gd X M pc L (.int i :: .ref a :: st) h nc ns P :=
  Gd.go (fun p e R s m args below meth co A H locs cells slots ls Q hl hV k9 => va_bald A.x A.b A.k (va_one (hV.arI ho (by omega) (by omega))) 0 1 rfl (tysX_at 1 (by omega)) hin hd k9) g
theorem g_zaload {a n : Nat} {i : Int32} (hd : decode M.2.1 pc = .ok (.baload, 1)) (ho : Ar h a 22 n) (hin : vp_in i n) (g : Gd X M (pc + 1) L (.int (hI h a i.toNatClampNeg) :: st) h nc ns P) : Gd X M pc L (.int i :: .ref a :: st) h nc ns P :=
  Gd.go (fun p e R s m args below meth co A H locs cells slots ls Q hl hV k9 => va_zald A.x A.b A.k (va_one (hV.arI ho (by omega) (by omega))) 0 2 rfl (tysX_at 2 (by omega)) hin hd k9) g
theorem g_laload {a n : Nat} {i : Int32} (hd : decode M.2.1 pc = .ok (.laload, 1)) (ho : Ar h a 23 n) (hin : vp_in i n) (g : Gd X M (pc + 1) L (.long (hJ h a i.toNatClampNeg) :: st) h nc ns P) : Gd X M pc L (.int i :: .ref a :: st) h nc ns P :=
  Gd.go (fun p e R s m args below meth co A H locs cells slots ls Q hl hV k9 => va_lald A.x A.b A.k (va_one (hV.arJ ho)) 0 3 rfl (tysX_at 3 (by omega)) hin hd k9) g
theorem arT_ob : ∀ k : Nat, 24 ≤ k → k < 27 → ∃ C, arT k = .object C ∧ (tysX X)[k - 20]? = some (xac X k, .object C)
  | 24, _, _ => ⟨_, rfl, rfl⟩ | 25, _, _ => ⟨_, rfl, rfl⟩ | 26, _, _ => ⟨_, rfl, rfl⟩
  | 0, a, _ => absurd a (by omega) | 1, a, _ => absurd a (by omega) | 2, a, _ => absurd a (by omega) | 3, a, _ => absurd a (by omega) | 4, a, _ => absurd a (by omega) | 5, a, _ => absurd a (by omega) | 6, a, _ => absurd a (by omega) | 7, a, _ => absurd a (by omega) | 8, a, _ => absurd a (by omega) | 9, a, _ => absurd a (by omega) | 10, a, _ => absurd a (by omega) | 11, a, _ => absurd a (by omega) | 12, a, _ => absurd a (by omega)
  | 13, a, _ => absurd a (by omega) | 14, a, _ => absurd a (by omega) | 15, a, _ => absurd a (by omega) | 16, a, _ => absurd a (by omega) | 17, a, _ => absurd a (by omega) | 18, a, _ => absurd a (by omega) | 19, a, _ => absurd a (by omega) | 20, a, _ => absurd a (by omega) | 21, a, _ => absurd a (by omega) | 22, a, _ => absurd a (by omega) | 23, a, _ => absurd a (by omega)
  | n + 27, _, b => absurd b (by omega)
theorem g_aaload {a n k : Nat} {i : Int32} (hd : decode M.2.1 pc = .ok (.aaload, 1)) (h1 : 24 ≤ k) (h2 : k < 27) (ho : Ar h a k n) (hin : vp_in i n) (g : Gd X M (pc + 1) L (va_rf (hA h a i.toNatClampNeg) :: st) h nc ns P) : Gd X M pc L (.int i :: .ref a :: st) h nc ns P := by
  obtain ⟨C, -, ht⟩ := arT_ob (X := X) k h1 h2
  refine Gd.go (fun p e R s m args below meth co A H locs cells slots ls Q hl hV k9 => ?_) g
  refine va_aldq A.x A.b A.k (va_one (hV.arA ho h1 h2)) 0 (k - 20) rfl ht hin hd ?_
  have k9 : W p (xl X) e R s m args below meth co H locs cells slots Q (F0 m (pc + 1) ls (mv X (va_rf (hA h a i.toNatClampNeg)) :: st.map (mv X))) := k9
  rw [mv_rf] at k9
  exact k9
theorem g_alen {a n k : Nat} (hd : decode M.2.1 pc = .ok (.arraylength, 1)) (h1 : 20 ≤ k) (h2 : k < 27) (ho : Ar h a k n) (g : Gd X M (pc + 1) L (.int (Int32.ofNat n) :: st) h nc ns P) : Gd X M pc L (.ref a :: st) h nc ns P :=
  Gd.go (fun p e R s m args below meth co A H locs cells slots ls Q hl hV k9 => va_alen A.x A.b A.k (va_one (hV.ar ho (by omega) (by omega))) 0 (k - 20) rfl (by have := tysX_at (X := X) (k - 20) (by omega); rw [show 20 + (k - 20) = k by omega] at this; exact this) rfl hd k9) g
theorem VR.setI {H H1 : Heap} {a k n i : Nat} {v : Int32} (V : VR X h H) (ho : Ar h a k n) (h1 : 12 ≤ k) (h2 : k < 23) (e : H1[ph X a]? = some (arrV (xac X k) n (updV (fun j => .int (hI h a j)) i (.int v)))) (z : H1.size = H.size) (oq : ∀ q : Nat, q ≠ ph X a → H1[q]? = H[q]?) : VR X (sI h a i v) H1 := by
  refine V.set ho.1 ho.2.1 rfl (fun _ => rfl) (fun b hb => eE_sI hb) z oq ?_
  rw [eE_ar (show hK (sI h a i v) a = k from ho.2.2.1) h1, arE_I (by omega) (by omega)]
  show H1[ph X a]? = some (vp_cell _ (hN h a, _))
  rw [e, vp_cell_i, ho.2.2.2]
  congr 2
  funext j
  unfold updV
  rw [hI_sI]
  by_cases q : j = i
  · rw [if_pos q, if_pos ⟨rfl, q⟩]
  · rw [if_neg q, if_neg (fun z => q z.2)]
theorem VR.setJ {H H1 : Heap} {a n i : Nat} {v : Int64} (V : VR X h H) (ho : Ar h a 23 n) (e : H1[ph X a]? = some (arrV (xac X 23) n (updV (fun j => .long (hJ h a j)) i (.long v)))) (z : H1.size = H.size) (oq : ∀ q : Nat, q ≠ ph X a → H1[q]? = H[q]?) : VR X (sJ h a i v) H1 := by
  refine V.set ho.1 ho.2.1 rfl (fun _ => rfl) (fun b hb => eE_sJ hb) z oq ?_
  rw [eE_ar (show hK (sJ h a i v) a = 23 from ho.2.2.1) (by omega), arE_J]
  show H1[ph X a]? = some (vp_cell _ (hN h a, _))
  rw [e, vp_cell_l, ho.2.2.2]
  congr 2
  funext j
  unfold updV
  rw [hJ_sJ]
  by_cases q : j = i
  · rw [if_pos q, if_pos ⟨rfl, q⟩]
  · rw [if_neg q, if_neg (fun z => q z.2)]
theorem VR.setA {H H1 : Heap} {a k n i : Nat} {r : Option Nat} (V : VR X h H) (ho : Ar h a k n) (h1 : 24 ≤ k) (e : H1[ph X a]? = some (arrV (xac X k) n (updV (fun j => va_rf ((hA h a j).map (ph X))) i (va_rf (r.map (ph X)))))) (z : H1.size = H.size) (oq : ∀ q : Nat, q ≠ ph X a → H1[q]? = H[q]?) : VR X (sA h a i r) H1 := by
  refine V.set ho.1 ho.2.1 rfl (fun _ => rfl) (fun b hb => eE_sA hb) z oq ?_
  rw [eE_ar (show hK (sA h a i r) a = k from ho.2.2.1) (by omega), arE_A h1]
  show H1[ph X a]? = some (vp_cell _ (hN h a, _))
  rw [e, vp_cell_q, ho.2.2.2]
  congr 2
  funext j
  unfold updV
  rw [hA_sA]
  by_cases q : j = i
  · rw [if_pos q, if_pos ⟨rfl, q⟩]
  · rw [if_neg q, if_neg (fun z => q z.2)]
theorem g_iastore {a n : Nat} {i x : Int32} (hd : decode M.2.1 pc = .ok (.iastore, 1)) (ho : Ar h a 20 n) (hin : vp_in i n) (g : Gd X M (pc + 1) L st (sI h a i.toNatClampNeg x) nc ns P) : Gd X M pc L (.int x :: .int i :: .ref a :: st) h nc ns P := by
  intro p e R s m args below meth co A H locs cells slots ls mc ms S
  refine W.iast A.x A.b (S.1.arI ho (by omega) (by omega)) ((A.k.2 0 _ (tysX_at 0 (by omega))).1 n (fun j => .int (hI h a j))) (fun q => by cases q) (by show ¬ (i < 0 ∨ (arrV _ _ _).slots.size ≤ _); rw [arrV_size]; exact hin) rfl rfl hd fun H1 e1 z oq => ?_
  rw [vp_cell_i, arrV_store] at e1
  exact g p e R s m args below meth co A H1 _ cells slots ls mc ms (S.heap (S.1.setI ho (by omega) (by omega) e1 z oq) ho.1)
theorem g_bastore {a n : Nat} {i x : Int32} (hd : decode M.2.1 pc = .ok (.bastore, 1)) (ho : Ar h a 21 n) (hin : vp_in i n) (g : Gd X M (pc + 1) L st (sI h a i.toNatClampNeg (vp_nar .byte x)) nc ns P) : Gd X M pc L (.int x :: .int i :: .ref a :: st) h nc ns P := by
  intro p e R s m args below meth co A H locs cells slots ls mc ms S
  refine W.bast A.x A.b (S.1.arI ho (by omega) (by omega)) ((A.k.2 1 _ (tysX_at 1 (by omega))).1 n (fun j => .int (hI h a j))) (fun q => by cases q) (by show ¬ (i < 0 ∨ (arrV _ _ _).slots.size ≤ _); rw [arrV_size]; exact hin) rfl rfl hd fun H1 e1 z oq => ?_
  rw [vp_cell_i, arrV_store] at e1
  exact g p e R s m args below meth co A H1 _ cells slots ls mc ms (S.heap (S.1.setI ho (by omega) (by omega) e1 z oq) ho.1)
theorem g_zastore {a n : Nat} {i x : Int32} (hd : decode M.2.1 pc = .ok (.bastore, 1)) (ho : Ar h a 22 n) (hin : vp_in i n) (g : Gd X M (pc + 1) L st (sI h a i.toNatClampNeg (vp_nar .boolean x)) nc ns P) : Gd X M pc L (.int x :: .int i :: .ref a :: st) h nc ns P := by
  intro p e R s m args below meth co A H locs cells slots ls mc ms S
  refine W.zast A.x A.b (S.1.arI ho (by omega) (by omega)) ((A.k.2 2 _ (tysX_at 2 (by omega))).1 n (fun j => .int (hI h a j))) (fun q => by cases q) (by show ¬ (i < 0 ∨ (arrV _ _ _).slots.size ≤ _); rw [arrV_size]; exact hin) rfl rfl hd fun H1 e1 z oq => ?_
  rw [vp_cell_i, arrV_store] at e1
  exact g p e R s m args below meth co A H1 _ cells slots ls mc ms (S.heap (S.1.setI ho (by omega) (by omega) e1 z oq) ho.1)
theorem g_lastore {a n : Nat} {i : Int32} {x : Int64} (hd : decode M.2.1 pc = .ok (.lastore, 1)) (ho : Ar h a 23 n) (hin : vp_in i n) (g : Gd X M (pc + 1) L st (sJ h a i.toNatClampNeg x) nc ns P) : Gd X M pc L (.long x :: .int i :: .ref a :: st) h nc ns P := by
  intro p e R s m args below meth co A H locs cells slots ls mc ms S
  refine W.last A.x A.b (S.1.arJ ho) ((A.k.2 3 _ (tysX_at 3 (by omega))).1 n (fun j => .long (hJ h a j))) (fun q => by cases q) (by show ¬ (i < 0 ∨ (arrV _ _ _).slots.size ≤ _); rw [arrV_size]; exact hin) rfl rfl hd fun H1 e1 z oq => ?_
  rw [vp_cell_l, arrV_store] at e1
  exact g p e R s m args below meth co A H1 _ cells slots ls mc ms (S.heap (S.1.setJ ho e1 z oq) ho.1)
/-- the class of an array's elements -/
def arC (k : Nat) : Nat := match k with
  | 24 => 3 | 25 => 2 | _ => 5
theorem arC_ty : ∀ k : Nat, 24 ≤ k → k < 27 → (tysX X)[k - 20]? = some (xac X k, .object (ctR (arC k))) ∧ arC k < 12
  | 24, _, _ => ⟨rfl, by decide⟩ | 25, _, _ => ⟨rfl, by decide⟩ | 26, _, _ => ⟨rfl, by decide⟩
  | 0, a, _ => absurd a (by omega) | 1, a, _ => absurd a (by omega) | 2, a, _ => absurd a (by omega) | 3, a, _ => absurd a (by omega) | 4, a, _ => absurd a (by omega) | 5, a, _ => absurd a (by omega) | 6, a, _ => absurd a (by omega) | 7, a, _ => absurd a (by omega) | 8, a, _ => absurd a (by omega) | 9, a, _ => absurd a (by omega) | 10, a, _ => absurd a (by omega) | 11, a, _ => absurd a (by omega) | 12, a, _ => absurd a (by omega)
  | 13, a, _ => absurd a (by omega) | 14, a, _ => absurd a (by omega) | 15, a, _ => absurd a (by omega) | 16, a, _ => absurd a (by omega) | 17, a, _ => absurd a (by omega) | 18, a, _ => absurd a (by omega) | 19, a, _ => absurd a (by omega) | 20, a, _ => absurd a (by omega) | 21, a, _ => absurd a (by omega) | 22, a, _ => absurd a (by omega) | 23, a, _ => absurd a (by omega)
  | n + 27, _, b => absurd b (by omega)
theorem g_aastore {a n k b : Nat} {i : Int32} (hd : decode M.2.1 pc = .ok (.aastore, 1)) (h1 : 24 ≤ k) (h2 : k < 27) (ho : Ar h a k n) (hb : Ob h b (arC k)) (hin : vp_in i n) (g : Gd X M (pc + 1) L st (sA h a i.toNatClampNeg (some b)) nc ns P) : Gd X M pc L (.ref b :: .int i :: .ref a :: st) h nc ns P := by
  intro p e R s m args below meth co A H locs cells slots ls mc ms S
  obtain ⟨ht, hc⟩ := arC_ty (X := X) k h1 h2
  have hlt : i.toNatClampNeg < n := Nat.not_le.mp fun q => hin (Or.inr q)
  have h0 : ¬ i < 0 := fun q => hin (Or.inl q)
  obtain ⟨r', hr', cellV, g1, g2, g3, -⟩ := S.1.ob hb hc
  have hcls := (A.k.1 (arC k) _ (ctl_at _ hc)).2
  obtain ⟨kA, comp, k1, k2, k3, -⟩ := (A.k.2 _ _ ht).2
  have hcomp : comp = (xD X).1 (arC k) := Option.some.inj (k3.symm.trans hcls.1)
  subst hcomp
  obtain ⟨kC, hkC, -⟩ := hcls.2
  refine W.aast A.x A.b (S.1.arA ho h1 h2) (fun q z => by cases z) (fun z => by cases z) k1 k2 rfl hkC ⟨h0, by show _ < (arrV _ _ _).slots.size; rw [arrV_size]; exact hlt⟩ g1 (fun q z => by rw [g3] at z; cases z) (by rw [g2]; exact hkC) (by rw [g2]; exact va_assign hcls) rfl rfl hd fun H1 e1 z oq => ?_
  rw [vp_cell_q, arrV_store] at e1
  exact g p e R s m args below meth co A H1 _ cells slots ls mc ms (S.heap (S.1.setA ho h1 e1 z oq) ho.1)
/-- a new cell -/
theorem VR.new {H H1 : Heap} {k n : Nat} (V : VR X h H) (hsz : H1.size = H.size + 1) (ho : ∀ q : Nat, q < H.size → H1[q]? = H[q]?) (hc : va_at (xD X) ctl (ph X (hz h), eE X (nw h k n) (hz h)) H1) : VR X (nw h k n) H1 := by
  have hb : ∀ b, b ≠ hz h → eE X (nw h k n) b = eE X h b := fun b hb => by
    have hb' : ¬ b = h.1 := hb
    exact eE_ext (by show (if b = h.1 then (k, n) else h.2.1 b).1 = _; rw [if_neg hb']; rfl) (by show (if b = h.1 then (k, n) else h.2.1 b).2 = _; rw [if_neg hb']; rfl)
      (funext fun j => by show (if b = h.1 then (0 : Int32) else h.2.2.1 b j) = _; rw [if_neg hb']; rfl) (funext fun j => by show (if b = h.1 then (0 : Int64) else h.2.2.2.1 b j) = _; rw [if_neg hb']; rfl) (funext fun j => by show (if b = h.1 then (none : Option Nat) else h.2.2.2.2 b j) = _; rw [if_neg hb']; rfl)
  have hz1 : hz (nw h k n) = hz h + 1 := rfl
  refine ⟨by rw [hz1]; have := V.1; omega, by rw [hsz, V.2.1, hz1, ph_ge V.1, ph_ge (by have := V.1; omega)]; have := V.1; omega, fun q hq => ?_, fun b hb8 hlt h9 => ?_⟩
  · rw [ho q (by rw [V.2.1, ph_ge V.1]; omega)]; exact V.2.2.1 q hq
  · by_cases q : b = hz h
    · subst q; exact hc
    · rw [hb b q]
      have hlt' : b < hz h := by rw [hz1] at hlt; omega
      refine (V.2.2.2 b hb8 hlt' ?_).kept (ho _ ?_)
      · intro z
        refine h9 ?_
        show (if b = h.1 then (k, n) else h.2.1 b).1 = 99
        rw [if_neg (show ¬ b = h.1 from q)]; exact z
      · rw [V.2.1, ph_ge V.1]; show ph X b < _; rw [ph_ge hb8]; omega
theorem nw_K {k n : Nat} : hK (nw h k n) (hz h) = k := by show (if h.1 = h.1 then (k, n) else h.2.1 h.1).1 = k; rw [if_pos rfl]
theorem nw_N {k n : Nat} : hN (nw h k n) (hz h) = n := by show (if h.1 = h.1 then (k, n) else h.2.1 h.1).2 = n; rw [if_pos rfl]
theorem nw_I {k n : Nat} : hI (nw h k n) (hz h) = fun _ => 0 := by funext j; show (if h.1 = h.1 then (0 : Int32) else h.2.2.1 h.1 j) = 0; rw [if_pos rfl]
theorem nw_J {k n : Nat} : hJ (nw h k n) (hz h) = fun _ => 0 := by funext j; show (if h.1 = h.1 then (0 : Int64) else h.2.2.2.1 h.1 j) = 0; rw [if_pos rfl]
theorem nw_A {k n : Nat} : hA (nw h k n) (hz h) = fun _ => none := by funext j; show (if h.1 = h.1 then (none : Option Nat) else h.2.2.2.2 h.1 j) = none; rw [if_pos rfl]
theorem ct_def : ∀ c : Nat, c < 12 → ∀ k, k < ctN c → (tI (ctY c k) = true ∨ tA (ctY c k) = true ∨ ctY c k = .long) := by
  have key : ∀ c ∈ List.range 12, ∀ k ∈ List.range (ctN c), (tI (ctY c k) = true ∨ tA (ctY c k) = true ∨ ctY c k = .long) := by decide +kernel
  exact fun c hc k hk => key c (List.mem_range.mpr hc) k (List.mem_range.mpr hk)
theorem fvT_new {k n j : Nat} {t : FieldType} (ht : tI t = true ∨ tA t = true ∨ t = .long) : defaultValue t = fvT X (nw h k n) (hz h) j t := by
  rcases ht with q | q | q
  · rw [fvT_I q, nw_I]; cases t <;> first | rfl | (simp [tI] at q)
  · rw [fvT_A q, nw_A]; cases t <;> first | rfl | (simp [tA] at q)
  · subst q; show _ = Value.long _; rw [nw_J]; rfl
theorem St.new {R : Room} {h1 : SH} {H H1 : Heap} {locs : List Loc} {cells slots n : Nat} {ls : Array Slot} {mc ms : Nat} (S : St X M R L h (nc + 1) (ns + n) H locs cells slots ls mc ms) (V : VR X h1 H1) : St X M R L h1 nc ns H1 locs (cells + 1) (slots + n) ls mc ms :=
  ⟨V, S.2.1, S.2.2.1, by have := S.2.2.2.1; omega, by have := S.2.2.2.2.1; omega, S.2.2.2.2.2⟩
theorem g_new {c idx : Nat} (hd : decode M.2.1 pc = .ok (.new idx, 3)) (hc : c < 12) (hw : KW (Cond.classLink M.1.cls idx (ctR c))) (hi : KW (Cond.instantiable (ctR c) (ctN c))) (hn : KW (Cond.initialized (ctR c)))
    (g : Gd X M (pc + 3) L (.ref (hz h) :: st) (nw h c 0) nc ns P) : Gd X M pc L st h (nc + 1) (ns + ctN c) P := by
  intro p e R s m args below meth co A H locs cells slots ls mc ms S
  have hKn := A.k.1 c _ (ctl_at c hc)
  have q1 := S.2.2.2.1
  have q2 := S.2.2.2.2.1
  have q3 := S.2.2.2.2.2.1
  have q4 := S.2.2.2.2.2.2
  refine W.newcK A.x A.b A.own (A.word hw args) (A.word hi args) (A.word hn args) rfl hd (by omega) (by omega) hKn.2.1 S.1.2.1 fun H1 kC hkC e1 z1 o1 => ?_
  have hV : VR X (nw h c 0) H1 := by
    refine S.1.new (by rw [z1, S.1.2.1]) (fun q hq => o1 q (by rw [← S.1.2.1]; exact hq)) ?_
    rw [eE_ob nw_K hc]
    exact ⟨_, ctl_at c hc, (u_born (ctY c) (A.lays hc args) (fun _ z => z) hKn hkC e1 (ct_ty c hc)).to (fun j hj => by rw [fvs_V hj]; exact fvT_new (ct_def c hc j hj))⟩
  exact g p e R s m args below meth co A H1 locs (cells + 1) (slots + ctN c) ls mc ms (S.new hV)
theorem g_newarr {k : Nat} {n : Int32} {atype : ArrayType} (hd : decode M.2.1 pc = .ok (.newarray atype, 2)) (h1 : 20 ≤ k) (h2 : k < 24) (hty : newarray.typeOf atype = arT k) (hw : KW (Cond.arrayClass (arT k))) (hn : ¬ n < 0) (hb : n.toNatClampNeg * componentBytes (arT k) ≤ 536870912)
    (g : Gd X M (pc + 2) L (.ref (hz h) :: st) (nw h k n.toNatClampNeg) nc ns P) : Gd X M pc L (.int n :: st) h (nc + 1) (ns + n.toNatClampNeg) P := by
  intro p e R s m args below meth co A H locs cells slots ls mc ms S
  have q1 := S.2.2.2.1
  have q2 := S.2.2.2.2.1
  have q3 := S.2.2.2.2.2.1
  have q4 := S.2.2.2.2.2.2
  refine va_newaK A.x A.b (by rw [hty]; exact A.word hw args) rfl hd rfl hn rfl (by rw [hty]; exact hb) (by omega) (by omega) S.1.2.1 fun H1 cA e1 z1 o1 hAr hNm => ?_
  rw [hty] at e1 hNm
  have ht := tysX_at (X := X) (k - 20) (by omega)
  rw [show 20 + (k - 20) = k by omega] at ht
  have hRA := (A.k.2 _ _ ht).2
  have hcA : cA = xac X k := by
    have h3 : s.vm.findClass ("[" ++ (arT k).toString) = some (xac X k) := by
      rcases (show k = 20 ∨ k = 21 ∨ k = 22 ∨ k = 23 by omega) with q | q | q | q <;> subst q <;> exact hRA
    exact Option.some.inj (hNm.symm.trans h3)
  subst hcA
  have hV : VR X (nw h k n.toNatClampNeg) H1 := by
    refine S.1.new (by rw [z1, S.1.2.1]) (fun q hq => o1 q (by rw [← S.1.2.1]; exact hq)) ?_
    rw [eE_ar nw_K (by omega), nw_N]
    show H1[ph X (hz h)]? = some (vp_cell _ _)
    rw [e1]
    rcases (show k = 20 ∨ k = 21 ∨ k = 22 ∨ k = 23 by omega) with q | q | q | q <;> subst q
    · rw [arE_I (by omega) (by omega), vp_cell_i, nw_I]; rfl
    · rw [arE_I (by omega) (by omega), vp_cell_i, nw_I]; rfl
    · rw [arE_I (by omega) (by omega), vp_cell_i, nw_I]; rfl
    · rw [arE_J, vp_cell_l, nw_J]; rfl
  exact g p e R s m args below meth co A H1 locs (cells + 1) (slots + n.toNatClampNeg) ls mc ms (S.new hV)
theorem g_anewarr {k idx : Nat} {n : Int32} (hd : decode M.2.1 pc = .ok (.anewarray idx, 3)) (h1 : 24 ≤ k) (h2 : k < 27) (hw : KW (Cond.classLink M.1.cls idx (ctR (arC k)))) (ho : KN (Cond.arrayOver (.object (ctR (arC k))))) (hn : ¬ n < 0) (hb : n.toNatClampNeg * 4 ≤ 536870912)
    (g : Gd X M (pc + 3) L (.ref (hz h) :: st) (nw h k n.toNatClampNeg) nc ns P) : Gd X M pc L (.int n :: st) h (nc + 1) (ns + n.toNatClampNeg) P := by
  intro p e R s m args below meth co A H locs cells slots ls mc ms S
  have q1 := S.2.2.2.1
  have q2 := S.2.2.2.2.1
  have q3 := S.2.2.2.2.2.1
  have q4 := S.2.2.2.2.2.2
  obtain ⟨ht, -⟩ := arC_ty (X := X) k h1 h2
  have hO : va_AO (ctR (arC k)) s := va_AO.moved A.w.alike (va_AO.of (A.1.1 _ ho))
  refine W.anew A.x A.b A.own (A.word hw args) (va_AO.use hO) rfl hd rfl hn hb (by omega) (by omega) fun cA kA comp f1 f2 f3 f4 => ?_
  obtain ⟨kA', comp', k1, k2, k3, k4⟩ := (A.k.2 _ _ ht).2
  have hcA : cA = xac X k := Option.some.inj (f1.symm.trans k4)
  subst hcA
  have hV : VR X (nw h k n.toNatClampNeg) (H.push ({ cls := xac X k, slots := Array.replicate n.toNatClampNeg .null, vm := .none } : Cell)) := by
    refine S.1.new (by rw [Array.size_push]) (fun q hq => by rw [Array.getElem?_push, if_neg (Nat.ne_of_lt hq)]) ?_
    rw [eE_ar nw_K (by omega), nw_N, arE_A h1]
    show (H.push _)[ph X (hz h)]? = some (vp_cell _ _)
    rw [← S.1.2.1, Array.getElem?_push_size, arrV_new, vp_cell_q, nw_A]
    rfl
  have g2 := g p e R s m args below meth co A _ locs (cells + 1) (slots + n.toNatClampNeg) ls mc ms (S.new hV)
  have e9 : mv X (.ref (hz h)) = .ref H.size := by rw [S.1.2.1]; rfl
  rw [List.map_cons, e9] at g2
  exact g2
end GA
