/-! ===== the model's areAlike ===== -/
section TL
variable {D : Int32 → Int32} {cs : Nat → Int32} {E : Edn} {L : List Nat}
def c127 (T : List Nat) : Prop := ∀ x ∈ T, x ≤ 127
theorem c127.app {a b : List Nat} (h1 : c127 a) (h2 : c127 b) : c127 (a ++ b) := fun x hx => (List.mem_append.mp hx).elim (h1 x) (h2 x)
theorem c127.nil : c127 [] := fun x hx => absurd hx List.not_mem_nil
theorem blk_127 {T : List Nat} (h : c127 T) : c127 (blk T) := by
  unfold blk
  split
  · exact c127.nil
  · exact h.app (fun x hx => by rw [List.mem_singleton.mp hx]; decide)
theorem nmb_127 (v : Int32) : c127 (nmb v) := by
  unfold nmb
  refine c127.app ?_ (dgl_le _ _)
  split
  · intro x hx; rw [List.mem_singleton.mp hx]; decide
  · exact c127.nil
theorem itx_127 {nf nc : Nat} {it : Itm} (ok : okI nf nc it) : c127 (itx D cs L it) := by
  unfold itx
  split
  · rename_i q
    intro x hx
    obtain ⟨l, h1, h2⟩ := List.mem_map.mp hx
    have := (ok.2.1 q).2.2 l h1
    omega
  · split
    · exact nmb_127 _
    · split <;> exact nmb_127 _
theorem stxL_127 {nf nc : Nat} : ∀ (l : List Itm) (T : List Nat), (∀ it ∈ l, okI nf nc it) → c127 T → c127 (l.foldl (stx D cs L) T)
  | [], T, _, h => h
  | a :: l, T, h, hT => stxL_127 l (stx D cs L T a) (fun it hi => h it (List.mem_cons_of_mem _ hi)) ((blk_127 hT).app (itx_127 (h a (List.mem_cons_self ..))))
theorem ptx_127 (ok : okE E) (hL : ∀ c ∈ L, c < (eC E).length) {i : Nat} (hi : i < L.length) {T : List Nat} (hT : c127 T) : c127 (ptx D cs E L T i) := by
  unfold ptx
  have hc := hL _ (List.getElem_mem hi)
  have e : L.getD i 0 = L[i] := by rw [List.getD_eq_getElem?_getD, List.getElem?_eq_getElem hi]; rfl
  rw [e]
  exact stxL_127 _ _ (ok.2.2.2.2.2 _ hc).2.2.2.2.2.2 ((blk_127 hT).app (nmb_127 _))
theorem txt_127 (ok : okE E) (hL : ∀ c ∈ L, c < (eC E).length) : ∀ k, k ≤ L.length → c127 ((List.range k).foldl (ptx D cs E L) [])
  | 0, _ => c127.nil
  | k + 1, h => by
    rw [range_fold]
    exact ptx_127 ok hL (by omega) (txt_127 ok hL k (by omega))
theorem lett_127 (ok : okE E) : c127 (lett D E cs).2.2 := by
  unfold lett
  split
  · exact txt_127 ok (fun c hc => (prts_mem.mp hc).1) _ (Nat.le_refl _)
  · exact c127.nil
end TL
section AL
variable {X : GX} {h : SH} {A : Abs}
abbrev alS : Nat → Prop := fun b => b = 35 ∨ b = 65 ∨ b = 66 ∨ b = 67 ∨ b = 68 ∨ b = 72
def alK (h t : SH) : Prop := chI alS h t ∧ ∀ j, (j < 43 ∨ j = 47 ∨ 48 < j) → hI t 35 j = hI h 35 j
theorem alK.tr {h t u : SH} (p : alK h t) (q : alK t u) : alK h u := ⟨p.1.tr q.1, fun j hj => (q.2 j hj).trans (p.2 j hj)⟩
theorem mkK.al {h t : SH} (p : mkK 35 h t) : alK h t := ⟨p.1.up (fun b z => by unfold mkS at z; unfold alS; omega), p.2⟩
theorem c_areAlike {e e2 day : Nat} {E E2 : Edn} {FL : List Nat} {cs : Nat → Int32} (F : LX11 (Sk h) 35) (hE : EdM h 35 e E) (ok : okE E) (hE2 : EdM h 35 e2 E2) (ok2 : okE E2) (he : e ≤ 6) (he2 : e2 ≤ 6) (hs : eF E = eF E2) (hcs : ∀ k, k < (eF E).length → hI h 62 k = cs k) (hcw : ∀ k, k < (eF E).length → (cs k).toInt.natAbs ≤ 9999) (hB : Bhd h 35 (bhd FL day)) (hday : day ≤ 9999) :
    Cd X mX11_areAlike [.ref 35, .int (nI e), .int (nI e2), .int (nI day)] h 0 0 (oI (fun r t => alK h t ∧ r = bI (decide ((lett (dueN FL day) E cs).1 = (lett (dueN FL day) E2 cs).1 ∧ (lett (dueN FL day) E cs).2.2 = (lett (dueN FL day) E2 cs).2.2))) nX) := by
  have bY := lett_bd (D := dueN FL day) (cs := cs) ok
  have bZ := lett_bd (D := dueN FL day) (cs := cs) ok2
  have lY := lett_127 (D := dueN FL day) (cs := cs) ok
  have lZ := lett_127 (D := dueN FL day) (cs := cs) ok2
  refine bkX11_areAlike_0 F (c_makes F hE ok he hcs hcw hB hday) (fun t hq => ?_)
  have hm2 : ∀ u : SH, alK h u → Cd X mX11_makes [.ref 35, .int (nI e2), .int (nI day)] u 0 0 (oV (fun t => mkK 35 u t ∧ LM t 35 (lett (dueN FL day) E2 cs)) nX) := fun u c =>
    c_makes (c.1.1 ▸ F) (hE2.cg (c.1.agM (fun b q => by unfold alS at q; omega) e2) ok2) ok2 he2 (fun k hk => by show hI u 62 k = _; rw [c.1.2.2 62 (by unfold alS; omega)]; exact hcs k (by rw [hs]; exact hk)) (fun k hk => hcw k (by rw [hs]; exact hk)) (hB.cg (c.2 38 (by omega)) (c.1.2.2 64 (by unfold alS; omega))) hday
  generalize lett (dueN FL day) E cs = Y at bY lY hq ⊢
  generalize lett (dueN FL day) E2 cs = Z at bZ lZ hm2 ⊢
  generalize hP : oI (fun r t => alK h t ∧ r = bI (decide (Y.1 = Z.1 ∧ Y.2.2 = Z.2.2))) nX = P
  obtain ⟨k1, ⟨y1, y2, y3⟩, -, y4, y5, y6⟩ := hq
  have a1 := k1.al
  have Ft : LX11 (Sk t) 35 := a1.1.1 ▸ F
  refine bkX11_areAlike_6 Ft ?_
  rw [y1, y2, y3, y4]
  refine for_up (G := fun i u => Gd X mX11_areAlike 33 [some (.ref 35), none, some (.int (nI e2)), some (.int (nI day)), some (.int (nI Y.1.1)), some (.int Y.1.2.1), some (.int Y.1.2.2), some (.int (nI Y.2.2.length)), some (.int (nI i)), none] [] u 0 0 P) (I := fun i u => chI (· = 72) t u ∧ ∀ (j : Nat) (hj : j < Y.2.2.length), j < i → hI u 72 j = nI Y.2.2[j]) Y.2.2.length ?_ ?_ 0 t (Nat.zero_le _) ⟨chI.rf, fun j _ hj => absurd hj (Nat.not_lt_zero _)⟩
  rotate_left
  · rintro i u hi ⟨c1, c2⟩ ih
    refine bkX11_areAlike_33 (fun z => absurd z (nI_ge hi (by omega))) (fun _ => ?_)
    refine bkX11_areAlike_40 (c1.1 ▸ Ft) (vp_in_nI (by omega) (by omega)) ?_
    rw [nI_1, nI_clamp (by omega)]
    refine ih _ ⟨c1.s rfl, fun j hj hji => ?_⟩
    show hI (sI u 72 i (hI u 68 i)) 72 j = _
    by_cases y : j = i
    · subst y; rw [sI_at, c1.2.2 68 (by decide)]; exact y6 j hj
    · rw [sI_nj y]; exact c2 j hj (by omega)
  rintro u ⟨c1, c2⟩
  have a2 : alK h u := a1.tr ⟨c1.up (fun b z => by unfold alS; omega), fun j _ => by rw [c1.2.2 35 (by decide)]⟩
  have Fu : LX11 (Sk u) 35 := a2.1.1 ▸ F
  refine bkX11_areAlike_33 (fun _ => ?_) (fun z => absurd (Int32.le_refl _) z)
  refine bkX11_areAlike_60 Fu (hm2 u a2) (fun v hq => ?_)
  obtain ⟨k2, ⟨z1, z2, z3⟩, -, z4, z5, z6⟩ := hq
  have a3 : alK h v := a2.tr k2.al
  have Fv : LX11 (Sk v) 35 := a3.1.1 ▸ F
  have v72 : ∀ (j : Nat) (hj : j < Y.2.2.length), hI v 72 j = nI Y.2.2[j] := fun j hj => by rw [k2.1.2.2 72 (by unfold mkS; omega)]; exact c2 j hj hj
  have no : ¬ (Y.1 = Z.1 ∧ Y.2.2 = Z.2.2) → ∀ i : Int32, Gd X mX11_areAlike 112 [some (.ref 35), none, none, none, none, none, none, some (.int (nI Y.2.2.length)), some (.int 0), some (.int i)] [] v 0 0 P := fun q i => by
    have fin : Gd X mX11_areAlike 154 [none, none, none, none, none, none, none, none, some (.int 0), none] [] v 0 0 P := bkX11_areAlike_154 (Or.inl rfl) (by rw [← hP]; exact ⟨a3, by rw [decide_eq_false q]; rfl⟩)
    exact bkX11_areAlike_112 (fun _ => fin) (fun _ => bkX11_areAlike_119 (fun _ => fin) (fun z => absurd rfl z))
  have no0 : ¬ (Y.1 = Z.1 ∧ Y.2.2 = Z.2.2) → Gd X mX11_areAlike 106 [some (.ref 35), none, none, none, none, none, none, some (.int (nI Y.2.2.length)), none, none] [] v 0 0 P := fun q => bkX11_areAlike_106 (bkX11_areAlike_107 (no q 0))
  have hz4 := bZ.2.2
  refine bkX11_areAlike_66 Fv (fun z => no0 (fun w => z (by rw [z1, w.1]))) (fun e1 => ?_)
  rw [z1, nI_eq (by omega) (by omega)] at e1
  refine bkX11_areAlike_75 Fv (fun z => no0 (fun w => z (by rw [z2, w.1]))) (fun e2 => ?_)
  rw [z2] at e2
  refine bkX11_areAlike_84 Fv (fun z => no0 (fun w => z (by rw [z3, w.1]))) (fun e3 => ?_)
  rw [z3] at e3
  refine bkX11_areAlike_93 Fv (fun z => no0 (fun w => z (by rw [z4, w.2]))) (fun e5 => ?_)
  rw [z4, nI_eq (by omega) (by omega)] at e5
  have e4 : Y.1 = Z.1 := Prod.ext e1 (Prod.ext e2 e3)
  refine bkX11_areAlike_102 (bkX11_areAlike_107 ?_)
  refine for_up (G := fun i u => Gd X mX11_areAlike 112 [some (.ref 35), none, none, none, none, none, none, some (.int (nI Y.2.2.length)), some (.int 1), some (.int (nI i))] [] u 0 0 P) (I := fun i u => u = v ∧ ∀ (j : Nat) (h1 : j < Y.2.2.length) (h2 : j < Z.2.2.length), j < i → Y.2.2[j] = Z.2.2[j]) Y.2.2.length ?_ ?_ 0 v (Nat.zero_le _) ⟨rfl, fun j _ _ hj => absurd hj (Nat.not_lt_zero _)⟩
  · rintro u ⟨rfl, hlo⟩
    refine bkX11_areAlike_112 (fun _ => bkX11_areAlike_154 (Or.inr rfl) ?_) (fun z => absurd (Int32.le_refl _) z)
    rw [← hP]
    refine ⟨a3, ?_⟩
    rw [decide_eq_true ⟨e4, List.ext_getElem e5 (fun j h1 h2 => hlo j h1 h2 h1)⟩]; rfl
  · rintro i u hi ⟨hu, hlo⟩ ih
    rw [hu]
    have hi2 : i < Z.2.2.length := by omega
    have b1 := lY _ (List.getElem_mem hi)
    have b2 := lZ _ (List.getElem_mem hi2)
    have f1 : hI v (35 + 37) i = nI Y.2.2[i] := v72 i hi
    have f2 : hI v (35 + 33) i = nI Z.2.2[i] := z6 i hi2
    refine bkX11_areAlike_112 (fun z => absurd z (nI_ge hi (by omega))) (fun _ => bkX11_areAlike_119 (fun z => absurd z (by decide)) (fun _ => ?_))
    refine bkX11_areAlike_124 Fv (vp_in_nI (by omega) (by omega)) (fun q => ?_) (fun q => ?_) <;> rw [nI_clamp (by omega), f1, f2, nI_eq (by omega) (by omega)] at q
    · exact bkX11_areAlike_145 (bkX11_areAlike_146 (no (fun w => q (by simp [w.2])) _))
    · refine bkX11_areAlike_141 (bkX11_areAlike_146 ?_)
      rw [nI_1]
      refine ih v ⟨rfl, fun j h1 h2 hj => ?_⟩
      rcases Nat.lt_or_ge j i with w | w
      · exact hlo j h1 h2 w
      · have : j = i := by omega
        subst this; exact q
end AL
