/-! ===== the state of both, told once ===== -/
abbrev Ltr : Type := (Nat × Int32 × Int32) × List Nat × List Nat
/-- tape, editions, the one in hand, the facts' numbers, free days, the latest letter -/
abbrev Abs : Type := List Nat × List Edn × Option Nat × (Nat → Int32) × List Nat × Option Ltr
abbrev aT (A : Abs) : List Nat := A.1
abbrev aE (A : Abs) : List Edn := A.2.1
abbrev aH (A : Abs) : Option Nat := A.2.2.1
abbrev aN (A : Abs) : Nat → Int32 := A.2.2.2.1
abbrev aF (A : Abs) : List Nat := A.2.2.2.2.1
abbrev aL (A : Abs) : Option Ltr := A.2.2.2.2.2
abbrev nE (A : Abs) : Nat := (aE A).length
def ed (A : Abs) (i : Nat) : Edn := (aE A).getD i (0, [], [])
def okA (A : Abs) : Prop := ((aT A).length ≤ 2400 ∧ ∀ c ∈ aT A, c = 10 ∨ (32 ≤ c ∧ c ≤ 126)) ∧ nE A ≤ 6 ∧ (∀ i, i < nE A → okE (ed A i)) ∧ (∀ i j, i < j → j < nE A → (ed A i).1 < (ed A j).1) ∧
  (∀ i, aH A = some i → i < nE A ∧ ∀ k, k < (eF (ed A i)).length → ∃ n, aN A k = nI n ∧ (fa (ed A i) k).2.1 ≤ n ∧ n ≤ (fa (ed A i) k).2.2)
def RT (h : SH) (A : Abs) : Prop := hI h 8 1 = nI (aT A).length ∧ ∀ (i : Nat) (hi : i < (aT A).length), hI h 9 i = nI (aT A)[i]
def RE (h : SH) (ad : Nat → Nat) (A : Abs) : Prop := hI h 8 3 = nI (nE A) ∧ ∀ i, i < nE A → hA h 10 i = some (ad i) ∧ EdC h (ad i) (ed A i) ∧ hI h (ad i) 0 = nI i ∧ JC h (ad i) (ed A i)
def RH (h : SH) (ad : Nat → Nat) (A : Abs) : Prop := hA h 8 4 = (aH A).map ad ∧ ∀ i, aH A = some i → ∀ k, k < (eF (ed A i)).length → hI h 12 k = aN A k
def RLt (h : SH) (A : Abs) : Prop := match aL A with
  | none => hI h 8 8 = 0 ∧ hI h 16 3 = 0 ∧ hI h 16 5 = 0
  | some Z => hI h 8 8 = 1 ∧ LC h 16 Z
def RS (h : SH) (ad : Nat → Nat) (A : Abs) : Prop := hA h 21 3 = none ∨ ∃ i j d, i < nE A ∧ j < nE A ∧ d ≤ 9999 ∧ eF (ed A i) = eF (ed A j) ∧ hA h 21 3 = some (ad i) ∧ hA h 21 4 = some (ad j) ∧ hI h 21 5 = nI d ∧
  hI h 21 6 = nI (cn (dp (aF A) (ed A i) (ed A j) d) (worlds (ed A i))) ∧ hI h 21 7 = fst1 (dp (aF A) (ed A i) (ed A j) d) (worlds (ed A i))
def RepC (h : SH) (A : Abs) : Prop := ∃ ad : Nat → Nat, LX10 (Sk h) 8 ∧ RT h A ∧ RE h ad A ∧ RH h ad A ∧ CalR h 14 (aF A) ∧ RLt h A ∧ RS h ad A
def rwd : List (List Nat) := [[6, 1, 3, 20], [20, 15], [3, 12, 1, 21, 19, 5], [1, 20], [13, 21, 19, 20], [23, 8, 5, 14], [14, 5, 5, 4, 19], [2, 1, 18, 19], [19, 1, 25, 19], [18, 5, 6], [4, 1, 25]]
def rw1 (k : Nat) : List Nat := rwd.getD k []
def RepM (h : SH) (A : Abs) : Prop := LX11 (Sk h) 35 ∧ (hI h 35 2 = nI (aT A).length ∧ ∀ (i : Nat) (hi : i < (aT A).length), hI h 36 i = nI (aT A)[i]) ∧
  (hI h 35 10 = nI (nE A) ∧ ∀ i, i < nE A → EdM h 35 i (ed A i) ∧ hI h 41 i = nI (ed A i).1) ∧
  (hI h 35 34 = (match aH A with | none => -1 | some i => nI i) ∧ ∀ i, aH A = some i → ∀ k, k < (eF (ed A i)).length → hI h 62 k = aN A k) ∧
  CalM h 35 (aF A) ∧
  (match aL A with
    | none => hI h 35 49 = -1
    | some Z => hI h 35 49 = nI Z.1.1 ∧ hI h 35 50 = Z.1.2.1 ∧ hI h 35 51 = Z.1.2.2 ∧ hI h 35 52 = nI Z.2.2.length ∧ hI h 35 53 = nI Z.2.1.length ∧ (∀ (i : Nat) (hi : i < Z.2.2.length), hI h 69 i = nI Z.2.2[i]) ∧ (∀ (i : Nat) (hi : i < Z.2.1.length), hI h 70 i = nI Z.2.1[i]) ∧ Z.1.1 ≤ 4 ∧ Z.2.1.length ≤ 12 ∧ Z.2.2.length ≤ 2772) ∧
  ∀ k, k < 11 → hJ h 40 k = enc37 (rw1 k)
def frC (h t : SH) : Prop := kup (Sk h) (Sk t) ∧ ∀ b, 35 ≤ b → b ≤ 72 → hI t b = hI h b ∧ hJ t b = hJ h b
def frM (h t : SH) : Prop := Sk t = Sk h ∧ ∀ b, (b < 35 ∨ 72 < b) → hI t b = hI h b ∧ hJ t b = hJ h b
theorem frC.rf {h : SH} : frC h h := ⟨kup.rf, fun _ _ _ => ⟨rfl, rfl⟩⟩
theorem frC.tr {h t u : SH} (a : frC h t) (b : frC t u) : frC h u := ⟨a.1.tr b.1, fun q h1 h2 => ⟨(b.2 q h1 h2).1.trans (a.2 q h1 h2).1, (b.2 q h1 h2).2.trans (a.2 q h1 h2).2⟩⟩
theorem frM.rf {h : SH} : frM h h := ⟨rfl, fun _ _ => ⟨rfl, rfl⟩⟩
theorem frM.tr {h t u : SH} (a : frM h t) (b : frM t u) : frM h u := ⟨b.1.trans a.1, fun q h1 => ⟨(b.2 q h1).1.trans (a.2 q h1).1, (b.2 q h1).2.trans (a.2 q h1).2⟩⟩
theorem chI.frM {S : Nat → Prop} {h t : SH} (c : chI S h t) (hS : ∀ b, S b → 35 ≤ b ∧ b ≤ 72) : frM h t := ⟨c.1, fun b hb => ⟨c.2.2 b (fun z => by have := hS b z; omega), by rw [c.2.1]⟩⟩
theorem chI.frC {S : Nat → Prop} {h t : SH} (c : chI S h t) (hS : ∀ b, S b → b < 35 ∨ 72 < b) : frC h t := ⟨by rw [c.1]; exact kup.rf, fun b h1 h2 => ⟨c.2.2 b (fun z => by have := hS b z; omega), by rw [c.2.1]⟩⟩
theorem chI.agU {S : Nat → Prop} {h t : SH} (c : chI S h t) (hS : ∀ b, S b → b < 73) : agU h t := ⟨by rw [c.1]; exact kup.rf, fun b h1 _ => ⟨c.2.2 b (fun z => by have := hS b z; omega), by rw [c.2.1]⟩⟩
theorem frM.agU {h t : SH} (f : frM h t) : agU h t := ⟨by rw [f.1]; exact kup.rf, fun b h1 _ => f.2 b (by omega)⟩
theorem frM.A {h t : SH} (f : frM h t) : hA t = hA h := congrArg (fun k : Skl => k.2.2) f.1
/-! how the parts of the component's state are kept -/
theorem RT.cg {h t : SH} {A A' : Abs} (R : RT h A) (hA : aT A' = aT A) (h1 : hI t 8 1 = hI h 8 1) (h2 : hI t 9 = hI h 9) : RT t A' := by
  unfold RT; rw [hA, h1, h2]; exact R
theorem JC.cg {h t : SH} {e : Nat} {E : Edn} (J : JC h e E) (h1 : hI t e 10 = hI h e 10) (h2 : hI t (e + 6) = hI h (e + 6)) (h3 : hI t (e + 7) = hI h (e + 7)) : JC t e E := by
  unfold JC; rw [h1, h2, h3]; exact J
theorem RE.cu {h t : SH} {ad : Nat → Nat} {A A' : Abs} (R : RE h ad A) (hA' : aE A' = aE A) (a : agU h t) (h1 : hI t 8 3 = hI h 8 3) (h2 : ∀ i, i < nE A → hA t 10 i = hA h 10 i) : RE t ad A' := by
  have hn : nE A' = nE A := by rw [nE, hA']
  have he : ∀ i, ed A' i = ed A i := fun i => by unfold ed; rw [hA']
  refine ⟨by rw [h1, hn]; exact R.1, fun i hi => ?_⟩
  rw [hn] at hi
  rw [he]
  obtain ⟨g1, g2, g3, g4⟩ := R.2 i hi
  have k := g2.2.1.ks
  have h73 := g2.1
  refine ⟨(h2 i hi).trans g1, g2.cu a, by rw [(a.2 _ h73 k.1.2.1).1]; exact g3, g4.cg (by rw [(a.2 _ h73 k.1.2.1).1]) (a.2 _ (by omega) k.2.2.2.2.2.2.1.2.1).1 (a.2 _ (by omega) k.2.2.2.2.2.2.2.2.1).1⟩
theorem RH.cg {h t : SH} {ad : Nat → Nat} {A A' : Abs} (R : RH h ad A) (e1 : aH A' = aH A) (e2 : aE A' = aE A) (e3 : aN A' = aN A) (h1 : hA t 8 4 = hA h 8 4) (h2 : hI t 12 = hI h 12) : RH t ad A' := by
  unfold RH ed; rw [e1, e2, e3, h1, h2]; exact R
theorem RLt.cg {h t : SH} {A A' : Abs} (R : RLt h A) (e1 : aL A' = aL A) (h0 : hI t 8 8 = hI h 8 8) (h1 : hI t 16 = hI h 16) (h2 : hI t 18 = hI h 18) (h3 : hI t 20 = hI h 20) : RLt t A' := by
  unfold RLt at R ⊢
  rw [e1]
  cases hl : aL A with
  | none => rw [hl] at R; rw [h0, h1]; exact R
  | some Z =>
    rw [hl] at R
    obtain ⟨g1, ⟨g2, g3, g4⟩, ⟨g5, g6, g7⟩, g8⟩ := R
    refine ⟨h0.trans g1, ⟨by rw [h1]; exact g2, by rw [h1]; exact g3, by rw [h1]; exact g4⟩, ⟨by rw [h1]; exact g5, g6, fun i hi => ?_⟩, g8.cg (by rw [h1]) h3⟩
    show hI t 18 i = _
    rw [h2]; exact g7 i hi
theorem RS.cg {h t : SH} {ad : Nat → Nat} {A A' : Abs} (R : RS h ad A) (e1 : aE A' = aE A) (e2 : aF A' = aF A) (h1 : hA t 21 3 = hA h 21 3) (h2 : hA t 21 4 = hA h 21 4) (h3 : ∀ j, 5 ≤ j → hI t 21 j = hI h 21 j) : RS t ad A' := by
  unfold RS ed nE at R ⊢
  rw [e1, e2, h1, h2, h3 5 (by decide), h3 6 (by decide), h3 7 (by decide)]; exact R
theorem RepC.fr {h t : SH} {A : Abs} (R : RepC h A) (f : frM h t) : RepC t A := by
  obtain ⟨ad, r1, r2, r3, r4, r5, r6, r7⟩ := R
  have hI' : ∀ b, b < 35 → hI t b = hI h b := fun b hb => (f.2 b (Or.inl hb)).1
  refine ⟨ad, f.1 ▸ r1, r2.cg rfl (by rw [hI' 8 (by decide)]) (hI' 9 (by decide)), r3.cu rfl f.agU (by rw [hI' 8 (by decide)]) (fun i _ => by rw [f.A]), r4.cg rfl rfl rfl (by rw [f.A]) (hI' 12 (by decide)), r5.cg f.1 (by rw [hI' 14 (by decide)]) (hI' 15 (by decide)), r6.cg rfl (by rw [hI' 8 (by decide)]) (hI' 16 (by decide)) (hI' 18 (by decide)) (hI' 20 (by decide)), r7.cg rfl rfl (by rw [f.A]) (by rw [f.A]) (fun j _ => by rw [hI' 21 (by decide)])⟩
theorem RepM.fr {h t : SH} {A : Abs} (R : RepM h A) (f : frC h t) (ok : okA A) : RepM t A := by
  obtain ⟨r1, r2, r3, r4, r5, r6, r7⟩ := R
  have hI' : ∀ b, 35 ≤ b → b ≤ 72 → hI t b = hI h b := fun b h1 h2 => (f.2 b h1 h2).1
  refine ⟨r1.up f.1 (by unfold nm; decide), ?_, ⟨by rw [hI' 35 (by decide) (by decide)]; exact r3.1, fun i hi => ⟨(r3.2 i hi).1.cg ⟨fun b j z => by rw [hI' b (by unfold sgm at z; omega) (by unfold sgm at z; omega)], fun b j z => by rw [(f.2 b (by unfold sgm at z; omega) (by unfold sgm at z; omega)).2]⟩ (ok.2.2.1 i hi), by rw [hI' 41 (by decide) (by decide)]; exact (r3.2 i hi).2⟩⟩, ?_, ?_, ?_, ?_⟩
  · rw [hI' 35 (by decide) (by decide), hI' 36 (by decide) (by decide)]; exact r2
  · rw [hI' 35 (by decide) (by decide), hI' 62 (by decide) (by decide)]; exact r4
  · refine ⟨by rw [hI' 35 (by decide) (by decide)]; exact r5.1, r5.2.1, fun d hd => ?_, r5.2.2.2⟩
    show hI t 63 d = _
    rw [hI' 63 (by decide) (by decide)]; exact r5.2.2.1 d hd
  · rw [hI' 35 (by decide) (by decide), hI' 69 (by decide) (by decide), hI' 70 (by decide) (by decide)]; exact r6
  · intro k hk; rw [(f.2 40 (by decide) (by decide)).2]; exact r7 k hk
/-- an answer and the state behind it -/
def CP (h : SH) (f : Int32 × Abs) : Int32 → SH → Prop := fun r t => r = f.1 ∧ RepC t f.2 ∧ frC h t
def MP (h : SH) (f : Int32 × Abs) : Int32 → SH → Prop := fun r t => r = f.1 ∧ RepM t f.2 ∧ frM h t
theorem i_neg {x : Int32} : x < 0 ↔ ¬ (0 : Int32) ≤ x := (Int32.not_le).symm
theorem nI_some {x : Int32} (h : (0 : Int32) ≤ x) : ∃ n, n < 2 ^ 31 ∧ x = nI n := nI_of (fun z => i_neg.mp z h)
section SI
variable {X : GX} {h : SH} {A : Abs}
def fCount (A : Abs) (x : Int32) : Int32 × Abs := (if x = 0 then nI (nE A) else if x = 1 then nI (aT A).length else if x = 2 then nI (aF A).length else -1, A)
theorem C_count {x : Int32} (R : RepC h A) : Cd X mX10_count [.ref 8, .int x] h 0 0 (oI (CP h (fCount A x)) nX) := by
  have R0 := R
  obtain ⟨ad, r1, r2, r3, r4, r5, r6, r7⟩ := R
  refine bkX10_count_0 (fun q => ?_) (fun q => ?_) (fun q => ?_) (fun q1 q2 q3 => ?_)
  · exact bkX10_count_28 r1 ⟨by rw [r3.1]; simp [fCount, q], R0, frC.rf⟩
  · exact bkX10_count_33 r1 ⟨by rw [r2.1]; simp [fCount, q], R0, frC.rf⟩
  · refine bkX10_count_38 r1 ⟨?_, R0, frC.rf⟩
    have e : hI h (8 + 6) 1 = nI (aF A).length := r5.2.1
    rw [e]; simp [fCount, q]
  · exact bkX10_count_46 ⟨by simp [fCount, q1, q2, q3], R0, frC.rf⟩
/-- thrown = 0 -/
theorem RepM.z {v : Int32} (R : RepM h A) (ok : okA A) : RepM (sI h 35 0 v) A := by
  obtain ⟨r1, r2, r3, r4, r5, r6, r7⟩ := R
  have e : ∀ j, j ≠ 0 → hI (sI h 35 0 v) 35 j = hI h 35 j := fun j hj => sI_nj hj
  have e2 : ∀ b, b ≠ 35 → hI (sI h 35 0 v) b = hI h b := fun b hb => sI_nb hb
  refine ⟨r1, ?_, ⟨by rw [e 10 (by decide)]; exact r3.1, fun i hi => ?_⟩, ?_, ?_, ?_, r7⟩
  · rw [e 2 (by decide), e2 36 (by decide)]; exact r2
  · rw [e2 41 (by decide)]
    exact ⟨(r3.2 i hi).1.cg ((chI.rf.s (S := (· = 35)) rfl).agM (fun b q => by omega) i) (ok.2.2.1 i hi), (r3.2 i hi).2⟩
  · rw [e 34 (by decide), e2 62 (by decide)]; exact r4
  · refine ⟨by rw [e 36 (by decide)]; exact r5.1, r5.2.1, fun d hd => ?_, r5.2.2.2⟩
    rw [sI_nb (by decide)]; exact r5.2.2.1 d hd
  · rw [e 49 (by decide), e 50 (by decide), e 51 (by decide), e 52 (by decide), e 53 (by decide), e2 69 (by decide), e2 70 (by decide)]; exact r6
theorem z_fr {v : Int32} : frM h (sI h 35 0 v) := (chI.rf.s (S := (· = 35)) rfl).frM (fun b q => by omega)
end SI
