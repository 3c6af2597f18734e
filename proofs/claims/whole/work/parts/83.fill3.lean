/-! ===== fillEdition ===== -/
section F3
variable {X : GX} {h : SH} {k e : Nat} {L : List Nat}
/-- a reader that is made: the edition e, the tape's text L -/
def RK (h : SH) (k e : Nat) (L : List Nat) : Prop := LX7 (Sk h) k ∧ hA h k 1 = some e ∧ (hA h (k + 3) 0 = some 9 ∧ Ar h 9 21 2400) ∧ hI h (k + 3) 1 = nI L.length ∧ (∀ (i : Nat) (hi : i < L.length), hI h 9 i = nI L[i]) ∧ (hN h (k + 3 + 2) = L.length + 1 ∧ hN h (k + 3 + 3) = L.length + 1 ∧ hN h (k + 3 + 4) = L.length + 1) ∧ hI h (k + 3) 6 = 0 ∧ hI h (k + 3) 7 = 0 ∧ hI h k 3 = 0 ∧ hN h (k + 8) = L.length / 7 + 1 ∧ hN h (k + 9) = L.length ∧ 73 ≤ k ∧ e + 8 ≤ k
/-- what the reader's run answers and leaves -/
def FA (h : SH) (k e : Nat) (L : List Nat) (r : Int32) (t : SH) : Prop := match pEdn (toks L) with
  | .ok q => r = 0 ∧ FL h k e (tld (toks L) (toks L).length) q.1 q.2 t
  | .error f => r = nI f ∧ gZ e k h t
theorem c_fillEdition (hZ : SZ X) (o : TXo L) (K : RK h k e L) (E : FE h e []) (h7 : hI h e 7 = 0) : Cd X mX7_fillEdition [.ref k] h (3 * L.length + 5) (8 * L.length + 18) (oI (FA h k e L) nX) := by
  obtain ⟨k1, k2, k3, k4, k5, k6, k7, k8, k9, k10, k11, k12, hek⟩ := K
  have oL := o.1
  obtain ⟨hT, hTl⟩ := toks_ok oL
  have bd := tld_bd L
  generalize hP : oI (FA h k e L) nX = P
  refine Gd.le (nc := 0 + bc (toks L) 0) (ns := 0 + bs (toks L) 0) (by unfold bc; omega) (by unfold bs; omega) (bkX7_fillEdition_0 k1 (c_cutText hZ (LX7.l_tokens k1) k3 k4 k5 k6 (by omega) o k7 k8) (fun t1 q => ?_))
  obtain ⟨c1, T1, H1⟩ := q
  have R1 : RD t1 k e (toks L) [] 0 := ⟨c1.1 ▸ k1, by rw [c1.hA]; exact k2, T1, H1, ⟨by rw [(c1.2 k (by omega)).1]; exact k9, fun q hq => absurd hq (Nat.not_lt_zero _), Nat.zero_le _, by rw [c1.hN, k10]; omega⟩, ⟨by rw [c1.hN, k11]; exact hTl, by rw [c1.hN, k11]; omega⟩, k12⟩
  refine bkX7_fillEdition_7 R1.1 (c_findToldNames R1 hT (by rw [c1.hN, k10]; omega)) (fun t2 q => ?_)
  obtain ⟨c2, R2, e2⟩ := q
  have E2 : FE t2 e [] := (E.cg c1 (fun q _ _ => by omega)).cg c2 (fun q _ _ => by omega)
  have s1 : ∀ j, hI t2 e j = hI h e j := fun j => by rw [(c2.2 e (by omega)).1, (c1.2 e (by omega)).1]
  have g2 : gr (fun q => e ≤ q) (· = e + 4) h t2 := ((c1.gr).up (fun q _ z => by omega) (fun q _ z => z)).tr ((c2.gr).up (fun q _ z => by omega) (fun q _ z => z))
  have gz : gZ e k h t2 := ((c1.gr (SA := fun b => e ≤ b ∧ (b < k ∨ k + 9 < b))).up (fun q _ z => by omega) (fun q _ z => z)).tr ((c2.gr).up (fun q _ z => by omega) (fun q _ z => z))
  refine flA hT hek rfl (by omega) R2 E2 (by rw [s1]; exact h7) (by rw [c2.hN, c1.hN, k11]; omega) (fun F C t hp hf => ?_) (fun f hp t _ hg => ?_)
  · rw [← hP]
    show FA h k e L 0 t
    unfold FA
    rw [hp]
    exact ⟨rfl, g2.tr hf.1, hf.2.1, hf.2.2.1, fun j a b c => (hf.2.2.2.1 j a b c).trans (s1 j), hf.2.2.2.2.trans (by rw [(c2.2 (e + 6) (by omega)).1, (c1.2 (e + 6) (by omega)).1])⟩
  · rw [← hP]
    show FA h k e L (nI f) t
    unfold FA
    rw [hp]
    exact ⟨rfl, gr.tr gz hg⟩
end F3
