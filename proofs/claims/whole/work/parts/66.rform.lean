/-! ===== the reader: a formula ===== -/
/-- levels in the reader's rows: what waits for a part (known for all, or for all but the top), for a sum -/
def LC0 (h : SH) (k : Nat) : List (Nat × Nat) → Prop
  | [] => True
  | p :: u => (hI h (k + 1) u.length = nI p.1 ∧ hI h (k + 2) u.length = nI p.2) ∧ LC0 h k u
def LC1 (h : SH) (k : Nat) : List (Nat × Nat) → Prop
  | [] => True
  | p :: u => hI h (k + 2) u.length = nI p.2 ∧ LC0 h k u
theorem LC0.cg {h t : SH} {k : Nat} : ∀ {u : List (Nat × Nat)}, LC0 h k u → (∀ d, d < u.length → hI t (k + 1) d = hI h (k + 1) d ∧ hI t (k + 2) d = hI h (k + 2) d) → LC0 t k u
  | [], _, _ => trivial
  | p :: u, K, e => ⟨by rw [(e u.length (by simp)).1, (e u.length (by simp)).2]; exact K.1, K.2.cg (fun d hd => e d (by simp; omega))⟩
/-- the codes so far -/
def CDc (h : SH) (k : Nat) (cd : Fml) : Prop := hI h k 5 = nI cd.length ∧ ∀ (q : Nat) (hq : q < cd.length), hI h (k + 9) q = nI (cd[q].1 + 8 * cd[q].2)
/-- what a formula's reading writes -/
abbrev fS (k b : Nat) : Prop := b = k ∨ b = k + 1 ∨ b = k + 2 ∨ b = k + 3 ∨ b = k + 9
/-- a formula under way -/
def EC (h0 h : SH) (k e : Nat) (T : List Tk) (N : List (List Nat)) (s : StE) : Prop := chR (fS k) h0 h ∧ (∀ j, j ≠ 5 → hI h k j = hI h0 k j) ∧ RD h k e T N s.2.2.2 ∧ (if s.1 = 0 then LC0 h k s.2.1 else LC1 h k s.2.1) ∧ CDc h k s.2.2.1
/-- the facts of the edition e -/
def FC (h : SH) (e : Nat) (F : List Fct) : Prop := LX3 (Sk h) e ∧ hI h e 2 = nI F.length ∧ ∀ (q : Nat) (hq : q < F.length), hJ h (e + 1) q = enc32 F[q].1
section RF
variable {X : GX} {h h0 : SH} {T : List Tk} {k e i i0 : Nat} {N : List (List Nat)} {F : List Fct}
theorem c_factNamed {w : List Nat} (Q : FC h e F) (ok : okFs F) (hw : okW w) : Cd X mX3_factNamed [.ref e, .long (enc32 w)] h 0 0 (oI (fun r t => r = (if fdx F w < F.length then nI (fdx F w) else -1) ∧ t = h) nX) := by
  have h8 := ok.1
  generalize hP : oI (fun r t => r = (if fdx F w < F.length then nI (fdx F w) else -1) ∧ t = h) nX = P
  refine bkX3_factNamed_0 ?_
  refine for_up (G := fun j t => Gd X mX3_factNamed 2 [some (.ref e), some (.long (enc32 w)), none, some (.int (nI j))] [] t 0 0 P) (I := fun j t => t = h ∧ j ≤ fdx F w) F.length ?_ ?_ 0 h (Nat.zero_le _) ⟨rfl, Nat.zero_le _⟩
  · rintro t ⟨rfl, hj⟩
    refine bkX3_factNamed_2 Q.1 (fun _ => bkX3_factNamed_29 ?_) (fun z => absurd (by rw [Q.2.1]; exact (Int32.le_refl _)) z)
    rw [← hP]; exact ⟨by rw [if_neg (by omega)], rfl⟩
  · rintro j t hj ⟨rfl, hjk⟩ ih
    refine bkX3_factNamed_2 Q.1 (fun z => ?_) (fun _ => ?_)
    · rw [Q.2.1, nI_leI (by omega) (by omega)] at z; omega
    have hwk : okW F[j].1 := (ok.2.1 _ (List.getElem_mem hj)).1
    refine bkX3_factNamed_10 Q.1 (vp_in_nI (by omega) (by omega)) (fun z => ?_) (fun z => ?_)
    · rw [lg_cmp_eq, nI_clamp (by omega), Q.2.2 j hj, enc32_inj hwk hw, fdx_iff ok.2.2.1 hj] at z
      refine bkX3_factNamed_23 ?_
      rw [nI_1]
      exact ih t ⟨rfl, by omega⟩
    · rw [lg_cmp_eq, nI_clamp (by omega), Q.2.2 j hj, enc32_inj hwk hw, fdx_iff ok.2.2.1 hj] at z
      refine bkX3_factNamed_21 ?_
      rw [← hP]; exact ⟨by rw [if_pos (by omega), z], rfl⟩
theorem c_openLevel {d : Nat} (L : LX7 (Sk h) k) (hd : d < 6) : Cd X mX7_openLevel [.ref k, .int (nI d)] h 0 0 (oV (fun t => t = sI (sI h (k + 1) d 0) (k + 2) d 0) nX) := by
  refine bkX7_openLevel_0 L (vp_in_nI (by omega) (by omega)) ?_
  rw [nI_clamp (by omega)]; exact rfl
/-- one code more, or none for 0 -/
theorem c_addOp {v : Nat} {cd : Fml} {c x : Nat} (R : RD h k e T N i) (D : CDc h k cd) (hv : v = c + 8 * x) (hc : c ≠ 0) (hb : v < 2 ^ 30) (hl : cd.length + 1 < T.length) (hT : okT T) : Cd X mX7_addOperation [.ref k, .int (nI v)] h 0 0 (oV (fun t => t = sI (sI h (k + 9) cd.length (nI v)) k 5 (nI (cd.length + 1)) ∧ CDc t k (cd ++ [(c, x)])) nX) := by
  have hL := hT.2.1
  obtain ⟨o1, o2⟩ := R.2.2.2.2.2.1
  refine bkX7_addOperation_0 (fun z => ?_) (fun _ => ?_)
  · rw [n0, nI_eq (by omega) (by omega)] at z; omega
  refine bkX7_addOperation_4 R.1 (fun z => ?_) (fun _ => ?_)
  · rw [D.1, show Int32.ofNat (hN h (k + 9)) = nI (hN h (k + 9)) from rfl, nI_leI (by omega) (by omega)] at z; omega
  refine bkX7_addOperation_16 R.1 (by rw [D.1]; exact vp_in_nI (by omega) o2) (bkX7_addOperation_36 ?_)
  rw [D.1, nI_clamp (by omega), sI_ne (by omega), D.1, nI_1]
  refine ⟨rfl, by rw [sI_at, List.length_append]; rfl, fun q hq => ?_⟩
  rw [List.length_append] at hq
  rw [sI_nb (by omega)]
  by_cases y : q < cd.length
  · rw [List.getElem_append_left y, sI_nj (by omega)]; exact D.2 q y
  · have e : q = cd.length := by simp at hq; omega
    subst e
    rw [List.getElem_append_right (Nat.le_refl _), sI_at]
    simp [hv]
theorem c_addOp0 : Cd X mX7_addOperation [.ref k, .int 0] h 0 0 (oV (fun t => t = h) nX) := bkX7_addOperation_0 (fun _ => bkX7_addOperation_36 rfl) (fun z => absurd rfl z)
/-- an operation that may be none -/
theorem c_addOpt {j : Nat} {cd : Fml} {s : StE} (E : EC h0 h k e T N s) (hT : okT T) (hj : j = 0 ∨ (3 ≤ j ∧ j ≤ 6)) (hs : s.2.2.1 = cd) (hl : j ≠ 0 → cd.length + 1 < T.length) : Cd X mX7_addOperation [.ref k, .int (nI j)] h 0 0 (oV (fun t => chR (fun b => b = k ∨ b = k + 9) h t ∧ (∀ q, q ≠ 5 → hI t k q = hI h k q) ∧ CDc t k (cd ++ opt j)) nX) := by
  obtain ⟨E1, E2, E3, E4, E5⟩ := E
  rw [hs] at E5
  rcases hj with rfl | hj
  · refine Gd.mono (Nat.le_refl _) (Nat.le_refl _) (fun o t q => ?_) c_addOp0
    match o, q with
    | .inl none, q => subst q; exact ⟨chR.rf, fun _ _ => rfl, by rw [opt0, List.append_nil]; exact E5⟩
  · refine Gd.mono (Nat.le_refl _) (Nat.le_refl _) (fun o t q => ?_) (c_addOp (c := j) (x := 0) E3 E5 (by omega) (by omega) (by omega) (hl (by omega)) hT)
    match o, q with
    | .inl none, ⟨q1, q2⟩ =>
      subst q1
      exact ⟨(chR.rf.s (Or.inr rfl)).s (Or.inl rfl), fun q hq => by rw [sI_nj hq, sI_ne (by omega)], by rw [optn (by omega)]; exact q2⟩
end RF
