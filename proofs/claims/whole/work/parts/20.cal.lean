/-! ===== the calendar ===== -/
theorem nI_clampI {n : Nat} (h : n < 2 ^ 31) : (nI n).toNatClampNeg = n := nI_clamp h
/-- the free days of a calendar: L, ascending -/
def CalR (h : SH) (a : Nat) (L : List Nat) : Prop :=
  LX0 (Sk h) a ∧ hI h a 1 = nI L.length ∧ L.length ≤ 40 ∧ (∀ (i : Nat) (hi : i < L.length), hI h (a + 1) i = nI L[i]) ∧ L.Pairwise (· < ·) ∧ ∀ d ∈ L, d ≤ 9999
def fnb (L : List Nat) (d : Nat) : Nat := (L.filter (· < d)).length
theorem fnb_at {L : List Nat} {d i : Nat} (hs : L.Pairwise (· < ·)) (hi : i ≤ L.length) (hlo : ∀ (j : Nat) (hj : j < L.length), j < i → L[j] < d) (hhi : ∀ hi : i < L.length, d ≤ L[i]) : fnb L d = i := by
  have e : L.filter (· < d) = L.take i := by
    conv => lhs; rw [← List.take_append_drop i L]
    rw [List.filter_append]
    have h1 : (L.take i).filter (· < d) = L.take i := by
      rw [List.filter_eq_self]
      intro x hx
      obtain ⟨j, hj, rfl⟩ := List.mem_iff_getElem.mp hx
      rw [List.length_take] at hj
      rw [List.getElem_take]
      simpa using hlo j (by omega) (by omega)
    have h2 : (L.drop i).filter (· < d) = [] := by
      rw [List.filter_eq_nil_iff]
      intro x hx
      obtain ⟨j, hj, rfl⟩ := List.mem_iff_getElem.mp hx
      rw [List.length_drop] at hj
      rw [List.getElem_drop]
      have h3 : L[i] ≤ L[i + j] := by
        rcases Nat.eq_zero_or_pos j with q | q
        · subst q; exact Nat.le_refl _
        · exact Nat.le_of_lt (List.pairwise_iff_getElem.mp hs i (i + j) (by omega) (by omega) (by omega))
      have h4 := hhi (by omega)
      simp; omega
    rw [h1, h2, List.append_nil]
  unfold fnb
  rw [e, List.length_take]; omega
theorem c_firstNotBelow {X : GX} {h : SH} {a d : Nat} {L : List Nat} (C : CalR h a L) (hd : d ≤ 9999) : Cd X mX0_firstNotBelow [.ref a, .int (nI d)] h 0 0 (oI (fun r t => t = h ∧ r = nI (fnb L d)) nX) := by
  obtain ⟨F, hc, hl, hv, hs, hm⟩ := C
  refine bkX0_firstNotBelow_0 ?_
  have key : ∀ k i : Nat, L.length - i = k → i ≤ L.length → (∀ (j : Nat) (hj : j < L.length), j < i → L[j] < d) → Gd X mX0_firstNotBelow 2 [some (.ref a), some (.int (nI d)), some (.int (nI i))] [] h 0 0 (oI (fun r t => t = h ∧ r = nI (fnb L d)) nX) := by
    intro k
    induction k with
    | zero =>
      intro i hk hi hlo
      have e : i = L.length := by omega
      subst e
      refine bkX0_firstNotBelow_2 F (fun _ => ?_) (fun q => ?_)
      · exact bkX0_firstNotBelow_26 ⟨rfl, by rw [fnb_at hs hi hlo (fun z => absurd z (Nat.lt_irrefl _))]⟩
      · exact absurd (by rw [hc]; exact nI_le (Nat.le_refl _) (by omega)) q
    | succ k ih =>
      intro i hk hi hlo
      have hlt : i < L.length := by omega
      refine bkX0_firstNotBelow_2 F (fun q => ?_) (fun q => ?_)
      · rw [hc] at q; exact absurd q (nI_ge hlt (by omega))
      · have hx := hv i hlt
        have hb := hm _ (List.getElem_mem hlt)
        refine bkX0_firstNotBelow_10 F (vp_in_nI (by omega) (by omega)) (fun q => ?_) (fun q => ?_)
        · rw [nI_clamp (by omega), hx, nI_leI (by omega) (by omega)] at q
          exact bkX0_firstNotBelow_26 ⟨rfl, by rw [fnb_at hs hi hlo (fun _ => q)]⟩
        · rw [nI_clamp (by omega), hx, nI_leI (by omega) (by omega)] at q
          refine bkX0_firstNotBelow_20 ?_
          rw [nI_1]
          refine ih (i + 1) (by omega) (by omega) (fun j hj hji => ?_)
          rcases Nat.lt_or_ge j i with z | z
          · exact hlo j hj z
          · have : j = i := by omega
            subst this; omega
  exact key L.length 0 rfl (Nat.zero_le _) (fun j hj hji => absurd hji (Nat.not_lt_zero _))
