/-! ===== the model's changed ===== -/
section CH2
variable {X : GX} {h : SH} {A : Abs}
abbrev chS : Nat → Prop := fun b => b = 35 ∨ b = 62 ∨ b = 64 ∨ b = 65 ∨ b = 66 ∨ b = 67 ∨ b = 68 ∨ b = 72
/-- what a world's turn keeps -/
def chK (t u : SH) : Prop := chI chS t u ∧ (∀ j, (j < 43 ∨ j = 47 ∨ 48 < j) → hI u 35 j = hI t 35 j) ∧ hI u 64 = hI t 64
theorem chK.rf {t : SH} : chK t t := ⟨chI.rf, fun _ _ => rfl, rfl⟩
theorem chK.al {t u v : SH} (a : chK t u) (b : alK u v) : chK t v := ⟨a.1.tr (b.1.up (fun q z => by unfold alS at z; unfold chS; omega)), fun j hj => (b.2 j hj).trans (a.2.1 j hj), by rw [b.1.2.2 64 (by unfold alS; omega)]; exact a.2.2⟩
theorem M_changed {x y d w : Int32} (R : RepM h A) (ok : okA A) : Cd X mX11_changed [.ref 35, .int x, .int y, .int d, .int w] h 0 0 (oI (MP h (fChanged A x y d w)) nX) := by
  have R1 := R.z (v := 0) ok
  have h6 := ok.2.1
  generalize hh1 : sI h 35 0 0 = h1 at R1
  have z1 : frM h h1 := hh1 ▸ z_fr
  have no : ¬ ((0 ≤ x ∧ x < nI (nE A)) ∧ (0 ≤ y ∧ y < nI (nE A)) ∧ (0 ≤ d ∧ d ≤ 9999) ∧ 0 ≤ w ∧ w ≤ 1) → Gd X mX11_changed 51 [none, none, none, none, none, none, none, none] [] h1 0 0 (oI (MP h (fChanged A x y d w)) nX) := fun e => bkX11_changed_51 ⟨by show _ = (fChanged A x y d w).1; unfold fChanged; rw [if_neg e], R1, z1⟩
  have e10 : hI h1 35 10 = nI (nE A) := R1.2.2.1.1
  refine bkX11_changed_0 R.1 (fun q => ?_) (fun q => ?_)
  · rw [hh1]; exact no (fun z => i_neg.mp q z.1.1)
  rw [hh1]
  refine bkX11_changed_9 R1.1 (fun q2 => ?_) (fun q2 => ?_) <;> rw [e10] at q2
  · exact no (fun z => absurd z.1.2 (Int32.not_lt.mpr q2))
  refine bkX11_changed_17 (fun q3 => no (fun z => i_neg.mp q3 z.2.1.1)) (fun q3 => ?_)
  refine bkX11_changed_21 R1.1 (fun q4 => ?_) (fun q4 => ?_) <;> rw [e10] at q4
  · exact no (fun z => absurd z.2.1.2 (Int32.not_lt.mpr q4))
  refine bkX11_changed_29 (fun q5 => no (fun z => i_neg.mp q5 z.2.2.1.1)) (fun q5 => ?_)
  refine bkX11_changed_33 (fun q6 => no (fun z => absurd q6 (Int32.not_lt.mpr z.2.2.1.2))) (fun q6 => ?_)
  refine bkX11_changed_40 (fun q7 => no (fun z => i_neg.mp q7 z.2.2.2.1)) (fun q7 => ?_)
  refine bkX11_changed_45 (fun q8 => ?_) (fun q8 => no (fun z => q8 z.2.2.2.2))
  have qx : 0 ≤ x ∧ x < nI (nE A) := ⟨Int32.not_lt.mp q, Int32.not_le.mp q2⟩
  have qy : 0 ≤ y ∧ y < nI (nE A) := ⟨Int32.not_lt.mp q3, Int32.not_le.mp q4⟩
  have qd : 0 ≤ d ∧ d ≤ 9999 := ⟨Int32.not_lt.mp q5, Int32.not_lt.mp q6⟩
  have hc : (0 ≤ x ∧ x < nI (nE A)) ∧ (0 ≤ y ∧ y < nI (nE A)) ∧ (0 ≤ d ∧ d ≤ 9999) ∧ 0 ≤ w ∧ w ≤ 1 := ⟨qx, qy, qd, Int32.not_lt.mp q7, q8⟩
  clear no q q2 q3 q4 q5 q6
  obtain ⟨i, hi, rfl⟩ := nI_some qx.1
  obtain ⟨j, hj, rfl⟩ := nI_some qy.1
  obtain ⟨n, hn, rfl⟩ := rep_x qd
  have hil := (nI_ltI hi (by omega)).mp qx.2
  have hjl := (nI_ltI hj (by omega)).mp qy.2
  have ef : fChanged A (nI i) (nI j) (nI n) w = (if eF (ed A i) = eF (ed A j) then (if w = 0 then nI (cn (dp (aF A) (ed A i) (ed A j) n) (worlds (ed A i))) else fst1 (dp (aF A) (ed A i) (ed A j) n) (worlds (ed A i))) else -2, A) := by
    unfold fChanged; rw [if_pos hc, nI_clamp hi, nI_clamp hj, nI_clamp (show n < 2 ^ 31 by omega)]
  have Ei := (R1.2.2.1.2 i hil).1
  have Ej := (R1.2.2.1.2 j hjl).1
  have oki := ok.2.2.1 i hil
  have okj := ok.2.2.1 j hjl
  refine bkX11_changed_53 R1.1 (c_haveSameFacts R1.1 Ei oki Ej okj (by omega) (by omega)) (fun r t hq => ?_)
  obtain ⟨ht, rfl⟩ := hq
  rw [ht]
  refine bkX11_changed_59 (fun z => ?_) (fun z => ?_)
  rotate_left
  · rw [bI_0, decide_eq_false_iff_not] at z
    exact bkX11_changed_62 ⟨by rw [ef, if_neg z], by rw [ef]; exact R1, z1⟩
  rw [bI_0, decide_eq_false_iff_not, Decidable.not_not] at z
  rw [if_pos z] at ef
  have hw : worlds (ed A i) ≤ 2000 := oki.2.2.2.2.1
  have h8 : (eF (ed A i)).length ≤ 8 := oki.2.1
  refine bkX11_changed_65 R1.1 (c_keepsFacts (v := false) R1.1) (fun t hq => ?_)
  rw [if_neg (by decide)] at hq
  obtain ⟨k1, k2⟩ := hq
  have k71 : ∀ k, k < 8 → hI t 71 k = hI h1 62 k := k2
  have Ft : LX11 (Sk t) 35 := k1.1 ▸ R1.1
  have Ct : CalM t 35 (aF A) := by
    have r5 := R1.2.2.2.2.1
    refine ⟨by rw [k1.2.2 35 (by decide)]; exact r5.1, r5.2.1, fun d hd => ?_, r5.2.2.2⟩
    show hI t 63 d = _
    rw [k1.2.2 63 (by decide)]; exact r5.2.2.1 d hd
  refine bkX11_changed_70 Ft (c_findBehind Ft Ct hn) (fun t2 hq => ?_)
  obtain ⟨⟨m1, m2⟩, m3⟩ := hq
  have t2c : chI (fun b => b = 35 ∨ b = 64 ∨ b = 71) h1 t2 := (k1.up (fun b q => by omega)).tr (m1.up (fun b q => by unfold bhS at q; omega))
  have t235 : ∀ j, j ≠ 38 → hI t2 35 j = hI h1 35 j := fun j hj => by rw [m2 j hj, k1.2.2 35 (by decide)]
  have t271 : ∀ k, k < 8 → hI t2 71 k = hI h1 62 k := fun k hk => by rw [m1.2.2 71 (by unfold bhS; omega)]; exact k71 k hk
  refine bkX11_changed_75 ?_
  have fin : ∀ (u : SH) (v1 v2 : Int32), chK t2 u → v1 = nI (cn (dp (aF A) (ed A i) (ed A j) n) (worlds (ed A i))) → v2 = fst1 (dp (aF A) (ed A i) (ed A j) n) (worlds (ed A i)) → Gd X mX11_changed 136 [some (.ref 35), none, none, none, some (.int w), some (.int v1), some (.int v2), none] [] u 0 0 (oI (MP h (fChanged A (nI i) (nI j) (nI n) w)) nX) := fun u v1 v2 c e1 e2 => by
    have Fu : LX11 (Sk u) 35 := c.1.1 ▸ t2c.1 ▸ R1.1
    refine bkX11_changed_136 Fu (c_keepsFacts (v := true) Fu) (fun v hq => ?_)
    rw [if_pos rfl] at hq
    obtain ⟨l1, l2⟩ := hq
    have call : chI (fun b => b = 35 ∨ b = 62 ∨ b = 64 ∨ b = 65 ∨ b = 66 ∨ b = 67 ∨ b = 68 ∨ b = 71 ∨ b = 72) h1 v := ((t2c.up (fun b q => by omega)).tr (c.1.up (fun b q => by unfold chS at q; omega))).tr (l1.up (fun b q => by omega))
    have w35 : ∀ j, j ≠ 38 → (j < 43 ∨ j = 47 ∨ 48 < j) → hI v 35 j = hI h1 35 j := fun j h1 hj => by rw [l1.2.2 35 (by decide), c.2.1 j hj, t235 j h1]
    have Rv : RepM v A := R1.gen (A' := A) ok call (fun b q => by omega) rfl rfl rfl (w35 2 (by decide) (by omega)) (w35 10 (by decide) (by omega)) (w35 36 (by decide) (by omega)) (by rw [w35 34 (by decide) (by omega)]; exact R1.2.2.2.1.1) (fun j hj k hk => by
      have hlt := (ok.2.2.2.2 j hj).1
      have h8' : (eF (ed A j)).length ≤ 8 := (ok.2.2.1 j hlt).2.1
      have e1 : hI v 62 k = hI u 71 k := l2 k (by omega)
      rw [e1, c.1.2.2 71 (by unfold chS; omega), t271 k (by omega)]
      exact R1.2.2.2.1.2 j hj k hk) (R1.let (fun j hj => w35 j (by omega) (by omega)) (call.2.2 69 (by decide)) (call.2.2 70 (by decide)))
    have fw : frM h v := z1.tr (call.frM (fun b q => by omega))
    refine bkX11_changed_141 (fun z => ?_) (fun z => ?_)
    · rw [if_neg z] at ef
      exact bkX11_changed_151 (bkX11_changed_153 ⟨by rw [e2, ef], by rw [ef]; exact Rv, fw⟩)
    · rw [if_pos z] at ef
      exact bkX11_changed_146 (bkX11_changed_153 ⟨by rw [e1, ef], by rw [ef]; exact Rv, fw⟩)
  have kp : ∀ u, chK t2 u → EdM u 35 i (ed A i) ∧ EdM u 35 j (ed A j) ∧ LX11 (Sk u) 35 ∧ Bhd u 35 (bhd (aF A) n) := fun u c => by
    have cc : chI (fun b => b = 35 ∨ b = 62 ∨ b = 64 ∨ b = 65 ∨ b = 66 ∨ b = 67 ∨ b = 68 ∨ b = 71 ∨ b = 72) h1 u := (t2c.up (fun b q => by omega)).tr (c.1.up (fun b q => by unfold chS at q; omega))
    exact ⟨Ei.cg (cc.agM (fun b q => by omega) i) oki, Ej.cg (cc.agM (fun b q => by omega) j) okj, cc.1 ▸ R1.1, m3.cg (c.2.1 38 (by omega)) c.2.2⟩
  generalize hp : dp (aF A) (ed A i) (ed A j) n = p at ef fin
  refine for_up (G := fun v u => Gd X mX11_changed 84 [some (.ref 35), some (.int (nI i)), some (.int (nI j)), some (.int (nI n)), some (.int w), some (.int (nI (cn p v))), some (.int (fst1 p v)), some (.int (nI v))] [] u 0 0 (oI (MP h (fChanged A (nI i) (nI j) (nI n) w)) nX)) (I := fun v u => chK t2 u) (worlds (ed A i)) ?_ ?_ 0 t2 (Nat.zero_le _) chK.rf
  · intro u c
    have K := kp u c
    refine bkX11_changed_84 K.2.2.1 (c_worlds K.1 oki K.2.2.1 (by omega)) (fun r v hq => ?_)
    obtain ⟨hv, rfl⟩ := hq
    rw [hv]
    refine bkX11_changed_92 (fun _ => fin _ _ _ c rfl rfl) (fun z => absurd ?_ z)
    rw [lg_cmp_ge, nI_l (by omega)]; exact Int64.le_refl _
  · intro v u hvl c ih
    have K := kp u c
    have hcl := cn_le p v
    refine bkX11_changed_84 K.2.2.1 (c_worlds K.1 oki K.2.2.1 (by omega)) (fun r v2 hq => ?_)
    obtain ⟨hv, rfl⟩ := hq
    rw [hv]
    refine bkX11_changed_92 (fun z => ?_) (fun _ => ?_)
    · rw [lg_cmp_ge, nI_l (by omega), pk_lLE (by omega) (by omega)] at z; omega
    refine bkX11_changed_96 K.2.2.1 (c_comes K.1 oki K.2.2.1 (by omega) (by omega)) (fun u2 hq2 => ?_)
    have c2 : chK t2 u2 := ⟨c.1.tr (hq2.1.up (fun b q => by unfold chS; omega)), fun j hj => by rw [hq2.1.2.2 35 (by decide)]; exact c.2.1 j hj, by rw [hq2.1.2.2 64 (by decide)]; exact c.2.2⟩
    have K2 := kp u2 c2
    refine bkX11_changed_103 K2.2.2.1 (c_areAlike (FL := aF A) (cs := csW (ed A i) v) K2.2.2.1 K2.1 oki K2.2.1 okj (by omega) (by omega) z (fun k hk => hq2.2 k hk) (fun k hk => csW_w oki hk) K2.2.2.2 hn) (fun r u3 hq3 => ?_)
    obtain ⟨a3, rfl⟩ := hq3
    have c3 := c2.al a3
    have hpv : p v = true ↔ ¬ ((lett (dueN (aF A) n) (ed A i) (csW (ed A i) v)).1 = (lett (dueN (aF A) n) (ed A j) (csW (ed A i) v)).1 ∧ (lett (dueN (aF A) n) (ed A i) (csW (ed A i) v)).2.2 = (lett (dueN (aF A) n) (ed A j) (csW (ed A i) v)).2.2) := by
      rw [← hp]; unfold dp; rw [Bool.not_eq_true', decide_eq_false_iff_not]
    have nx := ih u3 c3
    rw [cn_s, fst_s] at nx
    refine bkX11_changed_110 (fun y => ?_) (fun y => ?_) <;> rw [bI_0, decide_eq_false_iff_not] at y
    · rw [Decidable.not_not] at y
      refine bkX11_changed_130 ?_
      rw [nI_1]
      have y' : ¬ p v = true := fun z => hpv.mp z y
      rw [if_neg y', if_neg y', Nat.add_zero] at nx
      have e : (if cn p v = 0 then -1 else fst1 p v) = fst1 p v := by
        by_cases y : cn p v = 0
        · rw [if_pos y, fst_0 y]
        · rw [if_neg y]
      rw [e] at nx
      exact nx
    · have y' : p v = true := hpv.mpr y
      rw [if_pos y', if_pos y'] at nx
      refine bkX11_changed_113 (fun y => ?_) (fun y => ?_)
      · have hc0 : ¬ cn p v = 0 := fun e => by rw [fst_0 e] at y; exact absurd y (by decide)
        rw [if_neg hc0] at nx
        refine bkX11_changed_126 (bkX11_changed_128 (bkX11_changed_130 ?_))
        rw [nI_1, nI_1]; exact nx
      · have hc0 : cn p v = 0 := by
          rcases Nat.eq_zero_or_pos (cn p v) with e | e
          · exact e
          · exact absurd (fst_n (by omega) (by omega)) y
        rw [if_pos hc0] at nx
        refine bkX11_changed_121 (bkX11_changed_128 (bkX11_changed_130 ?_))
        rw [nI_1, nI_1]; exact nx
end CH2
