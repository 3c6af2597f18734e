/-! ===== the calendar, both sides ===== -/
/-- weekdays up to a day, that day too -/
def Wd (d : Nat) : Nat := (d + 1) / 7 * 5 + min ((d + 1) % 7) 5
theorem Wd_s (d : Nat) : Wd (d + 1) = Wd d + (if (d + 1) % 7 < 5 then 1 else 0) := by
  unfold Wd; split <;> omega
theorem Wd_mono {a b : Nat} (h : a ≤ b) : Wd a ≤ Wd b := by
  induction b with
  | zero => have : a = 0 := by omega
            subst this; exact Nat.le_refl _
  | succ b ih =>
    rcases Nat.lt_or_ge b a with q | q
    · have : a = b + 1 := by omega
      subst this; exact Nat.le_refl _
    · have := ih q; rw [Wd_s]; omega
theorem Wd_lt {a b : Nat} (h : a < b) (hb : b % 7 < 5) : Wd a < Wd b := by
  obtain ⟨c, rfl⟩ : ∃ c, b = c + 1 := ⟨b - 1, by omega⟩
  have := Wd_mono (show a ≤ c by omega)
  rw [Wd_s, if_pos hb]; omega
/-- the x-th weekday -/
def dW (x : Nat) : Nat := (x - 1) / 5 * 7 + (x - 1) % 5
theorem dW_wd (x : Nat) : dW x % 7 < 5 := by unfold dW; omega
theorem Wd_dW {x : Nat} (h : 1 ≤ x) : Wd (dW x) = x := by unfold Wd dW; omega
def wk (L : List Nat) (d : Nat) : Bool := decide (d % 7 < 5) && !L.contains d
/-- the working days behind a day -/
def bhd (L : List Nat) (day : Nat) : List Nat := (List.range 10000).filter (fun d => decide (day < d) && wk L d)
def dueN (L : List Nat) (day : Nat) (v : Int32) : Int32 := if v < 1 then nI day else if nI (bhd L day).length < v then 9999 else nI ((bhd L day).getD (v.toNatClampNeg - 1) 0)
def wkc (L : List Nat) (day b : Nat) : Nat := ((List.range (b + 1)).filter (fun d => decide (day < d) && wk L d)).length
def frc (L : List Nat) (day b : Nat) : Nat := (L.filter (fun f => decide (day < f) && (decide (f ≤ b) && decide (f % 7 < 5)))).length
theorem frc_s {L : List Nat} (hs : L.Pairwise (· < ·)) (day b : Nat) : frc L day (b + 1) = frc L day b + (if day < b + 1 ∧ (b + 1) % 7 < 5 ∧ b + 1 ∈ L then 1 else 0) := by
  unfold frc
  induction L with
  | nil => simp
  | cons a l ih =>
    have h2 := List.pairwise_cons.mp hs
    have ih := ih h2.2
    rw [List.filter_cons, List.filter_cons]
    by_cases q : a = b + 1
    · subst q
      have hn : b + 1 ∉ l := fun z => Nat.lt_irrefl _ (h2.1 _ z)
      have e : ¬ (day < b + 1 ∧ (b + 1) % 7 < 5 ∧ b + 1 ∈ l) := fun z => hn z.2.2
      rw [if_neg e] at ih
      have e2 : ¬ (b + 1 ≤ b) := by omega
      by_cases c : day < b + 1 ∧ (b + 1) % 7 < 5
      · simp [c.1, c.2, e2, ih]
      · have : ¬ (day < b + 1 ∧ (b + 1) % 7 < 5 ∧ b + 1 ∈ (b + 1) :: l) := fun z => c ⟨z.1, z.2.1⟩
        rw [if_neg this]
        have c2 : (decide (day < b + 1) && (decide (b + 1 ≤ b + 1) && decide ((b + 1) % 7 < 5))) = false := by
          by_cases c3 : day < b + 1
          · have : ¬ (b + 1) % 7 < 5 := fun z => c ⟨c3, z⟩
            simp [this]
          · simp [c3]
        rw [c2]; simp [e2, ih]
    · have e1 : (b + 1 ∈ a :: l) ↔ b + 1 ∈ l := by rw [List.mem_cons]; exact ⟨fun z => z.resolve_left (fun y => q y.symm), Or.inr⟩
      have e2 : decide (a ≤ b + 1) = decide (a ≤ b) := by congr 1; exact propext ⟨fun z => by omega, fun z => by omega⟩
      have e3 : (if day < b + 1 ∧ (b + 1) % 7 < 5 ∧ b + 1 ∈ a :: l then 1 else 0) = (if day < b + 1 ∧ (b + 1) % 7 < 5 ∧ b + 1 ∈ l then 1 else 0) := by simp only [e1]
      rw [e2, e3]
      by_cases c : (decide (day < a) && (decide (a ≤ b) && decide (a % 7 < 5))) = true
      · rw [if_pos c, if_pos c, List.length_cons, List.length_cons, ih]; omega
      · rw [if_neg c, if_neg c, ih]
theorem frc_0 {L : List Nat} {day : Nat} : frc L day day = 0 := by
  unfold frc
  rw [List.length_eq_zero_iff, List.filter_eq_nil_iff]
  intro a _
  simp; omega
theorem wkc_s {L : List Nat} (day b : Nat) : wkc L day (b + 1) = wkc L day b + (if day < b + 1 ∧ wk L (b + 1) = true then 1 else 0) := by
  unfold wkc
  rw [List.range_succ, List.filter_append, List.length_append]
  by_cases q : day < b + 1 ∧ wk L (b + 1) = true
  · simp [q.1, q.2]
  · rw [if_neg q]
    have : (decide (day < b + 1) && wk L (b + 1)) = false := by
      by_cases z : day < b + 1
      · have : ¬ wk L (b + 1) = true := fun y => q ⟨z, y⟩
        simp [this]
      · simp [z]
    simp [List.filter_cons, this]
theorem wkc_0 {L : List Nat} {day : Nat} : wkc L day day = 0 := by
  unfold wkc
  rw [List.length_eq_zero_iff, List.filter_eq_nil_iff]
  intro a ha
  have := List.mem_range.mp ha
  have : ¬ day < a := by omega
  simp [this]
/-- working days, free weekdays and weekdays behind a day -/
theorem wk_sum {L : List Nat} (hs : L.Pairwise (· < ·)) (day : Nat) : ∀ k, wkc L day (day + k) + frc L day (day + k) + Wd day = Wd (day + k)
  | 0 => by rw [Nat.add_zero, wkc_0, frc_0]; omega
  | k + 1 => by
    have ih := wk_sum hs day k
    rw [← Nat.add_assoc, wkc_s, frc_s hs, Wd_s]
    have hd : day < day + k + 1 := by omega
    have e : wk L (day + k + 1) = (decide ((day + k + 1) % 7 < 5) && !L.contains (day + k + 1)) := rfl
    by_cases q : (day + k + 1) % 7 < 5
    · by_cases z : day + k + 1 ∈ L
      · have : L.contains (day + k + 1) = true := List.contains_iff_mem.mpr z
        rw [if_neg (by rw [e, this]; simp), if_pos ⟨hd, q, z⟩, if_pos q]; omega
      · have : L.contains (day + k + 1) = false := by
          cases h : L.contains (day + k + 1) with
          | false => rfl
          | true => exact absurd (List.contains_iff_mem.mp h) z
        rw [if_pos ⟨hd, by rw [e, this]; simp [q]⟩, if_neg (fun y => z y.2.2), if_pos q]; omega
    · rw [if_neg (by rw [e]; simp [q]), if_neg (fun y => q y.2.1), if_neg q]; omega
theorem range_filter_at {p : Nat → Bool} {d N : Nat} (hd : d < N) (hp : p d = true) : ((List.range N).filter p).getD (((List.range d).filter p).length) 0 = d := by
  have e : List.range N = List.range d ++ d :: (List.range (N - d - 1)).map (d + 1 + ·) := by
    rw [show N = (d + 1) + (N - d - 1) by omega, List.range_add, List.range_succ, List.append_assoc, show d + 1 + (N - d - 1) - d - 1 = N - d - 1 by omega]; rfl
  rw [e, List.filter_append, List.filter_cons, if_pos hp, List.getD_eq_getElem?_getD, List.getElem?_append_right (Nat.le_refl _), Nat.sub_self]; rfl
theorem wkc_mono {L : List Nat} {day a : Nat} : ∀ {b : Nat}, a ≤ b → wkc L day a ≤ wkc L day b
  | 0, h => by have : a = 0 := by omega
               subst this; exact Nat.le_refl _
  | b + 1, h => by
    rcases Nat.lt_or_ge b a with q | q
    · have : a = b + 1 := by omega
      subst this; exact Nat.le_refl _
    · have := wkc_mono (day := day) (L := L) q
      rw [wkc_s]; omega
/-- the due day by weekdays: x is what the walk over the free days comes to -/
theorem due_ok {L : List Nat} (hs : L.Pairwise (· < ·)) (hm : ∀ d ∈ L, d ≤ 9999) {day v x : Nat} (hd : day ≤ 9999) (hv : 1 ≤ v) (hvb : v < 2 ^ 31) (hx : x = Wd day + v + frc L day (dW x)) (hn : dW x ∉ L) : dueN L day (nI v) = nI (min (dW x) 9999) := by
  have hx1 : 1 ≤ x := by omega
  have hlt : day < dW x := by
    rcases Nat.lt_or_ge day (dW x) with q | q
    · exact q
    · have := Wd_mono q; rw [Wd_dW hx1] at this; omega
  have hsum := wk_sum hs day (dW x - day)
  rw [show day + (dW x - day) = dW x by omega, Wd_dW hx1] at hsum
  have hc : wkc L day (dW x) = v := by omega
  have hw : wk L (dW x) = true := by
    unfold wk
    have : L.contains (dW x) = false := by
      cases h : L.contains (dW x) with
      | false => rfl
      | true => exact absurd (List.contains_iff_mem.mp h) hn
    rw [this]; simp [dW_wd]
  obtain ⟨y, hy⟩ : ∃ y, dW x = y + 1 := ⟨dW x - 1, by omega⟩
  have hc2 : wkc L day y + 1 = v := by
    rw [hy, wkc_s, if_pos ⟨by omega, by rw [← hy]; exact hw⟩] at hc; exact hc
  have hb : (bhd L day).length = wkc L day 9999 := rfl
  have hbl : (bhd L day).length ≤ 10000 := by have := List.length_filter_le (fun d => decide (day < d) && wk L d) (List.range 10000); rw [List.length_range] at this; exact this
  unfold dueN
  rw [if_neg (by rw [n1]; exact nI_nlt hv hvb)]
  by_cases q : dW x ≤ 9999
  · have hle : v ≤ (bhd L day).length := by rw [hb, ← hc]; exact wkc_mono q
    rw [if_neg (nI_nlt hle (by omega)), nI_clamp hvb, Nat.min_eq_left q]
    have hz : (bhd L day).getD (((List.range (dW x)).filter (fun d => decide (day < d) && wk L d)).length) 0 = dW x := range_filter_at (p := fun d => decide (day < d) && wk L d) (d := dW x) (N := 10000) (by omega) (by simp [hlt, hw])
    have e : ((List.range (dW x)).filter (fun d => decide (day < d) && wk L d)).length = v - 1 := by
      rw [hy]; show wkc L day y = v - 1; omega
    rw [e] at hz; exact congrArg nI hz
  · have h1 : wkc L day 9999 ≤ wkc L day y := wkc_mono (by omega)
    rw [if_pos (nI_lt (by rw [hb]; omega) hvb), Nat.min_eq_right (by omega)]; rfl
theorem pk_rem' {a d : Nat} (ha : a < 2 ^ 31) (h0 : 0 < d) (hd : d < 2 ^ 31) : nI a - nI (a / d) * nI d = nI (a % d) := by rw [← pk_div ha h0 hd]; exact pk_rem ha h0 hd
section CA
variable {X : GX} {h : SH} {a m : Nat} {L : List Nat}
theorem c_weekdaysUpTo {d : Nat} (hd : d ≤ 9999) : Cd X mX0_weekdaysUpTo [.int (nI d)] h 0 0 (oI (fun r t => t = h ∧ r = nI (Wd d)) nX) := by
  refine bkX0_weekdaysUpTo_0 (bkX0_weekdaysUpTo_18 ⟨rfl, ?_⟩)
  rw [nI_1, n7, pk_div (by omega) (by decide) (by decide), pk_rem' (by omega) (by decide) (by decide), n5, pk_mul]
  by_cases q : 5 < (d + 1) % 7
  · rw [if_pos (nI_lt q (by omega)), nI_add]; unfold Wd; rw [Nat.min_eq_right (by omega)]
  · rw [if_neg (nI_nlt (by omega) (by omega)), nI_add]; unfold Wd; rw [Nat.min_eq_left (by omega)]
theorem c_isWeekday {d : Nat} (hd : d ≤ 9999) : Cd X mX0_isWeekday [.int (nI d)] h 0 0 (oI (fun r t => t = h ∧ r = bI (decide (d % 7 < 5))) nX) := by
  refine bkX0_isWeekday_0 (fun q => ?_) (fun q => ?_)
  · rw [n7, pk_rem (by omega) (by decide) (by decide), n5, nI_leI (by omega) (by omega)] at q
    exact bkX0_isWeekday_12 (bkX0_isWeekday_13 (Or.inl rfl) ⟨rfl, by rw [decide_eq_false (by omega)]; rfl⟩)
  · rw [n7, pk_rem (by omega) (by decide) (by decide), n5, nI_leI (by omega) (by omega)] at q
    exact bkX0_isWeekday_8 (bkX0_isWeekday_13 (Or.inr rfl) ⟨rfl, by rw [decide_eq_true (by omega)]; rfl⟩)
theorem frc_take {day b i : Nat} (hi : i < L.length) : frc (L.take (i + 1)) day b = frc (L.take i) day b + (if day < L[i] ∧ L[i] ≤ b ∧ L[i] % 7 < 5 then 1 else 0) := by
  unfold frc
  rw [List.take_succ_eq_append_getElem hi, List.filter_append, List.length_append]
  by_cases q : day < L[i] ∧ L[i] ≤ b ∧ L[i] % 7 < 5
  · simp [q.1, q.2.1, q.2.2]
  · rw [if_neg q]
    have : (decide (day < L[i]) && (decide (L[i] ≤ b) && decide (L[i] % 7 < 5))) = false := by
      cases h : (decide (day < L[i]) && (decide (L[i] ≤ b) && decide (L[i] % 7 < 5))) with
      | false => rfl
      | true => simp at h; exact absurd h q
    simp [List.filter_cons, this]
theorem c_workingDays {f t0 : Nat} (C : CalR h a L) (h1 : f ≤ t0) (h2 : t0 ≤ 9999) : Cd X mX0_workingDays [.ref a, .int (nI f), .int (nI t0)] h 0 0 (oI (fun r t => t = h ∧ r = nI (wkc L f t0)) nX) := by
  obtain ⟨F, hc, hl, hv, hs, hm⟩ := C
  have hsum := wk_sum hs f (t0 - f)
  rw [show f + (t0 - f) = t0 by omega] at hsum
  have hW : ∀ d, d ≤ 9999 → Wd d ≤ 10000 := fun d hd => by unfold Wd; omega
  have hWt := hW t0 h2
  refine bkX0_workingDays_0 (c_weekdaysUpTo h2) (fun r t hq => ?_)
  obtain ⟨rfl, rfl⟩ := hq
  refine bkX0_workingDays_4 (c_weekdaysUpTo (by omega)) (fun r t hq => ?_)
  obtain ⟨rfl, rfl⟩ := hq
  refine bkX0_workingDays_8 ?_
  rw [pk_sub (Wd_mono h1)]
  generalize hP : oI (fun r u => u = t ∧ r = nI (wkc L f t0)) nX = P
  have tk : ∀ i, frc (L.take i) f t0 ≤ frc L f t0 := fun i => by
    unfold frc
    conv => rhs; rw [← List.take_append_drop i L]
    rw [List.filter_append, List.length_append]; omega
  refine for_up (G := fun i u => Gd X mX0_workingDays 13 [some (.ref a), some (.int (nI f)), some (.int (nI t0)), some (.int (nI (Wd t0 - Wd f - frc (L.take i) f t0))), some (.int (nI i))] [] u 0 0 P) (I := fun i u => u = t) L.length ?_ ?_ 0 t (Nat.zero_le _) rfl
  · rintro u rfl
    refine bkX0_workingDays_13 F (fun _ => bkX0_workingDays_66 ?_) (fun q => absurd (by rw [hc]; exact (Int32.le_refl _)) q)
    rw [← hP]
    refine ⟨rfl, ?_⟩
    rw [List.take_length]; congr 1; omega
  · rintro i u hi rfl ih
    have hx := hv i hi
    have hb := hm _ (List.getElem_mem hi)
    have htk := tk (i + 1)
    refine bkX0_workingDays_13 F (fun q => ?_) (fun _ => ?_)
    · rw [hc] at q; exact absurd q (nI_ge hi (by omega))
    have nx : ∀ x : Nat, x = Wd t0 - Wd f - frc (L.take (i + 1)) f t0 → Gd X mX0_workingDays 60 [some (.ref a), some (.int (nI f)), some (.int (nI t0)), some (.int (nI x)), some (.int (nI i))] [] u 0 0 P := fun x hx => by
      refine bkX0_workingDays_60 ?_
      rw [nI_1, hx]; exact ih u rfl
    rw [frc_take hi] at nx htk
    refine bkX0_workingDays_22 F (vp_in_nI (by omega) (by omega)) (fun q => ?_) (fun q1 => ?_)
    · rw [nI_clamp (by omega), hx, nI_leI (by omega) (by omega)] at q
      exact nx _ (by rw [if_neg (by omega), Nat.add_zero])
    rw [nI_clamp (by omega), hx, nI_leI (by omega) (by omega)] at q1
    refine bkX0_workingDays_33 F (vp_in_nI (by omega) (by omega)) (fun q => ?_) (fun q2 => ?_)
    · rw [nI_clamp (by omega), hx, nI_ltI (by omega) (by omega)] at q
      exact nx _ (by rw [if_neg (by omega), Nat.add_zero])
    rw [nI_clamp (by omega), hx, nI_ltI (by omega) (by omega)] at q2
    refine bkX0_workingDays_44 F (vp_in_nI (by omega) (by omega)) (by rw [nI_clamp (by omega), hx]; exact c_isWeekday hb) (fun r t hq => ?_)
    obtain ⟨rfl, rfl⟩ := hq
    refine bkX0_workingDays_54 (fun q => ?_) (fun q => ?_)
    · rw [bI_0] at q
      exact nx _ (by rw [if_neg (fun z => by simp at q; omega), Nat.add_zero])
    · rw [bI_0] at q
      simp at q
      have hcond : f < L[i] ∧ L[i] ≤ t0 ∧ L[i] % 7 < 5 := ⟨by omega, by omega, by omega⟩
      rw [if_pos hcond] at nx htk
      refine bkX0_workingDays_57 ?_
      rw [show Wd t0 - Wd f - frc (L.take i) f t0 = (Wd t0 - Wd f - (frc (L.take i) f t0 + 1)) + 1 by omega, pk_m1]
      exact nx _ rfl
theorem c_dueDay {day : Nat} {v : Int32} (C : CalR h a L) (hd : day ≤ 9999) (hv : v.toInt < 10 ^ 9) : Cd X mX0_dueDay [.ref a, .int (nI day), .int v] h 0 0 (oI (fun r t => t = h ∧ r = dueN L day v) nX) := by
  obtain ⟨F, hc, hl, hvv, hs, hm⟩ := C
  refine bkX0_dueDay_0 (fun q => ?_) (fun q => ?_)
  · have hnl : ¬ v < 0 := fun z => by
      rw [Int32.lt_iff_toInt_lt] at z
      rw [Int32.le_iff_toInt_le] at q
      have e0 : (0 : Int32).toInt = 0 := rfl
      have e1 : (1 : Int32).toInt = 1 := rfl
      omega
    obtain ⟨n, hn, rfl⟩ := nI_of hnl
    rw [nI_toInt hn] at hv
    rw [n1, nI_leI (by omega) (by omega)] at q
    have hW : Wd day ≤ 10000 := by unfold Wd; omega
    refine bkX0_dueDay_7 (c_weekdaysUpTo hd) (fun r t hq => ?_)
    obtain ⟨rfl, rfl⟩ := hq
    refine bkX0_dueDay_11 ?_
    rw [nI_add]
    generalize hP : oI (fun r u => u = t ∧ r = dueN L day (nI n)) nX = P
    have frl : ∀ i b, frc (L.take i) day b ≤ 40 := fun i b => by
      unfold frc
      refine Nat.le_trans (List.length_filter_le _ _) ?_
      rw [List.length_take]; omega
    -- the end: x with the walk's properties
    have fin : ∀ (i x : Nat), i ≤ L.length → x = Wd day + n + frc (L.take i) day 9999 → (∀ (j : Nat) (hj : j < L.length), j < i → day < L[j] → L[j] % 7 < 5 → Wd L[j] < x) → (∀ hi : i < L.length, x < Wd L[i]) → Gd X mX0_dueDay 73 [none, none, none, some (.int (nI x)), none] [] t 0 0 P := fun i x hi hx hlo hhi => by
      have hfl := frl i 9999
      have hx1 : 1 ≤ x := by omega
      have hhi2 : ∀ (j : Nat) (hj : j < L.length), i ≤ j → x < Wd L[j] := fun j hj hij => by
        have hi2 : i < L.length := by omega
        have h1 := hhi hi2
        rcases Nat.eq_or_lt_of_le hij with z | z
        · subst z; exact h1
        · have := Wd_mono (Nat.le_of_lt (List.pairwise_iff_getElem.mp hs i j hi2 hj z)); omega
      have hlt : day < dW x := by
        rcases Nat.lt_or_ge day (dW x) with q | q
        · exact q
        · have := Wd_mono q; rw [Wd_dW hx1] at this; omega
      have hfr : frc L day (dW x) = frc (L.take i) day 9999 := by
        unfold frc
        conv => lhs; rw [← List.take_append_drop i L]
        rw [List.filter_append]
        have e1 : (L.drop i).filter (fun f => decide (day < f) && (decide (f ≤ dW x) && decide (f % 7 < 5))) = [] := by
          rw [List.filter_eq_nil_iff]
          intro f hf
          obtain ⟨j, hj, rfl⟩ := List.mem_iff_getElem.mp hf
          rw [List.length_drop] at hj
          rw [List.getElem_drop]
          have h1 := hhi2 (i + j) (by omega) (by omega)
          intro z
          simp at z
          have := Wd_mono z.2.1
          rw [Wd_dW hx1] at this; omega
        rw [e1, List.append_nil]
        congr 1
        apply List.filter_congr
        intro f hf
        obtain ⟨j, hj, rfl⟩ := List.mem_iff_getElem.mp hf
        rw [List.length_take] at hj
        rw [List.getElem_take]
        have hjl : j < L.length := by omega
        have hb := hm _ (List.getElem_mem hjl)
        by_cases c : day < L[j] ∧ L[j] % 7 < 5
        · have h1 := hlo j hjl (by omega) c.1 c.2
          have h2 : L[j] ≤ dW x := by
            rcases Nat.lt_or_ge (dW x) L[j] with y | y
            · have := Wd_lt y c.2; rw [Wd_dW hx1] at this; omega
            · exact y
          simp [h2, hb]
        · by_cases c1 : day < L[j]
          · have : ¬ L[j] % 7 < 5 := fun z => c ⟨c1, z⟩
            simp [this]
          · simp [c1]
      have hnm : dW x ∉ L := fun z => by
        obtain ⟨j, hj, e⟩ := List.mem_iff_getElem.mp z
        rcases Nat.lt_or_ge j i with y | y
        · have := hlo j hj y (by rw [e]; exact hlt) (by rw [e]; exact dW_wd x)
          rw [e, Wd_dW hx1] at this; omega
        · have := hhi2 j hj y
          rw [e, Wd_dW hx1] at this; omega
      have key := due_ok hs hm hd q hn (by rw [hfr]; exact hx) hnm
      refine bkX0_dueDay_73 (bkX0_dueDay_97 ?_)
      rw [← hP]
      refine ⟨rfl, ?_⟩
      obtain ⟨y, hy⟩ : ∃ y, x = y + 1 := ⟨x - 1, by omega⟩
      have e1 : ((nI x - 1) / 5 * 7 + (nI x - 1 - (nI x - 1) / 5 * 5) : Int32) = nI (dW x) := by
        rw [hy, nI_pred, n5, pk_div (by omega) (by decide) (by decide), pk_rem' (by omega) (by decide) (by decide), n7, pk_mul, nI_add]; rfl
      rw [e1, key]
      have hdw : dW x < 2 ^ 31 := by unfold dW; omega
      by_cases z : 9999 < dW x
      · rw [if_pos (by rw [n9999]; exact nI_lt z hdw), Nat.min_eq_right (by omega)]; rfl
      · rw [if_neg (by rw [n9999]; exact nI_nlt (by omega) (by omega)), Nat.min_eq_left (by omega)]
    refine for_up (G := fun i u => ∀ x : Nat, x = Wd day + n + frc (L.take i) day 9999 → (∀ (j : Nat) (hj : j < L.length), j < i → day < L[j] → L[j] % 7 < 5 → Wd L[j] < x) → Gd X mX0_dueDay 17 [some (.ref a), some (.int (nI day)), none, some (.int (nI x)), some (.int (nI i))] [] u 0 0 P) (I := fun i u => u = t) L.length ?_ ?_ 0 t (Nat.zero_le _) rfl (Wd day + n) (by rw [List.take_zero]; rfl) (fun j hj z => absurd z (Nat.not_lt_zero _))
    · rintro u rfl x hx hlo
      exact bkX0_dueDay_17 F (fun _ => fin L.length x (Nat.le_refl _) hx hlo (fun z => absurd z (Nat.lt_irrefl _))) (fun q => absurd (by rw [hc]; exact (Int32.le_refl _)) q)
    · rintro i u hi rfl ih x hx hlo
      have hxx := hvv i hi
      have hb := hm _ (List.getElem_mem hi)
      have hfl := frl i 9999
      have hWi : Wd L[i] ≤ 10000 := by unfold Wd; omega
      refine bkX0_dueDay_17 F (fun q => ?_) (fun _ => ?_)
      · rw [hc] at q; exact absurd q (nI_ge hi (by omega))
      refine bkX0_dueDay_26 F (vp_in_nI (by omega) (by omega)) (by rw [nI_clamp (by omega), hxx]; exact c_weekdaysUpTo hb) (fun r t hq => ?_)
      obtain ⟨rfl, rfl⟩ := hq
      refine bkX0_dueDay_36 (fun z => ?_) (fun z => ?_)
      · rw [nI_ltI (by omega) (by omega)] at z
        exact fin i x (Nat.le_of_lt hi) hx hlo (fun _ => z)
      rw [nI_ltI (by omega) (by omega)] at z
      have nx : ∀ y : Nat, y = Wd day + n + frc (L.take (i + 1)) day 9999 → (∀ (j : Nat) (hj : j < L.length), j < i + 1 → day < L[j] → L[j] % 7 < 5 → Wd L[j] < y) → Gd X mX0_dueDay 67 [some (.ref a), some (.int (nI day)), none, some (.int (nI y)), some (.int (nI i))] [] t 0 0 P := fun y h1 h2 => by
        refine bkX0_dueDay_67 ?_
        rw [nI_1]; exact ih t rfl y h1 h2
      rw [frc_take hi] at nx
      have no : ¬ (day < L[i] ∧ L[i] % 7 < 5) → Gd X mX0_dueDay 67 [some (.ref a), some (.int (nI day)), none, some (.int (nI x)), some (.int (nI i))] [] t 0 0 P := fun c => nx x (by rw [if_neg (fun y => c ⟨y.1, y.2.2⟩)]; exact hx) (fun j hj hj2 c1 c2 => by
        rcases Nat.lt_or_ge j i with y | y
        · exact hlo j hj y c1 c2
        · have : j = i := by omega
          subst this; exact absurd ⟨c1, c2⟩ c)
      refine bkX0_dueDay_40 F (vp_in_nI (by omega) (by omega)) (fun y => ?_) (fun y => ?_)
      · rw [nI_clamp (by omega), hxx, nI_leI (by omega) (by omega)] at y
        exact no (fun c => by omega)
      rw [nI_clamp (by omega), hxx, nI_leI (by omega) (by omega)] at y
      refine bkX0_dueDay_51 F (vp_in_nI (by omega) (by omega)) (by rw [nI_clamp (by omega), hxx]; exact c_isWeekday hb) (fun r t9 hq => ?_)
      obtain ⟨rfl, rfl⟩ := hq
      refine bkX0_dueDay_61 (fun q9 => ?_) (fun q9 => ?_)
      · rw [bI_0] at q9
        exact no (fun c => by simp at q9; omega)
      · rw [bI_0] at q9
        simp at q9
        refine bkX0_dueDay_64 ?_
        rw [nI_1]
        refine nx (x + 1) (by rw [if_pos ⟨by omega, by omega, by omega⟩]; omega) (fun j hj hj2 c1 c2 => ?_)
        rcases Nat.lt_or_ge j i with y | y
        · have := hlo j hj y c1 c2; omega
        · have : j = i := by omega
          subst this; omega
  · refine bkX0_dueDay_5 ⟨rfl, ?_⟩
    unfold dueN
    rw [if_pos (Int32.not_le.mp q)]
/-- the model's calendar -/
def CalM (h : SH) (m : Nat) (L : List Nat) : Prop := hI h m 36 = nI L.length ∧ L.length ≤ 40 ∧ (∀ d, d < 10000 → hI h (m + 28) d = bI (L.contains d)) ∧ L.Pairwise (· < ·) ∧ ∀ d ∈ L, d ≤ 9999
theorem c_isWorking {d : Nat} (F : LX11 (Sk h) m) (hf : ∀ d, d < 10000 → hI h (m + 28) d = bI (L.contains d)) (hd : d < 10000) : Cd X mX11_isWorking [.ref m, .int (nI d)] h 0 0 (oI (fun r t => t = h ∧ r = bI (wk L d)) nX) := by
  refine bkX11_isWorking_0 (fun q => ?_) (fun q => ?_)
  · rw [n7, pk_rem (by omega) (by decide) (by decide), n5, nI_leI (by omega) (by omega)] at q
    refine bkX11_isWorking_21 (bkX11_isWorking_22 (Or.inl rfl) ⟨rfl, ?_⟩)
    unfold wk; rw [decide_eq_false (by omega)]; rfl
  · rw [n7, pk_rem (by omega) (by decide) (by decide), n5, nI_leI (by omega) (by omega)] at q
    refine bkX11_isWorking_8 F (vp_in_nI (by omega) (by omega)) (fun z => ?_) (fun z => ?_)
    · rw [nI_clamp (by omega), hf d hd, bI_0] at z
      refine bkX11_isWorking_21 (bkX11_isWorking_22 (Or.inl rfl) ⟨rfl, ?_⟩)
      have : L.contains d = true := by simpa using z
      unfold wk; rw [this]; simp [bI]
    · rw [nI_clamp (by omega), hf d hd, bI_0] at z
      refine bkX11_isWorking_17 (bkX11_isWorking_22 (Or.inr rfl) ⟨rfl, ?_⟩)
      unfold wk; rw [z, decide_eq_true (by omega)]; rfl
theorem c_workingIn {f t0 : Nat} (F : LX11 (Sk h) m) (C : CalM h m L) (h1 : f ≤ t0) (h2 : t0 ≤ 9999) : Cd X mX11_workingIn [.ref m, .int (nI f), .int (nI t0)] h 0 0 (oI (fun r t => t = h ∧ r = nI (wkc L f t0)) nX) := by
  refine bkX11_workingIn_0 ?_
  rw [nI_1]
  generalize hP : oI (fun r u => u = h ∧ r = nI (wkc L f t0)) nX = P
  have k := for_up (G := fun i u => Gd X mX11_workingIn 7 [some (.ref m), none, some (.int (nI t0)), some (.int (nI (wkc L f (f + i)))), some (.int (nI (f + 1 + i)))] [] u 0 0 P) (I := fun i u => u = h) (t0 - f) ?_ ?_ 0 h (Nat.zero_le _) rfl
  · rw [Nat.add_zero, wkc_0] at k; exact k
  · rintro u rfl
    refine bkX11_workingIn_7 (fun _ => bkX11_workingIn_36 ?_) (fun q => absurd (nI_lt (by omega) (by omega)) q)
    rw [← hP]
    exact ⟨rfl, by rw [show f + (t0 - f) = t0 by omega]⟩
  · rintro i u hi rfl ih
    refine bkX11_workingIn_7 (fun q => absurd q (nI_nlt (by omega) (by omega))) (fun _ => ?_)
    refine bkX11_workingIn_13 F (c_isWorking F C.2.2.1 (by omega)) (fun r t hq => ?_)
    obtain ⟨rfl, rfl⟩ := hq
    have e : f + 1 + i = f + i + 1 := by omega
    have nx : ∀ b : Nat, b = (if f < f + i + 1 ∧ wk L (f + i + 1) = true then 1 else 0) → Gd X mX11_workingIn 28 [some (.ref m), none, some (.int (nI t0)), none, some (.int (nI (f + 1 + i)))] [.int (nI b), .int (nI (wkc L f (f + i)))] t 0 0 P := fun b hb => by
      refine bkX11_workingIn_28 ?_
      rw [nI_add, nI_1, hb, ← wkc_s, Nat.add_assoc f 1 i, Nat.add_comm 1 i, Nat.add_assoc f i 1]
      have := ih t rfl
      rw [show f + 1 + (i + 1) = f + (i + 1) + 1 by omega] at this
      exact this
    refine bkX11_workingIn_20 (fun q => ?_) (fun q => ?_)
    · rw [bI_0, e] at q
      exact bkX11_workingIn_27 (nx 0 (by rw [if_neg (fun z => by rw [q] at z; cases z.2)]))
    · rw [bI_0, e] at q
      exact bkX11_workingIn_23 (nx 1 (by rw [if_pos ⟨by omega, by simpa using q⟩]))
/-- the working days behind a day, in the model's row -/
def Bhd (h : SH) (m : Nat) (B : List Nat) : Prop := hI h m 38 = nI B.length ∧ ∀ (i : Nat) (hi : i < B.length), hI h (m + 29) i = nI B[i]
abbrev bhS (m : Nat) : Nat → Prop := fun b => b = m ∨ b = m + 29
theorem c_findBehind {day : Nat} (F : LX11 (Sk h) m) (C : CalM h m L) (hd : day ≤ 9999) : Cd X mX11_findBehind [.ref m, .int (nI day)] h 0 0 (oV (fun t => (chI (bhS m) h t ∧ ∀ j, j ≠ 38 → hI t m j = hI h m j) ∧ Bhd t m (bhd L day)) nX) := by
  refine bkX11_findBehind_0 F ?_
  rw [nI_1]
  generalize hP : oV (fun t => (chI (bhS m) h t ∧ ∀ j, j ≠ 38 → hI t m j = hI h m j) ∧ Bhd t m (bhd L day)) nX = P
  have e0 : ∀ b, b ≤ day → (List.range (b + 1)).filter (fun d => decide (day < d) && wk L d) = [] := fun b hb => by
    rw [List.filter_eq_nil_iff]
    intro x hx
    have := List.mem_range.mp hx
    have : ¬ day < x := by omega
    simp [this]
  have k := for_up (G := fun i u => Gd X mX11_findBehind 9 [some (.ref m), none, some (.int (nI (day + 1 + i)))] [] u 0 0 P)
    (I := fun i u => (chI (bhS m) h u ∧ ∀ j, j ≠ 38 → hI u m j = hI h m j) ∧ Bhd u m ((List.range (day + 1 + i)).filter (fun d => decide (day < d) && wk L d))) (9999 - day) ?_ ?_ 0 (sI h m 38 0) (Nat.zero_le _) ⟨⟨chI.rf.s (Or.inl rfl), fun j hj => sI_nj hj⟩, by rw [Nat.add_zero, e0 day (Nat.le_refl _)]; exact ⟨sI_at, fun i hi => absurd hi (Nat.not_lt_zero _)⟩⟩
  · exact k
  · rintro u ⟨k1, k2⟩
    refine bkX11_findBehind_9 (fun _ => bkX11_findBehind_50 ?_) (fun q => absurd (by rw [n9999]; exact nI_lt (by omega) (by omega)) q)
    rw [← hP]
    rw [show day + 1 + (9999 - day) = 10000 by omega] at k2
    exact ⟨k1, k2⟩
  · rintro i u hi ⟨k1, k2⟩ ih
    have F' : LX11 (Sk u) m := k1.1.1 ▸ F
    refine bkX11_findBehind_9 (fun q => absurd q (by rw [n9999]; exact nI_nlt (by omega) (by omega))) (fun _ => ?_)
    refine bkX11_findBehind_16 F' (c_isWorking F' (fun d hd => by rw [k1.1.2.2 (m + 28) (by omega)]; exact C.2.2.1 d hd) (by omega)) (fun r t hq => ?_)
    obtain ⟨rfl, rfl⟩ := hq
    have es : (List.range (day + 1 + (i + 1))).filter (fun d => decide (day < d) && wk L d) = (List.range (day + 1 + i)).filter (fun d => decide (day < d) && wk L d) ++ (if wk L (day + 1 + i) = true then [day + 1 + i] else []) := by
      rw [← Nat.add_assoc, List.range_succ, List.filter_append]
      congr 1
      have : day < day + 1 + i := by omega
      by_cases z : wk L (day + 1 + i) = true
      · simp [this, z]
      · simp [z]
    have hlen : ((List.range (day + 1 + i)).filter (fun d => decide (day < d) && wk L d)).length < 10000 := by
      have := List.length_filter_le (fun d => decide (day < d) && wk L d) (List.range (day + 1 + i)); rw [List.length_range] at this; omega
    generalize (List.range (day + 1 + i)).filter (fun d => decide (day < d) && wk L d) = B at k2 es hlen
    refine bkX11_findBehind_21 (fun q => ?_) (fun q => ?_)
    · rw [bI_0] at q
      refine bkX11_findBehind_44 ?_
      rw [nI_1]
      refine ih t ⟨k1, ?_⟩
      rw [es, q]; simpa using k2
    · rw [bI_0] at q
      have hw : wk L (day + 1 + i) = true := by simpa using q
      refine bkX11_findBehind_24 F' (by rw [k2.1]; exact (vp_in_nI (by omega) (by omega))) ?_
      rw [k2.1, nI_clamp (by omega), sI_nb (by omega), k2.1, nI_1]
      refine bkX11_findBehind_44 ?_
      rw [nI_1]
      refine ih _ ⟨⟨(k1.1.s (Or.inr rfl)).s (Or.inl rfl), fun j hj => by rw [sI_nj hj, sI_nb (by omega)]; exact k1.2 j hj⟩, ?_⟩
      rw [es, if_pos hw]
      refine ⟨by rw [sI_at]; simp, fun j hj => ?_⟩
      rw [sI_nb (by omega)]
      by_cases z : j = B.length
      · subst z; rw [sI_at]; simp
      · have : j < B.length := by simp at hj; omega
        rw [sI_nj z, k2.2 j this, List.getElem_append_left this]
theorem c_dayOf {day : Nat} {v : Int32} (F : LX11 (Sk h) m) (B : Bhd h m (bhd L day)) (hv : v.toInt < 10 ^ 9) : Cd X mX11_dayOf [.ref m, .int (nI day), .int v] h 0 0 (oI (fun r t => t = h ∧ r = dueN L day v) nX) := by
  have hbl : (bhd L day).length ≤ 10000 := by have := List.length_filter_le (fun d => decide (day < d) && wk L d) (List.range 10000); rw [List.length_range] at this; exact this
  refine bkX11_dayOf_0 (fun q => ?_) (fun q => ?_)
  · have hnl : ¬ v < 0 := fun z => by
      rw [Int32.lt_iff_toInt_lt] at z
      rw [Int32.le_iff_toInt_le] at q
      have e0 : (0 : Int32).toInt = 0 := rfl
      have e1 : (1 : Int32).toInt = 1 := rfl
      omega
    obtain ⟨n, hn, rfl⟩ := nI_of hnl
    rw [n1, nI_leI (by omega) (by omega)] at q
    refine bkX11_dayOf_9 F (fun z => ?_) (fun z => ?_)
    · rw [B.1, nI_leI (by omega) (by omega)] at z
      obtain ⟨y, rfl⟩ : ∃ y, n = y + 1 := ⟨n - 1, by omega⟩
      refine bkX11_dayOf_23 F (by rw [nI_pred]; exact (vp_in_nI (by omega) (by omega))) (bkX11_dayOf_31 ⟨rfl, ?_⟩)
      rw [nI_pred, nI_clamp (by omega), B.2 y (by omega)]
      unfold dueN
      rw [if_neg (by rw [n1]; exact nI_nlt (by omega) (by omega)), if_neg (nI_nlt z (by omega)), nI_clamp (by omega), Nat.add_sub_cancel, List.getD_eq_getElem?_getD, List.getElem?_eq_getElem (by omega)]; rfl
    · rw [B.1, nI_leI (by omega) (by omega)] at z
      refine bkX11_dayOf_17 (bkX11_dayOf_31 ⟨rfl, ?_⟩)
      unfold dueN
      rw [if_neg (by rw [n1]; exact nI_nlt (by omega) (by omega)), if_pos (nI_lt (by omega) (by omega))]
  · refine bkX11_dayOf_5 (bkX11_dayOf_31 ⟨rfl, ?_⟩)
    unfold dueN
    rw [if_pos (Int32.not_le.mp q)]
end CA
