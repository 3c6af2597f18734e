/-! ===== tokens, told once ===== -/
/-- only the rows of ints and longs in S have changed -/
def chR (S : Nat → Prop) (h t : SH) : Prop := Sk t = Sk h ∧ ∀ b, ¬ S b → hI t b = hI h b ∧ hJ t b = hJ h b
theorem chR.rf {S : Nat → Prop} {h : SH} : chR S h h := ⟨rfl, fun _ _ => ⟨rfl, rfl⟩⟩
theorem chR.tr {S : Nat → Prop} {h t u : SH} (a : chR S h t) (b : chR S t u) : chR S h u := ⟨b.1.trans a.1, fun q hq => ⟨(b.2 q hq).1.trans (a.2 q hq).1, (b.2 q hq).2.trans (a.2 q hq).2⟩⟩
theorem chR.up {S S' : Nat → Prop} {h t : SH} (a : chR S h t) (hs : ∀ b, S b → S' b) : chR S' h t := ⟨a.1, fun q hq => a.2 q (fun z => hq (hs q z))⟩
theorem sJ_at {h : SH} {a i : Nat} {v : Int64} : hJ (sJ h a i v) a i = v := by rw [hJ_sJ, if_pos ⟨rfl, rfl⟩]
theorem sJ_ne {h : SH} {a i b j : Nat} {v : Int64} (q : ¬ (b = a ∧ j = i)) : hJ (sJ h a i v) b j = hJ h b j := by rw [hJ_sJ, if_neg q]
theorem sJ_nj {h : SH} {a i j : Nat} {v : Int64} (q : ¬ j = i) : hJ (sJ h a i v) a j = hJ h a j := sJ_ne (fun z => q z.2)
theorem sJ_nb {h : SH} {a i b : Nat} {v : Int64} (q : ¬ b = a) : hJ (sJ h a i v) b = hJ h b := funext fun _ => sJ_ne (fun z => q z.1)
theorem chR.s {S : Nat → Prop} {h t : SH} {a i : Nat} {v : Int32} (c : chR S h t) (ha : S a) : chR S h (sI t a i v) :=
  ⟨c.1, fun b hb => ⟨(sI_nb (fun q : b = a => hb (q ▸ ha))).trans (c.2 b hb).1, (c.2 b hb).2⟩⟩
theorem chR.j {S : Nat → Prop} {h t : SH} {a i : Nat} {v : Int64} (c : chR S h t) (ha : S a) : chR S h (sJ t a i v) :=
  ⟨c.1, fun b hb => ⟨(c.2 b hb).1, (sJ_nb (fun q : b = a => hb (q ▸ ha))).trans (c.2 b hb).2⟩⟩
theorem chI.chR {S : Nat → Prop} {h t : SH} (c : chI S h t) : chR S h t := ⟨c.1, fun b hb => ⟨c.2.2 b hb, by rw [c.2.1]⟩⟩
theorem chR.hA {S : Nat → Prop} {h t : SH} (a : chR S h t) : hA t = hA h := congrArg (fun k : Skl => k.2.2) a.1
theorem chR.hN {S : Nat → Prop} {h t : SH} (a : chR S h t) (b : Nat) : hN t b = hN h b := congrArg (fun k : Skl => (k.2.1 b).2) a.1
theorem chR.hz {S : Nat → Prop} {h t : SH} (a : chR S h t) : hz t = hz h := congrArg (fun k : Skl => k.1) a.1
/-! a run of signs of one sort -/
theorem tw_at {f : Nat → Bool} : ∀ {l : List Nat} {j : Nat} (hj : j < (l.takeWhile f).length), ∃ h : j < l.length, (l.takeWhile f)[j] = l[j] ∧ f l[j] = true
  | [], j, hj => by simp at hj
  | c :: r, j, hj => by
    by_cases q : f c = true
    · have e : (c :: r).takeWhile f = c :: r.takeWhile f := by rw [List.takeWhile_cons, if_pos q]
      rw [e] at hj
      match j with
      | 0 => exact ⟨by simp, by simp [e], by simpa using q⟩
      | j + 1 =>
        obtain ⟨h1, h2, h3⟩ := tw_at (f := f) (l := r) (j := j) (by simpa using hj)
        exact ⟨by simpa using h1, by simp [e, h2], by simpa using h3⟩
    · have e : (c :: r).takeWhile f = [] := by rw [List.takeWhile_cons, if_neg q]
      rw [e] at hj; simp at hj
theorem tw_end {f : Nat → Bool} : ∀ {l : List Nat} (h : (l.takeWhile f).length < l.length), f l[(l.takeWhile f).length] = false
  | [], h => by simp at h
  | c :: r, h => by
    by_cases q : f c = true
    · have e : (c :: r).takeWhile f = c :: r.takeWhile f := by rw [List.takeWhile_cons, if_pos q]
      have h2 : (r.takeWhile f).length < r.length := by rw [e] at h; simpa using h
      have := tw_end (f := f) (l := r) h2
      simpa [e] using this
    · have e : (c :: r).takeWhile f = [] := by rw [List.takeWhile_cons, if_neg q]
      have q2 : f c = false := by simpa using q
      simpa [e] using q2
theorem tw_le {f : Nat → Bool} (l : List Nat) : (l.takeWhile f).length ≤ l.length := (List.takeWhile_prefix f).length_le
/-- kind (a reserved word's number, 11 a name, 12 a number, 13 none, 14 the end, a sign itself), place, letters, number -/
abbrev Tk : Type := Nat × Nat × List Nat × Nat
def isLt (c : Nat) : Bool := decide (97 ≤ c ∧ c ≤ 122)
def isDg (c : Nat) : Bool := decide (48 ≤ c ∧ c ≤ 57)
def isSg (c : Nat) : Bool := decide (c = 40 ∨ c = 41 ∨ c = 59 ∨ c = 61 ∨ c = 60 ∨ c = 43 ∨ c = 45)
def kwd (w : List Nat) : Nat := rwd.idxOf w
def ltr (r : List Nat) : List Nat := r.map (· - 96)
def dnm (r : List Nat) : Nat := r.foldl (fun v c => v * 10 + (c - 48)) 0
def wTk (p : Nat) (r : List Nat) : Tk := if r.length ≤ 10 then (kwd (ltr r), p, ltr r, 0) else (13, p, [], 0)
def dTk (p : Nat) (r : List Nat) : Tk := if r.length ≤ 4 then (12, p, [], dnm r) else (13, p, [], 0)
def sTk (p c : Nat) : Tk := (if isSg c = true then c else 13, p, [], 0)
def tkz : Nat → Nat → List Nat → List Tk
  | 0, _, _ => []
  | _ + 1, _, [] => []
  | n + 1, p, c :: r => if c = 10 ∨ c = 32 then tkz n (p + 1) r
    else if isLt c = true then wTk p ((c :: r).takeWhile isLt) :: tkz n (p + ((c :: r).takeWhile isLt).length) ((c :: r).drop ((c :: r).takeWhile isLt).length)
    else if isDg c = true then dTk p ((c :: r).takeWhile isDg) :: tkz n (p + ((c :: r).takeWhile isDg).length) ((c :: r).drop ((c :: r).takeWhile isDg).length)
    else sTk p c :: tkz n (p + 1) r
def toks (T : List Nat) : List Tk := tkz T.length 0 T ++ [(14, T.length, [], 0)]
/-- one turn of cutting at place p: what comes, and where it goes on -/
theorem tkz_nil {n p : Nat} : tkz n p [] = [] := by cases n <;> rfl
theorem tw_pos {f : Nat → Bool} {c : Nat} {r : List Nat} (h : f c = true) : 1 ≤ ((c :: r).takeWhile f).length := by
  rw [List.takeWhile_cons, if_pos h]; simp
theorem tkz_at {T : List Nat} {n p : Nat} (hp : p < T.length) : tkz (n + 1) p (T.drop p) = if T[p] = 10 ∨ T[p] = 32 then tkz n (p + 1) (T.drop (p + 1))
    else if isLt T[p] = true then wTk p ((T.drop p).takeWhile isLt) :: tkz n (p + ((T.drop p).takeWhile isLt).length) (T.drop (p + ((T.drop p).takeWhile isLt).length))
    else if isDg T[p] = true then dTk p ((T.drop p).takeWhile isDg) :: tkz n (p + ((T.drop p).takeWhile isDg).length) (T.drop (p + ((T.drop p).takeWhile isDg).length))
    else sTk p T[p] :: tkz n (p + 1) (T.drop (p + 1)) := by
  have e : T.drop p = T[p] :: T.drop (p + 1) := List.drop_eq_getElem_cons hp
  have dk : ∀ k, T.drop (p + k) = (T[p] :: T.drop (p + 1)).drop k := fun k => by rw [← e, List.drop_drop]
  rw [dk ((T.drop p).takeWhile isLt).length, dk ((T.drop p).takeWhile isDg).length, e]
  rfl
/-- what is known of tokens -/
abbrev okK (L : Nat) (t : Tk) : Prop := t.2.1 ≤ L ∧ (t.1 ≤ 11 → okW t.2.2.1 ∧ t.1 = kwd t.2.2.1) ∧ (t.1 = 12 → t.2.2.2 ≤ 9999) ∧ (t.1 ≤ 14 ∨ isSg t.1 = true)
theorem kwd_le (w : List Nat) : kwd w ≤ 11 := by
  have : rwd.idxOf w ≤ rwd.length := List.idxOf_le_length
  exact this
theorem dnm_le : ∀ (r : List Nat) (v : Nat), (∀ c ∈ r, isDg c = true) → r.foldl (fun v c => v * 10 + (c - 48)) v + 1 ≤ (v + 1) * 10 ^ r.length
  | [], v, _ => by simp
  | c :: r, v, h => by
    have h1 := dnm_le r (v * 10 + (c - 48)) (fun d hd => h d (List.mem_cons_of_mem _ hd))
    have h2 : 48 ≤ c ∧ c ≤ 57 := by simpa [isDg] using h c (List.mem_cons_self)
    have h3 : (v * 10 + (c - 48) + 1) * 10 ^ r.length ≤ ((v + 1) * 10) * 10 ^ r.length := Nat.mul_le_mul_right _ (by omega)
    rw [List.foldl_cons, List.length_cons, Nat.pow_succ, show (v + 1) * (10 ^ r.length * 10) = ((v + 1) * 10) * 10 ^ r.length by rw [Nat.mul_assoc, Nat.mul_comm 10]]
    omega
theorem tw_all {f : Nat → Bool} {l : List Nat} : ∀ c ∈ l.takeWhile f, f c = true := fun c hc => by
  obtain ⟨j, hj, rfl⟩ := List.mem_iff_getElem.mp hc
  obtain ⟨h1, h2, h3⟩ := tw_at hj
  rw [h2]; exact h3
theorem wTk_ok {L p : Nat} {l : List Nat} (hp : p ≤ L) (h1 : 1 ≤ (l.takeWhile isLt).length) : okK L (wTk p (l.takeWhile isLt)) := by
  unfold wTk
  by_cases q : (l.takeWhile isLt).length ≤ 10
  · rw [if_pos q]
    have hk := kwd_le (ltr (l.takeWhile isLt))
    refine ⟨hp, fun _ => ⟨⟨by unfold ltr; rw [List.length_map]; exact h1, by unfold ltr; rw [List.length_map]; exact q, fun c hc => ?_⟩, rfl⟩, fun z => ?_, Or.inl ?_⟩
    · unfold ltr at hc
      obtain ⟨d, hd, rfl⟩ := List.mem_map.mp hc
      have : 97 ≤ d ∧ d ≤ 122 := by simpa [isLt] using tw_all d hd
      show 1 ≤ d - 96 ∧ d - 96 ≤ 26
      omega
    · have : kwd (ltr (l.takeWhile isLt)) = 12 := z
      omega
    · show kwd _ ≤ 14; omega
  · rw [if_neg q]
    exact ⟨hp, fun z => by simp at z, fun z => by simp at z, Or.inl (by simp)⟩
theorem dTk_ok {L p : Nat} {l : List Nat} (hp : p ≤ L) : okK L (dTk p (l.takeWhile isDg)) := by
  unfold dTk
  by_cases q : (l.takeWhile isDg).length ≤ 4
  · rw [if_pos q]
    refine ⟨hp, fun z => by simp at z, fun _ => ?_, Or.inl (by simp)⟩
    have h1 := dnm_le (l.takeWhile isDg) 0 (fun c hc => tw_all c hc)
    have h2 : 10 ^ (l.takeWhile isDg).length ≤ 10 ^ 4 := Nat.pow_le_pow_right (by decide) q
    show dnm _ ≤ 9999
    unfold dnm
    omega
  · rw [if_neg q]
    exact ⟨hp, fun z => by simp at z, fun z => by simp at z, Or.inl (by simp)⟩
theorem sTk_ok {L p c : Nat} (hp : p ≤ L) : okK L (sTk p c) := by
  unfold sTk
  by_cases q : isSg c = true
  · rw [if_pos q]
    have hc : c = 40 ∨ c = 41 ∨ c = 59 ∨ c = 61 ∨ c = 60 ∨ c = 43 ∨ c = 45 := by simpa [isSg] using q
    exact ⟨hp, fun z => absurd (show c ≤ 11 from z) (by omega), fun z => absurd (show c = 12 from z) (by omega), Or.inr q⟩
  · rw [if_neg q]
    exact ⟨hp, fun z => by simp at z, fun z => by simp at z, Or.inl (by simp)⟩
theorem wTk_14 {p : Nat} {r : List Nat} : (wTk p r).1 ≠ 14 := by
  unfold wTk
  by_cases q : r.length ≤ 10
  · rw [if_pos q]; have := kwd_le (ltr r); show kwd _ ≠ 14; omega
  · rw [if_neg q]; simp
theorem dTk_14 {p : Nat} {r : List Nat} : (dTk p r).1 ≠ 14 := by
  unfold dTk
  by_cases q : r.length ≤ 4
  · rw [if_pos q]; simp
  · rw [if_neg q]; simp
theorem sTk_14 {p c : Nat} : (sTk p c).1 ≠ 14 := by
  unfold sTk
  by_cases q : isSg c = true
  · rw [if_pos q]
    have hc : c = 40 ∨ c = 41 ∨ c = 59 ∨ c = 61 ∨ c = 60 ∨ c = 43 ∨ c = 45 := by simpa [isSg] using q
    show c ≠ 14; omega
  · rw [if_neg q]; simp
theorem tkz_ok : ∀ (n p : Nat) (l : List Nat), ∀ t ∈ tkz n p l, okK (p + l.length) t ∧ t.1 ≠ 14
  | 0, p, l, t, h => by simp [tkz] at h
  | n + 1, p, [], t, h => by simp [tkz] at h
  | n + 1, p, c :: r, t, h => by
    have up : ∀ (a b : Nat) (t : Tk), a ≤ b → okK a t → okK b t := fun a b t hab q => ⟨Nat.le_trans q.1 hab, q.2⟩
    unfold tkz at h
    have hl1 := tw_le (f := isLt) (c :: r)
    have hl2 := tw_le (f := isDg) (c :: r)
    by_cases q1 : c = 10 ∨ c = 32
    · rw [if_pos q1] at h
      have := tkz_ok n (p + 1) r t h
      exact ⟨up _ _ _ (by rw [List.length_cons]; omega) this.1, this.2⟩
    rw [if_neg q1] at h
    by_cases q2 : isLt c = true
    · rw [if_pos q2] at h
      rcases List.mem_cons.mp h with z | z
      · subst z; exact ⟨wTk_ok (by omega) (tw_pos q2), wTk_14⟩
      · have := tkz_ok n _ _ t z
        exact ⟨up _ _ _ (by rw [List.length_drop]; omega) this.1, this.2⟩
    rw [if_neg q2] at h
    by_cases q3 : isDg c = true
    · rw [if_pos q3] at h
      rcases List.mem_cons.mp h with z | z
      · subst z; exact ⟨dTk_ok (by omega), dTk_14⟩
      · have := tkz_ok n _ _ t z
        exact ⟨up _ _ _ (by rw [List.length_drop]; omega) this.1, this.2⟩
    rw [if_neg q3] at h
    rcases List.mem_cons.mp h with z | z
    · subst z; exact ⟨sTk_ok (by omega), sTk_14⟩
    · have := tkz_ok n _ _ t z
      exact ⟨up _ _ _ (by rw [List.length_cons]; omega) this.1, this.2⟩
theorem tkz_len : ∀ (n p : Nat) (l : List Nat), (tkz n p l).length ≤ n
  | 0, p, l => by simp [tkz]
  | n + 1, p, [] => by simp [tkz]
  | n + 1, p, c :: r => by
    unfold tkz
    by_cases q1 : c = 10 ∨ c = 32
    · rw [if_pos q1]; have := tkz_len n (p + 1) r; omega
    rw [if_neg q1]
    by_cases q2 : isLt c = true
    · rw [if_pos q2, List.length_cons]; exact Nat.succ_le_succ (tkz_len n _ _)
    rw [if_neg q2]
    by_cases q3 : isDg c = true
    · rw [if_pos q3, List.length_cons]; exact Nat.succ_le_succ (tkz_len n _ _)
    rw [if_neg q3, List.length_cons]; exact Nat.succ_le_succ (tkz_len n _ _)
/-- the i-th token, its kind, place, letters, number -/
def tk (T : List Tk) (i : Nat) : Tk := T.getD i (14, 0, [], 0)
abbrev kd (T : List Tk) (i : Nat) : Nat := (tk T i).1
abbrev pl (T : List Tk) (i : Nat) : Nat := (tk T i).2.1
abbrev wd (T : List Tk) (i : Nat) : List Nat := (tk T i).2.2.1
abbrev nu (T : List Tk) (i : Nat) : Nat := (tk T i).2.2.2
theorem tk_at {T : List Tk} {i : Nat} (hi : i < T.length) : tk T i = T[i] := by unfold tk; rw [List.getD_eq_getElem?_getD, List.getElem?_eq_getElem hi]; rfl
def okT (T : List Tk) : Prop := 1 ≤ T.length ∧ T.length ≤ 2401 ∧ (∀ i, i < T.length → (kd T i = 14 ↔ i + 1 = T.length)) ∧ ∀ i, i < T.length → okK 2400 (tk T i)
theorem toks_ok {T : List Nat} (hT : T.length ≤ 2400) : okT (toks T) ∧ (toks T).length ≤ T.length + 1 := by
  have hl := tkz_len T.length 0 T
  have hlen : (toks T).length = (tkz T.length 0 T).length + 1 := by unfold toks; rw [List.length_append]; rfl
  have hin : ∀ i, i < (tkz T.length 0 T).length → tk (toks T) i ∈ tkz T.length 0 T := fun i hi => by
    rw [tk_at (by omega)]
    unfold toks
    rw [List.getElem_append_left hi]
    exact List.getElem_mem hi
  have hlast : tk (toks T) (tkz T.length 0 T).length = (14, T.length, [], 0) := by
    rw [tk_at (by omega)]
    unfold toks
    rw [List.getElem_append_right (Nat.le_refl _)]
    simp
  refine ⟨⟨by omega, by omega, fun i hi => ?_, fun i hi => ?_⟩, by omega⟩
  · by_cases q : i < (tkz T.length 0 T).length
    · have := (tkz_ok _ _ _ _ (hin i q)).2
      exact ⟨fun z => absurd z this, fun z => by omega⟩
    · have e : i = (tkz T.length 0 T).length := by omega
      subst e
      exact ⟨fun _ => hlen.symm, fun _ => by rw [kd, hlast]⟩
  · by_cases q : i < (tkz T.length 0 T).length
    · have h1 := (tkz_ok _ _ _ _ (hin i q)).1
      exact ⟨Nat.le_trans h1.1 (by omega), h1.2⟩
    · have e : i = (tkz T.length 0 T).length := by omega
      subst e
      rw [hlast]
      exact ⟨hT, fun z => by simp at z, fun z => by simp at z, Or.inl (by simp)⟩
theorem okT.lt {T : List Tk} (h : okT T) {i : Nat} (hi : i < T.length) (hk : kd T i ≠ 14) : i + 1 < T.length := by
  have : ¬ i + 1 = T.length := fun z => hk ((h.2.2.1 i hi).mpr z)
  omega
theorem okT.w {T : List Tk} (h : okT T) {i : Nat} (hi : i < T.length) (hk : kd T i ≤ 11) : okW (wd T i) ∧ kd T i = kwd (wd T i) := (h.2.2.2 i hi).2.1 hk
theorem okT.n {T : List Tk} (h : okT T) {i : Nat} (hi : i < T.length) (hk : kd T i = 12) : nu T i ≤ 9999 := (h.2.2.2 i hi).2.2.1 hk
theorem okT.p {T : List Tk} (h : okT T) {i : Nat} (hi : i < T.length) : pl T i ≤ 2400 := (h.2.2.2 i hi).1
theorem okT.k {T : List Tk} (h : okT T) {i : Nat} (hi : i < T.length) : kd T i ≤ 61 := by
  rcases (h.2.2.2 i hi).2.2.2 with z | z
  · exact Nat.le_trans z (by decide)
  · have hc : kd T i = 40 ∨ kd T i = 41 ∨ kd T i = 59 ∨ kd T i = 61 ∨ kd T i = 60 ∨ kd T i = 43 ∨ kd T i = 45 := by simpa [isSg] using z
    omega
theorem kwd_rw : ∀ k, k < 11 → kwd (rw1 k) = k := by decide
theorem rw_ok : ∀ k, k < 11 → okW (rw1 k) := by decide
theorem kwd_iff {w : List Nat} {k : Nat} (hk : k < 11) : kwd w = k ↔ w = rw1 k := by
  constructor
  · intro e
    have hl : rwd.idxOf w < rwd.length := by show kwd w < 11; omega
    have h1 : rwd[rwd.idxOf w] = w := List.getElem_idxOf hl
    have h2 : rw1 k = rwd[rwd.idxOf w] := by
      unfold rw1
      rw [List.getD_eq_getElem?_getD, ← e]
      unfold kwd
      rw [List.getElem?_eq_getElem hl]; rfl
    rw [h2, h1]
  · intro e; rw [e]; exact kwd_rw k hk
