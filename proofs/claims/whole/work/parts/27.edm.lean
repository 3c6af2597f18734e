/-! ===== editions in the model's rows ===== -/
def ItM (h : SH) (m e q : Nat) (it : Itm) : Prop := hI h (m + 20) q = nI it.1 ∧ (it.1 = 0 → hJ h (m + 22) q = enc37 it.2.1) ∧ (it.1 = 2 → hI h (m + 21) q = nI it.2.2.1) ∧ (it.1 = 1 ∨ it.1 = 3 → ∃ s, hI h (m + 21) q = nI s ∧ FmM h m e s it.2.2.2)
/-- needs, then bars -/
def lks (c : Cls) : List (Nat × Bool) := (cNeeds c).map (fun k => (k, false)) ++ (cBars c).map (fun k => (k, true))
def ClM (h : SH) (m e i : Nat) (c : Cls) : Prop := hI h (m + 13) i = nI (cAt c) ∧ hI h (m + 14) i = bI (cMust c) ∧ (∃ s, hI h (m + 15) i = nI s ∧ FmM h m e s (cWhen c)) ∧
  hI h (m + 16) i = nI (lks c).length ∧ (∀ (j : Nat) (hj : j < (lks c).length), hI h (m + 17) (8 * i + j) = nI (lks c)[j].1 ∧ hI h (m + 18) (8 * i + j) = bI (lks c)[j].2) ∧
  hI h (m + 19) i = nI (cItems c).length ∧ ∀ (j : Nat) (hj : j < (cItems c).length), ItM h m e (20 * i + j) (cItems c)[j]
def EdM (h : SH) (m e : Nat) (E : Edn) : Prop := hI h (m + 7) e = nI (eF E).length ∧ hI h (m + 11) e = nI (eC E).length ∧
  (∀ (k : Nat) (hk : k < (eF E).length), hJ h (m + 8) (8 * e + k) = enc37 (eF E)[k].1 ∧ hI h (m + 9) (8 * e + k) = nI (eF E)[k].2.1 ∧ hI h (m + 10) (8 * e + k) = nI (eF E)[k].2.2) ∧
  ∀ c, c < (eC E).length → ClM h m e (12 * e + c) (cl E c)
/-- an edition's places in the model's rows -/
def sgm (m e b i : Nat) : Prop := ((b = m + 7 ∨ b = m + 11) ∧ i = e) ∨ ((b = m + 8 ∨ b = m + 9 ∨ b = m + 10) ∧ 8 * e ≤ i ∧ i < 8 * e + 8) ∨
  ((b = m + 13 ∨ b = m + 14 ∨ b = m + 15 ∨ b = m + 16 ∨ b = m + 19) ∧ 12 * e ≤ i ∧ i < 12 * e + 12) ∨ ((b = m + 17 ∨ b = m + 18) ∧ 96 * e ≤ i ∧ i < 96 * e + 96) ∨
  ((b = m + 20 ∨ b = m + 21 ∨ b = m + 22) ∧ 240 * e ≤ i ∧ i < 240 * e + 240) ∨ ((b = m + 23 ∨ b = m + 24) ∧ 2600 * e ≤ i ∧ i < 2600 * e + 2600)
def agM (m e : Nat) (h t : SH) : Prop := (∀ b i, sgm m e b i → hI t b i = hI h b i) ∧ ∀ b i, sgm m e b i → hJ t b i = hJ h b i
theorem agM.rf {m e : Nat} {h : SH} : agM m e h h := ⟨fun _ _ _ => rfl, fun _ _ _ => rfl⟩
theorem agM.tr {m e : Nat} {h t u : SH} (a : agM m e h t) (b : agM m e t u) : agM m e h u := ⟨fun q i z => (b.1 q i z).trans (a.1 q i z), fun q i z => (b.2 q i z).trans (a.2 q i z)⟩
theorem chI.agM {S : Nat → Prop} {h t : SH} {m : Nat} (c : chI S h t) (hS : ∀ b, S b → b < m + 7 ∨ m + 24 < b) (e : Nat) : agM m e h t := ⟨fun b i z => by
  rw [c.2.2 b (fun y => ?_)]
  have := hS b y
  unfold sgm at z; omega, fun b i _ => by rw [c.2.1]⟩
theorem FmM.cg {h t : SH} {m e s : Nat} {o : Fml} (a : agM m e h t) (F : FmM h m e s o) : FmM t m e s o := by
  obtain ⟨h1, h2, h3⟩ := F
  refine ⟨h1, fun i hi => ?_, ?_⟩
  · rw [a.1 (m + 23) _ (by unfold sgm; omega), a.1 (m + 24) _ (by unfold sgm; omega)]; exact h2 i hi
  · rw [a.1 (m + 23) _ (by unfold sgm; omega)]; exact h3
theorem ItM.cg {h t : SH} {m e q : Nat} {it : Itm} (a : agM m e h t) (hq : 240 * e ≤ q ∧ q < 240 * e + 240) (F : ItM h m e q it) : ItM t m e q it := by
  obtain ⟨h1, h2, h3, h4⟩ := F
  have a21 := a.1 (m + 21) q (by unfold sgm; omega)
  refine ⟨(a.1 (m + 20) q (by unfold sgm; omega)).trans h1, fun z => (a.2 (m + 22) q (by unfold sgm; omega)).trans (h2 z), fun z => a21.trans (h3 z), fun z => ?_⟩
  obtain ⟨s, g1, g2⟩ := h4 z
  exact ⟨s, a21.trans g1, g2.cg a⟩
theorem lks_len (c : Cls) : (lks c).length = (cNeeds c).length + (cBars c).length := by unfold lks; simp
theorem ClM.cg {h t : SH} {m e i : Nat} {c : Cls} {nf nc : Nat} (a : agM m e h t) (hi : 12 * e ≤ i ∧ i < 12 * e + 12) (ok : okC nf nc c) (F : ClM h m e i c) : ClM t m e i c := by
  obtain ⟨h1, h2, ⟨s, g1, g2⟩, h3, h4, h5, h6⟩ := F
  have hl : (lks c).length ≤ 8 := by rw [lks_len]; exact ok.2.2.1
  have hit : (cItems c).length ≤ 20 := ok.2.2.2.2.2.1
  refine ⟨(a.1 (m + 13) i (by unfold sgm; omega)).trans h1, (a.1 (m + 14) i (by unfold sgm; omega)).trans h2, ⟨s, (a.1 (m + 15) i (by unfold sgm; omega)).trans g1, g2.cg a⟩, (a.1 (m + 16) i (by unfold sgm; omega)).trans h3, fun j hj => ?_, (a.1 (m + 19) i (by unfold sgm; omega)).trans h5, fun j hj => (h6 j hj).cg a (by omega)⟩
  rw [a.1 (m + 17) _ (by unfold sgm; omega), a.1 (m + 18) _ (by unfold sgm; omega)]; exact h4 j hj
theorem EdM.cg {h t : SH} {m e : Nat} {E : Edn} (a : agM m e h t) (ok : okE E) (F : EdM h m e E) : EdM t m e E := by
  obtain ⟨h1, h2, h3, h4⟩ := F
  have hf : (eF E).length ≤ 8 := ok.2.1
  have hn : (eC E).length ≤ 12 := ok.2.2.1
  refine ⟨(a.1 (m + 7) e (by unfold sgm; omega)).trans h1, (a.1 (m + 11) e (by unfold sgm; omega)).trans h2, fun k hk => ?_, fun c hc => (h4 c hc).cg a (by omega) (ok.2.2.2.2.2 c hc)⟩
  rw [a.2 (m + 8) _ (by unfold sgm; omega), a.1 (m + 9) _ (by unfold sgm; omega), a.1 (m + 10) _ (by unfold sgm; omega)]; exact h3 k hk
theorem ix12 {e c : Nat} : (12 : Int32) * nI e + nI c = nI (12 * e + c) := by rw [show (12 : Int32) = nI 12 from rfl, pk_mul, nI_add]
theorem ix8 {i : Nat} : (8 : Int32) * nI i = nI (8 * i) := by rw [n8, pk_mul]
theorem ix20 {i : Nat} : (20 : Int32) * nI i = nI (20 * i) := by rw [show (20 : Int32) = nI 20 from rfl, pk_mul]
theorem n12 : (12 : Int32) = nI 12 := rfl
def QM (t : SH) (m : Nat) (q : Nat × Int32 × Int32) : Prop := hI t m 44 = nI q.1 ∧ hI t m 45 = q.2.1 ∧ hI t m 46 = q.2.2
/-- all of the model's own fields but the quarrel are as they were -/
def qok (m : Nat) (h t : SH) : Prop := chI (· = m) h t ∧ ∀ j, (j < 44 ∨ 46 < j) → hI t m j = hI h m j
theorem qok.rf {m : Nat} {h : SH} : qok m h h := ⟨chI.rf, fun _ _ => rfl⟩
theorem qok.tr {m : Nat} {h t u : SH} (a : qok m h t) (b : qok m t u) : qok m h u := ⟨a.1.tr b.1, fun j hj => (b.2 j hj).trans (a.2 j hj)⟩
theorem qok.s {m i : Nat} {v : Int32} {h t : SH} (a : qok m h t) (hi : 44 ≤ i ∧ i ≤ 46) : qok m h (sI t m i v) := ⟨a.1.s rfl, fun j hj => by rw [sI_nj (by omega)]; exact a.2 j hj⟩
section MQ
variable {X : GX} {h : SH} {m e c : Nat} {E : Edn} {s : Ins} {cs : Nat → Int32}
theorem lks_bar {c : Nat} {s : Ins} {C : Cls} : ((lks C).find? (fun p => p.2 && (decide (p.1 ≠ c) && s p.1))).map Prod.fst = (cBars C).find? (fun b => decide (b ≠ c) && s b) := by
  unfold lks
  rw [List.find?_append]
  have h1 : ((cNeeds C).map (fun k => (k, false))).find? (fun p : Nat × Bool => p.2 && (decide (p.1 ≠ c) && s p.1)) = none := by
    rw [List.find?_eq_none]; intro x hx
    obtain ⟨k, _, rfl⟩ := List.mem_map.mp hx
    simp
  rw [h1, Option.none_or, List.find?_map]
  show Option.map Prod.fst (Option.map _ (List.find? (fun b => true && (decide (b ≠ c) && s b)) (cBars C))) = _
  simp only [Bool.true_and]
  cases (cBars C).find? (fun b => decide (b ≠ c) && s b) <;> rfl
theorem lks_lt {C : Cls} {nf nc j : Nat} (ok : okC nf nc C) (hj : j < (lks C).length) : (lks C)[j].1 < nc := by
  have hm := List.getElem_mem hj
  generalize (lks C)[j] = p at hm
  unfold lks at hm
  rcases List.mem_append.mp hm with q | q <;> obtain ⟨k, hk, rfl⟩ := List.mem_map.mp q
  · exact ok.2.2.2.1 k hk
  · exact ok.2.2.2.2.1 k hk
theorem c_barsOf (F : LX11 (Sk h) m) (hE : EdM h m e E) (ok : okE E) (he : e ≤ 6) (hs : RB (hI h (m + 31)) s (eC E).length) (hc : c < (eC E).length) (h0 : hI h m 44 = 0) :
    Cd X mX11_barsOf [.ref m, .int (nI e), .int (nI c)] h 0 0 (oV (fun t => match bar1 E s c with | some b => t = sI (sI (sI h m 44 2) m 45 (nI c)) m 46 (nI b) | none => t = h) nX) := by
  have hn : (eC E).length ≤ 12 := ok.2.2.1
  have okc := ok.2.2.2.2.2 c hc
  have C := hE.2.2.2 c hc
  have hl : (lks (cl E c)).length ≤ 8 := by rw [lks_len]; exact okc.2.2.1
  generalize hP : oV (fun t => match bar1 E s c with | some b => t = sI (sI (sI h m 44 2) m 45 (nI c)) m 46 (nI b) | none => t = h) nX = P
  refine bkX11_barsOf_0 ?_
  rw [ix12, ix8]
  have out : bar1 E s c = none → Gd X mX11_barsOf 108 [none, none, none, none, none] [] h 0 0 P := fun hx => bkX11_barsOf_108 (by rw [← hP]; show (match bar1 E s c with | some b => h = _ | none => h = h); rw [hx])
  have hlen : 8 * nI (12 * e + c) + hI h (m + 16) (nI (12 * e + c)).toNatClampNeg = nI (8 * (12 * e + c) + (lks (cl E c)).length) := by rw [ix8, nI_clamp (by omega), C.2.2.2.1, nI_add]
  have nn : ∀ (l : List (Nat × Bool)), (∀ (i : Nat) (hi : i < l.length), (l[i].2 && (decide (l[i].1 ≠ c) && s l[i].1)) = false) → l.find? (fun p => p.2 && (decide (p.1 ≠ c) && s p.1)) = none := fun l hl => fl_none hl
  refine for_up (G := fun j t => Gd X mX11_barsOf 13 [some (.ref m), none, some (.int (nI c)), some (.int (nI (12 * e + c))), some (.int (nI (8 * (12 * e + c) + j)))] [] t 0 0 P)
    (I := fun j t => t = h ∧ ∀ (i : Nat) (hi : i < (lks (cl E c)).length), i < j → ((lks (cl E c))[i].2 && (decide ((lks (cl E c))[i].1 ≠ c) && s (lks (cl E c))[i].1)) = false) (lks (cl E c)).length ?_ ?_ 0 h (Nat.zero_le _) ⟨rfl, fun i _ hi => absurd hi (Nat.not_lt_zero _)⟩
  · rintro t ⟨rfl, hlo⟩
    have hx : bar1 E s c = none := by
      unfold bar1; split
      · rw [← lks_bar, nn _ (fun i hi => hlo i hi hi)]; rfl
      · rfl
    exact bkX11_barsOf_13 F (vp_in_nI (by omega) (by omega)) (fun _ => out hx) (fun q => absurd (by rw [hlen]; exact (Int32.le_refl _)) q)
  · rintro j t hj ⟨rfl, hlo⟩ ih
    obtain ⟨e1, e2⟩ := C.2.2.2.2.1 j hj
    have hk := lks_lt okc hj
    refine bkX11_barsOf_13 F (vp_in_nI (by omega) (by omega)) (fun q => ?_) (fun _ => ?_)
    · rw [hlen] at q; exact absurd q (nI_ge (by omega) (by omega))
    refine bkX11_barsOf_29 F (vp_in_nI (by omega) (by omega)) (fun q => ?_) (fun q => ?_)
    · rw [nI_clamp (by omega), hs c hc, bI_0] at q
      exact out (by unfold bar1; rw [q]; rfl)
    · rw [nI_clamp (by omega), hs c hc, bI_0] at q
      have hsc : s c = true := by simpa using q
      refine bkX11_barsOf_38 F (fun q => absurd h0 q) (fun _ => ?_)
      have go : ((lks (cl E c))[j].2 && (decide ((lks (cl E c))[j].1 ≠ c) && s (lks (cl E c))[j].1)) = false → Gd X mX11_barsOf 102 [some (.ref m), none, some (.int (nI c)), some (.int (nI (12 * e + c))), some (.int (nI (8 * (12 * e + c) + j)))] [] t 0 0 P := fun hx => by
        refine bkX11_barsOf_102 ?_
        rw [nI_1, Nat.add_assoc]
        refine ih t ⟨rfl, fun i hi hij => ?_⟩
        rcases Nat.lt_or_ge i j with z | z
        · exact hlo i hi z
        · have : i = j := by omega
          subst this; exact hx
      refine bkX11_barsOf_45 F (vp_in_nI (by omega) (by omega)) (fun q => ?_) (fun q1 => ?_)
      · rw [nI_clamp (by omega), e2, bI_0] at q; exact go (by rw [q]; rfl)
      rw [nI_clamp (by omega), e2, bI_0] at q1
      refine bkX11_barsOf_55 F (vp_in_nI (by omega) (by omega)) (fun q => ?_) (fun q2 => ?_)
      · rw [nI_clamp (by omega), e1, nI_eq (by omega) (by omega)] at q; exact go (by simp [q])
      rw [nI_clamp (by omega), e1, nI_eq (by omega) (by omega)] at q2
      refine bkX11_barsOf_66 F (vp_in_nI (by omega) (by omega)) (by rw [nI_clamp (by omega), e1]; exact (vp_in_nI (by omega) (by omega))) (fun q => ?_) (fun q3 => ?_)
      · rw [nI_clamp (by omega), e1, nI_clamp (by omega), hs _ hk, bI_0] at q; exact go (by rw [q]; simp)
      rw [nI_clamp (by omega), e1, nI_clamp (by omega), hs _ hk, bI_0] at q3
      refine bkX11_barsOf_81 F (vp_in_nI (by omega) (by omega)) ?_
      have e3 : bar1 E s c = some (lks (cl E c))[j].1 := by
        unfold bar1
        rw [if_pos hsc, ← lks_bar, fl_some hj hlo (by simp at q1 q3; simp [q1, q2, q3])]; rfl
      have e4 : hI (sI (sI t m 44 2) m 45 (nI c)) (m + 17) (nI (8 * (12 * e + c) + j)).toNatClampNeg = nI (lks (cl E c))[j].1 := by rw [sI_nb (by omega), sI_nb (by omega), nI_clamp (by omega), e1]
      rw [e4]
      have F' : LX11 (Sk (sI (sI (sI t m 44 2) m 45 (nI c)) m 46 (nI (lks (cl E c))[j].1))) m := F
      refine bkX11_barsOf_102 ?_
      rw [nI_1]
      have hlen' : 8 * nI (12 * e + c) + hI (sI (sI (sI t m 44 2) m 45 (nI c)) m 46 (nI (lks (cl E c))[j].1)) (m + 16) (nI (12 * e + c)).toNatClampNeg = nI (8 * (12 * e + c) + (lks (cl E c)).length) := by rw [sI_nb (by omega), sI_nb (by omega), sI_nb (by omega)]; exact hlen
      have outv : Gd X mX11_barsOf 108 [none, none, none, none, none] [] (sI (sI (sI t m 44 2) m 45 (nI c)) m 46 (nI (lks (cl E c))[j].1)) 0 0 P := bkX11_barsOf_108 (by
        rw [← hP]; show (match bar1 E s c with | some b => _ = sI (sI (sI t m 44 2) m 45 (nI c)) m 46 (nI b) | none => _ = t); rw [e3])
      refine bkX11_barsOf_13 F' (vp_in_nI (by omega) (by omega)) (fun _ => outv) (fun q => ?_)
      refine bkX11_barsOf_29 F' (vp_in_nI (by omega) (by omega)) (fun _ => outv) (fun q => ?_)
      refine bkX11_barsOf_38 F' (fun _ => outv) (fun q => absurd q ?_)
      rw [sI_nj (by decide), sI_nj (by decide), sI_at]; decide
theorem c_refsOf (F : LX11 (Sk h) m) (hE : EdM h m e E) (ok : okE E) (he : e ≤ 6) (hs : RB (hI h (m + 31)) s (eC E).length) (hc : c < (eC E).length) (h0 : hI h m 44 = 0) :
    Cd X mX11_refsOf [.ref m, .int (nI e), .int (nI c)] h 0 0 (oV (fun t => match ref1 E s c with | some b => t = sI (sI (sI h m 44 3) m 45 (nI c)) m 46 (nI b) | none => t = h) nX) := by
  have hn : (eC E).length ≤ 12 := ok.2.2.1
  have okc := ok.2.2.2.2.2 c hc
  have C := hE.2.2.2 c hc
  have hl : (cItems (cl E c)).length ≤ 20 := okc.2.2.2.2.2.1
  generalize hP : oV (fun t => match ref1 E s c with | some b => t = sI (sI (sI h m 44 3) m 45 (nI c)) m 46 (nI b) | none => t = h) nX = P
  refine bkX11_refsOf_0 ?_
  rw [ix12, ix20]
  have out : ref1 E s c = none → Gd X mX11_refsOf 98 [none, none, none, none, none] [] h 0 0 P := fun hx => bkX11_refsOf_98 (by rw [← hP]; show (match ref1 E s c with | some b => h = _ | none => h = h); rw [hx])
  have hlen : 20 * nI (12 * e + c) + hI h (m + 19) (nI (12 * e + c)).toNatClampNeg = nI (20 * (12 * e + c) + (cItems (cl E c)).length) := by rw [ix20, nI_clamp (by omega), C.2.2.2.2.2.1, nI_add]
  refine for_up (G := fun j t => Gd X mX11_refsOf 13 [some (.ref m), none, some (.int (nI c)), some (.int (nI (12 * e + c))), some (.int (nI (20 * (12 * e + c) + j)))] [] t 0 0 P)
    (I := fun j t => t = h ∧ ∀ (i : Nat) (hi : i < (cItems (cl E c)).length), i < j → rfp s (cItems (cl E c))[i] = false) (cItems (cl E c)).length ?_ ?_ 0 h (Nat.zero_le _) ⟨rfl, fun i _ hi => absurd hi (Nat.not_lt_zero _)⟩
  · rintro t ⟨rfl, hlo⟩
    have hx : ref1 E s c = none := by
      unfold ref1; split
      · rw [fl_none (fun i hi => hlo i hi hi)]; rfl
      · rfl
    exact bkX11_refsOf_13 F (vp_in_nI (by omega) (by omega)) (fun _ => out hx) (fun q => absurd (by rw [hlen]; exact (Int32.le_refl _)) q)
  · rintro j t hj ⟨rfl, hlo⟩ ih
    have M := C.2.2.2.2.2.2 j hj
    have oki := okc.2.2.2.2.2.2 _ (List.getElem_mem hj)
    refine bkX11_refsOf_13 F (vp_in_nI (by omega) (by omega)) (fun q => ?_) (fun _ => ?_)
    · rw [hlen] at q; exact absurd q (nI_ge (by omega) (by omega))
    refine bkX11_refsOf_29 F (vp_in_nI (by omega) (by omega)) (fun q => ?_) (fun q => ?_)
    · rw [nI_clamp (by omega), hs c hc, bI_0] at q
      exact out (by unfold ref1; rw [q]; rfl)
    · rw [nI_clamp (by omega), hs c hc, bI_0] at q
      have hsc : s c = true := by simpa using q
      refine bkX11_refsOf_38 F (fun q => absurd h0 q) (fun _ => ?_)
      have go : rfp s (cItems (cl E c))[j] = false → Gd X mX11_refsOf 92 [some (.ref m), none, some (.int (nI c)), some (.int (nI (12 * e + c))), some (.int (nI (20 * (12 * e + c) + j)))] [] t 0 0 P := fun hx => by
        refine bkX11_refsOf_92 ?_
        rw [nI_1, Nat.add_assoc]
        refine ih t ⟨rfl, fun i hi hij => ?_⟩
        rcases Nat.lt_or_ge i j with z | z
        · exact hlo i hi z
        · have : i = j := by omega
          subst this; exact hx
      have hk3 := oki.1
      refine bkX11_refsOf_45 F (vp_in_nI (by omega) (by omega)) (fun q => ?_) (fun q1 => ?_)
      · rw [nI_clamp (by omega), M.1, n2, nI_eq (by omega) (by omega)] at q; exact go (by unfold rfp; simp [q])
      rw [nI_clamp (by omega), M.1, n2, nI_eq (by omega) (by omega)] at q1
      have htg := M.2.2.1 q1
      have hk := oki.2.2.1 q1
      refine bkX11_refsOf_56 F (vp_in_nI (by omega) (by omega)) (by rw [nI_clamp (by omega), htg]; exact (vp_in_nI (by omega) (by omega))) (fun q => ?_) (fun q3 => ?_)
      · rw [nI_clamp (by omega), htg, nI_clamp (by omega), hs _ hk, bI_0] at q; exact go (by simp at q; unfold rfp; simp [q])
      rw [nI_clamp (by omega), htg, nI_clamp (by omega), hs _ hk, bI_0] at q3
      refine bkX11_refsOf_71 F (vp_in_nI (by omega) (by omega)) ?_
      have e3 : ref1 E s c = some (cItems (cl E c))[j].2.2.1 := by
        unfold ref1
        rw [if_pos hsc, fl_some hj hlo (by unfold rfp; simp [q1, q3])]; rfl
      have e4 : hI (sI (sI t m 44 3) m 45 (nI c)) (m + 21) (nI (20 * (12 * e + c) + j)).toNatClampNeg = nI (cItems (cl E c))[j].2.2.1 := by rw [sI_nb (by omega), sI_nb (by omega), nI_clamp (by omega), htg]
      rw [e4]
      have F' : LX11 (Sk (sI (sI (sI t m 44 3) m 45 (nI c)) m 46 (nI (cItems (cl E c))[j].2.2.1))) m := F
      refine bkX11_refsOf_92 ?_
      rw [nI_1]
      have outv : Gd X mX11_refsOf 98 [none, none, none, none, none] [] (sI (sI (sI t m 44 3) m 45 (nI c)) m 46 (nI (cItems (cl E c))[j].2.2.1)) 0 0 P := bkX11_refsOf_98 (by
        rw [← hP]; show (match ref1 E s c with | some b => _ = sI (sI (sI t m 44 3) m 45 (nI c)) m 46 (nI b) | none => _ = t); rw [e3])
      refine bkX11_refsOf_13 F' (vp_in_nI (by omega) (by omega)) (fun _ => outv) (fun q => ?_)
      refine bkX11_refsOf_29 F' (vp_in_nI (by omega) (by omega)) (fun _ => outv) (fun q => ?_)
      refine bkX11_refsOf_38 F' (fun _ => outv) (fun q => absurd q ?_)
      rw [sI_nj (by decide), sI_nj (by decide), sI_at]; decide
end MQ
