/-! ===== a formula's value: the component's reckon, the model's worth ===== -/
theorem c_join {X : GX} {h : SH} {c : Nat} {a b : Int32} (h3 : 3 ≤ c) (h6 : c ≤ 6) : Cd X mX4_join [.int (nI c), .int a, .int b] h 0 0 (oI (fun r t => t = h ∧ r = jn c a b) nX) := by
  refine bkX4_join_0 (fun q => ?_) (fun q => ?_) (fun q => ?_) (fun q1 q2 q3 => ?_)
  · rw [n3, nI_eq (by omega) (by omega)] at q; subst q
    exact bkX4_join_28 ⟨rfl, rfl⟩
  · rw [n4, nI_eq (by omega) (by omega)] at q; subst q
    exact bkX4_join_32 ⟨rfl, rfl⟩
  · rw [n5, nI_eq (by omega) (by omega)] at q; subst q
    refine bkX4_join_36 (fun q => ?_) (fun q => ?_)
    · exact bkX4_join_45 (bkX4_join_46 ⟨rfl, by simp [jn, Int32.not_lt.mpr q]⟩)
    · exact bkX4_join_41 (bkX4_join_46 ⟨rfl, by simp [jn, Int32.not_le.mp q]⟩)
  · have hc : ¬ c = 3 ∧ ¬ c = 4 ∧ ¬ c = 5 := ⟨fun z => q1 (by rw [z]; rfl), fun z => q2 (by rw [z]; rfl), fun z => q3 (by rw [z]; rfl)⟩
    refine bkX4_join_47 (fun q => ?_) (fun q => ?_)
    · exact bkX4_join_56 (bkX4_join_57 ⟨rfl, by simp [jn, hc, q]⟩)
    · exact bkX4_join_52 (bkX4_join_57 ⟨rfl, by simp [jn, hc, q]⟩)
theorem op_lt {nf : Nat} {c x : Nat} {r : Fml} {d : Nat} (h : okF nf ((c, x) :: r) d) (hx : ¬ c = 1 → ¬ c = 2 → x = 0) (hn : nf ≤ 8) : c ≤ 6 ∧ x ≤ 9999 ∧ c < 8 := by
  unfold okF at h
  by_cases q1 : c = 1
  · rw [if_pos q1] at h; omega
  · rw [if_neg q1] at h
    by_cases q2 : c = 2
    · rw [if_pos q2] at h; omega
    · rw [if_neg q2] at h; have := hx q1 q2; omega
/-- the codes of joins bear no number -/
def z0F (f : Fml) : Prop := ∀ q ∈ f, ¬ q.1 = 1 → ¬ q.1 = 2 → q.2 = 0
theorem c_reckon {X : GX} {h0 : SH} {fa c nf : Nat} {f : Fml} {cs : Nat → Int32} (hf : FmC h0 fa f) (hC : LX1 (Sk h0) c) (hcs : ∀ k, k < nf → hI h0 (c + 1) k = cs k) (hn : nf ≤ 8) (hne : ¬ fa + 1 = c + 2) (hok : okF nf f 0) (hz : z0F f) :
    Cd X mX4_reckon [.ref fa, .ref c] h0 0 0 (oI (fun v t => chI (· = c + 2) h0 t ∧ v = evF cs f) nX) := by
  obtain ⟨F, hNf, hlen, hops⟩ := hf
  refine bkX4_reckon_0 hC ?_
  have key : ∀ (r pre : Fml) (s : List Int32) (h : SH), f = pre ++ r → okF nf r s.length → SR (hI h (c + 2)) s → s.length ≤ 11 → chI (· = c + 2) h0 h →
      Gd X mX4_reckon 10 [some (.ref fa), some (.ref c), some (.ref (c + 2)), some (.int (nI s.length)), some (.int (nI pre.length)), none, none] [] h 0 0 (oI (fun v t => chI (· = c + 2) h0 t ∧ evS cs r s = [v]) nX) := by
    intro r
    induction r with
    | nil =>
      intro pre s h hp hok hs hsl hch
      have hF : LX4 (Sk h) fa := hch.1 ▸ F
      rw [List.append_nil] at hp
      refine bkX4_reckon_10 hF (fun _ => ?_) (fun q => ?_)
      · have h1 : s.length = 1 := hok
        match s, h1, hs with
        | [v], _, hs =>
          refine bkX4_reckon_125 (fun _ => ?_) (fun q => absurd (show (1 : Int32) ≤ nI 1 from by decide) q)
          refine bkX4_reckon_134 (n1 := 12) (LX1.a_open (h := h) (hch.1 ▸ hC)) (vp_in_nI (n := 0) (by omega) (by omega)) ?_
          refine bkX4_reckon_137 ⟨hch, ?_⟩
          show [v] = [hI h (c + 2) 0]
          rw [hs 0 (by simp)]; rfl
      · refine absurd ?_ q
        rw [hch.hN, hNf, hp]; exact Int32.le_refl _
    | cons o r ih =>
      obtain ⟨k, x⟩ := o
      intro pre s h hp hok hs hsl hch
      have hF : LX4 (Sk h) fa := hch.1 ▸ F
      have hCh : LX1 (Sk h) c := hch.1 ▸ hC
      have hpl : pre.length < f.length := by rw [hp]; simp
      have hfo : f[pre.length] = (k, x) := by simp [hp]
      have hmem : (k, x) ∈ f := by rw [hp]; simp
      obtain ⟨b1, b2, b3⟩ := op_lt hok (hz _ hmem) hn
      have hrow : hI h (fa + 1) pre.length = nI (k + 8 * x) := by rw [hch.2.2 _ hne, hops _ hpl, hfo]
      have hin : vp_in (nI pre.length) (hN h (fa + 1)) := by rw [hch.hN, hNf]; exact vp_in_nI hpl (by omega)
      have hcl : (nI pre.length).toNatClampNeg = pre.length := nI_clamp (by omega)
      have hmod : hI h (fa + 1) (nI pre.length).toNatClampNeg - hI h (fa + 1) (nI pre.length).toNatClampNeg / 8 * 8 = nI k := by
        rw [hcl, hrow, n8, pk_rem (by omega) (by omega) (by omega), Nat.add_mul_mod_self_left, Nat.mod_eq_of_lt b3]
      have hdiv : hI h (fa + 1) (nI pre.length).toNatClampNeg / 8 = nI x := by
        rw [hcl, hrow, n8, pk_div (by omega) (by omega) (by omega)]
        congr 1
        omega
      have hpre : (pre ++ [(k, x)]).length = pre.length + 1 := by simp
      have hgo : ∀ (s' : List Int32) (h' : SH), okF nf r s'.length → SR (hI h' (c + 2)) s' → s'.length ≤ 11 → chI (· = c + 2) h0 h' → evS cs ((k, x) :: r) s = evS cs r s' →
          Gd X mX4_reckon 119 [some (.ref fa), some (.ref c), some (.ref (c + 2)), some (.int (nI s'.length)), some (.int (nI pre.length)), none, none] [] h' 0 0 (oI (fun v t => chI (· = c + 2) h0 t ∧ evS cs ((k, x) :: r) s = [v]) nX) := by
        intro s' h' a1 a2 a3 a4 a5
        refine bkX4_reckon_119 ?_
        rw [nI_1, ← hpre, a5]
        exact ih (pre ++ [(k, x)]) s' h' (by rw [hp]; simp) a1 a2 a3 a4
      have hpush : ∀ (v : Int32), okF nf r (s.length + 1) → s.length < 11 → evS cs ((k, x) :: r) s = evS cs r (v :: s) →
          Gd X mX4_reckon 84 [some (.ref fa), some (.ref c), some (.ref (c + 2)), some (.int (nI s.length)), some (.int (nI pre.length)), none, none] [.int v, .int (nI s.length), .ref (c + 2)] h 0 0 (oI (fun v t => chI (· = c + 2) h0 t ∧ evS cs ((k, x) :: r) s = [v]) nX) := by
        intro v a1 a2 a3
        refine bkX4_reckon_84 (n8 := 12) (LX1.a_open (h := h) hCh) (vp_in_nI (by omega) (by omega)) ?_
        rw [nI_1, nI_clamp (by omega)]
        refine hgo (v :: s) _ a1 (hs.push (fun i hi => sI_nj (by omega)) sI_at) (by simp; omega) (hch.s rfl) a3
      unfold okF at hok
      refine bkX4_reckon_10 hF (fun q => ?_) (fun _ => ?_)
      · rw [hch.hN, hNf] at q; exact absurd q (nI_ge hpl (by omega))
      by_cases k1 : k = 1
      · rw [if_pos k1] at hok
        refine bkX4_reckon_20 hF hin (fun _ => ?_) (fun q => absurd (by rw [hmod, k1]; rfl) q)
        rw [hmod]
        refine bkX4_reckon_44 (n6 := 12) (LX1.a_open (h := h) hCh) (fun _ => ?_) (fun q => absurd (nI_lt (by omega) (by omega)) q)
        refine bkX4_reckon_52 hF hin (fun q => absurd (by rw [k1]; rfl) q) (fun _ => ?_)
        rw [hdiv]
        refine bkX4_reckon_72 (hpush _ hok.2.2 hok.2.1 ?_)
        conv => lhs; unfold evS
        rw [if_pos k1]
      · rw [if_neg k1] at hok
        have k1' : ¬ nI k = 1 := fun z => k1 ((nI_eq (by omega) (by omega)).mp (z.trans n1))
        refine bkX4_reckon_20 hF hin (fun q => absurd (hmod.symm.trans q) k1') (fun _ => ?_)
        rw [hmod]
        by_cases k2 : k = 2
        · rw [if_pos k2] at hok
          refine bkX4_reckon_38 (fun q => absurd (by rw [k2]; rfl) q) (fun _ => ?_)
          refine bkX4_reckon_44 (n6 := 12) (LX1.a_open (h := h) hCh) (fun _ => ?_) (fun q => absurd (nI_lt (by omega) (by omega)) q)
          refine bkX4_reckon_52 hF hin (fun _ => ?_) (fun q => absurd q k1')
          rw [hdiv]
          refine bkX4_reckon_77 hCh (vp_in_nI (by omega) (by omega)) ?_
          rw [nI_clamp (by omega), hch.2.2 _ (by omega), hcs x hok.1]
          refine hpush _ hok.2.2 hok.2.1 ?_
          conv => lhs; unfold evS
          rw [if_neg k1, if_pos k2]
        · rw [if_neg k2] at hok
          have k2' : ¬ nI k = 2 := fun z => k2 ((nI_eq (by omega) (by omega)).mp (z.trans n2))
          refine bkX4_reckon_38 (fun _ => ?_) (fun q => absurd q k2')
          match s, hok, hs, hsl, hgo with
          | [], hok, _, _, _ => exact absurd hok.2.2.1 (by simp)
          | [_], hok, _, _, _ => exact absurd hok.2.2.1 (by simp)
          | b :: a :: u, hok, hs, hsl, hgo =>
            have hul : u.length ≤ 9 := by simp at hsl; omega
            obtain ⟨t1, t2⟩ := hs.top
            refine bkX4_reckon_91 (fun _ => ?_) (fun q => absurd (nI_le (a := 2) (by simp) (by simp; omega)) q)
            have e1 : nI (b :: a :: u).length + -1 = nI (u.length + 1) := by rw [List.length_cons, List.length_cons, pk_m1]
            have e2 : nI (u.length + 1) - 1 = nI u.length := nI_pred _
            refine bkX4_reckon_98 (n6 := 12) (LX1.a_open (h := h) hCh) (by rw [e1, e2]; exact vp_in_nI (by omega) (by omega)) (by rw [e1]; exact vp_in_nI (by omega) (by omega)) (c_join (by omega) (by omega)) (fun r9 t9 hq => ?_)
            obtain ⟨rfl, hr9⟩ := hq
            rw [e1, e2, nI_clamp (by omega), nI_clamp (by omega), t1, t2] at hr9
            rw [e1, e2]
            refine bkX4_reckon_118 (n8 := 12) (LX1.a_open (h := t9) hCh) (vp_in_nI (by omega) (by omega)) ?_
            rw [nI_clamp (by omega)]
            refine hgo (jn k a b :: u) _ (by simpa using hok.2.2.2) (hs.join (fun i hi => sI_nj (by omega)) (by rw [sI_at, hr9])) (by simp; omega) (hch.s rfl) ?_
            conv => lhs; unfold evS
            rw [if_neg k1, if_neg k2]
  have k0 := key f [] [] h0 rfl hok (fun i hi => by simp at hi) (by simp) chI.rf
  refine Gd.mono (Nat.le_refl _) (Nat.le_refl _) (fun o t hq => ?_) k0
  match o, hq with
  | .inl (some (.int v)), hq => exact ⟨hq.1, by have e := hq.2; unfold evF; rw [e]; rfl⟩
