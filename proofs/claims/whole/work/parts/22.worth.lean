theorem c_worth {X : GX} {h0 : SH} {m e s0 nf : Nat} {f : Fml} {cs : Nat → Int32} (F : LX11 (Sk h0) m) (hf : FmM h0 m e s0 f) (he : e ≤ 6) (hcs : ∀ k, k < nf → hI h0 (m + 27) k = cs k) (hn : nf ≤ 8) (hok : okF nf f 0) (hz : z0F f) :
    Cd X mX11_worth [.ref m, .int (nI e), .int (nI s0)] h0 0 0 (oI (fun v t => chI (· = m + 30) h0 t ∧ v = evF cs f) nX) := by
  obtain ⟨hlen, hops, hend⟩ := hf
  refine bkX11_worth_0 ?_
  rw [n2600, pk_mul, nI_add]
  have key : ∀ (r pre : Fml) (s : List Int32) (h : SH), f = pre ++ r → okF nf r s.length → SR (hI h (m + 30)) s → s.length ≤ 11 → chI (· = m + 30) h0 h →
      Gd X mX11_worth 11 [some (.ref m), none, none, some (.int (nI (2600 * e + s0 + pre.length))), some (.int (nI s.length)), none, none, none] [] h 0 0 (oI (fun v t => chI (· = m + 30) h0 t ∧ evS cs r s = [v]) nX) := by
    intro r
    induction r with
    | nil =>
      intro pre s h hp hok hs hsl hch
      have hF : LX11 (Sk h) m := hch.1 ▸ F
      rw [List.append_nil] at hp
      have hx : hI h (m + 23) (nI (2600 * e + s0 + pre.length)).toNatClampNeg = 0 := by
        rw [nI_clamp (by rw [← hp]; omega), hch.2.2 _ (by omega), ← hp, hend]
      refine bkX11_worth_11 hF (vp_in_nI (by rw [← hp]; omega) (by omega)) (fun _ => ?_) (fun q => absurd hx q)
      have h1 : s.length = 1 := hok
      match s, h1, hs with
      | [v], _, hs =>
        refine bkX11_worth_178 hF (vp_in_nI (n := 0) (by omega) (by omega)) ⟨hch, ?_⟩
        show [v] = [hI h (m + 30) 0]
        rw [hs 0 (by simp)]; rfl
    | cons o r ih =>
      obtain ⟨k, x⟩ := o
      intro pre s h hp hok hs hsl hch
      have hF : LX11 (Sk h) m := hch.1 ▸ F
      have hpl : pre.length < f.length := by rw [hp]; simp
      have hfo : f[pre.length] = (k, x) := by simp [hp]
      have hmem : (k, x) ∈ f := by rw [hp]; simp
      obtain ⟨b1, b2, b3⟩ := op_lt hok (hz _ hmem) hn
      have hb : 2600 * e + s0 + pre.length < 18200 := by omega
      have hin : vp_in (nI (2600 * e + s0 + pre.length)) 18200 := vp_in_nI hb (by omega)
      have hcl : (nI (2600 * e + s0 + pre.length)).toNatClampNeg = 2600 * e + s0 + pre.length := nI_clamp (by omega)
      have hop : hI h (m + 23) (nI (2600 * e + s0 + pre.length)).toNatClampNeg = nI k := by rw [hcl, hch.2.2 _ (by omega), (hops _ hpl).1, hfo]
      have hone : hI h (m + 24) (nI (2600 * e + s0 + pre.length)).toNatClampNeg = nI x := by rw [hcl, hch.2.2 _ (by omega), (hops _ hpl).2, hfo]
      have hpre : 2600 * e + s0 + (pre ++ [(k, x)]).length = 2600 * e + s0 + pre.length + 1 := by simp; omega
      have hgo : ∀ (s' : List Int32) (h' : SH), okF nf r s'.length → SR (hI h' (m + 30)) s' → s'.length ≤ 11 → chI (· = m + 30) h0 h' → evS cs ((k, x) :: r) s = evS cs r s' →
          Gd X mX11_worth 172 [some (.ref m), none, none, some (.int (nI (2600 * e + s0 + pre.length))), some (.int (nI s'.length)), none, none, none] [] h' 0 0 (oI (fun v t => chI (· = m + 30) h0 t ∧ evS cs ((k, x) :: r) s = [v]) nX) := by
        intro s' h' a1 a2 a3 a4 a5
        refine bkX11_worth_172 ?_
        rw [nI_1, ← hpre, a5]
        exact ih (pre ++ [(k, x)]) s' h' (by rw [hp]; simp) a1 a2 a3 a4
      have hpush : ∀ (v : Int32), okF nf r (s.length + 1) → s.length < 11 → evS cs ((k, x) :: r) s = evS cs r (v :: s) →
          Gd X mX11_worth 72 [some (.ref m), none, none, some (.int (nI (2600 * e + s0 + pre.length))), some (.int (nI s.length)), none, none, none] [.int v, .int (nI s.length), .ref (m + 30)] h 0 0 (oI (fun v t => chI (· = m + 30) h0 t ∧ evS cs ((k, x) :: r) s = [v]) nX) := by
        intro v a1 a2 a3
        refine bkX11_worth_72 (n6 := 2600) (LX11.a_pile (h := h) hF) (vp_in_nI (by omega) (by omega)) ?_
        rw [nI_1, nI_clamp (by omega)]
        exact hgo (v :: s) _ a1 (hs.push (fun i hi => sI_nj (by omega)) sI_at) (by simp; omega) (hch.s rfl) a3
      unfold okF at hok
      have k0' : ¬ nI k = 0 := fun z => by
        have := (nI_eq (by omega) (by omega)).mp (z.trans n0)
        subst this
        simp at hok
      refine bkX11_worth_11 hF hin (fun q => absurd (hop.symm.trans q) k0') (fun _ => ?_)
      by_cases k1 : k = 1
      · rw [if_pos k1] at hok
        refine bkX11_worth_20 hF hin (fun _ => ?_) (fun q => absurd (by rw [hop, k1]; rfl) q)
        rw [hop]
        refine bkX11_worth_40 hF (fun q => absurd (by rw [k1]; rfl) q) (fun _ => ?_)
        refine bkX11_worth_52 hF hin ?_
        rw [hone]
        refine hpush _ hok.2.2 hok.2.1 ?_
        conv => lhs; unfold evS
        rw [if_pos k1]
      · rw [if_neg k1] at hok
        have k1' : ¬ nI k = 1 := fun z => k1 ((nI_eq (by omega) (by omega)).mp (z.trans n1))
        refine bkX11_worth_20 hF hin (fun q => absurd (hop.symm.trans q) k1') (fun _ => ?_)
        rw [hop]
        by_cases k2 : k = 2
        · rw [if_pos k2] at hok
          refine bkX11_worth_34 (fun q => absurd (by rw [k2]; rfl) q) (fun _ => ?_)
          refine bkX11_worth_40 hF (fun _ => ?_) (fun q => absurd q k1')
          refine bkX11_worth_61 hF hin (by rw [hone]; exact vp_in_nI (by omega) (by omega)) ?_
          rw [hone, nI_clamp (by omega), hch.2.2 _ (by omega), hcs x hok.1]
          refine hpush _ hok.2.2 hok.2.1 ?_
          conv => lhs; unfold evS
          rw [if_neg k1, if_pos k2]
        · rw [if_neg k2] at hok
          have k2' : ¬ nI k = 2 := fun z => k2 ((nI_eq (by omega) (by omega)).mp (z.trans n2))
          refine bkX11_worth_34 (fun _ => ?_) (fun q => absurd q k2')
          match s, hok, hs, hsl, hgo with
          | [], hok, _, _, _ => exact absurd hok.2.2.1 (by simp)
          | [_], hok, _, _, _ => exact absurd hok.2.2.1 (by simp)
          | b :: a :: u, hok, hs, hsl, hgo =>
            have hul : u.length ≤ 9 := by simp at hsl; omega
            obtain ⟨t1, t2⟩ := hs.top
            have e1 : nI (b :: a :: u).length + -1 = nI (u.length + 1) := by rw [List.length_cons, List.length_cons, pk_m1]
            have e2 : nI (u.length + 1) - 1 = nI u.length := nI_pred _
            have hend : ∀ v : Int32, v = jn k a b → Gd X mX11_worth 171 [some (.ref m), none, none, some (.int (nI (2600 * e + s0 + pre.length))), some (.int (nI (u.length + 1))), none, none, none] [.int v, .int (nI u.length), .ref (m + 30)] h 0 0 (oI (fun v t => chI (· = m + 30) h0 t ∧ evS cs ((k, x) :: r) (b :: a :: u) = [v]) nX) := by
              intro v hv
              refine bkX11_worth_171 (n6 := 2600) (LX11.a_pile (h := h) hF) (vp_in_nI (by omega) (by omega)) ?_
              rw [nI_clamp (by omega)]
              refine hgo (jn k a b :: u) _ (by simpa using hok.2.2.2) (hs.join (fun i hi => sI_nj (by omega)) (by rw [sI_at, hv])) (by simp; omega) (hch.s rfl) ?_
              conv => lhs; unfold evS
              rw [if_neg k1, if_neg k2]
            refine bkX11_worth_79 hF (by rw [e1]; exact vp_in_nI (by omega) (by omega)) (by rw [e1, e2]; exact vp_in_nI (by omega) (by omega)) (fun q3 => ?_) (fun q3 => ?_)
            · rw [e1, e2, nI_clamp (by omega), nI_clamp (by omega), t1, t2]
              have k3 : ¬ k = 3 := fun z => q3 (by rw [z]; rfl)
              refine bkX11_worth_124 (fun q4 => ?_) (fun q4 => ?_)
              · have k4 : ¬ k = 4 := fun z => q4 (by rw [z]; rfl)
                refine bkX11_worth_138 (fun q5 => ?_) (fun q5 => ?_)
                · have k5 : ¬ k = 5 := fun z => q5 (by rw [z]; rfl)
                  refine bkX11_worth_159 (fun q => ?_) (fun q => ?_)
                  · exact bkX11_worth_170 (hend _ (by simp [jn, k3, k4, k5, q]))
                  · exact bkX11_worth_166 (hend _ (by simp [jn, k3, k4, k5, q]))
                · have k5 : k = 5 := (nI_eq (by omega) (by omega)).mp (q5.trans n5)
                  refine bkX11_worth_144 (fun q => ?_) (fun q => ?_)
                  · exact bkX11_worth_155 (hend _ (by simp [jn, k5, Int32.not_lt.mpr q]))
                  · exact bkX11_worth_151 (hend _ (by simp [jn, k5, Int32.not_le.mp q]))
              · have k4 : k = 4 := (nI_eq (by omega) (by omega)).mp (q4.trans n4)
                exact bkX11_worth_130 (hend _ (by simp [jn, k4]))
            · rw [e1, e2, nI_clamp (by omega), nI_clamp (by omega), t1, t2]
              have k3 : k = 3 := (nI_eq (by omega) (by omega)).mp (q3.trans n3)
              exact bkX11_worth_116 (hend _ (by simp [jn, k3]))
  have k0 := key f [] [] h0 rfl hok (fun i hi => by simp at hi) (by simp) chI.rf
  refine Gd.mono (Nat.le_refl _) (Nat.le_refl _) (fun o t hq => ?_) k0
  match o, hq with
  | .inl (some (.int v)), hq => exact ⟨hq.1, by have e := hq.2; unfold evF; rw [e]; rfl⟩
