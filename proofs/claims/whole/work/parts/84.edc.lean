/-! ===== the edition that a right text makes ===== -/
section E4
variable {h t : SH} {k e x : Nat} {N : List (List Nat)} {F : List Fct} {C : List PC2}
theorem EdC_fill (hf : FL h k e N F C t) (hNt : N = C.map (·.1)) (hx : hI h e 1 = nI x) (h73 : 73 ≤ e) (hek : e + 8 ≤ k) : EdC t e (mkE x F C) := by
  have hg : gC N = gN C := by subst hNt; rfl
  have eq : eC (EN N F C) = eC (mkE x F C) := by show C.map (fun p => rsl (gC N) p.2) = C.map (fun p => rsl (gN C) p.2); rw [hg]
  have ho : ordr (mkE x F C) = ordr (EN N F C) := by
    show ordr (x, F, eC (mkE x F C)) = ordr (0, F, eC (EN N F C))
    rw [eq]; rfl
  obtain ⟨f1, f2, f3, f4, -⟩ := hf
  refine ⟨h73, f2.1.1, by rw [f4 1 (by decide) (by decide) (by decide)]; exact hx, f2.1.2.1, f2.2.1, ?_, fun q hq => ⟨f2.1.2.2 q hq, f2.2.2 q hq⟩, fun c hc => ?_, fun i hi => ?_⟩
  · show _ = nI (C.map (fun p => rsl (gN C) p.2)).length
    rw [List.length_map]; exact f3.2.1
  · have hc' : c < C.length := by have := hc; rwa [← eq, EN_len] at this
    obtain ⟨w, b, b1, b2⟩ := f3.2.2.2.1 c hc'
    refine ⟨b, b1, ?_⟩
    have : cl (mkE x F C) c = rsl (gC N) C[c].2 := by
      rw [← EN_cl (F := F) hc']; unfold cl; rw [eq]
    rw [this]
    exact b2.C (by omega)
  · have hi' : i < (ordr (EN N F C)).length := by rw [← ho]; exact hi
    have : (ordr (mkE x F C))[i] = (ordr (EN N F C))[i]'hi' := by congr 1
    rw [this]
    exact f3.2.2.2.2 i hi'
end E4
