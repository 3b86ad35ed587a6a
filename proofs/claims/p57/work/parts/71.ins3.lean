/-! insert: class and model answer alike -/
section IE
variable {lb : Nat × Nat} {o so po : Nat} {I : Nat → CS → MS → Prop}
theorem tk_c {k f : Nat} (hk : k < 6) (hf : f < 3) : d_X0_ticksOf (nI k) (nI f) ∧ v_X0_ticksOf (nI k) (nI f) = tk (nI k) (nI f) := by
  refine ⟨fun _ _ => vp_nI (n := 6) hk (by decide), ?_⟩
  have h1 : k = 0 ∨ k = 1 ∨ k = 2 ∨ k = 3 ∨ k = 4 ∨ k = 5 := by omega
  have h2 : f = 0 ∨ f = 1 ∨ f = 2 := by omega
  rcases h1 with rfl | rfl | rfl | rfl | rfl | rfl <;> rcases h2 with rfl | rfl | rfl <;> decide +kernel
theorem mIn6 {t : MS} (w : zM t) {a1 a2 : Int32} (h1 : ¬ v_isVoice a1 = 0) (h2 : ¬ v_isBar a2 t = 0) : mIn 6 (v_at a1 a2) := by
  obtain ⟨v, hv, ev⟩ := v_ofNN (a := a1) (fun z => h1 (v_out.mp z))
  have hn := w.2.1
  have hout := n_out (a := a2) (n := zN t) (by omega)
  have e : v_isBar a2 t = v_in a2 0 (nI (zN t) - 1) := by
    unfold v_isBar
    rw [show mgI t 0 = nI (zN t) from w.1]
  have hc : ¬ (a2 < 0 ∨ ¬ a2 < nI (zN t)) := fun z => h2 (by rw [e]; exact hout.mp z)
  obtain ⟨i, hi, ei⟩ := n_ofNN (a := a2) (n := zN t) (by omega) (fun z => hc (Or.inl z)) (Classical.byContradiction fun z => hc (Or.inr z))
  rw [ev, ei, at_nI hv]
  exact vp_nI (n := 96) (by omega) (by decide)
end IE
