/-! BREAKS AHEAD OF LINES, IN THE MODEL -/
def F44 (t t' : MS) : Prop := t'.1 = t.1 ∧ ∀ f, f ≠ 44 → t'.2 f = t.2 f
def dM (A : MS) (v : Nat) (t : MS) : Prop := Ag A t ∧ iM A v t (zIt A v (zN A)) ∧ lM t (dW A v) (dm A v) (dP A) ∧ plM A t (zPl A (zN A)) ∧ snM t v (zSs A (zPl A (zN A)) v (zPl A (zN A)).length)
section BM
variable {A t t' : MS} {v : Nat}
theorem F44_rfl : F44 t t := ⟨rfl, fun _ _ => rfl⟩
theorem F44_trans {u : MS} (h : F44 t t') (g : F44 t' u) : F44 t u := ⟨g.1.trans h.1, fun f hf => (g.2 f hf).trans (h.2 f hf)⟩
theorem dM_44 (h : dM A v t) (g : F44 t t') : dM A v t' := by
  obtain ⟨h1, h2, h3, h4, h5⟩ := h
  obtain ⟨g1, g2⟩ := g
  refine ⟨⟨fun k hk => ⟨(congrFun g1 k).trans (h1.1 k hk).1, (g2 k (by omega)).trans (h1.1 k hk).2⟩, (congrFun (g2 26 (by decide)) 0).trans h1.2⟩, ?_, ?_, ?_, ?_⟩
  · unfold iM at h2 ⊢
    rw [g1, g2 33 (by decide), g2 34 (by decide), g2 35 (by decide), g2 36 (by decide), g2 37 (by decide)]
    exact h2
  · unfold lM at h3 ⊢
    rw [g1, g2 39 (by decide), g2 40 (by decide)]
    exact h3
  · unfold plM at h4 ⊢
    rw [g1, g2 25 (by decide), g2 26 (by decide)]
    exact h4
  · unfold snM at h5 ⊢
    rw [g2 27 (by decide), g2 28 (by decide), g2 29 (by decide), g2 30 (by decide)]
    exact h5
end BM
