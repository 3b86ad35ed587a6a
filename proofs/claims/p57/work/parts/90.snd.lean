/-! CALLS OF SOUNDS -/
section SC
variable {A t t' : MS} {L G : List Nat} {S : CS}
theorem Ag_F31 (g : Ag A t) (h : F31 t t') : Ag A t' := ⟨fun k hk => ⟨(congrFun h.1 k).trans (g.1 k hk).1, (h.2 k (by omega)).trans (g.1 k hk).2⟩, (congrFun (h.2 26 (by decide)) 0).trans g.2⟩
theorem F31_rfl : F31 t t := ⟨rfl, fun _ _ => rfl⟩
theorem F31_trans {u : MS} (h : F31 t t') (g : F31 t' u) : F31 t u := ⟨g.1.trans h.1, fun f hf => (g.2 f hf).trans (h.2 f hf)⟩
theorem snM_F31 {v : Nat} {s : SQ} (h : snM t v s) (g : F31 t t') : snM t' v s := by
  unfold snM at h ⊢
  rw [g.2 27 (by decide), g.2 28 (by decide), g.2 29 (by decide), g.2 30 (by decide)]
  exact h
theorem sndG_len {po : Nat} (h : sndG A (fun v => zSs A L v L.length) S po G) : G.length = zTo A L := by
  have := cn_sum (G := G) (n := G.length) h.2.2.1
  rw [h.2.2.2.1 0 (by decide), h.2.2.2.1 1 (by decide), h.2.2.2.1 2 (by decide), h.2.2.2.1 3 (by decide)] at this
  exact this.symm
theorem n768 {v x : Nat} (hv : v < 4) (hx : x < 768) : nI (768 * v + x) / 768 = nI v := by
  rw [show (768 : Int32) = nI 768 from rfl, pk_div (a := 768 * v + x) (d := 768) (by omega) (by decide) (by decide)]
  congr 1
  omega
end SC
section SD
variable {lb : Nat × Nat} {o so po : Nat} {I : Nat → CS → MS → Prop}
end SD
