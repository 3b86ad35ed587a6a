/-! THE ROW OF SOUNDS, WHEN ONE MORE EVENT IS PLAYED -/
section PT
variable {A : MS} {L : List Nat} {S S' : CS} {po p v : Nat} {x : Nat → Nat} {G : List Nat}
theorem zSv_up {u : Nat} : zSv A L u p (va_up x v (x v + 1) u) = if u = v then zSn A L v p (x v) (zSv A L v p (x v)) else zSv A L u p (x u) := by
  rw [va_up_at]
  by_cases e : u = v
  · rw [if_pos e, if_pos e, e]
    rfl
  · rw [if_neg e, if_neg e]
theorem lex_le {a u b w c : Nat} (h : lexLt a u b w) (hbc : b < c) : lexLt a u c w := by
  rcases h with h | h
  · exact Or.inl (by omega)
  · exact Or.inl (by omega)
theorem sndX_1 (w : zM A) (hL : ∀ x, x ∈ L → x < zN A) (hv : v < 4) (hp : p < L.length) (hx : x v < zE A v (gn L p)) (hpi : A.2 8 (zp v (gn L p) (x v)) ≤ 0) (h : sndX A L S po p x G) (h149 : fI S' 149 po = fI S 149 po) (hL148 : fL S' 148 po = fL S 148 po) (hf : ∀ k f, k < (fL S 148 po).length → 208 ≤ f → f ≤ 212 → fI S' f (gn (fL S 148 po) k) = fI S f (gn (fL S 148 po) k)) (h151 : fQ S' 151 po = fQ S 151 po) : sndX A L S' po p (va_up x v (x v + 1)) G := by
  have eσ : (fun u => zSv A L u p (va_up x v (x v + 1) u)) = (fun u => zSv A L u p (x u)) := by
    funext u
    rw [zSv_up]
    by_cases e : u = v
    · rw [if_pos e, e]
      unfold zSn
      rw [if_pos hpi]
    · rw [if_neg e]
  have eσu : ∀ u, zSv A L u p (va_up x v (x v + 1) u) = zSv A L u p (x u) := fun u => congrFun eσ u
  obtain ⟨⟨a1, a2, a3, a4, a5, a6⟩, b1, b2, b3⟩ := h
  unfold sndX sndG
  rw [eσ, h149, hL148, h151]
  refine ⟨⟨a1, a2, a3, a4, fun g hg => ?_, a6⟩, fun g u hg hu hxu => ?_, b2, fun u hu hpos => ?_⟩
  · obtain ⟨c1, c2, c3, c4, c5⟩ := a5 g hg
    have hk : g < (fL S 148 po).length := by omega
    unfold sFld
    rw [hf g 208 hk (by decide) (by decide), hf g 209 hk (by decide) (by decide), hf g 210 hk (by decide) (by decide), hf g 211 hk (by decide) (by decide), hf g 212 hk (by decide) (by decide)]
    exact ⟨c1, c2, c3, c4, c5⟩
  · rw [va_up_at] at hxu ⊢
    by_cases e : u = v
    · rw [if_pos e] at hxu ⊢
      rw [e]
      exact lex_le (b1 g v hg hv hx) (zCu_lt w hL hv hp hx)
    · rw [if_neg e] at hxu ⊢
      exact b1 g u hg hu hxu
  · rw [eσu] at hpos ⊢
    exact b3 u hu hpos
theorem cn_inj {g g2 : Nat} (h1 : gn G g = v) (h2 : gn G g2 = v) (h : cn G v g = cn G v g2) : g = g2 := by
  rcases Nat.lt_trichotomy g g2 with c | c | c
  · have := cn_lt (G := G) (v := v) c h1
    omega
  · exact c
  · have := cn_lt (G := G) (v := v) c h2
    omega
theorem sndX_2 (w : zM A) (hL : ∀ x, x ∈ L → x < zN A) (hv : v < 4) (hp : p < L.length) (hx : x v < zE A v (gn L p)) (hpi : ¬ A.2 8 (zp v (gn L p) (x v)) ≤ 0) (hgo : zGo A L v p (x v) = true) (h : sndX A L S po p x G) {gl : Nat} (hgl : gl < G.length) (hgv : gn G gl = v) (hgc : cn G v gl + 1 = (zSv A L v p (x v)).1) (h149 : fI S' 149 po = fI S 149 po) (hL148 : fL S' 148 po = fL S 148 po) (hf : ∀ k f, k < (fL S 148 po).length → 208 ≤ f → f ≤ 212 → f ≠ 210 → fI S' f (gn (fL S 148 po) k) = fI S f (gn (fL S 148 po) k)) (hf2 : ∀ k, k < (fL S 148 po).length → fI S' 210 (gn (fL S 148 po) k) = if k = gl then nI (zCu A L v p (x v + 1)) else fI S 210 (gn (fL S 148 po) k)) (h151 : ∀ u, fQ S' 151 po u = if u = v then some (gn (fL S 148 po) gl) else fQ S 151 po u) : sndX A L S' po p (va_up x v (x v + 1)) G := by
  obtain ⟨⟨a1, a2, a3, a4, a5, a6⟩, b1, b2, b3⟩ := h
  have eσ : ∀ u, zSv A L u p (va_up x v (x v + 1) u) = if u = v then ((zSv A L v p (x v)).1, (zSv A L v p (x v)).2.1, va_up (zSv A L v p (x v)).2.2.1 ((zSv A L v p (x v)).1 - 1) (zCu A L v p (x v + 1)), (zSv A L v p (x v)).2.2.2) else zSv A L u p (x u) := fun u => by
    rw [zSv_up]
    by_cases e : u = v
    · rw [if_pos e, if_pos e]
      unfold zSn
      rw [if_neg hpi, if_pos hgo]
    · rw [if_neg e, if_neg e]
  have e1 : ∀ u, (zSv A L u p (va_up x v (x v + 1) u)).1 = (zSv A L u p (x u)).1 := fun u => by
    rw [eσ]
    by_cases e : u = v
    · rw [if_pos e, e]
    · rw [if_neg e]
  have e2 : ∀ u, (zSv A L u p (va_up x v (x v + 1) u)).2.1 = (zSv A L u p (x u)).2.1 := fun u => by
    rw [eσ]
    by_cases e : u = v
    · rw [if_pos e, e]
    · rw [if_neg e]
  have e4 : ∀ u, (zSv A L u p (va_up x v (x v + 1) u)).2.2.2 = (zSv A L u p (x u)).2.2.2 := fun u => by
    rw [eσ]
    by_cases e : u = v
    · rw [if_pos e, e]
    · rw [if_neg e]
  have eB : ∀ g, gB (fun u => zSv A L u p (va_up x v (x v + 1) u)) G g = gB (fun u => zSv A L u p (x u)) G g := fun g => by
    unfold gB
    rw [e2]
  have e3 : ∀ g, g < G.length → (zSv A L (gn G g) p (va_up x v (x v + 1) (gn G g))).2.2.1 (cn G (gn G g) g) = if g = gl then zCu A L v p (x v + 1) else (zSv A L (gn G g) p (x (gn G g))).2.2.1 (cn G (gn G g) g) := fun g hg => by
    rw [eσ]
    by_cases e : gn G g = v
    · rw [if_pos e]
      show va_up (zSv A L v p (x v)).2.2.1 ((zSv A L v p (x v)).1 - 1) (zCu A L v p (x v + 1)) (cn G (gn G g) g) = _
      rw [e, va_up_at]
      by_cases e9 : g = gl
      · rw [if_pos e9, if_pos (by rw [e9]; omega)]
      · rw [if_neg e9, if_neg (fun z => e9 (cn_inj e hgv (by omega)))]
    · rw [if_neg e, if_neg (fun z => e (by rw [z]; exact hgv))]
  refine ⟨⟨by rw [h149]; exact a1, by rw [hL148]; exact a2, a3, fun u hu => ?_, fun g hg => ?_, fun g g2 hgg hg2 => ?_⟩, fun g u hg hu hxu => ?_, fun g hg => ?_, fun u hu hpos => ?_⟩
  · rw [e1]
    exact a4 u hu
  · obtain ⟨c1, c2, c3, c4, c5⟩ := a5 g hg
    have hk : g < (fL S 148 po).length := by omega
    unfold sFld
    rw [hL148, hf g 208 hk (by decide) (by decide) (by decide), hf g 209 hk (by decide) (by decide) (by decide), hf2 g hk, hf g 211 hk (by decide) (by decide) (by decide), hf g 212 hk (by decide) (by decide) (by decide), e2, e4, e3 g hg]
    refine ⟨c1, c2, ?_, c4, c5⟩
    by_cases e9 : g = gl
    · rw [if_pos e9, if_pos e9]
    · rw [if_neg e9, if_neg e9]
      exact c3
  · rw [eB, eB]
    exact a6 g g2 hgg hg2
  · rw [eB]
    rw [va_up_at] at hxu ⊢
    by_cases e : u = v
    · rw [if_pos e] at hxu ⊢
      rw [e]
      exact lex_le (b1 g v hg hv hx) (zCu_lt w hL hv hp hx)
    · rw [if_neg e] at hxu ⊢
      exact b1 g u hg hu hxu
  · rw [eB]
    exact b2 g hg
  · rw [e1] at hpos ⊢
    rw [hL148, h151]
    by_cases e : u = v
    · rw [if_pos e, e]
      exact ⟨gl, hgl, hgv, hgc, rfl⟩
    · rw [if_neg e]
      exact b3 u hu hpos
theorem sndX_3 (w : zM A) (hL : ∀ x, x ∈ L → x < zN A) (hv : v < 4) (hp : p < L.length) (hx : x v < zE A v (gn L p)) (hpi : ¬ A.2 8 (zp v (gn L p) (x v)) ≤ 0) (hgo : ¬ zGo A L v p (x v) = true) (h : sndX A L S po p x G) (hmin : ∀ u, u < 4 → x u < zE A u (gn L p) → zS A v (gn L p) (x v) < zS A u (gn L p) (x u) ∨ (zS A v (gn L p) (x v) = zS A u (gn L p) (x u) ∧ v ≤ u)) (h149 : fI S' 149 po = nI (G.length + 1)) (hlen : G.length < (fL S' 148 po).length) (hg148 : ∀ k, k < (fL S 148 po).length → gn (fL S' 148 po) k = gn (fL S 148 po) k) (hf : ∀ k f, k < G.length → 208 ≤ f → f ≤ 212 → fI S' f (gn (fL S 148 po) k) = fI S f (gn (fL S 148 po) k)) (hnew : sFld A S' (gn (fL S' 148 po) G.length) v (zSn A L v p (x v) (zSv A L v p (x v))) (zSv A L v p (x v)).1) (h151 : ∀ u, fQ S' 151 po u = if u = v then some (gn (fL S' 148 po) G.length) else fQ S 151 po u) : sndX A L S' po p (va_up x v (x v + 1)) (G ++ [v]) := by
  obtain ⟨⟨a1, a2, a3, a4, a5, a6⟩, b1, b2, b3⟩ := h
  have hb := gn_lt hL hp
  have ezs : zSn A L v p (x v) (zSv A L v p (x v)) = ((zSv A L v p (x v)).1 + 1, va_up (zSv A L v p (x v)).2.1 (zSv A L v p (x v)).1 (zCu A L v p (x v)), va_up (zSv A L v p (x v)).2.2.1 (zSv A L v p (x v)).1 (zCu A L v p (x v + 1)), va_up (zSv A L v p (x v)).2.2.2 (zSv A L v p (x v)).1 (16 * gn L p + x v)) := by
    unfold zSn
    rw [if_neg hpi, if_neg hgo]
  have hlt := zCu_lt w hL hv hp hx
  have hend := zCu_end w hL hv hp (k := x v + 1) hx
  have elen : (G ++ [v]).length = G.length + 1 := by rw [List.length_append]; rfl
  have gg : ∀ g, gn (G ++ [v]) g = if g < G.length then gn G g else if g = G.length then v else 0 := fun g => gn_app
  have idx : ∀ g, g < G.length → gn G g = v → cn G v g < (zSv A L v p (x v)).1 := fun g hg hgv => by
    rw [← a4 v hv]
    exact cn_lt hg hgv
  have eB : ∀ g, g < G.length → gB (fun u => zSv A L u p (va_up x v (x v + 1) u)) (G ++ [v]) g = gB (fun u => zSv A L u p (x u)) G g := fun g hg => by
    unfold gB
    rw [gg, if_pos hg, cn_app (by omega)]
    dsimp only
    rw [zSv_up]
    by_cases e : gn G g = v
    · rw [if_pos e, ezs, e]
      show va_up _ _ _ _ = _
      rw [va_up_at, if_neg (Nat.ne_of_lt (idx g hg e))]
    · rw [if_neg e]
  have eBn : gB (fun u => zSv A L u p (va_up x v (x v + 1) u)) (G ++ [v]) G.length = zCu A L v p (x v) := by
    unfold gB
    rw [gg, if_neg (Nat.lt_irrefl _), if_pos rfl, cn_app (Nat.le_refl _), a4 v hv]
    dsimp only
    rw [zSv_up, if_pos rfl, ezs]
    show va_up _ _ _ _ = _
    rw [va_up_at, if_pos rfl]
  refine ⟨⟨by rw [elen]; exact h149, by rw [elen]; omega, fun g hg => ?_, fun u hu => ?_, fun g hg => ?_, fun g g2 hgg hg2 => ?_⟩, fun g u hg hu hxu => ?_, fun g hg => ?_, fun u hu hpos => ?_⟩
  · rw [gg]
    by_cases e : g < G.length
    · rw [if_pos e]
      exact a3 g e
    · rw [if_neg e, if_pos (by omega)]
      exact hv
  · dsimp only
    rw [elen, cn_new, a4 u hu, zSv_up]
    by_cases e : u = v
    · rw [if_pos e, if_pos e.symm, ezs, e]
    · rw [if_neg e, if_neg (fun z => e z.symm)]
      rfl
  · rw [elen] at hg
    by_cases e : g < G.length
    · obtain ⟨c1, c2, c3, c4, c5⟩ := a5 g e
      have hk : g < (fL S 148 po).length := by omega
      dsimp only
      rw [gg, if_pos e, cn_app (by omega), hg148 g hk, zSv_up]
      unfold sFld
      rw [hf g 208 e (by decide) (by decide), hf g 209 e (by decide) (by decide), hf g 210 e (by decide) (by decide), hf g 211 e (by decide) (by decide), hf g 212 e (by decide) (by decide)]
      by_cases e9 : gn G g = v
      · have hne := Nat.ne_of_lt (idx g e e9)
        rw [if_pos e9, ezs]
        dsimp only
        rw [e9] at c1 c2 c3 c4 c5 ⊢
        rw [va_up_at, va_up_at, va_up_at, if_neg hne, if_neg hne, if_neg hne]
        exact ⟨c1, c2, c3, c4, c5⟩
      · rw [if_neg e9]
        exact ⟨c1, c2, c3, c4, c5⟩
    · have e9 : g = G.length := by omega
      subst e9
      dsimp only
      rw [gg, if_neg (Nat.lt_irrefl _), if_pos rfl, cn_app (Nat.le_refl _), a4 v hv, zSv_up, if_pos rfl]
      exact hnew
  · rw [elen] at hg2
    rw [eB g (by omega), gg g, if_pos (by omega), gg g2]
    by_cases e : g2 < G.length
    · rw [eB g2 e, if_pos e]
      exact a6 g g2 hgg e
    · have e9 : g2 = G.length := by omega
      rw [if_neg e, if_pos e9, e9, eBn]
      exact b1 g v (by omega) hv hx
  · rw [elen] at hg
    rw [va_up_at] at hxu ⊢
    by_cases e : g < G.length
    · rw [eB g e, gg, if_pos e]
      by_cases e9 : u = v
      · rw [if_pos e9] at hxu ⊢
        rw [e9]
        exact lex_le (b1 g v e hv hx) hlt
      · rw [if_neg e9] at hxu ⊢
        exact b1 g u e hu hxu
    · have e8 : g = G.length := by omega
      subst e8
      rw [eBn, gg, if_neg (Nat.lt_irrefl _), if_pos rfl]
      by_cases e9 : u = v
      · rw [if_pos e9] at hxu ⊢
        rw [e9]
        exact Or.inl hlt
      · rw [if_neg e9] at hxu ⊢
        rcases hmin u hu hxu with q | q
        · refine Or.inl ?_
          have := z_tlt w hb q
          unfold zCu
          omega
        · refine Or.inr ⟨?_, by omega⟩
          unfold zCu
          rw [q.1]
  · rw [elen] at hg
    by_cases e : g < G.length
    · rw [eB g e]
      exact b2 g e
    · have e8 : g = G.length := by omega
      subst e8
      rw [eBn]
      omega
  · rw [zSv_up] at hpos ⊢
    rw [elen, h151]
    by_cases e : u = v
    · rw [if_pos e]
      refine ⟨G.length, Nat.lt_succ_self _, ?_, ?_, ?_⟩
      · rw [gg, if_neg (Nat.lt_irrefl _), if_pos rfl, e]
      · rw [e, cn_app (Nat.le_refl _), a4 v hv, ezs]
      · rw [if_pos e]
    · rw [if_neg e] at hpos ⊢
      obtain ⟨g, g1, g2, g3, g4⟩ := b3 u hu hpos
      refine ⟨g, by omega, ?_, ?_, ?_⟩
      · rw [gg, if_pos g1]
        exact g2
      · rw [cn_app (by omega)]
        exact g3
      · rw [if_neg e, hg148 g (by omega)]
        exact g4
end PT
