/-! P57: PLACES BEHIND A REPEAT THAT IS TOLD OR DROPPED; PHRASES COUNTED -/
section PU
variable {A A' : MS} {f g c : Nat}
theorem zPl_upd (hT : zMt A) (hT' : zMt A') (w : zM A) (w' : zM A') (hN : zN A' = zN A) (hf : f < zN A) (hg : g < zN A) (hfg : f ≤ g) (hc : c ≤ g - f) (h4f : A.2 4 f = -1) (h4 : ∀ i, i ≠ f → A'.2 4 i = A.2 4 i) (h5 : ∀ i, i ≠ f → A'.2 5 i = A.2 5 i) (e4 : A'.2 4 f = nI g) (e5 : A'.2 5 f = nI c) (hno : ∀ i, i < zN A → zY A i → zO A i ≠ g) : ∀ m, m ≤ zN A → (zPl A' m).length = (zPl A m).length + (if g < m then g + 1 - c - f else 0) := by
  have hn := w.2.1
  have hyf : zY A' f := fun z => by
    rw [e4] at z
    have : (nI g).toInt = (-1 : Int32).toInt := by rw [z]
    rw [nI_toInt (by omega)] at this
    exact absurd this (by show ¬ (g : Int) = -1; omega)
  have hof : zO A' f = g := by
    unfold zO
    rw [e4, aN_nI (by omega)]
  have hgf : zG A' f = c := by
    unfold zG
    rw [e5, aN_nI (by omega)]
  have hyi : ∀ i, i ≠ f → (zY A' i ↔ zY A i) ∧ zO A' i = zO A i ∧ zG A' i = zG A i := fun i hi => by
    unfold zY zO zG
    rw [h4 i hi, h5 i hi]
    exact ⟨Iff.rfl, rfl, rfl⟩
  have hag : ∀ m, m < zN A → (zAg A' m).length = (zAg A m).length + (if m = g then g + 1 - c - f else 0) := fun m hm => by
    by_cases e : m = g
    · rw [if_pos e, e, zAg_some hT' w' (by rw [hN]; exact hf) hyf hof, zAg_none w (by omega) hno, rg_len, hgf]
      show _ = 0 + _
      omega
    · rw [if_neg e]
      by_cases h : ∃ i, i < zN A ∧ zY A i ∧ zO A i = m
      · obtain ⟨i, i1, i2, i3⟩ := h
        have hif : i ≠ f := fun z => i2 (by rw [z]; exact h4f)
        obtain ⟨k1, k2, k3⟩ := hyi i hif
        rw [zAg_some hT w i1 i2 i3, zAg_some hT' w' (by rw [hN]; exact i1) (k1.mpr i2) (k2.trans i3), k3]
        rfl
      · rw [zAg_none w (by omega) (fun i i1 i2 i3 => h ⟨i, i1, i2, i3⟩), zAg_none w' (by omega) (fun i i1 i2 i3 => ?_)]
        · rfl
        rw [hN] at i1
        by_cases hif : i = f
        · rw [hif, hof] at i3
          exact e i3.symm
        · obtain ⟨k1, k2, k3⟩ := hyi i hif
          exact h ⟨i, i1, k1.mp i2, k2.symm.trans i3⟩
  intro m
  induction m with
  | zero => intro _; rfl
  | succ m ih =>
    intro hm
    have h1 := ih (by omega)
    have h2 := hag m (by omega)
    show (zPl A' m ++ [m] ++ zAg A' m).length = (zPl A m ++ [m] ++ zAg A m).length + _
    rw [List.length_append, List.length_append, List.length_append, List.length_append, h1, h2]
    by_cases c1 : m = g
    · rw [if_pos c1, if_neg (by omega), if_pos (by omega)]
      omega
    · rw [if_neg c1]
      by_cases c2 : g < m
      · rw [if_pos c2, if_pos (by omega)]
        omega
      · rw [if_neg c2, if_neg (by omega)]
        omega
/-- repeats that lie apart end at different bars -/
theorem zO_ne (hT : zMt A) {i j : Nat} (hi : i < zN A) (hj : j < zN A) (yi : zY A i) (yj : zY A j) (h : i ≠ j) : zO A i ≠ zO A j := by
  obtain ⟨-, -, a1, -, -, a2⟩ := hT i hi yi
  obtain ⟨-, -, b1, -, -, b2⟩ := hT j hj yj
  intro z
  by_cases c : i < j
  · exact yj (a2 j c (by omega))
  · exact yi (b2 i (by omega) (by omega))
theorem zFree_no (hT : zMt A) (hF : zFree A f g) (hf : f < zN A) (hfg : f ≤ g) : A.2 4 f = -1 ∧ ∀ i, i < zN A → zY A i → zO A i ≠ g := by
  refine ⟨Classical.byContradiction fun z => ?_, fun i hi hy z => ?_⟩
  · obtain ⟨-, -, a1, -⟩ := hT f hf z
    rcases hF f hf z with h | h <;> omega
  · obtain ⟨-, -, a1, -⟩ := hT i hi hy
    rcases hF i hi hy with h | h <;> omega
theorem zPh_le : ∀ k, k ≤ 20 → ∃ m : Nat, m ≤ k ∧ zPh A k = nI m := by
  intro k
  induction k with
  | zero => intro _; exact ⟨0, Nat.le_refl _, rfl⟩
  | succ k ih =>
    intro hk
    obtain ⟨m, m1, m2⟩ := ih (by omega)
    by_cases c : A.2 20 k = 0
    · refine ⟨m + 1, by omega, ?_⟩
      show zPh A k + (if A.2 20 k = 0 then 1 else 0) = _
      rw [if_pos c, m2, nI_1]
    · refine ⟨m, by omega, ?_⟩
      show zPh A k + (if A.2 20 k = 0 then 1 else 0) = _
      rw [if_neg c, m2]
      exact nI_add m 0
theorem zPh_c : ∀ k, (∀ i, i < k → A'.2 20 i = A.2 20 i) → zPh A' k = zPh A k := by
  intro k
  induction k with
  | zero => intro _; rfl
  | succ k ih =>
    intro h
    show zPh A' k + (if A'.2 20 k = 0 then 1 else 0) = zPh A k + (if A.2 20 k = 0 then 1 else 0)
    rw [ih (fun i hi => h i (by omega)), h k (by omega)]
end PU
