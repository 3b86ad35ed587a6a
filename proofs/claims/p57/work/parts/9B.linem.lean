/-! THE MODEL BREAKS LINES -/
def Fl (t t' : MS) : Prop := (∀ k, k ≠ 38 → t'.1 k = t.1 k) ∧ ∀ f, f ≠ 39 → f ≠ 40 → t'.2 f = t.2 f
def lM (t : MS) (W : Nat → Nat) (m P : Nat) : Prop := t.1 38 = nI (zNl (zLs W m P m).2 m m) ∧ (∀ k, k ≤ zNl (zLs W m P m).2 m m → t.2 39 k = nI (zFi (zLs W m P m).2 m k)) ∧ t.2 40 0 = nI ((zLs W m P m).1 0)
/-- what lines are broken of -/
def lI (t : MS) (W : Nat → Nat) (m P : Nat) : Prop := t.1 32 = nI m ∧ t.1 21 = nI P ∧ ∀ j, j < m → t.2 37 j = nI (W j)
section LM
variable {W T T' : Nat → Nat} {m P i : Nat} {t t' : MS}
theorem Fl_rfl : Fl t t := ⟨fun _ _ => rfl, fun _ _ _ => rfl⟩
theorem Fl_trans {u : MS} (h : Fl t t') (g : Fl t' u) : Fl t u := ⟨fun k hk => (g.1 k hk).trans (h.1 k hk), fun f h1 h2 => (g.2 f h1 h2).trans (h.2 f h1 h2)⟩
theorem Fl_msA {f0 : Nat} {i v : Int32} (h : Fl t t') (hf : f0 = 39 ∨ f0 = 40) : Fl t (msA t' f0 i v) := ⟨h.1, fun f h1 h2 => (mA_ne (by omega)).trans (h.2 f h1 h2)⟩
theorem Fl_msI {v : Int32} (h : Fl t t') : Fl t (msI t' 38 v) := ⟨fun k hk => (mI_ne hk).trans (h.1 k hk), h.2⟩
theorem lI_Fl (h : lI t W m P) (g : Fl t t') : lI t' W m P := by
  obtain ⟨h1, h2, h3⟩ := h
  refine ⟨(g.1 32 (by decide)).trans h1, (g.1 21 (by decide)).trans h2, fun j hj => ?_⟩
  rw [g.2 37 (by decide) (by decide)]
  exact h3 j hj
theorem Ag_Fl {A : MS} (g : Ag A t) (h : Fl t t') : Ag A t' := ⟨fun k hk => ⟨(h.1 k (by omega)).trans (g.1 k hk).1, (h.2 k (by omega) (by omega)).trans (g.1 k hk).2⟩, (congrFun (h.2 26 (by decide) (by decide)) 0).trans g.2⟩
theorem zRd_c {d : Nat} (h : T (i + d) = T' (i + d)) : zRd W m P T i d = zRd W m P T' i d := by
  unfold zRd zTg
  rw [h]
theorem zLs_fix {k k' j : Nat} (hk : k ≤ k') (hk' : k' ≤ m) (hj : m - k ≤ j) : (zLs W m P k').1 j = (zLs W m P k).1 j ∧ (zLs W m P k').2 j = (zLs W m P k).2 j := by
  induction k' with
  | zero => rw [show k = 0 by omega]; exact ⟨rfl, rfl⟩
  | succ k' ih =>
    by_cases e : k = k' + 1
    · rw [e]; exact ⟨rfl, rfl⟩
    · have := ih (by omega) (by omega)
      show va_up (zLs W m P k').1 (m - 1 - k') _ j = _ ∧ va_up (zLs W m P k').2 (m - 1 - k') _ j = _
      rw [va_up_at, va_up_at, if_neg (by omega), if_neg (by omega)]
      exact this
/-- the choice at an item -/
theorem zLs_pick (hP : P ≤ 400) (hm : m ≤ 24) (hW : ∀ j, j < m → W j ≤ 600) (hi : i < m) : ∃ d, 1 ≤ d ∧ i + d ≤ m ∧ (zLs W m P m).2 i = i + d ∧ zRd W m P (zLs W m P m).1 i d = (zLs W m P m).1 i ∧ ∀ e, d < e → i + e ≤ m → ¬ zRd W m P (zLs W m P m).1 i e = (zLs W m P m).1 i := by
  have hzs := zLs_ok (W := W) hP hm hW (m - 1 - i) (by omega)
  obtain ⟨-, -, d, d1, d2, d3, d4, d5⟩ := zLi_ok (m := m) (i := i) (T := (zLs W m P (m - 1 - i)).1) hP (hW i hi) (c := 1360000 * (m - 1 - i)) (by omega) (D := m - 1 - i + 1) (by omega) (fun d h1 h2 => (hzs (i + d) (by omega)).1)
  obtain ⟨f1, f2⟩ := zLs_fix (W := W) (P := P) (m := m) (k := m - 1 - i + 1) (k' := m) (j := i) (by omega) (Nat.le_refl _) (by omega)
  have g1 : (zLs W m P (m - 1 - i + 1)).1 i = (zLi W m P (zLs W m P (m - 1 - i)).1 i (m - 1 - i + 1)).1 := by
    show va_up (zLs W m P (m - 1 - i)).1 (m - 1 - (m - 1 - i)) (zLi W m P (zLs W m P (m - 1 - i)).1 (m - 1 - (m - 1 - i)) (m - 1 - i + 1)).1 i = _
    rw [va_up_at, if_pos (by omega), show m - 1 - (m - 1 - i) = i by omega]
  have g2 : (zLs W m P (m - 1 - i + 1)).2 i = (zLi W m P (zLs W m P (m - 1 - i)).1 i (m - 1 - i + 1)).2 := by
    show va_up (zLs W m P (m - 1 - i)).2 (m - 1 - (m - 1 - i)) (zLi W m P (zLs W m P (m - 1 - i)).1 (m - 1 - (m - 1 - i)) (m - 1 - i + 1)).2 i = _
    rw [va_up_at, if_pos (by omega), show m - 1 - (m - 1 - i) = i by omega]
  have hc : ∀ e, 1 ≤ e → zRd W m P (zLs W m P m).1 i e = zRd W m P (zLs W m P (m - 1 - i)).1 i e := fun e he => zRd_c (zLs_fix (W := W) (P := P) (m := m) (k := m - 1 - i) (k' := m) (j := i + e) (by omega) (Nat.le_refl _) (by omega)).1
  refine ⟨d, d1, by omega, by rw [f2, g2]; exact d3, by rw [hc d d1, f1, g1]; exact d4, fun e e1 e2 => ?_⟩
  rw [hc e (by omega), f1, g1]
  exact d5 e e1 (by omega)
end LM
