/-! SOUNDS IN THEIR ORDER, IN THE MODEL -/
def zTk (A : MS) (L : List Nat) : Nat → Nat
  | 0 => 0
  | k + 1 => zTk A L k + (zSs A L k L.length).1
/-- sounds were laid -/
def mAll (A t t' : MS) (L : List Nat) : Prop := Ag A t' ∧ plM A t' L ∧ (∀ k, k ≠ 24 → t'.1 k = t.1 k) ∧ (∀ f, f < 25 ∨ 30 < f → t'.2 f = t.2 f) ∧ ∀ v, v < 4 → snM t' v (zSs A L v L.length)
def F31 (t t' : MS) : Prop := t'.1 = t.1 ∧ ∀ f, f ≠ 31 → t'.2 f = t.2 f
section SA
variable {A t t' : MS} {L G : List Nat} {σ : Nat → SQ}
theorem zTk_4 : zTk A L 4 = zTo A L := by
  show 0 + _ + _ + _ + _ = _
  rw [Nat.zero_add]
  rfl
theorem zTk_le (w : zM A) (hL : ∀ x, x ∈ L → x < zN A) (h48 : L.length ≤ 48) {k : Nat} (hk : k ≤ 4) : zTk A L k ≤ 768 * k := by
  induction k with
  | zero => exact Nat.le_refl _
  | succ k ih =>
    have h1 := ih (by omega)
    have h2 := zSs_n w hL (v := k) (by omega) L.length (Nat.le_refl _)
    show zTk A L k + _ ≤ _
    omega
theorem snM_Fs {v k : Nat} {s : SQ} (hs : s.1 ≤ 768) (h : snM t v s) (g : Fs k t t') (hne : v ≠ k) : snM t' v s := by
  obtain ⟨h1, h2⟩ := h
  obtain ⟨-, -, g3, g4⟩ := g
  refine ⟨(g3 v hne).trans h1, fun x hx => ?_⟩
  obtain ⟨a1, a2, a3⟩ := h2 x hx
  exact ⟨(g4 28 _ (by decide) (by decide) (by omega)).trans a1, (g4 29 _ (by decide) (by decide) (by omega)).trans a2, (g4 30 _ (by decide) (by decide) (by omega)).trans a3⟩
theorem cn_nx {u k n : Nat} (h : cn G u k < cn G u n) : ∃ g, k ≤ g ∧ g < n ∧ gn G g = u ∧ cn G u g = cn G u k := by
  induction n with
  | zero => exact absurd h (Nat.not_lt_zero _)
  | succ n ih =>
    by_cases c : cn G u k < cn G u n
    · obtain ⟨g, g1, g2, g3, g4⟩ := ih c
      exact ⟨g, g1, by omega, g3, g4⟩
    · have h1 : cn G u (n + 1) = cn G u n + (if gn G n = u then 1 else 0) := rfl
      have hk : k ≤ n := by
        refine Nat.le_of_not_lt (fun z => ?_)
        have := cn_mono (G := G) (v := u) (a := n + 1) (b := k) z
        omega
      by_cases e : gn G n = u
      · rw [if_pos e] at h1
        exact ⟨n, hk, Nat.lt_succ_self _, e, by omega⟩
      · rw [if_neg e] at h1
        omega
end SA
