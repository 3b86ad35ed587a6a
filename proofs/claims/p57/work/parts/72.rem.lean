/-! remove, in the model -/
def rmG (t : MS) (k : Nat) (v i j : Int32) : Prop := (¬ t.2 20 k = 0) ∨ (t.2 15 k = v ∧ ((t.2 16 k = i ∧ t.2 17 k = j) ∨ (t.2 18 k = i ∧ t.2 19 k = j)))
def Rem (t t' : MS) (v i j np : Nat) : Prop := (∀ k, k ≠ 45 → t'.1 k = t.1 k) ∧ (∀ f, f ≠ 6 → (f < 8 ∨ 12 < f) → f ≠ 17 → f ≠ 19 → f ≠ 20 → t'.2 f = t.2 f) ∧ (∀ q, t'.2 6 q = if q = 24 * v + i then nI (zE t v i - 1) else t.2 6 q) ∧ (∀ f r, 8 ≤ f → f ≤ 12 → t'.2 f r = if zp v i j ≤ r ∧ r < zp v i (zE t v i - 1) then t.2 f (r + 1) else t.2 f r) ∧ (∀ k, t'.2 17 k = if k < np then t.2 17 k + mvD (t.2 15 k) (t.2 16 k) (t.2 17 k) (nI v) (nI i) (nI (j + 1)) (-1) else t.2 17 k) ∧ (∀ k, t'.2 19 k = if k < np then t.2 19 k + mvD (t.2 15 k) (t.2 18 k) (t.2 19 k) (nI v) (nI i) (nI (j + 1)) (-1) else t.2 19 k) ∧ ∀ k, (k < np → (rmG t k (nI v) (nI i) (nI j) → t'.2 20 k = 1) ∧ (¬ rmG t k (nI v) (nI i) (nI j) → t'.2 20 k = 0)) ∧ (np ≤ k → t'.2 20 k = t.2 20 k)
section RE
variable {t t' : MS} {v i j np : Nat}
theorem re_n (h : Rem t t' v i j np) : zN t' = zN t := by unfold zN; rw [h.1 0 (by decide)]
theorem re_e (h : Rem t t' v i j np) {v2 i2 : Nat} : zE t' v2 i2 = if 24 * v2 + i2 = 24 * v + i then aN (nI (zE t v i - 1)) else zE t v2 i2 := by
  show aN (t'.2 6 (24 * v2 + i2)) = _
  rw [h.2.2.1]
  by_cases e : 24 * v2 + i2 = 24 * v + i
  · rw [if_pos e, if_pos e]
  · rw [if_neg e, if_neg e]
    rfl
theorem re_r (h : Rem t t' v i j np) (he : zE t v i ≤ 16) {v2 i2 j2 f : Nat} (hne : ¬ 24 * v2 + i2 = 24 * v + i) (hj : j < zE t v i) (hj2 : j2 < 16) (f1 : 8 ≤ f) (f2 : f ≤ 12) : t'.2 f (zp v2 i2 j2) = t.2 f (zp v2 i2 j2) := by
  rw [h.2.2.2.1 f _ f1 f2, if_neg (by unfold zp; omega)]
theorem re_s (h : Rem t t' v i j np) {j2 f : Nat} (hj : j < zE t v i) (hj2 : j2 < zE t v i - 1) (f1 : 8 ≤ f) (f2 : f ≤ 12) : t'.2 f (zp v i j2) = if j2 < j then t.2 f (zp v i j2) else t.2 f (zp v i (j2 + 1)) := by
  rw [h.2.2.2.1 f _ f1 f2]
  by_cases e : j2 < j
  · rw [if_neg (by unfold zp; omega), if_pos e]
  · rw [if_pos (by unfold zp; omega), if_neg e, show zp v i j2 + 1 = zp v i (j2 + 1) by unfold zp; omega]
theorem re_k (h : Rem t t' v i j np) (hj : j < zE t v i) {k : Nat} (hk : k < zE t v i - 1) : zK t' v i k = if k < j then zK t v i k else zK t v i (k + 1) := by
  show aN (tk (t'.2 9 (zp v i k)) (t'.2 10 (zp v i k))) = _
  rw [re_s h hj hk (by decide) (by decide), re_s h hj hk (by decide) (by decide)]
  by_cases e : k < j
  · rw [if_pos e, if_pos e, if_pos e]
    rfl
  · rw [if_neg e, if_neg e, if_neg e]
    rfl
theorem re_l (h : Rem t t' v i j np) : zL t' = zL t ∧ zB t' = zB t ∧ zU t' = zU t := by
  have e1 : t'.2 1 = t.2 1 := h.2.1 1 (by decide) (by decide) (by decide) (by decide) (by decide)
  have e2 : t'.2 2 = t.2 2 := h.2.1 2 (by decide) (by decide) (by decide) (by decide) (by decide)
  refine ⟨?_, ?_, ?_⟩
  · funext i
    unfold zL zB zU
    rw [e1, e2]
  · funext i
    unfold zB
    rw [e1]
  · funext i
    unfold zU
    rw [e2]
/-- the sum of the ticks, when one is taken away -/
theorem zS_rem {v i j n : Nat} {A A' : MS} (hj : j ≤ n) (h : ∀ k, k < n → zK A' v i k = if k < j then zK A v i k else zK A v i (k + 1)) : zS A' v i n + zK A v i j = zS A v i (n + 1) := by
  have h1 : ∀ k, k ≤ j → zS A' v i k = zS A v i k := by
    intro k
    induction k with
    | zero => intro _; rfl
    | succ k ih =>
      intro hk
      show zS A' v i k + zK A' v i k = zS A v i k + zK A v i k
      rw [ih (by omega), h k (by omega), if_pos (by omega)]
  have h2 : ∀ d, j + d ≤ n → zS A' v i (j + d) + zK A v i j = zS A v i (j + d + 1) := by
    intro d
    induction d with
    | zero =>
      intro _
      show zS A' v i j + zK A v i j = zS A v i j + zK A v i j
      rw [h1 j (Nat.le_refl _)]
    | succ d ih =>
      intro hd
      show zS A' v i (j + d) + zK A' v i (j + d) + zK A v i j = zS A v i (j + d + 1) + zK A v i (j + d + 1)
      rw [← ih (by omega), h (j + d) (by omega), if_neg (by omega)]
      omega
  have := h2 (n - j) (by omega)
  rw [show j + (n - j) = n by omega] at this
  exact this
theorem re_M (w : zM t) (h : Rem t t' v i j np) (hv : v < 4) (hi : i < zN t) (hj : j < zE t v i) : zM t' ∧ zE t' v i = zE t v i - 1 ∧ zS t' v i (zE t v i - 1) + zK t v i j = zS t v i (zE t v i) := by
  have hn24 := w.2.1
  have he := (z_r w hi hv).1
  have e1 : zE t' v i = zE t v i - 1 := by rw [re_e h, if_pos rfl, aN_nI (by omega)]
  have e2 : zS t' v i (zE t v i - 1) + zK t v i j = zS t v i (zE t v i - 1 + 1) := zS_rem (by omega) (fun k hk => re_k h hj hk)
  rw [show zE t v i - 1 + 1 = zE t v i by omega] at e2
  have hsL := z_sL w hi hv (Nat.le_refl (zE t v i))
  refine ⟨?_, e1, e2⟩
  refine ⟨by rw [re_n h, h.1 0 (by decide)]; exact w.1, by rw [re_n h]; exact hn24, fun i2 hi2 => ?_⟩
  rw [re_n h] at hi2
  obtain ⟨c1, c2, c3, c4⟩ := z_b w hi2
  refine ⟨?_, ?_, ?_, fun v2 hv2 => ?_⟩
  · rw [(re_l h).2.1, h.2.1 1 (by decide) (by decide) (by decide) (by decide) (by decide)]
    exact c1
  · rw [(re_l h).2.2, h.2.1 2 (by decide) (by decide) (by decide) (by decide) (by decide)]
    exact c2
  · rw [h.2.1 3 (by decide) (by decide) (by decide) (by decide) (by decide)]
    exact c3
  obtain ⟨d1, d2, d3, d4, d5⟩ := c4 v2 hv2
  by_cases e9 : 24 * v2 + i2 = 24 * v + i
  · have ev : v2 = v := by omega
    have ei : i2 = i := by omega
    subst ev
    subst ei
    refine ⟨by omega, by rw [e1, h.2.2.1, if_pos rfl], by rw [h.2.1 7 (by decide) (by decide) (by decide) (by decide) (by decide)]; exact d3, by rw [e1, (re_l h).1]; omega, fun k hk2 => ?_⟩
    rw [e1] at hk2
    unfold zMe zKp
    rw [re_s h hj hk2 (f := 8) (by decide) (by decide), re_s h hj hk2 (f := 9) (by decide) (by decide), re_s h hj hk2 (f := 10) (by decide) (by decide), re_s h hj hk2 (f := 12) (by decide) (by decide)]
    by_cases e8 : k < j
    · rw [if_pos e8, if_pos e8, if_pos e8, if_pos e8]
      exact d5 k (by omega)
    · rw [if_neg e8, if_neg e8, if_neg e8, if_neg e8]
      exact d5 (k + 1) (by omega)
  · have e3 : zE t' v2 i2 = zE t v2 i2 := by rw [re_e h, if_neg e9]
    have es : zS t' v2 i2 (zE t v2 i2) = zS t v2 i2 (zE t v2 i2) := zS_same (fun k hk => by
      show aN (tk (t'.2 9 (zp v2 i2 k)) (t'.2 10 (zp v2 i2 k))) = _
      rw [re_r h he e9 hj (by omega) (by decide) (by decide), re_r h he e9 hj (by omega) (by decide) (by decide)]
      rfl)
    refine ⟨by rw [e3]; exact d1, by rw [e3, h.2.2.1, if_neg e9]; exact d2, by rw [h.2.1 7 (by decide) (by decide) (by decide) (by decide) (by decide)]; exact d3, by rw [e3, es, (re_l h).1]; exact d4, fun k hk2 => ?_⟩
    rw [e3] at hk2
    have g := d5 k hk2
    unfold zMe zKp at g ⊢
    rw [re_r h he e9 hj (j2 := k) (f := 8) (by omega) (by decide) (by decide), re_r h he e9 hj (j2 := k) (f := 9) (by omega) (by decide) (by decide), re_r h he e9 hj (j2 := k) (f := 10) (by omega) (by decide) (by decide), re_r h he e9 hj (j2 := k) (f := 12) (by omega) (by decide) (by decide)]
    exact g
end RE
