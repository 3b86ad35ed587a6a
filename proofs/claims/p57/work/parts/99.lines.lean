/-! LINES -/
def zBd (P x : Nat) (last : Bool) : Nat := if x ≤ P then (if last = true then (P - x) * (P - x) / 4 else (P - x) * (P - x)) else 1000000 + (x - P) * (x - P)
/-- widths together -/
def zLw (W : Nat → Nat) (a : Nat) : Nat → Nat
  | 0 => 0
  | d + 1 => zLw W a d + W (a + d)
def zTg (W : Nat → Nat) (m P : Nat) (T : Nat → Nat) (i d : Nat) : Nat := zBd P (zLw W i d) (decide (i + d = m)) + T (i + d)
/-- least badness from an item on, and the first item of the next line, when a line has d items at most -/
def zLi (W : Nat → Nat) (m P : Nat) (T : Nat → Nat) (i : Nat) : Nat → Nat × Nat
  | 0 => (0, i)
  | d + 1 => if d = 0 then (zTg W m P T i 1, i + 1) else if zLw W i (d + 1) ≤ P ∧ zTg W m P T i (d + 1) ≤ (zLi W m P T i d).1 then (zTg W m P T i (d + 1), i + (d + 1)) else zLi W m P T i d
/-- for the last k items -/
def zLs (W : Nat → Nat) (m P : Nat) : Nat → (Nat → Nat) × (Nat → Nat)
  | 0 => (fun _ => 0, fun _ => 0)
  | k + 1 => (va_up (zLs W m P k).1 (m - 1 - k) (zLi W m P (zLs W m P k).1 (m - 1 - k) (k + 1)).1, va_up (zLs W m P k).2 (m - 1 - k) (zLi W m P (zLs W m P k).1 (m - 1 - k) (k + 1)).2)
def zRd (W : Nat → Nat) (m P : Nat) (T : Nat → Nat) (i d : Nat) : Nat := if d = 1 ∨ zLw W i d ≤ P then zTg W m P T i d else 100000000
def zMi (W : Nat → Nat) (m P : Nat) (T : Nat → Nat) (i : Nat) : Nat → Nat
  | 0 => 100000000
  | d + 1 => if zMi W m P T i d ≤ zRd W m P T i (d + 1) then zMi W m P T i d else zRd W m P T i (d + 1)
/-- first items of lines -/
def zFi (nx : Nat → Nat) (m : Nat) : Nat → Nat
  | 0 => 0
  | k + 1 => if zFi nx m k < m then nx (zFi nx m k) else m
/-- how many lines -/
def zNl (nx : Nat → Nat) (m : Nat) : Nat → Nat
  | 0 => 0
  | f + 1 => if zFi nx m f < m then f + 1 else zNl nx m f
section LN
variable {W T : Nat → Nat} {m P i : Nat}
theorem sq_le {x c : Nat} (h : x ≤ c) : x * x ≤ c * c := Nat.mul_le_mul h h
theorem zBd_le {x : Nat} {l : Bool} (hP : P ≤ 400) (hx : x ≤ 600) : zBd P x l ≤ 1360000 := by
  unfold zBd
  have h1 := sq_le (x := P - x) (c := 400) (by omega)
  have h2 := sq_le (x := x - P) (c := 600) (by omega)
  by_cases e : x ≤ P
  · rw [if_pos e]
    by_cases e2 : l = true
    · rw [if_pos e2]; omega
    · rw [if_neg e2]; omega
  · rw [if_neg e]; omega
theorem zLw_mono {a d e : Nat} (h : d ≤ e) : zLw W a d ≤ zLw W a e := by
  induction e with
  | zero => rw [show d = 0 by omega]; exact Nat.le_refl _
  | succ e ih =>
    by_cases c : d = e + 1
    · rw [c]; exact Nat.le_refl _
    · have := ih (by omega)
      show _ ≤ zLw W a e + _
      omega
theorem zLw_le {a d : Nat} (h : ∀ j, j < d → W (a + j) ≤ 600) : zLw W a d ≤ 600 * d := by
  induction d with
  | zero => exact Nat.le_refl _
  | succ d ih =>
    have h1 := ih (fun j hj => h j (by omega))
    have h2 := h d (Nat.lt_succ_self _)
    show zLw W a d + W (a + d) ≤ _
    omega
theorem zLw_1 : zLw W i 1 = W i := by
  show 0 + W (i + 0) = W i
  rw [Nat.zero_add]
  rfl
/-- together, when it counts -/
theorem zTg_le (hP : P ≤ 400) (hW : W i ≤ 600) {d c : Nat} (hd : d = 1 ∨ zLw W i d ≤ P) (hT : T (i + d) ≤ c) : zTg W m P T i d ≤ 1360000 + c := by
  have h : zLw W i d ≤ 600 := by
    rcases hd with rfl | h
    · rw [zLw_1]; exact hW
    · omega
  have := zBd_le (l := decide (i + d = m)) hP h
  unfold zTg
  omega
theorem zRd_le (hP : P ≤ 400) (hW : W i ≤ 600) {d c : Nat} (hc : c ≤ 98000000) (hT : T (i + d) ≤ c) : zRd W m P T i d ≤ 100000000 := by
  unfold zRd
  by_cases e : d = 1 ∨ zLw W i d ≤ P
  · rw [if_pos e]
    have := zTg_le (m := m) hP hW e hT
    omega
  · rw [if_neg e]
    exact Nat.le_refl _
theorem zLi_1 : zLi W m P T i 1 = (zTg W m P T i 1, i + 1) := if_pos rfl
theorem zLi_s {d : Nat} (hd : 0 < d) : zLi W m P T i (d + 1) = if zLw W i (d + 1) ≤ P ∧ zTg W m P T i (d + 1) ≤ (zLi W m P T i d).1 then (zTg W m P T i (d + 1), i + (d + 1)) else zLi W m P T i d := if_neg (by omega)
theorem zLi_stop {d e : Nat} (hd : 0 < d) (hde : d ≤ e) (h : ¬ zLw W i (d + 1) ≤ P) : zLi W m P T i e = zLi W m P T i d := by
  induction e with
  | zero => omega
  | succ e ih =>
    by_cases c : d = e + 1
    · rw [c]
    · rw [zLi_s (by omega), if_neg, ih (by omega)]
      intro z
      have := zLw_mono (W := W) (a := i) (d := d + 1) (e := e + 1) (by omega)
      omega
/-- what is taken -/
theorem zLi_ok (hP : P ≤ 400) (hW : W i ≤ 600) {c : Nat} (hc : c ≤ 98000000) {D : Nat} (hD : 0 < D) (hT : ∀ d, 1 ≤ d → d ≤ D → T (i + d) ≤ c) : (zLi W m P T i D).1 ≤ 1360000 + c ∧ (∀ d, 1 ≤ d → d ≤ D → (zLi W m P T i D).1 ≤ zRd W m P T i d) ∧ ∃ d, 1 ≤ d ∧ d ≤ D ∧ (zLi W m P T i D).2 = i + d ∧ zRd W m P T i d = (zLi W m P T i D).1 ∧ ∀ e, d < e → e ≤ D → ¬ zRd W m P T i e = (zLi W m P T i D).1 := by
  induction D with
  | zero => omega
  | succ D ih =>
    by_cases e0 : D = 0
    · subst e0
      have e : zRd W m P T i 1 = zTg W m P T i 1 := if_pos (Or.inl rfl)
      rw [zLi_1]
      refine ⟨zTg_le hP hW (Or.inl rfl) (hT 1 (by omega) (by omega)), fun d h1 h2 => ?_, 1, by omega, by omega, rfl, e, fun x x1 x2 => by omega⟩
      rw [show d = 1 by omega, e]
      exact Nat.le_refl _
    · obtain ⟨i1, i2, d, i3, i4, i5, i6, i7⟩ := ih (by omega) (fun d h1 h2 => hT d h1 (by omega))
      rw [zLi_s (by omega)]
      by_cases c1 : zLw W i (D + 1) ≤ P ∧ zTg W m P T i (D + 1) ≤ (zLi W m P T i D).1
      · rw [if_pos c1]
        have e : zRd W m P T i (D + 1) = zTg W m P T i (D + 1) := if_pos (Or.inr c1.1)
        refine ⟨by have := c1.2; show zTg W m P T i (D + 1) ≤ _; omega, fun x x1 x2 => ?_, D + 1, by omega, by omega, rfl, e, fun x x1 x2 => by omega⟩
        by_cases ex : x = D + 1
        · rw [ex, e]
          exact Nat.le_refl _
        · exact Nat.le_trans c1.2 (i2 x x1 (by omega))
      · rw [if_neg c1]
        have hlt : (zLi W m P T i D).1 < zRd W m P T i (D + 1) := by
          unfold zRd
          by_cases c2 : zLw W i (D + 1) ≤ P
          · rw [if_pos (Or.inr c2)]
            have := fun z => c1 ⟨c2, z⟩
            exact Nat.lt_of_not_le this
          · rw [if_neg (fun z => z.elim (fun z => by omega) c2)]
            omega
        refine ⟨i1, fun x x1 x2 => ?_, d, i3, by omega, i5, i6, fun x x1 x2 => ?_⟩
        · by_cases ex : x = D + 1
          · rw [ex]
            exact Nat.le_of_lt hlt
          · exact i2 x x1 (by omega)
        · by_cases ex : x = D + 1
          · rw [ex]
            omega
          · exact i7 x x1 (by omega)
theorem zMi_is (hP : P ≤ 400) (hW : W i ≤ 600) {c : Nat} (hc : c ≤ 98000000) {D : Nat} (hD : 0 < D) (hT : ∀ d, 1 ≤ d → d ≤ D → T (i + d) ≤ c) : zMi W m P T i D = (zLi W m P T i D).1 := by
  induction D with
  | zero => omega
  | succ D ih =>
    by_cases e0 : D = 0
    · subst e0
      have e : zRd W m P T i 1 = zTg W m P T i 1 := if_pos (Or.inl rfl)
      have h1 := zTg_le (m := m) hP hW (Or.inl rfl) (hT 1 (by omega) (by omega))
      show (if 100000000 ≤ zRd W m P T i 1 then _ else zRd W m P T i 1) = (zLi W m P T i 1).1
      rw [zLi_1, if_neg (by omega), e]
    · have hi := ih (by omega) (fun d h1 h2 => hT d h1 (by omega))
      have i1 := (zLi_ok (m := m) hP hW hc (D := D) (by omega) (fun d h1 h2 => hT d h1 (by omega))).1
      show (if zMi W m P T i D ≤ zRd W m P T i (D + 1) then zMi W m P T i D else zRd W m P T i (D + 1)) = _
      rw [hi, zLi_s (by omega)]
      by_cases c1 : zLw W i (D + 1) ≤ P ∧ zTg W m P T i (D + 1) ≤ (zLi W m P T i D).1
      · rw [if_pos c1]
        have e : zRd W m P T i (D + 1) = zTg W m P T i (D + 1) := if_pos (Or.inr c1.1)
        rw [e]
        by_cases c2 : (zLi W m P T i D).1 ≤ zTg W m P T i (D + 1)
        · rw [if_pos c2]
          exact Nat.le_antisymm c2 c1.2
        · rw [if_neg c2]
      · rw [if_neg c1, if_pos]
        unfold zRd
        by_cases c2 : zLw W i (D + 1) ≤ P
        · rw [if_pos (Or.inr c2)]
          have := fun z => c1 ⟨c2, z⟩
          omega
        · rw [if_neg (fun z => z.elim (fun z => by omega) c2)]
          omega
theorem zMi_le : ∀ D, zMi W m P T i D ≤ 100000000 := by
  intro D
  induction D with
  | zero => exact Nat.le_refl _
  | succ D ih =>
    show (if zMi W m P T i D ≤ zRd W m P T i (D + 1) then zMi W m P T i D else zRd W m P T i (D + 1)) ≤ _
    by_cases c : zMi W m P T i D ≤ zRd W m P T i (D + 1)
    · rw [if_pos c]; exact ih
    · rw [if_neg c]; omega
/-- the table of the last items: bounded, and the next is behind -/
theorem zLs_ok (hP : P ≤ 400) (hm : m ≤ 24) (hW : ∀ j, j < m → W j ≤ 600) : ∀ k, k ≤ m → ∀ j, m - k ≤ j → (zLs W m P k).1 j ≤ 1360000 * k ∧ (j < m → j < (zLs W m P k).2 j ∧ (zLs W m P k).2 j ≤ m) := by
  intro k
  induction k with
  | zero => intro _ j hj; exact ⟨Nat.zero_le _, fun z => by omega⟩
  | succ k ih =>
    intro hk j hj
    have hi := ih (by omega)
    show va_up (zLs W m P k).1 (m - 1 - k) _ j ≤ _ ∧ (j < m → j < va_up (zLs W m P k).2 (m - 1 - k) _ j ∧ va_up (zLs W m P k).2 (m - 1 - k) _ j ≤ m)
    rw [va_up_at, va_up_at]
    by_cases e : j = m - 1 - k
    · rw [if_pos e, if_pos e]
      obtain ⟨g1, -, d, g2, g3, g4, -⟩ := zLi_ok (m := m) (i := m - 1 - k) (T := (zLs W m P k).1) hP (hW _ (by omega)) (c := 1360000 * k) (by omega) (D := k + 1) (by omega) (fun d h1 h2 => (hi (m - 1 - k + d) (by omega)).1)
      exact ⟨by omega, fun _ => by omega⟩
    · rw [if_neg e, if_neg e]
      have := hi j (by omega)
      exact ⟨by omega, this.2⟩
theorem zFi_ok {nx : Nat → Nat} (h : ∀ j, j < m → j < nx j ∧ nx j ≤ m) : ∀ k, zFi nx m k ≤ m ∧ (zFi nx m k < m → k ≤ zFi nx m k) ∧ (zFi nx m k < m → zFi nx m k < zFi nx m (k + 1)) := by
  intro k
  induction k with
  | zero =>
    refine ⟨Nat.zero_le _, fun _ => Nat.le_refl _, fun z => ?_⟩
    show 0 < if 0 < m then nx 0 else m
    rw [if_pos (show 0 < m from z)]
    exact (h 0 z).1
  | succ k ih =>
    have e : zFi nx m (k + 1) = if zFi nx m k < m then nx (zFi nx m k) else m := rfl
    have e2 : zFi nx m (k + 2) = if zFi nx m (k + 1) < m then nx (zFi nx m (k + 1)) else m := rfl
    refine ⟨?_, fun z => ?_, fun z => ?_⟩
    · rw [e]
      by_cases c : zFi nx m k < m
      · rw [if_pos c]; exact (h _ c).2
      · rw [if_neg c]; exact Nat.le_refl _
    · by_cases c : zFi nx m k < m
      · have h1 := ih.2.1 c
        have h2 := ih.2.2 c
        omega
      · rw [e, if_neg c] at z
        omega
    · rw [e2, if_pos z]
      exact (h _ z).1
theorem zFi_stay {nx : Nat → Nat} {k j : Nat} (hk : ¬ zFi nx m k < m) (hj : k ≤ j) (h : zFi nx m k ≤ m) : zFi nx m j = m := by
  induction j with
  | zero => rw [show k = 0 by omega] at hk h; omega
  | succ j ih =>
    by_cases e : k = j + 1
    · rw [e] at hk h; omega
    · show (if zFi nx m j < m then _ else m) = m
      rw [ih (by omega), if_neg (Nat.lt_irrefl _)]
theorem zNl_ok {nx : Nat → Nat} (h : ∀ j, j < m → j < nx j ∧ nx j ≤ m) : (∀ k, k < zNl nx m m → zFi nx m k < m) ∧ zFi nx m (zNl nx m m) = m ∧ zNl nx m m ≤ m := by
  have key : ∀ f, zNl nx m f ≤ f ∧ (∀ k, k < zNl nx m f → zFi nx m k < m) ∧ ∀ k, zNl nx m f ≤ k → k < f → ¬ zFi nx m k < m := by
    intro f
    induction f with
    | zero => exact ⟨Nat.le_refl _, fun k hk => absurd hk (Nat.not_lt_zero _), fun k _ hk => absurd hk (Nat.not_lt_zero _)⟩
    | succ f ih =>
      obtain ⟨i1, i2, i3⟩ := ih
      by_cases c : zFi nx m f < m
      · have e : zNl nx m (f + 1) = f + 1 := if_pos c
        rw [e]
        refine ⟨Nat.le_refl _, fun k hk => Classical.byContradiction fun z => ?_, fun k h1 h2 => by omega⟩
        have := zFi_stay z (j := f) (by omega) (zFi_ok h k).1
        omega
      · have e : zNl nx m (f + 1) = zNl nx m f := if_neg c
        rw [e]
        refine ⟨by omega, i2, fun k h1 h2 => ?_⟩
        by_cases e2 : k = f
        · rw [e2]; exact c
        · exact i3 k h1 (by omega)
  obtain ⟨k1, k2, k3⟩ := key m
  refine ⟨k2, ?_, k1⟩
  have h1 := (zFi_ok h (zNl nx m m)).1
  by_cases c : zFi nx m (zNl nx m m) < m
  · have h2 := (zFi_ok h (zNl nx m m)).2.1 c
    by_cases e : zNl nx m m < m
    · exact absurd c (k3 _ (Nat.le_refl _) e)
    · omega
  · omega
theorem nI_sq {a b : Nat} : (nI a - nI b) * (nI a - nI b) = nI ((if b ≤ a then a - b else b - a) * (if b ≤ a then a - b else b - a)) := by
  by_cases e : b ≤ a
  · rw [if_pos e, pk_sub e, pk_mul]
  · rw [if_neg e, ← Int32.neg_mul_neg, Int32.neg_sub, pk_sub (by omega), pk_mul]
end LN
