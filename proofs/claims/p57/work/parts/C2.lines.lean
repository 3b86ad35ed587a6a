/-! P57: THE PURE HALF (2): lines, forward and backward -/
section CL
theorem dp_eq {m : Nat} {F T : Nat → Nat} {bd : Nat → Nat → Nat} {al : Nat → Nat → Prop} (F0 : F 0 = 0) (Tm : T m = 0) (Fa : ∀ i k, i < k → k ≤ m → al i k → F k ≤ F i + bd i k) (Fb : ∀ k, 1 ≤ k → k ≤ m → ∃ i, i < k ∧ al i k ∧ F k = F i + bd i k) (Ta : ∀ i k, i < k → k ≤ m → al i k → T i ≤ bd i k + T k) (Tb : ∀ i, i < m → ∃ k, i < k ∧ k ≤ m ∧ al i k ∧ T i = bd i k + T k) : F m = T 0 := by
  have h1 : ∀ d i, i + d = m → F m ≤ F i + T i := by
    intro d
    induction d using Nat.strongRecOn with
    | _ d ih =>
      intro i hi
      by_cases e : d = 0
      · have : i = m := by omega
        rw [this]
        exact Nat.le_add_right _ _
      · obtain ⟨k, k1, k2, k3, k4⟩ := Tb i (by omega)
        have h2 := ih (m - k) (by omega) k (by omega)
        have h3 := Fa i k k1 k2 k3
        omega
  have h2 : ∀ k, k ≤ m → T 0 ≤ F k + T k := by
    intro k
    induction k using Nat.strongRecOn with
    | _ k ih =>
      intro hk
      by_cases e : k = 0
      · rw [e]
        exact Nat.le_add_left _ _
      · obtain ⟨i, i1, i2, i3⟩ := Fb k (by omega) hk
        have h3 := ih i i1 (by omega)
        have h4 := Ta i k i1 hk i2
        omega
  have h3 := h1 m 0 (Nat.zero_add m)
  have h4 := h2 m (Nat.le_refl m)
  omega
variable {W : Nat → Nat} {m P : Nat}
def lnB (W : Nat → Nat) (m P i k : Nat) : Nat := zBd P (zLw W i (k - i)) (decide (k = m))
def lnA (W : Nat → Nat) (P i k : Nat) : Prop := k = i + 1 ∨ zLw W i (k - i) ≤ P
/-- the law's table, forward -/
def lnF (W : Nat → Nat) (m P : Nat) (F : Nat → Nat) (k : Nat) : Nat → Nat
  | 0 => 1000000000
  | f + 1 => if (f + 1 = k ∨ zLw W f (k - f) ≤ P) ∧ F f + lnB W m P f k < lnF W m P F k f then F f + lnB W m P f k else lnF W m P F k f
def fT (W : Nat → Nat) (m P : Nat) : Nat → Nat → Nat
  | 0 => fun _ => 0
  | k + 1 => va_up (fT W m P k) (k + 1) (lnF W m P (fT W m P k) (k + 1) (k + 1))
theorem lnB_le (hP : P ≤ 400) {i k : Nat} (hW : W i ≤ 600) (h : lnA W P i k) : lnB W m P i k ≤ 1360000 := by
  unfold lnB
  rcases h with h | h
  · rw [h, show i + 1 - i = 1 by omega, zLw_1]
    exact zBd_le hP hW
  · exact zBd_le hP (by omega)
theorem lnF_ok {F : Nat → Nat} {k : Nat} : ∀ f, (∀ i, i < f → lnA W P i k → lnF W m P F k f ≤ F i + lnB W m P i k) ∧ (lnF W m P F k f = 1000000000 ∨ ∃ i, i < f ∧ lnA W P i k ∧ lnF W m P F k f = F i + lnB W m P i k) := by
  intro f
  induction f with
  | zero => exact ⟨fun i hi => absurd hi (Nat.not_lt_zero _), Or.inl rfl⟩
  | succ f ih =>
    obtain ⟨a1, a2⟩ := ih
    have e : lnF W m P F k (f + 1) = if (f + 1 = k ∨ zLw W f (k - f) ≤ P) ∧ F f + lnB W m P f k < lnF W m P F k f then F f + lnB W m P f k else lnF W m P F k f := rfl
    by_cases c : (f + 1 = k ∨ zLw W f (k - f) ≤ P) ∧ F f + lnB W m P f k < lnF W m P F k f
    · rw [if_pos c] at e
      have hal : lnA W P f k := c.1.elim (fun z => Or.inl z.symm) Or.inr
      refine ⟨fun i hi hl => ?_, Or.inr ⟨f, Nat.lt_succ_self f, hal, e⟩⟩
      rw [e]
      by_cases e2 : i = f
      · rw [e2]
        exact Nat.le_refl _
      · have := a1 i (by omega) hl
        omega
    · rw [if_neg c] at e
      rw [e]
      refine ⟨fun i hi hl => ?_, a2.elim Or.inl (fun ⟨i, i1, i2, i3⟩ => Or.inr ⟨i, by omega, i2, i3⟩)⟩
      by_cases e2 : i = f
      · rw [e2] at hl ⊢
        refine Nat.le_of_not_lt fun z => c ⟨?_, z⟩
        exact hl.elim (fun z => Or.inl z.symm) Or.inr
      · exact a1 i (by omega) hl
theorem fT_keep {j : Nat} : ∀ k, j ≤ k → fT W m P k j = fT W m P j j := by
  intro k
  induction k with
  | zero => intro h; rw [show j = 0 by omega]
  | succ k ih =>
    intro h
    by_cases e : j = k + 1
    · rw [e]
    · have e2 : fT W m P (k + 1) j = fT W m P k j := va_up_ne _ _ (by omega)
      rw [e2]
      exact ih (by omega)
theorem lnF_c {F F' : Nat → Nat} {k : Nat} : ∀ f, f ≤ k → (∀ i, i < k → F i = F' i) → lnF W m P F k f = lnF W m P F' k f := by
  intro f
  induction f with
  | zero => intro _ _; rfl
  | succ f ih =>
    intro hf h
    show (if _ then _ else _) = (if _ then _ else _)
    rw [ih (by omega) h, h f (by omega)]
theorem fT_at {k : Nat} (hk : 1 ≤ k) (hm : k ≤ m) : fT W m P m k = lnF W m P (fT W m P m) k k := by
  obtain ⟨j, rfl⟩ : ∃ j, k = j + 1 := ⟨k - 1, by omega⟩
  rw [fT_keep m hm]
  have e : fT W m P (j + 1) (j + 1) = lnF W m P (fT W m P j) (j + 1) (j + 1) := va_up_self _ _ _
  rw [e]
  exact lnF_c _ (Nat.le_refl _) (fun i hi => by rw [fT_keep j (by omega), fT_keep m (by omega)])
theorem fT_0 : ∀ k, fT W m P k 0 = 0 := fun k => fT_keep k (Nat.zero_le _)
theorem fT_ok (hP : P ≤ 400) (hm : m ≤ 24) (hW : ∀ j, j < m → W j ≤ 600) {k : Nat} (hk : 1 ≤ k) (hkm : k ≤ m) : fT W m P m k ≤ 1360000 * k ∧ ∃ i, i < k ∧ lnA W P i k ∧ fT W m P m k = fT W m P m i + lnB W m P i k := by
  have key : ∀ k, k ≤ m → fT W m P m k ≤ 1360000 * k := by
    intro k
    induction k with
    | zero => intro _; rw [fT_0]; exact Nat.zero_le _
    | succ k ih =>
      intro h
      have h1 := ih (by omega)
      have h2 := (lnF_ok (W := W) (m := m) (P := P) (F := fT W m P m) (k := k + 1) (k + 1)).1 k (Nat.lt_succ_self k) (Or.inl rfl)
      have h3 := lnB_le (m := m) hP (hW k (by omega)) (Or.inl rfl : lnA W P k (k + 1))
      rw [fT_at (by omega) h]
      omega
  refine ⟨key k hkm, ?_⟩
  have h1 := key k hkm
  rcases (lnF_ok (W := W) (m := m) (P := P) (F := fT W m P m) (k := k) k).2 with h2 | h2
  · rw [fT_at hk hkm] at h1
    omega
  · rw [fT_at hk hkm]
    exact h2
theorem zRd_al {T : Nat → Nat} {i k : Nat} (hik : i < k) (h : lnA W P i k) : zRd W m P T i (k - i) = lnB W m P i k + T k := by
  unfold zRd zTg lnB
  have e : i + (k - i) = k := by omega
  rw [e]
  refine if_pos ?_
  rcases h with h | h
  · exact Or.inl (by omega)
  · exact Or.inr h
/-- the backward table -/
theorem bT_m : (zLs W m P m).1 m = 0 := by
  have h := (zLs_fix (W := W) (P := P) (m := m) (k := 0) (k' := m) (j := m) (Nat.zero_le _) (Nat.le_refl _) (by omega)).1
  rw [h]
  rfl
theorem bT_le (hP : P ≤ 400) (hm : m ≤ 24) (hW : ∀ j, j < m → W j ≤ 600) {i : Nat} : (zLs W m P m).1 i ≤ 32640000 := by
  have := (zLs_ok (W := W) hP hm hW m (Nat.le_refl _) i (by omega)).1
  omega
theorem bT_min (hP : P ≤ 400) (hm : m ≤ 24) (hW : ∀ j, j < m → W j ≤ 600) {i k : Nat} (hik : i < k) (hk : k ≤ m) (h : lnA W P i k) : (zLs W m P m).1 i ≤ lnB W m P i k + (zLs W m P m).1 k := by
  have hzs := zLs_ok (W := W) hP hm hW (m - 1 - i) (by omega)
  obtain ⟨-, a2, -⟩ := zLi_ok (m := m) (i := i) (T := (zLs W m P (m - 1 - i)).1) hP (hW i (by omega)) (c := 1360000 * (m - 1 - i)) (by omega) (D := m - 1 - i + 1) (by omega) (fun d h1 h2 => (hzs (i + d) (by omega)).1)
  obtain ⟨f1, f2⟩ := zLs_fix (W := W) (P := P) (m := m) (k := m - 1 - i + 1) (k' := m) (j := i) (by omega) (Nat.le_refl _) (by omega)
  have g1 : (zLs W m P (m - 1 - i + 1)).1 i = (zLi W m P (zLs W m P (m - 1 - i)).1 i (m - 1 - i + 1)).1 := by
    show va_up (zLs W m P (m - 1 - i)).1 (m - 1 - (m - 1 - i)) (zLi W m P (zLs W m P (m - 1 - i)).1 (m - 1 - (m - 1 - i)) (m - 1 - i + 1)).1 i = _
    rw [va_up_at, if_pos (by omega), show m - 1 - (m - 1 - i) = i by omega]
  have h9 := a2 (k - i) (by omega) (by omega)
  rw [← g1, ← f1, ← zRd_c (W := W) (m := m) (P := P) (i := i) (T := (zLs W m P m).1) (T' := (zLs W m P (m - 1 - i)).1) (d := k - i) (zLs_fix (W := W) (P := P) (m := m) (k := m - 1 - i) (k' := m) (j := i + (k - i)) (by omega) (Nat.le_refl _) (by omega)).1, zRd_al hik h] at h9
  exact h9
theorem bT_pick (hP : P ≤ 400) (hm : m ≤ 24) (hW : ∀ j, j < m → W j ≤ 600) {i : Nat} (hi : i < m) : i < (zLs W m P m).2 i ∧ (zLs W m P m).2 i ≤ m ∧ lnA W P i ((zLs W m P m).2 i) ∧ (zLs W m P m).1 i = lnB W m P i ((zLs W m P m).2 i) + (zLs W m P m).1 ((zLs W m P m).2 i) := by
  obtain ⟨d, d1, d2, d3, d4, -⟩ := zLs_pick hP hm hW hi
  have hle := bT_le (W := W) hP hm hW (i := i)
  have hal : lnA W P i (i + d) := by
    unfold zRd at d4
    by_cases c : d = 1 ∨ zLw W i d ≤ P
    · rcases c with c | c
      · exact Or.inl (by omega)
      · exact Or.inr (by rw [show i + d - i = d by omega]; exact c)
    · rw [if_neg c] at d4
      omega
  rw [d3]
  refine ⟨by omega, d2, hal, ?_⟩
  have h9 := zRd_al (W := W) (m := m) (P := P) (T := (zLs W m P m).1) (i := i) (k := i + d) (by omega) hal
  rw [show i + d - i = d by omega, d4] at h9
  exact h9
/-- the lines are broken as well as can be -/
theorem ln_eq (hP : P ≤ 400) (hm : m ≤ 24) (hW : ∀ j, j < m → W j ≤ 600) : fT W m P m m = (zLs W m P m).1 0 := by
  refine dp_eq (F := fT W m P m) (T := (zLs W m P m).1) (bd := lnB W m P) (al := lnA W P) (fT_0 m) bT_m (fun i k h1 h2 h3 => ?_) (fun k h1 h2 => (fT_ok hP hm hW h1 h2).2) (fun i k h1 h2 h3 => bT_min hP hm hW h1 h2 h3) (fun i hi => ?_)
  · rw [fT_at (by omega) h2]
    exact (lnF_ok (W := W) (m := m) (P := P) (F := fT W m P m) (k := k) k).1 i h1 h3
  · obtain ⟨a1, a2, a3, a4⟩ := bT_pick hP hm hW hi
    exact ⟨_, a1, a2, a3, a4⟩
/-- what the first lines are worth -/
def lnS (W : Nat → Nat) (m P : Nat) (nx : Nat → Nat) : Nat → Nat
  | 0 => 0
  | k + 1 => lnS W m P nx k + lnB W m P (zFi nx m k) (zFi nx m (k + 1))
theorem lnS_ok (hP : P ≤ 400) (hm : m ≤ 24) (hW : ∀ j, j < m → W j ≤ 600) {n : Nat} (h : ∀ k, k < n → zFi (zLs W m P m).2 m k < m) : ∀ k, k ≤ n → lnS W m P (zLs W m P m).2 k + (zLs W m P m).1 (zFi (zLs W m P m).2 m k) = (zLs W m P m).1 0 := by
  intro k
  induction k with
  | zero =>
    intro _
    show 0 + (zLs W m P m).1 0 = _
    omega
  | succ k ih =>
    intro hk
    have h1 := ih (by omega)
    have h2 := h k (by omega)
    obtain ⟨a1, a2, a3, a4⟩ := bT_pick hP hm hW h2
    have e : zFi (zLs W m P m).2 m (k + 1) = (zLs W m P m).2 (zFi (zLs W m P m).2 m k) := if_pos h2
    show lnS W m P (zLs W m P m).2 k + lnB W m P (zFi (zLs W m P m).2 m k) (zFi (zLs W m P m).2 m (k + 1)) + _ = _
    rw [e]
    omega
theorem zLw_add {a d : Nat} : ∀ e, zLw W a (d + e) = zLw W a d + zLw W (a + d) e := by
  intro e
  induction e with
  | zero => rfl
  | succ e ih =>
    show zLw W a (d + e) + W (a + (d + e)) = zLw W a d + (zLw W (a + d) e + W (a + d + e))
    rw [ih, Nat.add_assoc a d e]
    omega
end CL
/-! of a part -/
section CP
variable {A : MS} {S : CS} {o so po v : Nat}
theorem part_W (hA : rA S A o so po) (hv : v < 4) : dP A ≤ 400 ∧ 40 ≤ dP A ∧ A.1 21 = nI (dP A) ∧ dm A v ≤ 24 ∧ (∀ j, j < dm A v → dW A v j ≤ 600 ∧ 10 ≤ dW A v j) := by
  obtain ⟨⟨x, x1, x2, x3⟩, -, -⟩ := (rA_S hA).2.2.2.2
  have e : dP A = x := by
    unfold dP
    rw [x3, aN_nI (by omega)]
  have h1 := (dm_ok (v := v) (rA_M hA)).1
  have hn := (rA_M hA).2.1
  refine ⟨by omega, by omega, by rw [e]; exact x3, by omega, fun j hj => zWi_le (rA_M hA) hv (zIt_ok (zN A)) hj⟩
/-- lines -/
theorem part_L (hA : rA S A o so po) (hv : v < 4) : (∀ k, k < dL A v → dF A v k < dF A v (k + 1) ∧ dF A v (k + 1) ≤ dm A v ∧ lnA (dW A v) (dP A) (dF A v k) (dF A v (k + 1))) ∧ dF A v 0 = 0 ∧ dF A v (dL A v) = dm A v ∧ dL A v ≤ dm A v ∧ lnS (dW A v) (dm A v) (dP A) (dX A v) (dL A v) = dZ A v ∧ fT (dW A v) (dm A v) (dP A) (dm A v) (dm A v) = dZ A v := by
  obtain ⟨p1, p2, p3, p4, p5⟩ := part_W hA hv
  have hW : ∀ j, j < dm A v → dW A v j ≤ 600 := fun j hj => (p5 j hj).1
  have hnx : ∀ j, j < dm A v → j < dX A v j ∧ dX A v j ≤ dm A v := fun j hj => by
    obtain ⟨a1, a2, -⟩ := bT_pick p1 p4 hW hj
    exact ⟨a1, a2⟩
  obtain ⟨n1, n2, n3⟩ := zNl_ok hnx
  refine ⟨fun k hk => ?_, rfl, n2, n3, ?_, ln_eq p1 p4 hW⟩
  · have h2 : zFi (dX A v) (dm A v) k < dm A v := n1 k hk
    obtain ⟨a1, a2, a3, -⟩ := bT_pick p1 p4 hW h2
    have e : zFi (dX A v) (dm A v) (k + 1) = dX A v (zFi (dX A v) (dm A v) k) := if_pos h2
    show zFi (dX A v) (dm A v) k < zFi (dX A v) (dm A v) (k + 1) ∧ zFi (dX A v) (dm A v) (k + 1) ≤ dm A v ∧ lnA (dW A v) (dP A) (zFi (dX A v) (dm A v) k) (zFi (dX A v) (dm A v) (k + 1))
    rw [e]
    exact ⟨a1, a2, a3⟩
  · have h9 := lnS_ok p1 p4 hW (n := dL A v) n1 (dL A v) (Nat.le_refl _)
    have e : zFi (zLs (dW A v) (dm A v) (dP A) (dm A v)).2 (dm A v) (dL A v) = dm A v := n2
    rw [e, bT_m] at h9
    exact h9
end CP
