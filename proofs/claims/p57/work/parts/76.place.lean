/-! PLACES -/
def gn (L : List Nat) (p : Nat) : Nat := (L[p]?).getD 0
def rg (a : Nat) : Nat → List Nat
  | 0 => []
  | k + 1 => rg a k ++ [a + k]
/-- the bars that are played once more behind a bar -/
def zAg (A : MS) (b : Nat) : List Nat := match (List.range (zN A)).find? (fun i => decide (A.2 4 i = nI b)) with
  | none => []
  | some i => rg i (b + 1 - zG A i - i)
def zPl (A : MS) : Nat → List Nat
  | 0 => []
  | m + 1 => zPl A m ++ [m] ++ zAg A m
def zTb (A : MS) (b : Nat) : Nat := zT A b (zL A b)
def zSt (A : MS) (L : List Nat) : Nat → Nat
  | 0 => 0
  | p + 1 => zSt A L p + zTb A (gn L p)
section PL
variable {A : MS}
theorem rg_len (a k : Nat) : (rg a k).length = k := by
  induction k with
  | zero => rfl
  | succ k ih =>
    show (rg a k ++ [a + k]).length = k + 1
    rw [List.length_append, ih]
    rfl
theorem gn_app {L : List Nat} {x p : Nat} : gn (L ++ [x]) p = if p < L.length then gn L p else if p = L.length then x else 0 := gl_app
theorem gn_app2 {L M : List Nat} {p : Nat} (h : p < L.length) : gn (L ++ M) p = gn L p := by
  unfold gn
  rw [List.getElem?_append, if_pos h]
theorem zSt_app {L M : List Nat} {p : Nat} (h : p ≤ L.length) : zSt A (L ++ M) p = zSt A L p := by
  induction p with
  | zero => rfl
  | succ p ih =>
    show zSt A (L ++ M) p + zTb A (gn (L ++ M) p) = zSt A L p + zTb A (gn L p)
    rw [ih (by omega), gn_app2 (by omega)]
theorem zAg_some (hT : zMt A) (w : zM A) {i b : Nat} (hi : i < zN A) (hy : zY A i) (hb : zO A i = b) : zAg A b = rg i (b + 1 - zG A i - i) := by
  have hn := w.2.1
  obtain ⟨g1, -, g3, g4, -⟩ := hT i hi hy
  unfold zAg
  have hs : (List.range (zN A)).find? (fun i => decide (A.2 4 i = nI b)) = some i := by
    rw [List.find?_eq_some_iff_append]
    refine ⟨by rw [g1, hb]; exact decide_eq_true rfl, (List.range i), (List.range' (i + 1) (zN A - i - 1)), ?_, ?_⟩
    · rw [List.range_eq_range', List.range_eq_range', show i :: List.range' (i + 1) (zN A - i - 1) = List.range' i (zN A - i - 1 + 1) from rfl, show (zN A - i - 1 + 1) = zN A - i by omega]
      have := List.range'_append_1 (s := 0) (m := i) (n := zN A - i)
      rw [Nat.zero_add, show i + (zN A - i) = zN A by omega] at this
      exact this.symm
    · intro a ha
      have ha' : a < i := List.mem_range.mp ha
      simp only [Bool.not_eq_true', decide_eq_false_iff_not]
      intro z
      have hya : zY A a := fun z9 => by
        rw [z] at z9
        have : (nI b).toInt = (-1 : Int32).toInt := by rw [z9]
        rw [nI_toInt (by omega)] at this
        exact absurd this (by show ¬ (b : Int) = -1; omega)
      obtain ⟨q1, -, -, q4, -, q6⟩ := hT a (by omega) hya
      have e : zO A a = b := by
        rw [q1] at z
        exact (nI_eq (by omega) (by omega)).mp z
      exact hy (q6 i ha' (by omega))
  rw [hs]
theorem zAg_none (w : zM A) {b : Nat} (hb : b < 2147483648) (h : ∀ i, i < zN A → zY A i → zO A i ≠ b) : zAg A b = [] := by
  have hs : (List.range (zN A)).find? (fun i => decide (A.2 4 i = nI b)) = none := by
    rw [List.find?_eq_none]
    intro i hi
    simp only [decide_eq_true_eq]
    intro z
    have hya : zY A i := fun z9 => by
      rw [z] at z9
      have : (nI b).toInt = (-1 : Int32).toInt := by rw [z9]
      rw [nI_toInt (by omega)] at this
      exact absurd this (by show ¬ (b : Int) = -1; omega)
    refine h i (List.mem_range.mp hi) hya ?_
    unfold zO
    rw [z, aN_nI hb]
  unfold zAg
  rw [hs]
/-- all repeats that began ahead are over -/
def zJp (A : MS) (b : Nat) : Prop := ∀ i, i < b → zY A i → zO A i < b
theorem zPl_no (w : zM A) (hT : zMt A) {b : Nat} (hb : b < zN A) (hj : zJp A b) (hy : ¬ zY A b) : zPl A (b + 1) = zPl A b ++ rg b 1 ∧ zJp A (b + 1) := by
  have hn := w.2.1
  have e : zAg A b = [] := zAg_none w (by omega) (fun i hi hyi z => by
    by_cases h : i < b
    · have := hj i h hyi
      omega
    · obtain ⟨-, -, q3, -⟩ := hT i hi hyi
      have : i = b := by omega
      rw [this] at hyi
      exact hy hyi)
  refine ⟨?_, fun i hi hyi => ?_⟩
  · show zPl A b ++ [b] ++ zAg A b = zPl A b ++ ([] ++ [b + 0])
    rw [e, List.append_nil]
    rfl
  · by_cases h : i = b
    · rw [h] at hyi
      exact absurd hyi hy
    · have := hj i (by omega) hyi
      omega
theorem zPl_yes (w : zM A) (hT : zMt A) {b : Nat} (hb : b < zN A) (hj : zJp A b) (hy : zY A b) : zPl A (zO A b + 1) = zPl A b ++ rg b (zO A b + 1 - b) ++ rg b (zO A b - zG A b + 1 - b) ∧ zJp A (zO A b + 1) := by
  have hn := w.2.1
  obtain ⟨g1, g2, g3, g4, g5, g6⟩ := hT b hb hy
  have mid : ∀ c, b ≤ c → c < zO A b → zAg A c = [] := fun c h1 h2 => zAg_none w (by omega) (fun i hi hyi z => by
    obtain ⟨-, -, q3, -⟩ := hT i hi hyi
    by_cases h : i < b
    · have := hj i h hyi
      omega
    · by_cases h3 : i = b
      · rw [h3] at z
        omega
      · exact hyi (g6 i (by omega) (by omega)))
  have pre : ∀ d, b + d ≤ zO A b → zPl A (b + d) = zPl A b ++ rg b d := by
    intro d
    induction d with
    | zero => intro _; exact (List.append_nil _).symm
    | succ d ih =>
      intro hd
      show zPl A (b + d) ++ [b + d] ++ zAg A (b + d) = zPl A b ++ (rg b d ++ [b + d])
      rw [mid (b + d) (by omega) (by omega), List.append_nil, ih (by omega), List.append_assoc]
  refine ⟨?_, fun i hi hyi => ?_⟩
  · have e := pre (zO A b - b) (by omega)
    rw [show b + (zO A b - b) = zO A b by omega] at e
    show zPl A (zO A b) ++ [zO A b] ++ zAg A (zO A b) = _
    rw [zAg_some hT w hb hy rfl, e, show zO A b + 1 - b = (zO A b - b) + 1 by omega, show zO A b - zG A b + 1 - b = zO A b + 1 - zG A b - b by omega]
    show zPl A b ++ rg b (zO A b - b) ++ [zO A b] ++ _ = zPl A b ++ (rg b (zO A b - b) ++ [b + (zO A b - b)]) ++ _
    rw [show b + (zO A b - b) = zO A b by omega, List.append_assoc (zPl A b)]
  · by_cases h : i < b
    · have := hj i h hyi
      omega
    · by_cases h3 : i = b
      · rw [h3]
        omega
      · exact absurd (g6 i (by omega) (by omega)) hyi
theorem zPl_mono {a b : Nat} (h : a ≤ b) : ∃ M, zPl A b = zPl A a ++ M := by
  induction b with
  | zero => rw [show a = 0 by omega]; exact ⟨[], (List.append_nil _).symm⟩
  | succ b ih =>
    by_cases e : a = b + 1
    · rw [e]; exact ⟨[], (List.append_nil _).symm⟩
    · obtain ⟨M, hM⟩ := ih (by omega)
      refine ⟨M ++ [b] ++ zAg A b, ?_⟩
      show zPl A b ++ [b] ++ zAg A b = _
      rw [hM]
      simp only [List.append_assoc]
theorem zPl_len (w : zM A) (hT : zMt A) : (zPl A (zN A)).length ≤ 2 * zN A := by
  have key : ∀ d b, zN A - b ≤ d → b ≤ zN A → zJp A b → (zPl A b).length ≤ 2 * b → (zPl A (zN A)).length ≤ 2 * zN A := by
    intro d
    induction d with
    | zero =>
      intro b h1 h2 _ h4
      rw [show b = zN A by omega] at h4
      exact h4
    | succ d ih =>
      intro b h1 h2 h3 h4
      by_cases e : b = zN A
      · rw [e] at h4
        exact h4
      · by_cases hy : zY A b
        · obtain ⟨g1, g2, g3, g4, g5, g6⟩ := hT b (by omega) hy
          obtain ⟨q1, q2⟩ := zPl_yes w hT (by omega) h3 hy
          refine ih (zO A b + 1) (by omega) (by omega) q2 ?_
          rw [q1, List.length_append, List.length_append, rg_len, rg_len]
          omega
        · obtain ⟨q1, q2⟩ := zPl_no w hT (by omega) h3 hy
          refine ih (b + 1) (by omega) (by omega) q2 ?_
          rw [q1, List.length_append, rg_len]
          omega
  exact key (zN A) 0 (by omega) (by omega) (fun i hi => absurd hi (Nat.not_lt_zero _)) (Nat.le_refl _)
theorem zPl_len48 (w : zM A) (hT : zMt A) {b : Nat} (hb : b ≤ zN A) : (zPl A b).length ≤ 48 := by
  have h1 := zPl_len w hT
  have h2 := w.2.1
  obtain ⟨M, hM⟩ := zPl_mono (A := A) hb
  rw [hM, List.length_append] at h1
  omega
theorem rg_lt {a k n : Nat} (h : a + k ≤ n) : ∀ x, x ∈ rg a k → x < n := by
  induction k with
  | zero => intro x hx; exact absurd hx List.not_mem_nil
  | succ k ih =>
    intro x hx
    rcases List.mem_append.mp hx with hx | hx
    · exact ih (by omega) x hx
    · rw [List.mem_singleton.mp hx]
      omega
theorem zAg_lt (w : zM A) (hT : zMt A) {b : Nat} (hb : b < zN A) : ∀ x, x ∈ zAg A b → x < zN A := by
  have hn := w.2.1
  by_cases h : ∃ i, i < zN A ∧ zY A i ∧ zO A i = b
  · obtain ⟨i, h1, h2, h3⟩ := h
    rw [zAg_some hT w h1 h2 h3]
    obtain ⟨g1, g2, g3, g4, g5, g6⟩ := hT i h1 h2
    exact rg_lt (by omega)
  · rw [zAg_none w (by omega) (fun i h1 h2 h3 => h ⟨i, h1, h2, h3⟩)]
    intro x hx
    exact absurd hx List.not_mem_nil
theorem zPl_lt (w : zM A) (hT : zMt A) {b : Nat} (hb : b ≤ zN A) : ∀ x, x ∈ zPl A b → x < zN A := by
  induction b with
  | zero => intro x hx; exact absurd hx List.not_mem_nil
  | succ b ih =>
    intro x hx
    have hx' : x ∈ zPl A b ++ [b] ++ zAg A b := hx
    rcases List.mem_append.mp hx' with hx | hx
    · rcases List.mem_append.mp hx with hx | hx
      · exact ih (by omega) x hx
      · rw [List.mem_singleton.mp hx]
        omega
    · exact zAg_lt w hT (by omega) x hx
theorem gn_lt {L : List Nat} {n p : Nat} (h : ∀ x, x ∈ L → x < n) (hp : p < L.length) : gn L p < n := h _ (gl_in hp)
theorem zTb_le (w : zM A) {b : Nat} (hb : b < zN A) : zTb A b ≤ 192000 := z_t w hb (by have := z_len w hb; omega)
theorem zSt_le (w : zM A) {L : List Nat} (h : ∀ x, x ∈ L → x < zN A) {p : Nat} (hp : p ≤ L.length) : zSt A L p ≤ 192000 * p := by
  induction p with
  | zero => exact Nat.le_refl _
  | succ p ih =>
    have g1 := ih (by omega)
    have g2 := zTb_le w (gn_lt h (p := p) (by omega))
    show zSt A L p + zTb A (gn L p) ≤ 192000 * (p + 1)
    omega
end PL
