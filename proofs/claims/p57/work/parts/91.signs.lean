/-! SIGNS AHEAD OF A BAR; WHAT PARTS RESTS -/
def zAny (c : Nat → Bool) : Nat → Bool
  | 0 => false
  | k + 1 => zAny c k || c k
def zEc (A : MS) (b i : Nat) : Bool := decide (¬ A.2 4 i = -1 ∧ A.2 4 i = nI b)
def zNc (A : MS) (b i : Nat) : Bool := decide (¬ A.2 4 i = -1 ∧ ¬ A.2 5 i ≤ 0 ∧ A.2 4 i + 1 - A.2 5 i = nI b)
/-- a repeat ends with a bar; endings begin with it; its metre is new -/
def zEd (A : MS) (b : Nat) : Bool := zAny (zEc A b) (zN A)
def zEn (A : MS) (b : Nat) : Bool := zAny (zNc A b) (zN A)
def zNm (A : MS) (b : Nat) : Bool := decide (b = 0 ∨ ¬ A.2 1 b = A.2 1 (b - 1) ∨ ¬ A.2 2 b = A.2 2 (b - 1))
def zSg (A : MS) (b : Nat) : Nat := (if zNm A b = true then 3 else 0) + (if A.2 3 b = -1 then 0 else 4) + (if A.2 4 b = -1 then 0 else 2) + (if zEd A b = true then 2 else 0)
def zPt (A : MS) (b : Nat) : Bool := zNm A b || (!decide (A.2 3 b = -1) || (!decide (A.2 4 b = -1) || (zEn A b || zEd A (b - 1))))
def bI (b : Bool) : Int32 := if b = true then 1 else 0
section SG
variable {A t : MS} {S : CS} {so : Nat}
theorem zAny_iff {c : Nat → Bool} {n : Nat} : zAny c n = true ↔ ∃ i, i < n ∧ c i = true := by
  induction n with
  | zero => exact ⟨fun z => (by cases z), fun ⟨i, h, _⟩ => absurd h (Nat.not_lt_zero _)⟩
  | succ n ih =>
    show (zAny c n || c n) = true ↔ _
    rw [Bool.or_eq_true, ih]
    constructor
    · rintro (⟨i, h1, h2⟩ | h)
      · exact ⟨i, by omega, h2⟩
      · exact ⟨n, Nat.lt_succ_self _, h⟩
    · rintro ⟨i, h1, h2⟩
      by_cases e : i = n
      · rw [e] at h2
        exact Or.inr h2
      · exact Or.inl ⟨i, by omega, h2⟩
theorem zEd_iff (w : zM A) (hT : zMt A) {b : Nat} (hb : b < 2147483648) : zEd A b = true ↔ ∃ i, i < zN A ∧ zY A i ∧ zO A i = b := by
  have hn := w.2.1
  unfold zEd
  rw [zAny_iff]
  constructor
  · rintro ⟨i, h1, h2⟩
    have h3 := of_decide_eq_true h2
    obtain ⟨g1, -, -, g4, -⟩ := hT i h1 h3.1
    refine ⟨i, h1, h3.1, (nI_eq (by omega) (by omega)).mp ?_⟩
    rw [← g1]
    exact h3.2
  · rintro ⟨i, h1, h2, h3⟩
    refine ⟨i, h1, decide_eq_true ⟨h2, ?_⟩⟩
    rw [(hT i h1 h2).1, h3]
theorem zEn_iff (w : zM A) (hT : zMt A) {b : Nat} (hb : b < 2147483648) : zEn A b = true ↔ ∃ i, i < zN A ∧ zY A i ∧ 0 < zG A i ∧ zO A i + 1 - zG A i = b := by
  have hn := w.2.1
  unfold zEn
  rw [zAny_iff]
  have hz : ∀ i, i < zN A → zY A i → (A.2 5 i ≤ 0 ↔ zG A i = 0) ∧ A.2 4 i + 1 - A.2 5 i = nI (zO A i + 1 - zG A i) := fun i hi hy => by
    obtain ⟨g1, g2, g3, g4, g5, -⟩ := hT i hi hy
    rw [g1, g2, nI_1, pk_sub (by omega)]
    refine ⟨⟨fun z => Classical.byContradiction fun z2 => nI_nle (n := zG A i) (by omega) (by omega) z, fun z => by rw [z]; decide⟩, rfl⟩
  constructor
  · rintro ⟨i, h1, h2⟩
    have h3 := of_decide_eq_true h2
    obtain ⟨g1, g2, g3, g4, g5, -⟩ := hT i h1 h3.1
    obtain ⟨q1, q2⟩ := hz i h1 h3.1
    rw [q1, q2] at h3
    exact ⟨i, h1, h3.1, by omega, (nI_eq (by omega) (by omega)).mp h3.2.2⟩
  · rintro ⟨i, h1, h2, h3, h4⟩
    obtain ⟨q1, q2⟩ := hz i h1 h2
    refine ⟨i, h1, decide_eq_true ⟨h2, ?_, ?_⟩⟩
    · rw [q1]
      omega
    · rw [q2, h4]
theorem bI_0 {b : Bool} : bI b = 0 ↔ ¬ b = true := by
  unfold bI
  by_cases c : b = true
  · rw [if_pos c]
    exact ⟨fun z => absurd z one_ne, fun z => absurd c z⟩
  · rw [if_neg c]
    exact ⟨fun _ => c, fun _ => rfl⟩
theorem nI_if {P : Prop} [Decidable P] {a b : Nat} : (if P then nI a else nI b) = nI (if P then a else b) := by
  by_cases c : P
  · rw [if_pos c, if_pos c]
  · rw [if_neg c, if_neg c]
end SG
