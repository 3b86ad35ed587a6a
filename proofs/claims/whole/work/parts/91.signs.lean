/-! SIGNS AHEAD OF A BAR; WHAT PARTS RESTS -/
def zAny (c : Nat → Bool) : Nat → Bool
  | 0 => false
  | k + 1 => zAny c k || c k
def zEc (A : MS) (b i : Nat) : Bool := decide (¬ A.2 4 i = -1 ∧ A.2 4 i = nI b)
def zNc (A : MS) (b i : Nat) : Bool := decide (¬ A.2 4 i = -1 ∧ ¬ A.2 5 i ≤ 0 ∧ A.2 4 i + 1 - A.2 5 i = nI b)
/-- a repeat ends with a bar; endings begin with it; its metre is new -/
def zEd (A : MS) (b : Nat) : Bool := zAny (zEc A b) (zN A)
def zEn (A : MS) (b : Nat) : Bool := zAny (zNc A b) (zN A)
def zNm (A : MS) (b : Nat) : Bool := decide (b = 0 ∨ ¬ A.2 1 b = A.2 1 (b - 1) ∨ ¬ A.2 2 b = A.2 2 (b - 1))
def zSg (A : MS) (b : Nat) : Nat := (if zNm A b = true then 3 else 0) + (if A.2 3 b = -1 then 0 else 4) + (if A.2 4 b = -1 then 0 else 2) + (if zEd A b = true then 2 else 0)
def zPt (A : MS) (b : Nat) : Bool := zNm A b || (!decide (A.2 3 b = -1) || (!decide (A.2 4 b = -1) || (zEn A b || zEd A (b - 1))))
def bI (b : Bool) : Int32 := if b = true then 1 else 0
section SG
variable {A t : MS} {S : CS} {so : Nat}
theorem zAny_iff {c : Nat → Bool} {n : Nat} : zAny c n = true ↔ ∃ i, i < n ∧ c i = true := by
  induction n with
  | zero => exact ⟨fun z => (by cases z), fun ⟨i, h, _⟩ => absurd h (Nat.not_lt_zero _)⟩
  | succ n ih =>
    show (zAny c n || c n) = true ↔ _
    rw [Bool.or_eq_true, ih]
    constructor
    · rintro (⟨i, h1, h2⟩ | h)
      · exact ⟨i, by omega, h2⟩
      · exact ⟨n, Nat.lt_succ_self _, h⟩
    · rintro ⟨i, h1, h2⟩
      by_cases e : i = n
      · rw [e] at h2
        exact Or.inr h2
      · exact Or.inl ⟨i, by omega, h2⟩
theorem zEd_iff (w : zM A) (hT : zMt A) {b : Nat} (hb : b < 2147483648) : zEd A b = true ↔ ∃ i, i < zN A ∧ zY A i ∧ zO A i = b := by
  have hn := w.2.1
  unfold zEd
  rw [zAny_iff]
  constructor
  · rintro ⟨i, h1, h2⟩
    have h3 := of_decide_eq_true h2
    obtain ⟨g1, -, -, g4, -⟩ := hT i h1 h3.1
    refine ⟨i, h1, h3.1, (nI_eq (by omega) (by omega)).mp ?_⟩
    rw [← g1]
    exact h3.2
  · rintro ⟨i, h1, h2, h3⟩
    refine ⟨i, h1, decide_eq_true ⟨h2, ?_⟩⟩
    rw [(hT i h1 h2).1, h3]
theorem zEn_iff (w : zM A) (hT : zMt A) {b : Nat} (hb : b < 2147483648) : zEn A b = true ↔ ∃ i, i < zN A ∧ zY A i ∧ 0 < zG A i ∧ zO A i + 1 - zG A i = b := by
  have hn := w.2.1
  unfold zEn
  rw [zAny_iff]
  have hz : ∀ i, i < zN A → zY A i → (A.2 5 i ≤ 0 ↔ zG A i = 0) ∧ A.2 4 i + 1 - A.2 5 i = nI (zO A i + 1 - zG A i) := fun i hi hy => by
    obtain ⟨g1, g2, g3, g4, g5, -⟩ := hT i hi hy
    rw [g1, g2, nI_1, pk_sub (by omega)]
    refine ⟨⟨fun z => Classical.byContradiction fun z2 => nI_nle (n := zG A i) (by omega) (by omega) z, fun z => by rw [z]; decide⟩, rfl⟩
  constructor
  · rintro ⟨i, h1, h2⟩
    have h3 := of_decide_eq_true h2
    obtain ⟨g1, g2, g3, g4, g5, -⟩ := hT i h1 h3.1
    obtain ⟨q1, q2⟩ := hz i h1 h3.1
    rw [q1, q2] at h3
    exact ⟨i, h1, h3.1, by omega, (nI_eq (by omega) (by omega)).mp h3.2.2⟩
  · rintro ⟨i, h1, h2, h3, h4⟩
    obtain ⟨q1, q2⟩ := hz i h1 h2
    refine ⟨i, h1, decide_eq_true ⟨h2, ?_, ?_⟩⟩
    · rw [q1]
      omega
    · rw [q2, h4]
theorem mm_edge (w : zM A) (g : Ag A t) {a1 a2 : Int32} {c : Nat → Bool} (hc : ∀ i, i < zN A → (c i = true ↔ ¬ A.2 4 i = -1 ∧ (((a2 = 0) ∧ A.2 4 i = a1) ∨ ((¬ a2 = 0) ∧ ((¬ A.2 5 i ≤ 0) ∧ A.2 4 i + 1 - A.2 5 i = a1))))) {Q : Int32 → MS → Prop} (hQ : Q (bI (zAny c (zN A))) t) : w_isEdge a1 a2 t Q := by
  have hn := w.2.1
  have e0 : mgI t 0 = nI (zN A) := (g.1 0 (by decide)).1.trans w.1
  refine lp_seq (fun k => (bI (zAny c k), nI k)) (zN A) ?_ ?_ 0 (Nat.zero_le _)
  · intro k hk K hK
    have e4 : mgA t 4 (nI k) = A.2 4 k := Ag_A g (f := 4) (by decide) (by omega)
    have e5 : mgA t 5 (nI k) = A.2 5 k := Ag_A g (f := 5) (by decide) (by omega)
    unfold w_isEdge_L5
    dsimp only
    rw [e0, e4, e5]
    refine ⟨fun h9 => absurd h9 (nI_ge hk (by omega)), fun _ => ⟨fun _ => vp_nI (n := 24) (by omega) (by decide), fun _ => vp_nI (n := 24) (by omega) (by decide), fun _ _ => vp_nI (n := 24) (by omega) (by decide), fun _ _ => vp_nI (n := 24) (by omega) (by decide), fun x2 hx2 => ⟨fun _ => vp_nI (n := 24) (by omega) (by decide), fun x7 hx7 => ?_⟩⟩⟩
    have ex : x7 = bI (zAny c (k + 1)) := by
      show _ = if (zAny c k || c k) = true then 1 else 0
      by_cases c1 : zAny c k = true
      · have e1 : bI (zAny c k) = 1 := if_pos c1
        rw [e1, if_pos (Or.inl one_ne)] at hx7
        rw [c1, if_pos (Bool.true_or _)]
        exact hx7
      · have e1 : bI (zAny c k) = 0 := if_neg c1
        rw [e1] at hx7
        have c2 : zAny c k = false := by
          cases h : zAny c k
          · rfl
          · exact absurd h c1
        rw [c2, Bool.false_or]
        by_cases c3 : c k = true
        · obtain ⟨h1, h2⟩ := (hc k hk).mp c3
          rw [if_pos h2] at hx2
          rw [if_pos (Or.inr ⟨h1, by rw [hx2]; exact one_ne⟩)] at hx7
          rw [if_pos c3]
          exact hx7
        · rw [if_neg c3]
          rw [if_neg] at hx7
          · exact hx7
          · rintro (z | ⟨z1, z2⟩)
            · exact z rfl
            · refine c3 ((hc k hk).mpr ⟨z1, Classical.byContradiction fun z3 => z2 ?_⟩)
              rw [hx2, if_neg z3]
    rw [ex, nI_1]
    exact hK
  · intro K
    unfold w_isEdge_L5
    dsimp only
    rw [e0]
    exact ⟨fun _ => ⟨gb_if, hQ⟩, fun h9 => absurd (nI_le (Nat.le_refl _) (by omega)) h9⟩
theorem mm_ed (w : zM A) (g : Ag A t) {b : Nat} {Q : Int32 → MS → Prop} (hQ : Q (bI (zEd A b)) t) : w_isEdge (nI b) 0 t Q := by
  refine mm_edge w g (c := zEc A b) (fun i hi => ?_) hQ
  unfold zEc
  rw [decide_eq_true_iff]
  exact ⟨fun z => ⟨z.1, Or.inl ⟨rfl, z.2⟩⟩, fun z => ⟨z.1, z.2.elim (fun z2 => z2.2) (fun z2 => absurd rfl z2.1)⟩⟩
theorem mm_en (w : zM A) (g : Ag A t) {b : Nat} {Q : Int32 → MS → Prop} (hQ : Q (bI (zEn A b)) t) : w_isEdge (nI b) 1 t Q := by
  refine mm_edge w g (c := zNc A b) (fun i hi => ?_) hQ
  unfold zNc
  rw [decide_eq_true_iff]
  exact ⟨fun z => ⟨z.1, Or.inr ⟨one_ne, z.2⟩⟩, fun z => ⟨z.1, z.2.elim (fun z2 => absurd z2.1 one_ne) (fun z2 => z2.2)⟩⟩
theorem mm_newMetre (w : zM A) (g : Ag A t) {b : Nat} (hb : b < zN A) : d_isNewMetre (nI b) t ∧ v_isNewMetre (nI b) t = bI (zNm A b) := by
  have hn := w.2.1
  by_cases e : b = 0
  · subst e
    refine ⟨⟨fun z => absurd rfl z, fun z => absurd rfl z, fun z => absurd rfl z, fun z => absurd rfl z⟩, ?_⟩
    unfold v_isNewMetre
    rw [if_pos (Or.inl (show nI 0 = 0 from rfl))]
    exact (if_pos (decide_eq_true (Or.inl rfl))).symm
  · have e1 : nI b - 1 = nI (b - 1) := pk_sub (a := b) (b := 1) (by omega)
    have hne : ¬ nI b = 0 := nI_ne0 (by omega) (by omega)
    have a1 : mgA t 1 (nI b) = A.2 1 b := Ag_A g (f := 1) (by decide) (by omega)
    have a2 : mgA t 2 (nI b) = A.2 2 b := Ag_A g (f := 2) (by decide) (by omega)
    have a3 : mgA t 1 (nI (b - 1)) = A.2 1 (b - 1) := Ag_A g (f := 1) (by decide) (by omega)
    have a4 : mgA t 2 (nI (b - 1)) = A.2 2 (b - 1) := Ag_A g (f := 2) (by decide) (by omega)
    have v1 : ∀ f, f = 1 ∨ f = 2 → mIn f (nI b) ∧ mIn f (nI (b - 1)) := fun f hf => by
      rcases hf with rfl | rfl
      · exact ⟨vp_nI (n := 24) (by omega) (by decide), vp_nI (n := 24) (by omega) (by decide)⟩
      · exact ⟨vp_nI (n := 24) (by omega) (by decide), vp_nI (n := 24) (by omega) (by decide)⟩
    unfold d_isNewMetre v_isNewMetre
    rw [e1, a1, a2, a3, a4]
    refine ⟨⟨fun _ => (v1 1 (Or.inl rfl)).1, fun _ => (v1 1 (Or.inl rfl)).2, fun _ _ => (v1 2 (Or.inr rfl)).1, fun _ _ => (v1 2 (Or.inr rfl)).2⟩, ?_⟩
    unfold bI zNm
    by_cases c : ¬ A.2 1 b = A.2 1 (b - 1) ∨ ¬ A.2 2 b = A.2 2 (b - 1)
    · rw [if_pos (Or.inr c), if_pos (decide_eq_true (Or.inr c))]
    · rw [if_neg (fun z => z.elim hne c), if_neg (fun z => (of_decide_eq_true z).elim e c)]
theorem bI_0 {b : Bool} : bI b = 0 ↔ ¬ b = true := by
  unfold bI
  by_cases c : b = true
  · rw [if_pos c]
    exact ⟨fun z => absurd z one_ne, fun z => absurd c z⟩
  · rw [if_neg c]
    exact ⟨fun _ => c, fun _ => rfl⟩
theorem nI_if {P : Prop} [Decidable P] {a b : Nat} : (if P then nI a else nI b) = nI (if P then a else b) := by
  by_cases c : P
  · rw [if_pos c, if_pos c]
  · rw [if_neg c, if_neg c]
theorem mm_signs (w : zM A) (g : Ag A t) {b : Nat} (hb : b < zN A) {Q : Int32 → MS → Prop} (hQ : Q (nI (zSg A b)) t) : w_signs (nI b) t Q := by
  have hn := w.2.1
  obtain ⟨d1, d2⟩ := mm_newMetre w g hb
  have a3 : mgA t 3 (nI b) = A.2 3 b := Ag_A g (f := 3) (by decide) (by omega)
  have a4 : mgA t 4 (nI b) = A.2 4 b := Ag_A g (f := 4) (by decide) (by omega)
  refine ⟨d1, fun x2 hx2 => ⟨vp_nI (n := 24) (by omega) (by decide), fun x4 hx4 => ⟨vp_nI (n := 24) (by omega) (by decide), fun x6 hx6 => mm_ed w g (fun x8 hx8 => ?_)⟩⟩⟩
  have f2 : x2 = nI (if zNm A b = true then 3 else 0) := by
    rw [hx2, d2]
    by_cases c : zNm A b = true
    · rw [if_neg (fun z => bI_0.mp z c), if_pos c]
      rfl
    · rw [if_pos (bI_0.mpr c), if_neg c]
      rfl
  have f4 : x4 = nI (if A.2 3 b = -1 then 0 else 4) := by
    rw [hx4, a3]
    exact nI_if (a := 0) (b := 4)
  have f6 : x6 = nI (if A.2 4 b = -1 then 0 else 2) := by
    rw [hx6, a4]
    exact nI_if (a := 0) (b := 2)
  have f8 : x8 = nI (if zEd A b = true then 2 else 0) := by
    rw [hx8]
    by_cases c : zEd A b = true
    · rw [if_neg (fun z => bI_0.mp z c), if_pos c]
      rfl
    · rw [if_pos (bI_0.mpr c), if_neg c]
      rfl
  rw [f2, f4, f6, f8, nI_add, nI_add, nI_add]
  exact hQ
theorem mm_parts (w : zM A) (g : Ag A t) {b : Nat} (hb : b < zN A) {Q : Int32 → MS → Prop} (hQ : Q (bI (zPt A b)) t) : w_parts (nI b) t Q := by
  have hn := w.2.1
  obtain ⟨d1, d2⟩ := mm_newMetre w g hb
  have a3 : mgA t 3 (nI b) = A.2 3 b := Ag_A g (f := 3) (by decide) (by omega)
  have a4 : mgA t 4 (nI b) = A.2 4 b := Ag_A g (f := 4) (by decide) (by omega)
  have yes : zPt A b = true → Q 1 t := fun z => by
    rw [show bI (zPt A b) = 1 from if_pos z] at hQ
    exact hQ
  have no : ¬ zPt A b = true → Q 0 t := fun z => by
    rw [show bI (zPt A b) = 0 from if_neg z] at hQ
    exact hQ
  have hP : zPt A b = true ↔ zNm A b = true ∨ ¬ A.2 3 b = -1 ∨ ¬ A.2 4 b = -1 ∨ zEn A b = true ∨ zEd A (b - 1) = true := by
    unfold zPt
    rw [Bool.or_eq_true, Bool.or_eq_true, Bool.or_eq_true, Bool.or_eq_true, Bool.not_eq_true', Bool.not_eq_true', decide_eq_false_iff_not, decide_eq_false_iff_not]
  refine ⟨d1, fun x t3 => ((x = 1 ∧ zPt A b = true) ∨ (x = 0 ∧ ¬ zPt A b = true)) ∧ t3 = t, fun x2 t3 h => ?_, fun t5 => zPt A b = true ∧ t5 = t, fun t5 h => ⟨Or.inl ⟨rfl, h.1⟩, h.2⟩, ?_⟩
  · obtain ⟨h1, rfl⟩ := h
    rcases h1 with ⟨rfl, h1⟩ | ⟨rfl, h1⟩
    · exact ⟨Or.inr rfl, yes h1⟩
    · exact ⟨Or.inl rfl, no h1⟩
  · rw [d2, a3, a4]
    refine ⟨fun _ => vp_nI (n := 24) (by omega) (by decide), fun _ _ => vp_nI (n := 24) (by omega) (by decide), fun hc => ?_, fun hc => ⟨?_, rfl⟩⟩
    · obtain ⟨c1, c2, c3⟩ := hc
      have c1' := bI_0.mp c1
      have hb0 : 0 < b := by
        refine Nat.pos_of_ne_zero (fun z => c1' ?_)
        exact decide_eq_true (Or.inl z)
      rw [show nI b - 1 = nI (b - 1) from pk_sub (a := b) (b := 1) (by omega)]
      refine mm_en w g ⟨fun h0 => mm_ed w g ⟨fun h1 => ⟨Or.inr ⟨rfl, fun z => ?_⟩, rfl⟩, fun h1 => ⟨?_, rfl⟩⟩, fun h0 => ⟨?_, rfl⟩⟩
      · rcases hP.mp z with z | z | z | z | z
        · exact c1' z
        · exact z c2
        · exact z c3
        · exact bI_0.mp h0 z
        · exact bI_0.mp h1 z
      · exact hP.mpr (Or.inr (Or.inr (Or.inr (Or.inr (Classical.byContradiction fun z => h1 (bI_0.mpr z))))))
      · exact hP.mpr (Or.inr (Or.inr (Or.inr (Or.inl (Classical.byContradiction fun z => h0 (bI_0.mpr z))))))
    · refine Classical.byContradiction fun z => hc ⟨bI_0.mpr (fun z2 => z (hP.mpr (Or.inl z2))), Classical.byContradiction fun z2 => z (hP.mpr (Or.inr (Or.inl z2))), Classical.byContradiction fun z2 => z (hP.mpr (Or.inr (Or.inr (Or.inl z2))))⟩
end SG
