/-! SIGNS AHEAD OF A BAR, IN THE CLASS -/
section SH
variable {A : MS} {S : CS} {so : Nat}
theorem cc_newMetre (h : rB S A so) (w : zM A) {b : Nat} (hb : b < zN A) : d_X9_isNewMetre so (nI b) S ∧ v_X9_isNewMetre so (nI b) S = bI (zNm A b) := by
  have hn := w.2.1
  by_cases e : b = 0
  · subst e
    refine ⟨⟨fun z => absurd rfl z, fun z => absurd rfl z, fun z => absurd rfl z, fun z => absurd rfl z, fun z => absurd rfl z, fun z => absurd rfl z⟩, ?_⟩
    unfold v_X9_isNewMetre
    rw [if_pos (Or.inl (show nI 0 = 0 from rfl))]
    exact (if_pos (decide_eq_true (Or.inl rfl))).symm
  · have e1 : nI b - 1 = nI (b - 1) := pk_sub (a := b) (b := 1) (by omega)
    have hne : ¬ nI b = 0 := nI_ne0 (by omega) (by omega)
    obtain ⟨p1, p2, p3, p4⟩ := cc_bar h w hb
    obtain ⟨q1, q2, q3, q4⟩ := cc_bar h w (i := b - 1) (by omega)
    obtain ⟨-, t1, t2⟩ := cc_told h w hb
    obtain ⟨-, u1, u2⟩ := cc_told h w (i := b - 1) (by omega)
    unfold d_X9_isNewMetre v_X9_isNewMetre v_X2_hasMetreOf d_X2_hasMetreOf
    rw [e1, p3, q3, t1, t2, u1, u2]
    refine ⟨⟨fun _ => p1, fun _ => p2, fun _ => p4, fun _ => q2, fun _ => q4, fun _ => ⟨p4, q4⟩⟩, ?_⟩
    unfold bI zNm
    by_cases c : A.2 1 b = A.2 1 (b - 1) ∧ A.2 2 b = A.2 2 (b - 1)
    · rw [if_pos c, if_neg (fun z => z.elim hne (fun z2 => one_ne z2)), if_neg (fun z => (of_decide_eq_true z).elim e (fun z2 => z2.elim (fun z3 => z3 c.1) (fun z3 => z3 c.2)))]
    · rw [if_neg c, if_pos (Or.inr rfl), if_pos (decide_eq_true (Or.inr (Classical.byContradiction fun z => c ⟨Classical.byContradiction fun z2 => z (Or.inl z2), Classical.byContradiction fun z2 => z (Or.inr z2)⟩)))]
theorem cc_endings (h : rT S A so) (w : zM A) (hk : kdC S so = 12) {B : Nat × Nat} {Q : Int32 → CS → Prop} {X : String → CS → Prop} {b : Nat} (hb : b < 2147483648) (hQ : Q (bI (zEn A b)) S) : w_X9_areEndingsFrom B so (nI b) S Q X := by
  have hn := rt_n h w
  have h24 := w.2.1
  have yes : zEn A b = true → Q 1 S := fun z => by
    rw [show bI (zEn A b) = 1 from if_pos z] at hQ
    exact hQ
  have no : ¬ zEn A b = true → Q 0 S := fun z => by
    rw [show bI (zEn A b) = 0 from if_neg z] at hQ
    exact hQ
  refine lp_for (fun k z => z = nI k ∧ ∀ k2 i, k2 < k → i < zN A → zY A i → fI S 160 (rtL S so k2) = nI i → ¬ (0 < zG A i ∧ zO A i + 1 - zG A i = b)) (nrS S so) ?_ ?_ 0 (Nat.zero_le _) 0 ⟨rfl, fun k2 i hk2 => absurd hk2 (Nat.not_lt_zero _)⟩
  · intro k hk2 K z hz hK
    obtain ⟨hz, hno⟩ := hz
    subst hz
    obtain ⟨q1, q2, q3, i, q4, q5, q6, q7, q8⟩ := cc_rt h w hk2
    obtain ⟨g1, g2, g3, g4, g5, -⟩ := h.2.1 i q4 q5
    have la : v_X7_lastAgain (rtL S so k) S + 1 = nI (zO A i + 1 - zG A i) := by
      unfold v_X7_lastAgain
      rw [q7, q8, pk_sub (by omega), nI_1]
      congr 1
      omega
    have hg0 : nI (zG A i) ≤ 0 ↔ zG A i = 0 := ⟨fun z => Classical.byContradiction fun z2 => nI_nle (n := zG A i) (by omega) (by omega) z, fun z => by rw [z]; decide⟩
    have hbb : nI (zO A i + 1 - zG A i) = nI b ↔ zO A i + 1 - zG A i = b := nI_eq (by omega) (by omega)
    unfold w_X9_areEndingsFrom_L2
    rw [q2, q8, la, hg0, hbb]
    refine ⟨hk, fun h9 => absurd h9 (nI_ge (b := nrS S so) hk2 (by omega)), fun _ => ⟨q1, q3, fun _ => q3, fun hc => ?_, fun hc => yes ?_⟩⟩
    · rw [nI_1]
      refine hK _ ⟨rfl, fun k2 i2 hk3 hi2 hy2 e2 hcc => ?_⟩
      by_cases e : k2 = k
      · rw [e, q6] at e2
        rw [← (nI_eq (by omega) (by omega)).mp e2] at hcc
        rcases hc with hc | hc
        · omega
        · exact hc hcc.2
      · exact hno k2 i2 (by omega) hi2 hy2 e2 hcc
    · refine (zEn_iff w h.2.1 hb).mpr ⟨i, q4, q5, Nat.pos_of_ne_zero (fun z => hc (Or.inl z)), Classical.byContradiction fun z => hc (Or.inr z)⟩
  · intro K z hz
    obtain ⟨hz, hno⟩ := hz
    subst hz
    refine ⟨hk, fun _ => no (fun z => ?_), fun h9 => absurd (nI_le (a := nrS S so) (Nat.le_refl _) (by omega)) h9⟩
    obtain ⟨i, i1, i2, i3, i4⟩ := (zEn_iff w h.2.1 hb).mp z
    obtain ⟨k, k1, k2⟩ := h.2.2.2.2.1 i i1 i2
    exact hno k i k1 i1 i2 k2 ⟨i3, i4⟩
theorem cc_signs (hB : rB S A so) (hT : rT S A so) (w : zM A) {B : Nat × Nat} {Q : Int32 → CS → Prop} {X : String → CS → Prop} {b : Nat} (hb : b < zN A) (hQ : Q (nI (zSg A b)) S) : w_X9_widthOfSigns B so (nI b) S Q X := by
  have hn := w.2.1
  obtain ⟨d1, d2⟩ := cc_newMetre hB w hb
  obtain ⟨p1, p2, p3, p4⟩ := cc_bar hB w hb
  have t3 := (cc_told hB w hb).1
  unfold w_X9_widthOfSigns
  rw [p3, t3, d2]
  refine ⟨p1, d1, fun x3 hx3 => ⟨p2, p4, fun x6 hx6 x7 hx7 => ?_⟩⟩
  have f3 : x3 = nI (if zNm A b = true then 3 else 0) := by
    rw [hx3]
    by_cases c : zNm A b = true
    · rw [if_neg (fun z => bI_0.mp z c), if_pos c]
      rfl
    · rw [if_pos (bI_0.mpr c), if_neg c]
      rfl
  have f6 : x6 = nI (if A.2 3 b = -1 then 0 else 4) := by
    rw [hx6]
    exact nI_if (a := 0) (b := 4)
  have key : ∀ x9 : Int32, x9 = nI (if A.2 4 b = -1 then 0 else 2) → ∀ x10 : Int32, x10 = (x7 + x9) → w_X9_repeatTo B so (nI b) S (fun r11 t11 => ∀ x12 : Int32, x12 = (if r11 = (-1) then 0 else 2) → ∀ x13 : Int32, x13 = (x10 + x12) → Q x13 t11) X := by
    intro x9 hx9 x10 hx10
    refine cc_repTo hT w hB.1 (by omega) (fun i k hi hy ho hk l1 l2 l3 l4 l5 l6 x12 hx12 x13 hx13 => ?_) (fun hno x12 hx12 x13 hx13 => ?_)
    · have hr := rt_n hT w
      have c : zEd A b = true := (zEd_iff w hT.2.1 (by omega)).mpr ⟨i, hi, hy, ho⟩
      have e : x13 = nI (zSg A b) := by
        rw [if_neg (nI_neg1 (by omega))] at hx12
        rw [hx13, hx12, hx10, hx7, f3, f6, hx9, show (2 : Int32) = nI 2 from rfl, nI_add, nI_add, nI_add]
        unfold zSg
        rw [if_pos c]
      rw [e]
      exact hQ
    · have c : ¬ zEd A b = true := fun z => by
        obtain ⟨i, i1, i2, i3⟩ := (zEd_iff w hT.2.1 (by omega)).mp z
        exact hno i i1 i2 i3
      have e : x13 = nI (zSg A b) := by
        rw [if_pos rfl] at hx12
        rw [hx13, hx12, hx10, hx7, f3, f6, hx9, show (0 : Int32) = nI 0 from rfl, nI_add, nI_add, nI_add]
        unfold zSg
        rw [if_neg c]
      rw [e]
      exact hQ
  refine cc_repFrom hT w hB.1 hb (fun k hk hy hki x9 hx9 => key x9 ?_) (fun h0 x9 hx9 => key x9 ?_)
  · have hr := rt_n hT w
    rw [if_neg (nI_neg1 (by omega))] at hx9
    rw [hx9, if_neg hy]
    rfl
  · rw [if_pos rfl] at hx9
    rw [hx9, if_pos h0]
    rfl
theorem cc_parted (hB : rB S A so) (hT : rT S A so) (w : zM A) {B : Nat × Nat} {Q : Int32 → CS → Prop} {X : String → CS → Prop} {b : Nat} (hb : b < zN A) (hQ : Q (bI (zPt A b)) S) : w_X9_isRestParted B so (nI b) S Q X := by
  have hn := w.2.1
  obtain ⟨d1, d2⟩ := cc_newMetre hB w hb
  obtain ⟨p1, p2, p3, p4⟩ := cc_bar hB w hb
  have t3 := (cc_told hB w hb).1
  have yes : zPt A b = true → Q 1 S := fun z => by
    rw [show bI (zPt A b) = 1 from if_pos z] at hQ
    exact hQ
  have no : ¬ zPt A b = true → Q 0 S := fun z => by
    rw [show bI (zPt A b) = 0 from if_neg z] at hQ
    exact hQ
  have hP : zPt A b = true ↔ zNm A b = true ∨ ¬ A.2 3 b = -1 ∨ ¬ A.2 4 b = -1 ∨ zEn A b = true ∨ zEd A (b - 1) = true := by
    unfold zPt
    rw [Bool.or_eq_true, Bool.or_eq_true, Bool.or_eq_true, Bool.or_eq_true, Bool.not_eq_true', Bool.not_eq_true', decide_eq_false_iff_not, decide_eq_false_iff_not]
  unfold w_X9_isRestParted
  rw [p3, t3, d2]
  refine ⟨p1, d1, fun x t4 => ((x = 1 ∧ zPt A b = true) ∨ (x = 0 ∧ ¬ zPt A b = true)) ∧ t4 = S, fun x2 t3 h => ?_, fun t6 => zPt A b = true ∧ t6 = S, fun t5 h => ⟨Or.inl ⟨rfl, h.1⟩, h.2⟩, fun _ => p2, fun _ => p4, fun hc => ?_, fun hc => ⟨?_, rfl⟩⟩
  · obtain ⟨h1, rfl⟩ := h
    rcases h1 with ⟨rfl, h1⟩ | ⟨rfl, h1⟩
    · exact ⟨Or.inr rfl, yes h1⟩
    · exact ⟨Or.inl rfl, no h1⟩
  · obtain ⟨c1, c2⟩ := hc
    have c1' := bI_0.mp c1
    have hb0 : 0 < b := by
      refine Nat.pos_of_ne_zero (fun z => c1' ?_)
      exact decide_eq_true (Or.inl z)
    have hr := rt_n hT w
    refine cc_repFrom hT w hB.1 hb (fun k hk hy hki => ⟨fun z => absurd z (nI_neg1 (by omega)), fun _ => ⟨hP.mpr (Or.inr (Or.inr (Or.inl hy))), rfl⟩⟩) (fun h0 => ⟨fun _ => ?_, fun z => absurd rfl z⟩)
    refine cc_endings hT w hB.1 (by omega) ⟨fun z0 => ?_, fun z0 => ⟨hP.mpr (Or.inr (Or.inr (Or.inr (Or.inl (Classical.byContradiction fun z => z0 (bI_0.mpr z)))))), rfl⟩⟩
    rw [show nI b - 1 = nI (b - 1) from pk_sub (a := b) (b := 1) (by omega)]
    refine cc_repTo hT w hB.1 (by omega) (fun i k hi hy ho hk l1 l2 l3 l4 l5 l6 => ⟨fun z => absurd z (nI_neg1 (by omega)), fun _ => ⟨hP.mpr (Or.inr (Or.inr (Or.inr (Or.inr ((zEd_iff w hT.2.1 (by omega)).mpr ⟨i, hi, hy, ho⟩))))), rfl⟩⟩) (fun hno => ⟨fun _ => ⟨Or.inr ⟨rfl, fun z => ?_⟩, rfl⟩, fun z => absurd rfl z⟩)
    rcases hP.mp z with z | z | z | z | z
    · exact c1' z
    · exact z c2
    · exact z h0
    · exact bI_0.mp z0 z
    · obtain ⟨i, i1, i2, i3⟩ := (zEd_iff w hT.2.1 (by omega)).mp z
      exact hno i i1 i2 i3
  · refine Classical.byContradiction fun z => hc ⟨bI_0.mpr (fun z2 => z (hP.mpr (Or.inl z2))), Classical.byContradiction fun z2 => z (hP.mpr (Or.inr (Or.inl z2)))⟩
end SH
