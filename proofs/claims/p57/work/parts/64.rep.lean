/-! MUTATORS: repeats -/
section ML
theorem gl_app {l : List Nat} {x k : Nat} : ((l ++ [x])[k]?).getD 0 = if k < l.length then (l[k]?).getD 0 else if k = l.length then x else 0 := by
  rw [List.getElem?_append]
  by_cases h : k < l.length
  · rw [if_pos h, if_pos h]
  · rw [if_neg h, if_neg h]
    by_cases h2 : k = l.length
    · rw [if_pos h2, h2, Nat.sub_self]
      rfl
    · rw [if_neg h2, List.getElem?_eq_none (by show [x].length ≤ k - l.length; simp only [List.length_cons, List.length_nil]; omega)]
      rfl
theorem gl_er {l : List Nat} {i k : Nat} : ((l.eraseIdx i)[k]?).getD 0 = if k < i then (l[k]?).getD 0 else (l[k + 1]?).getD 0 := by
  rw [List.getElem?_eraseIdx]
  by_cases h : k < i
  · rw [if_pos h, if_pos h]
  · rw [if_neg h, if_neg h]
theorem gl_mem {l : List Nat} {y : Nat} (h : y ∈ l) : ∃ k, k < l.length ∧ (l[k]?).getD 0 = y := by
  obtain ⟨k, hk⟩ := List.mem_iff_getElem?.mp h
  refine ⟨k, ?_, by rw [hk]; rfl⟩
  exact (List.getElem?_eq_some_iff.mp hk).1
theorem gl_in {l : List Nat} {k : Nat} (h : k < l.length) : (l[k]?).getD 0 ∈ l := by
  rw [List.getElem?_eq_getElem h]
  exact List.getElem_mem h
theorem cap_le {S : CS} {f o : Nat} : lcA S f o ≤ 1 ∧ lcS S f o ≤ 10 + 2 * (fL S f o).length ∧ (fC S f o ≤ 500000 → (fL S f o).length ≤ 1000 → capA S f o ≤ 500000) := by
  unfold lcA lcS capA
  by_cases h : (fL S f o).length < fC S f o
  · rw [if_pos h, if_pos h, if_pos h]
    exact ⟨by omega, by omega, fun z _ => z⟩
  · rw [if_neg h, if_neg h, if_neg h]
    by_cases h2 : fC S f o = 0
    · rw [if_pos h2]
      exact ⟨by omega, by omega, fun _ _ => by omega⟩
    · rw [if_neg h2]
      exact ⟨by omega, by omega, fun _ _ => by omega⟩
variable {S : CS} {A A' t : MS} {o so po : Nat}
theorem zCn_le : ∀ m, zCn A m ≤ m := by
  intro m
  induction m with
  | zero => exact Nat.le_refl _
  | succ m ih =>
    show (if A.2 4 m = -1 then zCn A m else zCn A m + 1) ≤ m + 1
    by_cases e : A.2 4 m = -1
    · rw [if_pos e]; omega
    · rw [if_neg e]; omega
theorem zCn_up {a : Nat} (hA : A.2 4 a = -1) (hA' : ¬ A'.2 4 a = -1) (h : ∀ k, k ≠ a → A'.2 4 k = A.2 4 k) : ∀ m, zCn A' m = zCn A m + (if a < m then 1 else 0) := by
  intro m
  induction m with
  | zero => rfl
  | succ m ih =>
    show (if A'.2 4 m = -1 then zCn A' m else zCn A' m + 1) = (if A.2 4 m = -1 then zCn A m else zCn A m + 1) + (if a < m + 1 then 1 else 0)
    rw [ih]
    by_cases e : m = a
    · subst e
      rw [if_neg hA', if_pos hA, if_neg (Nat.lt_irrefl _), if_pos (Nat.lt_succ_self _)]
    · rw [h m e]
      have e5 : (if a < m + 1 then 1 else 0) = (if a < m then 1 else 0) := by
        by_cases e2 : a < m
        · rw [if_pos e2, if_pos (Nat.lt_succ_of_lt e2)]
        · rw [if_neg e2, if_neg (fun z => by omega)]
      rw [e5]
      by_cases e3 : A.2 4 m = -1
      · rw [if_pos e3, if_pos e3]
      · rw [if_neg e3, if_neg e3]
        omega
theorem rt_n (h : rT S A so) (w : zM A) : nrS S so ≤ 24 := by
  have h1 := h.2.2.1
  have h2 := zCn_le (A := A) (zN A)
  have h3 := w.2.1
  omega
theorem cc_rt (h : rT S A so) (w : zM A) {k : Nat} (hk : k < nrS S so) : lIn S 194 so (nI k) ∧ lG S 194 so (nI k) = rtL S so k ∧ kdC S (rtL S so k) = 10 ∧ ∃ i, i < zN A ∧ zY A i ∧ fI S 160 (rtL S so k) = nI i ∧ fI S 161 (rtL S so k) = nI (zO A i) ∧ fI S 162 (rtL S so k) = nI (zG A i) := by
  have hn := rt_n h w
  obtain ⟨h1, i, h2, h3, h4, h5, h6⟩ := h.2.2.2.1 k hk
  obtain ⟨g1, g2, -⟩ := h.2.1 i h2 h3
  exact ⟨cc_in (N := nrS S so) rfl hk (by omega), cc_lG (by omega), h1, i, h2, h3, h4, h5.trans g1, h6.trans g2⟩
theorem cc_repFrom (h : rT S A so) (w : zM A) (hk : kdC S so = 12) {B : Nat × Nat} {Q : Int32 → CS → Prop} {X : String → CS → Prop} {i : Nat} (hi : i < zN A) (h1 : ∀ k, k < nrS S so → zY A i → fI S 160 (rtL S so k) = nI i → Q (nI k) S) (h0 : A.2 4 i = -1 → Q (-1) S) : w_X9_repeatFrom B so (nI i) S Q X := by
  have hn := rt_n h w
  have h24 := w.2.1
  refine lp_for (fun k z => z = nI k ∧ ∀ k2, k2 < k → ¬ fI S 160 (rtL S so k2) = nI i) (nrS S so) ?_ ?_ 0 (Nat.zero_le _) 0 ⟨rfl, fun k2 hk2 => absurd hk2 (Nat.not_lt_zero _)⟩
  · intro k hk2 K z hz hK
    obtain ⟨hz, hno⟩ := hz
    subst hz
    obtain ⟨q1, q2, q3, i2, q4, q5, q6, q7, q8⟩ := cc_rt h w hk2
    refine ⟨hk, fun h9 => absurd h9 (nI_ge (b := nrS S so) hk2 (by omega)), fun _ => ⟨q1, by rw [q2]; exact q3, fun e => ?_, fun e => ?_⟩⟩
    · rw [q2] at e
      refine h1 k hk2 ?_ e
      rw [q6] at e
      rw [← (nI_eq (by omega) (by omega)).mp e]
      exact q5
    · rw [q2] at e
      rw [nI_1]
      refine hK _ ⟨rfl, fun k2 hk3 => ?_⟩
      by_cases e2 : k2 = k
      · rw [e2]; exact e
      · exact hno k2 (by omega)
  · intro K z hz
    obtain ⟨hz, hno⟩ := hz
    subst hz
    refine ⟨hk, fun _ => h0 (Classical.byContradiction fun z => ?_), fun h9 => absurd (nI_le (Nat.le_refl (nrS S so)) (by omega)) h9⟩
    obtain ⟨k, k1, k2⟩ := h.2.2.2.2.1 i hi z
    exact hno k k1 k2
theorem cc_repTo (h : rT S A so) (w : zM A) (hk : kdC S so = 12) {B : Nat × Nat} {Q : Int32 → CS → Prop} {X : String → CS → Prop} {b : Nat} (hb : b < 2147483648) (h1 : ∀ i k, i < zN A → zY A i → zO A i = b → k < nrS S so → lIn S 194 so (nI k) → lG S 194 so (nI k) = rtL S so k → kdC S (rtL S so k) = 10 → fI S 160 (rtL S so k) = nI i → fI S 161 (rtL S so k) = nI b → fI S 162 (rtL S so k) = nI (zG A i) → Q (nI k) S) (h0 : (∀ i, i < zN A → zY A i → zO A i ≠ b) → Q (-1) S) : w_X9_repeatTo B so (nI b) S Q X := by
  have hn := rt_n h w
  have h24 := w.2.1
  refine lp_for (fun k z => z = nI k ∧ ∀ k2, k2 < k → ¬ fI S 161 (rtL S so k2) = nI b) (nrS S so) ?_ ?_ 0 (Nat.zero_le _) 0 ⟨rfl, fun k2 hk2 => absurd hk2 (Nat.not_lt_zero _)⟩
  · intro k hk2 K z hz hK
    obtain ⟨hz, hno⟩ := hz
    subst hz
    obtain ⟨q1, q2, q3, i2, q4, q5, q6, q7, q8⟩ := cc_rt h w hk2
    have ho := (h.2.1 i2 q4 q5).2.2.2.1
    refine ⟨hk, fun h9 => absurd h9 (nI_ge (b := nrS S so) hk2 (by omega)), fun _ => ⟨q1, by rw [q2]; exact q3, fun e => ?_, fun e => ?_⟩⟩
    · rw [q2] at e
      have e2 : zO A i2 = b := by
        rw [q7] at e
        exact (nI_eq (by omega) (by omega)).mp e
      exact h1 i2 k q4 q5 e2 hk2 q1 q2 q3 q6 e q8
    · rw [q2] at e
      rw [nI_1]
      refine hK _ ⟨rfl, fun k2 hk3 => ?_⟩
      by_cases e2 : k2 = k
      · rw [e2]; exact e
      · exact hno k2 (by omega)
  · intro K z hz
    obtain ⟨hz, hno⟩ := hz
    subst hz
    refine ⟨hk, fun _ => h0 (fun i hi hy e => ?_), fun h9 => absurd (nI_le (Nat.le_refl (nrS S so)) (by omega)) h9⟩
    obtain ⟨k, k1, k2⟩ := h.2.2.2.2.1 i hi hy
    obtain ⟨-, -, -, i2, q4, q5, q6, q7, -⟩ := cc_rt h w k1
    have e2 : i2 = i := by
      rw [q6] at k2
      exact (nI_eq (by omega) (by omega)).mp k2
    rw [e2, e] at q7
    exact hno k k1 q7
def zFree (A : MS) (f g : Nat) : Prop := ∀ i, i < zN A → zY A i → zO A i < f ∨ g < i
theorem cc_isRep (h : rT S A so) (w : zM A) (hk : kdC S so = 12) {B : Nat × Nat} {Q : Int32 → CS → Prop} {X : String → CS → Prop} {f g : Nat} (hf : f < zN A) (hg : g < zN A) (h0 : zFree A f g → Q 0 S) (h1 : ¬ zFree A f g → Q 1 S) : w_X9_isRepeated B so (nI f) (nI g) S Q X := by
  have hn := rt_n h w
  have h24 := w.2.1
  refine lp_for (fun k z => z = nI k ∧ ∀ k2 i, k2 < k → i < zN A → fI S 160 (rtL S so k2) = nI i → zO A i < f ∨ g < i) (nrS S so) ?_ ?_ 0 (Nat.zero_le _) 0 ⟨rfl, fun k2 _ hk2 => absurd hk2 (Nat.not_lt_zero _)⟩
  · intro k hk2 K z hz hK
    obtain ⟨hz, hno⟩ := hz
    subst hz
    obtain ⟨q1, q2, q3, i2, q4, q5, q6, q7, q8⟩ := cc_rt h w hk2
    have ho := (h.2.1 i2 q4 q5).2.2.2.1
    have e1 : nI g < nI i2 ↔ g < i2 := nI_ltI (by omega) (by omega)
    have e2 : nI (zO A i2) < nI f ↔ zO A i2 < f := nI_ltI (by omega) (by omega)
    unfold w_X9_isRepeated_L2
    rw [q2, q6, q7, e1, e2]
    refine ⟨hk, fun h9 => absurd h9 (nI_ge (b := nrS S so) hk2 (by omega)), fun _ => ⟨q1, q3, fun e => ?_, fun e => h1 (fun z => e ((z i2 q4 q5).symm))⟩⟩
    rw [nI_1]
    refine hK _ ⟨rfl, fun k2 i hk3 hi2 hk4 => ?_⟩
    by_cases e3 : k2 = k
    · rw [e3, q6] at hk4
      rw [← (nI_eq (a := i2) (b := i) (by omega) (by omega)).mp hk4]
      exact e.symm
    · exact hno k2 i (by omega) hi2 hk4
  · intro K z hz
    obtain ⟨hz, hno⟩ := hz
    subst hz
    refine ⟨hk, fun _ => h0 (fun i hi hy => ?_), fun h9 => absurd (nI_le (Nat.le_refl (nrS S so)) (by omega)) h9⟩
    obtain ⟨k, k1, k2⟩ := h.2.2.2.2.1 i hi hy
    exact hno k i k1 hi k2
end ML
