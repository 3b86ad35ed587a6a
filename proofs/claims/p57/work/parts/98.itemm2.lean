/-! THE MODEL DRAWS -/
/-- bars of rests that are one item -/
def zRu (A : MS) (v b m : Nat) : Prop := zE A v b = 0 ∧ (∀ j, b ≤ j → j < m → zE A v j = 0) ∧ zIt A v m = iAdd (zIt A v b) 1 b (m - b) (-1)
section DR
variable {A t : MS} {v b m : Nat}
theorem zRu_1 (h0 : zE A v b = 0) (hs : ¬ (iRest (zIt A v b) = true ∧ ¬ zPt A b = true)) : zRu A v b (b + 1) := by
  refine ⟨h0, fun j h1 h2 => by rw [show j = b by omega]; exact h0, ?_⟩
  show (if ¬ zE A v b = 0 then _ else if _ then _ else _) = _
  rw [if_neg (fun z => z h0), if_neg hs, show b + 1 - b = 1 by omega]
theorem zRu_s (h : zRu A v b m) (hb : b < m) (h0 : zE A v m = 0) (hp : ¬ zPt A m = true) : zRu A v b (m + 1) := by
  obtain ⟨r1, r2, r3⟩ := h
  refine ⟨r1, fun j h1 h2 => ?_, ?_⟩
  · by_cases e : j = m
    · rw [e]; exact h0
    · exact r2 j h1 (by omega)
  · have hr : iRest (zIt A v m) = true := by rw [r3]; exact iRest_add.mpr rfl
    have e : zIt A v (m + 1) = iSet (zIt A v m) ((zIt A v m).2.2.2.1 ((zIt A v m).1 - 1) + 1) := by
      show (if ¬ zE A v m = 0 then _ else if _ then _ else _) = _
      rw [if_neg (fun z => z h0), if_pos ⟨hr, hp⟩]
    obtain ⟨l1, l2, l3, l4⟩ := iAdd_last (s := zIt A v b) (k := 1) (f := b) (c := m - b) (u := -1)
    rw [e, r3, l1, show (zIt A v b).1 + 1 - 1 = (zIt A v b).1 by omega, l4, iSet_iAdd, show m - b + 1 = m + 1 - b by omega]
theorem zRu_cue (h : zRu A v b m) (hb : b < m) : iCue A v (zIt A v m) = if 4 ≤ m - b ∧ ¬ zQd A v (m - 1) 4 = -1 then iAdd (iAdd (zIt A v b) 1 b (m - b - 1) (-1)) 2 (m - 1) 1 (zQd A v (m - 1) 4) else zIt A v m := by
  obtain ⟨r1, r2, r3⟩ := h
  obtain ⟨l1, l2, l3, l4⟩ := iAdd_last (s := zIt A v b) (k := 1) (f := b) (c := m - b) (u := -1)
  have hr : iRest (zIt A v m) = true := by rw [r3]; exact iRest_add.mpr rfl
  have hl : (zIt A v m).2.2.2.1 ((zIt A v m).1 - 1) = m - b := by
    rw [r3, l1, show (zIt A v b).1 + 1 - 1 = (zIt A v b).1 by omega]
    exact l4
  have he : iEnd (zIt A v m) = m - 1 := by
    unfold iEnd
    rw [hl, r3, l1, show (zIt A v b).1 + 1 - 1 = (zIt A v b).1 by omega, l3]
    omega
  unfold iCue
  rw [hl, he]
  by_cases c : 4 ≤ m - b ∧ ¬ zQd A v (m - 1) 4 = -1
  · rw [if_pos ⟨hr, c⟩, if_pos c, r3, iSet_iAdd]
  · rw [if_neg (fun z => c z.2), if_neg c]
theorem zIp_full (hb : ¬ zE A v b = 0) : zIp A v (b + 1) = zIt A v (b + 1) ∧ ¬ iRest (zIt A v (b + 1)) = true := by
  have e : zIt A v (b + 1) = iAdd (iCue A v (zIt A v b)) 0 b 1 (-1) := if_pos hb
  have hr : ¬ iRest (zIt A v (b + 1)) = true := fun z => by
    rw [e] at z
    exact absurd (iRest_add.mp z) (by decide)
  refine ⟨?_, hr⟩
  unfold zIp
  by_cases c : b + 1 < zN A ∧ ¬ zE A v (b + 1) = 0
  · rw [if_pos c]
    unfold iCue
    rw [if_neg (fun z => hr z.1)]
  · rw [if_neg c]
end DR
