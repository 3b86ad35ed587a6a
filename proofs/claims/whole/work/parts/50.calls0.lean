/-! CALLS THAT CHANGE NOTHING -/
/-- what such a call needs of the invariant -/
def Iq (lb : Nat × Nat) (o so : Nat) (I : Nat → CS → MS → Prop) : Prop := ∀ (n : Nat) (S : CS) (t : MS), I (n + 1) S t → kdC S o = 14 ∧ fR S 224 o = some so ∧ rB S t so ∧ szC S + 1 ≤ lb.1 ∧ nsC S + 6 ≤ lb.2 ∧ ∀ (sz ns : Nat) (x : Int32), sz ≤ szC S + 1 → ns ≤ nsC S + 6 → I n (rsz S sz ns) (msI t 45 x)
theorem si_length {lb : Nat × Nat} {o so : Nat} {I : Nat → CS → MS → Prop} (hI : Iq lb o so I) : Si_length lb o I := by
  intro n S t ov a1 h
  obtain ⟨hk, hs, hB, hr1, hr2, hn⟩ := hI n S t h
  have e : oG (fR S 224 o) = so := by rw [hs]; rfl
  refine ⟨(szC S + 1, nsC S + 6), ⟨⟨hr1, hr2⟩, ⟨Nat.le_succ _, Nat.le_add_right _ _⟩⟩, hk, a_reqBar hk hs hB ⟨Nat.le_refl _, Nat.le_refl _⟩ (fun k hk1 hk2 hz => ?_) (fun hz sz ns => ?_)⟩
  · subst hk2
    obtain ⟨g1, g2, g3, g4⟩ := a_length hB hk1
    rw [e]
    refine ⟨by rw [hs]; exact fun z => (by cases z), hB.1, g1, g2.1, g2, fun _ _ => i_goes (fun x hx => ?_)⟩
    rw [if_neg hz] at hx
    have hx0 : x = 0 := hx
    subst hx0
    refine ⟨fun _ => g4, fun x2 hx2 => ?_⟩
    subst hx2
    refine ⟨thr_same t 0, fun _ => ?_, hn (szC S) (nsC S) 0 (Nat.le_succ _) (Nat.le_add_right _ _)⟩
    show Int32.toInt64 (v_X2_ticks (v_X9_measure so (nI k) S) S) = Int32.toInt64 (v_lengthOf (nI k) t)
    rw [g3]
  · refine ⟨rfl, fun hz1 hz2 => i_goes (fun x hx => ?_)⟩
    rw [if_pos hz] at hx
    subst hx
    exact ⟨fun z => absurd rfl z, fun x2 hx2 => ⟨thr_same t 1, fun z => absurd z (by decide), hn sz ns 1 hz1 hz2⟩⟩
theorem si_bars {lb : Nat × Nat} {o so : Nat} {I : Nat → CS → MS → Prop} (hI : Iq lb o so I) : Si_bars lb o I := by
  intro n S t h
  obtain ⟨hk, hs, hB, hr1, hr2, hn⟩ := hI n S t h
  obtain ⟨g1, g2⟩ := a_bars hk hs hB
  exact ⟨(szC S + 1, nsC S + 6), ⟨⟨hr1, hr2⟩, ⟨Nat.le_succ _, Nat.le_add_right _ _⟩⟩, g1, fun _ _ => i_tells ⟨g2, hn (szC S) (nsC S) 0 (Nat.le_succ _) (Nat.le_add_right _ _)⟩⟩
