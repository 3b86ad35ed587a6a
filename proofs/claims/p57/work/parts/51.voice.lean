/-! A VOICE'S NUMBER, A ROW -/
theorem v_out {a : Int32} : (a < 0 ∨ ¬ a ≤ 3) ↔ v_isVoice a = 0 := by
  have e : v_isVoice a = 0 ↔ ¬ ((¬ (a < 0)) ∧ (¬ ((3 : Int32) < a))) := by
    unfold v_isVoice v_in
    by_cases h : (¬ (a < 0)) ∧ (¬ ((3 : Int32) < a))
    · rw [if_pos h]
      exact ⟨fun z => absurd z (by decide), fun z => absurd h z⟩
    · rw [if_neg h]
      exact ⟨fun _ => h, fun _ => rfl⟩
  rw [e, Int32.lt_iff_toInt_lt, Int32.lt_iff_toInt_lt, Int32.le_iff_toInt_le]
  omega
theorem v_ofNN {a : Int32} (h : ¬ (a < 0 ∨ ¬ a ≤ 3)) : ∃ v : Nat, v < 4 ∧ a = nI v := by
  have h1 : ¬ a < 0 := fun z => h (Or.inl z)
  have h2 : a ≤ 3 := Classical.byContradiction fun z => h (Or.inr z)
  refine n_ofNN (n := 4) (by decide) h1 ?_
  rw [Int32.le_iff_toInt_le, show (3 : Int32).toInt = 3 from rfl] at h2
  rw [Int32.lt_iff_toInt_lt, nI_toInt (by decide)]
  omega
theorem at_nI {v i : Nat} (hv : v < 4) : v_at (nI v) (nI i) = nI (24 * v + i) := by
  have e : (24 : Int32) * nI v = nI (24 * v) := by
    have h : v = 0 ∨ v = 1 ∨ v = 2 ∨ v = 3 := by omega
    rcases h with rfl | rfl | rfl | rfl <;> decide
  unfold v_at
  rw [e]
  exact (Int32.ofNat_add (24 * v) i).symm
theorem a_reqVoice {B : Nat × Nat} {a : Int32} {S : CS} {Q : CS → Prop} {X : String → CS → Prop} (hr : szC S + 1 ≤ B.1 ∧ nsC S + 6 ≤ B.2) (h1 : ∀ v : Nat, v < 4 → a = nI v → ¬ v_isVoice a = 0 → Q S) (h2 : v_isVoice a = 0 → ∀ sz ns : Nat, X "java/lang/IllegalArgumentException" (rsz S sz ns)) : w_X11_requireVoice B a S Q X := by
  refine i_reqRange hr (fun hc => ?_) (fun hc => h2 (v_out.mp hc))
  obtain ⟨v, g1, g2⟩ := v_ofNN hc
  exact h1 v g1 g2 (fun z => hc (v_out.mpr z))
theorem a_row {S : CS} {t : MS} {so v i : Nat} (h : rB S t so) (hi : i < nbS S so) (hv : v < 4) : d_X9_row so (nI v) (nI i) S ∧ v_X9_row so (nI v) (nI i) S = rwL S so v i ∧ kdC S (rwL S so v i) = 11 ∧ mIn 6 (v_at (nI v) (nI i)) ∧ mgA t 6 (v_at (nI v) (nI i)) = nI (neS S so v i) := by
  obtain ⟨h1, h2, h3, h4, h5, -⟩ := h
  obtain ⟨g1, -, -, -, -, -, g7⟩ := h5 i hi
  obtain ⟨r1, r2, r3, r4, -⟩ := g7 v hv
  have ei : (nI i).toNatClampNeg = i := nI_clamp (by omega)
  have ev : (nI v).toNatClampNeg = v := nI_clamp (by omega)
  have eg : lG S 192 so (nI i) = mrL S so i := by
    unfold lG mrL
    rw [ei]
  have ea : (nI (24 * v + i)).toNatClampNeg = 24 * v + i := nI_clamp (by omega)
  have hn : nbS S so < 2147483648 := by omega
  unfold d_X9_row v_X9_row
  rw [eg, ev, at_nI hv]
  refine ⟨⟨h1, ⟨vp_nI hi hn, hn⟩, g1, vp_nI (n := 4) hv (by decide), r1⟩, rfl, r2, vp_nI (n := 96) (by omega) (by decide), ?_⟩
  unfold mgA
  rw [ea, r4]
