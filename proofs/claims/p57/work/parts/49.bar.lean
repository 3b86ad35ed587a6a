/-! A BAR'S NUMBER, ON BOTH SIDES -/
theorem n_ofNN {a : Int32} {n : Nat} (hn : n ≤ 3584) (h0 : ¬ a < 0) (h1 : a < nI n) : ∃ k : Nat, k < n ∧ a = nI k := by
  rw [Int32.lt_iff_toInt_lt] at h0 h1
  rw [nI_toInt (by omega)] at h1
  rw [show (0 : Int32).toInt = 0 from rfl] at h0
  refine ⟨a.toInt.toNat, by omega, Int32.toInt_inj.mp ?_⟩
  rw [nI_toInt (by omega)]
  omega
theorem n_sub1 {n : Nat} (h : n ≤ 3584) : (nI n - 1).toInt = (n : Int) - 1 := by
  have h1 : (nI n).toInt = (n : Int) := nI_toInt (by omega)
  rw [Int32.toInt_sub, h1, show (1 : Int32).toInt = 1 from rfl]
  simp only [Int.bmod]
  split <;> omega
theorem n_out {a : Int32} {n : Nat} (hn : n ≤ 3584) : (a < 0 ∨ ¬ a < nI n) ↔ v_in a 0 (nI n - 1) = 0 := by
  have e : v_in a 0 (nI n - 1) = 0 ↔ ¬ ((¬ (a < 0)) ∧ (¬ (nI n - 1 < a))) := by
    unfold v_in
    by_cases h : (¬ (a < 0)) ∧ (¬ (nI n - 1 < a))
    · rw [if_pos h]
      exact ⟨fun z => absurd z (by decide), fun z => absurd h z⟩
    · rw [if_neg h]
      exact ⟨fun _ => h, fun _ => rfl⟩
  rw [e, Int32.lt_iff_toInt_lt, Int32.lt_iff_toInt_lt, Int32.lt_iff_toInt_lt, n_sub1 hn, nI_toInt (n := n) (by omega)]
  omega
/-- the class asks for a bar -/
theorem a_reqBar {B : Nat × Nat} {o so : Nat} {a : Int32} {S : CS} {t : MS} {Q : CS → Prop} {X : String → CS → Prop} (hk : kdC S o = 14) (hs : fR S 224 o = some so) (h : rB S t so) (hr : szC S + 1 ≤ B.1 ∧ nsC S + 6 ≤ B.2)
    (h1 : ∀ k : Nat, k < nbS S so → a = nI k → ¬ v_isBar a t = 0 → Q S) (h2 : v_isBar a t = 0 → ∀ sz ns : Nat, X "java/lang/IndexOutOfBoundsException" (rsz S sz ns)) : w_X11_requireBar B o a S Q X := by
  obtain ⟨g1, g2⟩ := rB_barCount h
  have e : oG (fR S 224 o) = so := by rw [hs]; rfl
  have hn : nbS S so ≤ 24 := h.2.1
  have ev : v_isBar a t = v_in a 0 (nI (nbS S so) - 1) := by
    unfold v_isBar
    rw [show mgI t 0 = nI (nbS S so) from h.2.2.2.1]
  have hout := n_out (a := a) (n := nbS S so) (by omega)
  unfold w_X11_requireBar
  rw [e]
  refine ⟨hk, by rw [hs]; exact fun z => (by cases z), g1, g1, ?_⟩
  rw [show v_X9_barCount so S = nI (nbS S so) from rfl]
  refine i_reqIdx hr (fun hc => ?_) (fun hc => h2 (by rw [ev]; exact hout.mp hc))
  have hc2 : ¬ a < 0 ∧ a < nI (nbS S so) := ⟨fun z => hc (Or.inl z), Classical.byContradiction fun z => hc (Or.inr z)⟩
  obtain ⟨k, hk1, hk2⟩ := n_ofNN (by omega) hc2.1 hc2.2
  exact h1 k hk1 hk2 (by rw [ev]; exact fun z => hc (hout.mpr z))
