/-! THE MODEL'S SMALL STEPS -/
theorem thr_same (t : MS) (x : Int32) : mgI (msI t 45 x) 45 = x := va_up_self t.1 45 x
theorem thr_ne (t : MS) (x : Int32) {k : Nat} (h : k ≠ 45) : mgI (msI t 45 x) k = mgI t k := va_up_ne t.1 x h
theorem thr_row (t : MS) (x : Int32) : (msI t 45 x).2 = t.2 := rfl
theorem rB_thr {S : CS} {t : MS} {so : Nat} {x : Int32} : rB S (msI t 45 x) so ↔ rB S t so := by
  have e : (msI t 45 x).1 0 = t.1 0 := thr_ne t x (k := 0) (by decide)
  unfold rB
  rw [e]
  exact Iff.rfl
theorem i_goes {a1 a2 a3 : Int32} {t : MS} {Q : Int32 → MS → Prop} (h : ∀ x : Int32, x = (if a1 = 0 then 1 else (if a2 = 0 then 2 else (if a3 = 0 then 3 else 0))) → Q (if x = 0 then 1 else 0) (msI t 45 x)) : w_goes a1 a2 a3 t Q := by
  intro x1 hx1 t2 ht2 x3 hx3
  subst ht2
  rw [thr_same] at hx3
  subst hx3
  exact ⟨gb_if, h x1 hx1⟩
theorem i_tells {a : Int32} {t : MS} {Q : Int32 → MS → Prop} (h : Q a (msI t 45 0)) : w_tells a t Q := by
  intro t1 ht1
  subst ht1
  exact h
/-- bars: what the class and the model answer -/
theorem a_bars {S : CS} {t : MS} {o so : Nat} (hk : kdC S o = 14) (hs : fR S 224 o = some so) (h : rB S t so) : d_X11_bars o S ∧ v_X11_bars o S = mgI t 0 := by
  obtain ⟨h1, h2⟩ := rB_barCount h
  have e : oG (fR S 224 o) = so := by rw [hs]; rfl
  unfold d_X11_bars v_X11_bars
  rw [e]
  exact ⟨⟨hk, by rw [hs]; exact fun z => (by cases z), h1, h1⟩, h2⟩
theorem vp_nI {k n : Nat} (h : k < n) (hn : n < 2147483648) : vp_in (nI k) n := by
  intro h9
  rcases h9 with h9 | h9
  · exact nI_pos (n := k) (by omega) h9
  · rw [nI_clamp (by omega)] at h9
    omega
/-- how long a bar is: both sides -/
theorem a_length {S : CS} {t : MS} {so k : Nat} (h : rB S t so) (hi : k < nbS S so) : d_X9_measure so (nI k) S ∧ d_X2_ticks (v_X9_measure so (nI k) S) S ∧ v_X2_ticks (v_X9_measure so (nI k) S) S = v_lengthOf (nI k) t ∧ d_lengthOf (nI k) t := by
  obtain ⟨h1, h2, h3, h4, h5, -⟩ := h
  obtain ⟨g1, g2, g3, g4, g5, g6, g7⟩ := h5 k hi
  have ec : (nI k).toNatClampNeg = k := nI_clamp (by omega)
  have eg : lG S 192 so (nI k) = mrL S so k := by
    unfold lG mrL
    rw [ec]
  have e8 : ¬ t.2 2 k ≤ 0 ∧ ¬ t.2 2 k = 0 := by
    rcases g6 with g | g | g <;> rw [g] <;> decide
  have m1 : mgA t 1 (nI k) = t.2 1 k := by unfold mgA; rw [ec]
  have m2 : mgA t 2 (nI k) = t.2 2 k := by unfold mgA; rw [ec]
  unfold d_X9_measure d_X2_ticks v_X2_ticks v_X9_measure d_X2_ticksOf v_X2_ticksOf v_lengthOf d_lengthOf
  rw [eg, g2, g3, m1, m2]
  refine ⟨⟨h1, ⟨vp_nI hi (by show nbS S so < _; omega), by show nbS S so < _; omega⟩, g1⟩, ⟨g1, fun _ => e8.2⟩, if_neg e8.1, vp_nI (n := 24) (by omega) (by decide), vp_nI (n := 24) (by omega) (by decide), e8.2⟩
