/-! THE MODEL'S SMALL STEPS -/
theorem thr_same (t : MS) (x : Int32) : mgI (msI t 45 x) 45 = x := va_up_self t.1 45 x
theorem thr_ne (t : MS) (x : Int32) {k : Nat} (h : k ≠ 45) : mgI (msI t 45 x) k = mgI t k := va_up_ne t.1 x h
theorem thr_row (t : MS) (x : Int32) : (msI t 45 x).2 = t.2 := rfl
theorem rB_thr {S : CS} {t : MS} {so : Nat} {x : Int32} : rB S (msI t 45 x) so ↔ rB S t so := by
  have e : (msI t 45 x).1 0 = t.1 0 := thr_ne t x (k := 0) (by decide)
  unfold rB
  rw [e]
  exact Iff.rfl
theorem i_goes {a1 a2 a3 : Int32} {t : MS} {Q : Int32 → MS → Prop} (h : ∀ x : Int32, x = (if a1 = 0 then 1 else (if a2 = 0 then 2 else (if a3 = 0 then 3 else 0))) → Q (if x = 0 then 1 else 0) (msI t 45 x)) : w_goes a1 a2 a3 t Q := by
  intro x1 hx1 t2 ht2 x3 hx3
  subst ht2
  rw [thr_same] at hx3
  subst hx3
  exact ⟨gb_if, h x1 hx1⟩
theorem i_tells {a : Int32} {t : MS} {Q : Int32 → MS → Prop} (h : Q a (msI t 45 0)) : w_tells a t Q := by
  intro t1 ht1
  subst ht1
  exact h
/-- bars: what the class and the model answer -/
theorem a_bars {S : CS} {t : MS} {o so : Nat} (hk : kdC S o = 14) (hs : fR S 224 o = some so) (h : rB S t so) : d_X11_bars o S ∧ v_X11_bars o S = mgI t 0 := by
  obtain ⟨h1, h2⟩ := rB_barCount h
  have e : oG (fR S 224 o) = so := by rw [hs]; rfl
  unfold d_X11_bars v_X11_bars
  rw [e]
  exact ⟨⟨hk, by rw [hs]; exact fun z => (by cases z), h1, h1⟩, h2⟩
