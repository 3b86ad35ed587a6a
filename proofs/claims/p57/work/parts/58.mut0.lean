theorem r_out {a l h : Int32} : (a < l ∨ ¬ a ≤ h) ↔ v_in a l h = 0 := by
  unfold v_in
  rw [Int32.not_le]
  by_cases e : ¬ a < l ∧ ¬ h < a
  · rw [if_pos e]
    exact ⟨fun z => z.elim (fun z => absurd z e.1) (fun z => absurd z e.2), fun z => absurd z one_ne⟩
  · rw [if_neg e]
    refine ⟨fun _ => rfl, fun _ => ?_⟩
    by_cases e2 : a < l
    · exact Or.inl e2
    · exact Or.inr (Classical.byContradiction fun z => e ⟨e2, z⟩)
theorem r_in {a : Int32} {x y : Nat} (hx : x < 2147483648) (hy : y < 2147483648) (h : ¬ (a < nI x ∨ ¬ a ≤ nI y)) : ∃ k : Nat, x ≤ k ∧ k ≤ y ∧ a = nI k := by
  have h1 : ¬ a < nI x := fun z => h (Or.inl z)
  have h2 : a ≤ nI y := Classical.byContradiction fun z => h (Or.inr z)
  rw [Int32.lt_iff_toInt_lt, nI_toInt (by omega)] at h1
  rw [Int32.le_iff_toInt_le, nI_toInt (by omega)] at h2
  refine ⟨a.toInt.toNat, by omega, by omega, Int32.toInt_inj.mp ?_⟩
  rw [nI_toInt (by omega)]
  omega
theorem a_reqRange {B : Nat × Nat} {a l h : Int32} {S : CS} {Q : CS → Prop} {X : String → CS → Prop} (hr : szC S + 1 ≤ B.1 ∧ nsC S + 6 ≤ B.2) (h1 : ¬ v_in a l h = 0 → ¬ (a < l ∨ ¬ a ≤ h) → Q S) (h2 : v_in a l h = 0 → ∀ sz ns : Nat, X "java/lang/IllegalArgumentException" (rsz S sz ns)) : w_X11_requireRange B a l h S Q X :=
  i_reqRange hr (fun hc => h1 (fun z => hc (r_out.mpr z)) hc) (fun hc => h2 (r_out.mp hc))
theorem i_ed {S1 : CS} {o so : Nat} {Q : CS → Prop} (hs : fR S1 224 o = some so) (hk : kdC S1 so = 12) (h : Q (usI S1 199 so (fI S1 199 so + 1))) : ((fR S1 224 o) ≠ none) ∧ (kdC S1 (oG (fR S1 224 o)) = 12) ∧ ∀ t : CS, t = usI S1 199 (oG (fR S1 224 o)) ((fI S1 199 (oG (fR S1 224 o))) + 1) → Q t := by
  rw [oG_so hs]
  refine ⟨ne_so hs, hk, fun t ht => ?_⟩
  subst ht
  exact h
section NE
variable {S : CS} {t : MS}
theorem fI_ne {f o f' : Nat} {v : Int32} (h : f' ≠ f) : fI (usI S f o v) f' = fI S f' := by
  funext q
  exact up2_no (fun z => h z.1)
theorem fI_at {f o q : Nat} {v : Int32} : fI (usI S f o v) f q = if q = o then v else fI S f q := by
  show (if f = f ∧ q = o then v else fI S f q) = _
  by_cases e : q = o
  · rw [if_pos ⟨rfl, e⟩, if_pos e]
  · rw [if_neg (fun z => e z.2), if_neg e]
theorem ed_fI {so : Nat} {f' : Nat} (h : f' ≠ 199) : fI (usI S 199 so (fI S 199 so + 1)) f' = fI S f' := fI_ne h
theorem ed_at {so : Nat} : fI (usI S 199 so (fI S 199 so + 1)) 199 so = fI S 199 so + 1 := by
  rw [fI_at, if_pos rfl]
theorem mA_ne {f f' : Nat} {i v : Int32} (h : f' ≠ f) : (msA t f i v).2 f' = t.2 f' := va_up_ne t.2 _ h
theorem mA_at {f i q : Nat} {v : Int32} (hi : i < 2147483648) : (msA t f (nI i) v).2 f q = if q = i then v else t.2 f q := by
  show (va_up t.2 f (va_up (t.2 f) (nI i).toNatClampNeg v)) f q = _
  rw [va_up_self, nI_clamp (by omega)]
  rfl
theorem mI_ne {f k : Nat} {v : Int32} (h : k ≠ f) : (msI t f v).1 k = t.1 k := va_up_ne t.1 v h
theorem mI_at {f : Nat} {v : Int32} : (msI t f v).1 f = v := va_up_self t.1 f v
theorem n45 {A' : MS} {x : Int32} {k : Nat} (e : A'.1 = (msI t 45 x).1) (h : k ≠ 45) : A'.1 k = t.1 k := by
  rw [e]
  exact mI_ne h
end NE
section UP
variable {S S' : CS} {A A' : MS} {o so po : Nat}
/-- numbers alone were changed -/
theorem rB_upd (h : rB S A so) (hk : kdC S' = kdC S) (hq : fQ S' 83 = fQ S 83) (hl : fL S' 192 = fL S 192) (hl2 : fL S' 176 = fL S 176) (hc : fC S' 192 = fC S 192) (hc2 : fC S' 176 = fC S 176) (h0 : A'.1 0 = A.1 0) (h6 : A'.2 6 = A.2 6) (h9 : A'.2 9 = A.2 9) (h10 : A'.2 10 = A.2 10) (h48 : fI S' 48 = fI S 48) (h49 : fI S' 49 = fI S 49) (h177 : fI S' 177 = fI S 177)
    (hb : ∀ i, i < nbS S so → fI S' 80 (mrL S so i) = A'.2 1 i ∧ fI S' 81 (mrL S so i) = A'.2 2 i ∧ fI S' 82 (mrL S so i) = A'.2 3 i ∧ (∃ c : Nat, 1 ≤ c ∧ c ≤ 9 ∧ A'.2 1 i = nI c) ∧ (A'.2 2 i = 2 ∨ A'.2 2 i = 4 ∨ A'.2 2 i = 8))
    (hr : ∀ v i, v < 4 → i < nbS S so → fI S' 178 (rwL S so v i) = A'.2 7 (24 * v + i) ∧ gb (A'.2 7 (24 * v + i)))
    (he : ∀ v i j, v < 4 → i < nbS S so → j < neS S so v i → fI S' 50 (evL S so v i j) = A'.2 8 (zp v i j) ∧ fI S' 52 (evL S so v i j) = A'.2 11 (zp v i j) ∧ fI S' 51 (evL S so v i j) = A'.2 12 (zp v i j)) : rB S' A' so := by
  have em : mrL S' so = mrL S so := by
    funext i
    unfold mrL
    rw [hl]
  have en : nbS S' so = nbS S so := by
    unfold nbS
    rw [hl]
  have er : rwL S' so = rwL S so := by
    funext v i
    unfold rwL
    rw [em, hq]
  have ee : neS S' so = neS S so := by
    funext v i
    unfold neS
    rw [er, hl2]
  have ev : evL S' so = evL S so := by
    funext v i j
    unfold evL
    rw [er, hl2]
  obtain ⟨b1, b2, b3, b4, b5, b6, b7, b8⟩ := h
  unfold rB
  rw [en, em, er, ev, ee, hk, hc, h0]
  refine ⟨b1, b2, b3, b4, fun i hi => ?_, b6, b7, b8⟩
  obtain ⟨m1, -, -, -, -, -, m7⟩ := b5 i hi
  obtain ⟨n1, n2, n3, n4, n5⟩ := hb i hi
  unfold rM
  rw [em, hk]
  refine ⟨m1, n1, n2, n3, n4, n5, fun v hv => ?_⟩
  obtain ⟨r0, r1, r2, r3, -, -, r6, r7, r8⟩ := m7 v hv
  obtain ⟨p1, p2⟩ := hr v i hv hi
  unfold rR
  rw [em, er, ee, ev, hk, hq, hc2, h6, h9, h10, h177]
  refine ⟨r0, r1, r2, r3, p1, p2, r6, r7, fun j hj => ?_⟩
  obtain ⟨e1, -, e3, -, -, e6, e7⟩ := r8 j hj
  obtain ⟨s1, s2, s3⟩ := he v i j hv hi hj
  unfold rE
  rw [hk, h9, h10, h48, h49]
  exact ⟨e1, s1, e3, s2, s3, e6, e7⟩
theorem rB_hb (h : rB S A so) : ∀ i, i < nbS S so → fI S 80 (mrL S so i) = A.2 1 i ∧ fI S 81 (mrL S so i) = A.2 2 i ∧ fI S 82 (mrL S so i) = A.2 3 i ∧ (∃ c : Nat, 1 ≤ c ∧ c ≤ 9 ∧ A.2 1 i = nI c) ∧ (A.2 2 i = 2 ∨ A.2 2 i = 4 ∨ A.2 2 i = 8) := by
  intro i hi
  obtain ⟨-, m2, m3, m4, m5, m6, -⟩ := h.2.2.2.2.1 i hi
  exact ⟨m2, m3, m4, m5, m6⟩
theorem rB_hr (h : rB S A so) : ∀ v i, v < 4 → i < nbS S so → fI S 178 (rwL S so v i) = A.2 7 (24 * v + i) ∧ gb (A.2 7 (24 * v + i)) := by
  intro v i hv hi
  obtain ⟨-, -, -, -, r4, r5, -⟩ := (h.2.2.2.2.1 i hi).2.2.2.2.2.2 v hv
  exact ⟨r4, r5⟩
theorem rB_he (h : rB S A so) : ∀ v i j, v < 4 → i < nbS S so → j < neS S so v i → fI S 50 (evL S so v i j) = A.2 8 (zp v i j) ∧ fI S 52 (evL S so v i j) = A.2 11 (zp v i j) ∧ fI S 51 (evL S so v i j) = A.2 12 (zp v i j) := by
  intro v i j hv hi hj
  obtain ⟨-, -, -, -, -, -, -, -, r8⟩ := (h.2.2.2.2.1 i hi).2.2.2.2.2.2 v hv
  obtain ⟨-, e2, -, e4, e5, -⟩ := r8 j hj
  exact ⟨e2, e4, e5⟩
theorem zZ_k (h : zZ A) (h0 : A'.1 0 = A.1 0) (h6 : A'.2 6 = A.2 6) (h7 : A'.2 7 = A.2 7) (h26 : A'.2 26 0 = A.2 26 0) : zZ A' := (zZ_c h0 h6 h7 h26).mpr h
def fOt (f : Nat) : Prop := fP0 f ∨ fT0 f ∨ fS0 f ∨ f = 224 ∨ f = 225
theorem rA_val (h : rA S A o so po) (g : Eqf fOt S S') (hB : rB S' A' so) (hM : zM A') (hev : ∀ v i j, v < 4 → i < zN A → j < zE A v i → evL S' so v i j = evL S so v i j) (h1 : ∀ k, k < 24 → A'.1 k = A.1 k) (h2 : ∀ k, k < 24 → k = 4 ∨ k = 5 ∨ k = 6 ∨ 13 ≤ k → A'.2 k = A.2 k) (hZ : zZ A') : rA S' A' o so po := by
  obtain ⟨b1, b2, b3, b4, b5, b6, b7, b8, b9, b10⟩ := h
  have hs : kdC S so ≠ 0 := by rw [b5.1]; decide
  obtain ⟨q1, -, q2⟩ := g o (by rw [b1]; decide)
  obtain ⟨p1, -, -⟩ := g po (by rw [b4]; decide)
  refine ⟨q1.trans b1, ((q2 224 (by unfold fOt; omega)).2.2.1).trans b2, ((q2 225 (by unfold fOt; omega)).2.2.1).trans b3, p1.trans b4, hB, hM, ?_, ?_, ?_, hZ⟩
  · exact rP_c hs b7 (Eqf_sub (fun f z => Or.inl z) g) hev (h1 0 (by decide)) (h2 6 (by decide) (by decide)) (h1 14 (by decide)) (h2 15 (by decide) (by decide)) (h2 16 (by decide) (by decide)) (h2 17 (by decide) (by decide)) (h2 18 (by decide) (by decide)) (h2 19 (by decide) (by decide)) (h2 20 (by decide) (by decide))
  · exact rT_c hs b8 (Eqf_sub (fun f z => Or.inr (Or.inl z)) g) (h1 0 (by decide)) (h2 4 (by decide) (by decide)) (h2 5 (by decide) (by decide))
  · exact rS_c hs b9 (Eqf_sub (fun f z => Or.inr (Or.inr (Or.inl z))) g) (h2 13 (by decide) (by decide)) (h1 21 (by decide)) (h1 22 (by decide)) (h1 23 (by decide))
end UP
