/-! insert, in the model -/
def insV (pi kd fo : Int32) (f : Nat) : Int32 := if f = 8 then pi else if f = 9 then kd else if f = 10 then fo else if f = 11 then -1 else 0
/-- the model behind an insertion -/
def Ins (t t' : MS) (v i j np : Nat) (pi kd fo : Int32) : Prop := (∀ k, k ≠ 45 → t'.1 k = t.1 k) ∧ (∀ f, f ≠ 6 → (f < 8 ∨ 12 < f) → f ≠ 17 → f ≠ 19 → t'.2 f = t.2 f) ∧ (∀ q, t'.2 6 q = if q = 24 * v + i then nI (zE t v i + 1) else t.2 6 q) ∧ (∀ f r, 8 ≤ f → f ≤ 12 → t'.2 f r = if r = zp v i j then insV pi kd fo f else if zp v i j < r ∧ r ≤ zp v i (zE t v i) then t.2 f (r - 1) else t.2 f r) ∧ (∀ k, t'.2 17 k = if k < np then t.2 17 k + mvD (t.2 15 k) (t.2 16 k) (t.2 17 k) (nI v) (nI i) (nI j) 1 else t.2 17 k) ∧ ∀ k, t'.2 19 k = if k < np then t.2 19 k + mvD (t.2 15 k) (t.2 18 k) (t.2 19 k) (nI v) (nI i) (nI j) 1 else t.2 19 k
section IN
variable {t t' : MS} {v i j np : Nat} {pi kd fo : Int32}
theorem in_n (h : Ins t t' v i j np pi kd fo) : zN t' = zN t := by unfold zN; rw [h.1 0 (by decide)]
theorem in_e (h : Ins t t' v i j np pi kd fo) {v2 i2 : Nat} : zE t' v2 i2 = if 24 * v2 + i2 = 24 * v + i then aN (nI (zE t v i + 1)) else zE t v2 i2 := by
  show aN (t'.2 6 (24 * v2 + i2)) = _
  rw [h.2.2.1]
  by_cases e : 24 * v2 + i2 = 24 * v + i
  · rw [if_pos e, if_pos e]
  · rw [if_neg e, if_neg e]
    rfl
theorem in_r (h : Ins t t' v i j np pi kd fo) (he : zE t v i < 16) {v2 i2 j2 f : Nat} (hne : ¬ 24 * v2 + i2 = 24 * v + i) (hj : j ≤ zE t v i) (hj2 : j2 < 16) (f1 : 8 ≤ f) (f2 : f ≤ 12) : t'.2 f (zp v2 i2 j2) = t.2 f (zp v2 i2 j2) := by
  rw [h.2.2.2.1 f _ f1 f2, if_neg (by unfold zp; omega), if_neg (by unfold zp; omega)]
theorem in_s (h : Ins t t' v i j np pi kd fo) (he : zE t v i < 16) {j2 f : Nat} (hj : j ≤ zE t v i) (hj2 : j2 ≤ zE t v i) (f1 : 8 ≤ f) (f2 : f ≤ 12) : t'.2 f (zp v i j2) = if j2 < j then t.2 f (zp v i j2) else if j2 = j then insV pi kd fo f else t.2 f (zp v i (j2 - 1)) := by
  rw [h.2.2.2.1 f _ f1 f2]
  by_cases e : j2 < j
  · rw [if_neg (by unfold zp; omega), if_neg (by unfold zp; omega), if_pos e]
  · rw [if_neg e]
    by_cases e2 : j2 = j
    · rw [if_pos (by rw [e2]), if_pos e2]
    · rw [if_neg (by unfold zp; omega), if_pos (by unfold zp; omega), if_neg e2, show zp v i j2 - 1 = zp v i (j2 - 1) by unfold zp; omega]
theorem in_k (h : Ins t t' v i j np pi kd fo) (he : zE t v i < 16) (hj : j ≤ zE t v i) {k : Nat} (hk : k ≤ zE t v i) : zK t' v i k = if k < j then zK t v i k else if k = j then aN (tk kd fo) else zK t v i (k - 1) := by
  show aN (tk (t'.2 9 (zp v i k)) (t'.2 10 (zp v i k))) = _
  rw [in_s h he hj hk (by decide) (by decide), in_s h he hj hk (by decide) (by decide)]
  by_cases e : k < j
  · rw [if_pos e, if_pos e, if_pos e]
    rfl
  · rw [if_neg e, if_neg e, if_neg e]
    by_cases e2 : k = j
    · rw [if_pos e2, if_pos e2, if_pos e2]
      rfl
    · rw [if_neg e2, if_neg e2, if_neg e2]
      rfl
theorem in_l (h : Ins t t' v i j np pi kd fo) : zL t' = zL t ∧ zB t' = zB t ∧ zU t' = zU t := by
  have e1 : t'.2 1 = t.2 1 := h.2.1 1 (by decide) (by decide) (by decide) (by decide)
  have e2 : t'.2 2 = t.2 2 := h.2.1 2 (by decide) (by decide) (by decide) (by decide)
  refine ⟨?_, ?_, ?_⟩
  · funext i
    unfold zL zB zU
    rw [e1, e2]
  · funext i
    unfold zB
    rw [e1]
  · funext i
    unfold zU
    rw [e2]
theorem in_M (w : zM t) (h : Ins t t' v i j np pi kd fo) (hv : v < 4) (hi : i < zN t) (he : zE t v i < 16) (hj : j ≤ zE t v i) {kk ff x : Nat} (hk : kk < 6) (hf : ff < 3) (ek : kd = nI kk) (ef : fo = nI ff) (ep : pi = nI x) (hx : x ≤ 127) (hs : zS t v i (zE t v i) + aN (tk kd fo) ≤ zL t i) : zM t' ∧ zE t' v i = zE t v i + 1 ∧ zS t' v i (zE t v i + 1) = zS t v i (zE t v i) + aN (tk kd fo) := by
  have hn24 := w.2.1
  have e1 : zE t' v i = zE t v i + 1 := by rw [in_e h, if_pos rfl, aN_nI (by omega)]
  obtain ⟨s1, s2⟩ := zS_ins (A := t) (A' := t') (v := v) (i := i) (j := j) (n := zE t v i) (x := aN (tk kd fo)) hj (fun k hk => in_k h he hj hk)
  have e2 := s2 (zE t v i) hj (Nat.le_refl _)
  refine ⟨?_, e1, e2⟩
  refine ⟨by rw [in_n h, h.1 0 (by decide)]; exact w.1, by rw [in_n h]; exact hn24, fun i2 hi2 => ?_⟩
  rw [in_n h] at hi2
  obtain ⟨c1, c2, c3, c4⟩ := z_b w hi2
  refine ⟨?_, ?_, ?_, fun v2 hv2 => ?_⟩
  · rw [(in_l h).2.1, h.2.1 1 (by decide) (by decide) (by decide) (by decide)]
    exact c1
  · rw [(in_l h).2.2, h.2.1 2 (by decide) (by decide) (by decide) (by decide)]
    exact c2
  · rw [h.2.1 3 (by decide) (by decide) (by decide) (by decide)]
    exact c3
  obtain ⟨d1, d2, d3, d4, d5⟩ := c4 v2 hv2
  by_cases e9 : 24 * v2 + i2 = 24 * v + i
  · have ev : v2 = v := by omega
    have ei : i2 = i := by omega
    subst ev
    subst ei
    refine ⟨by omega, by rw [e1, h.2.2.1, if_pos rfl], by rw [h.2.1 7 (by decide) (by decide) (by decide) (by decide)]; exact d3, by rw [e1, e2, (in_l h).1]; exact hs, fun k hk2 => ?_⟩
    rw [e1] at hk2
    have hk3 : k ≤ zE t v2 i2 := by omega
    unfold zMe zKp
    rw [in_s h he hj hk3 (f := 8) (by decide) (by decide), in_s h he hj hk3 (f := 9) (by decide) (by decide), in_s h he hj hk3 (f := 10) (by decide) (by decide), in_s h he hj hk3 (f := 12) (by decide) (by decide)]
    by_cases e8 : k < j
    · rw [if_pos e8, if_pos e8, if_pos e8, if_pos e8]
      exact d5 k (by omega)
    · rw [if_neg e8, if_neg e8, if_neg e8, if_neg e8]
      by_cases e7 : k = j
      · rw [if_pos e7, if_pos e7, if_pos e7, if_pos e7]
        have i8 : insV pi kd fo 8 = pi := rfl
        have i9 : insV pi kd fo 9 = kd := rfl
        have i10 : insV pi kd fo 10 = fo := rfl
        have i12 : insV pi kd fo 12 = 0 := rfl
        rw [i8, i9, i10, i12, ep, ek, ef, aN_nI (show x < 2147483648 by omega)]
        obtain ⟨q1, q2, q3⟩ := tk_ok hk hf
        exact ⟨q1, q2, q3, rfl, hx, ⟨kk, hk, rfl⟩, ⟨ff, hf, rfl⟩, Or.inl rfl⟩
      · rw [if_neg e7, if_neg e7, if_neg e7, if_neg e7]
        exact d5 (k - 1) (by omega)
  · have e3 : zE t' v2 i2 = zE t v2 i2 := by rw [in_e h, if_neg e9]
    have es : zS t' v2 i2 (zE t v2 i2) = zS t v2 i2 (zE t v2 i2) := zS_same (fun k hk => by
      show aN (tk (t'.2 9 (zp v2 i2 k)) (t'.2 10 (zp v2 i2 k))) = _
      rw [in_r h he e9 hj (by omega) (by decide) (by decide), in_r h he e9 hj (by omega) (by decide) (by decide)]
      rfl)
    refine ⟨by rw [e3]; exact d1, by rw [e3, h.2.2.1, if_neg e9]; exact d2, by rw [h.2.1 7 (by decide) (by decide) (by decide) (by decide)]; exact d3, by rw [e3, es, (in_l h).1]; exact d4, fun k hk2 => ?_⟩
    rw [e3] at hk2
    have g := d5 k hk2
    unfold zMe zKp at g ⊢
    rw [in_r h he e9 hj (j2 := k) (f := 8) (by omega) (by decide) (by decide), in_r h he e9 hj (j2 := k) (f := 9) (by omega) (by decide) (by decide), in_r h he e9 hj (j2 := k) (f := 10) (by omega) (by decide) (by decide), in_r h he e9 hj (j2 := k) (f := 12) (by omega) (by decide) (by decide)]
    exact g
/-- what must hold of the arguments ahead of the place -/
def insCan (v : Nat) (pi kd fo : Int32) : Prop := (¬ ((v_isVoice (nI v)) = 0)) ∧ ((¬ ((v_in pi 0 127) = 0)) ∧ ((¬ ((v_in kd 0 5) = 0)) ∧ ((¬ ((v_in fo 0 2) = 0)) ∧ ((¬ (kd = 5)) ∨ (¬ (fo = 1))))))
def insFit (t : MS) (v i : Nat) (pi kd fo : Int32) : Prop := zE t v i < 16 ∧ zS t v i (zE t v i) + aN (tk kd fo) ≤ zL t i ∧ ¬ v_isWritten (nI v) pi (t.2 13 v) = 0
end IN
