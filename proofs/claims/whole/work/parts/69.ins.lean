/-! insert, in the model -/
def insV (pi kd fo : Int32) (f : Nat) : Int32 := if f = 8 then pi else if f = 9 then kd else if f = 10 then fo else if f = 11 then -1 else 0
/-- the model behind an insertion -/
def Ins (t t' : MS) (v i j np : Nat) (pi kd fo : Int32) : Prop := (∀ k, k ≠ 45 → t'.1 k = t.1 k) ∧ (∀ f, f ≠ 6 → (f < 8 ∨ 12 < f) → f ≠ 17 → f ≠ 19 → t'.2 f = t.2 f) ∧ (∀ q, t'.2 6 q = if q = 24 * v + i then nI (zE t v i + 1) else t.2 6 q) ∧ (∀ f r, 8 ≤ f → f ≤ 12 → t'.2 f r = if r = zp v i j then insV pi kd fo f else if zp v i j < r ∧ r ≤ zp v i (zE t v i) then t.2 f (r - 1) else t.2 f r) ∧ (∀ k, t'.2 17 k = if k < np then t.2 17 k + mvD (t.2 15 k) (t.2 16 k) (t.2 17 k) (nI v) (nI i) (nI j) 1 else t.2 17 k) ∧ ∀ k, t'.2 19 k = if k < np then t.2 19 k + mvD (t.2 15 k) (t.2 18 k) (t.2 19 k) (nI v) (nI i) (nI j) 1 else t.2 19 k
section IN
variable {t t' : MS} {v i j np : Nat} {pi kd fo : Int32}
theorem in_n (h : Ins t t' v i j np pi kd fo) : zN t' = zN t := by unfold zN; rw [h.1 0 (by decide)]
theorem in_e (h : Ins t t' v i j np pi kd fo) {v2 i2 : Nat} : zE t' v2 i2 = if 24 * v2 + i2 = 24 * v + i then aN (nI (zE t v i + 1)) else zE t v2 i2 := by
  show aN (t'.2 6 (24 * v2 + i2)) = _
  rw [h.2.2.1]
  by_cases e : 24 * v2 + i2 = 24 * v + i
  · rw [if_pos e, if_pos e]
  · rw [if_neg e, if_neg e]
    rfl
theorem in_r (h : Ins t t' v i j np pi kd fo) (he : zE t v i < 16) {v2 i2 j2 f : Nat} (hne : ¬ 24 * v2 + i2 = 24 * v + i) (hj : j ≤ zE t v i) (hj2 : j2 < 16) (f1 : 8 ≤ f) (f2 : f ≤ 12) : t'.2 f (zp v2 i2 j2) = t.2 f (zp v2 i2 j2) := by
  rw [h.2.2.2.1 f _ f1 f2, if_neg (by unfold zp; omega), if_neg (by unfold zp; omega)]
theorem in_s (h : Ins t t' v i j np pi kd fo) (he : zE t v i < 16) {j2 f : Nat} (hj : j ≤ zE t v i) (hj2 : j2 ≤ zE t v i) (f1 : 8 ≤ f) (f2 : f ≤ 12) : t'.2 f (zp v i j2) = if j2 < j then t.2 f (zp v i j2) else if j2 = j then insV pi kd fo f else t.2 f (zp v i (j2 - 1)) := by
  rw [h.2.2.2.1 f _ f1 f2]
  by_cases e : j2 < j
  · rw [if_neg (by unfold zp; omega), if_neg (by unfold zp; omega), if_pos e]
  · rw [if_neg e]
    by_cases e2 : j2 = j
    · rw [if_pos (by rw [e2]), if_pos e2]
    · rw [if_neg (by unfold zp; omega), if_pos (by unfold zp; omega), if_neg e2, show zp v i j2 - 1 = zp v i (j2 - 1) by unfold zp; omega]
theorem in_k (h : Ins t t' v i j np pi kd fo) (he : zE t v i < 16) (hj : j ≤ zE t v i) {k : Nat} (hk : k ≤ zE t v i) : zK t' v i k = if k < j then zK t v i k else if k = j then aN (tk kd fo) else zK t v i (k - 1) := by
  show aN (tk (t'.2 9 (zp v i k)) (t'.2 10 (zp v i k))) = _
  rw [in_s h he hj hk (by decide) (by decide), in_s h he hj hk (by decide) (by decide)]
  by_cases e : k < j
  · rw [if_pos e, if_pos e, if_pos e]
    rfl
  · rw [if_neg e, if_neg e, if_neg e]
    by_cases e2 : k = j
    · rw [if_pos e2, if_pos e2, if_pos e2]
      rfl
    · rw [if_neg e2, if_neg e2, if_neg e2]
      rfl
theorem in_l (h : Ins t t' v i j np pi kd fo) : zL t' = zL t ∧ zB t' = zB t ∧ zU t' = zU t := by
  have e1 : t'.2 1 = t.2 1 := h.2.1 1 (by decide) (by decide) (by decide) (by decide)
  have e2 : t'.2 2 = t.2 2 := h.2.1 2 (by decide) (by decide) (by decide) (by decide)
  refine ⟨?_, ?_, ?_⟩
  · funext i
    unfold zL zB zU
    rw [e1, e2]
  · funext i
    unfold zB
    rw [e1]
  · funext i
    unfold zU
    rw [e2]
theorem in_M (w : zM t) (h : Ins t t' v i j np pi kd fo) (hv : v < 4) (hi : i < zN t) (he : zE t v i < 16) (hj : j ≤ zE t v i) {kk ff x : Nat} (hk : kk < 6) (hf : ff < 3) (ek : kd = nI kk) (ef : fo = nI ff) (ep : pi = nI x) (hx : x ≤ 127) (hs : zS t v i (zE t v i) + aN (tk kd fo) ≤ zL t i) : zM t' ∧ zE t' v i = zE t v i + 1 ∧ zS t' v i (zE t v i + 1) = zS t v i (zE t v i) + aN (tk kd fo) := by
  have hn24 := w.2.1
  have e1 : zE t' v i = zE t v i + 1 := by rw [in_e h, if_pos rfl, aN_nI (by omega)]
  obtain ⟨s1, s2⟩ := zS_ins (A := t) (A' := t') (v := v) (i := i) (j := j) (n := zE t v i) (x := aN (tk kd fo)) hj (fun k hk => in_k h he hj hk)
  have e2 := s2 (zE t v i) hj (Nat.le_refl _)
  refine ⟨?_, e1, e2⟩
  refine ⟨by rw [in_n h, h.1 0 (by decide)]; exact w.1, by rw [in_n h]; exact hn24, fun i2 hi2 => ?_⟩
  rw [in_n h] at hi2
  obtain ⟨c1, c2, c3, c4⟩ := z_b w hi2
  refine ⟨?_, ?_, ?_, fun v2 hv2 => ?_⟩
  · rw [(in_l h).2.1, h.2.1 1 (by decide) (by decide) (by decide) (by decide)]
    exact c1
  · rw [(in_l h).2.2, h.2.1 2 (by decide) (by decide) (by decide) (by decide)]
    exact c2
  · rw [h.2.1 3 (by decide) (by decide) (by decide) (by decide)]
    exact c3
  obtain ⟨d1, d2, d3, d4, d5⟩ := c4 v2 hv2
  by_cases e9 : 24 * v2 + i2 = 24 * v + i
  · have ev : v2 = v := by omega
    have ei : i2 = i := by omega
    subst ev
    subst ei
    refine ⟨by omega, by rw [e1, h.2.2.1, if_pos rfl], by rw [h.2.1 7 (by decide) (by decide) (by decide) (by decide)]; exact d3, by rw [e1, e2, (in_l h).1]; exact hs, fun k hk2 => ?_⟩
    rw [e1] at hk2
    have hk3 : k ≤ zE t v2 i2 := by omega
    unfold zMe zKp
    rw [in_s h he hj hk3 (f := 8) (by decide) (by decide), in_s h he hj hk3 (f := 9) (by decide) (by decide), in_s h he hj hk3 (f := 10) (by decide) (by decide), in_s h he hj hk3 (f := 12) (by decide) (by decide)]
    by_cases e8 : k < j
    · rw [if_pos e8, if_pos e8, if_pos e8, if_pos e8]
      exact d5 k (by omega)
    · rw [if_neg e8, if_neg e8, if_neg e8, if_neg e8]
      by_cases e7 : k = j
      · rw [if_pos e7, if_pos e7, if_pos e7, if_pos e7]
        have i8 : insV pi kd fo 8 = pi := rfl
        have i9 : insV pi kd fo 9 = kd := rfl
        have i10 : insV pi kd fo 10 = fo := rfl
        have i12 : insV pi kd fo 12 = 0 := rfl
        rw [i8, i9, i10, i12, ep, ek, ef, aN_nI (show x < 2147483648 by omega)]
        obtain ⟨q1, q2, q3⟩ := tk_ok hk hf
        exact ⟨q1, q2, q3, rfl, hx, ⟨kk, hk, rfl⟩, ⟨ff, hf, rfl⟩, Or.inl rfl⟩
      · rw [if_neg e7, if_neg e7, if_neg e7, if_neg e7]
        exact d5 (k - 1) (by omega)
  · have e3 : zE t' v2 i2 = zE t v2 i2 := by rw [in_e h, if_neg e9]
    have es : zS t' v2 i2 (zE t v2 i2) = zS t v2 i2 (zE t v2 i2) := zS_same (fun k hk => by
      show aN (tk (t'.2 9 (zp v2 i2 k)) (t'.2 10 (zp v2 i2 k))) = _
      rw [in_r h he e9 hj (by omega) (by decide) (by decide), in_r h he e9 hj (by omega) (by decide) (by decide)]
      rfl)
    refine ⟨by rw [e3]; exact d1, by rw [e3, h.2.2.1, if_neg e9]; exact d2, by rw [h.2.1 7 (by decide) (by decide) (by decide) (by decide)]; exact d3, by rw [e3, es, (in_l h).1]; exact d4, fun k hk2 => ?_⟩
    rw [e3] at hk2
    have g := d5 k hk2
    unfold zMe zKp at g ⊢
    rw [in_r h he e9 hj (j2 := k) (f := 8) (by omega) (by decide) (by decide), in_r h he e9 hj (j2 := k) (f := 9) (by omega) (by decide) (by decide), in_r h he e9 hj (j2 := k) (f := 10) (by omega) (by decide) (by decide), in_r h he e9 hj (j2 := k) (f := 12) (by omega) (by decide) (by decide)]
    exact g
/-- what must hold of the arguments ahead of the place -/
def insCan (v : Nat) (pi kd fo : Int32) : Prop := (¬ ((v_isVoice (nI v)) = 0)) ∧ ((¬ ((v_in pi 0 127) = 0)) ∧ ((¬ ((v_in kd 0 5) = 0)) ∧ ((¬ ((v_in fo 0 2) = 0)) ∧ ((¬ (kd = 5)) ∨ (¬ (fo = 1))))))
def insFit (t : MS) (v i : Nat) (pi kd fo : Int32) : Prop := zE t v i < 16 ∧ zS t v i (zE t v i) + aN (tk kd fo) ≤ zL t i ∧ ¬ v_isWritten (nI v) pi (t.2 13 v) = 0
theorem mm_insert (w : zM t) (hnp : np ≤ 20) (h14 : t.1 14 = nI np) (hv : v < 4) (hi : i < zN t) (hj : j ≤ zE t v i) (hcan : insCan v pi kd fo) {kk ff x : Nat} (hk : kk < 6) (hf : ff < 3) (ek : kd = nI kk) (ef : fo = nI ff) (ep : pi = nI x) (hx : x ≤ 127) (hz2 : ¬ v_isBar (nI i) t = 0) (hz3 : ¬ v_in (nI j) 0 (nI (zE t v i)) = 0) {Q : Int32 → MS → Prop}
    (h3 : ¬ insFit t v i pi kd fo → Q 0 (msI t 45 3)) (h0 : insFit t v i pi kd fo → ∀ t', Ins t t' v i j np pi kd fo → v_thrown t' = 0 → Q (nI (zL t i - (zS t v i (zE t v i) + aN (tk kd fo)))) t') : w_insert (nI v) (nI i) (nI j) pi kd fo t Q := by
  have hn24 := w.2.1
  obtain ⟨re, re2, -⟩ := z_r w hi hv
  have hsL := z_sL w hi hv (Nat.le_refl (zE t v i))
  have hL := z_len w hi
  obtain ⟨k1, k2, k3⟩ := tk_ok hk hf
  rw [← ek, ← ef] at k1 k2 k3
  have q31 : 24 * v + i < 2147483648 := by omega
  have e6 : mgA t 6 (v_at (nI v) (nI i)) = nI (zE t v i) := by
    rw [at_nI hv, Ag_A (Ag_rfl t) (f := 6) (by decide) q31]
    exact re2
  have i6 : mIn 6 (v_at (nI v) (nI i)) := by rw [at_nI hv]; exact vp_nI (n := 96) (by omega) (by decide)
  have e13 : mgA t 13 (nI v) = t.2 13 v := Ag_A (Ag_rfl t) (by decide) (by omega)
  intro x1 hx1
  have hx1' : x1 = 1 := by rw [hx1]; exact if_pos hcan
  refine ⟨fun _ _ => i6, fun x2 hx2 x4 hx4 x5 hx5 => ?_⟩
  rw [e6] at hx2
  have hx2' : x2 = 1 := by rw [hx2, hx1']; exact if_pos ⟨one_ne, hz2, hz3⟩
  rw [hx1', if_neg one_ne] at hx4
  have hx5' : x5 = nI (aN (tk kd fo)) := by
    rw [hx5, hx4, ← k1]
    rfl
  rw [hx1', hx2', hx5', e6]
  refine ⟨fun y t6 => t6 = t ∧ ((y = 1 ∧ insFit t v i pi kd fo) ∨ (y = 0 ∧ ¬ insFit t v i pi kd fo)), ?_, fun t6 => t6 = t ∧ ¬ insFit t v i pi kd fo, fun t6 h6 => ⟨h6.1, Or.inr ⟨rfl, h6.2⟩⟩, fun _ => i6, ?_, ?_⟩
  · intro y t6 hy
    obtain ⟨ht6, hy⟩ := hy
    rw [ht6]
    rcases hy with ⟨hy, hfit⟩ | ⟨hy, hfit⟩
    · subst hy
      have he := hfit.1
      refine i_go0 one_ne one_ne one_ne ⟨fun h9 => absurd h9 one_ne, fun _ => ⟨i6, fun x10 hx10 => ?_⟩⟩
      have e10 : x10 = nI (zE t v i) := by
        rw [hx10, at_nI hv, Ag_A (ag45 t 0) (f := 6) (by decide) q31]
        exact re2
      subst e10
      refine lp_for (fun m z => z.1 = nI (zE t v i - m) ∧ z.2.1 = (msI t 45 0).1 ∧ (∀ f, f < 8 ∨ 12 < f → z.2.2 f = t.2 f) ∧ ∀ f r, 8 ≤ f → f ≤ 12 → z.2.2 f r = if zp v i (zE t v i - m) < r ∧ r ≤ zp v i (zE t v i) then t.2 f (r - 1) else t.2 f r) (zE t v i - j) ?_ ?_ 0 (Nat.zero_le _) (nI (zE t v i), msI t 45 0) ⟨rfl, rfl, fun _ _ => rfl, fun f r _ _ => (if_neg (by rw [Nat.sub_zero]; omega)).symm⟩
      · intro m hm K z hz hK
        obtain ⟨z1, u⟩ := z
        obtain ⟨hz1, u1, u2, u3⟩ := hz
        dsimp only at hz1 u1 u2 u3
        obtain ⟨k, hk9⟩ : ∃ k, k + 1 = zE t v i - m := ⟨zE t v i - m - 1, by omega⟩
        rw [← hk9] at hz1 u3
        subst hz1
        have hk16 : k + 1 ≤ 16 := by omega
        refine ⟨fun h9 => absurd h9 (nI_ge (a := j) (b := k + 1) (by omega) (by omega)), fun _ => ?_⟩
        dsimp only
        rw [nI_pred, pl_nI hv, pl_nI hv, pk_m1]
        have p1 := zp_lt (v := v) (i := i) (j := k) hv (by omega) (by omega)
        have p2 := zp_lt (v := v) (i := i) (j := k + 1) hv (by omega) (by omega)
        have src : ∀ f, 8 ≤ f → f ≤ 12 → u.2 f (zp v i k) = t.2 f (zp v i k) := fun f f1 f2 => by
          rw [u3 f _ f1 f2, if_neg (by unfold zp; omega)]
        refine mm_copies p1 p2 (by rw [src 12 (by decide) (by decide)]; exact (z_v w hi hv (j := k) (by omega)).2.2.2.2.2.2.2) (fun u' hu => hK _ ?_)
        obtain ⟨g1, g2, g3⟩ := hu
        refine ⟨by dsimp only; rw [show zE t v i - (m + 1) = k by omega], g1.trans u1, fun f hf => (g2 f hf).trans (u2 f hf), fun f r f1 f2 => ?_⟩
        dsimp only
        rw [g3 f r f1 f2, u3 f r f1 f2, src f f1 f2, show zE t v i - (m + 1) = k by omega]
        by_cases e : r = zp v i (k + 1)
        · rw [if_pos e, if_pos (by unfold zp at *; omega), show r - 1 = zp v i k by unfold zp at *; omega]
        · rw [if_neg e]
          by_cases e2 : zp v i (k + 1) < r ∧ r ≤ zp v i (zE t v i)
          · rw [if_pos e2, if_pos (by unfold zp at *; omega)]
          · rw [if_neg e2, if_neg (by unfold zp at *; omega)]
      · intro K z hz
        obtain ⟨z1, u⟩ := z
        obtain ⟨hz1, u1, u2, u3⟩ := hz
        dsimp only at hz1 u1 u2 u3
        rw [show zE t v i - (zE t v i - j) = j by omega] at hz1 u3
        subst hz1
        refine ⟨fun _ => ?_, fun h9 => absurd (nI_le (Nat.le_refl j) (by omega)) h9⟩
        dsimp only
        have hp := zp_lt (v := v) (i := i) (j := j) hv (by omega) (by omega)
        have hp31 : zp v i j < 2147483648 := by omega
        have ip : ∀ f, m_len f = 1536 → mIn f (nI (zp v i j)) := fun f e => by unfold mIn; rw [e]; exact vp_nI hp (by decide)
        refine mm_moves hnp (by rw [u1]; exact (mI_ne (by decide)).trans h14) (fun t11 hmv => ?_)
        obtain ⟨m1, m2, m3, m4⟩ := hmv
        intro x12 hx12
        rw [pl_nI hv] at hx12
        subst hx12
        refine ⟨ip 8 rfl, fun t14 ht14 => ⟨ip 9 rfl, fun t16 ht16 => ⟨ip 10 rfl, fun t18 ht18 => ⟨ip 11 rfl, fun t20 ht20 => ⟨ip 12 rfl, fun t22 ht22 => ⟨i6, i6, fun t25 ht25 => ?_⟩⟩⟩⟩⟩⟩
        have o6 : ∀ q, t22.2 6 q = t.2 6 q := fun q => by
          rw [ht22, mA_ne (by decide), ht20, mA_ne (by decide), ht18, mA_ne (by decide), ht16, mA_ne (by decide), ht14, mA_ne (by decide), m2 6 (by decide) (by decide), u2 6 (by decide)]
        have v6 : mgA t22 6 (v_at (nI v) (nI i)) = nI (zE t v i) := by
          rw [at_nI hv]
          unfold mgA
          rw [nI_clamp (by omega), o6]
          exact re2
        rw [v6, nI_1, at_nI hv] at ht25
        have hIns : Ins t t25 v i j np pi kd fo := by
          refine ⟨fun k hk => ?_, fun f f1 f2 f3 f4 => ?_, fun q => ?_, fun f r f1 f2 => ?_, fun k => ?_, fun k => ?_⟩
          · rw [ht25, ht22, ht20, ht18, ht16, ht14]
            show t11.1 k = t.1 k
            rw [m1, u1]
            exact mI_ne hk
          · rw [ht25, mA_ne f1, ht22, mA_ne (by omega), ht20, mA_ne (by omega), ht18, mA_ne (by omega), ht16, mA_ne (by omega), ht14, mA_ne (by omega), m2 f f3 f4, u2 f f2]
          · rw [ht25, mA_at q31, o6]
          · rw [ht25, mA_ne (by omega)]
            have base : t11.2 f r = if zp v i j < r ∧ r ≤ zp v i (zE t v i) then t.2 f (r - 1) else t.2 f r := by
              rw [m2 f (by omega) (by omega), u3 f r f1 f2]
            have hf5 : f = 8 ∨ f = 9 ∨ f = 10 ∨ f = 11 ∨ f = 12 := by omega
            by_cases er : r = zp v i j
            · rw [if_pos er]
              rcases hf5 with rfl | rfl | rfl | rfl | rfl
              · rw [ht22, mA_ne (by decide), ht20, mA_ne (by decide), ht18, mA_ne (by decide), ht16, mA_ne (by decide), ht14, mA_at hp31, if_pos er]
                rfl
              · rw [ht22, mA_ne (by decide), ht20, mA_ne (by decide), ht18, mA_ne (by decide), ht16, mA_at hp31, if_pos er]
                rfl
              · rw [ht22, mA_ne (by decide), ht20, mA_ne (by decide), ht18, mA_at hp31, if_pos er]
                rfl
              · rw [ht22, mA_ne (by decide), ht20, mA_at hp31, if_pos er]
                rfl
              · rw [ht22, mA_at hp31, if_pos er]
                rfl
            · rw [if_neg er, ← base]
              rcases hf5 with rfl | rfl | rfl | rfl | rfl
              · rw [ht22, mA_ne (by decide), ht20, mA_ne (by decide), ht18, mA_ne (by decide), ht16, mA_ne (by decide), ht14, mA_at hp31, if_neg er]
              · rw [ht22, mA_ne (by decide), ht20, mA_ne (by decide), ht18, mA_ne (by decide), ht16, mA_at hp31, if_neg er, ht14, mA_ne (by decide)]
              · rw [ht22, mA_ne (by decide), ht20, mA_ne (by decide), ht18, mA_at hp31, if_neg er, ht16, mA_ne (by decide), ht14, mA_ne (by decide)]
              · rw [ht22, mA_ne (by decide), ht20, mA_at hp31, if_neg er, ht18, mA_ne (by decide), ht16, mA_ne (by decide), ht14, mA_ne (by decide)]
              · rw [ht22, mA_at hp31, if_neg er, ht20, mA_ne (by decide), ht18, mA_ne (by decide), ht16, mA_ne (by decide), ht14, mA_ne (by decide)]
          · rw [ht25, mA_ne (by decide), ht22, mA_ne (by decide), ht20, mA_ne (by decide), ht18, mA_ne (by decide), ht16, mA_ne (by decide), ht14, mA_ne (by decide), m3, u2 15 (by decide), u2 16 (by decide), u2 17 (by decide)]
          · rw [ht25, mA_ne (by decide), ht22, mA_ne (by decide), ht20, mA_ne (by decide), ht18, mA_ne (by decide), ht16, mA_ne (by decide), ht14, mA_ne (by decide), m4, u2 15 (by decide), u2 18 (by decide), u2 19 (by decide)]
        obtain ⟨w', e1', e2'⟩ := in_M w hIns hv hi he hj hk hf ek ef ep hx hfit.2.1
        have hi' : i < zN t25 := by rw [in_n hIns]; exact hi
        obtain ⟨l1, l2⟩ := mm_len w' (Ag_rfl t25) hi'
        refine ⟨l1, mm_all w' (Ag_rfl t25) hi' hv ?_⟩
        rw [l2, e1', e2', (in_l hIns).1, pk_sub hfit.2.1]
        refine h0 hfit t25 hIns ?_
        have : t25.1 45 = 0 := by
          rw [ht25, ht22, ht20, ht18, ht16, ht14]
          show t11.1 45 = 0
          rw [m1, u1]
          exact mI_at
        exact this
    · subst hy
      refine i_go3 one_ne one_ne rfl ⟨fun _ => h3 hfit, fun h9 => absurd rfl h9⟩
  · intro h16
    refine ⟨rfl, fun hfit => ?_⟩
    rcases h16 with h16 | h16
    · exact one_ne h16
    · exact absurd ((nI_leI (a := 16) (by decide) (by omega)).mp h16) (by have := hfit.1; omega)
  · intro h16
    have he : zE t v i < 16 := Classical.byContradiction fun z => h16 (Or.inr (nI_le (a := 16) (by omega) (by omega)))
    obtain ⟨l1, l2⟩ := mm_len w (Ag_rfl t) hi
    refine mm_all w (Ag_rfl t) hi hv ⟨l1, fun _ => vp_nI (n := 4) hv (by decide), ?_, ?_⟩
    · rw [l2, nI_add, e13]
      intro hb
      refine ⟨rfl, fun hfit => ?_⟩
      rcases hb with hb | hb
      · have := (nI_ltI (by omega) (by omega)).mp hb
        have := hfit.2.1
        omega
      · exact hfit.2.2 hb
    · rw [l2, nI_add, e13]
      intro hb
      refine ⟨rfl, Or.inl ⟨rfl, he, ?_, fun z => hb (Or.inr z)⟩⟩
      refine Classical.byContradiction fun z => hb (Or.inl (nI_lt (by omega) (by omega)))
theorem mm_insert0 {a1 a2 a3 : Int32} {Q : Int32 → MS → Prop} (hd : ¬ v_isVoice a1 = 0 → ¬ v_isBar a2 t = 0 → mIn 6 (v_at a1 a2)) (h1 : ¬ ((¬ ((v_isVoice a1) = 0)) ∧ ((¬ ((v_in pi 0 127) = 0)) ∧ ((¬ ((v_in kd 0 5) = 0)) ∧ ((¬ ((v_in fo 0 2) = 0)) ∧ ((¬ (kd = 5)) ∨ (¬ (fo = 1))))))) → Q 0 (msI t 45 1)) (h2 : ((¬ ((v_isVoice a1) = 0)) ∧ ((¬ ((v_in pi 0 127) = 0)) ∧ ((¬ ((v_in kd 0 5) = 0)) ∧ ((¬ ((v_in fo 0 2) = 0)) ∧ ((¬ (kd = 5)) ∨ (¬ (fo = 1))))))) → Q 0 (msI t 45 2)) (hno : ¬ ((¬ ((v_isVoice a1) = 0)) ∧ ((¬ ((v_in pi 0 127) = 0)) ∧ ((¬ ((v_in kd 0 5) = 0)) ∧ ((¬ ((v_in fo 0 2) = 0)) ∧ ((¬ (kd = 5)) ∨ (¬ (fo = 1))))))) ∨ (v_isBar a2 t = 0 ∨ v_in a3 0 (mgA t 6 (v_at a1 a2)) = 0)) : w_insert a1 a2 a3 pi kd fo t Q := by
  intro x1 hx1
  refine ⟨fun g1 g2 => hd (fun z => g1 (by rw [hx1, if_neg (fun z9 => z9.1 z)])) g2, fun x2 hx2 x4 hx4 x5 hx5 => ?_⟩
  have e2 : x2 = 0 := by
    rw [hx2, if_neg]
    rintro ⟨g1, g2, g3⟩
    rcases hno with hno | hno | hno
    · exact g1 (by rw [hx1, if_neg hno])
    · exact g2 hno
    · exact g3 hno
  refine ⟨fun y t6 => t6 = t, fun y t6 hy => ?_, fun t6 => t6 = t, fun t6 h6 => h6, fun h9 => absurd e2 h9, fun _ => rfl, fun h9 => absurd (Or.inl e2) h9⟩
  rw [hy]
  by_cases hc : (¬ ((v_isVoice a1) = 0)) ∧ ((¬ ((v_in pi 0 127) = 0)) ∧ ((¬ ((v_in kd 0 5) = 0)) ∧ ((¬ ((v_in fo 0 2) = 0)) ∧ ((¬ (kd = 5)) ∨ (¬ (fo = 1))))))
  · have e1 : ¬ x1 = 0 := by rw [hx1, if_pos hc]; exact one_ne
    exact i_go2 e1 e2 ⟨fun _ => h2 hc, fun h9 => absurd rfl h9⟩
  · have e1 : x1 = 0 := by rw [hx1, if_neg hc]
    exact i_go1 e1 ⟨fun _ => h1 hc, fun h9 => absurd rfl h9⟩
end IN
