/-! remove, in the model -/
def rmG (t : MS) (k : Nat) (v i j : Int32) : Prop := (¬ t.2 20 k = 0) ∨ (t.2 15 k = v ∧ ((t.2 16 k = i ∧ t.2 17 k = j) ∨ (t.2 18 k = i ∧ t.2 19 k = j)))
def Rem (t t' : MS) (v i j np : Nat) : Prop := (∀ k, k ≠ 45 → t'.1 k = t.1 k) ∧ (∀ f, f ≠ 6 → (f < 8 ∨ 12 < f) → f ≠ 17 → f ≠ 19 → f ≠ 20 → t'.2 f = t.2 f) ∧ (∀ q, t'.2 6 q = if q = 24 * v + i then nI (zE t v i - 1) else t.2 6 q) ∧ (∀ f r, 8 ≤ f → f ≤ 12 → t'.2 f r = if zp v i j ≤ r ∧ r < zp v i (zE t v i - 1) then t.2 f (r + 1) else t.2 f r) ∧ (∀ k, t'.2 17 k = if k < np then t.2 17 k + mvD (t.2 15 k) (t.2 16 k) (t.2 17 k) (nI v) (nI i) (nI (j + 1)) (-1) else t.2 17 k) ∧ (∀ k, t'.2 19 k = if k < np then t.2 19 k + mvD (t.2 15 k) (t.2 18 k) (t.2 19 k) (nI v) (nI i) (nI (j + 1)) (-1) else t.2 19 k) ∧ ∀ k, (k < np → (rmG t k (nI v) (nI i) (nI j) → t'.2 20 k = 1) ∧ (¬ rmG t k (nI v) (nI i) (nI j) → t'.2 20 k = 0)) ∧ (np ≤ k → t'.2 20 k = t.2 20 k)
section RE
variable {t t' : MS} {v i j np : Nat}
theorem re_n (h : Rem t t' v i j np) : zN t' = zN t := by unfold zN; rw [h.1 0 (by decide)]
theorem re_e (h : Rem t t' v i j np) {v2 i2 : Nat} : zE t' v2 i2 = if 24 * v2 + i2 = 24 * v + i then aN (nI (zE t v i - 1)) else zE t v2 i2 := by
  show aN (t'.2 6 (24 * v2 + i2)) = _
  rw [h.2.2.1]
  by_cases e : 24 * v2 + i2 = 24 * v + i
  · rw [if_pos e, if_pos e]
  · rw [if_neg e, if_neg e]
    rfl
theorem re_r (h : Rem t t' v i j np) (he : zE t v i ≤ 16) {v2 i2 j2 f : Nat} (hne : ¬ 24 * v2 + i2 = 24 * v + i) (hj : j < zE t v i) (hj2 : j2 < 16) (f1 : 8 ≤ f) (f2 : f ≤ 12) : t'.2 f (zp v2 i2 j2) = t.2 f (zp v2 i2 j2) := by
  rw [h.2.2.2.1 f _ f1 f2, if_neg (by unfold zp; omega)]
theorem re_s (h : Rem t t' v i j np) {j2 f : Nat} (hj : j < zE t v i) (hj2 : j2 < zE t v i - 1) (f1 : 8 ≤ f) (f2 : f ≤ 12) : t'.2 f (zp v i j2) = if j2 < j then t.2 f (zp v i j2) else t.2 f (zp v i (j2 + 1)) := by
  rw [h.2.2.2.1 f _ f1 f2]
  by_cases e : j2 < j
  · rw [if_neg (by unfold zp; omega), if_pos e]
  · rw [if_pos (by unfold zp; omega), if_neg e, show zp v i j2 + 1 = zp v i (j2 + 1) by unfold zp; omega]
theorem re_k (h : Rem t t' v i j np) (hj : j < zE t v i) {k : Nat} (hk : k < zE t v i - 1) : zK t' v i k = if k < j then zK t v i k else zK t v i (k + 1) := by
  show aN (tk (t'.2 9 (zp v i k)) (t'.2 10 (zp v i k))) = _
  rw [re_s h hj hk (by decide) (by decide), re_s h hj hk (by decide) (by decide)]
  by_cases e : k < j
  · rw [if_pos e, if_pos e, if_pos e]
    rfl
  · rw [if_neg e, if_neg e, if_neg e]
    rfl
theorem re_l (h : Rem t t' v i j np) : zL t' = zL t ∧ zB t' = zB t ∧ zU t' = zU t := by
  have e1 : t'.2 1 = t.2 1 := h.2.1 1 (by decide) (by decide) (by decide) (by decide) (by decide)
  have e2 : t'.2 2 = t.2 2 := h.2.1 2 (by decide) (by decide) (by decide) (by decide) (by decide)
  refine ⟨?_, ?_, ?_⟩
  · funext i
    unfold zL zB zU
    rw [e1, e2]
  · funext i
    unfold zB
    rw [e1]
  · funext i
    unfold zU
    rw [e2]
/-- the sum of the ticks, when one is taken away -/
theorem zS_rem {v i j n : Nat} {A A' : MS} (hj : j ≤ n) (h : ∀ k, k < n → zK A' v i k = if k < j then zK A v i k else zK A v i (k + 1)) : zS A' v i n + zK A v i j = zS A v i (n + 1) := by
  have h1 : ∀ k, k ≤ j → zS A' v i k = zS A v i k := by
    intro k
    induction k with
    | zero => intro _; rfl
    | succ k ih =>
      intro hk
      show zS A' v i k + zK A' v i k = zS A v i k + zK A v i k
      rw [ih (by omega), h k (by omega), if_pos (by omega)]
  have h2 : ∀ d, j + d ≤ n → zS A' v i (j + d) + zK A v i j = zS A v i (j + d + 1) := by
    intro d
    induction d with
    | zero =>
      intro _
      show zS A' v i j + zK A v i j = zS A v i j + zK A v i j
      rw [h1 j (Nat.le_refl _)]
    | succ d ih =>
      intro hd
      show zS A' v i (j + d) + zK A' v i (j + d) + zK A v i j = zS A v i (j + d + 1) + zK A v i (j + d + 1)
      rw [← ih (by omega), h (j + d) (by omega), if_neg (by omega)]
      omega
  have := h2 (n - j) (by omega)
  rw [show j + (n - j) = n by omega] at this
  exact this
theorem re_M (w : zM t) (h : Rem t t' v i j np) (hv : v < 4) (hi : i < zN t) (hj : j < zE t v i) : zM t' ∧ zE t' v i = zE t v i - 1 ∧ zS t' v i (zE t v i - 1) + zK t v i j = zS t v i (zE t v i) := by
  have hn24 := w.2.1
  have he := (z_r w hi hv).1
  have e1 : zE t' v i = zE t v i - 1 := by rw [re_e h, if_pos rfl, aN_nI (by omega)]
  have e2 : zS t' v i (zE t v i - 1) + zK t v i j = zS t v i (zE t v i - 1 + 1) := zS_rem (by omega) (fun k hk => re_k h hj hk)
  rw [show zE t v i - 1 + 1 = zE t v i by omega] at e2
  have hsL := z_sL w hi hv (Nat.le_refl (zE t v i))
  refine ⟨?_, e1, e2⟩
  refine ⟨by rw [re_n h, h.1 0 (by decide)]; exact w.1, by rw [re_n h]; exact hn24, fun i2 hi2 => ?_⟩
  rw [re_n h] at hi2
  obtain ⟨c1, c2, c3, c4⟩ := z_b w hi2
  refine ⟨?_, ?_, ?_, fun v2 hv2 => ?_⟩
  · rw [(re_l h).2.1, h.2.1 1 (by decide) (by decide) (by decide) (by decide) (by decide)]
    exact c1
  · rw [(re_l h).2.2, h.2.1 2 (by decide) (by decide) (by decide) (by decide) (by decide)]
    exact c2
  · rw [h.2.1 3 (by decide) (by decide) (by decide) (by decide) (by decide)]
    exact c3
  obtain ⟨d1, d2, d3, d4, d5⟩ := c4 v2 hv2
  by_cases e9 : 24 * v2 + i2 = 24 * v + i
  · have ev : v2 = v := by omega
    have ei : i2 = i := by omega
    subst ev
    subst ei
    refine ⟨by omega, by rw [e1, h.2.2.1, if_pos rfl], by rw [h.2.1 7 (by decide) (by decide) (by decide) (by decide) (by decide)]; exact d3, by rw [e1, (re_l h).1]; omega, fun k hk2 => ?_⟩
    rw [e1] at hk2
    unfold zMe zKp
    rw [re_s h hj hk2 (f := 8) (by decide) (by decide), re_s h hj hk2 (f := 9) (by decide) (by decide), re_s h hj hk2 (f := 10) (by decide) (by decide), re_s h hj hk2 (f := 12) (by decide) (by decide)]
    by_cases e8 : k < j
    · rw [if_pos e8, if_pos e8, if_pos e8, if_pos e8]
      exact d5 k (by omega)
    · rw [if_neg e8, if_neg e8, if_neg e8, if_neg e8]
      exact d5 (k + 1) (by omega)
  · have e3 : zE t' v2 i2 = zE t v2 i2 := by rw [re_e h, if_neg e9]
    have es : zS t' v2 i2 (zE t v2 i2) = zS t v2 i2 (zE t v2 i2) := zS_same (fun k hk => by
      show aN (tk (t'.2 9 (zp v2 i2 k)) (t'.2 10 (zp v2 i2 k))) = _
      rw [re_r h he e9 hj (by omega) (by decide) (by decide), re_r h he e9 hj (by omega) (by decide) (by decide)]
      rfl)
    refine ⟨by rw [e3]; exact d1, by rw [e3, h.2.2.1, if_neg e9]; exact d2, by rw [h.2.1 7 (by decide) (by decide) (by decide) (by decide) (by decide)]; exact d3, by rw [e3, es, (re_l h).1]; exact d4, fun k hk2 => ?_⟩
    rw [e3] at hk2
    have g := d5 k hk2
    unfold zMe zKp at g ⊢
    rw [re_r h he e9 hj (j2 := k) (f := 8) (by omega) (by decide) (by decide), re_r h he e9 hj (j2 := k) (f := 9) (by omega) (by decide) (by decide), re_r h he e9 hj (j2 := k) (f := 10) (by omega) (by decide) (by decide), re_r h he e9 hj (j2 := k) (f := 12) (by omega) (by decide) (by decide)]
    exact g
theorem mm_remove (w : zM t) (hnp : np ≤ 20) (h14 : t.1 14 = nI np) (hgb : ∀ k, k < np → gb (t.2 20 k)) (hv : v < 4) (hi : i < zN t) (hj : j < zE t v i) (hz : ¬ v_isVoice (nI v) = 0) (hd : d_isEvent (nI v) (nI i) (nI j) t) (hz2 : ¬ v_isEvent (nI v) (nI i) (nI j) t = 0) {Q : Int32 → MS → Prop} (h0 : ∀ t', Rem t t' v i j np → v_thrown t' = 0 → Q (nI (zK t v i j)) t') : w_remove (nI v) (nI i) (nI j) t Q := by
  have hn24 := w.2.1
  have re := (z_r w hi hv).1
  have hp := zp_lt (v := v) (i := i) (j := j) hv (by omega) (by omega)
  have q31 : 24 * v + i < 2147483648 := by omega
  intro x1 hx1
  subst hx1
  refine ⟨fun _ => hd, fun x2 hx2 => ?_⟩
  have hx2' : ¬ x2 = 0 := by rw [hx2, if_pos ⟨hz, hz2⟩]; exact one_ne
  refine i_go0 hz hx2' one_ne ⟨fun h9 => absurd h9 one_ne, fun _ => ?_⟩
  rw [pl_nI hv]
  obtain ⟨d1, d2⟩ := mm_ticksOf (ag45 t 0) hp
  refine ⟨d1, fun x6 hx6 => ?_⟩
  rw [d2, (z_k w hi hv hj).1] at hx6
  subst hx6
  refine lp_for (fun k z => z.1 = nI k ∧ z.2.1 = (msI t 45 0).1 ∧ (∀ f, f ≠ 20 → z.2.2 f = t.2 f) ∧ (∀ q, (q < k → (rmG t q (nI v) (nI i) (nI j) → z.2.2 20 q = 1) ∧ (¬ rmG t q (nI v) (nI i) (nI j) → z.2.2 20 q = 0)) ∧ (k ≤ q → z.2.2 20 q = t.2 20 q))) np ?_ ?_ 0 (Nat.zero_le _) (0, msI t 45 0) ⟨rfl, rfl, fun _ _ => rfl, fun q => ⟨fun z => absurd z (Nat.not_lt_zero _), fun _ => rfl⟩⟩
  · intro k hk K z hzz hK
    obtain ⟨z1, u⟩ := z
    obtain ⟨hz1, u1, u2, u3⟩ := hzz
    dsimp only at hz1 u1 u2 u3
    subst hz1
    have k31 : k < 2147483648 := by omega
    have e14 : mgI u 14 = nI np := by
      show u.1 14 = _
      rw [u1]
      exact (mI_ne (by decide)).trans h14
    have hin : ∀ f, m_len f = 20 → mIn f (nI k) := fun f e => by unfold mIn; rw [e]; exact vp_nI (by omega) (by decide)
    have ec : (nI k).toNatClampNeg = k := nI_clamp (by omega)
    have rr : ∀ f, f ≠ 20 → mgA u f (nI k) = t.2 f k := fun f hf => by unfold mgA; rw [ec, u2 f hf]
    have r20 : mgA u 20 (nI k) = t.2 20 k := by unfold mgA; rw [ec]; exact (u3 k).2 (Nat.le_refl _)
    unfold w_remove_L53
    dsimp only
    rw [e14, rr 15 (by decide), rr 16 (by decide), rr 17 (by decide), rr 18 (by decide), rr 19 (by decide), r20]
    refine ⟨fun h9 => absurd h9 (nI_ge hk (by omega)), fun _ => ⟨hin 16 rfl, fun _ => hin 17 rfl, fun _ _ => hin 18 rfl, fun _ _ _ => hin 19 rfl, fun _ => hin 18 rfl, fun _ _ => hin 19 rfl, fun x14 hx14 => ⟨hin 20 rfl, fun _ => hin 15 rfl, fun x21 hx21 => ⟨hin 20 rfl, ?_, fun t25 ht25 => ?_⟩⟩⟩⟩
    · rw [hx21]
      exact gb_if
    · have e14' : ¬ x14 = 0 ↔ ((t.2 16 k = nI i ∧ t.2 17 k = nI j) ∨ (t.2 18 k = nI i ∧ t.2 19 k = nI j)) := by
        by_cases c : (((t.2 16 k) = nI i) ∧ (((t.2 17 k) = nI j) ∨ (((t.2 18 k) = nI i) ∧ ((t.2 19 k) = nI j)))) ∨ ((¬ ((t.2 16 k) = nI i)) ∧ (((t.2 18 k) = nI i) ∧ ((t.2 19 k) = nI j)))
        · rw [if_pos c] at hx14
          refine ⟨fun _ => ?_, fun _ => by rw [hx14]; exact one_ne⟩
          rcases c with ⟨c1, c2 | c2⟩ | ⟨c1, c2⟩
          · exact Or.inl ⟨c1, c2⟩
          · exact Or.inr c2
          · exact Or.inr c2
        · rw [if_neg c] at hx14
          refine ⟨fun z => absurd hx14 z, fun z => absurd ?_ c⟩
          rcases z with ⟨c1, c2⟩ | c2
          · exact Or.inl ⟨c1, Or.inl c2⟩
          · by_cases c1 : t.2 16 k = nI i
            · exact Or.inl ⟨c1, Or.inr c2⟩
            · exact Or.inr ⟨c1, c2⟩
      rw [nI_1]
      refine hK _ ⟨rfl, ?_, fun f f1 => ?_, fun q => ⟨fun hq => ?_, fun hq => ?_⟩⟩
      · rw [ht25]
        exact u1
      · dsimp only
        rw [ht25, mA_ne f1]
        exact u2 f f1
      · dsimp only
        rw [ht25, mA_at k31]
        by_cases e : q = k
        · rw [if_pos e, e, hx21]
          refine ⟨fun z => if_pos ?_, fun z => if_neg (fun z9 => z ?_)⟩
          · rcases z with z | z
            · exact Or.inl z
            · exact Or.inr ⟨z.1, e14'.mpr z.2⟩
          · rcases z9 with z9 | z9
            · exact Or.inl z9
            · exact Or.inr ⟨z9.1, e14'.mp z9.2⟩
        · rw [if_neg e]
          exact (u3 q).1 (by omega)
      · dsimp only
        rw [ht25, mA_at k31, if_neg (by omega)]
        exact (u3 q).2 (by omega)
  · intro K z hzz
    obtain ⟨z1, u⟩ := z
    obtain ⟨hz1, u1, u2, u3⟩ := hzz
    dsimp only at hz1 u1 u2 u3
    subst hz1
    have e14 : mgI u 14 = nI np := by
      show u.1 14 = _
      rw [u1]
      exact (mI_ne (by decide)).trans h14
    unfold w_remove_L53
    dsimp only
    rw [e14, nI_1]
    refine ⟨fun _ => ?_, fun h9 => absurd (nI_le (Nat.le_refl np) (by omega)) h9⟩
    refine mm_moves hnp e14 (fun t7 hmv => ?_)
    obtain ⟨m1, m2, m3, m4⟩ := hmv
    have i6 : mIn 6 (v_at (nI v) (nI i)) := by rw [at_nI hv]; exact vp_nI (n := 96) (by omega) (by decide)
    have v6 : mgA t7 6 (v_at (nI v) (nI i)) = nI (zE t v i) := by
      rw [at_nI hv]
      unfold mgA
      rw [nI_clamp (by omega), m2 6 (by decide) (by decide), u2 6 (by decide)]
      exact (z_r w hi hv).2.1
    rw [v6]
    refine ⟨i6, i6, fun t10 ht10 => ?_⟩
    have e1 : nI (zE t v i) - 1 = nI (zE t v i - 1) := by
      obtain ⟨c, hc⟩ : ∃ c, zE t v i = c + 1 := ⟨zE t v i - 1, by omega⟩
      rw [hc, nI_pred]
      rfl
    rw [e1, at_nI hv] at ht10
    have a6 : ∀ q, t10.2 6 q = if q = 24 * v + i then nI (zE t v i - 1) else t.2 6 q := fun q => by
      rw [ht10, mA_at q31, m2 6 (by decide) (by decide), u2 6 (by decide)]
    refine lp_for (fun m z => z.1 = nI (j + m) ∧ z.2.1 = t10.1 ∧ (∀ f, f < 8 ∨ 12 < f → z.2.2 f = t10.2 f) ∧ ∀ f r, 8 ≤ f → f ≤ 12 → z.2.2 f r = if zp v i j ≤ r ∧ r < zp v i (j + m) then t10.2 f (r + 1) else t10.2 f r) (zE t v i - 1 - j) ?_ ?_ 0 (Nat.zero_le _) (nI j, t10) ⟨rfl, rfl, fun _ _ => rfl, fun f r _ _ => (if_neg (by rw [Nat.add_zero]; omega)).symm⟩
    · intro m hm K2 z hz9 hK2
      obtain ⟨z1, y⟩ := z
      obtain ⟨hz1, y1, y2, y3⟩ := hz9
      dsimp only at hz1 y1 y2 y3
      subst hz1
      have w6 : mgA y 6 (v_at (nI v) (nI i)) = nI (zE t v i - 1) := by
        rw [at_nI hv]
        unfold mgA
        rw [nI_clamp (by omega), y2 6 (by decide), a6, if_pos rfl]
      refine ⟨i6, fun h9 => ?_, fun _ => ?_⟩
      · rw [w6] at h9
        exact absurd h9 (nI_ge (by omega) (by omega))
      dsimp only
      rw [nI_1, pl_nI hv, pl_nI hv]
      have p1 := zp_lt (v := v) (i := i) (j := j + m) hv (by omega) (by omega)
      have p2 := zp_lt (v := v) (i := i) (j := j + m + 1) hv (by omega) (by omega)
      have src : ∀ f, 8 ≤ f → f ≤ 12 → y.2 f (zp v i (j + m + 1)) = t10.2 f (zp v i (j + m + 1)) := fun f f1 f2 => by
        rw [y3 f _ f1 f2, if_neg (by unfold zp; omega)]
      have t10f : ∀ f, 8 ≤ f → f ≤ 12 → t10.2 f = t.2 f := fun f f1 f2 => by
        rw [ht10, mA_ne (by omega), m2 f (by omega) (by omega), u2 f (by omega)]
      refine mm_copies p2 p1 (by rw [src 12 (by decide) (by decide), t10f 12 (by decide) (by decide)]; exact (z_v w hi hv (j := j + m + 1) (by omega)).2.2.2.2.2.2.2) (fun u' hu => hK2 _ ?_)
      obtain ⟨g1, g2, g3⟩ := hu
      refine ⟨rfl, g1.trans y1, fun f hf => (g2 f hf).trans (y2 f hf), fun f r f1 f2 => ?_⟩
      dsimp only
      rw [g3 f r f1 f2, y3 f r f1 f2, src f f1 f2]
      by_cases e : r = zp v i (j + m)
      · rw [if_pos e, if_pos (by unfold zp at *; omega), show r + 1 = zp v i (j + m + 1) by unfold zp at *; omega]
      · rw [if_neg e]
        by_cases e2 : zp v i j ≤ r ∧ r < zp v i (j + m)
        · rw [if_pos e2, if_pos (by unfold zp at *; omega)]
        · rw [if_neg e2, if_neg (by unfold zp at *; omega)]
    · intro K2 z hz9
      obtain ⟨z1, y⟩ := z
      obtain ⟨hz1, y1, y2, y3⟩ := hz9
      dsimp only at hz1 y1 y2 y3
      rw [show j + (zE t v i - 1 - j) = zE t v i - 1 by omega] at hz1 y3
      subst hz1
      have w6 : mgA y 6 (v_at (nI v) (nI i)) = nI (zE t v i - 1) := by
        rw [at_nI hv]
        unfold mgA
        rw [nI_clamp (by omega), y2 6 (by decide), a6, if_pos rfl]
      have t10f : ∀ f, f ≠ 6 → t10.2 f = t7.2 f := fun f f1 => by rw [ht10, mA_ne f1]
      refine ⟨i6, fun _ => h0 y ?_ ?_, fun h9 => absurd ?_ h9⟩
      · refine ⟨fun k hk => ?_, fun f f1 f2 f3 f4 f5 => ?_, fun q => ?_, fun f r f1 f2 => ?_, fun k => ?_, fun k => ?_, fun k => ?_⟩
        · rw [y1, ht10]
          show t7.1 k = _
          rw [m1, u1]
          exact mI_ne hk
        · rw [y2 f f2, t10f f f1, m2 f f3 f4, u2 f f5]
        · rw [y2 6 (by decide), a6]
        · rw [y3 f r f1 f2, t10f f (by omega), m2 f (by omega) (by omega), u2 f (by omega)]
        · rw [y2 17 (by decide), t10f 17 (by decide), m3, u2 15 (by decide), u2 16 (by decide), u2 17 (by decide)]
        · rw [y2 19 (by decide), t10f 19 (by decide), m4, u2 15 (by decide), u2 18 (by decide), u2 19 (by decide)]
        · rw [y2 20 (by decide), t10f 20 (by decide), m2 20 (by decide) (by decide)]
          exact u3 k
      · show y.1 45 = 0
        rw [y1, ht10]
        show t7.1 45 = 0
        rw [m1, u1]
        exact mI_at
      · rw [w6]
        exact nI_le (Nat.le_refl _) (by omega)
end RE
