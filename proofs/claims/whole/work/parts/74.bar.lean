/-! addBar -/
section AB
variable {S S' : CS} {t t' : MS} {o so po m : Nat}
/-- the model behind a new bar -/
def Abr (t t' : MS) (c u : Int32) : Prop := (∀ k, k ≠ 45 → k ≠ 0 → t'.1 k = t.1 k) ∧ t'.1 0 = nI (zN t + 1) ∧ (∀ f, f ≠ 1 → f ≠ 2 → f ≠ 3 → f ≠ 4 → t'.2 f = t.2 f) ∧ (∀ q, t'.2 1 q = if q = zN t then c else t.2 1 q) ∧ (∀ q, t'.2 2 q = if q = zN t then u else t.2 2 q) ∧ (∀ q, t'.2 3 q = if q = zN t then -1 else t.2 3 q) ∧ ∀ q, t'.2 4 q = if q = zN t then -1 else t.2 4 q
theorem mm_addBar (w : zM t) {a1 a2 : Int32} {Q : Int32 → MS → Prop} (h1 : v_isMetre a1 a2 = 0 → Q 0 (msI t 45 1)) (h2 : ¬ v_isMetre a1 a2 = 0 → 24 ≤ zN t → Q 0 (msI t 45 2)) (h0 : ¬ v_isMetre a1 a2 = 0 → zN t < 24 → ∀ t', Abr t t' a1 a2 → v_thrown t' = 0 → Q (nI (zN t)) t') : w_addBar a1 a2 t Q := by
  have hn := w.2.1
  have e0 : mgI t 0 = nI (zN t) := w.1
  intro x1 hx1
  rw [e0] at hx1
  by_cases hm : v_isMetre a1 a2 = 0
  · exact i_go1 hm ⟨fun _ => h1 hm, fun h9 => absurd rfl h9⟩
  · by_cases h24 : 24 ≤ zN t
    · refine i_go2 hm ?_ ⟨fun _ => h2 hm h24, fun h9 => absurd rfl h9⟩
      rw [hx1, if_neg (fun z => z (nI_le (a := 24) h24 (by omega)))]
    · have hx1' : ¬ x1 = 0 := by
        have c9 : ¬ (24 : Int32) ≤ nI (zN t) := fun z => h24 ((nI_leI (a := 24) (by decide) (by omega)).mp z)
        rw [hx1, if_pos c9]
        exact one_ne
      have h31 : zN t < 2147483648 := by omega
      have f0 : mgI (msI t 45 0) 0 = nI (zN t) := (mI_ne (t := t) (f := 45) (v := 0) (k := 0) (by decide)).trans w.1
      have i24 : ∀ f, m_len f = 24 → mIn f (nI (zN t)) := fun f e => by unfold mIn; rw [e]; exact vp_nI (by omega) (by decide)
      refine i_go0 hm hx1' one_ne ⟨fun h9 => absurd h9 one_ne, fun _ => ?_⟩
      rw [f0]
      refine ⟨i24 1 rfl, fun t4 h4 => ?_⟩
      have f4 : mgI t4 0 = nI (zN t) := by rw [h4]; exact f0
      rw [f4]
      refine ⟨i24 2 rfl, fun t6 h6 => ?_⟩
      have f6 : mgI t6 0 = nI (zN t) := by rw [h6]; exact f4
      rw [f6]
      refine ⟨i24 3 rfl, fun t8 h8 => ?_⟩
      have f8 : mgI t8 0 = nI (zN t) := by rw [h8]; exact f6
      rw [f8]
      refine ⟨i24 4 rfl, fun t10 h10 t11 h11 => ?_⟩
      have f10 : mgI t10 0 = nI (zN t) := by rw [h10]; exact f8
      rw [f10, nI_1] at h11
      have f11 : mgI t11 0 = nI (zN t + 1) := by rw [h11]; exact mI_at
      rw [f11, nI_pred]
      have r11 : t11.2 = t10.2 := by rw [h11]; rfl
      refine h0 hm (by omega) t11 ⟨fun k k1 k2 => ?_, f11, fun f f1 f2 f3 f4 => ?_, fun q => ?_, fun q => ?_, fun q => ?_, fun q => ?_⟩ ?_
      · rw [h11, mI_ne k2, h10, h8, h6, h4]
        exact mI_ne k1
      · rw [r11, h10, mA_ne f4, h8, mA_ne f3, h6, mA_ne f2, h4, mA_ne f1]
        rfl
      · rw [r11, h10, mA_ne (by decide), h8, mA_ne (by decide), h6, mA_ne (by decide), h4, mA_at h31]
        rfl
      · rw [r11, h10, mA_ne (by decide), h8, mA_ne (by decide), h6, mA_at h31, h4, mA_ne (by decide)]
        rfl
      · rw [r11, h10, mA_ne (by decide), h8, mA_at h31, h6, mA_ne (by decide), h4, mA_ne (by decide)]
        rfl
      · rw [r11, h10, mA_at h31, h8, mA_ne (by decide), h6, mA_ne (by decide), h4, mA_ne (by decide)]
        rfl
      · show t11.1 45 = 0
        rw [h11, mI_ne (by decide), h10, h8, h6, h4]
        exact thr_same t 0
/-- a measure as it is made -/
def newM (S u : CS) (m k : Nat) (a1 a2 : Int32) : Prop := Eqf (fun _ => True) S u ∧ kdC S m = 0 ∧ kdC u m = 5 ∧ fI u 80 m = a1 ∧ fI u 81 m = a2 ∧ fI u 82 m = -1 ∧ szC u = szC S + 2 + 2 * k ∧ nsC u = nsC S + 8 + 6 * k ∧ (∀ v, v < k → ∃ r, fQ u 83 m v = some r ∧ kdC u r = 11 ∧ kdC S r = 0 ∧ fL u 176 r = [] ∧ fC u 176 r = 0 ∧ fI u 177 r = 0 ∧ fI u 178 r = 0) ∧ ∀ v v2, v < k → v2 < k → fQ u 83 m v = fQ u 83 m v2 → v = v2
theorem cc_newM {B : Nat × Nat} {a1 a2 : Int32} {Q : CS → Prop} {X : String → CS → Prop} (h0 : kdC S (szC S) = 0) (hr : szC S + 10 ≤ B.1 ∧ nsC S + 32 ≤ B.2) (h : ∀ u, newM S u (szC S) 4 a1 a2 → Q u) : w_X2_init B (szC S) a1 a2 (newO S 5) Q X := by
  obtain ⟨hr1, hr2⟩ := hr
  obtain ⟨m, hmz⟩ : ∃ m, m = szC S := ⟨_, rfl⟩
  rw [← hmz] at h ⊢
  have h0m : kdC S m = 0 := by rw [hmz]; exact h0
  have c1 : cNE 5 = 1 ∧ cNE 11 = 1 ∧ cNF 5 = 4 ∧ cNF 11 = 3 ∧ cEI 83 = 0 ∧ cEI 176 = 0 ∧ cOF 83 = 1 ∧ cOF 176 = 1 ∧ cLN 83 = 4 := by decide +kernel
  obtain ⟨c1, c2, c3, c4, c5, c6, c7, c8, c9⟩ := c1
  have k105 : kdC (newO S 5) m = 105 := by
    rw [s_newO_kdC, hmz, va_up_at, if_pos rfl, c1]
    rfl
  have v5 : attV 105 5 = 5 := by decide
  have v11 : attV 111 11 = 11 := by decide
  have s5 : szC (newO S 5) = m + 1 := by rw [s_newO_szC, hmz]
  have n5 : nsC (newO S 5) = nsC S + 4 := by rw [s_newO_nsC, c3]
  refine ⟨by show kdC (newO S 5) m % 100 = 5; rw [k105], fun t2 ht2 t3 ht3 t4 ht4 => ?_⟩
  have e4 : kdC t4 = kdC (newO S 5) := by rw [ht4, ht3, ht2]; rfl
  have z4 : szC t4 = m + 1 := by rw [ht4, ht3, ht2]; exact s5
  have n4 : nsC t4 = nsC S + 4 := by rw [ht4, ht3, ht2]; exact n5
  rw [c9]
  refine ⟨⟨by rw [e4, k105], by rw [e4, k105]; decide, by rw [e4, k105, c5], by rw [c7, z4]⟩, ⟨by omega, by omega⟩, fun t7 ht7 => ?_⟩
  have i4 : fI t4 80 m = a1 ∧ fI t4 81 m = a2 ∧ fI t4 82 m = -1 := by
    rw [ht4, ht3, ht2]
    refine ⟨?_, ?_, ?_⟩
    · rw [fI_ne (by decide), fI_ne (by decide), fI_at, if_pos rfl]
    · rw [fI_ne (by decide), fI_at, if_pos rfl]
    · rw [fI_at, if_pos rfl]
  have g4 : Eqf (fun _ => True) S t4 := by
    rw [ht4, ht3, ht2]
    exact Eqf_usI (Eqf_usI (Eqf_usI (Eqf_newO Eqf_rfl h0) (Or.inr h0m)) (Or.inr h0m)) (Or.inr h0m)
  have b7 : newM S t7 m 0 a1 a2 := by
    rw [ht7]
    refine ⟨Eqf_uat g4 h0m, h0m, ?_, i4.1, i4.2.1, i4.2.2, ?_, ?_, fun v hv => absurd hv (Nat.not_lt_zero _), fun v _ hv => absurd hv (Nat.not_lt_zero _)⟩
    · rw [s_uat_kdC, va_up_at, if_pos rfl, e4, k105, v5]
    · rw [s_uat_szC, z4]
      omega
    · rw [s_uat_nsC, n4]
  refine lp_for (fun k z => z.1 = nI k ∧ newM S z.2 m k a1 a2) 4 ?_ ?_ 0 (Nat.zero_le _) (0, t7) ⟨rfl, b7⟩
  · intro k hk K z hz hK
    obtain ⟨z1, u⟩ := z
    obtain ⟨hz1, u1, u2, u3, u4, u5, u6, u7, u8, u9, u10⟩ := hz
    dsimp only at hz1 u1 u2 u3 u4 u5 u6 u7 u8 u9 u10
    subst hz1
    refine ⟨fun h9 => absurd h9 (nI_ge (a := k) (b := 4) hk (by decide)), fun _ => ?_⟩
    dsimp only
    rw [c4, c9]
    refine ⟨u3, ⟨by omega, by omega⟩, fun f0 t11 ht11 => ?_⟩
    obtain ⟨e, he⟩ : ∃ e, e = szC u := ⟨_, rfl⟩
    rw [← he] at f0 ⊢
    have fe : kdC u e = 0 := f0
    have fSe : kdC S e = 0 := Classical.byContradiction fun z => z ((u1 e z).1.symm.trans fe)
    have k11 : kdC t11 e = 111 := by
      rw [ht11, s_newO_kdC, he, va_up_at, if_pos rfl, c2]
      rfl
    have z11 : szC t11 = szC u + 1 := by rw [ht11]; rfl
    have n11 : nsC t11 = nsC u + 3 := by rw [ht11, s_newO_nsC, c4]
    refine ⟨⟨by rw [k11], by rw [k11]; decide, by rw [k11, c6], by rw [c8, z11, he]⟩, ⟨by omega, by omega⟩, fun t12 ht12 => ?_⟩
    have k12 : kdC t12 e = 11 := by rw [ht12, s_uat_kdC, va_up_at, if_pos rfl, k11, v11]
    have ko : ∀ q, q ≠ e → kdC t12 q = kdC u q := fun q hq => by
      rw [ht12, s_uat_kdC, va_up_at, if_neg hq, ht11, s_newO_kdC, va_up_at, if_neg (by rw [← he]; exact hq)]
    have nem : m ≠ e := fun z => by rw [z, fe] at u3; exact absurd u3 (by decide)
    have ek : (nI k).toNatClampNeg = k := nI_clamp (by omega)
    refine ⟨k12, vp_nI (n := 4) hk (by decide), fun t15 ht15 => ?_⟩
    rw [nI_1]
    have q15 : ∀ v, fQ t15 83 m v = if v = k then some e else fQ u 83 m v := fun v => by
      rw [ht15, s_usQ_fQ, up2_is, ek, va_up_at]
      by_cases e9 : v = k
      · rw [if_pos e9, if_pos e9]
      · rw [if_neg e9, if_neg e9, ht12, s_uat_fQ, up2_no (fun z => absurd z.1 (by decide)), ht11]
        rfl
    have i15 : ∀ f q, q ≠ e → fI t15 f q = fI u f q := fun f q hq => by
      rw [ht15, ht12, ht11]
      show (if q = szC u then 0 else fI u f q) = _
      rw [if_neg (by rw [← he]; exact hq)]
    have ie : ∀ f, fI t15 f e = 0 := fun f => by
      rw [ht15, ht12, ht11]
      show (if e = szC u then 0 else fI u f e) = _
      rw [if_pos he]
    have l15 : ∀ q, q ≠ e → fL t15 176 q = fL u 176 q ∧ fC t15 176 q = fC u 176 q := fun q hq => by
      rw [ht15, ht12, ht11]
      exact ⟨up2_no (fun z => hq z.2), up2_no (fun z => hq z.2)⟩
    have le : fL t15 176 e = [] ∧ fC t15 176 e = 0 := by
      rw [ht15, ht12, ht11]
      exact ⟨up2_is, up2_is⟩
    have k15 : kdC t15 = kdC t12 := by rw [ht15]; rfl
    refine hK _ ⟨rfl, ?_, h0m, ?_, ?_, ?_, ?_, ?_, ?_, fun v hv => ?_, fun v v2 hv hv2 z => ?_⟩
    · dsimp only
      rw [ht15, ht12, ht11]
      exact Eqf_usQ (Eqf_uat (Eqf_newO u1 (by rw [← he]; exact fe)) fSe) (Or.inr h0m)
    · dsimp only
      rw [k15, ko m nem]
      exact u3
    · exact (i15 80 m nem).trans u4
    · exact (i15 81 m nem).trans u5
    · exact (i15 82 m nem).trans u6
    · dsimp only
      rw [ht15, s_usQ_szC, ht12, s_uat_szC, z11, u7]
      omega
    · dsimp only
      rw [ht15, s_usQ_nsC, ht12, s_uat_nsC, n11, u8]
      omega
    · dsimp only
      by_cases e9 : v = k
      · exact ⟨e, by rw [q15, if_pos e9], by rw [k15]; exact k12, fSe, le.1, le.2, ie 177, ie 178⟩
      · obtain ⟨r, w1, w2, w3, w4, w5, w6, w7⟩ := u9 v (by omega)
        have nr : r ≠ e := fun z => by rw [z, fe] at w2; exact absurd w2 (by decide)
        exact ⟨r, by rw [q15, if_neg e9]; exact w1, by rw [k15, ko r nr]; exact w2, w3, (l15 r nr).1.trans w4, (l15 r nr).2.trans w5, (i15 177 r nr).trans w6, (i15 178 r nr).trans w7⟩
    · dsimp only at z
      rw [q15, q15] at z
      have nr : ∀ v, v < k → fQ u 83 m v ≠ some e := fun v hv z9 => by
        obtain ⟨r, w1, w2, -⟩ := u9 v hv
        rw [w1] at z9
        rw [Option.some.inj z9, fe] at w2
        exact absurd w2 (by decide)
      by_cases e9 : v = k
      · by_cases e8 : v2 = k
        · rw [e9, e8]
        · rw [if_pos e9, if_neg e8] at z
          exact absurd z.symm (nr v2 (by omega))
      · by_cases e8 : v2 = k
        · rw [if_neg e9, if_pos e8] at z
          exact absurd z (nr v (by omega))
        · rw [if_neg e9, if_neg e8] at z
          exact u10 v v2 (by omega) (by omega) z
  · intro K z hz
    obtain ⟨z1, u⟩ := z
    obtain ⟨hz1, hu⟩ := hz
    dsimp only at hz1 hu
    subst hz1
    exact ⟨fun _ => h u hu, fun h9 => absurd (nI_le (Nat.le_refl 4) (by decide)) h9⟩
end AB
