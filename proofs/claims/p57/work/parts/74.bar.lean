/-! addBar -/
section AB
variable {S S' : CS} {t t' : MS} {o so po m : Nat}
/-- the model behind a new bar -/
def Abr (t t' : MS) (c u : Int32) : Prop := (∀ k, k ≠ 45 → k ≠ 0 → t'.1 k = t.1 k) ∧ t'.1 0 = nI (zN t + 1) ∧ (∀ f, f ≠ 1 → f ≠ 2 → f ≠ 3 → f ≠ 4 → t'.2 f = t.2 f) ∧ (∀ q, t'.2 1 q = if q = zN t then c else t.2 1 q) ∧ (∀ q, t'.2 2 q = if q = zN t then u else t.2 2 q) ∧ (∀ q, t'.2 3 q = if q = zN t then -1 else t.2 3 q) ∧ ∀ q, t'.2 4 q = if q = zN t then -1 else t.2 4 q
/-- a measure as it is made -/
def newM (S u : CS) (m k : Nat) (a1 a2 : Int32) : Prop := Eqf (fun _ => True) S u ∧ kdC S m = 0 ∧ kdC u m = 5 ∧ fI u 80 m = a1 ∧ fI u 81 m = a2 ∧ fI u 82 m = -1 ∧ szC u = szC S + 2 + 2 * k ∧ nsC u = nsC S + 8 + 6 * k ∧ (∀ v, v < k → ∃ r, fQ u 83 m v = some r ∧ kdC u r = 11 ∧ kdC S r = 0 ∧ fL u 176 r = [] ∧ fC u 176 r = 0 ∧ fI u 177 r = 0 ∧ fI u 178 r = 0) ∧ ∀ v v2, v < k → v2 < k → fQ u 83 m v = fQ u 83 m v2 → v = v2
theorem cc_newM {B : Nat × Nat} {a1 a2 : Int32} {Q : CS → Prop} {X : String → CS → Prop} (h0 : kdC S (szC S) = 0) (hr : szC S + 10 ≤ B.1 ∧ nsC S + 32 ≤ B.2) (h : ∀ u, newM S u (szC S) 4 a1 a2 → Q u) : w_X2_init B (szC S) a1 a2 (newO S 5) Q X := by
  obtain ⟨hr1, hr2⟩ := hr
  obtain ⟨m, hmz⟩ : ∃ m, m = szC S := ⟨_, rfl⟩
  rw [← hmz] at h ⊢
  have h0m : kdC S m = 0 := by rw [hmz]; exact h0
  have c1 : cNE 5 = 1 ∧ cNE 11 = 1 ∧ cNF 5 = 4 ∧ cNF 11 = 3 ∧ cEI 83 = 0 ∧ cEI 176 = 0 ∧ cOF 83 = 1 ∧ cOF 176 = 1 ∧ cLN 83 = 4 := by decide +kernel
  obtain ⟨c1, c2, c3, c4, c5, c6, c7, c8, c9⟩ := c1
  have k105 : kdC (newO S 5) m = 105 := by
    rw [s_newO_kdC, hmz, va_up_at, if_pos rfl, c1]
    rfl
  have v5 : attV 105 5 = 5 := by decide
  have v11 : attV 111 11 = 11 := by decide
  have s5 : szC (newO S 5) = m + 1 := by rw [s_newO_szC, hmz]
  have n5 : nsC (newO S 5) = nsC S + 4 := by rw [s_newO_nsC, c3]
  refine ⟨by show kdC (newO S 5) m % 100 = 5; rw [k105], fun t2 ht2 t3 ht3 t4 ht4 => ?_⟩
  have e4 : kdC t4 = kdC (newO S 5) := by rw [ht4, ht3, ht2]; rfl
  have z4 : szC t4 = m + 1 := by rw [ht4, ht3, ht2]; exact s5
  have n4 : nsC t4 = nsC S + 4 := by rw [ht4, ht3, ht2]; exact n5
  rw [c9]
  refine ⟨⟨by rw [e4, k105], by rw [e4, k105]; decide, by rw [e4, k105, c5], by rw [c7, z4]⟩, ⟨by omega, by omega⟩, fun t7 ht7 => ?_⟩
  have i4 : fI t4 80 m = a1 ∧ fI t4 81 m = a2 ∧ fI t4 82 m = -1 := by
    rw [ht4, ht3, ht2]
    refine ⟨?_, ?_, ?_⟩
    · rw [fI_ne (by decide), fI_ne (by decide), fI_at, if_pos rfl]
    · rw [fI_ne (by decide), fI_at, if_pos rfl]
    · rw [fI_at, if_pos rfl]
  have g4 : Eqf (fun _ => True) S t4 := by
    rw [ht4, ht3, ht2]
    exact Eqf_usI (Eqf_usI (Eqf_usI (Eqf_newO Eqf_rfl h0) (Or.inr h0m)) (Or.inr h0m)) (Or.inr h0m)
  have b7 : newM S t7 m 0 a1 a2 := by
    rw [ht7]
    refine ⟨Eqf_uat g4 h0m, h0m, ?_, i4.1, i4.2.1, i4.2.2, ?_, ?_, fun v hv => absurd hv (Nat.not_lt_zero _), fun v _ hv => absurd hv (Nat.not_lt_zero _)⟩
    · rw [s_uat_kdC, va_up_at, if_pos rfl, e4, k105, v5]
    · rw [s_uat_szC, z4]
      omega
    · rw [s_uat_nsC, n4]
  refine lp_for (fun k z => z.1 = nI k ∧ newM S z.2 m k a1 a2) 4 ?_ ?_ 0 (Nat.zero_le _) (0, t7) ⟨rfl, b7⟩
  · intro k hk K z hz hK
    obtain ⟨z1, u⟩ := z
    obtain ⟨hz1, u1, u2, u3, u4, u5, u6, u7, u8, u9, u10⟩ := hz
    dsimp only at hz1 u1 u2 u3 u4 u5 u6 u7 u8 u9 u10
    subst hz1
    refine ⟨fun h9 => absurd h9 (nI_ge (a := k) (b := 4) hk (by decide)), fun _ => ?_⟩
    dsimp only
    rw [c4, c9]
    refine ⟨u3, ⟨by omega, by omega⟩, fun f0 t11 ht11 => ?_⟩
    obtain ⟨e, he⟩ : ∃ e, e = szC u := ⟨_, rfl⟩
    rw [← he] at f0 ⊢
    have fe : kdC u e = 0 := f0
    have fSe : kdC S e = 0 := Classical.byContradiction fun z => z ((u1 e z).1.symm.trans fe)
    have k11 : kdC t11 e = 111 := by
      rw [ht11, s_newO_kdC, he, va_up_at, if_pos rfl, c2]
      rfl
    have z11 : szC t11 = szC u + 1 := by rw [ht11]; rfl
    have n11 : nsC t11 = nsC u + 3 := by rw [ht11, s_newO_nsC, c4]
    refine ⟨⟨by rw [k11], by rw [k11]; decide, by rw [k11, c6], by rw [c8, z11, he]⟩, ⟨by omega, by omega⟩, fun t12 ht12 => ?_⟩
    have k12 : kdC t12 e = 11 := by rw [ht12, s_uat_kdC, va_up_at, if_pos rfl, k11, v11]
    have ko : ∀ q, q ≠ e → kdC t12 q = kdC u q := fun q hq => by
      rw [ht12, s_uat_kdC, va_up_at, if_neg hq, ht11, s_newO_kdC, va_up_at, if_neg (by rw [← he]; exact hq)]
    have nem : m ≠ e := fun z => by rw [z, fe] at u3; exact absurd u3 (by decide)
    have ek : (nI k).toNatClampNeg = k := nI_clamp (by omega)
    refine ⟨k12, vp_nI (n := 4) hk (by decide), fun t15 ht15 => ?_⟩
    rw [nI_1]
    have q15 : ∀ v, fQ t15 83 m v = if v = k then some e else fQ u 83 m v := fun v => by
      rw [ht15, s_usQ_fQ, up2_is, ek, va_up_at]
      by_cases e9 : v = k
      · rw [if_pos e9, if_pos e9]
      · rw [if_neg e9, if_neg e9, ht12, s_uat_fQ, up2_no (fun z => absurd z.1 (by decide)), ht11]
        rfl
    have i15 : ∀ f q, q ≠ e → fI t15 f q = fI u f q := fun f q hq => by
      rw [ht15, ht12, ht11]
      show (if q = szC u then 0 else fI u f q) = _
      rw [if_neg (by rw [← he]; exact hq)]
    have ie : ∀ f, fI t15 f e = 0 := fun f => by
      rw [ht15, ht12, ht11]
      show (if e = szC u then 0 else fI u f e) = _
      rw [if_pos he]
    have l15 : ∀ q, q ≠ e → fL t15 176 q = fL u 176 q ∧ fC t15 176 q = fC u 176 q := fun q hq => by
      rw [ht15, ht12, ht11]
      exact ⟨up2_no (fun z => hq z.2), up2_no (fun z => hq z.2)⟩
    have le : fL t15 176 e = [] ∧ fC t15 176 e = 0 := by
      rw [ht15, ht12, ht11]
      exact ⟨up2_is, up2_is⟩
    have k15 : kdC t15 = kdC t12 := by rw [ht15]; rfl
    refine hK _ ⟨rfl, ?_, h0m, ?_, ?_, ?_, ?_, ?_, ?_, fun v hv => ?_, fun v v2 hv hv2 z => ?_⟩
    · dsimp only
      rw [ht15, ht12, ht11]
      exact Eqf_usQ (Eqf_uat (Eqf_newO u1 (by rw [← he]; exact fe)) fSe) (Or.inr h0m)
    · dsimp only
      rw [k15, ko m nem]
      exact u3
    · exact (i15 80 m nem).trans u4
    · exact (i15 81 m nem).trans u5
    · exact (i15 82 m nem).trans u6
    · dsimp only
      rw [ht15, s_usQ_szC, ht12, s_uat_szC, z11, u7]
      omega
    · dsimp only
      rw [ht15, s_usQ_nsC, ht12, s_uat_nsC, n11, u8]
      omega
    · dsimp only
      by_cases e9 : v = k
      · exact ⟨e, by rw [q15, if_pos e9], by rw [k15]; exact k12, fSe, le.1, le.2, ie 177, ie 178⟩
      · obtain ⟨r, w1, w2, w3, w4, w5, w6, w7⟩ := u9 v (by omega)
        have nr : r ≠ e := fun z => by rw [z, fe] at w2; exact absurd w2 (by decide)
        exact ⟨r, by rw [q15, if_neg e9]; exact w1, by rw [k15, ko r nr]; exact w2, w3, (l15 r nr).1.trans w4, (l15 r nr).2.trans w5, (i15 177 r nr).trans w6, (i15 178 r nr).trans w7⟩
    · dsimp only at z
      rw [q15, q15] at z
      have nr : ∀ v, v < k → fQ u 83 m v ≠ some e := fun v hv z9 => by
        obtain ⟨r, w1, w2, -⟩ := u9 v hv
        rw [w1] at z9
        rw [Option.some.inj z9, fe] at w2
        exact absurd w2 (by decide)
      by_cases e9 : v = k
      · by_cases e8 : v2 = k
        · rw [e9, e8]
        · rw [if_pos e9, if_neg e8] at z
          exact absurd z.symm (nr v2 (by omega))
      · by_cases e8 : v2 = k
        · rw [if_neg e9, if_pos e8] at z
          exact absurd z (nr v (by omega))
        · rw [if_neg e9, if_neg e8] at z
          exact u10 v v2 (by omega) (by omega) z
  · intro K z hz
    obtain ⟨z1, u⟩ := z
    obtain ⟨hz1, hu⟩ := hz
    dsimp only at hz1 hu
    subst hz1
    exact ⟨fun _ => h u hu, fun h9 => absurd (nI_le (Nat.le_refl 4) (by decide)) h9⟩
end AB
