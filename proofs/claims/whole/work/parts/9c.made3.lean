/-! WHAT HOLDS AS ALL IS MADE -/
section MC
variable {o : Nat} {t : CS}
theorem st9_12 (hk : kdC t o = 112) : kdC (st9 o t) o = 12 := by
  have v1 : attV 112 12 = 212 := by decide
  have v2 : attV 212 12 = 312 := by decide
  have v3 : attV 312 12 = 412 := by decide
  have v4 : attV 412 12 = 12 := by decide
  simp [st9, s_usI_kdC, s_uat_kdC, va_up_at, hk, v1, v2, v3, v4]
theorem st6_9 (hk : kdC t o = 109) : kdC (st6 o t) o = 9 := by
  have v0 : attV 109 9 = 209 := by decide
  have v1 : attV 209 9 = 309 := by decide
  have v2 : attV 309 9 = 409 := by decide
  have v3 : attV 409 9 = 509 := by decide
  have v4 : attV 509 9 = 609 := by decide
  have v5 : attV 609 9 = 9 := by decide
  simp [st6, s_usI_kdC, s_uat_kdC, va_up_at, hk, v0, v1, v2, v3, v4, v5]
theorem st9_sz (hz : szC t = o + 1) : szC (st9 o t) = o + 5 := by
  show szC t + 1 + 1 + 1 + 1 = o + 5
  omega
theorem st11_kd (hk : kdC t o = 114) (hz : szC t = o + 1) : kdC (st11 o t) o = 14 ∧ kdC (st11 o t) (o + 1) = 12 ∧ kdC (st11 o t) (o + 6) = 9 := by
  have c1 : cNE 12 = 4 ∧ cNE 9 = 6 := by decide +kernel
  have v : attV 114 14 = 14 := by decide
  have a1 : kdC (newO t 12) (o + 1) = 112 := by
    rw [s_newO_kdC, hz, va_up_at, if_pos rfl, c1.1]
    rfl
  have a2 : szC (newO t 12) = (o + 1) + 1 := by rw [s_newO_szC, hz]
  have a4 : kdC (newO t 12) o = 114 := by
    rw [s_newO_kdC, hz, va_up_at, if_neg (by omega), hk]
  have b2 : szC (usR (st9 (o + 1) (newO t 12)) 224 o (some (o + 1))) = o + 6 := by
    rw [s_usR_szC, st9_sz a2]
  have b0 : kdC (usR (st9 (o + 1) (newO t 12)) 224 o (some (o + 1))) o = 114 := by rw [s_usR_kdC, st9_kd (by omega), a4]
  have b1 : kdC (usR (st9 (o + 1) (newO t 12)) 224 o (some (o + 1))) (o + 1) = 12 := by rw [s_usR_kdC, st9_12 a1]
  have d0 : kdC (newO (usR (st9 (o + 1) (newO t 12)) 224 o (some (o + 1))) 9) o = 114 := by
    rw [s_newO_kdC, b2, va_up_at, if_neg (by omega), b0]
  have d1 : kdC (newO (usR (st9 (o + 1) (newO t 12)) 224 o (some (o + 1))) 9) (o + 1) = 12 := by
    rw [s_newO_kdC, b2, va_up_at, if_neg (by omega), b1]
  have d6 : kdC (newO (usR (st9 (o + 1) (newO t 12)) 224 o (some (o + 1))) 9) (o + 6) = 109 := by
    rw [s_newO_kdC, b2, va_up_at, if_pos rfl, c1.2]
    rfl
  unfold st11
  refine ⟨?_, ?_, ?_⟩
  · rw [s_uat_kdC, va_up_at, if_pos rfl, s_usR_kdC, st6_kd (by omega), d0, v]
  · rw [s_uat_kdC, va_up_at, if_neg (by omega), s_usR_kdC, st6_kd (by omega), d1]
  · rw [s_uat_kdC, va_up_at, if_neg (by omega), s_usR_kdC, st6_9 d6]
theorem st11_f (hz : szC t = o + 1) : (fR (st11 o t) 224 o = some (o + 1) ∧ fR (st11 o t) 225 o = some (o + 6)) ∧ (fI (st11 o t) 196 (o + 1) = 120 ∧ fI (st11 o t) 197 (o + 1) = 4 ∧ fI (st11 o t) 198 (o + 1) = 1500 ∧ fI (st11 o t) 199 (o + 1) = 0 ∧ fI (st11 o t) 150 (o + 6) = -1) ∧ (fL (st11 o t) 192 (o + 1) = [] ∧ fL (st11 o t) 193 (o + 1) = [] ∧ fL (st11 o t) 194 (o + 1) = [] ∧ fL (st11 o t) 148 (o + 6) = []) ∧ (fC (st11 o t) 192 (o + 1) = 0 ∧ fC (st11 o t) 193 (o + 1) = 0 ∧ fC (st11 o t) 194 (o + 1) = 0 ∧ fC (st11 o t) 148 (o + 6) = 0) ∧ (∀ v, fA (st11 o t) 195 (o + 1) v = 0) ∧ ∀ v, fQ (st11 o t) 226 o v = none := by
  have b2 : szC (usR (st9 (o + 1) (newO t 12)) 224 o (some (o + 1))) = o + 6 := by
    rw [s_usR_szC, st9_sz (by rw [s_newO_szC, hz])]
  have c1 : ¬ o + 1 = o + 6 := by omega
  have c2 : ¬ o = o + 6 := by omega
  have c3 : ¬ o = o + 1 := by omega
  refine ⟨⟨?_, ?_⟩, ⟨?_, ?_, ?_, ?_, ?_⟩, ⟨?_, ?_, ?_, ?_⟩, ⟨?_, ?_, ?_, ?_⟩, fun v => ?_, fun v => ?_⟩
  · simp [st11, s_uat_fR, s_usR_fR, up2_at, st6, s_usI_fR, s_newO_fR, b2, c2]
  · simp [st11, s_uat_fR, s_usR_fR, up2_at]
  · simp [st11, st6, s_uat_fI, s_usR_fI, s_usI_fI, up2_at, s_newO_fI, b2, c1, st9]
  · simp [st11, st6, s_uat_fI, s_usR_fI, s_usI_fI, up2_at, s_newO_fI, b2, c1, st9]
  · simp [st11, st6, s_uat_fI, s_usR_fI, s_usI_fI, up2_at, s_newO_fI, b2, c1, st9]
  · simp [st11, st6, s_uat_fI, s_usR_fI, s_usI_fI, up2_at, s_newO_fI, b2, c1, st9, hz]
  · simp [st11, st6, s_uat_fI, s_usR_fI, s_usI_fI, up2_at]
  · simp [st11, st6, s_uat_fL, s_usR_fL, s_usI_fL, up2_at, s_newO_fL, st9]
  · simp [st11, st6, s_uat_fL, s_usR_fL, s_usI_fL, up2_at, s_newO_fL, st9]
  · simp [st11, st6, s_uat_fL, s_usR_fL, s_usI_fL, up2_at, s_newO_fL, st9]
  · simp [st11, st6, s_uat_fL, s_usR_fL, s_usI_fL, up2_at]
  · simp [st11, st6, s_uat_fC, s_usR_fC, s_usI_fC, up2_at, s_newO_fC, st9]
  · simp [st11, st6, s_uat_fC, s_usR_fC, s_usI_fC, up2_at, s_newO_fC, st9]
  · simp [st11, st6, s_uat_fC, s_usR_fC, s_usI_fC, up2_at, s_newO_fC, st9]
  · simp [st11, st6, s_uat_fC, s_usR_fC, s_usI_fC, up2_at]
  · simp [st11, st6, s_uat_fA, s_usR_fA, s_usI_fA, up2_at, s_newO_fA, st9]
  · simp [st11, s_uat_fQ, up2_at]
theorem t0_r (k i : Nat) : m_t0.2 k i = 0 := rfl
theorem Jo_0 (hk : kdC t o = 114) (hz : szC t = o + 1) : Jo o (o + 1) (o + 6) 512 4 (st11 o t) m_t0 := by
  obtain ⟨k1, k2, k3⟩ := st11_kd hk hz
  obtain ⟨⟨r1, r2⟩, ⟨i1, i2, i3, i4, i5⟩, ⟨l1, l2, l3, l4⟩, ⟨c1, c2, c3, c4⟩, a1, q1⟩ := st11_f hz
  obtain ⟨S, hS⟩ : ∃ S, S = st11 o t := ⟨_, rfl⟩
  rw [← hS] at k1 k2 k3 r1 r2 i1 i2 i3 i4 i5 l1 l2 l3 l4 c1 c2 c3 c4 a1 q1 ⊢
  have n0 : zN m_t0 = 0 := by decide
  have nb : nbS S (o + 1) = 0 := by unfold nbS; rw [l1]; rfl
  have np : npS S (o + 1) = 0 := by unfold npS; rw [l2]; rfl
  have nr : nrS S (o + 1) = 0 := by unfold nrS; rw [l3]; rfl
  refine ⟨⟨k1, r1, r2, k3, ?_, ?_, ?_, ?_, ?_, ?_⟩, ⟨?_, ?_⟩, ⟨0, by omega, by rw [i4]; rfl, by rw [i5]; exact Or.inl rfl, fun v q hv hq => ?_⟩, fun z => ?_, fun v v2 q q2 hv hv2 hne hq hq2 => ?_⟩
  · unfold rB
    rw [nb, c1]
    exact ⟨k2, by omega, by omega, rfl, fun i hi => absurd hi (Nat.not_lt_zero _), fun i i2 hi => absurd hi (Nat.not_lt_zero _), fun v i v2 i2 hi => absurd hi (Nat.not_lt_zero _), fun v i j v2 i2 j2 hi => absurd hi (Nat.not_lt_zero _)⟩
  · exact ⟨rfl, by rw [n0]; omega, fun i hi => by rw [n0] at hi; exact absurd hi (Nat.not_lt_zero _)⟩
  · unfold rP
    rw [np, c2]
    exact ⟨by omega, rfl, by omega, fun k hk => absurd hk (Nat.not_lt_zero _), fun k k2 hk => absurd hk (Nat.not_lt_zero _), fun k _ _ => rfl⟩
  · unfold rT
    rw [nr, c3, n0]
    refine ⟨by omega, fun i hi => ?_, rfl, fun k hk => absurd hk (Nat.not_lt_zero _), fun i hi => absurd hi (Nat.not_lt_zero _), fun k k2 hk => absurd hk (Nat.not_lt_zero _)⟩
    rw [n0] at hi
    exact absurd hi (Nat.not_lt_zero _)
  · refine ⟨fun v _ => a1 v, i1, i2, i3, ⟨120, by omega, by omega, rfl⟩, ⟨4, by omega, by omega, rfl⟩, ⟨1500, by omega, rfl⟩⟩
  · exact ⟨rfl, fun v i _ _ _ => ⟨rfl, rfl⟩⟩
  · unfold rowOk
    rw [l4]
    exact ⟨fun k hk => absurd hk (Nat.not_lt_zero _), fun k k2 hk => absurd hk (Nat.not_lt_zero _)⟩
  · unfold capOk
    rw [l4, c4]
    exact ⟨Or.inl rfl, by omega, Nat.zero_le _⟩
  · rw [q1] at hq
    exact absurd hq (by intro z; cases z)
  · rw [i5, i4] at z
    exact absurd z (by decide)
  · rw [q1] at hq
    exact absurd hq (by intro z; cases z)
end MC
