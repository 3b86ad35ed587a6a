/-! WHAT HOLDS AS ALL IS MADE -/
/-- what is told as the score is made -/
def m_t0 : MS := (fun k => if k = 23 then 1500 else if k = 22 then 4 else if k = 21 then 120 else 0, fun _ _ => 0)
section MC
variable {o : Nat} {t : CS}
theorem st9_12 (hk : kdC t o = 112) : kdC (st9 o t) o = 12 := by
  have v1 : attV 112 12 = 212 := by decide
  have v2 : attV 212 12 = 312 := by decide
  have v3 : attV 312 12 = 412 := by decide
  have v4 : attV 412 12 = 12 := by decide
  simp [st9, s_usI_kdC, s_uat_kdC, va_up_at, hk, v1, v2, v3, v4]
theorem st6_9 (hk : kdC t o = 109) : kdC (st6 o t) o = 9 := by
  have v0 : attV 109 9 = 209 := by decide
  have v1 : attV 209 9 = 309 := by decide
  have v2 : attV 309 9 = 409 := by decide
  have v3 : attV 409 9 = 509 := by decide
  have v4 : attV 509 9 = 609 := by decide
  have v5 : attV 609 9 = 9 := by decide
  simp [st6, s_usI_kdC, s_uat_kdC, va_up_at, hk, v0, v1, v2, v3, v4, v5]
theorem st9_sz (hz : szC t = o + 1) : szC (st9 o t) = o + 5 := by
  show szC t + 1 + 1 + 1 + 1 = o + 5
  omega
theorem st11_kd (hk : kdC t o = 114) (hz : szC t = o + 1) : kdC (st11 o t) o = 14 ∧ kdC (st11 o t) (o + 1) = 12 ∧ kdC (st11 o t) (o + 6) = 9 := by
  have c1 : cNE 12 = 4 ∧ cNE 9 = 6 := by decide +kernel
  have v : attV 114 14 = 14 := by decide
  have a1 : kdC (newO t 12) (o + 1) = 112 := by
    rw [s_newO_kdC, hz, va_up_at, if_pos rfl, c1.1]
    rfl
  have a2 : szC (newO t 12) = (o + 1) + 1 := by rw [s_newO_szC, hz]
  have a4 : kdC (newO t 12) o = 114 := by
    rw [s_newO_kdC, hz, va_up_at, if_neg (by omega), hk]
  have b2 : szC (usR (st9 (o + 1) (newO t 12)) 224 o (some (o + 1))) = o + 6 := by
    rw [s_usR_szC, st9_sz a2]
  have b0 : kdC (usR (st9 (o + 1) (newO t 12)) 224 o (some (o + 1))) o = 114 := by rw [s_usR_kdC, st9_kd (by omega), a4]
  have b1 : kdC (usR (st9 (o + 1) (newO t 12)) 224 o (some (o + 1))) (o + 1) = 12 := by rw [s_usR_kdC, st9_12 a1]
  have d0 : kdC (newO (usR (st9 (o + 1) (newO t 12)) 224 o (some (o + 1))) 9) o = 114 := by
    rw [s_newO_kdC, b2, va_up_at, if_neg (by omega), b0]
  have d1 : kdC (newO (usR (st9 (o + 1) (newO t 12)) 224 o (some (o + 1))) 9) (o + 1) = 12 := by
    rw [s_newO_kdC, b2, va_up_at, if_neg (by omega), b1]
  have d6 : kdC (newO (usR (st9 (o + 1) (newO t 12)) 224 o (some (o + 1))) 9) (o + 6) = 109 := by
    rw [s_newO_kdC, b2, va_up_at, if_pos rfl, c1.2]
    rfl
  unfold st11
  refine ⟨?_, ?_, ?_⟩
  · rw [s_uat_kdC, va_up_at, if_pos rfl, s_usR_kdC, st6_kd (by omega), d0, v]
  · rw [s_uat_kdC, va_up_at, if_neg (by omega), s_usR_kdC, st6_kd (by omega), d1]
  · rw [s_uat_kdC, va_up_at, if_neg (by omega), s_usR_kdC, st6_9 d6]
theorem st6_I : fI (st6 o t) = up2 (fI t) 150 o (-1) := rfl
theorem st6_R : fR (st6 o t) = fR t := rfl
theorem st6_Aq {f q : Nat} (h : q ≠ o) : fA (st6 o t) f q = fA t f q := by
  unfold st6
  rw [s_uat_fA, up2_no (fun z => h z.2), s_uat_fA, up2_no (fun z => h z.2), s_uat_fA, up2_no (fun z => h z.2), s_usI_fA, s_uat_fA, up2_no (fun z => h z.2), s_uat_fA, up2_no (fun z => h z.2), s_uat_fA, up2_no (fun z => h z.2)]
theorem st6_Lq {f q : Nat} (h : q ≠ o) : fL (st6 o t) f q = fL t f q := by
  unfold st6
  rw [s_uat_fL, up2_no (fun z => h z.2), s_uat_fL, up2_no (fun z => h z.2), s_uat_fL, up2_no (fun z => h z.2), s_usI_fL, s_uat_fL, up2_no (fun z => h z.2), s_uat_fL, up2_no (fun z => h z.2), s_uat_fL, up2_no (fun z => h z.2)]
theorem st6_Cq {f q : Nat} (h : q ≠ o) : fC (st6 o t) f q = fC t f q := by
  unfold st6
  rw [s_uat_fC, up2_no (fun z => h z.2), s_uat_fC, up2_no (fun z => h z.2), s_uat_fC, up2_no (fun z => h z.2), s_usI_fC, s_uat_fC, up2_no (fun z => h z.2), s_uat_fC, up2_no (fun z => h z.2), s_uat_fC, up2_no (fun z => h z.2)]
theorem st6_L : fL (st6 o t) 148 o = [] := by
  unfold st6
  rw [s_uat_fL, up2_no (fun z => absurd z.1 (by decide)), s_uat_fL, up2_no (fun z => absurd z.1 (by decide)), s_uat_fL, up2_no (fun z => absurd z.1 (by decide)), s_usI_fL, s_uat_fL, up2_is]
theorem st6_C : fC (st6 o t) 148 o = 0 := by
  unfold st6
  rw [s_uat_fC, up2_no (fun z => absurd z.1 (by decide)), s_uat_fC, up2_no (fun z => absurd z.1 (by decide)), s_uat_fC, up2_no (fun z => absurd z.1 (by decide)), s_usI_fC, s_uat_fC, up2_is]
theorem st9_I : fI (st9 o t) = up2 (up2 (up2 (fI t) 196 o 120) 197 o 4) 198 o 1500 := rfl
theorem st9_A : fA (st9 o t) 195 o = fun _ => 0 := by
  unfold st9
  rw [s_usI_fA, s_usI_fA, s_usI_fA, s_uat_fA, up2_is]
theorem st9_L : fL (st9 o t) 192 o = [] ∧ fL (st9 o t) 193 o = [] ∧ fL (st9 o t) 194 o = [] := by
  unfold st9
  rw [s_usI_fL, s_usI_fL, s_usI_fL, s_uat_fL]
  refine ⟨?_, ?_, ?_⟩
  · rw [up2_no (fun z => absurd z.1 (by decide)), s_uat_fL, up2_no (fun z => absurd z.1 (by decide)), s_uat_fL, up2_no (fun z => absurd z.1 (by decide)), s_uat_fL, up2_is]
  · rw [up2_no (fun z => absurd z.1 (by decide)), s_uat_fL, up2_no (fun z => absurd z.1 (by decide)), s_uat_fL, up2_is]
  · rw [up2_no (fun z => absurd z.1 (by decide)), s_uat_fL, up2_is]
theorem st9_C : fC (st9 o t) 192 o = 0 ∧ fC (st9 o t) 193 o = 0 ∧ fC (st9 o t) 194 o = 0 := by
  unfold st9
  rw [s_usI_fC, s_usI_fC, s_usI_fC, s_uat_fC]
  refine ⟨?_, ?_, ?_⟩
  · rw [up2_no (fun z => absurd z.1 (by decide)), s_uat_fC, up2_no (fun z => absurd z.1 (by decide)), s_uat_fC, up2_no (fun z => absurd z.1 (by decide)), s_uat_fC, up2_is]
  · rw [up2_no (fun z => absurd z.1 (by decide)), s_uat_fC, up2_no (fun z => absurd z.1 (by decide)), s_uat_fC, up2_is]
  · rw [up2_no (fun z => absurd z.1 (by decide)), s_uat_fC, up2_is]
theorem st11_f (hz : szC t = o + 1) : (fR (st11 o t) 224 o = some (o + 1) ∧ fR (st11 o t) 225 o = some (o + 6)) ∧ (fI (st11 o t) 196 (o + 1) = 120 ∧ fI (st11 o t) 197 (o + 1) = 4 ∧ fI (st11 o t) 198 (o + 1) = 1500 ∧ fI (st11 o t) 199 (o + 1) = 0 ∧ fI (st11 o t) 150 (o + 6) = -1) ∧ (fL (st11 o t) 192 (o + 1) = [] ∧ fL (st11 o t) 193 (o + 1) = [] ∧ fL (st11 o t) 194 (o + 1) = [] ∧ fL (st11 o t) 148 (o + 6) = []) ∧ (fC (st11 o t) 192 (o + 1) = 0 ∧ fC (st11 o t) 193 (o + 1) = 0 ∧ fC (st11 o t) 194 (o + 1) = 0 ∧ fC (st11 o t) 148 (o + 6) = 0) ∧ (∀ v, fA (st11 o t) 195 (o + 1) v = 0) ∧ ∀ v, fQ (st11 o t) 226 o v = none := by
  have c1 : ¬ o + 1 = o + 6 := by omega
  have c2 : ¬ o = o + 6 := by omega
  have c4 : ¬ o + 1 = o := by omega
  have c5 : ¬ o + 6 = o := by omega
  obtain ⟨T0, h0⟩ : ∃ T, T = st9 (o + 1) (newO t 12) := ⟨_, rfl⟩
  obtain ⟨T1, h1⟩ : ∃ T, T = usR T0 224 o (some (o + 1)) := ⟨_, rfl⟩
  obtain ⟨T2, h2⟩ : ∃ T, T = newO T1 9 := ⟨_, rfl⟩
  obtain ⟨T3, h3⟩ : ∃ T, T = st6 (o + 6) T2 := ⟨_, rfl⟩
  have e : st11 o t = uat (usR T3 225 o (some (o + 6))) 226 o 14 4 := by
    rw [h3, h2, h1, h0]
    unfold st11
    rfl
  have z1 : szC T1 = o + 6 := by
    rw [h1, s_usR_szC, h0, st9_sz (by rw [s_newO_szC, hz])]
  have i0 : ∀ f, fI T0 f = up2 (up2 (up2 (fI (newO t 12)) 196 (o + 1) 120) 197 (o + 1) 4) 198 (o + 1) 1500 f := fun f => by rw [h0, st9_I]
  have i3 : ∀ f, fI T3 f = up2 (fI T2) 150 (o + 6) (-1) f := fun f => by rw [h3, st6_I]
  have i2 : ∀ f q, q ≠ o + 6 → fI T2 f q = fI T0 f q := fun f q hq => by
    rw [h2, s_newO_fI]
    show (if q = szC T1 then 0 else fI T1 f q) = _
    rw [if_neg (by rw [z1]; exact hq), h1, s_usR_fI]
  have l3 : ∀ f, fL T3 f (o + 1) = fL T0 f (o + 1) := fun f => by rw [h3, st6_Lq c1, h2, s_newO_fL, h1, s_usR_fL]
  have d3 : ∀ f, fC T3 f (o + 1) = fC T0 f (o + 1) := fun f => by rw [h3, st6_Cq c1, h2, s_newO_fC, h1, s_usR_fC]
  have a3 : ∀ f, fA T3 f (o + 1) = fA T0 f (o + 1) := fun f => by rw [h3, st6_Aq c1, h2, s_newO_fA, h1, s_usR_fA]
  have r3 : fR T3 224 o = some (o + 1) := by
    rw [h3, st6_R, h2, s_newO_fR]
    show (if o = szC T1 then none else fR T1 224 o) = _
    rw [if_neg (by rw [z1]; exact c2), h1]
    exact up2_is
  obtain ⟨y1, y2, y3⟩ := st9_L (o := o + 1) (t := newO t 12)
  obtain ⟨x1, x2, x3⟩ := st9_C (o := o + 1) (t := newO t 12)
  have y4 := st6_L (o := o + 6) (t := T2)
  have x4 := st6_C (o := o + 6) (t := T2)
  have w1 := st9_A (o := o + 1) (t := newO t 12)
  rw [← h0] at y1 y2 y3 x1 x2 x3 w1
  rw [← h3] at y4 x4
  rw [e, s_uat_fR, s_usR_fR, s_uat_fI, s_usR_fI, s_uat_fL, s_usR_fL, s_uat_fC, s_usR_fC, s_uat_fA, s_usR_fA, s_uat_fQ]
  clear e h3 h2 h1 h0
  refine ⟨⟨?_, up2_is⟩, ⟨?_, ?_, ?_, ?_, ?_⟩, ⟨?_, ?_, ?_, ?_⟩, ⟨?_, ?_, ?_, ?_⟩, fun v => ?_, fun v => ?_⟩
  · rw [up2_no (fun z => absurd z.1 (by decide))]
    exact r3
  · rw [i3, up2_no (fun z => absurd z.1 (by decide)), i2 _ _ c1, i0, up2_no (fun z => absurd z.1 (by decide)), up2_no (fun z => absurd z.1 (by decide)), up2_is]
  · rw [i3, up2_no (fun z => absurd z.1 (by decide)), i2 _ _ c1, i0, up2_no (fun z => absurd z.1 (by decide)), up2_is]
  · rw [i3, up2_no (fun z => absurd z.1 (by decide)), i2 _ _ c1, i0, up2_is]
  · rw [i3, up2_no (fun z => absurd z.1 (by decide)), i2 _ _ c1, i0, up2_no (fun z => absurd z.1 (by decide)), up2_no (fun z => absurd z.1 (by decide)), up2_no (fun z => absurd z.1 (by decide)), s_newO_fI]
    exact if_pos hz.symm
  · rw [i3, up2_is]
  · rw [up2_no (fun z => c4 z.2), l3]
    exact y1
  · rw [up2_no (fun z => c4 z.2), l3]
    exact y2
  · rw [up2_no (fun z => c4 z.2), l3]
    exact y3
  · rw [up2_no (fun z => c5 z.2)]
    exact y4
  · rw [up2_no (fun z => c4 z.2), d3]
    exact x1
  · rw [up2_no (fun z => c4 z.2), d3]
    exact x2
  · rw [up2_no (fun z => c4 z.2), d3]
    exact x3
  · rw [up2_no (fun z => c5 z.2)]
    exact x4
  · rw [up2_no (fun z => c4 z.2), a3, w1]
  · rw [up2_is]
theorem t0_r (k i : Nat) : m_t0.2 k i = 0 := rfl
theorem Jo_0 {n : Nat} (hn : n ≤ 1000000) (hk : kdC t o = 114) (hz : szC t = o + 1) : Jo o (o + 1) (o + 6) n 4 (st11 o t) m_t0 := by
  obtain ⟨k1, k2, k3⟩ := st11_kd hk hz
  obtain ⟨⟨r1, r2⟩, ⟨i1, i2, i3, i4, i5⟩, ⟨l1, l2, l3, l4⟩, ⟨c1, c2, c3, c4⟩, a1, q1⟩ := st11_f hz
  obtain ⟨S, hS⟩ : ∃ S, S = st11 o t := ⟨_, rfl⟩
  rw [← hS] at k1 k2 k3 r1 r2 i1 i2 i3 i4 i5 l1 l2 l3 l4 c1 c2 c3 c4 a1 q1 ⊢
  have n0 : zN m_t0 = 0 := by decide
  have nb : nbS S (o + 1) = 0 := by unfold nbS; rw [l1]; rfl
  have np : npS S (o + 1) = 0 := by unfold npS; rw [l2]; rfl
  have nr : nrS S (o + 1) = 0 := by unfold nrS; rw [l3]; rfl
  refine ⟨⟨k1, r1, r2, k3, ?_, ?_, ?_, ?_, ?_, ?_⟩, ⟨?_, ?_⟩, ⟨0, by omega, by rw [i4]; rfl, by rw [i5]; exact Or.inl rfl, fun v q hv hq => ?_⟩, fun z => ?_, fun v v2 q q2 hv hv2 hne hq hq2 => ?_⟩
  · unfold rB
    rw [nb, c1]
    exact ⟨k2, by omega, by omega, rfl, fun i hi => absurd hi (Nat.not_lt_zero _), fun i i2 hi => absurd hi (Nat.not_lt_zero _), fun v i v2 i2 hi => absurd hi (Nat.not_lt_zero _), fun v i j v2 i2 j2 hi => absurd hi (Nat.not_lt_zero _)⟩
  · exact ⟨rfl, by rw [n0]; omega, fun i hi => by rw [n0] at hi; exact absurd hi (Nat.not_lt_zero _)⟩
  · unfold rP
    rw [np, c2]
    exact ⟨by omega, rfl, by omega, fun k hk => absurd hk (Nat.not_lt_zero _), fun k k2 hk => absurd hk (Nat.not_lt_zero _), fun k _ _ => rfl⟩
  · unfold rT
    rw [nr, c3, n0]
    refine ⟨by omega, fun i hi => ?_, rfl, fun k hk => absurd hk (Nat.not_lt_zero _), fun i hi => absurd hi (Nat.not_lt_zero _), fun k k2 hk => absurd hk (Nat.not_lt_zero _)⟩
    rw [n0] at hi
    exact absurd hi (Nat.not_lt_zero _)
  · refine ⟨fun v _ => a1 v, i1, i2, i3, ⟨120, by omega, by omega, rfl⟩, ⟨4, by omega, by omega, rfl⟩, ⟨1500, by omega, rfl⟩⟩
  · exact ⟨rfl, fun v i _ _ _ => ⟨rfl, rfl⟩⟩
  · unfold rowOk
    rw [l4]
    exact ⟨fun k hk => absurd hk (Nat.not_lt_zero _), fun k k2 hk => absurd hk (Nat.not_lt_zero _)⟩
  · unfold capOk
    rw [l4, c4]
    exact ⟨Or.inl rfl, by omega, Nat.zero_le _⟩
  · rw [q1] at hq
    exact absurd hq (by intro z; cases z)
  · rw [i5, i4] at z
    exact absurd z (by decide)
  · rw [q1] at hq
    exact absurd hq (by intro z; cases z)
end MC
