/-! THE CLASS AS IT IS MADE -/
def st6 (o : Nat) (t : CS) : CS := (uat (uat (uat (usI (uat (uat (uat t 144 o 9 48) 145 o 9 48) 148 o 9 3) 150 o (-1)) 151 o 9 4) 152 o 9 4) 153 o 9 4)
theorem i_X6 {B : Nat × Nat} {o : Nat} {t : CS} {Q : CS → Prop} {X : String → CS → Prop} (hk : kdC t o = 109) (hz : szC t = o + 1) (hr : szC t + 6 ≤ B.1 ∧ nsC t + 111 ≤ B.2) (h : Q (st6 o t)) : w_X6_init B o t Q X := by
  obtain ⟨r1, r2⟩ := hr
  have v0 : attV 109 9 = 209 := by decide
  have v1 : attV 209 9 = 309 := by decide
  have v2 : attV 309 9 = 409 := by decide
  have v3 : attV 409 9 = 509 := by decide
  have v4 : attV 509 9 = 609 := by decide
  have v5 : attV 609 9 = 9 := by decide
  have e0 : kdC (uat t 144 o 9 48) o = 209 := by rw [s_uat_kdC, va_up_at, if_pos rfl, hk, v0]
  have e1 : kdC (uat (uat t 144 o 9 48) 145 o 9 48) o = 309 := by rw [s_uat_kdC, va_up_at, if_pos rfl, e0, v1]
  have e2 : kdC (uat (uat (uat t 144 o 9 48) 145 o 9 48) 148 o 9 3) o = 409 := by rw [s_uat_kdC, va_up_at, if_pos rfl, e1, v2]
  have e3 : kdC (uat (usI (uat (uat (uat t 144 o 9 48) 145 o 9 48) 148 o 9 3) 150 o (-1)) 151 o 9 4) o = 509 := by rw [s_uat_kdC, va_up_at, if_pos rfl, s_usI_kdC, e2, v3]
  have e4 : kdC (uat (uat (usI (uat (uat (uat t 144 o 9 48) 145 o 9 48) 148 o 9 3) 150 o (-1)) 151 o 9 4) 152 o 9 4) o = 609 := by rw [s_uat_kdC, va_up_at, if_pos rfl, e3, v4]
  have e5 : kdC (uat (uat (uat (usI (uat (uat (uat t 144 o 9 48) 145 o 9 48) 148 o 9 3) 150 o (-1)) 151 o 9 4) 152 o 9 4) 153 o 9 4) o = 9 := by rw [s_uat_kdC, va_up_at, if_pos rfl, e4, v5]
  have z0 : szC (uat t 144 o 9 48) = o + 2 := by rw [s_uat_szC, hz]
  have z1 : szC (uat (uat t 144 o 9 48) 145 o 9 48) = o + 3 := by rw [s_uat_szC, z0]
  have z2 : szC (uat (uat (uat t 144 o 9 48) 145 o 9 48) 148 o 9 3) = o + 4 := by rw [s_uat_szC, z1]
  have z3 : szC (uat (usI (uat (uat (uat t 144 o 9 48) 145 o 9 48) 148 o 9 3) 150 o (-1)) 151 o 9 4) = o + 5 := by rw [s_uat_szC, s_usI_szC, z2]
  have z4 : szC (uat (uat (usI (uat (uat (uat t 144 o 9 48) 145 o 9 48) 148 o 9 3) 150 o (-1)) 151 o 9 4) 152 o 9 4) = o + 6 := by rw [s_uat_szC, z3]
  have z5 : szC (uat (uat (uat (usI (uat (uat (uat t 144 o 9 48) 145 o 9 48) 148 o 9 3) 150 o (-1)) 151 o 9 4) 152 o 9 4) 153 o 9 4) = o + 7 := by rw [s_uat_szC, z4]
  have n0 : nsC (uat t 144 o 9 48) = nsC t + 48 := rfl
  have n1 : nsC (uat (uat t 144 o 9 48) 145 o 9 48) = nsC t + 48 + 48 := rfl
  have n2 : nsC (uat (uat (uat t 144 o 9 48) 145 o 9 48) 148 o 9 3) = nsC t + 48 + 48 + 3 := rfl
  have n3 : nsC (uat (usI (uat (uat (uat t 144 o 9 48) 145 o 9 48) 148 o 9 3) 150 o (-1)) 151 o 9 4) = nsC t + 48 + 48 + 3 + 4 := rfl
  have n4 : nsC (uat (uat (usI (uat (uat (uat t 144 o 9 48) 145 o 9 48) 148 o 9 3) 150 o (-1)) 151 o 9 4) 152 o 9 4) = nsC t + 48 + 48 + 3 + 4 + 4 := rfl
  have n5 : nsC (uat (uat (uat (usI (uat (uat (uat t 144 o 9 48) 145 o 9 48) 148 o 9 3) 150 o (-1)) 151 o 9 4) 152 o 9 4) 153 o 9 4) = nsC t + 48 + 48 + 3 + 4 + 4 + 4 := rfl
  have c2 : cEI 144 = 0 ∧ cEI 145 = 1 ∧ cEI 148 = 2 ∧ cEI 151 = 3 ∧ cEI 152 = 4 ∧ cEI 153 = 5 := by decide +kernel
  have c3 : cOF 144 = 1 ∧ cOF 145 = 2 ∧ cOF 148 = 3 ∧ cOF 151 = 4 ∧ cOF 152 = 5 ∧ cOF 153 = 6 := by decide +kernel
  have c4 : cLN 144 = 48 ∧ cLN 145 = 48 ∧ cLN 151 = 4 ∧ cLN 152 = 4 ∧ cLN 153 = 4 := by decide +kernel
  obtain ⟨c20, c21, c22, c23, c24, c25⟩ := c2
  obtain ⟨c30, c31, c32, c33, c34, c35⟩ := c3
  obtain ⟨c40, c41, c42, c43, c44⟩ := c4
  have u1 : kdC (usI (uat (uat (uat t 144 o 9 48) 145 o 9 48) 148 o 9 3) 150 o (-1)) o = 409 := by rw [s_usI_kdC, e2]
  have u2 : szC (usI (uat (uat (uat t 144 o 9 48) 145 o 9 48) 148 o 9 3) 150 o (-1)) = o + 4 := by rw [s_usI_szC, z2]
  have u3 : nsC (usI (uat (uat (uat t 144 o 9 48) 145 o 9 48) 148 o 9 3) 150 o (-1)) = nsC t + 48 + 48 + 3 := rfl
  unfold w_X6_init
  rw [c40, c41, c42, c43, c44]
  refine ⟨⟨by omega, by omega, by omega, by omega⟩, ⟨by omega, by omega⟩, ?_⟩
  rintro _ rfl
  refine ⟨⟨by omega, by omega, by omega, by omega⟩, ⟨by omega, by omega⟩, ?_⟩
  rintro _ rfl
  refine ⟨⟨by omega, by omega, by omega, by omega⟩, ⟨by omega, by omega⟩, ?_⟩
  rintro _ rfl _ rfl
  refine ⟨⟨by omega, by omega, by omega, by omega⟩, ⟨by omega, by omega⟩, ?_⟩
  rintro _ rfl
  refine ⟨⟨by omega, by omega, by omega, by omega⟩, ⟨by omega, by omega⟩, ?_⟩
  rintro _ rfl
  refine ⟨⟨by omega, by omega, by omega, by omega⟩, ⟨by omega, by omega⟩, ?_⟩
  rintro _ rfl
  exact h
theorem st9_kd {o q : Nat} {t : CS} (h : q ≠ o) : kdC (st9 o t) q = kdC t q := by simp only [st9, s_usI_kdC, s_uat_kdC, va_up_at, if_neg h]
theorem st6_kd {o q : Nat} {t : CS} (h : q ≠ o) : kdC (st6 o t) q = kdC t q := by simp only [st6, s_usI_kdC, s_uat_kdC, va_up_at, if_neg h]
/-- the object of the class as it is made -/
def st11 (o : Nat) (t : CS) : CS := uat (usR (st6 (o + 6) (newO (usR (st9 (o + 1) (newO t 12)) 224 o (some (o + 1))) 9)) 225 o (some (o + 6))) 226 o 14 4
theorem i_X11 {B : Nat × Nat} {o : Nat} {t : CS} {Q : CS → Prop} {X : String → CS → Prop} (hk : kdC t o = 114) (hz : szC t = o + 1) (hr : szC t + 13 ≤ B.1 ∧ nsC t + 146 ≤ B.2) (h : Q (st11 o t)) : w_X11_init B o t Q X := by
  obtain ⟨r1, r2⟩ := hr
  have c1 : cNF 12 = 8 ∧ cNF 9 = 10 ∧ cNE 12 = 4 ∧ cNE 9 = 6 ∧ cEI 226 = 0 ∧ cOF 226 = 13 ∧ cLN 226 = 4 := by decide +kernel
  obtain ⟨c11, c12, c13, c14, c15, c16, c17⟩ := c1
  have a1 : kdC (newO t 12) (o + 1) = 112 := by
    rw [s_newO_kdC, hz, va_up_at, if_pos rfl, c13]
    rfl
  have a2 : szC (newO t 12) = o + 2 := by rw [s_newO_szC, hz]
  have a3 : nsC (newO t 12) = nsC t + 8 := by rw [s_newO_nsC, c11]
  have a4 : kdC (newO t 12) o = 114 := by
    rw [s_newO_kdC, hz, va_up_at, if_neg (by omega), hk]
  have b1 : kdC (usR (st9 (o + 1) (newO t 12)) 224 o (some (o + 1))) o = 114 := by rw [s_usR_kdC, st9_kd (by omega), a4]
  have b2 : szC (usR (st9 (o + 1) (newO t 12)) 224 o (some (o + 1))) = o + 6 := by
    show szC (newO t 12) + 1 + 1 + 1 + 1 = o + 6
    omega
  have b3 : nsC (usR (st9 (o + 1) (newO t 12)) 224 o (some (o + 1))) = nsC t + 21 := by
    show nsC (newO t 12) + 3 + 3 + 3 + 4 = nsC t + 21
    omega
  unfold w_X11_init
  rw [hz, c11, c12, c17]
  refine ⟨⟨by omega, by omega⟩, fun _ => ?_⟩
  rintro _ rfl
  refine i_X9 a1 (by omega) ⟨by omega, by omega⟩ ⟨?_, ?_⟩
  · show kdC (st9 (o + 1) (newO t 12)) o % 100 = 14
    rw [st9_kd (by omega), a4]
  rintro _ rfl
  rw [b2, b3]
  refine ⟨⟨by omega, by omega⟩, fun _ => ?_⟩
  rintro _ rfl
  have d1 : kdC (newO (usR (st9 (o + 1) (newO t 12)) 224 o (some (o + 1))) 9) (o + 6) = 109 := by
    rw [s_newO_kdC, b2, va_up_at, if_pos rfl, c14]
    rfl
  have d2 : szC (newO (usR (st9 (o + 1) (newO t 12)) 224 o (some (o + 1))) 9) = o + 7 := by rw [s_newO_szC, b2]
  have d3 : nsC (newO (usR (st9 (o + 1) (newO t 12)) 224 o (some (o + 1))) 9) = nsC t + 31 := by rw [s_newO_nsC, b3, c12]
  have d4 : kdC (newO (usR (st9 (o + 1) (newO t 12)) 224 o (some (o + 1))) 9) o = 114 := by
    rw [s_newO_kdC, b2, va_up_at, if_neg (by omega), b1]
  refine i_X6 d1 (by omega) ⟨by omega, by omega⟩ ⟨?_, ?_⟩
  · show kdC (st6 (o + 6) _) o % 100 = 14
    rw [st6_kd (by omega), d4]
  rintro _ rfl
  have f1 : kdC (usR (st6 (o + 6) (newO (usR (st9 (o + 1) (newO t 12)) 224 o (some (o + 1))) 9)) 225 o (some (o + 6))) o = 114 := by rw [s_usR_kdC, st6_kd (by omega), d4]
  have f2 : szC (usR (st6 (o + 6) (newO (usR (st9 (o + 1) (newO t 12)) 224 o (some (o + 1))) 9)) 225 o (some (o + 6))) = o + 13 := by
    show szC (newO (usR (st9 (o + 1) (newO t 12)) 224 o (some (o + 1))) 9) + 1 + 1 + 1 + 1 + 1 + 1 = o + 13
    omega
  have f3 : nsC (usR (st6 (o + 6) (newO (usR (st9 (o + 1) (newO t 12)) 224 o (some (o + 1))) 9)) 225 o (some (o + 6))) = nsC t + 142 := by
    show nsC (newO (usR (st9 (o + 1) (newO t 12)) 224 o (some (o + 1))) 9) + 48 + 48 + 3 + 4 + 4 + 4 = nsC t + 142
    omega
  refine ⟨⟨by omega, by omega, by omega, by omega⟩, ⟨by omega, by omega⟩, ?_⟩
  rintro _ rfl
  exact h
