/-! THE CLASS'S STATE: what a change sets, and what it leaves -/
theorem s_usI_kdC (S : CS) (f o : Nat) (v : Int32) : kdC (usI S f o v) = kdC S := rfl
theorem s_usI_fI (S : CS) (f o : Nat) (v : Int32) : fI (usI S f o v) = up2 (fI S) f o v := rfl
theorem s_usI_fA (S : CS) (f o : Nat) (v : Int32) : fA (usI S f o v) = fA S := rfl
theorem s_usI_fJ (S : CS) (f o : Nat) (v : Int32) : fJ (usI S f o v) = fJ S := rfl
theorem s_usI_fR (S : CS) (f o : Nat) (v : Int32) : fR (usI S f o v) = fR S := rfl
theorem s_usI_fQ (S : CS) (f o : Nat) (v : Int32) : fQ (usI S f o v) = fQ S := rfl
theorem s_usI_fL (S : CS) (f o : Nat) (v : Int32) : fL (usI S f o v) = fL S := rfl
theorem s_usI_fC (S : CS) (f o : Nat) (v : Int32) : fC (usI S f o v) = fC S := rfl
theorem s_usI_szC (S : CS) (f o : Nat) (v : Int32) : szC (usI S f o v) = szC S := rfl
theorem s_usI_nsC (S : CS) (f o : Nat) (v : Int32) : nsC (usI S f o v) = nsC S := rfl
theorem s_usA_kdC (S : CS) (f o : Nat) (i v : Int32) : kdC (usA S f o i v) = kdC S := rfl
theorem s_usA_fI (S : CS) (f o : Nat) (i v : Int32) : fI (usA S f o i v) = fI S := rfl
theorem s_usA_fA (S : CS) (f o : Nat) (i v : Int32) : fA (usA S f o i v) = up2 (fA S) f o (va_up (fA S f o) i.toNatClampNeg v) := rfl
theorem s_usA_fJ (S : CS) (f o : Nat) (i v : Int32) : fJ (usA S f o i v) = fJ S := rfl
theorem s_usA_fR (S : CS) (f o : Nat) (i v : Int32) : fR (usA S f o i v) = fR S := rfl
theorem s_usA_fQ (S : CS) (f o : Nat) (i v : Int32) : fQ (usA S f o i v) = fQ S := rfl
theorem s_usA_fL (S : CS) (f o : Nat) (i v : Int32) : fL (usA S f o i v) = fL S := rfl
theorem s_usA_fC (S : CS) (f o : Nat) (i v : Int32) : fC (usA S f o i v) = fC S := rfl
theorem s_usA_szC (S : CS) (f o : Nat) (i v : Int32) : szC (usA S f o i v) = szC S := rfl
theorem s_usA_nsC (S : CS) (f o : Nat) (i v : Int32) : nsC (usA S f o i v) = nsC S := rfl
theorem s_usJ_kdC (S : CS) (o : Nat) (i : Int32) (v : Int64) : kdC (usJ S o i v) = kdC S := rfl
theorem s_usJ_fI (S : CS) (o : Nat) (i : Int32) (v : Int64) : fI (usJ S o i v) = fI S := rfl
theorem s_usJ_fA (S : CS) (o : Nat) (i : Int32) (v : Int64) : fA (usJ S o i v) = fA S := rfl
theorem s_usJ_fJ (S : CS) (o : Nat) (i : Int32) (v : Int64) : fJ (usJ S o i v) = va_up (fJ S) o (va_up (fJ S o) i.toNatClampNeg v) := rfl
theorem s_usJ_fR (S : CS) (o : Nat) (i : Int32) (v : Int64) : fR (usJ S o i v) = fR S := rfl
theorem s_usJ_fQ (S : CS) (o : Nat) (i : Int32) (v : Int64) : fQ (usJ S o i v) = fQ S := rfl
theorem s_usJ_fL (S : CS) (o : Nat) (i : Int32) (v : Int64) : fL (usJ S o i v) = fL S := rfl
theorem s_usJ_fC (S : CS) (o : Nat) (i : Int32) (v : Int64) : fC (usJ S o i v) = fC S := rfl
theorem s_usJ_szC (S : CS) (o : Nat) (i : Int32) (v : Int64) : szC (usJ S o i v) = szC S := rfl
theorem s_usJ_nsC (S : CS) (o : Nat) (i : Int32) (v : Int64) : nsC (usJ S o i v) = nsC S := rfl
theorem s_usR_kdC (S : CS) (f o : Nat) (v : Option Nat) : kdC (usR S f o v) = kdC S := rfl
theorem s_usR_fI (S : CS) (f o : Nat) (v : Option Nat) : fI (usR S f o v) = fI S := rfl
theorem s_usR_fA (S : CS) (f o : Nat) (v : Option Nat) : fA (usR S f o v) = fA S := rfl
theorem s_usR_fJ (S : CS) (f o : Nat) (v : Option Nat) : fJ (usR S f o v) = fJ S := rfl
theorem s_usR_fR (S : CS) (f o : Nat) (v : Option Nat) : fR (usR S f o v) = up2 (fR S) f o v := rfl
theorem s_usR_fQ (S : CS) (f o : Nat) (v : Option Nat) : fQ (usR S f o v) = fQ S := rfl
theorem s_usR_fL (S : CS) (f o : Nat) (v : Option Nat) : fL (usR S f o v) = fL S := rfl
theorem s_usR_fC (S : CS) (f o : Nat) (v : Option Nat) : fC (usR S f o v) = fC S := rfl
theorem s_usR_szC (S : CS) (f o : Nat) (v : Option Nat) : szC (usR S f o v) = szC S := rfl
theorem s_usR_nsC (S : CS) (f o : Nat) (v : Option Nat) : nsC (usR S f o v) = nsC S := rfl
theorem s_usQ_kdC (S : CS) (f o : Nat) (i : Int32) (v : Option Nat) : kdC (usQ S f o i v) = kdC S := rfl
theorem s_usQ_fI (S : CS) (f o : Nat) (i : Int32) (v : Option Nat) : fI (usQ S f o i v) = fI S := rfl
theorem s_usQ_fA (S : CS) (f o : Nat) (i : Int32) (v : Option Nat) : fA (usQ S f o i v) = fA S := rfl
theorem s_usQ_fJ (S : CS) (f o : Nat) (i : Int32) (v : Option Nat) : fJ (usQ S f o i v) = fJ S := rfl
theorem s_usQ_fR (S : CS) (f o : Nat) (i : Int32) (v : Option Nat) : fR (usQ S f o i v) = fR S := rfl
theorem s_usQ_fQ (S : CS) (f o : Nat) (i : Int32) (v : Option Nat) : fQ (usQ S f o i v) = up2 (fQ S) f o (va_up (fQ S f o) i.toNatClampNeg v) := rfl
theorem s_usQ_fL (S : CS) (f o : Nat) (i : Int32) (v : Option Nat) : fL (usQ S f o i v) = fL S := rfl
theorem s_usQ_fC (S : CS) (f o : Nat) (i : Int32) (v : Option Nat) : fC (usQ S f o i v) = fC S := rfl
theorem s_usQ_szC (S : CS) (f o : Nat) (i : Int32) (v : Option Nat) : szC (usQ S f o i v) = szC S := rfl
theorem s_usQ_nsC (S : CS) (f o : Nat) (i : Int32) (v : Option Nat) : nsC (usQ S f o i v) = nsC S := rfl
theorem s_usL_kdC (S : CS) (f o : Nat) (l : List Nat) (c sz ns : Nat) : kdC (usL S f o l c sz ns) = kdC S := rfl
theorem s_usL_fI (S : CS) (f o : Nat) (l : List Nat) (c sz ns : Nat) : fI (usL S f o l c sz ns) = fI S := rfl
theorem s_usL_fA (S : CS) (f o : Nat) (l : List Nat) (c sz ns : Nat) : fA (usL S f o l c sz ns) = fA S := rfl
theorem s_usL_fJ (S : CS) (f o : Nat) (l : List Nat) (c sz ns : Nat) : fJ (usL S f o l c sz ns) = fJ S := rfl
theorem s_usL_fR (S : CS) (f o : Nat) (l : List Nat) (c sz ns : Nat) : fR (usL S f o l c sz ns) = fR S := rfl
theorem s_usL_fQ (S : CS) (f o : Nat) (l : List Nat) (c sz ns : Nat) : fQ (usL S f o l c sz ns) = fQ S := rfl
theorem s_usL_fL (S : CS) (f o : Nat) (l : List Nat) (c sz ns : Nat) : fL (usL S f o l c sz ns) = up2 (fL S) f o l := rfl
theorem s_usL_fC (S : CS) (f o : Nat) (l : List Nat) (c sz ns : Nat) : fC (usL S f o l c sz ns) = up2 (fC S) f o c := rfl
theorem s_usL_szC (S : CS) (f o : Nat) (l : List Nat) (c sz ns : Nat) : szC (usL S f o l c sz ns) = sz := rfl
theorem s_usL_nsC (S : CS) (f o : Nat) (l : List Nat) (c sz ns : Nat) : nsC (usL S f o l c sz ns) = ns := rfl
theorem s_rsz_kdC (S : CS) (sz ns : Nat) : kdC (rsz S sz ns) = kdC S := rfl
theorem s_rsz_fI (S : CS) (sz ns : Nat) : fI (rsz S sz ns) = fI S := rfl
theorem s_rsz_fA (S : CS) (sz ns : Nat) : fA (rsz S sz ns) = fA S := rfl
theorem s_rsz_fJ (S : CS) (sz ns : Nat) : fJ (rsz S sz ns) = fJ S := rfl
theorem s_rsz_fR (S : CS) (sz ns : Nat) : fR (rsz S sz ns) = fR S := rfl
theorem s_rsz_fQ (S : CS) (sz ns : Nat) : fQ (rsz S sz ns) = fQ S := rfl
theorem s_rsz_fL (S : CS) (sz ns : Nat) : fL (rsz S sz ns) = fL S := rfl
theorem s_rsz_fC (S : CS) (sz ns : Nat) : fC (rsz S sz ns) = fC S := rfl
theorem s_rsz_szC (S : CS) (sz ns : Nat) : szC (rsz S sz ns) = sz := rfl
theorem s_rsz_nsC (S : CS) (sz ns : Nat) : nsC (rsz S sz ns) = ns := rfl
theorem s_uat_kdC (S : CS) (f o ci sl : Nat) : kdC (uat S f o ci sl) = va_up (kdC S) o (attV (kdC S o) ci) := rfl
theorem s_uat_fI (S : CS) (f o ci sl : Nat) : fI (uat S f o ci sl) = fI S := rfl
theorem s_uat_fA (S : CS) (f o ci sl : Nat) : fA (uat S f o ci sl) = up2 (fA S) f o (fun _ => 0) := rfl
theorem s_uat_fJ (S : CS) (f o ci sl : Nat) : fJ (uat S f o ci sl) = if cFT f = 2 then va_up (fJ S) o (fun _ => 0) else fJ S := rfl
theorem s_uat_fR (S : CS) (f o ci sl : Nat) : fR (uat S f o ci sl) = fR S := rfl
theorem s_uat_fQ (S : CS) (f o ci sl : Nat) : fQ (uat S f o ci sl) = up2 (fQ S) f o (fun _ => none) := rfl
theorem s_uat_fL (S : CS) (f o ci sl : Nat) : fL (uat S f o ci sl) = up2 (fL S) f o [] := rfl
theorem s_uat_fC (S : CS) (f o ci sl : Nat) : fC (uat S f o ci sl) = up2 (fC S) f o 0 := rfl
theorem s_uat_szC (S : CS) (f o ci sl : Nat) : szC (uat S f o ci sl) = szC S + 1 := rfl
theorem s_uat_nsC (S : CS) (f o ci sl : Nat) : nsC (uat S f o ci sl) = nsC S + sl := rfl
theorem s_newO_kdC (S : CS) (ci : Nat) : kdC (newO S ci) = va_up (kdC S) (szC S) (if cNE ci = 0 then ci else ci + 100) := rfl
theorem s_newO_fI (S : CS) (ci : Nat) : fI (newO S ci) = (fun f q => if q = szC S then 0 else fI S f q) := rfl
theorem s_newO_fA (S : CS) (ci : Nat) : fA (newO S ci) = fA S := rfl
theorem s_newO_fJ (S : CS) (ci : Nat) : fJ (newO S ci) = fJ S := rfl
theorem s_newO_fR (S : CS) (ci : Nat) : fR (newO S ci) = (fun f q => if q = szC S then none else fR S f q) := rfl
theorem s_newO_fQ (S : CS) (ci : Nat) : fQ (newO S ci) = fQ S := rfl
theorem s_newO_fL (S : CS) (ci : Nat) : fL (newO S ci) = fL S := rfl
theorem s_newO_fC (S : CS) (ci : Nat) : fC (newO S ci) = fC S := rfl
theorem s_newO_szC (S : CS) (ci : Nat) : szC (newO S ci) = szC S + 1 := rfl
theorem s_newO_nsC (S : CS) (ci : Nat) : nsC (newO S ci) = nsC S + cNF ci := rfl
theorem up2_at {α : Type} (f : Nat → Nat → α) (k o : Nat) (v : α) (j q : Nat) : up2 f k o v j q = if j = k ∧ q = o then v else f j q := rfl
theorem va_up_at {α : Type} (f : Nat → α) (k : Nat) (v : α) (j : Nat) : va_up f k v j = if j = k then v else f j := rfl
/-- the score as it is made -/
def st9 (o : Nat) (t : CS) : CS := usI (usI (usI (uat (uat (uat (uat t 192 o 12 3) 193 o 12 3) 194 o 12 3) 195 o 12 4) 196 o 120) 197 o 4) 198 o 1500
theorem i_X9 {B : Nat × Nat} {o : Nat} {t : CS} {Q : CS → Prop} {X : String → CS → Prop} (hk : kdC t o = 112) (hz : szC t = o + 1) (hr : szC t + 4 ≤ B.1 ∧ nsC t + 13 ≤ B.2) (h : Q (st9 o t)) : w_X9_init B o t Q X := by
  obtain ⟨r1, r2⟩ := hr
  have v1 : attV 112 12 = 212 := by decide
  have v2 : attV 212 12 = 312 := by decide
  have v3 : attV 312 12 = 412 := by decide
  have e1 : kdC (uat t 192 o 12 3) o = 212 := by rw [s_uat_kdC, va_up_at, if_pos rfl, hk, v1]
  have e2 : kdC (uat (uat t 192 o 12 3) 193 o 12 3) o = 312 := by rw [s_uat_kdC, va_up_at, if_pos rfl, e1, v2]
  have e3 : kdC (uat (uat (uat t 192 o 12 3) 193 o 12 3) 194 o 12 3) o = 412 := by rw [s_uat_kdC, va_up_at, if_pos rfl, e2, v3]
  have c2 : cEI 192 = 0 ∧ cEI 193 = 1 ∧ cEI 194 = 2 ∧ cEI 195 = 3 := by decide +kernel
  have c3 : cOF 192 = 1 ∧ cOF 193 = 2 ∧ cOF 194 = 3 ∧ cOF 195 = 4 := by decide +kernel
  have c4 : cLN 195 = 4 := by decide +kernel
  obtain ⟨c21, c22, c23, c24⟩ := c2
  obtain ⟨c31, c32, c33, c34⟩ := c3
  have z1 : szC (uat t 192 o 12 3) = o + 2 := by rw [s_uat_szC, hz]
  have z2 : szC (uat (uat t 192 o 12 3) 193 o 12 3) = o + 3 := by rw [s_uat_szC, z1]
  have z3 : szC (uat (uat (uat t 192 o 12 3) 193 o 12 3) 194 o 12 3) = o + 4 := by rw [s_uat_szC, z2]
  have n1 : nsC (uat t 192 o 12 3) = nsC t + 3 := rfl
  have n2 : nsC (uat (uat t 192 o 12 3) 193 o 12 3) = nsC t + 3 + 3 := rfl
  have n3 : nsC (uat (uat (uat t 192 o 12 3) 193 o 12 3) 194 o 12 3) = nsC t + 3 + 3 + 3 := rfl
  unfold w_X9_init
  rw [c4]
  refine ⟨⟨by omega, by omega, by omega, by omega⟩, ⟨by omega, by omega⟩, ?_⟩
  rintro _ rfl
  refine ⟨⟨by omega, by omega, by omega, by omega⟩, ⟨by omega, by omega⟩, ?_⟩
  rintro _ rfl
  refine ⟨⟨by omega, by omega, by omega, by omega⟩, ⟨by omega, by omega⟩, ?_⟩
  rintro _ rfl
  refine ⟨⟨by omega, by omega, by omega, by omega⟩, ⟨by omega, by omega⟩, ?_⟩
  rintro _ rfl _ rfl _ rfl _ rfl
  exact h
