/-! P57: THE LAW'S BODY -/
def cst (k : Nat) : Nat := 2600 * (150 - k) + 4500 * (6 - k / 25)
theorem cst_s {k : Nat} (hk : k < 150) : cst (k + 1) + 2600 ≤ cst k ∧ (k % 25 = 24 → cst (k + 1) + 7100 ≤ cst k) := by
  unfold cst
  have h1 := Nat.div_add_mod k 25
  have h2 := Nat.mod_lt k (show 0 < 25 by decide)
  have h3 := Nat.div_add_mod (k + 1) 25
  have h4 := Nat.mod_lt (k + 1) (show 0 < 25 by decide)
  refine ⟨?_, fun h => ?_⟩ <;> omega
section LL
variable {p : Program} {l : Launch} {e : Env} {s : State} {m : MethodId} {b : Nat} {below : List Frame} {meth : Method} {c : Code} {L : Nat} {xs : Nat → Int32}
variable {hd : Cond} {D : va_G} {K : Nat → ClassId} {E0 : Nat} {b' : Nat × Nat} {o so po ga ta : Nat}
set_option maxRecDepth 20000 in
theorem l_loop (C : rx_Cx p l s m #[Value.ref b] c meth code 7 hd D K E0 (lB s) s.heap.size room_1) (hr : meth.sig.returnType = ret) (hX : va_X b L xs s s.heap) (hbl : b < s.heap.size) (hL : L ≤ 260) (hb : hB b' (lB s)) (hne : ga ≠ ta) : ∀ d k, k + d = 150 → ∀ (S : CS) (A : MS) (r : LR), lwI b' o so po r ga ta (cst k + 10) S A → GR p l e room_1 s m #[Value.ref b] below meth c 7 D K E0 (lB s) s.heap.size (lw_Z below #[Value.ref b] s) (S, r) 78 [(5, .int (nI k)), (4, .int 1), (3, .ref ta), (2, .ref ga), (1, .ref o), (0, .ref b)] [] := by
  intro d
  induction d with
  | zero =>
    intro k hk S A r I
    refine gr_iload C 0 dL_law_78 rfl ?_
    refine gr_sipush C 150 dL_law_80 (by decide) ?_
    refine gr_icmp_ge C 151 dL_law_83 (by decide) (fun _ => ?_) (fun c1 => absurd (nI_le (a := 150) (b := k) (by omega) (by omega)) c1)
    refine gr_iload C 1 dL_law_151 rfl ?_
    exact gr_end C hr dL_law_153
  | succ d ih =>
    intro k hk S A r I
    have hk150 : k < 150 := by omega
    obtain ⟨c1, c2⟩ := cst_s hk150
    have e2 : (2 : Int32) * nI k = nI (2 * k) := pk_mul 2 k
    have fin : ∀ (S' : CS) (A' : MS) (r' : LR) (x : Int32), lwI b' o so po r' ga ta (cst (k + 1) + 10) S' A' → GR p l e room_1 s m #[Value.ref b] below meth c 7 D K E0 (lB s) s.heap.size (lw_Z below #[Value.ref b] s) (S', r') 145 [(4, .int 1), (6, .int x), (5, .int (nI k)), (3, .ref ta), (2, .ref ga), (1, .ref o), (0, .ref b)] [] := by
      intro S' A' r' x I'
      refine gr_iinc C 2 (nI (k + 1)) [(5, .int (nI (k + 1))), (4, .int 1), (6, .int x), (3, .ref ta), (2, .ref ga), (1, .ref o), (0, .ref b)] dL_law_145 rfl (nI_1 k) (by decide) rfl ?_
      refine gr_goto C 78 dL_law_148 (by decide) ?_
      refine gr_sub [0, 1, 3, 4, 5, 6] rfl ?_
      exact ih (k + 1) (by omega) S' A' r' I'
    refine gr_iload C 0 dL_law_78 rfl ?_
    refine gr_sipush C 150 dL_law_80 (by decide) ?_
    refine gr_icmp_ge C 151 dL_law_83 (by decide) (fun c1 => absurd c1 (nI_ge (a := k) (b := 150) hk150 (by decide))) (fun _ => ?_)
    refine gr_iload C 1 dL_law_86 rfl ?_
    refine gr_if_eq C 151 dL_law_88 (by decide) (fun z => absurd z one_ne) (fun _ => ?_)
    refine gr_aloadn C 5 0 dL_law_91 rfl rfl ?_
    refine gr_iconst C 2 dL_law_92 (by decide) ?_
    refine gr_iload C 0 dL_law_93 rfl ?_
    refine gr_imul C dL_law_95 ?_
    rw [e2]
    refine gr_callA C hX hbl (by omega) hL (by exact ⟨Nat.le_of_ble_eq_true rfl, Nat.le_of_ble_eq_true rfl⟩) dL_law_96 (Nat.le_of_ble_eq_true rfl) (fun x => ?_)
    refine gr_istore C [(6, .int x), (5, .int (nI k)), (4, .int 1), (3, .ref ta), (2, .ref ga), (1, .ref o), (0, .ref b)] dL_law_99 (by decide) rfl ?_
    refine gr_aloadn C 5 1 dL_law_101 rfl rfl ?_
    refine gr_aloadn C 4 2 dL_law_102 rfl rfl ?_
    refine gr_aloadn C 3 3 dL_law_103 rfl rfl ?_
    refine gr_iload C 0 dL_law_104 rfl ?_
    refine gr_aloadn C 6 0 dL_law_106 rfl rfl ?_
    refine gr_iconst C 2 dL_law_107 (by decide) ?_
    refine gr_iload C 1 dL_law_108 rfl ?_
    refine gr_imul C dL_law_110 ?_
    refine gr_iconst C 1 dL_law_111 (by decide) ?_
    refine gr_iadd C dL_law_112 ?_
    rw [e2, nI_1]
    refine gr_callA C hX hbl (by omega) hL (by exact ⟨Nat.le_of_ble_eq_true rfl, Nat.le_of_ble_eq_true rfl⟩) dL_law_113 (Nat.le_of_ble_eq_true rfl) (fun y => ?_)
    have hz := Jp_sz (k := 0) hb (Jp_dn (m := cst k + 10 + 0) I.1 (Nat.le_refl _))
    refine gr_callS C (y := yL_acts) (as := [.ref o, .ref ga, .ref ta, .int x, .int y]) (by exact ⟨Nat.le_of_ble_eq_true rfl, Nat.le_of_ble_eq_true rfl⟩) (lB s) ⟨Nat.le_refl _, Nat.le_refl _⟩ ⟨by show szC S ≤ _; omega, by show nsC S ≤ _; omega⟩ (c_L_acts l D K E0 s.heap.size (lB s) o ga ta x y (S, r) (fun v t => v = 1 ∧ ∃ S' A' r', t = ((S', r') : LwS) ∧ lwI b' o so po r' ga ta (cst k + 10 - 2600) S' A') (pf_acts (n := cst k + 10 - 2600) hb (lwI_dn I (by omega)) hne (fun S' A' r' I' => ⟨rfl, S', A', r', rfl, I'⟩))) hk_L_acts rfl fs_354 kc_L_acts dL_law_116 (Nat.le_of_ble_eq_true rfl) (fun r1 t1 h z1 z2 => ?_)
    obtain ⟨rfl, S', A', r', rfl, I'⟩ := h
    refine gr_istore C [(4, .int 1), (6, .int x), (5, .int (nI k)), (3, .ref ta), (2, .ref ga), (1, .ref o), (0, .ref b)] dL_law_119 (by decide) rfl ?_
    refine gr_iload C 0 dL_law_121 rfl ?_
    refine gr_if_eq C 145 dL_law_123 (by decide) (fun z => absurd z one_ne) (fun _ => ?_)
    refine gr_iload C 2 dL_law_126 rfl ?_
    refine gr_bipush C 25 dL_law_128 (by decide) ?_
    refine gr_irem C dL_law_130 (by decide) ?_
    have e25 : mRem (nI k) 25 = nI (k % 25) := pk_rem (a := k) (d := 25) (by omega) (by decide) (by decide)
    rw [e25]
    refine gr_bipush C 24 dL_law_131 (by decide) ?_
    refine gr_icmp_ne C 145 dL_law_133 (by decide) (fun _ => fin S' A' r' x (lwI_dn I' (by omega))) (fun z => ?_)
    have h24 : k % 25 = 24 := (nI_eq (b := 24) (by omega) (by decide)).mp z
    have hc := c2 h24
    refine gr_aloadn C 5 1 dL_law_136 rfl rfl ?_
    refine gr_aloadn C 4 2 dL_law_137 rfl rfl ?_
    refine gr_iload C 1 dL_law_138 rfl ?_
    have hz' := Jp_sz (k := 0) hb (Jp_dn (m := cst k + 10 - 2600 + 0) I'.1 (Nat.le_refl _))
    refine gr_callS C (y := yL_isSo) (as := [.ref o, .ref ga, .int x]) (by exact ⟨Nat.le_of_ble_eq_true rfl, Nat.le_of_ble_eq_true rfl⟩) (lB s) ⟨Nat.le_refl _, Nat.le_refl _⟩ ⟨by show szC S' ≤ _; omega, by show nsC S' ≤ _; omega⟩ (c_L_isSo l D K E0 s.heap.size (lB s) o ga x (S', r') (fun v t => v = 1 ∧ ∃ S2 r2, t = ((S2, r2) : LwS) ∧ lwI b' o so po r2 ga ta (cst (k + 1) + 10) S2 A') (pf_isSo (n := cst (k + 1) + 10) hb (Jp_dn I'.1 (by omega)) I'.2.2.1 (gdW_mk I'.2.1) (fun S2 r2 J2 hr2 => ⟨rfl, S2, r2, rfl, J2, I'.2.1, gRow_e I'.2.2.1 hr2, tRow_e I'.2.2.2 hr2⟩))) hk_L_isSo rfl fs_347 kc_L_isSo dL_law_140 (Nat.le_of_ble_eq_true rfl) (fun r1 t1 h z1 z2 => ?_)
    obtain ⟨rfl, S2, r2, rfl, I2⟩ := h
    refine gr_istore C [(4, .int 1), (6, .int x), (5, .int (nI k)), (3, .ref ta), (2, .ref ga), (1, .ref o), (0, .ref b)] dL_law_143 (by decide) rfl ?_
    exact fin S2 A' r2 x I2
end LL
