/-! CONTRACTS OF THE LISTS' MEMBERS -/
section GJT
variable {p : Program} {l : Launch} {e : Env} {R : Room} {s : State} {m : MethodId} {args : Array Value} {below : List Frame} {meth : Method} {c : Code} {Q : State → Prop}
variable {cc : ByteArray} {nL : Nat} {own : String} {hd : Cond} {D : va_G} {K : Nat → ClassId} {E0 : Nat} {A EL : Nat → Prop}
variable {cs sl : Nat} {ws : va_W} {pc : Nat} {lv : List (Nat × Value)} {st : List Value}
theorem gj_aldS (C : gj_Cx p s m args c meth cc nL own hd D K E0 A EL) {a cap y : Nat} {f : Nat → Option Nat} {i : Int32} (q0 : Nat) (he : ws[q0]? = some (a, .inl (K 2, cap, .inr (.inr (.inr (.inr f)))))) (hin : vp_in i cap) (hy : f i.toNatClampNeg = some y) (d : decode cc pc = .ok (.aaload, 1)) (k : GJ p l e R s m args below meth c nL D K A EL Q cs sl ws (pc + 1) lv (.ref y :: st)) : GJ p l e R s m args below meth c nL D K A EL Q cs sl ws pc lv (.int i :: .ref a :: st) :=
  gj_ald C q0 he hin d (by rw [hy]; exact k)
end GJT
theorem j_cpyN {a b c : Nat} : va_cpy (fun _ => (none : Option Nat)) (fun _ => none) a b c = fun _ => none := by
  funext i
  unfold va_cpy
  split <;> rfl
theorem j_cpE {EL : Nat → Prop} {f : Nat → Option Nat} {cap : Nat} (h : ∀ i y, f i = some y → EL y) : ∀ i y, va_cpy f (fun _ => none) 0 0 cap i = some y → EL y := by
  intro i y hy
  unfold va_cpy at hy
  split at hy
  · exact h _ _ hy
  · cases hy
theorem j_m1 {n : Nat} (h : 0 < n) : nI n - 1 = nI (n - 1) := by
  have e := nI_pred (n - 1)
  rw [Nat.sub_add_cancel h] at e
  exact e
theorem j_growEq {cap : Nat} (h2 : 2 ≤ cap) (h3 : cap ≤ 500000) : (nI cap + (if ((nI cap + 1) - (nI cap)) < (nI cap >>> ((1 : Int32) &&& 31)) then (nI cap >>> ((1 : Int32) &&& 31)) else ((nI cap + 1) - (nI cap)))) = nI (cap + cap / 2) := by
  have es : nI cap >>> ((1 : Int32) &&& 31) = nI (cap / 2) := by
    have k := pk_shrN (n := cap) (by omega) ((1 : Int32) &&& 31) 1 (by decide)
    rw [Nat.pow_one] at k
    exact k
  have ed : nI cap + 1 - nI cap = nI 1 := by
    rw [nI_1]
    have k := pk_sub (a := cap + 1) (b := cap) (by omega)
    rw [Nat.add_sub_cancel_left] at k
    exact k
  rw [es, ed]
  by_cases c : 1 < cap / 2
  · rw [if_pos (nI_lt c (by omega))]
    exact nI_add cap (cap / 2)
  · rw [if_neg (nI_nlt (by omega) (by decide))]
    have hd : cap / 2 = 1 := by omega
    rw [hd]
    exact nI_add cap 1
theorem cj_Jxa1e45_init_da8c8 : Cond.code yJxa1e45_init_da8c8 cJxa1e45_init_da8c8 1 none ∈ wU := w_at 86 (by decide +kernel) (by decide +kernel)
theorem hcj_Jxa1e45_init_da8c8 : yJxa1e45_init_da8c8.cls = RJxa1e45 ∧ yJxa1e45_init_da8c8.cls ≠ "java/lang/invoke/MethodHandle" ∧ yJxa1e45_init_da8c8.cls ≠ "java/lang/invoke/VarHandle" ∧ (parseMethodDescriptor yJxa1e45_init_da8c8.desc).map (fun d => d.parameters.length) = some 0 := by decide +kernel
theorem wj_87 : Cond.methodLink RJxa1e45 1 Lib.objectInit ∈ wU := w_at 87 (by decide +kernel) (by decide +kernel)
theorem wj_68 : Cond.instanceMethod Lib.objectInit ∈ wU := w_at 68 (by decide +kernel) (by decide +kernel)
theorem wj_69 : Cond.code Lib.objectInit ⟨#[0xb1]⟩ 1 none ∈ wU := w_at 69 (by decide +kernel) (by decide +kernel)
theorem cj_Jxc12de_init_da8c8 : Cond.code yJxc12de_init_da8c8 cJxc12de_init_da8c8 1 none ∈ wU := w_at 83 (by decide +kernel) (by decide +kernel)
theorem hcj_Jxc12de_init_da8c8 : yJxc12de_init_da8c8.cls = RJxc12de ∧ yJxc12de_init_da8c8.cls ≠ "java/lang/invoke/MethodHandle" ∧ yJxc12de_init_da8c8.cls ≠ "java/lang/invoke/VarHandle" ∧ (parseMethodDescriptor yJxc12de_init_da8c8.desc).map (fun d => d.parameters.length) = some 0 := by decide +kernel
theorem wj_84 : Cond.methodLink RJxc12de 1 yJxa1e45_init_da8c8 ∈ wU := w_at 84 (by decide +kernel) (by decide +kernel)
theorem wj_30 : Cond.initialized RJxa1e45 ∈ wU := w_at 30 (by decide +kernel) (by decide +kernel)
theorem wj_85 : Cond.instanceMethod yJxa1e45_init_da8c8 ∈ wU := w_at 85 (by decide +kernel) (by decide +kernel)
theorem wj_92 : Cond.fieldLink RJxc12de 7 RJxc12de (TJx4a65c 0).2.1 (TJx4a65c 0).2.2.1 ∈ wU := w_at 92 (by decide +kernel) (by decide +kernel)
theorem cj_Jx4a65c_init_da8c8 : Cond.code yJx4a65c_init_da8c8 cJx4a65c_init_da8c8 1 none ∈ wU := w_at 80 (by decide +kernel) (by decide +kernel)
theorem hcj_Jx4a65c_init_da8c8 : yJx4a65c_init_da8c8.cls = RJx4a65c ∧ yJx4a65c_init_da8c8.cls ≠ "java/lang/invoke/MethodHandle" ∧ yJx4a65c_init_da8c8.cls ≠ "java/lang/invoke/VarHandle" ∧ (parseMethodDescriptor yJx4a65c_init_da8c8.desc).map (fun d => d.parameters.length) = some 0 := by decide +kernel
theorem wj_81 : Cond.methodLink RJx4a65c 1 yJxc12de_init_da8c8 ∈ wU := w_at 81 (by decide +kernel) (by decide +kernel)
theorem wj_31 : Cond.initialized RJxc12de ∈ wU := w_at 31 (by decide +kernel) (by decide +kernel)
theorem wj_82 : Cond.instanceMethod yJxc12de_init_da8c8 ∈ wU := w_at 82 (by decide +kernel) (by decide +kernel)
theorem wj_88 : Cond.fieldLink RJx4a65c 39 RJx4a65c "DEFAULTCAPACITY_EMPTY_ELEMENTDATA" "[Ljava/lang/Object;" ∈ wU := w_at 88 (by decide +kernel) (by decide +kernel)
theorem wj_90 : Cond.fieldLink RJx4a65c 9 RJx4a65c (TJx4a65c 1).2.1 (TJx4a65c 1).2.2.1 ∈ wU := w_at 90 (by decide +kernel) (by decide +kernel)
theorem cj_Jx4a65c_size_8abf5 : Cond.code yJx4a65c_size_8abf5 cJx4a65c_size_8abf5 1 (some .int) ∈ wU := w_at 208 (by decide +kernel) (by decide +kernel)
theorem hcj_Jx4a65c_size_8abf5 : yJx4a65c_size_8abf5.cls = RJx4a65c ∧ yJx4a65c_size_8abf5.cls ≠ "java/lang/invoke/MethodHandle" ∧ yJx4a65c_size_8abf5.cls ≠ "java/lang/invoke/VarHandle" ∧ (parseMethodDescriptor yJx4a65c_size_8abf5.desc).map (fun d => d.parameters.length) = some 0 := by decide +kernel
theorem wj_91 : Cond.fieldLink RJx4a65c 48 RJx4a65c (TJx4a65c 2).2.1 (TJx4a65c 2).2.2.1 ∈ wU := w_at 91 (by decide +kernel) (by decide +kernel)
theorem cj_Jx4a65c_isEmpty_aae02 : Cond.code yJx4a65c_isEmpty_aae02 cJx4a65c_isEmpty_aae02 1 (some .boolean) ∈ wU := w_at 338 (by decide +kernel) (by decide +kernel)
theorem hcj_Jx4a65c_isEmpty_aae02 : yJx4a65c_isEmpty_aae02.cls = RJx4a65c ∧ yJx4a65c_isEmpty_aae02.cls ≠ "java/lang/invoke/MethodHandle" ∧ yJx4a65c_isEmpty_aae02.cls ≠ "java/lang/invoke/VarHandle" ∧ (parseMethodDescriptor yJx4a65c_isEmpty_aae02.desc).map (fun d => d.parameters.length) = some 0 := by decide +kernel
theorem cj_J3_checkIndex_8e157 : Cond.code yJ3_checkIndex_8e157 cJ3_checkIndex_8e157 3 (some .int) ∈ wU := w_at 226 (by decide +kernel) (by decide +kernel)
theorem hcj_J3_checkIndex_8e157 : yJ3_checkIndex_8e157.cls = RJ3 ∧ yJ3_checkIndex_8e157.cls ≠ "java/lang/invoke/MethodHandle" ∧ yJ3_checkIndex_8e157.cls ≠ "java/lang/invoke/VarHandle" ∧ (parseMethodDescriptor yJ3_checkIndex_8e157.desc).map (fun d => d.parameters.length) = some 3 := by decide +kernel
theorem cj_J15_checkIndex_7cf53 : Cond.code yJ15_checkIndex_7cf53 cJ15_checkIndex_7cf53 2 (some .int) ∈ wU := w_at 223 (by decide +kernel) (by decide +kernel)
theorem hcj_J15_checkIndex_7cf53 : yJ15_checkIndex_7cf53.cls = RJ15 ∧ yJ15_checkIndex_7cf53.cls ≠ "java/lang/invoke/MethodHandle" ∧ yJ15_checkIndex_7cf53.cls ≠ "java/lang/invoke/VarHandle" ∧ (parseMethodDescriptor yJ15_checkIndex_7cf53.desc).map (fun d => d.parameters.length) = some 2 := by decide +kernel
theorem wj_224 : Cond.methodLink RJ15 105 yJ3_checkIndex_8e157 ∈ wU := w_at 224 (by decide +kernel) (by decide +kernel)
theorem wj_35 : Cond.initialized RJ3 ∈ wU := w_at 35 (by decide +kernel) (by decide +kernel)
theorem wj_225 : Cond.static yJ3_checkIndex_8e157 ∈ wU := w_at 225 (by decide +kernel) (by decide +kernel)
theorem cj_Jx4a65c_elementData_915e3 : Cond.code yJx4a65c_elementData_915e3 cJx4a65c_elementData_915e3 2 (some (.object "java/lang/Object")) ∈ wU := w_at 230 (by decide +kernel) (by decide +kernel)
theorem hcj_Jx4a65c_elementData_915e3 : yJx4a65c_elementData_915e3.cls = RJx4a65c ∧ yJx4a65c_elementData_915e3.cls ≠ "java/lang/invoke/MethodHandle" ∧ yJx4a65c_elementData_915e3.cls ≠ "java/lang/invoke/VarHandle" ∧ (parseMethodDescriptor yJx4a65c_elementData_915e3.desc).map (fun d => d.parameters.length) = some 1 := by decide +kernel
theorem cj_Jx4a65c_get_915e3 : Cond.code yJx4a65c_get_915e3 cJx4a65c_get_915e3 2 (some (.object "java/lang/Object")) ∈ wU := w_at 220 (by decide +kernel) (by decide +kernel)
theorem hcj_Jx4a65c_get_915e3 : yJx4a65c_get_915e3.cls = RJx4a65c ∧ yJx4a65c_get_915e3.cls ≠ "java/lang/invoke/MethodHandle" ∧ yJx4a65c_get_915e3.cls ≠ "java/lang/invoke/VarHandle" ∧ (parseMethodDescriptor yJx4a65c_get_915e3.desc).map (fun d => d.parameters.length) = some 1 := by decide +kernel
theorem wj_221 : Cond.methodLink RJx4a65c 118 yJ15_checkIndex_7cf53 ∈ wU := w_at 221 (by decide +kernel) (by decide +kernel)
theorem wj_34 : Cond.initialized RJ15 ∈ wU := w_at 34 (by decide +kernel) (by decide +kernel)
theorem wj_222 : Cond.static yJ15_checkIndex_7cf53 ∈ wU := w_at 222 (by decide +kernel) (by decide +kernel)
theorem wj_227 : Cond.methodLink RJx4a65c 123 yJx4a65c_elementData_915e3 ∈ wU := w_at 227 (by decide +kernel) (by decide +kernel)
theorem wj_32 : Cond.initialized RJx4a65c ∈ wU := w_at 32 (by decide +kernel) (by decide +kernel)
theorem wj_228 : Cond.instanceMethod yJx4a65c_elementData_915e3 ∈ wU := w_at 228 (by decide +kernel) (by decide +kernel)
theorem wj_229 : Cond.selects RJx4a65c yJx4a65c_elementData_915e3 yJx4a65c_elementData_915e3 ∈ wU := w_at 229 (by decide +kernel) (by decide +kernel)
theorem cj_J8_newLength_cabcc : Cond.code yJ8_newLength_cabcc cJ8_newLength_cabcc 4 (some .int) ∈ wU := w_at 392 (by decide +kernel) (by decide +kernel)
theorem hcj_J8_newLength_cabcc : yJ8_newLength_cabcc.cls = RJ8 ∧ yJ8_newLength_cabcc.cls ≠ "java/lang/invoke/MethodHandle" ∧ yJ8_newLength_cabcc.cls ≠ "java/lang/invoke/VarHandle" ∧ (parseMethodDescriptor yJ8_newLength_cabcc.desc).map (fun d => d.parameters.length) = some 3 := by decide +kernel
theorem wj_393 : Cond.methodLink RJ8 194 Lib.Math.max.name ∈ wU := w_at 393 (by decide +kernel) (by decide +kernel)
theorem wj_394 : Cond.static Lib.Math.max.name ∈ wU := w_at 394 (by decide +kernel) (by decide +kernel)
theorem wj_39 : Cond.initialized "java/lang/Math" ∈ wU := w_at 39 (by decide +kernel) (by decide +kernel)
theorem cm_max : Cond.code Lib.Math.max.name Lib.Math.max.code 2 (some .int) ∈ wU := w_at 395 (by decide +kernel) (by decide +kernel)
theorem wj_396 : Cond.constant RJ8 200 2147483639 ∈ wU := w_at 396 (by decide +kernel) (by decide +kernel)
theorem cj_J7_copyOf_6403c : Cond.code yJ7_copyOf_6403c cJ7_copyOf_6403c 4 (some (.array (.object "java/lang/Object"))) ∈ wU := w_at 427 (by decide +kernel) (by decide +kernel)
theorem hcj_J7_copyOf_6403c : yJ7_copyOf_6403c.cls = RJ7 ∧ yJ7_copyOf_6403c.cls ≠ "java/lang/invoke/MethodHandle" ∧ yJ7_copyOf_6403c.cls ≠ "java/lang/invoke/VarHandle" ∧ (parseMethodDescriptor yJ7_copyOf_6403c.desc).map (fun d => d.parameters.length) = some 3 := by decide +kernel
theorem wj_428 : Cond.classLink RJ7 110 "[Ljava/lang/Object;" ∈ wU := w_at 428 (by decide +kernel) (by decide +kernel)
theorem wj_430 : Cond.classLink RJ7 2 "java/lang/Object" ∈ wU := w_at 430 (by decide +kernel) (by decide +kernel)
theorem wn_429 : Cond.arrayOver (.object "java/lang/Object") ∈ nwL := List.mem_filter.mpr ⟨List.mem_of_getElem? (i := 429) (by decide +kernel), rfl⟩
theorem wj_431 : Cond.methodLink RJ7 304 Lib.Math.min.name ∈ wU := w_at 431 (by decide +kernel) (by decide +kernel)
theorem wj_432 : Cond.static Lib.Math.min.name ∈ wU := w_at 432 (by decide +kernel) (by decide +kernel)
theorem cm_min : Cond.code Lib.Math.min.name Lib.Math.min.code 2 (some .int) ∈ wU := w_at 433 (by decide +kernel) (by decide +kernel)
theorem wj_434 : Cond.methodLink RJ7 150 arraycopyName ∈ wU := w_at 434 (by decide +kernel) (by decide +kernel)
theorem wj_436 : Cond.native arraycopyName ∈ wU := w_at 436 (by decide +kernel) (by decide +kernel)
theorem wj_435 : Cond.static arraycopyName ∈ wU := w_at 435 (by decide +kernel) (by decide +kernel)
theorem wj_41 : Cond.initialized "java/lang/System" ∈ wU := w_at 41 (by decide +kernel) (by decide +kernel)
theorem cj_J7_copyOf_1904c : Cond.code yJ7_copyOf_1904c cJ7_copyOf_1904c 2 (some (.array (.object "java/lang/Object"))) ∈ wU := w_at 402 (by decide +kernel) (by decide +kernel)
theorem hcj_J7_copyOf_1904c : yJ7_copyOf_1904c.cls = RJ7 ∧ yJ7_copyOf_1904c.cls ≠ "java/lang/invoke/MethodHandle" ∧ yJ7_copyOf_1904c.cls ≠ "java/lang/invoke/VarHandle" ∧ (parseMethodDescriptor yJ7_copyOf_1904c.desc).map (fun d => d.parameters.length) = some 2 := by decide +kernel
theorem wj_403 : Cond.methodLink RJ7 86 ⟨"java/lang/Object", "getClass", "()Ljava/lang/Class;"⟩ ∈ wU := w_at 403 (by decide +kernel) (by decide +kernel)
theorem wj_1740 : Cond.selects "[Ljava/lang/Object;" ⟨"java/lang/Object", "getClass", "()Ljava/lang/Class;"⟩ ⟨"java/lang/Object", "getClass", "()Ljava/lang/Class;"⟩ ∈ wU := w_at 1740 (by decide +kernel) (by decide +kernel)
theorem wj_404 : Cond.instanceMethod ⟨"java/lang/Object", "getClass", "()Ljava/lang/Class;"⟩ ∈ wU := w_at 404 (by decide +kernel) (by decide +kernel)
theorem wj_424 : Cond.native ⟨"java/lang/Object", "getClass", "()Ljava/lang/Class;"⟩ ∈ wU := w_at 424 (by decide +kernel) (by decide +kernel)
theorem wn_1741 : Cond.declares ⟨"java/lang/Object", "getClass", "()Ljava/lang/Class;"⟩ ∈ nwL := List.mem_filter.mpr ⟨List.mem_of_getElem? (i := 1741) (by decide +kernel), rfl⟩
theorem wj_425 : Cond.methodLink RJ7 300 yJ7_copyOf_6403c ∈ wU := w_at 425 (by decide +kernel) (by decide +kernel)
theorem wj_40 : Cond.initialized RJ7 ∈ wU := w_at 40 (by decide +kernel) (by decide +kernel)
theorem wj_426 : Cond.static yJ7_copyOf_6403c ∈ wU := w_at 426 (by decide +kernel) (by decide +kernel)
theorem cj_Jx4a65c_grow_92f84 : Cond.code yJx4a65c_grow_92f84 cJx4a65c_grow_92f84 4 (some (.array (.object "java/lang/Object"))) ∈ wU := w_at 389 (by decide +kernel) (by decide +kernel)
theorem hcj_Jx4a65c_grow_92f84 : yJx4a65c_grow_92f84.cls = RJx4a65c ∧ yJx4a65c_grow_92f84.cls ≠ "java/lang/invoke/MethodHandle" ∧ yJx4a65c_grow_92f84.cls ≠ "java/lang/invoke/VarHandle" ∧ (parseMethodDescriptor yJx4a65c_grow_92f84.desc).map (fun d => d.parameters.length) = some 1 := by decide +kernel
theorem wj_437 : Cond.methodLink RJx4a65c 79 Lib.Math.max.name ∈ wU := w_at 437 (by decide +kernel) (by decide +kernel)
theorem wj_438 : Cond.classLink RJx4a65c 7 "java/lang/Object" ∈ wU := w_at 438 (by decide +kernel) (by decide +kernel)
theorem cj_Jx4a65c_grow_d5877 : Cond.code yJx4a65c_grow_d5877 cJx4a65c_grow_d5877 1 (some (.array (.object "java/lang/Object"))) ∈ wU := w_at 385 (by decide +kernel) (by decide +kernel)
theorem hcj_Jx4a65c_grow_d5877 : yJx4a65c_grow_d5877.cls = RJx4a65c ∧ yJx4a65c_grow_d5877.cls ≠ "java/lang/invoke/MethodHandle" ∧ yJx4a65c_grow_d5877.cls ≠ "java/lang/invoke/VarHandle" ∧ (parseMethodDescriptor yJx4a65c_grow_d5877.desc).map (fun d => d.parameters.length) = some 0 := by decide +kernel
theorem wj_386 : Cond.methodLink RJx4a65c 69 yJx4a65c_grow_92f84 ∈ wU := w_at 386 (by decide +kernel) (by decide +kernel)
theorem wj_388 : Cond.instanceMethod yJx4a65c_grow_92f84 ∈ wU := w_at 388 (by decide +kernel) (by decide +kernel)
theorem wj_10 : Cond.selects RJx4a65c yJx4a65c_grow_92f84 yJx4a65c_grow_92f84 ∈ wU := w_at 10 (by decide +kernel) (by decide +kernel)
theorem wj_390 : Cond.methodLink RJx4a65c 73 yJ8_newLength_cabcc ∈ wU := w_at 390 (by decide +kernel) (by decide +kernel)
theorem wj_38 : Cond.initialized RJ8 ∈ wU := w_at 38 (by decide +kernel) (by decide +kernel)
theorem wj_391 : Cond.static yJ8_newLength_cabcc ∈ wU := w_at 391 (by decide +kernel) (by decide +kernel)
theorem wj_400 : Cond.methodLink RJx4a65c 66 yJ7_copyOf_1904c ∈ wU := w_at 400 (by decide +kernel) (by decide +kernel)
theorem wj_401 : Cond.static yJ7_copyOf_1904c ∈ wU := w_at 401 (by decide +kernel) (by decide +kernel)
theorem cj_Jx4a65c_add_72be8 : Cond.code yJx4a65c_add_72be8 cJx4a65c_add_72be8 4 none ∈ wU := w_at 381 (by decide +kernel) (by decide +kernel)
theorem hcj_Jx4a65c_add_72be8 : yJx4a65c_add_72be8.cls = RJx4a65c ∧ yJx4a65c_add_72be8.cls ≠ "java/lang/invoke/MethodHandle" ∧ yJx4a65c_add_72be8.cls ≠ "java/lang/invoke/VarHandle" ∧ (parseMethodDescriptor yJx4a65c_add_72be8.desc).map (fun d => d.parameters.length) = some 3 := by decide +kernel
theorem wj_382 : Cond.methodLink RJx4a65c 129 yJx4a65c_grow_d5877 ∈ wU := w_at 382 (by decide +kernel) (by decide +kernel)
theorem wj_384 : Cond.instanceMethod yJx4a65c_grow_d5877 ∈ wU := w_at 384 (by decide +kernel) (by decide +kernel)
theorem wj_9 : Cond.selects RJx4a65c yJx4a65c_grow_d5877 yJx4a65c_grow_d5877 ∈ wU := w_at 9 (by decide +kernel) (by decide +kernel)
theorem cj_Jx4a65c_add_9ea2d : Cond.code yJx4a65c_add_9ea2d cJx4a65c_add_9ea2d 2 (some .boolean) ∈ wU := w_at 377 (by decide +kernel) (by decide +kernel)
theorem hcj_Jx4a65c_add_9ea2d : yJx4a65c_add_9ea2d.cls = RJx4a65c ∧ yJx4a65c_add_9ea2d.cls ≠ "java/lang/invoke/MethodHandle" ∧ yJx4a65c_add_9ea2d.cls ≠ "java/lang/invoke/VarHandle" ∧ (parseMethodDescriptor yJx4a65c_add_9ea2d.desc).map (fun d => d.parameters.length) = some 1 := by decide +kernel
theorem wj_93 : Cond.fieldLink RJx4a65c 63 RJx4a65c (TJx4a65c 0).2.1 (TJx4a65c 0).2.2.1 ∈ wU := w_at 93 (by decide +kernel) (by decide +kernel)
theorem wj_94 : Cond.sameField RJx4a65c (TJx4a65c 0).1 (TJx4a65c 0).2.1 (TJx4a65c 0).2.2.1 ∈ wU := w_at 94 (by decide +kernel) (by decide +kernel)
theorem wj_378 : Cond.methodLink RJx4a65c 131 yJx4a65c_add_72be8 ∈ wU := w_at 378 (by decide +kernel) (by decide +kernel)
theorem wj_380 : Cond.instanceMethod yJx4a65c_add_72be8 ∈ wU := w_at 380 (by decide +kernel) (by decide +kernel)
theorem wj_8 : Cond.selects RJx4a65c yJx4a65c_add_72be8 yJx4a65c_add_72be8 ∈ wU := w_at 8 (by decide +kernel) (by decide +kernel)
theorem cj_Jx4a65c_rangeCheckForAdd_d00df : Cond.code yJx4a65c_rangeCheckForAdd_d00df cJx4a65c_rangeCheckForAdd_d00df 2 none ∈ wU := w_at 1419 (by decide +kernel) (by decide +kernel)
theorem hcj_Jx4a65c_rangeCheckForAdd_d00df : yJx4a65c_rangeCheckForAdd_d00df.cls = RJx4a65c ∧ yJx4a65c_rangeCheckForAdd_d00df.cls ≠ "java/lang/invoke/MethodHandle" ∧ yJx4a65c_rangeCheckForAdd_d00df.cls ≠ "java/lang/invoke/VarHandle" ∧ (parseMethodDescriptor yJx4a65c_rangeCheckForAdd_d00df.desc).map (fun d => d.parameters.length) = some 1 := by decide +kernel
theorem cj_Jx4a65c_add_7a177 : Cond.code yJx4a65c_add_7a177 cJx4a65c_add_7a177 5 none ∈ wU := w_at 1415 (by decide +kernel) (by decide +kernel)
theorem hcj_Jx4a65c_add_7a177 : yJx4a65c_add_7a177.cls = RJx4a65c ∧ yJx4a65c_add_7a177.cls ≠ "java/lang/invoke/MethodHandle" ∧ yJx4a65c_add_7a177.cls ≠ "java/lang/invoke/VarHandle" ∧ (parseMethodDescriptor yJx4a65c_add_7a177.desc).map (fun d => d.parameters.length) = some 2 := by decide +kernel
theorem wj_1416 : Cond.methodLink RJx4a65c 135 yJx4a65c_rangeCheckForAdd_d00df ∈ wU := w_at 1416 (by decide +kernel) (by decide +kernel)
theorem wj_1418 : Cond.instanceMethod yJx4a65c_rangeCheckForAdd_d00df ∈ wU := w_at 1418 (by decide +kernel) (by decide +kernel)
theorem wj_25 : Cond.selects RJx4a65c yJx4a65c_rangeCheckForAdd_d00df yJx4a65c_rangeCheckForAdd_d00df ∈ wU := w_at 25 (by decide +kernel) (by decide +kernel)
theorem wj_1269 : Cond.methodLink RJx4a65c 112 arraycopyName ∈ wU := w_at 1269 (by decide +kernel) (by decide +kernel)
theorem cj_Jx4a65c_fastRemove_b59b0 : Cond.code yJx4a65c_fastRemove_b59b0 cJx4a65c_fastRemove_b59b0 4 none ∈ wU := w_at 1268 (by decide +kernel) (by decide +kernel)
theorem hcj_Jx4a65c_fastRemove_b59b0 : yJx4a65c_fastRemove_b59b0.cls = RJx4a65c ∧ yJx4a65c_fastRemove_b59b0.cls ≠ "java/lang/invoke/MethodHandle" ∧ yJx4a65c_fastRemove_b59b0.cls ≠ "java/lang/invoke/VarHandle" ∧ (parseMethodDescriptor yJx4a65c_fastRemove_b59b0.desc).map (fun d => d.parameters.length) = some 2 := by decide +kernel
theorem cj_Jx4a65c_remove_915e3 : Cond.code yJx4a65c_remove_915e3 cJx4a65c_remove_915e3 4 (some (.object "java/lang/Object")) ∈ wU := w_at 1264 (by decide +kernel) (by decide +kernel)
theorem hcj_Jx4a65c_remove_915e3 : yJx4a65c_remove_915e3.cls = RJx4a65c ∧ yJx4a65c_remove_915e3.cls ≠ "java/lang/invoke/MethodHandle" ∧ yJx4a65c_remove_915e3.cls ≠ "java/lang/invoke/VarHandle" ∧ (parseMethodDescriptor yJx4a65c_remove_915e3.desc).map (fun d => d.parameters.length) = some 1 := by decide +kernel
theorem wj_1265 : Cond.methodLink RJx4a65c 144 yJx4a65c_fastRemove_b59b0 ∈ wU := w_at 1265 (by decide +kernel) (by decide +kernel)
theorem wj_1267 : Cond.instanceMethod yJx4a65c_fastRemove_b59b0 ∈ wU := w_at 1267 (by decide +kernel) (by decide +kernel)
theorem wj_23 : Cond.selects RJx4a65c yJx4a65c_fastRemove_b59b0 yJx4a65c_fastRemove_b59b0 ∈ wU := w_at 23 (by decide +kernel) (by decide +kernel)
set_option maxRecDepth 20000 in
theorem j_acInit (l : Launch) (D : va_G) (K : Nat → ClassId) (E0 : Nat) (A EL : Nat → Prop) (lo : Nat) (w0 : va_W) : MetJ l yJxa1e45_init_da8c8 cJxa1e45_init_da8c8 1 none 1 0 0 [.ref lo] w0 (fun v ws' => v = none ∧ ws' = w0) D K E0 A EL := by
  refine gj_start (by decide) rfl (Nat.le_of_ble_eq_true rfl) (fun p e s m args below meth c C E => ?_)
  refine gj_aloadn C 0 0 dJxa1e45_init_da8c8_0 rfl rfl ?_
  refine gj_objInit C rfl (by decide) (w_3 wj_87 wj_68 wj_69) (Nat.le_of_ble_eq_true rfl) dJxa1e45_init_da8c8_1 ?_
  exact gj_vret C E (Nat.le_of_ble_eq_true rfl) (Nat.le_of_ble_eq_true rfl) dJxa1e45_init_da8c8_4 ⟨rfl, rfl⟩
set_option maxRecDepth 20000 in
theorem j_alInit (l : Launch) (D : va_G) (K : Nat → ClassId) (E0 : Nat) (A EL : Nat → Prop) (lo : Nat) : MetJ l yJxc12de_init_da8c8 cJxc12de_init_da8c8 1 none 2 0 0 [.ref lo] [(lo, .inr (2, [.int 0, .null, .int 0]))] (fun v ws' => v = none ∧ ws' = [(lo, .inr (2, [.int 0, .null, .int 0]))]) D K E0 A EL := by
  refine gj_start (by decide) rfl (Nat.le_of_ble_eq_true rfl) (fun p e s m args below meth c C E => ?_)
  refine gj_aloadn C 0 0 dJxc12de_init_da8c8_0 rfl rfl ?_
  refine gj_callI C (y := yJxa1e45_init_da8c8) (as := []) rfl (by decide) (by decide) (Nat.le_of_ble_eq_true rfl) (Nat.le_of_ble_eq_true rfl) (j_acInit l D K E0 A EL lo _) hcj_Jxa1e45_init_da8c8 rfl rfl (w_3 wj_84 wj_85 wj_30) cj_Jxa1e45_init_da8c8 dJxc12de_init_da8c8_1 (Nat.le_of_ble_eq_true rfl) (fun v9 w9 h9 => ?_)
  obtain ⟨rfl, rfl⟩ := h9
  refine gj_r0 ?_
  refine gj_aloadn C 0 0 dJxc12de_init_da8c8_4 rfl rfl ?_
  refine gj_iconst C 0 dJxc12de_init_da8c8_5 (by decide) ?_
  refine gj_put C 0 0 [(lo, .inr (2, [.int 0, .null, .int 0]))] (by decide) rfl RJxc12de wj_92 (Or.inl rfl) rfl (tyJx4a65c_ok 0 (by decide)) rfl rfl rfl rfl dJxc12de_init_da8c8_6 ?_
  exact gj_vret C E (Nat.le_of_ble_eq_true rfl) (Nat.le_of_ble_eq_true rfl) dJxc12de_init_da8c8_9 ⟨rfl, rfl⟩
set_option maxRecDepth 20000 in
theorem j_init (l : Launch) (D : va_G) (K : Nat → ClassId) (E0 : Nat) (A EL : Nat → Prop) (lo : Nat) : MetJ l yJx4a65c_init_da8c8 cJx4a65c_init_da8c8 1 none 3 0 0 [.ref lo] [(lo, .inr (2, [.int 0, .null, .int 0]))] (fun v ws' => v = none ∧ ws' = [(lo, .inr (2, [.int 0, .ref E0, .int 0]))]) D K E0 A EL := by
  refine gj_start (by decide) rfl (Nat.le_of_ble_eq_true rfl) (fun p e s m args below meth c C E => ?_)
  refine gj_aloadn C 0 0 dJx4a65c_init_da8c8_0 rfl rfl ?_
  refine gj_callI C (y := yJxc12de_init_da8c8) (as := []) rfl (by decide) (by decide) (Nat.le_of_ble_eq_true rfl) (Nat.le_of_ble_eq_true rfl) (j_alInit l D K E0 A EL lo) hcj_Jxc12de_init_da8c8 rfl rfl (w_3 wj_81 wj_82 wj_31) cj_Jxc12de_init_da8c8 dJx4a65c_init_da8c8_1 (Nat.le_of_ble_eq_true rfl) (fun v9 w9 h9 => ?_)
  obtain ⟨rfl, rfl⟩ := h9
  refine gj_r0 ?_
  refine gj_aloadn C 0 0 dJx4a65c_init_da8c8_4 rfl rfl ?_
  refine gj_getE C wj_88 dJx4a65c_init_da8c8_5 ?_
  refine gj_put C 0 1 [(lo, .inr (2, [.int 0, .ref E0, .int 0]))] (by decide) rfl RJx4a65c wj_90 (Or.inl rfl) rfl (tyJx4a65c_ok 1 (by decide)) rfl rfl rfl rfl dJx4a65c_init_da8c8_8 ?_
  exact gj_vret C E (Nat.le_of_ble_eq_true rfl) (Nat.le_of_ble_eq_true rfl) dJx4a65c_init_da8c8_11 ⟨rfl, rfl⟩
set_option maxRecDepth 20000 in
theorem j_size (l : Launch) (D : va_G) (K : Nat → ClassId) (E0 : Nat) (A EL : Nat → Prop) (lo d : Nat) (mo n : Int32) (w0 : va_W) : MetJ l yJx4a65c_size_8abf5 cJx4a65c_size_8abf5 1 (some .int) 0 0 0 [.ref lo] ([(lo, .inr (2, [.int mo, .ref d, .int n]))] ++ w0) (fun v ws' => v = some (.int n) ∧ ws' = [(lo, .inr (2, [.int mo, .ref d, .int n]))] ++ w0) D K E0 A EL := by
  refine gj_start (by decide) rfl (Nat.le_of_ble_eq_true rfl) (fun p e s m args below meth c C E => ?_)
  refine gj_aloadn C 0 0 dJx4a65c_size_8abf5_0 rfl rfl ?_
  refine gj_get C 0 2 (by decide) rfl RJx4a65c wj_91 (Or.inl rfl) rfl dJx4a65c_size_8abf5_1 ?_
  exact gj_iret C E (Nat.le_of_ble_eq_true rfl) (Nat.le_of_ble_eq_true rfl) dJx4a65c_size_8abf5_4 ⟨rfl, rfl⟩
set_option maxRecDepth 20000 in
theorem j_isEmptyT (l : Launch) (D : va_G) (K : Nat → ClassId) (E0 : Nat) (A EL : Nat → Prop) (lo d : Nat) (mo n : Int32) (w0 : va_W) (h : n = 0) : MetJ l yJx4a65c_isEmpty_aae02 cJx4a65c_isEmpty_aae02 1 (some .boolean) 0 0 0 [.ref lo] ([(lo, .inr (2, [.int mo, .ref d, .int n]))] ++ w0) (fun v ws' => v = some (.int 1) ∧ ws' = [(lo, .inr (2, [.int mo, .ref d, .int n]))] ++ w0) D K E0 A EL := by
  refine gj_start (by decide) rfl (Nat.le_of_ble_eq_true rfl) (fun p e s m args below meth c C E => ?_)
  refine gj_aloadn C 0 0 dJx4a65c_isEmpty_aae02_0 rfl rfl ?_
  refine gj_get C 0 2 (by decide) rfl RJx4a65c wj_91 (Or.inl rfl) rfl dJx4a65c_isEmpty_aae02_1 ?_
  refine gj_if_ne_f C dJx4a65c_isEmpty_aae02_4 (tgt := 11) (by decide) (fun z => z h) ?_
  refine gj_iconst C 1 dJx4a65c_isEmpty_aae02_7 (by decide) ?_
  refine gj_goto C 12 dJx4a65c_isEmpty_aae02_8 (by decide) ?_
  exact gj_zret C E (Or.inr rfl) (Nat.le_of_ble_eq_true rfl) (Nat.le_of_ble_eq_true rfl) dJx4a65c_isEmpty_aae02_12 ⟨rfl, rfl⟩
set_option maxRecDepth 20000 in
theorem j_isEmptyF (l : Launch) (D : va_G) (K : Nat → ClassId) (E0 : Nat) (A EL : Nat → Prop) (lo d : Nat) (mo n : Int32) (w0 : va_W) (h : ¬ n = 0) : MetJ l yJx4a65c_isEmpty_aae02 cJx4a65c_isEmpty_aae02 1 (some .boolean) 0 0 0 [.ref lo] ([(lo, .inr (2, [.int mo, .ref d, .int n]))] ++ w0) (fun v ws' => v = some (.int 0) ∧ ws' = [(lo, .inr (2, [.int mo, .ref d, .int n]))] ++ w0) D K E0 A EL := by
  refine gj_start (by decide) rfl (Nat.le_of_ble_eq_true rfl) (fun p e s m args below meth c C E => ?_)
  refine gj_aloadn C 0 0 dJx4a65c_isEmpty_aae02_0 rfl rfl ?_
  refine gj_get C 0 2 (by decide) rfl RJx4a65c wj_91 (Or.inl rfl) rfl dJx4a65c_isEmpty_aae02_1 ?_
  refine gj_if_ne_t C 11 dJx4a65c_isEmpty_aae02_4 (by decide) h ?_
  refine gj_iconst C 0 dJx4a65c_isEmpty_aae02_11 (by decide) ?_
  exact gj_zret C E (Or.inl rfl) (Nat.le_of_ble_eq_true rfl) (Nat.le_of_ble_eq_true rfl) dJx4a65c_isEmpty_aae02_12 ⟨rfl, rfl⟩
set_option maxRecDepth 20000 in
theorem j_chk3 (l : Launch) (D : va_G) (K : Nat → ClassId) (E0 : Nat) (A EL : Nat → Prop) (i n : Int32) (w0 : va_W) (h1 : ¬ i < 0) (h2 : i < n) : MetJ l yJ3_checkIndex_8e157 cJ3_checkIndex_8e157 3 (some .int) 0 0 0 [.int i, .int n, .null] w0 (fun v ws' => v = some (.int i) ∧ ws' = w0) D K E0 A EL := by
  refine gj_start (by decide) rfl (Nat.le_of_ble_eq_true rfl) (fun p e s m args below meth c C E => ?_)
  refine gj_iloadn C 0 0 dJ3_checkIndex_8e157_0 rfl rfl ?_
  refine gj_if_lt_f C dJ3_checkIndex_8e157_1 (tgt := 9) (by decide) h1 ?_
  refine gj_iloadn C 0 0 dJ3_checkIndex_8e157_4 rfl rfl ?_
  refine gj_iloadn C 1 1 dJ3_checkIndex_8e157_5 rfl rfl ?_
  refine gj_icmp_lt_t C 16 dJ3_checkIndex_8e157_6 (by decide) h2 ?_
  refine gj_iloadn C 0 0 dJ3_checkIndex_8e157_16 rfl rfl ?_
  exact gj_iret C E (Nat.le_of_ble_eq_true rfl) (Nat.le_of_ble_eq_true rfl) dJ3_checkIndex_8e157_17 ⟨rfl, rfl⟩
set_option maxRecDepth 20000 in
theorem j_chk (l : Launch) (D : va_G) (K : Nat → ClassId) (E0 : Nat) (A EL : Nat → Prop) (i n : Int32) (w0 : va_W) (h1 : ¬ i < 0) (h2 : i < n) : MetJ l yJ15_checkIndex_7cf53 cJ15_checkIndex_7cf53 2 (some .int) 1 0 0 [.int i, .int n] w0 (fun v ws' => v = some (.int i) ∧ ws' = w0) D K E0 A EL := by
  refine gj_start (by decide) rfl (Nat.le_of_ble_eq_true rfl) (fun p e s m args below meth c C E => ?_)
  refine gj_iloadn C 0 0 dJ15_checkIndex_7cf53_0 rfl rfl ?_
  refine gj_iloadn C 1 1 dJ15_checkIndex_7cf53_1 rfl rfl ?_
  refine gj_null C dJ15_checkIndex_7cf53_2 ?_
  refine gj_callS C (y := yJ3_checkIndex_8e157) (as := [.int i, .int n, .null]) rfl (by decide) (by decide) (Nat.le_of_ble_eq_true rfl) (Nat.le_of_ble_eq_true rfl) (j_chk3 l D K E0 A EL i n _ h1 h2) hcj_J3_checkIndex_8e157 rfl (w_3 wj_224 wj_225 wj_35) cj_J3_checkIndex_8e157 dJ15_checkIndex_7cf53_3 (Nat.le_of_ble_eq_true rfl) (fun v9 w9 h9 => ?_)
  obtain ⟨rfl, rfl⟩ := h9
  refine gj_r1 ?_
  exact gj_iret C E (Nat.le_of_ble_eq_true rfl) (Nat.le_of_ble_eq_true rfl) dJ15_checkIndex_7cf53_6 ⟨rfl, rfl⟩
set_option maxRecDepth 20000 in
theorem j_elem (l : Launch) (D : va_G) (K : Nat → ClassId) (E0 : Nat) (A EL : Nat → Prop) (lo d cap y : Nat) (mo n i : Int32) (f : Nat → Option Nat) (hin : vp_in i cap) (hy : f i.toNatClampNeg = some y) : MetJ l yJx4a65c_elementData_915e3 cJx4a65c_elementData_915e3 2 (some (.object "java/lang/Object")) 0 0 0 [.ref lo, .int i] [(lo, .inr (2, [.int mo, .ref d, .int n])), (d, .inl (K 2, cap, .inr (.inr (.inr (.inr f)))))] (fun v ws' => v = some (.ref y) ∧ ws' = [(lo, .inr (2, [.int mo, .ref d, .int n])), (d, .inl (K 2, cap, .inr (.inr (.inr (.inr f)))))]) D K E0 A EL := by
  refine gj_start (by decide) rfl (Nat.le_of_ble_eq_true rfl) (fun p e s m args below meth c C E => ?_)
  refine gj_aloadn C 0 0 dJx4a65c_elementData_915e3_0 rfl rfl ?_
  refine gj_get C 0 1 (by decide) rfl RJx4a65c wj_90 (Or.inl rfl) rfl dJx4a65c_elementData_915e3_1 ?_
  refine gj_iloadn C 1 1 dJx4a65c_elementData_915e3_4 rfl rfl ?_
  refine gj_aldS C (y := y) 1 rfl hin hy dJx4a65c_elementData_915e3_5 ?_
  exact gj_aret C E (Or.inr ⟨_, rfl⟩) (Nat.le_of_ble_eq_true rfl) (Nat.le_of_ble_eq_true rfl) dJx4a65c_elementData_915e3_6 ⟨rfl, rfl⟩
set_option maxRecDepth 20000 in
theorem j_get (l : Launch) (D : va_G) (K : Nat → ClassId) (E0 : Nat) (A EL : Nat → Prop) (lo d cap y : Nat) (mo n i : Int32) (f : Nat → Option Nat) (hin : vp_in i cap) (hy : f i.toNatClampNeg = some y) (h1 : ¬ i < 0) (h2 : i < n) : MetJ l yJx4a65c_get_915e3 cJx4a65c_get_915e3 2 (some (.object "java/lang/Object")) 2 0 0 [.ref lo, .int i] [(lo, .inr (2, [.int mo, .ref d, .int n])), (d, .inl (K 2, cap, .inr (.inr (.inr (.inr f)))))] (fun v ws' => v = some (.ref y) ∧ ws' = [(lo, .inr (2, [.int mo, .ref d, .int n])), (d, .inl (K 2, cap, .inr (.inr (.inr (.inr f)))))]) D K E0 A EL := by
  refine gj_start (by decide) rfl (Nat.le_of_ble_eq_true rfl) (fun p e s m args below meth c C E => ?_)
  refine gj_iloadn C 1 1 dJx4a65c_get_915e3_0 rfl rfl ?_
  refine gj_aloadn C 0 0 dJx4a65c_get_915e3_1 rfl rfl ?_
  refine gj_get C 0 2 (by decide) rfl RJx4a65c wj_91 (Or.inl rfl) rfl dJx4a65c_get_915e3_2 ?_
  refine gj_callS C (y := yJ15_checkIndex_7cf53) (as := [.int i, .int n]) rfl (by decide) (by decide) (Nat.le_of_ble_eq_true rfl) (Nat.le_of_ble_eq_true rfl) (j_chk l D K E0 A EL i n _ h1 h2) hcj_J15_checkIndex_7cf53 rfl (w_3 wj_221 wj_222 wj_34) cj_J15_checkIndex_7cf53 dJx4a65c_get_915e3_5 (Nat.le_of_ble_eq_true rfl) (fun v9 w9 h9 => ?_)
  obtain ⟨rfl, rfl⟩ := h9
  refine gj_r1 ?_
  refine gj_pop C dJx4a65c_get_915e3_8 rfl ?_
  refine gj_aloadn C 0 0 dJx4a65c_get_915e3_9 rfl rfl ?_
  refine gj_iloadn C 1 1 dJx4a65c_get_915e3_10 rfl rfl ?_
  refine gj_callV C (y := yJx4a65c_elementData_915e3) (as := [.int i]) rfl (by decide) (by decide) (Nat.le_of_ble_eq_true rfl) (Nat.le_of_ble_eq_true rfl) (q0 := 0) rfl rfl (j_elem l D K E0 A EL lo d cap y mo n i f hin hy) hcj_Jx4a65c_elementData_915e3 rfl (w_4 wj_227 wj_228 wj_229 wj_32) cj_Jx4a65c_elementData_915e3 dJx4a65c_get_915e3_11 (Nat.le_of_ble_eq_true rfl) (fun v9 w9 h9 => ?_)
  obtain ⟨rfl, rfl⟩ := h9
  refine gj_r1 ?_
  exact gj_aret C E (Or.inr ⟨_, rfl⟩) (Nat.le_of_ble_eq_true rfl) (Nat.le_of_ble_eq_true rfl) dJx4a65c_get_915e3_14 ⟨rfl, rfl⟩
set_option maxRecDepth 20000 in
theorem j_newLen (l : Launch) (D : va_G) (K : Nat → ClassId) (E0 : Nat) (A EL : Nat → Prop) (b mg pf : Int32) (w0 : va_W) (h1 : ¬ (b + (if mg < pf then pf else mg)) ≤ 0) (h2 : ¬ 2147483639 < (b + (if mg < pf then pf else mg))) : MetJ l yJ8_newLength_cabcc cJ8_newLength_cabcc 4 (some .int) 1 0 0 [.int b, .int mg, .int pf] w0 (fun v ws' => v = some (.int (b + (if mg < pf then pf else mg))) ∧ ws' = w0) D K E0 A EL := by
  refine gj_start (by decide) rfl (Nat.le_of_ble_eq_true rfl) (fun p e s m args below meth c C E => ?_)
  refine gj_iloadn C 0 0 dJ8_newLength_cabcc_0 rfl rfl ?_
  refine gj_iloadn C 1 1 dJ8_newLength_cabcc_1 rfl rfl ?_
  refine gj_iloadn C 2 2 dJ8_newLength_cabcc_2 rfl rfl ?_
  refine gj_max C rfl (by decide) (Nat.zero_le _) (Nat.zero_le _) (w_4 wj_393 wj_394 wj_39 cm_max) (Nat.le_of_ble_eq_true rfl) dJ8_newLength_cabcc_3 ?_
  refine gj_iadd C dJ8_newLength_cabcc_6 ?_
  refine gj_istoren C 3 [(3, .int (b + (if (mg : Int32) < pf then pf else mg))), (0, .int b), (1, .int mg), (2, .int pf)] dJ8_newLength_cabcc_7 rfl (by decide) rfl ?_
  refine gj_iconst C 0 dJ8_newLength_cabcc_8 (by decide) ?_
  refine gj_iloadn C 0 3 dJ8_newLength_cabcc_9 rfl rfl ?_
  refine gj_icmp_ge_f C dJ8_newLength_cabcc_10 (tgt := 21) (by decide) h1 ?_
  refine gj_iloadn C 0 3 dJ8_newLength_cabcc_13 rfl rfl ?_
  refine gj_ldcI C 2147483639 wj_396 dJ8_newLength_cabcc_14 ?_
  refine gj_icmp_gt_f C dJ8_newLength_cabcc_16 (tgt := 21) (by decide) h2 ?_
  refine gj_iloadn C 0 3 dJ8_newLength_cabcc_19 rfl rfl ?_
  exact gj_iret C E (Nat.le_of_ble_eq_true rfl) (Nat.le_of_ble_eq_true rfl) dJ8_newLength_cabcc_20 ⟨rfl, rfl⟩
set_option maxRecDepth 20000 in
theorem j_copy3 (l : Launch) (D : va_G) (K : Nat → ClassId) (E0 : Nat) (A EL : Nat → Prop) (x0 : Nat × va_E) (d cap c2 mi : Nat) (f : Nat → Option Nat) (h1 : cap ≤ c2) (h2 : c2 ≤ 1000000) (hEl : ∀ i y, f i = some y → EL y) : MetM2 l yJ7_copyOf_6403c cJ7_copyOf_6403c 4 (some (.array (.object "java/lang/Object"))) 1 1 c2 [.ref d, .int (nI c2), .ref mi] [x0, (d, .inl (K 2, cap, .inr (.inr (.inr (.inr f)))))] (fun v ws' => ∃ q : Nat, v = some (.ref q) ∧ ws' = [x0, (d, .inl (K 2, cap, .inr (.inr (.inr (.inr f))))), (q, .inl (K 2, c2, .inr (.inr (.inr (.inr (va_cpy f (fun _ => none) 0 0 cap))))))]) D K E0 A EL mi := by
  refine gj_startM (by decide) rfl (Nat.le_of_ble_eq_true rfl) (fun p e s m args below meth c C hMi E => ?_)
  refine gj_aloadn C 2 2 dJ7_copyOf_6403c_0 rfl rfl ?_
  refine gj_ldcM C wj_428 hMi dJ7_copyOf_6403c_1 ?_
  refine gj_acmp_ne_f C dJ7_copyOf_6403c_3 (tgt := 13) (by decide) ?_
  refine gj_iloadn C 1 1 dJ7_copyOf_6403c_6 rfl rfl ?_
  refine gj_newq C (N9 := c2) rfl wj_430 wn_429 (nI_pos (by omega)) (nI_clamp (by omega)) h2 (Nat.le_of_ble_eq_true rfl) (by omega) dJ7_copyOf_6403c_7 (fun q => ?_)
  refine gj_goto C 24 dJ7_copyOf_6403c_10 (by decide) ?_
  refine gj_astoren C 3 [(3, .ref q), (0, .ref d), (1, .int (nI c2)), (2, .ref mi)] dJ7_copyOf_6403c_24 rfl (by decide) rfl ?_
  refine gj_aloadn C 1 0 dJ7_copyOf_6403c_25 rfl rfl ?_
  refine gj_iconst C 0 dJ7_copyOf_6403c_26 (by decide) ?_
  refine gj_aloadn C 0 3 dJ7_copyOf_6403c_27 rfl rfl ?_
  refine gj_iconst C 0 dJ7_copyOf_6403c_28 (by decide) ?_
  refine gj_aloadn C 1 0 dJ7_copyOf_6403c_29 rfl rfl ?_
  refine gj_len C 1 rfl dJ7_copyOf_6403c_30 ?_
  refine gj_iloadn C 2 1 dJ7_copyOf_6403c_31 rfl rfl ?_
  refine gj_min C rfl (by decide) (by omega) (by omega) (w_4 wj_431 wj_432 wj_39 cm_min) (Nat.le_of_ble_eq_true rfl) dJ7_copyOf_6403c_32 ?_
  rw [show ((if ((nI c2) : Int32) < (nI cap) then (nI c2) else (nI cap)) : Int32) = (nI cap) from if_neg (nI_nlt h1 (by omega))]
  refine gj_copy C 1 2 [x0, (d, .inl (K 2, cap, .inr (.inr (.inr (.inr f))))), (q, .inl (K 2, c2, .inr (.inr (.inr (.inr (va_cpy f (fun _ => none) 0 0 cap))))))] rfl (by decide) (w_4 wj_434 wj_436 wj_435 wj_41) rfl rfl (by decide) (by decide) (nI_pos (by omega)) (by rw [sb_cl0, nI_clamp (by omega)]; omega) (by rw [sb_cl0, nI_clamp (by omega)]; omega) (fun i _ y hy => hEl _ y hy) (Nat.le_of_ble_eq_true rfl) (by rw [sb_cl0, nI_clamp (by omega)]; rfl) dJ7_copyOf_6403c_35 ?_
  refine gj_aloadn C 0 3 dJ7_copyOf_6403c_38 rfl rfl ?_
  exact gj_aretA C E (Or.inr ⟨_, rfl⟩) (Nat.le_of_ble_eq_true rfl) (by omega) dJ7_copyOf_6403c_39 ⟨q, rfl, rfl⟩
set_option maxRecDepth 20000 in
theorem j_copy2 (l : Launch) (D : va_G) (K : Nat → ClassId) (E0 : Nat) (A EL : Nat → Prop) (x0 : Nat × va_E) (d cap c2 : Nat) (f : Nat → Option Nat) (h1 : cap ≤ c2) (h2 : c2 ≤ 1000000) (hEl : ∀ i y, f i = some y → EL y) : MetJ l yJ7_copyOf_1904c cJ7_copyOf_1904c 2 (some (.array (.object "java/lang/Object"))) 2 1 c2 [.ref d, .int (nI c2)] [x0, (d, .inl (K 2, cap, .inr (.inr (.inr (.inr f)))))] (fun v ws' => ∃ q : Nat, v = some (.ref q) ∧ ws' = [x0, (d, .inl (K 2, cap, .inr (.inr (.inr (.inr f))))), (q, .inl (K 2, c2, .inr (.inr (.inr (.inr (va_cpy f (fun _ => none) 0 0 cap))))))]) D K E0 A EL := by
  refine gj_start (by decide) rfl (Nat.le_of_ble_eq_true rfl) (fun p e s m args below meth c C E => ?_)
  obtain ⟨mi, hMi⟩ := C.2.2.2.2.2.2.2.1.2.2
  refine gj_aloadn C 0 0 dJ7_copyOf_1904c_0 rfl rfl ?_
  refine gj_iloadn C 1 1 dJ7_copyOf_1904c_1 rfl rfl ?_
  refine gj_aloadn C 0 0 dJ7_copyOf_1904c_2 rfl rfl ?_
  refine gj_getC C 1 rfl rfl (by decide) (w_4 wj_403 wj_1740 wj_404 wj_424) wn_1741 hMi (Nat.le_of_ble_eq_true rfl) dJ7_copyOf_1904c_3 ?_
  refine gj_callSM C (y := yJ7_copyOf_6403c) (as := [.ref d, .int (nI c2), .ref mi]) rfl (by decide) (by decide) (by omega) (by omega) (j_copy3 l D K E0 A EL x0 d cap c2 mi f h1 h2 hEl) hMi hcj_J7_copyOf_6403c rfl (w_3 wj_425 wj_426 wj_40) cj_J7_copyOf_6403c dJ7_copyOf_1904c_6 (Nat.le_of_ble_eq_true rfl) (fun v9 w9 h9 => ?_)
  obtain ⟨q, rfl, rfl⟩ := h9
  refine gj_r1 ?_
  exact gj_aretA C E (Or.inr ⟨_, rfl⟩) (by omega) (by omega) dJ7_copyOf_1904c_9 ⟨q, rfl, rfl⟩
set_option maxRecDepth 20000 in
theorem j_growIA (l : Launch) (D : va_G) (K : Nat → ClassId) (E0 : Nat) (A EL : Nat → Prop) (lo : Nat) (mo : Int32) : MetJ l yJx4a65c_grow_92f84 cJx4a65c_grow_92f84 4 (some (.array (.object "java/lang/Object"))) 3 1 10 [.ref lo, .int (0 + 1)] [(lo, .inr (2, [.int mo, .ref E0, .int 0]))] (fun v ws' => ∃ q : Nat, v = some (.ref q) ∧ ws' = [(lo, .inr (2, [.int mo, .ref q, .int 0])), (q, .inl (K 2, 10, .inr (.inr (.inr (.inr (fun _ => none))))))]) D K E0 A EL := by
  refine gj_start (by decide) rfl (Nat.le_of_ble_eq_true rfl) (fun p e s m args below meth c C E => ?_)
  refine gj_aloadn C 0 0 dJx4a65c_grow_92f84_0 rfl rfl ?_
  refine gj_get C 0 1 (by decide) rfl RJx4a65c wj_90 (Or.inl rfl) rfl dJx4a65c_grow_92f84_1 ?_
  refine gj_lenE C dJx4a65c_grow_92f84_4 ?_
  refine gj_istoren C 2 [(2, .int 0), (0, .ref lo), (1, .int (0 + 1))] dJx4a65c_grow_92f84_5 rfl (by decide) rfl ?_
  refine gj_iloadn C 0 2 dJx4a65c_grow_92f84_6 rfl rfl ?_
  refine gj_if_gt_f C dJx4a65c_grow_92f84_7 (tgt := 20) (by decide) (by decide) ?_
  refine gj_aloadn C 1 0 dJx4a65c_grow_92f84_10 rfl rfl ?_
  refine gj_get C 0 1 (by decide) rfl RJx4a65c wj_90 (Or.inl rfl) rfl dJx4a65c_grow_92f84_11 ?_
  refine gj_getE C wj_88 dJx4a65c_grow_92f84_14 ?_
  refine gj_acmp_eq_t C 45 dJx4a65c_grow_92f84_17 (by decide) ?_
  refine gj_aloadn C 1 0 dJx4a65c_grow_92f84_45 rfl rfl ?_
  refine gj_bipush C 10 dJx4a65c_grow_92f84_46 (by decide) ?_
  refine gj_iloadn C 2 1 dJx4a65c_grow_92f84_48 rfl rfl ?_
  refine gj_max C rfl (by decide) (Nat.zero_le _) (Nat.zero_le _) (w_4 wj_437 wj_394 wj_39 cm_max) (Nat.le_of_ble_eq_true rfl) dJx4a65c_grow_92f84_49 ?_
  rw [show ((if (10 : Int32) < (0 + 1) then (0 + 1) else 10) : Int32) = 10 from by decide]
  refine gj_newq C (N9 := 10) rfl wj_438 wn_429 (by decide) (by decide) (Nat.le_of_ble_eq_true rfl) (Nat.le_of_ble_eq_true rfl) (Nat.le_of_ble_eq_true rfl) dJx4a65c_grow_92f84_52 (fun q => ?_)
  refine gj_dupx1 C dJx4a65c_grow_92f84_55 rfl rfl ?_
  refine gj_put C 0 1 [(lo, .inr (2, [.int mo, .ref q, .int 0])), (q, .inl (K 2, 10, .inr (.inr (.inr (.inr (fun _ => none))))))] (by decide) rfl RJx4a65c wj_90 (Or.inl rfl) rfl (tyJx4a65c_ok 1 (by decide)) rfl rfl rfl rfl dJx4a65c_grow_92f84_56 ?_
  exact gj_aretA C E (Or.inr ⟨_, rfl⟩) (Nat.le_of_ble_eq_true rfl) (Nat.le_of_ble_eq_true rfl) dJx4a65c_grow_92f84_59 ⟨q, rfl, rfl⟩
set_option maxRecDepth 20000 in
theorem j_growA (l : Launch) (D : va_G) (K : Nat → ClassId) (E0 : Nat) (A EL : Nat → Prop) (lo : Nat) (mo : Int32) : MetJ l yJx4a65c_grow_d5877 cJx4a65c_grow_d5877 1 (some (.array (.object "java/lang/Object"))) 4 1 10 [.ref lo] [(lo, .inr (2, [.int mo, .ref E0, .int 0]))] (fun v ws' => ∃ q : Nat, v = some (.ref q) ∧ ws' = [(lo, .inr (2, [.int mo, .ref q, .int 0])), (q, .inl (K 2, 10, .inr (.inr (.inr (.inr (fun _ => none))))))]) D K E0 A EL := by
  refine gj_start (by decide) rfl (Nat.le_of_ble_eq_true rfl) (fun p e s m args below meth c C E => ?_)
  refine gj_aloadn C 0 0 dJx4a65c_grow_d5877_0 rfl rfl ?_
  refine gj_aloadn C 0 0 dJx4a65c_grow_d5877_1 rfl rfl ?_
  refine gj_get C 0 2 (by decide) rfl RJx4a65c wj_91 (Or.inl rfl) rfl dJx4a65c_grow_d5877_2 ?_
  refine gj_iconst C 1 dJx4a65c_grow_d5877_5 (by decide) ?_
  refine gj_iadd C dJx4a65c_grow_d5877_6 ?_
  refine gj_callV C (y := yJx4a65c_grow_92f84) (as := [.int (0 + 1)]) rfl (by decide) (by decide) (Nat.le_of_ble_eq_true rfl) (Nat.le_of_ble_eq_true rfl) (q0 := 0) rfl rfl (j_growIA l D K E0 A EL lo mo) hcj_Jx4a65c_grow_92f84 rfl (w_4 wj_386 wj_388 wj_10 wj_32) cj_Jx4a65c_grow_92f84 dJx4a65c_grow_d5877_7 (Nat.le_of_ble_eq_true rfl) (fun v9 w9 h9 => ?_)
  obtain ⟨q, rfl, rfl⟩ := h9
  refine gj_r1 ?_
  exact gj_aretA C E (Or.inr ⟨_, rfl⟩) (Nat.le_of_ble_eq_true rfl) (Nat.le_of_ble_eq_true rfl) dJx4a65c_grow_d5877_10 ⟨q, rfl, rfl⟩
set_option maxRecDepth 20000 in
theorem j_growIB (l : Launch) (D : va_G) (K : Nat → ClassId) (E0 : Nat) (A EL : Nat → Prop) (lo d cap : Nat) (mo : Int32) (f : Nat → Option Nat) (h2 : 2 ≤ cap) (h3 : cap ≤ 500000) (hEl : ∀ i y, f i = some y → EL y) : MetJ l yJx4a65c_grow_92f84 cJx4a65c_grow_92f84 4 (some (.array (.object "java/lang/Object"))) 3 1 (cap + cap / 2) [.ref lo, .int (nI cap + 1)] [(lo, .inr (2, [.int mo, .ref d, .int (nI cap)])), (d, .inl (K 2, cap, .inr (.inr (.inr (.inr f)))))] (fun v ws' => ∃ q : Nat, v = some (.ref q) ∧ ws' = [(lo, .inr (2, [.int mo, .ref q, .int (nI cap)])), (d, .inl (K 2, cap, .inr (.inr (.inr (.inr f))))), (q, .inl (K 2, (cap + cap / 2), .inr (.inr (.inr (.inr (va_cpy f (fun _ => none) 0 0 cap))))))]) D K E0 A EL := by
  refine gj_start (by decide) rfl (Nat.le_of_ble_eq_true rfl) (fun p e s m args below meth c C E => ?_)
  refine gj_aloadn C 0 0 dJx4a65c_grow_92f84_0 rfl rfl ?_
  refine gj_get C 0 1 (by decide) rfl RJx4a65c wj_90 (Or.inl rfl) rfl dJx4a65c_grow_92f84_1 ?_
  refine gj_len C 1 rfl dJx4a65c_grow_92f84_4 ?_
  refine gj_istoren C 2 [(2, .int (nI cap)), (0, .ref lo), (1, .int (nI cap + 1))] dJx4a65c_grow_92f84_5 rfl (by decide) rfl ?_
  refine gj_iloadn C 0 2 dJx4a65c_grow_92f84_6 rfl rfl ?_
  refine gj_if_gt_t C 20 dJx4a65c_grow_92f84_7 (by decide) (show nI 0 < nI cap from nI_lt (by omega) (by omega)) ?_
  refine gj_iloadn C 0 2 dJx4a65c_grow_92f84_20 rfl rfl ?_
  refine gj_iloadn C 2 1 dJx4a65c_grow_92f84_21 rfl rfl ?_
  refine gj_iloadn C 0 2 dJx4a65c_grow_92f84_22 rfl rfl ?_
  refine gj_isub C dJx4a65c_grow_92f84_23 ?_
  refine gj_iloadn C 0 2 dJx4a65c_grow_92f84_24 rfl rfl ?_
  refine gj_iconst C 1 dJx4a65c_grow_92f84_25 (by decide) ?_
  refine gj_ishr C dJx4a65c_grow_92f84_26 ?_
  refine gj_callS C (y := yJ8_newLength_cabcc) (as := [.int (nI cap), .int ((nI cap + 1) - (nI cap)), .int ((nI cap) >>> ((1 : Int32) &&& 31))]) rfl (by decide) (by decide) (by omega) (by omega) (j_newLen l D K E0 A EL (nI cap) ((nI cap + 1) - (nI cap)) (nI cap >>> ((1 : Int32) &&& 31)) _ (by rw [j_growEq h2 h3]; exact nI_nle (by omega) (by omega)) (by rw [j_growEq h2 h3]; exact nI_nlt (a := 2147483639) (by omega) (by decide))) hcj_J8_newLength_cabcc rfl (w_3 wj_390 wj_391 wj_38) cj_J8_newLength_cabcc dJx4a65c_grow_92f84_27 (Nat.le_of_ble_eq_true rfl) (fun v9 w9 h9 => ?_)
  obtain ⟨rfl, rfl⟩ := h9
  refine gj_r1 ?_
  rw [j_growEq h2 h3]
  refine gj_istoren C 3 [(3, .int (nI (cap + cap / 2))), (2, .int (nI cap)), (0, .ref lo), (1, .int (nI cap + 1))] dJx4a65c_grow_92f84_30 rfl (by decide) rfl ?_
  refine gj_aloadn C 2 0 dJx4a65c_grow_92f84_31 rfl rfl ?_
  refine gj_aloadn C 2 0 dJx4a65c_grow_92f84_32 rfl rfl ?_
  refine gj_get C 0 1 (by decide) rfl RJx4a65c wj_90 (Or.inl rfl) rfl dJx4a65c_grow_92f84_33 ?_
  refine gj_iloadn C 0 3 dJx4a65c_grow_92f84_36 rfl rfl ?_
  refine gj_callS C (y := yJ7_copyOf_1904c) (as := [.ref d, .int (nI (cap + cap / 2))]) rfl (by decide) (by decide) (by omega) (by omega) (j_copy2 l D K E0 A EL _ d cap (cap + cap / 2) f (by omega) (by omega) hEl) hcj_J7_copyOf_1904c rfl (w_3 wj_400 wj_401 wj_40) cj_J7_copyOf_1904c dJx4a65c_grow_92f84_37 (Nat.le_of_ble_eq_true rfl) (fun v9 w9 h9 => ?_)
  obtain ⟨q, rfl, rfl⟩ := h9
  refine gj_r1 ?_
  refine gj_dupx1 C dJx4a65c_grow_92f84_40 rfl rfl ?_
  refine gj_put C 0 1 [(lo, .inr (2, [.int mo, .ref q, .int (nI cap)])), (d, .inl (K 2, cap, .inr (.inr (.inr (.inr f))))), (q, .inl (K 2, (cap + cap / 2), .inr (.inr (.inr (.inr (va_cpy f (fun _ => none) 0 0 cap))))))] (by decide) rfl RJx4a65c wj_90 (Or.inl rfl) rfl (tyJx4a65c_ok 1 (by decide)) rfl rfl rfl rfl dJx4a65c_grow_92f84_41 ?_
  exact gj_aretA C E (Or.inr ⟨_, rfl⟩) (by omega) (by omega) dJx4a65c_grow_92f84_44 ⟨q, rfl, rfl⟩
set_option maxRecDepth 20000 in
theorem j_growB (l : Launch) (D : va_G) (K : Nat → ClassId) (E0 : Nat) (A EL : Nat → Prop) (lo d cap : Nat) (mo : Int32) (f : Nat → Option Nat) (h2 : 2 ≤ cap) (h3 : cap ≤ 500000) (hEl : ∀ i y, f i = some y → EL y) : MetJ l yJx4a65c_grow_d5877 cJx4a65c_grow_d5877 1 (some (.array (.object "java/lang/Object"))) 4 1 (cap + cap / 2) [.ref lo] [(lo, .inr (2, [.int mo, .ref d, .int (nI cap)])), (d, .inl (K 2, cap, .inr (.inr (.inr (.inr f)))))] (fun v ws' => ∃ q : Nat, v = some (.ref q) ∧ ws' = [(lo, .inr (2, [.int mo, .ref q, .int (nI cap)])), (d, .inl (K 2, cap, .inr (.inr (.inr (.inr f))))), (q, .inl (K 2, (cap + cap / 2), .inr (.inr (.inr (.inr (va_cpy f (fun _ => none) 0 0 cap))))))]) D K E0 A EL := by
  refine gj_start (by decide) rfl (Nat.le_of_ble_eq_true rfl) (fun p e s m args below meth c C E => ?_)
  refine gj_aloadn C 0 0 dJx4a65c_grow_d5877_0 rfl rfl ?_
  refine gj_aloadn C 0 0 dJx4a65c_grow_d5877_1 rfl rfl ?_
  refine gj_get C 0 2 (by decide) rfl RJx4a65c wj_91 (Or.inl rfl) rfl dJx4a65c_grow_d5877_2 ?_
  refine gj_iconst C 1 dJx4a65c_grow_d5877_5 (by decide) ?_
  refine gj_iadd C dJx4a65c_grow_d5877_6 ?_
  refine gj_callV C (y := yJx4a65c_grow_92f84) (as := [.int ((nI cap) + 1)]) rfl (by decide) (by decide) (by omega) (by omega) (q0 := 0) rfl rfl (j_growIB l D K E0 A EL lo d cap mo f h2 h3 hEl) hcj_Jx4a65c_grow_92f84 rfl (w_4 wj_386 wj_388 wj_10 wj_32) cj_Jx4a65c_grow_92f84 dJx4a65c_grow_d5877_7 (Nat.le_of_ble_eq_true rfl) (fun v9 w9 h9 => ?_)
  obtain ⟨q, rfl, rfl⟩ := h9
  refine gj_r1 ?_
  exact gj_aretA C E (Or.inr ⟨_, rfl⟩) (by omega) (by omega) dJx4a65c_grow_d5877_10 ⟨q, rfl, rfl⟩
set_option maxRecDepth 20000 in
theorem j_add3R (l : Launch) (D : va_G) (K : Nat → ClassId) (E0 : Nat) (A EL : Nat → Prop) (lo d cap v0 : Nat) (mo n : Int32) (f : Nat → Option Nat) (hne : ¬ n = nI cap) (hin : vp_in n cap) (hv : EL v0) : MetJ l yJx4a65c_add_72be8 cJx4a65c_add_72be8 4 none 5 0 0 [.ref lo, .ref v0, .ref d, .int n] [(lo, .inr (2, [.int mo, .ref d, .int n])), (d, .inl (K 2, cap, .inr (.inr (.inr (.inr f)))))] (fun v ws' => v = none ∧ ws' = [(lo, .inr (2, [.int mo, .ref d, .int (n + 1)])), (d, .inl (K 2, cap, .inr (.inr (.inr (.inr (va_up f n.toNatClampNeg (some v0)))))))]) D K E0 A EL := by
  refine gj_start (by decide) rfl (Nat.le_of_ble_eq_true rfl) (fun p e s m args below meth c C E => ?_)
  refine gj_iloadn C 3 3 dJx4a65c_add_72be8_0 rfl rfl ?_
  refine gj_aloadn C 2 2 dJx4a65c_add_72be8_1 rfl rfl ?_
  refine gj_len C 1 rfl dJx4a65c_add_72be8_2 ?_
  refine gj_icmp_ne_t C 11 dJx4a65c_add_72be8_3 (by decide) hne ?_
  refine gj_aloadn C 2 2 dJx4a65c_add_72be8_11 rfl rfl ?_
  refine gj_iloadn C 3 3 dJx4a65c_add_72be8_12 rfl rfl ?_
  refine gj_aloadn C 1 1 dJx4a65c_add_72be8_13 rfl rfl ?_
  refine gj_ast C 1 [(lo, .inr (2, [.int mo, .ref d, .int n])), (d, .inl (K 2, cap, .inr (.inr (.inr (.inr (va_up f n.toNatClampNeg (some v0)))))))] rfl hv hin rfl dJx4a65c_add_72be8_14 ?_
  refine gj_aloadn C 0 0 dJx4a65c_add_72be8_15 rfl rfl ?_
  refine gj_iloadn C 3 3 dJx4a65c_add_72be8_16 rfl rfl ?_
  refine gj_iconst C 1 dJx4a65c_add_72be8_17 (by decide) ?_
  refine gj_iadd C dJx4a65c_add_72be8_18 ?_
  refine gj_put C 0 2 [(lo, .inr (2, [.int mo, .ref d, .int (n + 1)])), (d, .inl (K 2, cap, .inr (.inr (.inr (.inr (va_up f n.toNatClampNeg (some v0)))))))] (by decide) rfl RJx4a65c wj_91 (Or.inl rfl) rfl (tyJx4a65c_ok 2 (by decide)) rfl rfl rfl rfl dJx4a65c_add_72be8_19 ?_
  exact gj_vret C E (Nat.le_of_ble_eq_true rfl) (Nat.le_of_ble_eq_true rfl) dJx4a65c_add_72be8_22 ⟨rfl, rfl⟩
set_option maxRecDepth 20000 in
theorem j_add3A (l : Launch) (D : va_G) (K : Nat → ClassId) (E0 : Nat) (A EL : Nat → Prop) (lo v0 : Nat) (mo : Int32) (hv : EL v0) : MetJ l yJx4a65c_add_72be8 cJx4a65c_add_72be8 4 none 5 1 10 [.ref lo, .ref v0, .ref E0, .int 0] [(lo, .inr (2, [.int mo, .ref E0, .int 0]))] (fun v ws' => ∃ q : Nat, v = none ∧ ws' = [(lo, .inr (2, [.int mo, .ref q, .int (0 + 1)])), (q, .inl (K 2, 10, .inr (.inr (.inr (.inr (va_up (fun _ => none) 0 (some v0)))))))]) D K E0 A EL := by
  refine gj_start (by decide) rfl (Nat.le_of_ble_eq_true rfl) (fun p e s m args below meth c C E => ?_)
  refine gj_iloadn C 3 3 dJx4a65c_add_72be8_0 rfl rfl ?_
  refine gj_aloadn C 2 2 dJx4a65c_add_72be8_1 rfl rfl ?_
  refine gj_lenE C dJx4a65c_add_72be8_2 ?_
  refine gj_icmp_ne_f C dJx4a65c_add_72be8_3 (tgt := 11) (by decide) (fun z => z rfl) ?_
  refine gj_aloadn C 0 0 dJx4a65c_add_72be8_6 rfl rfl ?_
  refine gj_callV C (y := yJx4a65c_grow_d5877) (as := []) rfl (by decide) (by decide) (Nat.le_of_ble_eq_true rfl) (Nat.le_of_ble_eq_true rfl) (q0 := 0) rfl rfl (j_growA l D K E0 A EL lo mo) hcj_Jx4a65c_grow_d5877 rfl (w_4 wj_382 wj_384 wj_9 wj_32) cj_Jx4a65c_grow_d5877 dJx4a65c_add_72be8_7 (Nat.le_of_ble_eq_true rfl) (fun v9 w9 h9 => ?_)
  obtain ⟨q, rfl, rfl⟩ := h9
  refine gj_r1 ?_
  refine gj_astoren C 2 [(2, .ref q), (0, .ref lo), (1, .ref v0), (3, .int 0)] dJx4a65c_add_72be8_10 rfl (by decide) rfl ?_
  refine gj_aloadn C 0 2 dJx4a65c_add_72be8_11 rfl rfl ?_
  refine gj_iloadn C 3 3 dJx4a65c_add_72be8_12 rfl rfl ?_
  refine gj_aloadn C 2 1 dJx4a65c_add_72be8_13 rfl rfl ?_
  refine gj_ast C 1 [(lo, .inr (2, [.int mo, .ref q, .int 0])), (q, .inl (K 2, 10, .inr (.inr (.inr (.inr (va_up (fun _ => none) 0 (some v0)))))))] rfl hv (vp_in_nI (n := 0) (by omega) (by omega)) rfl dJx4a65c_add_72be8_14 ?_
  refine gj_aloadn C 1 0 dJx4a65c_add_72be8_15 rfl rfl ?_
  refine gj_iloadn C 3 3 dJx4a65c_add_72be8_16 rfl rfl ?_
  refine gj_iconst C 1 dJx4a65c_add_72be8_17 (by decide) ?_
  refine gj_iadd C dJx4a65c_add_72be8_18 ?_
  refine gj_put C 0 2 [(lo, .inr (2, [.int mo, .ref q, .int (0 + 1)])), (q, .inl (K 2, 10, .inr (.inr (.inr (.inr (va_up (fun _ => none) 0 (some v0)))))))] (by decide) rfl RJx4a65c wj_91 (Or.inl rfl) rfl (tyJx4a65c_ok 2 (by decide)) rfl rfl rfl rfl dJx4a65c_add_72be8_19 ?_
  exact gj_vret C E (Nat.le_of_ble_eq_true rfl) (Nat.le_of_ble_eq_true rfl) dJx4a65c_add_72be8_22 ⟨q, rfl, rfl⟩
set_option maxRecDepth 20000 in
theorem j_add3B (l : Launch) (D : va_G) (K : Nat → ClassId) (E0 : Nat) (A EL : Nat → Prop) (lo d cap v0 : Nat) (mo : Int32) (f : Nat → Option Nat) (h2 : 2 ≤ cap) (h3 : cap ≤ 500000) (hEl : ∀ i y, f i = some y → EL y) (hv : EL v0) : MetJ l yJx4a65c_add_72be8 cJx4a65c_add_72be8 4 none 5 1 (cap + cap / 2) [.ref lo, .ref v0, .ref d, .int (nI cap)] [(lo, .inr (2, [.int mo, .ref d, .int (nI cap)])), (d, .inl (K 2, cap, .inr (.inr (.inr (.inr f)))))] (fun v ws' => ∃ q : Nat, v = none ∧ ws' = [(lo, .inr (2, [.int mo, .ref q, .int (nI cap + 1)])), (d, .inl (K 2, cap, .inr (.inr (.inr (.inr f))))), (q, .inl (K 2, (cap + cap / 2), .inr (.inr (.inr (.inr (va_up (va_cpy f (fun _ => none) 0 0 cap) cap (some v0)))))))]) D K E0 A EL := by
  refine gj_start (by decide) rfl (Nat.le_of_ble_eq_true rfl) (fun p e s m args below meth c C E => ?_)
  refine gj_iloadn C 3 3 dJx4a65c_add_72be8_0 rfl rfl ?_
  refine gj_aloadn C 2 2 dJx4a65c_add_72be8_1 rfl rfl ?_
  refine gj_len C 1 rfl dJx4a65c_add_72be8_2 ?_
  refine gj_icmp_ne_f C dJx4a65c_add_72be8_3 (tgt := 11) (by decide) (fun z => z rfl) ?_
  refine gj_aloadn C 0 0 dJx4a65c_add_72be8_6 rfl rfl ?_
  refine gj_callV C (y := yJx4a65c_grow_d5877) (as := []) rfl (by decide) (by decide) (by omega) (by omega) (q0 := 0) rfl rfl (j_growB l D K E0 A EL lo d cap mo f h2 h3 hEl) hcj_Jx4a65c_grow_d5877 rfl (w_4 wj_382 wj_384 wj_9 wj_32) cj_Jx4a65c_grow_d5877 dJx4a65c_add_72be8_7 (Nat.le_of_ble_eq_true rfl) (fun v9 w9 h9 => ?_)
  obtain ⟨q, rfl, rfl⟩ := h9
  refine gj_r1 ?_
  refine gj_astoren C 2 [(2, .ref q), (0, .ref lo), (1, .ref v0), (3, .int (nI cap))] dJx4a65c_add_72be8_10 rfl (by decide) rfl ?_
  refine gj_aloadn C 0 2 dJx4a65c_add_72be8_11 rfl rfl ?_
  refine gj_iloadn C 3 3 dJx4a65c_add_72be8_12 rfl rfl ?_
  refine gj_aloadn C 2 1 dJx4a65c_add_72be8_13 rfl rfl ?_
  refine gj_ast C 2 [(lo, .inr (2, [.int mo, .ref q, .int (nI cap)])), (d, .inl (K 2, cap, .inr (.inr (.inr (.inr f))))), (q, .inl (K 2, (cap + cap / 2), .inr (.inr (.inr (.inr (va_up (va_cpy f (fun _ => none) 0 0 cap) cap (some v0)))))))] rfl hv (vp_in_nI (by omega) (by omega)) (by rw [nI_clamp (by omega)]; rfl) dJx4a65c_add_72be8_14 ?_
  refine gj_aloadn C 1 0 dJx4a65c_add_72be8_15 rfl rfl ?_
  refine gj_iloadn C 3 3 dJx4a65c_add_72be8_16 rfl rfl ?_
  refine gj_iconst C 1 dJx4a65c_add_72be8_17 (by decide) ?_
  refine gj_iadd C dJx4a65c_add_72be8_18 ?_
  refine gj_put C 0 2 [(lo, .inr (2, [.int mo, .ref q, .int ((nI cap) + 1)])), (d, .inl (K 2, cap, .inr (.inr (.inr (.inr f))))), (q, .inl (K 2, (cap + cap / 2), .inr (.inr (.inr (.inr (va_up (va_cpy f (fun _ => none) 0 0 cap) cap (some v0)))))))] (by decide) rfl RJx4a65c wj_91 (Or.inl rfl) rfl (tyJx4a65c_ok 2 (by decide)) rfl rfl rfl rfl dJx4a65c_add_72be8_19 ?_
  exact gj_vret C E (by omega) (by omega) dJx4a65c_add_72be8_22 ⟨q, rfl, rfl⟩
set_option maxRecDepth 20000 in
theorem j_addR (l : Launch) (D : va_G) (K : Nat → ClassId) (E0 : Nat) (A EL : Nat → Prop) (lo d cap v0 : Nat) (mo n : Int32) (f : Nat → Option Nat) (hne : ¬ n = nI cap) (hin : vp_in n cap) (hv : EL v0) : MetJ l yJx4a65c_add_9ea2d cJx4a65c_add_9ea2d 2 (some .boolean) 6 0 0 [.ref lo, .ref v0] [(lo, .inr (2, [.int mo, .ref d, .int n])), (d, .inl (K 2, cap, .inr (.inr (.inr (.inr f)))))] (fun v ws' => v = some (.int 1) ∧ ws' = [(lo, .inr (2, [.int (mo + 1), .ref d, .int (n + 1)])), (d, .inl (K 2, cap, .inr (.inr (.inr (.inr (va_up f n.toNatClampNeg (some v0)))))))]) D K E0 A EL := by
  refine gj_start (by decide) rfl (Nat.le_of_ble_eq_true rfl) (fun p e s m args below meth c C E => ?_)
  refine gj_aloadn C 0 0 dJx4a65c_add_9ea2d_0 rfl rfl ?_
  refine gj_dup C dJx4a65c_add_9ea2d_1 rfl ?_
  refine gj_get C 0 0 (by decide) rfl RJx4a65c wj_93 (Or.inr wj_94) rfl dJx4a65c_add_9ea2d_2 ?_
  refine gj_iconst C 1 dJx4a65c_add_9ea2d_5 (by decide) ?_
  refine gj_iadd C dJx4a65c_add_9ea2d_6 ?_
  refine gj_put C 0 0 [(lo, .inr (2, [.int (mo + 1), .ref d, .int n])), (d, .inl (K 2, cap, .inr (.inr (.inr (.inr f)))))] (by decide) rfl RJx4a65c wj_93 (Or.inr wj_94) rfl (tyJx4a65c_ok 0 (by decide)) rfl rfl rfl rfl dJx4a65c_add_9ea2d_7 ?_
  refine gj_aloadn C 0 0 dJx4a65c_add_9ea2d_10 rfl rfl ?_
  refine gj_aloadn C 1 1 dJx4a65c_add_9ea2d_11 rfl rfl ?_
  refine gj_aloadn C 0 0 dJx4a65c_add_9ea2d_12 rfl rfl ?_
  refine gj_get C 0 1 (by decide) rfl RJx4a65c wj_90 (Or.inl rfl) rfl dJx4a65c_add_9ea2d_13 ?_
  refine gj_aloadn C 0 0 dJx4a65c_add_9ea2d_16 rfl rfl ?_
  refine gj_get C 0 2 (by decide) rfl RJx4a65c wj_91 (Or.inl rfl) rfl dJx4a65c_add_9ea2d_17 ?_
  refine gj_callV C (y := yJx4a65c_add_72be8) (as := [.ref v0, .ref d, .int n]) rfl (by decide) (by decide) (Nat.le_of_ble_eq_true rfl) (Nat.le_of_ble_eq_true rfl) (q0 := 0) rfl rfl (j_add3R l D K E0 A EL lo d cap v0 (mo + 1) n f hne hin hv) hcj_Jx4a65c_add_72be8 rfl (w_4 wj_378 wj_380 wj_8 wj_32) cj_Jx4a65c_add_72be8 dJx4a65c_add_9ea2d_20 (Nat.le_of_ble_eq_true rfl) (fun v9 w9 h9 => ?_)
  obtain ⟨rfl, rfl⟩ := h9
  refine gj_r0 ?_
  refine gj_iconst C 1 dJx4a65c_add_9ea2d_23 (by decide) ?_
  exact gj_zret C E (Or.inr rfl) (Nat.le_of_ble_eq_true rfl) (Nat.le_of_ble_eq_true rfl) dJx4a65c_add_9ea2d_24 ⟨rfl, rfl⟩
set_option maxRecDepth 20000 in
theorem j_addA (l : Launch) (D : va_G) (K : Nat → ClassId) (E0 : Nat) (A EL : Nat → Prop) (lo v0 : Nat) (mo : Int32) (hv : EL v0) : MetJ l yJx4a65c_add_9ea2d cJx4a65c_add_9ea2d 2 (some .boolean) 6 1 10 [.ref lo, .ref v0] [(lo, .inr (2, [.int mo, .ref E0, .int 0]))] (fun v ws' => ∃ q : Nat, v = some (.int 1) ∧ ws' = [(lo, .inr (2, [.int (mo + 1), .ref q, .int (0 + 1)])), (q, .inl (K 2, 10, .inr (.inr (.inr (.inr (va_up (fun _ => none) 0 (some v0)))))))]) D K E0 A EL := by
  refine gj_start (by decide) rfl (Nat.le_of_ble_eq_true rfl) (fun p e s m args below meth c C E => ?_)
  refine gj_aloadn C 0 0 dJx4a65c_add_9ea2d_0 rfl rfl ?_
  refine gj_dup C dJx4a65c_add_9ea2d_1 rfl ?_
  refine gj_get C 0 0 (by decide) rfl RJx4a65c wj_93 (Or.inr wj_94) rfl dJx4a65c_add_9ea2d_2 ?_
  refine gj_iconst C 1 dJx4a65c_add_9ea2d_5 (by decide) ?_
  refine gj_iadd C dJx4a65c_add_9ea2d_6 ?_
  refine gj_put C 0 0 [(lo, .inr (2, [.int (mo + 1), .ref E0, .int 0]))] (by decide) rfl RJx4a65c wj_93 (Or.inr wj_94) rfl (tyJx4a65c_ok 0 (by decide)) rfl rfl rfl rfl dJx4a65c_add_9ea2d_7 ?_
  refine gj_aloadn C 0 0 dJx4a65c_add_9ea2d_10 rfl rfl ?_
  refine gj_aloadn C 1 1 dJx4a65c_add_9ea2d_11 rfl rfl ?_
  refine gj_aloadn C 0 0 dJx4a65c_add_9ea2d_12 rfl rfl ?_
  refine gj_get C 0 1 (by decide) rfl RJx4a65c wj_90 (Or.inl rfl) rfl dJx4a65c_add_9ea2d_13 ?_
  refine gj_aloadn C 0 0 dJx4a65c_add_9ea2d_16 rfl rfl ?_
  refine gj_get C 0 2 (by decide) rfl RJx4a65c wj_91 (Or.inl rfl) rfl dJx4a65c_add_9ea2d_17 ?_
  refine gj_callV C (y := yJx4a65c_add_72be8) (as := [.ref v0, .ref E0, .int 0]) rfl (by decide) (by decide) (Nat.le_of_ble_eq_true rfl) (Nat.le_of_ble_eq_true rfl) (q0 := 0) rfl rfl (j_add3A l D K E0 A EL lo v0 (mo + 1) hv) hcj_Jx4a65c_add_72be8 rfl (w_4 wj_378 wj_380 wj_8 wj_32) cj_Jx4a65c_add_72be8 dJx4a65c_add_9ea2d_20 (Nat.le_of_ble_eq_true rfl) (fun v9 w9 h9 => ?_)
  obtain ⟨q, rfl, rfl⟩ := h9
  refine gj_r0 ?_
  refine gj_iconst C 1 dJx4a65c_add_9ea2d_23 (by decide) ?_
  exact gj_zret C E (Or.inr rfl) (Nat.le_of_ble_eq_true rfl) (Nat.le_of_ble_eq_true rfl) dJx4a65c_add_9ea2d_24 ⟨q, rfl, rfl⟩
set_option maxRecDepth 20000 in
theorem j_addB (l : Launch) (D : va_G) (K : Nat → ClassId) (E0 : Nat) (A EL : Nat → Prop) (lo d cap v0 : Nat) (mo : Int32) (f : Nat → Option Nat) (h2 : 2 ≤ cap) (h3 : cap ≤ 500000) (hEl : ∀ i y, f i = some y → EL y) (hv : EL v0) : MetJ l yJx4a65c_add_9ea2d cJx4a65c_add_9ea2d 2 (some .boolean) 6 1 (cap + cap / 2) [.ref lo, .ref v0] [(lo, .inr (2, [.int mo, .ref d, .int (nI cap)])), (d, .inl (K 2, cap, .inr (.inr (.inr (.inr f)))))] (fun v ws' => ∃ q : Nat, v = some (.int 1) ∧ ws' = [(lo, .inr (2, [.int (mo + 1), .ref q, .int (nI cap + 1)])), (d, .inl (K 2, cap, .inr (.inr (.inr (.inr f))))), (q, .inl (K 2, (cap + cap / 2), .inr (.inr (.inr (.inr (va_up (va_cpy f (fun _ => none) 0 0 cap) cap (some v0)))))))]) D K E0 A EL := by
  refine gj_start (by decide) rfl (Nat.le_of_ble_eq_true rfl) (fun p e s m args below meth c C E => ?_)
  refine gj_aloadn C 0 0 dJx4a65c_add_9ea2d_0 rfl rfl ?_
  refine gj_dup C dJx4a65c_add_9ea2d_1 rfl ?_
  refine gj_get C 0 0 (by decide) rfl RJx4a65c wj_93 (Or.inr wj_94) rfl dJx4a65c_add_9ea2d_2 ?_
  refine gj_iconst C 1 dJx4a65c_add_9ea2d_5 (by decide) ?_
  refine gj_iadd C dJx4a65c_add_9ea2d_6 ?_
  refine gj_put C 0 0 [(lo, .inr (2, [.int (mo + 1), .ref d, .int (nI cap)])), (d, .inl (K 2, cap, .inr (.inr (.inr (.inr f)))))] (by decide) rfl RJx4a65c wj_93 (Or.inr wj_94) rfl (tyJx4a65c_ok 0 (by decide)) rfl rfl rfl rfl dJx4a65c_add_9ea2d_7 ?_
  refine gj_aloadn C 0 0 dJx4a65c_add_9ea2d_10 rfl rfl ?_
  refine gj_aloadn C 1 1 dJx4a65c_add_9ea2d_11 rfl rfl ?_
  refine gj_aloadn C 0 0 dJx4a65c_add_9ea2d_12 rfl rfl ?_
  refine gj_get C 0 1 (by decide) rfl RJx4a65c wj_90 (Or.inl rfl) rfl dJx4a65c_add_9ea2d_13 ?_
  refine gj_aloadn C 0 0 dJx4a65c_add_9ea2d_16 rfl rfl ?_
  refine gj_get C 0 2 (by decide) rfl RJx4a65c wj_91 (Or.inl rfl) rfl dJx4a65c_add_9ea2d_17 ?_
  refine gj_callV C (y := yJx4a65c_add_72be8) (as := [.ref v0, .ref d, .int (nI cap)]) rfl (by decide) (by decide) (by omega) (by omega) (q0 := 0) rfl rfl (j_add3B l D K E0 A EL lo d cap v0 (mo + 1) f h2 h3 hEl hv) hcj_Jx4a65c_add_72be8 rfl (w_4 wj_378 wj_380 wj_8 wj_32) cj_Jx4a65c_add_72be8 dJx4a65c_add_9ea2d_20 (Nat.le_of_ble_eq_true rfl) (fun v9 w9 h9 => ?_)
  obtain ⟨q, rfl, rfl⟩ := h9
  refine gj_r0 ?_
  refine gj_iconst C 1 dJx4a65c_add_9ea2d_23 (by decide) ?_
  exact gj_zret C E (Or.inr rfl) (by omega) (by omega) dJx4a65c_add_9ea2d_24 ⟨q, rfl, rfl⟩
set_option maxRecDepth 20000 in
theorem j_rng (l : Launch) (D : va_G) (K : Nat → ClassId) (E0 : Nat) (A EL : Nat → Prop) (lo : Nat) (dv : Value) (mo n i : Int32) (w0 : va_W) (h1 : ¬ n < i) (h2 : 0 ≤ i) : MetJ l yJx4a65c_rangeCheckForAdd_d00df cJx4a65c_rangeCheckForAdd_d00df 2 none 0 0 0 [.ref lo, .int i] ([(lo, .inr (2, [.int mo, dv, .int n]))] ++ w0) (fun v ws' => v = none ∧ ws' = [(lo, .inr (2, [.int mo, dv, .int n]))] ++ w0) D K E0 A EL := by
  refine gj_start (by decide) rfl (Nat.le_of_ble_eq_true rfl) (fun p e s m args below meth c C E => ?_)
  refine gj_iloadn C 1 1 dJx4a65c_rangeCheckForAdd_d00df_0 rfl rfl ?_
  refine gj_aloadn C 0 0 dJx4a65c_rangeCheckForAdd_d00df_1 rfl rfl ?_
  refine gj_get C 0 2 (by decide) rfl RJx4a65c wj_91 (Or.inl rfl) rfl dJx4a65c_rangeCheckForAdd_d00df_2 ?_
  refine gj_icmp_gt_f C dJx4a65c_rangeCheckForAdd_d00df_5 (tgt := 12) (by decide) h1 ?_
  refine gj_iloadn C 1 1 dJx4a65c_rangeCheckForAdd_d00df_8 rfl rfl ?_
  refine gj_if_ge_t C 25 dJx4a65c_rangeCheckForAdd_d00df_9 (by decide) h2 ?_
  exact gj_vret C E (Nat.le_of_ble_eq_true rfl) (Nat.le_of_ble_eq_true rfl) dJx4a65c_rangeCheckForAdd_d00df_25 ⟨rfl, rfl⟩
set_option maxRecDepth 20000 in
theorem j_insR (l : Launch) (D : va_G) (K : Nat → ClassId) (E0 : Nat) (A EL : Nat → Prop) (lo d cap v0 i0 n0 : Nat) (mo : Int32) (f : Nat → Option Nat) (hi : i0 ≤ n0) (hn : n0 < cap) (hc : cap ≤ 500000) (hEl : ∀ i y, f i = some y → EL y) (hv : EL v0) : MetJ l yJx4a65c_add_7a177 cJx4a65c_add_7a177 5 none 5 0 0 [.ref lo, .int (nI i0), .ref v0] [(lo, .inr (2, [.int mo, .ref d, .int (nI n0)])), (d, .inl (K 2, cap, .inr (.inr (.inr (.inr f)))))] (fun v ws' => v = none ∧ ws' = [(lo, .inr (2, [.int (mo + 1), .ref d, .int (nI n0 + 1)])), (d, .inl (K 2, cap, .inr (.inr (.inr (.inr (va_up (va_cpy f f i0 (i0 + 1) (n0 - i0)) i0 (some v0)))))))]) D K E0 A EL := by
  refine gj_start (by decide) rfl (Nat.le_of_ble_eq_true rfl) (fun p e s m args below meth c C E => ?_)
  refine gj_aloadn C 0 0 dJx4a65c_add_7a177_0 rfl rfl ?_
  refine gj_iloadn C 1 1 dJx4a65c_add_7a177_1 rfl rfl ?_
  refine gj_callV C (y := yJx4a65c_rangeCheckForAdd_d00df) (as := [.int (nI i0)]) rfl (by decide) (by decide) (Nat.le_of_ble_eq_true rfl) (Nat.le_of_ble_eq_true rfl) (q0 := 0) rfl rfl (j_rng l D K E0 A EL lo _ mo (nI n0) (nI i0) [(d, .inl (K 2, cap, .inr (.inr (.inr (.inr f)))))] (nI_nlt hi (by omega)) (nI_pos' (by omega))) hcj_Jx4a65c_rangeCheckForAdd_d00df rfl (w_4 wj_1416 wj_1418 wj_25 wj_32) cj_Jx4a65c_rangeCheckForAdd_d00df dJx4a65c_add_7a177_2 (Nat.le_of_ble_eq_true rfl) (fun v9 w9 h9 => ?_)
  obtain ⟨rfl, rfl⟩ := h9
  refine gj_r0 ?_
  refine gj_aloadn C 0 0 dJx4a65c_add_7a177_5 rfl rfl ?_
  refine gj_dup C dJx4a65c_add_7a177_6 rfl ?_
  refine gj_get C 0 0 (by decide) rfl RJx4a65c wj_93 (Or.inr wj_94) rfl dJx4a65c_add_7a177_7 ?_
  refine gj_iconst C 1 dJx4a65c_add_7a177_10 (by decide) ?_
  refine gj_iadd C dJx4a65c_add_7a177_11 ?_
  refine gj_put C 0 0 [(lo, .inr (2, [.int (mo + 1), .ref d, .int (nI n0)])), (d, .inl (K 2, cap, .inr (.inr (.inr (.inr f)))))] (by decide) rfl RJx4a65c wj_93 (Or.inr wj_94) rfl (tyJx4a65c_ok 0 (by decide)) rfl rfl rfl rfl dJx4a65c_add_7a177_12 ?_
  refine gj_aloadn C 0 0 dJx4a65c_add_7a177_15 rfl rfl ?_
  refine gj_get C 0 2 (by decide) rfl RJx4a65c wj_91 (Or.inl rfl) rfl dJx4a65c_add_7a177_16 ?_
  refine gj_dup C dJx4a65c_add_7a177_19 rfl ?_
  refine gj_istoren C 3 [(3, .int (nI n0)), (0, .ref lo), (1, .int (nI i0)), (2, .ref v0)] dJx4a65c_add_7a177_20 rfl (by decide) rfl ?_
  refine gj_aloadn C 1 0 dJx4a65c_add_7a177_21 rfl rfl ?_
  refine gj_get C 0 1 (by decide) rfl RJx4a65c wj_90 (Or.inl rfl) rfl dJx4a65c_add_7a177_22 ?_
  refine gj_dup C dJx4a65c_add_7a177_25 rfl ?_
  refine gj_astore C [(4, .ref d), (3, .int (nI n0)), (0, .ref lo), (1, .int (nI i0)), (2, .ref v0)] dJx4a65c_add_7a177_26 (by decide) rfl ?_
  refine gj_len C 1 rfl dJx4a65c_add_7a177_28 ?_
  refine gj_icmp_ne_t C 38 dJx4a65c_add_7a177_29 (by decide) (fun z => absurd ((nI_eq (by omega) (by omega)).mp z) (by omega)) ?_
  refine gj_aload C 0 dJx4a65c_add_7a177_38 rfl ?_
  refine gj_iloadn C 3 1 dJx4a65c_add_7a177_40 rfl rfl ?_
  refine gj_aload C 0 dJx4a65c_add_7a177_41 rfl ?_
  refine gj_iloadn C 3 1 dJx4a65c_add_7a177_43 rfl rfl ?_
  refine gj_iconst C 1 dJx4a65c_add_7a177_44 (by decide) ?_
  refine gj_iadd C dJx4a65c_add_7a177_45 ?_
  refine gj_iloadn C 1 3 dJx4a65c_add_7a177_46 rfl rfl ?_
  refine gj_iloadn C 3 1 dJx4a65c_add_7a177_47 rfl rfl ?_
  refine gj_isub C dJx4a65c_add_7a177_48 ?_
  refine gj_copy C 1 1 [(lo, .inr (2, [.int (mo + 1), .ref d, .int (nI n0)])), (d, .inl (K 2, cap, .inr (.inr (.inr (.inr (va_cpy f f i0 (i0 + 1) (n0 - i0)))))))] rfl (by decide) (w_4 wj_1269 wj_436 wj_435 wj_41) rfl rfl (nI_pos (by omega)) (by rw [nI_1]; exact nI_pos (by omega)) (by rw [pk_sub hi]; exact nI_pos (by omega)) (by rw [pk_sub hi, nI_clamp (by omega), nI_clamp (by omega)]; omega) (by rw [pk_sub hi, nI_1, nI_clamp (by omega), nI_clamp (by omega)]; omega) (fun i _ y hy => hEl _ y hy) (Nat.le_of_ble_eq_true rfl) (by rw [pk_sub hi, nI_1, nI_clamp (by omega), nI_clamp (by omega), nI_clamp (by omega)]; rfl) dJx4a65c_add_7a177_49 ?_
  refine gj_aload C 0 dJx4a65c_add_7a177_52 rfl ?_
  refine gj_iloadn C 3 1 dJx4a65c_add_7a177_54 rfl rfl ?_
  refine gj_aloadn C 4 2 dJx4a65c_add_7a177_55 rfl rfl ?_
  refine gj_ast C 1 [(lo, .inr (2, [.int (mo + 1), .ref d, .int (nI n0)])), (d, .inl (K 2, cap, .inr (.inr (.inr (.inr (va_up (va_cpy f f i0 (i0 + 1) (n0 - i0)) i0 (some v0)))))))] rfl hv (vp_in_nI (by omega) (by omega)) (by rw [nI_clamp (by omega)]; rfl) dJx4a65c_add_7a177_56 ?_
  refine gj_aloadn C 2 0 dJx4a65c_add_7a177_57 rfl rfl ?_
  refine gj_iloadn C 1 3 dJx4a65c_add_7a177_58 rfl rfl ?_
  refine gj_iconst C 1 dJx4a65c_add_7a177_59 (by decide) ?_
  refine gj_iadd C dJx4a65c_add_7a177_60 ?_
  refine gj_put C 0 2 [(lo, .inr (2, [.int (mo + 1), .ref d, .int ((nI n0) + 1)])), (d, .inl (K 2, cap, .inr (.inr (.inr (.inr (va_up (va_cpy f f i0 (i0 + 1) (n0 - i0)) i0 (some v0)))))))] (by decide) rfl RJx4a65c wj_91 (Or.inl rfl) rfl (tyJx4a65c_ok 2 (by decide)) rfl rfl rfl rfl dJx4a65c_add_7a177_61 ?_
  exact gj_vret C E (Nat.le_of_ble_eq_true rfl) (Nat.le_of_ble_eq_true rfl) dJx4a65c_add_7a177_64 ⟨rfl, rfl⟩
set_option maxRecDepth 20000 in
theorem j_insA (l : Launch) (D : va_G) (K : Nat → ClassId) (E0 : Nat) (A EL : Nat → Prop) (lo v0 : Nat) (mo : Int32) (hv : EL v0) : MetJ l yJx4a65c_add_7a177 cJx4a65c_add_7a177 5 none 5 1 10 [.ref lo, .int 0, .ref v0] [(lo, .inr (2, [.int mo, .ref E0, .int 0]))] (fun v ws' => ∃ q : Nat, v = none ∧ ws' = [(lo, .inr (2, [.int (mo + 1), .ref q, .int (0 + 1)])), (q, .inl (K 2, 10, .inr (.inr (.inr (.inr (va_up (fun _ => none) 0 (some v0)))))))]) D K E0 A EL := by
  refine gj_start (by decide) rfl (Nat.le_of_ble_eq_true rfl) (fun p e s m args below meth c C E => ?_)
  refine gj_aloadn C 0 0 dJx4a65c_add_7a177_0 rfl rfl ?_
  refine gj_iloadn C 1 1 dJx4a65c_add_7a177_1 rfl rfl ?_
  refine gj_callV C (y := yJx4a65c_rangeCheckForAdd_d00df) (as := [.int 0]) rfl (by decide) (by decide) (Nat.le_of_ble_eq_true rfl) (Nat.le_of_ble_eq_true rfl) (q0 := 0) rfl rfl (j_rng l D K E0 A EL lo _ mo 0 0 [] (by decide) (by decide)) hcj_Jx4a65c_rangeCheckForAdd_d00df rfl (w_4 wj_1416 wj_1418 wj_25 wj_32) cj_Jx4a65c_rangeCheckForAdd_d00df dJx4a65c_add_7a177_2 (Nat.le_of_ble_eq_true rfl) (fun v9 w9 h9 => ?_)
  obtain ⟨rfl, rfl⟩ := h9
  refine gj_r0 ?_
  refine gj_aloadn C 0 0 dJx4a65c_add_7a177_5 rfl rfl ?_
  refine gj_dup C dJx4a65c_add_7a177_6 rfl ?_
  refine gj_get C 0 0 (by decide) rfl RJx4a65c wj_93 (Or.inr wj_94) rfl dJx4a65c_add_7a177_7 ?_
  refine gj_iconst C 1 dJx4a65c_add_7a177_10 (by decide) ?_
  refine gj_iadd C dJx4a65c_add_7a177_11 ?_
  refine gj_put C 0 0 [(lo, .inr (2, [.int (mo + 1), .ref E0, .int 0]))] (by decide) rfl RJx4a65c wj_93 (Or.inr wj_94) rfl (tyJx4a65c_ok 0 (by decide)) rfl rfl rfl rfl dJx4a65c_add_7a177_12 ?_
  refine gj_aloadn C 0 0 dJx4a65c_add_7a177_15 rfl rfl ?_
  refine gj_get C 0 2 (by decide) rfl RJx4a65c wj_91 (Or.inl rfl) rfl dJx4a65c_add_7a177_16 ?_
  refine gj_dup C dJx4a65c_add_7a177_19 rfl ?_
  refine gj_istoren C 3 [(3, .int 0), (0, .ref lo), (1, .int 0), (2, .ref v0)] dJx4a65c_add_7a177_20 rfl (by decide) rfl ?_
  refine gj_aloadn C 1 0 dJx4a65c_add_7a177_21 rfl rfl ?_
  refine gj_get C 0 1 (by decide) rfl RJx4a65c wj_90 (Or.inl rfl) rfl dJx4a65c_add_7a177_22 ?_
  refine gj_dup C dJx4a65c_add_7a177_25 rfl ?_
  refine gj_astore C [(4, .ref E0), (3, .int 0), (0, .ref lo), (1, .int 0), (2, .ref v0)] dJx4a65c_add_7a177_26 (by decide) rfl ?_
  refine gj_lenE C dJx4a65c_add_7a177_28 ?_
  refine gj_icmp_ne_f C dJx4a65c_add_7a177_29 (tgt := 38) (by decide) (fun z => z rfl) ?_
  refine gj_aloadn C 2 0 dJx4a65c_add_7a177_32 rfl rfl ?_
  refine gj_callV C (y := yJx4a65c_grow_d5877) (as := []) rfl (by decide) (by decide) (Nat.le_of_ble_eq_true rfl) (Nat.le_of_ble_eq_true rfl) (q0 := 0) rfl rfl (j_growA l D K E0 A EL lo (mo + 1)) hcj_Jx4a65c_grow_d5877 rfl (w_4 wj_382 wj_384 wj_9 wj_32) cj_Jx4a65c_grow_d5877 dJx4a65c_add_7a177_33 (Nat.le_of_ble_eq_true rfl) (fun v9 w9 h9 => ?_)
  obtain ⟨q, rfl, rfl⟩ := h9
  refine gj_r1 ?_
  refine gj_astore C [(4, .ref q), (3, .int 0), (0, .ref lo), (1, .int 0), (2, .ref v0)] dJx4a65c_add_7a177_36 (by decide) rfl ?_
  refine gj_aload C 0 dJx4a65c_add_7a177_38 rfl ?_
  refine gj_iloadn C 3 1 dJx4a65c_add_7a177_40 rfl rfl ?_
  refine gj_aload C 0 dJx4a65c_add_7a177_41 rfl ?_
  refine gj_iloadn C 3 1 dJx4a65c_add_7a177_43 rfl rfl ?_
  refine gj_iconst C 1 dJx4a65c_add_7a177_44 (by decide) ?_
  refine gj_iadd C dJx4a65c_add_7a177_45 ?_
  refine gj_iloadn C 1 3 dJx4a65c_add_7a177_46 rfl rfl ?_
  refine gj_iloadn C 3 1 dJx4a65c_add_7a177_47 rfl rfl ?_
  refine gj_isub C dJx4a65c_add_7a177_48 ?_
  refine gj_copy C 1 1 [(lo, .inr (2, [.int (mo + 1), .ref q, .int 0])), (q, .inl (K 2, 10, .inr (.inr (.inr (.inr (fun _ => none))))))] rfl (by decide) (w_4 wj_1269 wj_436 wj_435 wj_41) rfl rfl (by decide) (by decide) (by decide) (by decide) (by decide) (fun i _ y hy => by cases hy) (Nat.le_of_ble_eq_true rfl) (by rw [j_cpyN]; rfl) dJx4a65c_add_7a177_49 ?_
  refine gj_aload C 0 dJx4a65c_add_7a177_52 rfl ?_
  refine gj_iloadn C 3 1 dJx4a65c_add_7a177_54 rfl rfl ?_
  refine gj_aloadn C 4 2 dJx4a65c_add_7a177_55 rfl rfl ?_
  refine gj_ast C 1 [(lo, .inr (2, [.int (mo + 1), .ref q, .int 0])), (q, .inl (K 2, 10, .inr (.inr (.inr (.inr (va_up (fun _ => none) 0 (some v0)))))))] rfl hv (vp_in_nI (n := 0) (by omega) (by omega)) rfl dJx4a65c_add_7a177_56 ?_
  refine gj_aloadn C 2 0 dJx4a65c_add_7a177_57 rfl rfl ?_
  refine gj_iloadn C 1 3 dJx4a65c_add_7a177_58 rfl rfl ?_
  refine gj_iconst C 1 dJx4a65c_add_7a177_59 (by decide) ?_
  refine gj_iadd C dJx4a65c_add_7a177_60 ?_
  refine gj_put C 0 2 [(lo, .inr (2, [.int (mo + 1), .ref q, .int (0 + 1)])), (q, .inl (K 2, 10, .inr (.inr (.inr (.inr (va_up (fun _ => none) 0 (some v0)))))))] (by decide) rfl RJx4a65c wj_91 (Or.inl rfl) rfl (tyJx4a65c_ok 2 (by decide)) rfl rfl rfl rfl dJx4a65c_add_7a177_61 ?_
  exact gj_vret C E (Nat.le_of_ble_eq_true rfl) (Nat.le_of_ble_eq_true rfl) dJx4a65c_add_7a177_64 ⟨q, rfl, rfl⟩
set_option maxRecDepth 20000 in
theorem j_insB (l : Launch) (D : va_G) (K : Nat → ClassId) (E0 : Nat) (A EL : Nat → Prop) (lo d cap v0 i0 : Nat) (mo : Int32) (f : Nat → Option Nat) (hi : i0 ≤ cap) (h2 : 2 ≤ cap) (h3 : cap ≤ 500000) (hEl : ∀ i y, f i = some y → EL y) (hv : EL v0) : MetJ l yJx4a65c_add_7a177 cJx4a65c_add_7a177 5 none 5 1 (cap + cap / 2) [.ref lo, .int (nI i0), .ref v0] [(lo, .inr (2, [.int mo, .ref d, .int (nI cap)])), (d, .inl (K 2, cap, .inr (.inr (.inr (.inr f)))))] (fun v ws' => ∃ q : Nat, v = none ∧ ws' = [(lo, .inr (2, [.int (mo + 1), .ref q, .int (nI cap + 1)])), (d, .inl (K 2, cap, .inr (.inr (.inr (.inr f))))), (q, .inl (K 2, (cap + cap / 2), .inr (.inr (.inr (.inr (va_up (va_cpy (va_cpy f (fun _ => none) 0 0 cap) (va_cpy f (fun _ => none) 0 0 cap) i0 (i0 + 1) (cap - i0)) i0 (some v0)))))))]) D K E0 A EL := by
  refine gj_start (by decide) rfl (Nat.le_of_ble_eq_true rfl) (fun p e s m args below meth c C E => ?_)
  refine gj_aloadn C 0 0 dJx4a65c_add_7a177_0 rfl rfl ?_
  refine gj_iloadn C 1 1 dJx4a65c_add_7a177_1 rfl rfl ?_
  refine gj_callV C (y := yJx4a65c_rangeCheckForAdd_d00df) (as := [.int (nI i0)]) rfl (by decide) (by decide) (by omega) (by omega) (q0 := 0) rfl rfl (j_rng l D K E0 A EL lo _ mo (nI cap) (nI i0) [(d, .inl (K 2, cap, .inr (.inr (.inr (.inr f)))))] (nI_nlt hi (by omega)) (nI_pos' (by omega))) hcj_Jx4a65c_rangeCheckForAdd_d00df rfl (w_4 wj_1416 wj_1418 wj_25 wj_32) cj_Jx4a65c_rangeCheckForAdd_d00df dJx4a65c_add_7a177_2 (Nat.le_of_ble_eq_true rfl) (fun v9 w9 h9 => ?_)
  obtain ⟨rfl, rfl⟩ := h9
  refine gj_r0 ?_
  refine gj_aloadn C 0 0 dJx4a65c_add_7a177_5 rfl rfl ?_
  refine gj_dup C dJx4a65c_add_7a177_6 rfl ?_
  refine gj_get C 0 0 (by decide) rfl RJx4a65c wj_93 (Or.inr wj_94) rfl dJx4a65c_add_7a177_7 ?_
  refine gj_iconst C 1 dJx4a65c_add_7a177_10 (by decide) ?_
  refine gj_iadd C dJx4a65c_add_7a177_11 ?_
  refine gj_put C 0 0 [(lo, .inr (2, [.int (mo + 1), .ref d, .int (nI cap)])), (d, .inl (K 2, cap, .inr (.inr (.inr (.inr f)))))] (by decide) rfl RJx4a65c wj_93 (Or.inr wj_94) rfl (tyJx4a65c_ok 0 (by decide)) rfl rfl rfl rfl dJx4a65c_add_7a177_12 ?_
  refine gj_aloadn C 0 0 dJx4a65c_add_7a177_15 rfl rfl ?_
  refine gj_get C 0 2 (by decide) rfl RJx4a65c wj_91 (Or.inl rfl) rfl dJx4a65c_add_7a177_16 ?_
  refine gj_dup C dJx4a65c_add_7a177_19 rfl ?_
  refine gj_istoren C 3 [(3, .int (nI cap)), (0, .ref lo), (1, .int (nI i0)), (2, .ref v0)] dJx4a65c_add_7a177_20 rfl (by decide) rfl ?_
  refine gj_aloadn C 1 0 dJx4a65c_add_7a177_21 rfl rfl ?_
  refine gj_get C 0 1 (by decide) rfl RJx4a65c wj_90 (Or.inl rfl) rfl dJx4a65c_add_7a177_22 ?_
  refine gj_dup C dJx4a65c_add_7a177_25 rfl ?_
  refine gj_astore C [(4, .ref d), (3, .int (nI cap)), (0, .ref lo), (1, .int (nI i0)), (2, .ref v0)] dJx4a65c_add_7a177_26 (by decide) rfl ?_
  refine gj_len C 1 rfl dJx4a65c_add_7a177_28 ?_
  refine gj_icmp_ne_f C dJx4a65c_add_7a177_29 (tgt := 38) (by decide) (fun z => z rfl) ?_
  refine gj_aloadn C 2 0 dJx4a65c_add_7a177_32 rfl rfl ?_
  refine gj_callV C (y := yJx4a65c_grow_d5877) (as := []) rfl (by decide) (by decide) (by omega) (by omega) (q0 := 0) rfl rfl (j_growB l D K E0 A EL lo d cap (mo + 1) f h2 h3 hEl) hcj_Jx4a65c_grow_d5877 rfl (w_4 wj_382 wj_384 wj_9 wj_32) cj_Jx4a65c_grow_d5877 dJx4a65c_add_7a177_33 (Nat.le_of_ble_eq_true rfl) (fun v9 w9 h9 => ?_)
  obtain ⟨q, rfl, rfl⟩ := h9
  refine gj_r1 ?_
  refine gj_astore C [(4, .ref q), (3, .int (nI cap)), (0, .ref lo), (1, .int (nI i0)), (2, .ref v0)] dJx4a65c_add_7a177_36 (by decide) rfl ?_
  refine gj_aload C 0 dJx4a65c_add_7a177_38 rfl ?_
  refine gj_iloadn C 3 1 dJx4a65c_add_7a177_40 rfl rfl ?_
  refine gj_aload C 0 dJx4a65c_add_7a177_41 rfl ?_
  refine gj_iloadn C 3 1 dJx4a65c_add_7a177_43 rfl rfl ?_
  refine gj_iconst C 1 dJx4a65c_add_7a177_44 (by decide) ?_
  refine gj_iadd C dJx4a65c_add_7a177_45 ?_
  refine gj_iloadn C 1 3 dJx4a65c_add_7a177_46 rfl rfl ?_
  refine gj_iloadn C 3 1 dJx4a65c_add_7a177_47 rfl rfl ?_
  refine gj_isub C dJx4a65c_add_7a177_48 ?_
  refine gj_copy C 2 2 [(lo, .inr (2, [.int (mo + 1), .ref q, .int (nI cap)])), (d, .inl (K 2, cap, .inr (.inr (.inr (.inr f))))), (q, .inl (K 2, (cap + cap / 2), .inr (.inr (.inr (.inr (va_cpy (va_cpy f (fun _ => none) 0 0 cap) (va_cpy f (fun _ => none) 0 0 cap) i0 (i0 + 1) (cap - i0)))))))] rfl (by decide) (w_4 wj_1269 wj_436 wj_435 wj_41) rfl rfl (nI_pos (by omega)) (by rw [nI_1]; exact nI_pos (by omega)) (by rw [pk_sub hi]; exact nI_pos (by omega)) (by rw [pk_sub hi, nI_clamp (by omega), nI_clamp (by omega)]; omega) (by rw [pk_sub hi, nI_1, nI_clamp (by omega), nI_clamp (by omega)]; omega) (fun i _ y hy => j_cpE hEl _ y hy) (Nat.le_of_ble_eq_true rfl) (by rw [pk_sub hi, nI_1, nI_clamp (by omega), nI_clamp (by omega), nI_clamp (by omega)]; rfl) dJx4a65c_add_7a177_49 ?_
  refine gj_aload C 0 dJx4a65c_add_7a177_52 rfl ?_
  refine gj_iloadn C 3 1 dJx4a65c_add_7a177_54 rfl rfl ?_
  refine gj_aloadn C 4 2 dJx4a65c_add_7a177_55 rfl rfl ?_
  refine gj_ast C 2 [(lo, .inr (2, [.int (mo + 1), .ref q, .int (nI cap)])), (d, .inl (K 2, cap, .inr (.inr (.inr (.inr f))))), (q, .inl (K 2, (cap + cap / 2), .inr (.inr (.inr (.inr (va_up (va_cpy (va_cpy f (fun _ => none) 0 0 cap) (va_cpy f (fun _ => none) 0 0 cap) i0 (i0 + 1) (cap - i0)) i0 (some v0)))))))] rfl hv (vp_in_nI (by omega) (by omega)) (by rw [nI_clamp (by omega)]; rfl) dJx4a65c_add_7a177_56 ?_
  refine gj_aloadn C 2 0 dJx4a65c_add_7a177_57 rfl rfl ?_
  refine gj_iloadn C 1 3 dJx4a65c_add_7a177_58 rfl rfl ?_
  refine gj_iconst C 1 dJx4a65c_add_7a177_59 (by decide) ?_
  refine gj_iadd C dJx4a65c_add_7a177_60 ?_
  refine gj_put C 0 2 [(lo, .inr (2, [.int (mo + 1), .ref q, .int ((nI cap) + 1)])), (d, .inl (K 2, cap, .inr (.inr (.inr (.inr f))))), (q, .inl (K 2, (cap + cap / 2), .inr (.inr (.inr (.inr (va_up (va_cpy (va_cpy f (fun _ => none) 0 0 cap) (va_cpy f (fun _ => none) 0 0 cap) i0 (i0 + 1) (cap - i0)) i0 (some v0)))))))] (by decide) rfl RJx4a65c wj_91 (Or.inl rfl) rfl (tyJx4a65c_ok 2 (by decide)) rfl rfl rfl rfl dJx4a65c_add_7a177_61 ?_
  exact gj_vret C E (by omega) (by omega) dJx4a65c_add_7a177_64 ⟨q, rfl, rfl⟩
set_option maxRecDepth 20000 in
theorem j_fastT (l : Launch) (D : va_G) (K : Nat → ClassId) (E0 : Nat) (A EL : Nat → Prop) (lo d cap i0 n0 : Nat) (mo : Int32) (f : Nat → Option Nat) (hi : i0 + 1 = n0) (hn : n0 ≤ cap) (hc : cap ≤ 500000) (hEl : ∀ i y, f i = some y → EL y) : MetJ l yJx4a65c_fastRemove_b59b0 cJx4a65c_fastRemove_b59b0 4 none 1 0 0 [.ref lo, .ref d, .int (nI i0)] [(lo, .inr (2, [.int mo, .ref d, .int (nI n0)])), (d, .inl (K 2, cap, .inr (.inr (.inr (.inr f)))))] (fun v ws' => v = none ∧ ws' = [(lo, .inr (2, [.int (mo + 1), .ref d, .int (nI n0 - 1)])), (d, .inl (K 2, cap, .inr (.inr (.inr (.inr (va_up f (n0 - 1) none))))))]) D K E0 A EL := by
  refine gj_start (by decide) rfl (Nat.le_of_ble_eq_true rfl) (fun p e s m args below meth c C E => ?_)
  refine gj_aloadn C 0 0 dJx4a65c_fastRemove_b59b0_0 rfl rfl ?_
  refine gj_dup C dJx4a65c_fastRemove_b59b0_1 rfl ?_
  refine gj_get C 0 0 (by decide) rfl RJx4a65c wj_93 (Or.inr wj_94) rfl dJx4a65c_fastRemove_b59b0_2 ?_
  refine gj_iconst C 1 dJx4a65c_fastRemove_b59b0_5 (by decide) ?_
  refine gj_iadd C dJx4a65c_fastRemove_b59b0_6 ?_
  refine gj_put C 0 0 [(lo, .inr (2, [.int (mo + 1), .ref d, .int (nI n0)])), (d, .inl (K 2, cap, .inr (.inr (.inr (.inr f)))))] (by decide) rfl RJx4a65c wj_93 (Or.inr wj_94) rfl (tyJx4a65c_ok 0 (by decide)) rfl rfl rfl rfl dJx4a65c_fastRemove_b59b0_7 ?_
  refine gj_aloadn C 0 0 dJx4a65c_fastRemove_b59b0_10 rfl rfl ?_
  refine gj_get C 0 2 (by decide) rfl RJx4a65c wj_91 (Or.inl rfl) rfl dJx4a65c_fastRemove_b59b0_11 ?_
  refine gj_iconst C 1 dJx4a65c_fastRemove_b59b0_14 (by decide) ?_
  refine gj_isub C dJx4a65c_fastRemove_b59b0_15 ?_
  refine gj_dup C dJx4a65c_fastRemove_b59b0_16 rfl ?_
  refine gj_istoren C 3 [(3, .int ((nI n0) - 1)), (0, .ref lo), (1, .ref d), (2, .int (nI i0))] dJx4a65c_fastRemove_b59b0_17 rfl (by decide) rfl ?_
  refine gj_iloadn C 3 2 dJx4a65c_fastRemove_b59b0_18 rfl rfl ?_
  refine gj_icmp_le_t C 34 dJx4a65c_fastRemove_b59b0_19 (by decide) (by rw [j_m1 (by omega)]; exact nI_le (by omega) (by omega)) ?_
  refine gj_aloadn C 2 1 dJx4a65c_fastRemove_b59b0_34 rfl rfl ?_
  refine gj_aloadn C 1 0 dJx4a65c_fastRemove_b59b0_35 rfl rfl ?_
  refine gj_iloadn C 0 3 dJx4a65c_fastRemove_b59b0_36 rfl rfl ?_
  refine gj_dupx1 C dJx4a65c_fastRemove_b59b0_37 rfl rfl ?_
  refine gj_put C 0 2 [(lo, .inr (2, [.int (mo + 1), .ref d, .int ((nI n0) - 1)])), (d, .inl (K 2, cap, .inr (.inr (.inr (.inr f)))))] (by decide) rfl RJx4a65c wj_91 (Or.inl rfl) rfl (tyJx4a65c_ok 2 (by decide)) rfl rfl rfl rfl dJx4a65c_fastRemove_b59b0_38 ?_
  refine gj_null C dJx4a65c_fastRemove_b59b0_41 ?_
  refine gj_astN C 1 [(lo, .inr (2, [.int (mo + 1), .ref d, .int ((nI n0) - 1)])), (d, .inl (K 2, cap, .inr (.inr (.inr (.inr (va_up f (n0 - 1) none))))))] rfl (by rw [j_m1 (by omega)]; exact vp_in_nI (by omega) (by omega)) (by rw [j_m1 (by omega), nI_clamp (by omega)]; rfl) dJx4a65c_fastRemove_b59b0_42 ?_
  exact gj_vret C E (Nat.le_of_ble_eq_true rfl) (Nat.le_of_ble_eq_true rfl) dJx4a65c_fastRemove_b59b0_43 ⟨rfl, rfl⟩
set_option maxRecDepth 20000 in
theorem j_fastF (l : Launch) (D : va_G) (K : Nat → ClassId) (E0 : Nat) (A EL : Nat → Prop) (lo d cap i0 n0 : Nat) (mo : Int32) (f : Nat → Option Nat) (hi : i0 + 1 < n0) (hn : n0 ≤ cap) (hc : cap ≤ 500000) (hEl : ∀ i y, f i = some y → EL y) : MetJ l yJx4a65c_fastRemove_b59b0 cJx4a65c_fastRemove_b59b0 4 none 1 0 0 [.ref lo, .ref d, .int (nI i0)] [(lo, .inr (2, [.int mo, .ref d, .int (nI n0)])), (d, .inl (K 2, cap, .inr (.inr (.inr (.inr f)))))] (fun v ws' => v = none ∧ ws' = [(lo, .inr (2, [.int (mo + 1), .ref d, .int (nI n0 - 1)])), (d, .inl (K 2, cap, .inr (.inr (.inr (.inr (va_up (va_cpy f f (i0 + 1) i0 (n0 - 1 - i0)) (n0 - 1) none))))))]) D K E0 A EL := by
  refine gj_start (by decide) rfl (Nat.le_of_ble_eq_true rfl) (fun p e s m args below meth c C E => ?_)
  refine gj_aloadn C 0 0 dJx4a65c_fastRemove_b59b0_0 rfl rfl ?_
  refine gj_dup C dJx4a65c_fastRemove_b59b0_1 rfl ?_
  refine gj_get C 0 0 (by decide) rfl RJx4a65c wj_93 (Or.inr wj_94) rfl dJx4a65c_fastRemove_b59b0_2 ?_
  refine gj_iconst C 1 dJx4a65c_fastRemove_b59b0_5 (by decide) ?_
  refine gj_iadd C dJx4a65c_fastRemove_b59b0_6 ?_
  refine gj_put C 0 0 [(lo, .inr (2, [.int (mo + 1), .ref d, .int (nI n0)])), (d, .inl (K 2, cap, .inr (.inr (.inr (.inr f)))))] (by decide) rfl RJx4a65c wj_93 (Or.inr wj_94) rfl (tyJx4a65c_ok 0 (by decide)) rfl rfl rfl rfl dJx4a65c_fastRemove_b59b0_7 ?_
  refine gj_aloadn C 0 0 dJx4a65c_fastRemove_b59b0_10 rfl rfl ?_
  refine gj_get C 0 2 (by decide) rfl RJx4a65c wj_91 (Or.inl rfl) rfl dJx4a65c_fastRemove_b59b0_11 ?_
  refine gj_iconst C 1 dJx4a65c_fastRemove_b59b0_14 (by decide) ?_
  refine gj_isub C dJx4a65c_fastRemove_b59b0_15 ?_
  refine gj_dup C dJx4a65c_fastRemove_b59b0_16 rfl ?_
  refine gj_istoren C 3 [(3, .int ((nI n0) - 1)), (0, .ref lo), (1, .ref d), (2, .int (nI i0))] dJx4a65c_fastRemove_b59b0_17 rfl (by decide) rfl ?_
  refine gj_iloadn C 3 2 dJx4a65c_fastRemove_b59b0_18 rfl rfl ?_
  refine gj_icmp_le_f C dJx4a65c_fastRemove_b59b0_19 (tgt := 34) (by decide) (by rw [j_m1 (by omega)]; exact nI_ge (by omega) (by omega)) ?_
  refine gj_aloadn C 2 1 dJx4a65c_fastRemove_b59b0_22 rfl rfl ?_
  refine gj_iloadn C 3 2 dJx4a65c_fastRemove_b59b0_23 rfl rfl ?_
  refine gj_iconst C 1 dJx4a65c_fastRemove_b59b0_24 (by decide) ?_
  refine gj_iadd C dJx4a65c_fastRemove_b59b0_25 ?_
  refine gj_aloadn C 2 1 dJx4a65c_fastRemove_b59b0_26 rfl rfl ?_
  refine gj_iloadn C 3 2 dJx4a65c_fastRemove_b59b0_27 rfl rfl ?_
  refine gj_iloadn C 0 3 dJx4a65c_fastRemove_b59b0_28 rfl rfl ?_
  refine gj_iloadn C 3 2 dJx4a65c_fastRemove_b59b0_29 rfl rfl ?_
  refine gj_isub C dJx4a65c_fastRemove_b59b0_30 ?_
  refine gj_copy C 1 1 [(lo, .inr (2, [.int (mo + 1), .ref d, .int (nI n0)])), (d, .inl (K 2, cap, .inr (.inr (.inr (.inr (va_cpy f f (i0 + 1) i0 (n0 - 1 - i0)))))))] rfl (by decide) (w_4 wj_1269 wj_436 wj_435 wj_41) rfl rfl (by rw [nI_1]; exact nI_pos (by omega)) (nI_pos (by omega)) (by rw [j_m1 (n := n0) (by omega), pk_sub (a := n0 - 1) (b := i0) (by omega)]; exact nI_pos (by omega)) (by rw [j_m1 (n := n0) (by omega), pk_sub (a := n0 - 1) (b := i0) (by omega), nI_1, nI_clamp (by omega), nI_clamp (by omega)]; omega) (by rw [j_m1 (n := n0) (by omega), pk_sub (a := n0 - 1) (b := i0) (by omega), nI_clamp (by omega), nI_clamp (by omega)]; omega) (fun i _ y hy => hEl _ y hy) (Nat.le_of_ble_eq_true rfl) (by rw [j_m1 (n := n0) (by omega), pk_sub (a := n0 - 1) (b := i0) (by omega), nI_1, nI_clamp (by omega), nI_clamp (by omega), nI_clamp (by omega)]; rfl) dJx4a65c_fastRemove_b59b0_31 ?_
  refine gj_aloadn C 2 1 dJx4a65c_fastRemove_b59b0_34 rfl rfl ?_
  refine gj_aloadn C 1 0 dJx4a65c_fastRemove_b59b0_35 rfl rfl ?_
  refine gj_iloadn C 0 3 dJx4a65c_fastRemove_b59b0_36 rfl rfl ?_
  refine gj_dupx1 C dJx4a65c_fastRemove_b59b0_37 rfl rfl ?_
  refine gj_put C 0 2 [(lo, .inr (2, [.int (mo + 1), .ref d, .int ((nI n0) - 1)])), (d, .inl (K 2, cap, .inr (.inr (.inr (.inr (va_cpy f f (i0 + 1) i0 (n0 - 1 - i0)))))))] (by decide) rfl RJx4a65c wj_91 (Or.inl rfl) rfl (tyJx4a65c_ok 2 (by decide)) rfl rfl rfl rfl dJx4a65c_fastRemove_b59b0_38 ?_
  refine gj_null C dJx4a65c_fastRemove_b59b0_41 ?_
  refine gj_astN C 1 [(lo, .inr (2, [.int (mo + 1), .ref d, .int ((nI n0) - 1)])), (d, .inl (K 2, cap, .inr (.inr (.inr (.inr (va_up (va_cpy f f (i0 + 1) i0 (n0 - 1 - i0)) (n0 - 1) none))))))] rfl (by rw [j_m1 (by omega)]; exact vp_in_nI (by omega) (by omega)) (by rw [j_m1 (by omega), nI_clamp (by omega)]; rfl) dJx4a65c_fastRemove_b59b0_42 ?_
  exact gj_vret C E (Nat.le_of_ble_eq_true rfl) (Nat.le_of_ble_eq_true rfl) dJx4a65c_fastRemove_b59b0_43 ⟨rfl, rfl⟩
set_option maxRecDepth 20000 in
theorem j_removeT (l : Launch) (D : va_G) (K : Nat → ClassId) (E0 : Nat) (A EL : Nat → Prop) (lo d cap i0 n0 y : Nat) (mo : Int32) (f : Nat → Option Nat) (hi : i0 + 1 = n0) (hn : n0 ≤ cap) (hc : cap ≤ 500000) (hEl : ∀ i y, f i = some y → EL y) (hy : f i0 = some y) : MetJ l yJx4a65c_remove_915e3 cJx4a65c_remove_915e3 4 (some (.object "java/lang/Object")) 2 0 0 [.ref lo, .int (nI i0)] [(lo, .inr (2, [.int mo, .ref d, .int (nI n0)])), (d, .inl (K 2, cap, .inr (.inr (.inr (.inr f)))))] (fun v ws' => v = some (.ref y) ∧ ws' = [(lo, .inr (2, [.int (mo + 1), .ref d, .int (nI n0 - 1)])), (d, .inl (K 2, cap, .inr (.inr (.inr (.inr (va_up f (n0 - 1) none))))))]) D K E0 A EL := by
  refine gj_start (by decide) rfl (Nat.le_of_ble_eq_true rfl) (fun p e s m args below meth c C E => ?_)
  refine gj_iloadn C 1 1 dJx4a65c_remove_915e3_0 rfl rfl ?_
  refine gj_aloadn C 0 0 dJx4a65c_remove_915e3_1 rfl rfl ?_
  refine gj_get C 0 2 (by decide) rfl RJx4a65c wj_91 (Or.inl rfl) rfl dJx4a65c_remove_915e3_2 ?_
  refine gj_callS C (y := yJ15_checkIndex_7cf53) (as := [.int (nI i0), .int (nI n0)]) rfl (by decide) (by decide) (Nat.le_of_ble_eq_true rfl) (Nat.le_of_ble_eq_true rfl) (j_chk l D K E0 A EL (nI i0) (nI n0) _ (nI_pos (by omega)) (nI_lt (by omega) (by omega))) hcj_J15_checkIndex_7cf53 rfl (w_3 wj_221 wj_222 wj_34) cj_J15_checkIndex_7cf53 dJx4a65c_remove_915e3_5 (Nat.le_of_ble_eq_true rfl) (fun v9 w9 h9 => ?_)
  obtain ⟨rfl, rfl⟩ := h9
  refine gj_r1 ?_
  refine gj_pop C dJx4a65c_remove_915e3_8 rfl ?_
  refine gj_aloadn C 0 0 dJx4a65c_remove_915e3_9 rfl rfl ?_
  refine gj_get C 0 1 (by decide) rfl RJx4a65c wj_90 (Or.inl rfl) rfl dJx4a65c_remove_915e3_10 ?_
  refine gj_astoren C 2 [(2, .ref d), (0, .ref lo), (1, .int (nI i0))] dJx4a65c_remove_915e3_13 rfl (by decide) rfl ?_
  refine gj_aloadn C 0 2 dJx4a65c_remove_915e3_14 rfl rfl ?_
  refine gj_iloadn C 2 1 dJx4a65c_remove_915e3_15 rfl rfl ?_
  refine gj_aldS C (y := y) 1 rfl (vp_in_nI (by omega) (by omega)) (by rw [nI_clamp (by omega)]; exact hy) dJx4a65c_remove_915e3_16 ?_
  refine gj_astoren C 3 [(3, .ref y), (2, .ref d), (0, .ref lo), (1, .int (nI i0))] dJx4a65c_remove_915e3_17 rfl (by decide) rfl ?_
  refine gj_aloadn C 2 0 dJx4a65c_remove_915e3_18 rfl rfl ?_
  refine gj_aloadn C 1 2 dJx4a65c_remove_915e3_19 rfl rfl ?_
  refine gj_iloadn C 3 1 dJx4a65c_remove_915e3_20 rfl rfl ?_
  refine gj_callV C (y := yJx4a65c_fastRemove_b59b0) (as := [.ref d, .int (nI i0)]) rfl (by decide) (by decide) (Nat.le_of_ble_eq_true rfl) (Nat.le_of_ble_eq_true rfl) (q0 := 0) rfl rfl (j_fastT l D K E0 A EL lo d cap i0 n0 mo f hi hn hc hEl) hcj_Jx4a65c_fastRemove_b59b0 rfl (w_4 wj_1265 wj_1267 wj_23 wj_32) cj_Jx4a65c_fastRemove_b59b0 dJx4a65c_remove_915e3_21 (Nat.le_of_ble_eq_true rfl) (fun v9 w9 h9 => ?_)
  obtain ⟨rfl, rfl⟩ := h9
  refine gj_r0 ?_
  refine gj_aloadn C 0 3 dJx4a65c_remove_915e3_24 rfl rfl ?_
  exact gj_aret C E (Or.inr ⟨_, rfl⟩) (Nat.le_of_ble_eq_true rfl) (Nat.le_of_ble_eq_true rfl) dJx4a65c_remove_915e3_25 ⟨rfl, rfl⟩
set_option maxRecDepth 20000 in
theorem j_removeF (l : Launch) (D : va_G) (K : Nat → ClassId) (E0 : Nat) (A EL : Nat → Prop) (lo d cap i0 n0 y : Nat) (mo : Int32) (f : Nat → Option Nat) (hi : i0 + 1 < n0) (hn : n0 ≤ cap) (hc : cap ≤ 500000) (hEl : ∀ i y, f i = some y → EL y) (hy : f i0 = some y) : MetJ l yJx4a65c_remove_915e3 cJx4a65c_remove_915e3 4 (some (.object "java/lang/Object")) 2 0 0 [.ref lo, .int (nI i0)] [(lo, .inr (2, [.int mo, .ref d, .int (nI n0)])), (d, .inl (K 2, cap, .inr (.inr (.inr (.inr f)))))] (fun v ws' => v = some (.ref y) ∧ ws' = [(lo, .inr (2, [.int (mo + 1), .ref d, .int (nI n0 - 1)])), (d, .inl (K 2, cap, .inr (.inr (.inr (.inr (va_up (va_cpy f f (i0 + 1) i0 (n0 - 1 - i0)) (n0 - 1) none))))))]) D K E0 A EL := by
  refine gj_start (by decide) rfl (Nat.le_of_ble_eq_true rfl) (fun p e s m args below meth c C E => ?_)
  refine gj_iloadn C 1 1 dJx4a65c_remove_915e3_0 rfl rfl ?_
  refine gj_aloadn C 0 0 dJx4a65c_remove_915e3_1 rfl rfl ?_
  refine gj_get C 0 2 (by decide) rfl RJx4a65c wj_91 (Or.inl rfl) rfl dJx4a65c_remove_915e3_2 ?_
  refine gj_callS C (y := yJ15_checkIndex_7cf53) (as := [.int (nI i0), .int (nI n0)]) rfl (by decide) (by decide) (Nat.le_of_ble_eq_true rfl) (Nat.le_of_ble_eq_true rfl) (j_chk l D K E0 A EL (nI i0) (nI n0) _ (nI_pos (by omega)) (nI_lt (by omega) (by omega))) hcj_J15_checkIndex_7cf53 rfl (w_3 wj_221 wj_222 wj_34) cj_J15_checkIndex_7cf53 dJx4a65c_remove_915e3_5 (Nat.le_of_ble_eq_true rfl) (fun v9 w9 h9 => ?_)
  obtain ⟨rfl, rfl⟩ := h9
  refine gj_r1 ?_
  refine gj_pop C dJx4a65c_remove_915e3_8 rfl ?_
  refine gj_aloadn C 0 0 dJx4a65c_remove_915e3_9 rfl rfl ?_
  refine gj_get C 0 1 (by decide) rfl RJx4a65c wj_90 (Or.inl rfl) rfl dJx4a65c_remove_915e3_10 ?_
  refine gj_astoren C 2 [(2, .ref d), (0, .ref lo), (1, .int (nI i0))] dJx4a65c_remove_915e3_13 rfl (by decide) rfl ?_
  refine gj_aloadn C 0 2 dJx4a65c_remove_915e3_14 rfl rfl ?_
  refine gj_iloadn C 2 1 dJx4a65c_remove_915e3_15 rfl rfl ?_
  refine gj_aldS C (y := y) 1 rfl (vp_in_nI (by omega) (by omega)) (by rw [nI_clamp (by omega)]; exact hy) dJx4a65c_remove_915e3_16 ?_
  refine gj_astoren C 3 [(3, .ref y), (2, .ref d), (0, .ref lo), (1, .int (nI i0))] dJx4a65c_remove_915e3_17 rfl (by decide) rfl ?_
  refine gj_aloadn C 2 0 dJx4a65c_remove_915e3_18 rfl rfl ?_
  refine gj_aloadn C 1 2 dJx4a65c_remove_915e3_19 rfl rfl ?_
  refine gj_iloadn C 3 1 dJx4a65c_remove_915e3_20 rfl rfl ?_
  refine gj_callV C (y := yJx4a65c_fastRemove_b59b0) (as := [.ref d, .int (nI i0)]) rfl (by decide) (by decide) (Nat.le_of_ble_eq_true rfl) (Nat.le_of_ble_eq_true rfl) (q0 := 0) rfl rfl (j_fastF l D K E0 A EL lo d cap i0 n0 mo f hi hn hc hEl) hcj_Jx4a65c_fastRemove_b59b0 rfl (w_4 wj_1265 wj_1267 wj_23 wj_32) cj_Jx4a65c_fastRemove_b59b0 dJx4a65c_remove_915e3_21 (Nat.le_of_ble_eq_true rfl) (fun v9 w9 h9 => ?_)
  obtain ⟨rfl, rfl⟩ := h9
  refine gj_r0 ?_
  refine gj_aloadn C 0 3 dJx4a65c_remove_915e3_24 rfl rfl ?_
  exact gj_aret C E (Or.inr ⟨_, rfl⟩) (Nat.le_of_ble_eq_true rfl) (Nat.le_of_ble_eq_true rfl) dJx4a65c_remove_915e3_25 ⟨rfl, rfl⟩
