/-! THE CLASS'S METHODS: words, small lemmas, rows that are left -/
theorem w_2 {a b : Cond} (ha : a ∈ wU) (hb : b ∈ wU) : ∀ w ∈ ([a, b] : List Cond), w ∈ wU := List.forall_mem_cons.mpr ⟨ha, List.forall_mem_cons.mpr ⟨hb, fun _ h => absurd h List.not_mem_nil⟩⟩
theorem n_at {w : Cond} (i : Nat) (h : lw_tbl[i]? = some w) (hn : nwK w = true) : w ∈ nwL := List.mem_filter.mpr ⟨List.mem_of_getElem? h, hn⟩
theorem ex_mem {L : List Cond} (h : L.all (fun w => decide (w ∈ lw_tbl) && (goodWord w || (nwK w && w.onTables))) = true) : ∀ w ∈ L, w ∈ wU ∨ (w ∈ nwL ∧ w.onTables = true) := by
  intro w hw
  have h1 := List.all_eq_true.mp h w hw
  simp only [Bool.and_eq_true, Bool.or_eq_true, decide_eq_true_eq] at h1
  rcases h1.2 with h2 | h2
  · exact Or.inl (List.mem_filter.mpr ⟨h1.1, h2⟩)
  · exact Or.inr ⟨List.mem_filter.mpr ⟨h1.1, h2.1⟩, h2.2⟩
theorem bx_mem {L : List Cond} (h : L.all (fun w => decide (w ∈ lw_tbl) && goodWord w) = true) : ∀ w ∈ L, w ∈ wU := by
  intro w hw
  have h1 := List.all_eq_true.mp h w hw
  simp only [Bool.and_eq_true, decide_eq_true_eq] at h1
  exact List.mem_filter.mpr h1
theorem isC_uat {S : CS} {f o ci sl : Nat} (h : isC S o ci) (hc : ci < 100) : isC (uat S f o ci sl) o ci := by
  have e : kdC (uat S f o ci sl) o = attV (kdC S o) ci := va_up_self _ _ _
  unfold isC at h ⊢
  rw [e]
  unfold attV
  by_cases h1 : kdC S o / 100 = cNE ci
  · rw [if_pos h1]; omega
  · rw [if_neg h1]; omega
theorem gb_fit {v : Int32} (h : gb v) : fits .boolean (.int v) = true := by rcases h with rfl | rfl <;> rfl
theorem gb_if {P : Prop} [Decidable P] : gb (if P then 1 else 0) := by by_cases h : P <;> simp [gb, h]
set_option maxRecDepth 20000 in
theorem one_J : ∀ r, cFT r = 2 → r = 105 := by
  intro r h
  by_cases hr : r < 240
  · have h1 := rgA (n := 240) (p := fun r => decide (cFT r = 2 → r = 105)) (by decide +kernel) hr
    exact of_decide_eq_true h1 h
  · have e : cFT r = 9 := by
      unfold cFT
      rw [List.getD_eq_getElem?_getD, List.getElem?_eq_none (by show 240 ≤ r; omega)]
      rfl
    omega
section GCN
variable {p : Program} {l : Launch} {e : Env} {R : Room} {s : State} {m : MethodId} {args : Array Value} {below : List Frame} {meth : Method} {c : Code} {Q : State → Prop}
variable {cc : ByteArray} {nL : Nat} {own : String} {hd : Cond} {D : va_G} {K : Nat → ClassId} {E0 : Nat} {B : Nat × Nat} {A0 : Nat → Prop}
variable {S : CS} {pc : Nat} {lv : List (Nat × Value)} {st : List Value} {S0 : CS}

theorem qkIP {v0 : Int32} (k : GC p l e R s m args below meth c nL D K E0 B A0 Q S (pc + 3) lv (.int v0 :: st)) : ∀ (v : Option Value) (S' : CS), qI (fun r t' => v0 = r ∧ S = t') v S' → kdLe S S' → GC p l e R s m args below meth c nL D K E0 B A0 Q S' (pc + 3) lv (v.toList ++ st) := by
  rintro v S' ⟨r, rfl, rfl, rfl⟩ _
  exact k
theorem qkRP {v0 : Nat} (k : GC p l e R s m args below meth c nL D K E0 B A0 Q S (pc + 3) lv (.ref v0 :: st)) : ∀ (v : Option Value) (S' : CS), qR (fun r t' => v0 = r ∧ S = t') v S' → kdLe S S' → GC p l e R s m args below meth c nL D K E0 B A0 Q S' (pc + 3) lv (v.toList ++ st) := by
  rintro v S' ⟨r, rfl, rfl, rfl⟩ _
  exact k
theorem qkOP {v0 : Option Nat} (k : GC p l e R s m args below meth c nL D K E0 B A0 Q S (pc + 3) lv (va_rf v0 :: st)) : ∀ (v : Option Value) (S' : CS), qO (fun r t' => v0 = r ∧ S = t') v S' → kdLe S S' → GC p l e R s m args below meth c nL D K E0 B A0 Q S' (pc + 3) lv (v.toList ++ st) := by
  rintro v S' ⟨r, rfl, rfl, rfl⟩ _
  exact k
theorem gc_alen (C : gc_Cx p l s m args c meth cc nL own hd D K E0 B A0 R) {ci k0 : Nat} (f : Nat) (h3 : 3 ≤ ci) (h15 : ci < 15) (hk : k0 < cNF ci) (hf : 16 * ci + k0 = f) {o : Nat} (ht : cFT f = 1) (hlt : f < 240) (hg : kdC S o = ci) (v : Int32) (hv : Int32.ofNat (cLN f) = v) (d : decode cc pc = .ok (.arraylength, 1)) (k : GC p l e R s m args below meth c nL D K E0 B A0 Q S (pc + 1) lv (.int v :: st)) : GC p l e R s m args below meth c nL D K E0 B A0 Q S pc lv (.ref (o + cOF f) :: st) := by
  intro G H locs ls hP hA hS hs h1 h2 hl
  have he := (c_emb hP hg h3 h15 hk hf (by rw [ht]; rfl)).2.1
  have hce : c_ce K E0 S G f o = .inl (K 0, cLN f, .inl (fA S f o)) := by
    unfold c_ce
    rw [if_neg (by omega), if_neg (by omega)]
    simp [ht]
  rw [hce] at he
  exact va_alen C.1 C.2.1 C.2.2.2.2.2.1 he 0 0 rfl rfl hv d (k G H locs ls hP hA hS hs h1 h2 hl)
end GCN

theorem BX0 : c_Cls 3 RX0 TX0 6 tyX0 := ⟨rfl, bx_mem (by decide +kernel), tyX0_ok, nmX0, rfl, by decide, by decide⟩
theorem hd_X0 : ∀ j, j < 6 → defaultValue (tyX0 j) = if cFT (16 * 3 + j) = 0 then .int 0 else .null := by
  intro j hj
  have h : j = 0 ∨ j = 1 ∨ j = 2 ∨ j = 3 ∨ j = 4 ∨ j = 5 := by omega
  rcases h with rfl | rfl | rfl | rfl | rfl | rfl <;> rfl
theorem BX1 : c_Cls 4 RX1 TX1 4 tyX1 := ⟨rfl, bx_mem (by decide +kernel), tyX1_ok, nmX1, rfl, by decide, by decide⟩
theorem hd_X1 : ∀ j, j < 4 → defaultValue (tyX1 j) = if cFT (16 * 4 + j) = 0 then .int 0 else .null := by
  intro j hj
  have h : j = 0 ∨ j = 1 ∨ j = 2 ∨ j = 3 := by omega
  rcases h with rfl | rfl | rfl | rfl <;> rfl
theorem BX2 : c_Cls 5 RX2 TX2 4 tyX2 := ⟨rfl, bx_mem (by decide +kernel), tyX2_ok, nmX2, rfl, by decide, by decide⟩
theorem hd_X2 : ∀ j, j < 4 → defaultValue (tyX2 j) = if cFT (16 * 5 + j) = 0 then .int 0 else .null := by
  intro j hj
  have h : j = 0 ∨ j = 1 ∨ j = 2 ∨ j = 3 := by omega
  rcases h with rfl | rfl | rfl | rfl <;> rfl
theorem BX3 : c_Cls 6 RX3 TX3 11 tyX3 := ⟨rfl, bx_mem (by decide +kernel), tyX3_ok, nmX3, rfl, by decide, by decide⟩
theorem hd_X3 : ∀ j, j < 11 → defaultValue (tyX3 j) = if cFT (16 * 6 + j) = 0 then .int 0 else .null := by
  intro j hj
  have h : j = 0 ∨ j = 1 ∨ j = 2 ∨ j = 3 ∨ j = 4 ∨ j = 5 ∨ j = 6 ∨ j = 7 ∨ j = 8 ∨ j = 9 ∨ j = 10 := by omega
  rcases h with rfl | rfl | rfl | rfl | rfl | rfl | rfl | rfl | rfl | rfl | rfl <;> rfl
theorem BX4 : c_Cls 7 RX4 TX4 10 tyX4 := ⟨rfl, bx_mem (by decide +kernel), tyX4_ok, nmX4, rfl, by decide, by decide⟩
theorem hd_X4 : ∀ j, j < 10 → defaultValue (tyX4 j) = if cFT (16 * 7 + j) = 0 then .int 0 else .null := by
  intro j hj
  have h : j = 0 ∨ j = 1 ∨ j = 2 ∨ j = 3 ∨ j = 4 ∨ j = 5 ∨ j = 6 ∨ j = 7 ∨ j = 8 ∨ j = 9 := by omega
  rcases h with rfl | rfl | rfl | rfl | rfl | rfl | rfl | rfl | rfl | rfl <;> rfl
theorem BX5 : c_Cls 8 RX5 TX5 6 tyX5 := ⟨rfl, bx_mem (by decide +kernel), tyX5_ok, nmX5, rfl, by decide, by decide⟩
theorem hd_X5 : ∀ j, j < 6 → defaultValue (tyX5 j) = if cFT (16 * 8 + j) = 0 then .int 0 else .null := by
  intro j hj
  have h : j = 0 ∨ j = 1 ∨ j = 2 ∨ j = 3 ∨ j = 4 ∨ j = 5 := by omega
  rcases h with rfl | rfl | rfl | rfl | rfl | rfl <;> rfl
theorem BX6 : c_Cls 9 RX6 TX6 10 tyX6 := ⟨rfl, bx_mem (by decide +kernel), tyX6_ok, nmX6, rfl, by decide, by decide⟩
theorem hd_X6 : ∀ j, j < 10 → defaultValue (tyX6 j) = if cFT (16 * 9 + j) = 0 then .int 0 else .null := by
  intro j hj
  have h : j = 0 ∨ j = 1 ∨ j = 2 ∨ j = 3 ∨ j = 4 ∨ j = 5 ∨ j = 6 ∨ j = 7 ∨ j = 8 ∨ j = 9 := by omega
  rcases h with rfl | rfl | rfl | rfl | rfl | rfl | rfl | rfl | rfl | rfl <;> rfl
theorem BX7 : c_Cls 10 RX7 TX7 3 tyX7 := ⟨rfl, bx_mem (by decide +kernel), tyX7_ok, nmX7, rfl, by decide, by decide⟩
theorem hd_X7 : ∀ j, j < 3 → defaultValue (tyX7 j) = if cFT (16 * 10 + j) = 0 then .int 0 else .null := by
  intro j hj
  have h : j = 0 ∨ j = 1 ∨ j = 2 := by omega
  rcases h with rfl | rfl | rfl <;> rfl
theorem BX8 : c_Cls 11 RX8 TX8 3 tyX8 := ⟨rfl, bx_mem (by decide +kernel), tyX8_ok, nmX8, rfl, by decide, by decide⟩
theorem hd_X8 : ∀ j, j < 3 → defaultValue (tyX8 j) = if cFT (16 * 11 + j) = 0 then .int 0 else .null := by
  intro j hj
  have h : j = 0 ∨ j = 1 ∨ j = 2 := by omega
  rcases h with rfl | rfl | rfl <;> rfl
theorem BX9 : c_Cls 12 RX9 TX9 8 tyX9 := ⟨rfl, bx_mem (by decide +kernel), tyX9_ok, nmX9, rfl, by decide, by decide⟩
theorem hd_X9 : ∀ j, j < 8 → defaultValue (tyX9 j) = if cFT (16 * 12 + j) = 0 then .int 0 else .null := by
  intro j hj
  have h : j = 0 ∨ j = 1 ∨ j = 2 ∨ j = 3 ∨ j = 4 ∨ j = 5 ∨ j = 6 ∨ j = 7 := by omega
  rcases h with rfl | rfl | rfl | rfl | rfl | rfl | rfl | rfl <;> rfl
theorem BX10 : c_Cls 13 RX10 TX10 5 tyX10 := ⟨rfl, bx_mem (by decide +kernel), tyX10_ok, nmX10, rfl, by decide, by decide⟩
theorem hd_X10 : ∀ j, j < 5 → defaultValue (tyX10 j) = if cFT (16 * 13 + j) = 0 then .int 0 else .null := by
  intro j hj
  have h : j = 0 ∨ j = 1 ∨ j = 2 ∨ j = 3 ∨ j = 4 := by omega
  rcases h with rfl | rfl | rfl | rfl | rfl <;> rfl
theorem BX11 : c_Cls 14 RX11 TX11 3 tyX11 := ⟨rfl, bx_mem (by decide +kernel), tyX11_ok, nmX11, rfl, by decide, by decide⟩
theorem hd_X11 : ∀ j, j < 3 → defaultValue (tyX11 j) = if cFT (16 * 14 + j) = 0 then .int 0 else .null := by
  intro j hj
  have h : j = 0 ∨ j = 1 ∨ j = 2 := by omega
  rcases h with rfl | rfl | rfl <;> rfl
theorem kc_X9_init : Cond.code yX9_init cX9_init 1 none ∈ wU := w_at 74 (by decide +kernel) (by decide +kernel)
theorem hk_X9_init : yX9_init.cls = RX9 ∧ yX9_init.cls ≠ "java/lang/invoke/MethodHandle" ∧ yX9_init.cls ≠ "java/lang/invoke/VarHandle" ∧ (parseMethodDescriptor yX9_init.desc).map (fun d => d.parameters.length) = some 0 := by decide +kernel
theorem v_i75 : Cond.methodLink RX9 3 Lib.objectInit ∈ wU := w_at 75 (by decide +kernel) (by decide +kernel)
theorem v_i68 : Cond.instanceMethod Lib.objectInit ∈ wU := w_at 68 (by decide +kernel) (by decide +kernel)
theorem v_i69 : Cond.code Lib.objectInit ⟨#[0xb1]⟩ 1 none ∈ wU := w_at 69 (by decide +kernel) (by decide +kernel)
theorem vo_X9_3 : ∀ w ∈ ([.methodLink RX9 3 Lib.objectInit, .instanceMethod Lib.objectInit, .code Lib.objectInit ⟨#[0xb1]⟩ 1 none] : List Cond), w ∈ wU := w_3 v_i75 v_i68 v_i69
theorem vf_X9_12 : Cond.fieldLink RX9 12 RX9 (TX9 0).2.1 (TX9 0).2.2.1 ∈ wU := w_at 102 (by decide +kernel) (by decide +kernel)
theorem v_i76 : Cond.classLink RX9 9 RJx4a65c ∈ wU := w_at 76 (by decide +kernel) (by decide +kernel)
theorem v_i77 : Cond.instantiable RJx4a65c 3 ∈ wU := w_at 77 (by decide +kernel) (by decide +kernel)
theorem v_i32 : Cond.initialized RJx4a65c ∈ wU := w_at 32 (by decide +kernel) (by decide +kernel)
theorem vn_X9_9 : ∀ w ∈ ([.classLink RX9 9 RJx4a65c, .instantiable RJx4a65c 3, .initialized RJx4a65c] : List Cond), w ∈ wU := w_3 v_i76 v_i77 v_i32
theorem v_i78 : Cond.methodLink RX9 11 yJx4a65c_init_da8c8 ∈ wU := w_at 78 (by decide +kernel) (by decide +kernel)
theorem v_i79 : Cond.instanceMethod yJx4a65c_init_da8c8 ∈ wU := w_at 79 (by decide +kernel) (by decide +kernel)
theorem vk_X9_11 : ∀ w ∈ ([.methodLink RX9 11 yJx4a65c_init_da8c8, .instanceMethod yJx4a65c_init_da8c8, .initialized RJx4a65c] : List Cond), w ∈ wU := w_3 v_i78 v_i79 v_i32
theorem ft_192 : cFT 192 = 5 := by decide +kernel
theorem vf_X9_18 : Cond.fieldLink RX9 18 RX9 (TX9 1).2.1 (TX9 1).2.2.1 ∈ wU := w_at 104 (by decide +kernel) (by decide +kernel)
theorem ft_193 : cFT 193 = 5 := by decide +kernel
theorem vf_X9_21 : Cond.fieldLink RX9 21 RX9 (TX9 2).2.1 (TX9 2).2.2.1 ∈ wU := w_at 106 (by decide +kernel) (by decide +kernel)
theorem ft_194 : cFT 194 = 5 := by decide +kernel
theorem vf_X9_24 : Cond.fieldLink RX9 24 RX9 (TX9 3).2.1 (TX9 3).2.2.1 ∈ wU := w_at 109 (by decide +kernel) (by decide +kernel)
theorem ft_195 : cFT 195 = 1 := by decide +kernel
theorem v_i137 : Cond.arrayClass .int ∈ wU := w_at 137 (by decide +kernel) (by decide +kernel)
theorem vf_X9_28 : Cond.fieldLink RX9 28 RX9 (TX9 4).2.1 (TX9 4).2.2.1 ∈ wU := w_at 111 (by decide +kernel) (by decide +kernel)
theorem ft_196 : cFT 196 = 0 := by decide +kernel
theorem vf_X9_32 : Cond.fieldLink RX9 32 RX9 (TX9 5).2.1 (TX9 5).2.2.1 ∈ wU := w_at 113 (by decide +kernel) (by decide +kernel)
theorem ft_197 : cFT 197 = 0 := by decide +kernel
theorem vf_X9_35 : Cond.fieldLink RX9 35 RX9 (TX9 6).2.1 (TX9 6).2.2.1 ∈ wU := w_at 115 (by decide +kernel) (by decide +kernel)
theorem ft_198 : cFT 198 = 0 := by decide +kernel
theorem kc_X6_init : Cond.code yX6_init cX6_init 1 none ∈ wU := w_at 142 (by decide +kernel) (by decide +kernel)
theorem hk_X6_init : yX6_init.cls = RX6 ∧ yX6_init.cls ≠ "java/lang/invoke/MethodHandle" ∧ yX6_init.cls ≠ "java/lang/invoke/VarHandle" ∧ (parseMethodDescriptor yX6_init.desc).map (fun d => d.parameters.length) = some 0 := by decide +kernel
theorem v_i143 : Cond.methodLink RX6 3 Lib.objectInit ∈ wU := w_at 143 (by decide +kernel) (by decide +kernel)
theorem vo_X6_3 : ∀ w ∈ ([.methodLink RX6 3 Lib.objectInit, .instanceMethod Lib.objectInit, .code Lib.objectInit ⟨#[0xb1]⟩ 1 none] : List Cond), w ∈ wU := w_3 v_i143 v_i68 v_i69
theorem vf_X6_11 : Cond.fieldLink RX6 11 RX6 (TX6 0).2.1 (TX6 0).2.2.1 ∈ wU := w_at 148 (by decide +kernel) (by decide +kernel)
theorem ft_144 : cFT 144 = 1 := by decide +kernel
theorem vf_X6_15 : Cond.fieldLink RX6 15 RX6 (TX6 1).2.1 (TX6 1).2.2.1 ∈ wU := w_at 150 (by decide +kernel) (by decide +kernel)
theorem ft_145 : cFT 145 = 1 := by decide +kernel
theorem vf_X6_21 : Cond.fieldLink RX6 21 RX6 (TX6 4).2.1 (TX6 4).2.2.1 ∈ wU := w_at 156 (by decide +kernel) (by decide +kernel)
theorem v_i144 : Cond.classLink RX6 18 RJx4a65c ∈ wU := w_at 144 (by decide +kernel) (by decide +kernel)
theorem vn_X6_18 : ∀ w ∈ ([.classLink RX6 18 RJx4a65c, .instantiable RJx4a65c 3, .initialized RJx4a65c] : List Cond), w ∈ wU := w_3 v_i144 v_i77 v_i32
theorem v_i145 : Cond.methodLink RX6 20 yJx4a65c_init_da8c8 ∈ wU := w_at 145 (by decide +kernel) (by decide +kernel)
theorem vk_X6_20 : ∀ w ∈ ([.methodLink RX6 20 yJx4a65c_init_da8c8, .instanceMethod yJx4a65c_init_da8c8, .initialized RJx4a65c] : List Cond), w ∈ wU := w_3 v_i145 v_i79 v_i32
theorem ft_148 : cFT 148 = 5 := by decide +kernel
theorem vf_X6_25 : Cond.fieldLink RX6 25 RX6 (TX6 6).2.1 (TX6 6).2.2.1 ∈ wU := w_at 160 (by decide +kernel) (by decide +kernel)
theorem ft_150 : cFT 150 = 0 := by decide +kernel
theorem vf_X6_31 : Cond.fieldLink RX6 31 RX6 (TX6 7).2.1 (TX6 7).2.2.1 ∈ wU := w_at 161 (by decide +kernel) (by decide +kernel)
theorem ft_151 : cFT 151 = 4 := by decide +kernel
theorem v_i146 : Cond.classLink RX6 29 RX10 ∈ wU := w_at 146 (by decide +kernel) (by decide +kernel)
theorem n_i147 : Cond.arrayOver (.object RX10) ∈ nwL := n_at 147 (by decide +kernel) rfl
theorem vf_X6_35 : Cond.fieldLink RX6 35 RX6 (TX6 8).2.1 (TX6 8).2.2.1 ∈ wU := w_at 162 (by decide +kernel) (by decide +kernel)
theorem ft_152 : cFT 152 = 1 := by decide +kernel
theorem vf_X6_38 : Cond.fieldLink RX6 38 RX6 (TX6 9).2.1 (TX6 9).2.2.1 ∈ wU := w_at 163 (by decide +kernel) (by decide +kernel)
theorem ft_153 : cFT 153 = 1 := by decide +kernel
theorem kc_X11_init : Cond.code yX11_init cX11_init 1 none ∈ wU := w_at 66 (by decide +kernel) (by decide +kernel)
theorem hk_X11_init : yX11_init.cls = RX11 ∧ yX11_init.cls ≠ "java/lang/invoke/MethodHandle" ∧ yX11_init.cls ≠ "java/lang/invoke/VarHandle" ∧ (parseMethodDescriptor yX11_init.desc).map (fun d => d.parameters.length) = some 0 := by decide +kernel
theorem v_i67 : Cond.methodLink RX11 1 Lib.objectInit ∈ wU := w_at 67 (by decide +kernel) (by decide +kernel)
theorem vo_X11_1 : ∀ w ∈ ([.methodLink RX11 1 Lib.objectInit, .instanceMethod Lib.objectInit, .code Lib.objectInit ⟨#[0xb1]⟩ 1 none] : List Cond), w ∈ wU := w_3 v_i67 v_i68 v_i69
theorem v_i70 : Cond.classLink RX11 7 RX9 ∈ wU := w_at 70 (by decide +kernel) (by decide +kernel)
theorem v_i71 : Cond.instantiable RX9 8 ∈ wU := w_at 71 (by decide +kernel) (by decide +kernel)
theorem v_i29 : Cond.initialized RX9 ∈ wU := w_at 29 (by decide +kernel) (by decide +kernel)
theorem vn_X11_7 : ∀ w ∈ ([.classLink RX11 7 RX9, .instantiable RX9 8, .initialized RX9] : List Cond), w ∈ wU := w_3 v_i70 v_i71 v_i29
theorem n_i72 : Cond.methodLinkNest RX11 9 yX9_init "ScoreHouse" ∈ nwL := n_at 72 (by decide +kernel) rfl
theorem v_i73 : Cond.instanceMethod yX9_init ∈ wU := w_at 73 (by decide +kernel) (by decide +kernel)
theorem vl_X11_9 : ∀ w ∈ ([.instanceMethod yX9_init, .initialized RX9] : List Cond), w ∈ wU := w_2 v_i73 v_i29
theorem vf_X11_10 : Cond.fieldLink RX11 10 RX11 (TX11 0).2.1 (TX11 0).2.2.1 ∈ wU := w_at 187 (by decide +kernel) (by decide +kernel)
theorem ft_224 : cFT 224 = 3 := by decide +kernel
theorem v_i138 : Cond.classLink RX11 16 RX6 ∈ wU := w_at 138 (by decide +kernel) (by decide +kernel)
theorem v_i139 : Cond.instantiable RX6 10 ∈ wU := w_at 139 (by decide +kernel) (by decide +kernel)
theorem v_i33 : Cond.initialized RX6 ∈ wU := w_at 33 (by decide +kernel) (by decide +kernel)
theorem vn_X11_16 : ∀ w ∈ ([.classLink RX11 16 RX6, .instantiable RX6 10, .initialized RX6] : List Cond), w ∈ wU := w_3 v_i138 v_i139 v_i33
theorem n_i140 : Cond.methodLinkNest RX11 18 yX6_init "ScoreHouse" ∈ nwL := n_at 140 (by decide +kernel) rfl
theorem v_i141 : Cond.instanceMethod yX6_init ∈ wU := w_at 141 (by decide +kernel) (by decide +kernel)
theorem vl_X11_18 : ∀ w ∈ ([.instanceMethod yX6_init, .initialized RX6] : List Cond), w ∈ wU := w_2 v_i141 v_i33
theorem vf_X11_19 : Cond.fieldLink RX11 19 RX11 (TX11 1).2.1 (TX11 1).2.2.1 ∈ wU := w_at 188 (by decide +kernel) (by decide +kernel)
theorem ft_225 : cFT 225 = 3 := by decide +kernel
theorem vf_X11_25 : Cond.fieldLink RX11 25 RX11 (TX11 2).2.1 (TX11 2).2.2.1 ∈ wU := w_at 189 (by decide +kernel) (by decide +kernel)
theorem ft_226 : cFT 226 = 4 := by decide +kernel
theorem v_i185 : Cond.classLink RX11 23 RX4 ∈ wU := w_at 185 (by decide +kernel) (by decide +kernel)
theorem n_i186 : Cond.arrayOver (.object RX4) ∈ nwL := n_at 186 (by decide +kernel) rfl
theorem kc_X11_requireRange : Cond.code yX11_requireRange cX11_requireRange 3 none ∈ wU := w_at 587 (by decide +kernel) (by decide +kernel)
theorem hk_X11_requireRange : yX11_requireRange.cls = RX11 ∧ yX11_requireRange.cls ≠ "java/lang/invoke/MethodHandle" ∧ yX11_requireRange.cls ≠ "java/lang/invoke/VarHandle" ∧ (parseMethodDescriptor yX11_requireRange.desc).map (fun d => d.parameters.length) = some 3 := by decide +kernel
theorem v_i588 : Cond.classLink RX11 105 "java/lang/IllegalArgumentException" ∈ wU := w_at 588 (by decide +kernel) (by decide +kernel)
theorem v_i46 : Cond.initialized "java/lang/IllegalArgumentException" ∈ wU := w_at 46 (by decide +kernel) (by decide +kernel)
theorem ex_X11_105_109 : c_Exc RX11 105 109 "java/lang/IllegalArgumentException" := ⟨by decide +kernel, v_i588, v_i46, ex_mem (by decide +kernel), by decide +kernel⟩
theorem kc_X11_requireMetre : Cond.code yX11_requireMetre cX11_requireMetre 2 none ∈ wU := w_at 1133 (by decide +kernel) (by decide +kernel)
theorem hk_X11_requireMetre : yX11_requireMetre.cls = RX11 ∧ yX11_requireMetre.cls ≠ "java/lang/invoke/MethodHandle" ∧ yX11_requireMetre.cls ≠ "java/lang/invoke/VarHandle" ∧ (parseMethodDescriptor yX11_requireMetre.desc).map (fun d => d.parameters.length) = some 2 := by decide +kernel
theorem v_i585 : Cond.methodLink RX11 88 yX11_requireRange ∈ wU := w_at 585 (by decide +kernel) (by decide +kernel)
theorem v_i28 : Cond.initialized RX11 ∈ wU := w_at 28 (by decide +kernel) (by decide +kernel)
theorem v_i586 : Cond.static yX11_requireRange ∈ wU := w_at 586 (by decide +kernel) (by decide +kernel)
theorem vl_X11_88 : ∀ w ∈ ([.methodLink RX11 88 yX11_requireRange, .static yX11_requireRange, .initialized RX11] : List Cond), w ∈ wU := w_3 v_i585 v_i586 v_i28
theorem kc_X9_barCount : Cond.code yX9_barCount cX9_barCount 1 (some .int) ∈ wU := w_at 204 (by decide +kernel) (by decide +kernel)
theorem hk_X9_barCount : yX9_barCount.cls = RX9 ∧ yX9_barCount.cls ≠ "java/lang/invoke/MethodHandle" ∧ yX9_barCount.cls ≠ "java/lang/invoke/VarHandle" ∧ (parseMethodDescriptor yX9_barCount.desc).map (fun d => d.parameters.length) = some 0 := by decide +kernel
theorem fe_192 : cEmb (cFT 192) = true := by decide +kernel
theorem v_i205 : Cond.methodLink RX9 38 yJx4a65c_size_8abf5 ∈ wU := w_at 205 (by decide +kernel) (by decide +kernel)
theorem v_i206 : Cond.instanceMethod yJx4a65c_size_8abf5 ∈ wU := w_at 206 (by decide +kernel) (by decide +kernel)
theorem v_i207 : Cond.selects RJx4a65c yJx4a65c_size_8abf5 yJx4a65c_size_8abf5 ∈ wU := w_at 207 (by decide +kernel) (by decide +kernel)
theorem vj_X9_38 : ∀ w ∈ ([.methodLink RX9 38 yJx4a65c_size_8abf5, .instanceMethod yJx4a65c_size_8abf5, .selects RJx4a65c yJx4a65c_size_8abf5 yJx4a65c_size_8abf5, .initialized RJx4a65c] : List Cond), w ∈ wU := w_4 v_i205 v_i206 v_i207 v_i32
theorem kc_X8_init : Cond.code yX8_init cX8_init 1 none ∈ wU := w_at 1147 (by decide +kernel) (by decide +kernel)
theorem hk_X8_init : yX8_init.cls = RX8 ∧ yX8_init.cls ≠ "java/lang/invoke/MethodHandle" ∧ yX8_init.cls ≠ "java/lang/invoke/VarHandle" ∧ (parseMethodDescriptor yX8_init.desc).map (fun d => d.parameters.length) = some 0 := by decide +kernel
theorem v_i1148 : Cond.methodLink RX8 3 Lib.objectInit ∈ wU := w_at 1148 (by decide +kernel) (by decide +kernel)
theorem vo_X8_3 : ∀ w ∈ ([.methodLink RX8 3 Lib.objectInit, .instanceMethod Lib.objectInit, .code Lib.objectInit ⟨#[0xb1]⟩ 1 none] : List Cond), w ∈ wU := w_3 v_i1148 v_i68 v_i69
theorem vf_X8_12 : Cond.fieldLink RX8 12 RX8 (TX8 0).2.1 (TX8 0).2.2.1 ∈ wU := w_at 1151 (by decide +kernel) (by decide +kernel)
theorem v_i1149 : Cond.classLink RX8 9 RJx4a65c ∈ wU := w_at 1149 (by decide +kernel) (by decide +kernel)
theorem vn_X8_9 : ∀ w ∈ ([.classLink RX8 9 RJx4a65c, .instantiable RJx4a65c 3, .initialized RJx4a65c] : List Cond), w ∈ wU := w_3 v_i1149 v_i77 v_i32
theorem v_i1150 : Cond.methodLink RX8 11 yJx4a65c_init_da8c8 ∈ wU := w_at 1150 (by decide +kernel) (by decide +kernel)
theorem vk_X8_11 : ∀ w ∈ ([.methodLink RX8 11 yJx4a65c_init_da8c8, .instanceMethod yJx4a65c_init_da8c8, .initialized RJx4a65c] : List Cond), w ∈ wU := w_3 v_i1150 v_i79 v_i32
theorem ft_176 : cFT 176 = 5 := by decide +kernel
theorem kc_X2_init : Cond.code yX2_init cX2_init 4 none ∈ wU := w_at 1140 (by decide +kernel) (by decide +kernel)
theorem hk_X2_init : yX2_init.cls = RX2 ∧ yX2_init.cls ≠ "java/lang/invoke/MethodHandle" ∧ yX2_init.cls ≠ "java/lang/invoke/VarHandle" ∧ (parseMethodDescriptor yX2_init.desc).map (fun d => d.parameters.length) = some 2 := by decide +kernel
theorem v_i1141 : Cond.methodLink RX2 3 Lib.objectInit ∈ wU := w_at 1141 (by decide +kernel) (by decide +kernel)
theorem vo_X2_3 : ∀ w ∈ ([.methodLink RX2 3 Lib.objectInit, .instanceMethod Lib.objectInit, .code Lib.objectInit ⟨#[0xb1]⟩ 1 none] : List Cond), w ∈ wU := w_3 v_i1141 v_i68 v_i69
theorem vf_X2_9 : Cond.fieldLink RX2 9 RX2 (TX2 0).2.1 (TX2 0).2.2.1 ∈ wU := w_at 1165 (by decide +kernel) (by decide +kernel)
theorem ft_80 : cFT 80 = 0 := by decide +kernel
theorem vf_X2_15 : Cond.fieldLink RX2 15 RX2 (TX2 1).2.1 (TX2 1).2.2.1 ∈ wU := w_at 1167 (by decide +kernel) (by decide +kernel)
theorem ft_81 : cFT 81 = 0 := by decide +kernel
theorem vf_X2_18 : Cond.fieldLink RX2 18 RX2 (TX2 2).2.1 (TX2 2).2.2.1 ∈ wU := w_at 1169 (by decide +kernel) (by decide +kernel)
theorem ft_82 : cFT 82 = 0 := by decide +kernel
theorem vf_X2_23 : Cond.fieldLink RX2 23 RX2 (TX2 3).2.1 (TX2 3).2.2.1 ∈ wU := w_at 1172 (by decide +kernel) (by decide +kernel)
theorem ft_83 : cFT 83 = 4 := by decide +kernel
theorem v_i1142 : Cond.classLink RX2 21 RX8 ∈ wU := w_at 1142 (by decide +kernel) (by decide +kernel)
theorem n_i1143 : Cond.arrayOver (.object RX8) ∈ nwL := n_at 1143 (by decide +kernel) rfl
theorem fe_83 : cEmb (cFT 83) = true := by decide +kernel
theorem v_i1144 : Cond.instantiable RX8 3 ∈ wU := w_at 1144 (by decide +kernel) (by decide +kernel)
theorem v_i51 : Cond.initialized RX8 ∈ wU := w_at 51 (by decide +kernel) (by decide +kernel)
theorem vn_X2_21 : ∀ w ∈ ([.classLink RX2 21 RX8, .instantiable RX8 3, .initialized RX8] : List Cond), w ∈ wU := w_3 v_i1142 v_i1144 v_i51
theorem n_i1145 : Cond.methodLinkNest RX2 27 yX8_init "ScoreHouse" ∈ nwL := n_at 1145 (by decide +kernel) rfl
theorem v_i1146 : Cond.instanceMethod yX8_init ∈ wU := w_at 1146 (by decide +kernel) (by decide +kernel)
theorem vl_X2_27 : ∀ w ∈ ([.instanceMethod yX8_init, .initialized RX8] : List Cond), w ∈ wU := w_2 v_i1146 v_i51
theorem kc_X11_addBar : Cond.code yX11_addBar cX11_addBar 3 (some .int) ∈ wU := w_at 1130 (by decide +kernel) (by decide +kernel)
theorem hk_X11_addBar : yX11_addBar.cls = RX11 ∧ yX11_addBar.cls ≠ "java/lang/invoke/MethodHandle" ∧ yX11_addBar.cls ≠ "java/lang/invoke/VarHandle" ∧ (parseMethodDescriptor yX11_addBar.desc).map (fun d => d.parameters.length) = some 2 := by decide +kernel
theorem v_i1131 : Cond.methodLink RX11 29 yX11_requireMetre ∈ wU := w_at 1131 (by decide +kernel) (by decide +kernel)
theorem v_i1132 : Cond.static yX11_requireMetre ∈ wU := w_at 1132 (by decide +kernel) (by decide +kernel)
theorem vl_X11_29 : ∀ w ∈ ([.methodLink RX11 29 yX11_requireMetre, .static yX11_requireMetre, .initialized RX11] : List Cond), w ∈ wU := w_3 v_i1131 v_i1132 v_i28
theorem v_i201 : Cond.methodLink RX11 33 yX9_barCount ∈ wU := w_at 201 (by decide +kernel) (by decide +kernel)
theorem v_i202 : Cond.instanceMethod yX9_barCount ∈ wU := w_at 202 (by decide +kernel) (by decide +kernel)
theorem v_i203 : Cond.selects RX9 yX9_barCount yX9_barCount ∈ wU := w_at 203 (by decide +kernel) (by decide +kernel)
theorem vl_X11_33 : ∀ w ∈ ([.methodLink RX11 33 yX9_barCount, .instanceMethod yX9_barCount, .selects RX9 yX9_barCount yX9_barCount, .initialized RX9] : List Cond), w ∈ wU := w_4 v_i201 v_i202 v_i203 v_i29
theorem vf_X11_44 : Cond.fieldLink RX11 44 RX9 (TX9 0).2.1 (TX9 0).2.2.1 ∈ wU := w_at 103 (by decide +kernel) (by decide +kernel)
theorem v_i1136 : Cond.classLink RX11 48 RX2 ∈ wU := w_at 1136 (by decide +kernel) (by decide +kernel)
theorem v_i1137 : Cond.instantiable RX2 4 ∈ wU := w_at 1137 (by decide +kernel) (by decide +kernel)
theorem v_i36 : Cond.initialized RX2 ∈ wU := w_at 36 (by decide +kernel) (by decide +kernel)
theorem vn_X11_48 : ∀ w ∈ ([.classLink RX11 48 RX2, .instantiable RX2 4, .initialized RX2] : List Cond), w ∈ wU := w_3 v_i1136 v_i1137 v_i36
theorem v_i1138 : Cond.methodLink RX11 50 yX2_init ∈ wU := w_at 1138 (by decide +kernel) (by decide +kernel)
theorem v_i1139 : Cond.instanceMethod yX2_init ∈ wU := w_at 1139 (by decide +kernel) (by decide +kernel)
theorem vl_X11_50 : ∀ w ∈ ([.methodLink RX11 50 yX2_init, .instanceMethod yX2_init, .initialized RX2] : List Cond), w ∈ wU := w_3 v_i1138 v_i1139 v_i36
theorem n_i1732 : Cond.castable RX2 "java/lang/Object" ∈ nwL := n_at 1732 (by decide +kernel) rfl
theorem v_i1184 : Cond.methodLink RX11 52 yJx4a65c_add_9ea2d ∈ wU := w_at 1184 (by decide +kernel) (by decide +kernel)
theorem v_i375 : Cond.instanceMethod yJx4a65c_add_9ea2d ∈ wU := w_at 375 (by decide +kernel) (by decide +kernel)
theorem v_i376 : Cond.selects RJx4a65c yJx4a65c_add_9ea2d yJx4a65c_add_9ea2d ∈ wU := w_at 376 (by decide +kernel) (by decide +kernel)
theorem vj_X11_52 : ∀ w ∈ ([.methodLink RX11 52 yJx4a65c_add_9ea2d, .instanceMethod yJx4a65c_add_9ea2d, .selects RJx4a65c yJx4a65c_add_9ea2d yJx4a65c_add_9ea2d, .initialized RJx4a65c] : List Cond), w ∈ wU := w_4 v_i1184 v_i375 v_i376 v_i32
theorem vf_X11_58 : Cond.fieldLink RX11 58 RX9 (TX9 7).2.1 (TX9 7).2.2.1 ∈ wU := w_at 119 (by decide +kernel) (by decide +kernel)
theorem ft_199 : cFT 199 = 0 := by decide +kernel
theorem v_i647 : Cond.classLink RX11 37 "java/lang/IllegalStateException" ∈ wU := w_at 647 (by decide +kernel) (by decide +kernel)
theorem v_i47 : Cond.initialized "java/lang/IllegalStateException" ∈ wU := w_at 47 (by decide +kernel) (by decide +kernel)
theorem ex_X11_37_41 : c_Exc RX11 37 41 "java/lang/IllegalStateException" := ⟨by decide +kernel, v_i647, v_i47, ex_mem (by decide +kernel), by decide +kernel⟩
theorem kc_X11_requireIndex : Cond.code yX11_requireIndex cX11_requireIndex 2 none ∈ wU := w_at 464 (by decide +kernel) (by decide +kernel)
theorem hk_X11_requireIndex : yX11_requireIndex.cls = RX11 ∧ yX11_requireIndex.cls ≠ "java/lang/invoke/MethodHandle" ∧ yX11_requireIndex.cls ≠ "java/lang/invoke/VarHandle" ∧ (parseMethodDescriptor yX11_requireIndex.desc).map (fun d => d.parameters.length) = some 2 := by decide +kernel
theorem v_i465 : Cond.classLink RX11 358 "java/lang/IndexOutOfBoundsException" ∈ wU := w_at 465 (by decide +kernel) (by decide +kernel)
theorem v_i45 : Cond.initialized "java/lang/IndexOutOfBoundsException" ∈ wU := w_at 45 (by decide +kernel) (by decide +kernel)
theorem ex_X11_358_362 : c_Exc RX11 358 362 "java/lang/IndexOutOfBoundsException" := ⟨by decide +kernel, v_i465, v_i45, ex_mem (by decide +kernel), by decide +kernel⟩
theorem kc_X11_requireBar : Cond.code yX11_requireBar cX11_requireBar 2 none ∈ wU := w_at 551 (by decide +kernel) (by decide +kernel)
theorem hk_X11_requireBar : yX11_requireBar.cls = RX11 ∧ yX11_requireBar.cls ≠ "java/lang/invoke/MethodHandle" ∧ yX11_requireBar.cls ≠ "java/lang/invoke/VarHandle" ∧ (parseMethodDescriptor yX11_requireBar.desc).map (fun d => d.parameters.length) = some 1 := by decide +kernel
theorem v_i462 : Cond.methodLink RX11 119 yX11_requireIndex ∈ wU := w_at 462 (by decide +kernel) (by decide +kernel)
theorem v_i463 : Cond.static yX11_requireIndex ∈ wU := w_at 463 (by decide +kernel) (by decide +kernel)
theorem vl_X11_119 : ∀ w ∈ ([.methodLink RX11 119 yX11_requireIndex, .static yX11_requireIndex, .initialized RX11] : List Cond), w ∈ wU := w_3 v_i462 v_i463 v_i28
theorem kc_X9_measure : Cond.code yX9_measure cX9_measure 2 (some (.object RX2)) ∈ wU := w_at 309 (by decide +kernel) (by decide +kernel)
theorem hk_X9_measure : yX9_measure.cls = RX9 ∧ yX9_measure.cls ≠ "java/lang/invoke/MethodHandle" ∧ yX9_measure.cls ≠ "java/lang/invoke/VarHandle" ∧ (parseMethodDescriptor yX9_measure.desc).map (fun d => d.parameters.length) = some 1 := by decide +kernel
theorem v_i217 : Cond.methodLink RX9 42 yJx4a65c_get_915e3 ∈ wU := w_at 217 (by decide +kernel) (by decide +kernel)
theorem v_i218 : Cond.instanceMethod yJx4a65c_get_915e3 ∈ wU := w_at 218 (by decide +kernel) (by decide +kernel)
theorem v_i219 : Cond.selects RJx4a65c yJx4a65c_get_915e3 yJx4a65c_get_915e3 ∈ wU := w_at 219 (by decide +kernel) (by decide +kernel)
theorem vj_X9_42 : ∀ w ∈ ([.methodLink RX9 42 yJx4a65c_get_915e3, .instanceMethod yJx4a65c_get_915e3, .selects RJx4a65c yJx4a65c_get_915e3 yJx4a65c_get_915e3, .initialized RJx4a65c] : List Cond), w ∈ wU := w_4 v_i217 v_i218 v_i219 v_i32
theorem v_i257 : Cond.classLink RX9 46 RX2 ∈ wU := w_at 257 (by decide +kernel) (by decide +kernel)
theorem kc_X2_mostTicks : Cond.code yX2_mostTicks cX2_mostTicks 3 (some .int) ∈ wU := w_at 1213 (by decide +kernel) (by decide +kernel)
theorem hk_X2_mostTicks : yX2_mostTicks.cls = RX2 ∧ yX2_mostTicks.cls ≠ "java/lang/invoke/MethodHandle" ∧ yX2_mostTicks.cls ≠ "java/lang/invoke/VarHandle" ∧ (parseMethodDescriptor yX2_mostTicks.desc).map (fun d => d.parameters.length) = some 0 := by decide +kernel
theorem vf_X2_32 : Cond.fieldLink RX2 32 RX8 (TX8 1).2.1 (TX8 1).2.2.1 ∈ wU := w_at 1152 (by decide +kernel) (by decide +kernel)
theorem ft_177 : cFT 177 = 0 := by decide +kernel
theorem v_i1214 : Cond.methodLink RX2 35 Lib.Math.max.name ∈ wU := w_at 1214 (by decide +kernel) (by decide +kernel)
theorem v_i394 : Cond.static Lib.Math.max.name ∈ wU := w_at 394 (by decide +kernel) (by decide +kernel)
theorem v_i39 : Cond.initialized "java/lang/Math" ∈ wU := w_at 39 (by decide +kernel) (by decide +kernel)
theorem v_i395 : Cond.code Lib.Math.max.name Lib.Math.max.code 2 (some .int) ∈ wU := w_at 395 (by decide +kernel) (by decide +kernel)
theorem vm_X2_35 : ∀ w ∈ ([.methodLink RX2 35 Lib.Math.max.name, .static Lib.Math.max.name, .initialized "java/lang/Math", .code Lib.Math.max.name Lib.Math.max.code 2 (some .int)] : List Cond), w ∈ wU := w_4 v_i1214 v_i394 v_i39 v_i395
theorem kc_X2_ticksOf : Cond.code yX2_ticksOf cX2_ticksOf 2 (some .int) ∈ wU := w_at 264 (by decide +kernel) (by decide +kernel)
theorem hk_X2_ticksOf : yX2_ticksOf.cls = RX2 ∧ yX2_ticksOf.cls ≠ "java/lang/invoke/MethodHandle" ∧ yX2_ticksOf.cls ≠ "java/lang/invoke/VarHandle" ∧ (parseMethodDescriptor yX2_ticksOf.desc).map (fun d => d.parameters.length) = some 2 := by decide +kernel
theorem kc_X2_ticks : Cond.code yX2_ticks cX2_ticks 1 (some .int) ∈ wU := w_at 261 (by decide +kernel) (by decide +kernel)
theorem hk_X2_ticks : yX2_ticks.cls = RX2 ∧ yX2_ticks.cls ≠ "java/lang/invoke/MethodHandle" ∧ yX2_ticks.cls ≠ "java/lang/invoke/VarHandle" ∧ (parseMethodDescriptor yX2_ticks.desc).map (fun d => d.parameters.length) = some 0 := by decide +kernel
theorem v_i262 : Cond.methodLink RX2 28 yX2_ticksOf ∈ wU := w_at 262 (by decide +kernel) (by decide +kernel)
theorem v_i263 : Cond.static yX2_ticksOf ∈ wU := w_at 263 (by decide +kernel) (by decide +kernel)
theorem vl_X2_28 : ∀ w ∈ ([.methodLink RX2 28 yX2_ticksOf, .static yX2_ticksOf, .initialized RX2] : List Cond), w ∈ wU := w_3 v_i262 v_i263 v_i36
theorem kc_X11_setMetre : Cond.code yX11_setMetre cX11_setMetre 6 (some .int) ∈ wU := w_at 1209 (by decide +kernel) (by decide +kernel)
theorem hk_X11_setMetre : yX11_setMetre.cls = RX11 ∧ yX11_setMetre.cls ≠ "java/lang/invoke/MethodHandle" ∧ yX11_setMetre.cls ≠ "java/lang/invoke/VarHandle" ∧ (parseMethodDescriptor yX11_setMetre.desc).map (fun d => d.parameters.length) = some 3 := by decide +kernel
theorem v_i548 : Cond.methodLink RX11 62 yX11_requireBar ∈ wU := w_at 548 (by decide +kernel) (by decide +kernel)
theorem v_i550 : Cond.instanceMethod yX11_requireBar ∈ wU := w_at 550 (by decide +kernel) (by decide +kernel)
theorem v_i12 : Cond.selects RX11 yX11_requireBar yX11_requireBar ∈ wU := w_at 12 (by decide +kernel) (by decide +kernel)
theorem vl_X11_62 : ∀ w ∈ ([.methodLink RX11 62 yX11_requireBar, .instanceMethod yX11_requireBar, .selects RX11 yX11_requireBar yX11_requireBar, .initialized RX11] : List Cond), w ∈ wU := w_4 v_i548 v_i550 v_i12 v_i28
theorem v_i560 : Cond.methodLink RX11 66 yX9_measure ∈ wU := w_at 560 (by decide +kernel) (by decide +kernel)
theorem v_i307 : Cond.instanceMethod yX9_measure ∈ wU := w_at 307 (by decide +kernel) (by decide +kernel)
theorem v_i308 : Cond.selects RX9 yX9_measure yX9_measure ∈ wU := w_at 308 (by decide +kernel) (by decide +kernel)
theorem vl_X11_66 : ∀ w ∈ ([.methodLink RX11 66 yX9_measure, .instanceMethod yX9_measure, .selects RX9 yX9_measure yX9_measure, .initialized RX9] : List Cond), w ∈ wU := w_4 v_i560 v_i307 v_i308 v_i29
theorem v_i1210 : Cond.methodLink RX11 70 yX2_mostTicks ∈ wU := w_at 1210 (by decide +kernel) (by decide +kernel)
theorem v_i1211 : Cond.instanceMethod yX2_mostTicks ∈ wU := w_at 1211 (by decide +kernel) (by decide +kernel)
theorem v_i1212 : Cond.selects RX2 yX2_mostTicks yX2_mostTicks ∈ wU := w_at 1212 (by decide +kernel) (by decide +kernel)
theorem vl_X11_70 : ∀ w ∈ ([.methodLink RX11 70 yX2_mostTicks, .instanceMethod yX2_mostTicks, .selects RX2 yX2_mostTicks yX2_mostTicks, .initialized RX2] : List Cond), w ∈ wU := w_4 v_i1210 v_i1211 v_i1212 v_i36
theorem v_i1215 : Cond.methodLink RX11 73 yX2_ticksOf ∈ wU := w_at 1215 (by decide +kernel) (by decide +kernel)
theorem vl_X11_73 : ∀ w ∈ ([.methodLink RX11 73 yX2_ticksOf, .static yX2_ticksOf, .initialized RX2] : List Cond), w ∈ wU := w_3 v_i1215 v_i263 v_i36
theorem v_i561 : Cond.methodLink RX11 79 yX2_ticks ∈ wU := w_at 561 (by decide +kernel) (by decide +kernel)
theorem v_i259 : Cond.instanceMethod yX2_ticks ∈ wU := w_at 259 (by decide +kernel) (by decide +kernel)
theorem v_i260 : Cond.selects RX2 yX2_ticks yX2_ticks ∈ wU := w_at 260 (by decide +kernel) (by decide +kernel)
theorem vl_X11_79 : ∀ w ∈ ([.methodLink RX11 79 yX2_ticks, .instanceMethod yX2_ticks, .selects RX2 yX2_ticks yX2_ticks, .initialized RX2] : List Cond), w ∈ wU := w_4 v_i561 v_i259 v_i260 v_i36
theorem vf_X11_82 : Cond.fieldLink RX11 82 RX2 (TX2 0).2.1 (TX2 0).2.2.1 ∈ wU := w_at 1166 (by decide +kernel) (by decide +kernel)
theorem vf_X11_85 : Cond.fieldLink RX11 85 RX2 (TX2 1).2.1 (TX2 1).2.2.1 ∈ wU := w_at 1168 (by decide +kernel) (by decide +kernel)
theorem kc_X11_setTempo : Cond.code yX11_setTempo cX11_setTempo 5 (some .int) ∈ wU := w_at 1202 (by decide +kernel) (by decide +kernel)
theorem hk_X11_setTempo : yX11_setTempo.cls = RX11 ∧ yX11_setTempo.cls ≠ "java/lang/invoke/MethodHandle" ∧ yX11_setTempo.cls ≠ "java/lang/invoke/VarHandle" ∧ (parseMethodDescriptor yX11_setTempo.desc).map (fun d => d.parameters.length) = some 2 := by decide +kernel
theorem vf_X11_92 : Cond.fieldLink RX11 92 RX2 (TX2 2).2.1 (TX2 2).2.2.1 ∈ wU := w_at 1170 (by decide +kernel) (by decide +kernel)
theorem kc_X11_bars : Cond.code yX11_bars cX11_bars 1 (some .int) ∈ wU := w_at 200 (by decide +kernel) (by decide +kernel)
theorem hk_X11_bars : yX11_bars.cls = RX11 ∧ yX11_bars.cls ≠ "java/lang/invoke/MethodHandle" ∧ yX11_bars.cls ≠ "java/lang/invoke/VarHandle" ∧ (parseMethodDescriptor yX11_bars.desc).map (fun d => d.parameters.length) = some 0 := by decide +kernel
theorem kc_X11_length : Cond.code yX11_length cX11_length 2 (some .int) ∈ wU := w_at 559 (by decide +kernel) (by decide +kernel)
theorem hk_X11_length : yX11_length.cls = RX11 ∧ yX11_length.cls ≠ "java/lang/invoke/MethodHandle" ∧ yX11_length.cls ≠ "java/lang/invoke/VarHandle" ∧ (parseMethodDescriptor yX11_length.desc).map (fun d => d.parameters.length) = some 1 := by decide +kernel
theorem kc_X9_tempoAt : Cond.code yX9_tempoAt cX9_tempoAt 4 (some .int) ∈ wU := w_at 268 (by decide +kernel) (by decide +kernel)
theorem hk_X9_tempoAt : yX9_tempoAt.cls = RX9 ∧ yX9_tempoAt.cls ≠ "java/lang/invoke/MethodHandle" ∧ yX9_tempoAt.cls ≠ "java/lang/invoke/VarHandle" ∧ (parseMethodDescriptor yX9_tempoAt.desc).map (fun d => d.parameters.length) = some 1 := by decide +kernel
theorem vf_X9_52 : Cond.fieldLink RX9 52 RX2 (TX2 2).2.1 (TX2 2).2.2.1 ∈ wU := w_at 1171 (by decide +kernel) (by decide +kernel)
theorem kc_X11_tempo : Cond.code yX11_tempo cX11_tempo 2 (some .int) ∈ wU := w_at 568 (by decide +kernel) (by decide +kernel)
theorem hk_X11_tempo : yX11_tempo.cls = RX11 ∧ yX11_tempo.cls ≠ "java/lang/invoke/MethodHandle" ∧ yX11_tempo.cls ≠ "java/lang/invoke/VarHandle" ∧ (parseMethodDescriptor yX11_tempo.desc).map (fun d => d.parameters.length) = some 1 := by decide +kernel
theorem v_i569 : Cond.methodLink RX11 95 yX9_tempoAt ∈ wU := w_at 569 (by decide +kernel) (by decide +kernel)
theorem v_i266 : Cond.instanceMethod yX9_tempoAt ∈ wU := w_at 266 (by decide +kernel) (by decide +kernel)
theorem v_i267 : Cond.selects RX9 yX9_tempoAt yX9_tempoAt ∈ wU := w_at 267 (by decide +kernel) (by decide +kernel)
theorem vl_X11_95 : ∀ w ∈ ([.methodLink RX11 95 yX9_tempoAt, .instanceMethod yX9_tempoAt, .selects RX9 yX9_tempoAt yX9_tempoAt, .initialized RX9] : List Cond), w ∈ wU := w_4 v_i569 v_i266 v_i267 v_i29
theorem kc_X9_timeOf : Cond.code yX9_timeOf cX9_timeOf 2 (some .int) ∈ wU := w_at 271 (by decide +kernel) (by decide +kernel)
theorem hk_X9_timeOf : yX9_timeOf.cls = RX9 ∧ yX9_timeOf.cls ≠ "java/lang/invoke/MethodHandle" ∧ yX9_timeOf.cls ≠ "java/lang/invoke/VarHandle" ∧ (parseMethodDescriptor yX9_timeOf.desc).map (fun d => d.parameters.length) = some 2 := by decide +kernel
theorem kc_X9_timeOfBar : Cond.code yX9_timeOfBar cX9_timeOfBar 2 (some .int) ∈ wU := w_at 256 (by decide +kernel) (by decide +kernel)
theorem hk_X9_timeOfBar : yX9_timeOfBar.cls = RX9 ∧ yX9_timeOfBar.cls ≠ "java/lang/invoke/MethodHandle" ∧ yX9_timeOfBar.cls ≠ "java/lang/invoke/VarHandle" ∧ (parseMethodDescriptor yX9_timeOfBar.desc).map (fun d => d.parameters.length) = some 1 := by decide +kernel
theorem v_i258 : Cond.methodLink RX9 55 yX2_ticks ∈ wU := w_at 258 (by decide +kernel) (by decide +kernel)
theorem vl_X9_55 : ∀ w ∈ ([.methodLink RX9 55 yX2_ticks, .instanceMethod yX2_ticks, .selects RX2 yX2_ticks yX2_ticks, .initialized RX2] : List Cond), w ∈ wU := w_4 v_i258 v_i259 v_i260 v_i36
theorem v_i265 : Cond.methodLink RX9 58 yX9_tempoAt ∈ wU := w_at 265 (by decide +kernel) (by decide +kernel)
theorem vl_X9_58 : ∀ w ∈ ([.methodLink RX9 58 yX9_tempoAt, .instanceMethod yX9_tempoAt, .selects RX9 yX9_tempoAt yX9_tempoAt, .initialized RX9] : List Cond), w ∈ wU := w_4 v_i265 v_i266 v_i267 v_i29
theorem v_i269 : Cond.methodLink RX9 62 yX9_timeOf ∈ wU := w_at 269 (by decide +kernel) (by decide +kernel)
theorem v_i270 : Cond.static yX9_timeOf ∈ wU := w_at 270 (by decide +kernel) (by decide +kernel)
theorem vl_X9_62 : ∀ w ∈ ([.methodLink RX9 62 yX9_timeOf, .static yX9_timeOf, .initialized RX9] : List Cond), w ∈ wU := w_3 v_i269 v_i270 v_i29
theorem kc_X11_time : Cond.code yX11_time cX11_time 2 (some .int) ∈ wU := w_at 547 (by decide +kernel) (by decide +kernel)
theorem hk_X11_time : yX11_time.cls = RX11 ∧ yX11_time.cls ≠ "java/lang/invoke/MethodHandle" ∧ yX11_time.cls ≠ "java/lang/invoke/VarHandle" ∧ (parseMethodDescriptor yX11_time.desc).map (fun d => d.parameters.length) = some 1 := by decide +kernel
theorem v_i552 : Cond.methodLink RX11 99 yX9_timeOfBar ∈ wU := w_at 552 (by decide +kernel) (by decide +kernel)
theorem v_i254 : Cond.instanceMethod yX9_timeOfBar ∈ wU := w_at 254 (by decide +kernel) (by decide +kernel)
theorem v_i255 : Cond.selects RX9 yX9_timeOfBar yX9_timeOfBar ∈ wU := w_at 255 (by decide +kernel) (by decide +kernel)
theorem vl_X11_99 : ∀ w ∈ ([.methodLink RX11 99 yX9_timeOfBar, .instanceMethod yX9_timeOfBar, .selects RX9 yX9_timeOfBar yX9_timeOfBar, .initialized RX9] : List Cond), w ∈ wU := w_4 v_i552 v_i254 v_i255 v_i29
theorem kc_X11_requireVoice : Cond.code yX11_requireVoice cX11_requireVoice 1 none ∈ wU := w_at 584 (by decide +kernel) (by decide +kernel)
theorem hk_X11_requireVoice : yX11_requireVoice.cls = RX11 ∧ yX11_requireVoice.cls ≠ "java/lang/invoke/MethodHandle" ∧ yX11_requireVoice.cls ≠ "java/lang/invoke/VarHandle" ∧ (parseMethodDescriptor yX11_requireVoice.desc).map (fun d => d.parameters.length) = some 1 := by decide +kernel
theorem kc_X9_row : Cond.code yX9_row cX9_row 3 (some (.object RX8)) ∈ wU := w_at 290 (by decide +kernel) (by decide +kernel)
theorem hk_X9_row : yX9_row.cls = RX9 ∧ yX9_row.cls ≠ "java/lang/invoke/MethodHandle" ∧ yX9_row.cls ≠ "java/lang/invoke/VarHandle" ∧ (parseMethodDescriptor yX9_row.desc).map (fun d => d.parameters.length) = some 2 := by decide +kernel
theorem vf_X9_48 : Cond.fieldLink RX9 48 RX2 (TX2 3).2.1 (TX2 3).2.2.1 ∈ wU := w_at 1173 (by decide +kernel) (by decide +kernel)
theorem kc_X8_size : Cond.code yX8_size cX8_size 1 (some .int) ∈ wU := w_at 294 (by decide +kernel) (by decide +kernel)
theorem hk_X8_size : yX8_size.cls = RX8 ∧ yX8_size.cls ≠ "java/lang/invoke/MethodHandle" ∧ yX8_size.cls ≠ "java/lang/invoke/VarHandle" ∧ (parseMethodDescriptor yX8_size.desc).map (fun d => d.parameters.length) = some 0 := by decide +kernel
theorem fe_176 : cEmb (cFT 176) = true := by decide +kernel
theorem v_i295 : Cond.methodLink RX8 18 yJx4a65c_size_8abf5 ∈ wU := w_at 295 (by decide +kernel) (by decide +kernel)
theorem vj_X8_18 : ∀ w ∈ ([.methodLink RX8 18 yJx4a65c_size_8abf5, .instanceMethod yJx4a65c_size_8abf5, .selects RJx4a65c yJx4a65c_size_8abf5 yJx4a65c_size_8abf5, .initialized RJx4a65c] : List Cond), w ∈ wU := w_4 v_i295 v_i206 v_i207 v_i32
theorem kc_X9_ticksLeft : Cond.code yX9_ticksLeft cX9_ticksLeft 3 (some .int) ∈ wU := w_at 612 (by decide +kernel) (by decide +kernel)
theorem hk_X9_ticksLeft : yX9_ticksLeft.cls = RX9 ∧ yX9_ticksLeft.cls ≠ "java/lang/invoke/MethodHandle" ∧ yX9_ticksLeft.cls ≠ "java/lang/invoke/VarHandle" ∧ (parseMethodDescriptor yX9_ticksLeft.desc).map (fun d => d.parameters.length) = some 2 := by decide +kernel
theorem v_i287 : Cond.methodLink RX9 66 yX9_row ∈ wU := w_at 287 (by decide +kernel) (by decide +kernel)
theorem v_i288 : Cond.instanceMethod yX9_row ∈ wU := w_at 288 (by decide +kernel) (by decide +kernel)
theorem v_i289 : Cond.selects RX9 yX9_row yX9_row ∈ wU := w_at 289 (by decide +kernel) (by decide +kernel)
theorem vl_X9_66 : ∀ w ∈ ([.methodLink RX9 66 yX9_row, .instanceMethod yX9_row, .selects RX9 yX9_row yX9_row, .initialized RX9] : List Cond), w ∈ wU := w_4 v_i287 v_i288 v_i289 v_i29
theorem vf_X9_70 : Cond.fieldLink RX9 70 RX8 (TX8 1).2.1 (TX8 1).2.2.1 ∈ wU := w_at 1154 (by decide +kernel) (by decide +kernel)
theorem kc_X0_ticksOf : Cond.code yX0_ticksOf cX0_ticksOf 3 (some .int) ∈ wU := w_at 1362 (by decide +kernel) (by decide +kernel)
theorem hk_X0_ticksOf : yX0_ticksOf.cls = RX0 ∧ yX0_ticksOf.cls ≠ "java/lang/invoke/MethodHandle" ∧ yX0_ticksOf.cls ≠ "java/lang/invoke/VarHandle" ∧ (parseMethodDescriptor yX0_ticksOf.desc).map (fun d => d.parameters.length) = some 2 := by decide +kernel
theorem v_i1363 : Cond.fieldLink RX0 28 RX0 "TICKS" "[I" ∈ wU := w_at 1363 (by decide +kernel) (by decide +kernel)
theorem kc_X9_isPitchOrRest : Cond.code yX9_isPitchOrRest cX9_isPitchOrRest 2 (some .boolean) ∈ wU := w_at 1283 (by decide +kernel) (by decide +kernel)
theorem hk_X9_isPitchOrRest : yX9_isPitchOrRest.cls = RX9 ∧ yX9_isPitchOrRest.cls ≠ "java/lang/invoke/MethodHandle" ∧ yX9_isPitchOrRest.cls ≠ "java/lang/invoke/VarHandle" ∧ (parseMethodDescriptor yX9_isPitchOrRest.desc).map (fun d => d.parameters.length) = some 2 := by decide +kernel
theorem kc_X9_canBeWritten : Cond.code yX9_canBeWritten cX9_canBeWritten 3 (some .boolean) ∈ wU := w_at 1368 (by decide +kernel) (by decide +kernel)
theorem hk_X9_canBeWritten : yX9_canBeWritten.cls = RX9 ∧ yX9_canBeWritten.cls ≠ "java/lang/invoke/MethodHandle" ∧ yX9_canBeWritten.cls ≠ "java/lang/invoke/VarHandle" ∧ (parseMethodDescriptor yX9_canBeWritten.desc).map (fun d => d.parameters.length) = some 2 := by decide +kernel
theorem fe_195 : cEmb (cFT 195) = true := by decide +kernel
theorem v_i1281 : Cond.methodLink RX9 89 yX9_isPitchOrRest ∈ wU := w_at 1281 (by decide +kernel) (by decide +kernel)
theorem v_i1282 : Cond.static yX9_isPitchOrRest ∈ wU := w_at 1282 (by decide +kernel) (by decide +kernel)
theorem vl_X9_89 : ∀ w ∈ ([.methodLink RX9 89 yX9_isPitchOrRest, .static yX9_isPitchOrRest, .initialized RX9] : List Cond), w ∈ wU := w_3 v_i1281 v_i1282 v_i29
theorem kc_X0_init : Cond.code yX0_init cX0_init 4 none ∈ wU := w_at 1374 (by decide +kernel) (by decide +kernel)
theorem hk_X0_init : yX0_init.cls = RX0 ∧ yX0_init.cls ≠ "java/lang/invoke/MethodHandle" ∧ yX0_init.cls ≠ "java/lang/invoke/VarHandle" ∧ (parseMethodDescriptor yX0_init.desc).map (fun d => d.parameters.length) = some 3 := by decide +kernel
theorem v_i1375 : Cond.methodLink RX0 3 Lib.objectInit ∈ wU := w_at 1375 (by decide +kernel) (by decide +kernel)
theorem vo_X0_3 : ∀ w ∈ ([.methodLink RX0 3 Lib.objectInit, .instanceMethod Lib.objectInit, .code Lib.objectInit ⟨#[0xb1]⟩ 1 none] : List Cond), w ∈ wU := w_3 v_i1375 v_i68 v_i69
theorem vf_X0_9 : Cond.fieldLink RX0 9 RX0 (TX0 2).2.1 (TX0 2).2.2.1 ∈ wU := w_at 1383 (by decide +kernel) (by decide +kernel)
theorem ft_50 : cFT 50 = 0 := by decide +kernel
theorem vf_X0_15 : Cond.fieldLink RX0 15 RX0 (TX0 1).2.1 (TX0 1).2.2.1 ∈ wU := w_at 1381 (by decide +kernel) (by decide +kernel)
theorem ft_49 : cFT 49 = 0 := by decide +kernel
theorem v_i1376 : Cond.methodLink RX0 18 yX0_ticksOf ∈ wU := w_at 1376 (by decide +kernel) (by decide +kernel)
theorem v_i54 : Cond.initialized RX0 ∈ wU := w_at 54 (by decide +kernel) (by decide +kernel)
theorem v_i1361 : Cond.static yX0_ticksOf ∈ wU := w_at 1361 (by decide +kernel) (by decide +kernel)
theorem vl_X0_18 : ∀ w ∈ ([.methodLink RX0 18 yX0_ticksOf, .static yX0_ticksOf, .initialized RX0] : List Cond), w ∈ wU := w_3 v_i1376 v_i1361 v_i54
theorem vf_X0_22 : Cond.fieldLink RX0 22 RX0 (TX0 0).2.1 (TX0 0).2.2.1 ∈ wU := w_at 1377 (by decide +kernel) (by decide +kernel)
theorem ft_48 : cFT 48 = 0 := by decide +kernel
theorem vf_X0_25 : Cond.fieldLink RX0 25 RX0 (TX0 4).2.1 (TX0 4).2.2.1 ∈ wU := w_at 1389 (by decide +kernel) (by decide +kernel)
theorem ft_52 : cFT 52 = 0 := by decide +kernel
theorem kc_X8_putIn : Cond.code yX8_putIn cX8_putIn 3 none ∈ wU := w_at 1411 (by decide +kernel) (by decide +kernel)
theorem hk_X8_putIn : yX8_putIn.cls = RX8 ∧ yX8_putIn.cls ≠ "java/lang/invoke/MethodHandle" ∧ yX8_putIn.cls ≠ "java/lang/invoke/VarHandle" ∧ (parseMethodDescriptor yX8_putIn.desc).map (fun d => d.parameters.length) = some 2 := by decide +kernel
theorem n_i1735 : Cond.castable RX0 "java/lang/Object" ∈ nwL := n_at 1735 (by decide +kernel) rfl
theorem v_i1412 : Cond.methodLink RX8 32 yJx4a65c_add_7a177 ∈ wU := w_at 1412 (by decide +kernel) (by decide +kernel)
theorem v_i1413 : Cond.instanceMethod yJx4a65c_add_7a177 ∈ wU := w_at 1413 (by decide +kernel) (by decide +kernel)
theorem v_i1414 : Cond.selects RJx4a65c yJx4a65c_add_7a177 yJx4a65c_add_7a177 ∈ wU := w_at 1414 (by decide +kernel) (by decide +kernel)
theorem vj_X8_32 : ∀ w ∈ ([.methodLink RX8 32 yJx4a65c_add_7a177, .instanceMethod yJx4a65c_add_7a177, .selects RJx4a65c yJx4a65c_add_7a177 yJx4a65c_add_7a177, .initialized RJx4a65c] : List Cond), w ∈ wU := w_4 v_i1412 v_i1413 v_i1414 v_i32
theorem vf_X8_36 : Cond.fieldLink RX8 36 RX8 (TX8 1).2.1 (TX8 1).2.2.1 ∈ wU := w_at 1153 (by decide +kernel) (by decide +kernel)
theorem vf_X8_40 : Cond.fieldLink RX8 40 RX0 (TX0 0).2.1 (TX0 0).2.2.1 ∈ wU := w_at 1378 (by decide +kernel) (by decide +kernel)
theorem kc_X11_insert : Cond.code yX11_insert cX11_insert 9 (some .int) ∈ wU := w_at 1358 (by decide +kernel) (by decide +kernel)
theorem hk_X11_insert : yX11_insert.cls = RX11 ∧ yX11_insert.cls ≠ "java/lang/invoke/MethodHandle" ∧ yX11_insert.cls ≠ "java/lang/invoke/VarHandle" ∧ (parseMethodDescriptor yX11_insert.desc).map (fun d => d.parameters.length) = some 6 := by decide +kernel
theorem v_i582 : Cond.methodLink RX11 102 yX11_requireVoice ∈ wU := w_at 582 (by decide +kernel) (by decide +kernel)
theorem v_i583 : Cond.static yX11_requireVoice ∈ wU := w_at 583 (by decide +kernel) (by decide +kernel)
theorem vl_X11_102 : ∀ w ∈ ([.methodLink RX11 102 yX11_requireVoice, .static yX11_requireVoice, .initialized RX11] : List Cond), w ∈ wU := w_3 v_i582 v_i583 v_i28
theorem v_i1009 : Cond.methodLink RX11 110 yX9_row ∈ wU := w_at 1009 (by decide +kernel) (by decide +kernel)
theorem vl_X11_110 : ∀ w ∈ ([.methodLink RX11 110 yX9_row, .instanceMethod yX9_row, .selects RX9 yX9_row yX9_row, .initialized RX9] : List Cond), w ∈ wU := w_4 v_i1009 v_i288 v_i289 v_i29
theorem v_i1010 : Cond.methodLink RX11 114 yX8_size ∈ wU := w_at 1010 (by decide +kernel) (by decide +kernel)
theorem v_i292 : Cond.instanceMethod yX8_size ∈ wU := w_at 292 (by decide +kernel) (by decide +kernel)
theorem v_i293 : Cond.selects RX8 yX8_size yX8_size ∈ wU := w_at 293 (by decide +kernel) (by decide +kernel)
theorem vl_X11_114 : ∀ w ∈ ([.methodLink RX11 114 yX8_size, .instanceMethod yX8_size, .selects RX8 yX8_size yX8_size, .initialized RX8] : List Cond), w ∈ wU := w_4 v_i1010 v_i292 v_i293 v_i51
theorem v_i1192 : Cond.methodLink RX11 122 yX9_ticksLeft ∈ wU := w_at 1192 (by decide +kernel) (by decide +kernel)
theorem v_i610 : Cond.instanceMethod yX9_ticksLeft ∈ wU := w_at 610 (by decide +kernel) (by decide +kernel)
theorem v_i611 : Cond.selects RX9 yX9_ticksLeft yX9_ticksLeft ∈ wU := w_at 611 (by decide +kernel) (by decide +kernel)
theorem vl_X11_122 : ∀ w ∈ ([.methodLink RX11 122 yX9_ticksLeft, .instanceMethod yX9_ticksLeft, .selects RX9 yX9_ticksLeft yX9_ticksLeft, .initialized RX9] : List Cond), w ∈ wU := w_4 v_i1192 v_i610 v_i611 v_i29
theorem v_i1360 : Cond.methodLink RX11 125 yX0_ticksOf ∈ wU := w_at 1360 (by decide +kernel) (by decide +kernel)
theorem vl_X11_125 : ∀ w ∈ ([.methodLink RX11 125 yX0_ticksOf, .static yX0_ticksOf, .initialized RX0] : List Cond), w ∈ wU := w_3 v_i1360 v_i1361 v_i54
theorem v_i1365 : Cond.methodLink RX11 128 yX9_canBeWritten ∈ wU := w_at 1365 (by decide +kernel) (by decide +kernel)
theorem v_i1366 : Cond.instanceMethod yX9_canBeWritten ∈ wU := w_at 1366 (by decide +kernel) (by decide +kernel)
theorem v_i1367 : Cond.selects RX9 yX9_canBeWritten yX9_canBeWritten ∈ wU := w_at 1367 (by decide +kernel) (by decide +kernel)
theorem vl_X11_128 : ∀ w ∈ ([.methodLink RX11 128 yX9_canBeWritten, .instanceMethod yX9_canBeWritten, .selects RX9 yX9_canBeWritten yX9_canBeWritten, .initialized RX9] : List Cond), w ∈ wU := w_4 v_i1365 v_i1366 v_i1367 v_i29
theorem v_i1370 : Cond.classLink RX11 126 RX0 ∈ wU := w_at 1370 (by decide +kernel) (by decide +kernel)
theorem v_i1371 : Cond.instantiable RX0 6 ∈ wU := w_at 1371 (by decide +kernel) (by decide +kernel)
theorem vn_X11_126 : ∀ w ∈ ([.classLink RX11 126 RX0, .instantiable RX0 6, .initialized RX0] : List Cond), w ∈ wU := w_3 v_i1370 v_i1371 v_i54
theorem v_i1372 : Cond.methodLink RX11 134 yX0_init ∈ wU := w_at 1372 (by decide +kernel) (by decide +kernel)
theorem v_i1373 : Cond.instanceMethod yX0_init ∈ wU := w_at 1373 (by decide +kernel) (by decide +kernel)
theorem vl_X11_134 : ∀ w ∈ ([.methodLink RX11 134 yX0_init, .instanceMethod yX0_init, .initialized RX0] : List Cond), w ∈ wU := w_3 v_i1372 v_i1373 v_i54
theorem v_i1408 : Cond.methodLink RX11 136 yX8_putIn ∈ wU := w_at 1408 (by decide +kernel) (by decide +kernel)
theorem v_i1409 : Cond.instanceMethod yX8_putIn ∈ wU := w_at 1409 (by decide +kernel) (by decide +kernel)
theorem v_i1410 : Cond.selects RX8 yX8_putIn yX8_putIn ∈ wU := w_at 1410 (by decide +kernel) (by decide +kernel)
theorem vl_X11_136 : ∀ w ∈ ([.methodLink RX11 136 yX8_putIn, .instanceMethod yX8_putIn, .selects RX8 yX8_putIn yX8_putIn, .initialized RX8] : List Cond), w ∈ wU := w_4 v_i1408 v_i1409 v_i1410 v_i51
theorem kc_X8_get : Cond.code yX8_get cX8_get 2 (some (.object RX0)) ∈ wU := w_at 299 (by decide +kernel) (by decide +kernel)
theorem hk_X8_get : yX8_get.cls = RX8 ∧ yX8_get.cls ≠ "java/lang/invoke/MethodHandle" ∧ yX8_get.cls ≠ "java/lang/invoke/VarHandle" ∧ (parseMethodDescriptor yX8_get.desc).map (fun d => d.parameters.length) = some 1 := by decide +kernel
theorem v_i300 : Cond.methodLink RX8 26 yJx4a65c_get_915e3 ∈ wU := w_at 300 (by decide +kernel) (by decide +kernel)
theorem vj_X8_26 : ∀ w ∈ ([.methodLink RX8 26 yJx4a65c_get_915e3, .instanceMethod yJx4a65c_get_915e3, .selects RJx4a65c yJx4a65c_get_915e3 yJx4a65c_get_915e3, .initialized RJx4a65c] : List Cond), w ∈ wU := w_4 v_i300 v_i218 v_i219 v_i32
theorem v_i301 : Cond.classLink RX8 30 RX0 ∈ wU := w_at 301 (by decide +kernel) (by decide +kernel)
theorem kc_X11_requiredEvent : Cond.code yX11_requiredEvent cX11_requiredEvent 5 (some (.object RX0)) ∈ wU := w_at 1309 (by decide +kernel) (by decide +kernel)
theorem hk_X11_requiredEvent : yX11_requiredEvent.cls = RX11 ∧ yX11_requiredEvent.cls ≠ "java/lang/invoke/MethodHandle" ∧ yX11_requiredEvent.cls ≠ "java/lang/invoke/VarHandle" ∧ (parseMethodDescriptor yX11_requiredEvent.desc).map (fun d => d.parameters.length) = some 3 := by decide +kernel
theorem v_i1310 : Cond.methodLink RX11 365 yX8_get ∈ wU := w_at 1310 (by decide +kernel) (by decide +kernel)
theorem v_i297 : Cond.instanceMethod yX8_get ∈ wU := w_at 297 (by decide +kernel) (by decide +kernel)
theorem v_i298 : Cond.selects RX8 yX8_get yX8_get ∈ wU := w_at 298 (by decide +kernel) (by decide +kernel)
theorem vl_X11_365 : ∀ w ∈ ([.methodLink RX11 365 yX8_get, .instanceMethod yX8_get, .selects RX8 yX8_get yX8_get, .initialized RX8] : List Cond), w ∈ wU := w_4 v_i1310 v_i297 v_i298 v_i51
theorem kc_X8_takeOut : Cond.code yX8_takeOut cX8_takeOut 2 none ∈ wU := w_at 1675 (by decide +kernel) (by decide +kernel)
theorem hk_X8_takeOut : yX8_takeOut.cls = RX8 ∧ yX8_takeOut.cls ≠ "java/lang/invoke/MethodHandle" ∧ yX8_takeOut.cls ≠ "java/lang/invoke/VarHandle" ∧ (parseMethodDescriptor yX8_takeOut.desc).map (fun d => d.parameters.length) = some 1 := by decide +kernel
theorem v_i1676 : Cond.methodLink RX8 41 yJx4a65c_remove_915e3 ∈ wU := w_at 1676 (by decide +kernel) (by decide +kernel)
theorem v_i1262 : Cond.instanceMethod yJx4a65c_remove_915e3 ∈ wU := w_at 1262 (by decide +kernel) (by decide +kernel)
theorem v_i1263 : Cond.selects RJx4a65c yJx4a65c_remove_915e3 yJx4a65c_remove_915e3 ∈ wU := w_at 1263 (by decide +kernel) (by decide +kernel)
theorem vj_X8_41 : ∀ w ∈ ([.methodLink RX8 41 yJx4a65c_remove_915e3, .instanceMethod yJx4a65c_remove_915e3, .selects RJx4a65c yJx4a65c_remove_915e3 yJx4a65c_remove_915e3, .initialized RJx4a65c] : List Cond), w ∈ wU := w_4 v_i1676 v_i1262 v_i1263 v_i32
theorem kc_X5_hasEnd : Cond.code yX5_hasEnd cX5_hasEnd 2 (some .boolean) ∈ wU := w_at 1684 (by decide +kernel) (by decide +kernel)
theorem hk_X5_hasEnd : yX5_hasEnd.cls = RX5 ∧ yX5_hasEnd.cls ≠ "java/lang/invoke/MethodHandle" ∧ yX5_hasEnd.cls ≠ "java/lang/invoke/VarHandle" ∧ (parseMethodDescriptor yX5_hasEnd.desc).map (fun d => d.parameters.length) = some 1 := by decide +kernel
theorem vf_X5_16 : Cond.fieldLink RX5 16 RX5 (TX5 3).2.1 (TX5 3).2.2.1 ∈ wU := w_at 1321 (by decide +kernel) (by decide +kernel)
theorem ft_131 : cFT 131 = 3 := by decide +kernel
theorem vf_X5_23 : Cond.fieldLink RX5 23 RX5 (TX5 4).2.1 (TX5 4).2.2.1 ∈ wU := w_at 1322 (by decide +kernel) (by decide +kernel)
theorem ft_132 : cFT 132 = 3 := by decide +kernel
theorem kc_X9_dropPhrasesAt : Cond.code yX9_dropPhrasesAt cX9_dropPhrasesAt 3 none ∈ wU := w_at 1680 (by decide +kernel) (by decide +kernel)
theorem hk_X9_dropPhrasesAt : yX9_dropPhrasesAt.cls = RX9 ∧ yX9_dropPhrasesAt.cls ≠ "java/lang/invoke/MethodHandle" ∧ yX9_dropPhrasesAt.cls ≠ "java/lang/invoke/VarHandle" ∧ (parseMethodDescriptor yX9_dropPhrasesAt.desc).map (fun d => d.parameters.length) = some 1 := by decide +kernel
theorem fe_193 : cEmb (cFT 193) = true := by decide +kernel
theorem v_i231 : Cond.classLink RX9 107 RX5 ∈ wU := w_at 231 (by decide +kernel) (by decide +kernel)
theorem v_i1681 : Cond.methodLink RX9 109 yX5_hasEnd ∈ wU := w_at 1681 (by decide +kernel) (by decide +kernel)
theorem v_i53 : Cond.initialized RX5 ∈ wU := w_at 53 (by decide +kernel) (by decide +kernel)
theorem v_i1682 : Cond.instanceMethod yX5_hasEnd ∈ wU := w_at 1682 (by decide +kernel) (by decide +kernel)
theorem v_i1683 : Cond.selects RX5 yX5_hasEnd yX5_hasEnd ∈ wU := w_at 1683 (by decide +kernel) (by decide +kernel)
theorem vl_X9_109 : ∀ w ∈ ([.methodLink RX9 109 yX5_hasEnd, .instanceMethod yX5_hasEnd, .selects RX5 yX5_hasEnd yX5_hasEnd, .initialized RX5] : List Cond), w ∈ wU := w_4 v_i1681 v_i1682 v_i1683 v_i53
theorem vf_X9_113 : Cond.fieldLink RX9 113 RX5 (TX5 5).2.1 (TX5 5).2.2.1 ∈ wU := w_at 1324 (by decide +kernel) (by decide +kernel)
theorem ft_133 : cFT 133 = 0 := by decide +kernel
theorem kc_X11_remove : Cond.code yX11_remove cX11_remove 5 (some .int) ∈ wU := w_at 1671 (by decide +kernel) (by decide +kernel)
theorem hk_X11_remove : yX11_remove.cls = RX11 ∧ yX11_remove.cls ≠ "java/lang/invoke/MethodHandle" ∧ yX11_remove.cls ≠ "java/lang/invoke/VarHandle" ∧ (parseMethodDescriptor yX11_remove.desc).map (fun d => d.parameters.length) = some 3 := by decide +kernel
theorem v_i1306 : Cond.methodLink RX11 140 yX11_requiredEvent ∈ wU := w_at 1306 (by decide +kernel) (by decide +kernel)
theorem v_i1308 : Cond.instanceMethod yX11_requiredEvent ∈ wU := w_at 1308 (by decide +kernel) (by decide +kernel)
theorem v_i24 : Cond.selects RX11 yX11_requiredEvent yX11_requiredEvent ∈ wU := w_at 24 (by decide +kernel) (by decide +kernel)
theorem vl_X11_140 : ∀ w ∈ ([.methodLink RX11 140 yX11_requiredEvent, .instanceMethod yX11_requiredEvent, .selects RX11 yX11_requiredEvent yX11_requiredEvent, .initialized RX11] : List Cond), w ∈ wU := w_4 v_i1306 v_i1308 v_i24 v_i28
theorem v_i1672 : Cond.methodLink RX11 144 yX8_takeOut ∈ wU := w_at 1672 (by decide +kernel) (by decide +kernel)
theorem v_i1673 : Cond.instanceMethod yX8_takeOut ∈ wU := w_at 1673 (by decide +kernel) (by decide +kernel)
theorem v_i1674 : Cond.selects RX8 yX8_takeOut yX8_takeOut ∈ wU := w_at 1674 (by decide +kernel) (by decide +kernel)
theorem vl_X11_144 : ∀ w ∈ ([.methodLink RX11 144 yX8_takeOut, .instanceMethod yX8_takeOut, .selects RX8 yX8_takeOut yX8_takeOut, .initialized RX8] : List Cond), w ∈ wU := w_4 v_i1672 v_i1673 v_i1674 v_i51
theorem v_i1677 : Cond.methodLink RX11 147 yX9_dropPhrasesAt ∈ wU := w_at 1677 (by decide +kernel) (by decide +kernel)
theorem v_i1678 : Cond.instanceMethod yX9_dropPhrasesAt ∈ wU := w_at 1678 (by decide +kernel) (by decide +kernel)
theorem v_i1679 : Cond.selects RX9 yX9_dropPhrasesAt yX9_dropPhrasesAt ∈ wU := w_at 1679 (by decide +kernel) (by decide +kernel)
theorem vl_X11_147 : ∀ w ∈ ([.methodLink RX11 147 yX9_dropPhrasesAt, .instanceMethod yX9_dropPhrasesAt, .selects RX9 yX9_dropPhrasesAt yX9_dropPhrasesAt, .initialized RX9] : List Cond), w ∈ wU := w_4 v_i1677 v_i1678 v_i1679 v_i29
theorem vf_X11_151 : Cond.fieldLink RX11 151 RX0 (TX0 0).2.1 (TX0 0).2.2.1 ∈ wU := w_at 1380 (by decide +kernel) (by decide +kernel)
theorem kc_X0_isNote : Cond.code yX0_isNote cX0_isNote 1 (some .boolean) ∈ wU := w_at 326 (by decide +kernel) (by decide +kernel)
theorem hk_X0_isNote : yX0_isNote.cls = RX0 ∧ yX0_isNote.cls ≠ "java/lang/invoke/MethodHandle" ∧ yX0_isNote.cls ≠ "java/lang/invoke/VarHandle" ∧ (parseMethodDescriptor yX0_isNote.desc).map (fun d => d.parameters.length) = some 0 := by decide +kernel
theorem kc_X11_setPitch : Cond.code yX11_setPitch cX11_setPitch 7 (some .int) ∈ wU := w_at 1706 (by decide +kernel) (by decide +kernel)
theorem hk_X11_setPitch : yX11_setPitch.cls = RX11 ∧ yX11_setPitch.cls ≠ "java/lang/invoke/MethodHandle" ∧ yX11_setPitch.cls ≠ "java/lang/invoke/VarHandle" ∧ (parseMethodDescriptor yX11_setPitch.desc).map (fun d => d.parameters.length) = some 4 := by decide +kernel
theorem vf_X11_155 : Cond.fieldLink RX11 155 RX0 (TX0 2).2.1 (TX0 2).2.2.1 ∈ wU := w_at 1385 (by decide +kernel) (by decide +kernel)
theorem vf_X11_158 : Cond.fieldLink RX11 158 RX0 (TX0 3).2.1 (TX0 3).2.2.1 ∈ wU := w_at 1388 (by decide +kernel) (by decide +kernel)
theorem ft_51 : cFT 51 = 0 := by decide +kernel
theorem v_i1664 : Cond.methodLink RX11 162 yX0_isNote ∈ wU := w_at 1664 (by decide +kernel) (by decide +kernel)
theorem v_i324 : Cond.instanceMethod yX0_isNote ∈ wU := w_at 324 (by decide +kernel) (by decide +kernel)
theorem v_i325 : Cond.selects RX0 yX0_isNote yX0_isNote ∈ wU := w_at 325 (by decide +kernel) (by decide +kernel)
theorem vl_X11_162 : ∀ w ∈ ([.methodLink RX11 162 yX0_isNote, .instanceMethod yX0_isNote, .selects RX0 yX0_isNote yX0_isNote, .initialized RX0] : List Cond), w ∈ wU := w_4 v_i1664 v_i324 v_i325 v_i54
theorem kc_X11_setTie : Cond.code yX11_setTie cX11_setTie 7 (some .boolean) ∈ wU := w_at 1698 (by decide +kernel) (by decide +kernel)
theorem hk_X11_setTie : yX11_setTie.cls = RX11 ∧ yX11_setTie.cls ≠ "java/lang/invoke/MethodHandle" ∧ yX11_setTie.cls ≠ "java/lang/invoke/VarHandle" ∧ (parseMethodDescriptor yX11_setTie.desc).map (fun d => d.parameters.length) = some 4 := by decide +kernel
theorem kc_X11_setMark : Cond.code yX11_setMark cX11_setMark 7 (some .int) ∈ wU := w_at 1691 (by decide +kernel) (by decide +kernel)
theorem hk_X11_setMark : yX11_setMark.cls = RX11 ∧ yX11_setMark.cls ≠ "java/lang/invoke/MethodHandle" ∧ yX11_setMark.cls ≠ "java/lang/invoke/VarHandle" ∧ (parseMethodDescriptor yX11_setMark.desc).map (fun d => d.parameters.length) = some 4 := by decide +kernel
theorem vf_X11_168 : Cond.fieldLink RX11 168 RX0 (TX0 4).2.1 (TX0 4).2.2.1 ∈ wU := w_at 1391 (by decide +kernel) (by decide +kernel)
theorem kc_X9_canBeTransposed : Cond.code yX9_canBeTransposed cX9_canBeTransposed 6 (some .boolean) ∈ wU := w_at 1280 (by decide +kernel) (by decide +kernel)
theorem hk_X9_canBeTransposed : yX9_canBeTransposed.cls = RX9 ∧ yX9_canBeTransposed.cls ≠ "java/lang/invoke/MethodHandle" ∧ yX9_canBeTransposed.cls ≠ "java/lang/invoke/VarHandle" ∧ (parseMethodDescriptor yX9_canBeTransposed.desc).map (fun d => d.parameters.length) = some 2 := by decide +kernel
theorem v_i291 : Cond.methodLink RX9 92 yX8_size ∈ wU := w_at 291 (by decide +kernel) (by decide +kernel)
theorem vl_X9_92 : ∀ w ∈ ([.methodLink RX9 92 yX8_size, .instanceMethod yX8_size, .selects RX8 yX8_size yX8_size, .initialized RX8] : List Cond), w ∈ wU := w_4 v_i291 v_i292 v_i293 v_i51
theorem v_i296 : Cond.methodLink RX9 93 yX8_get ∈ wU := w_at 296 (by decide +kernel) (by decide +kernel)
theorem vl_X9_93 : ∀ w ∈ ([.methodLink RX9 93 yX8_get, .instanceMethod yX8_get, .selects RX8 yX8_get yX8_get, .initialized RX8] : List Cond), w ∈ wU := w_4 v_i296 v_i297 v_i298 v_i51
theorem vf_X9_96 : Cond.fieldLink RX9 96 RX0 (TX0 2).2.1 (TX0 2).2.2.1 ∈ wU := w_at 1386 (by decide +kernel) (by decide +kernel)
theorem kc_X11_transpose : Cond.code yX11_transpose cX11_transpose 4 (some .int) ∈ wU := w_at 1276 (by decide +kernel) (by decide +kernel)
theorem hk_X11_transpose : yX11_transpose.cls = RX11 ∧ yX11_transpose.cls ≠ "java/lang/invoke/MethodHandle" ∧ yX11_transpose.cls ≠ "java/lang/invoke/VarHandle" ∧ (parseMethodDescriptor yX11_transpose.desc).map (fun d => d.parameters.length) = some 2 := by decide +kernel
theorem v_i1277 : Cond.methodLink RX11 171 yX9_canBeTransposed ∈ wU := w_at 1277 (by decide +kernel) (by decide +kernel)
theorem v_i1278 : Cond.instanceMethod yX9_canBeTransposed ∈ wU := w_at 1278 (by decide +kernel) (by decide +kernel)
theorem v_i1279 : Cond.selects RX9 yX9_canBeTransposed yX9_canBeTransposed ∈ wU := w_at 1279 (by decide +kernel) (by decide +kernel)
theorem vl_X11_171 : ∀ w ∈ ([.methodLink RX11 171 yX9_canBeTransposed, .instanceMethod yX9_canBeTransposed, .selects RX9 yX9_canBeTransposed yX9_canBeTransposed, .initialized RX9] : List Cond), w ∈ wU := w_4 v_i1277 v_i1278 v_i1279 v_i29
theorem vf_X11_176 : Cond.fieldLink RX11 176 RX9 (TX9 3).2.1 (TX9 3).2.2.1 ∈ wU := w_at 110 (by decide +kernel) (by decide +kernel)
theorem kc_X11_events : Cond.code yX11_events cX11_events 3 (some .int) ∈ wU := w_at 1008 (by decide +kernel) (by decide +kernel)
theorem hk_X11_events : yX11_events.cls = RX11 ∧ yX11_events.cls ≠ "java/lang/invoke/MethodHandle" ∧ yX11_events.cls ≠ "java/lang/invoke/VarHandle" ∧ (parseMethodDescriptor yX11_events.desc).map (fun d => d.parameters.length) = some 2 := by decide +kernel
theorem kc_X11_left : Cond.code yX11_left cX11_left 3 (some .int) ∈ wU := w_at 1191 (by decide +kernel) (by decide +kernel)
theorem hk_X11_left : yX11_left.cls = RX11 ∧ yX11_left.cls ≠ "java/lang/invoke/MethodHandle" ∧ yX11_left.cls ≠ "java/lang/invoke/VarHandle" ∧ (parseMethodDescriptor yX11_left.desc).map (fun d => d.parameters.length) = some 2 := by decide +kernel
theorem kc_X8_isEmpty : Cond.code yX8_isEmpty cX8_isEmpty 1 (some .boolean) ∈ wU := w_at 334 (by decide +kernel) (by decide +kernel)
theorem hk_X8_isEmpty : yX8_isEmpty.cls = RX8 ∧ yX8_isEmpty.cls ≠ "java/lang/invoke/MethodHandle" ∧ yX8_isEmpty.cls ≠ "java/lang/invoke/VarHandle" ∧ (parseMethodDescriptor yX8_isEmpty.desc).map (fun d => d.parameters.length) = some 0 := by decide +kernel
theorem v_i335 : Cond.methodLink RX8 22 yJx4a65c_isEmpty_aae02 ∈ wU := w_at 335 (by decide +kernel) (by decide +kernel)
theorem v_i336 : Cond.instanceMethod yJx4a65c_isEmpty_aae02 ∈ wU := w_at 336 (by decide +kernel) (by decide +kernel)
theorem v_i337 : Cond.selects RJx4a65c yJx4a65c_isEmpty_aae02 yJx4a65c_isEmpty_aae02 ∈ wU := w_at 337 (by decide +kernel) (by decide +kernel)
theorem vj_X8_22 : ∀ w ∈ ([.methodLink RX8 22 yJx4a65c_isEmpty_aae02, .instanceMethod yJx4a65c_isEmpty_aae02, .selects RJx4a65c yJx4a65c_isEmpty_aae02 yJx4a65c_isEmpty_aae02, .initialized RJx4a65c] : List Cond), w ∈ wU := w_4 v_i335 v_i336 v_i337 v_i32
theorem kc_X8_hasWholeTriplets : Cond.code yX8_hasWholeTriplets cX8_hasWholeTriplets 4 (some .boolean) ∈ wU := w_at 616 (by decide +kernel) (by decide +kernel)
theorem hk_X8_hasWholeTriplets : yX8_hasWholeTriplets.cls = RX8 ∧ yX8_hasWholeTriplets.cls ≠ "java/lang/invoke/MethodHandle" ∧ yX8_hasWholeTriplets.cls ≠ "java/lang/invoke/VarHandle" ∧ (parseMethodDescriptor yX8_hasWholeTriplets.desc).map (fun d => d.parameters.length) = some 0 := by decide +kernel
theorem vf_X8_44 : Cond.fieldLink RX8 44 RX0 (TX0 1).2.1 (TX0 1).2.2.1 ∈ wU := w_at 1382 (by decide +kernel) (by decide +kernel)
theorem kc_X9_isRightBar : Cond.code yX9_isRightBar cX9_isRightBar 4 (some .boolean) ∈ wU := w_at 607 (by decide +kernel) (by decide +kernel)
theorem hk_X9_isRightBar : yX9_isRightBar.cls = RX9 ∧ yX9_isRightBar.cls ≠ "java/lang/invoke/MethodHandle" ∧ yX9_isRightBar.cls ≠ "java/lang/invoke/VarHandle" ∧ (parseMethodDescriptor yX9_isRightBar.desc).map (fun d => d.parameters.length) = some 2 := by decide +kernel
theorem v_i608 : Cond.methodLink RX9 74 yX8_isEmpty ∈ wU := w_at 608 (by decide +kernel) (by decide +kernel)
theorem v_i332 : Cond.instanceMethod yX8_isEmpty ∈ wU := w_at 332 (by decide +kernel) (by decide +kernel)
theorem v_i333 : Cond.selects RX8 yX8_isEmpty yX8_isEmpty ∈ wU := w_at 333 (by decide +kernel) (by decide +kernel)
theorem vl_X9_74 : ∀ w ∈ ([.methodLink RX9 74 yX8_isEmpty, .instanceMethod yX8_isEmpty, .selects RX8 yX8_isEmpty yX8_isEmpty, .initialized RX8] : List Cond), w ∈ wU := w_4 v_i608 v_i332 v_i333 v_i51
theorem v_i609 : Cond.methodLink RX9 78 yX9_ticksLeft ∈ wU := w_at 609 (by decide +kernel) (by decide +kernel)
theorem vl_X9_78 : ∀ w ∈ ([.methodLink RX9 78 yX9_ticksLeft, .instanceMethod yX9_ticksLeft, .selects RX9 yX9_ticksLeft yX9_ticksLeft, .initialized RX9] : List Cond), w ∈ wU := w_4 v_i609 v_i610 v_i611 v_i29
theorem v_i613 : Cond.methodLink RX9 81 yX8_hasWholeTriplets ∈ wU := w_at 613 (by decide +kernel) (by decide +kernel)
theorem v_i614 : Cond.instanceMethod yX8_hasWholeTriplets ∈ wU := w_at 614 (by decide +kernel) (by decide +kernel)
theorem v_i615 : Cond.selects RX8 yX8_hasWholeTriplets yX8_hasWholeTriplets ∈ wU := w_at 615 (by decide +kernel) (by decide +kernel)
theorem vl_X9_81 : ∀ w ∈ ([.methodLink RX9 81 yX8_hasWholeTriplets, .instanceMethod yX8_hasWholeTriplets, .selects RX8 yX8_hasWholeTriplets yX8_hasWholeTriplets, .initialized RX8] : List Cond), w ∈ wU := w_4 v_i613 v_i614 v_i615 v_i51
theorem kc_X11_isRight : Cond.code yX11_isRight cX11_isRight 3 (some .boolean) ∈ wU := w_at 581 (by decide +kernel) (by decide +kernel)
theorem hk_X11_isRight : yX11_isRight.cls = RX11 ∧ yX11_isRight.cls ≠ "java/lang/invoke/MethodHandle" ∧ yX11_isRight.cls ≠ "java/lang/invoke/VarHandle" ∧ (parseMethodDescriptor yX11_isRight.desc).map (fun d => d.parameters.length) = some 2 := by decide +kernel
theorem v_i604 : Cond.methodLink RX11 180 yX9_isRightBar ∈ wU := w_at 604 (by decide +kernel) (by decide +kernel)
theorem v_i605 : Cond.instanceMethod yX9_isRightBar ∈ wU := w_at 605 (by decide +kernel) (by decide +kernel)
theorem v_i606 : Cond.selects RX9 yX9_isRightBar yX9_isRightBar ∈ wU := w_at 606 (by decide +kernel) (by decide +kernel)
theorem vl_X11_180 : ∀ w ∈ ([.methodLink RX11 180 yX9_isRightBar, .instanceMethod yX9_isRightBar, .selects RX9 yX9_isRightBar yX9_isRightBar, .initialized RX9] : List Cond), w ∈ wU := w_4 v_i604 v_i605 v_i606 v_i29
theorem kc_X11_written : Cond.code yX11_written cX11_written 5 (some .int) ∈ wU := w_at 1663 (by decide +kernel) (by decide +kernel)
theorem hk_X11_written : yX11_written.cls = RX11 ∧ yX11_written.cls ≠ "java/lang/invoke/MethodHandle" ∧ yX11_written.cls ≠ "java/lang/invoke/VarHandle" ∧ (parseMethodDescriptor yX11_written.desc).map (fun d => d.parameters.length) = some 3 := by decide +kernel
theorem kc_X5_init : Cond.code yX5_init cX5_init 6 none ∈ wU := w_at 1316 (by decide +kernel) (by decide +kernel)
theorem hk_X5_init : yX5_init.cls = RX5 ∧ yX5_init.cls ≠ "java/lang/invoke/MethodHandle" ∧ yX5_init.cls ≠ "java/lang/invoke/VarHandle" ∧ (parseMethodDescriptor yX5_init.desc).map (fun d => d.parameters.length) = some 5 := by decide +kernel
theorem v_i1317 : Cond.methodLink RX5 1 Lib.objectInit ∈ wU := w_at 1317 (by decide +kernel) (by decide +kernel)
theorem vo_X5_1 : ∀ w ∈ ([.methodLink RX5 1 Lib.objectInit, .instanceMethod Lib.objectInit, .code Lib.objectInit ⟨#[0xb1]⟩ 1 none] : List Cond), w ∈ wU := w_3 v_i1317 v_i68 v_i69
theorem vf_X5_7 : Cond.fieldLink RX5 7 RX5 (TX5 0).2.1 (TX5 0).2.2.1 ∈ wU := w_at 1318 (by decide +kernel) (by decide +kernel)
theorem ft_128 : cFT 128 = 0 := by decide +kernel
theorem vf_X5_13 : Cond.fieldLink RX5 13 RX5 (TX5 1).2.1 (TX5 1).2.2.1 ∈ wU := w_at 1319 (by decide +kernel) (by decide +kernel)
theorem ft_129 : cFT 129 = 0 := by decide +kernel
theorem vf_X5_20 : Cond.fieldLink RX5 20 RX5 (TX5 2).2.1 (TX5 2).2.2.1 ∈ wU := w_at 1320 (by decide +kernel) (by decide +kernel)
theorem ft_130 : cFT 130 = 0 := by decide +kernel
theorem kc_X11_addPhrase : Cond.code yX11_addPhrase cX11_addPhrase 9 (some .int) ∈ wU := w_at 1305 (by decide +kernel) (by decide +kernel)
theorem hk_X11_addPhrase : yX11_addPhrase.cls = RX11 ∧ yX11_addPhrase.cls ≠ "java/lang/invoke/MethodHandle" ∧ yX11_addPhrase.cls ≠ "java/lang/invoke/VarHandle" ∧ (parseMethodDescriptor yX11_addPhrase.desc).map (fun d => d.parameters.length) = some 5 := by decide +kernel
theorem vf_X11_183 : Cond.fieldLink RX11 183 RX9 (TX9 1).2.1 (TX9 1).2.2.1 ∈ wU := w_at 105 (by decide +kernel) (by decide +kernel)
theorem v_i1251 : Cond.methodLink RX11 186 yJx4a65c_size_8abf5 ∈ wU := w_at 1251 (by decide +kernel) (by decide +kernel)
theorem vj_X11_186 : ∀ w ∈ ([.methodLink RX11 186 yJx4a65c_size_8abf5, .instanceMethod yJx4a65c_size_8abf5, .selects RJx4a65c yJx4a65c_size_8abf5 yJx4a65c_size_8abf5, .initialized RJx4a65c] : List Cond), w ∈ wU := w_4 v_i1251 v_i206 v_i207 v_i32
theorem v_i1312 : Cond.classLink RX11 189 RX5 ∈ wU := w_at 1312 (by decide +kernel) (by decide +kernel)
theorem v_i1313 : Cond.instantiable RX5 6 ∈ wU := w_at 1313 (by decide +kernel) (by decide +kernel)
theorem vn_X11_189 : ∀ w ∈ ([.classLink RX11 189 RX5, .instantiable RX5 6, .initialized RX5] : List Cond), w ∈ wU := w_3 v_i1312 v_i1313 v_i53
theorem v_i1314 : Cond.methodLink RX11 191 yX5_init ∈ wU := w_at 1314 (by decide +kernel) (by decide +kernel)
theorem v_i1315 : Cond.instanceMethod yX5_init ∈ wU := w_at 1315 (by decide +kernel) (by decide +kernel)
theorem vl_X11_191 : ∀ w ∈ ([.methodLink RX11 191 yX5_init, .instanceMethod yX5_init, .initialized RX5] : List Cond), w ∈ wU := w_3 v_i1314 v_i1315 v_i53
theorem n_i1734 : Cond.castable RX5 "java/lang/Object" ∈ nwL := n_at 1734 (by decide +kernel) rfl
theorem kc_X11_dropPhrase : Cond.code yX11_dropPhrase cX11_dropPhrase 4 (some .boolean) ∈ wU := w_at 1345 (by decide +kernel) (by decide +kernel)
theorem hk_X11_dropPhrase : yX11_dropPhrase.cls = RX11 ∧ yX11_dropPhrase.cls ≠ "java/lang/invoke/MethodHandle" ∧ yX11_dropPhrase.cls ≠ "java/lang/invoke/VarHandle" ∧ (parseMethodDescriptor yX11_dropPhrase.desc).map (fun d => d.parameters.length) = some 1 := by decide +kernel
theorem v_i927 : Cond.methodLink RX11 194 yJx4a65c_get_915e3 ∈ wU := w_at 927 (by decide +kernel) (by decide +kernel)
theorem vj_X11_194 : ∀ w ∈ ([.methodLink RX11 194 yJx4a65c_get_915e3, .instanceMethod yJx4a65c_get_915e3, .selects RJx4a65c yJx4a65c_get_915e3 yJx4a65c_get_915e3, .initialized RJx4a65c] : List Cond), w ∈ wU := w_4 v_i927 v_i218 v_i219 v_i32
theorem vf_X11_198 : Cond.fieldLink RX11 198 RX5 (TX5 5).2.1 (TX5 5).2.2.1 ∈ wU := w_at 1325 (by decide +kernel) (by decide +kernel)
theorem kc_X9_phrasesThere : Cond.code yX9_phrasesThere cX9_phrasesThere 3 (some .int) ∈ wU := w_at 216 (by decide +kernel) (by decide +kernel)
theorem hk_X9_phrasesThere : yX9_phrasesThere.cls = RX9 ∧ yX9_phrasesThere.cls ≠ "java/lang/invoke/MethodHandle" ∧ yX9_phrasesThere.cls ≠ "java/lang/invoke/VarHandle" ∧ (parseMethodDescriptor yX9_phrasesThere.desc).map (fun d => d.parameters.length) = some 0 := by decide +kernel
theorem kc_X11_phrases : Cond.code yX11_phrases cX11_phrases 1 (some .int) ∈ wU := w_at 212 (by decide +kernel) (by decide +kernel)
theorem hk_X11_phrases : yX11_phrases.cls = RX11 ∧ yX11_phrases.cls ≠ "java/lang/invoke/MethodHandle" ∧ yX11_phrases.cls ≠ "java/lang/invoke/VarHandle" ∧ (parseMethodDescriptor yX11_phrases.desc).map (fun d => d.parameters.length) = some 0 := by decide +kernel
theorem v_i213 : Cond.methodLink RX11 201 yX9_phrasesThere ∈ wU := w_at 213 (by decide +kernel) (by decide +kernel)
theorem v_i214 : Cond.instanceMethod yX9_phrasesThere ∈ wU := w_at 214 (by decide +kernel) (by decide +kernel)
theorem v_i215 : Cond.selects RX9 yX9_phrasesThere yX9_phrasesThere ∈ wU := w_at 215 (by decide +kernel) (by decide +kernel)
theorem vl_X11_201 : ∀ w ∈ ([.methodLink RX11 201 yX9_phrasesThere, .instanceMethod yX9_phrasesThere, .selects RX9 yX9_phrasesThere yX9_phrasesThere, .initialized RX9] : List Cond), w ∈ wU := w_4 v_i213 v_i214 v_i215 v_i29
theorem kc_X11_allowTurn : Cond.code yX11_allowTurn cX11_allowTurn 6 (some .boolean) ∈ wU := w_at 1298 (by decide +kernel) (by decide +kernel)
theorem hk_X11_allowTurn : yX11_allowTurn.cls = RX11 ∧ yX11_allowTurn.cls ≠ "java/lang/invoke/MethodHandle" ∧ yX11_allowTurn.cls ≠ "java/lang/invoke/VarHandle" ∧ (parseMethodDescriptor yX11_allowTurn.desc).map (fun d => d.parameters.length) = some 3 := by decide +kernel
theorem vf_X11_204 : Cond.fieldLink RX11 204 RX8 (TX8 2).2.1 (TX8 2).2.2.1 ∈ wU := w_at 1157 (by decide +kernel) (by decide +kernel)
theorem ft_178 : cFT 178 = 0 := by decide +kernel
theorem kc_X9_isRepeated : Cond.code yX9_isRepeated cX9_isRepeated 5 (some .boolean) ∈ wU := w_at 1228 (by decide +kernel) (by decide +kernel)
theorem hk_X9_isRepeated : yX9_isRepeated.cls = RX9 ∧ yX9_isRepeated.cls ≠ "java/lang/invoke/MethodHandle" ∧ yX9_isRepeated.cls ≠ "java/lang/invoke/VarHandle" ∧ (parseMethodDescriptor yX9_isRepeated.desc).map (fun d => d.parameters.length) = some 2 := by decide +kernel
theorem fe_194 : cEmb (cFT 194) = true := by decide +kernel
theorem v_i276 : Cond.classLink RX9 123 RX7 ∈ wU := w_at 276 (by decide +kernel) (by decide +kernel)
theorem vf_X9_125 : Cond.fieldLink RX9 125 RX7 (TX7 0).2.1 (TX7 0).2.2.1 ∈ wU := w_at 1238 (by decide +kernel) (by decide +kernel)
theorem ft_160 : cFT 160 = 0 := by decide +kernel
theorem vf_X9_128 : Cond.fieldLink RX9 128 RX7 (TX7 1).2.1 (TX7 1).2.2.1 ∈ wU := w_at 1240 (by decide +kernel) (by decide +kernel)
theorem ft_161 : cFT 161 = 0 := by decide +kernel
theorem kc_X7_init : Cond.code yX7_init cX7_init 4 none ∈ wU := w_at 1234 (by decide +kernel) (by decide +kernel)
theorem hk_X7_init : yX7_init.cls = RX7 ∧ yX7_init.cls ≠ "java/lang/invoke/MethodHandle" ∧ yX7_init.cls ≠ "java/lang/invoke/VarHandle" ∧ (parseMethodDescriptor yX7_init.desc).map (fun d => d.parameters.length) = some 3 := by decide +kernel
theorem v_i1235 : Cond.methodLink RX7 1 Lib.objectInit ∈ wU := w_at 1235 (by decide +kernel) (by decide +kernel)
theorem vo_X7_1 : ∀ w ∈ ([.methodLink RX7 1 Lib.objectInit, .instanceMethod Lib.objectInit, .code Lib.objectInit ⟨#[0xb1]⟩ 1 none] : List Cond), w ∈ wU := w_3 v_i1235 v_i68 v_i69
theorem vf_X7_7 : Cond.fieldLink RX7 7 RX7 (TX7 0).2.1 (TX7 0).2.2.1 ∈ wU := w_at 1236 (by decide +kernel) (by decide +kernel)
theorem vf_X7_13 : Cond.fieldLink RX7 13 RX7 (TX7 1).2.1 (TX7 1).2.2.1 ∈ wU := w_at 1239 (by decide +kernel) (by decide +kernel)
theorem vf_X7_16 : Cond.fieldLink RX7 16 RX7 (TX7 2).2.1 (TX7 2).2.2.1 ∈ wU := w_at 1242 (by decide +kernel) (by decide +kernel)
theorem ft_162 : cFT 162 = 0 := by decide +kernel
theorem kc_X11_addRepeat : Cond.code yX11_addRepeat cX11_addRepeat 4 (some .int) ∈ wU := w_at 1223 (by decide +kernel) (by decide +kernel)
theorem hk_X11_addRepeat : yX11_addRepeat.cls = RX11 ∧ yX11_addRepeat.cls ≠ "java/lang/invoke/MethodHandle" ∧ yX11_addRepeat.cls ≠ "java/lang/invoke/VarHandle" ∧ (parseMethodDescriptor yX11_addRepeat.desc).map (fun d => d.parameters.length) = some 3 := by decide +kernel
theorem v_i1225 : Cond.methodLink RX11 209 yX9_isRepeated ∈ wU := w_at 1225 (by decide +kernel) (by decide +kernel)
theorem v_i1226 : Cond.instanceMethod yX9_isRepeated ∈ wU := w_at 1226 (by decide +kernel) (by decide +kernel)
theorem v_i1227 : Cond.selects RX9 yX9_isRepeated yX9_isRepeated ∈ wU := w_at 1227 (by decide +kernel) (by decide +kernel)
theorem vl_X11_209 : ∀ w ∈ ([.methodLink RX11 209 yX9_isRepeated, .instanceMethod yX9_isRepeated, .selects RX9 yX9_isRepeated yX9_isRepeated, .initialized RX9] : List Cond), w ∈ wU := w_4 v_i1225 v_i1226 v_i1227 v_i29
theorem vf_X11_214 : Cond.fieldLink RX11 214 RX9 (TX9 2).2.1 (TX9 2).2.2.1 ∈ wU := w_at 108 (by decide +kernel) (by decide +kernel)
theorem v_i1230 : Cond.classLink RX11 217 RX7 ∈ wU := w_at 1230 (by decide +kernel) (by decide +kernel)
theorem v_i1231 : Cond.instantiable RX7 3 ∈ wU := w_at 1231 (by decide +kernel) (by decide +kernel)
theorem v_i52 : Cond.initialized RX7 ∈ wU := w_at 52 (by decide +kernel) (by decide +kernel)
theorem vn_X11_217 : ∀ w ∈ ([.classLink RX11 217 RX7, .instantiable RX7 3, .initialized RX7] : List Cond), w ∈ wU := w_3 v_i1230 v_i1231 v_i52
theorem v_i1232 : Cond.methodLink RX11 219 yX7_init ∈ wU := w_at 1232 (by decide +kernel) (by decide +kernel)
theorem v_i1233 : Cond.instanceMethod yX7_init ∈ wU := w_at 1233 (by decide +kernel) (by decide +kernel)
theorem vl_X11_219 : ∀ w ∈ ([.methodLink RX11 219 yX7_init, .instanceMethod yX7_init, .initialized RX7] : List Cond), w ∈ wU := w_3 v_i1232 v_i1233 v_i52
theorem n_i1733 : Cond.castable RX7 "java/lang/Object" ∈ nwL := n_at 1733 (by decide +kernel) rfl
theorem kc_X9_repeatFrom : Cond.code yX9_repeatFrom cX9_repeatFrom 3 (some .int) ∈ wU := w_at 818 (by decide +kernel) (by decide +kernel)
theorem hk_X9_repeatFrom : yX9_repeatFrom.cls = RX9 ∧ yX9_repeatFrom.cls ≠ "java/lang/invoke/MethodHandle" ∧ yX9_repeatFrom.cls ≠ "java/lang/invoke/VarHandle" ∧ (parseMethodDescriptor yX9_repeatFrom.desc).map (fun d => d.parameters.length) = some 1 := by decide +kernel
theorem kc_X11_dropRepeat : Cond.code yX11_dropRepeat cX11_dropRepeat 4 (some .int) ∈ wU := w_at 1258 (by decide +kernel) (by decide +kernel)
theorem hk_X11_dropRepeat : yX11_dropRepeat.cls = RX11 ∧ yX11_dropRepeat.cls ≠ "java/lang/invoke/MethodHandle" ∧ yX11_dropRepeat.cls ≠ "java/lang/invoke/VarHandle" ∧ (parseMethodDescriptor yX11_dropRepeat.desc).map (fun d => d.parameters.length) = some 1 := by decide +kernel
theorem v_i1259 : Cond.methodLink RX11 220 yX9_repeatFrom ∈ wU := w_at 1259 (by decide +kernel) (by decide +kernel)
theorem v_i816 : Cond.instanceMethod yX9_repeatFrom ∈ wU := w_at 816 (by decide +kernel) (by decide +kernel)
theorem v_i817 : Cond.selects RX9 yX9_repeatFrom yX9_repeatFrom ∈ wU := w_at 817 (by decide +kernel) (by decide +kernel)
theorem vl_X11_220 : ∀ w ∈ ([.methodLink RX11 220 yX9_repeatFrom, .instanceMethod yX9_repeatFrom, .selects RX9 yX9_repeatFrom yX9_repeatFrom, .initialized RX9] : List Cond), w ∈ wU := w_4 v_i1259 v_i816 v_i817 v_i29
theorem vf_X11_225 : Cond.fieldLink RX11 225 RX7 (TX7 1).2.1 (TX7 1).2.2.1 ∈ wU := w_at 1241 (by decide +kernel) (by decide +kernel)
theorem v_i1261 : Cond.methodLink RX11 228 yJx4a65c_remove_915e3 ∈ wU := w_at 1261 (by decide +kernel) (by decide +kernel)
theorem vj_X11_228 : ∀ w ∈ ([.methodLink RX11 228 yJx4a65c_remove_915e3, .instanceMethod yJx4a65c_remove_915e3, .selects RJx4a65c yJx4a65c_remove_915e3 yJx4a65c_remove_915e3, .initialized RJx4a65c] : List Cond), w ∈ wU := w_4 v_i1261 v_i1262 v_i1263 v_i32
theorem kc_X6_addPlace : Cond.code yX6_addPlace cX6_addPlace 3 none ∈ wU := w_at 252 (by decide +kernel) (by decide +kernel)
theorem hk_X6_addPlace : yX6_addPlace.cls = RX6 ∧ yX6_addPlace.cls ≠ "java/lang/invoke/MethodHandle" ∧ yX6_addPlace.cls ≠ "java/lang/invoke/VarHandle" ∧ (parseMethodDescriptor yX6_addPlace.desc).map (fun d => d.parameters.length) = some 2 := by decide +kernel
theorem vf_X6_54 : Cond.fieldLink RX6 54 RX6 (TX6 2).2.1 (TX6 2).2.2.1 ∈ wU := w_at 152 (by decide +kernel) (by decide +kernel)
theorem ft_146 : cFT 146 = 0 := by decide +kernel
theorem fe_144 : cEmb (cFT 144) = true := by decide +kernel
theorem fe_145 : cEmb (cFT 145) = true := by decide +kernel
theorem vf_X6_61 : Cond.fieldLink RX6 61 RX6 (TX6 3).2.1 (TX6 3).2.2.1 ∈ wU := w_at 154 (by decide +kernel) (by decide +kernel)
theorem ft_147 : cFT 147 = 0 := by decide +kernel
theorem v_i253 : Cond.methodLink RX6 90 yX9_timeOfBar ∈ wU := w_at 253 (by decide +kernel) (by decide +kernel)
theorem vl_X6_90 : ∀ w ∈ ([.methodLink RX6 90 yX9_timeOfBar, .instanceMethod yX9_timeOfBar, .selects RX9 yX9_timeOfBar yX9_timeOfBar, .initialized RX9] : List Cond), w ∈ wU := w_4 v_i253 v_i254 v_i255 v_i29
theorem kc_X9_repeatTo : Cond.code yX9_repeatTo cX9_repeatTo 3 (some .int) ∈ wU := w_at 275 (by decide +kernel) (by decide +kernel)
theorem hk_X9_repeatTo : yX9_repeatTo.cls = RX9 ∧ yX9_repeatTo.cls ≠ "java/lang/invoke/MethodHandle" ∧ yX9_repeatTo.cls ≠ "java/lang/invoke/VarHandle" ∧ (parseMethodDescriptor yX9_repeatTo.desc).map (fun d => d.parameters.length) = some 1 := by decide +kernel
theorem kc_X7_lastAgain : Cond.code yX7_lastAgain cX7_lastAgain 1 (some .int) ∈ wU := w_at 282 (by decide +kernel) (by decide +kernel)
theorem hk_X7_lastAgain : yX7_lastAgain.cls = RX7 ∧ yX7_lastAgain.cls ≠ "java/lang/invoke/MethodHandle" ∧ yX7_lastAgain.cls ≠ "java/lang/invoke/VarHandle" ∧ (parseMethodDescriptor yX7_lastAgain.desc).map (fun d => d.parameters.length) = some 0 := by decide +kernel
theorem kc_X6_layPlaces : Cond.code yX6_layPlaces cX6_layPlaces 6 none ∈ wU := w_at 247 (by decide +kernel) (by decide +kernel)
theorem hk_X6_layPlaces : yX6_layPlaces.cls = RX6 ∧ yX6_layPlaces.cls ≠ "java/lang/invoke/MethodHandle" ∧ yX6_layPlaces.cls ≠ "java/lang/invoke/VarHandle" ∧ (parseMethodDescriptor yX6_layPlaces.desc).map (fun d => d.parameters.length) = some 1 := by decide +kernel
theorem v_i248 : Cond.methodLink RX6 64 yX9_barCount ∈ wU := w_at 248 (by decide +kernel) (by decide +kernel)
theorem vl_X6_64 : ∀ w ∈ ([.methodLink RX6 64 yX9_barCount, .instanceMethod yX9_barCount, .selects RX9 yX9_barCount yX9_barCount, .initialized RX9] : List Cond), w ∈ wU := w_4 v_i248 v_i202 v_i203 v_i29
theorem v_i249 : Cond.methodLink RX6 68 yX6_addPlace ∈ wU := w_at 249 (by decide +kernel) (by decide +kernel)
theorem v_i251 : Cond.instanceMethod yX6_addPlace ∈ wU := w_at 251 (by decide +kernel) (by decide +kernel)
theorem v_i2 : Cond.selects RX6 yX6_addPlace yX6_addPlace ∈ wU := w_at 2 (by decide +kernel) (by decide +kernel)
theorem vl_X6_68 : ∀ w ∈ ([.methodLink RX6 68 yX6_addPlace, .instanceMethod yX6_addPlace, .selects RX6 yX6_addPlace yX6_addPlace, .initialized RX6] : List Cond), w ∈ wU := w_4 v_i249 v_i251 v_i2 v_i33
theorem v_i272 : Cond.methodLink RX6 71 yX9_repeatTo ∈ wU := w_at 272 (by decide +kernel) (by decide +kernel)
theorem v_i273 : Cond.instanceMethod yX9_repeatTo ∈ wU := w_at 273 (by decide +kernel) (by decide +kernel)
theorem v_i274 : Cond.selects RX9 yX9_repeatTo yX9_repeatTo ∈ wU := w_at 274 (by decide +kernel) (by decide +kernel)
theorem vl_X6_71 : ∀ w ∈ ([.methodLink RX6 71 yX9_repeatTo, .instanceMethod yX9_repeatTo, .selects RX9 yX9_repeatTo yX9_repeatTo, .initialized RX9] : List Cond), w ∈ wU := w_4 v_i272 v_i273 v_i274 v_i29
theorem vf_X6_75 : Cond.fieldLink RX6 75 RX9 (TX9 2).2.1 (TX9 2).2.2.1 ∈ wU := w_at 107 (by decide +kernel) (by decide +kernel)
theorem v_i277 : Cond.methodLink RX6 78 yJx4a65c_get_915e3 ∈ wU := w_at 277 (by decide +kernel) (by decide +kernel)
theorem vj_X6_78 : ∀ w ∈ ([.methodLink RX6 78 yJx4a65c_get_915e3, .instanceMethod yJx4a65c_get_915e3, .selects RJx4a65c yJx4a65c_get_915e3 yJx4a65c_get_915e3, .initialized RJx4a65c] : List Cond), w ∈ wU := w_4 v_i277 v_i218 v_i219 v_i32
theorem v_i278 : Cond.classLink RX6 82 RX7 ∈ wU := w_at 278 (by decide +kernel) (by decide +kernel)
theorem vf_X6_84 : Cond.fieldLink RX6 84 RX7 (TX7 0).2.1 (TX7 0).2.2.1 ∈ wU := w_at 1237 (by decide +kernel) (by decide +kernel)
theorem v_i279 : Cond.methodLink RX6 87 yX7_lastAgain ∈ wU := w_at 279 (by decide +kernel) (by decide +kernel)
theorem v_i280 : Cond.instanceMethod yX7_lastAgain ∈ wU := w_at 280 (by decide +kernel) (by decide +kernel)
theorem v_i281 : Cond.selects RX7 yX7_lastAgain yX7_lastAgain ∈ wU := w_at 281 (by decide +kernel) (by decide +kernel)
theorem vl_X6_87 : ∀ w ∈ ([.methodLink RX6 87 yX7_lastAgain, .instanceMethod yX7_lastAgain, .selects RX7 yX7_lastAgain yX7_lastAgain, .initialized RX7] : List Cond), w ∈ wU := w_4 v_i279 v_i280 v_i281 v_i52
theorem kc_X9_spreadMarks : Cond.code yX9_spreadMarks cX9_spreadMarks 7 none ∈ wU := w_at 286 (by decide +kernel) (by decide +kernel)
theorem hk_X9_spreadMarks : yX9_spreadMarks.cls = RX9 ∧ yX9_spreadMarks.cls ≠ "java/lang/invoke/MethodHandle" ∧ yX9_spreadMarks.cls ≠ "java/lang/invoke/VarHandle" ∧ (parseMethodDescriptor yX9_spreadMarks.desc).map (fun d => d.parameters.length) = some 0 := by decide +kernel
theorem vf_X9_101 : Cond.fieldLink RX9 101 RX0 (TX0 4).2.1 (TX0 4).2.2.1 ∈ wU := w_at 1392 (by decide +kernel) (by decide +kernel)
theorem vf_X9_104 : Cond.fieldLink RX9 104 RX0 (TX0 5).2.1 (TX0 5).2.2.1 ∈ wU := w_at 1394 (by decide +kernel) (by decide +kernel)
theorem ft_53 : cFT 53 = 0 := by decide +kernel
theorem kc_X6_nextVoice : Cond.code yX6_nextVoice cX6_nextVoice 5 (some .int) ∈ wU := w_at 314 (by decide +kernel) (by decide +kernel)
theorem hk_X6_nextVoice : yX6_nextVoice.cls = RX6 ∧ yX6_nextVoice.cls ≠ "java/lang/invoke/MethodHandle" ∧ yX6_nextVoice.cls ≠ "java/lang/invoke/VarHandle" ∧ (parseMethodDescriptor yX6_nextVoice.desc).map (fun d => d.parameters.length) = some 1 := by decide +kernel
theorem fe_152 : cEmb (cFT 152) = true := by decide +kernel
theorem vf_X6_108 : Cond.fieldLink RX6 108 RX2 (TX2 3).2.1 (TX2 3).2.2.1 ∈ wU := w_at 1174 (by decide +kernel) (by decide +kernel)
theorem v_i315 : Cond.methodLink RX6 114 yX8_size ∈ wU := w_at 315 (by decide +kernel) (by decide +kernel)
theorem vl_X6_114 : ∀ w ∈ ([.methodLink RX6 114 yX8_size, .instanceMethod yX8_size, .selects RX8 yX8_size yX8_size, .initialized RX8] : List Cond), w ∈ wU := w_4 v_i315 v_i292 v_i293 v_i51
theorem fe_153 : cEmb (cFT 153) = true := by decide +kernel
theorem kc_X6_eventAhead : Cond.code yX6_eventAhead cX6_eventAhead 6 (some (.object RX0)) ∈ wU := w_at 330 (by decide +kernel) (by decide +kernel)
theorem hk_X6_eventAhead : yX6_eventAhead.cls = RX6 ∧ yX6_eventAhead.cls ≠ "java/lang/invoke/MethodHandle" ∧ yX6_eventAhead.cls ≠ "java/lang/invoke/VarHandle" ∧ (parseMethodDescriptor yX6_eventAhead.desc).map (fun d => d.parameters.length) = some 4 := by decide +kernel
theorem v_i320 : Cond.methodLink RX6 119 yX9_row ∈ wU := w_at 320 (by decide +kernel) (by decide +kernel)
theorem vl_X6_119 : ∀ w ∈ ([.methodLink RX6 119 yX9_row, .instanceMethod yX9_row, .selects RX9 yX9_row yX9_row, .initialized RX9] : List Cond), w ∈ wU := w_4 v_i320 v_i288 v_i289 v_i29
theorem v_i331 : Cond.methodLink RX6 152 yX8_isEmpty ∈ wU := w_at 331 (by decide +kernel) (by decide +kernel)
theorem vl_X6_152 : ∀ w ∈ ([.methodLink RX6 152 yX8_isEmpty, .instanceMethod yX8_isEmpty, .selects RX8 yX8_isEmpty yX8_isEmpty, .initialized RX8] : List Cond), w ∈ wU := w_4 v_i331 v_i332 v_i333 v_i51
theorem v_i321 : Cond.methodLink RX6 123 yX8_get ∈ wU := w_at 321 (by decide +kernel) (by decide +kernel)
theorem vl_X6_123 : ∀ w ∈ ([.methodLink RX6 123 yX8_get, .instanceMethod yX8_get, .selects RX8 yX8_get yX8_get, .initialized RX8] : List Cond), w ∈ wU := w_4 v_i321 v_i297 v_i298 v_i51
theorem kc_X0_isTiedTo : Cond.code yX0_isTiedTo cX0_isTiedTo 2 (some .boolean) ∈ wU := w_at 342 (by decide +kernel) (by decide +kernel)
theorem hk_X0_isTiedTo : yX0_isTiedTo.cls = RX0 ∧ yX0_isTiedTo.cls ≠ "java/lang/invoke/MethodHandle" ∧ yX0_isTiedTo.cls ≠ "java/lang/invoke/VarHandle" ∧ (parseMethodDescriptor yX0_isTiedTo.desc).map (fun d => d.parameters.length) = some 1 := by decide +kernel
theorem vf_X0_32 : Cond.fieldLink RX0 32 RX0 (TX0 3).2.1 (TX0 3).2.2.1 ∈ wU := w_at 1387 (by decide +kernel) (by decide +kernel)
theorem kc_X10_init : Cond.code yX10_init cX10_init 1 none ∈ wU := w_at 351 (by decide +kernel) (by decide +kernel)
theorem hk_X10_init : yX10_init.cls = RX10 ∧ yX10_init.cls ≠ "java/lang/invoke/MethodHandle" ∧ yX10_init.cls ≠ "java/lang/invoke/VarHandle" ∧ (parseMethodDescriptor yX10_init.desc).map (fun d => d.parameters.length) = some 0 := by decide +kernel
theorem v_i352 : Cond.methodLink RX10 1 Lib.objectInit ∈ wU := w_at 352 (by decide +kernel) (by decide +kernel)
theorem vo_X10_1 : ∀ w ∈ ([.methodLink RX10 1 Lib.objectInit, .instanceMethod Lib.objectInit, .code Lib.objectInit ⟨#[0xb1]⟩ 1 none] : List Cond), w ∈ wU := w_3 v_i352 v_i68 v_i69
theorem kc_X6_newSound : Cond.code yX6_newSound cX6_newSound 5 (some (.object RX10)) ∈ wU := w_at 346 (by decide +kernel) (by decide +kernel)
theorem hk_X6_newSound : yX6_newSound.cls = RX6 ∧ yX6_newSound.cls ≠ "java/lang/invoke/MethodHandle" ∧ yX6_newSound.cls ≠ "java/lang/invoke/VarHandle" ∧ (parseMethodDescriptor yX6_newSound.desc).map (fun d => d.parameters.length) = some 3 := by decide +kernel
theorem vf_X6_51 : Cond.fieldLink RX6 51 RX6 (TX6 5).2.1 (TX6 5).2.2.1 ∈ wU := w_at 158 (by decide +kernel) (by decide +kernel)
theorem ft_149 : cFT 149 = 0 := by decide +kernel
theorem fe_148 : cEmb (cFT 148) = true := by decide +kernel
theorem v_i347 : Cond.methodLink RX6 155 yJx4a65c_size_8abf5 ∈ wU := w_at 347 (by decide +kernel) (by decide +kernel)
theorem vj_X6_155 : ∀ w ∈ ([.methodLink RX6 155 yJx4a65c_size_8abf5, .instanceMethod yJx4a65c_size_8abf5, .selects RJx4a65c yJx4a65c_size_8abf5 yJx4a65c_size_8abf5, .initialized RJx4a65c] : List Cond), w ∈ wU := w_4 v_i347 v_i206 v_i207 v_i32
theorem vf_X6_161 : Cond.fieldLink RX6 161 RX10 (TX10 0).2.1 (TX10 0).2.2.1 ∈ wU := w_at 353 (by decide +kernel) (by decide +kernel)
theorem ft_208 : cFT 208 = 0 := by decide +kernel
theorem vf_X6_164 : Cond.fieldLink RX6 164 RX10 (TX10 1).2.1 (TX10 1).2.2.1 ∈ wU := w_at 355 (by decide +kernel) (by decide +kernel)
theorem ft_209 : cFT 209 = 0 := by decide +kernel
theorem vf_X6_167 : Cond.fieldLink RX6 167 RX0 (TX0 2).2.1 (TX0 2).2.2.1 ∈ wU := w_at 1384 (by decide +kernel) (by decide +kernel)
theorem vf_X6_170 : Cond.fieldLink RX6 170 RX10 (TX10 3).2.1 (TX10 3).2.2.1 ∈ wU := w_at 359 (by decide +kernel) (by decide +kernel)
theorem ft_211 : cFT 211 = 0 := by decide +kernel
theorem vf_X6_171 : Cond.fieldLink RX6 171 RX0 (TX0 5).2.1 (TX0 5).2.2.1 ∈ wU := w_at 1393 (by decide +kernel) (by decide +kernel)
theorem vf_X6_174 : Cond.fieldLink RX6 174 RX10 (TX10 4).2.1 (TX10 4).2.2.1 ∈ wU := w_at 361 (by decide +kernel) (by decide +kernel)
theorem ft_212 : cFT 212 = 0 := by decide +kernel
theorem v_i348 : Cond.instantiable RX10 5 ∈ wU := w_at 348 (by decide +kernel) (by decide +kernel)
theorem v_i37 : Cond.initialized RX10 ∈ wU := w_at 37 (by decide +kernel) (by decide +kernel)
theorem vn_X6_29 : ∀ w ∈ ([.classLink RX6 29 RX10, .instantiable RX10 5, .initialized RX10] : List Cond), w ∈ wU := w_3 v_i146 v_i348 v_i37
theorem n_i349 : Cond.methodLinkNest RX6 156 yX10_init "ScoreHouse" ∈ nwL := n_at 349 (by decide +kernel) rfl
theorem v_i350 : Cond.instanceMethod yX10_init ∈ wU := w_at 350 (by decide +kernel) (by decide +kernel)
theorem vl_X6_156 : ∀ w ∈ ([.instanceMethod yX10_init, .initialized RX10] : List Cond), w ∈ wU := w_2 v_i350 v_i37
theorem n_i1720 : Cond.castable RX10 "java/lang/Object" ∈ nwL := n_at 1720 (by decide +kernel) rfl
theorem v_i374 : Cond.methodLink RX6 157 yJx4a65c_add_9ea2d ∈ wU := w_at 374 (by decide +kernel) (by decide +kernel)
theorem vj_X6_157 : ∀ w ∈ ([.methodLink RX6 157 yJx4a65c_add_9ea2d, .instanceMethod yJx4a65c_add_9ea2d, .selects RJx4a65c yJx4a65c_add_9ea2d yJx4a65c_add_9ea2d, .initialized RJx4a65c] : List Cond), w ∈ wU := w_4 v_i374 v_i375 v_i376 v_i32
theorem kc_X6_playEvent : Cond.code yX6_playEvent cX6_playEvent 11 none ∈ wU := w_at 319 (by decide +kernel) (by decide +kernel)
theorem hk_X6_playEvent : yX6_playEvent.cls = RX6 ∧ yX6_playEvent.cls ≠ "java/lang/invoke/MethodHandle" ∧ yX6_playEvent.cls ≠ "java/lang/invoke/VarHandle" ∧ (parseMethodDescriptor yX6_playEvent.desc).map (fun d => d.parameters.length) = some 4 := by decide +kernel
theorem v_i322 : Cond.methodLink RX6 126 yX9_timeOf ∈ wU := w_at 322 (by decide +kernel) (by decide +kernel)
theorem vl_X6_126 : ∀ w ∈ ([.methodLink RX6 126 yX9_timeOf, .static yX9_timeOf, .initialized RX9] : List Cond), w ∈ wU := w_3 v_i322 v_i270 v_i29
theorem vf_X6_130 : Cond.fieldLink RX6 130 RX0 (TX0 0).2.1 (TX0 0).2.2.1 ∈ wU := w_at 1379 (by decide +kernel) (by decide +kernel)
theorem v_i323 : Cond.methodLink RX6 135 yX0_isNote ∈ wU := w_at 323 (by decide +kernel) (by decide +kernel)
theorem vl_X6_135 : ∀ w ∈ ([.methodLink RX6 135 yX0_isNote, .instanceMethod yX0_isNote, .selects RX0 yX0_isNote yX0_isNote, .initialized RX0] : List Cond), w ∈ wU := w_4 v_i323 v_i324 v_i325 v_i54
theorem v_i327 : Cond.methodLink RX6 139 yX6_eventAhead ∈ wU := w_at 327 (by decide +kernel) (by decide +kernel)
theorem v_i329 : Cond.instanceMethod yX6_eventAhead ∈ wU := w_at 329 (by decide +kernel) (by decide +kernel)
theorem v_i6 : Cond.selects RX6 yX6_eventAhead yX6_eventAhead ∈ wU := w_at 6 (by decide +kernel) (by decide +kernel)
theorem vl_X6_139 : ∀ w ∈ ([.methodLink RX6 139 yX6_eventAhead, .instanceMethod yX6_eventAhead, .selects RX6 yX6_eventAhead yX6_eventAhead, .initialized RX6] : List Cond), w ∈ wU := w_4 v_i327 v_i329 v_i6 v_i33
theorem v_i339 : Cond.methodLink RX6 143 yX0_isTiedTo ∈ wU := w_at 339 (by decide +kernel) (by decide +kernel)
theorem v_i340 : Cond.instanceMethod yX0_isTiedTo ∈ wU := w_at 340 (by decide +kernel) (by decide +kernel)
theorem v_i341 : Cond.selects RX0 yX0_isTiedTo yX0_isTiedTo ∈ wU := w_at 341 (by decide +kernel) (by decide +kernel)
theorem vl_X6_143 : ∀ w ∈ ([.methodLink RX6 143 yX0_isTiedTo, .instanceMethod yX0_isTiedTo, .selects RX0 yX0_isTiedTo yX0_isTiedTo, .initialized RX0] : List Cond), w ∈ wU := w_4 v_i339 v_i340 v_i341 v_i54
theorem fe_151 : cEmb (cFT 151) = true := by decide +kernel
theorem vf_X6_151 : Cond.fieldLink RX6 151 RX10 (TX10 2).2.1 (TX10 2).2.2.1 ∈ wU := w_at 357 (by decide +kernel) (by decide +kernel)
theorem ft_210 : cFT 210 = 0 := by decide +kernel
theorem v_i343 : Cond.methodLink RX6 147 yX6_newSound ∈ wU := w_at 343 (by decide +kernel) (by decide +kernel)
theorem v_i345 : Cond.instanceMethod yX6_newSound ∈ wU := w_at 345 (by decide +kernel) (by decide +kernel)
theorem v_i7 : Cond.selects RX6 yX6_newSound yX6_newSound ∈ wU := w_at 7 (by decide +kernel) (by decide +kernel)
theorem vl_X6_147 : ∀ w ∈ ([.methodLink RX6 147 yX6_newSound, .instanceMethod yX6_newSound, .selects RX6 yX6_newSound yX6_newSound, .initialized RX6] : List Cond), w ∈ wU := w_4 v_i343 v_i345 v_i7 v_i33
theorem kc_X6_playPlace : Cond.code yX6_playPlace cX6_playPlace 7 none ∈ wU := w_at 305 (by decide +kernel) (by decide +kernel)
theorem hk_X6_playPlace : yX6_playPlace.cls = RX6 ∧ yX6_playPlace.cls ≠ "java/lang/invoke/MethodHandle" ∧ yX6_playPlace.cls ≠ "java/lang/invoke/VarHandle" ∧ (parseMethodDescriptor yX6_playPlace.desc).map (fun d => d.parameters.length) = some 2 := by decide +kernel
theorem v_i306 : Cond.methodLink RX6 93 yX9_measure ∈ wU := w_at 306 (by decide +kernel) (by decide +kernel)
theorem vl_X6_93 : ∀ w ∈ ([.methodLink RX6 93 yX9_measure, .instanceMethod yX9_measure, .selects RX9 yX9_measure yX9_measure, .initialized RX9] : List Cond), w ∈ wU := w_4 v_i306 v_i307 v_i308 v_i29
theorem v_i310 : Cond.methodLink RX6 97 yX9_tempoAt ∈ wU := w_at 310 (by decide +kernel) (by decide +kernel)
theorem vl_X6_97 : ∀ w ∈ ([.methodLink RX6 97 yX9_tempoAt, .instanceMethod yX9_tempoAt, .selects RX9 yX9_tempoAt yX9_tempoAt, .initialized RX9] : List Cond), w ∈ wU := w_4 v_i310 v_i266 v_i267 v_i29
theorem v_i311 : Cond.methodLink RX6 100 yX6_nextVoice ∈ wU := w_at 311 (by decide +kernel) (by decide +kernel)
theorem v_i313 : Cond.instanceMethod yX6_nextVoice ∈ wU := w_at 313 (by decide +kernel) (by decide +kernel)
theorem v_i4 : Cond.selects RX6 yX6_nextVoice yX6_nextVoice ∈ wU := w_at 4 (by decide +kernel) (by decide +kernel)
theorem vl_X6_100 : ∀ w ∈ ([.methodLink RX6 100 yX6_nextVoice, .instanceMethod yX6_nextVoice, .selects RX6 yX6_nextVoice yX6_nextVoice, .initialized RX6] : List Cond), w ∈ wU := w_4 v_i311 v_i313 v_i4 v_i33
theorem v_i316 : Cond.methodLink RX6 104 yX6_playEvent ∈ wU := w_at 316 (by decide +kernel) (by decide +kernel)
theorem v_i318 : Cond.instanceMethod yX6_playEvent ∈ wU := w_at 318 (by decide +kernel) (by decide +kernel)
theorem v_i5 : Cond.selects RX6 yX6_playEvent yX6_playEvent ∈ wU := w_at 5 (by decide +kernel) (by decide +kernel)
theorem vl_X6_104 : ∀ w ∈ ([.methodLink RX6 104 yX6_playEvent, .instanceMethod yX6_playEvent, .selects RX6 yX6_playEvent yX6_playEvent, .initialized RX6] : List Cond), w ∈ wU := w_4 v_i316 v_i318 v_i5 v_i33
theorem kc_X6_renew : Cond.code yX6_renew cX6_renew 3 none ∈ wU := w_at 243 (by decide +kernel) (by decide +kernel)
theorem hk_X6_renew : yX6_renew.cls = RX6 ∧ yX6_renew.cls ≠ "java/lang/invoke/MethodHandle" ∧ yX6_renew.cls ≠ "java/lang/invoke/VarHandle" ∧ (parseMethodDescriptor yX6_renew.desc).map (fun d => d.parameters.length) = some 1 := by decide +kernel
theorem vf_X6_41 : Cond.fieldLink RX6 41 RX9 (TX9 7).2.1 (TX9 7).2.2.1 ∈ wU := w_at 118 (by decide +kernel) (by decide +kernel)
theorem v_i244 : Cond.methodLink RX6 44 yX6_layPlaces ∈ wU := w_at 244 (by decide +kernel) (by decide +kernel)
theorem v_i246 : Cond.instanceMethod yX6_layPlaces ∈ wU := w_at 246 (by decide +kernel) (by decide +kernel)
theorem v_i1 : Cond.selects RX6 yX6_layPlaces yX6_layPlaces ∈ wU := w_at 1 (by decide +kernel) (by decide +kernel)
theorem vl_X6_44 : ∀ w ∈ ([.methodLink RX6 44 yX6_layPlaces, .instanceMethod yX6_layPlaces, .selects RX6 yX6_layPlaces yX6_layPlaces, .initialized RX6] : List Cond), w ∈ wU := w_4 v_i244 v_i246 v_i1 v_i33
theorem v_i283 : Cond.methodLink RX6 48 yX9_spreadMarks ∈ wU := w_at 283 (by decide +kernel) (by decide +kernel)
theorem v_i284 : Cond.instanceMethod yX9_spreadMarks ∈ wU := w_at 284 (by decide +kernel) (by decide +kernel)
theorem v_i285 : Cond.selects RX9 yX9_spreadMarks yX9_spreadMarks ∈ wU := w_at 285 (by decide +kernel) (by decide +kernel)
theorem vl_X6_48 : ∀ w ∈ ([.methodLink RX6 48 yX9_spreadMarks, .instanceMethod yX9_spreadMarks, .selects RX9 yX9_spreadMarks yX9_spreadMarks, .initialized RX9] : List Cond), w ∈ wU := w_4 v_i283 v_i284 v_i285 v_i29
theorem v_i302 : Cond.methodLink RX6 57 yX6_playPlace ∈ wU := w_at 302 (by decide +kernel) (by decide +kernel)
theorem v_i304 : Cond.instanceMethod yX6_playPlace ∈ wU := w_at 304 (by decide +kernel) (by decide +kernel)
theorem v_i3 : Cond.selects RX6 yX6_playPlace yX6_playPlace ∈ wU := w_at 3 (by decide +kernel) (by decide +kernel)
theorem vl_X6_57 : ∀ w ∈ ([.methodLink RX6 57 yX6_playPlace, .instanceMethod yX6_playPlace, .selects RX6 yX6_playPlace yX6_playPlace, .initialized RX6] : List Cond), w ∈ wU := w_4 v_i302 v_i304 v_i3 v_i33
theorem kc_X11_played : Cond.code yX11_played cX11_played 1 (some (.object RX6)) ∈ wU := w_at 239 (by decide +kernel) (by decide +kernel)
theorem hk_X11_played : yX11_played.cls = RX11 ∧ yX11_played.cls ≠ "java/lang/invoke/MethodHandle" ∧ yX11_played.cls ≠ "java/lang/invoke/VarHandle" ∧ (parseMethodDescriptor yX11_played.desc).map (fun d => d.parameters.length) = some 0 := by decide +kernel
theorem v_i240 : Cond.methodLink RX11 368 yX6_renew ∈ wU := w_at 240 (by decide +kernel) (by decide +kernel)
theorem v_i241 : Cond.instanceMethod yX6_renew ∈ wU := w_at 241 (by decide +kernel) (by decide +kernel)
theorem v_i242 : Cond.selects RX6 yX6_renew yX6_renew ∈ wU := w_at 242 (by decide +kernel) (by decide +kernel)
theorem vl_X11_368 : ∀ w ∈ ([.methodLink RX11 368 yX6_renew, .instanceMethod yX6_renew, .selects RX6 yX6_renew yX6_renew, .initialized RX6] : List Cond), w ∈ wU := w_4 v_i240 v_i241 v_i242 v_i33
theorem kc_X11_places : Cond.code yX11_places cX11_places 1 (some .int) ∈ wU := w_at 235 (by decide +kernel) (by decide +kernel)
theorem hk_X11_places : yX11_places.cls = RX11 ∧ yX11_places.cls ≠ "java/lang/invoke/MethodHandle" ∧ yX11_places.cls ≠ "java/lang/invoke/VarHandle" ∧ (parseMethodDescriptor yX11_places.desc).map (fun d => d.parameters.length) = some 0 := by decide +kernel
theorem v_i236 : Cond.methodLink RX11 231 yX11_played ∈ wU := w_at 236 (by decide +kernel) (by decide +kernel)
theorem v_i238 : Cond.instanceMethod yX11_played ∈ wU := w_at 238 (by decide +kernel) (by decide +kernel)
theorem v_i0 : Cond.selects RX11 yX11_played yX11_played ∈ wU := w_at 0 (by decide +kernel) (by decide +kernel)
theorem vl_X11_231 : ∀ w ∈ ([.methodLink RX11 231 yX11_played, .instanceMethod yX11_played, .selects RX11 yX11_played yX11_played, .initialized RX11] : List Cond), w ∈ wU := w_4 v_i236 v_i238 v_i0 v_i28
theorem vf_X11_235 : Cond.fieldLink RX11 235 RX6 (TX6 2).2.1 (TX6 2).2.2.1 ∈ wU := w_at 153 (by decide +kernel) (by decide +kernel)
theorem kc_X11_barAt : Cond.code yX11_barAt cX11_barAt 2 (some .int) ∈ wU := w_at 461 (by decide +kernel) (by decide +kernel)
theorem hk_X11_barAt : yX11_barAt.cls = RX11 ∧ yX11_barAt.cls ≠ "java/lang/invoke/MethodHandle" ∧ yX11_barAt.cls ≠ "java/lang/invoke/VarHandle" ∧ (parseMethodDescriptor yX11_barAt.desc).map (fun d => d.parameters.length) = some 1 := by decide +kernel
theorem vf_X11_238 : Cond.fieldLink RX11 238 RX6 (TX6 0).2.1 (TX6 0).2.2.1 ∈ wU := w_at 149 (by decide +kernel) (by decide +kernel)
theorem kc_X11_startOf : Cond.code yX11_startOf cX11_startOf 2 (some .int) ∈ wU := w_at 540 (by decide +kernel) (by decide +kernel)
theorem hk_X11_startOf : yX11_startOf.cls = RX11 ∧ yX11_startOf.cls ≠ "java/lang/invoke/MethodHandle" ∧ yX11_startOf.cls ≠ "java/lang/invoke/VarHandle" ∧ (parseMethodDescriptor yX11_startOf.desc).map (fun d => d.parameters.length) = some 1 := by decide +kernel
theorem vf_X11_241 : Cond.fieldLink RX11 241 RX6 (TX6 1).2.1 (TX6 1).2.2.1 ∈ wU := w_at 151 (by decide +kernel) (by decide +kernel)
theorem kc_X11_playingTime : Cond.code yX11_playingTime cX11_playingTime 1 (some .int) ∈ wU := w_at 573 (by decide +kernel) (by decide +kernel)
theorem hk_X11_playingTime : yX11_playingTime.cls = RX11 ∧ yX11_playingTime.cls ≠ "java/lang/invoke/MethodHandle" ∧ yX11_playingTime.cls ≠ "java/lang/invoke/VarHandle" ∧ (parseMethodDescriptor yX11_playingTime.desc).map (fun d => d.parameters.length) = some 0 := by decide +kernel
theorem vf_X11_244 : Cond.fieldLink RX11 244 RX6 (TX6 3).2.1 (TX6 3).2.2.1 ∈ wU := w_at 155 (by decide +kernel) (by decide +kernel)
theorem kc_X6_timeOfEvents : Cond.code yX6_timeOfEvents cX6_timeOfEvents 7 (some .int) ∈ wU := w_at 628 (by decide +kernel) (by decide +kernel)
theorem hk_X6_timeOfEvents : yX6_timeOfEvents.cls = RX6 ∧ yX6_timeOfEvents.cls ≠ "java/lang/invoke/MethodHandle" ∧ yX6_timeOfEvents.cls ≠ "java/lang/invoke/VarHandle" ∧ (parseMethodDescriptor yX6_timeOfEvents.desc).map (fun d => d.parameters.length) = some 2 := by decide +kernel
theorem vf_X6_175 : Cond.fieldLink RX6 175 RX8 (TX8 1).2.1 (TX8 1).2.2.1 ∈ wU := w_at 1155 (by decide +kernel) (by decide +kernel)
theorem kc_X11_timeByEvents : Cond.code yX11_timeByEvents cX11_timeByEvents 2 (some .int) ∈ wU := w_at 624 (by decide +kernel) (by decide +kernel)
theorem hk_X11_timeByEvents : yX11_timeByEvents.cls = RX11 ∧ yX11_timeByEvents.cls ≠ "java/lang/invoke/MethodHandle" ∧ yX11_timeByEvents.cls ≠ "java/lang/invoke/VarHandle" ∧ (parseMethodDescriptor yX11_timeByEvents.desc).map (fun d => d.parameters.length) = some 1 := by decide +kernel
theorem v_i625 : Cond.methodLink RX11 247 yX6_timeOfEvents ∈ wU := w_at 625 (by decide +kernel) (by decide +kernel)
theorem v_i626 : Cond.instanceMethod yX6_timeOfEvents ∈ wU := w_at 626 (by decide +kernel) (by decide +kernel)
theorem v_i627 : Cond.selects RX6 yX6_timeOfEvents yX6_timeOfEvents ∈ wU := w_at 627 (by decide +kernel) (by decide +kernel)
theorem vl_X11_247 : ∀ w ∈ ([.methodLink RX11 247 yX6_timeOfEvents, .instanceMethod yX6_timeOfEvents, .selects RX6 yX6_timeOfEvents yX6_timeOfEvents, .initialized RX6] : List Cond), w ∈ wU := w_4 v_i625 v_i626 v_i627 v_i33
theorem kc_X11_sounds : Cond.code yX11_sounds cX11_sounds 1 (some .int) ∈ wU := w_at 442 (by decide +kernel) (by decide +kernel)
theorem hk_X11_sounds : yX11_sounds.cls = RX11 ∧ yX11_sounds.cls ≠ "java/lang/invoke/MethodHandle" ∧ yX11_sounds.cls ≠ "java/lang/invoke/VarHandle" ∧ (parseMethodDescriptor yX11_sounds.desc).map (fun d => d.parameters.length) = some 0 := by decide +kernel
theorem vf_X11_251 : Cond.fieldLink RX11 251 RX6 (TX6 5).2.1 (TX6 5).2.2.1 ∈ wU := w_at 159 (by decide +kernel) (by decide +kernel)
theorem kc_X11_requiredSound : Cond.code yX11_requiredSound cX11_requiredSound 2 (some (.object RX10)) ∈ wU := w_at 926 (by decide +kernel) (by decide +kernel)
theorem hk_X11_requiredSound : yX11_requiredSound.cls = RX11 ∧ yX11_requiredSound.cls ≠ "java/lang/invoke/MethodHandle" ∧ yX11_requiredSound.cls ≠ "java/lang/invoke/VarHandle" ∧ (parseMethodDescriptor yX11_requiredSound.desc).map (fun d => d.parameters.length) = some 1 := by decide +kernel
theorem vf_X11_372 : Cond.fieldLink RX11 372 RX6 (TX6 4).2.1 (TX6 4).2.2.1 ∈ wU := w_at 157 (by decide +kernel) (by decide +kernel)
theorem v_i928 : Cond.classLink RX11 259 RX10 ∈ wU := w_at 928 (by decide +kernel) (by decide +kernel)
theorem kc_X11_soundVoice : Cond.code yX11_soundVoice cX11_soundVoice 2 (some .int) ∈ wU := w_at 922 (by decide +kernel) (by decide +kernel)
theorem hk_X11_soundVoice : yX11_soundVoice.cls = RX11 ∧ yX11_soundVoice.cls ≠ "java/lang/invoke/MethodHandle" ∧ yX11_soundVoice.cls ≠ "java/lang/invoke/VarHandle" ∧ (parseMethodDescriptor yX11_soundVoice.desc).map (fun d => d.parameters.length) = some 1 := by decide +kernel
theorem v_i923 : Cond.methodLink RX11 254 yX11_requiredSound ∈ wU := w_at 923 (by decide +kernel) (by decide +kernel)
theorem v_i925 : Cond.instanceMethod yX11_requiredSound ∈ wU := w_at 925 (by decide +kernel) (by decide +kernel)
theorem v_i22 : Cond.selects RX11 yX11_requiredSound yX11_requiredSound ∈ wU := w_at 22 (by decide +kernel) (by decide +kernel)
theorem vl_X11_254 : ∀ w ∈ ([.methodLink RX11 254 yX11_requiredSound, .instanceMethod yX11_requiredSound, .selects RX11 yX11_requiredSound yX11_requiredSound, .initialized RX11] : List Cond), w ∈ wU := w_4 v_i923 v_i925 v_i22 v_i28
theorem vf_X11_258 : Cond.fieldLink RX11 258 RX10 (TX10 0).2.1 (TX10 0).2.2.1 ∈ wU := w_at 354 (by decide +kernel) (by decide +kernel)
theorem kc_X11_soundStart : Cond.code yX11_soundStart cX11_soundStart 2 (some .int) ∈ wU := w_at 935 (by decide +kernel) (by decide +kernel)
theorem hk_X11_soundStart : yX11_soundStart.cls = RX11 ∧ yX11_soundStart.cls ≠ "java/lang/invoke/MethodHandle" ∧ yX11_soundStart.cls ≠ "java/lang/invoke/VarHandle" ∧ (parseMethodDescriptor yX11_soundStart.desc).map (fun d => d.parameters.length) = some 1 := by decide +kernel
theorem vf_X11_263 : Cond.fieldLink RX11 263 RX10 (TX10 1).2.1 (TX10 1).2.2.1 ∈ wU := w_at 356 (by decide +kernel) (by decide +kernel)
theorem kc_X11_soundTime : Cond.code yX11_soundTime cX11_soundTime 3 (some .int) ∈ wU := w_at 942 (by decide +kernel) (by decide +kernel)
theorem hk_X11_soundTime : yX11_soundTime.cls = RX11 ∧ yX11_soundTime.cls ≠ "java/lang/invoke/MethodHandle" ∧ yX11_soundTime.cls ≠ "java/lang/invoke/VarHandle" ∧ (parseMethodDescriptor yX11_soundTime.desc).map (fun d => d.parameters.length) = some 1 := by decide +kernel
theorem vf_X11_266 : Cond.fieldLink RX11 266 RX10 (TX10 2).2.1 (TX10 2).2.2.1 ∈ wU := w_at 358 (by decide +kernel) (by decide +kernel)
theorem kc_X11_soundPitch : Cond.code yX11_soundPitch cX11_soundPitch 2 (some .int) ∈ wU := w_at 949 (by decide +kernel) (by decide +kernel)
theorem hk_X11_soundPitch : yX11_soundPitch.cls = RX11 ∧ yX11_soundPitch.cls ≠ "java/lang/invoke/MethodHandle" ∧ yX11_soundPitch.cls ≠ "java/lang/invoke/VarHandle" ∧ (parseMethodDescriptor yX11_soundPitch.desc).map (fun d => d.parameters.length) = some 1 := by decide +kernel
theorem vf_X11_267 : Cond.fieldLink RX11 267 RX10 (TX10 3).2.1 (TX10 3).2.2.1 ∈ wU := w_at 360 (by decide +kernel) (by decide +kernel)
theorem kc_X11_loudness : Cond.code yX11_loudness cX11_loudness 2 (some .int) ∈ wU := w_at 956 (by decide +kernel) (by decide +kernel)
theorem hk_X11_loudness : yX11_loudness.cls = RX11 ∧ yX11_loudness.cls ≠ "java/lang/invoke/MethodHandle" ∧ yX11_loudness.cls ≠ "java/lang/invoke/VarHandle" ∧ (parseMethodDescriptor yX11_loudness.desc).map (fun d => d.parameters.length) = some 1 := by decide +kernel
theorem vf_X11_268 : Cond.fieldLink RX11 268 RX10 (TX10 4).2.1 (TX10 4).2.2.1 ∈ wU := w_at 362 (by decide +kernel) (by decide +kernel)
theorem kc_X11_setPaper : Cond.code yX11_setPaper cX11_setPaper 4 none ∈ wU := w_at 1291 (by decide +kernel) (by decide +kernel)
theorem hk_X11_setPaper : yX11_setPaper.cls = RX11 ∧ yX11_setPaper.cls ≠ "java/lang/invoke/MethodHandle" ∧ yX11_setPaper.cls ≠ "java/lang/invoke/VarHandle" ∧ (parseMethodDescriptor yX11_setPaper.desc).map (fun d => d.parameters.length) = some 3 := by decide +kernel
theorem vf_X11_271 : Cond.fieldLink RX11 271 RX9 (TX9 4).2.1 (TX9 4).2.2.1 ∈ wU := w_at 112 (by decide +kernel) (by decide +kernel)
theorem vf_X11_274 : Cond.fieldLink RX11 274 RX9 (TX9 5).2.1 (TX9 5).2.2.1 ∈ wU := w_at 114 (by decide +kernel) (by decide +kernel)
theorem vf_X11_277 : Cond.fieldLink RX11 277 RX9 (TX9 6).2.1 (TX9 6).2.2.1 ∈ wU := w_at 117 (by decide +kernel) (by decide +kernel)
theorem kc_X9_canBeDrawn : Cond.code yX9_canBeDrawn cX9_canBeDrawn 3 (some .boolean) ∈ wU := w_at 644 (by decide +kernel) (by decide +kernel)
theorem hk_X9_canBeDrawn : yX9_canBeDrawn.cls = RX9 ∧ yX9_canBeDrawn.cls ≠ "java/lang/invoke/MethodHandle" ∧ yX9_canBeDrawn.cls ≠ "java/lang/invoke/VarHandle" ∧ (parseMethodDescriptor yX9_canBeDrawn.desc).map (fun d => d.parameters.length) = some 1 := by decide +kernel
theorem v_i646 : Cond.methodLink RX9 88 yJx4a65c_isEmpty_aae02 ∈ wU := w_at 646 (by decide +kernel) (by decide +kernel)
theorem vj_X9_88 : ∀ w ∈ ([.methodLink RX9 88 yJx4a65c_isEmpty_aae02, .instanceMethod yJx4a65c_isEmpty_aae02, .selects RJx4a65c yJx4a65c_isEmpty_aae02 yJx4a65c_isEmpty_aae02, .initialized RJx4a65c] : List Cond), w ∈ wU := w_4 v_i646 v_i336 v_i337 v_i32
theorem v_i645 : Cond.methodLink RX9 84 yX9_isRightBar ∈ wU := w_at 645 (by decide +kernel) (by decide +kernel)
theorem vl_X9_84 : ∀ w ∈ ([.methodLink RX9 84 yX9_isRightBar, .instanceMethod yX9_isRightBar, .selects RX9 yX9_isRightBar yX9_isRightBar, .initialized RX9] : List Cond), w ∈ wU := w_4 v_i645 v_i605 v_i606 v_i29
theorem kc_X1_init : Cond.code yX1_init cX1_init 1 none ∈ wU := w_at 672 (by decide +kernel) (by decide +kernel)
theorem hk_X1_init : yX1_init.cls = RX1 ∧ yX1_init.cls ≠ "java/lang/invoke/MethodHandle" ∧ yX1_init.cls ≠ "java/lang/invoke/VarHandle" ∧ (parseMethodDescriptor yX1_init.desc).map (fun d => d.parameters.length) = some 0 := by decide +kernel
theorem v_i673 : Cond.methodLink RX1 3 Lib.objectInit ∈ wU := w_at 673 (by decide +kernel) (by decide +kernel)
theorem vo_X1_3 : ∀ w ∈ ([.methodLink RX1 3 Lib.objectInit, .instanceMethod Lib.objectInit, .code Lib.objectInit ⟨#[0xb1]⟩ 1 none] : List Cond), w ∈ wU := w_3 v_i673 v_i68 v_i69
theorem vf_X1_9 : Cond.fieldLink RX1 9 RX1 (TX1 0).2.1 (TX1 0).2.2.1 ∈ wU := w_at 674 (by decide +kernel) (by decide +kernel)
theorem ft_64 : cFT 64 = 1 := by decide +kernel
theorem vf_X1_15 : Cond.fieldLink RX1 15 RX1 (TX1 2).2.1 (TX1 2).2.2.1 ∈ wU := w_at 680 (by decide +kernel) (by decide +kernel)
theorem ft_66 : cFT 66 = 1 := by decide +kernel
theorem vf_X1_18 : Cond.fieldLink RX1 18 RX1 (TX1 3).2.1 (TX1 3).2.2.1 ∈ wU := w_at 682 (by decide +kernel) (by decide +kernel)
theorem ft_67 : cFT 67 = 1 := by decide +kernel
theorem kc_X3_init : Cond.code yX3_init cX3_init 1 none ∈ wU := w_at 696 (by decide +kernel) (by decide +kernel)
theorem hk_X3_init : yX3_init.cls = RX3 ∧ yX3_init.cls ≠ "java/lang/invoke/MethodHandle" ∧ yX3_init.cls ≠ "java/lang/invoke/VarHandle" ∧ (parseMethodDescriptor yX3_init.desc).map (fun d => d.parameters.length) = some 0 := by decide +kernel
theorem v_i697 : Cond.methodLink RX3 3 Lib.objectInit ∈ wU := w_at 697 (by decide +kernel) (by decide +kernel)
theorem vo_X3_3 : ∀ w ∈ ([.methodLink RX3 3 Lib.objectInit, .instanceMethod Lib.objectInit, .code Lib.objectInit ⟨#[0xb1]⟩ 1 none] : List Cond), w ∈ wU := w_3 v_i697 v_i68 v_i69
theorem vf_X3_11 : Cond.fieldLink RX3 11 RX3 (TX3 0).2.1 (TX3 0).2.2.1 ∈ wU := w_at 698 (by decide +kernel) (by decide +kernel)
theorem ft_96 : cFT 96 = 1 := by decide +kernel
theorem vf_X3_15 : Cond.fieldLink RX3 15 RX3 (TX3 1).2.1 (TX3 1).2.2.1 ∈ wU := w_at 700 (by decide +kernel) (by decide +kernel)
theorem ft_97 : cFT 97 = 1 := by decide +kernel
theorem vf_X3_18 : Cond.fieldLink RX3 18 RX3 (TX3 3).2.1 (TX3 3).2.2.1 ∈ wU := w_at 703 (by decide +kernel) (by decide +kernel)
theorem ft_99 : cFT 99 = 1 := by decide +kernel
theorem vf_X3_21 : Cond.fieldLink RX3 21 RX3 (TX3 5).2.1 (TX3 5).2.2.1 ∈ wU := w_at 707 (by decide +kernel) (by decide +kernel)
theorem ft_101 : cFT 101 = 1 := by decide +kernel
theorem vf_X3_24 : Cond.fieldLink RX3 24 RX3 (TX3 6).2.1 (TX3 6).2.2.1 ∈ wU := w_at 709 (by decide +kernel) (by decide +kernel)
theorem ft_102 : cFT 102 = 1 := by decide +kernel
theorem vf_X3_27 : Cond.fieldLink RX3 27 RX3 (TX3 7).2.1 (TX3 7).2.2.1 ∈ wU := w_at 711 (by decide +kernel) (by decide +kernel)
theorem ft_103 : cFT 103 = 1 := by decide +kernel
theorem vf_X3_30 : Cond.fieldLink RX3 30 RX3 (TX3 8).2.1 (TX3 8).2.2.1 ∈ wU := w_at 713 (by decide +kernel) (by decide +kernel)
theorem ft_104 : cFT 104 = 1 := by decide +kernel
theorem vf_X3_33 : Cond.fieldLink RX3 33 RX3 (TX3 9).2.1 (TX3 9).2.2.1 ∈ wU := w_at 714 (by decide +kernel) (by decide +kernel)
theorem ft_105 : cFT 105 = 2 := by decide +kernel
theorem v_i739 : Cond.arrayClass .long ∈ wU := w_at 739 (by decide +kernel) (by decide +kernel)
theorem vf_X3_37 : Cond.fieldLink RX3 37 RX3 (TX3 10).2.1 (TX3 10).2.2.1 ∈ wU := w_at 715 (by decide +kernel) (by decide +kernel)
theorem ft_106 : cFT 106 = 1 := by decide +kernel
theorem kc_X4_init : Cond.code yX4_init cX4_init 2 none ∈ wU := w_at 666 (by decide +kernel) (by decide +kernel)
theorem hk_X4_init : yX4_init.cls = RX4 ∧ yX4_init.cls ≠ "java/lang/invoke/MethodHandle" ∧ yX4_init.cls ≠ "java/lang/invoke/VarHandle" ∧ (parseMethodDescriptor yX4_init.desc).map (fun d => d.parameters.length) = some 1 := by decide +kernel
theorem v_i667 : Cond.methodLink RX4 3 Lib.objectInit ∈ wU := w_at 667 (by decide +kernel) (by decide +kernel)
theorem vo_X4_3 : ∀ w ∈ ([.methodLink RX4 3 Lib.objectInit, .instanceMethod Lib.objectInit, .code Lib.objectInit ⟨#[0xb1]⟩ 1 none] : List Cond), w ∈ wU := w_3 v_i667 v_i68 v_i69
theorem vf_X4_9 : Cond.fieldLink RX4 9 RX4 (TX4 1).2.1 (TX4 1).2.2.1 ∈ wU := w_at 741 (by decide +kernel) (by decide +kernel)
theorem ft_113 : cFT 113 = 1 := by decide +kernel
theorem vf_X4_15 : Cond.fieldLink RX4 15 RX4 (TX4 2).2.1 (TX4 2).2.2.1 ∈ wU := w_at 743 (by decide +kernel) (by decide +kernel)
theorem ft_114 : cFT 114 = 1 := by decide +kernel
theorem vf_X4_18 : Cond.fieldLink RX4 18 RX4 (TX4 3).2.1 (TX4 3).2.2.1 ∈ wU := w_at 745 (by decide +kernel) (by decide +kernel)
theorem ft_115 : cFT 115 = 1 := by decide +kernel
theorem vf_X4_21 : Cond.fieldLink RX4 21 RX4 (TX4 4).2.1 (TX4 4).2.2.1 ∈ wU := w_at 747 (by decide +kernel) (by decide +kernel)
theorem ft_116 : cFT 116 = 1 := by decide +kernel
theorem vf_X4_24 : Cond.fieldLink RX4 24 RX4 (TX4 5).2.1 (TX4 5).2.2.1 ∈ wU := w_at 749 (by decide +kernel) (by decide +kernel)
theorem ft_117 : cFT 117 = 1 := by decide +kernel
theorem v_i668 : Cond.classLink RX4 27 RX1 ∈ wU := w_at 668 (by decide +kernel) (by decide +kernel)
theorem v_i669 : Cond.instantiable RX1 4 ∈ wU := w_at 669 (by decide +kernel) (by decide +kernel)
theorem v_i49 : Cond.initialized RX1 ∈ wU := w_at 49 (by decide +kernel) (by decide +kernel)
theorem vn_X4_27 : ∀ w ∈ ([.classLink RX4 27 RX1, .instantiable RX1 4, .initialized RX1] : List Cond), w ∈ wU := w_3 v_i668 v_i669 v_i49
theorem n_i670 : Cond.methodLinkNest RX4 29 yX1_init "ScoreHouse" ∈ nwL := n_at 670 (by decide +kernel) rfl
theorem v_i671 : Cond.instanceMethod yX1_init ∈ wU := w_at 671 (by decide +kernel) (by decide +kernel)
theorem vl_X4_29 : ∀ w ∈ ([.instanceMethod yX1_init, .initialized RX1] : List Cond), w ∈ wU := w_2 v_i671 v_i49
theorem vf_X4_30 : Cond.fieldLink RX4 30 RX4 (TX4 7).2.1 (TX4 7).2.2.1 ∈ wU := w_at 753 (by decide +kernel) (by decide +kernel)
theorem ft_119 : cFT 119 = 3 := by decide +kernel
theorem v_i692 : Cond.classLink RX4 34 RX3 ∈ wU := w_at 692 (by decide +kernel) (by decide +kernel)
theorem v_i693 : Cond.instantiable RX3 11 ∈ wU := w_at 693 (by decide +kernel) (by decide +kernel)
theorem v_i50 : Cond.initialized RX3 ∈ wU := w_at 50 (by decide +kernel) (by decide +kernel)
theorem vn_X4_34 : ∀ w ∈ ([.classLink RX4 34 RX3, .instantiable RX3 11, .initialized RX3] : List Cond), w ∈ wU := w_3 v_i692 v_i693 v_i50
theorem n_i694 : Cond.methodLinkNest RX4 36 yX3_init "ScoreHouse" ∈ nwL := n_at 694 (by decide +kernel) rfl
theorem v_i695 : Cond.instanceMethod yX3_init ∈ wU := w_at 695 (by decide +kernel) (by decide +kernel)
theorem vl_X4_36 : ∀ w ∈ ([.instanceMethod yX3_init, .initialized RX3] : List Cond), w ∈ wU := w_2 v_i695 v_i50
theorem vf_X4_37 : Cond.fieldLink RX4 37 RX4 (TX4 8).2.1 (TX4 8).2.2.1 ∈ wU := w_at 755 (by decide +kernel) (by decide +kernel)
theorem ft_120 : cFT 120 = 3 := by decide +kernel
theorem vf_X4_41 : Cond.fieldLink RX4 41 RX4 (TX4 9).2.1 (TX4 9).2.2.1 ∈ wU := w_at 757 (by decide +kernel) (by decide +kernel)
theorem ft_121 : cFT 121 = 0 := by decide +kernel
theorem vf_X4_45 : Cond.fieldLink RX4 45 RX4 (TX4 0).2.1 (TX4 0).2.2.1 ∈ wU := w_at 740 (by decide +kernel) (by decide +kernel)
theorem ft_112 : cFT 112 = 0 := by decide +kernel
theorem kc_X4_isRestLast : Cond.code yX4_isRestLast cX4_isRestLast 1 (some .boolean) ∈ wU := w_at 794 (by decide +kernel) (by decide +kernel)
theorem hk_X4_isRestLast : yX4_isRestLast.cls = RX4 ∧ yX4_isRestLast.cls ≠ "java/lang/invoke/MethodHandle" ∧ yX4_isRestLast.cls ≠ "java/lang/invoke/VarHandle" ∧ (parseMethodDescriptor yX4_isRestLast.desc).map (fun d => d.parameters.length) = some 0 := by decide +kernel
theorem vf_X4_48 : Cond.fieldLink RX4 48 RX4 (TX4 6).2.1 (TX4 6).2.2.1 ∈ wU := w_at 751 (by decide +kernel) (by decide +kernel)
theorem ft_118 : cFT 118 = 0 := by decide +kernel
theorem fe_113 : cEmb (cFT 113) = true := by decide +kernel
theorem kc_X9_lowestVoiceBeside : Cond.code yX9_lowestVoiceBeside cX9_lowestVoiceBeside 4 (some .int) ∈ wU := w_at 798 (by decide +kernel) (by decide +kernel)
theorem hk_X9_lowestVoiceBeside : yX9_lowestVoiceBeside.cls = RX9 ∧ yX9_lowestVoiceBeside.cls ≠ "java/lang/invoke/MethodHandle" ∧ yX9_lowestVoiceBeside.cls ≠ "java/lang/invoke/VarHandle" ∧ (parseMethodDescriptor yX9_lowestVoiceBeside.desc).map (fun d => d.parameters.length) = some 2 := by decide +kernel
theorem kc_X4_addItem : Cond.code yX4_addItem cX4_addItem 4 none ∈ wU := w_at 802 (by decide +kernel) (by decide +kernel)
theorem hk_X4_addItem : yX4_addItem.cls = RX4 ∧ yX4_addItem.cls ≠ "java/lang/invoke/MethodHandle" ∧ yX4_addItem.cls ≠ "java/lang/invoke/VarHandle" ∧ (parseMethodDescriptor yX4_addItem.desc).map (fun d => d.parameters.length) = some 3 := by decide +kernel
theorem fe_114 : cEmb (cFT 114) = true := by decide +kernel
theorem fe_115 : cEmb (cFT 115) = true := by decide +kernel
theorem fe_116 : cEmb (cFT 116) = true := by decide +kernel
theorem kc_X4_partCueFromRest : Cond.code yX4_partCueFromRest cX4_partCueFromRest 4 none ∈ wU := w_at 790 (by decide +kernel) (by decide +kernel)
theorem hk_X4_partCueFromRest : yX4_partCueFromRest.cls = RX4 ∧ yX4_partCueFromRest.cls ≠ "java/lang/invoke/MethodHandle" ∧ yX4_partCueFromRest.cls ≠ "java/lang/invoke/VarHandle" ∧ (parseMethodDescriptor yX4_partCueFromRest.desc).map (fun d => d.parameters.length) = some 1 := by decide +kernel
theorem v_i791 : Cond.methodLink RX4 75 yX4_isRestLast ∈ wU := w_at 791 (by decide +kernel) (by decide +kernel)
theorem v_i48 : Cond.initialized RX4 ∈ wU := w_at 48 (by decide +kernel) (by decide +kernel)
theorem v_i793 : Cond.instanceMethod yX4_isRestLast ∈ wU := w_at 793 (by decide +kernel) (by decide +kernel)
theorem v_i15 : Cond.selects RX4 yX4_isRestLast yX4_isRestLast ∈ wU := w_at 15 (by decide +kernel) (by decide +kernel)
theorem vl_X4_75 : ∀ w ∈ ([.methodLink RX4 75 yX4_isRestLast, .instanceMethod yX4_isRestLast, .selects RX4 yX4_isRestLast yX4_isRestLast, .initialized RX4] : List Cond), w ∈ wU := w_4 v_i791 v_i793 v_i15 v_i48
theorem v_i795 : Cond.methodLink RX4 86 yX9_lowestVoiceBeside ∈ wU := w_at 795 (by decide +kernel) (by decide +kernel)
theorem v_i796 : Cond.instanceMethod yX9_lowestVoiceBeside ∈ wU := w_at 796 (by decide +kernel) (by decide +kernel)
theorem v_i797 : Cond.selects RX9 yX9_lowestVoiceBeside yX9_lowestVoiceBeside ∈ wU := w_at 797 (by decide +kernel) (by decide +kernel)
theorem vl_X4_86 : ∀ w ∈ ([.methodLink RX4 86 yX9_lowestVoiceBeside, .instanceMethod yX9_lowestVoiceBeside, .selects RX9 yX9_lowestVoiceBeside yX9_lowestVoiceBeside, .initialized RX9] : List Cond), w ∈ wU := w_4 v_i795 v_i796 v_i797 v_i29
theorem v_i799 : Cond.methodLink RX4 71 yX4_addItem ∈ wU := w_at 799 (by decide +kernel) (by decide +kernel)
theorem v_i801 : Cond.instanceMethod yX4_addItem ∈ wU := w_at 801 (by decide +kernel) (by decide +kernel)
theorem v_i16 : Cond.selects RX4 yX4_addItem yX4_addItem ∈ wU := w_at 16 (by decide +kernel) (by decide +kernel)
theorem vl_X4_71 : ∀ w ∈ ([.methodLink RX4 71 yX4_addItem, .instanceMethod yX4_addItem, .selects RX4 yX4_addItem yX4_addItem, .initialized RX4] : List Cond), w ∈ wU := w_4 v_i799 v_i801 v_i16 v_i48
theorem kc_X2_hasMetreOf : Cond.code yX2_hasMetreOf cX2_hasMetreOf 2 (some .boolean) ∈ wU := w_at 814 (by decide +kernel) (by decide +kernel)
theorem hk_X2_hasMetreOf : yX2_hasMetreOf.cls = RX2 ∧ yX2_hasMetreOf.cls ≠ "java/lang/invoke/MethodHandle" ∧ yX2_hasMetreOf.cls ≠ "java/lang/invoke/VarHandle" ∧ (parseMethodDescriptor yX2_hasMetreOf.desc).map (fun d => d.parameters.length) = some 1 := by decide +kernel
theorem kc_X9_isNewMetre : Cond.code yX9_isNewMetre cX9_isNewMetre 2 (some .boolean) ∈ wU := w_at 810 (by decide +kernel) (by decide +kernel)
theorem hk_X9_isNewMetre : yX9_isNewMetre.cls = RX9 ∧ yX9_isNewMetre.cls ≠ "java/lang/invoke/MethodHandle" ∧ yX9_isNewMetre.cls ≠ "java/lang/invoke/VarHandle" ∧ (parseMethodDescriptor yX9_isNewMetre.desc).map (fun d => d.parameters.length) = some 1 := by decide +kernel
theorem v_i811 : Cond.methodLink RX9 137 yX2_hasMetreOf ∈ wU := w_at 811 (by decide +kernel) (by decide +kernel)
theorem v_i812 : Cond.instanceMethod yX2_hasMetreOf ∈ wU := w_at 812 (by decide +kernel) (by decide +kernel)
theorem v_i813 : Cond.selects RX2 yX2_hasMetreOf yX2_hasMetreOf ∈ wU := w_at 813 (by decide +kernel) (by decide +kernel)
theorem vl_X9_137 : ∀ w ∈ ([.methodLink RX9 137 yX2_hasMetreOf, .instanceMethod yX2_hasMetreOf, .selects RX2 yX2_hasMetreOf yX2_hasMetreOf, .initialized RX2] : List Cond), w ∈ wU := w_4 v_i811 v_i812 v_i813 v_i36
theorem kc_X9_areEndingsFrom : Cond.code yX9_areEndingsFrom cX9_areEndingsFrom 4 (some .boolean) ∈ wU := w_at 822 (by decide +kernel) (by decide +kernel)
theorem hk_X9_areEndingsFrom : yX9_areEndingsFrom.cls = RX9 ∧ yX9_areEndingsFrom.cls ≠ "java/lang/invoke/MethodHandle" ∧ yX9_areEndingsFrom.cls ≠ "java/lang/invoke/VarHandle" ∧ (parseMethodDescriptor yX9_areEndingsFrom.desc).map (fun d => d.parameters.length) = some 1 := by decide +kernel
theorem vf_X9_131 : Cond.fieldLink RX9 131 RX7 (TX7 2).2.1 (TX7 2).2.2.1 ∈ wU := w_at 1243 (by decide +kernel) (by decide +kernel)
theorem v_i823 : Cond.methodLink RX9 134 yX7_lastAgain ∈ wU := w_at 823 (by decide +kernel) (by decide +kernel)
theorem vl_X9_134 : ∀ w ∈ ([.methodLink RX9 134 yX7_lastAgain, .instanceMethod yX7_lastAgain, .selects RX7 yX7_lastAgain yX7_lastAgain, .initialized RX7] : List Cond), w ∈ wU := w_4 v_i823 v_i280 v_i281 v_i52
theorem kc_X9_isRestParted : Cond.code yX9_isRestParted cX9_isRestParted 2 (some .boolean) ∈ wU := w_at 806 (by decide +kernel) (by decide +kernel)
theorem hk_X9_isRestParted : yX9_isRestParted.cls = RX9 ∧ yX9_isRestParted.cls ≠ "java/lang/invoke/MethodHandle" ∧ yX9_isRestParted.cls ≠ "java/lang/invoke/VarHandle" ∧ (parseMethodDescriptor yX9_isRestParted.desc).map (fun d => d.parameters.length) = some 1 := by decide +kernel
theorem v_i807 : Cond.methodLink RX9 141 yX9_isNewMetre ∈ wU := w_at 807 (by decide +kernel) (by decide +kernel)
theorem v_i808 : Cond.instanceMethod yX9_isNewMetre ∈ wU := w_at 808 (by decide +kernel) (by decide +kernel)
theorem v_i809 : Cond.selects RX9 yX9_isNewMetre yX9_isNewMetre ∈ wU := w_at 809 (by decide +kernel) (by decide +kernel)
theorem vl_X9_141 : ∀ w ∈ ([.methodLink RX9 141 yX9_isNewMetre, .instanceMethod yX9_isNewMetre, .selects RX9 yX9_isNewMetre yX9_isNewMetre, .initialized RX9] : List Cond), w ∈ wU := w_4 v_i807 v_i808 v_i809 v_i29
theorem v_i815 : Cond.methodLink RX9 145 yX9_repeatFrom ∈ wU := w_at 815 (by decide +kernel) (by decide +kernel)
theorem vl_X9_145 : ∀ w ∈ ([.methodLink RX9 145 yX9_repeatFrom, .instanceMethod yX9_repeatFrom, .selects RX9 yX9_repeatFrom yX9_repeatFrom, .initialized RX9] : List Cond), w ∈ wU := w_4 v_i815 v_i816 v_i817 v_i29
theorem v_i819 : Cond.methodLink RX9 148 yX9_areEndingsFrom ∈ wU := w_at 819 (by decide +kernel) (by decide +kernel)
theorem v_i820 : Cond.instanceMethod yX9_areEndingsFrom ∈ wU := w_at 820 (by decide +kernel) (by decide +kernel)
theorem v_i821 : Cond.selects RX9 yX9_areEndingsFrom yX9_areEndingsFrom ∈ wU := w_at 821 (by decide +kernel) (by decide +kernel)
theorem vl_X9_148 : ∀ w ∈ ([.methodLink RX9 148 yX9_areEndingsFrom, .instanceMethod yX9_areEndingsFrom, .selects RX9 yX9_areEndingsFrom yX9_areEndingsFrom, .initialized RX9] : List Cond), w ∈ wU := w_4 v_i819 v_i820 v_i821 v_i29
theorem v_i824 : Cond.methodLink RX9 151 yX9_repeatTo ∈ wU := w_at 824 (by decide +kernel) (by decide +kernel)
theorem vl_X9_151 : ∀ w ∈ ([.methodLink RX9 151 yX9_repeatTo, .instanceMethod yX9_repeatTo, .selects RX9 yX9_repeatTo yX9_repeatTo, .initialized RX9] : List Cond), w ∈ wU := w_4 v_i824 v_i273 v_i274 v_i29
theorem kc_X9_widthOfSigns : Cond.code yX9_widthOfSigns cX9_widthOfSigns 3 (some .int) ∈ wU := w_at 832 (by decide +kernel) (by decide +kernel)
theorem hk_X9_widthOfSigns : yX9_widthOfSigns.cls = RX9 ∧ yX9_widthOfSigns.cls ≠ "java/lang/invoke/MethodHandle" ∧ yX9_widthOfSigns.cls ≠ "java/lang/invoke/VarHandle" ∧ (parseMethodDescriptor yX9_widthOfSigns.desc).map (fun d => d.parameters.length) = some 1 := by decide +kernel
theorem kc_X8_widthOfEvents : Cond.code yX8_widthOfEvents cX8_widthOfEvents 6 (some .int) ∈ wU := w_at 836 (by decide +kernel) (by decide +kernel)
theorem hk_X8_widthOfEvents : yX8_widthOfEvents.cls = RX8 ∧ yX8_widthOfEvents.cls ≠ "java/lang/invoke/MethodHandle" ∧ yX8_widthOfEvents.cls ≠ "java/lang/invoke/VarHandle" ∧ (parseMethodDescriptor yX8_widthOfEvents.desc).map (fun d => d.parameters.length) = some 0 := by decide +kernel
theorem vf_X8_47 : Cond.fieldLink RX8 47 RX0 (TX0 4).2.1 (TX0 4).2.2.1 ∈ wU := w_at 1390 (by decide +kernel) (by decide +kernel)
theorem kc_X8_widthAsCue : Cond.code yX8_widthAsCue cX8_widthAsCue 3 (some .int) ∈ wU := w_at 840 (by decide +kernel) (by decide +kernel)
theorem hk_X8_widthAsCue : yX8_widthAsCue.cls = RX8 ∧ yX8_widthAsCue.cls ≠ "java/lang/invoke/MethodHandle" ∧ yX8_widthAsCue.cls ≠ "java/lang/invoke/VarHandle" ∧ (parseMethodDescriptor yX8_widthAsCue.desc).map (fun d => d.parameters.length) = some 0 := by decide +kernel
theorem kc_X4_widthOf : Cond.code yX4_widthOf cX4_widthOf 6 (some .int) ∈ wU := w_at 828 (by decide +kernel) (by decide +kernel)
theorem hk_X4_widthOf : yX4_widthOf.cls = RX4 ∧ yX4_widthOf.cls ≠ "java/lang/invoke/MethodHandle" ∧ yX4_widthOf.cls ≠ "java/lang/invoke/VarHandle" ∧ (parseMethodDescriptor yX4_widthOf.desc).map (fun d => d.parameters.length) = some 2 := by decide +kernel
theorem v_i785 : Cond.methodLink RX4 57 yX9_row ∈ wU := w_at 785 (by decide +kernel) (by decide +kernel)
theorem vl_X4_57 : ∀ w ∈ ([.methodLink RX4 57 yX9_row, .instanceMethod yX9_row, .selects RX9 yX9_row yX9_row, .initialized RX9] : List Cond), w ∈ wU := w_4 v_i785 v_i288 v_i289 v_i29
theorem v_i833 : Cond.methodLink RX4 94 yX8_widthOfEvents ∈ wU := w_at 833 (by decide +kernel) (by decide +kernel)
theorem v_i834 : Cond.instanceMethod yX8_widthOfEvents ∈ wU := w_at 834 (by decide +kernel) (by decide +kernel)
theorem v_i835 : Cond.selects RX8 yX8_widthOfEvents yX8_widthOfEvents ∈ wU := w_at 835 (by decide +kernel) (by decide +kernel)
theorem vl_X4_94 : ∀ w ∈ ([.methodLink RX4 94 yX8_widthOfEvents, .instanceMethod yX8_widthOfEvents, .selects RX8 yX8_widthOfEvents yX8_widthOfEvents, .initialized RX8] : List Cond), w ∈ wU := w_4 v_i833 v_i834 v_i835 v_i51
theorem v_i837 : Cond.methodLink RX4 97 yX8_widthAsCue ∈ wU := w_at 837 (by decide +kernel) (by decide +kernel)
theorem v_i838 : Cond.instanceMethod yX8_widthAsCue ∈ wU := w_at 838 (by decide +kernel) (by decide +kernel)
theorem v_i839 : Cond.selects RX8 yX8_widthAsCue yX8_widthAsCue ∈ wU := w_at 839 (by decide +kernel) (by decide +kernel)
theorem vl_X4_97 : ∀ w ∈ ([.methodLink RX4 97 yX8_widthAsCue, .instanceMethod yX8_widthAsCue, .selects RX8 yX8_widthAsCue yX8_widthAsCue, .initialized RX8] : List Cond), w ∈ wU := w_4 v_i837 v_i838 v_i839 v_i51
theorem v_i829 : Cond.methodLink RX4 90 yX9_widthOfSigns ∈ wU := w_at 829 (by decide +kernel) (by decide +kernel)
theorem v_i830 : Cond.instanceMethod yX9_widthOfSigns ∈ wU := w_at 830 (by decide +kernel) (by decide +kernel)
theorem v_i831 : Cond.selects RX9 yX9_widthOfSigns yX9_widthOfSigns ∈ wU := w_at 831 (by decide +kernel) (by decide +kernel)
theorem vl_X4_90 : ∀ w ∈ ([.methodLink RX4 90 yX9_widthOfSigns, .instanceMethod yX9_widthOfSigns, .selects RX9 yX9_widthOfSigns yX9_widthOfSigns, .initialized RX9] : List Cond), w ∈ wU := w_4 v_i829 v_i830 v_i831 v_i29
theorem kc_X4_layItems : Cond.code yX4_layItems cX4_layItems 3 none ∈ wU := w_at 783 (by decide +kernel) (by decide +kernel)
theorem hk_X4_layItems : yX4_layItems.cls = RX4 ∧ yX4_layItems.cls ≠ "java/lang/invoke/MethodHandle" ∧ yX4_layItems.cls ≠ "java/lang/invoke/VarHandle" ∧ (parseMethodDescriptor yX4_layItems.desc).map (fun d => d.parameters.length) = some 1 := by decide +kernel
theorem v_i784 : Cond.methodLink RX4 51 yX9_barCount ∈ wU := w_at 784 (by decide +kernel) (by decide +kernel)
theorem vl_X4_51 : ∀ w ∈ ([.methodLink RX4 51 yX9_barCount, .instanceMethod yX9_barCount, .selects RX9 yX9_barCount yX9_barCount, .initialized RX9] : List Cond), w ∈ wU := w_4 v_i784 v_i202 v_i203 v_i29
theorem fe_117 : cEmb (cFT 117) = true := by decide +kernel
theorem v_i825 : Cond.methodLink RX4 82 yX4_widthOf ∈ wU := w_at 825 (by decide +kernel) (by decide +kernel)
theorem v_i827 : Cond.instanceMethod yX4_widthOf ∈ wU := w_at 827 (by decide +kernel) (by decide +kernel)
theorem v_i17 : Cond.selects RX4 yX4_widthOf yX4_widthOf ∈ wU := w_at 17 (by decide +kernel) (by decide +kernel)
theorem vl_X4_82 : ∀ w ∈ ([.methodLink RX4 82 yX4_widthOf, .instanceMethod yX4_widthOf, .selects RX4 yX4_widthOf yX4_widthOf, .initialized RX4] : List Cond), w ∈ wU := w_4 v_i825 v_i827 v_i17 v_i48
theorem v_i786 : Cond.methodLink RX4 61 yX8_isEmpty ∈ wU := w_at 786 (by decide +kernel) (by decide +kernel)
theorem vl_X4_61 : ∀ w ∈ ([.methodLink RX4 61 yX8_isEmpty, .instanceMethod yX8_isEmpty, .selects RX8 yX8_isEmpty yX8_isEmpty, .initialized RX8] : List Cond), w ∈ wU := w_4 v_i786 v_i332 v_i333 v_i51
theorem v_i787 : Cond.methodLink RX4 67 yX4_partCueFromRest ∈ wU := w_at 787 (by decide +kernel) (by decide +kernel)
theorem v_i789 : Cond.instanceMethod yX4_partCueFromRest ∈ wU := w_at 789 (by decide +kernel) (by decide +kernel)
theorem v_i14 : Cond.selects RX4 yX4_partCueFromRest yX4_partCueFromRest ∈ wU := w_at 14 (by decide +kernel) (by decide +kernel)
theorem vl_X4_67 : ∀ w ∈ ([.methodLink RX4 67 yX4_partCueFromRest, .instanceMethod yX4_partCueFromRest, .selects RX4 yX4_partCueFromRest yX4_partCueFromRest, .initialized RX4] : List Cond), w ∈ wU := w_4 v_i787 v_i789 v_i14 v_i48
theorem v_i803 : Cond.methodLink RX4 78 yX9_isRestParted ∈ wU := w_at 803 (by decide +kernel) (by decide +kernel)
theorem v_i804 : Cond.instanceMethod yX9_isRestParted ∈ wU := w_at 804 (by decide +kernel) (by decide +kernel)
theorem v_i805 : Cond.selects RX9 yX9_isRestParted yX9_isRestParted ∈ wU := w_at 805 (by decide +kernel) (by decide +kernel)
theorem vl_X4_78 : ∀ w ∈ ([.methodLink RX4 78 yX9_isRestParted, .instanceMethod yX9_isRestParted, .selects RX9 yX9_isRestParted yX9_isRestParted, .initialized RX9] : List Cond), w ∈ wU := w_4 v_i803 v_i804 v_i805 v_i29
theorem kc_X1_badnessOf : Cond.code yX1_badnessOf cX1_badnessOf 4 (some .int) ∈ wU := w_at 852 (by decide +kernel) (by decide +kernel)
theorem hk_X1_badnessOf : yX1_badnessOf.cls = RX1 ∧ yX1_badnessOf.cls ≠ "java/lang/invoke/MethodHandle" ∧ yX1_badnessOf.cls ≠ "java/lang/invoke/VarHandle" ∧ (parseMethodDescriptor yX1_badnessOf.desc).map (fun d => d.parameters.length) = some 3 := by decide +kernel
theorem v_i853 : Cond.constant RX1 39 1000000 ∈ wU := w_at 853 (by decide +kernel) (by decide +kernel)
theorem kc_X1_weighLinesFrom : Cond.code yX1_weighLinesFrom cX1_weighLinesFrom 8 none ∈ wU := w_at 849 (by decide +kernel) (by decide +kernel)
theorem hk_X1_weighLinesFrom : yX1_weighLinesFrom.cls = RX1 ∧ yX1_weighLinesFrom.cls ≠ "java/lang/invoke/MethodHandle" ∧ yX1_weighLinesFrom.cls ≠ "java/lang/invoke/VarHandle" ∧ (parseMethodDescriptor yX1_weighLinesFrom.desc).map (fun d => d.parameters.length) = some 4 := by decide +kernel
theorem fe_66 : cEmb (cFT 66) = true := by decide +kernel
theorem v_i850 : Cond.methodLink RX1 35 yX1_badnessOf ∈ wU := w_at 850 (by decide +kernel) (by decide +kernel)
theorem v_i851 : Cond.static yX1_badnessOf ∈ wU := w_at 851 (by decide +kernel) (by decide +kernel)
theorem vl_X1_35 : ∀ w ∈ ([.methodLink RX1 35 yX1_badnessOf, .static yX1_badnessOf, .initialized RX1] : List Cond), w ∈ wU := w_3 v_i850 v_i851 v_i49
theorem fe_67 : cEmb (cFT 67) = true := by decide +kernel
theorem kc_X1_breakItems : Cond.code yX1_breakItems cX1_breakItems 6 none ∈ wU := w_at 844 (by decide +kernel) (by decide +kernel)
theorem hk_X1_breakItems : yX1_breakItems.cls = RX1 ∧ yX1_breakItems.cls ≠ "java/lang/invoke/MethodHandle" ∧ yX1_breakItems.cls ≠ "java/lang/invoke/VarHandle" ∧ (parseMethodDescriptor yX1_breakItems.desc).map (fun d => d.parameters.length) = some 3 := by decide +kernel
theorem v_i845 : Cond.methodLink RX1 21 Lib.Math.min.name ∈ wU := w_at 845 (by decide +kernel) (by decide +kernel)
theorem v_i432 : Cond.static Lib.Math.min.name ∈ wU := w_at 432 (by decide +kernel) (by decide +kernel)
theorem v_i433 : Cond.code Lib.Math.min.name Lib.Math.min.code 2 (some .int) ∈ wU := w_at 433 (by decide +kernel) (by decide +kernel)
theorem vm_X1_21 : ∀ w ∈ ([.methodLink RX1 21 Lib.Math.min.name, .static Lib.Math.min.name, .initialized "java/lang/Math", .code Lib.Math.min.name Lib.Math.min.code 2 (some .int)] : List Cond), w ∈ wU := w_4 v_i845 v_i432 v_i39 v_i433
theorem vf_X1_31 : Cond.fieldLink RX1 31 RX1 (TX1 1).2.1 (TX1 1).2.2.1 ∈ wU := w_at 677 (by decide +kernel) (by decide +kernel)
theorem ft_65 : cFT 65 = 0 := by decide +kernel
theorem fe_64 : cEmb (cFT 64) = true := by decide +kernel
theorem v_i846 : Cond.methodLink RX1 27 yX1_weighLinesFrom ∈ wU := w_at 846 (by decide +kernel) (by decide +kernel)
theorem v_i848 : Cond.instanceMethod yX1_weighLinesFrom ∈ wU := w_at 848 (by decide +kernel) (by decide +kernel)
theorem v_i18 : Cond.selects RX1 yX1_weighLinesFrom yX1_weighLinesFrom ∈ wU := w_at 18 (by decide +kernel) (by decide +kernel)
theorem vl_X1_27 : ∀ w ∈ ([.methodLink RX1 27 yX1_weighLinesFrom, .instanceMethod yX1_weighLinesFrom, .selects RX1 yX1_weighLinesFrom yX1_weighLinesFrom, .initialized RX1] : List Cond), w ∈ wU := w_4 v_i846 v_i848 v_i18 v_i49
theorem kc_X4_firstBarOfLine : Cond.code yX4_firstBarOfLine cX4_firstBarOfLine 2 (some .int) ∈ wU := w_at 861 (by decide +kernel) (by decide +kernel)
theorem hk_X4_firstBarOfLine : yX4_firstBarOfLine.cls = RX4 ∧ yX4_firstBarOfLine.cls ≠ "java/lang/invoke/MethodHandle" ∧ yX4_firstBarOfLine.cls ≠ "java/lang/invoke/VarHandle" ∧ (parseMethodDescriptor yX4_firstBarOfLine.desc).map (fun d => d.parameters.length) = some 1 := by decide +kernel
theorem vf_X4_100 : Cond.fieldLink RX4 100 RX1 (TX1 0).2.1 (TX1 0).2.2.1 ∈ wU := w_at 675 (by decide +kernel) (by decide +kernel)
theorem kc_X6_firstTimeOf : Cond.code yX6_firstTimeOf cX6_firstTimeOf 3 (some .int) ∈ wU := w_at 865 (by decide +kernel) (by decide +kernel)
theorem hk_X6_firstTimeOf : yX6_firstTimeOf.cls = RX6 ∧ yX6_firstTimeOf.cls ≠ "java/lang/invoke/MethodHandle" ∧ yX6_firstTimeOf.cls ≠ "java/lang/invoke/VarHandle" ∧ (parseMethodDescriptor yX6_firstTimeOf.desc).map (fun d => d.parameters.length) = some 1 := by decide +kernel
theorem kc_X6_restAt : Cond.code yX6_restAt cX6_restAt 6 (some .int) ∈ wU := w_at 869 (by decide +kernel) (by decide +kernel)
theorem hk_X6_restAt : yX6_restAt.cls = RX6 ∧ yX6_restAt.cls ≠ "java/lang/invoke/MethodHandle" ∧ yX6_restAt.cls ≠ "java/lang/invoke/VarHandle" ∧ (parseMethodDescriptor yX6_restAt.desc).map (fun d => d.parameters.length) = some 2 := by decide +kernel
theorem kc_X5_goesOnBehind : Cond.code yX5_goesOnBehind cX5_goesOnBehind 3 (some .boolean) ∈ wU := w_at 877 (by decide +kernel) (by decide +kernel)
theorem hk_X5_goesOnBehind : yX5_goesOnBehind.cls = RX5 ∧ yX5_goesOnBehind.cls ≠ "java/lang/invoke/MethodHandle" ∧ yX5_goesOnBehind.cls ≠ "java/lang/invoke/VarHandle" ∧ (parseMethodDescriptor yX5_goesOnBehind.desc).map (fun d => d.parameters.length) = some 2 := by decide +kernel
theorem vf_X5_26 : Cond.fieldLink RX5 26 RX5 (TX5 5).2.1 (TX5 5).2.2.1 ∈ wU := w_at 1323 (by decide +kernel) (by decide +kernel)
theorem kc_X9_isTurnForbidden : Cond.code yX9_isTurnForbidden cX9_isTurnForbidden 4 (some .boolean) ∈ wU := w_at 873 (by decide +kernel) (by decide +kernel)
theorem hk_X9_isTurnForbidden : yX9_isTurnForbidden.cls = RX9 ∧ yX9_isTurnForbidden.cls ≠ "java/lang/invoke/MethodHandle" ∧ yX9_isTurnForbidden.cls ≠ "java/lang/invoke/VarHandle" ∧ (parseMethodDescriptor yX9_isTurnForbidden.desc).map (fun d => d.parameters.length) = some 2 := by decide +kernel
theorem vf_X9_117 : Cond.fieldLink RX9 117 RX8 (TX8 2).2.1 (TX8 2).2.2.1 ∈ wU := w_at 1156 (by decide +kernel) (by decide +kernel)
theorem v_i874 : Cond.methodLink RX9 120 yX5_goesOnBehind ∈ wU := w_at 874 (by decide +kernel) (by decide +kernel)
theorem v_i875 : Cond.instanceMethod yX5_goesOnBehind ∈ wU := w_at 875 (by decide +kernel) (by decide +kernel)
theorem v_i876 : Cond.selects RX5 yX5_goesOnBehind yX5_goesOnBehind ∈ wU := w_at 876 (by decide +kernel) (by decide +kernel)
theorem vl_X9_120 : ∀ w ∈ ([.methodLink RX9 120 yX5_goesOnBehind, .instanceMethod yX5_goesOnBehind, .selects RX5 yX5_goesOnBehind yX5_goesOnBehind, .initialized RX5] : List Cond), w ∈ wU := w_4 v_i874 v_i875 v_i876 v_i53
theorem kc_X3_faultOf : Cond.code yX3_faultOf cX3_faultOf 2 (some .int) ∈ wU := w_at 880 (by decide +kernel) (by decide +kernel)
theorem hk_X3_faultOf : yX3_faultOf.cls = RX3 ∧ yX3_faultOf.cls ≠ "java/lang/invoke/MethodHandle" ∧ yX3_faultOf.cls ≠ "java/lang/invoke/VarHandle" ∧ (parseMethodDescriptor yX3_faultOf.desc).map (fun d => d.parameters.length) = some 2 := by decide +kernel
theorem v_i881 : Cond.constant RX3 40 500000 ∈ wU := w_at 881 (by decide +kernel) (by decide +kernel)
theorem kc_X3_tellBreak : Cond.code yX3_tellBreak cX3_tellBreak 6 none ∈ wU := w_at 885 (by decide +kernel) (by decide +kernel)
theorem hk_X3_tellBreak : yX3_tellBreak.cls = RX3 ∧ yX3_tellBreak.cls ≠ "java/lang/invoke/MethodHandle" ∧ yX3_tellBreak.cls ≠ "java/lang/invoke/VarHandle" ∧ (parseMethodDescriptor yX3_tellBreak.desc).map (fun d => d.parameters.length) = some 5 := by decide +kernel
theorem fe_101 : cEmb (cFT 101) = true := by decide +kernel
theorem fe_102 : cEmb (cFT 102) = true := by decide +kernel
theorem fe_103 : cEmb (cFT 103) = true := by decide +kernel
theorem fe_104 : cEmb (cFT 104) = true := by decide +kernel
theorem kc_X4_timeBreaks : Cond.code yX4_timeBreaks cX4_timeBreaks 9 none ∈ wU := w_at 857 (by decide +kernel) (by decide +kernel)
theorem hk_X4_timeBreaks : yX4_timeBreaks.cls = RX4 ∧ yX4_timeBreaks.cls ≠ "java/lang/invoke/MethodHandle" ∧ yX4_timeBreaks.cls ≠ "java/lang/invoke/VarHandle" ∧ (parseMethodDescriptor yX4_timeBreaks.desc).map (fun d => d.parameters.length) = some 2 := by decide +kernel
theorem vf_X4_103 : Cond.fieldLink RX4 103 RX1 (TX1 1).2.1 (TX1 1).2.2.1 ∈ wU := w_at 678 (by decide +kernel) (by decide +kernel)
theorem v_i858 : Cond.methodLink RX4 106 yX4_firstBarOfLine ∈ wU := w_at 858 (by decide +kernel) (by decide +kernel)
theorem v_i860 : Cond.instanceMethod yX4_firstBarOfLine ∈ wU := w_at 860 (by decide +kernel) (by decide +kernel)
theorem v_i19 : Cond.selects RX4 yX4_firstBarOfLine yX4_firstBarOfLine ∈ wU := w_at 19 (by decide +kernel) (by decide +kernel)
theorem vl_X4_106 : ∀ w ∈ ([.methodLink RX4 106 yX4_firstBarOfLine, .instanceMethod yX4_firstBarOfLine, .selects RX4 yX4_firstBarOfLine yX4_firstBarOfLine, .initialized RX4] : List Cond), w ∈ wU := w_4 v_i858 v_i860 v_i19 v_i48
theorem v_i862 : Cond.methodLink RX4 109 yX6_firstTimeOf ∈ wU := w_at 862 (by decide +kernel) (by decide +kernel)
theorem v_i863 : Cond.instanceMethod yX6_firstTimeOf ∈ wU := w_at 863 (by decide +kernel) (by decide +kernel)
theorem v_i864 : Cond.selects RX6 yX6_firstTimeOf yX6_firstTimeOf ∈ wU := w_at 864 (by decide +kernel) (by decide +kernel)
theorem vl_X4_109 : ∀ w ∈ ([.methodLink RX4 109 yX6_firstTimeOf, .instanceMethod yX6_firstTimeOf, .selects RX6 yX6_firstTimeOf yX6_firstTimeOf, .initialized RX6] : List Cond), w ∈ wU := w_4 v_i862 v_i863 v_i864 v_i33
theorem v_i866 : Cond.methodLink RX4 114 yX6_restAt ∈ wU := w_at 866 (by decide +kernel) (by decide +kernel)
theorem v_i867 : Cond.instanceMethod yX6_restAt ∈ wU := w_at 867 (by decide +kernel) (by decide +kernel)
theorem v_i868 : Cond.selects RX6 yX6_restAt yX6_restAt ∈ wU := w_at 868 (by decide +kernel) (by decide +kernel)
theorem vl_X4_114 : ∀ w ∈ ([.methodLink RX4 114 yX6_restAt, .instanceMethod yX6_restAt, .selects RX6 yX6_restAt yX6_restAt, .initialized RX6] : List Cond), w ∈ wU := w_4 v_i866 v_i867 v_i868 v_i33
theorem vf_X4_117 : Cond.fieldLink RX4 117 RX9 (TX9 6).2.1 (TX9 6).2.2.1 ∈ wU := w_at 116 (by decide +kernel) (by decide +kernel)
theorem v_i870 : Cond.methodLink RX4 120 yX9_isTurnForbidden ∈ wU := w_at 870 (by decide +kernel) (by decide +kernel)
theorem v_i871 : Cond.instanceMethod yX9_isTurnForbidden ∈ wU := w_at 871 (by decide +kernel) (by decide +kernel)
theorem v_i872 : Cond.selects RX9 yX9_isTurnForbidden yX9_isTurnForbidden ∈ wU := w_at 872 (by decide +kernel) (by decide +kernel)
theorem vl_X4_120 : ∀ w ∈ ([.methodLink RX4 120 yX9_isTurnForbidden, .instanceMethod yX9_isTurnForbidden, .selects RX9 yX9_isTurnForbidden yX9_isTurnForbidden, .initialized RX9] : List Cond), w ∈ wU := w_4 v_i870 v_i871 v_i872 v_i29
theorem v_i878 : Cond.methodLink RX4 124 yX3_faultOf ∈ wU := w_at 878 (by decide +kernel) (by decide +kernel)
theorem v_i879 : Cond.static yX3_faultOf ∈ wU := w_at 879 (by decide +kernel) (by decide +kernel)
theorem vl_X4_124 : ∀ w ∈ ([.methodLink RX4 124 yX3_faultOf, .static yX3_faultOf, .initialized RX3] : List Cond), w ∈ wU := w_3 v_i878 v_i879 v_i50
theorem v_i882 : Cond.methodLink RX4 128 yX3_tellBreak ∈ wU := w_at 882 (by decide +kernel) (by decide +kernel)
theorem v_i883 : Cond.instanceMethod yX3_tellBreak ∈ wU := w_at 883 (by decide +kernel) (by decide +kernel)
theorem v_i884 : Cond.selects RX3 yX3_tellBreak yX3_tellBreak ∈ wU := w_at 884 (by decide +kernel) (by decide +kernel)
theorem vl_X4_128 : ∀ w ∈ ([.methodLink RX4 128 yX3_tellBreak, .instanceMethod yX3_tellBreak, .selects RX3 yX3_tellBreak yX3_tellBreak, .initialized RX3] : List Cond), w ∈ wU := w_4 v_i882 v_i883 v_i884 v_i50
theorem kc_X3_state : Cond.code yX3_state cX3_state 3 (some .int) ∈ wU := w_at 893 (by decide +kernel) (by decide +kernel)
theorem hk_X3_state : yX3_state.cls = RX3 ∧ yX3_state.cls ≠ "java/lang/invoke/MethodHandle" ∧ yX3_state.cls ≠ "java/lang/invoke/VarHandle" ∧ (parseMethodDescriptor yX3_state.desc).map (fun d => d.parameters.length) = some 3 := by decide +kernel
theorem kc_X3_hasTurn : Cond.code yX3_hasTurn cX3_hasTurn 3 (some .boolean) ∈ wU := w_at 900 (by decide +kernel) (by decide +kernel)
theorem hk_X3_hasTurn : yX3_hasTurn.cls = RX3 ∧ yX3_hasTurn.cls ≠ "java/lang/invoke/MethodHandle" ∧ yX3_hasTurn.cls ≠ "java/lang/invoke/VarHandle" ∧ (parseMethodDescriptor yX3_hasTurn.desc).map (fun d => d.parameters.length) = some 3 := by decide +kernel
theorem kc_X3_weighPagesFrom : Cond.code yX3_weighPagesFrom cX3_weighPagesFrom 12 none ∈ wU := w_at 897 (by decide +kernel) (by decide +kernel)
theorem hk_X3_weighPagesFrom : yX3_weighPagesFrom.cls = RX3 ∧ yX3_weighPagesFrom.cls ≠ "java/lang/invoke/MethodHandle" ∧ yX3_weighPagesFrom.cls ≠ "java/lang/invoke/VarHandle" ∧ (parseMethodDescriptor yX3_weighPagesFrom.desc).map (fun d => d.parameters.length) = some 5 := by decide +kernel
theorem v_i891 : Cond.methodLink RX3 47 yX3_state ∈ wU := w_at 891 (by decide +kernel) (by decide +kernel)
theorem v_i892 : Cond.static yX3_state ∈ wU := w_at 892 (by decide +kernel) (by decide +kernel)
theorem vl_X3_47 : ∀ w ∈ ([.methodLink RX3 47 yX3_state, .static yX3_state, .initialized RX3] : List Cond), w ∈ wU := w_3 v_i891 v_i892 v_i50
theorem v_i898 : Cond.methodLink RX3 59 yX3_hasTurn ∈ wU := w_at 898 (by decide +kernel) (by decide +kernel)
theorem v_i899 : Cond.static yX3_hasTurn ∈ wU := w_at 899 (by decide +kernel) (by decide +kernel)
theorem vl_X3_59 : ∀ w ∈ ([.methodLink RX3 59 yX3_hasTurn, .static yX3_hasTurn, .initialized RX3] : List Cond), w ∈ wU := w_3 v_i898 v_i899 v_i50
theorem fe_105 : cEmb (cFT 105) = true := by decide +kernel
theorem v_i901 : Cond.constantLong RX3 63 1152921504606846976 ∈ wU := w_at 901 (by decide +kernel) (by decide +kernel)
theorem v_i890 : Cond.methodLink RX3 41 Lib.Math.min.name ∈ wU := w_at 890 (by decide +kernel) (by decide +kernel)
theorem vm_X3_41 : ∀ w ∈ ([.methodLink RX3 41 Lib.Math.min.name, .static Lib.Math.min.name, .initialized "java/lang/Math", .code Lib.Math.min.name Lib.Math.min.code 2 (some .int)] : List Cond), w ∈ wU := w_4 v_i890 v_i432 v_i39 v_i433
theorem v_i903 : Cond.constantLong RX3 67 300001 ∈ wU := w_at 903 (by decide +kernel) (by decide +kernel)
theorem fe_106 : cEmb (cFT 106) = true := by decide +kernel
theorem v_i902 : Cond.constantLong RX3 65 100 ∈ wU := w_at 902 (by decide +kernel) (by decide +kernel)
theorem kc_X3_takeLeastPages : Cond.code yX3_takeLeastPages cX3_takeLeastPages 6 none ∈ wU := w_at 907 (by decide +kernel) (by decide +kernel)
theorem hk_X3_takeLeastPages : yX3_takeLeastPages.cls = RX3 ∧ yX3_takeLeastPages.cls ≠ "java/lang/invoke/MethodHandle" ∧ yX3_takeLeastPages.cls ≠ "java/lang/invoke/VarHandle" ∧ (parseMethodDescriptor yX3_takeLeastPages.desc).map (fun d => d.parameters.length) = some 1 := by decide +kernel
theorem vf_X3_69 : Cond.fieldLink RX3 69 RX3 (TX3 2).2.1 (TX3 2).2.2.1 ∈ wU := w_at 701 (by decide +kernel) (by decide +kernel)
theorem ft_98 : cFT 98 = 0 := by decide +kernel
theorem vf_X3_73 : Cond.fieldLink RX3 73 RX3 (TX3 4).2.1 (TX3 4).2.2.1 ∈ wU := w_at 705 (by decide +kernel) (by decide +kernel)
theorem ft_100 : cFT 100 = 0 := by decide +kernel
theorem fe_96 : cEmb (cFT 96) = true := by decide +kernel
theorem fe_99 : cEmb (cFT 99) = true := by decide +kernel
theorem fe_97 : cEmb (cFT 97) = true := by decide +kernel
theorem kc_X3_layPages : Cond.code yX3_layPages cX3_layPages 5 none ∈ wU := w_at 889 (by decide +kernel) (by decide +kernel)
theorem hk_X3_layPages : yX3_layPages.cls = RX3 ∧ yX3_layPages.cls ≠ "java/lang/invoke/MethodHandle" ∧ yX3_layPages.cls ≠ "java/lang/invoke/VarHandle" ∧ (parseMethodDescriptor yX3_layPages.desc).map (fun d => d.parameters.length) = some 2 := by decide +kernel
theorem v_i904 : Cond.methodLink RX3 55 yX3_takeLeastPages ∈ wU := w_at 904 (by decide +kernel) (by decide +kernel)
theorem v_i906 : Cond.instanceMethod yX3_takeLeastPages ∈ wU := w_at 906 (by decide +kernel) (by decide +kernel)
theorem v_i21 : Cond.selects RX3 yX3_takeLeastPages yX3_takeLeastPages ∈ wU := w_at 21 (by decide +kernel) (by decide +kernel)
theorem vl_X3_55 : ∀ w ∈ ([.methodLink RX3 55 yX3_takeLeastPages, .instanceMethod yX3_takeLeastPages, .selects RX3 yX3_takeLeastPages yX3_takeLeastPages, .initialized RX3] : List Cond), w ∈ wU := w_4 v_i904 v_i906 v_i21 v_i50
theorem v_i894 : Cond.methodLink RX3 51 yX3_weighPagesFrom ∈ wU := w_at 894 (by decide +kernel) (by decide +kernel)
theorem v_i896 : Cond.instanceMethod yX3_weighPagesFrom ∈ wU := w_at 896 (by decide +kernel) (by decide +kernel)
theorem v_i20 : Cond.selects RX3 yX3_weighPagesFrom yX3_weighPagesFrom ∈ wU := w_at 20 (by decide +kernel) (by decide +kernel)
theorem vl_X3_51 : ∀ w ∈ ([.methodLink RX3 51 yX3_weighPagesFrom, .instanceMethod yX3_weighPagesFrom, .selects RX3 yX3_weighPagesFrom yX3_weighPagesFrom, .initialized RX3] : List Cond), w ∈ wU := w_4 v_i894 v_i896 v_i20 v_i50
theorem kc_X11_drawnPart : Cond.code yX11_drawnPart cX11_drawnPart 3 (some (.object RX4)) ∈ wU := w_at 640 (by decide +kernel) (by decide +kernel)
theorem hk_X11_drawnPart : yX11_drawnPart.cls = RX11 ∧ yX11_drawnPart.cls ≠ "java/lang/invoke/MethodHandle" ∧ yX11_drawnPart.cls ≠ "java/lang/invoke/VarHandle" ∧ (parseMethodDescriptor yX11_drawnPart.desc).map (fun d => d.parameters.length) = some 1 := by decide +kernel
theorem v_i641 : Cond.methodLink RX11 375 yX9_canBeDrawn ∈ wU := w_at 641 (by decide +kernel) (by decide +kernel)
theorem v_i642 : Cond.instanceMethod yX9_canBeDrawn ∈ wU := w_at 642 (by decide +kernel) (by decide +kernel)
theorem v_i643 : Cond.selects RX9 yX9_canBeDrawn yX9_canBeDrawn ∈ wU := w_at 643 (by decide +kernel) (by decide +kernel)
theorem vl_X11_375 : ∀ w ∈ ([.methodLink RX11 375 yX9_canBeDrawn, .instanceMethod yX9_canBeDrawn, .selects RX9 yX9_canBeDrawn yX9_canBeDrawn, .initialized RX9] : List Cond), w ∈ wU := w_4 v_i641 v_i642 v_i643 v_i29
theorem fe_226 : cEmb (cFT 226) = true := by decide +kernel
theorem vf_X11_383 : Cond.fieldLink RX11 383 RX4 (TX4 9).2.1 (TX4 9).2.2.1 ∈ wU := w_at 758 (by decide +kernel) (by decide +kernel)
theorem v_i780 : Cond.methodLink RX11 384 yX4_layItems ∈ wU := w_at 780 (by decide +kernel) (by decide +kernel)
theorem v_i781 : Cond.instanceMethod yX4_layItems ∈ wU := w_at 781 (by decide +kernel) (by decide +kernel)
theorem v_i782 : Cond.selects RX4 yX4_layItems yX4_layItems ∈ wU := w_at 782 (by decide +kernel) (by decide +kernel)
theorem vl_X11_384 : ∀ w ∈ ([.methodLink RX11 384 yX4_layItems, .instanceMethod yX4_layItems, .selects RX4 yX4_layItems yX4_layItems, .initialized RX4] : List Cond), w ∈ wU := w_4 v_i780 v_i781 v_i782 v_i48
theorem vf_X11_302 : Cond.fieldLink RX11 302 RX4 (TX4 7).2.1 (TX4 7).2.2.1 ∈ wU := w_at 754 (by decide +kernel) (by decide +kernel)
theorem vf_X11_299 : Cond.fieldLink RX11 299 RX4 (TX4 5).2.1 (TX4 5).2.2.1 ∈ wU := w_at 750 (by decide +kernel) (by decide +kernel)
theorem vf_X11_284 : Cond.fieldLink RX11 284 RX4 (TX4 6).2.1 (TX4 6).2.2.1 ∈ wU := w_at 752 (by decide +kernel) (by decide +kernel)
theorem v_i841 : Cond.methodLink RX11 387 yX1_breakItems ∈ wU := w_at 841 (by decide +kernel) (by decide +kernel)
theorem v_i842 : Cond.instanceMethod yX1_breakItems ∈ wU := w_at 842 (by decide +kernel) (by decide +kernel)
theorem v_i843 : Cond.selects RX1 yX1_breakItems yX1_breakItems ∈ wU := w_at 843 (by decide +kernel) (by decide +kernel)
theorem vl_X11_387 : ∀ w ∈ ([.methodLink RX11 387 yX1_breakItems, .instanceMethod yX1_breakItems, .selects RX1 yX1_breakItems yX1_breakItems, .initialized RX1] : List Cond), w ∈ wU := w_4 v_i841 v_i842 v_i843 v_i49
theorem v_i854 : Cond.methodLink RX11 391 yX4_timeBreaks ∈ wU := w_at 854 (by decide +kernel) (by decide +kernel)
theorem v_i855 : Cond.instanceMethod yX4_timeBreaks ∈ wU := w_at 855 (by decide +kernel) (by decide +kernel)
theorem v_i856 : Cond.selects RX4 yX4_timeBreaks yX4_timeBreaks ∈ wU := w_at 856 (by decide +kernel) (by decide +kernel)
theorem vl_X11_391 : ∀ w ∈ ([.methodLink RX11 391 yX4_timeBreaks, .instanceMethod yX4_timeBreaks, .selects RX4 yX4_timeBreaks yX4_timeBreaks, .initialized RX4] : List Cond), w ∈ wU := w_4 v_i854 v_i855 v_i856 v_i48
theorem vf_X11_317 : Cond.fieldLink RX11 317 RX4 (TX4 8).2.1 (TX4 8).2.2.1 ∈ wU := w_at 756 (by decide +kernel) (by decide +kernel)
theorem vf_X11_306 : Cond.fieldLink RX11 306 RX1 (TX1 1).2.1 (TX1 1).2.2.1 ∈ wU := w_at 679 (by decide +kernel) (by decide +kernel)
theorem v_i886 : Cond.methodLink RX11 395 yX3_layPages ∈ wU := w_at 886 (by decide +kernel) (by decide +kernel)
theorem v_i887 : Cond.instanceMethod yX3_layPages ∈ wU := w_at 887 (by decide +kernel) (by decide +kernel)
theorem v_i888 : Cond.selects RX3 yX3_layPages yX3_layPages ∈ wU := w_at 888 (by decide +kernel) (by decide +kernel)
theorem vl_X11_395 : ∀ w ∈ ([.methodLink RX11 395 yX3_layPages, .instanceMethod yX3_layPages, .selects RX3 yX3_layPages yX3_layPages, .initialized RX3] : List Cond), w ∈ wU := w_4 v_i886 v_i887 v_i888 v_i50
theorem v_i663 : Cond.instantiable RX4 10 ∈ wU := w_at 663 (by decide +kernel) (by decide +kernel)
theorem vn_X11_23 : ∀ w ∈ ([.classLink RX11 23 RX4, .instantiable RX4 10, .initialized RX4] : List Cond), w ∈ wU := w_3 v_i185 v_i663 v_i48
theorem v_i664 : Cond.methodLink RX11 381 yX4_init ∈ wU := w_at 664 (by decide +kernel) (by decide +kernel)
theorem v_i665 : Cond.instanceMethod yX4_init ∈ wU := w_at 665 (by decide +kernel) (by decide +kernel)
theorem vl_X11_381 : ∀ w ∈ ([.methodLink RX11 381 yX4_init, .instanceMethod yX4_init, .initialized RX4] : List Cond), w ∈ wU := w_3 v_i664 v_i665 v_i48
theorem kc_X11_items : Cond.code yX11_items cX11_items 2 (some .int) ∈ wU := w_at 636 (by decide +kernel) (by decide +kernel)
theorem hk_X11_items : yX11_items.cls = RX11 ∧ yX11_items.cls ≠ "java/lang/invoke/MethodHandle" ∧ yX11_items.cls ≠ "java/lang/invoke/VarHandle" ∧ (parseMethodDescriptor yX11_items.desc).map (fun d => d.parameters.length) = some 1 := by decide +kernel
theorem v_i637 : Cond.methodLink RX11 280 yX11_drawnPart ∈ wU := w_at 637 (by decide +kernel) (by decide +kernel)
theorem v_i639 : Cond.instanceMethod yX11_drawnPart ∈ wU := w_at 639 (by decide +kernel) (by decide +kernel)
theorem v_i13 : Cond.selects RX11 yX11_drawnPart yX11_drawnPart ∈ wU := w_at 13 (by decide +kernel) (by decide +kernel)
theorem vl_X11_280 : ∀ w ∈ ([.methodLink RX11 280 yX11_drawnPart, .instanceMethod yX11_drawnPart, .selects RX11 yX11_drawnPart yX11_drawnPart, .initialized RX11] : List Cond), w ∈ wU := w_4 v_i637 v_i639 v_i13 v_i28
theorem kc_X11_itemKind : Cond.code yX11_itemKind cX11_itemKind 4 (some .int) ∈ wU := w_at 973 (by decide +kernel) (by decide +kernel)
theorem hk_X11_itemKind : yX11_itemKind.cls = RX11 ∧ yX11_itemKind.cls ≠ "java/lang/invoke/MethodHandle" ∧ yX11_itemKind.cls ≠ "java/lang/invoke/VarHandle" ∧ (parseMethodDescriptor yX11_itemKind.desc).map (fun d => d.parameters.length) = some 2 := by decide +kernel
theorem vf_X11_287 : Cond.fieldLink RX11 287 RX4 (TX4 1).2.1 (TX4 1).2.2.1 ∈ wU := w_at 742 (by decide +kernel) (by decide +kernel)
theorem kc_X11_itemBar : Cond.code yX11_itemBar cX11_itemBar 4 (some .int) ∈ wU := w_at 994 (by decide +kernel) (by decide +kernel)
theorem hk_X11_itemBar : yX11_itemBar.cls = RX11 ∧ yX11_itemBar.cls ≠ "java/lang/invoke/MethodHandle" ∧ yX11_itemBar.cls ≠ "java/lang/invoke/VarHandle" ∧ (parseMethodDescriptor yX11_itemBar.desc).map (fun d => d.parameters.length) = some 2 := by decide +kernel
theorem vf_X11_290 : Cond.fieldLink RX11 290 RX4 (TX4 2).2.1 (TX4 2).2.2.1 ∈ wU := w_at 744 (by decide +kernel) (by decide +kernel)
theorem kc_X11_itemBars : Cond.code yX11_itemBars cX11_itemBars 4 (some .int) ∈ wU := w_at 980 (by decide +kernel) (by decide +kernel)
theorem hk_X11_itemBars : yX11_itemBars.cls = RX11 ∧ yX11_itemBars.cls ≠ "java/lang/invoke/MethodHandle" ∧ yX11_itemBars.cls ≠ "java/lang/invoke/VarHandle" ∧ (parseMethodDescriptor yX11_itemBars.desc).map (fun d => d.parameters.length) = some 2 := by decide +kernel
theorem vf_X11_293 : Cond.fieldLink RX11 293 RX4 (TX4 3).2.1 (TX4 3).2.2.1 ∈ wU := w_at 746 (by decide +kernel) (by decide +kernel)
theorem kc_X11_cue : Cond.code yX11_cue cX11_cue 4 (some .int) ∈ wU := w_at 987 (by decide +kernel) (by decide +kernel)
theorem hk_X11_cue : yX11_cue.cls = RX11 ∧ yX11_cue.cls ≠ "java/lang/invoke/MethodHandle" ∧ yX11_cue.cls ≠ "java/lang/invoke/VarHandle" ∧ (parseMethodDescriptor yX11_cue.desc).map (fun d => d.parameters.length) = some 2 := by decide +kernel
theorem vf_X11_296 : Cond.fieldLink RX11 296 RX4 (TX4 4).2.1 (TX4 4).2.2.1 ∈ wU := w_at 748 (by decide +kernel) (by decide +kernel)
theorem kc_X11_itemWidth : Cond.code yX11_itemWidth cX11_itemWidth 4 (some .int) ∈ wU := w_at 1001 (by decide +kernel) (by decide +kernel)
theorem hk_X11_itemWidth : yX11_itemWidth.cls = RX11 ∧ yX11_itemWidth.cls ≠ "java/lang/invoke/MethodHandle" ∧ yX11_itemWidth.cls ≠ "java/lang/invoke/VarHandle" ∧ (parseMethodDescriptor yX11_itemWidth.desc).map (fun d => d.parameters.length) = some 2 := by decide +kernel
theorem kc_X11_lines : Cond.code yX11_lines cX11_lines 2 (some .int) ∈ wU := w_at 1025 (by decide +kernel) (by decide +kernel)
theorem hk_X11_lines : yX11_lines.cls = RX11 ∧ yX11_lines.cls ≠ "java/lang/invoke/MethodHandle" ∧ yX11_lines.cls ≠ "java/lang/invoke/VarHandle" ∧ (parseMethodDescriptor yX11_lines.desc).map (fun d => d.parameters.length) = some 1 := by decide +kernel
theorem kc_X11_firstItem : Cond.code yX11_firstItem cX11_firstItem 4 (some .int) ∈ wU := w_at 1032 (by decide +kernel) (by decide +kernel)
theorem hk_X11_firstItem : yX11_firstItem.cls = RX11 ∧ yX11_firstItem.cls ≠ "java/lang/invoke/MethodHandle" ∧ yX11_firstItem.cls ≠ "java/lang/invoke/VarHandle" ∧ (parseMethodDescriptor yX11_firstItem.desc).map (fun d => d.parameters.length) = some 2 := by decide +kernel
theorem vf_X11_311 : Cond.fieldLink RX11 311 RX1 (TX1 0).2.1 (TX1 0).2.2.1 ∈ wU := w_at 676 (by decide +kernel) (by decide +kernel)
theorem kc_X11_badness : Cond.code yX11_badness cX11_badness 2 (some .int) ∈ wU := w_at 963 (by decide +kernel) (by decide +kernel)
theorem hk_X11_badness : yX11_badness.cls = RX11 ∧ yX11_badness.cls ≠ "java/lang/invoke/MethodHandle" ∧ yX11_badness.cls ≠ "java/lang/invoke/VarHandle" ∧ (parseMethodDescriptor yX11_badness.desc).map (fun d => d.parameters.length) = some 1 := by decide +kernel
theorem vf_X11_314 : Cond.fieldLink RX11 314 RX1 (TX1 2).2.1 (TX1 2).2.2.1 ∈ wU := w_at 681 (by decide +kernel) (by decide +kernel)
theorem kc_X11_pages : Cond.code yX11_pages cX11_pages 2 (some .int) ∈ wU := w_at 1042 (by decide +kernel) (by decide +kernel)
theorem hk_X11_pages : yX11_pages.cls = RX11 ∧ yX11_pages.cls ≠ "java/lang/invoke/MethodHandle" ∧ yX11_pages.cls ≠ "java/lang/invoke/VarHandle" ∧ (parseMethodDescriptor yX11_pages.desc).map (fun d => d.parameters.length) = some 1 := by decide +kernel
theorem vf_X11_321 : Cond.fieldLink RX11 321 RX3 (TX3 2).2.1 (TX3 2).2.2.1 ∈ wU := w_at 702 (by decide +kernel) (by decide +kernel)
theorem kc_X11_pageLines : Cond.code yX11_pageLines cX11_pageLines 4 (some .int) ∈ wU := w_at 1049 (by decide +kernel) (by decide +kernel)
theorem hk_X11_pageLines : yX11_pageLines.cls = RX11 ∧ yX11_pageLines.cls ≠ "java/lang/invoke/MethodHandle" ∧ yX11_pageLines.cls ≠ "java/lang/invoke/VarHandle" ∧ (parseMethodDescriptor yX11_pageLines.desc).map (fun d => d.parameters.length) = some 2 := by decide +kernel
theorem vf_X11_326 : Cond.fieldLink RX11 326 RX3 (TX3 0).2.1 (TX3 0).2.2.1 ∈ wU := w_at 699 (by decide +kernel) (by decide +kernel)
theorem kc_X4_lineWithBar : Cond.code yX4_lineWithBar cX4_lineWithBar 3 (some .int) ∈ wU := w_at 1081 (by decide +kernel) (by decide +kernel)
theorem hk_X4_lineWithBar : yX4_lineWithBar.cls = RX4 ∧ yX4_lineWithBar.cls ≠ "java/lang/invoke/MethodHandle" ∧ yX4_lineWithBar.cls ≠ "java/lang/invoke/VarHandle" ∧ (parseMethodDescriptor yX4_lineWithBar.desc).map (fun d => d.parameters.length) = some 1 := by decide +kernel
theorem kc_X3_pageWithLine : Cond.code yX3_pageWithLine cX3_pageWithLine 3 (some .int) ∈ wU := w_at 1085 (by decide +kernel) (by decide +kernel)
theorem hk_X3_pageWithLine : yX3_pageWithLine.cls = RX3 ∧ yX3_pageWithLine.cls ≠ "java/lang/invoke/MethodHandle" ∧ yX3_pageWithLine.cls ≠ "java/lang/invoke/VarHandle" ∧ (parseMethodDescriptor yX3_pageWithLine.desc).map (fun d => d.parameters.length) = some 1 := by decide +kernel
theorem kc_X11_pageOf : Cond.code yX11_pageOf cX11_pageOf 4 (some .int) ∈ wU := w_at 1077 (by decide +kernel) (by decide +kernel)
theorem hk_X11_pageOf : yX11_pageOf.cls = RX11 ∧ yX11_pageOf.cls ≠ "java/lang/invoke/MethodHandle" ∧ yX11_pageOf.cls ≠ "java/lang/invoke/VarHandle" ∧ (parseMethodDescriptor yX11_pageOf.desc).map (fun d => d.parameters.length) = some 2 := by decide +kernel
theorem v_i1078 : Cond.methodLink RX11 329 yX4_lineWithBar ∈ wU := w_at 1078 (by decide +kernel) (by decide +kernel)
theorem v_i1079 : Cond.instanceMethod yX4_lineWithBar ∈ wU := w_at 1079 (by decide +kernel) (by decide +kernel)
theorem v_i1080 : Cond.selects RX4 yX4_lineWithBar yX4_lineWithBar ∈ wU := w_at 1080 (by decide +kernel) (by decide +kernel)
theorem vl_X11_329 : ∀ w ∈ ([.methodLink RX11 329 yX4_lineWithBar, .instanceMethod yX4_lineWithBar, .selects RX4 yX4_lineWithBar yX4_lineWithBar, .initialized RX4] : List Cond), w ∈ wU := w_4 v_i1078 v_i1079 v_i1080 v_i48
theorem v_i1082 : Cond.methodLink RX11 332 yX3_pageWithLine ∈ wU := w_at 1082 (by decide +kernel) (by decide +kernel)
theorem v_i1083 : Cond.instanceMethod yX3_pageWithLine ∈ wU := w_at 1083 (by decide +kernel) (by decide +kernel)
theorem v_i1084 : Cond.selects RX3 yX3_pageWithLine yX3_pageWithLine ∈ wU := w_at 1084 (by decide +kernel) (by decide +kernel)
theorem vl_X11_332 : ∀ w ∈ ([.methodLink RX11 332 yX3_pageWithLine, .instanceMethod yX3_pageWithLine, .selects RX3 yX3_pageWithLine yX3_pageWithLine, .initialized RX3] : List Cond), w ∈ wU := w_4 v_i1082 v_i1083 v_i1084 v_i50
theorem kc_X11_pageTurns : Cond.code yX11_pageTurns cX11_pageTurns 2 (some .int) ∈ wU := w_at 1102 (by decide +kernel) (by decide +kernel)
theorem hk_X11_pageTurns : yX11_pageTurns.cls = RX11 ∧ yX11_pageTurns.cls ≠ "java/lang/invoke/MethodHandle" ∧ yX11_pageTurns.cls ≠ "java/lang/invoke/VarHandle" ∧ (parseMethodDescriptor yX11_pageTurns.desc).map (fun d => d.parameters.length) = some 1 := by decide +kernel
theorem vf_X11_335 : Cond.fieldLink RX11 335 RX3 (TX3 4).2.1 (TX3 4).2.2.1 ∈ wU := w_at 706 (by decide +kernel) (by decide +kernel)
theorem kc_X11_turnBar : Cond.code yX11_turnBar cX11_turnBar 4 (some .int) ∈ wU := w_at 1063 (by decide +kernel) (by decide +kernel)
theorem hk_X11_turnBar : yX11_turnBar.cls = RX11 ∧ yX11_turnBar.cls ≠ "java/lang/invoke/MethodHandle" ∧ yX11_turnBar.cls ≠ "java/lang/invoke/VarHandle" ∧ (parseMethodDescriptor yX11_turnBar.desc).map (fun d => d.parameters.length) = some 2 := by decide +kernel
theorem vf_X11_338 : Cond.fieldLink RX11 338 RX3 (TX3 5).2.1 (TX3 5).2.2.1 ∈ wU := w_at 708 (by decide +kernel) (by decide +kernel)
theorem vf_X11_341 : Cond.fieldLink RX11 341 RX3 (TX3 3).2.1 (TX3 3).2.2.1 ∈ wU := w_at 704 (by decide +kernel) (by decide +kernel)
theorem kc_X11_turnTime : Cond.code yX11_turnTime cX11_turnTime 4 (some .int) ∈ wU := w_at 1070 (by decide +kernel) (by decide +kernel)
theorem hk_X11_turnTime : yX11_turnTime.cls = RX11 ∧ yX11_turnTime.cls ≠ "java/lang/invoke/MethodHandle" ∧ yX11_turnTime.cls ≠ "java/lang/invoke/VarHandle" ∧ (parseMethodDescriptor yX11_turnTime.desc).map (fun d => d.parameters.length) = some 2 := by decide +kernel
theorem vf_X11_344 : Cond.fieldLink RX11 344 RX3 (TX3 6).2.1 (TX3 6).2.2.1 ∈ wU := w_at 710 (by decide +kernel) (by decide +kernel)
theorem kc_X11_turnRest : Cond.code yX11_turnRest cX11_turnRest 4 (some .int) ∈ wU := w_at 1056 (by decide +kernel) (by decide +kernel)
theorem hk_X11_turnRest : yX11_turnRest.cls = RX11 ∧ yX11_turnRest.cls ≠ "java/lang/invoke/MethodHandle" ∧ yX11_turnRest.cls ≠ "java/lang/invoke/VarHandle" ∧ (parseMethodDescriptor yX11_turnRest.desc).map (fun d => d.parameters.length) = some 2 := by decide +kernel
theorem vf_X11_347 : Cond.fieldLink RX11 347 RX3 (TX3 7).2.1 (TX3 7).2.2.1 ∈ wU := w_at 712 (by decide +kernel) (by decide +kernel)
theorem kc_X3_faultyTurns : Cond.code yX3_faultyTurns cX3_faultyTurns 3 (some .int) ∈ wU := w_at 1113 (by decide +kernel) (by decide +kernel)
theorem hk_X3_faultyTurns : yX3_faultyTurns.cls = RX3 ∧ yX3_faultyTurns.cls ≠ "java/lang/invoke/MethodHandle" ∧ yX3_faultyTurns.cls ≠ "java/lang/invoke/VarHandle" ∧ (parseMethodDescriptor yX3_faultyTurns.desc).map (fun d => d.parameters.length) = some 0 := by decide +kernel
theorem kc_X11_badTurns : Cond.code yX11_badTurns cX11_badTurns 2 (some .int) ∈ wU := w_at 1109 (by decide +kernel) (by decide +kernel)
theorem hk_X11_badTurns : yX11_badTurns.cls = RX11 ∧ yX11_badTurns.cls ≠ "java/lang/invoke/MethodHandle" ∧ yX11_badTurns.cls ≠ "java/lang/invoke/VarHandle" ∧ (parseMethodDescriptor yX11_badTurns.desc).map (fun d => d.parameters.length) = some 1 := by decide +kernel
theorem v_i1110 : Cond.methodLink RX11 350 yX3_faultyTurns ∈ wU := w_at 1110 (by decide +kernel) (by decide +kernel)
theorem v_i1111 : Cond.instanceMethod yX3_faultyTurns ∈ wU := w_at 1111 (by decide +kernel) (by decide +kernel)
theorem v_i1112 : Cond.selects RX3 yX3_faultyTurns yX3_faultyTurns ∈ wU := w_at 1112 (by decide +kernel) (by decide +kernel)
theorem vl_X11_350 : ∀ w ∈ ([.methodLink RX11 350 yX3_faultyTurns, .instanceMethod yX3_faultyTurns, .selects RX3 yX3_faultyTurns yX3_faultyTurns, .initialized RX3] : List Cond), w ∈ wU := w_4 v_i1110 v_i1111 v_i1112 v_i50
theorem kc_X11_sheetsFor : Cond.code yX11_sheetsFor cX11_sheetsFor 1 (some .int) ∈ wU := w_at 1095 (by decide +kernel) (by decide +kernel)
theorem hk_X11_sheetsFor : yX11_sheetsFor.cls = RX11 ∧ yX11_sheetsFor.cls ≠ "java/lang/invoke/MethodHandle" ∧ yX11_sheetsFor.cls ≠ "java/lang/invoke/VarHandle" ∧ (parseMethodDescriptor yX11_sheetsFor.desc).map (fun d => d.parameters.length) = some 1 := by decide +kernel
theorem kc_X11_sheets : Cond.code yX11_sheets cX11_sheets 2 (some .int) ∈ wU := w_at 1092 (by decide +kernel) (by decide +kernel)
theorem hk_X11_sheets : yX11_sheets.cls = RX11 ∧ yX11_sheets.cls ≠ "java/lang/invoke/MethodHandle" ∧ yX11_sheets.cls ≠ "java/lang/invoke/VarHandle" ∧ (parseMethodDescriptor yX11_sheets.desc).map (fun d => d.parameters.length) = some 1 := by decide +kernel
theorem v_i1093 : Cond.methodLink RX11 353 yX11_sheetsFor ∈ wU := w_at 1093 (by decide +kernel) (by decide +kernel)
theorem v_i1094 : Cond.static yX11_sheetsFor ∈ wU := w_at 1094 (by decide +kernel) (by decide +kernel)
theorem vl_X11_353 : ∀ w ∈ ([.methodLink RX11 353 yX11_sheetsFor, .static yX11_sheetsFor, .initialized RX11] : List Cond), w ∈ wU := w_3 v_i1093 v_i1094 v_i28
theorem kc_X11_sheetPage : Cond.code yX11_sheetPage cX11_sheetPage 7 (some .int) ∈ wU := w_at 1120 (by decide +kernel) (by decide +kernel)
theorem hk_X11_sheetPage : yX11_sheetPage.cls = RX11 ∧ yX11_sheetPage.cls ≠ "java/lang/invoke/MethodHandle" ∧ yX11_sheetPage.cls ≠ "java/lang/invoke/VarHandle" ∧ (parseMethodDescriptor yX11_sheetPage.desc).map (fun d => d.parameters.length) = some 4 := by decide +kernel
