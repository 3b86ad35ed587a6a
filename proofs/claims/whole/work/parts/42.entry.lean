/-! FROM THE LAW'S ENTRY TO ITS LOOP -/
def ly_Cx (p : Program) (l : Launch) (s : State) (m : MethodId) (b : Nat) (c : Code) (meth : Method) (L : Nat) (xs : Nat → Int32) (D : va_G) (K : Nat → ClassId) (E0 : Nat) : Prop :=
  p.tables.exec = Jvm.exec ∧ c.code = code ∧ c.maxLocals = 7 ∧ s.vm.findClass RL = some m.cls ∧ (∀ w ∈ Cond.instantiable RX11 3 :: wU, w.before #[Value.ref b] s = true) ∧ va_K D vwCl (c_tysZ K) s ∧ StC E0 (fun q => s.heap.size ≤ q) s s.heap ∧ l.stackTraces = false ∧ meth.locks = false ∧ c_Ev s ∧ NcS s ∧ va_X b L xs s s.heap ∧ b < s.heap.size ∧ meth.sig.returnType = ret
theorem v_i119 : Cond.classLink RL 8 RX11 ∈ wU := w_at 119 (by decide +kernel) (by decide +kernel)
theorem v_i120 : Cond.instantiable RX11 3 ∈ wU := w_at 120 (by decide +kernel) (by decide +kernel)
theorem vn_L_8 : ∀ w ∈ ([.classLink RL 8 RX11, .instantiable RX11 3, .initialized RX11] : List Cond), w ∈ wU := w_3 v_i119 v_i120 v_i84
theorem v_i121 : Cond.methodLink RL 174 yX11_init ∈ wU := w_at 121 (by decide +kernel) (by decide +kernel)
theorem v_i122 : Cond.instanceMethod yX11_init ∈ wU := w_at 122 (by decide +kernel) (by decide +kernel)
theorem vl_L_174 : ∀ w ∈ ([.methodLink RL 174 yX11_init, .instanceMethod yX11_init, .initialized RX11] : List Cond), w ∈ wU := w_3 v_i121 v_i122 v_i84
theorem v_i1719 : Cond.classLink RL 175 RX12 ∈ wU := w_at 1719 (by decide +kernel) (by decide +kernel)
theorem v_i1720 : Cond.instantiable RX12 46 ∈ wU := w_at 1720 (by decide +kernel) (by decide +kernel)
theorem v_i1721 : Cond.methodLink RL 177 yX12_init ∈ wU := w_at 1721 (by decide +kernel) (by decide +kernel)
theorem v_i1722 : Cond.instanceMethod yX12_init ∈ wU := w_at 1722 (by decide +kernel) (by decide +kernel)
theorem kc_X12_init : Cond.code yX12_init cX12_init 1 none ∈ wU := w_at 1723 (by decide +kernel) (by decide +kernel)
section LY
variable {p : Program} {l : Launch} {e : Env} {s : State} {m : MethodId} {b : Nat} {below : List Frame} {meth : Method} {c : Code} {Q : State → Prop} {L : Nat} {xs : Nat → Int32}
variable {D : va_G} {K : Nat → ClassId} {E0 : Nat} {S : CS} {pc : Nat} {lv : List (Nat × Value)} {st : List Value}
def GY (p : Program) (l : Launch) (e : Env) (s : State) (m : MethodId) (b : Nat) (below : List Frame) (meth : Method) (c : Code) (D : va_G) (K : Nat → ClassId) (E0 : Nat) (Q : State → Prop) (S : CS) (pc : Nat) (lv : List (Nat × Value)) (st : List Value) : Prop :=
  ∀ (G : CG) (H : Heap) (locs : List Loc) (ls : Array Slot), RepC D K E0 S G H → (∀ q, gA G (szC S) q → s.heap.size ≤ q) → va_S (fun q => s.heap.size ≤ q) s.heap H locs → hsl s.heap ≤ hsl H → szC S ≤ (lB s).1 → nsC S ≤ (lB s).2 → lv_has ls 7 lv →
    W p l e room_1 s m #[Value.ref b] below meth c H locs (H.size - s.heap.size) (hsl H - hsl s.heap) Q (F0 m pc ls st)
theorem gy_new (C : ly_Cx p l s m b c meth L xs D K E0) (hroom : szC S + 1 ≤ (lB s).1 ∧ nsC S + 3 ≤ (lB s).2) (d : decode code pc = .ok (.new 8, 3)) (k : kdC S (szC S) = 0 → GY p l e s m b below meth c D K E0 Q (newO S 14) (pc + 3) lv (.ref (szC S) :: st)) : GY p l e s m b below meth c D K E0 Q S pc lv st := by
  intro G H locs ls hP hA hS hs h1 h2 hl
  have y1 : H.size = szC S := hP.2.2.1
  have y2 : hsl H = nsC S := hP.2.2.2
  have z0 : s.heap.size ≤ H.size := hS.1
  have r1 : szC S + 1 ≤ s.heap.size + 601024 := hroom.1
  have r2 : nsC S + 3 ≤ hsl s.heap + 7293034 := hroom.2
  have hKn := C.2.2.2.2.2.1.1 14 _ BX11.1
  have hins : (Cond.instantiable RX11 3).before #[Value.ref b] s = true := C.2.2.2.2.1 _ List.mem_cons_self
  refine W.newcK C.1 C.2.1 C.2.2.2.1 (C.2.2.2.2.1 _ (List.mem_cons_of_mem _ (vn_L_8 _ (by simp)))) hins (C.2.2.2.2.1 _ (List.mem_cons_of_mem _ (vn_L_8 (.initialized RX11) (by simp)))) rfl d (by show _ ≤ 601024; omega) (by show _ ≤ 7293034; omega) hKn.2.1 rfl fun H1 kC hkC e1 z1 o1 => ?_
  obtain ⟨c9, k9, f1, f2, -, -, -, f3⟩ := Cond.instantiable_spec hins
  cases hKn.2.1.symm.trans f1
  cases hkC.symm.trans f2
  have hk0 : kdC S (szC S) = 0 := Classical.byContradiction fun h => Nat.lt_irrefl _ (hP.kd_lt h)
  have hsz : (blank (D.1 14) kC).slots.size = cNF 14 := by
    rw [show cNF 14 = 3 from rfl, ← f3]
    simp [blank]
  have hat : va_at D vwCl (H.size, .inr (14, c_fs (newO S 14) 14 (szC S))) H1 := ⟨_, BX11.1, (u_born tyX11 C.2.2.2.2.1 (fun w h => List.mem_cons_of_mem _ (BX11.2.1 w h)) hKn hkC e1 BX11.2.2.1).to (fun j hj => by
    have hj2 : j < cNF 14 := hj
    rw [hd_X11 j hj]
    unfold vp_V
    rw [List.getD_eq_getElem?_getD, c_fget hj2, newO_fs (ci := 14) (by decide) (by decide) j hj2]
    rfl)⟩
  have hP1 := hP.new (by decide) (by decide) z1 e1 o1 hsz hat
  have es : hsl H1 = nsC S + 3 := hP1.2.2.2
  have kk := k hk0 _ H1 locs ls hP1 (fun q hq => by
    rcases hq with h | h
    · by_cases hq2 : q = szC S
      · omega
      · refine hA q (Or.inl ?_)
        have h9 : (va_up G.1 (szC S) (14, szC S) q).1 ≠ 0 := h
        rw [va_up_ne _ _ hq2] at h9
        exact h9
    · have h9 : szC S + 1 ≤ q := h
      omega) ⟨Nat.le_trans hS.1 (by omega), fun x h3 h4 => (o1 x (Nat.lt_of_lt_of_le h3 hS.1)).trans (hS.2.1 x h3 h4), hS.2.2⟩ (by omega) hroom.1 hroom.2 hl
  rw [z1, es] at kk
  refine W.widen (k := H.size + 1 - s.heap.size) (n := nsC S + 3 - hsl s.heap) (by omega) (by show hsl H - hsl s.heap + 3 ≤ _; omega) ?_
  rw [← y1] at kk
  exact kk
theorem gy_init (C : ly_Cx p l s m b c meth L xs D K E0) {o : Nat} {P : CS → Prop} (B1 : Nat × Nat) (hB : B1.1 ≤ (lB s).1 ∧ B1.2 ≤ (lB s).2) (hB2 : szC S ≤ B1.1 ∧ nsC S ≤ B1.2) (hM' : MetC l yX11_init cX11_init 1 none 5 [.ref o] (qV P) (fun _ _ => False) D K E0 B1 (fun q => s.heap.size ≤ q) S)
    (d : decode code pc = .ok (.invokespecial 174, 3)) (hst : (st.map fun v => v.category).sum ≤ 8) (kk : ∀ S' : CS, P S' → szC S' ≤ B1.1 → nsC S' ≤ B1.2 → GY p l e s m b below meth c D K E0 Q S' (pc + 3) lv st) : GY p l e s m b below meth c D K E0 Q S pc lv (.ref o :: st) := by
  intro G H locs ls hP hA hS hs h1 h2 hl T hT X9
  have y1 : H.size = szC S := hP.2.2.1
  have y2 : hsl H = nsC S := hP.2.2.2
  have z0 : s.heap.size ≤ H.size := hS.1
  have hB1' : B1.1 ≤ s.heap.size + 601024 := hB.1
  have hB2' : B1.2 ≤ hsl s.heap + 7293034 := hB.2
  have hrun := vx_runI (meth := meth) (below := below) (e := e) (g := F0 m pc ls (.ref o :: st)) (H := H) (locs := locs) (cells := H.size - s.heap.size) (slots := hsl H - hsl s.heap) (As := []) (rest := st) (R := room_1) (p := p) (l := l) (s := s) (m := m) (args := #[Value.ref b]) (c := c) ⟨C.1, C.2.1, C.2.2.1, C.2.2.2.1, C.2.2.2.2.1⟩ (hM' C.2.2.2.2.2.2.2.1 hB2.1 hB2.2) (cwI 0 C.2.2.2.2.1 (fun w h => gU (pre := []) (fun w h => by cases h) kc_X11_init w h) rfl rfl rfl (C.2.2.2.2.1 _ (List.mem_cons_of_mem _ (vl_L_174 (.initialized RX11) (by simp)))) (C.2.2.2.2.1 _ (List.mem_cons_of_mem _ (vl_L_174 (.methodLink RL 174 yX11_init) (by simp)))) (C.2.2.2.2.1 _ (List.mem_cons_of_mem _ (vl_L_174 (.instanceMethod yX11_init) (by simp)))) rfl hk_X11_init.2 ⟨Nat.le_of_ble_eq_true rfl, Nat.le_of_ble_eq_true rfl⟩)
    ⟨c_blind, fun U hU hW => ⟨rfl, ⟨G, by rw [hU]; exact hP, hA⟩, va_K.moved hW.alike (l_K1 C.2.2.2.2.2.1), by rw [hU]; exact StC.kept (StC.moved hW.alike C.2.2.2.2.2.2.1) hS.2.1, c_Ev.warm hW C.2.2.2.2.2.2.2.2.2.1⟩⟩ rfl rfl hl.1 rfl (lv_room hst) d ⟨by show _ ≤ 601024; omega, by show _ ≤ 7293034; omega⟩
  rcases hrun T hT X9 with ⟨v, st₀, t1, T', L9, h0, X', hL, e1, e2, ⟨⟨v', S', hv, ⟨⟨hp0, hp⟩, hk⟩, G', hP', hA'⟩, hF⟩, stp⟩ | ⟨q, st₀, t1, T', L9, E, ce, h0, X', hL, e1, e2, ⟨⟨S', hq, hq2⟩, hF⟩, hce, hcv, hcl, stp⟩
  · cases hv
    subst hp0
    obtain ⟨k1, k2, k3⟩ := vx_keep (A0 := fun q => s.heap.size ≤ q) h0 e1 hS (fun q _ z => z) (fun q z => z) hL hF
    have hb := stand_slots X'
    rw [← e1] at hP'
    have z1 : T'.heap.size = szC S' := hP'.2.2.1
    have z2 : hsl T'.heap = nsC S' := hP'.2.2.2
    obtain ⟨t2, a1, b1⟩ := kk S' hp (by omega) (by omega) G' T'.heap (locs ++ L9) ls hP' hA' k3 hb.1 (by show _ ≤ s.heap.size + 601024; omega) (by show _ ≤ hsl s.heap + 7293034; omega) hl T' rfl (stand_norm X')
    exact ⟨t2, stp t2 a1, b1⟩
  · exact hq.elim
end LY
