/-! THE MODEL AND THE ANSWER'S ROW ARE MADE -/
theorem m_fpnew {mo : Nat} : ∀ j, j < 46 → defaultValue (tyX12 j) = (m_fsp mo 0 (fun _ => 0)).getD j .null := by
  intro j hj
  rw [List.getD_eq_getElem?_getD, m_fpget hj]
  have h := rgA (n := 46) (p := fun j => (m_isI j && decide (tyX12 j = .int)) || (!m_isI j && (decide (tyX12 j = .array .int) || decide (tyX12 j = .array .boolean)))) (by decide +kernel) hj
  show _ = m_fp mo 0 (fun _ => 0) j
  unfold m_fp
  simp only [Bool.or_eq_true, Bool.and_eq_true, decide_eq_true_eq, Bool.not_eq_true'] at h
  rcases h with ⟨h1, h2⟩ | ⟨h1, h2 | h2⟩
  · rw [h1, h2]; rfl
  · rw [h1, h2]; simp [defaultValue]
  · rw [h1, h2]; simp [defaultValue]
section LZ
variable {p : Program} {l : Launch} {e : Env} {s : State} {m : MethodId} {b : Nat} {below : List Frame} {meth : Method} {c : Code} {Q : State → Prop} {L : Nat} {xs : Nat → Int32}
variable {D : va_G} {K : Nat → ClassId} {E0 : Nat} {S : CS} {o : Nat}
theorem x_blind {cI cZ : ClassId} {mo : Nat} : FrameBlind (x_Pre D cI cZ mo) := fun a U g mk q => by
  obtain ⟨q0, q1, q2, q3⟩ := q
  exact ⟨q0, q1, q2, va_K.moved (u := U) (U := U.calling g mk a) (Vm.Alike.refl U.vm) q3⟩
theorem gy_go (C : ly_Cx p l s m b c meth L xs D K E0) (hroom : szC S + 38 ≤ (lB s).1 ∧ nsC S + (47 + m_sum 36) ≤ (lB s).2)
    (k : ∀ mo ao : Nat, lx_Cx p l s m b c meth L xs D K E0 mo ao → GL p l e s m b below meth c D K E0 mo ao Q (rsz S (szC S + 38) (nsC S + (47 + m_sum 36))) (fun _ => 0) m_t0 23 [(4, .int 0), (3, .ref ao), (2, .ref mo), (1, .ref o), (0, .ref b)] []) : GY p l e s m b below meth c D K E0 Q S 8 [(1, .ref o), (0, .ref b)] [] := by
  intro G H locs ls hP hA hS hs h1 h2 hl
  have y1 : H.size = szC S := hP.2.2.1
  have y2 : hsl H = nsC S := hP.2.2.2
  have z0 : s.heap.size ≤ H.size := hS.1
  have r1 : szC S + 38 ≤ s.heap.size + 601024 := hroom.1
  have r2 : nsC S + (47 + m_sum 36) ≤ hsl s.heap + 7293034 := hroom.2
  have hKn := C.2.2.2.2.2.1.1 15 (RX12, TX12, 46) rfl
  have hins : (Cond.instantiable RX12 46).before #[Value.ref b] s = true := C.2.2.2.2.1 _ (List.mem_cons_of_mem _ v_i1720)
  refine W.newcK C.1 C.2.1 C.2.2.2.1 (C.2.2.2.2.1 _ (List.mem_cons_of_mem _ v_i1719)) hins (C.2.2.2.2.1 _ (List.mem_cons_of_mem _ v_i90)) rfl dL_law_8 (by show _ ≤ 601024; omega) (by show _ ≤ 7293034; omega) hKn.2.1 rfl fun H1 kC hkC e1 z1 o1 => ?_
  obtain ⟨c9, k9, f1, f2, -, -, -, f3⟩ := Cond.instantiable_spec hins
  cases hKn.2.1.symm.trans f1
  cases hkC.symm.trans f2
  have hsz : (blank (D.1 15) kC).slots.size = 46 := by
    rw [← f3]
    simp [blank]
  have hat : va_at D vwCl (H.size, .inr (15, m_fsp H.size 0 (fun _ => 0))) H1 := ⟨(RX12, TX12, 46), rfl, (u_born tyX12 C.2.2.2.2.1 (fun w h => List.mem_cons_of_mem _ (u_X12 w h)) hKn hkC e1 tyX12_ok).to (fun j hj => m_fpnew j hj)⟩
  have s1 : hsl H1 = hsl H + 46 := by rw [hsl_push z1 e1 o1, hsz]
  have hS1 : va_S (fun q => s.heap.size ≤ q) s.heap H1 locs := ⟨Nat.le_trans hS.1 (by omega), fun x h3 h4 => (o1 x (Nat.lt_of_lt_of_le h3 hS.1)).trans (hS.2.1 x h3 h4), hS.2.2⟩
  refine lv_dup C.1 C.2.1 dL_law_11 rfl ?_
  refine W.widen (k := H1.size - s.heap.size) (n := hsl H1 - hsl s.heap) (by omega) (by omega) ?_
  intro T hT X9
  have hrun := vx_runI (meth := meth) (below := below) (e := e) (g := F0 m 12 ls [.ref H.size, .ref H.size]) (H := H1) (locs := locs) (cells := H1.size - s.heap.size) (slots := hsl H1 - hsl s.heap) (As := []) (rest := [.ref H.size]) (R := room_1) (p := p) (l := l) (s := s) (m := m) (args := #[Value.ref b]) (c := c) ⟨C.1, C.2.1, C.2.2.1, C.2.2.2.1, C.2.2.2.2.1⟩ (k_model l D (K 0) (K 3) H.size) (cwI 0 C.2.2.2.2.1 (fun w h => gU (pre := []) (fun w h => by cases h) kc_X12_init w h) rfl rfl rfl (C.2.2.2.2.1 _ (List.mem_cons_of_mem _ v_i90)) (C.2.2.2.2.1 _ (List.mem_cons_of_mem _ v_i1721)) (C.2.2.2.2.1 _ (List.mem_cons_of_mem _ v_i1722)) rfl (by decide +kernel) ⟨Nat.le_of_ble_eq_true rfl, Nat.le_of_ble_eq_true rfl⟩)
    ⟨x_blind, fun U hU hW => ⟨rfl, by rw [hU]; exact hat, by rw [hU]; exact z1, va_K.moved hW.alike (l_K2 C.2.2.2.2.2.1)⟩⟩ rfl rfl hl.1 rfl (lv_room (Nat.le_of_ble_eq_true rfl)) dL_law_12 ⟨by show _ ≤ 601024; omega, by show _ ≤ 7293034; omega⟩
  rcases hrun T hT X9 with ⟨v, st₀, t1, T', L9, h0, X', hL, e1', e2, ⟨⟨hv, hPP, hz9, hs9⟩, hF⟩, stp⟩ | ⟨q, st₀, t1, T', L9, E, ce, h0, X', hL, e1', e2, hq, hce, hcv, hcl, stp⟩
  case inr => exact hq.elim
  cases hv
  obtain ⟨k1, k2, k3⟩ := vx_keep (A0 := fun q => s.heap.size ≤ q) h0 e1' hS1 (fun q _ z => Nat.le_trans z0 z) (fun q z => Nat.le_trans z0 z) hL hF
  rw [h0] at hs9
  rw [← e1'] at hPP hz9 hs9
  have hkeep : ∀ q : Nat, q < H.size → T'.heap[q]? = H[q]? := fun q q1 => by
    have f9 := hF.2
    rw [h0] at f9
    rw [e1']
    exact (f9 q (by omega) (Nat.not_le.mpr q1)).trans (o1 q q1)
  have key : W p l e room_1 s m #[Value.ref b] below meth c T'.heap (locs ++ L9) (T'.heap.size - s.heap.size) (hsl T'.heap - hsl s.heap) Q (F0 m 15 ls [.ref H.size]) := by
    refine lv_astore_n C.1 C.2.1 dL_law_15 (i := 2) rfl hl (by decide) rfl (fun ls2 hl2 => ?_)
    refine lv_iconst C.1 C.2.1 dL_law_16 (v := 1) (by decide) ?_
    refine va_newaK (atype := .long) C.1 C.2.1 (C.2.2.2.2.1 _ (List.mem_cons_of_mem _ v_i1412)) rfl dL_law_17 rfl (by decide) (N := 1) (by decide) (by decide) (by show _ ≤ 601024; omega) (by show _ ≤ 7293034; omega) rfl fun H3 cA e3 z3 o3 hAr hNm => ?_
    have hcA : K 1 = cA := Option.some.inj ((((l_K1 C.2.2.2.2.2.1).2 1 _ rfl).2).symm.trans hNm)
    subst hcA
    refine lv_astore_n C.1 C.2.1 dL_law_19 (i := 3) rfl hl2 (by decide) rfl (fun ls3 hl3 => ?_)
    refine lv_iconst C.1 C.2.1 dL_law_20 (v := 0) (by decide) ?_
    refine lv_istore C.1 C.2.1 dL_law_21 hl3 (by decide) rfl (fun ls4 hl4 => ?_)
    have s3 : hsl H3 = hsl T'.heap + 1 := by rw [hsl_push z3 e3 o3, arrV_size]
    have hmA : ∀ q, m_A H.size (m_ad H.size) q → H.size ≤ q ∧ q < H.size + 37 := fun q hq => by
      rcases hq with h | ⟨k9, hk9, h⟩
      · omega
      · obtain ⟨i9, hi9⟩ := m_pos hk9
        have h9 := mi_of hi9
        rw [h]
        unfold m_ad
        rw [h9.1]
        omega
    have hall : ∀ q : Nat, q < H.size → H3[q]? = H[q]? := fun q q1 => (o3 q (by omega)).trans (hkeep q q1)
    have hP3 := hP.rsz (H' := H3) (by omega) hall
    have es : H3.size = szC S + 38 := by omega
    have en : hsl H3 = nsC S + (47 + m_sum 36) := by omega
    rw [es, en] at hP3
    have Cx : lx_Cx p l s m b c meth L xs D K E0 H.size T'.heap.size := ⟨C.1, C.2.1, C.2.2.1, C.2.2.2.1, C.2.2.2.2.1, C.2.2.2.2.2.1, C.2.2.2.2.2.2.1, C.2.2.2.2.2.2.2.1, C.2.2.2.2.2.2.2.2.1, C.2.2.2.2.2.2.2.2.2.1, C.2.2.2.2.2.2.2.2.2.2.1, C.2.2.2.2.2.2.2.2.2.2.2.1, C.2.2.2.2.2.2.2.2.2.2.2.2.1, z0, by omega, fun h => by have := hmA _ h; omega, C.2.2.2.2.2.2.2.2.2.2.2.2.2⟩
    have kk := k H.size T'.heap.size Cx G H3 (locs ++ L9) ls4 hP3 (fun q hq => by
      rcases hq with hq | hq
      · have hlt := hP.lt hq
        have hge := hA q (Or.inl hq)
        exact ⟨hge, by omega, fun h => by have := hmA _ h; omega⟩
      · have hq2 : szC S + 38 ≤ q := hq
        exact ⟨by omega, by omega, fun h => by have := hmA _ h; omega⟩) e3 (va_P.kept hPP (fun k9 x hx => o3 x.1 ((hPP k9 x hx).lt))) ⟨Nat.le_trans k3.1 (by omega), fun x h3 h4 => (o3 x (Nat.lt_of_lt_of_le h3 k3.1)).trans (k3.2.1 x h3 h4), k3.2.2⟩ (by omega) hroom.1 hroom.2 hl4
    exact W.widen (k := H3.size - s.heap.size) (n := hsl H3 - hsl s.heap) (by omega) (by omega) kk
  obtain ⟨t2, a1, b1⟩ := key T' rfl (stand_norm X')
  exact ⟨t2, stp t2 a1, b1⟩
end LZ
