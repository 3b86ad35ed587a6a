/-! P57: FROM THE LAW'S ENTRY: rules -/
theorem f_link : Cond.classLink RL 11 RX11 ∈ wU := w_at 62 (by decide +kernel) (by decide +kernel)
theorem f_inst : Cond.instantiable RX11 3 ∈ wU := w_at 63 (by decide +kernel) (by decide +kernel)
theorem f_ini : Cond.initialized RX11 ∈ wU := w_at 28 (by decide +kernel) (by decide +kernel)
theorem f_iniL : Cond.initialized RL ∈ wU := w_at 27 (by decide +kernel) (by decide +kernel)
theorem f_il : Cond.methodLink RL 346 yX11_init ∈ wU := w_at 64 (by decide +kernel) (by decide +kernel)
theorem f_im : Cond.instanceMethod yX11_init ∈ wU := w_at 65 (by decide +kernel) (by decide +kernel)
theorem f_c7 : Cond.constant RL 7 1740896689 ∈ wU := w_at 446 (by decide +kernel) (by decide +kernel)
theorem f_c8 : Cond.constant RL 8 257611309 ∈ wU := w_at 447 (by decide +kernel) (by decide +kernel)
theorem f_l347 : Cond.methodLink RL 347 yL_isSo ∈ wU := w_at 448 (by decide +kernel) (by decide +kernel)
theorem f_s347 : Cond.static yL_isSo ∈ wU := w_at 449 (by decide +kernel) (by decide +kernel)
theorem fs_347 : ∀ w ∈ ([.methodLink RL 347 yL_isSo, .static yL_isSo, .initialized RL] : List Cond), w ∈ wU := w_3 f_l347 f_s347 f_iniL
theorem f_l350 : Cond.methodLink RL 350 yL_at ∈ wU := w_at 443 (by decide +kernel) (by decide +kernel)
theorem f_s350 : Cond.static yL_at ∈ wU := w_at 444 (by decide +kernel) (by decide +kernel)
theorem fs_350 : ∀ w ∈ ([.methodLink RL 350 yL_at, .static yL_at, .initialized RL] : List Cond), w ∈ wU := w_3 f_l350 f_s350 f_iniL
theorem f_l354 : Cond.methodLink RL 354 yL_acts ∈ wU := w_at 1121 (by decide +kernel) (by decide +kernel)
theorem f_s354 : Cond.static yL_acts ∈ wU := w_at 1122 (by decide +kernel) (by decide +kernel)
theorem fs_354 : ∀ w ∈ ([.methodLink RL 354 yL_acts, .static yL_acts, .initialized RL] : List Cond), w ∈ wU := w_3 f_l354 f_s354 f_iniL
theorem f_arr : Cond.arrayClass .int ∈ wU := w_at 137 (by decide +kernel) (by decide +kernel)
section FR
variable {p : Program} {l : Launch} {e : Env} {R : Room} {s : State} {m : MethodId} {args : Array Value} {below : List Frame} {meth : Method} {c : Code} {Q : State → Prop}
variable {cc : ByteArray} {nL : Nat} {hd : Cond} {D : va_G} {K : Nat → ClassId} {E0 : Nat} {B : Nat × Nat} {b0 : Nat} {S : LwS} {pc : Nat} {lv : List (Nat × Value)} {st : List Value}
variable {b L : Nat} {xs : Nat → Int32}
theorem gr_scr (C : rx_Cx p l s m args c meth cc nL hd D K E0 B b0 R) (hX : va_X b L xs s s.heap) (hb0 : b < b0) {i : Int32} (hin : vp_in i L) (d : decode cc pc = .ok (.iaload, 1)) (k : GR p l e R s m args below meth c nL D K E0 B b0 Q S (pc + 1) lv (.int (xs i.toNatClampNeg) :: st)) : GR p l e R s m args below meth c nL D K E0 B b0 Q S pc lv (.int i :: .ref b :: st) :=
  fun G H locs ls hP hA hO hS hs h1 h2 hl => va_sld C.1 C.2.1 hX (Nat.lt_of_lt_of_le hb0 C.2.2.2.2.2.2.2.2.2.2.1) (fun h => Nat.lt_irrefl _ (Nat.lt_of_lt_of_le hb0 h)) hS hin d (k G H locs ls hP hA hO hS hs h1 h2 hl)
theorem gr_slen (C : rx_Cx p l s m args c meth cc nL hd D K E0 B b0 R) (hX : va_X b L xs s s.heap) (hb0 : b < b0) (d : decode cc pc = .ok (.arraylength, 1)) (k : GR p l e R s m args below meth c nL D K E0 B b0 Q S (pc + 1) lv (.int (Int32.ofNat L) :: st)) : GR p l e R s m args below meth c nL D K E0 B b0 Q S pc lv (.ref b :: st) :=
  fun G H locs ls hP hA hO hS hs h1 h2 hl => va_slen C.1 C.2.1 hX (Nat.lt_of_lt_of_le hb0 C.2.2.2.2.2.2.2.2.2.2.1) (fun h => Nat.lt_irrefl _ (Nat.lt_of_lt_of_le hb0 h)) hS d (k G H locs ls hP hA hO hS hs h1 h2 hl)
/-- the law's reading of its script: some number comes back, nothing changes -/
def a_Pre (D : va_G) (K : Nat → ClassId) (E0 b0 : Nat) (t : LwS) (b L : Nat) (xs : Nat → Int32) (as : List Value) : Array Value → State → Prop := va_Pc as (fun U => (c_W D K E0 (rA0 b0 t.2) t.1 U ∧ va_K D vwCl (c_tys K) U ∧ StC E0 (rW b0) U U.heap ∧ c_Ev U ∧ rOK D K b0 t.2 U.heap ∧ NcS U) ∧ va_X b L xs U U.heap)
theorem a_blind {t : LwS} {as : List Value} : FrameBlind (a_Pre D K E0 b0 t b L xs as) := fun a U g mk q => by
  obtain ⟨q0, ⟨qW, qK, qS, qE, qO, qN⟩, qX⟩ := q
  exact ⟨q0, ⟨qW, va_K.moved (u := U) (U := U.calling g mk a) (Vm.Alike.refl U.vm) qK, StC.moved (u := U) (U := U.calling g mk a) (Vm.Alike.refl U.vm) qS, c_Ev.warm (s := U) (U := U.calling g mk a) (State.WarmedH.refl U) qE, qO, NcS.moved (u := U) (U := U.calling g mk a) (Vm.Alike.refl U.vm) qN⟩, va_X.moved (u := U) (U := U.calling g mk a) (Vm.Alike.refl U.vm) qX⟩
def MetA (l : Launch) (as : List Value) (D : va_G) (K : Nat → ClassId) (E0 b0 b L : Nat) (xs : Nat → Int32) (B : Nat × Nat) (t : LwS) : Prop :=
  l.stackTraces = false → szC t.1 ≤ B.1 → nsC t.1 ≤ B.2 → vx_Met l yL_at (.code yL_at cL_at 2 (some .int) :: wU) (rmC 0 B t.1) (a_Pre D K E0 b0 t b L xs as) (r_Post D K E0 b0 (fun _ t' => t' = t)) (fun _ _ _ => False) (B.1 - szC t.1) (B.2 - nsC t.1) (rW b0)
theorem gr_startA {as : List Value} (hn : (lg_sl as).length ≤ 2)
    (body : ∀ (p : Program) (e : Env) (s : State) (m : MethodId) (args : Array Value) (below : List Frame) (meth : Method) (c : Code), rx_Cx p l s m args c meth cL_at 2 (.code yL_at cL_at 2 (some .int)) D K E0 B b0 (rmC 0 B S.1) → va_X b L xs s s.heap → gc_E meth (some .int) yL_at.name → GR p l e (rmC 0 B S.1) s m args below meth c 2 D K E0 B b0 (gr_Q below D K E0 b0 (fun _ t' => t' = S) args s (rmC 0 B S.1)) S 0 (lv_args 0 as) []) :
    MetA l as D K E0 b0 b L xs B S := by
  intro hst hB1 hB2
  refine vx_ofW (cc := cL_at) (maxL := 2) (ret := some .int) (by decide) rfl ?_
  intro p e s m args below meth c s₁ Bl hml _ hv
  obtain ⟨rfl, ⟨⟨G, hP, hA⟩, hK, hSt, hE, hO, hN⟩, hX⟩ := hv
  have hts := atoms_spec (ws := .code yL_at cL_at 2 (some .int) :: wU) Bl.pre
  have hown : s.vm.findClass RL = some m.cls := findClass_of_methodNamed Bl.named
  have hl := lv_entry as (n := 2) hn
  rw [lg_entry_eq]
  have hz : s.heap.size = szC S.1 := hP.2.2.1
  have hz2 : hsl s.heap = nsC S.1 := hP.2.2.2
  have kk := body p e s m as.toArray below meth c ⟨Bl.exec, Bl.bytes, hml, hown, hts, hK, ⟨by rw [hz]; rfl, by rw [hz2]; rfl⟩, hSt, hst, Bl.notSynchronized, (hA s.heap.size (Or.inr (by rw [hz]; exact Nat.le_refl _))).1, hE, hN⟩ hX ⟨Bl.returns, (name_of_methodNamed Bl.named Bl.method).1⟩ G s.heap [] _ hP hA hO va_S.rf (Nat.le_refl _) hB1 hB2 hl
  rw [Nat.sub_self, Nat.sub_self] at kk
  exact kk
theorem c_L_at (l : Launch) {k : Nat} (hk : k < 1000) (hL : L ≤ 260) (hb0 : b < b0) : MetA l [.ref b, .int (nI k)] D K E0 b0 b L xs B S := by
  refine gr_startA (Nat.le_of_ble_eq_true rfl) (fun p e s m args below meth c C hX E => ?_)
  refine gr_iloadn C 1 1 dL_at_0 rfl rfl ?_
  refine gr_aloadn C 0 0 dL_at_1 rfl rfl ?_
  refine gr_slen C hX hb0 dL_at_2 ?_
  refine gr_icmp_ge C 12 dL_at_3 (by decide) (fun c1 => ?_) (fun c1 => ?_)
  · refine gr_ldc C 1740896689 f_c7 dL_at_12 ?_
    refine gr_iloadn C 1 1 dL_at_14 rfl rfl ?_
    refine gr_iconst C 1 dL_at_15 (by decide) ?_
    refine gr_iadd C dL_at_16 ?_
    refine gr_imul C dL_at_17 ?_
    refine gr_ldc C 257611309 f_c8 dL_at_18 ?_
    refine gr_iadd C dL_at_20 ?_
    exact gr_iret C E dL_at_21 rfl
  · refine gr_aloadn C 0 0 dL_at_6 rfl rfl ?_
    refine gr_iloadn C 1 1 dL_at_7 rfl rfl ?_
    have hin : vp_in (nI k) L := by
      have hkL : k < L := Nat.lt_of_not_le fun z => c1 (nI_le (a := L) (b := k) z (by omega))
      exact vp_nI hkL (by omega)
    refine gr_scr C hX hb0 hin dL_at_8 ?_
    refine gr_goto C 21 dL_at_9 (by decide) ?_
    exact gr_iret C E dL_at_21 rfl
theorem gr_callA (C : rx_Cx p l s m args c meth cc nL hd D K E0 B b0 R) (hX : va_X b L xs s s.heap) (hb0 : b < b0) {k : Nat} (hk : k < 1000) (hL : L ≤ 260) (hR : 0 + 1 ≤ R.frames ∧ 8 + (2 + 11) + 48 * 0 ≤ R.locals)
    (hdg : decode cc pc = .ok (.invokestatic 350, 3)) (hst : (st.map fun v => v.category).sum ≤ 8)
    (kk : ∀ r : Int32, GR p l e R s m args below meth c nL D K E0 B b0 Q S (pc + 3) lv (.int r :: st)) : GR p l e R s m args below meth c nL D K E0 B b0 Q S pc lv (.int (nI k) :: .ref b :: st) := by
  refine gr_room (fun hr => ?_)
  refine gr_run C (P := fun _ t' => t' = S) (a := #[.ref b, .int (nI k)]) (szC S.1, nsC S.1) hr ⟨Nat.le_refl _, Nat.le_refl _⟩ (fun G H locs ls hP hA hO hS hl hb9 => ?_) (fun r S' h _ _ => by rw [h]; exact kk r)
  exact vx_runS (As := [.ref b, .int (nI k)]) (rest := st) ⟨C.1, C.2.1, C.2.2.1, C.2.2.2.1, C.2.2.2.2.1⟩ (c_L_at (D := D) (K := K) (E0 := E0) (b0 := b0) (B := (szC S.1, nsC S.1)) (S := S) (xs := xs) l hk hL hb0 C.2.2.2.2.2.2.2.2.1 (Nat.le_refl _) (Nat.le_refl _)) (va_cwS 2 C.2.2.2.2.1 (gU (by rw [show yL_at.cls = RL from rfl]; exact fs_350) kc_L_at) rfl rfl rfl hk_L_at.2 hR)
    ⟨a_blind, fun U hU hW => ⟨rfl, ⟨⟨G, by rw [hU]; exact hP, hA⟩, va_K.moved hW.alike C.2.2.2.2.2.1, by rw [hU]; exact StC.kept (StC.moved hW.alike C.2.2.2.2.2.2.2.1) hS.2.1, c_Ev.warm hW C.2.2.2.2.2.2.2.2.2.2.2.1, by rw [hU]; exact hO, NcS.moved hW.alike C.2.2.2.2.2.2.2.2.2.2.2.2⟩, by rw [hU]; exact va_X.kept (va_X.moved hW.alike hX) (hS.2.1 b (Nat.lt_of_lt_of_le hb0 C.2.2.2.2.2.2.2.2.2.2.1) (fun h => Nat.lt_irrefl _ (Nat.lt_of_lt_of_le hb0 h)))⟩⟩ rfl rfl hl.1 rfl (lv_room hst) hdg hb9
theorem gr_new14 (C : rx_Cx p l s m args c meth cc nL hd D K E0 B b0 R) (hroom : szC S.1 + 1 ≤ B.1 ∧ nsC S.1 + 3 ≤ B.2) (hfr : S.2 (szC S.1) = none) (d : decode cc pc = .ok (.new 11, 3)) (k : kdC S.1 (szC S.1) = 0 → GR p l e R s m args below meth c nL D K E0 B b0 Q (newO S.1 14, S.2) (pc + 3) lv (.ref (szC S.1) :: st)) : GR p l e R s m args below meth c nL D K E0 B b0 Q S pc lv st := by
  intro G H locs ls hP hA hO hS hs h1 h2 hl
  have y1 : H.size = szC S.1 := hP.2.2.1
  have y2 : hsl H = nsC S.1 := hP.2.2.2
  have z0 : s.heap.size ≤ H.size := hS.1
  have hR1 : R.cells = B.1 - s.heap.size := C.2.2.2.2.2.2.1.1
  have hR2 : R.slots = B.2 - hsl s.heap := C.2.2.2.2.2.2.1.2
  have hb0 : b0 ≤ s.heap.size := C.2.2.2.2.2.2.2.2.2.2.1
  have hKn := C.2.2.2.2.2.1.1 14 _ BX11.1
  have hins : (Cond.instantiable RX11 3).before args s = true := C.2.2.2.2.1 _ (List.mem_cons_of_mem _ f_inst)
  refine W.newcK C.1 C.2.1 C.2.2.2.1 (C.2.2.2.2.1 _ (List.mem_cons_of_mem _ f_link)) hins (C.2.2.2.2.1 _ (List.mem_cons_of_mem _ f_ini)) rfl d (by rw [hR1]; omega) (by rw [hR2]; omega) hKn.2.1 rfl fun H1 kC hkC e1 z1 o1 => ?_
  obtain ⟨c9, k9, f1, f2, -, -, -, f3⟩ := Cond.instantiable_spec hins
  cases hKn.2.1.symm.trans f1
  cases hkC.symm.trans f2
  have hk0 : kdC S.1 (szC S.1) = 0 := Classical.byContradiction fun h => Nat.lt_irrefl _ (hP.kd_lt h)
  have hsz : (blank (D.1 14) kC).slots.size = cNF 14 := by
    rw [show cNF 14 = 3 from rfl, ← f3]
    simp [blank]
  have hat : va_at D vwCl (H.size, .inr (14, c_fs (newO S.1 14) 14 (szC S.1))) H1 := ⟨_, BX11.1, (u_born tyX11 C.2.2.2.2.1 (fun w h => List.mem_cons_of_mem _ (BX11.2.1 w h)) hKn hkC e1 BX11.2.2.1).to (fun j hj => by
    have hj2 : j < cNF 14 := hj
    rw [hd_X11 j hj]
    unfold vp_V
    rw [List.getD_eq_getElem?_getD, c_fget hj2, newO_fs (ci := 14) (by decide) (by decide) j hj2]
    rfl)⟩
  have hP1 := hP.new (by decide) (by decide) z1 e1 o1 hsz hat
  have es : hsl H1 = nsC S.1 + 3 := hP1.2.2.2
  have hO1 : rOK D K b0 S.2 H1 := fun a x hx => ⟨(hO a x hx).1, va_at.kept (hO a x hx).2 (o1 a (hO a x hx).2.lt)⟩
  have kk := k hk0 _ H1 locs ls hP1 (fun q hq => by
    rcases hq with h | h
    · by_cases hq2 : q = szC S.1
      · rw [hq2]
        exact ⟨by omega, hfr⟩
      · refine hA q (Or.inl ?_)
        have h9 : (va_up G.1 (szC S.1) (14, szC S.1) q).1 ≠ 0 := h
        rw [va_up_ne _ _ hq2] at h9
        exact h9
    · have h9 : szC S.1 + 1 ≤ q := h
      exact hA q (Or.inr (by omega))) hO1 ⟨Nat.le_trans hS.1 (by omega), fun x h3 h4 => (o1 x (Nat.lt_of_lt_of_le h3 hS.1)).trans (hS.2.1 x h3 h4), hS.2.2⟩ (by omega) hroom.1 hroom.2 hl
  rw [z1, es] at kk
  refine W.widen (k := H.size + 1 - s.heap.size) (n := nsC S.1 + 3 - hsl s.heap) (by omega) (by show hsl H - hsl s.heap + 3 ≤ _; omega) ?_
  rw [← y1] at kk
  exact kk
theorem gr_init14 (C : rx_Cx p l s m args c meth cc nL hd D K E0 B b0 R) {o : Nat} {P : CS → Prop} (B1 : Nat × Nat) (hB : B1.1 ≤ B.1 ∧ B1.2 ≤ B.2) (hB2 : szC S.1 ≤ B1.1 ∧ nsC S.1 ≤ B1.2) (hM' : MetC l yX11_init cX11_init 1 none 5 [.ref o] (qV P) (fun _ _ => False) D K E0 B1 (rA0 b0 S.2) S.1) (hR : 5 + 1 ≤ R.frames ∧ 8 + (1 + 11) + 48 * 5 ≤ R.locals)
    (d : decode cc pc = .ok (.invokespecial 346, 3)) (hst : (st.map fun v => v.category).sum ≤ 8) (kk : ∀ S' : CS, P S' → szC S' ≤ B1.1 → nsC S' ≤ B1.2 → GR p l e R s m args below meth c nL D K E0 B b0 Q (S', S.2) (pc + 3) lv st) : GR p l e R s m args below meth c nL D K E0 B b0 Q S pc lv (.ref o :: st) := by
  intro G H locs ls hP hA hO hS hs h1 h2 hl T hT X9
  have y1 : H.size = szC S.1 := hP.2.2.1
  have y2 : hsl H = nsC S.1 := hP.2.2.2
  have z0 : s.heap.size ≤ H.size := hS.1
  have hb9 : (H.size - s.heap.size) + (B1.1 - szC S.1) ≤ R.cells ∧ (hsl H - hsl s.heap) + (B1.2 - nsC S.1) ≤ R.slots := by
    rw [C.2.2.2.2.2.2.1.1, C.2.2.2.2.2.2.1.2]
    omega
  have hrun := vx_runI (meth := meth) (below := below) (e := e) (g := F0 m pc ls (.ref o :: st)) (H := H) (locs := locs) (cells := H.size - s.heap.size) (slots := hsl H - hsl s.heap) (As := []) (rest := st) (R := R) (p := p) (l := l) (s := s) (m := m) (args := args) (c := c) ⟨C.1, C.2.1, C.2.2.1, C.2.2.2.1, C.2.2.2.2.1⟩ (hM' C.2.2.2.2.2.2.2.2.1 hB2.1 hB2.2) (cwI 0 C.2.2.2.2.1 (fun w h => gU (pre := []) (fun w h => by cases h) kc_X11_init w h) rfl rfl rfl (C.2.2.2.2.1 _ (List.mem_cons_of_mem _ f_ini)) (C.2.2.2.2.1 _ (List.mem_cons_of_mem _ f_il)) (C.2.2.2.2.1 _ (List.mem_cons_of_mem _ f_im)) rfl hk_X11_init.2 hR)
    ⟨c_blind, fun U hU hW => ⟨rfl, ⟨G, by rw [hU]; exact hP, hA⟩, va_K.moved hW.alike C.2.2.2.2.2.1, by rw [hU]; exact StC.narrow (StC.kept (StC.moved hW.alike C.2.2.2.2.2.2.2.1) hS.2.1) (fun q hq => hq.1), c_Ev.warm hW C.2.2.2.2.2.2.2.2.2.2.2.1⟩⟩ rfl rfl hl.1 rfl (lv_room hst) d hb9
  have keep : ∀ T' : Heap, (∀ q : Nat, q < H.size → ¬ rA0 b0 S.2 q → T'[q]? = H[q]?) → rOK D K b0 S.2 T' := fun T' k2 a x hx => ⟨(hO a x hx).1, va_at.kept (hO a x hx).2 (k2 a (hO a x hx).2.lt (fun z => by
    have z2 : S.2 a = none := z.2
    rw [hx] at z2
    cases z2))⟩
  rcases hrun T hT X9 with ⟨v, st₀, t1, T', L9, h0, X', hL, e1, e2, ⟨⟨v', S', hv, ⟨⟨hp0, hp⟩, hk⟩, G', hP', hA'⟩, hF⟩, stp⟩ | ⟨q, st₀, t1, T', L9, E, ce, h0, X', hL, e1, e2, ⟨⟨S', hq, hq2⟩, hF⟩, hce, hcv, hcl, stp⟩
  · cases hv
    subst hp0
    obtain ⟨k1, k2, k3⟩ := vx_keep (A0 := rW b0) h0 e1 hS (fun q _ z => z.1) (fun q z => z.1) hL hF
    have hb := stand_slots X'
    rw [← e1] at hP'
    have z1 : T'.heap.size = szC S' := hP'.2.2.1
    have z2 : hsl T'.heap = nsC S' := hP'.2.2.2
    obtain ⟨t2, a1, b1⟩ := kk S' hp (by omega) (by omega) G' T'.heap (locs ++ L9) ls hP' hA' (keep _ k2) k3 hb.1 (by show szC S' ≤ B.1; omega) (by show nsC S' ≤ B.2; omega) hl T' rfl (stand_norm X')
    exact ⟨t2, stp t2 a1, b1⟩
  · exact hq.elim
end FR
def lB (s : State) : Nat × Nat := (s.heap.size + 789001, hsl s.heap + 6734766)
theorem gr_end {p : Program} {l : Launch} {e : Env} {s : State} {m : MethodId} {b : Nat} {below : List Frame} {meth : Method} {c : Code} {hd : Cond} {D : va_G} {K : Nat → ClassId} {E0 : Nat} {S : LwS} {pc : Nat} {lv : List (Nat × Value)} (C : rx_Cx p l s m #[Value.ref b] c meth code 7 hd D K E0 (lB s) s.heap.size room_1) (hr : meth.sig.returnType = ret) (d : decode code pc = .ok (.ireturn, 1)) : GR p l e room_1 s m #[Value.ref b] below meth c 7 D K E0 (lB s) s.heap.size (lw_Z below #[Value.ref b] s) S pc lv [.int 1] := by
  intro G H locs ls hP hA hO hS hs h1 h2 hl
  have y1 : H.size = szC S.1 := hP.2.2.1
  have y2 : hsl H = nsC S.1 := hP.2.2.2
  have h1' : szC S.1 ≤ s.heap.size + 789001 := h1
  have h2' : nsC S.1 ≤ hsl s.heap + 6734766 := h2
  have z0 : s.heap.size ≤ H.size := hS.1
  refine va_forget (fun q hq => hS.2.2 q hq) (W.widen (k := 789001) (n := 6734766) (by omega) (by omega) ?_)
  exact lw_ret C.1 C.2.1 hr C.2.2.2.2.2.2.2.2.2.1 d
