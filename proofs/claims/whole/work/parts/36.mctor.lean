/-! THE MODEL IS MADE: 36 rows, one behind the other, behind the object -/
def m_idx (k : Nat) : Nat := m_kinds.idxOf k
def m_ad (mo k : Nat) : Nat := mo + 1 + m_idx k
def m_sum (j : Nat) : Nat := ((m_kinds.take j).map m_len).sum
def m_fp (mo j : Nat) (I : Nat → Int32) (k : Nat) : Value := if m_isI k then .int (I k) else if m_idx k < j then .ref (m_ad mo k) else .null
def m_fsp (mo j : Nat) (I : Nat → Int32) : List Value := (List.range 46).map (m_fp mo j I)
def m_c0 (cI cZ : ClassId) (k : Nat) : va_E := .inl (if m_isZ k then cZ else cI, m_len k, .inl (fun _ => 0))
def m_t0 : MS := (fun k => if k = 23 then 1500 else if k = 22 then 4 else if k = 21 then 120 else 0, fun _ _ => 0)
theorem mi_get {k : Nat} (h46 : k < 46) (hI : m_isI k = false) : m_kinds[m_idx k]? = some k := by
  have h := rgA (n := 46) (p := fun k => m_isI k || decide (m_kinds[m_idx k]? = some k)) (by decide +kernel) h46
  simp only [hI, Bool.false_or, decide_eq_true_eq] at h
  exact h
theorem mi_of {i k : Nat} (h : m_kinds[i]? = some k) : m_idx k = i ∧ k < 46 ∧ m_isI k = false ∧ i < 36 := by
  have hi : i < 36 := (List.getElem?_eq_some_iff.mp h).1
  have h1 := rgA (n := 36) (p := fun i => decide (∀ k, m_kinds[i]? = some k → True) && (match m_kinds[i]? with | some k => decide (m_idx k = i) && decide (k < 46) && !m_isI k | none => false)) (by decide +kernel) hi
  simp only [h, Bool.and_eq_true, decide_eq_true_eq, Bool.not_eq_true'] at h1
  exact ⟨h1.2.1.1, h1.2.1.2, h1.2.2, hi⟩
theorem m_sum_succ {j k : Nat} (h : m_kinds[j]? = some k) : m_sum (j + 1) = m_sum j + m_len k := by
  unfold m_sum
  rw [List.take_add_one, h]
  simp
theorem m_fpget {mo j k : Nat} {I : Nat → Int32} (h : k < 46) : (m_fsp mo j I)[k]? = some (m_fp mo j I k) := by
  unfold m_fsp
  rw [List.getElem?_map, List.getElem?_range h]
  rfl
theorem m_fplen {mo j : Nat} {I : Nat → Int32} : (m_fsp mo j I).length = 46 := by simp [m_fsp]
theorem m_fpset {mo j k : Nat} {I : Nat → Int32} (h : m_kinds[j]? = some k) : (m_fsp mo j I).set k (.ref (mo + 1 + j)) = m_fsp mo (j + 1) I := by
  obtain ⟨h1, h2, h3, -⟩ := mi_of h
  apply List.ext_getElem?
  intro i
  rw [List.getElem?_set]
  by_cases hi : k = i
  · subst hi
    rw [if_pos rfl, m_fplen, if_pos h2, m_fpget h2]
    unfold m_fp m_ad
    rw [h3, h1]
    simp
  · rw [if_neg hi]
    by_cases h46 : i < 46
    · rw [m_fpget h46, m_fpget h46]
      unfold m_fp
      cases hI : m_isI i with
      | true => rfl
      | false =>
        have hne : m_idx i ≠ j := fun e => hi (by
          have h9 := mi_get h46 hI
          rw [e, h] at h9
          exact Option.some.inj h9)
        by_cases hl : m_idx i < j
        · simp [hl, show m_idx i < j + 1 by omega]
        · simp [hl, show ¬ m_idx i < j + 1 by omega]
    · rw [List.getElem?_eq_none (by rw [m_fplen]; omega), List.getElem?_eq_none (by rw [m_fplen]; omega)]
theorem m_fpput {mo j k : Nat} {I : Nat → Int32} {v : Int32} (h46 : k < 46) (hk : m_isI k = true) : (m_fsp mo j I).set k (.int v) = m_fsp mo j (va_up I k v) := by
  apply List.ext_getElem?
  intro i
  rw [List.getElem?_set]
  by_cases hi : k = i
  · subst hi
    rw [if_pos rfl, m_fplen, if_pos h46, m_fpget h46]
    simp [m_fp, hk, va_up]
  · rw [if_neg hi]
    by_cases h2 : i < 46
    · rw [m_fpget h2, m_fpget h2]
      simp [m_fp, va_up, Ne.symm hi]
    · rw [List.getElem?_eq_none (by rw [m_fplen]; omega), List.getElem?_eq_none (by rw [m_fplen]; omega)]
theorem m_fpall {mo : Nat} {I : Nat → Int32} : m_fsp mo 36 I = m_fs (m_ad mo) I := by
  apply List.ext_getElem?
  intro i
  by_cases h46 : i < 46
  · rw [m_fpget h46, m_fget h46]
    unfold m_fp m_fv
    cases hI : m_isI i with
    | true => rfl
    | false =>
      have h9 := (mi_of (mi_get h46 hI)).2.2.2
      simp [h9]
  · rw [List.getElem?_eq_none (by rw [m_fplen]; omega), List.getElem?_eq_none (by rw [m_flen]; omega)]
theorem m_adap (mo : Nat) : m_apart mo (m_ad mo) := by
  refine ⟨fun k _ h => ?_, fun k j hk hj h => ?_⟩
  · unfold m_ad at h; omega
  · obtain ⟨a, ha⟩ := m_pos hk
    obtain ⟨b, hb⟩ := m_pos hj
    have e1 := (mi_of ha).1
    have e2 := (mi_of hb).1
    unfold m_ad at h
    have e3 : a = b := by omega
    subst e3
    exact Option.some.inj (ha.symm.trans hb)
def rmX : Room := { frames := 1, cells := 36, slots := m_sum 36, locals := 48 }
def x_Pre (D : va_G) (cI cZ : ClassId) (mo : Nat) : Array Value → State → Prop := va_Pc [.ref mo] (fun U => va_at D vwCl (mo, .inr (15, m_fsp mo 0 (fun _ => 0))) U.heap ∧ U.heap.size = mo + 1 ∧ va_K D vwCl [(cI, .int), (cZ, .boolean)] U)
def x_Post (D : va_G) (cI cZ : ClassId) (mo : Nat) : Array Value → State → Outcome → State → Prop := fun _ st o u => (o = .returned none ∧ va_P D vwCl (m_ws cI cZ mo (m_ad mo) m_t0) u.heap ∧ u.heap.size = mo + 37 ∧ hsl u.heap = hsl st.heap + m_sum 36) ∧ va_F (fun q => mo ≤ q) st u
section GX
variable {p : Program} {l : Launch} {e : Env} {R : Room} {s : State} {m : MethodId} {args : Array Value} {below : List Frame} {meth : Method} {c : Code} {Q : State → Prop}
variable {cc : ByteArray} {nL : Nat} {hd : Cond} {D : va_G} {cI cZ : ClassId} {mo : Nat}
variable {j : Nat} {I : Nat → Int32} {pc : Nat} {lv : List (Nat × Value)} {st : List Value}
def gx_Cx (p : Program) (s : State) (m : MethodId) (args : Array Value) (c : Code) (meth : Method) (cc : ByteArray) (nL : Nat) (hd : Cond) (D : va_G) (cI cZ : ClassId) : Prop :=
  p.tables.exec = Jvm.exec ∧ c.code = cc ∧ c.maxLocals = nL ∧ s.vm.findClass RX12 = some m.cls ∧ (∀ w ∈ hd :: wU, w.before args s = true) ∧ va_K D vwCl [(cI, .int), (cZ, .boolean)] s ∧ meth.locks = false ∧ meth.name = "<init>"
def GX (p : Program) (l : Launch) (e : Env) (R : Room) (s : State) (m : MethodId) (args : Array Value) (below : List Frame) (meth : Method) (c : Code) (nL : Nat) (D : va_G) (cI cZ : ClassId) (mo : Nat) (Q : State → Prop) (j : Nat) (I : Nat → Int32) (pc : Nat) (lv : List (Nat × Value)) (st : List Value) : Prop :=
  ∀ (H : Heap) (locs : List Loc) (ls : Array Slot), va_at D vwCl (mo, .inr (15, m_fsp mo j I)) H → (∀ i k, i < j → m_kinds[i]? = some k → va_at D vwCl (mo + 1 + i, m_c0 cI cZ k) H) → H.size = mo + 1 + j → hsl H = hsl s.heap + m_sum j → va_S (fun q => mo ≤ q) s.heap H locs → lv_has ls nL lv →
    W p l e R s m args below meth c H locs j (m_sum j) Q (F0 m pc ls st)
theorem gx_iconst (C : gx_Cx p s m args c meth cc nL hd D cI cZ) {n : Int} (v : Int32) (d : decode cc pc = .ok (.iconst n, 1)) (hv : Int32.ofInt n = v) (k : GX p l e R s m args below meth c nL D cI cZ mo Q j I (pc + 1) lv (.int v :: st)) : GX p l e R s m args below meth c nL D cI cZ mo Q j I pc lv st :=
  fun H locs ls h1 h2 h3 h4 hS hl => lv_iconst C.1 C.2.1 d hv (k H locs ls h1 h2 h3 h4 hS hl)
theorem gx_bipush (C : gx_Cx p s m args c meth cc nL hd D cI cZ) {n : Int} (v : Int32) (d : decode cc pc = .ok (.bipush n, 2)) (hv : (Int8.ofInt n).toInt32 = v) (k : GX p l e R s m args below meth c nL D cI cZ mo Q j I (pc + 2) lv (.int v :: st)) : GX p l e R s m args below meth c nL D cI cZ mo Q j I pc lv st :=
  fun H locs ls h1 h2 h3 h4 hS hl => lv_bipush C.1 C.2.1 d hv (k H locs ls h1 h2 h3 h4 hS hl)
theorem gx_sipush (C : gx_Cx p s m args c meth cc nL hd D cI cZ) {n : Int} (v : Int32) (d : decode cc pc = .ok (.sipush n, 3)) (hv : (Int16.ofInt n).toInt32 = v) (k : GX p l e R s m args below meth c nL D cI cZ mo Q j I (pc + 3) lv (.int v :: st)) : GX p l e R s m args below meth c nL D cI cZ mo Q j I pc lv st :=
  fun H locs ls h1 h2 h3 h4 hS hl => lv_sipush C.1 C.2.1 d hv (k H locs ls h1 h2 h3 h4 hS hl)
theorem gx_aload0 (C : gx_Cx p s m args c meth cc nL hd D cI cZ) {x : Nat} (d : decode cc pc = .ok (.aload_n 0, 1)) (hv : lv[0]? = some (0, .ref x)) (k : GX p l e R s m args below meth c nL D cI cZ mo Q j I (pc + 1) lv (.ref x :: st)) : GX p l e R s m args below meth c nL D cI cZ mo Q j I pc lv st :=
  fun H locs ls h1 h2 h3 h4 hS hl => lv_aload_n (i := 0) C.1 C.2.1 d rfl (lv_at hl 0 hv) (k H locs ls h1 h2 h3 h4 hS hl)
theorem gx_obj (C : gx_Cx p s m args c meth cc nL hd D cI cZ) {ix : Nat} {o : Nat} (hR : R = rmX) (hw : ∀ w ∈ ([.methodLink RX12 ix Lib.objectInit, .instanceMethod Lib.objectInit, .code Lib.objectInit ⟨#[0xb1]⟩ 1 none] : List Cond), w ∈ wU) (hst : (st.map fun v => v.category).sum ≤ 8) (hdg : decode cc pc = .ok (.invokespecial ix, 3))
    (k : GX p l e R s m args below meth c nL D cI cZ mo Q j I (pc + 3) lv st) : GX p l e R s m args below meth c nL D cI cZ mo Q j I pc lv (.ref o :: st) := by
  intro H locs ls h1 h2 h3 h4 hS hl
  have hRf : R.frames = 1 ∧ R.locals = 48 := by rw [hR]; exact ⟨rfl, rfl⟩
  exact W.objInit C.1 C.2.1 C.2.2.2.1 (C.2.2.2.2.1 _ (List.mem_cons_of_mem _ (hw _ (by simp)))) (C.2.2.2.2.1 _ (List.mem_cons_of_mem _ (hw _ (by simp)))) (C.2.2.2.2.1 _ (List.mem_cons_of_mem _ (hw _ (by simp)))) rfl (by rw [C.2.2.1]; exact hl.1) rfl hdg (by omega) (by show 2 * 0 + _ + 12 ≤ _; omega) (k H locs ls h1 h2 h3 h4 hS hl)
theorem gx_attI (C : gx_Cx p s m args c meth cc nL hd D cI cZ) (hR : R = rmX) (k0 : Nat) (hj : m_kinds[j]? = some k0) (hz : m_isZ k0 = false) {ix : Nat} {n : Int32} (hwa : Cond.arrayClass .int ∈ wU) (hw : Cond.fieldLink RX12 ix RX12 (TX12 k0).2.1 (TX12 k0).2.2.1 ∈ wU) (hT : (TX12 k0).1 = RX12) (hfin : (TX12 k0).2.2.2 = true) (hd1 : parseFieldDescriptor (TX12 k0).2.2.1 = some (.array .int)) (hn : ¬ n < 0) (hN : n.toNatClampNeg = m_len k0) (hsum : m_sum (j + 1) ≤ m_sum 36) (hby : m_len k0 ≤ 4000)
    (d : decode cc pc = .ok (.newarray .int, 2)) (d2 : decode cc (pc + 2) = .ok (.putfield ix, 3)) (k : GX p l e R s m args below meth c nL D cI cZ mo Q (j + 1) I (pc + 5) lv st) : GX p l e R s m args below meth c nL D cI cZ mo Q j I pc lv (.int n :: .ref mo :: st) := by
  intro H locs ls h1 h2 h3 h4 hS hl
  obtain ⟨i1, i2, i3, i4⟩ := mi_of hj
  have hsu := m_sum_succ hj
  have hc : vwCl[15]? = some (RX12, TX12, 46) := rfl
  have hap := va_apart (own := RX12) (Ts := hd :: wU) C.2.2.2.2.1 (fun w h => List.mem_cons_of_mem _ (u_X12 w h)) tyX12 tyX12_ok nmX12 C.2.2.2.2.2.1 hc
  obtain ⟨r, gr, cell, q1, q2, q3, q4⟩ := h1
  have hr : r = (RX12, TX12, 46) := Option.some.inj (gr.symm.trans hc)
  subst hr
  obtain ⟨hSS, hfc, kC, hkC, hkind⟩ := C.2.2.2.2.2.1.1 15 _ hc
  obtain ⟨cf, kf, fi, fd, hi, hsl0⟩ := hSS k0 i2
  have hlay := C.2.2.2.2.1 _ (List.mem_cons_of_mem _ (u_X12 _ (u_in_lay i2)))
  have hlink := C.2.2.2.2.1 _ (List.mem_cons_of_mem _ hw)
  have hi2 := hi
  rw [hT] at hi2
  unfold u_lay at hlay
  rw [if_pos hfin] at hlay
  have hst := (u_facts hfc hkC (Or.inr hlay) hi).1
  have hcf : m.cls = cf := by
    obtain ⟨_, _, c', _, _, _, -, -, hf', -, -, -, hown2, -⟩ := Cond.laysFinal_spec hlay
    have e1 : c' = cf := by have := hi.symm.trans hf'; simp at this; exact this.1.symm
    rw [hT] at hown2
    rw [← e1]; exact Option.some.inj (C.2.2.2.1.symm.trans hown2)
  have h6 := u_fits hfc hkC hkind (Or.inr hlay) hi (v := .ref H.size) hd1 rfl rfl
  have hRc : R.cells = 36 ∧ R.slots = m_sum 36 := by rw [hR]; exact ⟨rfl, rfl⟩
  refine va_newaK (atype := .int) C.1 C.2.1 (C.2.2.2.2.1 _ (List.mem_cons_of_mem _ hwa)) rfl d rfl hn hN (by show m_len k0 * 4 ≤ 536870912; omega) (by omega) (by omega) rfl fun H1 cA e1 z1 o1 hAr hNm => ?_
  have hcA : cI = cA := Option.some.inj (((C.2.2.2.2.2.1.2 0 _ rfl).2).symm.trans hNm)
  subst hcA
  have hml : mo < H.size := by omega
  have q1' : H1[mo]? = some cell := (o1 mo hml).trans q1
  refine W.putFinK C.1 C.2.1 C.2.2.2.1 hlink hi2 hst hcf C.2.2.2.2.2.2.2 (by rw [q2]; exact h6) q1' q3 (by rw [hsl0]; exact k2_hasslot (q4 k0 i2)) rfl rfl d2 fun H2 w1 w2 w3 => ?_
  have w3 : ∀ q : Nat, q ≠ mo → H2[q]? = H1[q]? := w3
  have hat : va_at D vwCl (mo, .inr (15, (m_fsp mo j I).set k0 (.ref (mo + 1 + j)))) H2 := by
    rw [hsl0] at w1
    rw [← h3]
    exact ⟨_, hc, t_OB.to (V := updV (vp_V (m_fsp mo j I)) k0 (.ref H.size)) ⟨_, w1, q2, q3, t_set q4 hap i2 _⟩ (fun j _ => vp_updV_set (by rw [m_fplen]; exact i2) _ j)⟩
  rw [m_fpset hj] at hat
  have hnew : va_at D vwCl (mo + 1 + j, m_c0 cI cZ k0) H2 := by
    unfold m_c0
    rw [hz, ← h3]
    show H2[H.size]? = some (vp_cell _ _)
    rw [w3 H.size (by omega), e1]
    rfl
  have hs1 : hsl H1 = hsl H + m_len k0 := by
    rw [hsl_push z1 e1 o1, arrV_size]
  have hs2 : hsl H2 = hsl H1 := hsl_set w2 q1' w1 (k2_slotsz _ _ _) w3
  have hS1 : va_S (fun q => mo ≤ q) s.heap H1 locs := ⟨Nat.le_trans hS.1 (by omega), fun x h3 h4 => (o1 x (Nat.lt_of_lt_of_le h3 hS.1)).trans (hS.2.1 x h3 h4), hS.2.2⟩
  have kk := k H2 _ ls hat (fun i k9 hi9 hk9 => by
    by_cases hij : i = j
    · subst hij
      rw [Option.some.inj (hk9.symm.trans hj)]
      exact hnew
    · have g9 := h2 i k9 (by omega) hk9
      exact va_at.kept (show va_at D vwCl (mo + 1 + i, m_c0 cI cZ k9) H from g9) ((w3 (mo + 1 + i) (by omega)).trans (o1 (mo + 1 + i) (by omega)))) (by omega) (by rw [hs2, hs1, h4, hsu]; omega) (hS1.put (k := fd.slot) w2 w3 (Nat.le_refl mo)) hl
  rw [hsu] at kk
  exact kk
theorem gx_attZ (C : gx_Cx p s m args c meth cc nL hd D cI cZ) (hR : R = rmX) (k0 : Nat) (hj : m_kinds[j]? = some k0) (hz : m_isZ k0 = true) {ix : Nat} {n : Int32} (hwa : Cond.arrayClass .boolean ∈ wU) (hw : Cond.fieldLink RX12 ix RX12 (TX12 k0).2.1 (TX12 k0).2.2.1 ∈ wU) (hT : (TX12 k0).1 = RX12) (hfin : (TX12 k0).2.2.2 = true) (hd1 : parseFieldDescriptor (TX12 k0).2.2.1 = some (.array .boolean)) (hn : ¬ n < 0) (hN : n.toNatClampNeg = m_len k0) (hsum : m_sum (j + 1) ≤ m_sum 36) (hby : m_len k0 ≤ 4000)
    (d : decode cc pc = .ok (.newarray .boolean, 2)) (d2 : decode cc (pc + 2) = .ok (.putfield ix, 3)) (k : GX p l e R s m args below meth c nL D cI cZ mo Q (j + 1) I (pc + 5) lv st) : GX p l e R s m args below meth c nL D cI cZ mo Q j I pc lv (.int n :: .ref mo :: st) := by
  intro H locs ls h1 h2 h3 h4 hS hl
  obtain ⟨i1, i2, i3, i4⟩ := mi_of hj
  have hsu := m_sum_succ hj
  have hc : vwCl[15]? = some (RX12, TX12, 46) := rfl
  have hap := va_apart (own := RX12) (Ts := hd :: wU) C.2.2.2.2.1 (fun w h => List.mem_cons_of_mem _ (u_X12 w h)) tyX12 tyX12_ok nmX12 C.2.2.2.2.2.1 hc
  obtain ⟨r, gr, cell, q1, q2, q3, q4⟩ := h1
  have hr : r = (RX12, TX12, 46) := Option.some.inj (gr.symm.trans hc)
  subst hr
  obtain ⟨hSS, hfc, kC, hkC, hkind⟩ := C.2.2.2.2.2.1.1 15 _ hc
  obtain ⟨cf, kf, fi, fd, hi, hsl0⟩ := hSS k0 i2
  have hlay := C.2.2.2.2.1 _ (List.mem_cons_of_mem _ (u_X12 _ (u_in_lay i2)))
  have hlink := C.2.2.2.2.1 _ (List.mem_cons_of_mem _ hw)
  have hi2 := hi
  rw [hT] at hi2
  unfold u_lay at hlay
  rw [if_pos hfin] at hlay
  have hst := (u_facts hfc hkC (Or.inr hlay) hi).1
  have hcf : m.cls = cf := by
    obtain ⟨_, _, c', _, _, _, -, -, hf', -, -, -, hown2, -⟩ := Cond.laysFinal_spec hlay
    have e1 : c' = cf := by have := hi.symm.trans hf'; simp at this; exact this.1.symm
    rw [hT] at hown2
    rw [← e1]; exact Option.some.inj (C.2.2.2.1.symm.trans hown2)
  have h6 := u_fits hfc hkC hkind (Or.inr hlay) hi (v := .ref H.size) hd1 rfl rfl
  have hRc : R.cells = 36 ∧ R.slots = m_sum 36 := by rw [hR]; exact ⟨rfl, rfl⟩
  refine va_newaK (atype := .boolean) C.1 C.2.1 (C.2.2.2.2.1 _ (List.mem_cons_of_mem _ hwa)) rfl d rfl hn hN (by show m_len k0 * 1 ≤ 536870912; omega) (by omega) (by omega) rfl fun H1 cA e1 z1 o1 hAr hNm => ?_
  have hcA : cZ = cA := Option.some.inj (((C.2.2.2.2.2.1.2 1 _ rfl).2).symm.trans hNm)
  subst hcA
  have hml : mo < H.size := by omega
  have q1' : H1[mo]? = some cell := (o1 mo hml).trans q1
  refine W.putFinK C.1 C.2.1 C.2.2.2.1 hlink hi2 hst hcf C.2.2.2.2.2.2.2 (by rw [q2]; exact h6) q1' q3 (by rw [hsl0]; exact k2_hasslot (q4 k0 i2)) rfl rfl d2 fun H2 w1 w2 w3 => ?_
  have w3 : ∀ q : Nat, q ≠ mo → H2[q]? = H1[q]? := w3
  have hat : va_at D vwCl (mo, .inr (15, (m_fsp mo j I).set k0 (.ref (mo + 1 + j)))) H2 := by
    rw [hsl0] at w1
    rw [← h3]
    exact ⟨_, hc, t_OB.to (V := updV (vp_V (m_fsp mo j I)) k0 (.ref H.size)) ⟨_, w1, q2, q3, t_set q4 hap i2 _⟩ (fun j _ => vp_updV_set (by rw [m_fplen]; exact i2) _ j)⟩
  rw [m_fpset hj] at hat
  have hnew : va_at D vwCl (mo + 1 + j, m_c0 cI cZ k0) H2 := by
    unfold m_c0
    rw [hz, ← h3]
    show H2[H.size]? = some (vp_cell _ _)
    rw [w3 H.size (by omega), e1]
    rfl
  have hs1 : hsl H1 = hsl H + m_len k0 := by
    rw [hsl_push z1 e1 o1, arrV_size]
  have hs2 : hsl H2 = hsl H1 := hsl_set w2 q1' w1 (k2_slotsz _ _ _) w3
  have hS1 : va_S (fun q => mo ≤ q) s.heap H1 locs := ⟨Nat.le_trans hS.1 (by omega), fun x h3 h4 => (o1 x (Nat.lt_of_lt_of_le h3 hS.1)).trans (hS.2.1 x h3 h4), hS.2.2⟩
  have kk := k H2 _ ls hat (fun i k9 hi9 hk9 => by
    by_cases hij : i = j
    · subst hij
      rw [Option.some.inj (hk9.symm.trans hj)]
      exact hnew
    · have g9 := h2 i k9 (by omega) hk9
      exact va_at.kept (show va_at D vwCl (mo + 1 + i, m_c0 cI cZ k9) H from g9) ((w3 (mo + 1 + i) (by omega)).trans (o1 (mo + 1 + i) (by omega)))) (by omega) (by rw [hs2, hs1, h4, hsu]; omega) (hS1.put (k := fd.slot) w2 w3 (Nat.le_refl mo)) hl
  rw [hsu] at kk
  exact kk
theorem gx_put (C : gx_Cx p s m args c meth cc nL hd D cI cZ) (k0 : Nat) (hk : k0 < 46) (hI : m_isI k0 = true) {ix : Nat} {v : Int32} (hw : Cond.fieldLink RX12 ix RX12 (TX12 k0).2.1 (TX12 k0).2.2.1 ∈ wU) (hT : (TX12 k0).1 = RX12) (hfin : (TX12 k0).2.2.2 = false) (hd1 : parseFieldDescriptor (TX12 k0).2.2.1 = some .int)
    (d : decode cc pc = .ok (.putfield ix, 3)) (k : GX p l e R s m args below meth c nL D cI cZ mo Q j (va_up I k0 v) (pc + 3) lv st) : GX p l e R s m args below meth c nL D cI cZ mo Q j I pc lv (.int v :: .ref mo :: st) := by
  intro H locs ls h1 h2 h3 h4 hS hl
  have hc : vwCl[15]? = some (RX12, TX12, 46) := rfl
  have hap := va_apart (own := RX12) (Ts := hd :: wU) C.2.2.2.2.1 (fun w h => List.mem_cons_of_mem _ (u_X12 w h)) tyX12 tyX12_ok nmX12 C.2.2.2.2.2.1 hc
  obtain ⟨r, gr, cell, q1, q2, q3, q4⟩ := h1
  have hr : r = (RX12, TX12, 46) := Option.some.inj (gr.symm.trans hc)
  subst hr
  obtain ⟨hSS, hfc, kC, hkC, hkind⟩ := C.2.2.2.2.2.1.1 15 _ hc
  obtain ⟨cf, kf, fi, fd, hi, hsl0⟩ := hSS k0 hk
  have hlay := C.2.2.2.2.1 _ (List.mem_cons_of_mem _ (u_X12 _ (u_in_lay hk)))
  have hlink := C.2.2.2.2.1 _ (List.mem_cons_of_mem _ hw)
  have hi2 := hi
  rw [hT] at hi2
  unfold u_lay at hlay
  rw [if_neg (by rw [hfin]; decide)] at hlay
  have hst := (u_facts hfc hkC (Or.inl hlay) hi).1
  have h6 := u_store hfc hkC hkind hlay hi hd1 (v := .int v) rfl rfl
  refine W.putK C.1 C.2.1 (f := fd) ⟨C.2.2.2.1, hlink, ⟨_, _, _, hi2⟩, hst⟩ (by rw [q2]; exact h6) q1 q3 (by rw [hsl0]; exact k2_hasslot (q4 k0 hk)) rfl rfl d fun H' e1 e2 e3 => ?_
  have e3 : ∀ q : Nat, q ≠ mo → H'[q]? = H[q]? := e3
  have hat : va_at D vwCl (mo, .inr (15, (m_fsp mo j I).set k0 (.int v))) H' := by
    rw [hsl0] at e1
    exact ⟨_, hc, t_OB.to (V := updV (vp_V (m_fsp mo j I)) k0 (.int v)) ⟨_, e1, q2, q3, t_set q4 hap hk _⟩ (fun j _ => vp_updV_set (by rw [m_fplen]; exact hk) _ j)⟩
  rw [m_fpput hk hI] at hat
  have hs2 : hsl H' = hsl H := hsl_set e2 q1 e1 (k2_slotsz _ _ _) e3
  exact k H' _ ls hat (fun i k9 hi9 hk9 => va_at.kept (show va_at D vwCl (mo + 1 + i, m_c0 cI cZ k9) H from h2 i k9 hi9 hk9) (e3 (mo + 1 + i) (by omega))) (by omega) (by rw [hs2, h4]) (hS.put (k := fd.slot) e2 e3 (Nat.le_refl mo)) hl
theorem gx_ret (C : gx_Cx p s m args c meth cc nL hd D cI cZ) (hR : R = rmX) (hr : meth.sig.returnType = none) (hI : I = m_t0.1) (d : decode cc pc = .ok (.return_, 1)) : GX p l e R s m args below meth c nL D cI cZ mo (vx_MQ below (x_Post D cI cZ mo) (fun _ _ _ => False) args s 36 (m_sum 36) (fun q => mo ≤ q)) 36 I pc lv [] := by
  intro H locs ls h1 h2 h3 h4 hS hl
  refine vx_ret (W.vret C.1 C.2.1 hr (fun u hu hW => ⟨⟨rfl, ?_, by rw [hu]; exact h3, by rw [hu]; exact h4⟩, hS.F hu⟩) hS.2.2 d C.2.2.2.2.2.2.1)
  rw [hu]
  intro i q hq
  cases i with
  | zero =>
    cases hq
    rw [m_fpall, hI] at h1
    exact h1
  | succ i =>
    have hq2 : (m_kinds.map (m_cell cI cZ (m_ad mo) m_t0.2))[i]? = some q := hq
    rw [List.getElem?_map] at hq2
    cases hk : m_kinds[i]? with
    | none => rw [hk] at hq2; cases hq2
    | some k9 =>
      rw [hk] at hq2
      have h9 := h2 i k9 (mi_of hk).2.2.2 hk
      rw [← Option.some.inj hq2]
      unfold m_cell m_ad
      rw [(mi_of hk).1]
      exact h9
end GX
theorem wa_I : Cond.arrayClass .int ∈ wU := w_at 194 (by decide +kernel) (by decide +kernel)
theorem wa_Z : Cond.arrayClass .boolean ∈ wU := w_at 1864 (by decide +kernel) (by decide +kernel)
theorem mo_1 : ∀ w ∈ ([.methodLink RX12 1 Lib.objectInit, .instanceMethod Lib.objectInit, .code Lib.objectInit ⟨#[0xb1]⟩ 1 none] : List Cond), w ∈ wU := w_3 (w_at 1724 (by decide +kernel) (by decide +kernel)) (w_at 125 (by decide +kernel) (by decide +kernel)) (w_at 126 (by decide +kernel) (by decide +kernel))
set_option maxRecDepth 20000 in
theorem k_model (l : Launch) (D : va_G) (cI cZ : ClassId) (mo : Nat) : vx_Met l yX12_init (.code yX12_init cX12_init 1 none :: wU) rmX (x_Pre D cI cZ mo) (x_Post D cI cZ mo) (fun _ _ _ => False) 36 (m_sum 36) (fun q => mo ≤ q) := by
  refine vx_ofW (cc := cX12_init) (maxL := 1) (ret := none) (by decide) rfl ?_
  intro p e s m args below meth c s₁ Bl hml ht hv
  obtain ⟨rfl, h1, h3, hK⟩ := hv
  have hts := atoms_spec (ws := .code yX12_init cX12_init 1 none :: wU) Bl.pre
  have hown : s.vm.findClass RX12 = some m.cls := findClass_of_methodNamed (x := yX12_init) Bl.named
  have hl := lv_entry [.ref mo] (n := 1) (Nat.le_of_ble_eq_true rfl)
  rw [lg_entry_eq]
  have C : gx_Cx p s m ([.ref mo] : List Value).toArray c meth cX12_init 1 (.code yX12_init cX12_init 1 none) D cI cZ := ⟨Bl.exec, Bl.bytes, hml, hown, hts, hK, Bl.notSynchronized, (name_of_methodNamed Bl.named Bl.method).1⟩
  have hr : meth.sig.returnType = none := Bl.returns
  have key : GX p l e rmX s m ([.ref mo] : List Value).toArray below meth c 1 D cI cZ mo (vx_MQ below (x_Post D cI cZ mo) (fun _ _ _ => False) ([.ref mo] : List Value).toArray s 36 (m_sum 36) (fun q => mo ≤ q)) 0 (fun _ => 0) 0 (lv_args 0 [.ref mo]) [] := by
    refine gx_aload0 C dX12_init_0 rfl ?_
    refine gx_obj C rfl mo_1 (Nat.le_of_ble_eq_true rfl) dX12_init_1 ?_
    refine gx_aload0 C dX12_init_4 rfl ?_
    refine gx_bipush C 24 dX12_init_5 (by decide) ?_
    refine gx_attI C rfl 1 rfl rfl wa_I wf_7 rfl rfl (by decide +kernel) (by decide) (by decide +kernel) (by decide +kernel) (by decide +kernel) dX12_init_7 dX12_init_9 ?_
    refine gx_aload0 C dX12_init_12 rfl ?_
    refine gx_bipush C 24 dX12_init_13 (by decide) ?_
    refine gx_attI C rfl 2 rfl rfl wa_I wf_13 rfl rfl (by decide +kernel) (by decide) (by decide +kernel) (by decide +kernel) (by decide +kernel) dX12_init_15 dX12_init_17 ?_
    refine gx_aload0 C dX12_init_20 rfl ?_
    refine gx_bipush C 24 dX12_init_21 (by decide) ?_
    refine gx_attI C rfl 3 rfl rfl wa_I wf_16 rfl rfl (by decide +kernel) (by decide) (by decide +kernel) (by decide +kernel) (by decide +kernel) dX12_init_23 dX12_init_25 ?_
    refine gx_aload0 C dX12_init_28 rfl ?_
    refine gx_bipush C 24 dX12_init_29 (by decide) ?_
    refine gx_attI C rfl 4 rfl rfl wa_I wf_19 rfl rfl (by decide +kernel) (by decide) (by decide +kernel) (by decide +kernel) (by decide +kernel) dX12_init_31 dX12_init_33 ?_
    refine gx_aload0 C dX12_init_36 rfl ?_
    refine gx_bipush C 24 dX12_init_37 (by decide) ?_
    refine gx_attI C rfl 5 rfl rfl wa_I wf_22 rfl rfl (by decide +kernel) (by decide) (by decide +kernel) (by decide +kernel) (by decide +kernel) dX12_init_39 dX12_init_41 ?_
    refine gx_aload0 C dX12_init_44 rfl ?_
    refine gx_bipush C 96 dX12_init_45 (by decide) ?_
    refine gx_attI C rfl 6 rfl rfl wa_I wf_25 rfl rfl (by decide +kernel) (by decide) (by decide +kernel) (by decide +kernel) (by decide +kernel) dX12_init_47 dX12_init_49 ?_
    refine gx_aload0 C dX12_init_52 rfl ?_
    refine gx_bipush C 96 dX12_init_53 (by decide) ?_
    refine gx_attZ C rfl 7 rfl rfl wa_Z wf_28 rfl rfl (by decide +kernel) (by decide) (by decide +kernel) (by decide +kernel) (by decide +kernel) dX12_init_55 dX12_init_57 ?_
    refine gx_aload0 C dX12_init_60 rfl ?_
    refine gx_sipush C 1536 dX12_init_61 (by decide) ?_
    refine gx_attI C rfl 8 rfl rfl wa_I wf_32 rfl rfl (by decide +kernel) (by decide) (by decide +kernel) (by decide +kernel) (by decide +kernel) dX12_init_64 dX12_init_66 ?_
    refine gx_aload0 C dX12_init_69 rfl ?_
    refine gx_sipush C 1536 dX12_init_70 (by decide) ?_
    refine gx_attI C rfl 9 rfl rfl wa_I wf_35 rfl rfl (by decide +kernel) (by decide) (by decide +kernel) (by decide +kernel) (by decide +kernel) dX12_init_73 dX12_init_75 ?_
    refine gx_aload0 C dX12_init_78 rfl ?_
    refine gx_sipush C 1536 dX12_init_79 (by decide) ?_
    refine gx_attI C rfl 10 rfl rfl wa_I wf_38 rfl rfl (by decide +kernel) (by decide) (by decide +kernel) (by decide +kernel) (by decide +kernel) dX12_init_82 dX12_init_84 ?_
    refine gx_aload0 C dX12_init_87 rfl ?_
    refine gx_sipush C 1536 dX12_init_88 (by decide) ?_
    refine gx_attI C rfl 11 rfl rfl wa_I wf_41 rfl rfl (by decide +kernel) (by decide) (by decide +kernel) (by decide +kernel) (by decide +kernel) dX12_init_91 dX12_init_93 ?_
    refine gx_aload0 C dX12_init_96 rfl ?_
    refine gx_sipush C 1536 dX12_init_97 (by decide) ?_
    refine gx_attZ C rfl 12 rfl rfl wa_Z wf_44 rfl rfl (by decide +kernel) (by decide) (by decide +kernel) (by decide +kernel) (by decide +kernel) dX12_init_100 dX12_init_102 ?_
    refine gx_aload0 C dX12_init_105 rfl ?_
    refine gx_iconst C 4 dX12_init_106 (by decide) ?_
    refine gx_attI C rfl 13 rfl rfl wa_I wf_47 rfl rfl (by decide +kernel) (by decide) (by decide +kernel) (by decide +kernel) (by decide +kernel) dX12_init_107 dX12_init_109 ?_
    refine gx_aload0 C dX12_init_112 rfl ?_
    refine gx_bipush C 20 dX12_init_113 (by decide) ?_
    refine gx_attI C rfl 15 rfl rfl wa_I wf_50 rfl rfl (by decide +kernel) (by decide) (by decide +kernel) (by decide +kernel) (by decide +kernel) dX12_init_115 dX12_init_117 ?_
    refine gx_aload0 C dX12_init_120 rfl ?_
    refine gx_bipush C 20 dX12_init_121 (by decide) ?_
    refine gx_attI C rfl 16 rfl rfl wa_I wf_53 rfl rfl (by decide +kernel) (by decide) (by decide +kernel) (by decide +kernel) (by decide +kernel) dX12_init_123 dX12_init_125 ?_
    refine gx_aload0 C dX12_init_128 rfl ?_
    refine gx_bipush C 20 dX12_init_129 (by decide) ?_
    refine gx_attI C rfl 17 rfl rfl wa_I wf_56 rfl rfl (by decide +kernel) (by decide) (by decide +kernel) (by decide +kernel) (by decide +kernel) dX12_init_131 dX12_init_133 ?_
    refine gx_aload0 C dX12_init_136 rfl ?_
    refine gx_bipush C 20 dX12_init_137 (by decide) ?_
    refine gx_attI C rfl 18 rfl rfl wa_I wf_59 rfl rfl (by decide +kernel) (by decide) (by decide +kernel) (by decide +kernel) (by decide +kernel) dX12_init_139 dX12_init_141 ?_
    refine gx_aload0 C dX12_init_144 rfl ?_
    refine gx_bipush C 20 dX12_init_145 (by decide) ?_
    refine gx_attI C rfl 19 rfl rfl wa_I wf_62 rfl rfl (by decide +kernel) (by decide) (by decide +kernel) (by decide +kernel) (by decide +kernel) dX12_init_147 dX12_init_149 ?_
    refine gx_aload0 C dX12_init_152 rfl ?_
    refine gx_bipush C 20 dX12_init_153 (by decide) ?_
    refine gx_attZ C rfl 20 rfl rfl wa_Z wf_65 rfl rfl (by decide +kernel) (by decide) (by decide +kernel) (by decide +kernel) (by decide +kernel) dX12_init_155 dX12_init_157 ?_
    refine gx_aload0 C dX12_init_160 rfl ?_
    refine gx_bipush C 120 dX12_init_161 (by decide) ?_
    refine gx_put C 21 (by decide) rfl wf_68 rfl rfl (by decide +kernel) dX12_init_163 ?_
    refine gx_aload0 C dX12_init_166 rfl ?_
    refine gx_iconst C 4 dX12_init_167 (by decide) ?_
    refine gx_put C 22 (by decide) rfl wf_72 rfl rfl (by decide +kernel) dX12_init_168 ?_
    refine gx_aload0 C dX12_init_171 rfl ?_
    refine gx_sipush C 1500 dX12_init_172 (by decide) ?_
    refine gx_put C 23 (by decide) rfl wf_75 rfl rfl (by decide +kernel) dX12_init_175 ?_
    refine gx_aload0 C dX12_init_178 rfl ?_
    refine gx_bipush C 48 dX12_init_179 (by decide) ?_
    refine gx_attI C rfl 25 rfl rfl wa_I wf_78 rfl rfl (by decide +kernel) (by decide) (by decide +kernel) (by decide +kernel) (by decide +kernel) dX12_init_181 dX12_init_183 ?_
    refine gx_aload0 C dX12_init_186 rfl ?_
    refine gx_bipush C 49 dX12_init_187 (by decide) ?_
    refine gx_attI C rfl 26 rfl rfl wa_I wf_81 rfl rfl (by decide +kernel) (by decide) (by decide +kernel) (by decide +kernel) (by decide +kernel) dX12_init_189 dX12_init_191 ?_
    refine gx_aload0 C dX12_init_194 rfl ?_
    refine gx_iconst C 4 dX12_init_195 (by decide) ?_
    refine gx_attI C rfl 27 rfl rfl wa_I wf_84 rfl rfl (by decide +kernel) (by decide) (by decide +kernel) (by decide +kernel) (by decide +kernel) dX12_init_196 dX12_init_198 ?_
    refine gx_aload0 C dX12_init_201 rfl ?_
    refine gx_sipush C 3072 dX12_init_202 (by decide) ?_
    refine gx_attI C rfl 28 rfl rfl wa_I wf_87 rfl rfl (by decide +kernel) (by decide) (by decide +kernel) (by decide +kernel) (by decide +kernel) dX12_init_205 dX12_init_207 ?_
    refine gx_aload0 C dX12_init_210 rfl ?_
    refine gx_sipush C 3072 dX12_init_211 (by decide) ?_
    refine gx_attI C rfl 29 rfl rfl wa_I wf_90 rfl rfl (by decide +kernel) (by decide) (by decide +kernel) (by decide +kernel) (by decide +kernel) dX12_init_214 dX12_init_216 ?_
    refine gx_aload0 C dX12_init_219 rfl ?_
    refine gx_sipush C 3072 dX12_init_220 (by decide) ?_
    refine gx_attI C rfl 30 rfl rfl wa_I wf_93 rfl rfl (by decide +kernel) (by decide) (by decide +kernel) (by decide +kernel) (by decide +kernel) dX12_init_223 dX12_init_225 ?_
    refine gx_aload0 C dX12_init_228 rfl ?_
    refine gx_iconst C 4 dX12_init_229 (by decide) ?_
    refine gx_attI C rfl 31 rfl rfl wa_I wf_96 rfl rfl (by decide +kernel) (by decide) (by decide +kernel) (by decide +kernel) (by decide +kernel) dX12_init_230 dX12_init_232 ?_
    refine gx_aload0 C dX12_init_235 rfl ?_
    refine gx_bipush C 24 dX12_init_236 (by decide) ?_
    refine gx_attI C rfl 33 rfl rfl wa_I wf_99 rfl rfl (by decide +kernel) (by decide) (by decide +kernel) (by decide +kernel) (by decide +kernel) dX12_init_238 dX12_init_240 ?_
    refine gx_aload0 C dX12_init_243 rfl ?_
    refine gx_bipush C 24 dX12_init_244 (by decide) ?_
    refine gx_attI C rfl 34 rfl rfl wa_I wf_102 rfl rfl (by decide +kernel) (by decide) (by decide +kernel) (by decide +kernel) (by decide +kernel) dX12_init_246 dX12_init_248 ?_
    refine gx_aload0 C dX12_init_251 rfl ?_
    refine gx_bipush C 24 dX12_init_252 (by decide) ?_
    refine gx_attI C rfl 35 rfl rfl wa_I wf_105 rfl rfl (by decide +kernel) (by decide) (by decide +kernel) (by decide +kernel) (by decide +kernel) dX12_init_254 dX12_init_256 ?_
    refine gx_aload0 C dX12_init_259 rfl ?_
    refine gx_bipush C 24 dX12_init_260 (by decide) ?_
    refine gx_attI C rfl 36 rfl rfl wa_I wf_108 rfl rfl (by decide +kernel) (by decide) (by decide +kernel) (by decide +kernel) (by decide +kernel) dX12_init_262 dX12_init_264 ?_
    refine gx_aload0 C dX12_init_267 rfl ?_
    refine gx_bipush C 24 dX12_init_268 (by decide) ?_
    refine gx_attI C rfl 37 rfl rfl wa_I wf_111 rfl rfl (by decide +kernel) (by decide) (by decide +kernel) (by decide +kernel) (by decide +kernel) dX12_init_270 dX12_init_272 ?_
    refine gx_aload0 C dX12_init_275 rfl ?_
    refine gx_bipush C 25 dX12_init_276 (by decide) ?_
    refine gx_attI C rfl 39 rfl rfl wa_I wf_114 rfl rfl (by decide +kernel) (by decide) (by decide +kernel) (by decide +kernel) (by decide +kernel) dX12_init_278 dX12_init_280 ?_
    refine gx_aload0 C dX12_init_283 rfl ?_
    refine gx_bipush C 25 dX12_init_284 (by decide) ?_
    refine gx_attI C rfl 40 rfl rfl wa_I wf_117 rfl rfl (by decide +kernel) (by decide) (by decide +kernel) (by decide +kernel) (by decide +kernel) dX12_init_286 dX12_init_288 ?_
    refine gx_aload0 C dX12_init_291 rfl ?_
    refine gx_bipush C 60 dX12_init_292 (by decide) ?_
    refine gx_attI C rfl 42 rfl rfl wa_I wf_120 rfl rfl (by decide +kernel) (by decide) (by decide +kernel) (by decide +kernel) (by decide +kernel) dX12_init_294 dX12_init_296 ?_
    refine gx_aload0 C dX12_init_299 rfl ?_
    refine gx_bipush C 100 dX12_init_300 (by decide) ?_
    refine gx_attI C rfl 43 rfl rfl wa_I wf_123 rfl rfl (by decide +kernel) (by decide) (by decide +kernel) (by decide +kernel) (by decide +kernel) dX12_init_302 dX12_init_304 ?_
    refine gx_aload0 C dX12_init_307 rfl ?_
    refine gx_bipush C 25 dX12_init_308 (by decide) ?_
    refine gx_attI C rfl 44 rfl rfl wa_I wf_126 rfl rfl (by decide +kernel) (by decide) (by decide +kernel) (by decide +kernel) (by decide +kernel) dX12_init_310 dX12_init_312 ?_
    exact gx_ret C rfl hr rfl dX12_init_315
  exact key s.heap [] _ h1 (fun i k hi => absurd hi (Nat.not_lt_zero _)) h3 rfl va_S.rf hl
