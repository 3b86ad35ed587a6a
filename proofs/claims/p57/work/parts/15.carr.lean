/-! AN OBJECT'S OWN ARRAYS: made and put into its field -/
/-- the next array or list of an object that is being made is that of the field f -/
def aOK (S : CS) (f o ci : Nat) : Prop := kdC S o % 100 = ci ∧ 100 ≤ kdC S o ∧ cEI f = kdC S o / 100 - 1 ∧ o + cOF f = szC S
def uat (S : CS) (f o ci sl : Nat) : CS := attS S f o (attV (kdC S o) ci) sl
theorem uat_le {S : CS} {f o ci sl : Nat} (h : 100 ≤ kdC S o) : kdLe S (uat S f o ci sl) := fun q h0 h1 => va_up_ne _ _ (fun e => by subst e; omega)
theorem attG_A {A0 : Nat → Prop} {S : CS} {G : CG} {f o v sl : Nat} (hA : ∀ q, gA G (szC S) q → A0 q) : ∀ q, gA (attG S G f o) (szC (attS S f o v sl)) q → A0 q := by
  intro q hq
  rcases hq with h | h
  · by_cases hq2 : q = szC S
    · exact hA q (Or.inr (by omega))
    · refine hA q (Or.inl ?_)
      have h9 : (va_up G.1 (szC S) (f, o) q).1 ≠ 0 := h
      rw [va_up_ne _ _ hq2] at h9
      exact h9
  · exact hA q (Or.inr (by have h9 : szC S + 1 ≤ q := h; omega))
section GCAR
variable {p : Program} {l : Launch} {e : Env} {R : Room} {s : State} {m : MethodId} {args : Array Value} {below : List Frame} {meth : Method} {c : Code} {Q : State → Prop}
variable {cc : ByteArray} {nL : Nat} {own : String} {hd : Cond} {D : va_G} {K : Nat → ClassId} {E0 : Nat} {B : Nat × Nat} {A0 : Nat → Prop}
variable {S : CS} {pc : Nat} {lv : List (Nat × Value)} {st : List Value}

theorem gc_attI (C : gc_Cx p l s m args c meth cc nL own hd D K E0 B A0 R) {ci : Nat} {CN : String} {T : u_T} {N : Nat} {ty : Nat → FieldType} (B0 : c_Cls ci CN T N ty) (f k0 : Nat) (hk : k0 < N) (hf : 16 * ci + k0 = f) {ix o : Nat} {n : Int32} (hwa : Cond.arrayClass .int ∈ wU) (ht : cFT f = 1) (hw : Cond.fieldLink own ix CN (T k0).2.1 (T k0).2.2.1 ∈ wU) (hT : (T k0).1 = CN) (hfin : (T k0).2.2.2 = true) (hin2 : meth.name = "<init>") (hdecl : (T k0).1 = own) (hd1 : parseFieldDescriptor (T k0).2.2.1 = some (.array .int)) (hn : ¬ n < 0) (hN : n.toNatClampNeg = cLN f) (hby : cLN f ≤ 1000)
    (hg : aOK S f o ci) (hroom : szC S + 1 ≤ B.1 ∧ nsC S + cLN f ≤ B.2) (d : decode cc pc = .ok (.newarray .int, 2)) (d2 : decode cc (pc + 2) = .ok (.putfield ix, 3)) (k : GC p l e R s m args below meth c nL D K E0 B A0 Q (uat S f o ci (cLN f)) (pc + 5) lv st) : GC p l e R s m args below meth c nL D K E0 B A0 Q S pc lv (.int n :: .ref o :: st) := by
  intro G H locs ls hP hA hS hs h1 h2 hl
  have y1 : H.size = szC S := hP.2.2.1
  have y2 : hsl H = nsC S := hP.2.2.2
  have z0 : s.heap.size ≤ H.size := hS.1
  have hc1 : H.size - s.heap.size + 1 ≤ R.cells ∧ hsl H - hsl s.heap + cLN f ≤ R.slots := by
    rw [C.2.2.2.2.2.2.1.1, C.2.2.2.2.2.2.1.2]
    omega
  obtain ⟨g1, g2, g3, g4⟩ := hg
  have h3 := B0.2.2.2.2.2.1
  have h15 := B0.2.2.2.2.2.2
  have hNN : cNF ci = N := B0.2.2.2.2.1
  have he0 : cEmb (cFT f) = true := by rw [ht]; rfl
  have ho_lt : o < H.size := by rw [y1]; exact hP.kd_lt (by omega)
  have hap := va_apart (own := own) (Ts := hd :: wU) C.2.2.2.2.1 (fun w h => List.mem_cons_of_mem _ (B0.2.1 w h)) ty B0.2.2.1 B0.2.2.2.1 C.2.2.2.2.2.1 B0.1
  obtain ⟨r, gr, cell, q1, q2, q3, q4⟩ := (c_obj hP g1 h3 h15).2 0 _ rfl
  have hr : r = (CN, T, N) := Option.some.inj (gr.symm.trans B0.1)
  subst hr
  obtain ⟨hSS, hfc, kC, hkC, hkind⟩ := C.2.2.2.2.2.1.1 ci _ B0.1
  obtain ⟨cf, kf, fi, fd, hi, hsl0⟩ := hSS k0 hk
  have hlay := C.2.2.2.2.1 _ (List.mem_cons_of_mem _ (B0.2.1 _ (u_in_lay hk)))
  have hlink := C.2.2.2.2.1 _ (List.mem_cons_of_mem _ hw)
  have hi2 := hi
  rw [hT] at hi2
  unfold u_lay at hlay
  rw [if_pos hfin] at hlay
  have hst := (u_facts hfc hkC (Or.inr hlay) hi).1
  have hcf : m.cls = cf := by
    obtain ⟨_, _, c', _, _, _, -, -, hf', -, -, -, hown2, -⟩ := Cond.laysFinal_spec hlay
    have e1 : c' = cf := by have := hi.symm.trans hf'; simp at this; exact this.1.symm
    rw [hdecl] at hown2
    rw [← e1]; exact Option.some.inj (C.2.2.2.1.symm.trans hown2)
  have h6 := u_fits hfc hkC hkind (Or.inr hlay) hi (v := .ref H.size) hd1 rfl rfl
  refine va_newaK (atype := .int) C.1 C.2.1 (C.2.2.2.2.1 _ (List.mem_cons_of_mem _ hwa)) rfl d rfl hn hN (by show cLN f * 4 ≤ 536870912; omega) hc1.1 hc1.2 rfl fun H1 cA e1 z1 o1 hAr hNm => ?_
  have hcA : K 0 = cA := Option.some.inj (((C.2.2.2.2.2.1.2 0 _ rfl).2).symm.trans hNm)
  subst hcA
  have q1' : H1[o]? = some cell := (o1 o ho_lt).trans q1
  refine W.putFinK C.1 C.2.1 C.2.2.2.1 hlink hi2 hst hcf hin2 (by rw [q2]; exact h6) q1' q3 (by rw [hsl0]; exact k2_hasslot (q4 k0 hk)) rfl rfl d2 fun H2 w1 w2 w3 => ?_
  have hat : va_at D vwCl (o, .inr (ci, (c_fs S ci o).set k0 (.ref (o + cOF f)))) H2 := by
    rw [hsl0] at w1
    rw [g4, ← y1]
    exact ⟨_, B0.1, t_OB.to (V := updV (vp_V (c_fs S ci o)) k0 (.ref H.size)) ⟨_, w1, q2, q3, t_set q4 hap hk _⟩ (fun j _ => vp_updV_set (by rw [c_flen, hNN]; exact hk) _ j)⟩
  have hnew : va_at D vwCl (H.size, c_ce K E0 (attS S f o (attV (kdC S o) ci) (cLN f)) (attG S G f o) f o) H2 := by
    have hb := cNF_le h15
    unfold c_ce
    rw [if_neg (by omega), if_neg (by omega)]
    rw [if_pos ht, show fA (attS S f o (attV (kdC S o) ci) (cLN f)) f o = fun _ => 0 from up2_same _ _ _ _]
    show H2[H.size]? = some (vp_cell _ _)
    rw [w3 _ (Nat.ne_of_gt ho_lt), e1]
    rfl
  have hP2 := hP.attach (k0 := k0) (o := o) (v := kdC S o) (sl := cLN f) h3 h15 rfl g2 g1 (by rw [hNN]; exact hk) (by rw [hf]; exact he0) (by rw [hf]; exact g3) (by rw [hf]; exact g4) z1 e1 o1 (arrV_size _ _ _) q1' w1 (k2_slotsz _ _ _) w2 w3 (by rw [hf]; exact hnew) (by rw [hf]; exact hat)
  rw [hf] at hP2
  have hS1 : va_S A0 s.heap H1 locs := ⟨Nat.le_trans hS.1 (by omega), fun x h3 h4 => (o1 x (Nat.lt_of_lt_of_le h3 hS.1)).trans (hS.2.1 x h3 h4), hS.2.2⟩
  have hown := (c_obj hP g1 h3 h15).1
  have hAo : A0 o := hA o (Or.inl (by rw [hown]; show ci ≠ 0; omega))
  have es : hsl H2 = nsC S + cLN f := hP2.2.2.2
  have kk := k _ H2 _ ls hP2 (attG_A hA) (hS1.put (k := fd.slot) w2 w3 hAo) (by rw [es, ← y2]; omega) (by show szC S + 1 ≤ B.1; omega) (by show nsC S + cLN f ≤ B.2; omega) hl
  rw [w2, z1, es] at kk
  exact W.widen (k := H.size + 1 - s.heap.size) (n := nsC S + cLN f - hsl s.heap) (by omega) (by omega) kk
theorem gc_attJ (C : gc_Cx p l s m args c meth cc nL own hd D K E0 B A0 R) {ci : Nat} {CN : String} {T : u_T} {N : Nat} {ty : Nat → FieldType} (B0 : c_Cls ci CN T N ty) (f k0 : Nat) (hk : k0 < N) (hf : 16 * ci + k0 = f) {ix o : Nat} {n : Int32} (hwa : Cond.arrayClass .long ∈ wU) (ht : cFT f = 2) (hw : Cond.fieldLink own ix CN (T k0).2.1 (T k0).2.2.1 ∈ wU) (hT : (T k0).1 = CN) (hfin : (T k0).2.2.2 = true) (hin2 : meth.name = "<init>") (hdecl : (T k0).1 = own) (hd1 : parseFieldDescriptor (T k0).2.2.1 = some (.array .long)) (hn : ¬ n < 0) (hN : n.toNatClampNeg = cLN f) (hby : cLN f ≤ 1000)
    (hg : aOK S f o ci) (hroom : szC S + 1 ≤ B.1 ∧ nsC S + cLN f ≤ B.2) (d : decode cc pc = .ok (.newarray .long, 2)) (d2 : decode cc (pc + 2) = .ok (.putfield ix, 3)) (k : GC p l e R s m args below meth c nL D K E0 B A0 Q (uat S f o ci (cLN f)) (pc + 5) lv st) : GC p l e R s m args below meth c nL D K E0 B A0 Q S pc lv (.int n :: .ref o :: st) := by
  intro G H locs ls hP hA hS hs h1 h2 hl
  have y1 : H.size = szC S := hP.2.2.1
  have y2 : hsl H = nsC S := hP.2.2.2
  have z0 : s.heap.size ≤ H.size := hS.1
  have hc1 : H.size - s.heap.size + 1 ≤ R.cells ∧ hsl H - hsl s.heap + cLN f ≤ R.slots := by
    rw [C.2.2.2.2.2.2.1.1, C.2.2.2.2.2.2.1.2]
    omega
  obtain ⟨g1, g2, g3, g4⟩ := hg
  have h3 := B0.2.2.2.2.2.1
  have h15 := B0.2.2.2.2.2.2
  have hNN : cNF ci = N := B0.2.2.2.2.1
  have he0 : cEmb (cFT f) = true := by rw [ht]; rfl
  have ho_lt : o < H.size := by rw [y1]; exact hP.kd_lt (by omega)
  have hap := va_apart (own := own) (Ts := hd :: wU) C.2.2.2.2.1 (fun w h => List.mem_cons_of_mem _ (B0.2.1 w h)) ty B0.2.2.1 B0.2.2.2.1 C.2.2.2.2.2.1 B0.1
  obtain ⟨r, gr, cell, q1, q2, q3, q4⟩ := (c_obj hP g1 h3 h15).2 0 _ rfl
  have hr : r = (CN, T, N) := Option.some.inj (gr.symm.trans B0.1)
  subst hr
  obtain ⟨hSS, hfc, kC, hkC, hkind⟩ := C.2.2.2.2.2.1.1 ci _ B0.1
  obtain ⟨cf, kf, fi, fd, hi, hsl0⟩ := hSS k0 hk
  have hlay := C.2.2.2.2.1 _ (List.mem_cons_of_mem _ (B0.2.1 _ (u_in_lay hk)))
  have hlink := C.2.2.2.2.1 _ (List.mem_cons_of_mem _ hw)
  have hi2 := hi
  rw [hT] at hi2
  unfold u_lay at hlay
  rw [if_pos hfin] at hlay
  have hst := (u_facts hfc hkC (Or.inr hlay) hi).1
  have hcf : m.cls = cf := by
    obtain ⟨_, _, c', _, _, _, -, -, hf', -, -, -, hown2, -⟩ := Cond.laysFinal_spec hlay
    have e1 : c' = cf := by have := hi.symm.trans hf'; simp at this; exact this.1.symm
    rw [hdecl] at hown2
    rw [← e1]; exact Option.some.inj (C.2.2.2.1.symm.trans hown2)
  have h6 := u_fits hfc hkC hkind (Or.inr hlay) hi (v := .ref H.size) hd1 rfl rfl
  refine va_newaK (atype := .long) C.1 C.2.1 (C.2.2.2.2.1 _ (List.mem_cons_of_mem _ hwa)) rfl d rfl hn hN (by show cLN f * 8 ≤ 536870912; omega) hc1.1 hc1.2 rfl fun H1 cA e1 z1 o1 hAr hNm => ?_
  have hcA : K 1 = cA := Option.some.inj (((C.2.2.2.2.2.1.2 1 _ rfl).2).symm.trans hNm)
  subst hcA
  have q1' : H1[o]? = some cell := (o1 o ho_lt).trans q1
  refine W.putFinK C.1 C.2.1 C.2.2.2.1 hlink hi2 hst hcf hin2 (by rw [q2]; exact h6) q1' q3 (by rw [hsl0]; exact k2_hasslot (q4 k0 hk)) rfl rfl d2 fun H2 w1 w2 w3 => ?_
  have hat : va_at D vwCl (o, .inr (ci, (c_fs S ci o).set k0 (.ref (o + cOF f)))) H2 := by
    rw [hsl0] at w1
    rw [g4, ← y1]
    exact ⟨_, B0.1, t_OB.to (V := updV (vp_V (c_fs S ci o)) k0 (.ref H.size)) ⟨_, w1, q2, q3, t_set q4 hap hk _⟩ (fun j _ => vp_updV_set (by rw [c_flen, hNN]; exact hk) _ j)⟩
  have hnew : va_at D vwCl (H.size, c_ce K E0 (attS S f o (attV (kdC S o) ci) (cLN f)) (attG S G f o) f o) H2 := by
    have hb := cNF_le h15
    unfold c_ce
    rw [if_neg (by omega), if_neg (by omega)]
    rw [if_neg (by rw [ht]; decide), if_pos ht]
    have hJ : fJ (attS S f o (attV (kdC S o) ci) (cLN f)) o = fun _ => 0 := by
      show (if cFT f = 2 then va_up (fJ S) o (fun _ => 0) else fJ S) o = _
      rw [if_pos ht]
      exact va_up_self _ _ _
    rw [hJ]
    show H2[H.size]? = some (vp_cell _ _)
    rw [w3 _ (Nat.ne_of_gt ho_lt), e1]
    rfl
  have hP2 := hP.attach (k0 := k0) (o := o) (v := kdC S o) (sl := cLN f) h3 h15 rfl g2 g1 (by rw [hNN]; exact hk) (by rw [hf]; exact he0) (by rw [hf]; exact g3) (by rw [hf]; exact g4) z1 e1 o1 (arrV_size _ _ _) q1' w1 (k2_slotsz _ _ _) w2 w3 (by rw [hf]; exact hnew) (by rw [hf]; exact hat)
  rw [hf] at hP2
  have hS1 : va_S A0 s.heap H1 locs := ⟨Nat.le_trans hS.1 (by omega), fun x h3 h4 => (o1 x (Nat.lt_of_lt_of_le h3 hS.1)).trans (hS.2.1 x h3 h4), hS.2.2⟩
  have hown := (c_obj hP g1 h3 h15).1
  have hAo : A0 o := hA o (Or.inl (by rw [hown]; show ci ≠ 0; omega))
  have es : hsl H2 = nsC S + cLN f := hP2.2.2.2
  have kk := k _ H2 _ ls hP2 (attG_A hA) (hS1.put (k := fd.slot) w2 w3 hAo) (by rw [es, ← y2]; omega) (by show szC S + 1 ≤ B.1; omega) (by show nsC S + cLN f ≤ B.2; omega) hl
  rw [w2, z1, es] at kk
  exact W.widen (k := H.size + 1 - s.heap.size) (n := nsC S + cLN f - hsl s.heap) (by omega) (by omega) kk
theorem gc_attQ (C : gc_Cx p l s m args c meth cc nL own hd D K E0 B A0 R) {ci : Nat} {CN : String} {T : u_T} {N : Nat} {ty : Nat → FieldType} (B0 : c_Cls ci CN T N ty) (f k0 : Nat) (hk : k0 < N) (hf : 16 * ci + k0 = f) {ix o : Nat} {n : Int32} {CQ : String} (t0 : Nat) (hty : (c_tys K)[t0]? = some (K (cQK f), .object CQ)) {ixc : Nat} (hwc : Cond.classLink own ixc CQ ∈ wU) (hwa : Cond.arrayOver (.object CQ) ∈ nwL) (ht : cFT f = 4) (hw : Cond.fieldLink own ix CN (T k0).2.1 (T k0).2.2.1 ∈ wU) (hT : (T k0).1 = CN) (hfin : (T k0).2.2.2 = true) (hin2 : meth.name = "<init>") (hdecl : (T k0).1 = own) (hd1 : parseFieldDescriptor (T k0).2.2.1 = some (.array (.object CQ))) (hn : ¬ n < 0) (hN : n.toNatClampNeg = cLN f) (hby : cLN f ≤ 1000)
    (hg : aOK S f o ci) (hroom : szC S + 1 ≤ B.1 ∧ nsC S + cLN f ≤ B.2) (d : decode cc pc = .ok (.anewarray ixc, 3)) (d2 : decode cc (pc + 3) = .ok (.putfield ix, 3)) (k : GC p l e R s m args below meth c nL D K E0 B A0 Q (uat S f o ci (cLN f)) (pc + 6) lv st) : GC p l e R s m args below meth c nL D K E0 B A0 Q S pc lv (.int n :: .ref o :: st) := by
  intro G H locs ls hP hA hS hs h1 h2 hl
  have y1 : H.size = szC S := hP.2.2.1
  have y2 : hsl H = nsC S := hP.2.2.2
  have z0 : s.heap.size ≤ H.size := hS.1
  have hc1 : H.size - s.heap.size + 1 ≤ R.cells ∧ hsl H - hsl s.heap + cLN f ≤ R.slots := by
    rw [C.2.2.2.2.2.2.1.1, C.2.2.2.2.2.2.1.2]
    omega
  obtain ⟨g1, g2, g3, g4⟩ := hg
  have h3 := B0.2.2.2.2.2.1
  have h15 := B0.2.2.2.2.2.2
  have hNN : cNF ci = N := B0.2.2.2.2.1
  have he0 : cEmb (cFT f) = true := by rw [ht]; rfl
  have ho_lt : o < H.size := by rw [y1]; exact hP.kd_lt (by omega)
  have hap := va_apart (own := own) (Ts := hd :: wU) C.2.2.2.2.1 (fun w h => List.mem_cons_of_mem _ (B0.2.1 w h)) ty B0.2.2.1 B0.2.2.2.1 C.2.2.2.2.2.1 B0.1
  obtain ⟨r, gr, cell, q1, q2, q3, q4⟩ := (c_obj hP g1 h3 h15).2 0 _ rfl
  have hr : r = (CN, T, N) := Option.some.inj (gr.symm.trans B0.1)
  subst hr
  obtain ⟨hSS, hfc, kC, hkC, hkind⟩ := C.2.2.2.2.2.1.1 ci _ B0.1
  obtain ⟨cf, kf, fi, fd, hi, hsl0⟩ := hSS k0 hk
  have hlay := C.2.2.2.2.1 _ (List.mem_cons_of_mem _ (B0.2.1 _ (u_in_lay hk)))
  have hlink := C.2.2.2.2.1 _ (List.mem_cons_of_mem _ hw)
  have hi2 := hi
  rw [hT] at hi2
  unfold u_lay at hlay
  rw [if_pos hfin] at hlay
  have hst := (u_facts hfc hkC (Or.inr hlay) hi).1
  have hcf : m.cls = cf := by
    obtain ⟨_, _, c', _, _, _, -, -, hf', -, -, -, hown2, -⟩ := Cond.laysFinal_spec hlay
    have e1 : c' = cf := by have := hi.symm.trans hf'; simp at this; exact this.1.symm
    rw [hdecl] at hown2
    rw [← e1]; exact Option.some.inj (C.2.2.2.1.symm.trans hown2)
  have h6 := u_fits hfc hkC hkind (Or.inr hlay) hi (v := .ref H.size) hd1 rfl rfl
  refine W.anew C.1 C.2.1 C.2.2.2.1 (C.2.2.2.2.1 _ (List.mem_cons_of_mem _ hwc)) (va_AO.use (C.2.2.2.2.2.2.2.2.2.2.2.2.1 _ hwa)) rfl d rfl hn (by rw [hN]; omega) hc1.1 (by rw [hN]; exact hc1.2) fun cA kA comp a1 a2 a3 a4 => ?_
  rw [hN]
  have hcA : K (cQK f) = cA := by
    obtain ⟨_, _, -, -, -, b4⟩ := (C.2.2.2.2.2.1.2 t0 _ hty).2
    exact Option.some.inj (b4.symm.trans a1)
  subst hcA
  generalize hH1 : H.push ({ cls := K (cQK f), slots := Array.replicate (cLN f) (Value.null), vm := .none } : Cell) = H1
  have z1 : H1.size = H.size + 1 := by rw [← hH1, Array.size_push]
  have e1 : H1[H.size]? = some (arrV (K (cQK f)) (cLN f) (fun _ => .null)) := by rw [← hH1, Array.getElem?_push_size, ← arrV_new]
  have o1 : ∀ q : Nat, q < H.size → H1[q]? = H[q]? := fun q hq => by rw [← hH1, Array.getElem?_push, if_neg (Nat.ne_of_lt hq)]
  have q1' : H1[o]? = some cell := (o1 o ho_lt).trans q1
  refine W.putFinK C.1 C.2.1 C.2.2.2.1 hlink hi2 hst hcf hin2 (by rw [q2]; exact h6) q1' q3 (by rw [hsl0]; exact k2_hasslot (q4 k0 hk)) rfl rfl d2 fun H2 w1 w2 w3 => ?_
  have hat : va_at D vwCl (o, .inr (ci, (c_fs S ci o).set k0 (.ref (o + cOF f)))) H2 := by
    rw [hsl0] at w1
    rw [g4, ← y1]
    exact ⟨_, B0.1, t_OB.to (V := updV (vp_V (c_fs S ci o)) k0 (.ref H.size)) ⟨_, w1, q2, q3, t_set q4 hap hk _⟩ (fun j _ => vp_updV_set (by rw [c_flen, hNN]; exact hk) _ j)⟩
  have hnew : va_at D vwCl (H.size, c_ce K E0 (attS S f o (attV (kdC S o) ci) (cLN f)) (attG S G f o) f o) H2 := by
    have hb := cNF_le h15
    unfold c_ce
    rw [if_neg (by omega), if_neg (by omega)]
    rw [if_neg (by rw [ht]; decide), if_neg (by rw [ht]; decide), if_pos ht, show fQ (attS S f o (attV (kdC S o) ci) (cLN f)) f o = fun _ => none from up2_same _ _ _ _]
    show H2[H.size]? = some (vp_cell _ _)
    rw [w3 _ (Nat.ne_of_gt ho_lt), e1]
    rfl
  have hP2 := hP.attach (k0 := k0) (o := o) (v := kdC S o) (sl := cLN f) h3 h15 rfl g2 g1 (by rw [hNN]; exact hk) (by rw [hf]; exact he0) (by rw [hf]; exact g3) (by rw [hf]; exact g4) z1 e1 o1 (arrV_size _ _ _) q1' w1 (k2_slotsz _ _ _) w2 w3 (by rw [hf]; exact hnew) (by rw [hf]; exact hat)
  rw [hf] at hP2
  have hS1 : va_S A0 s.heap H1 locs := ⟨Nat.le_trans hS.1 (by omega), fun x h3 h4 => (o1 x (Nat.lt_of_lt_of_le h3 hS.1)).trans (hS.2.1 x h3 h4), hS.2.2⟩
  have hown := (c_obj hP g1 h3 h15).1
  have hAo : A0 o := hA o (Or.inl (by rw [hown]; show ci ≠ 0; omega))
  have es : hsl H2 = nsC S + cLN f := hP2.2.2.2
  have kk := k _ H2 _ ls hP2 (attG_A hA) (hS1.put (k := fd.slot) w2 w3 hAo) (by rw [es, ← y2]; omega) (by show szC S + 1 ≤ B.1; omega) (by show nsC S + cLN f ≤ B.2; omega) hl
  rw [w2, z1, es] at kk
  exact W.widen (k := H.size + 1 - s.heap.size) (n := nsC S + cLN f - hsl s.heap) (by omega) (by omega) kk
end GCAR
