/-- writing -/
def usI (S : CS) (f o : Nat) (v : Int32) : CS := mkC (kdC S) (up2 (fI S) f o v) (fA S) (fJ S) (fR S) (fQ S) (fL S) (fC S) (szC S) (nsC S)
def usA (S : CS) (f o : Nat) (i v : Int32) : CS := mkC (kdC S) (fI S) (up2 (fA S) f o (va_up (fA S f o) i.toNatClampNeg v)) (fJ S) (fR S) (fQ S) (fL S) (fC S) (szC S) (nsC S)
def usJ (S : CS) (o : Nat) (i : Int32) (v : Int64) : CS := mkC (kdC S) (fI S) (fA S) (va_up (fJ S) o (va_up (fJ S o) i.toNatClampNeg v)) (fR S) (fQ S) (fL S) (fC S) (szC S) (nsC S)
def usR (S : CS) (f o : Nat) (v : Option Nat) : CS := mkC (kdC S) (fI S) (fA S) (fJ S) (up2 (fR S) f o v) (fQ S) (fL S) (fC S) (szC S) (nsC S)
def usQ (S : CS) (f o : Nat) (i : Int32) (v : Option Nat) : CS := mkC (kdC S) (fI S) (fA S) (fJ S) (fR S) (up2 (fQ S) f o (va_up (fQ S f o) i.toNatClampNeg v)) (fL S) (fC S) (szC S) (nsC S)
theorem cls_lt {ci k ci2 k2 : Nat} (hk : k < cNF ci) (hk2 : k2 < cNF ci2) (h : 16 * ci + k = 16 * ci2 + k2) : ci = ci2 ∧ k = k2 := by
  have hb : ∀ n, cNF n ≤ 11 := by
    intro n
    by_cases hn : n < 16
    · exact (by decide : ∀ n, n < 16 → cNF n ≤ 11) n hn
    · have : cNF n = 0 := by unfold cNF; rw [List.getD_eq_getElem?_getD, List.getElem?_eq_none (by simp; omega)]; rfl
      omega
  have := hb ci
  have := hb ci2
  omega
/-- one cell of the class's changes -/
theorem RepC.store {D : va_G} {K : Nat → ClassId} {E0 : Nat} {S S' : CS} {G : CG} {H H' : Heap} {a r o : Nat} {c0 c1 : Cell} (hP : RepC D K E0 S G H) (ho : G.1 a = (r, o)) (hr : r ≠ 0)
    (hkd : kdC S' = kdC S) (hL : fL S' = fL S) (hC : fC S' = fC S) (hsz : szC S' = szC S) (hns : nsC S' = nsC S)
    (hoth : ∀ r' o', r' ≠ 0 → (r', o') ≠ (r, o) → kdC S o' ≠ 0 → c_ce K E0 S' G r' o' = c_ce K E0 S G r' o')
    (h0 : H[a]? = some c0) (h1 : H'[a]? = some c1) (hsl1 : c1.slots.size = c0.slots.size) (hz : H'.size = H.size) (hq : ∀ q, q ≠ a → H'[q]? = H[q]?)
    (hat : va_at D vwCl (a, c_ce K E0 S' G r o) H') : RepC D K E0 S' G H' := by
  refine ⟨fun a' r' o' h2 h3 => ?_, ?_, by rw [hz, hsz]; exact hP.2.2.1, by rw [hsl_set hz h0 h1 hsl1 hq, hns]; exact hP.2.2.2⟩
  · obtain ⟨g1, g2, g3⟩ := hP.1 a' r' o' h2 h3
    refine ⟨?_, g2, by rw [hkd]; exact g3⟩
    by_cases haa : a' = a
    · subst haa
      rw [ho] at h2
      cases h2
      exact hat
    · have hne : (r', o') ≠ (r, o) := fun h => by
        apply haa
        rw [← g2]
        have h5 := (hP.1 a r o ho hr).2.1
        cases h
        exact h5
      rw [hoth r' o' h3 hne g3.1]
      exact va_at.kept g1 (hq a' haa)
  · intro o' h2
    rw [hkd] at h2 ⊢
    have h3 := hP.2.1 o' h2
    refine ⟨h3.1, h3.2.1, h3.2.2.1, fun k g1 g2 g4 => ?_⟩
    obtain ⟨q1, q2⟩ := h3.2.2.2 k g1 g2 g4
    refine ⟨q1, fun q3 => ?_⟩
    have q4 := q2 q3
    unfold c_lok at q4 ⊢
    rw [hL, hC]
    exact q4
section GCT
variable {p : Program} {l : Launch} {e : Env} {R : Room} {s : State} {m : MethodId} {args : Array Value} {below : List Frame} {meth : Method} {c : Code} {Q : State → Prop}
variable {cc : ByteArray} {nL : Nat} {own : String} {hd : Cond} {D : va_G} {K : Nat → ClassId} {E0 : Nat} {B : Nat × Nat} {A0 : Nat → Prop}
variable {S : CS} {pc : Nat} {lv : List (Nat × Value)} {st : List Value}
theorem c_fvI {S : CS} {f o : Nat} {v : Int32} (ci2 o2 k2 : Nat) (h : ¬ (16 * ci2 + k2 = f ∧ o2 = o)) : c_fv (usI S f o v) ci2 o2 k2 = c_fv S ci2 o2 k2 := by
  show (if cFT (16 * ci2 + k2) = 0 then Value.int (up2 (fI S) f o v (16 * ci2 + k2) o2) else if cFT (16 * ci2 + k2) = 3 then va_rf (fR S (16 * ci2 + k2) o2) else if cAtt (kdC S o2) (16 * ci2 + k2) = true then .ref (o2 + cOF (16 * ci2 + k2)) else .null) = c_fv S ci2 o2 k2
  rw [up2_ne _ _ h]
  rfl
theorem c_fvR {S : CS} {f o : Nat} {v : Option Nat} (ci2 o2 k2 : Nat) (h : ¬ (16 * ci2 + k2 = f ∧ o2 = o)) : c_fv (usR S f o v) ci2 o2 k2 = c_fv S ci2 o2 k2 := by
  show (if cFT (16 * ci2 + k2) = 0 then Value.int (fI S (16 * ci2 + k2) o2) else if cFT (16 * ci2 + k2) = 3 then va_rf (up2 (fR S) f o v (16 * ci2 + k2) o2) else if cAtt (kdC S o2) (16 * ci2 + k2) = true then .ref (o2 + cOF (16 * ci2 + k2)) else .null) = c_fv S ci2 o2 k2
  rw [up2_ne _ _ h]
  rfl
theorem c_fs_other {S S' : CS} {ci o k : Nat} {v : Value} (hk : k < cNF ci) (hfv : ∀ ci2 o2 k2, ¬ (16 * ci2 + k2 = 16 * ci + k ∧ o2 = o) → c_fv S' ci2 o2 k2 = c_fv S ci2 o2 k2) (r' o' : Nat) (h : (r', o') ≠ (ci, o)) : c_fs S' r' o' = c_fs S r' o' := by
  unfold c_fs
  apply List.map_congr_left
  intro k2 hk2
  rw [List.mem_range] at hk2
  refine hfv r' o' k2 (fun h2 => h ?_)
  have h3 := cls_lt hk2 hk h2.1
  rw [h3.1, h2.2]
theorem c_fs_set {S S' : CS} {ci o k : Nat} {v : Value} (hk : k < cNF ci) (hfv : ∀ ci2 o2 k2, ¬ (16 * ci2 + k2 = 16 * ci + k ∧ o2 = o) → c_fv S' ci2 o2 k2 = c_fv S ci2 o2 k2) (hv : c_fv S' ci o k = v) : c_fs S' ci o = (c_fs S ci o).set k v := by
  apply List.ext_getElem?
  intro j
  rw [List.getElem?_set]
  by_cases hj : k = j
  · subst hj
    rw [if_pos rfl, c_flen, if_pos hk, c_fget hk, hv]
  · rw [if_neg hj]
    by_cases hj2 : j < cNF ci
    · rw [c_fget hj2, c_fget hj2, hfv ci o j (fun h => hj (by have := cls_lt hj2 hk h.1; omega))]
    · rw [List.getElem?_eq_none (by rw [c_flen]; omega), List.getElem?_eq_none (by rw [c_flen]; omega)]
/-- a field of an object is written: the cell behind it -/
theorem RepC.putf {S' : CS} {G : CG} {H H' : Heap} {ci o k : Nat} {N : Nat} {CN : String} {T : u_T} {ty : Nat → FieldType} {v : Value} {cell : Cell} {iS : Nat} (B0 : c_Cls ci CN T N ty) (hP : RepC D K E0 S G H) (hg : isC S o ci) (hk : k < N)
    (hkd : kdC S' = kdC S) (hL : fL S' = fL S) (hC : fC S' = fC S) (hsz : szC S' = szC S) (hns : nsC S' = nsC S)
    (hrest : ∀ r' o', 16 ≤ r' → c_ce K E0 S' G r' o' = c_ce K E0 S G r' o')
    (hfv : ∀ ci2 o2 k2, ¬ (16 * ci2 + k2 = 16 * ci + k ∧ o2 = o) → c_fv S' ci2 o2 k2 = c_fv S ci2 o2 k2) (hv : c_fv S' ci o k = v)
    (h0 : H[o]? = some cell) (h1 : H'[o]? = some (cell.setSlot iS v)) (hz : H'.size = H.size) (hq : ∀ q, q ≠ o → H'[q]? = H[q]?)
    (hat : va_at D vwCl (o, .inr (ci, (c_fs S ci o).set k v)) H') : RepC D K E0 S' G H' := by
  have hkc : k < cNF ci := by rw [B0.2.2.2.2.1]; exact hk
  refine RepC.store (a := o) (r := ci) (o := o) hP (c_obj hP hg B0.2.2.2.2.2.1 B0.2.2.2.2.2.2).1 (by have := B0.2.2.2.2.2.1; omega) hkd hL hC hsz hns ?_ h0 h1 (k2_slotsz _ _ _) hz hq ?_
  · intro r' o' hr' hne _
    by_cases h16 : r' < 16
    · unfold c_ce
      rw [if_pos h16, if_pos h16, c_fs_other (v := v) hkc hfv r' o' hne]
    · exact hrest r' o' (by omega)
  · unfold c_ce
    rw [if_pos (by have := B0.2.2.2.2.2.2; omega), c_fs_set hkc hfv hv]
    exact hat

theorem gc_putI (C : gc_Cx p l s m args c meth cc nL own hd D K E0 B A0 R) {ci : Nat} {CN : String} {T : u_T} {N : Nat} {ty : Nat → FieldType} (B0 : c_Cls ci CN T N ty) (f k0 : Nat) (hk : k0 < N) (hf : 16 * ci + k0 = f) {ix o : Nat} {v : Int32} (tyv : FieldType) (ht : cFT f = 0) (hw : Cond.fieldLink own ix CN (T k0).2.1 (T k0).2.2.1 ∈ wU) (hT : (T k0).1 = CN) (hfin : (T k0).2.2.2 = false) (hd1 : parseFieldDescriptor (T k0).2.2.1 = some tyv) (hn1 : narrow tyv (.int v) = .int v) (hf1 : fits tyv (.int v) = true) (hg : isC S o ci) (d : decode cc pc = .ok (.putfield ix, 3)) (k : GC p l e R s m args below meth c nL D K E0 B A0 Q (usI S f o v) (pc + 3) lv st) : GC p l e R s m args below meth c nL D K E0 B A0 Q S pc lv (.int v :: .ref o :: st) := by
  intro G H locs ls hP hA hS hs h1 h2 hl
  have hap := va_apart (own := own) (Ts := hd :: wU) C.2.2.2.2.1 (fun w h => List.mem_cons_of_mem _ (B0.2.1 w h)) ty B0.2.2.1 B0.2.2.2.1 C.2.2.2.2.2.1 B0.1
  obtain ⟨r, g1, cell, q1, q2, q3, q4⟩ := (c_obj hP hg B0.2.2.2.2.2.1 B0.2.2.2.2.2.2).2 0 _ rfl
  have hr : r = (CN, T, N) := Option.some.inj (g1.symm.trans B0.1)
  subst hr
  obtain ⟨hSS, hfc, kC, hkC, hkind⟩ := C.2.2.2.2.2.1.1 ci _ B0.1
  obtain ⟨cf, kf, fi, fd, hi, hsl0⟩ := hSS k0 hk
  have hlay := C.2.2.2.2.1 _ (List.mem_cons_of_mem _ (B0.2.1 _ (u_in_lay hk)))
  have hlink := C.2.2.2.2.1 _ (List.mem_cons_of_mem _ hw)
  have hi2 := hi
  rw [hT] at hi2
  unfold u_lay at hlay
  rw [if_neg (by rw [hfin]; decide)] at hlay
  have hst := (u_facts hfc hkC (Or.inl hlay) hi).1
  have h6 := u_store hfc hkC hkind hlay hi hd1 hn1 hf1
  refine W.putK C.1 C.2.1 (f := fd) ⟨C.2.2.2.1, hlink, ⟨_, _, _, hi2⟩, hst⟩ (by rw [q2]; exact h6) q1 q3 (by rw [hsl0]; exact k2_hasslot (q4 k0 hk)) rfl rfl d fun H' e1 e2 e3 => ?_
  have hat : va_at D vwCl (o, .inr (ci, (c_fs S ci o).set k0 (.int v))) H' := by
    rw [hsl0] at e1
    exact ⟨_, B0.1, t_OB.to (V := updV (vp_V (c_fs S ci o)) k0 (.int v)) ⟨_, e1, q2, q3, t_set q4 hap hk _⟩ (fun j _ => vp_updV_set (by rw [c_flen, B0.2.2.2.2.1]; exact hk) _ j)⟩
  have hP' : RepC D K E0 (usI S f o v) G H' := RepC.putf (k := k0) (v := .int v) B0 hP hg hk rfl rfl rfl rfl rfl (fun r' o' h16 => by unfold c_ce; rw [if_neg (show ¬ r' < 16 by omega), if_neg (show ¬ r' < 16 by omega)]; rfl) (fun ci2 o2 k2 h => c_fvI ci2 o2 k2 (by rw [← hf]; exact h)) (by unfold c_fv; rw [hf]; rw [if_pos ht]; rw [show fI (usI S f o v) = up2 (fI S) f o v from rfl, up2_same]) q1 e1 e2 e3 hat
  have hown := (c_obj hP hg B0.2.2.2.2.2.1 B0.2.2.2.2.2.2).1
  have hAo : A0 o := hA o (Or.inl (by rw [hown]; have := B0.2.2.2.2.2.1; show ci ≠ 0; omega))
  have es : hsl H' = hsl H := hP'.2.2.2.trans hP.2.2.2.symm
  have kk := k G H' _ ls hP' hA (hS.put (k := fd.slot) e2 e3 hAo) (by rw [es]; exact hs) h1 h2 hl
  rw [e2, es] at kk
  exact kk
theorem gc_putIF (C : gc_Cx p l s m args c meth cc nL own hd D K E0 B A0 R) {ci : Nat} {CN : String} {T : u_T} {N : Nat} {ty : Nat → FieldType} (B0 : c_Cls ci CN T N ty) (f k0 : Nat) (hk : k0 < N) (hf : 16 * ci + k0 = f) {ix o : Nat} {v : Int32} (tyv : FieldType) (ht : cFT f = 0) (hw : Cond.fieldLink own ix CN (T k0).2.1 (T k0).2.2.1 ∈ wU) (hT : (T k0).1 = CN) (hfin : (T k0).2.2.2 = true) (hin2 : meth.name = "<init>") (hdecl : (T k0).1 = own) (hd1 : parseFieldDescriptor (T k0).2.2.1 = some tyv) (hn1 : narrow tyv (.int v) = .int v) (hf1 : fits tyv (.int v) = true) (hg : isC S o ci) (d : decode cc pc = .ok (.putfield ix, 3)) (k : GC p l e R s m args below meth c nL D K E0 B A0 Q (usI S f o v) (pc + 3) lv st) : GC p l e R s m args below meth c nL D K E0 B A0 Q S pc lv (.int v :: .ref o :: st) := by
  intro G H locs ls hP hA hS hs h1 h2 hl
  have hap := va_apart (own := own) (Ts := hd :: wU) C.2.2.2.2.1 (fun w h => List.mem_cons_of_mem _ (B0.2.1 w h)) ty B0.2.2.1 B0.2.2.2.1 C.2.2.2.2.2.1 B0.1
  obtain ⟨r, g1, cell, q1, q2, q3, q4⟩ := (c_obj hP hg B0.2.2.2.2.2.1 B0.2.2.2.2.2.2).2 0 _ rfl
  have hr : r = (CN, T, N) := Option.some.inj (g1.symm.trans B0.1)
  subst hr
  obtain ⟨hSS, hfc, kC, hkC, hkind⟩ := C.2.2.2.2.2.1.1 ci _ B0.1
  obtain ⟨cf, kf, fi, fd, hi, hsl0⟩ := hSS k0 hk
  have hlay := C.2.2.2.2.1 _ (List.mem_cons_of_mem _ (B0.2.1 _ (u_in_lay hk)))
  have hlink := C.2.2.2.2.1 _ (List.mem_cons_of_mem _ hw)
  have hi2 := hi
  rw [hT] at hi2
  unfold u_lay at hlay
  rw [if_pos hfin] at hlay
  have hst := (u_facts hfc hkC (Or.inr hlay) hi).1
  have hcf : m.cls = cf := by
    obtain ⟨_, _, c', _, _, _, -, -, hf', -, -, -, hown2, -⟩ := Cond.laysFinal_spec hlay
    have e1 : c' = cf := by have := hi.symm.trans hf'; simp at this; exact this.1.symm
    rw [hdecl] at hown2
    rw [← e1]; exact Option.some.inj (C.2.2.2.1.symm.trans hown2)
  have h6 := u_fits hfc hkC hkind (Or.inr hlay) hi hd1 hn1 hf1
  refine W.putFinK C.1 C.2.1 C.2.2.2.1 hlink hi2 hst hcf hin2 (by rw [q2]; exact h6) q1 q3 (by rw [hsl0]; exact k2_hasslot (q4 k0 hk)) rfl rfl d fun H' e1 e2 e3 => ?_
  have hat : va_at D vwCl (o, .inr (ci, (c_fs S ci o).set k0 (.int v))) H' := by
    rw [hsl0] at e1
    exact ⟨_, B0.1, t_OB.to (V := updV (vp_V (c_fs S ci o)) k0 (.int v)) ⟨_, e1, q2, q3, t_set q4 hap hk _⟩ (fun j _ => vp_updV_set (by rw [c_flen, B0.2.2.2.2.1]; exact hk) _ j)⟩
  have hP' : RepC D K E0 (usI S f o v) G H' := RepC.putf (k := k0) (v := .int v) B0 hP hg hk rfl rfl rfl rfl rfl (fun r' o' h16 => by unfold c_ce; rw [if_neg (show ¬ r' < 16 by omega), if_neg (show ¬ r' < 16 by omega)]; rfl) (fun ci2 o2 k2 h => c_fvI ci2 o2 k2 (by rw [← hf]; exact h)) (by unfold c_fv; rw [hf]; rw [if_pos ht]; rw [show fI (usI S f o v) = up2 (fI S) f o v from rfl, up2_same]) q1 e1 e2 e3 hat
  have hown := (c_obj hP hg B0.2.2.2.2.2.1 B0.2.2.2.2.2.2).1
  have hAo : A0 o := hA o (Or.inl (by rw [hown]; have := B0.2.2.2.2.2.1; show ci ≠ 0; omega))
  have es : hsl H' = hsl H := hP'.2.2.2.trans hP.2.2.2.symm
  have kk := k G H' _ ls hP' hA (hS.put (k := fd.slot) e2 e3 hAo) (by rw [es]; exact hs) h1 h2 hl
  rw [e2, es] at kk
  exact kk
theorem gc_putRF (C : gc_Cx p l s m args c meth cc nL own hd D K E0 B A0 R) {ci : Nat} {CN : String} {T : u_T} {N : Nat} {ty : Nat → FieldType} (B0 : c_Cls ci CN T N ty) (f k0 : Nat) (hk : k0 < N) (hf : 16 * ci + k0 = f) {ix o : Nat} {q : Nat} (CR : String) (ht : cFT f = 3) (hw : Cond.fieldLink own ix CN (T k0).2.1 (T k0).2.2.1 ∈ wU) (hT : (T k0).1 = CN) (hfin : (T k0).2.2.2 = true) (hin2 : meth.name = "<init>") (hdecl : (T k0).1 = own) (hd1 : parseFieldDescriptor (T k0).2.2.1 = some (.object CR)) (hg : isC S o ci) (d : decode cc pc = .ok (.putfield ix, 3)) (k : GC p l e R s m args below meth c nL D K E0 B A0 Q (usR S f o (some q)) (pc + 3) lv st) : GC p l e R s m args below meth c nL D K E0 B A0 Q S pc lv (.ref q :: .ref o :: st) := by
  intro G H locs ls hP hA hS hs h1 h2 hl
  have hap := va_apart (own := own) (Ts := hd :: wU) C.2.2.2.2.1 (fun w h => List.mem_cons_of_mem _ (B0.2.1 w h)) ty B0.2.2.1 B0.2.2.2.1 C.2.2.2.2.2.1 B0.1
  obtain ⟨r, g1, cell, q1, q2, q3, q4⟩ := (c_obj hP hg B0.2.2.2.2.2.1 B0.2.2.2.2.2.2).2 0 _ rfl
  have hr : r = (CN, T, N) := Option.some.inj (g1.symm.trans B0.1)
  subst hr
  obtain ⟨hSS, hfc, kC, hkC, hkind⟩ := C.2.2.2.2.2.1.1 ci _ B0.1
  obtain ⟨cf, kf, fi, fd, hi, hsl0⟩ := hSS k0 hk
  have hlay := C.2.2.2.2.1 _ (List.mem_cons_of_mem _ (B0.2.1 _ (u_in_lay hk)))
  have hlink := C.2.2.2.2.1 _ (List.mem_cons_of_mem _ hw)
  have hi2 := hi
  rw [hT] at hi2
  unfold u_lay at hlay
  rw [if_pos hfin] at hlay
  have hst := (u_facts hfc hkC (Or.inr hlay) hi).1
  have hcf : m.cls = cf := by
    obtain ⟨_, _, c', _, _, _, -, -, hf', -, -, -, hown2, -⟩ := Cond.laysFinal_spec hlay
    have e1 : c' = cf := by have := hi.symm.trans hf'; simp at this; exact this.1.symm
    rw [hdecl] at hown2
    rw [← e1]; exact Option.some.inj (C.2.2.2.1.symm.trans hown2)
  have h6 := u_fits hfc hkC hkind (Or.inr hlay) hi (v := .ref q) hd1 rfl rfl
  refine W.putFinK C.1 C.2.1 C.2.2.2.1 hlink hi2 hst hcf hin2 (by rw [q2]; exact h6) q1 q3 (by rw [hsl0]; exact k2_hasslot (q4 k0 hk)) rfl rfl d fun H' e1 e2 e3 => ?_
  have hat : va_at D vwCl (o, .inr (ci, (c_fs S ci o).set k0 (.ref q))) H' := by
    rw [hsl0] at e1
    exact ⟨_, B0.1, t_OB.to (V := updV (vp_V (c_fs S ci o)) k0 (.ref q)) ⟨_, e1, q2, q3, t_set q4 hap hk _⟩ (fun j _ => vp_updV_set (by rw [c_flen, B0.2.2.2.2.1]; exact hk) _ j)⟩
  have hP' : RepC D K E0 (usR S f o (some q)) G H' := RepC.putf (k := k0) (v := .ref q) B0 hP hg hk rfl rfl rfl rfl rfl (fun r' o' h16 => by unfold c_ce; rw [if_neg (show ¬ r' < 16 by omega), if_neg (show ¬ r' < 16 by omega)]; rfl) (fun ci2 o2 k2 h => c_fvR ci2 o2 k2 (by rw [← hf]; exact h)) (by unfold c_fv; rw [hf]; rw [if_neg (by rw [ht]; decide), if_pos ht]; rw [show fR (usR S f o (some q)) = up2 (fR S) f o (some q) from rfl, up2_same]; rfl) q1 e1 e2 e3 hat
  have hown := (c_obj hP hg B0.2.2.2.2.2.1 B0.2.2.2.2.2.2).1
  have hAo : A0 o := hA o (Or.inl (by rw [hown]; have := B0.2.2.2.2.2.1; show ci ≠ 0; omega))
  have es : hsl H' = hsl H := hP'.2.2.2.trans hP.2.2.2.symm
  have kk := k G H' _ ls hP' hA (hS.put (k := fd.slot) e2 e3 hAo) (by rw [es]; exact hs) h1 h2 hl
  rw [e2, es] at kk
  exact kk
theorem gc_iast (C : gc_Cx p l s m args c meth cc nL own hd D K E0 B A0 R) {ci k0 : Nat} (f : Nat) (h3 : 3 ≤ ci) (h15 : ci < 15) (hk : k0 < cNF ci) (hf : 16 * ci + k0 = f) {o : Nat} {i : Int32} {v : Int32} (ht : cFT f = 1) (hlt : f < 240) (hg : kdC S o = ci) (hin : vp_in i (cLN f)) (d : decode cc pc = .ok (.iastore, 1)) (k : GC p l e R s m args below meth c nL D K E0 B A0 Q (usA S f o i v) (pc + 1) lv st) : GC p l e R s m args below meth c nL D K E0 B A0 Q S pc lv (.int v :: .int i :: .ref (o + cOF f) :: st) := by
  intro G H locs ls hP hA hS hs h1 h2 hl
  obtain ⟨hown, he, -⟩ := c_emb hP hg h3 h15 hk hf (by rw [ht]; rfl)
  have hce : ∀ S9 : CS, c_ce K E0 S9 G f o = .inl (K 0, cLN f, .inl (fA S9 f o)) := by
    intro S9
    unfold c_ce
    rw [if_neg (by omega), if_neg (by omega)]
    simp [ht]
  rw [hce] at he
  have hc0 := he 0 _ rfl
  have hc0' : H[o + cOF f]? = some (arrV (K 0) (cLN f) (fun j => Value.int (fA S f o j))) := hc0
  refine W.iast C.1 C.2.1 hc0' ((C.2.2.2.2.2.1.2 0 _ rfl).1 _ _) (fun q => by cases q) (by show ¬ (i < 0 ∨ (arrV _ _ _).slots.size ≤ _); rw [arrV_size]; exact hin) rfl rfl d fun H' e1 e2 e3 => ?_
  have hP' : RepC D K E0 (usA S f o i v) G H' := by
    refine RepC.store (a := o + cOF f) (r := f) (o := o) hP hown (by omega) rfl rfl rfl rfl rfl ?_ hc0' e1 (k2_slotsz _ _ _) e2 e3 ?_
    · intro r' o' hr' hne _
      unfold c_ce
      by_cases h16 : r' < 16
      · rw [if_pos h16, if_pos h16]
        rfl
      · rw [if_neg h16, if_neg h16]
        by_cases hth : 1000 ≤ r'
        · rw [if_pos hth, if_pos hth]
          rfl
        · rw [if_neg hth, if_neg hth]
          rw [show fA (usA S f o i v) r' o' = fA S r' o' from up2_ne _ _ (fun h => hne (by rw [h.1, h.2]))]
          rfl
    · rw [hce]
      show H'[o + cOF f]? = some (vp_cell _ _)
      rw [e1]
      rw [vp_cell_i, arrV_store]
      congr 2
      funext q
      show updV (fun j => Value.int (fA S f o j)) i.toNatClampNeg (.int v) q = .int (up2 (fA S) f o (va_up (fA S f o) i.toNatClampNeg v) f o q)
      rw [up2_same]
      by_cases hq : q = i.toNatClampNeg
      · subst hq
        simp [updV, va_up]
      · simp [updV, va_up, hq]
  have hAo : A0 (o + cOF f) := hA _ (Or.inl (by rw [hown]; show f ≠ 0; omega))
  have es : hsl H' = hsl H := hP'.2.2.2.trans hP.2.2.2.symm
  have kk := k G H' _ ls hP' hA (hS.put (k := i.toNatClampNeg) e2 e3 hAo) (by rw [es]; exact hs) h1 h2 hl
  rw [e2, es] at kk
  exact kk
theorem gc_last (C : gc_Cx p l s m args c meth cc nL own hd D K E0 B A0 R) {ci k0 : Nat} (f : Nat) (h3 : 3 ≤ ci) (h15 : ci < 15) (hk : k0 < cNF ci) (hf : 16 * ci + k0 = f) {o : Nat} {i : Int32} {v : Int64} (hone : ∀ r, cFT r = 2 → r = f) (ht : cFT f = 2) (hlt : f < 240) (hg : kdC S o = ci) (hin : vp_in i (cLN f)) (d : decode cc pc = .ok (.lastore, 1)) (k : GC p l e R s m args below meth c nL D K E0 B A0 Q (usJ S o i v) (pc + 1) lv st) : GC p l e R s m args below meth c nL D K E0 B A0 Q S pc lv (.long v :: .int i :: .ref (o + cOF f) :: st) := by
  intro G H locs ls hP hA hS hs h1 h2 hl
  obtain ⟨hown, he, -⟩ := c_emb hP hg h3 h15 hk hf (by rw [ht]; rfl)
  have hce : ∀ S9 : CS, c_ce K E0 S9 G f o = .inl (K 1, cLN f, .inr (.inl (fJ S9 o))) := by
    intro S9
    unfold c_ce
    rw [if_neg (by omega), if_neg (by omega)]
    simp [ht]
  rw [hce] at he
  have hc0 := he 0 _ rfl
  have hc0' : H[o + cOF f]? = some (arrV (K 1) (cLN f) (fun j => Value.long (fJ S o j))) := hc0
  refine W.last C.1 C.2.1 hc0' ((C.2.2.2.2.2.1.2 1 _ rfl).1 _ _) (fun q => by cases q) (by show ¬ (i < 0 ∨ (arrV _ _ _).slots.size ≤ _); rw [arrV_size]; exact hin) rfl rfl d fun H' e1 e2 e3 => ?_
  have hP' : RepC D K E0 (usJ S o i v) G H' := by
    refine RepC.store (a := o + cOF f) (r := f) (o := o) hP hown (by omega) rfl rfl rfl rfl rfl ?_ hc0' e1 (k2_slotsz _ _ _) e2 e3 ?_
    · intro r' o' hr' hne _
      unfold c_ce
      by_cases h16 : r' < 16
      · rw [if_pos h16, if_pos h16]
        rfl
      · rw [if_neg h16, if_neg h16]
        by_cases hth : 1000 ≤ r'
        · rw [if_pos hth, if_pos hth]
          rfl
        · rw [if_neg hth, if_neg hth]
          by_cases ho2 : o' = o
          · subst ho2
            have hr2 : cFT r' ≠ 2 := fun h9 => hne (by rw [hone r' h9])
            simp [hr2]
            rfl
          · rw [show fJ (usJ S o i v) o' = fJ S o' from va_up_ne _ _ ho2]
            rfl
    · rw [hce]
      show H'[o + cOF f]? = some (vp_cell _ _)
      rw [e1]
      rw [vp_cell_l, arrV_store]
      congr 2
      funext q
      show updV (fun j => Value.long (fJ S o j)) i.toNatClampNeg (.long v) q = .long (va_up (fJ S) o (va_up (fJ S o) i.toNatClampNeg v) o q)
      rw [va_up_self]
      by_cases hq : q = i.toNatClampNeg
      · subst hq
        simp [updV, va_up]
      · simp [updV, va_up, hq]
  have hAo : A0 (o + cOF f) := hA _ (Or.inl (by rw [hown]; show f ≠ 0; omega))
  have es : hsl H' = hsl H := hP'.2.2.2.trans hP.2.2.2.symm
  have kk := k G H' _ ls hP' hA (hS.put (k := i.toNatClampNeg) e2 e3 hAo) (by rw [es]; exact hs) h1 h2 hl
  rw [e2, es] at kk
  exact kk
theorem gc_qast (C : gc_Cx p l s m args c meth cc nL own hd D K E0 B A0 R) {ci k0 : Nat} (f : Nat) (h3 : 3 ≤ ci) (h15 : ci < 15) (hk : k0 < cNF ci) (hf : 16 * ci + k0 = f) {o : Nat} {i : Int32} {v : Nat} {r : vw_C} (t0 : Nat) (hty : (c_tys K)[t0]? = some (K (cQK f), .object r.1)) (hcl : vwCl[cQK f]? = some r) (h3v : 3 ≤ cQK f) (h15v : cQK f < 15) (hgv : isC S v (cQK f)) (ht : cFT f = 4) (hlt : f < 240) (hg : kdC S o = ci) (hin : vp_in i (cLN f)) (d : decode cc pc = .ok (.aastore, 1)) (k : GC p l e R s m args below meth c nL D K E0 B A0 Q (usQ S f o i (some v)) (pc + 1) lv st) : GC p l e R s m args below meth c nL D K E0 B A0 Q S pc lv (.ref v :: .int i :: .ref (o + cOF f) :: st) := by
  intro G H locs ls hP hA hS hs h1 h2 hl
  obtain ⟨hown, he, -⟩ := c_emb hP hg h3 h15 hk hf (by rw [ht]; rfl)
  have hce : ∀ S9 : CS, c_ce K E0 S9 G f o = .inl (K (cQK f), cLN f, .inr (.inr (.inr (.inr (fQ S9 f o))))) := by
    intro S9
    unfold c_ce
    rw [if_neg (by omega), if_neg (by omega)]
    simp [ht]
  rw [hce] at he
  have hc0 := he 0 _ rfl
  have hc0' : H[o + cOF f]? = some (arrV (K (cQK f)) (cLN f) (fun j => va_rf (fQ S f o j))) := hc0
  have hlt2 : i.toNatClampNeg < cLN f := Nat.not_le.mp fun q => hin (Or.inr q)
  have h0 : ¬ i < 0 := fun q => hin (Or.inl q)
  obtain ⟨r', hr', cellV, u1, u2, u3, -⟩ := (c_obj hP hgv h3v h15v).2 0 _ rfl
  have hcls := (C.2.2.2.2.2.1.1 (cQK f) r hcl).2
  obtain ⟨kA, comp, k1, k2, k3, -⟩ := (C.2.2.2.2.2.1.2 t0 _ hty).2
  have hcomp : comp = D.1 (cQK f) := Option.some.inj (k3.symm.trans hcls.1)
  subst hcomp
  obtain ⟨kC, hkC, -⟩ := hcls.2
  refine W.aast C.1 C.2.1 hc0' (fun q h => by cases h) (fun h => by cases h) k1 k2 rfl hkC ⟨h0, by show _ < (arrV _ _ _).slots.size; rw [arrV_size]; exact hlt2⟩ u1 (fun q h => by rw [u3] at h; cases h) (by rw [u2]; exact hkC) (by rw [u2]; exact va_assign hcls) rfl rfl d fun H' e1 e2 e3 => ?_
  have hP' : RepC D K E0 (usQ S f o i (some v)) G H' := by
    refine RepC.store (a := o + cOF f) (r := f) (o := o) hP hown (by omega) rfl rfl rfl rfl rfl ?_ hc0' e1 (k2_slotsz _ _ _) e2 e3 ?_
    · intro r' o' hr' hne _
      unfold c_ce
      by_cases h16 : r' < 16
      · rw [if_pos h16, if_pos h16]
        rfl
      · rw [if_neg h16, if_neg h16]
        by_cases hth : 1000 ≤ r'
        · rw [if_pos hth, if_pos hth]
          rfl
        · rw [if_neg hth, if_neg hth]
          rw [show fQ (usQ S f o i (some v)) r' o' = fQ S r' o' from up2_ne _ _ (fun h => hne (by rw [h.1, h.2]))]
          rfl
    · rw [hce]
      show H'[o + cOF f]? = some (vp_cell _ _)
      rw [e1]
      rw [vp_cell_q, arrV_store]
      congr 2
      funext q
      show updV (fun j => va_rf (fQ S f o j)) i.toNatClampNeg (.ref v) q = va_rf (up2 (fQ S) f o (va_up (fQ S f o) i.toNatClampNeg (some v)) f o q)
      rw [up2_same]
      by_cases hq : q = i.toNatClampNeg
      · subst hq
        simp [updV, va_up, va_rf]
      · simp [updV, va_up, hq]
  have hAo : A0 (o + cOF f) := hA _ (Or.inl (by rw [hown]; show f ≠ 0; omega))
  have es : hsl H' = hsl H := hP'.2.2.2.trans hP.2.2.2.symm
  have kk := k G H' _ ls hP' hA (hS.put (k := i.toNatClampNeg) e2 e3 hAo) (by rw [es]; exact hs) h1 h2 hl
  rw [e2, es] at kk
  exact kk
end GCT
