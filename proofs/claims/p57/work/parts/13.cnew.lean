/-! NEW THINGS: objects, and the arrays and lists that an object owns -/
theorem cNE0 {ci k : Nat} (h : cNE ci = 0) (hc : ci < 15) (h3 : 3 ≤ ci) (hk : k < cNF ci) : cEmb (cFT (16 * ci + k)) = false := by
  have hb : cNF ci ≤ 11 := (by decide : ∀ n, n < 15 → cNF n ≤ 11) ci hc
  exact (by decide : ∀ n, n < 15 → 3 ≤ n → cNE n = 0 → ∀ j, j < 11 → j < cNF n → cEmb (cFT (16 * n + j)) = false) ci hc h3 h k (by omega) hk
def newO (S : CS) (ci : Nat) : CS := mkC (va_up (kdC S) (szC S) (if cNE ci = 0 then ci else ci + 100)) (fun f q => if q = szC S then 0 else fI S f q) (fA S) (fJ S) (fun f q => if q = szC S then none else fR S f q) (fQ S) (fL S) (fC S) (szC S + 1) (nsC S + cNF ci)
theorem newO_fs {S : CS} {ci : Nat} (h3 : 3 ≤ ci) (h15 : ci < 15) (k : Nat) (hk : k < cNF ci) : c_fv (newO S ci) ci (szC S) k = if cFT (16 * ci + k) = 0 then .int 0 else .null := by
  have hI : fI (newO S ci) (16 * ci + k) (szC S) = 0 := if_pos rfl
  have hR : fR (newO S ci) (16 * ci + k) (szC S) = none := if_pos rfl
  have hk2 : kdC (newO S ci) (szC S) = if cNE ci = 0 then ci else ci + 100 := va_up_self _ _ _
  unfold c_fv
  rw [hI, hR, hk2]
  by_cases h0 : cFT (16 * ci + k) = 0
  · rw [if_pos h0, if_pos h0]
  · rw [if_neg h0, if_neg h0]
    by_cases h1 : cFT (16 * ci + k) = 3
    · rw [if_pos h1]
      rfl
    · rw [if_neg h1]
      rw [if_neg]
      by_cases hz : cNE ci = 0
      · have he := cNE0 hz h15 h3 hk
        have hb : cNF ci ≤ 11 := (by decide : ∀ n, n < 15 → cNF n ≤ 11) ci h15
        rcases (by decide : ∀ n, n < 15 → 3 ≤ n → ∀ j, j < 11 → j < cNF n → (cFT (16 * n + j) = 0 ∨ cFT (16 * n + j) = 3 ∨ cEmb (cFT (16 * n + j)) = true)) ci h15 h3 k (by omega) hk with q | q | q
        · exact absurd q h0
        · exact absurd q h1
        · rw [he] at q
          cases q
      · rw [if_neg hz]
        unfold cAtt
        have e1 : (ci + 100) / 100 - 1 = 0 := by omega
        rw [e1]
        simp
theorem RepC.kd_lt {D : va_G} {K : Nat → ClassId} {E0 : Nat} {S : CS} {G : CG} {H : Heap} (hP : RepC D K E0 S G H) {o : Nat} (h : kdC S o ≠ 0) : o < szC S := by
  have h1 := (hP.2.1 o h)
  exact hP.lt (a := o) (by rw [h1.1]; show kdC S o % 100 ≠ 0; omega)
theorem RepC.new {D : va_G} {K : Nat → ClassId} {E0 : Nat} {S : CS} {G : CG} {H H1 : Heap} {ci : Nat} {cell : Cell} (hP : RepC D K E0 S G H) (h3 : 3 ≤ ci) (h15 : ci < 15) (hz : H1.size = H.size + 1) (hc : H1[H.size]? = some cell) (hq : ∀ q, q < H.size → H1[q]? = H[q]?) (hs : cell.slots.size = cNF ci)
    (hat : va_at D vwCl (H.size, .inr (ci, c_fs (newO S ci) ci (szC S))) H1) : RepC D K E0 (newO S ci) (va_up G.1 (szC S) (ci, szC S), G.2) H1 := by
  have y1 : H.size = szC S := hP.2.2.1
  have hkd : ∀ o', o' ≠ szC S → kdC (newO S ci) o' = kdC S o' := fun o' h => va_up_ne _ _ h
  have hkd0 : kdC (newO S ci) (szC S) = if cNE ci = 0 then ci else ci + 100 := va_up_self _ _ _
  have hv : ∀ c2 k2 o', o' ≠ szC S → c_fv (newO S ci) c2 o' k2 = c_fv S c2 o' k2 := by
    intro c2 k2 o' h
    have hI : fI (newO S ci) (16 * c2 + k2) o' = fI S (16 * c2 + k2) o' := if_neg h
    have hR : fR (newO S ci) (16 * c2 + k2) o' = fR S (16 * c2 + k2) o' := if_neg h
    unfold c_fv
    rw [hI, hR, hkd o' h]
  have hce : ∀ r o', o' ≠ szC S → c_ce K E0 (newO S ci) (va_up G.1 (szC S) (ci, szC S), G.2) r o' = c_ce K E0 S G r o' := by
    intro r o' h
    unfold c_ce
    have hfs : c_fs (newO S ci) r o' = c_fs S r o' := List.map_congr_left (fun k2 _ => hv r k2 o' h)
    rw [hfs]
    rfl
  refine ⟨fun a r o h1 h2 => ?_, fun o h1 => ?_, by rw [hz, y1]; rfl, by rw [hsl_push hz hc hq, hs, hP.2.2.2]; rfl⟩
  · by_cases ha : a = szC S
    · subst ha
      have e : (ci, szC S) = (r, o) := by rw [← h1]; exact (va_up_self _ _ _).symm
      cases e
      refine ⟨?_, ?_, ?_, ?_⟩
      · unfold c_ce
        rw [if_pos (by omega), ← y1]
        rw [← y1] at hat
        exact hat
      · unfold c_adr
        rw [if_pos (by omega)]
      · rw [hkd0]
        split <;> omega
      · intro h
        omega
    · have h1' : G.1 a = (r, o) := by rw [← h1]; exact (va_up_ne _ _ ha).symm
      obtain ⟨g1, g2, g3⟩ := hP.1 a r o h1' h2
      have ho : o ≠ szC S := Nat.ne_of_lt (hP.kd_lt g3.1)
      refine ⟨?_, g2, ?_⟩
      · rw [hce r o ho]
        exact va_at.kept g1 (hq a g1.lt)
      · unfold c_rok
        rw [hkd o ho]
        exact g3
  · by_cases ho : o = szC S
    · subst ho
      have hm : kdC (newO S ci) (szC S) % 100 = ci := by
        rw [hkd0]
        split <;> omega
      rw [hm]
      refine ⟨va_up_self _ _ _, h3, h15, fun k hk he hat2 => ?_⟩
      rw [hkd0] at hat2
      by_cases hz0 : cNE ci = 0
      · rw [cNE0 hz0 h15 h3 hk] at he
        cases he
      · rw [if_neg hz0] at hat2
        unfold cAtt at hat2
        have e1 : (ci + 100) / 100 - 1 = 0 := by omega
        rw [e1] at hat2
        simp at hat2
        omega
    · rw [hkd o ho] at h1 ⊢
      obtain ⟨g1, g2, g3, g4⟩ := hP.2.1 o h1
      refine ⟨by rw [← g1]; exact va_up_ne _ _ ho, g2, g3, fun k hk he hat2 => ?_⟩
      obtain ⟨q1, q2⟩ := g4 k hk he hat2
      have hlt : o + cOF (16 * (kdC S o % 100) + k) < szC S := hP.lt (by rw [q1]; show 16 * (kdC S o % 100) + k ≠ 0; omega)
      refine ⟨by rw [← q1]; exact va_up_ne _ _ (Nat.ne_of_lt hlt), fun h5 => ?_⟩
      have q3 := q2 h5
      unfold c_lok at q3 ⊢
      show (match G.2.1 (16 * (kdC S o % 100) + k) o with | none => _ | some q => _)
      cases hd : G.2.1 (16 * (kdC S o % 100) + k) o with
      | none => rw [hd] at q3; exact q3
      | some q =>
        rw [hd] at q3
        refine ⟨?_, q3.2⟩
        have hlt2 : q < szC S := hP.lt (by rw [q3.1]; show 1000 + _ ≠ 0; omega)
        rw [← q3.1]
        exact va_up_ne _ _ (Nat.ne_of_lt hlt2)

section GCN
variable {p : Program} {l : Launch} {e : Env} {R : Room} {s : State} {m : MethodId} {args : Array Value} {below : List Frame} {meth : Method} {c : Code} {Q : State → Prop}
variable {cc : ByteArray} {nL : Nat} {own : String} {hd : Cond} {D : va_G} {K : Nat → ClassId} {E0 : Nat} {B : Nat × Nat} {A0 : Nat → Prop}
variable {S : CS} {pc : Nat} {lv : List (Nat × Value)} {st : List Value} {P0 : Option Value → CS → Prop} {X0 : String → CS → Prop} {S0 : CS}
theorem newO_le {ci : Nat} (h : kdC S (szC S) = 0) : kdLe S (newO S ci) := fun o h0 h1 => va_up_ne _ _ (fun e => h0 (by rw [e]; exact h))
theorem gc_new (C : gc_Cx p l s m args c meth cc nL own hd D K E0 B A0 R) {ci ix : Nat} {CN : String} {T : u_T} {N : Nat} {ty : Nat → FieldType} (B0 : c_Cls ci CN T N ty) (hdf : ∀ j, j < N → defaultValue (ty j) = if cFT (16 * ci + j) = 0 then .int 0 else .null) (hw : ∀ w ∈ ([.classLink own ix CN, .instantiable CN N, .initialized CN] : List Cond), w ∈ wU)
    (hroom : szC S + 1 ≤ B.1 ∧ nsC S + cNF ci ≤ B.2) (d : decode cc pc = .ok (.new ix, 3))
    (k : kdC S (szC S) = 0 → GC p l e R s m args below meth c nL D K E0 B A0 Q (newO S ci) (pc + 3) lv (.ref (szC S) :: st)) : GC p l e R s m args below meth c nL D K E0 B A0 Q S pc lv st := by
  intro G H locs ls hP hA hS hs h1 h2 hl
  have y1 : H.size = szC S := hP.2.2.1
  have y2 : hsl H = nsC S := hP.2.2.2
  have z0 : s.heap.size ≤ H.size := hS.1
  have hNN : cNF ci = N := B0.2.2.2.2.1
  have hc1 : H.size - s.heap.size + 1 ≤ R.cells ∧ hsl H - hsl s.heap + N ≤ R.slots := by
    rw [C.2.2.2.2.2.2.1.1, C.2.2.2.2.2.2.1.2]
    omega
  have hKn := C.2.2.2.2.2.1.1 ci _ B0.1
  have hins : (Cond.instantiable CN N).before args s = true := C.2.2.2.2.1 _ (List.mem_cons_of_mem _ (hw _ (by simp)))
  refine W.newcK C.1 C.2.1 C.2.2.2.1 (C.2.2.2.2.1 _ (List.mem_cons_of_mem _ (hw _ (by simp)))) hins (C.2.2.2.2.1 _ (List.mem_cons_of_mem _ (hw _ (by simp)))) rfl d hc1.1 hc1.2 hKn.2.1 rfl fun H1 kC hkC e1 z1 o1 => ?_
  obtain ⟨c9, k9, f1, f2, -, -, -, f3⟩ := Cond.instantiable_spec hins
  cases hKn.2.1.symm.trans f1
  cases hkC.symm.trans f2
  have hk0 : kdC S (szC S) = 0 := Classical.byContradiction fun h => Nat.lt_irrefl _ (hP.kd_lt h)
  have hsz : (blank (D.1 ci) kC).slots.size = cNF ci := by
    rw [hNN, ← f3]
    simp [blank]
  have hat : va_at D vwCl (H.size, .inr (ci, c_fs (newO S ci) ci (szC S))) H1 := ⟨_, B0.1, (u_born ty C.2.2.2.2.1 (fun w h => List.mem_cons_of_mem _ (B0.2.1 w h)) hKn hkC e1 B0.2.2.1).to (fun j hj => by
    rw [hdf j hj]
    unfold vp_V
    rw [List.getD_eq_getElem?_getD, c_fget (by rw [hNN]; exact hj), newO_fs B0.2.2.2.2.2.1 B0.2.2.2.2.2.2 j (by rw [hNN]; exact hj)]
    rfl)⟩
  have hP1 := hP.new B0.2.2.2.2.2.1 B0.2.2.2.2.2.2 z1 e1 o1 hsz hat
  have es : hsl H1 = nsC S + cNF ci := hP1.2.2.2
  have kk := k hk0 _ H1 locs ls hP1 (fun q hq => by
    rcases hq with h | h
    · by_cases hq2 : q = szC S
      · exact hA q (Or.inr (by omega))
      · refine hA q (Or.inl ?_)
        have h9 : (va_up G.1 (szC S) (ci, szC S) q).1 ≠ 0 := h
        rw [va_up_ne _ _ hq2] at h9
        exact h9
    · exact hA q (Or.inr (by have h9 : szC S + 1 ≤ q := h; omega))) ⟨Nat.le_trans hS.1 (by omega), fun x h3 h4 => (o1 x (Nat.lt_of_lt_of_le h3 hS.1)).trans (hS.2.1 x h3 h4), hS.2.2⟩ (by rw [es, ← y2]; omega) (by show szC S + 1 ≤ B.1; omega) (by show nsC S + cNF ci ≤ B.2; omega) hl
  rw [z1, es] at kk
  refine W.widen (k := H.size + 1 - s.heap.size) (n := nsC S + cNF ci - hsl s.heap) (by omega) (by omega) ?_
  rw [← y1] at kk
  exact kk
end GCN
