/-! LISTS THAT AN OBJECT OWNS: the calls -/
theorem va_P1 {D : va_G} {cl : List vw_C} {x : Nat × va_E} {H : Heap} (h : va_at D cl x H) : va_P D cl [x] H := by
  intro k q hk
  cases k with
  | zero => cases hk; exact h
  | succ k => simp at hk
theorem va_P2 {D : va_G} {cl : List vw_C} {x y : Nat × va_E} {H : Heap} (h : va_at D cl x H) (h2 : va_at D cl y H) : va_P D cl [x, y] H := by
  intro k q hk
  cases k with
  | zero => cases hk; exact h
  | succ k =>
    cases k with
    | zero => cases hk; exact h2
    | succ k => simp at hk
theorem va_D1 {A : Nat → Prop} {a : Nat} {e : va_E} (h : A a) : va_D A [(a, e)] := by
  refine ⟨fun i j p q hi hj hpq => ?_, fun k q hk => ?_⟩
  · have h1 := (List.getElem?_eq_some_iff.mp hi).1
    have h2 := (List.getElem?_eq_some_iff.mp hj).1
    simp at h1 h2
    omega
  · cases k with
    | zero => cases hk; exact h
    | succ k => simp at hk
theorem va_D2 {A : Nat → Prop} {a b : Nat} {e e2 : va_E} (h : A a) (h2 : A b) (hab : a ≠ b) : va_D A [(a, e), (b, e2)] := by
  refine ⟨fun i j p q hi hj hpq => ?_, fun k q hk => ?_⟩
  · rcases i with _ | _ | i <;> rcases j with _ | _ | j <;> simp at hi hj
    · rfl
    · subst hi; subst hj; exact absurd hpq hab
    · subst hi; subst hj; exact absurd hpq.symm hab
    · rfl
  · rcases k with _ | _ | k <;> simp at hk
    · subst hk; exact h
    · subst hk; exact h2
theorem va_Dne {A : Nat → Prop} {ws : va_W} (h : va_D A ws) {i j : Nat} {p q : Nat × va_E} (hi : ws[i]? = some p) (hj : ws[j]? = some q) (hij : i ≠ j) : p.1 ≠ q.1 := fun e => hij (h.1 i j p q hi hj e)
theorem l_none {L : List Nat} {i : Nat} (h : L.length ≤ i) : L[i]? = none := List.getElem?_eq_none h
theorem l_app (L : List Nat) (v : Nat) : va_up (fun i => L[i]?) L.length (some v) = fun i => (L ++ [v])[i]? := by
  funext i
  show (if i = L.length then some v else L[i]?) = (L ++ [v])[i]?
  by_cases h : i = L.length
  · subst h
    simp
  · rw [if_neg h]
    by_cases h2 : i < L.length
    · rw [List.getElem?_append_left h2]
    · rw [l_none (L := L) (by omega), l_none (L := L ++ [v]) (by rw [List.length_append]; show L.length + 1 ≤ i; omega)]
theorem l_cpy (L : List Nat) {cap : Nat} (h : L.length = cap) : va_cpy (fun i => L[i]?) (fun _ => none) 0 0 cap = fun i => L[i]? := by
  funext i
  show (if 0 ≤ i ∧ i < 0 + cap then L[0 + (i - 0)]? else none) = L[i]?
  by_cases h2 : 0 ≤ i ∧ i < 0 + cap
  · rw [if_pos h2]
    simp
  · rw [if_neg h2, l_none (L := L) (by omega)]
def l_ins (L : List Nat) (i v : Nat) : List Nat := L.take i ++ v :: L.drop i
theorem l_insLen {L : List Nat} {i v : Nat} (h : i ≤ L.length) : (l_ins L i v).length = L.length + 1 := by
  unfold l_ins
  rw [List.length_append, List.length_take, List.length_cons, List.length_drop]
  omega
theorem l_insEq {L : List Nat} {i v n : Nat} (hn : L.length = n) (h : i ≤ n) : va_up (va_cpy (fun j => L[j]?) (fun j => L[j]?) i (i + 1) (n - i)) i (some v) = fun j => (l_ins L i v)[j]? := by
  funext j
  show (if j = i then some v else if i + 1 ≤ j ∧ j < i + 1 + (n - i) then L[i + (j - (i + 1))]? else L[j]?) = (L.take i ++ v :: L.drop i)[j]?
  have hlt : (L.take i).length = i := by rw [List.length_take]; omega
  by_cases hj : j = i
  · rw [if_pos hj, List.getElem?_append_right (by omega), hlt, show j - i = 0 by omega]
    rfl
  · rw [if_neg hj]
    by_cases h1 : i + 1 ≤ j ∧ j < i + 1 + (n - i)
    · rw [if_pos h1, List.getElem?_append_right (by omega), hlt, show j - i = (j - (i + 1)) + 1 by omega, List.getElem?_cons_succ, List.getElem?_drop]
    · rw [if_neg h1]
      by_cases h2 : j < i
      · rw [List.getElem?_append_left (by omega), List.getElem?_take_of_lt h2]
      · have h3 := l_insLen (L := L) (i := i) (v := v) (by omega)
        unfold l_ins at h3
        rw [l_none (L := L) (by omega), l_none (L := L.take i ++ v :: L.drop i) (by omega)]
theorem l_delEq {L : List Nat} {i n : Nat} (hn : L.length = n) (h : i + 1 < n) : va_up (va_cpy (fun j => L[j]?) (fun j => L[j]?) (i + 1) i (n - 1 - i)) (n - 1) none = fun j => (L.eraseIdx i)[j]? := by
  funext j
  show (if j = n - 1 then none else if i ≤ j ∧ j < i + (n - 1 - i) then L[i + 1 + (j - i)]? else L[j]?) = (L.eraseIdx i)[j]?
  rw [List.getElem?_eraseIdx]
  by_cases hj : j = n - 1
  · rw [if_pos hj, if_neg (by omega), l_none (L := L) (by omega)]
  · rw [if_neg hj]
    by_cases h1 : i ≤ j ∧ j < i + (n - 1 - i)
    · rw [if_pos h1, if_neg (by omega)]
      exact congrArg (fun z => L[z]?) (by omega)
    · rw [if_neg h1]
      by_cases h2 : j < i
      · rw [if_pos h2]
      · rw [if_neg h2, l_none (L := L) (i := j) (by omega), l_none (L := L) (i := j + 1) (by omega)]
theorem l_delEqT {L : List Nat} {i n : Nat} (hn : L.length = n) (h : i + 1 = n) : va_up (fun j => L[j]?) (n - 1) none = fun j => (L.eraseIdx i)[j]? := by
  funext j
  show (if j = n - 1 then none else L[j]?) = (L.eraseIdx i)[j]?
  rw [List.getElem?_eraseIdx]
  by_cases hj : j = n - 1
  · rw [if_pos hj, if_neg (by omega), l_none (L := L) (by omega)]
  · rw [if_neg hj]
    by_cases h2 : j < i
    · rw [if_pos h2]
    · rw [if_neg h2, l_none (L := L) (i := j) (by omega), l_none (L := L) (i := j + 1) (by omega)]
def lG (S : CS) (f o : Nat) (i : Int32) : Nat := ((fL S f o)[i.toNatClampNeg]?).getD 0
def lIn (S : CS) (f o : Nat) (i : Int32) : Prop := vp_in i (fL S f o).length ∧ (fL S f o).length < 2147483648
/-- room in a list: its capacity behind one more -/
def capA (S : CS) (f o : Nat) : Nat := if (fL S f o).length < fC S f o then fC S f o else if fC S f o = 0 then 10 else fC S f o + fC S f o / 2
def lcA (S : CS) (f o : Nat) : Nat := if (fL S f o).length < fC S f o then 0 else 1
def lcS (S : CS) (f o : Nat) : Nat := if (fL S f o).length < fC S f o then 0 else capA S f o
def lOK (S : CS) (f o : Nat) : Prop := fC S f o ≤ 500000 ∧ ∀ y, y ∈ fL S f o → kdC S y = cEK f
theorem RepC.same {D : va_G} {K : Nat → ClassId} {E0 : Nat} {S : CS} {G : CG} {H H1 : Heap} (hP : RepC D K E0 S G H) (hz : H1.size = H.size) (hs : hsl H1 = hsl H) (hx : ∀ a r o', G.1 a = (r, o') → r ≠ 0 → va_at D vwCl (a, c_ce K E0 S G r o') H1) : RepC D K E0 S G H1 :=
  ⟨fun a r o' h1 h2 => ⟨hx a r o' h1 h2, (hP.1 a r o' h1 h2).2⟩, hP.2.1, by rw [hz]; exact hP.2.2.1, by rw [hs]; exact hP.2.2.2⟩
theorem usLG_A {A0 : Nat → Prop} {S : CS} {G : CG} {f o q : Nat} {m : Int32} {sz : Nat} {h : Nat} (hA : ∀ a, gA G (szC S) a → A0 a) (hz : szC S ≤ sz) (hq : A0 q) : ∀ a, gA (usLG G f o q m) sz a → A0 a := by
  intro a ha
  rcases ha with ha | ha
  · by_cases h1 : a = q
    · rw [h1]; exact hq
    · refine hA a (Or.inl ?_)
      have h9 : (if a = q then (1000 + f, o) else if G.1 a = (1000 + f, o) then (0, 0) else G.1 a).1 ≠ 0 := ha
      rw [if_neg h1] at h9
      by_cases h2 : G.1 a = (1000 + f, o)
      · rw [h2]; show 1000 + f ≠ 0; omega
      · rw [if_neg h2] at h9
        exact h9
  · exact hA a (Or.inr (Nat.le_trans hz ha))
section GCL
variable {p : Program} {l : Launch} {e : Env} {R : Room} {s : State} {m : MethodId} {args : Array Value} {below : List Frame} {meth : Method} {c : Code} {Q : State → Prop}
variable {cc : ByteArray} {nL : Nat} {own : String} {hd : Cond} {D : va_G} {K : Nat → ClassId} {E0 : Nat} {B : Nat × Nat} {A0 : Nat → Prop}
variable {S : CS} {pc : Nat} {lv : List (Nat × Value)} {st : List Value} {S0 : CS}

theorem gc_jV (C : gc_Cx p l s m args c meth cc nL own hd D K E0 B A0 R) {y : MethodName} {cb : ByteArray} {maxL ix n d d2 mc ms lo : Nat} {ret : Option FieldType} {as : List Value} {P : Option Value → va_W → Prop} {A EL : Nat → Prop} {ws : va_W} {fs : List Value} {G : CG} {H : Heap} {locs : List Loc} {ls : Array Slot}
    (hR : R = rmC d2 B S0) (hd2 : d < d2) (hm : maxL ≤ 29) (hP : RepC D K E0 S G H) (hS : va_S A0 s.heap H locs) (hs : hsl s.heap ≤ hsl H) (hl : lv_has ls nL lv) (hro : szC S + mc ≤ B.1 ∧ nsC S + ms ≤ B.2)
    (hwP : va_P D vwCl ws H) (hwD : va_D A ws) (hAA : ∀ q, A q → A0 q) (hA2 : ∀ q, H.size ≤ q → A q) (hEL : ∀ y, EL y → j_El s H y)
    (hM : MetJ l y cb maxL ret d mc ms (.ref lo :: as) ws P D K E0 A EL) (he : ws[0]? = some (lo, .inr (2, fs)))
    (hy : y.cls = RJx4a65c ∧ y.cls ≠ "java/lang/invoke/MethodHandle" ∧ y.cls ≠ "java/lang/invoke/VarHandle" ∧ (parseMethodDescriptor y.desc).map (fun d => d.parameters.length) = some n) (hn : as.length = n)
    (hw : ∀ w ∈ ([.methodLink own ix y, .instanceMethod y, .selects RJx4a65c y y, .initialized RJx4a65c] : List Cond), w ∈ wU) (hcode : Cond.code y cb maxL ret ∈ wU)
    (hdg : decode cc pc = .ok (.invokevirtual ix, 3)) (hst : (st.map fun v => v.category).sum ≤ 8)
    (kk : ∀ (v : Option Value) (ws' : va_W) (H1 : Heap) (locs1 : List Loc), P v ws' → va_P D vwCl ws' H1 → va_D A ws' → (∀ q : Nat, q < H.size → ¬ A q → H1[q]? = H[q]?) → va_S A0 s.heap H1 locs1 → H.size ≤ H1.size → H1.size ≤ H.size + mc → hsl H ≤ hsl H1 → hsl H1 ≤ hsl H + ms → W p l e R s m args below meth c H1 locs1 (H1.size - s.heap.size) (hsl H1 - hsl s.heap) Q (F0 m (pc + 3) ls (v.toList ++ st))) :
    W p l e R s m args below meth c H locs (H.size - s.heap.size) (hsl H - hsl s.heap) Q (F0 m pc ls (as.reverse ++ .ref lo :: st)) := by
  intro T hT X
  have y1 : H.size = szC S := hP.2.2.1
  have y2 : hsl H = nsC S := hP.2.2.2
  have z0 : s.heap.size ≤ H.size := hS.1
  have hb0 : (H.size - s.heap.size) + mc ≤ R.cells ∧ (hsl H - hsl s.heap) + ms ≤ R.slots := by
    rw [C.2.2.2.2.2.2.1.1, C.2.2.2.2.2.2.1.2]
    omega
  have hrun := va_runV (meth := meth) (below := below) (e := e) (g := F0 m pc ls (as.reverse ++ .ref lo :: st)) (locs := locs) (cells := H.size - s.heap.size) (slots := hsl H - hsl s.heap) (As := as) (rest := st) ⟨C.1, C.2.1, C.2.2.1, C.2.2.2.1, C.2.2.2.2.1⟩ hM (cwV n C.2.2.2.2.1 (gU hw hcode) rfl rfl rfl hy ⟨by rw [hR]; exact hd2, by rw [hR]; show 8 + (maxL + 11) + 48 * d ≤ 48 * d2; omega⟩)
    ⟨j_blind, va_recv C.2.2.2.2.2.1 hwP (ci := 2) (q0 := 0) rfl he, fun U hU hW => ⟨rfl, by rw [hU]; exact hwP, hwD, va_K.moved hW.alike C.2.2.2.2.2.1, by rw [hU]; exact (StC.narrow (StC.kept (StC.moved hW.alike C.2.2.2.2.2.2.2.1) hS.2.1) hAA).2.1, c_Ev.warm hW C.2.2.2.2.2.2.2.2.2.2.2.2, fun q hq => hA2 q (by rw [hU] at hq; exact hq), fun y hy => by rw [hU]; exact j_El.moved hW.alike (hEL y hy)⟩⟩ rfl hn hl.1 rfl (lv_room hst) hdg hb0
  obtain ⟨v, st₀, t, T', L, h0, X', hL, e1, e2, ⟨⟨v', ws', hv, hp, hPP, hDD, hhs⟩, hF⟩, stp⟩ := hrun T hT X
  cases hv
  obtain ⟨k1, k2, k3⟩ := vx_keep h0 e1 hS (fun q _ z => hAA q z) (fun q z => hAA q z) hL hF
  have hb := stand_slots X'
  rw [h0, ← e1] at hhs
  obtain ⟨t2, a1, b1⟩ := kk v ws' T'.heap (locs ++ L) hp (by rw [e1]; exact hPP) hDD k2 k3 k1 (by omega) hhs (by omega) T' rfl (stand_norm X')
  exact ⟨t2, stp t2 a1, b1⟩
theorem c_el {ci ce : Nat} {rr : vw_C} {G : CG} {H : Heap} (hK : va_K D vwCl (c_tys K) s) (hP : RepC D K E0 S G H) {y : Nat} (hy : kdC S y = ce) (h3 : 3 ≤ ce) (h15 : ce < 15) (hcl : vwCl[ce]? = some rr) (hca : Cond.castable rr.1 "java/lang/Object" ∈ nwL) : j_El s H y := by
  obtain ⟨cell, h1, h2, h4⟩ := va_recv hK (c_obj hP (isC_of hy (by omega)) h3 h15).2 (ci := ce) (q0 := 0) hcl rfl
  exact ⟨cell, rr.1, h1, h2, h4, hca⟩
theorem gc_lsSize (C : gc_Cx p l s m args c meth cc nL own hd D K E0 B A0 R) {ci k0 : Nat} (f : Nat) (h3 : 3 ≤ ci) (h15 : ci < 15) (hk : k0 < cNF ci) (hf : 16 * ci + k0 = f) {o ix d2 : Nat} (ht : cFT f = 5) (hR : R = rmC d2 B S0) (hd2 : 2 < d2)  (hg : kdC S o = ci) (hw : ∀ w ∈ ([.methodLink own ix yJx4a65c_size_8abf5, .instanceMethod yJx4a65c_size_8abf5, .selects RJx4a65c yJx4a65c_size_8abf5 yJx4a65c_size_8abf5, .initialized RJx4a65c] : List Cond), w ∈ wU) (d : decode cc pc = .ok (.invokevirtual ix, 3)) (hst : (st.map fun v => v.category).sum ≤ 8) (k : GC p l e R s m args below meth c nL D K E0 B A0 Q S (pc + 3) lv (.int (nI (fL S f o).length) :: st)) : GC p l e R s m args below meth c nL D K E0 B A0 Q S pc lv (.ref (o + cOF f) :: st) := by
  intro G H locs ls hP hA hS hs h1 h2 hl
  have y1 : H.size = szC S := hP.2.2.1
  have y2 : hsl H = nsC S := hP.2.2.2
  obtain ⟨u1, u2, u3⟩ := hP.lists h3 h15 hk hf ht hg
  have hA0lo : A0 (o + cOF f) := hA _ (Or.inl (by rw [u1]; show f ≠ 0; omega))
  have hA0n : ∀ q, H.size ≤ q → A0 q := fun q hq => hA q (Or.inr (by omega))
  obtain ⟨x9, hx⟩ : ∃ x, c_dref E0 (G.2.1 f o) = .ref x := by cases G.2.1 f o <;> exact ⟨_, rfl⟩
  rw [hx] at u2
  have key : ∀ (P : Option Value → va_W → Prop) (ret : Option FieldType) (maxL d9 : Nat) (cb : ByteArray), MetJ l yJx4a65c_size_8abf5 cb maxL ret d9 0 0 (.ref (o + cOF f) :: []) [((o + cOF f), .inr (2, [.int (G.2.2 f o), .ref x9, .int (nI (fL S f o).length)]))] P D K E0 (fun q => q = (o + cOF f) ∨ H.size ≤ q) (fun _ => False) → d9 < d2 → maxL ≤ 29 → Cond.code yJx4a65c_size_8abf5 cb maxL ret ∈ wU → (∀ v ws', P v ws' → v = some (.int (nI (fL S f o).length)) ∧ ws' = [((o + cOF f), .inr (2, [.int (G.2.2 f o), .ref x9, .int (nI (fL S f o).length)]))]) → W p l e R s m args below meth c H locs (H.size - s.heap.size) (hsl H - hsl s.heap) Q (F0 m pc ls (([] : List Value).reverse ++ .ref (o + cOF f) :: st)) := by
    intro P ret maxL d9 cb hM hd9 hm9 hcu hpost
    refine gc_jV C (A := fun q => q = (o + cOF f) ∨ H.size ≤ q) (EL := fun _ => False) hR hd9 hm9 hP hS hs hl ⟨h1, h2⟩ (va_P1 u2) (va_D1 (Or.inl rfl)) (fun q hq => hq.elim (fun h => h ▸ hA0lo) (hA0n q)) (fun q hq => Or.inr hq) (fun y hy => hy.elim) hM rfl hcj_Jx4a65c_size_8abf5 rfl hw hcu d hst (fun v ws' H1 locs1 hp hPP hDD ho hS1 z1 z2 z3 z4 => ?_)
    obtain ⟨rfl, rfl⟩ := hpost v ws' hp
    have hx9 : ∀ a r o', G.1 a = (r, o') → r ≠ 0 → va_at D vwCl (a, c_ce K E0 S G r o') H1 := by
      intro a r o' g1 g2
      by_cases ha : a = (o + cOF f)
      · subst ha
        rw [u1] at g1
        cases g1
        rw [c_ceL h15 h3 hk hf ht, hx]
        exact hPP 0 _ rfl
      · have g3 := (hP.1 a r o' g1 g2).1
        exact va_at.kept g3 (ho a g3.lt (fun h => h.elim ha (fun h => absurd g3.lt (by show ¬ a < H.size; omega))))
    have ez : H1.size = H.size := by omega
    have es : hsl H1 = hsl H := by omega
    have kk := k G H1 locs1 ls (hP.same ez es hx9) hA hS1 (by omega) h1 h2 hl
    exact kk
  exact key _ _ _ _ _ (j_size l D K E0 _ _ (o + cOF f) x9 (G.2.2 f o) (nI (fL S f o).length) []) (by omega) (by decide) cj_Jx4a65c_size_8abf5 (fun v ws' h => h)
theorem gc_lsEmpty (C : gc_Cx p l s m args c meth cc nL own hd D K E0 B A0 R) {ci k0 : Nat} (f : Nat) (h3 : 3 ≤ ci) (h15 : ci < 15) (hk : k0 < cNF ci) (hf : 16 * ci + k0 = f) {o ix d2 : Nat} (ht : cFT f = 5) (hR : R = rmC d2 B S0) (hd2 : 2 < d2) (hlen : (fL S f o).length < 2147483648) (hg : kdC S o = ci) (hw : ∀ w ∈ ([.methodLink own ix yJx4a65c_isEmpty_aae02, .instanceMethod yJx4a65c_isEmpty_aae02, .selects RJx4a65c yJx4a65c_isEmpty_aae02 yJx4a65c_isEmpty_aae02, .initialized RJx4a65c] : List Cond), w ∈ wU) (d : decode cc pc = .ok (.invokevirtual ix, 3)) (hst : (st.map fun v => v.category).sum ≤ 8) (k : GC p l e R s m args below meth c nL D K E0 B A0 Q S (pc + 3) lv (.int (if (fL S f o).length = 0 then 1 else 0) :: st)) : GC p l e R s m args below meth c nL D K E0 B A0 Q S pc lv (.ref (o + cOF f) :: st) := by
  intro G H locs ls hP hA hS hs h1 h2 hl
  have y1 : H.size = szC S := hP.2.2.1
  have y2 : hsl H = nsC S := hP.2.2.2
  obtain ⟨u1, u2, u3⟩ := hP.lists h3 h15 hk hf ht hg
  have hA0lo : A0 (o + cOF f) := hA _ (Or.inl (by rw [u1]; show f ≠ 0; omega))
  have hA0n : ∀ q, H.size ≤ q → A0 q := fun q hq => hA q (Or.inr (by omega))
  obtain ⟨x9, hx⟩ : ∃ x, c_dref E0 (G.2.1 f o) = .ref x := by cases G.2.1 f o <;> exact ⟨_, rfl⟩
  rw [hx] at u2
  have key : ∀ (P : Option Value → va_W → Prop) (ret : Option FieldType) (maxL d9 : Nat) (cb : ByteArray), MetJ l yJx4a65c_isEmpty_aae02 cb maxL ret d9 0 0 (.ref (o + cOF f) :: []) [((o + cOF f), .inr (2, [.int (G.2.2 f o), .ref x9, .int (nI (fL S f o).length)]))] P D K E0 (fun q => q = (o + cOF f) ∨ H.size ≤ q) (fun _ => False) → d9 < d2 → maxL ≤ 29 → Cond.code yJx4a65c_isEmpty_aae02 cb maxL ret ∈ wU → (∀ v ws', P v ws' → v = some (.int (if (fL S f o).length = 0 then 1 else 0)) ∧ ws' = [((o + cOF f), .inr (2, [.int (G.2.2 f o), .ref x9, .int (nI (fL S f o).length)]))]) → W p l e R s m args below meth c H locs (H.size - s.heap.size) (hsl H - hsl s.heap) Q (F0 m pc ls (([] : List Value).reverse ++ .ref (o + cOF f) :: st)) := by
    intro P ret maxL d9 cb hM hd9 hm9 hcu hpost
    refine gc_jV C (A := fun q => q = (o + cOF f) ∨ H.size ≤ q) (EL := fun _ => False) hR hd9 hm9 hP hS hs hl ⟨h1, h2⟩ (va_P1 u2) (va_D1 (Or.inl rfl)) (fun q hq => hq.elim (fun h => h ▸ hA0lo) (hA0n q)) (fun q hq => Or.inr hq) (fun y hy => hy.elim) hM rfl hcj_Jx4a65c_isEmpty_aae02 rfl hw hcu d hst (fun v ws' H1 locs1 hp hPP hDD ho hS1 z1 z2 z3 z4 => ?_)
    obtain ⟨rfl, rfl⟩ := hpost v ws' hp
    have hx9 : ∀ a r o', G.1 a = (r, o') → r ≠ 0 → va_at D vwCl (a, c_ce K E0 S G r o') H1 := by
      intro a r o' g1 g2
      by_cases ha : a = (o + cOF f)
      · subst ha
        rw [u1] at g1
        cases g1
        rw [c_ceL h15 h3 hk hf ht, hx]
        exact hPP 0 _ rfl
      · have g3 := (hP.1 a r o' g1 g2).1
        exact va_at.kept g3 (ho a g3.lt (fun h => h.elim ha (fun h => absurd g3.lt (by show ¬ a < H.size; omega))))
    have ez : H1.size = H.size := by omega
    have es : hsl H1 = hsl H := by omega
    have kk := k G H1 locs1 ls (hP.same ez es hx9) hA hS1 (by omega) h1 h2 hl
    exact kk
  by_cases h0 : (fL S f o).length = 0
  · exact key _ _ _ _ _ (j_isEmptyT l D K E0 _ _ (o + cOF f) x9 (G.2.2 f o) (nI (fL S f o).length) [] (by rw [h0]; rfl)) (by omega) (by decide) cj_Jx4a65c_isEmpty_aae02 (fun v ws' h => ⟨by rw [h.1, if_pos h0], h.2⟩)
  · exact key _ _ _ _ _ (j_isEmptyF l D K E0 _ _ (o + cOF f) x9 (G.2.2 f o) (nI (fL S f o).length) [] (nI_ne0 (by omega) (by omega))) (by omega) (by decide) cj_Jx4a65c_isEmpty_aae02 (fun v ws' h => ⟨by rw [h.1, if_neg h0], h.2⟩)
theorem gc_lsGet (C : gc_Cx p l s m args c meth cc nL own hd D K E0 B A0 R) {ci k0 : Nat} (f : Nat) (h3 : 3 ≤ ci) (h15 : ci < 15) (hk : k0 < cNF ci) (hf : 16 * ci + k0 = f) {o ix d2 : Nat} (ht : cFT f = 5) (hR : R = rmC d2 B S0) (hd2 : 2 < d2) {i : Int32} (hg : kdC S o = ci) (hin : lIn S f o i) (hw : ∀ w ∈ ([.methodLink own ix yJx4a65c_get_915e3, .instanceMethod yJx4a65c_get_915e3, .selects RJx4a65c yJx4a65c_get_915e3 yJx4a65c_get_915e3, .initialized RJx4a65c] : List Cond), w ∈ wU) (d : decode cc pc = .ok (.invokevirtual ix, 3)) (hst : (st.map fun v => v.category).sum ≤ 8) (k : GC p l e R s m args below meth c nL D K E0 B A0 Q S (pc + 3) lv (.ref (lG S f o i) :: st)) : GC p l e R s m args below meth c nL D K E0 B A0 Q S pc lv (.int i :: .ref (o + cOF f) :: st) := by
  intro G H locs ls hP hA hS hs h1 h2 hl
  have y1 : H.size = szC S := hP.2.2.1
  have y2 : hsl H = nsC S := hP.2.2.2
  obtain ⟨u1, u2, u3⟩ := hP.lists h3 h15 hk hf ht hg
  have hA0lo : A0 (o + cOF f) := hA _ (Or.inl (by rw [u1]; show f ≠ 0; omega))
  have hA0n : ∀ q, H.size ≤ q → A0 q := fun q hq => hA q (Or.inr (by omega))
  obtain ⟨j, hj, rfl⟩ := vp_in_of hin.1 hin.2
  have hj31 : j < 2 ^ 31 := by have := hin.2; omega
  have hey : (fL S f o)[j]? = some (lG S f o (nI j)) := by
    unfold lG
    rw [nI_clamp hj31, List.getElem?_eq_getElem hj]
    rfl
  rcases u3 with ⟨-, v1, -⟩ | ⟨d0, v1, v2, v3, v4, v5, v6⟩
  · rw [v1] at hj
    cases hj
  · rw [v1] at u2
    have hA0d : A0 d0 := hA _ (Or.inl (by rw [v2]; show 1000 + f ≠ 0; omega))
    have hcap : vp_in (nI j) (fC S f o) := fun h => h.elim (fun h => nI_pos hj31 h) (fun h => by rw [nI_clamp hj31] at h; omega)
    refine gc_jV C (A := (fun q => q = (o + cOF f) ∨ q = d0 ∨ H.size ≤ q)) (EL := fun _ => False) hR (by omega) (by decide) hP hS hs hl (mc := 0) (ms := 0) ⟨h1, h2⟩ (va_P2 u2 v5) (va_D2 (Or.inl rfl) (Or.inr (Or.inl rfl)) (Ne.symm v4)) (fun q hq => hq.elim (fun h => h ▸ hA0lo) (fun hq => hq.elim (fun h => h ▸ hA0d) (hA0n q))) (fun q hq => Or.inr (Or.inr hq)) (fun y hy => hy.elim)
      (j_get l D K E0 _ _ (o + cOF f) d0 (fC S f o) (lG S f o (nI j)) (G.2.2 f o) (nI (fL S f o).length) (nI j) _ hcap (by rw [nI_clamp hj31]; exact hey) (nI_pos hj31) (nI_lt hj (by have := hin.2; omega))) rfl hcj_Jx4a65c_get_915e3 rfl hw cj_Jx4a65c_get_915e3 d hst (fun v ws' H1 locs1 hp hPP hDD ho hS1 z1 z2 z3 z4 => ?_)
    obtain ⟨rfl, rfl⟩ := hp
    have hx9 : ∀ a r o', G.1 a = (r, o') → r ≠ 0 → va_at D vwCl (a, c_ce K E0 S G r o') H1 := by
      intro a r o' g1 g2
      by_cases ha : a = o + cOF f
      · subst ha
        rw [u1] at g1
        cases g1
        rw [c_ceL h15 h3 hk hf ht, v1]
        exact hPP 0 _ rfl
      · by_cases ha2 : a = d0
        · subst ha2
          rw [v2] at g1
          cases g1
          rw [c_ceD]
          exact hPP 1 _ rfl
        · have g3 := (hP.1 a r o' g1 g2).1
          exact va_at.kept g3 (ho a g3.lt (fun h => by
            rcases h with h | h | h
            · exact ha h
            · exact ha2 h
            · exact absurd g3.lt (by show ¬ a < H.size; omega)))
    have ez : H1.size = H.size := by omega
    have es : hsl H1 = hsl H := by omega
    have kk := k G H1 locs1 ls (hP.same ez es hx9) hA hS1 (by omega) h1 h2 hl
    exact kk
theorem gc_lsAdd (C : gc_Cx p l s m args c meth cc nL own hd D K E0 B A0 R) {ci k0 : Nat} (f : Nat) (h3 : 3 ≤ ci) (h15 : ci < 15) (hk : k0 < cNF ci) (hf : 16 * ci + k0 = f) {o ix d2 : Nat} (ht : cFT f = 5) (hR : R = rmC d2 B S0) (hd2 : 6 < d2) {ce : Nat} {rr : vw_C} (hce : cEK f = ce) (hce3 : 3 ≤ ce) (hce15 : ce < 15) (hcl : vwCl[ce]? = some rr) (hca : Cond.castable rr.1 "java/lang/Object" ∈ nwL) {v0 : Nat}  (hg : kdC S o = ci) (hok : lOK S f o) (hv0 : kdC S v0 = cEK f) (hroom : szC S + lcA S f o ≤ B.1 ∧ nsC S + lcS S f o ≤ B.2) (hw : ∀ w ∈ ([.methodLink own ix yJx4a65c_add_9ea2d, .instanceMethod yJx4a65c_add_9ea2d, .selects RJx4a65c yJx4a65c_add_9ea2d yJx4a65c_add_9ea2d, .initialized RJx4a65c] : List Cond), w ∈ wU) (d : decode cc pc = .ok (.invokevirtual ix, 3)) (hst : (st.map fun v => v.category).sum ≤ 8)
    (k : ∀ sz ns : Nat, szC S ≤ sz → sz ≤ szC S + lcA S f o → ns ≤ nsC S + lcS S f o → GC p l e R s m args below meth c nL D K E0 B A0 Q (usL S f o (fL S f o ++ [v0]) (capA S f o) sz ns) (pc + 3) lv (.int 1 :: st)) : GC p l e R s m args below meth c nL D K E0 B A0 Q S pc lv (.ref v0 :: .ref (o + cOF f) :: st) := by
  intro G H locs ls hP hA hS hs h1 h2 hl
  have y1 : H.size = szC S := hP.2.2.1
  have y2 : hsl H = nsC S := hP.2.2.2
  obtain ⟨u1, u2, u3⟩ := hP.lists h3 h15 hk hf ht hg
  have hA0lo : A0 (o + cOF f) := hA _ (Or.inl (by rw [u1]; show f ≠ 0; omega))
  have hA0n : ∀ q, H.size ≤ q → A0 q := fun q hq => hA q (Or.inr (by omega))
  rcases u3 with ⟨v1, v2, v3⟩ | ⟨d0, v1, v2, v3, v4, v5, v6⟩
  · have hca0 : capA S f o = 10 := by unfold capA; rw [v2, v3]; rfl
    have hl1 : lcA S f o = 1 := by unfold lcA; rw [v2, v3]; rfl
    have hl2 : lcS S f o = 10 := by unfold lcS; rw [hca0, v2, v3]; rfl
    rw [hl1, hl2] at hroom
    rw [hl1, hl2] at k
    rw [v1, v2] at u2
    refine gc_jV C (A := (fun q => q = (o + cOF f) ∨ False ∨ H.size ≤ q)) (EL := (fun y => y ∈ fL S f o ∨ y = v0)) hR (by omega) (by decide) hP hS hs hl (mc := 1) (ms := 10) hroom (va_P1 u2) (va_D1 (Or.inl rfl)) (fun q hq => hq.elim (fun h => h ▸ hA0lo) (fun hq => hq.elim False.elim (hA0n q))) (fun q hq => Or.inr (Or.inr hq)) (fun y hy => hy.elim (fun h => c_el (ci := ci) C.2.2.2.2.2.1 hP ((hok.2 y h).trans hce) hce3 hce15 hcl hca) (fun h => h ▸ c_el (ci := ci) C.2.2.2.2.2.1 hP (hv0.trans hce) hce3 hce15 hcl hca))
      (j_addA l D K E0 _ _ (o + cOF f) v0 (G.2.2 f o) (Or.inr rfl)) rfl hcj_Jx4a65c_add_9ea2d rfl hw cj_Jx4a65c_add_9ea2d d hst (fun v ws' H1 locs1 hp hPP hDD ho hS1 z1 z2 z3 z4 => ?_)
    obtain ⟨q, rfl, rfl⟩ := hp
    have hqn : H.size ≤ q := by
      rcases hDD.2 1 _ rfl with h | h | h
      · exact absurd h (Ne.symm (va_Dne hDD (i := 0) (j := 1) rfl rfl (by decide)))
      · exact h.elim
      · exact h
    have hP1 := hP.list (q := q) (cap := 10) (m := (G.2.2 f o + 1)) (L := (fL S f o ++ [v0])) h3 h15 hk hf ht hg (Or.inr hqn) (by rw [v2]; simp) (by have h9 := hPP 0 _ rfl; rw [v2]; exact h9) (by have h9 := hPP 1 _ rfl; rw [v2]; have e9 := l_app [] v0; rw [← e9]; exact h9) (fun a g1 g2 g4 => ho a g1 (fun h => by
      rcases h with h | h | h
      · exact g2 h
      · exact h.elim
      · omega))
    have kk := k H1.size (hsl H1) (by omega) (by omega) (by omega) _ H1 locs1 ls (by rw [hca0]; exact hP1) (usLG_A (h := 0) hA (by show szC S ≤ H1.size; omega) (hA0n q hqn)) hS1 (by omega) (by show H1.size ≤ B.1; omega) (by show hsl H1 ≤ B.2; omega) hl
    exact kk
  · rw [v1] at u2
    have hA0d : A0 d0 := hA _ (Or.inl (by rw [v2]; show 1000 + f ≠ 0; omega))
    by_cases hlt : (fL S f o).length < fC S f o
    · have hca0 : capA S f o = fC S f o := by unfold capA; rw [if_pos hlt]
      have hl1 : lcA S f o = 0 := by unfold lcA; rw [if_pos hlt]
      have hl2 : lcS S f o = 0 := by unfold lcS; rw [if_pos hlt]
      rw [hl1, hl2] at hroom
      rw [hl1, hl2] at k
      refine gc_jV C (A := (fun q => q = (o + cOF f) ∨ q = d0 ∨ H.size ≤ q)) (EL := (fun y => y ∈ fL S f o ∨ y = v0)) hR (by omega) (by decide) hP hS hs hl (mc := 0) (ms := 0) hroom (va_P2 u2 v5) (va_D2 (Or.inl rfl) (Or.inr (Or.inl rfl)) (Ne.symm v4)) (fun q hq => hq.elim (fun h => h ▸ hA0lo) (fun hq => hq.elim (fun h => h ▸ hA0d) (hA0n q))) (fun q hq => Or.inr (Or.inr hq)) (fun y hy => hy.elim (fun h => c_el (ci := ci) C.2.2.2.2.2.1 hP ((hok.2 y h).trans hce) hce3 hce15 hcl hca) (fun h => h ▸ c_el (ci := ci) C.2.2.2.2.2.1 hP (hv0.trans hce) hce3 hce15 hcl hca))
        (j_addR l D K E0 _ _ (o + cOF f) d0 (fC S f o) v0 (G.2.2 f o) (nI (fL S f o).length) _ (fun z => absurd ((nI_eq (by have := hok.1; omega) (by have := hok.1; omega)).mp z) (by omega)) (vp_in_nI hlt (by have := hok.1; omega)) (Or.inr rfl)) rfl hcj_Jx4a65c_add_9ea2d rfl hw cj_Jx4a65c_add_9ea2d d hst (fun v ws' H1 locs1 hp hPP hDD ho hS1 z1 z2 z3 z4 => ?_)
      obtain ⟨rfl, rfl⟩ := hp
      have hP1 := hP.list (q := d0) (cap := (fC S f o)) (m := (G.2.2 f o + 1)) (L := (fL S f o ++ [v0])) h3 h15 hk hf ht hg (Or.inl v1) (by constructor; simp; omega; exact v6) (by have h9 := hPP 0 _ rfl; rw [nI_1] at h9; rw [List.length_append]; exact h9) (by have h9 := hPP 1 _ rfl; rw [nI_clamp (by have := hok.1; omega), l_app] at h9; exact h9) (fun a g1 g2 g4 => ho a g1 (fun h => by
        rcases h with h | h | h
        · exact g2 h
        · exact g4 (by rw [h]; exact v1)
        · omega))
      have kk := k H1.size (hsl H1) (by omega) (by omega) (by omega) _ H1 locs1 ls (by rw [hca0]; exact hP1) (usLG_A (h := 0) hA (by show szC S ≤ H1.size; omega) hA0d) hS1 (by omega) (by show H1.size ≤ B.1; omega) (by show hsl H1 ≤ B.2; omega) hl
      exact kk
    · have hfull : (fL S f o).length = fC S f o := by omega
      have hcap0 : fC S f o ≠ 0 := by omega
      have hcap2 : 2 ≤ fC S f o := v6
      have hca0 : capA S f o = fC S f o + fC S f o / 2 := by unfold capA; rw [if_neg hlt, if_neg hcap0]
      have hl1 : lcA S f o = 1 := by unfold lcA; rw [if_neg hlt]
      have hl2 : lcS S f o = fC S f o + fC S f o / 2 := by unfold lcS; rw [if_neg hlt, hca0]
      rw [hl1, hl2] at hroom
      rw [hl1, hl2] at k
      rw [hfull] at u2
      refine gc_jV C (A := (fun q => q = (o + cOF f) ∨ q = d0 ∨ H.size ≤ q)) (EL := (fun y => y ∈ fL S f o ∨ y = v0)) hR (by omega) (by decide) hP hS hs hl (mc := 1) (ms := fC S f o + fC S f o / 2) hroom (va_P2 u2 v5) (va_D2 (Or.inl rfl) (Or.inr (Or.inl rfl)) (Ne.symm v4)) (fun q hq => hq.elim (fun h => h ▸ hA0lo) (fun hq => hq.elim (fun h => h ▸ hA0d) (hA0n q))) (fun q hq => Or.inr (Or.inr hq)) (fun y hy => hy.elim (fun h => c_el (ci := ci) C.2.2.2.2.2.1 hP ((hok.2 y h).trans hce) hce3 hce15 hcl hca) (fun h => h ▸ c_el (ci := ci) C.2.2.2.2.2.1 hP (hv0.trans hce) hce3 hce15 hcl hca))
        (j_addB l D K E0 _ _ (o + cOF f) d0 (fC S f o) v0 (G.2.2 f o) _ hcap2 hok.1 (fun i9 y9 h9 => Or.inl (List.mem_of_getElem? h9)) (Or.inr rfl)) rfl hcj_Jx4a65c_add_9ea2d rfl hw cj_Jx4a65c_add_9ea2d d hst (fun v ws' H1 locs1 hp hPP hDD ho hS1 z1 z2 z3 z4 => ?_)
      obtain ⟨q, rfl, rfl⟩ := hp
      have hqn : H.size ≤ q := by
        rcases hDD.2 2 _ rfl with h | h | h
        · exact absurd h (Ne.symm (va_Dne hDD (i := 0) (j := 2) rfl rfl (by decide)))
        · exact absurd h (Ne.symm (va_Dne hDD (i := 1) (j := 2) rfl rfl (by decide)))
        · exact h
      have hP1 := hP.list (q := q) (cap := (fC S f o + fC S f o / 2)) (m := (G.2.2 f o + 1)) (L := (fL S f o ++ [v0])) h3 h15 hk hf ht hg (Or.inr hqn) (by constructor; simp; omega; omega) (by have h9 := hPP 0 _ rfl; rw [nI_1] at h9; rw [List.length_append, hfull]; exact h9) (by have h9 := hPP 2 _ rfl; rw [l_cpy _ hfull] at h9; have e9 := l_app (fL S f o) v0; rw [hfull] at e9; rw [e9] at h9; exact h9) (fun a g1 g2 g4 => ho a g1 (fun h => by
        rcases h with h | h | h
        · exact g2 h
        · exact g4 (by rw [h]; exact v1)
        · omega))
      have kk := k H1.size (hsl H1) (by omega) (by omega) (by omega) _ H1 locs1 ls (by rw [hca0]; exact hP1) (usLG_A (h := 0) hA (by show szC S ≤ H1.size; omega) (hA0n q hqn)) hS1 (by omega) (by show H1.size ≤ B.1; omega) (by show hsl H1 ≤ B.2; omega) hl
      exact kk
theorem gc_lsIns (C : gc_Cx p l s m args c meth cc nL own hd D K E0 B A0 R) {ci k0 : Nat} (f : Nat) (h3 : 3 ≤ ci) (h15 : ci < 15) (hk : k0 < cNF ci) (hf : 16 * ci + k0 = f) {o ix d2 : Nat} (ht : cFT f = 5) (hR : R = rmC d2 B S0) (hd2 : 6 < d2) {ce : Nat} {rr : vw_C} (hce : cEK f = ce) (hce3 : 3 ≤ ce) (hce15 : ce < 15) (hcl : vwCl[ce]? = some rr) (hca : Cond.castable rr.1 "java/lang/Object" ∈ nwL) {v0 : Nat} {i : Int32} (hlen : (fL S f o).length < 2147483647) (hin : vp_in i ((fL S f o).length + 1)) (hg : kdC S o = ci) (hok : lOK S f o) (hv0 : kdC S v0 = cEK f) (hroom : szC S + lcA S f o ≤ B.1 ∧ nsC S + lcS S f o ≤ B.2) (hw : ∀ w ∈ ([.methodLink own ix yJx4a65c_add_7a177, .instanceMethod yJx4a65c_add_7a177, .selects RJx4a65c yJx4a65c_add_7a177 yJx4a65c_add_7a177, .initialized RJx4a65c] : List Cond), w ∈ wU) (d : decode cc pc = .ok (.invokevirtual ix, 3)) (hst : (st.map fun v => v.category).sum ≤ 8)
    (k : ∀ sz ns : Nat, szC S ≤ sz → sz ≤ szC S + lcA S f o → ns ≤ nsC S + lcS S f o → GC p l e R s m args below meth c nL D K E0 B A0 Q (usL S f o (l_ins (fL S f o) i.toNatClampNeg v0) (capA S f o) sz ns) (pc + 3) lv st) : GC p l e R s m args below meth c nL D K E0 B A0 Q S pc lv (.ref v0 :: .int i :: .ref (o + cOF f) :: st) := by
  intro G H locs ls hP hA hS hs h1 h2 hl
  have y1 : H.size = szC S := hP.2.2.1
  have y2 : hsl H = nsC S := hP.2.2.2
  obtain ⟨u1, u2, u3⟩ := hP.lists h3 h15 hk hf ht hg
  have hA0lo : A0 (o + cOF f) := hA _ (Or.inl (by rw [u1]; show f ≠ 0; omega))
  have hA0n : ∀ q, H.size ≤ q → A0 q := fun q hq => hA q (Or.inr (by omega))
  obtain ⟨j, hj, rfl⟩ := vp_in_of hin (by have := hlen; omega)
  have hj31 : j < 2 ^ 31 := by omega
  have hjl : j ≤ (fL S f o).length := by omega
  have hcl31 : (nI j).toNatClampNeg = j := nI_clamp hj31
  rw [hcl31] at k
  rcases u3 with ⟨v1, v2, v3⟩ | ⟨d0, v1, v2, v3, v4, v5, v6⟩
  · have hca0 : capA S f o = 10 := by unfold capA; rw [v2, v3]; rfl
    have hl1 : lcA S f o = 1 := by unfold lcA; rw [v2, v3]; rfl
    have hl2 : lcS S f o = 10 := by unfold lcS; rw [hca0, v2, v3]; rfl
    rw [hl1, hl2] at hroom
    rw [hl1, hl2] at k
    rw [v1, v2] at u2
    have hj0 : j = 0 := by rw [v2] at hjl; exact Nat.le_zero.mp hjl
    rw [hj0] at k ⊢
    refine gc_jV C (A := (fun q => q = (o + cOF f) ∨ False ∨ H.size ≤ q)) (EL := (fun y => y ∈ fL S f o ∨ y = v0)) hR (by omega) (by decide) hP hS hs hl (mc := 1) (ms := 10) hroom (va_P1 u2) (va_D1 (Or.inl rfl)) (fun q hq => hq.elim (fun h => h ▸ hA0lo) (fun hq => hq.elim False.elim (hA0n q))) (fun q hq => Or.inr (Or.inr hq)) (fun y hy => hy.elim (fun h => c_el (ci := ci) C.2.2.2.2.2.1 hP ((hok.2 y h).trans hce) hce3 hce15 hcl hca) (fun h => h ▸ c_el (ci := ci) C.2.2.2.2.2.1 hP (hv0.trans hce) hce3 hce15 hcl hca))
      (j_insA l D K E0 _ _ (o + cOF f) v0 (G.2.2 f o) (Or.inr rfl)) rfl hcj_Jx4a65c_add_7a177 rfl hw cj_Jx4a65c_add_7a177 d hst (fun v ws' H1 locs1 hp hPP hDD ho hS1 z1 z2 z3 z4 => ?_)
    obtain ⟨q, rfl, rfl⟩ := hp
    have hqn : H.size ≤ q := by
      rcases hDD.2 1 _ rfl with h | h | h
      · exact absurd h (Ne.symm (va_Dne hDD (i := 0) (j := 1) rfl rfl (by decide)))
      · exact h.elim
      · exact h
    have hP1 := hP.list (q := q) (cap := 10) (m := (G.2.2 f o + 1)) (L := (l_ins (fL S f o) 0 v0)) h3 h15 hk hf ht hg (Or.inr hqn) (by rw [v2]; exact ⟨Nat.le_of_ble_eq_true rfl, Nat.le_of_ble_eq_true rfl⟩) (by have h9 := hPP 0 _ rfl; rw [v2]; exact h9) (by have h9 := hPP 1 _ rfl; rw [v2]; have e9 := l_app [] v0; rw [show l_ins ([] : List Nat) 0 v0 = [] ++ [v0] from rfl, ← e9]; exact h9) (fun a g1 g2 g4 => ho a g1 (fun h => by
      rcases h with h | h | h
      · exact g2 h
      · exact h.elim
      · omega))
    have kk := k H1.size (hsl H1) (by omega) (by omega) (by omega) _ H1 locs1 ls (by rw [hca0]; exact hP1) (usLG_A (h := 0) hA (by show szC S ≤ H1.size; omega) (hA0n q hqn)) hS1 (by omega) (by show H1.size ≤ B.1; omega) (by show hsl H1 ≤ B.2; omega) hl
    exact kk
  · rw [v1] at u2
    have hA0d : A0 d0 := hA _ (Or.inl (by rw [v2]; show 1000 + f ≠ 0; omega))
    by_cases hlt : (fL S f o).length < fC S f o
    · have hca0 : capA S f o = fC S f o := by unfold capA; rw [if_pos hlt]
      have hl1 : lcA S f o = 0 := by unfold lcA; rw [if_pos hlt]
      have hl2 : lcS S f o = 0 := by unfold lcS; rw [if_pos hlt]
      rw [hl1, hl2] at hroom
      rw [hl1, hl2] at k
      refine gc_jV C (A := (fun q => q = (o + cOF f) ∨ q = d0 ∨ H.size ≤ q)) (EL := (fun y => y ∈ fL S f o ∨ y = v0)) hR (by omega) (by decide) hP hS hs hl (mc := 0) (ms := 0) hroom (va_P2 u2 v5) (va_D2 (Or.inl rfl) (Or.inr (Or.inl rfl)) (Ne.symm v4)) (fun q hq => hq.elim (fun h => h ▸ hA0lo) (fun hq => hq.elim (fun h => h ▸ hA0d) (hA0n q))) (fun q hq => Or.inr (Or.inr hq)) (fun y hy => hy.elim (fun h => c_el (ci := ci) C.2.2.2.2.2.1 hP ((hok.2 y h).trans hce) hce3 hce15 hcl hca) (fun h => h ▸ c_el (ci := ci) C.2.2.2.2.2.1 hP (hv0.trans hce) hce3 hce15 hcl hca))
        (j_insR l D K E0 _ _ (o + cOF f) d0 (fC S f o) v0 j (fL S f o).length (G.2.2 f o) _ hjl hlt hok.1 (fun i9 y9 h9 => Or.inl (List.mem_of_getElem? h9)) (Or.inr rfl)) rfl hcj_Jx4a65c_add_7a177 rfl hw cj_Jx4a65c_add_7a177 d hst (fun v ws' H1 locs1 hp hPP hDD ho hS1 z1 z2 z3 z4 => ?_)
      obtain ⟨rfl, rfl⟩ := hp
      have hP1 := hP.list (q := d0) (cap := (fC S f o)) (m := (G.2.2 f o + 1)) (L := (l_ins (fL S f o) j v0)) h3 h15 hk hf ht hg (Or.inl v1) (by rw [l_insLen hjl]; exact ⟨by omega, v6⟩) (by have h9 := hPP 0 _ rfl; rw [nI_1] at h9; rw [l_insLen hjl]; exact h9) (by have h9 := hPP 1 _ rfl; rw [l_insEq rfl hjl] at h9; exact h9) (fun a g1 g2 g4 => ho a g1 (fun h => by
        rcases h with h | h | h
        · exact g2 h
        · exact g4 (by rw [h]; exact v1)
        · omega))
      have kk := k H1.size (hsl H1) (by omega) (by omega) (by omega) _ H1 locs1 ls (by rw [hca0]; exact hP1) (usLG_A (h := 0) hA (by show szC S ≤ H1.size; omega) hA0d) hS1 (by omega) (by show H1.size ≤ B.1; omega) (by show hsl H1 ≤ B.2; omega) hl
      exact kk
    · have hfull : (fL S f o).length = fC S f o := by omega
      have hcap0 : fC S f o ≠ 0 := by omega
      have hcap2 : 2 ≤ fC S f o := v6
      have hca0 : capA S f o = fC S f o + fC S f o / 2 := by unfold capA; rw [if_neg hlt, if_neg hcap0]
      have hl1 : lcA S f o = 1 := by unfold lcA; rw [if_neg hlt]
      have hl2 : lcS S f o = fC S f o + fC S f o / 2 := by unfold lcS; rw [if_neg hlt, hca0]
      rw [hl1, hl2] at hroom
      rw [hl1, hl2] at k
      rw [hfull] at u2
      refine gc_jV C (A := (fun q => q = (o + cOF f) ∨ q = d0 ∨ H.size ≤ q)) (EL := (fun y => y ∈ fL S f o ∨ y = v0)) hR (by omega) (by decide) hP hS hs hl (mc := 1) (ms := fC S f o + fC S f o / 2) hroom (va_P2 u2 v5) (va_D2 (Or.inl rfl) (Or.inr (Or.inl rfl)) (Ne.symm v4)) (fun q hq => hq.elim (fun h => h ▸ hA0lo) (fun hq => hq.elim (fun h => h ▸ hA0d) (hA0n q))) (fun q hq => Or.inr (Or.inr hq)) (fun y hy => hy.elim (fun h => c_el (ci := ci) C.2.2.2.2.2.1 hP ((hok.2 y h).trans hce) hce3 hce15 hcl hca) (fun h => h ▸ c_el (ci := ci) C.2.2.2.2.2.1 hP (hv0.trans hce) hce3 hce15 hcl hca))
        (j_insB l D K E0 _ _ (o + cOF f) d0 (fC S f o) v0 j (G.2.2 f o) _ (by omega) hcap2 hok.1 (fun i9 y9 h9 => Or.inl (List.mem_of_getElem? h9)) (Or.inr rfl)) rfl hcj_Jx4a65c_add_7a177 rfl hw cj_Jx4a65c_add_7a177 d hst (fun v ws' H1 locs1 hp hPP hDD ho hS1 z1 z2 z3 z4 => ?_)
      obtain ⟨q, rfl, rfl⟩ := hp
      have hqn : H.size ≤ q := by
        rcases hDD.2 2 _ rfl with h | h | h
        · exact absurd h (Ne.symm (va_Dne hDD (i := 0) (j := 2) rfl rfl (by decide)))
        · exact absurd h (Ne.symm (va_Dne hDD (i := 1) (j := 2) rfl rfl (by decide)))
        · exact h
      have hP1 := hP.list (q := q) (cap := (fC S f o + fC S f o / 2)) (m := (G.2.2 f o + 1)) (L := (l_ins (fL S f o) j v0)) h3 h15 hk hf ht hg (Or.inr hqn) (by rw [l_insLen hjl]; exact ⟨by omega, by omega⟩) (by have h9 := hPP 0 _ rfl; rw [nI_1] at h9; rw [l_insLen hjl, hfull]; exact h9) (by have h9 := hPP 2 _ rfl; rw [l_cpy _ hfull, l_insEq hfull (by omega)] at h9; exact h9) (fun a g1 g2 g4 => ho a g1 (fun h => by
        rcases h with h | h | h
        · exact g2 h
        · exact g4 (by rw [h]; exact v1)
        · omega))
      have kk := k H1.size (hsl H1) (by omega) (by omega) (by omega) _ H1 locs1 ls (by rw [hca0]; exact hP1) (usLG_A (h := 0) hA (by show szC S ≤ H1.size; omega) (hA0n q hqn)) hS1 (by omega) (by show H1.size ≤ B.1; omega) (by show hsl H1 ≤ B.2; omega) hl
      exact kk
theorem gc_lsRem (C : gc_Cx p l s m args c meth cc nL own hd D K E0 B A0 R) {ci k0 : Nat} (f : Nat) (h3 : 3 ≤ ci) (h15 : ci < 15) (hk : k0 < cNF ci) (hf : 16 * ci + k0 = f) {o ix d2 : Nat} (ht : cFT f = 5) (hR : R = rmC d2 B S0) (hd2 : 2 < d2) {ce : Nat} {rr : vw_C} (hce : cEK f = ce) (hce3 : 3 ≤ ce) (hce15 : ce < 15) (hcl : vwCl[ce]? = some rr) (hca : Cond.castable rr.1 "java/lang/Object" ∈ nwL) {i : Int32} (hg : kdC S o = ci) (hok : lOK S f o) (hin : lIn S f o i) (hw : ∀ w ∈ ([.methodLink own ix yJx4a65c_remove_915e3, .instanceMethod yJx4a65c_remove_915e3, .selects RJx4a65c yJx4a65c_remove_915e3 yJx4a65c_remove_915e3, .initialized RJx4a65c] : List Cond), w ∈ wU) (d : decode cc pc = .ok (.invokevirtual ix, 3)) (hst : (st.map fun v => v.category).sum ≤ 8) (k : GC p l e R s m args below meth c nL D K E0 B A0 Q (usL S f o ((fL S f o).eraseIdx i.toNatClampNeg) (fC S f o) (szC S) (nsC S)) (pc + 3) lv (.ref (lG S f o i) :: st)) : GC p l e R s m args below meth c nL D K E0 B A0 Q S pc lv (.int i :: .ref (o + cOF f) :: st) := by
  intro G H locs ls hP hA hS hs h1 h2 hl
  have y1 : H.size = szC S := hP.2.2.1
  have y2 : hsl H = nsC S := hP.2.2.2
  obtain ⟨u1, u2, u3⟩ := hP.lists h3 h15 hk hf ht hg
  have hA0lo : A0 (o + cOF f) := hA _ (Or.inl (by rw [u1]; show f ≠ 0; omega))
  have hA0n : ∀ q, H.size ≤ q → A0 q := fun q hq => hA q (Or.inr (by omega))
  obtain ⟨j, hj, rfl⟩ := vp_in_of hin.1 hin.2
  have hj31 : j < 2 ^ 31 := by have := hin.2; omega
  have hcl31 : (nI j).toNatClampNeg = j := nI_clamp hj31
  rw [hcl31] at k
  have hey : (fL S f o)[j]? = some (lG S f o (nI j)) := by
    unfold lG
    rw [nI_clamp hj31, List.getElem?_eq_getElem hj]
    rfl
  have hlE : ((fL S f o).eraseIdx j).length = (fL S f o).length - 1 := by rw [List.length_eraseIdx_of_lt hj]
  rcases u3 with ⟨-, v1, -⟩ | ⟨d0, v1, v2, v3, v4, v5, v6⟩
  · rw [v1] at hj
    cases hj
  · rw [v1] at u2
    have hA0d : A0 d0 := hA _ (Or.inl (by rw [v2]; show 1000 + f ≠ 0; omega))
    have key : ∀ (fn : Nat → Option Nat), MetJ l yJx4a65c_remove_915e3 cJx4a65c_remove_915e3 4 (some (.object "java/lang/Object")) 2 0 0 (.ref (o + cOF f) :: [.int (nI j)]) [((o + cOF f), .inr (2, [.int (G.2.2 f o), .ref d0, .int (nI (fL S f o).length)])), (d0, .inl (K 2, fC S f o, .inr (.inr (.inr (.inr (fun i => (fL S f o)[i]?))))))] (fun v ws' => v = some (.ref (lG S f o (nI j))) ∧ ws' = [((o + cOF f), .inr (2, [.int (G.2.2 f o + 1), .ref d0, .int (nI (fL S f o).length - 1)])), (d0, .inl (K 2, fC S f o, .inr (.inr (.inr (.inr fn)))))]) D K E0 (fun q => q = (o + cOF f) ∨ q = d0 ∨ H.size ≤ q) (fun y => y ∈ fL S f o) → fn = (fun i => ((fL S f o).eraseIdx j)[i]?) → W p l e R s m args below meth c H locs (H.size - s.heap.size) (hsl H - hsl s.heap) Q (F0 m pc ls (([.int (nI j)] : List Value).reverse ++ .ref (o + cOF f) :: st)) := by
      intro fn hM hfn
      refine gc_jV C (A := (fun q => q = (o + cOF f) ∨ q = d0 ∨ H.size ≤ q)) (EL := fun y => y ∈ fL S f o) hR (by omega) (by decide) hP hS hs hl ⟨h1, h2⟩ (va_P2 u2 v5) (va_D2 (Or.inl rfl) (Or.inr (Or.inl rfl)) (Ne.symm v4)) (fun q hq => hq.elim (fun h => h ▸ hA0lo) (fun hq => hq.elim (fun h => h ▸ hA0d) (hA0n q))) (fun q hq => Or.inr (Or.inr hq)) (fun y hy => c_el (ci := ci) C.2.2.2.2.2.1 hP ((hok.2 y hy).trans hce) hce3 hce15 hcl hca) hM rfl hcj_Jx4a65c_remove_915e3 rfl hw cj_Jx4a65c_remove_915e3 d hst (fun v ws' H1 locs1 hp hPP hDD ho hS1 z1 z2 z3 z4 => ?_)
      obtain ⟨rfl, rfl⟩ := hp
      have hP1 := hP.list (q := d0) (cap := fC S f o) (m := G.2.2 f o + 1) (L := (fL S f o).eraseIdx j) h3 h15 hk hf ht hg (Or.inl v1) ⟨by omega, v6⟩ (by have h9 := hPP 0 _ rfl; rw [j_m1 (by omega)] at h9; rw [hlE]; exact h9) (by have h9 := hPP 1 _ rfl; rw [hfn] at h9; exact h9) (fun a g1 g2 g4 => ho a g1 (fun h => by
        rcases h with h | h | h
        · exact g2 h
        · exact g4 (by rw [h]; exact v1)
        · omega))
      have ez : H1.size = szC S := by omega
      have es : hsl H1 = nsC S := by omega
      rw [ez, es] at hP1
      exact k _ H1 locs1 ls hP1 (usLG_A (h := 0) hA (Nat.le_refl _) hA0d) hS1 (by omega) h1 h2 hl
    by_cases hT : j + 1 = (fL S f o).length
    · exact key _ (j_removeT l D K E0 _ _ (o + cOF f) d0 (fC S f o) j (fL S f o).length (lG S f o (nI j)) (G.2.2 f o) _ hT v3 hok.1 (fun i9 y9 h9 => List.mem_of_getElem? h9) hey) (l_delEqT rfl hT)
    · exact key _ (j_removeF l D K E0 _ _ (o + cOF f) d0 (fC S f o) j (fL S f o).length (lG S f o (nI j)) (G.2.2 f o) _ (by omega) v3 hok.1 (fun i9 y9 h9 => List.mem_of_getElem? h9) hey) (l_delEq rfl (by omega))
end GCL
