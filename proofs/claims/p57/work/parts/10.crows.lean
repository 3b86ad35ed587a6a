/-- a class of the class's own, with its fields -/
def c_Cls (ci : Nat) (CN : String) (T : u_T) (N : Nat) (ty : Nat → FieldType) : Prop := vwCl[ci]? = some (CN, T, N) ∧ (∀ w ∈ u_ws CN T N, w ∈ wU) ∧ (∀ k, k < N → parseFieldDescriptor (T k).2.2.1 = some (ty k)) ∧ (∀ a, a < N → ∀ b, b < N → a ≠ b → (T a).2.1 ≠ (T b).2.1) ∧ cNF ci = N ∧ 3 ≤ ci ∧ ci < 15
def isC (S : CS) (o ci : Nat) : Prop := kdC S o % 100 = ci
def c_tys (K : Nat → ClassId) : List (ClassId × FieldType) := [(K 0, .int), (K 1, .long), (K 2, .object "java/lang/Object"), (K 7, .object RX4), (K 11, .object RX8), (K 13, .object RX10)]
def gA (G : CG) (sz : Nat) : Nat → Prop := fun q => (G.1 q).1 ≠ 0 ∨ sz ≤ q
def cTick (j : Nat) : Int32 := nI (([96, 48, 24, 12, 6, 3] : List Nat).getD j 0)
/-- what stands outside the class's cells: the row of ticks, the empty row of a list, what exceptions need -/
def StC (E0 : Nat) (A : Nat → Prop) (U : State) (H : Heap) : Prop :=
  (∃ tk : Nat, va_Z RX0 "TICKS" "[I" (.ref tk) A U H ∧ va_T .int tk 6 (fun j => .int (cTick j)) A U H) ∧
  (va_Z RJx4a65c "DEFAULTCAPACITY_EMPTY_ELEMENTDATA" "[Ljava/lang/Object;" (.ref E0) A U H ∧ va_T (.object "java/lang/Object") E0 0 (fun _ => .null) A U H) ∧
  vx_Zq Bundle.tN "UNASSIGNED_STACK" Bundle.steD A U H ∧ vx_Zq Bundle.tN "SUPPRESSED_SENTINEL" Bundle.listD A U H
theorem StC.moved {E0 : Nat} {A : Nat → Prop} {u U : State} {H : Heap} (hvm : u.vm.Alike U.vm) (h : StC E0 A u H) : StC E0 A U H := by
  obtain ⟨⟨tk, h1, h2⟩, ⟨h3, h4⟩, h5, h6⟩ := h
  exact ⟨⟨tk, va_Z.moved hvm h1, va_T.moved hvm h2⟩, ⟨va_Z.moved hvm h3, va_T.moved hvm h4⟩, vx_Zq.moved hvm h5, vx_Zq.moved hvm h6⟩
theorem StC.kept {E0 : Nat} {A : Nat → Prop} {U : State} {H H1 : Heap} (h : StC E0 A U H) (hq : ∀ a : Nat, a < H.size → ¬ A a → H1[a]? = H[a]?) : StC E0 A U H1 := by
  obtain ⟨⟨tk, h1, h2⟩, ⟨h3, h4⟩, h5, h6⟩ := h
  exact ⟨⟨tk, h1.kept hq, h2.kept hq⟩, ⟨h3.kept hq, h4.kept hq⟩, h5.kept hq, h6.kept hq⟩
theorem StC.narrow {E0 : Nat} {A A2 : Nat → Prop} {U : State} {H : Heap} (h : StC E0 A U H) (hAB : ∀ q, A2 q → A q) : StC E0 A2 U H := by
  obtain ⟨⟨tk, h1, h2⟩, ⟨h3, h4⟩, h5, h6⟩ := h
  exact ⟨⟨tk, h1.narrow hAB, h2.narrow hAB⟩, ⟨h3.narrow hAB, h4.narrow hAB⟩, h5.narrow hAB, h6.narrow hAB⟩
/-- the tables' words that are no good words, texts, the class object of the rows of objects -/
def nwK : Cond → Bool
  | .methodLinkNest .. => true
  | .castable .. => true
  | .declares .. => true
  | .arrayOver (.object _) => true
  | _ => false
def nwL : List Cond := lw_tbl.filter nwK
def c_strs : List (String × Nat × String) := [("ScoreHouse", 360, "there is none of this number"), ("ScoreHouse", 356, "an argument is out of range"), ("ScoreHouse", 379, "the part cannot be drawn"), ("ScoreHouse", 363, "the unit is not 2, 4 or 8"), ("ScoreHouse", 39, "there are as many bars as there can be"), ("ScoreHouse", 77, "a voice has more ticks in the bar"), ("ScoreHouse", 207, "the repeat goes backwards"), ("ScoreHouse", 212, "another repeat has one of the bars"), ("ScoreHouse", 223, "no repeat begins with the bar"), ("ScoreHouse", 174, "a pitch could not be written"), ("ScoreHouse", 187, "the phrase goes backwards, or there were too many"), ("ScoreHouse", 107, "the shortest kind cannot be dotted"), ("ScoreHouse", 132, "the event has no room there or cannot be written"), ("ScoreHouse", 166, "a rest cannot be tied"), ("ScoreHouse", 153, "the pitch cannot be written")]
def c_Ev (U : State) : Prop := (∀ w ∈ nwL, va_Nw w U) ∧ (∀ q ∈ c_strs, ∃ a : Nat, vk_R q.1 q.2.1 q.2.2 a U) ∧ ∃ mi : Nat, va_Mi "[Ljava/lang/Object;" mi U
theorem c_Ev.warm {s U : State} (hW : s.WarmedH U.vm) (h : c_Ev s) : c_Ev U := by
  refine ⟨fun w hw => ?_, fun q hq => ?_, ?_⟩
  · have hk : nwK w = true := (List.mem_filter.mp hw).2
    have h1 := h.1 w hw
    unfold nwK at hk
    split at hk
    · exact va_Nw.warmM hW h1
    · exact va_Nw.warmC hW h1
    · exact va_Nw.warmD hW h1
    · exact va_AO.moved hW.alike h1
    · cases hk
  · obtain ⟨a, ha⟩ := h.2.1 q hq
    exact ⟨a, ha.warm hW⟩
  · obtain ⟨mi, hm⟩ := h.2.2
    exact ⟨mi, hm.moved hW.alike⟩
section GCS
variable {p : Program} {l : Launch} {e : Env} {R : Room} {s : State} {m : MethodId} {args : Array Value} {below : List Frame} {meth : Method} {c : Code} {Q : State → Prop}
variable {cc : ByteArray} {nL : Nat} {own : String} {hd : Cond} {D : va_G} {K : Nat → ClassId} {E0 : Nat} {B : Nat × Nat} {A0 : Nat → Prop}
def gc_Cx (p : Program) (l : Launch) (s : State) (m : MethodId) (args : Array Value) (c : Code) (meth : Method) (cc : ByteArray) (nL : Nat) (own : String) (hd : Cond) (D : va_G) (K : Nat → ClassId) (E0 : Nat) (B : Nat × Nat) (A0 : Nat → Prop) (R : Room) : Prop :=
  p.tables.exec = Jvm.exec ∧ c.code = cc ∧ c.maxLocals = nL ∧ s.vm.findClass own = some m.cls ∧ (∀ w ∈ hd :: wU, w.before args s = true) ∧ va_K D vwCl (c_tys K) s ∧
  (R.cells = B.1 - s.heap.size ∧ R.slots = B.2 - hsl s.heap) ∧ StC E0 A0 s s.heap ∧ l.stackTraces = false ∧ (∀ x ∈ c.exceptionTable.toList, False) ∧ meth.locks = false ∧ (∀ q : Nat, s.heap.size ≤ q → A0 q) ∧ c_Ev s
def GC (p : Program) (l : Launch) (e : Env) (R : Room) (s : State) (m : MethodId) (args : Array Value) (below : List Frame) (meth : Method) (c : Code) (nL : Nat) (D : va_G) (K : Nat → ClassId) (E0 : Nat) (B : Nat × Nat) (A0 : Nat → Prop) (Q : State → Prop) (S : CS) (pc : Nat) (lv : List (Nat × Value)) (st : List Value) : Prop :=
  ∀ (G : CG) (H : Heap) (locs : List Loc) (ls : Array Slot), RepC D K E0 S G H → (∀ q, gA G (szC S) q → A0 q) → va_S A0 s.heap H locs → hsl s.heap ≤ hsl H → szC S ≤ B.1 → nsC S ≤ B.2 → lv_has ls nL lv →
    W p l e R s m args below meth c H locs (H.size - s.heap.size) (hsl H - hsl s.heap) Q (F0 m pc ls st)
variable {S : CS} {pc : Nat} {lv : List (Nat × Value)} {st : List Value}

theorem gc_iconst (C : gc_Cx p l s m args c meth cc nL own hd D K E0 B A0 R) {n : Int} (v : Int32) (d : decode cc pc = .ok (.iconst n, 1)) (hv : Int32.ofInt n = v) (k : GC p l e R s m args below meth c nL D K E0 B A0 Q S (pc + 1) lv (.int v :: st)) : GC p l e R s m args below meth c nL D K E0 B A0 Q S pc lv st :=
  fun G H locs ls hP hA hS hs h1 h2 hl => lv_iconst C.1 C.2.1 d hv (k G H locs ls hP hA hS hs h1 h2 hl)
theorem gc_bipush (C : gc_Cx p l s m args c meth cc nL own hd D K E0 B A0 R) {n : Int} (v : Int32) (d : decode cc pc = .ok (.bipush n, 2)) (hv : (Int8.ofInt n).toInt32 = v) (k : GC p l e R s m args below meth c nL D K E0 B A0 Q S (pc + 2) lv (.int v :: st)) : GC p l e R s m args below meth c nL D K E0 B A0 Q S pc lv st :=
  fun G H locs ls hP hA hS hs h1 h2 hl => lv_bipush C.1 C.2.1 d hv (k G H locs ls hP hA hS hs h1 h2 hl)
theorem gc_sipush (C : gc_Cx p l s m args c meth cc nL own hd D K E0 B A0 R) {n : Int} (v : Int32) (d : decode cc pc = .ok (.sipush n, 3)) (hv : (Int16.ofInt n).toInt32 = v) (k : GC p l e R s m args below meth c nL D K E0 B A0 Q S (pc + 3) lv (.int v :: st)) : GC p l e R s m args below meth c nL D K E0 B A0 Q S pc lv st :=
  fun G H locs ls hP hA hS hs h1 h2 hl => lv_sipush C.1 C.2.1 d hv (k G H locs ls hP hA hS hs h1 h2 hl)
theorem gc_lconst (C : gc_Cx p l s m args c meth cc nL own hd D K E0 B A0 R) {n : Fin 2} (v : Int64) (d : decode cc pc = .ok (.lconst n, 1)) (hv : Int64.ofNat (n : Nat) = v) (k : GC p l e R s m args below meth c nL D K E0 B A0 Q S (pc + 1) lv (.long v :: st)) : GC p l e R s m args below meth c nL D K E0 B A0 Q S pc lv st :=
  fun G H locs ls hP hA hS hs h1 h2 hl => lv_lconst C.1 C.2.1 d hv (k G H locs ls hP hA hS hs h1 h2 hl)
theorem gc_ldc (C : gc_Cx p l s m args c meth cc nL own hd D K E0 B A0 R) {ix : Nat} (v : Int32) (hw : Cond.constant own ix v ∈ wU) (d : decode cc pc = .ok (.ldc ix, 2)) (k : GC p l e R s m args below meth c nL D K E0 B A0 Q S (pc + 2) lv (.int v :: st)) : GC p l e R s m args below meth c nL D K E0 B A0 Q S pc lv st :=
  fun G H locs ls hP hA hS hs h1 h2 hl => lv_ldc C.1 C.2.1 C.2.2.2.1 (C.2.2.2.2.1 _ (List.mem_cons_of_mem _ hw)) d (k G H locs ls hP hA hS hs h1 h2 hl)
theorem gc_ldcw (C : gc_Cx p l s m args c meth cc nL own hd D K E0 B A0 R) {ix : Nat} (v : Int32) (hw : Cond.constant own ix v ∈ wU) (d : decode cc pc = .ok (.ldc_w ix, 3)) (k : GC p l e R s m args below meth c nL D K E0 B A0 Q S (pc + 3) lv (.int v :: st)) : GC p l e R s m args below meth c nL D K E0 B A0 Q S pc lv st :=
  fun G H locs ls hP hA hS hs h1 h2 hl => lv_ldcw C.1 C.2.1 C.2.2.2.1 (C.2.2.2.2.1 _ (List.mem_cons_of_mem _ hw)) d (k G H locs ls hP hA hS hs h1 h2 hl)
theorem gc_ldc2 (C : gc_Cx p l s m args c meth cc nL own hd D K E0 B A0 R) {ix : Nat} (v : Int64) (hw : Cond.constantLong own ix v ∈ wU) (d : decode cc pc = .ok (.ldc2_w ix, 3)) (k : GC p l e R s m args below meth c nL D K E0 B A0 Q S (pc + 3) lv (.long v :: st)) : GC p l e R s m args below meth c nL D K E0 B A0 Q S pc lv st :=
  fun G H locs ls hP hA hS hs h1 h2 hl => lv_ldc2 C.1 C.2.1 C.2.2.2.1 (C.2.2.2.2.1 _ (List.mem_cons_of_mem _ hw)) d (k G H locs ls hP hA hS hs h1 h2 hl)
theorem gc_iloadn (C : gc_Cx p l s m args c meth cc nL own hd D K E0 B A0 R) {n : Fin 4} (j i : Nat) {x : Int32} (d : decode cc pc = .ok (.iload_n n, 1)) (hi : (n : Nat) = i) (hv : lv[j]? = some (i, .int x)) (k : GC p l e R s m args below meth c nL D K E0 B A0 Q S (pc + 1) lv (.int x :: st)) : GC p l e R s m args below meth c nL D K E0 B A0 Q S pc lv st :=
  fun G H locs ls hP hA hS hs h1 h2 hl => lv_iload_n C.1 C.2.1 d hi (lv_at hl j hv) (k G H locs ls hP hA hS hs h1 h2 hl)
theorem gc_iload (C : gc_Cx p l s m args c meth cc nL own hd D K E0 B A0 R) (j : Nat) {i : Nat} {x : Int32} (d : decode cc pc = .ok (.iload i, 2)) (hv : lv[j]? = some (i, .int x)) (k : GC p l e R s m args below meth c nL D K E0 B A0 Q S (pc + 2) lv (.int x :: st)) : GC p l e R s m args below meth c nL D K E0 B A0 Q S pc lv st :=
  fun G H locs ls hP hA hS hs h1 h2 hl => lv_iload C.1 C.2.1 d (lv_at hl j hv) (k G H locs ls hP hA hS hs h1 h2 hl)
theorem gc_istoren (C : gc_Cx p l s m args c meth cc nL own hd D K E0 B A0 R) {n : Fin 4} (i : Nat) {x : Int32} (lv' : List (Nat × Value)) (d : decode cc pc = .ok (.istore_n n, 1)) (hi : (n : Nat) = i) (hn : i < nL) (hl' : (i, Value.int x) :: lv.filter (fun q => !(q.1 == i) && !(q.1 + 1 == i && q.2.category == 2)) = lv') (k : GC p l e R s m args below meth c nL D K E0 B A0 Q S (pc + 1) lv' st) : GC p l e R s m args below meth c nL D K E0 B A0 Q S pc lv (.int x :: st) :=
  fun G H locs ls hP hA hS hs h1 h2 hl => lv_istore_n C.1 C.2.1 d hi hl hn hl' (fun ls' hl2 => k G H locs ls' hP hA hS hs h1 h2 hl2)
theorem gc_istore (C : gc_Cx p l s m args c meth cc nL own hd D K E0 B A0 R) {i : Nat} {x : Int32} (lv' : List (Nat × Value)) (d : decode cc pc = .ok (.istore i, 2)) (hn : i < nL) (hl' : (i, Value.int x) :: lv.filter (fun q => !(q.1 == i) && !(q.1 + 1 == i && q.2.category == 2)) = lv') (k : GC p l e R s m args below meth c nL D K E0 B A0 Q S (pc + 2) lv' st) : GC p l e R s m args below meth c nL D K E0 B A0 Q S pc lv (.int x :: st) :=
  fun G H locs ls hP hA hS hs h1 h2 hl => lv_istore C.1 C.2.1 d hl hn hl' (fun ls' hl2 => k G H locs ls' hP hA hS hs h1 h2 hl2)
theorem gc_aloadn (C : gc_Cx p l s m args c meth cc nL own hd D K E0 B A0 R) {n : Fin 4} (j i : Nat) {x : Nat} (d : decode cc pc = .ok (.aload_n n, 1)) (hi : (n : Nat) = i) (hv : lv[j]? = some (i, .ref x)) (k : GC p l e R s m args below meth c nL D K E0 B A0 Q S (pc + 1) lv (.ref x :: st)) : GC p l e R s m args below meth c nL D K E0 B A0 Q S pc lv st :=
  fun G H locs ls hP hA hS hs h1 h2 hl => lv_aload_n C.1 C.2.1 d hi (lv_at hl j hv) (k G H locs ls hP hA hS hs h1 h2 hl)
theorem gc_aload (C : gc_Cx p l s m args c meth cc nL own hd D K E0 B A0 R) (j : Nat) {i : Nat} {x : Nat} (d : decode cc pc = .ok (.aload i, 2)) (hv : lv[j]? = some (i, .ref x)) (k : GC p l e R s m args below meth c nL D K E0 B A0 Q S (pc + 2) lv (.ref x :: st)) : GC p l e R s m args below meth c nL D K E0 B A0 Q S pc lv st :=
  fun G H locs ls hP hA hS hs h1 h2 hl => lv_aload C.1 C.2.1 d (lv_at hl j hv) (k G H locs ls hP hA hS hs h1 h2 hl)
theorem gc_astoren (C : gc_Cx p l s m args c meth cc nL own hd D K E0 B A0 R) {n : Fin 4} (i : Nat) {x : Nat} (lv' : List (Nat × Value)) (d : decode cc pc = .ok (.astore_n n, 1)) (hi : (n : Nat) = i) (hn : i < nL) (hl' : (i, Value.ref x) :: lv.filter (fun q => !(q.1 == i) && !(q.1 + 1 == i && q.2.category == 2)) = lv') (k : GC p l e R s m args below meth c nL D K E0 B A0 Q S (pc + 1) lv' st) : GC p l e R s m args below meth c nL D K E0 B A0 Q S pc lv (.ref x :: st) :=
  fun G H locs ls hP hA hS hs h1 h2 hl => lv_astore_n C.1 C.2.1 d hi hl hn hl' (fun ls' hl2 => k G H locs ls' hP hA hS hs h1 h2 hl2)
theorem gc_astore (C : gc_Cx p l s m args c meth cc nL own hd D K E0 B A0 R) {i : Nat} {x : Nat} (lv' : List (Nat × Value)) (d : decode cc pc = .ok (.astore i, 2)) (hn : i < nL) (hl' : (i, Value.ref x) :: lv.filter (fun q => !(q.1 == i) && !(q.1 + 1 == i && q.2.category == 2)) = lv') (k : GC p l e R s m args below meth c nL D K E0 B A0 Q S (pc + 2) lv' st) : GC p l e R s m args below meth c nL D K E0 B A0 Q S pc lv (.ref x :: st) :=
  fun G H locs ls hP hA hS hs h1 h2 hl => lv_astore C.1 C.2.1 d hl hn hl' (fun ls' hl2 => k G H locs ls' hP hA hS hs h1 h2 hl2)
theorem gc_lload (C : gc_Cx p l s m args c meth cc nL own hd D K E0 B A0 R) (j : Nat) {i : Nat} {x : Int64} (d : decode cc pc = .ok (.lload i, 2)) (hv : lv[j]? = some (i, .long x)) (k : GC p l e R s m args below meth c nL D K E0 B A0 Q S (pc + 2) lv (.long x :: st)) : GC p l e R s m args below meth c nL D K E0 B A0 Q S pc lv st :=
  fun G H locs ls hP hA hS hs h1 h2 hl => lv_lload C.1 C.2.1 d (lv_at hl j hv) (k G H locs ls hP hA hS hs h1 h2 hl)
theorem gc_lstore (C : gc_Cx p l s m args c meth cc nL own hd D K E0 B A0 R) {i : Nat} {x : Int64} (lv' : List (Nat × Value)) (d : decode cc pc = .ok (.lstore i, 2)) (hn : i + 1 < nL) (hl' : (i, Value.long x) :: lv.filter (fun q => !(q.1 == i) && (!(q.1 == i + 1) && !(q.1 + 1 == i && q.2.category == 2))) = lv') (k : GC p l e R s m args below meth c nL D K E0 B A0 Q S (pc + 2) lv' st) : GC p l e R s m args below meth c nL D K E0 B A0 Q S pc lv (.long x :: st) :=
  fun G H locs ls hP hA hS hs h1 h2 hl => lv_lstore C.1 C.2.1 d hl hn hl' (fun ls' hl2 => k G H locs ls' hP hA hS hs h1 h2 hl2)
theorem gc_iinc (C : gc_Cx p l s m args c meth cc nL own hd D K E0 B A0 R) (j : Nat) {i : Nat} {n : Int} {x : Int32} (v : Int32) (lv' : List (Nat × Value)) (d : decode cc pc = .ok (.iinc i n, 3)) (hj : lv[j]? = some (i, .int x)) (hv : x + Int32.ofInt n = v) (hn : i < nL) (hl' : (i, Value.int v) :: lv.filter (fun q => !(q.1 == i) && !(q.1 + 1 == i && q.2.category == 2)) = lv') (k : GC p l e R s m args below meth c nL D K E0 B A0 Q S (pc + 3) lv' st) : GC p l e R s m args below meth c nL D K E0 B A0 Q S pc lv st :=
  fun G H locs ls hP hA hS hs h1 h2 hl => lv_iinc C.1 C.2.1 d hl hj hv hn hl' (fun ls' hl2 => k G H locs ls' hP hA hS hs h1 h2 hl2)
theorem gc_iadd (C : gc_Cx p l s m args c meth cc nL own hd D K E0 B A0 R) {x y : Int32} (d : decode cc pc = .ok (.iadd, 1)) (k : GC p l e R s m args below meth c nL D K E0 B A0 Q S (pc + 1) lv (.int (x + y) :: st)) : GC p l e R s m args below meth c nL D K E0 B A0 Q S pc lv (.int y :: .int x :: st) :=
  fun G H locs ls hP hA hS hs h1 h2 hl => lv_iadd C.1 C.2.1 d (k G H locs ls hP hA hS hs h1 h2 hl)
theorem gc_isub (C : gc_Cx p l s m args c meth cc nL own hd D K E0 B A0 R) {x y : Int32} (d : decode cc pc = .ok (.isub, 1)) (k : GC p l e R s m args below meth c nL D K E0 B A0 Q S (pc + 1) lv (.int (x - y) :: st)) : GC p l e R s m args below meth c nL D K E0 B A0 Q S pc lv (.int y :: .int x :: st) :=
  fun G H locs ls hP hA hS hs h1 h2 hl => lv_isub C.1 C.2.1 d (k G H locs ls hP hA hS hs h1 h2 hl)
theorem gc_imul (C : gc_Cx p l s m args c meth cc nL own hd D K E0 B A0 R) {x y : Int32} (d : decode cc pc = .ok (.imul, 1)) (k : GC p l e R s m args below meth c nL D K E0 B A0 Q S (pc + 1) lv (.int (x * y) :: st)) : GC p l e R s m args below meth c nL D K E0 B A0 Q S pc lv (.int y :: .int x :: st) :=
  fun G H locs ls hP hA hS hs h1 h2 hl => lv_imul C.1 C.2.1 d (k G H locs ls hP hA hS hs h1 h2 hl)
theorem gc_idiv (C : gc_Cx p l s m args c meth cc nL own hd D K E0 B A0 R) {x y : Int32} (d : decode cc pc = .ok (.idiv, 1)) (h0 : ¬ y = 0) (k : GC p l e R s m args below meth c nL D K E0 B A0 Q S (pc + 1) lv (.int (x / y) :: st)) : GC p l e R s m args below meth c nL D K E0 B A0 Q S pc lv (.int y :: .int x :: st) :=
  fun G H locs ls hP hA hS hs h1 h2 hl => lv_idiv C.1 C.2.1 d h0 (k G H locs ls hP hA hS hs h1 h2 hl)
theorem gc_irem (C : gc_Cx p l s m args c meth cc nL own hd D K E0 B A0 R) {x y : Int32} (d : decode cc pc = .ok (.irem, 1)) (h0 : ¬ y = 0) (k : GC p l e R s m args below meth c nL D K E0 B A0 Q S (pc + 1) lv (.int (mRem x y) :: st)) : GC p l e R s m args below meth c nL D K E0 B A0 Q S pc lv (.int y :: .int x :: st) :=
  fun G H locs ls hP hA hS hs h1 h2 hl => lv_irem C.1 C.2.1 d h0 (k G H locs ls hP hA hS hs h1 h2 hl)
theorem gc_ladd (C : gc_Cx p l s m args c meth cc nL own hd D K E0 B A0 R) {x y : Int64} (d : decode cc pc = .ok (.ladd, 1)) (k : GC p l e R s m args below meth c nL D K E0 B A0 Q S (pc + 1) lv (.long (x + y) :: st)) : GC p l e R s m args below meth c nL D K E0 B A0 Q S pc lv (.long y :: .long x :: st) :=
  fun G H locs ls hP hA hS hs h1 h2 hl => lv_ladd C.1 C.2.1 d (k G H locs ls hP hA hS hs h1 h2 hl)
theorem gc_lmul (C : gc_Cx p l s m args c meth cc nL own hd D K E0 B A0 R) {x y : Int64} (d : decode cc pc = .ok (.lmul, 1)) (k : GC p l e R s m args below meth c nL D K E0 B A0 Q S (pc + 1) lv (.long (x * y) :: st)) : GC p l e R s m args below meth c nL D K E0 B A0 Q S pc lv (.long y :: .long x :: st) :=
  fun G H locs ls hP hA hS hs h1 h2 hl => lv_lmul C.1 C.2.1 d (k G H locs ls hP hA hS hs h1 h2 hl)
theorem gc_i2l (C : gc_Cx p l s m args c meth cc nL own hd D K E0 B A0 R) {x : Int32} (d : decode cc pc = .ok (.i2l, 1)) (k : GC p l e R s m args below meth c nL D K E0 B A0 Q S (pc + 1) lv (.long x.toInt64 :: st)) : GC p l e R s m args below meth c nL D K E0 B A0 Q S pc lv (.int x :: st) :=
  fun G H locs ls hP hA hS hs h1 h2 hl => lv_i2l C.1 C.2.1 d rfl (k G H locs ls hP hA hS hs h1 h2 hl)
theorem gc_dup (C : gc_Cx p l s m args c meth cc nL own hd D K E0 B A0 R) {a : Value} (d : decode cc pc = .ok (.dup, 1)) (ha : a.category = 1) (k : GC p l e R s m args below meth c nL D K E0 B A0 Q S (pc + 1) lv (a :: a :: st)) : GC p l e R s m args below meth c nL D K E0 B A0 Q S pc lv (a :: st) :=
  fun G H locs ls hP hA hS hs h1 h2 hl => lv_dup C.1 C.2.1 d ha (k G H locs ls hP hA hS hs h1 h2 hl)
theorem gc_dup2 (C : gc_Cx p l s m args c meth cc nL own hd D K E0 B A0 R) {a b : Value} (d : decode cc pc = .ok (.dup2, 1)) (ha : a.category = 1) (hb : b.category = 1) (k : GC p l e R s m args below meth c nL D K E0 B A0 Q S (pc + 1) lv (a :: b :: a :: b :: st)) : GC p l e R s m args below meth c nL D K E0 B A0 Q S pc lv (a :: b :: st) :=
  fun G H locs ls hP hA hS hs h1 h2 hl => lv_dup2_11 C.1 C.2.1 d ha hb (k G H locs ls hP hA hS hs h1 h2 hl)
theorem gc_pop (C : gc_Cx p l s m args c meth cc nL own hd D K E0 B A0 R) {a : Value} (d : decode cc pc = .ok (.pop, 1)) (ha : a.category = 1) (k : GC p l e R s m args below meth c nL D K E0 B A0 Q S (pc + 1) lv st) : GC p l e R s m args below meth c nL D K E0 B A0 Q S pc lv (a :: st) :=
  fun G H locs ls hP hA hS hs h1 h2 hl => lv_pop C.1 C.2.1 d ha (k G H locs ls hP hA hS hs h1 h2 hl)
theorem gc_goto (C : gc_Cx p l s m args c meth cc nL own hd D K E0 B A0 R) {off : Int} (tgt : Nat) (d : decode cc pc = .ok (.goto off, 3)) (ht : (pc : Int) + off = (tgt : Int)) (k : GC p l e R s m args below meth c nL D K E0 B A0 Q S tgt lv st) : GC p l e R s m args below meth c nL D K E0 B A0 Q S pc lv st :=
  fun G H locs ls hP hA hS hs h1 h2 hl => lv_goto C.1 C.2.1 d ht (k G H locs ls hP hA hS hs h1 h2 hl)
theorem gc_if_eq (C : gc_Cx p l s m args c meth cc nL own hd D K E0 B A0 R) {x : Int32} {off : Int} (tgt : Nat) (d : decode cc pc = .ok (.ifCond .eq off, 3)) (ht : (pc : Int) + off = (tgt : Int)) (kt : x = 0 → GC p l e R s m args below meth c nL D K E0 B A0 Q S tgt lv st) (kf : ¬ x = 0 → GC p l e R s m args below meth c nL D K E0 B A0 Q S (pc + 3) lv st) : GC p l e R s m args below meth c nL D K E0 B A0 Q S pc lv (.int x :: st) :=
  fun G H locs ls hP hA hS hs h1 h2 hl => lv_if_eq C.1 C.2.1 d ht (fun h => kt h G H locs ls hP hA hS hs h1 h2 hl) (fun h => kf h G H locs ls hP hA hS hs h1 h2 hl)
theorem gc_icmp_eq (C : gc_Cx p l s m args c meth cc nL own hd D K E0 B A0 R) {x y : Int32} {off : Int} (tgt : Nat) (d : decode cc pc = .ok (.if_icmp .eq off, 3)) (ht : (pc : Int) + off = (tgt : Int)) (kt : x = y → GC p l e R s m args below meth c nL D K E0 B A0 Q S tgt lv st) (kf : ¬ x = y → GC p l e R s m args below meth c nL D K E0 B A0 Q S (pc + 3) lv st) : GC p l e R s m args below meth c nL D K E0 B A0 Q S pc lv (.int y :: .int x :: st) :=
  fun G H locs ls hP hA hS hs h1 h2 hl => lv_icmp_eq C.1 C.2.1 d ht (fun h => kt h G H locs ls hP hA hS hs h1 h2 hl) (fun h => kf h G H locs ls hP hA hS hs h1 h2 hl)
theorem gc_if_ne (C : gc_Cx p l s m args c meth cc nL own hd D K E0 B A0 R) {x : Int32} {off : Int} (tgt : Nat) (d : decode cc pc = .ok (.ifCond .ne off, 3)) (ht : (pc : Int) + off = (tgt : Int)) (kt : ¬ x = 0 → GC p l e R s m args below meth c nL D K E0 B A0 Q S tgt lv st) (kf : x = 0 → GC p l e R s m args below meth c nL D K E0 B A0 Q S (pc + 3) lv st) : GC p l e R s m args below meth c nL D K E0 B A0 Q S pc lv (.int x :: st) :=
  fun G H locs ls hP hA hS hs h1 h2 hl => lv_if_ne C.1 C.2.1 d ht (fun h => kt h G H locs ls hP hA hS hs h1 h2 hl) (fun h => kf h G H locs ls hP hA hS hs h1 h2 hl)
theorem gc_icmp_ne (C : gc_Cx p l s m args c meth cc nL own hd D K E0 B A0 R) {x y : Int32} {off : Int} (tgt : Nat) (d : decode cc pc = .ok (.if_icmp .ne off, 3)) (ht : (pc : Int) + off = (tgt : Int)) (kt : ¬ x = y → GC p l e R s m args below meth c nL D K E0 B A0 Q S tgt lv st) (kf : x = y → GC p l e R s m args below meth c nL D K E0 B A0 Q S (pc + 3) lv st) : GC p l e R s m args below meth c nL D K E0 B A0 Q S pc lv (.int y :: .int x :: st) :=
  fun G H locs ls hP hA hS hs h1 h2 hl => lv_icmp_ne C.1 C.2.1 d ht (fun h => kt h G H locs ls hP hA hS hs h1 h2 hl) (fun h => kf h G H locs ls hP hA hS hs h1 h2 hl)
theorem gc_if_lt (C : gc_Cx p l s m args c meth cc nL own hd D K E0 B A0 R) {x : Int32} {off : Int} (tgt : Nat) (d : decode cc pc = .ok (.ifCond .lt off, 3)) (ht : (pc : Int) + off = (tgt : Int)) (kt : x < 0 → GC p l e R s m args below meth c nL D K E0 B A0 Q S tgt lv st) (kf : ¬ x < 0 → GC p l e R s m args below meth c nL D K E0 B A0 Q S (pc + 3) lv st) : GC p l e R s m args below meth c nL D K E0 B A0 Q S pc lv (.int x :: st) :=
  fun G H locs ls hP hA hS hs h1 h2 hl => lv_if_lt C.1 C.2.1 d ht (fun h => kt h G H locs ls hP hA hS hs h1 h2 hl) (fun h => kf h G H locs ls hP hA hS hs h1 h2 hl)
theorem gc_icmp_lt (C : gc_Cx p l s m args c meth cc nL own hd D K E0 B A0 R) {x y : Int32} {off : Int} (tgt : Nat) (d : decode cc pc = .ok (.if_icmp .lt off, 3)) (ht : (pc : Int) + off = (tgt : Int)) (kt : x < y → GC p l e R s m args below meth c nL D K E0 B A0 Q S tgt lv st) (kf : ¬ x < y → GC p l e R s m args below meth c nL D K E0 B A0 Q S (pc + 3) lv st) : GC p l e R s m args below meth c nL D K E0 B A0 Q S pc lv (.int y :: .int x :: st) :=
  fun G H locs ls hP hA hS hs h1 h2 hl => lv_icmp_lt C.1 C.2.1 d ht (fun h => kt h G H locs ls hP hA hS hs h1 h2 hl) (fun h => kf h G H locs ls hP hA hS hs h1 h2 hl)
theorem gc_if_ge (C : gc_Cx p l s m args c meth cc nL own hd D K E0 B A0 R) {x : Int32} {off : Int} (tgt : Nat) (d : decode cc pc = .ok (.ifCond .ge off, 3)) (ht : (pc : Int) + off = (tgt : Int)) (kt : 0 ≤ x → GC p l e R s m args below meth c nL D K E0 B A0 Q S tgt lv st) (kf : ¬ 0 ≤ x → GC p l e R s m args below meth c nL D K E0 B A0 Q S (pc + 3) lv st) : GC p l e R s m args below meth c nL D K E0 B A0 Q S pc lv (.int x :: st) :=
  fun G H locs ls hP hA hS hs h1 h2 hl => lv_if_ge C.1 C.2.1 d ht (fun h => kt h G H locs ls hP hA hS hs h1 h2 hl) (fun h => kf h G H locs ls hP hA hS hs h1 h2 hl)
theorem gc_icmp_ge (C : gc_Cx p l s m args c meth cc nL own hd D K E0 B A0 R) {x y : Int32} {off : Int} (tgt : Nat) (d : decode cc pc = .ok (.if_icmp .ge off, 3)) (ht : (pc : Int) + off = (tgt : Int)) (kt : y ≤ x → GC p l e R s m args below meth c nL D K E0 B A0 Q S tgt lv st) (kf : ¬ y ≤ x → GC p l e R s m args below meth c nL D K E0 B A0 Q S (pc + 3) lv st) : GC p l e R s m args below meth c nL D K E0 B A0 Q S pc lv (.int y :: .int x :: st) :=
  fun G H locs ls hP hA hS hs h1 h2 hl => lv_icmp_ge C.1 C.2.1 d ht (fun h => kt h G H locs ls hP hA hS hs h1 h2 hl) (fun h => kf h G H locs ls hP hA hS hs h1 h2 hl)
theorem gc_if_gt (C : gc_Cx p l s m args c meth cc nL own hd D K E0 B A0 R) {x : Int32} {off : Int} (tgt : Nat) (d : decode cc pc = .ok (.ifCond .gt off, 3)) (ht : (pc : Int) + off = (tgt : Int)) (kt : 0 < x → GC p l e R s m args below meth c nL D K E0 B A0 Q S tgt lv st) (kf : ¬ 0 < x → GC p l e R s m args below meth c nL D K E0 B A0 Q S (pc + 3) lv st) : GC p l e R s m args below meth c nL D K E0 B A0 Q S pc lv (.int x :: st) :=
  fun G H locs ls hP hA hS hs h1 h2 hl => lv_if_gt C.1 C.2.1 d ht (fun h => kt h G H locs ls hP hA hS hs h1 h2 hl) (fun h => kf h G H locs ls hP hA hS hs h1 h2 hl)
theorem gc_icmp_gt (C : gc_Cx p l s m args c meth cc nL own hd D K E0 B A0 R) {x y : Int32} {off : Int} (tgt : Nat) (d : decode cc pc = .ok (.if_icmp .gt off, 3)) (ht : (pc : Int) + off = (tgt : Int)) (kt : y < x → GC p l e R s m args below meth c nL D K E0 B A0 Q S tgt lv st) (kf : ¬ y < x → GC p l e R s m args below meth c nL D K E0 B A0 Q S (pc + 3) lv st) : GC p l e R s m args below meth c nL D K E0 B A0 Q S pc lv (.int y :: .int x :: st) :=
  fun G H locs ls hP hA hS hs h1 h2 hl => lv_icmp_gt C.1 C.2.1 d ht (fun h => kt h G H locs ls hP hA hS hs h1 h2 hl) (fun h => kf h G H locs ls hP hA hS hs h1 h2 hl)
theorem gc_if_le (C : gc_Cx p l s m args c meth cc nL own hd D K E0 B A0 R) {x : Int32} {off : Int} (tgt : Nat) (d : decode cc pc = .ok (.ifCond .le off, 3)) (ht : (pc : Int) + off = (tgt : Int)) (kt : x ≤ 0 → GC p l e R s m args below meth c nL D K E0 B A0 Q S tgt lv st) (kf : ¬ x ≤ 0 → GC p l e R s m args below meth c nL D K E0 B A0 Q S (pc + 3) lv st) : GC p l e R s m args below meth c nL D K E0 B A0 Q S pc lv (.int x :: st) :=
  fun G H locs ls hP hA hS hs h1 h2 hl => lv_if_le C.1 C.2.1 d ht (fun h => kt h G H locs ls hP hA hS hs h1 h2 hl) (fun h => kf h G H locs ls hP hA hS hs h1 h2 hl)
theorem gc_icmp_le (C : gc_Cx p l s m args c meth cc nL own hd D K E0 B A0 R) {x y : Int32} {off : Int} (tgt : Nat) (d : decode cc pc = .ok (.if_icmp .le off, 3)) (ht : (pc : Int) + off = (tgt : Int)) (kt : x ≤ y → GC p l e R s m args below meth c nL D K E0 B A0 Q S tgt lv st) (kf : ¬ x ≤ y → GC p l e R s m args below meth c nL D K E0 B A0 Q S (pc + 3) lv st) : GC p l e R s m args below meth c nL D K E0 B A0 Q S pc lv (.int y :: .int x :: st) :=
  fun G H locs ls hP hA hS hs h1 h2 hl => lv_icmp_le C.1 C.2.1 d ht (fun h => kt h G H locs ls hP hA hS hs h1 h2 hl) (fun h => kf h G H locs ls hP hA hS hs h1 h2 hl)
theorem gc_sub {lv' : List (Nat × Value)} (ks : List Nat) (hk : lv_pick lv ks = lv') (k : GC p l e R s m args below meth c nL D K E0 B A0 Q S pc lv' st) : GC p l e R s m args below meth c nL D K E0 B A0 Q S pc lv st :=
  fun G H locs ls hP hA hS hs h1 h2 hl => k G H locs ls hP hA hS hs h1 h2 (lv_sub hl ks hk)
theorem gc_nameS (k : ∀ S1 : CS, S1 = S → GC p l e R s m args below meth c nL D K E0 B A0 Q S1 pc lv st) : GC p l e R s m args below meth c nL D K E0 B A0 Q S pc lv st := k S rfl
theorem gc_nameI {v : Int32} (k : ∀ x : Int32, x = v → GC p l e R s m args below meth c nL D K E0 B A0 Q S pc lv (.int x :: st)) : GC p l e R s m args below meth c nL D K E0 B A0 Q S pc lv (.int v :: st) := k v rfl
theorem gc_nameL {v : Int64} (k : ∀ x : Int64, x = v → GC p l e R s m args below meth c nL D K E0 B A0 Q S pc lv (.long x :: st)) : GC p l e R s m args below meth c nL D K E0 B A0 Q S pc lv (.long v :: st) := k v rfl
theorem gc_nameO {v : Option Nat} (k : ∀ x : Option Nat, x = v → GC p l e R s m args below meth c nL D K E0 B A0 Q S pc lv (va_rf x :: st)) : GC p l e R s m args below meth c nL D K E0 B A0 Q S pc lv (va_rf v :: st) := k v rfl
theorem c_fget {S : CS} {ci o k : Nat} (hk : k < cNF ci) : (c_fs S ci o)[k]? = some (c_fv S ci o k) := by
  unfold c_fs
  rw [List.getElem?_map, List.getElem?_range hk]
  rfl
theorem c_flen {S : CS} {ci o : Nat} : (c_fs S ci o).length = cNF ci := by simp [c_fs]
theorem c_obj {D : va_G} {K : Nat → ClassId} {E0 : Nat} {S : CS} {G : CG} {H : Heap} {o ci : Nat} (hP : RepC D K E0 S G H) (hc : isC S o ci) (h3 : 3 ≤ ci) (h15 : ci < 15) : G.1 o = (ci, o) ∧ va_P D vwCl [(o, .inr (ci, c_fs S ci o))] H := by
  have hne : kdC S o ≠ 0 := fun h => by unfold isC at hc; rw [h] at hc; omega
  have h1 := (hP.2.1 o hne).1
  rw [show kdC S o % 100 = ci from hc] at h1
  have h2 := (hP.1 o ci o h1 (by omega)).1
  unfold c_ce at h2
  rw [if_pos (by omega)] at h2
  refine ⟨h1, fun k q hk => ?_⟩
  cases k with
  | zero => cases hk; exact h2
  | succ k => simp at hk
theorem c_emb {D : va_G} {K : Nat → ClassId} {E0 : Nat} {S : CS} {G : CG} {H : Heap} {o ci k f : Nat} (hP : RepC D K E0 S G H) (hc : kdC S o = ci) (h3 : 3 ≤ ci) (h15 : ci < 15) (hk : k < cNF ci) (hf : 16 * ci + k = f) (he : cEmb (cFT f) = true) : G.1 (o + cOF f) = (f, o) ∧ va_P D vwCl [(o + cOF f, c_ce K E0 S G f o)] H ∧ (cFT f = 5 → c_lok S G f o) := by
  have hm : kdC S o % 100 = ci := by omega
  have h1 := (hP.2.1 o (by omega)).2.2.2 k (by rw [hm]; exact hk) (by rw [hm, hf]; exact he) (by rw [hm, hf]; unfold cAtt; rw [decide_eq_true (by omega : kdC S o < 100)]; rfl)
  rw [hm, hf] at h1
  refine ⟨h1.1, fun j q hj => ?_, h1.2⟩
  have h2 := (hP.1 _ f o h1.1 (by omega)).1
  cases j with
  | zero => cases hj; exact h2
  | succ j => simp at hj

theorem gc_getI (C : gc_Cx p l s m args c meth cc nL own hd D K E0 B A0 R) {ci : Nat} {CN : String} {T : u_T} {N : Nat} {ty : Nat → FieldType} (B0 : c_Cls ci CN T N ty) (f k0 : Nat) (hk : k0 < N) (hf : 16 * ci + k0 = f) {ix o : Nat} (ht : cFT f = 0) (hw : Cond.fieldLink own ix CN (T k0).2.1 (T k0).2.2.1 ∈ wU) (hT : (T k0).1 = CN) (hg : isC S o ci) (d : decode cc pc = .ok (.getfield ix, 3)) (k : GC p l e R s m args below meth c nL D K E0 B A0 Q S (pc + 3) lv (.int (fI S f o) :: st)) : GC p l e R s m args below meth c nL D K E0 B A0 Q S pc lv (.ref o :: st) :=
  fun G H locs ls hP hA hS hs h1 h2 hl => (va_get (D := D) (ci := ci) (v := .int (fI S f o)) (C := CN) (T := T) (N := N) C.1 C.2.1 (Ts := hd :: wU) C.2.2.2.2.1 (fun w h => List.mem_cons_of_mem _ (B0.2.1 w h)) C.2.2.2.1 C.2.2.2.2.2.1 (c_obj hP hg B0.2.2.2.2.2.1 B0.2.2.2.2.2.2).2 0 rfl B0.1 k0 hk (C.2.2.2.2.1 _ (List.mem_cons_of_mem _ hw)) (fun x h9 => by rw [hT] at h9; exact h9) (by rw [c_fget (by rw [B0.2.2.2.2.1]; exact hk)]; unfold c_fv; rw [hf]; simp [ht]) d (k G H locs ls hP hA hS hs h1 h2 hl))
theorem gc_getR (C : gc_Cx p l s m args c meth cc nL own hd D K E0 B A0 R) {ci : Nat} {CN : String} {T : u_T} {N : Nat} {ty : Nat → FieldType} (B0 : c_Cls ci CN T N ty) (f k0 : Nat) (hk : k0 < N) (hf : 16 * ci + k0 = f) {ix o : Nat} (ht : cFT f = 3) (hw : Cond.fieldLink own ix CN (T k0).2.1 (T k0).2.2.1 ∈ wU) (hT : (T k0).1 = CN) (hg : isC S o ci) (q : Nat) (hq : fR S f o = some q) (d : decode cc pc = .ok (.getfield ix, 3)) (k : GC p l e R s m args below meth c nL D K E0 B A0 Q S (pc + 3) lv (.ref q :: st)) : GC p l e R s m args below meth c nL D K E0 B A0 Q S pc lv (.ref o :: st) :=
  fun G H locs ls hP hA hS hs h1 h2 hl => (va_get (D := D) (ci := ci) (v := .ref q) (C := CN) (T := T) (N := N) C.1 C.2.1 (Ts := hd :: wU) C.2.2.2.2.1 (fun w h => List.mem_cons_of_mem _ (B0.2.1 w h)) C.2.2.2.1 C.2.2.2.2.2.1 (c_obj hP hg B0.2.2.2.2.2.1 B0.2.2.2.2.2.2).2 0 rfl B0.1 k0 hk (C.2.2.2.2.1 _ (List.mem_cons_of_mem _ hw)) (fun x h9 => by rw [hT] at h9; exact h9) (by rw [c_fget (by rw [B0.2.2.2.2.1]; exact hk)]; unfold c_fv; rw [hf]; simp [ht, hq, va_rf]) d (k G H locs ls hP hA hS hs h1 h2 hl))
theorem gc_getE (C : gc_Cx p l s m args c meth cc nL own hd D K E0 B A0 R) {ci : Nat} {CN : String} {T : u_T} {N : Nat} {ty : Nat → FieldType} (B0 : c_Cls ci CN T N ty) (f k0 : Nat) (hk : k0 < N) (hf : 16 * ci + k0 = f) {ix o : Nat} (ht : cEmb (cFT f) = true) (hw : Cond.fieldLink own ix CN (T k0).2.1 (T k0).2.2.1 ∈ wU) (hT : (T k0).1 = CN) (hk2 : kdC S o = ci) (d : decode cc pc = .ok (.getfield ix, 3)) (k : GC p l e R s m args below meth c nL D K E0 B A0 Q S (pc + 3) lv (.ref (o + cOF f) :: st)) : GC p l e R s m args below meth c nL D K E0 B A0 Q S pc lv (.ref o :: st) := by
  have hg : isC S o ci := by unfold isC; have := B0.2.2.2.2.2.2; omega
  have e0 : cFT f ≠ 0 := fun h => by rw [h] at ht; cases ht
  have e3 : cFT f ≠ 3 := fun h => by rw [h] at ht; cases ht
  have ea : cAtt (kdC S o) f = true := by unfold cAtt; rw [decide_eq_true (by have := B0.2.2.2.2.2.2; omega : kdC S o < 100)]; rfl
  exact fun G H locs ls hP hA hS hs h1 h2 hl => (va_get (D := D) (ci := ci) (v := .ref (o + cOF f)) (C := CN) (T := T) (N := N) C.1 C.2.1 (Ts := hd :: wU) C.2.2.2.2.1 (fun w h => List.mem_cons_of_mem _ (B0.2.1 w h)) C.2.2.2.1 C.2.2.2.2.2.1 (c_obj hP hg B0.2.2.2.2.2.1 B0.2.2.2.2.2.2).2 0 rfl B0.1 k0 hk (C.2.2.2.2.1 _ (List.mem_cons_of_mem _ hw)) (fun x h9 => by rw [hT] at h9; exact h9) (by rw [c_fget (by rw [B0.2.2.2.2.1]; exact hk)]; unfold c_fv; rw [hf]; simp [e0, e3, ea]) d (k G H locs ls hP hA hS hs h1 h2 hl))
theorem gc_iald (C : gc_Cx p l s m args c meth cc nL own hd D K E0 B A0 R) {ci k0 : Nat} (f : Nat) (h3 : 3 ≤ ci) (h15 : ci < 15) (hk : k0 < cNF ci) (hf : 16 * ci + k0 = f) {o : Nat} {i : Int32} (ht : cFT f = 1) (hlt : f < 240) (hg : kdC S o = ci) (hin : vp_in i (cLN f)) (d : decode cc pc = .ok (.iaload, 1)) (k : GC p l e R s m args below meth c nL D K E0 B A0 Q S (pc + 1) lv (.int (fA S f o i.toNatClampNeg) :: st)) : GC p l e R s m args below meth c nL D K E0 B A0 Q S pc lv (.int i :: .ref (o + cOF f) :: st) := by
  intro G H locs ls hP hA hS hs h1 h2 hl
  have he := (c_emb hP hg h3 h15 hk hf (by rw [ht]; rfl)).2.1
  have hce : c_ce K E0 S G f o = .inl (K 0, cLN f, .inl (fA S f o)) := by
    unfold c_ce
    rw [if_neg (by omega), if_neg (by omega)]
    simp [ht]
  rw [hce] at he
  exact va_iald C.1 C.2.1 C.2.2.2.2.2.1 he 0 0 rfl rfl hin d (k G H locs ls hP hA hS hs h1 h2 hl)
theorem gc_lald (C : gc_Cx p l s m args c meth cc nL own hd D K E0 B A0 R) {ci k0 : Nat} (f : Nat) (h3 : 3 ≤ ci) (h15 : ci < 15) (hk : k0 < cNF ci) (hf : 16 * ci + k0 = f) {o : Nat} {i : Int32} (ht : cFT f = 2) (hlt : f < 240) (hg : kdC S o = ci) (hin : vp_in i (cLN f)) (d : decode cc pc = .ok (.laload, 1)) (k : GC p l e R s m args below meth c nL D K E0 B A0 Q S (pc + 1) lv (.long (fJ S o i.toNatClampNeg) :: st)) : GC p l e R s m args below meth c nL D K E0 B A0 Q S pc lv (.int i :: .ref (o + cOF f) :: st) := by
  intro G H locs ls hP hA hS hs h1 h2 hl
  have he := (c_emb hP hg h3 h15 hk hf (by rw [ht]; rfl)).2.1
  have hce : c_ce K E0 S G f o = .inl (K 1, cLN f, .inr (.inl (fJ S o))) := by
    unfold c_ce
    rw [if_neg (by omega), if_neg (by omega)]
    simp [ht]
  rw [hce] at he
  exact va_lald C.1 C.2.1 C.2.2.2.2.2.1 he 0 1 rfl rfl hin d (k G H locs ls hP hA hS hs h1 h2 hl)
theorem gc_qald (C : gc_Cx p l s m args c meth cc nL own hd D K E0 B A0 R) {ci k0 : Nat} (f : Nat) (h3 : 3 ≤ ci) (h15 : ci < 15) (hk : k0 < cNF ci) (hf : 16 * ci + k0 = f) {o : Nat} {i : Int32} {CQ : String} (t0 : Nat) (hty : (c_tys K)[t0]? = some (K (cQK f), .object CQ)) (ht : cFT f = 4) (hlt : f < 240) (hg : kdC S o = ci) (hin : vp_in i (cLN f)) (d : decode cc pc = .ok (.aaload, 1)) (k : GC p l e R s m args below meth c nL D K E0 B A0 Q S (pc + 1) lv (va_rf (fQ S f o i.toNatClampNeg) :: st)) : GC p l e R s m args below meth c nL D K E0 B A0 Q S pc lv (.int i :: .ref (o + cOF f) :: st) := by
  intro G H locs ls hP hA hS hs h1 h2 hl
  have he := (c_emb hP hg h3 h15 hk hf (by rw [ht]; rfl)).2.1
  have hce : c_ce K E0 S G f o = .inl (K (cQK f), cLN f, .inr (.inr (.inr (.inr (fQ S f o))))) := by
    unfold c_ce
    rw [if_neg (by omega), if_neg (by omega)]
    simp [ht]
  rw [hce] at he
  exact va_aldq C.1 C.2.1 C.2.2.2.2.2.1 he 0 t0 rfl hty hin d (k G H locs ls hP hA hS hs h1 h2 hl)

end GCS
