/-! THE LAW'S OWN ROWS: by address, length and numbers; instructions and calls of the law's methods -/
abbrev LR : Type := Nat → Option (Nat × (Nat → Int32))
abbrev LwS : Type := CS × LR
def rN (r : LR) (a : Nat) : Nat := match r a with
  | none => 0
  | some x => x.1
def rG (r : LR) (a i : Nat) : Int32 := match r a with
  | none => 0
  | some x => x.2 i
def rPut (r : LR) (a : Nat) (x : Nat × (Nat → Int32)) : LR := fun q => if q = a then some x else r q
def rSt (t : LwS) (a : Nat) (i v : Int32) : LwS := (t.1, rPut t.2 a (rN t.2 a, va_up (rG t.2 a) i.toNatClampNeg v))
def rNw (t : LwS) (n : Nat) : LwS := (rsz t.1 (szC t.1 + 1) (nsC t.1 + n), rPut t.2 (szC t.1) (n, fun _ => 0))
def rA0 (b0 : Nat) (r : LR) : Nat → Prop := fun q => b0 ≤ q ∧ r q = none
def rW (b0 : Nat) : Nat → Prop := fun q => b0 ≤ q
def rOK (D : va_G) (K : Nat → ClassId) (b0 : Nat) (r : LR) (H : Heap) : Prop := ∀ a x, r a = some x → b0 ≤ a ∧ va_at D vwCl (a, .inl (K 0, x.1, .inl x.2)) H
theorem rN_some {r : LR} {a : Nat} {x : Nat × (Nat → Int32)} (h : r a = some x) : rN r a = x.1 := by unfold rN; rw [h]
theorem rG_some {r : LR} {a : Nat} {x : Nat × (Nat → Int32)} (h : r a = some x) : rG r a = x.2 := by funext i; unfold rG; rw [h]
theorem rN_pos {r : LR} {a : Nat} {i : Int32} (h : vp_in i (rN r a)) : ∃ x, r a = some x := by
  cases hr : r a with
  | none =>
    exfalso
    refine h (Or.inr ?_)
    unfold rN
    rw [hr]
    exact Nat.zero_le _
  | some x => exact ⟨x, rfl⟩
theorem rPut_at {r : LR} {a : Nat} {x : Nat × (Nat → Int32)} : rPut r a x a = some x := if_pos rfl
theorem rPut_ne {r : LR} {a q : Nat} {x : Nat × (Nat → Int32)} (h : q ≠ a) : rPut r a x q = r q := if_neg h
def exA : List String := ["java/lang/IllegalArgumentException", "java/lang/IllegalStateException", "java/lang/IndexOutOfBoundsException"]
def NcS (U : State) : Prop := ∀ a, a ∈ exA → ∀ b, b ∈ exA → a ≠ b → va_Nc a b U
theorem NcS.moved {u U : State} (hvm : u.vm.Alike U.vm) (h : NcS u) : NcS U := fun a ha b hb hab => va_Nc.moved hvm (h a ha b hb hab)
def r_Pre (D : va_G) (K : Nat → ClassId) (E0 b0 : Nat) (t : LwS) (as : List Value) : Array Value → State → Prop := va_Pc as (fun U => c_W D K E0 (rA0 b0 t.2) t.1 U ∧ va_K D vwCl (c_tys K) U ∧ StC E0 (rW b0) U U.heap ∧ c_Ev U ∧ rOK D K b0 t.2 U.heap ∧ NcS U)
def r_Post (D : va_G) (K : Nat → ClassId) (E0 b0 : Nat) (P : Int32 → LwS → Prop) : Array Value → State → Outcome → State → Prop := fun _ st o u => (∃ (k : Int32) (t' : LwS), o = .returned (some (.int k)) ∧ P k t' ∧ c_W D K E0 (rA0 b0 t'.2) t'.1 u ∧ rOK D K b0 t'.2 u.heap) ∧ va_F (rW b0) st u
/-- the contract of a method of the law: w is the tables' word of its code -/
def MetR (l : Launch) (y : MethodName) (w : Cond) (d : Nat) (as : List Value) (P : Int32 → LwS → Prop) (D : va_G) (K : Nat → ClassId) (E0 b0 : Nat) (B : Nat × Nat) (t : LwS) : Prop :=
  l.stackTraces = false → szC t.1 ≤ B.1 → nsC t.1 ≤ B.2 → vx_Met l y (w :: wU) (rmC d B t.1) (r_Pre D K E0 b0 t as) (r_Post D K E0 b0 P) (fun _ _ _ => False) (B.1 - szC t.1) (B.2 - nsC t.1) (rW b0)
def rx_Cx (p : Program) (l : Launch) (s : State) (m : MethodId) (args : Array Value) (c : Code) (meth : Method) (cc : ByteArray) (nL : Nat) (hd : Cond) (D : va_G) (K : Nat → ClassId) (E0 : Nat) (B : Nat × Nat) (b0 : Nat) (R : Room) : Prop :=
  p.tables.exec = Jvm.exec ∧ c.code = cc ∧ c.maxLocals = nL ∧ s.vm.findClass RL = some m.cls ∧ (∀ w ∈ hd :: wU, w.before args s = true) ∧ va_K D vwCl (c_tys K) s ∧
  (R.cells = B.1 - s.heap.size ∧ R.slots = B.2 - hsl s.heap) ∧ StC E0 (rW b0) s s.heap ∧ l.stackTraces = false ∧ meth.locks = false ∧ b0 ≤ s.heap.size ∧ c_Ev s ∧ NcS s
section GRS
variable {p : Program} {l : Launch} {e : Env} {R : Room} {s : State} {m : MethodId} {args : Array Value} {below : List Frame} {meth : Method} {c : Code} {Q : State → Prop}
variable {cc : ByteArray} {nL : Nat} {hd : Cond} {D : va_G} {K : Nat → ClassId} {E0 : Nat} {B : Nat × Nat} {b0 : Nat}
def GR (p : Program) (l : Launch) (e : Env) (R : Room) (s : State) (m : MethodId) (args : Array Value) (below : List Frame) (meth : Method) (c : Code) (nL : Nat) (D : va_G) (K : Nat → ClassId) (E0 : Nat) (B : Nat × Nat) (b0 : Nat) (Q : State → Prop) (S : LwS) (pc : Nat) (lv : List (Nat × Value)) (st : List Value) : Prop :=
  ∀ (G : CG) (H : Heap) (locs : List Loc) (ls : Array Slot), RepC D K E0 S.1 G H → (∀ q, gA G (szC S.1) q → rA0 b0 S.2 q) → rOK D K b0 S.2 H → va_S (rW b0) s.heap H locs → hsl s.heap ≤ hsl H → szC S.1 ≤ B.1 → nsC S.1 ≤ B.2 → lv_has ls nL lv →
    W p l e R s m args below meth c H locs (H.size - s.heap.size) (hsl H - hsl s.heap) Q (F0 m pc ls st)
/-- the same where an exception of the class E has been thrown -/
def GZ (p : Program) (l : Launch) (e : Env) (R : Room) (s : State) (m : MethodId) (args : Array Value) (below : List Frame) (meth : Method) (c : Code) (nL : Nat) (D : va_G) (K : Nat → ClassId) (E0 : Nat) (B : Nat × Nat) (b0 : Nat) (Q : State → Prop) (E : String) (S : LwS) (pc : Nat) (lv : List (Nat × Value)) (rest : List Value) : Prop :=
  ∀ (G : CG) (H : Heap) (locs : List Loc) (ls : Array Slot) (q : Addr) (ce : Cell), RepC D K E0 S.1 G H → (∀ q, gA G (szC S.1) q → rA0 b0 S.2 q) → rOK D K b0 S.2 H → va_S (rW b0) s.heap H locs → hsl s.heap ≤ hsl H → szC S.1 ≤ B.1 → nsC S.1 ≤ B.2 → lv_has ls nL lv → H[q]? = some ce → ce.vm = .none → s.vm.findClass E = some ce.cls →
    vx_W p l e R s m args below meth c H locs (H.size - s.heap.size) (hsl H - hsl s.heap) Q (F0 m pc ls rest) q
variable {S : LwS} {pc : Nat} {lv : List (Nat × Value)} {st : List Value}
theorem gr_iconst (C : rx_Cx p l s m args c meth cc nL hd D K E0 B b0 R) {n : Int} (v : Int32) (d : decode cc pc = .ok (.iconst n, 1)) (hv : Int32.ofInt n = v) (k : GR p l e R s m args below meth c nL D K E0 B b0 Q S (pc + 1) lv (.int v :: st)) : GR p l e R s m args below meth c nL D K E0 B b0 Q S pc lv st :=
  fun G H locs ls hP hA hO hS hs h1 h2 hl => lv_iconst C.1 C.2.1 d hv (k G H locs ls hP hA hO hS hs h1 h2 hl)
theorem gr_bipush (C : rx_Cx p l s m args c meth cc nL hd D K E0 B b0 R) {n : Int} (v : Int32) (d : decode cc pc = .ok (.bipush n, 2)) (hv : (Int8.ofInt n).toInt32 = v) (k : GR p l e R s m args below meth c nL D K E0 B b0 Q S (pc + 2) lv (.int v :: st)) : GR p l e R s m args below meth c nL D K E0 B b0 Q S pc lv st :=
  fun G H locs ls hP hA hO hS hs h1 h2 hl => lv_bipush C.1 C.2.1 d hv (k G H locs ls hP hA hO hS hs h1 h2 hl)
theorem gr_sipush (C : rx_Cx p l s m args c meth cc nL hd D K E0 B b0 R) {n : Int} (v : Int32) (d : decode cc pc = .ok (.sipush n, 3)) (hv : (Int16.ofInt n).toInt32 = v) (k : GR p l e R s m args below meth c nL D K E0 B b0 Q S (pc + 3) lv (.int v :: st)) : GR p l e R s m args below meth c nL D K E0 B b0 Q S pc lv st :=
  fun G H locs ls hP hA hO hS hs h1 h2 hl => lv_sipush C.1 C.2.1 d hv (k G H locs ls hP hA hO hS hs h1 h2 hl)
theorem gr_ldc (C : rx_Cx p l s m args c meth cc nL hd D K E0 B b0 R) {ix : Nat} (v : Int32) (hw : Cond.constant RL ix v ∈ wU) (d : decode cc pc = .ok (.ldc ix, 2)) (k : GR p l e R s m args below meth c nL D K E0 B b0 Q S (pc + 2) lv (.int v :: st)) : GR p l e R s m args below meth c nL D K E0 B b0 Q S pc lv st :=
  fun G H locs ls hP hA hO hS hs h1 h2 hl => lv_ldc C.1 C.2.1 C.2.2.2.1 (C.2.2.2.2.1 _ (List.mem_cons_of_mem _ hw)) d (k G H locs ls hP hA hO hS hs h1 h2 hl)
theorem gr_ldcw (C : rx_Cx p l s m args c meth cc nL hd D K E0 B b0 R) {ix : Nat} (v : Int32) (hw : Cond.constant RL ix v ∈ wU) (d : decode cc pc = .ok (.ldc_w ix, 3)) (k : GR p l e R s m args below meth c nL D K E0 B b0 Q S (pc + 3) lv (.int v :: st)) : GR p l e R s m args below meth c nL D K E0 B b0 Q S pc lv st :=
  fun G H locs ls hP hA hO hS hs h1 h2 hl => lv_ldcw C.1 C.2.1 C.2.2.2.1 (C.2.2.2.2.1 _ (List.mem_cons_of_mem _ hw)) d (k G H locs ls hP hA hO hS hs h1 h2 hl)
theorem gr_iloadn (C : rx_Cx p l s m args c meth cc nL hd D K E0 B b0 R) {n : Fin 4} (j i : Nat) {x : Int32} (d : decode cc pc = .ok (.iload_n n, 1)) (hi : (n : Nat) = i) (hv : lv[j]? = some (i, .int x)) (k : GR p l e R s m args below meth c nL D K E0 B b0 Q S (pc + 1) lv (.int x :: st)) : GR p l e R s m args below meth c nL D K E0 B b0 Q S pc lv st :=
  fun G H locs ls hP hA hO hS hs h1 h2 hl => lv_iload_n C.1 C.2.1 d hi (lv_at hl j hv) (k G H locs ls hP hA hO hS hs h1 h2 hl)
theorem gr_iload (C : rx_Cx p l s m args c meth cc nL hd D K E0 B b0 R) (j : Nat) {i : Nat} {x : Int32} (d : decode cc pc = .ok (.iload i, 2)) (hv : lv[j]? = some (i, .int x)) (k : GR p l e R s m args below meth c nL D K E0 B b0 Q S (pc + 2) lv (.int x :: st)) : GR p l e R s m args below meth c nL D K E0 B b0 Q S pc lv st :=
  fun G H locs ls hP hA hO hS hs h1 h2 hl => lv_iload C.1 C.2.1 d (lv_at hl j hv) (k G H locs ls hP hA hO hS hs h1 h2 hl)
theorem gr_istoren (C : rx_Cx p l s m args c meth cc nL hd D K E0 B b0 R) {n : Fin 4} (i : Nat) {x : Int32} (lv' : List (Nat × Value)) (d : decode cc pc = .ok (.istore_n n, 1)) (hi : (n : Nat) = i) (hn : i < nL) (hl' : (i, Value.int x) :: lv.filter (fun q => !(q.1 == i) && !(q.1 + 1 == i && q.2.category == 2)) = lv') (k : GR p l e R s m args below meth c nL D K E0 B b0 Q S (pc + 1) lv' st) : GR p l e R s m args below meth c nL D K E0 B b0 Q S pc lv (.int x :: st) :=
  fun G H locs ls hP hA hO hS hs h1 h2 hl => lv_istore_n C.1 C.2.1 d hi hl hn hl' (fun ls' hl2 => k G H locs ls' hP hA hO hS hs h1 h2 hl2)
theorem gr_istore (C : rx_Cx p l s m args c meth cc nL hd D K E0 B b0 R) {i : Nat} {x : Int32} (lv' : List (Nat × Value)) (d : decode cc pc = .ok (.istore i, 2)) (hn : i < nL) (hl' : (i, Value.int x) :: lv.filter (fun q => !(q.1 == i) && !(q.1 + 1 == i && q.2.category == 2)) = lv') (k : GR p l e R s m args below meth c nL D K E0 B b0 Q S (pc + 2) lv' st) : GR p l e R s m args below meth c nL D K E0 B b0 Q S pc lv (.int x :: st) :=
  fun G H locs ls hP hA hO hS hs h1 h2 hl => lv_istore C.1 C.2.1 d hl hn hl' (fun ls' hl2 => k G H locs ls' hP hA hO hS hs h1 h2 hl2)
theorem gr_aloadn (C : rx_Cx p l s m args c meth cc nL hd D K E0 B b0 R) {n : Fin 4} (j i : Nat) {x : Nat} (d : decode cc pc = .ok (.aload_n n, 1)) (hi : (n : Nat) = i) (hv : lv[j]? = some (i, .ref x)) (k : GR p l e R s m args below meth c nL D K E0 B b0 Q S (pc + 1) lv (.ref x :: st)) : GR p l e R s m args below meth c nL D K E0 B b0 Q S pc lv st :=
  fun G H locs ls hP hA hO hS hs h1 h2 hl => lv_aload_n C.1 C.2.1 d hi (lv_at hl j hv) (k G H locs ls hP hA hO hS hs h1 h2 hl)
theorem gr_aload (C : rx_Cx p l s m args c meth cc nL hd D K E0 B b0 R) (j : Nat) {i : Nat} {x : Nat} (d : decode cc pc = .ok (.aload i, 2)) (hv : lv[j]? = some (i, .ref x)) (k : GR p l e R s m args below meth c nL D K E0 B b0 Q S (pc + 2) lv (.ref x :: st)) : GR p l e R s m args below meth c nL D K E0 B b0 Q S pc lv st :=
  fun G H locs ls hP hA hO hS hs h1 h2 hl => lv_aload C.1 C.2.1 d (lv_at hl j hv) (k G H locs ls hP hA hO hS hs h1 h2 hl)
theorem gr_astoren (C : rx_Cx p l s m args c meth cc nL hd D K E0 B b0 R) {n : Fin 4} (i : Nat) {x : Nat} (lv' : List (Nat × Value)) (d : decode cc pc = .ok (.astore_n n, 1)) (hi : (n : Nat) = i) (hn : i < nL) (hl' : (i, Value.ref x) :: lv.filter (fun q => !(q.1 == i) && !(q.1 + 1 == i && q.2.category == 2)) = lv') (k : GR p l e R s m args below meth c nL D K E0 B b0 Q S (pc + 1) lv' st) : GR p l e R s m args below meth c nL D K E0 B b0 Q S pc lv (.ref x :: st) :=
  fun G H locs ls hP hA hO hS hs h1 h2 hl => lv_astore_n C.1 C.2.1 d hi hl hn hl' (fun ls' hl2 => k G H locs ls' hP hA hO hS hs h1 h2 hl2)
theorem gr_astore (C : rx_Cx p l s m args c meth cc nL hd D K E0 B b0 R) {i : Nat} {x : Nat} (lv' : List (Nat × Value)) (d : decode cc pc = .ok (.astore i, 2)) (hn : i < nL) (hl' : (i, Value.ref x) :: lv.filter (fun q => !(q.1 == i) && !(q.1 + 1 == i && q.2.category == 2)) = lv') (k : GR p l e R s m args below meth c nL D K E0 B b0 Q S (pc + 2) lv' st) : GR p l e R s m args below meth c nL D K E0 B b0 Q S pc lv (.ref x :: st) :=
  fun G H locs ls hP hA hO hS hs h1 h2 hl => lv_astore C.1 C.2.1 d hl hn hl' (fun ls' hl2 => k G H locs ls' hP hA hO hS hs h1 h2 hl2)
theorem gr_iinc (C : rx_Cx p l s m args c meth cc nL hd D K E0 B b0 R) (j : Nat) {i : Nat} {n : Int} {x : Int32} (v : Int32) (lv' : List (Nat × Value)) (d : decode cc pc = .ok (.iinc i n, 3)) (hj : lv[j]? = some (i, .int x)) (hv : x + Int32.ofInt n = v) (hn : i < nL) (hl' : (i, Value.int v) :: lv.filter (fun q => !(q.1 == i) && !(q.1 + 1 == i && q.2.category == 2)) = lv') (k : GR p l e R s m args below meth c nL D K E0 B b0 Q S (pc + 3) lv' st) : GR p l e R s m args below meth c nL D K E0 B b0 Q S pc lv st :=
  fun G H locs ls hP hA hO hS hs h1 h2 hl => lv_iinc C.1 C.2.1 d hl hj hv hn hl' (fun ls' hl2 => k G H locs ls' hP hA hO hS hs h1 h2 hl2)
theorem gr_iadd (C : rx_Cx p l s m args c meth cc nL hd D K E0 B b0 R) {x y : Int32} (d : decode cc pc = .ok (.iadd, 1)) (k : GR p l e R s m args below meth c nL D K E0 B b0 Q S (pc + 1) lv (.int (x + y) :: st)) : GR p l e R s m args below meth c nL D K E0 B b0 Q S pc lv (.int y :: .int x :: st) :=
  fun G H locs ls hP hA hO hS hs h1 h2 hl => lv_iadd C.1 C.2.1 d (k G H locs ls hP hA hO hS hs h1 h2 hl)
theorem gr_isub (C : rx_Cx p l s m args c meth cc nL hd D K E0 B b0 R) {x y : Int32} (d : decode cc pc = .ok (.isub, 1)) (k : GR p l e R s m args below meth c nL D K E0 B b0 Q S (pc + 1) lv (.int (x - y) :: st)) : GR p l e R s m args below meth c nL D K E0 B b0 Q S pc lv (.int y :: .int x :: st) :=
  fun G H locs ls hP hA hO hS hs h1 h2 hl => lv_isub C.1 C.2.1 d (k G H locs ls hP hA hO hS hs h1 h2 hl)
theorem gr_imul (C : rx_Cx p l s m args c meth cc nL hd D K E0 B b0 R) {x y : Int32} (d : decode cc pc = .ok (.imul, 1)) (k : GR p l e R s m args below meth c nL D K E0 B b0 Q S (pc + 1) lv (.int (x * y) :: st)) : GR p l e R s m args below meth c nL D K E0 B b0 Q S pc lv (.int y :: .int x :: st) :=
  fun G H locs ls hP hA hO hS hs h1 h2 hl => lv_imul C.1 C.2.1 d (k G H locs ls hP hA hO hS hs h1 h2 hl)
theorem gr_idiv (C : rx_Cx p l s m args c meth cc nL hd D K E0 B b0 R) {x y : Int32} (d : decode cc pc = .ok (.idiv, 1)) (h0 : ¬ y = 0) (k : GR p l e R s m args below meth c nL D K E0 B b0 Q S (pc + 1) lv (.int (x / y) :: st)) : GR p l e R s m args below meth c nL D K E0 B b0 Q S pc lv (.int y :: .int x :: st) :=
  fun G H locs ls hP hA hO hS hs h1 h2 hl => lv_idiv C.1 C.2.1 d h0 (k G H locs ls hP hA hO hS hs h1 h2 hl)
theorem gr_irem (C : rx_Cx p l s m args c meth cc nL hd D K E0 B b0 R) {x y : Int32} (d : decode cc pc = .ok (.irem, 1)) (h0 : ¬ y = 0) (k : GR p l e R s m args below meth c nL D K E0 B b0 Q S (pc + 1) lv (.int (mRem x y) :: st)) : GR p l e R s m args below meth c nL D K E0 B b0 Q S pc lv (.int y :: .int x :: st) :=
  fun G H locs ls hP hA hO hS hs h1 h2 hl => lv_irem C.1 C.2.1 d h0 (k G H locs ls hP hA hO hS hs h1 h2 hl)
theorem gr_dup (C : rx_Cx p l s m args c meth cc nL hd D K E0 B b0 R) {a : Value} (d : decode cc pc = .ok (.dup, 1)) (ha : a.category = 1) (k : GR p l e R s m args below meth c nL D K E0 B b0 Q S (pc + 1) lv (a :: a :: st)) : GR p l e R s m args below meth c nL D K E0 B b0 Q S pc lv (a :: st) :=
  fun G H locs ls hP hA hO hS hs h1 h2 hl => lv_dup C.1 C.2.1 d ha (k G H locs ls hP hA hO hS hs h1 h2 hl)
theorem gr_dup2 (C : rx_Cx p l s m args c meth cc nL hd D K E0 B b0 R) {a b : Value} (d : decode cc pc = .ok (.dup2, 1)) (ha : a.category = 1) (hb : b.category = 1) (k : GR p l e R s m args below meth c nL D K E0 B b0 Q S (pc + 1) lv (a :: b :: a :: b :: st)) : GR p l e R s m args below meth c nL D K E0 B b0 Q S pc lv (a :: b :: st) :=
  fun G H locs ls hP hA hO hS hs h1 h2 hl => lv_dup2_11 C.1 C.2.1 d ha hb (k G H locs ls hP hA hO hS hs h1 h2 hl)
theorem gr_pop (C : rx_Cx p l s m args c meth cc nL hd D K E0 B b0 R) {a : Value} (d : decode cc pc = .ok (.pop, 1)) (ha : a.category = 1) (k : GR p l e R s m args below meth c nL D K E0 B b0 Q S (pc + 1) lv st) : GR p l e R s m args below meth c nL D K E0 B b0 Q S pc lv (a :: st) :=
  fun G H locs ls hP hA hO hS hs h1 h2 hl => lv_pop C.1 C.2.1 d ha (k G H locs ls hP hA hO hS hs h1 h2 hl)
theorem gr_goto (C : rx_Cx p l s m args c meth cc nL hd D K E0 B b0 R) {off : Int} (tgt : Nat) (d : decode cc pc = .ok (.goto off, 3)) (ht : (pc : Int) + off = (tgt : Int)) (k : GR p l e R s m args below meth c nL D K E0 B b0 Q S tgt lv st) : GR p l e R s m args below meth c nL D K E0 B b0 Q S pc lv st :=
  fun G H locs ls hP hA hO hS hs h1 h2 hl => lv_goto C.1 C.2.1 d ht (k G H locs ls hP hA hO hS hs h1 h2 hl)
theorem gr_if_eq (C : rx_Cx p l s m args c meth cc nL hd D K E0 B b0 R) {x : Int32} {off : Int} (tgt : Nat) (d : decode cc pc = .ok (.ifCond .eq off, 3)) (ht : (pc : Int) + off = (tgt : Int)) (kt : x = 0 → GR p l e R s m args below meth c nL D K E0 B b0 Q S tgt lv st) (kf : ¬ x = 0 → GR p l e R s m args below meth c nL D K E0 B b0 Q S (pc + 3) lv st) : GR p l e R s m args below meth c nL D K E0 B b0 Q S pc lv (.int x :: st) :=
  fun G H locs ls hP hA hO hS hs h1 h2 hl => lv_if_eq C.1 C.2.1 d ht (fun h => kt h G H locs ls hP hA hO hS hs h1 h2 hl) (fun h => kf h G H locs ls hP hA hO hS hs h1 h2 hl)
theorem gr_icmp_eq (C : rx_Cx p l s m args c meth cc nL hd D K E0 B b0 R) {x y : Int32} {off : Int} (tgt : Nat) (d : decode cc pc = .ok (.if_icmp .eq off, 3)) (ht : (pc : Int) + off = (tgt : Int)) (kt : x = y → GR p l e R s m args below meth c nL D K E0 B b0 Q S tgt lv st) (kf : ¬ x = y → GR p l e R s m args below meth c nL D K E0 B b0 Q S (pc + 3) lv st) : GR p l e R s m args below meth c nL D K E0 B b0 Q S pc lv (.int y :: .int x :: st) :=
  fun G H locs ls hP hA hO hS hs h1 h2 hl => lv_icmp_eq C.1 C.2.1 d ht (fun h => kt h G H locs ls hP hA hO hS hs h1 h2 hl) (fun h => kf h G H locs ls hP hA hO hS hs h1 h2 hl)
theorem gr_if_ne (C : rx_Cx p l s m args c meth cc nL hd D K E0 B b0 R) {x : Int32} {off : Int} (tgt : Nat) (d : decode cc pc = .ok (.ifCond .ne off, 3)) (ht : (pc : Int) + off = (tgt : Int)) (kt : ¬ x = 0 → GR p l e R s m args below meth c nL D K E0 B b0 Q S tgt lv st) (kf : x = 0 → GR p l e R s m args below meth c nL D K E0 B b0 Q S (pc + 3) lv st) : GR p l e R s m args below meth c nL D K E0 B b0 Q S pc lv (.int x :: st) :=
  fun G H locs ls hP hA hO hS hs h1 h2 hl => lv_if_ne C.1 C.2.1 d ht (fun h => kt h G H locs ls hP hA hO hS hs h1 h2 hl) (fun h => kf h G H locs ls hP hA hO hS hs h1 h2 hl)
theorem gr_icmp_ne (C : rx_Cx p l s m args c meth cc nL hd D K E0 B b0 R) {x y : Int32} {off : Int} (tgt : Nat) (d : decode cc pc = .ok (.if_icmp .ne off, 3)) (ht : (pc : Int) + off = (tgt : Int)) (kt : ¬ x = y → GR p l e R s m args below meth c nL D K E0 B b0 Q S tgt lv st) (kf : x = y → GR p l e R s m args below meth c nL D K E0 B b0 Q S (pc + 3) lv st) : GR p l e R s m args below meth c nL D K E0 B b0 Q S pc lv (.int y :: .int x :: st) :=
  fun G H locs ls hP hA hO hS hs h1 h2 hl => lv_icmp_ne C.1 C.2.1 d ht (fun h => kt h G H locs ls hP hA hO hS hs h1 h2 hl) (fun h => kf h G H locs ls hP hA hO hS hs h1 h2 hl)
theorem gr_if_lt (C : rx_Cx p l s m args c meth cc nL hd D K E0 B b0 R) {x : Int32} {off : Int} (tgt : Nat) (d : decode cc pc = .ok (.ifCond .lt off, 3)) (ht : (pc : Int) + off = (tgt : Int)) (kt : x < 0 → GR p l e R s m args below meth c nL D K E0 B b0 Q S tgt lv st) (kf : ¬ x < 0 → GR p l e R s m args below meth c nL D K E0 B b0 Q S (pc + 3) lv st) : GR p l e R s m args below meth c nL D K E0 B b0 Q S pc lv (.int x :: st) :=
  fun G H locs ls hP hA hO hS hs h1 h2 hl => lv_if_lt C.1 C.2.1 d ht (fun h => kt h G H locs ls hP hA hO hS hs h1 h2 hl) (fun h => kf h G H locs ls hP hA hO hS hs h1 h2 hl)
theorem gr_icmp_lt (C : rx_Cx p l s m args c meth cc nL hd D K E0 B b0 R) {x y : Int32} {off : Int} (tgt : Nat) (d : decode cc pc = .ok (.if_icmp .lt off, 3)) (ht : (pc : Int) + off = (tgt : Int)) (kt : x < y → GR p l e R s m args below meth c nL D K E0 B b0 Q S tgt lv st) (kf : ¬ x < y → GR p l e R s m args below meth c nL D K E0 B b0 Q S (pc + 3) lv st) : GR p l e R s m args below meth c nL D K E0 B b0 Q S pc lv (.int y :: .int x :: st) :=
  fun G H locs ls hP hA hO hS hs h1 h2 hl => lv_icmp_lt C.1 C.2.1 d ht (fun h => kt h G H locs ls hP hA hO hS hs h1 h2 hl) (fun h => kf h G H locs ls hP hA hO hS hs h1 h2 hl)
theorem gr_if_ge (C : rx_Cx p l s m args c meth cc nL hd D K E0 B b0 R) {x : Int32} {off : Int} (tgt : Nat) (d : decode cc pc = .ok (.ifCond .ge off, 3)) (ht : (pc : Int) + off = (tgt : Int)) (kt : 0 ≤ x → GR p l e R s m args below meth c nL D K E0 B b0 Q S tgt lv st) (kf : ¬ 0 ≤ x → GR p l e R s m args below meth c nL D K E0 B b0 Q S (pc + 3) lv st) : GR p l e R s m args below meth c nL D K E0 B b0 Q S pc lv (.int x :: st) :=
  fun G H locs ls hP hA hO hS hs h1 h2 hl => lv_if_ge C.1 C.2.1 d ht (fun h => kt h G H locs ls hP hA hO hS hs h1 h2 hl) (fun h => kf h G H locs ls hP hA hO hS hs h1 h2 hl)
theorem gr_icmp_ge (C : rx_Cx p l s m args c meth cc nL hd D K E0 B b0 R) {x y : Int32} {off : Int} (tgt : Nat) (d : decode cc pc = .ok (.if_icmp .ge off, 3)) (ht : (pc : Int) + off = (tgt : Int)) (kt : y ≤ x → GR p l e R s m args below meth c nL D K E0 B b0 Q S tgt lv st) (kf : ¬ y ≤ x → GR p l e R s m args below meth c nL D K E0 B b0 Q S (pc + 3) lv st) : GR p l e R s m args below meth c nL D K E0 B b0 Q S pc lv (.int y :: .int x :: st) :=
  fun G H locs ls hP hA hO hS hs h1 h2 hl => lv_icmp_ge C.1 C.2.1 d ht (fun h => kt h G H locs ls hP hA hO hS hs h1 h2 hl) (fun h => kf h G H locs ls hP hA hO hS hs h1 h2 hl)
theorem gr_if_gt (C : rx_Cx p l s m args c meth cc nL hd D K E0 B b0 R) {x : Int32} {off : Int} (tgt : Nat) (d : decode cc pc = .ok (.ifCond .gt off, 3)) (ht : (pc : Int) + off = (tgt : Int)) (kt : 0 < x → GR p l e R s m args below meth c nL D K E0 B b0 Q S tgt lv st) (kf : ¬ 0 < x → GR p l e R s m args below meth c nL D K E0 B b0 Q S (pc + 3) lv st) : GR p l e R s m args below meth c nL D K E0 B b0 Q S pc lv (.int x :: st) :=
  fun G H locs ls hP hA hO hS hs h1 h2 hl => lv_if_gt C.1 C.2.1 d ht (fun h => kt h G H locs ls hP hA hO hS hs h1 h2 hl) (fun h => kf h G H locs ls hP hA hO hS hs h1 h2 hl)
theorem gr_icmp_gt (C : rx_Cx p l s m args c meth cc nL hd D K E0 B b0 R) {x y : Int32} {off : Int} (tgt : Nat) (d : decode cc pc = .ok (.if_icmp .gt off, 3)) (ht : (pc : Int) + off = (tgt : Int)) (kt : y < x → GR p l e R s m args below meth c nL D K E0 B b0 Q S tgt lv st) (kf : ¬ y < x → GR p l e R s m args below meth c nL D K E0 B b0 Q S (pc + 3) lv st) : GR p l e R s m args below meth c nL D K E0 B b0 Q S pc lv (.int y :: .int x :: st) :=
  fun G H locs ls hP hA hO hS hs h1 h2 hl => lv_icmp_gt C.1 C.2.1 d ht (fun h => kt h G H locs ls hP hA hO hS hs h1 h2 hl) (fun h => kf h G H locs ls hP hA hO hS hs h1 h2 hl)
theorem gr_if_le (C : rx_Cx p l s m args c meth cc nL hd D K E0 B b0 R) {x : Int32} {off : Int} (tgt : Nat) (d : decode cc pc = .ok (.ifCond .le off, 3)) (ht : (pc : Int) + off = (tgt : Int)) (kt : x ≤ 0 → GR p l e R s m args below meth c nL D K E0 B b0 Q S tgt lv st) (kf : ¬ x ≤ 0 → GR p l e R s m args below meth c nL D K E0 B b0 Q S (pc + 3) lv st) : GR p l e R s m args below meth c nL D K E0 B b0 Q S pc lv (.int x :: st) :=
  fun G H locs ls hP hA hO hS hs h1 h2 hl => lv_if_le C.1 C.2.1 d ht (fun h => kt h G H locs ls hP hA hO hS hs h1 h2 hl) (fun h => kf h G H locs ls hP hA hO hS hs h1 h2 hl)
theorem gr_icmp_le (C : rx_Cx p l s m args c meth cc nL hd D K E0 B b0 R) {x y : Int32} {off : Int} (tgt : Nat) (d : decode cc pc = .ok (.if_icmp .le off, 3)) (ht : (pc : Int) + off = (tgt : Int)) (kt : x ≤ y → GR p l e R s m args below meth c nL D K E0 B b0 Q S tgt lv st) (kf : ¬ x ≤ y → GR p l e R s m args below meth c nL D K E0 B b0 Q S (pc + 3) lv st) : GR p l e R s m args below meth c nL D K E0 B b0 Q S pc lv (.int y :: .int x :: st) :=
  fun G H locs ls hP hA hO hS hs h1 h2 hl => lv_icmp_le C.1 C.2.1 d ht (fun h => kt h G H locs ls hP hA hO hS hs h1 h2 hl) (fun h => kf h G H locs ls hP hA hO hS hs h1 h2 hl)
theorem gr_sub {lv' : List (Nat × Value)} (ks : List Nat) (hk : lv_pick lv ks = lv') (k : GR p l e R s m args below meth c nL D K E0 B b0 Q S pc lv' st) : GR p l e R s m args below meth c nL D K E0 B b0 Q S pc lv st :=
  fun G H locs ls hP hA hO hS hs h1 h2 hl => k G H locs ls hP hA hO hS hs h1 h2 (lv_sub hl ks hk)
theorem gr_nameI {v : Int32} (k : ∀ x : Int32, x = v → GR p l e R s m args below meth c nL D K E0 B b0 Q S pc lv (.int x :: st)) : GR p l e R s m args below meth c nL D K E0 B b0 Q S pc lv (.int v :: st) := k v rfl
theorem gr_iand (C : rx_Cx p l s m args c meth cc nL hd D K E0 B b0 R) {x y : Int32} (d : decode cc pc = .ok (.iand, 1)) (k : GR p l e R s m args below meth c nL D K E0 B b0 Q S (pc + 1) lv (.int (x &&& y) :: st)) : GR p l e R s m args below meth c nL D K E0 B b0 Q S pc lv (.int y :: .int x :: st) :=
  fun G H locs ls hP hA hO hS hs h1 h2 hl => lv_iand C.1 C.2.1 d (k G H locs ls hP hA hO hS hs h1 h2 hl)
theorem gr_ishl (C : rx_Cx p l s m args c meth cc nL hd D K E0 B b0 R) {x y : Int32} (d : decode cc pc = .ok (.ishl, 1)) (k : GR p l e R s m args below meth c nL D K E0 B b0 Q S (pc + 1) lv (.int (x <<< (y &&& 31)) :: st)) : GR p l e R s m args below meth c nL D K E0 B b0 Q S pc lv (.int y :: .int x :: st) :=
  fun G H locs ls hP hA hO hS hs h1 h2 hl => lv_ishl C.1 C.2.1 d (k G H locs ls hP hA hO hS hs h1 h2 hl)
theorem gr_ishr (C : rx_Cx p l s m args c meth cc nL hd D K E0 B b0 R) {x y : Int32} (d : decode cc pc = .ok (.ishr, 1)) (k : GR p l e R s m args below meth c nL D K E0 B b0 Q S (pc + 1) lv (.int (x >>> (y &&& 31)) :: st)) : GR p l e R s m args below meth c nL D K E0 B b0 Q S pc lv (.int y :: .int x :: st) :=
  fun G H locs ls hP hA hO hS hs h1 h2 hl => lv_ishr C.1 C.2.1 d (k G H locs ls hP hA hO hS hs h1 h2 hl)
/-- a number of a row -/
theorem gr_iald (C : rx_Cx p l s m args c meth cc nL hd D K E0 B b0 R) {a : Nat} {i : Int32} (hin : vp_in i (rN S.2 a)) (d : decode cc pc = .ok (.iaload, 1)) (k : GR p l e R s m args below meth c nL D K E0 B b0 Q S (pc + 1) lv (.int (rG S.2 a i.toNatClampNeg) :: st)) : GR p l e R s m args below meth c nL D K E0 B b0 Q S pc lv (.int i :: .ref a :: st) := by
  intro G H locs ls hP hA hO hS hs h1 h2 hl
  obtain ⟨x, hx⟩ := rN_pos hin
  rw [rN_some hx] at hin
  have kk := k G H locs ls hP hA hO hS hs h1 h2 hl
  rw [rG_some hx] at kk
  exact va_iald C.1 C.2.1 C.2.2.2.2.2.1 (va_P1 (hO a x hx).2) 0 0 rfl rfl hin d kk
theorem gr_iast (C : rx_Cx p l s m args c meth cc nL hd D K E0 B b0 R) {a : Nat} {i v : Int32} (hin : vp_in i (rN S.2 a)) (d : decode cc pc = .ok (.iastore, 1)) (k : GR p l e R s m args below meth c nL D K E0 B b0 Q (rSt S a i v) (pc + 1) lv st) : GR p l e R s m args below meth c nL D K E0 B b0 Q S pc lv (.int v :: .int i :: .ref a :: st) := by
  intro G H locs ls hP hA hO hS hs h1 h2 hl
  obtain ⟨x, hx⟩ := rN_pos hin
  obtain ⟨hb, ha⟩ := hO a x hx
  rw [rN_some hx] at hin
  have hc0 : H[a]? = some (arrV (K 0) x.1 (fun j => Value.int (x.2 j))) := ha
  refine W.iast C.1 C.2.1 hc0 ((C.2.2.2.2.2.1.2 0 _ rfl).1 _ _) (fun q => by cases q) (by show ¬ (i < 0 ∨ (arrV _ _ _).slots.size ≤ _); rw [arrV_size]; exact hin) rfl rfl d fun H' e1 e2 e3 => ?_
  have hs2 : hsl H' = hsl H := hsl_set e2 hc0 e1 (k2_slotsz _ _ _) e3
  have hna : ∀ q o', (G.1 q).1 ≠ 0 → G.1 q = o' → q ≠ a := fun q o' g1 _ g3 => by
    have h9 := (hA q (Or.inl g1)).2
    rw [g3, hx] at h9
    cases h9
  have hP' : RepC D K E0 S.1 G H' := hP.same e2 hs2 (fun q r o' g1 g2 => va_at.kept (hP.1 q r o' g1 g2).1 (e3 q (hna q _ (by rw [g1]; exact g2) g1)))
  have hO' : rOK D K b0 (rSt S a i v).2 H' := by
    intro q y hy
    by_cases hq : q = a
    · subst hq
      have hy2 : rPut S.2 q (rN S.2 q, va_up (rG S.2 q) i.toNatClampNeg v) q = some y := hy
      rw [rPut_at, rN_some hx, rG_some hx] at hy2
      cases hy2
      refine ⟨hb, ?_⟩
      show H'[q]? = some (vp_cell _ _)
      rw [e1, vp_cell_i, arrV_store]
      congr 2
      funext z
      show updV (fun j => Value.int (x.2 j)) i.toNatClampNeg (.int v) z = .int (va_up x.2 i.toNatClampNeg v z)
      by_cases hz : z = i.toNatClampNeg
      · subst hz
        simp [updV, va_up]
      · simp [updV, va_up, hz]
    · have hy2 : S.2 q = some y := by
        have h9 : rPut S.2 a (rN S.2 a, va_up (rG S.2 a) i.toNatClampNeg v) q = some y := hy
        rwa [rPut_ne hq] at h9
      exact ⟨(hO q y hy2).1, va_at.kept (hO q y hy2).2 (e3 q hq)⟩
  have hA' : ∀ q, gA G (szC S.1) q → rA0 b0 (rSt S a i v).2 q := fun q hq => by
    refine ⟨(hA q hq).1, ?_⟩
    have h9 := (hA q hq).2
    have hq2 : q ≠ a := fun z => by rw [z, hx] at h9; cases h9
    show rPut S.2 a _ q = none
    rw [rPut_ne hq2]
    exact h9
  have kk := k G H' _ ls hP' hA' hO' (hS.put (k := i.toNatClampNeg) e2 e3 hb) (by rw [hs2]; exact hs) h1 h2 hl
  rw [e2, hs2] at kk
  exact kk
/-- a row is made -/
theorem gr_newarr (C : rx_Cx p l s m args c meth cc nL hd D K E0 B b0 R) {n : Int32} {N : Nat} (hwa : Cond.arrayClass .int ∈ wU) (hn : ¬ n < 0) (hN : n.toNatClampNeg = N) (hby : N ≤ 1000) (hroom : szC S.1 + 1 ≤ B.1 ∧ nsC S.1 + N ≤ B.2) (d : decode cc pc = .ok (.newarray .int, 2)) (k : S.2 (szC S.1) = none → GR p l e R s m args below meth c nL D K E0 B b0 Q (rNw S N) (pc + 2) lv (.ref (szC S.1) :: st)) : GR p l e R s m args below meth c nL D K E0 B b0 Q S pc lv (.int n :: st) := by
  intro G H locs ls hP hA hO hS hs h1 h2 hl
  have y1 : H.size = szC S.1 := hP.2.2.1
  have y2 : hsl H = nsC S.1 := hP.2.2.2
  have z0 : s.heap.size ≤ H.size := hS.1
  have hc1 : H.size - s.heap.size + 1 ≤ R.cells ∧ hsl H - hsl s.heap + N ≤ R.slots := by
    rw [C.2.2.2.2.2.2.1.1, C.2.2.2.2.2.2.1.2]
    omega
  refine va_newaK (atype := .int) C.1 C.2.1 (C.2.2.2.2.1 _ (List.mem_cons_of_mem _ hwa)) rfl d rfl hn hN (by show N * 4 ≤ 536870912; omega) hc1.1 hc1.2 y1 fun H1 cA e1 z1 o1 hAr hNm => ?_
  have hcA : K 0 = cA := Option.some.inj (((C.2.2.2.2.2.1.2 0 _ rfl).2).symm.trans hNm)
  subst hcA
  have hfree : S.2 (szC S.1) = none := (hA (szC S.1) (Or.inr (Nat.le_refl _))).2
  have hs1 : hsl H1 = hsl H + N := by
    have h9 := hsl_push (H := H) (H' := H1) (by rw [z1, y1]) (by rw [y1]; exact e1) (fun q hq => o1 q (by rw [← y1]; exact hq))
    rw [h9, arrV_size]
  have hP' : RepC D K E0 (rNw S N).1 G H1 := by
    refine ⟨fun q r o' g1 g2 => ?_, hP.2.1, by rw [z1]; rfl, by rw [hs1, y2]; rfl⟩
    obtain ⟨u1, u2, u3⟩ := hP.1 q r o' g1 g2
    exact ⟨va_at.kept (show va_at D vwCl (q, c_ce K E0 S.1 G r o') H from u1) (o1 q (by rw [← y1]; exact u1.lt)), u2, u3⟩
  have hO' : rOK D K b0 (rNw S N).2 H1 := by
    intro q y hy
    by_cases hq : q = szC S.1
    · subst hq
      have hy2 : rPut S.2 (szC S.1) (N, fun _ => 0) (szC S.1) = some y := hy
      rw [rPut_at] at hy2
      cases hy2
      exact ⟨(hA _ (Or.inr (Nat.le_refl _))).1, e1⟩
    · have hy2 : S.2 q = some y := by
        have h9 : rPut S.2 (szC S.1) (N, fun _ => 0) q = some y := hy
        rwa [rPut_ne hq] at h9
      have h8 := (hO q y hy2).2
      exact ⟨(hO q y hy2).1, va_at.kept h8 (o1 q (by rw [← y1]; exact h8.lt))⟩
  have hA' : ∀ q, gA G (szC (rNw S N).1) q → rA0 b0 (rNw S N).2 q := fun q hq => by
    have hq0 : gA G (szC S.1) q := hq.elim Or.inl (fun z => Or.inr (by have : szC S.1 + 1 ≤ q := z; omega))
    have hq1 : q ≠ szC S.1 := fun z => by
      rcases hq with h9 | h9
      · have := hP.lt h9
        omega
      · have : szC S.1 + 1 ≤ q := h9
        omega
    refine ⟨(hA q hq0).1, ?_⟩
    show rPut S.2 (szC S.1) _ q = none
    rw [rPut_ne hq1]
    exact (hA q hq0).2
  have kk := k hfree G H1 locs ls hP' hA' hO' ⟨by omega, fun q g1 g2 => (o1 q (by omega)).trans (hS.2.1 q g1 g2), hS.2.2⟩ (by omega) (by show szC S.1 + 1 ≤ B.1; omega) (by show nsC S.1 + N ≤ B.2; omega) hl
  rw [show H1.size - s.heap.size = szC S.1 + 1 - s.heap.size by rw [z1], hs1] at kk
  rw [show H.size - s.heap.size + 1 = szC S.1 + 1 - s.heap.size by omega, show hsl H - hsl s.heap + N = hsl H + N - hsl s.heap by omega]
  exact kk
def gr_Q (below : List Frame) (D : va_G) (K : Nat → ClassId) (E0 b0 : Nat) (P : Int32 → LwS → Prop) (args : Array Value) (s : State) (R : Room) : State → Prop :=
  vx_MQ below (r_Post D K E0 b0 P) (fun _ _ _ => False) args s R.cells R.slots (rW b0)
theorem gr_endB (C : rx_Cx p l s m args c meth cc nL hd D K E0 B b0 R) {S : CS} {G : CG} {H : Heap} (hP : RepC D K E0 S G H) (h1 : szC S ≤ B.1) (h2 : nsC S ≤ B.2) : H.size - s.heap.size ≤ R.cells ∧ hsl H - hsl s.heap ≤ R.slots := by
  rw [C.2.2.2.2.2.2.1.1, C.2.2.2.2.2.2.1.2, hP.2.2.1, hP.2.2.2]
  omega
theorem gr_iret (C : rx_Cx p l s m args c meth cc nL hd D K E0 B b0 R) {v : Int32} {nm : String} {P : Int32 → LwS → Prop} (E : gc_E meth (some .int) nm) (d : decode cc pc = .ok (.ireturn, 1)) (h : P v S) : GR p l e R s m args below meth c nL D K E0 B b0 (gr_Q below D K E0 b0 P args s R) S pc lv [.int v] := by
  intro G H locs ls hP hA hO hS hs h1 h2 hl
  have hb := gr_endB C hP h1 h2
  exact vx_ret (W.widen (k := R.cells) (n := R.slots) hb.1 hb.2 (W.iret C.1 C.2.1 E.1 (fun u hu hW => ⟨⟨v, S, rfl, h, ⟨G, by rw [hu]; exact hP, hA⟩, by rw [hu]; exact hO⟩, hS.F hu⟩) hS.2.2 d C.2.2.2.2.2.2.2.2.2.1))
theorem gr_zret (C : rx_Cx p l s m args c meth cc nL hd D K E0 B b0 R) {v : Int32} {nm : String} {P : Int32 → LwS → Prop} (E : gc_E meth (some .boolean) nm) (hv : gb v) (d : decode cc pc = .ok (.ireturn, 1)) (h : P v S) : GR p l e R s m args below meth c nL D K E0 B b0 (gr_Q below D K E0 b0 P args s R) S pc lv [.int v] := by
  intro G H locs ls hP hA hO hS hs h1 h2 hl
  have hb := gr_endB C hP h1 h2
  exact vx_ret (W.widen (k := R.cells) (n := R.slots) hb.1 hb.2 (W.zret C.1 C.2.1 E.1 (gb_nar hv) (fun u hu hW => ⟨⟨v, S, rfl, h, ⟨G, by rw [hu]; exact hP, hA⟩, by rw [hu]; exact hO⟩, hS.F hu⟩) hS.2.2 d C.2.2.2.2.2.2.2.2.2.1))
theorem r_blind {t : LwS} {as : List Value} : FrameBlind (r_Pre D K E0 b0 t as) := fun a U g mk q => by
  obtain ⟨q0, qW, qK, qS, qE, qO, qN⟩ := q
  exact ⟨q0, qW, va_K.moved (u := U) (U := U.calling g mk a) (Vm.Alike.refl U.vm) qK, StC.moved (u := U) (U := U.calling g mk a) (Vm.Alike.refl U.vm) qS, c_Ev.warm (s := U) (U := U.calling g mk a) (State.WarmedH.refl U) qE, qO, NcS.moved (u := U) (U := U.calling g mk a) (Vm.Alike.refl U.vm) qN⟩
end GRS
section GRC
variable {p : Program} {l : Launch} {e : Env} {R : Room} {s : State} {m : MethodId} {args : Array Value} {below : List Frame} {meth : Method} {c : Code} {Q : State → Prop}
variable {cc : ByteArray} {nL : Nat} {hd : Cond} {D : va_G} {K : Nat → ClassId} {E0 : Nat} {B : Nat × Nat} {b0 : Nat} {S : LwS} {pc : Nat} {lv : List (Nat × Value)} {st : List Value}
theorem gr_start {y : MethodName} {ret : Option FieldType} {d : Nat} {as : List Value} {P : Int32 → LwS → Prop} (hy : plainName y.cls = true) (hc : y.cls = RL) (hn : (lg_sl as).length ≤ nL)
    (body : ∀ (p : Program) (e : Env) (s : State) (m : MethodId) (args : Array Value) (below : List Frame) (meth : Method) (c : Code), rx_Cx p l s m args c meth cc nL (.code y cc nL ret) D K E0 B b0 (rmC d B S.1) → gc_E meth ret y.name → GR p l e (rmC d B S.1) s m args below meth c nL D K E0 B b0 (gr_Q below D K E0 b0 P args s (rmC d B S.1)) S 0 (lv_args 0 as) []) :
    MetR l y (.code y cc nL ret) d as P D K E0 b0 B S := by
  intro hst hB1 hB2
  refine vx_ofW (cc := cc) (maxL := nL) (ret := ret) hy rfl ?_
  intro p e s m args below meth c s₁ Bl hml _ hv
  obtain ⟨rfl, ⟨G, hP, hA⟩, hK, hSt, hE, hO, hN⟩ := hv
  have hts := atoms_spec (ws := .code y cc nL ret :: wU) Bl.pre
  have hown : s.vm.findClass RL = some m.cls := by rw [← hc]; exact findClass_of_methodNamed Bl.named
  have hl := lv_entry as (n := nL) hn
  rw [lg_entry_eq]
  have hz : s.heap.size = szC S.1 := hP.2.2.1
  have hz2 : hsl s.heap = nsC S.1 := hP.2.2.2
  have kk := body p e s m as.toArray below meth c ⟨Bl.exec, Bl.bytes, hml, hown, hts, hK, ⟨by rw [hz]; rfl, by rw [hz2]; rfl⟩, hSt, hst, Bl.notSynchronized, (hA s.heap.size (Or.inr (by rw [hz]; exact Nat.le_refl _))).1, hE, hN⟩ ⟨Bl.returns, (name_of_methodNamed Bl.named Bl.method).1⟩ G s.heap [] _ hP hA hO va_S.rf (Nat.le_refl _) hB1 hB2 hl
  rw [Nat.sub_self, Nat.sub_self] at kk
  exact kk
theorem gr_startH {y : MethodName} {hh : List (Nat × Nat × Nat × Nat)} {d : Nat} {as : List Value} {P : Int32 → LwS → Prop} (hy : plainName y.cls = true) (hc : y.cls = RL) (hn : (lg_sl as).length ≤ nL)
    (body : ∀ (p : Program) (e : Env) (s : State) (m : MethodId) (args : Array Value) (below : List Frame) (meth : Method) (c : Code), rx_Cx p l s m args c meth cc nL (.codeWith y cc nL (some .int) hh) D K E0 B b0 (rmC d B S.1) → c.exceptionTable.toList = tableOf hh → gc_E meth (some .int) y.name → GR p l e (rmC d B S.1) s m args below meth c nL D K E0 B b0 (gr_Q below D K E0 b0 P args s (rmC d B S.1)) S 0 (lv_args 0 as) []) :
    MetR l y (.codeWith y cc nL (some .int) hh) d as P D K E0 b0 B S := by
  intro hst hB1 hB2
  refine vx_ofWH (cc := cc) (maxL := nL) (ret := some .int) (hh := hh) hy rfl ?_
  intro p e s m args below meth c s₁ Bl hml hv
  obtain ⟨rfl, ⟨G, hP, hA⟩, hK, hSt, hE, hO, hN⟩ := hv
  have hts := atoms_spec (ws := .codeWith y cc nL (some .int) hh :: wU) Bl.pre
  have htab := vx_table (x := y) Bl (hts _ List.mem_cons_self)
  have hown : s.vm.findClass RL = some m.cls := by rw [← hc]; exact findClass_of_methodNamed Bl.named
  have hl := lv_entry as (n := nL) hn
  rw [lg_entry_eq]
  have hz : s.heap.size = szC S.1 := hP.2.2.1
  have hz2 : hsl s.heap = nsC S.1 := hP.2.2.2
  have kk := body p e s m as.toArray below meth c ⟨Bl.exec, Bl.bytes, hml, hown, hts, hK, ⟨by rw [hz]; rfl, by rw [hz2]; rfl⟩, hSt, hst, Bl.notSynchronized, (hA s.heap.size (Or.inr (by rw [hz]; exact Nat.le_refl _))).1, hE, hN⟩ htab ⟨Bl.returns, (name_of_methodNamed Bl.named Bl.method).1⟩ G s.heap [] _ hP hA hO va_S.rf (Nat.le_refl _) hB1 hB2 hl
  rw [Nat.sub_self, Nat.sub_self] at kk
  exact kk
/-- a call of the class's object: it answers, or it throws -/
theorem gr_call (C : rx_Cx p l s m args c meth cc nL hd D K E0 B b0 R) {y : MethodName} {cb : ByteArray} {maxL ix n d : Nat} {ret : Option FieldType} {as : List Value} {P : Option Value → CS → Prop} {X : String → CS → Prop} (hR : d + 1 ≤ R.frames ∧ 8 + (maxL + 11) + 48 * d ≤ R.locals) {o : Nat} (B1 : Nat × Nat) (hB : B1.1 ≤ B.1 ∧ B1.2 ≤ B.2) (hB2 : szC S.1 ≤ B1.1 ∧ nsC S.1 ≤ B1.2)
    (hM : MetC l y cb maxL ret d (.ref o :: as) P X D K E0 B1 (rA0 b0 S.2) S.1) (hy : y.cls = RX11 ∧ y.cls ≠ "java/lang/invoke/MethodHandle" ∧ y.cls ≠ "java/lang/invoke/VarHandle" ∧ (parseMethodDescriptor y.desc).map (fun d => d.parameters.length) = some n) (hn : as.length = n)
    (hw : ∀ w ∈ ([.methodLink RL ix y, .instanceMethod y, .selects RX11 y y, .initialized RX11] : List Cond), w ∈ wU) (hcode : Cond.code y cb maxL ret ∈ wU) (hg : isC S.1 o 14)
    (hdg : decode cc pc = .ok (.invokevirtual ix, 3)) (hst : (st.map fun v => v.category).sum ≤ 8) (kx : ∀ (E : String) (S' : CS), X E S' → szC S' ≤ B1.1 → nsC S' ≤ B1.2 → GZ p l e R s m args below meth c nL D K E0 B b0 Q E (S', S.2) pc lv st) (kk : ∀ (v : Option Value) (S' : CS), P v S' → kdLe S.1 S' → szC S' ≤ B1.1 → nsC S' ≤ B1.2 → GR p l e R s m args below meth c nL D K E0 B b0 Q (S', S.2) (pc + 3) lv (v.toList ++ st)) :
    GR p l e R s m args below meth c nL D K E0 B b0 Q S pc lv (as.reverse ++ .ref o :: st) := by
  intro G H locs ls hP hA hO hS hs h1 h2 hl T hT X9
  have y1 : H.size = szC S.1 := hP.2.2.1
  have y2 : hsl H = nsC S.1 := hP.2.2.2
  have z0 : s.heap.size ≤ H.size := hS.1
  have hb0 : (H.size - s.heap.size) + (B1.1 - szC S.1) ≤ R.cells ∧ (hsl H - hsl s.heap) + (B1.2 - nsC S.1) ≤ R.slots := by
    rw [C.2.2.2.2.2.2.1.1, C.2.2.2.2.2.2.1.2]
    omega
  have hrun := vx_runV (meth := meth) (below := below) (e := e) (g := F0 m pc ls (as.reverse ++ .ref o :: st)) (locs := locs) (cells := H.size - s.heap.size) (slots := hsl H - hsl s.heap) (As := as) (rest := st) ⟨C.1, C.2.1, C.2.2.1, C.2.2.2.1, C.2.2.2.2.1⟩ (hM C.2.2.2.2.2.2.2.2.1 hB2.1 hB2.2) (cwV n C.2.2.2.2.1 (gU hw hcode) rfl rfl rfl hy hR)
    ⟨c_blind, va_recv C.2.2.2.2.2.1 (c_obj hP hg (by decide) (by decide)).2 (ci := 14) (q0 := 0) BX11.1 rfl, fun U hU hW => ⟨rfl, ⟨G, by rw [hU]; exact hP, hA⟩, va_K.moved hW.alike C.2.2.2.2.2.1, by rw [hU]; exact StC.narrow (StC.kept (StC.moved hW.alike C.2.2.2.2.2.2.2.1) hS.2.1) (fun q hq => hq.1), c_Ev.warm hW C.2.2.2.2.2.2.2.2.2.2.2.1⟩⟩ rfl hn hl.1 rfl (lv_room hst) hdg hb0
  have keep : ∀ T' : Heap, (∀ q : Nat, q < H.size → ¬ rA0 b0 S.2 q → T'[q]? = H[q]?) → rOK D K b0 S.2 T' := fun T' k2 a x hx => ⟨(hO a x hx).1, va_at.kept (hO a x hx).2 (k2 a (hO a x hx).2.lt (fun z => by
    have z2 : S.2 a = none := z.2
    rw [hx] at z2
    cases z2))⟩
  rcases hrun T hT X9 with ⟨v, st₀, t, T', L, h0, X', hL, e1, e2, ⟨⟨v', S', hv, ⟨hp, hk⟩, G', hP', hA'⟩, hF⟩, stp⟩ | ⟨q, st₀, t, T', L, E, ce, h0, X', hL, e1, e2, ⟨⟨S', hx, G', hP', hA'⟩, hF⟩, hce, hcv, hcl, stp⟩
  · cases hv
    obtain ⟨k1, k2, k3⟩ := vx_keep (A0 := rW b0) h0 e1 hS (fun q _ z => z.1) (fun q z => z.1) hL hF
    have hb := stand_slots X'
    rw [← e1] at hP'
    have z1 : T'.heap.size = szC S' := hP'.2.2.1
    have z2 : hsl T'.heap = nsC S' := hP'.2.2.2
    obtain ⟨t2, a1, b1⟩ := kk v S' hp hk (by omega) (by omega) G' T'.heap (locs ++ L) ls hP' hA' (keep _ k2) k3 hb.1 (by show szC S' ≤ B.1; omega) (by show nsC S' ≤ B.2; omega) hl T' rfl (stand_norm X')
    exact ⟨t2, stp t2 a1, b1⟩
  · obtain ⟨k1, k2, k3⟩ := vx_keep (A0 := rW b0) h0 e1 hS (fun q _ z => z.1) (fun q z => z.1) hL hF
    have hb := stand_slots X'
    rw [← e1] at hP'
    have z1 : T'.heap.size = szC S' := hP'.2.2.1
    have z2 : hsl T'.heap = nsC S' := hP'.2.2.2
    obtain ⟨t2, a1, b1⟩ := kx E S' hx (by omega) (by omega) G' T'.heap (locs ++ L) ls q ce hP' hA' (keep _ k2) k3 hb.1 (by show szC S' ≤ B.1; omega) (by show nsC S' ≤ B.2; omega) hl (by rw [e1]; exact hce) hcv hcl T' rfl (stand_norm X')
    exact ⟨t2, stp.trans a1, b1⟩
/-- the row of the table that takes it -/
theorem gr_catch (C : rx_Cx p l s m args c meth cc nL hd D K E0 B b0 R) {hh : List (Nat × Nat × Nat × Nat)} (htab : c.exceptionTable.toList = tableOf hh) {E : String} (pre : List (Nat × Nat × Nat × Nat)) (x : Nat × Nat × Nat × Nat) (suf : List (Nat × Nat × Nat × Nat)) (hsp : hh = pre ++ x :: suf)
    (hpass : ∀ z ∈ pre, z.2.2.2 ≠ 0 ∧ ∃ nm : String, Cond.classLink RL z.2.2.2 nm ∈ wU ∧ nm ∈ exA ∧ E ≠ nm) (hE : E ∈ exA) (hx : (decide (x.1 ≤ pc) && decide (pc < x.2.1)) = true) (h0 : x.2.2.2 ≠ 0) (hlink : Cond.classLink RL x.2.2.2 E ∈ wU) (hcast : Cond.castable E E ∈ nwL)
    (hq : ∀ q : Nat, GR p l e R s m args below meth c nL D K E0 B b0 Q S x.2.2.1 lv [.ref q]) : GZ p l e R s m args below meth c nL D K E0 B b0 Q E S pc lv st := by
  intro G H locs ls q ce hP hA hO hS hs h1 h2 hl hce hcv hcl
  have hw := C.2.2.2.2.2.2.2.2.2.2.2.1.1
  refine vx_catch (own := RL) (name := E) C.2.2.2.1 (tableOf pre) ⟨x.1, x.2.1, x.2.2.1, x.2.2.2⟩ (tableOf suf) (by rw [htab, hsp]; simp [tableOf]) (fun z hz => ?_) hx h0 (C.2.2.2.2.1 _ (List.mem_cons_of_mem _ hlink)) (va_Nw.use rfl (hw _ hcast)) hce hcv hcl ?_
  · obtain ⟨z', hz', rfl⟩ := List.mem_map.mp hz
    obtain ⟨a1, nm, a2, a3, a4⟩ := hpass z' hz'
    exact Or.inr ⟨a1, nm, C.2.2.2.2.1 _ (List.mem_cons_of_mem _ a2), C.2.2.2.2.2.2.2.2.2.2.2.2 E hE nm a3 a4⟩
  · exact hq q G H locs ls hP hA hO hS hs h1 h2 hl
/-- a call of a method of the law: what comes back from a run -/
theorem gr_run (C : rx_Cx p l s m args c meth cc nL hd D K E0 B b0 R) {P : Int32 → LwS → Prop} {rest st0 : List Value} {a : Array Value} (B1 : Nat × Nat) (hB : B1.1 ≤ B.1 ∧ B1.2 ≤ B.2) (hB2 : szC S.1 ≤ B1.1 ∧ nsC S.1 ≤ B1.2)
    (hrun : ∀ (G : CG) (H : Heap) (locs : List Loc) (ls : Array Slot), RepC D K E0 S.1 G H → (∀ q, gA G (szC S.1) q → rA0 b0 S.2 q) → rOK D K b0 S.2 H → va_S (rW b0) s.heap H locs → lv_has ls nL lv → (H.size - s.heap.size) + (B1.1 - szC S.1) ≤ R.cells ∧ (hsl H - hsl s.heap) + (B1.2 - nsC S.1) ≤ R.slots →
      vx_Run p l e R s m args below meth c H locs (H.size - s.heap.size) (hsl H - hsl s.heap) (B1.1 - szC S.1) (B1.2 - nsC S.1) (F0 m pc ls st0) rest (r_Post D K E0 b0 P a) (fun _ _ _ => False) (rW b0))
    (kk : ∀ (r : Int32) (S' : LwS), P r S' → szC S'.1 ≤ B1.1 → nsC S'.1 ≤ B1.2 → GR p l e R s m args below meth c nL D K E0 B b0 Q S' (pc + 3) lv (.int r :: rest)) : GR p l e R s m args below meth c nL D K E0 B b0 Q S pc lv st0 := by
  intro G H locs ls hP hA hO hS hs h1 h2 hl T hT X9
  have y1 : H.size = szC S.1 := hP.2.2.1
  have y2 : hsl H = nsC S.1 := hP.2.2.2
  have z0 : s.heap.size ≤ H.size := hS.1
  have hb0 : (H.size - s.heap.size) + (B1.1 - szC S.1) ≤ R.cells ∧ (hsl H - hsl s.heap) + (B1.2 - nsC S.1) ≤ R.slots := by
    rw [C.2.2.2.2.2.2.1.1, C.2.2.2.2.2.2.1.2]
    omega
  rcases hrun G H locs ls hP hA hO hS hl hb0 T hT X9 with ⟨v, st₀, t1, T', L9, h0, X', hL, e1, e2, ⟨⟨r, S', hv, hp, ⟨G', hP', hA'⟩, hO'⟩, hF⟩, stp⟩ | ⟨q, st₀, t1, T', L9, E, ce, h0, X', hL, e1, e2, hq, hce, hcv, hcl, stp⟩
  · cases hv
    obtain ⟨k1, k2, k3⟩ := vx_keep (A0 := rW b0) h0 e1 hS (fun q _ z => z) (fun q z => z) hL hF
    have hb := stand_slots X'
    rw [← e1] at hP' hO'
    have z1 : T'.heap.size = szC S'.1 := hP'.2.2.1
    have z2 : hsl T'.heap = nsC S'.1 := hP'.2.2.2
    obtain ⟨t2, a1, b1⟩ := kk r S' hp (by omega) (by omega) G' T'.heap (locs ++ L9) ls hP' hA' hO' k3 hb.1 (by omega) (by omega) hl T' rfl (stand_norm X')
    exact ⟨t2, stp t2 a1, b1⟩
  · exact hq.elim
theorem gr_callS (C : rx_Cx p l s m args c meth cc nL hd D K E0 B b0 R) {y : MethodName} {cb : ByteArray} {maxL ix n d : Nat} {ret : Option FieldType} {as : List Value} {P : Int32 → LwS → Prop} (hR : d + 1 ≤ R.frames ∧ 8 + (maxL + 11) + 48 * d ≤ R.locals) (B1 : Nat × Nat) (hB : B1.1 ≤ B.1 ∧ B1.2 ≤ B.2) (hB2 : szC S.1 ≤ B1.1 ∧ nsC S.1 ≤ B1.2)
    (hM : MetR l y (.code y cb maxL ret) d as P D K E0 b0 B1 S) (hy : y.cls = RL ∧ y.cls ≠ "java/lang/invoke/MethodHandle" ∧ y.cls ≠ "java/lang/invoke/VarHandle" ∧ (parseMethodDescriptor y.desc).map (fun d => d.parameters.length) = some n) (hn : as.length = n)
    (hw : ∀ w ∈ ([.methodLink RL ix y, .static y, .initialized RL] : List Cond), w ∈ wU) (hcode : Cond.code y cb maxL ret ∈ wU)
    (hdg : decode cc pc = .ok (.invokestatic ix, 3)) (hst : (st.map fun v => v.category).sum ≤ 8)
    (kk : ∀ (r : Int32) (S' : LwS), P r S' → szC S'.1 ≤ B1.1 → nsC S'.1 ≤ B1.2 → GR p l e R s m args below meth c nL D K E0 B b0 Q S' (pc + 3) lv (.int r :: st)) : GR p l e R s m args below meth c nL D K E0 B b0 Q S pc lv (as.reverse ++ st) := by
  obtain ⟨hyc, hy2⟩ := hy
  refine gr_run C (a := as.toArray) B1 hB hB2 (fun G H locs ls hP hA hO hS hl hb0 => ?_) kk
  exact vx_runS (As := as) (rest := st) ⟨C.1, C.2.1, C.2.2.1, C.2.2.2.1, C.2.2.2.2.1⟩ (hM C.2.2.2.2.2.2.2.2.1 hB2.1 hB2.2) (va_cwS n C.2.2.2.2.1 (gU (by rw [hyc]; exact hw) hcode) rfl rfl rfl hy2 hR)
    ⟨r_blind, fun U hU hW => ⟨rfl, ⟨G, by rw [hU]; exact hP, hA⟩, va_K.moved hW.alike C.2.2.2.2.2.1, by rw [hU]; exact StC.kept (StC.moved hW.alike C.2.2.2.2.2.2.2.1) hS.2.1, c_Ev.warm hW C.2.2.2.2.2.2.2.2.2.2.2.1, by rw [hU]; exact hO, NcS.moved hW.alike C.2.2.2.2.2.2.2.2.2.2.2.2⟩⟩ rfl hn hl.1 rfl (lv_room hst) hdg hb0
theorem gr_callW (C : rx_Cx p l s m args c meth cc nL hd D K E0 B b0 R) {y : MethodName} {cb : ByteArray} {maxL ix n d : Nat} {hh : List (Nat × Nat × Nat × Nat)} {as : List Value} {P : Int32 → LwS → Prop} (hR : d + 1 ≤ R.frames ∧ 8 + (maxL + 11) + 48 * d ≤ R.locals) (B1 : Nat × Nat) (hB : B1.1 ≤ B.1 ∧ B1.2 ≤ B.2) (hB2 : szC S.1 ≤ B1.1 ∧ nsC S.1 ≤ B1.2)
    (hM : MetR l y (.codeWith y cb maxL (some .int) hh) d as P D K E0 b0 B1 S) (hy : y.cls = RL ∧ y.cls ≠ "java/lang/invoke/MethodHandle" ∧ y.cls ≠ "java/lang/invoke/VarHandle" ∧ (parseMethodDescriptor y.desc).map (fun d => d.parameters.length) = some n) (hn : as.length = n)
    (hw : ∀ w ∈ ([.methodLink RL ix y, .static y, .initialized RL] : List Cond), w ∈ wU) (hcode : Cond.codeWith y cb maxL (some .int) hh ∈ wU)
    (hdg : decode cc pc = .ok (.invokestatic ix, 3)) (hst : (st.map fun v => v.category).sum ≤ 8)
    (kk : ∀ (r : Int32) (S' : LwS), P r S' → szC S'.1 ≤ B1.1 → nsC S'.1 ≤ B1.2 → GR p l e R s m args below meth c nL D K E0 B b0 Q S' (pc + 3) lv (.int r :: st)) : GR p l e R s m args below meth c nL D K E0 B b0 Q S pc lv (as.reverse ++ st) := by
  obtain ⟨hyc, hy2⟩ := hy
  refine gr_run C (a := as.toArray) B1 hB hB2 (fun G H locs ls hP hA hO hS hl hb0 => ?_) kk
  exact vx_runSX (As := as) (rest := st) ⟨C.1, C.2.1, C.2.2.1, C.2.2.2.1, C.2.2.2.2.1⟩ (hM C.2.2.2.2.2.2.2.2.1 hB2.1 hB2.2) (vx_cwSW n C.2.2.2.2.1 (gU (by rw [hyc]; exact hw) hcode) rfl rfl rfl hy2 hR)
    ⟨r_blind, fun U hU hW => ⟨rfl, ⟨G, by rw [hU]; exact hP, hA⟩, va_K.moved hW.alike C.2.2.2.2.2.1, by rw [hU]; exact StC.kept (StC.moved hW.alike C.2.2.2.2.2.2.2.1) hS.2.1, c_Ev.warm hW C.2.2.2.2.2.2.2.2.2.2.2.1, by rw [hU]; exact hO, NcS.moved hW.alike C.2.2.2.2.2.2.2.2.2.2.2.2⟩⟩ rfl hn hl.1 rfl (lv_room hst) hdg hb0
theorem gr_nameS {S : LwS} (k : ∀ t : LwS, t = S → GR p l e R s m args below meth c nL D K E0 B b0 Q t pc lv st) : GR p l e R s m args below meth c nL D K E0 B b0 Q S pc lv st := k S rfl
theorem gr_room (k : szC S.1 ≤ B.1 ∧ nsC S.1 ≤ B.2 → GR p l e R s m args below meth c nL D K E0 B b0 Q S pc lv st) : GR p l e R s m args below meth c nL D K E0 B b0 Q S pc lv st :=
  fun G H locs ls hP hA hO hS hs h1 h2 hl => k ⟨h1, h2⟩ G H locs ls hP hA hO hS hs h1 h2 hl
/-- a call of a method that only counts -/
theorem gr_callP (C : rx_Cx p l s m args c meth cc nL hd D K E0 B b0 R) {y : MethodName} {cb : ByteArray} {maxL ix n d : Nat} {ret : Option FieldType} {as : List Value} {v : Int32} (hR : d + 1 ≤ R.frames ∧ 8 + (maxL + 11) + 48 * d ≤ R.locals)
    (hM : ∀ B1 : Nat × Nat, MetR l y (.code y cb maxL ret) d as (fun r t' => r = v ∧ t' = S) D K E0 b0 B1 S) (hy : y.cls = RL ∧ y.cls ≠ "java/lang/invoke/MethodHandle" ∧ y.cls ≠ "java/lang/invoke/VarHandle" ∧ (parseMethodDescriptor y.desc).map (fun d => d.parameters.length) = some n) (hn : as.length = n)
    (hw : ∀ w ∈ ([.methodLink RL ix y, .static y, .initialized RL] : List Cond), w ∈ wU) (hcode : Cond.code y cb maxL ret ∈ wU)
    (hdg : decode cc pc = .ok (.invokestatic ix, 3)) (hst : (st.map fun v => v.category).sum ≤ 8)
    (k : GR p l e R s m args below meth c nL D K E0 B b0 Q S (pc + 3) lv (.int v :: st)) : GR p l e R s m args below meth c nL D K E0 B b0 Q S pc lv (as.reverse ++ st) :=
  gr_room (fun hr => gr_callS C hR (szC S.1, nsC S.1) hr ⟨Nat.le_refl _, Nat.le_refl _⟩ (hM _) hy hn hw hcode hdg hst (fun r S' h _ _ => by
    obtain ⟨rfl, rfl⟩ := h
    exact k))
/-- a call of the class's object that only looks -/
theorem gr_callVP (C : rx_Cx p l s m args c meth cc nL hd D K E0 B b0 R) {y : MethodName} {cb : ByteArray} {maxL ix n d : Nat} {ret : Option FieldType} {as : List Value} {v : Int32} (hR : d + 1 ≤ R.frames ∧ 8 + (maxL + 11) + 48 * d ≤ R.locals) {o : Nat}
    (hM : ∀ B1 : Nat × Nat, MetC l y cb maxL ret d (.ref o :: as) (qI (fun r t' => v = r ∧ S.1 = t')) (fun _ _ => False) D K E0 B1 (rA0 b0 S.2) S.1) (hy : y.cls = RX11 ∧ y.cls ≠ "java/lang/invoke/MethodHandle" ∧ y.cls ≠ "java/lang/invoke/VarHandle" ∧ (parseMethodDescriptor y.desc).map (fun d => d.parameters.length) = some n) (hn : as.length = n)
    (hw : ∀ w ∈ ([.methodLink RL ix y, .instanceMethod y, .selects RX11 y y, .initialized RX11] : List Cond), w ∈ wU) (hcode : Cond.code y cb maxL ret ∈ wU) (hg : isC S.1 o 14)
    (hdg : decode cc pc = .ok (.invokevirtual ix, 3)) (hst : (st.map fun v => v.category).sum ≤ 8)
    (k : GR p l e R s m args below meth c nL D K E0 B b0 Q S (pc + 3) lv (.int v :: st)) : GR p l e R s m args below meth c nL D K E0 B b0 Q S pc lv (as.reverse ++ .ref o :: st) :=
  gr_room (fun hr => gr_call C hR (szC S.1, nsC S.1) hr ⟨Nat.le_refl _, Nat.le_refl _⟩ (hM _) hy hn hw hcode hg hdg hst (fun _ _ h => h.elim) (fun w S' h _ _ _ => by
    obtain ⟨r, rfl, rfl, h2⟩ := h
    rw [← h2]
    exact k))
end GRC
/-- a call of the law or of the class out of a method of the law: its own room, tight -/
def lcall (B : Nat × Nat) (t : LwS) (F : Nat × Nat → (Int32 → LwS → Prop) → Prop) (N : Int32 → LwS → Prop) : Prop := ∃ B1 : Nat × Nat, (B1.1 ≤ B.1 ∧ B1.2 ≤ B.2) ∧ (szC t.1 ≤ B1.1 ∧ nsC t.1 ≤ B1.2) ∧ F B1 (fun r t' => szC t'.1 ≤ B1.1 → nsC t'.1 ≤ B1.2 → N r t')
