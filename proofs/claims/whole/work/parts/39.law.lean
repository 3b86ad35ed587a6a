/-! THE LAW'S BODY: rows -/
def lB (s : State) : Nat × Nat := (s.heap.size + 601024, hsl s.heap + 7293034)
def lA (s : State) (mo ao : Nat) : Nat → Prop := fun q => s.heap.size ≤ q ∧ q ≠ ao ∧ ¬ m_A mo (m_ad mo) q
def lx_Cx (p : Program) (l : Launch) (s : State) (m : MethodId) (b : Nat) (c : Code) (meth : Method) (L : Nat) (xs : Nat → Int32) (D : va_G) (K : Nat → ClassId) (E0 : Nat) (mo ao : Nat) : Prop :=
  p.tables.exec = Jvm.exec ∧ c.code = code ∧ c.maxLocals = 7 ∧ s.vm.findClass RL = some m.cls ∧ (∀ w ∈ Cond.instantiable RX11 3 :: wU, w.before #[Value.ref b] s = true) ∧ va_K D vwCl (c_tysZ K) s ∧ StC E0 (fun q => s.heap.size ≤ q) s s.heap ∧ l.stackTraces = false ∧ meth.locks = false ∧ c_Ev s ∧ NcS s ∧ va_X b L xs s s.heap ∧ b < s.heap.size ∧ s.heap.size ≤ mo ∧ s.heap.size ≤ ao ∧ ¬ m_A mo (m_ad mo) ao ∧ meth.sig.returnType = ret
section GL
variable {p : Program} {l : Launch} {e : Env} {s : State} {m : MethodId} {b : Nat} {below : List Frame} {meth : Method} {c : Code} {Q : State → Prop} {L : Nat} {xs : Nat → Int32}
variable {D : va_G} {K : Nat → ClassId} {E0 : Nat} {mo ao : Nat}
def GL (p : Program) (l : Launch) (e : Env) (s : State) (m : MethodId) (b : Nat) (below : List Frame) (meth : Method) (c : Code) (D : va_G) (K : Nat → ClassId) (E0 : Nat) (mo ao : Nat) (Q : State → Prop) (S : CS) (ov : Nat → Int64) (t : MS) (pc : Nat) (lv : List (Nat × Value)) (st : List Value) : Prop :=
  ∀ (G : CG) (H : Heap) (locs : List Loc) (ls : Array Slot), RepC D K E0 S G H → (∀ q, gA G (szC S) q → lA s mo ao q) → va_at D vwCl (ao, oE K ov) H → va_P D vwCl (m_ws (K 0) (K 3) mo (m_ad mo) t) H → va_S (fun q => s.heap.size ≤ q) s.heap H locs → hsl s.heap ≤ hsl H → szC S ≤ (lB s).1 → nsC S ≤ (lB s).2 → lv_has ls 7 lv →
    W p l e room_1 s m #[Value.ref b] below meth c H locs (H.size - s.heap.size) (hsl H - hsl s.heap) Q (F0 m pc ls st)
variable {S : CS} {ov : Nat → Int64} {t : MS} {pc : Nat} {lv : List (Nat × Value)} {st : List Value}

theorem gl_aloadn (C : lx_Cx p l s m b c meth L xs D K E0 mo ao) {n : Fin 4} (j i : Nat) {x : Nat} (d : decode code pc = .ok (.aload_n n, 1)) (hi : (n : Nat) = i) (hv : lv[j]? = some (i, .ref x)) (k : GL p l e s m b below meth c D K E0 mo ao Q S ov t (pc + 1) lv (.ref x :: st)) : GL p l e s m b below meth c D K E0 mo ao Q S ov t pc lv st :=
  fun G H locs ls hP hA hO hM hS hs h1 h2 hl => lv_aload_n C.1 C.2.1 d hi (lv_at hl j hv) (k G H locs ls hP hA hO hM hS hs h1 h2 hl)
theorem gl_aload (C : lx_Cx p l s m b c meth L xs D K E0 mo ao) (j : Nat) {i : Nat} {x : Nat} (d : decode code pc = .ok (.aload i, 2)) (hv : lv[j]? = some (i, .ref x)) (k : GL p l e s m b below meth c D K E0 mo ao Q S ov t (pc + 2) lv (.ref x :: st)) : GL p l e s m b below meth c D K E0 mo ao Q S ov t pc lv st :=
  fun G H locs ls hP hA hO hM hS hs h1 h2 hl => lv_aload C.1 C.2.1 d (lv_at hl j hv) (k G H locs ls hP hA hO hM hS hs h1 h2 hl)
theorem gl_astoren (C : lx_Cx p l s m b c meth L xs D K E0 mo ao) {n : Fin 4} (i : Nat) {x : Nat} (lv' : List (Nat × Value)) (d : decode code pc = .ok (.astore_n n, 1)) (hi : (n : Nat) = i) (hn : i < 7) (hl' : (i, Value.ref x) :: lv.filter (fun q => !(q.1 == i) && !(q.1 + 1 == i && q.2.category == 2)) = lv') (k : GL p l e s m b below meth c D K E0 mo ao Q S ov t (pc + 1) lv' st) : GL p l e s m b below meth c D K E0 mo ao Q S ov t pc lv (.ref x :: st) :=
  fun G H locs ls hP hA hO hM hS hs h1 h2 hl => lv_astore_n C.1 C.2.1 d hi hl hn hl' (fun ls' hl2 => k G H locs ls' hP hA hO hM hS hs h1 h2 hl2)
theorem gl_astore (C : lx_Cx p l s m b c meth L xs D K E0 mo ao) {i : Nat} {x : Nat} (lv' : List (Nat × Value)) (d : decode code pc = .ok (.astore i, 2)) (hn : i < 7) (hl' : (i, Value.ref x) :: lv.filter (fun q => !(q.1 == i) && !(q.1 + 1 == i && q.2.category == 2)) = lv') (k : GL p l e s m b below meth c D K E0 mo ao Q S ov t (pc + 2) lv' st) : GL p l e s m b below meth c D K E0 mo ao Q S ov t pc lv (.ref x :: st) :=
  fun G H locs ls hP hA hO hM hS hs h1 h2 hl => lv_astore C.1 C.2.1 d hl hn hl' (fun ls' hl2 => k G H locs ls' hP hA hO hM hS hs h1 h2 hl2)
theorem gl_iconst (C : lx_Cx p l s m b c meth L xs D K E0 mo ao) {n : Int} (v : Int32) (d : decode code pc = .ok (.iconst n, 1)) (hv : Int32.ofInt n = v) (k : GL p l e s m b below meth c D K E0 mo ao Q S ov t (pc + 1) lv (.int v :: st)) : GL p l e s m b below meth c D K E0 mo ao Q S ov t pc lv st :=
  fun G H locs ls hP hA hO hM hS hs h1 h2 hl => lv_iconst C.1 C.2.1 d hv (k G H locs ls hP hA hO hM hS hs h1 h2 hl)
theorem gl_bipush (C : lx_Cx p l s m b c meth L xs D K E0 mo ao) {n : Int} (v : Int32) (d : decode code pc = .ok (.bipush n, 2)) (hv : (Int8.ofInt n).toInt32 = v) (k : GL p l e s m b below meth c D K E0 mo ao Q S ov t (pc + 2) lv (.int v :: st)) : GL p l e s m b below meth c D K E0 mo ao Q S ov t pc lv st :=
  fun G H locs ls hP hA hO hM hS hs h1 h2 hl => lv_bipush C.1 C.2.1 d hv (k G H locs ls hP hA hO hM hS hs h1 h2 hl)
theorem gl_iloadn (C : lx_Cx p l s m b c meth L xs D K E0 mo ao) {n : Fin 4} (j i : Nat) {x : Int32} (d : decode code pc = .ok (.iload_n n, 1)) (hi : (n : Nat) = i) (hv : lv[j]? = some (i, .int x)) (k : GL p l e s m b below meth c D K E0 mo ao Q S ov t (pc + 1) lv (.int x :: st)) : GL p l e s m b below meth c D K E0 mo ao Q S ov t pc lv st :=
  fun G H locs ls hP hA hO hM hS hs h1 h2 hl => lv_iload_n C.1 C.2.1 d hi (lv_at hl j hv) (k G H locs ls hP hA hO hM hS hs h1 h2 hl)
theorem gl_iload (C : lx_Cx p l s m b c meth L xs D K E0 mo ao) (j : Nat) {i : Nat} {x : Int32} (d : decode code pc = .ok (.iload i, 2)) (hv : lv[j]? = some (i, .int x)) (k : GL p l e s m b below meth c D K E0 mo ao Q S ov t (pc + 2) lv (.int x :: st)) : GL p l e s m b below meth c D K E0 mo ao Q S ov t pc lv st :=
  fun G H locs ls hP hA hO hM hS hs h1 h2 hl => lv_iload C.1 C.2.1 d (lv_at hl j hv) (k G H locs ls hP hA hO hM hS hs h1 h2 hl)
theorem gl_istoren (C : lx_Cx p l s m b c meth L xs D K E0 mo ao) {n : Fin 4} (i : Nat) {x : Int32} (lv' : List (Nat × Value)) (d : decode code pc = .ok (.istore_n n, 1)) (hi : (n : Nat) = i) (hn : i < 7) (hl' : (i, Value.int x) :: lv.filter (fun q => !(q.1 == i) && !(q.1 + 1 == i && q.2.category == 2)) = lv') (k : GL p l e s m b below meth c D K E0 mo ao Q S ov t (pc + 1) lv' st) : GL p l e s m b below meth c D K E0 mo ao Q S ov t pc lv (.int x :: st) :=
  fun G H locs ls hP hA hO hM hS hs h1 h2 hl => lv_istore_n C.1 C.2.1 d hi hl hn hl' (fun ls' hl2 => k G H locs ls' hP hA hO hM hS hs h1 h2 hl2)
theorem gl_istore (C : lx_Cx p l s m b c meth L xs D K E0 mo ao) {i : Nat} {x : Int32} (lv' : List (Nat × Value)) (d : decode code pc = .ok (.istore i, 2)) (hn : i < 7) (hl' : (i, Value.int x) :: lv.filter (fun q => !(q.1 == i) && !(q.1 + 1 == i && q.2.category == 2)) = lv') (k : GL p l e s m b below meth c D K E0 mo ao Q S ov t (pc + 2) lv' st) : GL p l e s m b below meth c D K E0 mo ao Q S ov t pc lv (.int x :: st) :=
  fun G H locs ls hP hA hO hM hS hs h1 h2 hl => lv_istore C.1 C.2.1 d hl hn hl' (fun ls' hl2 => k G H locs ls' hP hA hO hM hS hs h1 h2 hl2)
theorem gl_iinc (C : lx_Cx p l s m b c meth L xs D K E0 mo ao) (j : Nat) {i : Nat} {n : Int} {x : Int32} (v : Int32) (lv' : List (Nat × Value)) (d : decode code pc = .ok (.iinc i n, 3)) (hj : lv[j]? = some (i, .int x)) (hv : x + Int32.ofInt n = v) (hn : i < 7) (hl' : (i, Value.int v) :: lv.filter (fun q => !(q.1 == i) && !(q.1 + 1 == i && q.2.category == 2)) = lv') (k : GL p l e s m b below meth c D K E0 mo ao Q S ov t (pc + 3) lv' st) : GL p l e s m b below meth c D K E0 mo ao Q S ov t pc lv st :=
  fun G H locs ls hP hA hO hM hS hs h1 h2 hl => lv_iinc C.1 C.2.1 d hl hj hv hn hl' (fun ls' hl2 => k G H locs ls' hP hA hO hM hS hs h1 h2 hl2)
theorem gl_iadd (C : lx_Cx p l s m b c meth L xs D K E0 mo ao) {x y : Int32} (d : decode code pc = .ok (.iadd, 1)) (k : GL p l e s m b below meth c D K E0 mo ao Q S ov t (pc + 1) lv (.int (x + y) :: st)) : GL p l e s m b below meth c D K E0 mo ao Q S ov t pc lv (.int y :: .int x :: st) :=
  fun G H locs ls hP hA hO hM hS hs h1 h2 hl => lv_iadd C.1 C.2.1 d (k G H locs ls hP hA hO hM hS hs h1 h2 hl)
theorem gl_isub (C : lx_Cx p l s m b c meth L xs D K E0 mo ao) {x y : Int32} (d : decode code pc = .ok (.isub, 1)) (k : GL p l e s m b below meth c D K E0 mo ao Q S ov t (pc + 1) lv (.int (x - y) :: st)) : GL p l e s m b below meth c D K E0 mo ao Q S ov t pc lv (.int y :: .int x :: st) :=
  fun G H locs ls hP hA hO hM hS hs h1 h2 hl => lv_isub C.1 C.2.1 d (k G H locs ls hP hA hO hM hS hs h1 h2 hl)
theorem gl_i2l (C : lx_Cx p l s m b c meth L xs D K E0 mo ao) {x : Int32} (d : decode code pc = .ok (.i2l, 1)) (k : GL p l e s m b below meth c D K E0 mo ao Q S ov t (pc + 1) lv (.long x.toInt64 :: st)) : GL p l e s m b below meth c D K E0 mo ao Q S ov t pc lv (.int x :: st) :=
  fun G H locs ls hP hA hO hM hS hs h1 h2 hl => lv_i2l C.1 C.2.1 d rfl (k G H locs ls hP hA hO hM hS hs h1 h2 hl)
theorem gl_lconst (C : lx_Cx p l s m b c meth L xs D K E0 mo ao) {n : Fin 2} (v : Int64) (d : decode code pc = .ok (.lconst n, 1)) (hv : Int64.ofNat (n : Nat) = v) (k : GL p l e s m b below meth c D K E0 mo ao Q S ov t (pc + 1) lv (.long v :: st)) : GL p l e s m b below meth c D K E0 mo ao Q S ov t pc lv st :=
  fun G H locs ls hP hA hO hM hS hs h1 h2 hl => lv_lconst C.1 C.2.1 d hv (k G H locs ls hP hA hO hM hS hs h1 h2 hl)
theorem gl_goto (C : lx_Cx p l s m b c meth L xs D K E0 mo ao) {off : Int} (tgt : Nat) (d : decode code pc = .ok (.goto off, 3)) (ht : (pc : Int) + off = (tgt : Int)) (k : GL p l e s m b below meth c D K E0 mo ao Q S ov t tgt lv st) : GL p l e s m b below meth c D K E0 mo ao Q S ov t pc lv st :=
  fun G H locs ls hP hA hO hM hS hs h1 h2 hl => lv_goto C.1 C.2.1 d ht (k G H locs ls hP hA hO hM hS hs h1 h2 hl)
theorem gl_if_eq (C : lx_Cx p l s m b c meth L xs D K E0 mo ao) {x : Int32} {off : Int} (tgt : Nat) (d : decode code pc = .ok (.ifCond .eq off, 3)) (ht : (pc : Int) + off = (tgt : Int)) (kt : x = 0 → GL p l e s m b below meth c D K E0 mo ao Q S ov t tgt lv st) (kf : ¬ x = 0 → GL p l e s m b below meth c D K E0 mo ao Q S ov t (pc + 3) lv st) : GL p l e s m b below meth c D K E0 mo ao Q S ov t pc lv (.int x :: st) :=
  fun G H locs ls hP hA hO hM hS hs h1 h2 hl => lv_if_eq C.1 C.2.1 d ht (fun h => kt h G H locs ls hP hA hO hM hS hs h1 h2 hl) (fun h => kf h G H locs ls hP hA hO hM hS hs h1 h2 hl)
theorem gl_if_ne (C : lx_Cx p l s m b c meth L xs D K E0 mo ao) {x : Int32} {off : Int} (tgt : Nat) (d : decode code pc = .ok (.ifCond .ne off, 3)) (ht : (pc : Int) + off = (tgt : Int)) (kt : ¬ x = 0 → GL p l e s m b below meth c D K E0 mo ao Q S ov t tgt lv st) (kf : x = 0 → GL p l e s m b below meth c D K E0 mo ao Q S ov t (pc + 3) lv st) : GL p l e s m b below meth c D K E0 mo ao Q S ov t pc lv (.int x :: st) :=
  fun G H locs ls hP hA hO hM hS hs h1 h2 hl => lv_if_ne C.1 C.2.1 d ht (fun h => kt h G H locs ls hP hA hO hM hS hs h1 h2 hl) (fun h => kf h G H locs ls hP hA hO hM hS hs h1 h2 hl)
theorem gl_icmp_eq (C : lx_Cx p l s m b c meth L xs D K E0 mo ao) {x y : Int32} {off : Int} (tgt : Nat) (d : decode code pc = .ok (.if_icmp .eq off, 3)) (ht : (pc : Int) + off = (tgt : Int)) (kt : x = y → GL p l e s m b below meth c D K E0 mo ao Q S ov t tgt lv st) (kf : ¬ x = y → GL p l e s m b below meth c D K E0 mo ao Q S ov t (pc + 3) lv st) : GL p l e s m b below meth c D K E0 mo ao Q S ov t pc lv (.int y :: .int x :: st) :=
  fun G H locs ls hP hA hO hM hS hs h1 h2 hl => lv_icmp_eq C.1 C.2.1 d ht (fun h => kt h G H locs ls hP hA hO hM hS hs h1 h2 hl) (fun h => kf h G H locs ls hP hA hO hM hS hs h1 h2 hl)
theorem gl_icmp_ne (C : lx_Cx p l s m b c meth L xs D K E0 mo ao) {x y : Int32} {off : Int} (tgt : Nat) (d : decode code pc = .ok (.if_icmp .ne off, 3)) (ht : (pc : Int) + off = (tgt : Int)) (kt : ¬ x = y → GL p l e s m b below meth c D K E0 mo ao Q S ov t tgt lv st) (kf : x = y → GL p l e s m b below meth c D K E0 mo ao Q S ov t (pc + 3) lv st) : GL p l e s m b below meth c D K E0 mo ao Q S ov t pc lv (.int y :: .int x :: st) :=
  fun G H locs ls hP hA hO hM hS hs h1 h2 hl => lv_icmp_ne C.1 C.2.1 d ht (fun h => kt h G H locs ls hP hA hO hM hS hs h1 h2 hl) (fun h => kf h G H locs ls hP hA hO hM hS hs h1 h2 hl)
theorem gl_icmp_gt (C : lx_Cx p l s m b c meth L xs D K E0 mo ao) {x y : Int32} {off : Int} (tgt : Nat) (d : decode code pc = .ok (.if_icmp .gt off, 3)) (ht : (pc : Int) + off = (tgt : Int)) (kt : y < x → GL p l e s m b below meth c D K E0 mo ao Q S ov t tgt lv st) (kf : ¬ y < x → GL p l e s m b below meth c D K E0 mo ao Q S ov t (pc + 3) lv st) : GL p l e s m b below meth c D K E0 mo ao Q S ov t pc lv (.int y :: .int x :: st) :=
  fun G H locs ls hP hA hO hM hS hs h1 h2 hl => lv_icmp_gt C.1 C.2.1 d ht (fun h => kt h G H locs ls hP hA hO hM hS hs h1 h2 hl) (fun h => kf h G H locs ls hP hA hO hM hS hs h1 h2 hl)
theorem gl_dup (C : lx_Cx p l s m b c meth L xs D K E0 mo ao) {a : Value} (d : decode code pc = .ok (.dup, 1)) (ha : a.category = 1) (k : GL p l e s m b below meth c D K E0 mo ao Q S ov t (pc + 1) lv (a :: a :: st)) : GL p l e s m b below meth c D K E0 mo ao Q S ov t pc lv (a :: st) :=
  fun G H locs ls hP hA hO hM hS hs h1 h2 hl => lv_dup C.1 C.2.1 d ha (k G H locs ls hP hA hO hM hS hs h1 h2 hl)
theorem gl_pop (C : lx_Cx p l s m b c meth L xs D K E0 mo ao) {a : Value} (d : decode code pc = .ok (.pop, 1)) (ha : a.category = 1) (k : GL p l e s m b below meth c D K E0 mo ao Q S ov t (pc + 1) lv st) : GL p l e s m b below meth c D K E0 mo ao Q S ov t pc lv (a :: st) :=
  fun G H locs ls hP hA hO hM hS hs h1 h2 hl => lv_pop C.1 C.2.1 d ha (k G H locs ls hP hA hO hM hS hs h1 h2 hl)
theorem gl_sub {lv' : List (Nat × Value)} (ks : List Nat) (hk : lv_pick lv ks = lv') (k : GL p l e s m b below meth c D K E0 mo ao Q S ov t pc lv' st) : GL p l e s m b below meth c D K E0 mo ao Q S ov t pc lv st :=
  fun G H locs ls hP hA hO hM hS hs h1 h2 hl => k G H locs ls hP hA hO hM hS hs h1 h2 (lv_sub hl ks hk)
theorem gl_iand (C : lx_Cx p l s m b c meth L xs D K E0 mo ao) {x y : Int32} (d : decode code pc = .ok (.iand, 1)) (k : GL p l e s m b below meth c D K E0 mo ao Q S ov t (pc + 1) lv (.int (x &&& y) :: st)) : GL p l e s m b below meth c D K E0 mo ao Q S ov t pc lv (.int y :: .int x :: st) :=
  fun G H locs ls hP hA hO hM hS hs h1 h2 hl => lv_iand C.1 C.2.1 d (k G H locs ls hP hA hO hM hS hs h1 h2 hl)
theorem gl_scr (C : lx_Cx p l s m b c meth L xs D K E0 mo ao) {i : Int32} (hin : vp_in i L) (d : decode code pc = .ok (.iaload, 1)) (k : GL p l e s m b below meth c D K E0 mo ao Q S ov t (pc + 1) lv (.int (xs i.toNatClampNeg) :: st)) : GL p l e s m b below meth c D K E0 mo ao Q S ov t pc lv (.int i :: .ref b :: st) :=
  fun G H locs ls hP hA hO hM hS hs h1 h2 hl => va_sld C.1 C.2.1 C.2.2.2.2.2.2.2.2.2.2.2.1 C.2.2.2.2.2.2.2.2.2.2.2.2.1 (fun h => Nat.lt_irrefl _ (Nat.lt_of_lt_of_le C.2.2.2.2.2.2.2.2.2.2.2.2.1 h)) hS hin d (k G H locs ls hP hA hO hM hS hs h1 h2 hl)
theorem gl_slen (C : lx_Cx p l s m b c meth L xs D K E0 mo ao) (d : decode code pc = .ok (.arraylength, 1)) (k : GL p l e s m b below meth c D K E0 mo ao Q S ov t (pc + 1) lv (.int (Int32.ofNat L) :: st)) : GL p l e s m b below meth c D K E0 mo ao Q S ov t pc lv (.ref b :: st) :=
  fun G H locs ls hP hA hO hM hS hs h1 h2 hl => va_slen C.1 C.2.1 C.2.2.2.2.2.2.2.2.2.2.2.1 C.2.2.2.2.2.2.2.2.2.2.2.2.1 (fun h => Nat.lt_irrefl _ (Nat.lt_of_lt_of_le C.2.2.2.2.2.2.2.2.2.2.2.2.1 h)) hS d (k G H locs ls hP hA hO hM hS hs h1 h2 hl)
theorem gl_out (C : lx_Cx p l s m b c meth L xs D K E0 mo ao) (d : decode code pc = .ok (.laload, 1)) (k : GL p l e s m b below meth c D K E0 mo ao Q S ov t (pc + 1) lv (.long (ov 0) :: st)) : GL p l e s m b below meth c D K E0 mo ao Q S ov t pc lv (.int 0 :: .ref ao :: st) :=
  fun G H locs ls hP hA hO hM hS hs h1 h2 hl => va_lald C.1 C.2.1 (l_K1 C.2.2.2.2.2.1) (va_P1 hO) 0 1 rfl rfl (show ¬ ((0 : Int32) < 0 ∨ 1 ≤ Int32.toNatClampNeg 0) by decide) d (k G H locs ls hP hA hO hM hS hs h1 h2 hl)
theorem gl_tab (C : lx_Cx p l s m b c meth L xs D K E0 mo ao) {dflt lo hi : Int} {offs : Array Int} {len : Nat} {x : Int32} {off : Int} (tgt : Nat) (d : decode code pc = .ok (.tableswitch dflt lo hi offs, len)) (h3 : ¬ x.toInt < lo) (h4 : ¬ hi < x.toInt) (ho : offs[(x.toInt - lo).toNat]? = some off) (ht : (pc : Int) + off = (tgt : Int)) (k : GL p l e s m b below meth c D K E0 mo ao Q S ov t tgt lv st) : GL p l e s m b below meth c D K E0 mo ao Q S ov t pc lv (.int x :: st) :=
  fun G H locs ls hP hA hO hM hS hs h1 h2 hl => lv_tableIn C.1 C.2.1 d h3 h4 ho ht (k G H locs ls hP hA hO hM hS hs h1 h2 hl)
theorem gl_tabD (C : lx_Cx p l s m b c meth L xs D K E0 mo ao) {dflt lo hi : Int} {offs : Array Int} {len : Nat} {x : Int32} (tgt : Nat) (d : decode code pc = .ok (.tableswitch dflt lo hi offs, len)) (h3 : x.toInt < lo ∨ hi < x.toInt) (ht : (pc : Int) + dflt = (tgt : Int)) (k : GL p l e s m b below meth c D K E0 mo ao Q S ov t tgt lv st) : GL p l e s m b below meth c D K E0 mo ao Q S ov t pc lv (.int x :: st) :=
  fun G H locs ls hP hA hO hM hS hs h1 h2 hl => lv_tableOut C.1 C.2.1 d h3 ht (k G H locs ls hP hA hO hM hS hs h1 h2 hl)
theorem lg_eq0 (x y : Int64) : lg_cmp x y = 0 ↔ x = y := by
  by_cases h1 : y < x
  · have h3 : ¬ x = y := fun h => by
      subst h
      have h4 := Int64.lt_iff_toInt_lt.mp h1
      omega
    simp [lg_cmp, h1, h3]
  · by_cases h3 : x = y
    · simp [lg_cmp, h1, h3]
    · simp [lg_cmp, h1, h3]
theorem gl_lcmpeq (C : lx_Cx p l s m b c meth L xs D K E0 mo ao) {x y : Int64} {off : Int} (tgt : Nat) (d : decode code pc = .ok (.lcmp, 1)) (d2 : decode code (pc + 1) = .ok (.ifCond .eq off, 3)) (ht : ((pc + 1 : Nat) : Int) + off = (tgt : Int)) (kt : x = y → GL p l e s m b below meth c D K E0 mo ao Q S ov t tgt lv st) (kf : ¬ x = y → GL p l e s m b below meth c D K E0 mo ao Q S ov t (pc + 4) lv st) : GL p l e s m b below meth c D K E0 mo ao Q S ov t pc lv (.long y :: .long x :: st) :=
  fun G H locs ls hP hA hO hM hS hs h1 h2 hl => W.lcmp C.1 C.2.1 d (lv_if_eq C.1 C.2.1 d2 ht (fun h => kt ((lg_eq0 x y).mp h) G H locs ls hP hA hO hM hS hs h1 h2 hl) (fun h => kf (fun z => h ((lg_eq0 x y).mpr z)) G H locs ls hP hA hO hM hS hs h1 h2 hl))
/-- the law's end, with true -/
theorem gl_end (C : lx_Cx p l s m b c meth L xs D K E0 mo ao) (d : decode code pc = .ok (.ireturn, 1)) : GL p l e s m b below meth c D K E0 mo ao (lw_Z below #[Value.ref b] s) S ov t pc lv [.int 1] := by
  intro G H locs ls hP hA hO hM hS hs h1 h2 hl
  have y1 : H.size = szC S := hP.2.2.1
  have y2 : hsl H = nsC S := hP.2.2.2
  have h1' : szC S ≤ s.heap.size + 601024 := h1
  have h2' : nsC S ≤ hsl s.heap + 7293034 := h2
  refine va_forget (fun q hq => hS.2.2 q hq) (W.widen (k := 601024) (n := 7293034) (by omega) (by omega) ?_)
  exact lw_ret C.1 C.2.1 C.2.2.2.2.2.2.2.2.2.2.2.2.2.2.2.2 C.2.2.2.2.2.2.2.2.1 d
/-- a call of the law's own method: the class answers, or throws and is caught -/
theorem gl_wrap (C : lx_Cx p l s m b c meth L xs D K E0 mo ao) {y : MethodName} {cb : ByteArray} {maxL ix n d : Nat} {hh : List (Nat × Nat × Nat × Nat)} {as : List Value} {P : Int32 → (Nat → Int64) → CS → Prop} (B1 : Nat × Nat) (hB : B1.1 ≤ (lB s).1 ∧ B1.2 ≤ (lB s).2) (hB2 : szC S ≤ B1.1 ∧ nsC S ≤ B1.2) (hd : d ≤ 60) (hm : maxL ≤ 29)
    (hM' : MetW l y cb maxL hh d as P D K E0 B1 (lA s mo ao) ao S ov) (hy : y.cls = RL ∧ y.cls ≠ "java/lang/invoke/MethodHandle" ∧ y.cls ≠ "java/lang/invoke/VarHandle" ∧ (parseMethodDescriptor y.desc).map (fun d => d.parameters.length) = some n) (hn : as.length = n)
    (hw : ∀ w ∈ ([.methodLink RL ix y, .static y, .initialized RL] : List Cond), w ∈ wU) (hcode : Cond.codeWith y cb maxL (some .int) hh ∈ wU)
    (hdg : decode code pc = .ok (.invokestatic ix, 3)) (hst : (st.map fun v => v.category).sum ≤ 8)
    (kk : ∀ (r : Int32) (ov' : Nat → Int64) (S' : CS), P r ov' S' → szC S' ≤ B1.1 → nsC S' ≤ B1.2 → GL p l e s m b below meth c D K E0 mo ao Q S' ov' t (pc + 3) lv (.int r :: st)) : GL p l e s m b below meth c D K E0 mo ao Q S ov t pc lv (as.reverse ++ st) := by
  intro G H locs ls hP hA hO hM hS hs h1 h2 hl T hT X9
  have y1 : H.size = szC S := hP.2.2.1
  have y2 : hsl H = nsC S := hP.2.2.2
  have z0 : s.heap.size ≤ H.size := hS.1
  have hB1' : B1.1 ≤ s.heap.size + 601024 := hB.1
  have hB2' : B1.2 ≤ hsl s.heap + 7293034 := hB.2
  have hao : ¬ lA s mo ao ao := fun h => h.2.1 rfl
  obtain ⟨hyc, hy2⟩ := hy
  have hOlt : ao < H.size := hO.lt
  have hoA : ∀ q, oA (lA s mo ao) ao q → s.heap.size ≤ q := fun q hq => hq.elim (fun h => h.1) (fun h => by rw [h]; exact C.2.2.2.2.2.2.2.2.2.2.2.2.2.2.1)
  have hrun := vx_runSX (meth := meth) (below := below) (e := e) (g := F0 m pc ls (as.reverse ++ st)) (H := H) (locs := locs) (cells := H.size - s.heap.size) (slots := hsl H - hsl s.heap) (As := as) (rest := st) (R := room_1) (p := p) (l := l) (s := s) (m := m) (args := #[Value.ref b]) (c := c) ⟨C.1, C.2.1, C.2.2.1, C.2.2.2.1, C.2.2.2.2.1⟩ (hM' C.2.2.2.2.2.2.2.1 hB2.1 hB2.2 hao) (vx_cwSW n C.2.2.2.2.1 (gU (by rw [hyc]; exact hw) hcode) rfl rfl rfl hy2 ⟨by show d + 1 ≤ 2048; omega, by show 8 + (maxL + 11) + 48 * d ≤ 84000; omega⟩)
    ⟨w_blind, fun U hU hW => ⟨rfl, ⟨G, by rw [hU]; exact hP, hA⟩, va_K.moved hW.alike (l_K1 C.2.2.2.2.2.1), by rw [hU]; exact StC.narrow (StC.kept (StC.moved hW.alike C.2.2.2.2.2.2.1) hS.2.1) hoA, c_Ev.warm hW C.2.2.2.2.2.2.2.2.2.1, by rw [hU]; exact hO, NcS.moved hW.alike C.2.2.2.2.2.2.2.2.2.2.1⟩⟩ rfl hn hl.1 rfl (lv_room hst) hdg ⟨by show _ ≤ 601024; omega, by show _ ≤ 7293034; omega⟩
  rcases hrun T hT X9 with ⟨v, st₀, t1, T', L9, h0, X', hL, e1, e2, ⟨⟨r, S', ov', hv, hp, ⟨G', hP', hA'⟩, hO'⟩, hF⟩, stp⟩ | ⟨q, st₀, t1, T', L9, E, ce, h0, X', hL, e1, e2, hq, hce, hcv, hcl, stp⟩
  · cases hv
    obtain ⟨k1, k2, k3⟩ := vx_keep (A0 := fun q => s.heap.size ≤ q) h0 e1 hS (fun q _ z => hoA q z) (fun q z => hoA q z) hL hF
    have hb := stand_slots X'
    rw [← e1] at hP' hO'
    have z1 : T'.heap.size = szC S' := hP'.2.2.1
    have z2 : hsl T'.heap = nsC S' := hP'.2.2.2
    have hM2 : va_P D vwCl (m_ws (K 0) (K 3) mo (m_ad mo) t) T'.heap := by
      refine va_P.kept hM (fun k x hx => ?_)
      obtain ⟨f1, f2⟩ := hF
      rw [e1]
      have hxA : m_A mo (m_ad mo) x.1 := (m_D (cI := K 0) (cZ := K 3) (m_adap mo) t).2 k x hx
      rw [h0] at f2
      exact f2 x.1 ((hM k x hx).lt) (fun h9 => h9.elim (fun h => h.2.2 hxA) (fun h => C.2.2.2.2.2.2.2.2.2.2.2.2.2.2.2.1 (by rw [← h]; exact hxA)))
    obtain ⟨t2, a1, b1⟩ := kk r ov' S' hp (by omega) (by omega) G' T'.heap (locs ++ L9) ls hP' hA' hO' hM2 k3 hb.1 (by show _ ≤ s.heap.size + 601024; omega) (by show _ ≤ hsl s.heap + 7293034; omega) hl T' rfl (stand_norm X')
    exact ⟨t2, stp t2 a1, b1⟩
  · exact hq.elim
/-- a call of the model -/
theorem gl_mod (C : lx_Cx p l s m b c meth L xs D K E0 mo ao) {y : MethodName} {cb : ByteArray} {maxL ix n d : Nat} {rt : Option FieldType} {as : List Value} {post : MS → Option Value → MS → Prop} (hd : d ≤ 60) (hm : maxL ≤ 29)
    (hM' : MetM l y cb maxL rt d (.ref mo :: as) post D (K 0) (K 3) mo (m_ad mo) t) (hy : y.cls = RX12 ∧ y.cls ≠ "java/lang/invoke/MethodHandle" ∧ y.cls ≠ "java/lang/invoke/VarHandle" ∧ (parseMethodDescriptor y.desc).map (fun d => d.parameters.length) = some n) (hn : as.length = n)
    (hw : ∀ w ∈ ([.methodLink RL ix y, .instanceMethod y, .selects RX12 y y, .initialized RX12] : List Cond), w ∈ wU) (hcode : Cond.code y cb maxL rt ∈ wU)
    (hdg : decode code pc = .ok (.invokevirtual ix, 3)) (hst : (st.map fun v => v.category).sum ≤ 8)
    (kk : ∀ (v : Option Value) (t' : MS) (ns : Nat), post t v t' → ns ≤ nsC S → GL p l e s m b below meth c D K E0 mo ao Q (rsz S (szC S) ns) ov t' (pc + 3) lv (v.toList ++ st)) : GL p l e s m b below meth c D K E0 mo ao Q S ov t pc lv (as.reverse ++ .ref mo :: st) := by
  intro G H locs ls hP hA hO hM hS hs h1 h2 hl T hT X9
  have y1 : H.size = szC S := hP.2.2.1
  have y2 : hsl H = nsC S := hP.2.2.2
  have z0 : s.heap.size ≤ H.size := hS.1
  have h1' : szC S ≤ s.heap.size + 601024 := h1
  have h2' : nsC S ≤ hsl s.heap + 7293034 := h2
  have hmA : ∀ q, m_A mo (m_ad mo) q → s.heap.size ≤ q := fun q hq => by
    have hmo := C.2.2.2.2.2.2.2.2.2.2.2.2.2.1
    rcases hq with h | ⟨k, -, h⟩
    · rw [h]; exact hmo
    · rw [h]; unfold m_ad; omega
  have hrun := va_runV (meth := meth) (below := below) (e := e) (g := F0 m pc ls (as.reverse ++ .ref mo :: st)) (H := H) (locs := locs) (cells := H.size - s.heap.size) (slots := hsl H - hsl s.heap) (As := as) (rest := st) (R := room_1) (p := p) (l := l) (s := s) (m := m) (args := #[Value.ref b]) (c := c) ⟨C.1, C.2.1, C.2.2.1, C.2.2.2.1, C.2.2.2.2.1⟩ (hM' (m_adap mo)) (cwV n C.2.2.2.2.1 (gU hw hcode) rfl rfl rfl hy ⟨by show d + 1 ≤ 2048; omega, by show 8 + (maxL + 11) + 48 * d ≤ 84000; omega⟩)
    ⟨m_FrameBlind, va_recv (l_K2 C.2.2.2.2.2.1) hM (ci := 15) (q0 := 0) rfl rfl, fun U hU hW => ⟨rfl, by rw [hU]; exact hM, va_K.moved hW.alike (l_K2 C.2.2.2.2.2.1)⟩⟩ rfl hn hl.1 rfl (lv_room hst) hdg ⟨by show _ ≤ 601024; omega, by show _ ≤ 7293034; omega⟩
  obtain ⟨v, st₀, t1, T', L9, h0, X', hL, e1, e2, ⟨⟨v', t', hv, hp, hPP⟩, hF⟩, stp⟩ := hrun T hT X9
  cases hv
  obtain ⟨k1, k2, k3⟩ := vx_keep (A0 := fun q => s.heap.size ≤ q) h0 e1 hS (fun q _ z => hmA q z) (fun q z => hmA q z) hL hF
  have hb := stand_slots X'
  have hz : T'.heap.size = H.size := by
    have f1 := hF.1
    rw [h0] at f1
    rw [← e1] at f1
    omega
  have hkeep : ∀ q : Nat, q < H.size → ¬ m_A mo (m_ad mo) q → T'.heap[q]? = H[q]? := fun q q1 q2 => by
    have f2 := hF.2
    rw [h0] at f2
    rw [e1]
    exact f2 q q1 q2
  have hP' : RepC D K E0 (rsz S (szC S) (hsl T'.heap)) G T'.heap := by
    refine ⟨fun a r o' g1 g2 => ?_, hP.2.1, by rw [hz]; exact y1, rfl⟩
    obtain ⟨u1, u2, u3⟩ := hP.1 a r o' g1 g2
    exact ⟨va_at.kept (show va_at D vwCl (a, c_ce K E0 S G r o') H from u1) (hkeep a u1.lt (hA a (Or.inl (by rw [g1]; exact g2))).2.2), u2, u3⟩
  obtain ⟨t2, a1, b1⟩ := kk v t' (hsl T'.heap) hp (by omega) G T'.heap (locs ++ L9) ls hP' hA (va_at.kept hO (hkeep ao hO.lt C.2.2.2.2.2.2.2.2.2.2.2.2.2.2.2.1)) (by rw [e1]; exact hPP) k3 hb.1 h1 (by show hsl T'.heap ≤ hsl s.heap + 7293034; omega) hl T' rfl (stand_norm X')
  exact ⟨t2, stp t2 a1, b1⟩
end GL
