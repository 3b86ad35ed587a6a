/-! THE LAW'S OWN METHODS: a call of the class, caught -/
def oE (K : Nat → ClassId) (ov : Nat → Int64) : va_E := .inl (K 1, 1, .inr (.inl ov))
def oA (A0 : Nat → Prop) (ao : Nat) : Nat → Prop := fun q => A0 q ∨ q = ao
def exA : List String := ["java/lang/IllegalArgumentException", "java/lang/IllegalStateException", "java/lang/IndexOutOfBoundsException"]
def NcS (U : State) : Prop := ∀ a, a ∈ exA → ∀ b, b ∈ exA → a ≠ b → va_Nc a b U
theorem NcS.moved {u U : State} (hvm : u.vm.Alike U.vm) (h : NcS u) : NcS U := fun a ha b hb hab => va_Nc.moved hvm (h a ha b hb hab)
def w_Pre (D : va_G) (K : Nat → ClassId) (E0 : Nat) (A0 : Nat → Prop) (ao : Nat) (S : CS) (ov : Nat → Int64) (as : List Value) : Array Value → State → Prop := va_Pc as (fun U => c_W D K E0 A0 S U ∧ va_K D vwCl (c_tys K) U ∧ StC E0 (oA A0 ao) U U.heap ∧ c_Ev U ∧ va_at D vwCl (ao, oE K ov) U.heap ∧ NcS U)
def w_Post (D : va_G) (K : Nat → ClassId) (E0 : Nat) (A0 : Nat → Prop) (ao : Nat) (P : Int32 → (Nat → Int64) → CS → Prop) : Array Value → State → Outcome → State → Prop := fun _ st o u => (∃ (k : Int32) (S' : CS) (ov' : Nat → Int64), o = .returned (some (.int k)) ∧ P k ov' S' ∧ c_W D K E0 A0 S' u ∧ va_at D vwCl (ao, oE K ov') u.heap) ∧ va_F (oA A0 ao) st u
def MetW (l : Launch) (y : MethodName) (cc : ByteArray) (nL : Nat) (hh : List (Nat × Nat × Nat × Nat)) (d : Nat) (as : List Value) (P : Int32 → (Nat → Int64) → CS → Prop) (D : va_G) (K : Nat → ClassId) (E0 : Nat) (B : Nat × Nat) (A0 : Nat → Prop) (ao : Nat) (S : CS) (ov : Nat → Int64) : Prop :=
  l.stackTraces = false → szC S ≤ B.1 → nsC S ≤ B.2 → ¬ A0 ao → vx_Met l y (.codeWith y cc nL (some .int) hh :: wU) (rmC d B S) (w_Pre D K E0 A0 ao S ov as) (w_Post D K E0 A0 ao P) (fun _ _ _ => False) (B.1 - szC S) (B.2 - nsC S) (oA A0 ao)
def wx_Cx (p : Program) (l : Launch) (s : State) (m : MethodId) (args : Array Value) (c : Code) (meth : Method) (cc : ByteArray) (nL : Nat) (hd : Cond) (D : va_G) (K : Nat → ClassId) (E0 : Nat) (B : Nat × Nat) (A0 : Nat → Prop) (ao : Nat) (R : Room) : Prop :=
  p.tables.exec = Jvm.exec ∧ c.code = cc ∧ c.maxLocals = nL ∧ s.vm.findClass RL = some m.cls ∧ (∀ w ∈ hd :: wU, w.before args s = true) ∧ va_K D vwCl (c_tys K) s ∧
  (R.cells = B.1 - s.heap.size ∧ R.slots = B.2 - hsl s.heap) ∧ StC E0 (oA A0 ao) s s.heap ∧ l.stackTraces = false ∧ meth.locks = false ∧ (∀ q : Nat, s.heap.size ≤ q → A0 q) ∧ c_Ev s ∧ ¬ A0 ao ∧ NcS s
section GW
variable {p : Program} {l : Launch} {e : Env} {R : Room} {s : State} {m : MethodId} {args : Array Value} {below : List Frame} {meth : Method} {c : Code} {Q : State → Prop}
variable {cc : ByteArray} {nL : Nat} {hd : Cond} {D : va_G} {K : Nat → ClassId} {E0 : Nat} {B : Nat × Nat} {A0 : Nat → Prop} {ao : Nat}
def GW (p : Program) (l : Launch) (e : Env) (R : Room) (s : State) (m : MethodId) (args : Array Value) (below : List Frame) (meth : Method) (c : Code) (nL : Nat) (D : va_G) (K : Nat → ClassId) (E0 : Nat) (B : Nat × Nat) (A0 : Nat → Prop) (ao : Nat) (Q : State → Prop) (S : CS) (ov : Nat → Int64) (pc : Nat) (lv : List (Nat × Value)) (st : List Value) : Prop :=
  ∀ (G : CG) (H : Heap) (locs : List Loc) (ls : Array Slot), RepC D K E0 S G H → (∀ q, gA G (szC S) q → A0 q) → va_at D vwCl (ao, oE K ov) H → va_S (oA A0 ao) s.heap H locs → hsl s.heap ≤ hsl H → szC S ≤ B.1 → nsC S ≤ B.2 → lv_has ls nL lv →
    W p l e R s m args below meth c H locs (H.size - s.heap.size) (hsl H - hsl s.heap) Q (F0 m pc ls st)
/-- the same where an exception of the class E has been thrown -/
def GV (p : Program) (l : Launch) (e : Env) (R : Room) (s : State) (m : MethodId) (args : Array Value) (below : List Frame) (meth : Method) (c : Code) (nL : Nat) (D : va_G) (K : Nat → ClassId) (E0 : Nat) (B : Nat × Nat) (A0 : Nat → Prop) (ao : Nat) (Q : State → Prop) (E : String) (S : CS) (ov : Nat → Int64) (pc : Nat) (lv : List (Nat × Value)) (rest : List Value) : Prop :=
  ∀ (G : CG) (H : Heap) (locs : List Loc) (ls : Array Slot) (q : Addr) (ce : Cell), RepC D K E0 S G H → (∀ q, gA G (szC S) q → A0 q) → va_at D vwCl (ao, oE K ov) H → va_S (oA A0 ao) s.heap H locs → hsl s.heap ≤ hsl H → szC S ≤ B.1 → nsC S ≤ B.2 → lv_has ls nL lv → H[q]? = some ce → ce.vm = .none → s.vm.findClass E = some ce.cls →
    vx_W p l e R s m args below meth c H locs (H.size - s.heap.size) (hsl H - hsl s.heap) Q (F0 m pc ls rest) q
variable {S : CS} {ov : Nat → Int64} {pc : Nat} {lv : List (Nat × Value)} {st : List Value}

theorem gw_aloadn (C : wx_Cx p l s m args c meth cc nL hd D K E0 B A0 ao R) {n : Fin 4} (j i : Nat) {x : Nat} (d : decode cc pc = .ok (.aload_n n, 1)) (hi : (n : Nat) = i) (hv : lv[j]? = some (i, .ref x)) (k : GW p l e R s m args below meth c nL D K E0 B A0 ao Q S ov (pc + 1) lv (.ref x :: st)) : GW p l e R s m args below meth c nL D K E0 B A0 ao Q S ov pc lv st :=
  fun G H locs ls hP hA hO hS hs h1 h2 hl => lv_aload_n C.1 C.2.1 d hi (lv_at hl j hv) (k G H locs ls hP hA hO hS hs h1 h2 hl)
theorem gw_aload (C : wx_Cx p l s m args c meth cc nL hd D K E0 B A0 ao R) (j : Nat) {i : Nat} {x : Nat} (d : decode cc pc = .ok (.aload i, 2)) (hv : lv[j]? = some (i, .ref x)) (k : GW p l e R s m args below meth c nL D K E0 B A0 ao Q S ov (pc + 2) lv (.ref x :: st)) : GW p l e R s m args below meth c nL D K E0 B A0 ao Q S ov pc lv st :=
  fun G H locs ls hP hA hO hS hs h1 h2 hl => lv_aload C.1 C.2.1 d (lv_at hl j hv) (k G H locs ls hP hA hO hS hs h1 h2 hl)
theorem gw_astoren (C : wx_Cx p l s m args c meth cc nL hd D K E0 B A0 ao R) {n : Fin 4} (i : Nat) {x : Nat} (lv' : List (Nat × Value)) (d : decode cc pc = .ok (.astore_n n, 1)) (hi : (n : Nat) = i) (hn : i < nL) (hl' : (i, Value.ref x) :: lv.filter (fun q => !(q.1 == i) && !(q.1 + 1 == i && q.2.category == 2)) = lv') (k : GW p l e R s m args below meth c nL D K E0 B A0 ao Q S ov (pc + 1) lv' st) : GW p l e R s m args below meth c nL D K E0 B A0 ao Q S ov pc lv (.ref x :: st) :=
  fun G H locs ls hP hA hO hS hs h1 h2 hl => lv_astore_n C.1 C.2.1 d hi hl hn hl' (fun ls' hl2 => k G H locs ls' hP hA hO hS hs h1 h2 hl2)
theorem gw_astore (C : wx_Cx p l s m args c meth cc nL hd D K E0 B A0 ao R) {i : Nat} {x : Nat} (lv' : List (Nat × Value)) (d : decode cc pc = .ok (.astore i, 2)) (hn : i < nL) (hl' : (i, Value.ref x) :: lv.filter (fun q => !(q.1 == i) && !(q.1 + 1 == i && q.2.category == 2)) = lv') (k : GW p l e R s m args below meth c nL D K E0 B A0 ao Q S ov (pc + 2) lv' st) : GW p l e R s m args below meth c nL D K E0 B A0 ao Q S ov pc lv (.ref x :: st) :=
  fun G H locs ls hP hA hO hS hs h1 h2 hl => lv_astore C.1 C.2.1 d hl hn hl' (fun ls' hl2 => k G H locs ls' hP hA hO hS hs h1 h2 hl2)
theorem gw_iconst (C : wx_Cx p l s m args c meth cc nL hd D K E0 B A0 ao R) {n : Int} (v : Int32) (d : decode cc pc = .ok (.iconst n, 1)) (hv : Int32.ofInt n = v) (k : GW p l e R s m args below meth c nL D K E0 B A0 ao Q S ov (pc + 1) lv (.int v :: st)) : GW p l e R s m args below meth c nL D K E0 B A0 ao Q S ov pc lv st :=
  fun G H locs ls hP hA hO hS hs h1 h2 hl => lv_iconst C.1 C.2.1 d hv (k G H locs ls hP hA hO hS hs h1 h2 hl)
theorem gw_iloadn (C : wx_Cx p l s m args c meth cc nL hd D K E0 B A0 ao R) {n : Fin 4} (j i : Nat) {x : Int32} (d : decode cc pc = .ok (.iload_n n, 1)) (hi : (n : Nat) = i) (hv : lv[j]? = some (i, .int x)) (k : GW p l e R s m args below meth c nL D K E0 B A0 ao Q S ov (pc + 1) lv (.int x :: st)) : GW p l e R s m args below meth c nL D K E0 B A0 ao Q S ov pc lv st :=
  fun G H locs ls hP hA hO hS hs h1 h2 hl => lv_iload_n C.1 C.2.1 d hi (lv_at hl j hv) (k G H locs ls hP hA hO hS hs h1 h2 hl)
theorem gw_iload (C : wx_Cx p l s m args c meth cc nL hd D K E0 B A0 ao R) (j : Nat) {i : Nat} {x : Int32} (d : decode cc pc = .ok (.iload i, 2)) (hv : lv[j]? = some (i, .int x)) (k : GW p l e R s m args below meth c nL D K E0 B A0 ao Q S ov (pc + 2) lv (.int x :: st)) : GW p l e R s m args below meth c nL D K E0 B A0 ao Q S ov pc lv st :=
  fun G H locs ls hP hA hO hS hs h1 h2 hl => lv_iload C.1 C.2.1 d (lv_at hl j hv) (k G H locs ls hP hA hO hS hs h1 h2 hl)
theorem gw_i2l (C : wx_Cx p l s m args c meth cc nL hd D K E0 B A0 ao R) {x : Int32} (d : decode cc pc = .ok (.i2l, 1)) (k : GW p l e R s m args below meth c nL D K E0 B A0 ao Q S ov (pc + 1) lv (.long x.toInt64 :: st)) : GW p l e R s m args below meth c nL D K E0 B A0 ao Q S ov pc lv (.int x :: st) :=
  fun G H locs ls hP hA hO hS hs h1 h2 hl => lv_i2l C.1 C.2.1 d rfl (k G H locs ls hP hA hO hS hs h1 h2 hl)
theorem gw_lconst (C : wx_Cx p l s m args c meth cc nL hd D K E0 B A0 ao R) {n : Fin 2} (v : Int64) (d : decode cc pc = .ok (.lconst n, 1)) (hv : Int64.ofNat (n : Nat) = v) (k : GW p l e R s m args below meth c nL D K E0 B A0 ao Q S ov (pc + 1) lv (.long v :: st)) : GW p l e R s m args below meth c nL D K E0 B A0 ao Q S ov pc lv st :=
  fun G H locs ls hP hA hO hS hs h1 h2 hl => lv_lconst C.1 C.2.1 d hv (k G H locs ls hP hA hO hS hs h1 h2 hl)
theorem gw_goto (C : wx_Cx p l s m args c meth cc nL hd D K E0 B A0 ao R) {off : Int} (tgt : Nat) (d : decode cc pc = .ok (.goto off, 3)) (ht : (pc : Int) + off = (tgt : Int)) (k : GW p l e R s m args below meth c nL D K E0 B A0 ao Q S ov tgt lv st) : GW p l e R s m args below meth c nL D K E0 B A0 ao Q S ov pc lv st :=
  fun G H locs ls hP hA hO hS hs h1 h2 hl => lv_goto C.1 C.2.1 d ht (k G H locs ls hP hA hO hS hs h1 h2 hl)
theorem gw_if_eq (C : wx_Cx p l s m args c meth cc nL hd D K E0 B A0 ao R) {x : Int32} {off : Int} (tgt : Nat) (d : decode cc pc = .ok (.ifCond .eq off, 3)) (ht : (pc : Int) + off = (tgt : Int)) (kt : x = 0 → GW p l e R s m args below meth c nL D K E0 B A0 ao Q S ov tgt lv st) (kf : ¬ x = 0 → GW p l e R s m args below meth c nL D K E0 B A0 ao Q S ov (pc + 3) lv st) : GW p l e R s m args below meth c nL D K E0 B A0 ao Q S ov pc lv (.int x :: st) :=
  fun G H locs ls hP hA hO hS hs h1 h2 hl => lv_if_eq C.1 C.2.1 d ht (fun h => kt h G H locs ls hP hA hO hS hs h1 h2 hl) (fun h => kf h G H locs ls hP hA hO hS hs h1 h2 hl)
theorem gw_sub {lv' : List (Nat × Value)} (ks : List Nat) (hk : lv_pick lv ks = lv') (k : GW p l e R s m args below meth c nL D K E0 B A0 ao Q S ov pc lv' st) : GW p l e R s m args below meth c nL D K E0 B A0 ao Q S ov pc lv st :=
  fun G H locs ls hP hA hO hS hs h1 h2 hl => k G H locs ls hP hA hO hS hs h1 h2 (lv_sub hl ks hk)
/-- the answer is put away -/
theorem gw_out (C : wx_Cx p l s m args c meth cc nL hd D K E0 B A0 ao R) {v : Int64} (d : decode cc pc = .ok (.lastore, 1)) (k : GW p l e R s m args below meth c nL D K E0 B A0 ao Q S (va_up ov 0 v) (pc + 1) lv st) : GW p l e R s m args below meth c nL D K E0 B A0 ao Q S ov pc lv (.long v :: .int 0 :: .ref ao :: st) := by
  intro G H locs ls hP hA hO hS hs h1 h2 hl
  have hc0 : H[ao]? = some (arrV (K 1) 1 (fun j => Value.long (ov j))) := hO
  refine W.last C.1 C.2.1 hc0 ((C.2.2.2.2.2.1.2 1 _ rfl).1 _ _) (fun q => by cases q) (by show ¬ ((0 : Int32) < 0 ∨ (arrV _ _ _).slots.size ≤ _); rw [arrV_size]; decide) rfl rfl d fun H' e1 e2 e3 => ?_
  have hs2 : hsl H' = hsl H := hsl_set e2 hc0 e1 (k2_slotsz _ _ _) e3
  have hP' : RepC D K E0 S G H' := hP.same e2 hs2 (fun a r o' g1 g2 => va_at.kept (hP.1 a r o' g1 g2).1 (e3 a (fun h9 => C.2.2.2.2.2.2.2.2.2.2.2.2.1 (by rw [← h9]; exact hA a (Or.inl (by rw [g1]; exact g2))))))
  have hO' : va_at D vwCl (ao, oE K (va_up ov 0 v)) H' := by
    show H'[ao]? = some (vp_cell _ _)
    rw [e1, vp_cell_l, arrV_store]
    congr 2
    funext q
    show updV (fun j => Value.long (ov j)) (Int32.toNatClampNeg 0) (.long v) q = .long (va_up ov 0 v q)
    rw [show Int32.toNatClampNeg 0 = 0 from rfl]
    by_cases hq : q = 0
    · subst hq
      simp [updV, va_up]
    · simp [updV, va_up, hq]
  have kk := k G H' _ ls hP' hA hO' (hS.put (k := Int32.toNatClampNeg 0) e2 e3 (Or.inr rfl)) (by rw [hs2]; exact hs) h1 h2 hl
  rw [e2, hs2] at kk
  exact kk
def gw_Q (below : List Frame) (D : va_G) (K : Nat → ClassId) (E0 : Nat) (A0 : Nat → Prop) (ao : Nat) (P : Int32 → (Nat → Int64) → CS → Prop) (args : Array Value) (s : State) (R : Room) : State → Prop :=
  vx_MQ below (w_Post D K E0 A0 ao P) (fun _ _ _ => False) args s R.cells R.slots (oA A0 ao)
theorem gw_end (C : wx_Cx p l s m args c meth cc nL hd D K E0 B A0 ao R) {G : CG} {H : Heap} (hP : RepC D K E0 S G H) (h1 : szC S ≤ B.1) (h2 : nsC S ≤ B.2) : H.size - s.heap.size ≤ R.cells ∧ hsl H - hsl s.heap ≤ R.slots := by
  rw [C.2.2.2.2.2.2.1.1, C.2.2.2.2.2.2.1.2, hP.2.2.1, hP.2.2.2]
  omega
theorem gw_iret (C : wx_Cx p l s m args c meth cc nL hd D K E0 B A0 ao R) {v : Int32} {nm : String} {P : Int32 → (Nat → Int64) → CS → Prop} (E : gc_E meth (some .int) nm) (d : decode cc pc = .ok (.ireturn, 1)) (h : P v ov S) : GW p l e R s m args below meth c nL D K E0 B A0 ao (gw_Q below D K E0 A0 ao P args s R) S ov pc lv [.int v] := by
  intro G H locs ls hP hA hO hS hs h1 h2 hl
  have hb := gw_end C hP h1 h2
  exact vx_ret (W.widen (k := R.cells) (n := R.slots) hb.1 hb.2 (W.iret C.1 C.2.1 E.1 (fun u hu hW => ⟨⟨v, S, ov, rfl, h, ⟨G, by rw [hu]; exact hP, hA⟩, by rw [hu]; exact hO⟩, hS.F hu⟩) hS.2.2 d C.2.2.2.2.2.2.2.2.2.1))
theorem w_blind {as : List Value} : FrameBlind (w_Pre D K E0 A0 ao S ov as) := fun a U g mk q => by
  obtain ⟨q0, qW, qK, qS, qE, qO, qN⟩ := q
  exact ⟨q0, qW, va_K.moved (u := U) (U := U.calling g mk a) (Vm.Alike.refl U.vm) qK, StC.moved (u := U) (U := U.calling g mk a) (Vm.Alike.refl U.vm) qS, c_Ev.warm (s := U) (U := U.calling g mk a) (State.WarmedH.refl U) qE, qO, NcS.moved (u := U) (U := U.calling g mk a) (Vm.Alike.refl U.vm) qN⟩
theorem gw_start {y : MethodName} {hh : List (Nat × Nat × Nat × Nat)} {d : Nat} {as : List Value} {P : Int32 → (Nat → Int64) → CS → Prop} (hy : plainName y.cls = true) (hc : y.cls = RL) (hn : (lg_sl as).length ≤ nL)
    (body : ∀ (p : Program) (e : Env) (s : State) (m : MethodId) (args : Array Value) (below : List Frame) (meth : Method) (c : Code), wx_Cx p l s m args c meth cc nL (.codeWith y cc nL (some .int) hh) D K E0 B A0 ao (rmC d B S) → c.exceptionTable.toList = tableOf hh → gc_E meth (some .int) y.name → GW p l e (rmC d B S) s m args below meth c nL D K E0 B A0 ao (gw_Q below D K E0 A0 ao P args s (rmC d B S)) S ov 0 (lv_args 0 as) []) :
    MetW l y cc nL hh d as P D K E0 B A0 ao S ov := by
  intro hst hB1 hB2 hao
  refine vx_ofWH (cc := cc) (maxL := nL) (ret := some .int) (hh := hh) hy rfl ?_
  intro p e s m args below meth c s₁ Bl hml hv
  obtain ⟨rfl, ⟨G, hP, hA⟩, hK, hSt, hE, hO, hN⟩ := hv
  have hts := atoms_spec (ws := .codeWith y cc nL (some .int) hh :: wU) Bl.pre
  have htab := vx_table (x := y) Bl (hts _ List.mem_cons_self)
  have hown : s.vm.findClass RL = some m.cls := by rw [← hc]; exact findClass_of_methodNamed Bl.named
  have hl := lv_entry as (n := nL) hn
  rw [lg_entry_eq]
  have hz : s.heap.size = szC S := hP.2.2.1
  have hz2 : hsl s.heap = nsC S := hP.2.2.2
  have kk := body p e s m as.toArray below meth c ⟨Bl.exec, Bl.bytes, hml, hown, hts, hK, ⟨by rw [hz]; rfl, by rw [hz2]; rfl⟩, hSt, hst, Bl.notSynchronized, fun q hq => hA q (Or.inr (by rw [← hz]; exact hq)), hE, hao, hN⟩ htab ⟨Bl.returns, (name_of_methodNamed Bl.named Bl.method).1⟩ G s.heap [] _ hP hA hO va_S.rf (Nat.le_refl _) hB1 hB2 hl
  rw [Nat.sub_self, Nat.sub_self] at kk
  exact kk
/-- a call of the class's object: it answers, or it throws -/
theorem gw_call (C : wx_Cx p l s m args c meth cc nL hd D K E0 B A0 ao R) {y : MethodName} {cb : ByteArray} {maxL ix n d d2 : Nat} {ret : Option FieldType} {as : List Value} {P : Option Value → CS → Prop} {X : String → CS → Prop} {S0 : CS} (hR : R = rmC d2 B S0) (hd2 : d < d2) (hm : maxL ≤ 29) {o : Nat}
    (hM : MetC l y cb maxL ret d (.ref o :: as) P X D K E0 B A0 S) (hy : y.cls = RX11 ∧ y.cls ≠ "java/lang/invoke/MethodHandle" ∧ y.cls ≠ "java/lang/invoke/VarHandle" ∧ (parseMethodDescriptor y.desc).map (fun d => d.parameters.length) = some n) (hn : as.length = n)
    (hw : ∀ w ∈ ([.methodLink RL ix y, .instanceMethod y, .selects RX11 y y, .initialized RX11] : List Cond), w ∈ wU) (hcode : Cond.code y cb maxL ret ∈ wU) (hg : isC S o 14)
    (hdg : decode cc pc = .ok (.invokevirtual ix, 3)) (hst : (st.map fun v => v.category).sum ≤ 8) (kx : ∀ (E : String) (S' : CS), X E S' → GV p l e R s m args below meth c nL D K E0 B A0 ao Q E S' ov pc lv st) (kk : ∀ (v : Option Value) (S' : CS), P v S' → kdLe S S' → GW p l e R s m args below meth c nL D K E0 B A0 ao Q S' ov (pc + 3) lv (v.toList ++ st)) :
    GW p l e R s m args below meth c nL D K E0 B A0 ao Q S ov pc lv (as.reverse ++ .ref o :: st) := by
  intro G H locs ls hP hA hO hS hs h1 h2 hl T hT X9
  have y1 : H.size = szC S := hP.2.2.1
  have y2 : hsl H = nsC S := hP.2.2.2
  have z0 : s.heap.size ≤ H.size := hS.1
  have hb0 : (H.size - s.heap.size) + (B.1 - szC S) ≤ R.cells ∧ (hsl H - hsl s.heap) + (B.2 - nsC S) ≤ R.slots := by
    rw [C.2.2.2.2.2.2.1.1, C.2.2.2.2.2.2.1.2]
    omega
  have hrun := vx_runV (meth := meth) (below := below) (e := e) (g := F0 m pc ls (as.reverse ++ .ref o :: st)) (locs := locs) (cells := H.size - s.heap.size) (slots := hsl H - hsl s.heap) (As := as) (rest := st) ⟨C.1, C.2.1, C.2.2.1, C.2.2.2.1, C.2.2.2.2.1⟩ (hM C.2.2.2.2.2.2.2.2.1 h1 h2) (cwV n C.2.2.2.2.1 (gU hw hcode) rfl rfl rfl hy ⟨by rw [hR]; exact hd2, by rw [hR]; show 8 + (maxL + 11) + 48 * d ≤ 48 * d2; omega⟩)
    ⟨c_blind, va_recv C.2.2.2.2.2.1 (c_obj hP hg (by decide) (by decide)).2 (ci := 14) (q0 := 0) BX11.1 rfl, fun U hU hW => ⟨rfl, ⟨G, by rw [hU]; exact hP, hA⟩, va_K.moved hW.alike C.2.2.2.2.2.1, by rw [hU]; exact StC.narrow (StC.kept (StC.moved hW.alike C.2.2.2.2.2.2.2.1) hS.2.1) (fun q hq => Or.inl hq), c_Ev.warm hW C.2.2.2.2.2.2.2.2.2.2.2.1⟩⟩ rfl hn hl.1 rfl (lv_room hst) hdg hb0
  have hao := C.2.2.2.2.2.2.2.2.2.2.2.2.1
  have hOlt : ao < H.size := hO.lt
  rcases hrun T hT X9 with ⟨v, st₀, t, T', L, h0, X', hL, e1, e2, ⟨⟨v', S', hv, ⟨hp, hk⟩, G', hP', hA'⟩, hF⟩, stp⟩ | ⟨q, st₀, t, T', L, E, ce, h0, X', hL, e1, e2, ⟨⟨S', hx, G', hP', hA'⟩, hF⟩, hce, hcv, hcl, stp⟩
  · cases hv
    obtain ⟨k1, k2, k3⟩ := vx_keep (A0 := oA A0 ao) h0 e1 hS (fun q _ z => Or.inl z) (fun q z => Or.inl z) hL hF
    have hb := stand_slots X'
    rw [← e1] at hP'
    have z1 : T'.heap.size = szC S' := hP'.2.2.1
    have z2 : hsl T'.heap = nsC S' := hP'.2.2.2
    obtain ⟨t2, a1, b1⟩ := kk v S' hp hk G' T'.heap (locs ++ L) ls hP' hA' (va_at.kept hO (k2 ao hOlt hao)) k3 hb.1 (by omega) (by omega) hl T' rfl (stand_norm X')
    exact ⟨t2, stp t2 a1, b1⟩
  · obtain ⟨k1, k2, k3⟩ := vx_keep (A0 := oA A0 ao) h0 e1 hS (fun q _ z => Or.inl z) (fun q z => Or.inl z) hL hF
    have hb := stand_slots X'
    rw [← e1] at hP'
    obtain ⟨t2, a1, b1⟩ := kx E S' hx G' T'.heap (locs ++ L) ls q ce hP' hA' (va_at.kept hO (k2 ao hOlt hao)) k3 hb.1 (by have z1 : T'.heap.size = szC S' := hP'.2.2.1; omega) (by have z2 : hsl T'.heap = nsC S' := hP'.2.2.2; omega) hl (by rw [e1]; exact hce) hcv hcl T' rfl (stand_norm X')
    exact ⟨t2, stp.trans a1, b1⟩
/-- the row of the table that takes it -/
theorem gw_catch (C : wx_Cx p l s m args c meth cc nL hd D K E0 B A0 ao R) {hh : List (Nat × Nat × Nat × Nat)} (htab : c.exceptionTable.toList = tableOf hh) {E : String} (pre : List (Nat × Nat × Nat × Nat)) (x : Nat × Nat × Nat × Nat) (suf : List (Nat × Nat × Nat × Nat)) (hsp : hh = pre ++ x :: suf)
    (hpass : ∀ z ∈ pre, z.2.2.2 ≠ 0 ∧ ∃ nm : String, Cond.classLink RL z.2.2.2 nm ∈ wU ∧ nm ∈ exA ∧ E ≠ nm) (hE : E ∈ exA) (hx : (decide (x.1 ≤ pc) && decide (pc < x.2.1)) = true) (h0 : x.2.2.2 ≠ 0) (hlink : Cond.classLink RL x.2.2.2 E ∈ wU) (hcast : Cond.castable E E ∈ nwL)
    (hq : ∀ q : Nat, GW p l e R s m args below meth c nL D K E0 B A0 ao Q S ov x.2.2.1 lv [.ref q]) : GV p l e R s m args below meth c nL D K E0 B A0 ao Q E S ov pc lv st := by
  intro G H locs ls q ce hP hA hO hS hs h1 h2 hl hce hcv hcl
  have hw := C.2.2.2.2.2.2.2.2.2.2.2.1.1
  refine vx_catch (own := RL) (name := E) C.2.2.2.1 (tableOf pre) ⟨x.1, x.2.1, x.2.2.1, x.2.2.2⟩ (tableOf suf) (by rw [htab, hsp]; simp [tableOf]) (fun z hz => ?_) hx h0 (C.2.2.2.2.1 _ (List.mem_cons_of_mem _ hlink)) (va_Nw.use rfl (hw _ hcast)) hce hcv hcl ?_
  · obtain ⟨z', hz', rfl⟩ := List.mem_map.mp hz
    obtain ⟨a1, nm, a2, a3, a4⟩ := hpass z' hz'
    exact Or.inr ⟨a1, nm, C.2.2.2.2.1 _ (List.mem_cons_of_mem _ a2), C.2.2.2.2.2.2.2.2.2.2.2.2.2 E hE nm a3 a4⟩
  · exact hq q G H locs ls hP hA hO hS hs h1 h2 hl
end GW
