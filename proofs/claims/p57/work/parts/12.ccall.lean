/-! CONTRACTS OF THE CLASS'S METHODS: entry, ends, calls, throws -/
/-- an object that is made keeps its class -/
def kdLe (S S' : CS) : Prop := ∀ o, kdC S o ≠ 0 → kdC S o < 100 → kdC S' o = kdC S o
theorem kdLe.rf (S : CS) : kdLe S S := fun _ _ _ => rfl
theorem kdLe.tr {S T U : CS} (h : kdLe S T) (h2 : kdLe T U) : kdLe S U := fun o h0 h1 => by rw [h2 o (by rw [h o h0 h1]; exact h0) (by rw [h o h0 h1]; exact h1), h o h0 h1]
theorem kdLe.eq {S T : CS} (h : kdC T = kdC S) : kdLe S T := fun _ _ _ => by rw [h]
theorem kdLe.k {S T : CS} (h : kdLe S T) {o ci : Nat} (hc : kdC S o = ci) (h0 : ci ≠ 0) (h1 : ci < 100) : kdC T o = ci := by rw [h o (by rw [hc]; exact h0) (by rw [hc]; exact h1), hc]
theorem isC_of {S : CS} {o ci : Nat} (h : kdC S o = ci) (h1 : ci < 100) : isC S o ci := by unfold isC; omega
def rsz (S : CS) (sz ns : Nat) : CS := mkC (kdC S) (fI S) (fA S) (fJ S) (fR S) (fQ S) (fL S) (fC S) sz ns
def rmC (d : Nat) (B : Nat × Nat) (S : CS) : Room := { frames := d, cells := B.1 - szC S, slots := B.2 - nsC S, locals := 48 * d }
def c_W (D : va_G) (K : Nat → ClassId) (E0 : Nat) (A0 : Nat → Prop) (S : CS) (U : State) : Prop := ∃ G : CG, RepC D K E0 S G U.heap ∧ ∀ q, gA G (szC S) q → A0 q
def c_Pre (D : va_G) (K : Nat → ClassId) (E0 : Nat) (A0 : Nat → Prop) (S : CS) (as : List Value) : Array Value → State → Prop := va_Pc as (fun U => c_W D K E0 A0 S U ∧ va_K D vwCl (c_tys K) U ∧ StC E0 A0 U U.heap ∧ c_Ev U)
def c_Post (D : va_G) (K : Nat → ClassId) (E0 : Nat) (A0 : Nat → Prop) (P : Option Value → CS → Prop) : Array Value → State → Outcome → State → Prop := fun _ st o u => (∃ (v : Option Value) (S' : CS), o = .returned v ∧ P v S' ∧ c_W D K E0 A0 S' u) ∧ va_F A0 st u
def c_PX (D : va_G) (K : Nat → ClassId) (E0 : Nat) (A0 : Nat → Prop) (X : String → CS → Prop) : String → State → State → Prop := fun E st t => (∃ S' : CS, X E S' ∧ c_W D K E0 A0 S' t) ∧ va_F A0 st t
def MetC (l : Launch) (y : MethodName) (cc : ByteArray) (nL : Nat) (ret : Option FieldType) (d : Nat) (as : List Value) (P : Option Value → CS → Prop) (X : String → CS → Prop) (D : va_G) (K : Nat → ClassId) (E0 : Nat) (B : Nat × Nat) (A0 : Nat → Prop) (S : CS) : Prop :=
  l.stackTraces = false → szC S ≤ B.1 → nsC S ≤ B.2 → vx_Met l y (.code y cc nL ret :: wU) (rmC d B S) (c_Pre D K E0 A0 S as) (c_Post D K E0 A0 (fun v S' => P v S' ∧ kdLe S S')) (c_PX D K E0 A0 X) (B.1 - szC S) (B.2 - nsC S) A0
def gc_E (meth : Method) (ret : Option FieldType) (nm : String) : Prop := meth.sig.returnType = ret ∧ meth.name = nm
def gc_Q (below : List Frame) (D : va_G) (K : Nat → ClassId) (E0 : Nat) (A0 : Nat → Prop) (P : Option Value → CS → Prop) (X : String → CS → Prop) (args : Array Value) (s : State) (S0 : CS) (R : Room) : State → Prop :=
  vx_MQ below (c_Post D K E0 A0 (fun v S' => P v S' ∧ kdLe S0 S')) (c_PX D K E0 A0 X) args s R.cells R.slots A0
theorem c_blind {D : va_G} {K : Nat → ClassId} {E0 : Nat} {A0 : Nat → Prop} {S : CS} {as : List Value} : FrameBlind (c_Pre D K E0 A0 S as) := fun a U g mk q => by
  obtain ⟨q0, qW, qK, qS, qE⟩ := q
  exact ⟨q0, qW, va_K.moved (u := U) (U := U.calling g mk a) (Vm.Alike.refl U.vm) qK, StC.moved (u := U) (U := U.calling g mk a) (Vm.Alike.refl U.vm) qS, c_Ev.warm (s := U) (U := U.calling g mk a) (State.WarmedH.refl U) qE⟩
section VXI
variable {p : Program} {l : Launch} {e : Env} {R : Room} {s : State} {m : MethodId} {args : Array Value} {below : List Frame} {meth : Method} {c : Code} {T : State} {H : Heap} {locs : List Loc} {cells slots : Nat}

theorem vx_callI (X : Stand p l e R s m args below meth c T locs cells slots) (hexec : p.tables.exec = Jvm.exec) {own : String} {index : Nat} {y : MethodName} {bytes : ByteArray} {maxL : Nat}
    (hown : s.vm.findClass own = some m.cls) (hy1 : y.name = "<init>") (hlink : (Cond.methodLink own index y).before args s = true) (hinst : (Cond.instanceMethod y).before args s = true)
    (hcode : (Cond.code y bytes maxL none).before args s = true) (hy : y.cls ≠ "java/lang/invoke/MethodHandle" ∧ y.cls ≠ "java/lang/invoke/VarHandle")
    {W9 : Nat} {Pre : Pt → Array Value → Prop} {Post : Pt → Array Value → Option Value → Pt → Prop} {PostX : Pt → Array Value → Addr → Pt → Prop} (hK : vx_Back l R p e below s args y 3 W9 Pre Post PostX)
    {g : JFrame} (hg : g.method = m) (hsize : g.locals.size = c.maxLocals) {a : Addr} {argsL rest : List Value} (hlen : ∀ sig, parseMethodDescriptor y.desc = some sig → argsL.length = sig.parameters.length)
    (hstack : g.stack = argsL.reverse ++ .ref a :: rest) (hW : 2 * g.monitorRoom + (rest.map fun v => v.category).sum ≤ W9) (hdg : decode c.code g.pc = .ok (.invokespecial index, 3))
    (hpre : ∀ vm₁, s.WarmedH vm₁ → Pre ⟨T.setVm vm₁, locs, cells, slots⟩ (Value.ref a :: argsL).toArray) :
    (∃ (v : Option Value) (vm₁ : Vm) (B : Pt), s.WarmedH vm₁ ∧ Stand p l e R s m args below meth c B.U B.locs B.cells B.slots ∧ Post ⟨T.setVm vm₁, locs, cells, slots⟩ (Value.ref a :: argsL).toArray v B ∧
      ∀ target, Steps p.tables e below (B.U.setTop { g with pc := g.pc + 3, stack := v.toList ++ rest }) target → Steps p.tables e below (T.setTop g) target) ∨
    (∃ (q : Addr) (vm₁ : Vm) (B : Pt), s.WarmedH vm₁ ∧ Stand p l e R s m args below meth c B.U B.locs B.cells B.slots ∧ PostX ⟨T.setVm vm₁, locs, cells, slots⟩ (Value.ref a :: argsL).toArray q B ∧
      Steps p.tables e below (T.setTop g) ((B.U.setTop { g with stack := rest }).pushFrame (.throwing q))) := by
  subst hg
  have hpl : e.platform.magicAccessors = ({} : Platform).magicAccessors := by rw [X.admits.platform]
  obtain ⟨mk, methM, cM, kP, vm₁, hnamed, hmethM, hcodeM, -, hlocalsM, -, hkP, -, hW₁, hstep₁⟩ := Steps.initColdArgs (e := e) X.here hexec X.warmed hpl hown hy1 hy hlink hinst hcode (f := g) rfl hlen hstack hdg
  have X₁ := X.noted hW₁
  rcases hK g.method meth c ⟨T.setVm vm₁, locs, cells, slots⟩ { g with stack := rest } (.invokespecial index) mk (Value.ref a :: argsL).toArray X₁ rfl hsize hdg hW (X₁.named hnamed) (hpre vm₁ X₁.warmed) with ⟨v, B, X', hpost, hsteps⟩ | ⟨q, B, X', hpost, hsteps⟩
  · exact Or.inl ⟨v, vm₁, B, X₁.warmed, X', hpost, fun target h => hstep₁ _ fun acts => by rw [doInvoke_state]; exact hsteps.trans h⟩
  · exact Or.inr ⟨q, vm₁, B, X₁.warmed, X', hpost, hstep₁ _ fun acts => by rw [doInvoke_state]; exact hsteps⟩
theorem vx_callIN (X : Stand p l e R s m args below meth c T locs cells slots) (hexec : p.tables.exec = Jvm.exec) {own : String} {index : Nat} {host : String} {y : MethodName} {bytes : ByteArray} {maxL : Nat}
    (hown : s.vm.findClass own = some m.cls) (hy1 : y.name = "<init>") (hlink : (Cond.methodLinkNest own index y host).before args s = true) (hinst : (Cond.instanceMethod y).before args s = true)
    (hcode : (Cond.code y bytes maxL none).before args s = true) (hy : y.cls ≠ "java/lang/invoke/MethodHandle" ∧ y.cls ≠ "java/lang/invoke/VarHandle")
    {W9 : Nat} {Pre : Pt → Array Value → Prop} {Post : Pt → Array Value → Option Value → Pt → Prop} {PostX : Pt → Array Value → Addr → Pt → Prop} (hK : vx_Back l R p e below s args y 3 W9 Pre Post PostX)
    {g : JFrame} (hg : g.method = m) (hsize : g.locals.size = c.maxLocals) {a : Addr} {argsL rest : List Value} (hlen : ∀ sig, parseMethodDescriptor y.desc = some sig → argsL.length = sig.parameters.length)
    (hstack : g.stack = argsL.reverse ++ .ref a :: rest) (hW : 2 * g.monitorRoom + (rest.map fun v => v.category).sum ≤ W9) (hdg : decode c.code g.pc = .ok (.invokespecial index, 3))
    (hpre : ∀ vm₁, s.WarmedH vm₁ → Pre ⟨T.setVm vm₁, locs, cells, slots⟩ (Value.ref a :: argsL).toArray) :
    (∃ (v : Option Value) (vm₁ : Vm) (B : Pt), s.WarmedH vm₁ ∧ Stand p l e R s m args below meth c B.U B.locs B.cells B.slots ∧ Post ⟨T.setVm vm₁, locs, cells, slots⟩ (Value.ref a :: argsL).toArray v B ∧
      ∀ target, Steps p.tables e below (B.U.setTop { g with pc := g.pc + 3, stack := v.toList ++ rest }) target → Steps p.tables e below (T.setTop g) target) ∨
    (∃ (q : Addr) (vm₁ : Vm) (B : Pt), s.WarmedH vm₁ ∧ Stand p l e R s m args below meth c B.U B.locs B.cells B.slots ∧ PostX ⟨T.setVm vm₁, locs, cells, slots⟩ (Value.ref a :: argsL).toArray q B ∧
      Steps p.tables e below (T.setTop g) ((B.U.setTop { g with stack := rest }).pushFrame (.throwing q))) := by
  subst hg
  have hpl : e.platform.magicAccessors = ({} : Platform).magicAccessors := by rw [X.admits.platform]
  obtain ⟨mk, methM, cM, kP, vm₁, hnamed, hmethM, hcodeM, -, hlocalsM, -, hkP, -, hW₁, hstep₁⟩ := Steps.initColdArgsNest (e := e) X.here hexec X.warmed hpl hown hy1 hy hlink hinst hcode (f := g) rfl hlen hstack hdg
  have X₁ := X.noted hW₁
  rcases hK g.method meth c ⟨T.setVm vm₁, locs, cells, slots⟩ { g with stack := rest } (.invokespecial index) mk (Value.ref a :: argsL).toArray X₁ rfl hsize hdg hW (X₁.named hnamed) (hpre vm₁ X₁.warmed) with ⟨v, B, X', hpost, hsteps⟩ | ⟨q, B, X', hpost, hsteps⟩
  · exact Or.inl ⟨v, vm₁, B, X₁.warmed, X', hpost, fun target h => hstep₁ _ fun acts => by rw [doInvoke_state]; exact hsteps.trans h⟩
  · exact Or.inr ⟨q, vm₁, B, X₁.warmed, X', hpost, hstep₁ _ fun acts => by rw [doInvoke_state]; exact hsteps⟩
variable {y : MethodName} {bytes cc : ByteArray} {maxL nL mc ms n index : Nat} {ret : Option FieldType} {ws : List Cond} {rm : Room} {Pc : Array Value → State → Prop} {Qc : Array Value → State → Outcome → State → Prop} {XC : String → State → State → Prop} {free : Addr → Prop} {Ts : List Cond} {own C : String} {b : Addr} {As rest : List Value} {g : JFrame}
theorem vx_runI (S : CallFix p m c cc nL s args Ts own) (hM : vx_Met l y ws rm Pc Qc XC mc ms free) (cw : CallB R s args own index y bytes maxL none ws rm mc ms n ∧ y.name = "<init>" ∧ (Cond.instanceMethod y).before args s = true) (hp : PreS s H Pc (.ref b :: As))
    (hg : g.method = m) (hn : As.length = n) (hsize : g.locals.size = nL) (hstack : g.stack = As.reverse ++ .ref b :: rest) (hW : 2 * g.monitorRoom + (rest.map fun v => v.category).sum ≤ 8) (hdg : decode cc g.pc = .ok (.invokespecial index, 3)) (hf : cells + mc ≤ R.cells ∧ slots + ms ≤ R.slots) :
    vx_Run p l e R s m args below meth c H locs cells slots mc ms g rest (Qc (Value.ref b :: As).toArray) XC free := by
  have hK : vx_Back l R p e below s args y 3 8 (PreOf R mc ms Pc) (PostOf Qc mc ms free) (vx_Post XC mc ms free) := vx_callBack cw.1 hM hp.1
  obtain ⟨⟨-, -, -, -, -, -, hcode, -, hy, hlen, hl⟩, hy1, hin⟩ := cw
  obtain ⟨hx, hb, hml, ho, -⟩ := S
  have hPc := hp.2
  intro T hT X
  rcases vx_callI X hx (bytes := bytes) (maxL := maxL) ho hy1 hl hin hcode hy hK hg (hsize.trans hml.symm) (a := b) (argsL := As) (rest := rest) (fun sig h => hn.trans (hlen sig h)) hstack hW (by rw [hb]; exact hdg)
    (fun vm₁ hW₁ => ⟨hf.1, hf.2, hPc (T.setVm vm₁) hT hW₁⟩) with ⟨v, vm₁, ⟨U', l2, c2, s2⟩, hW₁, X', ⟨g', mk, t, L, e1, e2, hq, h1, hL, h2, h3⟩, st⟩ | ⟨q, vm₁, ⟨U', l2, c2, s2⟩, hW₁, X', ⟨g', mk, t, L, E, ce, e1, e2, hq, hce, hcv, hcl, h1, hL, h2, h3⟩, st⟩
  · dsimp only [Pt.U, Pt.locs, Pt.cells, Pt.slots] at X' e1 e2 h1 h2 h3 st
    subst h1; subst h2; subst h3
    exact Or.inl ⟨v, (T.setVm vm₁).calling g' mk (Value.ref b :: As).toArray, t, U', L, hT, X', hL, e1, e2, hq, st⟩
  · dsimp only [Pt.U, Pt.locs, Pt.cells, Pt.slots] at X' e1 e2 h1 h2 h3 st hcl
    subst h1; subst h2; subst h3
    exact Or.inr ⟨q, (T.setVm vm₁).calling g' mk (Value.ref b :: As).toArray, t, U', L, E, ce, hT, X', hL, e1, e2, hq, hce, hcv, vx_cls hW₁ hcl, st⟩
theorem vx_runIN {y : MethodName} {bytes cc : ByteArray} {maxL nL mc ms n index : Nat} {ws : List Cond} {rm : Room} {Pc : Array Value → State → Prop} {Qc : Array Value → State → Outcome → State → Prop} {XC : String → State → State → Prop} {free : Addr → Prop} {Ts : List Cond} {own host : String} {b : Addr} {As rest : List Value} {g : JFrame}
    (S : CallFix p m c cc nL s args Ts own) (hM : vx_Met l y ws rm Pc Qc XC mc ms free) (cw : va_CN R s args own index y host bytes maxL none ws rm mc ms n ∧ y.name = "<init>" ∧ (Cond.instanceMethod y).before args s = true) (hp : PreS s H Pc (.ref b :: As))
    (hg : g.method = m) (hn : As.length = n) (hsize : g.locals.size = nL) (hstack : g.stack = As.reverse ++ .ref b :: rest) (hW : 2 * g.monitorRoom + (rest.map fun v => v.category).sum ≤ 8) (hdg : decode cc g.pc = .ok (.invokespecial index, 3)) (hf : cells + mc ≤ R.cells ∧ slots + ms ≤ R.slots) :
    vx_Run p l e R s m args below meth c H locs cells slots mc ms g rest (Qc (Value.ref b :: As).toArray) XC free := by
  obtain ⟨⟨⟨hrc, hrs, hfr, hlo, hws, hcw⟩, hcode, hini, hy, hlen, hl⟩, hx1, hx2⟩ := cw
  have hK : vx_Back l R p e below s args y 3 8 (PreOf R mc ms Pc) (PostOf Qc mc ms free) (vx_Post XC mc ms free) := vx_back (bytes := bytes) (maxL := maxL) (ret := none) hM hp.1 hrc hrs hfr hlo hws hcw (fun a' U hW => word_at hW (Or.inl (by first | rfl | simp [Cond.onTables, Cond.keeps, Cond.steady])) hini)
  obtain ⟨hx, hb, hml, ho, -⟩ := S
  have hPc := hp.2
  intro T hT X
  rcases vx_callIN X hx (bytes := bytes) (maxL := maxL) ho hx1 hl hx2 hcode hy hK hg (hsize.trans hml.symm) (a := b) (argsL := As) (rest := rest) (fun sig h => hn.trans (hlen sig h)) hstack hW (by rw [hb]; exact hdg)
    (fun vm₁ hW₁ => ⟨hf.1, hf.2, hPc (T.setVm vm₁) hT hW₁⟩) with ⟨v, vm₁, ⟨U', l2, c2, s2⟩, hW₁, X', ⟨g', mk, t, L, e1, e2, hq, h1, hL, h2, h3⟩, st⟩ | ⟨q, vm₁, ⟨U', l2, c2, s2⟩, hW₁, X', ⟨g', mk, t, L, E, ce, e1, e2, hq, hce, hcv, hcl, h1, hL, h2, h3⟩, st⟩
  · dsimp only [Pt.U, Pt.locs, Pt.cells, Pt.slots] at X' e1 e2 h1 h2 h3 st
    subst h1; subst h2; subst h3
    exact Or.inl ⟨v, (T.setVm vm₁).calling g' mk (Value.ref b :: As).toArray, t, U', L, hT, X', hL, e1, e2, hq, st⟩
  · dsimp only [Pt.U, Pt.locs, Pt.cells, Pt.slots] at X' e1 e2 h1 h2 h3 st hcl
    subst h1; subst h2; subst h3
    exact Or.inr ⟨q, (T.setVm vm₁).calling g' mk (Value.ref b :: As).toArray, t, U', L, E, ce, hT, X', hL, e1, e2, hq, hce, hcv, vx_cls hW₁ hcl, st⟩
end VXI
section GCU
variable {p : Program} {l : Launch} {e : Env} {R : Room} {s : State} {m : MethodId} {args : Array Value} {below : List Frame} {meth : Method} {c : Code} {Q : State → Prop}
variable {cc : ByteArray} {nL : Nat} {own : String} {hd : Cond} {D : va_G} {K : Nat → ClassId} {E0 : Nat} {B : Nat × Nat} {A0 : Nat → Prop}
variable {S : CS} {pc : Nat} {lv : List (Nat × Value)} {st : List Value} {P0 : Option Value → CS → Prop} {X0 : String → CS → Prop} {S0 : CS}

theorem gc_start {y : MethodName} {ret : Option FieldType} {d : Nat} {as : List Value} {P : Option Value → CS → Prop} {X : String → CS → Prop} (hy : plainName y.cls = true) (hc : y.cls = own) (hn : (lg_sl as).length ≤ nL)
    (body : ∀ (p : Program) (e : Env) (s : State) (m : MethodId) (args : Array Value) (below : List Frame) (meth : Method) (c : Code), gc_Cx p l s m args c meth cc nL own (.code y cc nL ret) D K E0 B A0 (rmC d B S) → gc_E meth ret y.name → GC p l e (rmC d B S) s m args below meth c nL D K E0 B A0 (gc_Q below D K E0 A0 P X args s S (rmC d B S)) S 0 (lv_args 0 as) []) :
    MetC l y cc nL ret d as P X D K E0 B A0 S := by
  intro hst hB1 hB2
  refine vx_ofW (cc := cc) (maxL := nL) (ret := ret) hy rfl ?_
  intro p e s m args below meth c s₁ Bl hml ht hv
  obtain ⟨rfl, ⟨G, hP, hA⟩, hK, hSt, hE⟩ := hv
  have hts := atoms_spec (ws := .code y cc nL ret :: wU) Bl.pre
  have hown : s.vm.findClass own = some m.cls := by rw [← hc]; exact findClass_of_methodNamed Bl.named
  have hl := lv_entry as (n := nL) hn
  rw [lg_entry_eq]
  have hz : s.heap.size = szC S := hP.2.2.1
  have hz2 : hsl s.heap = nsC S := hP.2.2.2
  have kk := body p e s m as.toArray below meth c ⟨Bl.exec, Bl.bytes, hml, hown, hts, hK, ⟨by rw [hz]; rfl, by rw [hz2]; rfl⟩, hSt, hst, ht, Bl.notSynchronized, fun q hq => hA q (Or.inr (by rw [← hz]; exact hq)), hE⟩ ⟨Bl.returns, (name_of_methodNamed Bl.named Bl.method).1⟩ G s.heap [] _ hP hA va_S.rf (Nat.le_refl _) hB1 hB2 hl
  rw [Nat.sub_self, Nat.sub_self] at kk
  exact kk
theorem gc_end (C : gc_Cx p l s m args c meth cc nL own hd D K E0 B A0 R) {G : CG} {H : Heap} (hP : RepC D K E0 S G H) (h1 : szC S ≤ B.1) (h2 : nsC S ≤ B.2) : H.size - s.heap.size ≤ R.cells ∧ hsl H - hsl s.heap ≤ R.slots := by
  rw [C.2.2.2.2.2.2.1.1, C.2.2.2.2.2.2.1.2, hP.2.2.1, hP.2.2.2]
  omega
theorem gc_iret (C : gc_Cx p l s m args c meth cc nL own hd D K E0 B A0 R) {v : Int32} {nm : String} (E : gc_E meth (some .int) nm)  (hk : kdLe S0 S) (d : decode cc pc = .ok (.ireturn, 1)) (h : P0 (some (.int v)) S) : GC p l e R s m args below meth c nL D K E0 B A0 (gc_Q below D K E0 A0 P0 X0 args s S0 R) S pc lv [.int v] := by
  intro G H locs ls hP hA hS hs h1 h2 hl
  have hb := gc_end C hP h1 h2
  exact vx_ret (W.widen (k := R.cells) (n := R.slots) hb.1 hb.2 (W.iret C.1 C.2.1 E.1 (fun u hu hW => ⟨⟨_, S, rfl, ⟨h, hk⟩, G, by rw [hu]; exact hP, hA⟩, hS.F hu⟩) hS.2.2 d C.2.2.2.2.2.2.2.2.2.2.1))
theorem gc_zret (C : gc_Cx p l s m args c meth cc nL own hd D K E0 B A0 R) {v : Int32} {nm : String} (E : gc_E meth (some .boolean) nm) (hv : gb v) (hk : kdLe S0 S) (d : decode cc pc = .ok (.ireturn, 1)) (h : P0 (some (.int v)) S) : GC p l e R s m args below meth c nL D K E0 B A0 (gc_Q below D K E0 A0 P0 X0 args s S0 R) S pc lv [.int v] := by
  intro G H locs ls hP hA hS hs h1 h2 hl
  have hb := gc_end C hP h1 h2
  exact vx_ret (W.widen (k := R.cells) (n := R.slots) hb.1 hb.2 (W.zret C.1 C.2.1 E.1 (gb_nar hv) (fun u hu hW => ⟨⟨_, S, rfl, ⟨h, hk⟩, G, by rw [hu]; exact hP, hA⟩, hS.F hu⟩) hS.2.2 d C.2.2.2.2.2.2.2.2.2.2.1))
theorem gc_vret (C : gc_Cx p l s m args c meth cc nL own hd D K E0 B A0 R)  {nm : String} (E : gc_E meth none nm)  (hk : kdLe S0 S) (d : decode cc pc = .ok (.return_, 1)) (h : P0 none S) : GC p l e R s m args below meth c nL D K E0 B A0 (gc_Q below D K E0 A0 P0 X0 args s S0 R) S pc lv [] := by
  intro G H locs ls hP hA hS hs h1 h2 hl
  have hb := gc_end C hP h1 h2
  exact vx_ret (W.widen (k := R.cells) (n := R.slots) hb.1 hb.2 (W.vret C.1 C.2.1 E.1 (fun u hu hW => ⟨⟨_, S, rfl, ⟨h, hk⟩, G, by rw [hu]; exact hP, hA⟩, hS.F hu⟩) hS.2.2 d C.2.2.2.2.2.2.2.2.2.2.1))
theorem gc_aret (C : gc_Cx p l s m args c meth cc nL own hd D K E0 B A0 R) {v : Option Nat} {rt : String} {nm : String} (E : gc_E meth (some (.object rt)) nm)  (hk : kdLe S0 S) (d : decode cc pc = .ok (.areturn, 1)) (h : P0 (some (va_rf v)) S) : GC p l e R s m args below meth c nL D K E0 B A0 (gc_Q below D K E0 A0 P0 X0 args s S0 R) S pc lv [va_rf v] := by
  intro G H locs ls hP hA hS hs h1 h2 hl
  have hb := gc_end C hP h1 h2
  exact vx_ret (W.widen (k := R.cells) (n := R.slots) hb.1 hb.2 (W.aret C.1 C.2.1 E.1 (Or.inl ⟨_, rfl⟩) (va_rf_or v) (fun u hu hW => ⟨⟨_, S, rfl, ⟨h, hk⟩, G, by rw [hu]; exact hP, hA⟩, hS.F hu⟩) hS.2.2 d C.2.2.2.2.2.2.2.2.2.2.1))
theorem gc_ret0 {v : Nat} (k : GC p l e R s m args below meth c nL D K E0 B A0 (gc_Q below D K E0 A0 P0 X0 args s S0 R) S pc lv (va_rf (some v) :: st)) : GC p l e R s m args below meth c nL D K E0 B A0 (gc_Q below D K E0 A0 P0 X0 args s S0 R) S pc lv (.ref v :: st) := k
theorem gc_run (C : gc_Cx p l s m args c meth cc nL own hd D K E0 B A0 R) {P : Option Value → CS → Prop} {X : String → CS → Prop} {rest st0 : List Value} {a : Array Value}
    (hr : ∀ (G : CG) (H : Heap) (locs : List Loc) (ls : Array Slot), RepC D K E0 S G H → (∀ q, gA G (szC S) q → A0 q) → va_S A0 s.heap H locs → szC S ≤ B.1 → nsC S ≤ B.2 → lv_has ls nL lv → (H.size - s.heap.size) + (B.1 - szC S) ≤ R.cells ∧ (hsl H - hsl s.heap) + (B.2 - nsC S) ≤ R.slots → vx_Run p l e R s m args below meth c H locs (H.size - s.heap.size) (hsl H - hsl s.heap) (B.1 - szC S) (B.2 - nsC S) (F0 m pc ls st0) rest (c_Post D K E0 A0 (fun v S' => P v S' ∧ kdLe S S') a) (c_PX D K E0 A0 X) A0)
    (kx : ∀ (E : String) (S' : CS), X E S' → X0 E S')
    (kk : ∀ (v : Option Value) (S' : CS), P v S' → kdLe S S' → GC p l e R s m args below meth c nL D K E0 B A0 (gc_Q below D K E0 A0 P0 X0 args s S0 R) S' (pc + 3) lv (v.toList ++ rest)) : GC p l e R s m args below meth c nL D K E0 B A0 (gc_Q below D K E0 A0 P0 X0 args s S0 R) S pc lv st0 := by
  intro G H locs ls hP hA hS hs h1 h2 hl T hT X9
  have y1 : H.size = szC S := hP.2.2.1
  have y2 : hsl H = nsC S := hP.2.2.2
  have z0 : s.heap.size ≤ H.size := hS.1
  have hb0 : (H.size - s.heap.size) + (B.1 - szC S) ≤ R.cells ∧ (hsl H - hsl s.heap) + (B.2 - nsC S) ≤ R.slots := by
    rw [C.2.2.2.2.2.2.1.1, C.2.2.2.2.2.2.1.2]
    omega
  rcases hr G H locs ls hP hA hS h1 h2 hl hb0 T hT X9 with ⟨v, st₀, t, T', L, h0, X', hL, e1, e2, ⟨⟨v', S', hv, ⟨hp, hk⟩, G', hP', hA'⟩, hF⟩, stp⟩ | ⟨q, st₀, t, T', L, E, ce, h0, X', hL, e1, e2, ⟨⟨S', hx, G', hP', hA'⟩, hF⟩, hce, hcv, hcl, stp⟩
  · cases hv
    obtain ⟨k1, k2, k3⟩ := vx_keep h0 e1 hS (fun q _ z => z) (fun q z => z) hL hF
    have hb := stand_slots X'
    rw [← e1] at hP'
    have z1 : T'.heap.size = szC S' := hP'.2.2.1
    have z2 : hsl T'.heap = nsC S' := hP'.2.2.2
    obtain ⟨t2, a1, b1⟩ := kk v S' hp hk G' T'.heap (locs ++ L) ls hP' hA' k3 hb.1 (by omega) (by omega) hl T' rfl (stand_norm X')
    exact ⟨t2, stp t2 a1, b1⟩
  · obtain ⟨k1, k2, k3⟩ := vx_keep h0 e1 hS (fun q _ z => z) (fun q z => z) hL hF
    rw [← e1] at hP'
    obtain ⟨t2, a1, b1⟩ := vx_out (p := p) (l := l) (e := e) (R := R) (s := s) (m := m) (args := args) (below := below) (meth := meth) (c := c) (H := T'.heap) (locs := locs ++ L) (free := A0) (pc := pc) (ls := ls) (rest := rest) (E := E) (ce := ce) (q := q) (Qc := c_Post D K E0 A0 (fun v S' => P0 v S' ∧ kdLe S0 S')) (XC := c_PX D K E0 A0 X0) (mc := R.cells) (ms := R.slots)
      (fun x hx9 => (C.2.2.2.2.2.2.2.2.2.1 x hx9).elim) C.2.2.2.2.2.2.2.2.2.2.1 (by rw [e1]; exact hce) hcv hcl (fun t9 ht9 _ => ⟨⟨S', kx E S' hx, G', by rw [ht9]; exact hP', hA'⟩, va_S.F k3 ht9⟩) k3.2.2 hb0.1 hb0.2 T' rfl X'
    exact ⟨t2, stp.trans a1, b1⟩
theorem gc_callV (C : gc_Cx p l s m args c meth cc nL own hd D K E0 B A0 R) {ci : Nat} {CN : String} {T : u_T} {N : Nat} {ty : Nat → FieldType} (B0 : c_Cls ci CN T N ty) {y : MethodName} {cb : ByteArray} {maxL ix n d d2 : Nat} {ret : Option FieldType} {as : List Value} {P : Option Value → CS → Prop} {X : String → CS → Prop} (hR : R = rmC d2 B S0) (hd2 : d < d2) (hm : maxL ≤ 29) {o : Nat}
    (hM : MetC l y cb maxL ret d (.ref o :: as) P X D K E0 B A0 S) (hy : y.cls = CN ∧ y.cls ≠ "java/lang/invoke/MethodHandle" ∧ y.cls ≠ "java/lang/invoke/VarHandle" ∧ (parseMethodDescriptor y.desc).map (fun d => d.parameters.length) = some n) (hn : as.length = n)
    (hw : ∀ w ∈ ([.methodLink own ix y, .instanceMethod y, .selects CN y y, .initialized CN] : List Cond), w ∈ wU) (hcode : Cond.code y cb maxL ret ∈ wU) (hg : isC S o ci)
    (hdg : decode cc pc = .ok (.invokevirtual ix, 3)) (hst : (st.map fun v => v.category).sum ≤ 8) (kx : ∀ (E : String) (S' : CS), X E S' → X0 E S') (kk : ∀ (v : Option Value) (S' : CS), P v S' → kdLe S S' → GC p l e R s m args below meth c nL D K E0 B A0 (gc_Q below D K E0 A0 P0 X0 args s S0 R) S' (pc + 3) lv (v.toList ++ st)) :
    GC p l e R s m args below meth c nL D K E0 B A0 (gc_Q below D K E0 A0 P0 X0 args s S0 R) S pc lv (as.reverse ++ .ref o :: st) := by
  refine gc_run C (a := (Value.ref o :: as).toArray) (fun G H locs ls hP hA hS h1 h2 hl hb0 => ?_) kx kk
  exact vx_runV (As := as) (rest := st) ⟨C.1, C.2.1, C.2.2.1, C.2.2.2.1, C.2.2.2.2.1⟩ (hM C.2.2.2.2.2.2.2.2.1 h1 h2) (cwV n C.2.2.2.2.1 (gU hw hcode) rfl rfl rfl hy ⟨by rw [hR]; exact hd2, by rw [hR]; show 8 + (maxL + 11) + 48 * d ≤ 48 * d2; omega⟩)
    ⟨c_blind, va_recv C.2.2.2.2.2.1 (c_obj hP hg B0.2.2.2.2.2.1 B0.2.2.2.2.2.2).2 (ci := ci) (q0 := 0) B0.1 rfl, fun U hU hW => ⟨rfl, ⟨G, by rw [hU]; exact hP, hA⟩, va_K.moved hW.alike C.2.2.2.2.2.1, by rw [hU]; exact StC.kept (StC.moved hW.alike C.2.2.2.2.2.2.2.1) hS.2.1, c_Ev.warm hW C.2.2.2.2.2.2.2.2.2.2.2.2⟩⟩ rfl hn hl.1 rfl (lv_room hst) hdg hb0
theorem gc_callS (C : gc_Cx p l s m args c meth cc nL own hd D K E0 B A0 R) {CN : String} {y : MethodName} {cb : ByteArray} {maxL ix n d d2 : Nat} {ret : Option FieldType} {as : List Value} {P : Option Value → CS → Prop} {X : String → CS → Prop} (hR : R = rmC d2 B S0) (hd2 : d < d2) (hm : maxL ≤ 29)
    (hM : MetC l y cb maxL ret d as P X D K E0 B A0 S) (hy : y.cls = CN ∧ y.cls ≠ "java/lang/invoke/MethodHandle" ∧ y.cls ≠ "java/lang/invoke/VarHandle" ∧ (parseMethodDescriptor y.desc).map (fun d => d.parameters.length) = some n) (hn : as.length = n)
    (hw : ∀ w ∈ ([.methodLink own ix y, .static y, .initialized CN] : List Cond), w ∈ wU) (hcode : Cond.code y cb maxL ret ∈ wU)
    (hdg : decode cc pc = .ok (.invokestatic ix, 3)) (hst : (st.map fun v => v.category).sum ≤ 8) (kx : ∀ (E : String) (S' : CS), X E S' → X0 E S') (kk : ∀ (v : Option Value) (S' : CS), P v S' → kdLe S S' → GC p l e R s m args below meth c nL D K E0 B A0 (gc_Q below D K E0 A0 P0 X0 args s S0 R) S' (pc + 3) lv (v.toList ++ st)) :
    GC p l e R s m args below meth c nL D K E0 B A0 (gc_Q below D K E0 A0 P0 X0 args s S0 R) S pc lv (as.reverse ++ st) := by
  obtain ⟨hCN, hy⟩ := hy
  subst hCN
  refine gc_run C (a := as.toArray) (fun G H locs ls hP hA hS h1 h2 hl hb0 => ?_) kx kk
  exact vx_runS (As := as) (rest := st) ⟨C.1, C.2.1, C.2.2.1, C.2.2.2.1, C.2.2.2.2.1⟩ (hM C.2.2.2.2.2.2.2.2.1 h1 h2) (va_cwS n C.2.2.2.2.1 (gU hw hcode) rfl rfl rfl hy ⟨by rw [hR]; exact hd2, by rw [hR]; show 8 + (maxL + 11) + 48 * d ≤ 48 * d2; omega⟩)
    ⟨c_blind, fun U hU hW => ⟨rfl, ⟨G, by rw [hU]; exact hP, hA⟩, va_K.moved hW.alike C.2.2.2.2.2.1, by rw [hU]; exact StC.kept (StC.moved hW.alike C.2.2.2.2.2.2.2.1) hS.2.1, c_Ev.warm hW C.2.2.2.2.2.2.2.2.2.2.2.2⟩⟩ rfl hn hl.1 rfl (lv_room hst) hdg hb0
theorem gc_callI (C : gc_Cx p l s m args c meth cc nL own hd D K E0 B A0 R) {CN : String} {y : MethodName} {cb : ByteArray} {maxL ix n d d2 : Nat} {as : List Value} {P : Option Value → CS → Prop} {X : String → CS → Prop} (hR : R = rmC d2 B S0) (hd2 : d < d2) (hm : maxL ≤ 29) {o : Nat}
    (hM : MetC l y cb maxL none d (.ref o :: as) P X D K E0 B A0 S) (hy : y.cls = CN ∧ y.cls ≠ "java/lang/invoke/MethodHandle" ∧ y.cls ≠ "java/lang/invoke/VarHandle" ∧ (parseMethodDescriptor y.desc).map (fun d => d.parameters.length) = some n) (hn : as.length = n) (hi : y.name = "<init>")
    (hw : ∀ w ∈ ([.methodLink own ix y, .instanceMethod y, .initialized CN] : List Cond), w ∈ wU) (hcode : Cond.code y cb maxL none ∈ wU)
    (hdg : decode cc pc = .ok (.invokespecial ix, 3)) (hst : (st.map fun v => v.category).sum ≤ 8) (kx : ∀ (E : String) (S' : CS), X E S' → X0 E S') (kk : ∀ (v : Option Value) (S' : CS), P v S' → kdLe S S' → GC p l e R s m args below meth c nL D K E0 B A0 (gc_Q below D K E0 A0 P0 X0 args s S0 R) S' (pc + 3) lv (v.toList ++ st)) :
    GC p l e R s m args below meth c nL D K E0 B A0 (gc_Q below D K E0 A0 P0 X0 args s S0 R) S pc lv (as.reverse ++ .ref o :: st) := by
  obtain ⟨hCN, hy⟩ := hy
  subst hCN
  refine gc_run C (a := (Value.ref o :: as).toArray) (fun G H locs ls hP hA hS h1 h2 hl hb0 => ?_) kx kk
  exact vx_runI (As := as) (rest := st) ⟨C.1, C.2.1, C.2.2.1, C.2.2.2.1, C.2.2.2.2.1⟩ (hM C.2.2.2.2.2.2.2.2.1 h1 h2) (cwI n C.2.2.2.2.1 (fun w h => gU (pre := []) (fun w h => by cases h) hcode w h) rfl rfl rfl (C.2.2.2.2.1 _ (List.mem_cons_of_mem _ (hw _ (by simp)))) (C.2.2.2.2.1 _ (List.mem_cons_of_mem _ (hw _ (by simp)))) (C.2.2.2.2.1 _ (List.mem_cons_of_mem _ (hw _ (by simp)))) hi hy ⟨by rw [hR]; exact hd2, by rw [hR]; show 8 + (maxL + 11) + 48 * d ≤ 48 * d2; omega⟩)
    ⟨c_blind, fun U hU hW => ⟨rfl, ⟨G, by rw [hU]; exact hP, hA⟩, va_K.moved hW.alike C.2.2.2.2.2.1, by rw [hU]; exact StC.kept (StC.moved hW.alike C.2.2.2.2.2.2.2.1) hS.2.1, c_Ev.warm hW C.2.2.2.2.2.2.2.2.2.2.2.2⟩⟩ rfl hn hl.1 rfl (lv_room hst) hdg hb0
theorem gc_callIN (C : gc_Cx p l s m args c meth cc nL own hd D K E0 B A0 R) {CN host : String} {y : MethodName} {cb : ByteArray} {maxL ix n d d2 : Nat} {as : List Value} {P : Option Value → CS → Prop} {X : String → CS → Prop} (hR : R = rmC d2 B S0) (hd2 : d < d2) (hm : maxL ≤ 29) {o : Nat}
    (hM : MetC l y cb maxL none d (.ref o :: as) P X D K E0 B A0 S) (hy : y.cls = CN ∧ y.cls ≠ "java/lang/invoke/MethodHandle" ∧ y.cls ≠ "java/lang/invoke/VarHandle" ∧ (parseMethodDescriptor y.desc).map (fun d => d.parameters.length) = some n) (hn : as.length = n) (hi : y.name = "<init>")
    (hw0 : Cond.methodLinkNest own ix y host ∈ nwL) (hw : ∀ w ∈ ([.instanceMethod y, .initialized CN] : List Cond), w ∈ wU) (hcode : Cond.code y cb maxL none ∈ wU)
    (hdg : decode cc pc = .ok (.invokespecial ix, 3)) (hst : (st.map fun v => v.category).sum ≤ 8) (kx : ∀ (E : String) (S' : CS), X E S' → X0 E S') (kk : ∀ (v : Option Value) (S' : CS), P v S' → kdLe S S' → GC p l e R s m args below meth c nL D K E0 B A0 (gc_Q below D K E0 A0 P0 X0 args s S0 R) S' (pc + 3) lv (v.toList ++ st)) :
    GC p l e R s m args below meth c nL D K E0 B A0 (gc_Q below D K E0 A0 P0 X0 args s S0 R) S pc lv (as.reverse ++ .ref o :: st) := by
  obtain ⟨hCN, hy⟩ := hy
  subst hCN
  refine gc_run C (a := (Value.ref o :: as).toArray) (fun G H locs ls hP hA hS h1 h2 hl hb0 => ?_) kx kk
  exact vx_runIN (As := as) (rest := st) ⟨C.1, C.2.1, C.2.2.1, C.2.2.2.1, C.2.2.2.2.1⟩ (hM C.2.2.2.2.2.2.2.2.1 h1 h2) ⟨va_cnB n C.2.2.2.2.1 (fun w h => gU (pre := []) (fun w h => by cases h) hcode w h) rfl rfl rfl (C.2.2.2.2.2.2.2.2.2.2.2.2.1 _ hw0) (C.2.2.2.2.1 _ (List.mem_cons_of_mem _ (hw _ (by simp)))) hy ⟨by rw [hR]; exact hd2, by rw [hR]; show 8 + (maxL + 11) + 48 * d ≤ 48 * d2; omega⟩, hi, C.2.2.2.2.1 _ (List.mem_cons_of_mem _ (hw _ (by simp)))⟩
    ⟨c_blind, fun U hU hW => ⟨rfl, ⟨G, by rw [hU]; exact hP, hA⟩, va_K.moved hW.alike C.2.2.2.2.2.1, by rw [hU]; exact StC.kept (StC.moved hW.alike C.2.2.2.2.2.2.2.1) hS.2.1, c_Ev.warm hW C.2.2.2.2.2.2.2.2.2.2.2.2⟩⟩ rfl hn hl.1 rfl (lv_room hst) hdg hb0
def c_exn : List String := ["java/lang/RuntimeException", "java/lang/Exception"]
/-- what is wanted to throw an exception of a class with a text -/
def c_Exc (own : String) (ik ic : Nat) (cls : String) : Prop := Bundle.fit cls = true ∧ Cond.classLink own ik cls ∈ wU ∧ Cond.initialized cls ∈ wU ∧ (∀ w ∈ vx_atS own ic cls c_exn, w ∈ wU ∨ (w ∈ nwL ∧ w.onTables = true)) ∧ (∀ w ∈ Cond.classLink own ik cls :: Cond.initialized cls :: vx_atS own ic cls c_exn, vx_ot w = true)
theorem RepC.rsz {G : CG} {H H' : Heap} (hP : RepC D K E0 S G H) (hz : H.size ≤ H'.size) (hq : ∀ q, q < H.size → H'[q]? = H[q]?) : RepC D K E0 (rsz S H'.size (hsl H')) G H' := by
  refine ⟨fun a r o h1 h2 => ?_, hP.2.1, rfl, rfl⟩
  obtain ⟨g1, g2, g3⟩ := hP.1 a r o h1 h2
  exact ⟨va_at.kept (show va_at D vwCl (a, c_ce K E0 S G r o) H from g1) (hq a g1.lt), g2, g3⟩
theorem gc_throwS (C : gc_Cx p l s m args c meth cc nL own hd D K E0 B A0 R) {ik is ic d2 : Nat} {cls text : String} (hR : R = rmC d2 B S0) (hd : 6 ≤ d2) (hst : (st.map fun v => v.category).sum ≤ 8) (hex : c_Exc own ik ic cls) (hstr : (own, is, text) ∈ c_strs)
    (d0 : decode cc pc = .ok (.new ik, 3)) (d3 : decode cc (pc + 3) = .ok (.dup, 1)) (d4 : decode cc (pc + 4) = .ok (.ldc is, 2)) (d6 : decode cc (pc + 6) = .ok (.invokespecial ic, 3)) (d9 : decode cc (pc + 9) = .ok (.athrow, 1))
    (hroom : szC S + 1 ≤ B.1 ∧ nsC S + 6 ≤ B.2) (hX : ∀ sz ns : Nat, X0 cls (rsz S sz ns)) : GC p l e R s m args below meth c nL D K E0 B A0 (gc_Q below D K E0 A0 P0 X0 args s S0 R) S pc lv st := by
  intro G H locs ls hP hA hS hs h1 h2 hl
  obtain ⟨hfit, hk, hini, hat, hgood⟩ := hex
  obtain ⟨sa, hsa⟩ := C.2.2.2.2.2.2.2.2.2.2.2.2.2.1 _ hstr
  have y1 : H.size = szC S := hP.2.2.1
  have y2 : hsl H = nsC S := hP.2.2.2
  have hRf : R.frames = d2 ∧ R.locals = 48 * d2 := by rw [hR]; exact ⟨rfl, rfl⟩
  have hc1 : H.size - s.heap.size + 1 ≤ R.cells ∧ hsl H - hsl s.heap + 6 ≤ R.slots := by
    have z0 : s.heap.size ≤ H.size := hS.1
    rw [C.2.2.2.2.2.2.1.1, C.2.2.2.2.2.2.1.2]
    omega
  exact vx_throwS (names := c_exn) (A := A0) C.1 C.2.1 C.2.2.2.2.2.2.2.2.1 C.2.2.2.1 hfit (by decide) (C.2.2.2.2.1 _ (List.mem_cons_of_mem _ hk)) (C.2.2.2.2.1 _ (List.mem_cons_of_mem _ hini)) hsa (fun w hw => (hat w hw).elim (fun h => C.2.2.2.2.1 _ (List.mem_cons_of_mem _ h)) (fun h => va_Nw.use h.2 (C.2.2.2.2.2.2.2.2.2.2.2.2.1 _ h.1))) hgood
    C.2.2.2.2.2.2.2.1.2.2.1 C.2.2.2.2.2.2.2.1.2.2.2 hS (by rw [C.2.2.1]; exact hl.1) d0 d3 d4 d6 d9 (fun x hx9 => (C.2.2.2.2.2.2.2.2.2.1 x hx9).elim) (by show 2 + 3 < _; omega) (by show _ + (13 * (2 + 1) + 43) ≤ _; omega) hc1.1 hc1.2 C.2.2.2.2.2.2.2.2.2.2.1
    (fun t hv hz hq => ⟨⟨rsz S t.heap.size (hsl t.heap), hX _ _, G, hP.rsz hz hq, fun q hq2 => hA q (hq2.imp id (fun h => Nat.le_trans (by show szC S ≤ t.heap.size; omega) h))⟩, Nat.le_trans hS.1 hz, fun q h3 h4 => (hq q (Nat.lt_of_lt_of_le h3 hS.1)).trans (hS.2.1 q h3 h4)⟩) hS.2.2 hc1.1 hc1.2
theorem gc_throwSW (C : gc_Cx p l s m args c meth cc nL own hd D K E0 B A0 R) {ik is ic d2 : Nat} {cls text : String} (hR : R = rmC d2 B S0) (hd : 6 ≤ d2) (hst : (st.map fun v => v.category).sum ≤ 8) (hex : c_Exc own ik ic cls) (hstr : (own, is, text) ∈ c_strs)
    (d0 : decode cc pc = .ok (.new ik, 3)) (d3 : decode cc (pc + 3) = .ok (.dup, 1)) (d4 : decode cc (pc + 4) = .ok (.ldc_w is, 3)) (d6 : decode cc (pc + 7) = .ok (.invokespecial ic, 3)) (d9 : decode cc (pc + 10) = .ok (.athrow, 1))
    (hroom : szC S + 1 ≤ B.1 ∧ nsC S + 6 ≤ B.2) (hX : ∀ sz ns : Nat, X0 cls (rsz S sz ns)) : GC p l e R s m args below meth c nL D K E0 B A0 (gc_Q below D K E0 A0 P0 X0 args s S0 R) S pc lv st := by
  intro G H locs ls hP hA hS hs h1 h2 hl
  obtain ⟨hfit, hk, hini, hat, hgood⟩ := hex
  obtain ⟨sa, hsa⟩ := C.2.2.2.2.2.2.2.2.2.2.2.2.2.1 _ hstr
  have y1 : H.size = szC S := hP.2.2.1
  have y2 : hsl H = nsC S := hP.2.2.2
  have hRf : R.frames = d2 ∧ R.locals = 48 * d2 := by rw [hR]; exact ⟨rfl, rfl⟩
  have hc1 : H.size - s.heap.size + 1 ≤ R.cells ∧ hsl H - hsl s.heap + 6 ≤ R.slots := by
    have z0 : s.heap.size ≤ H.size := hS.1
    rw [C.2.2.2.2.2.2.1.1, C.2.2.2.2.2.2.1.2]
    omega
  exact vx_throwSW (names := c_exn) (A := A0) C.1 C.2.1 C.2.2.2.2.2.2.2.2.1 C.2.2.2.1 hfit (by decide) (C.2.2.2.2.1 _ (List.mem_cons_of_mem _ hk)) (C.2.2.2.2.1 _ (List.mem_cons_of_mem _ hini)) hsa (fun w hw => (hat w hw).elim (fun h => C.2.2.2.2.1 _ (List.mem_cons_of_mem _ h)) (fun h => va_Nw.use h.2 (C.2.2.2.2.2.2.2.2.2.2.2.2.1 _ h.1))) hgood
    C.2.2.2.2.2.2.2.1.2.2.1 C.2.2.2.2.2.2.2.1.2.2.2 hS (by rw [C.2.2.1]; exact hl.1) d0 d3 d4 d6 d9 (fun x hx9 => (C.2.2.2.2.2.2.2.2.2.1 x hx9).elim) (by show 2 + 3 < _; omega) (by show _ + (13 * (2 + 1) + 43) ≤ _; omega) hc1.1 hc1.2 C.2.2.2.2.2.2.2.2.2.2.1
    (fun t hv hz hq => ⟨⟨rsz S t.heap.size (hsl t.heap), hX _ _, G, hP.rsz hz hq, fun q hq2 => hA q (hq2.imp id (fun h => Nat.le_trans (by show szC S ≤ t.heap.size; omega) h))⟩, Nat.le_trans hS.1 hz, fun q h3 h4 => (hq q (Nat.lt_of_lt_of_le h3 hS.1)).trans (hS.2.1 q h3 h4)⟩) hS.2.2 hc1.1 hc1.2
theorem gc_objInit (C : gc_Cx p l s m args c meth cc nL own hd D K E0 B A0 R) {ix d2 : Nat} {o : Nat} (hR : R = rmC d2 B S0) (hd : 1 ≤ d2) (hw : ∀ w ∈ ([.methodLink own ix Lib.objectInit, .instanceMethod Lib.objectInit, .code Lib.objectInit ⟨#[0xb1]⟩ 1 none] : List Cond), w ∈ wU) (hst : (st.map fun v => v.category).sum ≤ 8) (hdg : decode cc pc = .ok (.invokespecial ix, 3))
    (k : GC p l e R s m args below meth c nL D K E0 B A0 (gc_Q below D K E0 A0 P0 X0 args s S0 R) S (pc + 3) lv st) : GC p l e R s m args below meth c nL D K E0 B A0 (gc_Q below D K E0 A0 P0 X0 args s S0 R) S pc lv (.ref o :: st) := by
  intro G H locs ls hP hA hS hs h1 h2 hl
  have hRf : R.frames = d2 ∧ R.locals = 48 * d2 := by rw [hR]; exact ⟨rfl, rfl⟩
  exact W.objInit C.1 C.2.1 C.2.2.2.1 (C.2.2.2.2.1 _ (List.mem_cons_of_mem _ (hw _ (by simp)))) (C.2.2.2.2.1 _ (List.mem_cons_of_mem _ (hw _ (by simp)))) (C.2.2.2.2.1 _ (List.mem_cons_of_mem _ (hw _ (by simp)))) rfl (by rw [C.2.2.1]; exact hl.1) rfl hdg (by omega) (by show 2 * 0 + _ + 12 ≤ _; omega) (k G H locs ls hP hA hS hs h1 h2 hl)
/-- posts: an answer of a number; of a reference or null; nothing -/
def qI (P : Int32 → CS → Prop) : Option Value → CS → Prop := fun v S' => ∃ r : Int32, v = some (.int r) ∧ P r S'
def qO (P : Option Nat → CS → Prop) : Option Value → CS → Prop := fun v S' => ∃ r : Option Nat, v = some (va_rf r) ∧ P r S'
def qR (P : Nat → CS → Prop) : Option Value → CS → Prop := fun v S' => ∃ r : Nat, v = some (.ref r) ∧ P r S'
def qV (P : CS → Prop) : Option Value → CS → Prop := fun v S' => v = none ∧ P S'
theorem qkI {P : Int32 → CS → Prop} (k : ∀ (r : Int32) (S' : CS), P r S' → kdLe S S' → GC p l e R s m args below meth c nL D K E0 B A0 Q S' (pc + 3) lv (.int r :: st)) : ∀ (v : Option Value) (S' : CS), qI P v S' → kdLe S S' → GC p l e R s m args below meth c nL D K E0 B A0 Q S' (pc + 3) lv (v.toList ++ st) := by
  rintro v S' ⟨r, rfl, h⟩ hk
  exact k r S' h hk
theorem qkO {P : Option Nat → CS → Prop} (k : ∀ (r : Option Nat) (S' : CS), P r S' → kdLe S S' → GC p l e R s m args below meth c nL D K E0 B A0 Q S' (pc + 3) lv (va_rf r :: st)) : ∀ (v : Option Value) (S' : CS), qO P v S' → kdLe S S' → GC p l e R s m args below meth c nL D K E0 B A0 Q S' (pc + 3) lv (v.toList ++ st) := by
  rintro v S' ⟨r, rfl, h⟩ hk
  exact k r S' h hk
theorem qkR {P : Nat → CS → Prop} (k : ∀ (r : Nat) (S' : CS), P r S' → kdLe S S' → GC p l e R s m args below meth c nL D K E0 B A0 Q S' (pc + 3) lv (.ref r :: st)) : ∀ (v : Option Value) (S' : CS), qR P v S' → kdLe S S' → GC p l e R s m args below meth c nL D K E0 B A0 Q S' (pc + 3) lv (v.toList ++ st) := by
  rintro v S' ⟨r, rfl, h⟩ hk
  exact k r S' h hk
theorem qkV {P : CS → Prop} (k : ∀ (S' : CS), P S' → kdLe S S' → GC p l e R s m args below meth c nL D K E0 B A0 Q S' (pc + 3) lv st) : ∀ (v : Option Value) (S' : CS), qV P v S' → kdLe S S' → GC p l e R s m args below meth c nL D K E0 B A0 Q S' (pc + 3) lv (v.toList ++ st) := by
  rintro v S' ⟨rfl, h⟩ hk
  exact k S' h hk
end GCU
