/-! THE MODEL'S METHODS: entry, ends, calls -/
def gb (v : Int32) : Prop := v = 0 ∨ v = 1
theorem gb_nar {v : Int32} (h : gb v) : narrow .boolean (.int v) = .int v := by rcases h with rfl | rfl <;> rfl
section GC
variable {p : Program} {l : Launch} {e : Env} {R : Room} {s : State} {m : MethodId} {args : Array Value} {below : List Frame} {meth : Method} {c : Code} {Q : State → Prop}
variable {cc : ByteArray} {nL : Nat} {hd : Cond} {D : va_G} {cI cZ : ClassId} {mo : Nat} {ad : Nat → Nat}
variable {t : MS} {pc : Nat} {lv : List (Nat × Value)} {st : List Value}
def gm_E (meth : Method) (ret : Option FieldType) : Prop := meth.sig.returnType = ret ∧ meth.locks = false
def gm_Q (below : List Frame) (D : va_G) (cI cZ : ClassId) (mo : Nat) (ad : Nat → Nat) (P : Option Value → MS → Prop) (args : Array Value) (s : State) : State → Prop := MQ below (m_Post D cI cZ mo ad P) args s 0 0 (m_A mo ad)
theorem m_FrameBlind {as : List Value} : FrameBlind (m_Pre D cI cZ mo ad t as) := fun a U g mk q => by
  obtain ⟨q0, qP, qK⟩ := q
  exact ⟨q0, qP, va_K.moved (u := U) (U := U.calling g mk a) (Vm.Alike.refl U.vm) qK⟩
theorem gm_start {y : MethodName} {ret : Option FieldType} {d : Nat} {as : List Value} {post : MS → Option Value → MS → Prop} (hy : plainName y.cls = true) (hc : y.cls = RX12) (hn : (lg_sl as).length ≤ nL)
    (body : ∀ (p : Program) (e : Env) (s : State) (m : MethodId) (args : Array Value) (below : List Frame) (meth : Method) (c : Code), gm_Cx p s m args c cc nL (.code y cc nL ret) D cI cZ mo ad → gm_E meth ret → GM p l e (rmD d) s m args below meth c nL D cI cZ mo ad (gm_Q below D cI cZ mo ad (post t) args s) t 0 (lv_args 0 as) []) :
    MetM l y cc nL ret d as post D cI cZ mo ad t := by
  intro hap
  refine Met.ofW (cc := cc) (maxL := nL) (ret := ret) hy rfl ?_
  intro p e s m args below meth c s₁ B hml hv
  obtain ⟨rfl, hP, hK⟩ := hv
  have hts := atoms_spec (ws := .code y cc nL ret :: wU) B.pre
  have hown : s.vm.findClass RX12 = some m.cls := by rw [← hc]; exact findClass_of_methodNamed B.named
  have hl := lv_entry as (n := nL) hn
  rw [lg_entry_eq]
  exact body p e s m as.toArray below meth c ⟨B.exec, B.bytes, hml, hown, hts, hK, hap⟩ ⟨B.returns, B.notSynchronized⟩ s.heap [] _ hP va_S.rf (fun q h => by cases h) hl
theorem gm_iret (C : gm_Cx p s m args c cc nL hd D cI cZ mo ad) (E : gm_E meth (some .int)) {P : Option Value → MS → Prop} {v : Int32} (d : decode cc pc = .ok (.ireturn, 1)) (h : P (some (.int v)) t) : GM p l e R s m args below meth c nL D cI cZ mo ad (gm_Q below D cI cZ mo ad P args s) t pc lv [.int v] :=
  fun H locs ls hP hS hL hl => W.iret C.1 C.2.1 E.1 (fun u hu hW => ⟨⟨_, t, rfl, h, by rw [hu]; exact hP⟩, hS.F hu⟩) hL d E.2
theorem gm_zret (C : gm_Cx p s m args c cc nL hd D cI cZ mo ad) (E : gm_E meth (some .boolean)) {P : Option Value → MS → Prop} {v : Int32} (hv : gb v) (d : decode cc pc = .ok (.ireturn, 1)) (h : P (some (.int v)) t) : GM p l e R s m args below meth c nL D cI cZ mo ad (gm_Q below D cI cZ mo ad P args s) t pc lv [.int v] :=
  fun H locs ls hP hS hL hl => W.zret C.1 C.2.1 E.1 (gb_nar hv) (fun u hu hW => ⟨⟨_, t, rfl, h, by rw [hu]; exact hP⟩, hS.F hu⟩) hL d E.2
theorem gm_vret (C : gm_Cx p s m args c cc nL hd D cI cZ mo ad) (E : gm_E meth none) {P : Option Value → MS → Prop} (d : decode cc pc = .ok (.return_, 1)) (h : P none t) : GM p l e R s m args below meth c nL D cI cZ mo ad (gm_Q below D cI cZ mo ad P args s) t pc lv [] :=
  fun H locs ls hP hS hL hl => W.vret C.1 C.2.1 E.1 (fun u hu hW => ⟨⟨_, t, rfl, h, by rw [hu]; exact hP⟩, hS.F hu⟩) hL d E.2
theorem gm_run {y : MethodName} {free : Addr → Prop} {P : Option Value → MS → Prop} {rest st0 : List Value} {a : Array Value}
    (hr : ∀ (H : Heap) (locs : List Loc) (ls : Array Slot), va_P D vwCl (m_ws cI cZ mo ad t) H → va_S (m_A mo ad) s.heap H locs → lv_has ls nL lv → va_Run p l e R s m args below meth c H locs 0 0 0 0 (F0 m pc ls st0) rest (m_Post D cI cZ mo ad P a) (m_A mo ad))
    (kk : ∀ (v : Option Value) (t' : MS), P v t' → GM p l e R s m args below meth c nL D cI cZ mo ad Q t' (pc + 3) lv (v.toList ++ rest)) : GM p l e R s m args below meth c nL D cI cZ mo ad Q t pc lv st0 := by
  intro H locs ls hP hS hL hl T hT X
  obtain ⟨v, st₀, t1, T', L, h0, X', hL', e1, e2, ⟨⟨v', t', hv, hp, hPP⟩, hz, hk⟩, stp⟩ := hr H locs ls hP hS hl T hT X
  cases hv
  rw [h0] at hz hk
  obtain ⟨t2, a1, b1⟩ := kk v t' hp T'.heap (locs ++ L) ls (by rw [e1]; exact hPP)
    ⟨Nat.le_trans hS.1 (by rw [e1]; exact hz), fun q h1 h2 => by rw [e1, hk q (Nat.lt_of_lt_of_le h1 hS.1) h2]; exact hS.2.1 q h1 h2, fun q hq => by
      rcases List.mem_append.mp hq with h | h
      · exact hL q h
      · exact hL' q h⟩
    (fun q hq => by
      rcases List.mem_append.mp hq with h | h
      · exact hL q h
      · exact hL' q h) hl T' rfl X'
  exact ⟨t2, stp t2 a1, b1⟩
theorem gm_callV (C : gm_Cx p s m args c cc nL hd D cI cZ mo ad) {y : MethodName} {cb : ByteArray} {maxL ix n d d2 : Nat} {ret : Option FieldType} {as : List Value} {post : MS → Option Value → MS → Prop} (hR : R = rmD d2) (hd2 : d < d2) (hm : maxL ≤ 29)
    (hM : MetM l y cb maxL ret d (.ref mo :: as) post D cI cZ mo ad t)
    (hy : y.cls = RX12 ∧ y.cls ≠ "java/lang/invoke/MethodHandle" ∧ y.cls ≠ "java/lang/invoke/VarHandle" ∧ (parseMethodDescriptor y.desc).map (fun d => d.parameters.length) = some n) (hn : as.length = n)
    (hw : ∀ w ∈ ([.methodLink RX12 ix y, .instanceMethod y, .selects RX12 y y, .initialized RX12] : List Cond), w ∈ wU) (hcode : Cond.code y cb maxL ret ∈ wU)
    (hdg : decode cc pc = .ok (.invokevirtual ix, 3)) (hst : (st.map fun v => v.category).sum ≤ 8)
    (kk : ∀ (v : Option Value) (t' : MS), post t v t' → GM p l e R s m args below meth c nL D cI cZ mo ad Q t' (pc + 3) lv (v.toList ++ st)) :
    GM p l e R s m args below meth c nL D cI cZ mo ad Q t pc lv (as.reverse ++ .ref mo :: st) := by
  subst hR
  refine gm_run (y := y) (free := m_A mo ad) (P := post t) (rest := st) (a := (Value.ref mo :: as).toArray) (fun H locs ls hP hS hl => ?_) kk
  exact va_runV (As := as) (rest := st) ⟨C.1, C.2.1, C.2.2.1, C.2.2.2.1, C.2.2.2.2.1⟩ (hM C.2.2.2.2.2.2) (cwV n C.2.2.2.2.1 (gU hw hcode) rfl rfl rfl hy ⟨hd2, by show 8 + (maxL + 11) + 48 * d ≤ 48 * d2; omega⟩)
    ⟨m_FrameBlind, va_recv C.2.2.2.2.2.1 hP (ci := 15) (q0 := 0) rfl rfl, fun U hU hW => ⟨rfl, by rw [hU]; exact hP, va_K.moved hW.alike C.2.2.2.2.2.1⟩⟩ rfl hn hl.1 rfl (lv_room hst) hdg ⟨Nat.zero_le _, Nat.zero_le _⟩
theorem gm_callS (C : gm_Cx p s m args c cc nL hd D cI cZ mo ad) {y : MethodName} {cb : ByteArray} {maxL ix n d d2 : Nat} {ret : Option FieldType} {as : List Value} {post : MS → Option Value → MS → Prop} (hR : R = rmD d2) (hd2 : d < d2) (hm : maxL ≤ 29)
    (hM : MetM l y cb maxL ret d as post D cI cZ mo ad t)
    (hy : y.cls = RX12 ∧ y.cls ≠ "java/lang/invoke/MethodHandle" ∧ y.cls ≠ "java/lang/invoke/VarHandle" ∧ (parseMethodDescriptor y.desc).map (fun d => d.parameters.length) = some n) (hn : as.length = n)
    (hw : ∀ w ∈ ([.methodLink RX12 ix y, .static y, .initialized RX12] : List Cond), w ∈ wU) (hcode : Cond.code y cb maxL ret ∈ wU)
    (hdg : decode cc pc = .ok (.invokestatic ix, 3)) (hst : (st.map fun v => v.category).sum ≤ 8)
    (kk : ∀ (v : Option Value) (t' : MS), post t v t' → GM p l e R s m args below meth c nL D cI cZ mo ad Q t' (pc + 3) lv (v.toList ++ st)) :
    GM p l e R s m args below meth c nL D cI cZ mo ad Q t pc lv (as.reverse ++ st) := by
  subst hR
  refine gm_run (y := y) (free := m_A mo ad) (P := post t) (rest := st) (a := as.toArray) (fun H locs ls hP hS hl => ?_) kk
  exact va_runS (As := as) (rest := st) ⟨C.1, C.2.1, C.2.2.1, C.2.2.2.1, C.2.2.2.2.1⟩ (hM C.2.2.2.2.2.2) (cwS n C.2.2.2.2.1 (gU hw hcode) rfl rfl rfl hy ⟨hd2, by show 8 + (maxL + 11) + 48 * d ≤ 48 * d2; omega⟩)
    ⟨m_FrameBlind, fun U hU hW => ⟨rfl, by rw [hU]; exact hP, va_K.moved hW.alike C.2.2.2.2.2.1⟩⟩ rfl hn hl.1 rfl (lv_room hst) hdg ⟨Nat.zero_le _, Nat.zero_le _⟩
/-- posts: an answer of a number; nothing -/
def pI (P : Int32 → MS → Prop) : MS → Option Value → MS → Prop := fun _ v t' => ∃ r : Int32, v = some (.int r) ∧ P r t'
def pV (P : MS → Prop) : MS → Option Value → MS → Prop := fun _ v t' => v = none ∧ P t'
theorem kI {P : Int32 → MS → Prop} {lv : List (Nat × Value)} {st : List Value} (k : ∀ (r : Int32) (t' : MS), P r t' → GM p l e R s m args below meth c nL D cI cZ mo ad Q t' (pc + 3) lv (.int r :: st)) : ∀ (v : Option Value) (t' : MS), pI P t v t' → GM p l e R s m args below meth c nL D cI cZ mo ad Q t' (pc + 3) lv (v.toList ++ st) := by
  rintro v t' ⟨r, rfl, h⟩
  exact k r t' h
theorem kV {P : MS → Prop} {lv : List (Nat × Value)} {st : List Value} (k : ∀ (t' : MS), P t' → GM p l e R s m args below meth c nL D cI cZ mo ad Q t' (pc + 3) lv st) : ∀ (v : Option Value) (t' : MS), pV P t v t' → GM p l e R s m args below meth c nL D cI cZ mo ad Q t' (pc + 3) lv (v.toList ++ st) := by
  rintro v t' ⟨rfl, h⟩
  exact k t' h
theorem gm_sub {lv' : List (Nat × Value)} (ks : List Nat) (hk : lv_pick lv ks = lv') (k : GM p l e R s m args below meth c nL D cI cZ mo ad Q t pc lv' st) : GM p l e R s m args below meth c nL D cI cZ mo ad Q t pc lv st :=
  fun H locs ls hP hS hL hl => k H locs ls hP hS hL (lv_sub hl ks hk)
theorem gm_nameT (k : ∀ t1 : MS, t1 = t → GM p l e R s m args below meth c nL D cI cZ mo ad Q t1 pc lv st) : GM p l e R s m args below meth c nL D cI cZ mo ad Q t pc lv st := k t rfl
theorem gm_nameI {v : Int32} (k : ∀ x : Int32, x = v → GM p l e R s m args below meth c nL D cI cZ mo ad Q t pc lv (.int x :: st)) : GM p l e R s m args below meth c nL D cI cZ mo ad Q t pc lv (.int v :: st) := k v rfl
theorem kP {V : Int32} {lv : List (Nat × Value)} {st : List Value} (k : GM p l e R s m args below meth c nL D cI cZ mo ad Q t (pc + 3) lv (.int V :: st)) : ∀ (v : Option Value) (t' : MS), pI (fun r t' => V = r ∧ t = t') t v t' → GM p l e R s m args below meth c nL D cI cZ mo ad Q t' (pc + 3) lv (v.toList ++ st) := by
  rintro v t' ⟨r, rfl, h1, h2⟩
  rw [← h1, ← h2]
  exact k
end GC
/-- loops -/
def lp {σ : Type} (F : (σ → Prop) → σ → Prop) : Nat → σ → Prop
  | 0 => fun _ => False
  | n + 1 => F (lp F n)
theorem lp_inv {σ : Type} {F : (σ → Prop) → σ → Prop} (I : σ → Prop) (μ : σ → Nat) (h : ∀ (K : σ → Prop) (s : σ), I s → (∀ s', I s' → μ s' < μ s → K s') → F K s) (s : σ) (hs : I s) : ∃ n, lp F n s := by
  have key : ∀ (m : Nat) (s : σ), μ s < m → I s → lp F m s := by
    intro m
    induction m with
    | zero => intro s h1; exact absurd h1 (Nat.not_lt_zero _)
    | succ m ih => intro s h1 h2; exact h (lp F m) s h2 (fun s' h3 h4 => ih s' (by omega) h3)
  exact ⟨μ s + 1, key _ s (Nat.lt_succ_self _) hs⟩
theorem w_at {w : Cond} (i : Nat) (h : lw_tbl[i]? = some w) (hg : goodWord w = true) : w ∈ wU := mem_wU (List.mem_of_getElem? h) hg
theorem w_4 {a b c d : Cond} (ha : a ∈ wU) (hb : b ∈ wU) (hc : c ∈ wU) (hd : d ∈ wU) : ∀ w ∈ ([a, b, c, d] : List Cond), w ∈ wU := List.forall_mem_cons.mpr ⟨ha, List.forall_mem_cons.mpr ⟨hb, List.forall_mem_cons.mpr ⟨hc, List.forall_mem_cons.mpr ⟨hd, fun _ h => absurd h List.not_mem_nil⟩⟩⟩⟩
theorem w_3 {a b c : Cond} (ha : a ∈ wU) (hb : b ∈ wU) (hc : c ∈ wU) : ∀ w ∈ ([a, b, c] : List Cond), w ∈ wU := List.forall_mem_cons.mpr ⟨ha, List.forall_mem_cons.mpr ⟨hb, List.forall_mem_cons.mpr ⟨hc, fun _ h => absurd h List.not_mem_nil⟩⟩⟩
