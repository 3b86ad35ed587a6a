/-! MORE ROWS: references that may be null, casts, the row of ticks, Math, longs compared -/
def oG (x : Option Nat) : Nat := x.getD 0
theorem oG_some {x : Option Nat} (h : x ≠ none) : x = some (oG x) := by
  cases x with
  | none => exact absurd rfl h
  | some q => rfl
def mMin (x y : Int32) : Int32 := if y < x then y else x
def mMax (x y : Int32) : Int32 := if x < y then y else x
theorem lg_ge (x y : Int64) : 0 ≤ lg_cmp x y ↔ ¬ x < y := by
  by_cases h1 : y < x
  · have e1 : lg_cmp x y = 1 := by simp [lg_cmp, h1]
    rw [e1]
    constructor
    · intro _ h2
      have h3 := Int64.lt_iff_toInt_lt.mp h1
      have h4 := Int64.lt_iff_toInt_lt.mp h2
      omega
    · intro _
      decide
  · by_cases h2 : x < y
    · have e1 : lg_cmp x y = -1 := by
        have h3 : ¬ x = y := fun h => by subst h; exact h1 h2
        simp [lg_cmp, h1, h3]
      rw [e1]
      constructor
      · intro h3
        exact absurd h3 (by decide)
      · intro h3
        exact absurd h2 h3
    · have e1 : lg_cmp x y = 0 := by
        have h3 : x = y := Int64.toInt_inj.mp (by have h4 : ¬ y.toInt < x.toInt := fun z => h1 (Int64.lt_iff_toInt_lt.mpr z); have h5 : ¬ x.toInt < y.toInt := fun z => h2 (Int64.lt_iff_toInt_lt.mpr z); omega)
        simp [lg_cmp, h1, h3]
      rw [e1]
      constructor
      · intro _
        exact h2
      · intro _
        decide
section GCM
variable {p : Program} {l : Launch} {e : Env} {R : Room} {s : State} {m : MethodId} {args : Array Value} {below : List Frame} {meth : Method} {c : Code} {Q : State → Prop}
variable {cc : ByteArray} {nL : Nat} {own : String} {hd : Cond} {D : va_G} {K : Nat → ClassId} {E0 : Nat} {B : Nat × Nat} {A0 : Nat → Prop}
variable {S : CS} {pc : Nat} {lv : List (Nat × Value)} {st : List Value} {S0 : CS}

theorem gc_deref {x : Option Nat} (hx : x ≠ none) (k : GC p l e R s m args below meth c nL D K E0 B A0 Q S pc lv (.ref (oG x) :: st)) : GC p l e R s m args below meth c nL D K E0 B A0 Q S pc lv (va_rf x :: st) := by
  rw [oG_some hx]
  exact k
theorem gc_opt {x : Nat} (k : GC p l e R s m args below meth c nL D K E0 B A0 Q S pc lv (va_rf (some x) :: st)) : GC p l e R s m args below meth c nL D K E0 B A0 Q S pc lv (.ref x :: st) := k
theorem gc_null (C : gc_Cx p l s m args c meth cc nL own hd D K E0 B A0 R) (d : decode cc pc = .ok (.aconst_null, 1)) (k : GC p l e R s m args below meth c nL D K E0 B A0 Q S (pc + 1) lv (va_rf none :: st)) : GC p l e R s m args below meth c nL D K E0 B A0 Q S pc lv st :=
  fun G H locs ls hP hA hS hs h1 h2 hl => lv_null C.1 C.2.1 d (k G H locs ls hP hA hS hs h1 h2 hl)
theorem gc_aloadnO (C : gc_Cx p l s m args c meth cc nL own hd D K E0 B A0 R) {n : Fin 4} (j i : Nat) {x : Option Nat} (d : decode cc pc = .ok (.aload_n n, 1)) (hi : (n : Nat) = i) (hv : lv[j]? = some (i, va_rf x)) (k : GC p l e R s m args below meth c nL D K E0 B A0 Q S (pc + 1) lv (va_rf x :: st)) : GC p l e R s m args below meth c nL D K E0 B A0 Q S pc lv st := by
  cases x with
  | none => exact fun G H locs ls hP hA hS hs h1 h2 hl => lv_aload_nN C.1 C.2.1 d hi (lv_at hl j hv) (k G H locs ls hP hA hS hs h1 h2 hl)
  | some q => exact fun G H locs ls hP hA hS hs h1 h2 hl => lv_aload_n C.1 C.2.1 d hi (lv_at hl j hv) (k G H locs ls hP hA hS hs h1 h2 hl)
theorem gc_aloadO (C : gc_Cx p l s m args c meth cc nL own hd D K E0 B A0 R) (j : Nat) {i : Nat} {x : Option Nat} (d : decode cc pc = .ok (.aload i, 2)) (hv : lv[j]? = some (i, va_rf x)) (k : GC p l e R s m args below meth c nL D K E0 B A0 Q S (pc + 2) lv (va_rf x :: st)) : GC p l e R s m args below meth c nL D K E0 B A0 Q S pc lv st := by
  cases x with
  | none => exact fun G H locs ls hP hA hS hs h1 h2 hl => lv_aloadN C.1 C.2.1 d (lv_at hl j hv) (k G H locs ls hP hA hS hs h1 h2 hl)
  | some q => exact fun G H locs ls hP hA hS hs h1 h2 hl => lv_aload C.1 C.2.1 d (lv_at hl j hv) (k G H locs ls hP hA hS hs h1 h2 hl)
theorem gc_astorenO (C : gc_Cx p l s m args c meth cc nL own hd D K E0 B A0 R) {n : Fin 4} (i : Nat) {x : Option Nat} (lv' : List (Nat × Value)) (d : decode cc pc = .ok (.astore_n n, 1)) (hi : (n : Nat) = i) (hn : i < nL) (hl' : (i, va_rf x) :: lv.filter (fun q => !(q.1 == i) && !(q.1 + 1 == i && q.2.category == 2)) = lv') (k : GC p l e R s m args below meth c nL D K E0 B A0 Q S (pc + 1) lv' st) : GC p l e R s m args below meth c nL D K E0 B A0 Q S pc lv (va_rf x :: st) := by
  cases x with
  | none => exact fun G H locs ls hP hA hS hs h1 h2 hl => lv_astore_nN C.1 C.2.1 d hi hl hn hl' (fun ls' hl2 => k G H locs ls' hP hA hS hs h1 h2 hl2)
  | some q => exact fun G H locs ls hP hA hS hs h1 h2 hl => lv_astore_n C.1 C.2.1 d hi hl hn hl' (fun ls' hl2 => k G H locs ls' hP hA hS hs h1 h2 hl2)
theorem gc_astoreO (C : gc_Cx p l s m args c meth cc nL own hd D K E0 B A0 R) {i : Nat} {x : Option Nat} (lv' : List (Nat × Value)) (d : decode cc pc = .ok (.astore i, 2)) (hn : i < nL) (hl' : (i, va_rf x) :: lv.filter (fun q => !(q.1 == i) && !(q.1 + 1 == i && q.2.category == 2)) = lv') (k : GC p l e R s m args below meth c nL D K E0 B A0 Q S (pc + 2) lv' st) : GC p l e R s m args below meth c nL D K E0 B A0 Q S pc lv (va_rf x :: st) := by
  cases x with
  | none => exact fun G H locs ls hP hA hS hs h1 h2 hl => lv_astoreN C.1 C.2.1 d hl hn hl' (fun ls' hl2 => k G H locs ls' hP hA hS hs h1 h2 hl2)
  | some q => exact fun G H locs ls hP hA hS hs h1 h2 hl => lv_astore C.1 C.2.1 d hl hn hl' (fun ls' hl2 => k G H locs ls' hP hA hS hs h1 h2 hl2)
theorem gc_ifnull (C : gc_Cx p l s m args c meth cc nL own hd D K E0 B A0 R) {x : Option Nat} {off : Int} (tgt : Nat) (d : decode cc pc = .ok (.ifnull off, 3)) (ht : (pc : Int) + off = (tgt : Int)) (kt : x = none → GC p l e R s m args below meth c nL D K E0 B A0 Q S tgt lv st) (kf : ¬ x = none → GC p l e R s m args below meth c nL D K E0 B A0 Q S (pc + 3) lv st) : GC p l e R s m args below meth c nL D K E0 B A0 Q S pc lv (va_rf x :: st) := by
  cases x with
  | none => exact fun G H locs ls hP hA hS hs h1 h2 hl => lv_ifnullN C.1 C.2.1 d ht (kt rfl G H locs ls hP hA hS hs h1 h2 hl)
  | some q => exact fun G H locs ls hP hA hS hs h1 h2 hl => lv_ifnull C.1 C.2.1 d (kf (fun h => by cases h) G H locs ls hP hA hS hs h1 h2 hl)
theorem gc_ifnonnull (C : gc_Cx p l s m args c meth cc nL own hd D K E0 B A0 R) {x : Option Nat} {off : Int} (tgt : Nat) (d : decode cc pc = .ok (.ifnonnull off, 3)) (ht : (pc : Int) + off = (tgt : Int)) (kt : ¬ x = none → GC p l e R s m args below meth c nL D K E0 B A0 Q S tgt lv st) (kf : x = none → GC p l e R s m args below meth c nL D K E0 B A0 Q S (pc + 3) lv st) : GC p l e R s m args below meth c nL D K E0 B A0 Q S pc lv (va_rf x :: st) := by
  cases x with
  | none => exact fun G H locs ls hP hA hS hs h1 h2 hl => lv_ifnonnullN C.1 C.2.1 d (kf rfl G H locs ls hP hA hS hs h1 h2 hl)
  | some q => exact fun G H locs ls hP hA hS hs h1 h2 hl => lv_ifnonnull C.1 C.2.1 d ht (kt (fun h => by cases h) G H locs ls hP hA hS hs h1 h2 hl)
theorem gc_acmp_eq (C : gc_Cx p l s m args c meth cc nL own hd D K E0 B A0 R) {x y : Option Nat} {off : Int} (tgt : Nat) (d : decode cc pc = .ok (.if_acmp .eq off, 3)) (ht : (pc : Int) + off = (tgt : Int)) (kt : x = y → GC p l e R s m args below meth c nL D K E0 B A0 Q S tgt lv st) (kf : ¬ x = y → GC p l e R s m args below meth c nL D K E0 B A0 Q S (pc + 3) lv st) : GC p l e R s m args below meth c nL D K E0 B A0 Q S pc lv (va_rf y :: va_rf x :: st) :=
  fun G H locs ls hP hA hS hs h1 h2 hl => lv_acmp_eq C.1 C.2.1 d ht (fun h => kt h G H locs ls hP hA hS hs h1 h2 hl) (fun h => kf h G H locs ls hP hA hS hs h1 h2 hl)
theorem gc_acmp_ne (C : gc_Cx p l s m args c meth cc nL own hd D K E0 B A0 R) {x y : Option Nat} {off : Int} (tgt : Nat) (d : decode cc pc = .ok (.if_acmp .ne off, 3)) (ht : (pc : Int) + off = (tgt : Int)) (kt : ¬ x = y → GC p l e R s m args below meth c nL D K E0 B A0 Q S tgt lv st) (kf : x = y → GC p l e R s m args below meth c nL D K E0 B A0 Q S (pc + 3) lv st) : GC p l e R s m args below meth c nL D K E0 B A0 Q S pc lv (va_rf y :: va_rf x :: st) :=
  fun G H locs ls hP hA hS hs h1 h2 hl => lv_acmp_ne C.1 C.2.1 d ht (fun h => kt h G H locs ls hP hA hS hs h1 h2 hl) (fun h => kf h G H locs ls hP hA hS hs h1 h2 hl)
theorem gc_cast (C : gc_Cx p l s m args c meth cc nL own hd D K E0 B A0 R) {ci : Nat} {CN : String} {T : u_T} {N : Nat} {ty : Nat → FieldType} (B0 : c_Cls ci CN T N ty) {ix o : Nat} (hw : Cond.classLink own ix CN ∈ wU) (hg : isC S o ci) (d : decode cc pc = .ok (.checkcast ix, 3)) (k : GC p l e R s m args below meth c nL D K E0 B A0 Q S (pc + 3) lv (.ref o :: st)) : GC p l e R s m args below meth c nL D K E0 B A0 Q S pc lv (.ref o :: st) :=
  fun G H locs ls hP hA hS hs h1 h2 hl => va_castS C.1 C.2.1 C.2.2.2.1 (C.2.2.2.2.1 _ (List.mem_cons_of_mem _ hw)) ((C.2.2.2.2.2.1.1 ci _ B0.1).2) (va_recv C.2.2.2.2.2.1 (c_obj hP hg B0.2.2.2.2.2.1 B0.2.2.2.2.2.2).2 (ci := ci) (q0 := 0) B0.1 rfl) d (k G H locs ls hP hA hS hs h1 h2 hl)
theorem gc_lcmpge (C : gc_Cx p l s m args c meth cc nL own hd D K E0 B A0 R) {x y : Int64} {off : Int} (tgt : Nat) (d : decode cc pc = .ok (.lcmp, 1)) (d2 : decode cc (pc + 1) = .ok (.ifCond .ge off, 3)) (ht : ((pc + 1 : Nat) : Int) + off = (tgt : Int)) (kt : ¬ x < y → GC p l e R s m args below meth c nL D K E0 B A0 Q S tgt lv st) (kf : x < y → GC p l e R s m args below meth c nL D K E0 B A0 Q S (pc + 4) lv st) : GC p l e R s m args below meth c nL D K E0 B A0 Q S pc lv (.long y :: .long x :: st) :=
  fun G H locs ls hP hA hS hs h1 h2 hl => W.lcmp C.1 C.2.1 d (lv_if_ge C.1 C.2.1 d2 ht (fun h => kt ((lg_ge x y).mp h) G H locs ls hP hA hS hs h1 h2 hl) (fun h => kf (Classical.byContradiction fun z => h ((lg_ge x y).mpr z)) G H locs ls hP hA hS hs h1 h2 hl))
theorem gc_tickLen (C : gc_Cx p l s m args c meth cc nL own hd D K E0 B A0 R) {ix : Nat} (hw : Cond.fieldLink own ix RX0 "TICKS" "[I" ∈ wU) (d : decode cc pc = .ok (.getstatic ix, 3)) (d2 : decode cc (pc + 3) = .ok (.arraylength, 1)) (k : GC p l e R s m args below meth c nL D K E0 B A0 Q S (pc + 4) lv (.int 6 :: st)) : GC p l e R s m args below meth c nL D K E0 B A0 Q S pc lv st := by
  intro G H locs ls hP hA hS hs h1 h2 hl
  obtain ⟨⟨tk, t1, t2⟩, -⟩ := C.2.2.2.2.2.2.2.1
  exact va_gets C.1 C.2.1 t1 hS C.2.2.2.1 (C.2.2.2.2.1 _ (List.mem_cons_of_mem _ hw)) (fun x h => h) d (va_tlen C.1 C.2.1 t2 hS rfl d2 (k G H locs ls hP hA hS hs h1 h2 hl))
theorem gc_tickAt (C : gc_Cx p l s m args c meth cc nL own hd D K E0 B A0 R) {ix : Nat} {n : Fin 4} (j i : Nat) {x : Int32} (hw : Cond.fieldLink own ix RX0 "TICKS" "[I" ∈ wU) (d : decode cc pc = .ok (.getstatic ix, 3)) (d2 : decode cc (pc + 3) = .ok (.iload_n n, 1)) (hi : (n : Nat) = i) (hv : lv[j]? = some (i, .int x)) (hin : vp_in x 6) (d3 : decode cc (pc + 4) = .ok (.iaload, 1)) (k : GC p l e R s m args below meth c nL D K E0 B A0 Q S (pc + 5) lv (.int (cTick x.toNatClampNeg) :: st)) : GC p l e R s m args below meth c nL D K E0 B A0 Q S pc lv st := by
  intro G H locs ls hP hA hS hs h1 h2 hl
  obtain ⟨⟨tk, t1, t2⟩, -⟩ := C.2.2.2.2.2.2.2.1
  exact va_gets C.1 C.2.1 t1 hS C.2.2.2.1 (C.2.2.2.2.1 _ (List.mem_cons_of_mem _ hw)) (fun x h => h) d (lv_iload_n C.1 C.2.1 d2 hi (lv_at hl j hv) (va_ti C.1 C.2.1 t2 hS hin rfl d3 (k G H locs ls hP hA hS hs h1 h2 hl)))
theorem gc_max (C : gc_Cx p l s m args c meth cc nL own hd D K E0 B A0 R) {ix d2 : Nat} {x y : Int32} (hR : R = rmC d2 B S0) (hd2 : 1 ≤ d2) (hw : ∀ w ∈ ([.methodLink own ix Lib.Math.max.name, .static Lib.Math.max.name, .initialized "java/lang/Math", .code Lib.Math.max.name Lib.Math.max.code 2 (some .int)] : List Cond), w ∈ wU) (hst : (st.map fun v => v.category).sum ≤ 8) (d : decode cc pc = .ok (.invokestatic ix, 3)) (k : GC p l e R s m args below meth c nL D K E0 B A0 Q S (pc + 3) lv (.int (mMax x y) :: st)) : GC p l e R s m args below meth c nL D K E0 B A0 Q S pc lv (.int y :: .int x :: st) := by
  intro G H locs ls hP hA hS hs h1 h2 hl
  have hRf : R.frames = d2 ∧ R.locals = 48 * d2 := by rw [hR]; exact ⟨rfl, rfl⟩
  have hb := gc_end C hP h1 h2
  exact va_mmax C.1 C.2.1 (by rw [C.2.2.1]; exact hl.1.symm) C.2.2.2.1 (C.2.2.2.2.1 _ (List.mem_cons_of_mem _ (hw _ (by simp)))) (C.2.2.2.2.1 _ (List.mem_cons_of_mem _ (hw _ (by simp)))) (C.2.2.2.2.1 _ (List.mem_cons_of_mem _ (hw _ (by simp)))) (C.2.2.2.2.1 _ (List.mem_cons_of_mem _ (hw _ (by simp)))) (by omega) (by omega) hb.1 hb.2 d (k G H locs ls hP hA hS hs h1 h2 hl)
theorem gc_min (C : gc_Cx p l s m args c meth cc nL own hd D K E0 B A0 R) {ix d2 : Nat} {x y : Int32} (hR : R = rmC d2 B S0) (hd2 : 1 ≤ d2) (hw : ∀ w ∈ ([.methodLink own ix Lib.Math.min.name, .static Lib.Math.min.name, .initialized "java/lang/Math", .code Lib.Math.min.name Lib.Math.min.code 2 (some .int)] : List Cond), w ∈ wU) (hst : (st.map fun v => v.category).sum ≤ 8) (d : decode cc pc = .ok (.invokestatic ix, 3)) (k : GC p l e R s m args below meth c nL D K E0 B A0 Q S (pc + 3) lv (.int (mMin x y) :: st)) : GC p l e R s m args below meth c nL D K E0 B A0 Q S pc lv (.int y :: .int x :: st) := by
  intro G H locs ls hP hA hS hs h1 h2 hl
  have hRf : R.frames = d2 ∧ R.locals = 48 * d2 := by rw [hR]; exact ⟨rfl, rfl⟩
  have hb := gc_end C hP h1 h2
  exact va_mmin C.1 C.2.1 (by rw [C.2.2.1]; exact hl.1.symm) C.2.2.2.1 (C.2.2.2.2.1 _ (List.mem_cons_of_mem _ (hw _ (by simp)))) (C.2.2.2.2.1 _ (List.mem_cons_of_mem _ (hw _ (by simp)))) (C.2.2.2.2.1 _ (List.mem_cons_of_mem _ (hw _ (by simp)))) (C.2.2.2.2.1 _ (List.mem_cons_of_mem _ (hw _ (by simp)))) (by omega) (by omega) hb.1 hb.2 d (k G H locs ls hP hA hS hs h1 h2 hl)
theorem gc_attL (C : gc_Cx p l s m args c meth cc nL own hd D K E0 B A0 R) {ci : Nat} {CN : String} {T : u_T} {N : Nat} {ty : Nat → FieldType} (B0 : c_Cls ci CN T N ty) (f k0 : Nat) (hk : k0 < N) (hf : 16 * ci + k0 = f) {ix ixc ixi o d2 : Nat} (hR : R = rmC d2 B S0) (hd2 : 3 < d2) (ht : cFT f = 5) (hw : Cond.fieldLink own ix CN (T k0).2.1 (T k0).2.2.1 ∈ wU) (hT : (T k0).1 = CN) (hfin : (T k0).2.2.2 = true) (hin2 : meth.name = "<init>") (hdecl : (T k0).1 = own) (hd1 : parseFieldDescriptor (T k0).2.2.1 = some (.object RJx4a65c))
    (hwn : ∀ w ∈ ([.classLink own ixc RJx4a65c, .instantiable RJx4a65c 3, .initialized RJx4a65c] : List Cond), w ∈ wU) (hwi : ∀ w ∈ ([.methodLink own ixi yJx4a65c_init_da8c8, .instanceMethod yJx4a65c_init_da8c8, .initialized RJx4a65c] : List Cond), w ∈ wU) (hst : (st.map fun v => v.category).sum ≤ 4)
    (hg : aOK S f o ci) (hroom : szC S + 1 ≤ B.1 ∧ nsC S + 3 ≤ B.2) (d : decode cc pc = .ok (.new ixc, 3)) (e2 : decode cc (pc + 3) = .ok (.dup, 1)) (e3 : decode cc (pc + 4) = .ok (.invokespecial ixi, 3)) (e4 : decode cc (pc + 7) = .ok (.putfield ix, 3)) (k : GC p l e R s m args below meth c nL D K E0 B A0 Q (uat S f o ci 3) (pc + 10) lv st) : GC p l e R s m args below meth c nL D K E0 B A0 Q S pc lv (.ref o :: st) := by
  intro G H locs ls hP hA hS hs h1 h2 hl
  have y1 : H.size = szC S := hP.2.2.1
  have y2 : hsl H = nsC S := hP.2.2.2
  have z0 : s.heap.size ≤ H.size := hS.1
  have hc1 : H.size - s.heap.size + 1 ≤ R.cells ∧ hsl H - hsl s.heap + 3 ≤ R.slots := by
    rw [C.2.2.2.2.2.2.1.1, C.2.2.2.2.2.2.1.2]
    omega
  obtain ⟨g1, g2, g3, g4⟩ := hg
  have h3 := B0.2.2.2.2.2.1
  have h15 := B0.2.2.2.2.2.2
  have hNN : cNF ci = N := B0.2.2.2.2.1
  have he0 : cEmb (cFT f) = true := by rw [ht]; rfl
  have ho_lt : o < H.size := by rw [y1]; exact hP.kd_lt (by omega)
  have hA0n : ∀ q, H.size ≤ q → A0 q := fun q hq => hA q (Or.inr (by omega))
  have hap := va_apart (own := own) (Ts := hd :: wU) C.2.2.2.2.1 (fun w h => List.mem_cons_of_mem _ (B0.2.1 w h)) ty B0.2.2.1 B0.2.2.2.1 C.2.2.2.2.2.1 B0.1
  obtain ⟨r, gr, cell, q1, q2, q3, q4⟩ := (c_obj hP g1 h3 h15).2 0 _ rfl
  have hr : r = (CN, T, N) := Option.some.inj (gr.symm.trans B0.1)
  subst hr
  obtain ⟨hSS, hfc, kC, hkC, hkind⟩ := C.2.2.2.2.2.1.1 ci _ B0.1
  obtain ⟨cf, kf, fi, fd, hi, hsl0⟩ := hSS k0 hk
  have hlay := C.2.2.2.2.1 _ (List.mem_cons_of_mem _ (B0.2.1 _ (u_in_lay hk)))
  have hlink := C.2.2.2.2.1 _ (List.mem_cons_of_mem _ hw)
  have hi2 := hi
  rw [hT] at hi2
  unfold u_lay at hlay
  rw [if_pos hfin] at hlay
  have hst9 := (u_facts hfc hkC (Or.inr hlay) hi).1
  have hcf : m.cls = cf := by
    obtain ⟨_, _, c', _, _, _, -, -, hf', -, -, -, hown2, -⟩ := Cond.laysFinal_spec hlay
    have w9 : c' = cf := by have := hi.symm.trans hf'; simp at this; exact this.1.symm
    rw [hdecl] at hown2
    rw [← w9]; exact Option.some.inj (C.2.2.2.1.symm.trans hown2)
  have h6 := u_fits hfc hkC hkind (Or.inr hlay) hi (v := .ref H.size) hd1 rfl rfl
  -- the list's object
  have hKn := C.2.2.2.2.2.1.1 2 _ rfl
  have hins : (Cond.instantiable RJx4a65c 3).before args s = true := C.2.2.2.2.1 _ (List.mem_cons_of_mem _ (hwn _ (by simp)))
  refine W.newcK C.1 C.2.1 C.2.2.2.1 (C.2.2.2.2.1 _ (List.mem_cons_of_mem _ (hwn _ (by simp)))) hins (C.2.2.2.2.1 _ (List.mem_cons_of_mem _ (hwn _ (by simp)))) rfl d hc1.1 hc1.2 hKn.2.1 rfl fun H1 kJ hkJ w1 z1 o1 => ?_
  obtain ⟨c9, k9, f1, f2, -, -, -, f3⟩ := Cond.instantiable_spec hins
  cases hKn.2.1.symm.trans f1
  cases hkJ.symm.trans f2
  have hsz : (blank (D.1 2) kJ).slots.size = 3 := by
    rw [← f3]
    simp [blank]
  have hat1 : va_at D vwCl (H.size, .inr (2, [.int 0, .null, .int 0])) H1 := ⟨_, rfl, (u_born tyJx4a65c C.2.2.2.2.1 (fun w h => List.mem_cons_of_mem _ (ju_in w h)) hKn hkJ w1 tyJx4a65c_ok).to (fun j hj => by
    rcases j with _ | _ | _ | j
    · rfl
    · rfl
    · rfl
    · omega)⟩
  refine lv_dup C.1 C.2.1 e2 rfl ?_
  have hS1 : va_S A0 s.heap H1 locs := ⟨Nat.le_trans hS.1 (by omega), fun x g5 g6 => (o1 x (Nat.lt_of_lt_of_le g5 hS.1)).trans (hS.2.1 x g5 g6), hS.2.2⟩
  have hs1 : hsl H1 = nsC S + 3 := by rw [hsl_push z1 w1 o1, hsz, y2]
  have hRf : R.frames = d2 ∧ R.locals = 48 * d2 := by rw [hR]; exact ⟨rfl, rfl⟩
  have hrun := va_runI (meth := meth) (below := below) (e := e) (g := F0 m (pc + 4) ls (.ref H.size :: .ref H.size :: .ref o :: st)) (H := H1) (locs := locs) (cells := H.size - s.heap.size + 1) (slots := hsl H - hsl s.heap + 3) (As := []) (rest := .ref H.size :: .ref o :: st) ⟨C.1, C.2.1, C.2.2.1, C.2.2.2.1, C.2.2.2.2.1⟩ (j_init l D K E0 (fun q => H.size ≤ q) (fun _ => False) H.size) (cwI 0 C.2.2.2.2.1 (fun w h => gU (pre := []) (fun w h => by cases h) cj_Jx4a65c_init_da8c8 w h) rfl rfl rfl (C.2.2.2.2.1 _ (List.mem_cons_of_mem _ (hwi (.initialized RJx4a65c) (by simp)))) (C.2.2.2.2.1 _ (List.mem_cons_of_mem _ (hwi (.methodLink own ixi yJx4a65c_init_da8c8) (by simp)))) (C.2.2.2.2.1 _ (List.mem_cons_of_mem _ (hwi (.instanceMethod yJx4a65c_init_da8c8) (by simp)))) rfl hcj_Jx4a65c_init_da8c8.2 ⟨by rw [hRf.1]; exact hd2, by rw [hRf.2]; show 8 + (1 + 11) + 48 * 3 ≤ 48 * d2; omega⟩)
    ⟨j_blind, fun U hU hW => ⟨rfl, by rw [hU]; exact va_P1 hat1, va_D1 (Nat.le_refl _), va_K.moved hW.alike C.2.2.2.2.2.1, by rw [hU]; exact (StC.narrow (StC.kept (StC.moved hW.alike C.2.2.2.2.2.2.2.1) hS1.2.1) (fun q hq => hA0n q hq)).2.1, c_Ev.warm hW C.2.2.2.2.2.2.2.2.2.2.2.2, fun q hq => by rw [hU] at hq; show H.size ≤ q; omega, fun y hy => hy.elim⟩⟩ rfl rfl hl.1 rfl (lv_room (by simp only [List.map_cons, List.sum_cons]; show 1 + (1 + _) ≤ 8; omega)) e3 ⟨hc1.1, hc1.2⟩
  intro T9 hT9 X9
  obtain ⟨v, st₀, t, T', L, x0, X', hL, x1, x2, ⟨⟨v', ws', hv, ⟨hp1, hp2⟩, hPP, hDD, hhs⟩, hF⟩, stp⟩ := hrun T9 hT9 X9
  cases hv
  cases hp1
  subst hp2
  obtain ⟨k1, k2, k3⟩ := vx_keep (A0 := A0) (H0 := s.heap) x0 x1 hS1 (fun q _ z => hA0n q z) (fun q z => hA0n q z) hL hF
  rw [x0, ← x1] at hhs
  rw [← x1] at hPP
  have hb := stand_slots X'
  have z3 : T'.heap.size = H1.size := by omega
  have s3 : hsl T'.heap = hsl H1 := by omega
  have hat3 := hPP 0 _ rfl
  have q1' : T'.heap[o]? = some cell := ((k2 o (by omega) (by omega)).trans (o1 o ho_lt)).trans q1
  obtain ⟨rJ, gJ, cJ, j1, j2, j3, j4⟩ := id hat3
  have hjs : cJ.slots.size = 3 := by
    have e9 : hsl T'.heap = hsl H + cJ.slots.size := hsl_push (by omega) j1 (fun q hq => (k2 q (by omega) (by omega)).trans (o1 q hq))
    omega
  have key : W p l e R s m args below meth c T'.heap (locs ++ L) (T'.heap.size - s.heap.size) (hsl T'.heap - hsl s.heap) Q (F0 m (pc + 4 + 3) ls (.ref H.size :: .ref o :: st)) := by
    refine W.putFinK C.1 C.2.1 C.2.2.2.1 hlink hi2 hst9 hcf hin2 (by rw [q2]; exact h6) q1' q3 (by rw [hsl0]; exact k2_hasslot (q4 k0 hk)) rfl rfl e4 fun H2 p1 p2 p3 => ?_
    have hat : va_at D vwCl (o, .inr (ci, (c_fs S ci o).set k0 (.ref (o + cOF f)))) H2 := by
      rw [hsl0] at p1
      rw [g4, ← y1]
      exact ⟨_, B0.1, t_OB.to (V := updV (vp_V (c_fs S ci o)) k0 (.ref H.size)) ⟨_, p1, q2, q3, t_set q4 hap hk _⟩ (fun j _ => vp_updV_set (by rw [c_flen, hNN]; exact hk) _ j)⟩
    have hnew : va_at D vwCl (H.size, c_ce K E0 (attS S f o (attV (kdC S o) ci) 3) (attG S G f o) f o) H2 := by
      rw [c_ceL h15 h3 (by rw [hNN]; exact hk) hf ht, show (attG S G f o).2.2 f o = 0 from up2_same _ _ _ _, show (attG S G f o).2.1 f o = none from up2_same _ _ _ _, show fL (attS S f o (attV (kdC S o) ci) 3) f o = [] from up2_same _ _ _ _]
      exact va_at.kept hat3 (p3 _ (Nat.ne_of_gt ho_lt))
    have hP2 := hP.attach (H1 := T'.heap) (k0 := k0) (o := o) (v := kdC S o) (sl := 3) h3 h15 rfl g2 g1 (by rw [hNN]; exact hk) (by rw [hf]; exact he0) (by rw [hf]; exact g3) (by rw [hf]; exact g4) (by omega) j1 (fun q hq => (k2 q (by omega) (by omega)).trans (o1 q hq)) hjs q1' p1 (k2_slotsz _ _ _) p2 p3 (by rw [hf]; exact hnew) (by rw [hf]; exact hat)
    rw [hf] at hP2
    have hown := (c_obj hP g1 h3 h15).1
    have hAo : A0 o := hA o (Or.inl (by rw [hown]; show ci ≠ 0; omega))
    have es : hsl H2 = nsC S + 3 := hP2.2.2.2
    have kk := k _ H2 _ ls hP2 (attG_A hA) (k3.put (k := fd.slot) p2 p3 hAo) (by rw [es, ← y2]; omega) (by show szC S + 1 ≤ B.1; omega) (by show nsC S + 3 ≤ B.2; omega) hl
    rw [p2, es] at kk
    rw [s3, hs1]
    exact kk
  obtain ⟨t2, a1, b1⟩ := key T' rfl (stand_norm X')
  exact ⟨t2, stp t2 a1, b1⟩
end GCM
