/-! THE MODEL'S MACHINE LAYER: one object of ScoreHouseModel, its own arrays; a state is what the fields of numbers and the arrays hold -/
abbrev MS : Type := (Nat → Int32) × (Nat → Nat → Int32)
def m_isI (k : Nat) : Bool := k == 0 || k == 14 || k == 21 || k == 22 || k == 23 || k == 24 || k == 32 || k == 38 || k == 41 || k == 45
def m_isZ (k : Nat) : Bool := k == 7 || k == 12 || k == 20
def m_lens : List Nat := [0, 24, 24, 24, 24, 24, 96, 96, 1536, 1536, 1536, 1536, 1536, 4, 0, 20, 20, 20, 20, 20, 20, 0, 0, 0, 0, 48, 49, 4, 3072, 3072, 3072, 4, 0, 24, 24, 24, 24, 24, 0, 25, 25, 0, 60, 100, 25, 0]
def m_len (k : Nat) : Nat := m_lens.getD k 0
def m_kinds : List Nat := [1, 2, 3, 4, 5, 6, 7, 8, 9, 10, 11, 12, 13, 15, 16, 17, 18, 19, 20, 25, 26, 27, 28, 29, 30, 31, 33, 34, 35, 36, 37, 39, 40, 42, 43, 44]
def m_fv (ad : Nat → Nat) (I : Nat → Int32) (k : Nat) : Value := if m_isI k then .int (I k) else .ref (ad k)
def m_fs (ad : Nat → Nat) (I : Nat → Int32) : List Value := (List.range 46).map (m_fv ad I)
def m_cell (cI cZ : ClassId) (ad : Nat → Nat) (R : Nat → Nat → Int32) (k : Nat) : Nat × va_E := (ad k, .inl (if m_isZ k then cZ else cI, m_len k, .inl (R k)))
def m_ws (cI cZ : ClassId) (mo : Nat) (ad : Nat → Nat) (t : MS) : va_W := (mo, .inr (15, m_fs ad t.1)) :: m_kinds.map (m_cell cI cZ ad t.2)
def m_A (mo : Nat) (ad : Nat → Nat) : Nat → Prop := fun q => q = mo ∨ ∃ k, k ∈ m_kinds ∧ q = ad k
def m_apart (mo : Nat) (ad : Nat → Nat) : Prop := (∀ k, k ∈ m_kinds → ad k ≠ mo) ∧ ∀ k j, k ∈ m_kinds → j ∈ m_kinds → ad k = ad j → k = j
theorem m_nd_inj : ∀ (i j a : Nat), m_kinds[i]? = some a → m_kinds[j]? = some a → i = j := va_nd_inj m_kinds (by decide +kernel)
theorem m_D {cI cZ : ClassId} {mo : Nat} {ad : Nat → Nat} (h : m_apart mo ad) (t : MS) : va_D (m_A mo ad) (m_ws cI cZ mo ad t) := by
  have key : ∀ (j : Nat) (q : Nat × va_E), (m_kinds.map (m_cell cI cZ ad t.2))[j]? = some q → ∃ k, m_kinds[j]? = some k ∧ q.1 = ad k := by
    intro j q hq
    rw [List.getElem?_map] at hq
    cases hk : m_kinds[j]? with
    | none => rw [hk] at hq; cases hq
    | some k => rw [hk] at hq; exact ⟨k, rfl, by rw [← Option.some.inj hq]; rfl⟩
  refine ⟨fun i j p q hi hj hpq => ?_, fun i q hi => ?_⟩
  · cases i with
    | zero =>
      cases j with
      | zero => rfl
      | succ j =>
        have hp : p = (mo, .inr (15, m_fs ad t.1)) := (Option.some.inj hi).symm
        obtain ⟨k, hk, e⟩ := key j q hj
        exact absurd (by rw [← e, ← hpq, hp]) (h.1 k (List.mem_of_getElem? hk))
    | succ i =>
      obtain ⟨k, hk, e⟩ := key i p hi
      cases j with
      | zero =>
        have hq : q = (mo, .inr (15, m_fs ad t.1)) := (Option.some.inj hj).symm
        exact absurd (by rw [← e, hpq, hq]) (h.1 k (List.mem_of_getElem? hk))
      | succ j =>
        obtain ⟨k2, hk2, e2⟩ := key j q hj
        have hkk := h.2 k k2 (List.mem_of_getElem? hk) (List.mem_of_getElem? hk2) (by rw [← e, ← e2, hpq])
        subst hkk
        rw [m_nd_inj i j k hk hk2]
  · cases i with
    | zero => exact Or.inl (by rw [← Option.some.inj hi])
    | succ i =>
      obtain ⟨k, hk, e⟩ := key i q hi
      exact Or.inr ⟨k, List.mem_of_getElem? hk, e⟩
theorem m_pos {k : Nat} (h : k ∈ m_kinds) : ∃ j : Nat, m_kinds[j]? = some k := List.getElem?_of_mem h
theorem m_at {cI cZ : ClassId} {mo : Nat} {ad : Nat → Nat} {t : MS} {j k : Nat} (h : m_kinds[j]? = some k) : (m_ws cI cZ mo ad t)[j + 1]? = some (ad k, .inl (if m_isZ k then cZ else cI, m_len k, .inl (t.2 k))) := by
  show (m_kinds.map (m_cell cI cZ ad t.2))[j]? = _
  rw [List.getElem?_map, h]
  rfl
theorem m_fget {ad : Nat → Nat} {I : Nat → Int32} {k : Nat} (h : k < 46) : (m_fs ad I)[k]? = some (m_fv ad I k) := by
  unfold m_fs
  rw [List.getElem?_map, List.getElem?_range h]
  rfl
theorem m_flen {ad : Nat → Nat} {I : Nat → Int32} : (m_fs ad I).length = 46 := by simp [m_fs]
theorem m_fset {ad : Nat → Nat} {I : Nat → Int32} {k : Nat} (h : k < 46) (hk : m_isI k = true) (v : Int32) : (m_fs ad I).set k (.int v) = m_fs ad (va_up I k v) := by
  apply List.ext_getElem?
  intro j
  rw [List.getElem?_set]
  by_cases hj : k = j
  · subst hj
    rw [if_pos rfl, m_flen, if_pos h, m_fget h]
    simp [m_fv, hk, va_up]
  · rw [if_neg hj]
    by_cases hj2 : j < 46
    · rw [m_fget hj2, m_fget hj2]
      simp [m_fv, va_up, Ne.symm hj]
    · rw [List.getElem?_eq_none (by rw [m_flen]; omega), List.getElem?_eq_none (by rw [m_flen]; omega)]
theorem m_aset {cI cZ : ClassId} {mo : Nat} {ad : Nat → Nat} {t : MS} {j k : Nat} (h : m_kinds[j]? = some k) (g : Nat → Int32) : (m_ws cI cZ mo ad t).set (j + 1) (ad k, .inl (if m_isZ k then cZ else cI, m_len k, .inl g)) = m_ws cI cZ mo ad (t.1, va_up t.2 k g) := by
  show (mo, _) :: (m_kinds.map (m_cell cI cZ ad t.2)).set j _ = (mo, _) :: m_kinds.map (m_cell cI cZ ad (va_up t.2 k g))
  congr 1
  apply List.ext_getElem?
  intro i
  rw [List.getElem?_set, List.getElem?_map]
  by_cases hj : j = i
  · subst hj
    have hl : j < m_kinds.length := (List.getElem?_eq_some_iff.mp h).1
    rw [if_pos rfl, List.length_map, if_pos hl, List.getElem?_map, h]
    simp [m_cell, va_up]
  · rw [if_neg hj, List.getElem?_map]
    cases hk : m_kinds[i]? with
    | none => rfl
    | some k2 =>
      have hne : k2 ≠ k := fun e => hj (m_nd_inj j i k h (by rw [← e]; exact hk))
      simp [m_cell, va_up, hne]
/-- the universal words -/
def wU : List Cond := lw_tbl.filter goodWord
theorem mem_wU {w : Cond} (h : w ∈ lw_tbl) (hg : goodWord w = true) : w ∈ wU := List.mem_filter.mpr ⟨h, hg⟩
theorem wU_in {w : Cond} (h : w ∈ wU) : w ∈ lw_tbl := (List.mem_filter.mp h).1
theorem wU_good {w : Cond} (h : w ∈ wU) : goodWord w = true := (List.mem_filter.mp h).2
theorem gU {hd hd2 : Cond} {pre : List Cond} (h1 : ∀ w ∈ pre, w ∈ wU) (h2 : hd2 ∈ wU) : GoodIn (hd :: wU) (pre ++ (hd2 :: wU)) := by
  intro w hw
  have hm : w ∈ wU := by
    rcases List.mem_append.mp hw with h | h
    · exact h1 w h
    · rcases List.mem_cons.mp h with h | h
      · rw [h]; exact h2
      · exact h
  exact ⟨List.mem_cons_of_mem _ hm, good_of_word (wU_good hm)⟩
theorem u_X12 : ∀ w ∈ u_ws RX12 TX12 46, w ∈ wU := by
  have h : (u_ws RX12 TX12 46).all (fun w => decide (w ∈ lw_tbl) && goodWord w) = true := by decide +kernel
  intro w hw
  have h2 := List.all_eq_true.mp h w hw
  simp only [Bool.and_eq_true, decide_eq_true_eq] at h2
  exact mem_wU h2.1 h2.2
def rmD (d : Nat) : Room := { frames := d, cells := 0, slots := 0, locals := 48 * d }
/-- reading and writing a state -/
def mgI (t : MS) (f : Nat) : Int32 := t.1 f
def mgA (t : MS) (f : Nat) (i : Int32) : Int32 := t.2 f i.toNatClampNeg
def msI (t : MS) (f : Nat) (v : Int32) : MS := (va_up t.1 f v, t.2)
def msA (t : MS) (f : Nat) (i v : Int32) : MS := (t.1, va_up t.2 f (va_up (t.2 f) i.toNatClampNeg v))
def mIn (f : Nat) (i : Int32) : Prop := vp_in i (m_len f)
def mRem (x y : Int32) : Int32 := x - x / y * y
section GM
variable {p : Program} {l : Launch} {e : Env} {R : Room} {s : State} {m : MethodId} {args : Array Value} {below : List Frame} {meth : Method} {c : Code} {Q : State → Prop}
variable {cc : ByteArray} {nL : Nat} {hd : Cond} {D : va_G} {cI cZ : ClassId} {mo : Nat} {ad : Nat → Nat}
def gm_Cx (p : Program) (s : State) (m : MethodId) (args : Array Value) (c : Code) (cc : ByteArray) (nL : Nat) (hd : Cond) (D : va_G) (cI cZ : ClassId) (mo : Nat) (ad : Nat → Nat) : Prop :=
  p.tables.exec = Jvm.exec ∧ c.code = cc ∧ c.maxLocals = nL ∧ s.vm.findClass RX12 = some m.cls ∧ (∀ w ∈ hd :: wU, w.before args s = true) ∧ va_K D vwCl [(cI, .int), (cZ, .boolean)] s ∧ m_apart mo ad
def GM (p : Program) (l : Launch) (e : Env) (R : Room) (s : State) (m : MethodId) (args : Array Value) (below : List Frame) (meth : Method) (c : Code) (nL : Nat) (D : va_G) (cI cZ : ClassId) (mo : Nat) (ad : Nat → Nat) (Q : State → Prop) (t : MS) (pc : Nat) (lv : List (Nat × Value)) (st : List Value) : Prop :=
  ∀ (H : Heap) (locs : List Loc) (ls : Array Slot), va_P D vwCl (m_ws cI cZ mo ad t) H → va_S (m_A mo ad) s.heap H locs → (∀ q ∈ locs, m_A mo ad q.base) → lv_has ls nL lv → W p l e R s m args below meth c H locs 0 0 Q (F0 m pc ls st)
variable {t : MS} {pc : Nat} {lv : List (Nat × Value)} {st : List Value}
theorem gm_iconst (C : gm_Cx p s m args c cc nL hd D cI cZ mo ad) {n : Int} (v : Int32) (d : decode cc pc = .ok (.iconst n, 1)) (hv : Int32.ofInt n = v) (k : GM p l e R s m args below meth c nL D cI cZ mo ad Q t (pc + 1) lv (.int v :: st)) : GM p l e R s m args below meth c nL D cI cZ mo ad Q t pc lv st :=
  fun H locs ls hP hS hL hl => lv_iconst C.1 C.2.1 d hv (k H locs ls hP hS hL hl)
theorem gm_bipush (C : gm_Cx p s m args c cc nL hd D cI cZ mo ad) {n : Int} (v : Int32) (d : decode cc pc = .ok (.bipush n, 2)) (hv : (Int8.ofInt n).toInt32 = v) (k : GM p l e R s m args below meth c nL D cI cZ mo ad Q t (pc + 2) lv (.int v :: st)) : GM p l e R s m args below meth c nL D cI cZ mo ad Q t pc lv st :=
  fun H locs ls hP hS hL hl => lv_bipush C.1 C.2.1 d hv (k H locs ls hP hS hL hl)
theorem gm_sipush (C : gm_Cx p s m args c cc nL hd D cI cZ mo ad) {n : Int} (v : Int32) (d : decode cc pc = .ok (.sipush n, 3)) (hv : (Int16.ofInt n).toInt32 = v) (k : GM p l e R s m args below meth c nL D cI cZ mo ad Q t (pc + 3) lv (.int v :: st)) : GM p l e R s m args below meth c nL D cI cZ mo ad Q t pc lv st :=
  fun H locs ls hP hS hL hl => lv_sipush C.1 C.2.1 d hv (k H locs ls hP hS hL hl)
theorem gm_ldcw (C : gm_Cx p s m args c cc nL hd D cI cZ mo ad) {ix : Nat} (v : Int32) (hw : Cond.constant RX12 ix v ∈ wU) (d : decode cc pc = .ok (.ldc_w ix, 3)) (k : GM p l e R s m args below meth c nL D cI cZ mo ad Q t (pc + 3) lv (.int v :: st)) : GM p l e R s m args below meth c nL D cI cZ mo ad Q t pc lv st :=
  fun H locs ls hP hS hL hl => lv_ldcw C.1 C.2.1 C.2.2.2.1 (C.2.2.2.2.1 _ (List.mem_cons_of_mem _ hw)) d (k H locs ls hP hS hL hl)
theorem gm_iloadn (C : gm_Cx p s m args c cc nL hd D cI cZ mo ad) {n : Fin 4} (j i : Nat) {x : Int32} (d : decode cc pc = .ok (.iload_n n, 1)) (hi : (n : Nat) = i) (hv : lv[j]? = some (i, .int x)) (k : GM p l e R s m args below meth c nL D cI cZ mo ad Q t (pc + 1) lv (.int x :: st)) : GM p l e R s m args below meth c nL D cI cZ mo ad Q t pc lv st :=
  fun H locs ls hP hS hL hl => lv_iload_n C.1 C.2.1 d hi (lv_at hl j hv) (k H locs ls hP hS hL hl)
theorem gm_iload (C : gm_Cx p s m args c cc nL hd D cI cZ mo ad) (j : Nat) {i : Nat} {x : Int32} (d : decode cc pc = .ok (.iload i, 2)) (hv : lv[j]? = some (i, .int x)) (k : GM p l e R s m args below meth c nL D cI cZ mo ad Q t (pc + 2) lv (.int x :: st)) : GM p l e R s m args below meth c nL D cI cZ mo ad Q t pc lv st :=
  fun H locs ls hP hS hL hl => lv_iload C.1 C.2.1 d (lv_at hl j hv) (k H locs ls hP hS hL hl)
theorem gm_aload (C : gm_Cx p s m args c cc nL hd D cI cZ mo ad) (j : Nat) (d : decode cc pc = .ok (.aload_n 0, 1)) (hv : lv[j]? = some (0, .ref mo)) (k : GM p l e R s m args below meth c nL D cI cZ mo ad Q t (pc + 1) lv (.ref mo :: st)) : GM p l e R s m args below meth c nL D cI cZ mo ad Q t pc lv st :=
  fun H locs ls hP hS hL hl => lv_aload_n C.1 C.2.1 d rfl (lv_at hl j hv) (k H locs ls hP hS hL hl)
theorem gm_istoren (C : gm_Cx p s m args c cc nL hd D cI cZ mo ad) {n : Fin 4} (i : Nat) {x : Int32} (lv' : List (Nat × Value)) (d : decode cc pc = .ok (.istore_n n, 1)) (hi : (n : Nat) = i) (hn : i < nL) (hl' : (i, Value.int x) :: lv.filter (fun q => !(q.1 == i) && !(q.1 + 1 == i && q.2.category == 2)) = lv') (k : GM p l e R s m args below meth c nL D cI cZ mo ad Q t (pc + 1) lv' st) : GM p l e R s m args below meth c nL D cI cZ mo ad Q t pc lv (.int x :: st) :=
  fun H locs ls hP hS hL hl => lv_istore_n C.1 C.2.1 d hi hl hn hl' (fun ls' hl2 => k H locs ls' hP hS hL hl2)
theorem gm_istore (C : gm_Cx p s m args c cc nL hd D cI cZ mo ad) {i : Nat} {x : Int32} (lv' : List (Nat × Value)) (d : decode cc pc = .ok (.istore i, 2)) (hn : i < nL) (hl' : (i, Value.int x) :: lv.filter (fun q => !(q.1 == i) && !(q.1 + 1 == i && q.2.category == 2)) = lv') (k : GM p l e R s m args below meth c nL D cI cZ mo ad Q t (pc + 2) lv' st) : GM p l e R s m args below meth c nL D cI cZ mo ad Q t pc lv (.int x :: st) :=
  fun H locs ls hP hS hL hl => lv_istore C.1 C.2.1 d hl hn hl' (fun ls' hl2 => k H locs ls' hP hS hL hl2)
theorem gm_iinc (C : gm_Cx p s m args c cc nL hd D cI cZ mo ad) (j : Nat) {i : Nat} {n : Int} {x : Int32} (v : Int32) (lv' : List (Nat × Value)) (d : decode cc pc = .ok (.iinc i n, 3)) (hj : lv[j]? = some (i, .int x)) (hv : x + Int32.ofInt n = v) (hn : i < nL) (hl' : (i, Value.int v) :: lv.filter (fun q => !(q.1 == i) && !(q.1 + 1 == i && q.2.category == 2)) = lv') (k : GM p l e R s m args below meth c nL D cI cZ mo ad Q t (pc + 3) lv' st) : GM p l e R s m args below meth c nL D cI cZ mo ad Q t pc lv st :=
  fun H locs ls hP hS hL hl => lv_iinc C.1 C.2.1 d hl hj hv hn hl' (fun ls' hl2 => k H locs ls' hP hS hL hl2)
theorem gm_iadd (C : gm_Cx p s m args c cc nL hd D cI cZ mo ad) {x y : Int32} (d : decode cc pc = .ok (.iadd, 1)) (k : GM p l e R s m args below meth c nL D cI cZ mo ad Q t (pc + 1) lv (.int (x + y) :: st)) : GM p l e R s m args below meth c nL D cI cZ mo ad Q t pc lv (.int y :: .int x :: st) :=
  fun H locs ls hP hS hL hl => lv_iadd C.1 C.2.1 d (k H locs ls hP hS hL hl)
theorem gm_isub (C : gm_Cx p s m args c cc nL hd D cI cZ mo ad) {x y : Int32} (d : decode cc pc = .ok (.isub, 1)) (k : GM p l e R s m args below meth c nL D cI cZ mo ad Q t (pc + 1) lv (.int (x - y) :: st)) : GM p l e R s m args below meth c nL D cI cZ mo ad Q t pc lv (.int y :: .int x :: st) :=
  fun H locs ls hP hS hL hl => lv_isub C.1 C.2.1 d (k H locs ls hP hS hL hl)
theorem gm_imul (C : gm_Cx p s m args c cc nL hd D cI cZ mo ad) {x y : Int32} (d : decode cc pc = .ok (.imul, 1)) (k : GM p l e R s m args below meth c nL D cI cZ mo ad Q t (pc + 1) lv (.int (x * y) :: st)) : GM p l e R s m args below meth c nL D cI cZ mo ad Q t pc lv (.int y :: .int x :: st) :=
  fun H locs ls hP hS hL hl => lv_imul C.1 C.2.1 d (k H locs ls hP hS hL hl)
theorem gm_idiv (C : gm_Cx p s m args c cc nL hd D cI cZ mo ad) {x y : Int32} (d : decode cc pc = .ok (.idiv, 1)) (h0 : ¬ y = 0) (k : GM p l e R s m args below meth c nL D cI cZ mo ad Q t (pc + 1) lv (.int (x / y) :: st)) : GM p l e R s m args below meth c nL D cI cZ mo ad Q t pc lv (.int y :: .int x :: st) :=
  fun H locs ls hP hS hL hl => lv_idiv C.1 C.2.1 d h0 (k H locs ls hP hS hL hl)
theorem gm_irem (C : gm_Cx p s m args c cc nL hd D cI cZ mo ad) {x y : Int32} (d : decode cc pc = .ok (.irem, 1)) (h0 : ¬ y = 0) (k : GM p l e R s m args below meth c nL D cI cZ mo ad Q t (pc + 1) lv (.int (mRem x y) :: st)) : GM p l e R s m args below meth c nL D cI cZ mo ad Q t pc lv (.int y :: .int x :: st) :=
  fun H locs ls hP hS hL hl => lv_irem C.1 C.2.1 d h0 (k H locs ls hP hS hL hl)
theorem gm_ishr (C : gm_Cx p s m args c cc nL hd D cI cZ mo ad) {x y : Int32} (d : decode cc pc = .ok (.ishr, 1)) (k : GM p l e R s m args below meth c nL D cI cZ mo ad Q t (pc + 1) lv (.int (x >>> (y &&& 31)) :: st)) : GM p l e R s m args below meth c nL D cI cZ mo ad Q t pc lv (.int y :: .int x :: st) :=
  fun H locs ls hP hS hL hl => lv_ishr C.1 C.2.1 d (k H locs ls hP hS hL hl)
theorem gm_dup (C : gm_Cx p s m args c cc nL hd D cI cZ mo ad) {a : Value} (d : decode cc pc = .ok (.dup, 1)) (ha : a.category = 1) (k : GM p l e R s m args below meth c nL D cI cZ mo ad Q t (pc + 1) lv (a :: a :: st)) : GM p l e R s m args below meth c nL D cI cZ mo ad Q t pc lv (a :: st) :=
  fun H locs ls hP hS hL hl => lv_dup C.1 C.2.1 d ha (k H locs ls hP hS hL hl)
theorem gm_dup2 (C : gm_Cx p s m args c cc nL hd D cI cZ mo ad) {a b : Value} (d : decode cc pc = .ok (.dup2, 1)) (ha : a.category = 1) (hb : b.category = 1) (k : GM p l e R s m args below meth c nL D cI cZ mo ad Q t (pc + 1) lv (a :: b :: a :: b :: st)) : GM p l e R s m args below meth c nL D cI cZ mo ad Q t pc lv (a :: b :: st) :=
  fun H locs ls hP hS hL hl => lv_dup2_11 C.1 C.2.1 d ha hb (k H locs ls hP hS hL hl)
theorem gm_pop (C : gm_Cx p s m args c cc nL hd D cI cZ mo ad) {a : Value} (d : decode cc pc = .ok (.pop, 1)) (ha : a.category = 1) (k : GM p l e R s m args below meth c nL D cI cZ mo ad Q t (pc + 1) lv st) : GM p l e R s m args below meth c nL D cI cZ mo ad Q t pc lv (a :: st) :=
  fun H locs ls hP hS hL hl => lv_pop C.1 C.2.1 d ha (k H locs ls hP hS hL hl)
theorem gm_goto (C : gm_Cx p s m args c cc nL hd D cI cZ mo ad) {off : Int} (tgt : Nat) (d : decode cc pc = .ok (.goto off, 3)) (ht : (pc : Int) + off = (tgt : Int)) (k : GM p l e R s m args below meth c nL D cI cZ mo ad Q t tgt lv st) : GM p l e R s m args below meth c nL D cI cZ mo ad Q t pc lv st :=
  fun H locs ls hP hS hL hl => lv_goto C.1 C.2.1 d ht (k H locs ls hP hS hL hl)
theorem gm_if_eq (C : gm_Cx p s m args c cc nL hd D cI cZ mo ad) {x : Int32} {off : Int} (tgt : Nat) (d : decode cc pc = .ok (.ifCond .eq off, 3)) (ht : (pc : Int) + off = (tgt : Int)) (kt : x = 0 → GM p l e R s m args below meth c nL D cI cZ mo ad Q t tgt lv st) (kf : ¬ x = 0 → GM p l e R s m args below meth c nL D cI cZ mo ad Q t (pc + 3) lv st) : GM p l e R s m args below meth c nL D cI cZ mo ad Q t pc lv (.int x :: st) :=
  fun H locs ls hP hS hL hl => lv_if_eq C.1 C.2.1 d ht (fun h => kt h H locs ls hP hS hL hl) (fun h => kf h H locs ls hP hS hL hl)
theorem gm_icmp_eq (C : gm_Cx p s m args c cc nL hd D cI cZ mo ad) {x y : Int32} {off : Int} (tgt : Nat) (d : decode cc pc = .ok (.if_icmp .eq off, 3)) (ht : (pc : Int) + off = (tgt : Int)) (kt : x = y → GM p l e R s m args below meth c nL D cI cZ mo ad Q t tgt lv st) (kf : ¬ x = y → GM p l e R s m args below meth c nL D cI cZ mo ad Q t (pc + 3) lv st) : GM p l e R s m args below meth c nL D cI cZ mo ad Q t pc lv (.int y :: .int x :: st) :=
  fun H locs ls hP hS hL hl => lv_icmp_eq C.1 C.2.1 d ht (fun h => kt h H locs ls hP hS hL hl) (fun h => kf h H locs ls hP hS hL hl)
theorem gm_if_ne (C : gm_Cx p s m args c cc nL hd D cI cZ mo ad) {x : Int32} {off : Int} (tgt : Nat) (d : decode cc pc = .ok (.ifCond .ne off, 3)) (ht : (pc : Int) + off = (tgt : Int)) (kt : ¬ x = 0 → GM p l e R s m args below meth c nL D cI cZ mo ad Q t tgt lv st) (kf : x = 0 → GM p l e R s m args below meth c nL D cI cZ mo ad Q t (pc + 3) lv st) : GM p l e R s m args below meth c nL D cI cZ mo ad Q t pc lv (.int x :: st) :=
  fun H locs ls hP hS hL hl => lv_if_ne C.1 C.2.1 d ht (fun h => kt h H locs ls hP hS hL hl) (fun h => kf h H locs ls hP hS hL hl)
theorem gm_icmp_ne (C : gm_Cx p s m args c cc nL hd D cI cZ mo ad) {x y : Int32} {off : Int} (tgt : Nat) (d : decode cc pc = .ok (.if_icmp .ne off, 3)) (ht : (pc : Int) + off = (tgt : Int)) (kt : ¬ x = y → GM p l e R s m args below meth c nL D cI cZ mo ad Q t tgt lv st) (kf : x = y → GM p l e R s m args below meth c nL D cI cZ mo ad Q t (pc + 3) lv st) : GM p l e R s m args below meth c nL D cI cZ mo ad Q t pc lv (.int y :: .int x :: st) :=
  fun H locs ls hP hS hL hl => lv_icmp_ne C.1 C.2.1 d ht (fun h => kt h H locs ls hP hS hL hl) (fun h => kf h H locs ls hP hS hL hl)
theorem gm_if_lt (C : gm_Cx p s m args c cc nL hd D cI cZ mo ad) {x : Int32} {off : Int} (tgt : Nat) (d : decode cc pc = .ok (.ifCond .lt off, 3)) (ht : (pc : Int) + off = (tgt : Int)) (kt : x < 0 → GM p l e R s m args below meth c nL D cI cZ mo ad Q t tgt lv st) (kf : ¬ x < 0 → GM p l e R s m args below meth c nL D cI cZ mo ad Q t (pc + 3) lv st) : GM p l e R s m args below meth c nL D cI cZ mo ad Q t pc lv (.int x :: st) :=
  fun H locs ls hP hS hL hl => lv_if_lt C.1 C.2.1 d ht (fun h => kt h H locs ls hP hS hL hl) (fun h => kf h H locs ls hP hS hL hl)
theorem gm_icmp_lt (C : gm_Cx p s m args c cc nL hd D cI cZ mo ad) {x y : Int32} {off : Int} (tgt : Nat) (d : decode cc pc = .ok (.if_icmp .lt off, 3)) (ht : (pc : Int) + off = (tgt : Int)) (kt : x < y → GM p l e R s m args below meth c nL D cI cZ mo ad Q t tgt lv st) (kf : ¬ x < y → GM p l e R s m args below meth c nL D cI cZ mo ad Q t (pc + 3) lv st) : GM p l e R s m args below meth c nL D cI cZ mo ad Q t pc lv (.int y :: .int x :: st) :=
  fun H locs ls hP hS hL hl => lv_icmp_lt C.1 C.2.1 d ht (fun h => kt h H locs ls hP hS hL hl) (fun h => kf h H locs ls hP hS hL hl)
theorem gm_if_ge (C : gm_Cx p s m args c cc nL hd D cI cZ mo ad) {x : Int32} {off : Int} (tgt : Nat) (d : decode cc pc = .ok (.ifCond .ge off, 3)) (ht : (pc : Int) + off = (tgt : Int)) (kt : 0 ≤ x → GM p l e R s m args below meth c nL D cI cZ mo ad Q t tgt lv st) (kf : ¬ 0 ≤ x → GM p l e R s m args below meth c nL D cI cZ mo ad Q t (pc + 3) lv st) : GM p l e R s m args below meth c nL D cI cZ mo ad Q t pc lv (.int x :: st) :=
  fun H locs ls hP hS hL hl => lv_if_ge C.1 C.2.1 d ht (fun h => kt h H locs ls hP hS hL hl) (fun h => kf h H locs ls hP hS hL hl)
theorem gm_icmp_ge (C : gm_Cx p s m args c cc nL hd D cI cZ mo ad) {x y : Int32} {off : Int} (tgt : Nat) (d : decode cc pc = .ok (.if_icmp .ge off, 3)) (ht : (pc : Int) + off = (tgt : Int)) (kt : y ≤ x → GM p l e R s m args below meth c nL D cI cZ mo ad Q t tgt lv st) (kf : ¬ y ≤ x → GM p l e R s m args below meth c nL D cI cZ mo ad Q t (pc + 3) lv st) : GM p l e R s m args below meth c nL D cI cZ mo ad Q t pc lv (.int y :: .int x :: st) :=
  fun H locs ls hP hS hL hl => lv_icmp_ge C.1 C.2.1 d ht (fun h => kt h H locs ls hP hS hL hl) (fun h => kf h H locs ls hP hS hL hl)
theorem gm_if_gt (C : gm_Cx p s m args c cc nL hd D cI cZ mo ad) {x : Int32} {off : Int} (tgt : Nat) (d : decode cc pc = .ok (.ifCond .gt off, 3)) (ht : (pc : Int) + off = (tgt : Int)) (kt : 0 < x → GM p l e R s m args below meth c nL D cI cZ mo ad Q t tgt lv st) (kf : ¬ 0 < x → GM p l e R s m args below meth c nL D cI cZ mo ad Q t (pc + 3) lv st) : GM p l e R s m args below meth c nL D cI cZ mo ad Q t pc lv (.int x :: st) :=
  fun H locs ls hP hS hL hl => lv_if_gt C.1 C.2.1 d ht (fun h => kt h H locs ls hP hS hL hl) (fun h => kf h H locs ls hP hS hL hl)
theorem gm_icmp_gt (C : gm_Cx p s m args c cc nL hd D cI cZ mo ad) {x y : Int32} {off : Int} (tgt : Nat) (d : decode cc pc = .ok (.if_icmp .gt off, 3)) (ht : (pc : Int) + off = (tgt : Int)) (kt : y < x → GM p l e R s m args below meth c nL D cI cZ mo ad Q t tgt lv st) (kf : ¬ y < x → GM p l e R s m args below meth c nL D cI cZ mo ad Q t (pc + 3) lv st) : GM p l e R s m args below meth c nL D cI cZ mo ad Q t pc lv (.int y :: .int x :: st) :=
  fun H locs ls hP hS hL hl => lv_icmp_gt C.1 C.2.1 d ht (fun h => kt h H locs ls hP hS hL hl) (fun h => kf h H locs ls hP hS hL hl)
theorem gm_if_le (C : gm_Cx p s m args c cc nL hd D cI cZ mo ad) {x : Int32} {off : Int} (tgt : Nat) (d : decode cc pc = .ok (.ifCond .le off, 3)) (ht : (pc : Int) + off = (tgt : Int)) (kt : x ≤ 0 → GM p l e R s m args below meth c nL D cI cZ mo ad Q t tgt lv st) (kf : ¬ x ≤ 0 → GM p l e R s m args below meth c nL D cI cZ mo ad Q t (pc + 3) lv st) : GM p l e R s m args below meth c nL D cI cZ mo ad Q t pc lv (.int x :: st) :=
  fun H locs ls hP hS hL hl => lv_if_le C.1 C.2.1 d ht (fun h => kt h H locs ls hP hS hL hl) (fun h => kf h H locs ls hP hS hL hl)
theorem gm_icmp_le (C : gm_Cx p s m args c cc nL hd D cI cZ mo ad) {x y : Int32} {off : Int} (tgt : Nat) (d : decode cc pc = .ok (.if_icmp .le off, 3)) (ht : (pc : Int) + off = (tgt : Int)) (kt : x ≤ y → GM p l e R s m args below meth c nL D cI cZ mo ad Q t tgt lv st) (kf : ¬ x ≤ y → GM p l e R s m args below meth c nL D cI cZ mo ad Q t (pc + 3) lv st) : GM p l e R s m args below meth c nL D cI cZ mo ad Q t pc lv (.int y :: .int x :: st) :=
  fun H locs ls hP hS hL hl => lv_icmp_le C.1 C.2.1 d ht (fun h => kt h H locs ls hP hS hL hl) (fun h => kf h H locs ls hP hS hL hl)
theorem gm_getI (C : gm_Cx p s m args c cc nL hd D cI cZ mo ad) {ix : Nat} (f : Nat) (hf : f < 46) (hi : m_isI f = true) (hw : Cond.fieldLink RX12 ix RX12 (TX12 f).2.1 (TX12 f).2.2.1 ∈ wU) (h1 : (TX12 f).1 = RX12) (d : decode cc pc = .ok (.getfield ix, 3)) (k : GM p l e R s m args below meth c nL D cI cZ mo ad Q t (pc + 3) lv (.int (mgI t f) :: st)) : GM p l e R s m args below meth c nL D cI cZ mo ad Q t pc lv (.ref mo :: st) :=
  fun H locs ls hP hS hL hl => va_get (D := D) (ci := 15) (v := .int (t.1 f)) (C := RX12) (T := TX12) (N := 46) C.1 C.2.1 (Ts := hd :: wU) C.2.2.2.2.1 (fun w h => List.mem_cons_of_mem _ (u_X12 w h)) C.2.2.2.1 C.2.2.2.2.2.1 hP 0 rfl rfl f hf (C.2.2.2.2.1 _ (List.mem_cons_of_mem _ hw)) (fun x h9 => by rw [h1] at h9; exact h9) (by rw [m_fget hf]; simp [m_fv, hi]) d (k H locs ls hP hS hL hl)
theorem gm_getA (C : gm_Cx p s m args c cc nL hd D cI cZ mo ad) {ix : Nat} (f : Nat) (hf : f < 46) (hi : m_isI f = false) (hw : Cond.fieldLink RX12 ix RX12 (TX12 f).2.1 (TX12 f).2.2.1 ∈ wU) (h1 : (TX12 f).1 = RX12) (d : decode cc pc = .ok (.getfield ix, 3)) (k : GM p l e R s m args below meth c nL D cI cZ mo ad Q t (pc + 3) lv (.ref (ad f) :: st)) : GM p l e R s m args below meth c nL D cI cZ mo ad Q t pc lv (.ref mo :: st) :=
  fun H locs ls hP hS hL hl => va_get (D := D) (ci := 15) (v := .ref (ad f)) (C := RX12) (T := TX12) (N := 46) C.1 C.2.1 (Ts := hd :: wU) C.2.2.2.2.1 (fun w h => List.mem_cons_of_mem _ (u_X12 w h)) C.2.2.2.1 C.2.2.2.2.2.1 hP 0 rfl rfl f hf (C.2.2.2.2.1 _ (List.mem_cons_of_mem _ hw)) (fun x h9 => by rw [h1] at h9; exact h9) (by rw [m_fget hf]; simp [m_fv, hi]) d (k H locs ls hP hS hL hl)
theorem gm_putI (C : gm_Cx p s m args c cc nL hd D cI cZ mo ad) {ix : Nat} (f : Nat) {v : Int32} (hf : f < 46) (hi : m_isI f = true) (hw : Cond.fieldLink RX12 ix RX12 (TX12 f).2.1 (TX12 f).2.2.1 ∈ wU) (h1 : (TX12 f).1 = RX12) (h2 : (TX12 f).2.2.2 = false) (h3 : parseFieldDescriptor (TX12 f).2.2.1 = some .int) (d : decode cc pc = .ok (.putfield ix, 3)) (k : GM p l e R s m args below meth c nL D cI cZ mo ad Q (msI t f v) (pc + 3) lv st) : GM p l e R s m args below meth c nL D cI cZ mo ad Q t pc lv (.int v :: .ref mo :: st) :=
  fun H locs ls hP hS hL hl => va_put (D := D) (ci := 15) (v := .int v) (ty := .int) (C := RX12) (T := TX12) (N := 46) C.1 C.2.1 (Ts := hd :: wU) C.2.2.2.2.1 (fun w h => List.mem_cons_of_mem _ (u_X12 w h)) tyX12 tyX12_ok nmX12 C.2.2.2.1 C.2.2.2.2.2.1 hP (m_D C.2.2.2.2.2.2 t) hS 0 rfl rfl f hf (C.2.2.2.2.1 _ (List.mem_cons_of_mem _ hw)) (fun x h9 => by rw [h1] at h9; exact h9) h2 h3 rfl rfl (by rw [m_flen]; exact hf) d (fun H1 locs1 hP1 _ hS1 => by
    rw [m_fset hf hi v] at hP1
    exact k H1 locs1 ls hP1 hS1 hS1.2.2 hl)
theorem gm_iald (C : gm_Cx p s m args c cc nL hd D cI cZ mo ad) (f : Nat) {i : Int32} (hf : f ∈ m_kinds) (hz : m_isZ f = false) (hin : mIn f i) (d : decode cc pc = .ok (.iaload, 1)) (k : GM p l e R s m args below meth c nL D cI cZ mo ad Q t (pc + 1) lv (.int (mgA t f i) :: st)) : GM p l e R s m args below meth c nL D cI cZ mo ad Q t pc lv (.int i :: .ref (ad f) :: st) := by
  intro H locs ls hP hS hL hl
  obtain ⟨j, hj⟩ := m_pos hf
  have ha := m_at (cI := cI) (cZ := cZ) (mo := mo) (ad := ad) (t := t) hj
  rw [hz] at ha
  exact va_iald C.1 C.2.1 C.2.2.2.2.2.1 hP (j + 1) 0 ha rfl hin d (k H locs ls hP hS hL hl)
theorem gm_bald (C : gm_Cx p s m args c cc nL hd D cI cZ mo ad) (f : Nat) {i : Int32} (hf : f ∈ m_kinds) (hz : m_isZ f = true) (hin : mIn f i) (d : decode cc pc = .ok (.baload, 1)) (k : GM p l e R s m args below meth c nL D cI cZ mo ad Q t (pc + 1) lv (.int (mgA t f i) :: st)) : GM p l e R s m args below meth c nL D cI cZ mo ad Q t pc lv (.int i :: .ref (ad f) :: st) := by
  intro H locs ls hP hS hL hl
  obtain ⟨j, hj⟩ := m_pos hf
  have ha := m_at (cI := cI) (cZ := cZ) (mo := mo) (ad := ad) (t := t) hj
  rw [hz] at ha
  exact va_zald C.1 C.2.1 C.2.2.2.2.2.1 hP (j + 1) 1 ha rfl hin d (k H locs ls hP hS hL hl)
theorem gm_iast (C : gm_Cx p s m args c cc nL hd D cI cZ mo ad) (f : Nat) {i x : Int32} (hf : f ∈ m_kinds) (hz : m_isZ f = false) (hin : mIn f i) (d : decode cc pc = .ok (.iastore, 1)) (k : GM p l e R s m args below meth c nL D cI cZ mo ad Q (msA t f i x) (pc + 1) lv st) : GM p l e R s m args below meth c nL D cI cZ mo ad Q t pc lv (.int x :: .int i :: .ref (ad f) :: st) := by
  intro H locs ls hP hS hL hl
  obtain ⟨j, hj⟩ := m_pos hf
  have ha := m_at (cI := cI) (cZ := cZ) (mo := mo) (ad := ad) (t := t) hj
  have hset := m_aset (cI := cI) (cZ := cZ) (mo := mo) (ad := ad) (t := t) hj
  rw [hz] at ha
  refine va_iast C.1 C.2.1 C.2.2.2.2.2.1 hP (m_D C.2.2.2.2.2.2 t) hS (j + 1) 0 ha rfl hin d (fun H1 locs1 hP1 _ hS1 => ?_)
  have h3 := hset (upd (t.2 f) i.toNatClampNeg x)
  rw [hz] at h3
  rw [h3] at hP1
  have e : upd (t.2 f) i.toNatClampNeg x = va_up (t.2 f) i.toNatClampNeg x := by funext q; simp [upd, va_up]
  rw [e] at hP1
  exact k H1 locs1 ls hP1 hS1 hS1.2.2 hl
theorem gm_bast (C : gm_Cx p s m args c cc nL hd D cI cZ mo ad) (f : Nat) {i x : Int32} (hf : f ∈ m_kinds) (hz : m_isZ f = true) (hin : mIn f i) (hx : x = 0 ∨ x = 1) (d : decode cc pc = .ok (.bastore, 1)) (k : GM p l e R s m args below meth c nL D cI cZ mo ad Q (msA t f i x) (pc + 1) lv st) : GM p l e R s m args below meth c nL D cI cZ mo ad Q t pc lv (.int x :: .int i :: .ref (ad f) :: st) := by
  intro H locs ls hP hS hL hl
  obtain ⟨j, hj⟩ := m_pos hf
  have ha := m_at (cI := cI) (cZ := cZ) (mo := mo) (ad := ad) (t := t) hj
  have hset := m_aset (cI := cI) (cZ := cZ) (mo := mo) (ad := ad) (t := t) hj
  rw [hz] at ha
  refine va_zast C.1 C.2.1 C.2.2.2.2.2.1 hP (m_D C.2.2.2.2.2.2 t) hS (j + 1) 1 ha rfl hin d (fun H1 locs1 hP1 _ hS1 => ?_)
  have hn : vp_nar .boolean x = x := by rcases hx with rfl | rfl <;> rfl
  rw [hn] at hP1
  have h3 := hset (upd (t.2 f) i.toNatClampNeg x)
  rw [hz] at h3
  rw [h3] at hP1
  have e : upd (t.2 f) i.toNatClampNeg x = va_up (t.2 f) i.toNatClampNeg x := by funext q; simp [upd, va_up]
  rw [e] at hP1
  exact k H1 locs1 ls hP1 hS1 hS1.2.2 hl
/-- a method of the model: from a state, to an answer and a state that the post says -/
def m_Post (D : va_G) (cI cZ : ClassId) (mo : Nat) (ad : Nat → Nat) (post : Option Value → MS → Prop) : Array Value → State → Outcome → State → Prop := fun _ st o u =>
  (∃ (v : Option Value) (t' : MS), o = .returned v ∧ post v t' ∧ va_P D vwCl (m_ws cI cZ mo ad t') u.heap) ∧ va_F (m_A mo ad) st u
def m_Pre (D : va_G) (cI cZ : ClassId) (mo : Nat) (ad : Nat → Nat) (t : MS) (as : List Value) : Array Value → State → Prop :=
  va_Pc as (fun U => va_P D vwCl (m_ws cI cZ mo ad t) U.heap ∧ va_K D vwCl [(cI, .int), (cZ, .boolean)] U)
def MetM (l : Launch) (y : MethodName) (cc : ByteArray) (nL : Nat) (ret : Option FieldType) (d : Nat) (as : List Value) (post : MS → Option Value → MS → Prop) (D : va_G) (cI cZ : ClassId) (mo : Nat) (ad : Nat → Nat) (t : MS) : Prop :=
  m_apart mo ad → Met l y (.code y cc nL ret :: wU) (rmD d) (m_Pre D cI cZ mo ad t as) (m_Post D cI cZ mo ad (post t)) 0 0 (m_A mo ad)
end GM
