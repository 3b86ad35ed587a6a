/-! THE CLASS'S MACHINE LAYER: what the objects of the class hold, by fields and owners; arrays and lists belong to the field of an owner, at a place behind it -/
abbrev CS : Type := (Nat → Nat) × (Nat → Nat → Int32) × (Nat → Nat → Nat → Int32) × (Nat → Nat → Int64) × (Nat → Nat → Option Nat) × (Nat → Nat → Nat → Option Nat) × (Nat → Nat → List Nat) × (Nat → Nat → Nat) × Nat × Nat
def kdC (S : CS) : Nat → Nat := S.1
def fI (S : CS) : Nat → Nat → Int32 := S.2.1
def fA (S : CS) : Nat → Nat → Nat → Int32 := S.2.2.1
def fJ (S : CS) : Nat → Nat → Int64 := S.2.2.2.1
def fR (S : CS) : Nat → Nat → Option Nat := S.2.2.2.2.1
def fQ (S : CS) : Nat → Nat → Nat → Option Nat := S.2.2.2.2.2.1
def fL (S : CS) : Nat → Nat → List Nat := S.2.2.2.2.2.2.1
def fC (S : CS) : Nat → Nat → Nat := S.2.2.2.2.2.2.2.1
def szC (S : CS) : Nat := S.2.2.2.2.2.2.2.2.1
def nsC (S : CS) : Nat := S.2.2.2.2.2.2.2.2.2
def mkC (kd : Nat → Nat) (I : Nat → Nat → Int32) (A : Nat → Nat → Nat → Int32) (J : Nat → Nat → Int64) (R : Nat → Nat → Option Nat) (Q : Nat → Nat → Nat → Option Nat) (L : Nat → Nat → List Nat) (C : Nat → Nat → Nat) (sz ns : Nat) : CS := (kd, I, A, J, R, Q, L, C, sz, ns)
def up2 {α : Type} (f : Nat → Nat → α) (k o : Nat) (v : α) : Nat → Nat → α := fun j q => if j = k ∧ q = o then v else f j q
theorem up2_same {α : Type} (f : Nat → Nat → α) (k o : Nat) (v : α) : up2 f k o v k o = v := by simp [up2]
theorem up2_ne {α : Type} (f : Nat → Nat → α) {k o j q : Nat} (v : α) (h : ¬ (j = k ∧ q = o)) : up2 f k o v j q = f j q := by simp [up2, h]
/-- the tables of the fields: by 16 times the class's place and the field's -/
def cFTl : List Nat := [9, 9, 9, 9, 9, 9, 9, 9, 9, 9, 9, 9, 9, 9, 9, 9, 9, 9, 9, 9, 9, 9, 9, 9, 9, 9, 9, 9, 9, 9, 9, 9, 9, 9, 9, 9, 9, 9, 9, 9, 9, 9, 9, 9, 9, 9, 9, 9, 0, 0, 0, 0, 0, 0, 9, 9, 9, 9, 9, 9, 9, 9, 9, 9, 1, 0, 1, 1, 9, 9, 9, 9, 9, 9, 9, 9, 9, 9, 9, 9, 0, 0, 0, 4, 9, 9, 9, 9, 9, 9, 9, 9, 9, 9, 9, 9, 1, 1, 0, 1, 0, 1, 1, 1, 1, 2, 1, 9, 9, 9, 9, 9, 0, 1, 1, 1, 1, 1, 0, 3, 3, 0, 9, 9, 9, 9, 9, 9, 0, 0, 0, 3, 3, 0, 9, 9, 9, 9, 9, 9, 9, 9, 9, 9, 1, 1, 0, 0, 5, 0, 0, 4, 1, 1, 9, 9, 9, 9, 9, 9, 0, 0, 0, 9, 9, 9, 9, 9, 9, 9, 9, 9, 9, 9, 9, 9, 5, 0, 0, 9, 9, 9, 9, 9, 9, 9, 9, 9, 9, 9, 9, 9, 5, 5, 5, 1, 0, 0, 0, 0, 9, 9, 9, 9, 9, 9, 9, 9, 0, 0, 0, 0, 0, 9, 9, 9, 9, 9, 9, 9, 9, 9, 9, 9, 3, 3, 4, 9, 9, 9, 9, 9, 9, 9, 9, 9, 9, 9, 9, 9]
def cOFl : List Nat := [0, 0, 0, 0, 0, 0, 0, 0, 0, 0, 0, 0, 0, 0, 0, 0, 0, 0, 0, 0, 0, 0, 0, 0, 0, 0, 0, 0, 0, 0, 0, 0, 0, 0, 0, 0, 0, 0, 0, 0, 0, 0, 0, 0, 0, 0, 0, 0, 0, 0, 0, 0, 0, 0, 0, 0, 0, 0, 0, 0, 0, 0, 0, 0, 1, 0, 2, 3, 0, 0, 0, 0, 0, 0, 0, 0, 0, 0, 0, 0, 0, 0, 0, 1, 0, 0, 0, 0, 0, 0, 0, 0, 0, 0, 0, 0, 1, 2, 0, 3, 0, 4, 5, 6, 7, 8, 9, 0, 0, 0, 0, 0, 0, 1, 2, 3, 4, 5, 0, 0, 0, 0, 0, 0, 0, 0, 0, 0, 0, 0, 0, 0, 0, 0, 0, 0, 0, 0, 0, 0, 0, 0, 0, 0, 1, 2, 0, 0, 3, 0, 0, 4, 5, 6, 0, 0, 0, 0, 0, 0, 0, 0, 0, 0, 0, 0, 0, 0, 0, 0, 0, 0, 0, 0, 0, 0, 1, 0, 0, 0, 0, 0, 0, 0, 0, 0, 0, 0, 0, 0, 0, 0, 1, 2, 3, 4, 0, 0, 0, 0, 0, 0, 0, 0, 0, 0, 0, 0, 0, 0, 0, 0, 0, 0, 0, 0, 0, 0, 0, 0, 0, 0, 0, 0, 0, 0, 13, 0, 0, 0, 0, 0, 0, 0, 0, 0, 0, 0, 0, 0]
def cLNl : List Nat := [0, 0, 0, 0, 0, 0, 0, 0, 0, 0, 0, 0, 0, 0, 0, 0, 0, 0, 0, 0, 0, 0, 0, 0, 0, 0, 0, 0, 0, 0, 0, 0, 0, 0, 0, 0, 0, 0, 0, 0, 0, 0, 0, 0, 0, 0, 0, 0, 0, 0, 0, 0, 0, 0, 0, 0, 0, 0, 0, 0, 0, 0, 0, 0, 24, 0, 25, 25, 0, 0, 0, 0, 0, 0, 0, 0, 0, 0, 0, 0, 0, 0, 0, 4, 0, 0, 0, 0, 0, 0, 0, 0, 0, 0, 0, 0, 48, 48, 0, 24, 0, 24, 24, 24, 24, 100, 100, 0, 0, 0, 0, 0, 0, 24, 24, 24, 24, 24, 0, 0, 0, 0, 0, 0, 0, 0, 0, 0, 0, 0, 0, 0, 0, 0, 0, 0, 0, 0, 0, 0, 0, 0, 0, 0, 48, 48, 0, 0, 0, 0, 0, 4, 4, 4, 0, 0, 0, 0, 0, 0, 0, 0, 0, 0, 0, 0, 0, 0, 0, 0, 0, 0, 0, 0, 0, 0, 0, 0, 0, 0, 0, 0, 0, 0, 0, 0, 0, 0, 0, 0, 0, 0, 0, 0, 0, 4, 0, 0, 0, 0, 0, 0, 0, 0, 0, 0, 0, 0, 0, 0, 0, 0, 0, 0, 0, 0, 0, 0, 0, 0, 0, 0, 0, 0, 0, 0, 4, 0, 0, 0, 0, 0, 0, 0, 0, 0, 0, 0, 0, 0]
def cQKl : List Nat := [0, 0, 0, 0, 0, 0, 0, 0, 0, 0, 0, 0, 0, 0, 0, 0, 0, 0, 0, 0, 0, 0, 0, 0, 0, 0, 0, 0, 0, 0, 0, 0, 0, 0, 0, 0, 0, 0, 0, 0, 0, 0, 0, 0, 0, 0, 0, 0, 0, 0, 0, 0, 0, 0, 0, 0, 0, 0, 0, 0, 0, 0, 0, 0, 0, 0, 0, 0, 0, 0, 0, 0, 0, 0, 0, 0, 0, 0, 0, 0, 0, 0, 0, 11, 0, 0, 0, 0, 0, 0, 0, 0, 0, 0, 0, 0, 0, 0, 0, 0, 0, 0, 0, 0, 0, 0, 0, 0, 0, 0, 0, 0, 0, 0, 0, 0, 0, 0, 0, 0, 0, 0, 0, 0, 0, 0, 0, 0, 0, 0, 0, 0, 0, 0, 0, 0, 0, 0, 0, 0, 0, 0, 0, 0, 0, 0, 0, 0, 0, 0, 0, 13, 0, 0, 0, 0, 0, 0, 0, 0, 0, 0, 0, 0, 0, 0, 0, 0, 0, 0, 0, 0, 0, 0, 0, 0, 0, 0, 0, 0, 0, 0, 0, 0, 0, 0, 0, 0, 0, 0, 0, 0, 0, 0, 0, 0, 0, 0, 0, 0, 0, 0, 0, 0, 0, 0, 0, 0, 0, 0, 0, 0, 0, 0, 0, 0, 0, 0, 0, 0, 0, 0, 0, 0, 0, 0, 7, 0, 0, 0, 0, 0, 0, 0, 0, 0, 0, 0, 0, 0]
def cEIl : List Nat := [0, 0, 0, 0, 0, 0, 0, 0, 0, 0, 0, 0, 0, 0, 0, 0, 0, 0, 0, 0, 0, 0, 0, 0, 0, 0, 0, 0, 0, 0, 0, 0, 0, 0, 0, 0, 0, 0, 0, 0, 0, 0, 0, 0, 0, 0, 0, 0, 0, 0, 0, 0, 0, 0, 0, 0, 0, 0, 0, 0, 0, 0, 0, 0, 0, 0, 1, 2, 0, 0, 0, 0, 0, 0, 0, 0, 0, 0, 0, 0, 0, 0, 0, 0, 0, 0, 0, 0, 0, 0, 0, 0, 0, 0, 0, 0, 0, 1, 0, 2, 0, 3, 4, 5, 6, 7, 8, 0, 0, 0, 0, 0, 0, 0, 1, 2, 3, 4, 0, 0, 0, 0, 0, 0, 0, 0, 0, 0, 0, 0, 0, 0, 0, 0, 0, 0, 0, 0, 0, 0, 0, 0, 0, 0, 0, 1, 0, 0, 2, 0, 0, 3, 4, 5, 0, 0, 0, 0, 0, 0, 0, 0, 0, 0, 0, 0, 0, 0, 0, 0, 0, 0, 0, 0, 0, 0, 0, 0, 0, 0, 0, 0, 0, 0, 0, 0, 0, 0, 0, 0, 0, 0, 0, 1, 2, 3, 0, 0, 0, 0, 0, 0, 0, 0, 0, 0, 0, 0, 0, 0, 0, 0, 0, 0, 0, 0, 0, 0, 0, 0, 0, 0, 0, 0, 0, 0, 0, 0, 0, 0, 0, 0, 0, 0, 0, 0, 0, 0, 0, 0]
def cFT (f : Nat) : Nat := cFTl.getD f 9
def cOF (f : Nat) : Nat := cOFl.getD f 0
def cLN (f : Nat) : Nat := cLNl.getD f 0
def cQK (f : Nat) : Nat := cQKl.getD f 0
def cEI (f : Nat) : Nat := cEIl.getD f 0
def cNF (c : Nat) : Nat := ([0, 0, 0, 6, 4, 4, 11, 10, 6, 10, 3, 3, 8, 5, 3, 0] : List Nat).getD c 0
def cNE (c : Nat) : Nat := ([0, 0, 0, 0, 3, 1, 9, 5, 0, 6, 0, 1, 4, 0, 1, 0] : List Nat).getD c 0
/-- whether a field's own array or list is there: kd is the class when all are, else the class and 100 times one more than how many -/
def cAtt (v f : Nat) : Bool := decide (v < 100) || decide (cEI f < v / 100 - 1)
def cEmb (t : Nat) : Bool := t == 1 || t == 2 || t == 4 || t == 5
abbrev CG : Type := (Nat → Nat × Nat) × (Nat → Nat → Option Nat) × (Nat → Nat → Int32)
def c_fv (S : CS) (c o k : Nat) : Value := if cFT (16 * c + k) = 0 then .int (fI S (16 * c + k) o) else if cFT (16 * c + k) = 3 then va_rf (fR S (16 * c + k) o) else if cAtt (kdC S o) (16 * c + k) = true then .ref (o + cOF (16 * c + k)) else .null
def c_fs (S : CS) (c o : Nat) : List Value := (List.range (cNF c)).map (c_fv S c o)
def c_dref (E0 : Nat) (d : Option Nat) : Value := match d with
  | none => .ref E0
  | some q => .ref q
def c_ce (K : Nat → ClassId) (E0 : Nat) (S : CS) (G : CG) (r o : Nat) : va_E :=
  if r < 16 then .inr (r, c_fs S r o)
  else if 1000 ≤ r then .inl (K 2, fC S (r - 1000) o, .inr (.inr (.inr (.inr (fun i => (fL S (r - 1000) o)[i]?)))))
  else if cFT r = 1 then .inl (K 0, cLN r, .inl (fA S r o))
  else if cFT r = 2 then .inl (K 1, cLN r, .inr (.inl (fJ S o)))
  else if cFT r = 4 then .inl (K (cQK r), cLN r, .inr (.inr (.inr (.inr (fQ S r o)))))
  else .inr (2, [.int (G.2.2 r o), c_dref E0 (G.2.1 r o), .int (nI (fL S r o).length)])
def c_adr (G : CG) (r o : Nat) : Nat := if r < 16 then o else if 1000 ≤ r then (G.2.1 (r - 1000) o).getD 0 else o + cOF r
def c_lok (S : CS) (G : CG) (f o : Nat) : Prop := match G.2.1 f o with
  | none => fL S f o = [] ∧ fC S f o = 0
  | some q => G.1 q = (1000 + f, o) ∧ (fL S f o).length ≤ fC S f o ∧ 2 ≤ fC S f o
def hsl (H : Heap) : Nat := (H.toList.map (·.slots.size)).sum
/-- an object, or what it holds already -/
def c_rok (kd : Nat → Nat) (r o : Nat) : Prop := kd o ≠ 0 ∧ (16 ≤ r → cAtt (kd o) (if 1000 ≤ r then r - 1000 else r) = true)
def RepC (D : va_G) (K : Nat → ClassId) (E0 : Nat) (S : CS) (G : CG) (H : Heap) : Prop :=
  (∀ a r o, G.1 a = (r, o) → r ≠ 0 → va_at D vwCl (a, c_ce K E0 S G r o) H ∧ c_adr G r o = a ∧ c_rok (kdC S) r o) ∧
  (∀ o, kdC S o ≠ 0 → G.1 o = (kdC S o % 100, o) ∧ 3 ≤ kdC S o % 100 ∧ kdC S o % 100 < 15 ∧ ∀ k, k < cNF (kdC S o % 100) → cEmb (cFT (16 * (kdC S o % 100) + k)) = true → cAtt (kdC S o) (16 * (kdC S o % 100) + k) = true →
    G.1 (o + cOF (16 * (kdC S o % 100) + k)) = (16 * (kdC S o % 100) + k, o) ∧ (cFT (16 * (kdC S o % 100) + k) = 5 → c_lok S G (16 * (kdC S o % 100) + k) o)) ∧
  H.size = szC S ∧ hsl H = nsC S
theorem RepC.lt {D : va_G} {K : Nat → ClassId} {E0 : Nat} {S : CS} {G : CG} {H : Heap} (h : RepC D K E0 S G H) {a : Nat} (ha : (G.1 a).1 ≠ 0) : a < szC S := by
  have h1 := (h.1 a (G.1 a).1 (G.1 a).2 rfl ha).1.lt
  rw [h.2.2.1] at h1
  exact h1
theorem hsl_set {H H' : Heap} {a : Nat} {c c' : Cell} (hz : H'.size = H.size) (hc : H[a]? = some c) (hc' : H'[a]? = some c') (hs : c'.slots.size = c.slots.size) (ho : ∀ q, q ≠ a → H'[q]? = H[q]?) : hsl H' = hsl H := by
  unfold hsl
  congr 1
  apply List.ext_getElem?
  intro i
  rw [List.getElem?_map, List.getElem?_map, Array.getElem?_toList, Array.getElem?_toList]
  by_cases hi : i = a
  · subst hi
    rw [hc, hc']
    simp [hs]
  · rw [ho i hi]
theorem hsl_push {H H' : Heap} {c : Cell} (hz : H'.size = H.size + 1) (hc : H'[H.size]? = some c) (ho : ∀ q, q < H.size → H'[q]? = H[q]?) : hsl H' = hsl H + c.slots.size := by
  have e : H'.toList = H.toList ++ [c] := by
    apply List.ext_getElem?
    intro i
    rw [Array.getElem?_toList]
    by_cases hi : i < H.size
    · rw [List.getElem?_append_left (by simpa using hi), ho i hi, Array.getElem?_toList]
    · by_cases hi2 : i = H.size
      · subst hi2
        rw [hc, List.getElem?_append_right (by simp)]
        simp
      · rw [List.getElem?_eq_none (by simp; omega), Array.getElem?_eq_none (by omega)]
  unfold hsl
  rw [e]
  simp
theorem hsl_kept {H0 H : Heap} (hz : H0.size ≤ H.size) (ho : ∀ (a : Nat) (c : Cell), H0[a]? = some c → ∃ c', H[a]? = some c' ∧ c'.slots.size = c.slots.size) : hsl H = hsl H0 + ((H.toList.drop H0.size).map (·.slots.size)).sum := by
  have e : H.toList.map (·.slots.size) = H0.toList.map (·.slots.size) ++ (H.toList.drop H0.size).map (·.slots.size) := by
    rw [List.map_drop]
    conv => lhs; rw [← List.take_append_drop H0.size (H.toList.map (·.slots.size))]
    congr 1
    apply List.ext_getElem?
    intro i
    rw [List.getElem?_take, List.getElem?_map, List.getElem?_map, Array.getElem?_toList, Array.getElem?_toList]
    by_cases hi : i < H0.size
    · rw [if_pos hi]
      obtain ⟨c', h1, h2⟩ := ho i H0[i] (Array.getElem?_eq_getElem hi)
      rw [h1, Array.getElem?_eq_getElem hi]
      simp [h2]
    · rw [if_neg hi, Array.getElem?_eq_none (by omega)]
      rfl
  unfold hsl
  rw [e, List.sum_append]
section CB
variable {p : Program} {l : Launch} {e : Env} {R : Room} {s : State} {m : MethodId} {args : Array Value} {below : List Frame} {meth : Method} {c : Code} {H : Heap} {locs : List Loc} {cells slots : Nat} {Q : State → Prop} {g : JFrame}
theorem stand_norm {T : State} (X : Stand p l e R s m args below meth c T locs cells slots) : Stand p l e R s m args below meth c T locs (T.heap.size - s.heap.size) (hsl T.heap - hsl s.heap) := by
  have hs := X.same
  have h6 : ∀ (a : Nat) (c : Cell), s.heap[a]? = some c → ∃ c', T.heap[a]? = some c' ∧ c'.slots.size = c.slots.size := by
    intro a c hc
    obtain ⟨c', h1, -, h2, -⟩ := hs.2.2.2.2.2 a c hc
    exact ⟨c', h1, h2⟩
  have hk := hsl_kept (H0 := s.heap) (H := T.heap) hs.2.1 h6
  refine { X with same := ⟨hs.1, hs.2.1, ?_, hs.2.2.2.1, ?_, hs.2.2.2.2.2⟩ }
  · show T.heap.size ≤ s.heap.size + (T.heap.size - s.heap.size)
    have h2 : s.heap.size ≤ T.heap.size := hs.2.1
    omega
  · show ((T.heap.toList.drop s.heap.size).map (·.slots.size)).sum ≤ hsl T.heap - hsl s.heap
    omega
theorem W.norm (k : W p l e R s m args below meth c H locs (H.size - s.heap.size) (hsl H - hsl s.heap) Q g) : W p l e R s m args below meth c H locs cells slots Q g := by
  intro T hT X
  have Y := stand_norm X
  rw [hT] at Y
  exact k T hT Y
theorem stand_slots {T : State} (X : Stand p l e R s m args below meth c T locs cells slots) : hsl s.heap ≤ hsl T.heap ∧ hsl T.heap ≤ hsl s.heap + slots ∧ s.heap.size ≤ T.heap.size ∧ T.heap.size ≤ s.heap.size + cells := by
  have hs := X.same
  have hk := hsl_kept (H0 := s.heap) (H := T.heap) hs.2.1 (fun a c hc => by
    obtain ⟨c', h1, -, h2, -⟩ := hs.2.2.2.2.2 a c hc
    exact ⟨c', h1, h2⟩)
  have h5 : ((T.heap.toList.drop s.heap.size).map (·.slots.size)).sum ≤ slots := hs.2.2.2.2.1
  exact ⟨by omega, by omega, hs.2.1, hs.2.2.1⟩
end CB
