/-! THE MODEL LAYS ITEMS -/
def iM (A : MS) (v : Nat) (t : MS) (s : IT) : Prop := t.1 32 = nI s.1 ∧ ∀ k, k < s.1 → t.2 33 k = nI (s.2.1 k) ∧ t.2 34 k = nI (s.2.2.1 k) ∧ t.2 35 k = nI (s.2.2.2.1 k) ∧ t.2 36 k = s.2.2.2.2 k ∧ t.2 37 k = nI (zWi A v s k)
def Fdr (t t' : MS) : Prop := (∀ k, k ≠ 32 → t'.1 k = t.1 k) ∧ ∀ f, f < 33 ∨ 37 < f → t'.2 f = t.2 f
def zWj (A : MS) (v k f c : Nat) (u : Int32) : Nat := zSu A f c + (if k = 0 then 10 + zWe A v f (zE A v f) else if k = 1 then 16 + c else 10 + zWc A (aN u) f (zE A (aN u) f))
/-- the items ahead of a bar, when the model comes to it -/
def zIp (A : MS) (v b : Nat) : IT := if b < zN A ∧ ¬ zE A v b = 0 then iCue A v (zIt A v b) else zIt A v b
section DM
variable {A t t' : MS} {v b : Nat} {s : IT}
theorem Fdr_rfl : Fdr t t := ⟨fun _ _ => rfl, fun _ _ => rfl⟩
theorem Fdr_trans {u : MS} (h : Fdr t t') (g : Fdr t' u) : Fdr t u := ⟨fun k hk => (g.1 k hk).trans (h.1 k hk), fun f hf => (g.2 f hf).trans (h.2 f hf)⟩
theorem Ag_Fdr (g : Ag A t) (h : Fdr t t') : Ag A t' := ⟨fun k hk => ⟨(h.1 k (by omega)).trans (g.1 k hk).1, (h.2 k (by omega)).trans (g.1 k hk).2⟩, (congrFun (h.2 26 (by decide)) 0).trans g.2⟩
theorem va_2 {α : Type} {f : Nat → α} {i : Nat} {x y : α} : va_up (va_up f i x) i y = va_up f i y := by
  funext j
  rw [va_up_at, va_up_at, va_up_at]
  by_cases e : j = i
  · rw [if_pos e, if_pos e]
  · rw [if_neg e, if_neg e, if_neg e]
theorem iSet_iAdd {k f c c' : Nat} {u : Int32} : iSet (iAdd s k f c u) c' = iAdd s k f c' u := by
  unfold iSet iAdd
  dsimp only
  rw [show s.1 + 1 - 1 = s.1 by omega, va_2]
theorem zWi_add {k f c : Nat} {u : Int32} {j : Nat} (hj : j < s.1) : zWi A v (iAdd s k f c u) j = zWi A v s j := by
  show zWj A v (va_up s.2.1 s.1 k j) (va_up s.2.2.1 s.1 f j) (va_up s.2.2.2.1 s.1 c j) (va_up s.2.2.2.2 s.1 u j) = zWj A v (s.2.1 j) (s.2.2.1 j) (s.2.2.2.1 j) (s.2.2.2.2 j)
  rw [va_up_at, va_up_at, va_up_at, va_up_at, if_neg (by omega), if_neg (by omega), if_neg (by omega), if_neg (by omega)]
theorem zWi_new {k f c : Nat} {u : Int32} : zWi A v (iAdd s k f c u) s.1 = zSu A f c + (if k = 0 then 10 + zWe A v f (zE A v f) else if k = 1 then 16 + c else 10 + zWc A (aN u) f (zE A (aN u) f)) := by
  show zWj A v (va_up s.2.1 s.1 k s.1) (va_up s.2.2.1 s.1 f s.1) (va_up s.2.2.2.1 s.1 c s.1) (va_up s.2.2.2.2 s.1 u s.1) = zWj A v k f c u
  rw [va_up_at, va_up_at, va_up_at, va_up_at, if_pos rfl, if_pos rfl, if_pos rfl, if_pos rfl]
theorem iAdd_last {k f c : Nat} {u : Int32} : (iAdd s k f c u).1 = s.1 + 1 ∧ (iAdd s k f c u).2.1 s.1 = k ∧ (iAdd s k f c u).2.2.1 s.1 = f ∧ (iAdd s k f c u).2.2.2.1 s.1 = c := by
  unfold iAdd
  dsimp only
  rw [va_up_at, va_up_at, va_up_at, if_pos rfl, if_pos rfl, if_pos rfl]
  exact ⟨rfl, rfl, rfl, rfl⟩
theorem iRest_add {k f c : Nat} {u : Int32} : iRest (iAdd s k f c u) = true ↔ k = 1 := by
  obtain ⟨e1, e2, -, -⟩ := iAdd_last (s := s) (k := k) (f := f) (c := c) (u := u)
  rw [iRest_iff, e1, show s.1 + 1 - 1 = s.1 by omega, e2]
  exact ⟨fun z => z.2, fun z => ⟨Nat.succ_pos _, z⟩⟩
end DM
