/-! THE RELATION: bars, rows, events -/
/-- ticks of an event by its kind and form, as both sides count them -/
def tk (kind form : Int32) : Int32 := if form = 1 then (96 >>> (kind &&& 31)) * 3 / 2 else if form = 2 then (96 >>> (kind &&& 31)) * 2 / 3 else 96 >>> (kind &&& 31)
def mrL (S : CS) (so i : Nat) : Nat := ((fL S 192 so)[i]?).getD 0
def rwL (S : CS) (so v i : Nat) : Nat := oG (fQ S 83 (mrL S so i) v)
def evL (S : CS) (so v i j : Nat) : Nat := ((fL S 176 (rwL S so v i))[j]?).getD 0
def nbS (S : CS) (so : Nat) : Nat := (fL S 192 so).length
def neS (S : CS) (so v i : Nat) : Nat := (fL S 176 (rwL S so v i)).length
/-- one event -/
def rE (S : CS) (t : MS) (e p : Nat) : Prop := kdC S e = 3 ∧ fI S 50 e = t.2 8 p ∧ fI S 49 e = t.2 10 p ∧ fI S 52 e = t.2 11 p ∧ fI S 51 e = t.2 12 p ∧ fI S 48 e = tk (t.2 9 p) (t.2 10 p) ∧ (∃ k : Nat, k < 6 ∧ t.2 9 p = nI k) ∧ (∃ f : Nat, f < 3 ∧ t.2 10 p = nI f)
/-- the ticks of the first events of a row -/
def iS (r9 r10 : Nat → Int32) (b : Nat) : Nat → Int32
  | 0 => 0
  | k + 1 => iS r9 r10 b k + tk (r9 (b + k)) (r10 (b + k))
/-- one row -/
def rR (S : CS) (t : MS) (so v i : Nat) : Prop := fQ S 83 (mrL S so i) v ≠ none ∧ kdC S (rwL S so v i) = 11 ∧ neS S so v i ≤ 16 ∧ t.2 6 (24 * v + i) = nI (neS S so v i) ∧ fI S 178 (rwL S so v i) = t.2 7 (24 * v + i) ∧ gb (t.2 7 (24 * v + i)) ∧
  fC S 176 (rwL S so v i) ≤ 500000 ∧ fI S 177 (rwL S so v i) = iS (t.2 9) (t.2 10) (16 * (24 * v + i)) (neS S so v i) ∧ ∀ j, j < neS S so v i → rE S t (evL S so v i j) (16 * (24 * v + i) + j)
/-- one bar -/
def rM (S : CS) (t : MS) (so i : Nat) : Prop := kdC S (mrL S so i) = 5 ∧ fI S 80 (mrL S so i) = t.2 1 i ∧ fI S 81 (mrL S so i) = t.2 2 i ∧ fI S 82 (mrL S so i) = t.2 3 i ∧ (∃ c : Nat, 1 ≤ c ∧ c ≤ 9 ∧ t.2 1 i = nI c) ∧ (t.2 2 i = 2 ∨ t.2 2 i = 4 ∨ t.2 2 i = 8) ∧ ∀ v, v < 4 → rR S t so v i
/-- all bars; different places have different objects -/
def rB (S : CS) (t : MS) (so : Nat) : Prop := kdC S so = 12 ∧ nbS S so ≤ 24 ∧ fC S 192 so ≤ 500000 ∧ t.1 0 = nI (nbS S so) ∧ (∀ i, i < nbS S so → rM S t so i) ∧
  (∀ i i2, i < nbS S so → i2 < nbS S so → mrL S so i = mrL S so i2 → i = i2) ∧
  (∀ v i v2 i2, i < nbS S so → i2 < nbS S so → v < 4 → v2 < 4 → rwL S so v i = rwL S so v2 i2 → v = v2 ∧ i = i2) ∧
  (∀ v i j v2 i2 j2, i < nbS S so → i2 < nbS S so → v < 4 → v2 < 4 → j < neS S so v i → j2 < neS S so v2 i2 → evL S so v i j = evL S so v2 i2 j2 → v = v2 ∧ i = i2 ∧ j = j2)
theorem rB_rsz {S : CS} {t : MS} {so sz ns : Nat} : rB (rsz S sz ns) t so ↔ rB S t so := Iff.rfl
theorem rB_barCount {S : CS} {t : MS} {so : Nat} (h : rB S t so) : d_X9_barCount so S ∧ v_X9_barCount so S = mgI t 0 := by
  obtain ⟨h1, -, -, h4, -⟩ := h
  exact ⟨h1, h4.symm⟩
/-- calls that begin with what a number's range asks -/
theorem i_reqIdx {B : Nat × Nat} {a n : Int32} {t : CS} {Q : CS → Prop} {X : String → CS → Prop} (hr : szC t + 1 ≤ B.1 ∧ nsC t + 6 ≤ B.2) (h1 : ¬ (a < 0 ∨ ¬ a < n) → Q t) (h2 : (a < 0 ∨ ¬ a < n) → ∀ sz ns : Nat, X "java/lang/IndexOutOfBoundsException" (rsz t sz ns)) : w_X11_requireIndex B a n t Q X := ⟨fun h => ⟨hr, h2 h⟩, h1⟩
theorem i_reqRange {B : Nat × Nat} {a n k : Int32} {t : CS} {Q : CS → Prop} {X : String → CS → Prop} (hr : szC t + 1 ≤ B.1 ∧ nsC t + 6 ≤ B.2) (h1 : ¬ (a < n ∨ ¬ a ≤ k) → Q t) (h2 : (a < n ∨ ¬ a ≤ k) → ∀ sz ns : Nat, X "java/lang/IllegalArgumentException" (rsz t sz ns)) : w_X11_requireRange B a n k t Q X := ⟨fun h => ⟨hr, h2 h⟩, h1⟩
