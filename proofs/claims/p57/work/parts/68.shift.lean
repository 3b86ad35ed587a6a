/-! SHIFTS OF EVENTS: the model's copies and moves; lists; sums -/
section MQ
variable {A A' t : MS}
theorem gl_ins {l : List Nat} {j x k : Nat} (hj : j ≤ l.length) : ((l_ins l j x)[k]?).getD 0 = if k < j then (l[k]?).getD 0 else if k = j then x else (l[k - 1]?).getD 0 := by
  unfold l_ins
  have hlen : (l.take j).length = j := by rw [List.length_take]; omega
  rw [List.getElem?_append, hlen]
  by_cases h : k < j
  · rw [if_pos h, if_pos h, List.getElem?_take_of_lt h]
  · rw [if_neg h, if_neg h]
    by_cases h2 : k = j
    · rw [if_pos h2, h2, Nat.sub_self]
      rfl
    · rw [if_neg h2, show k - j = (k - j - 1) + 1 by omega, List.getElem?_cons_succ, List.getElem?_drop, show j + (k - j - 1) = k - 1 by omega]
theorem ln_ins {l : List Nat} {j x : Nat} : (l_ins l j x).length = l.length + 1 := by
  unfold l_ins
  rw [List.length_append, List.length_cons, List.length_take, List.length_drop]
  omega
theorem mem_ins {l : List Nat} {j x y : Nat} (h : y ∈ l_ins l j x) : y = x ∨ y ∈ l := by
  unfold l_ins at h
  rcases List.mem_append.mp h with h | h
  · exact Or.inr (List.mem_of_mem_take h)
  · rcases List.mem_cons.mp h with h | h
    · exact Or.inl h
    · exact Or.inr (List.mem_of_mem_drop h)
/-- one event is copied -/
def Cp1 (t t' : MS) (p q : Nat) : Prop := t'.1 = t.1 ∧ (∀ f, f < 8 ∨ 12 < f → t'.2 f = t.2 f) ∧ ∀ f r, 8 ≤ f → f ≤ 12 → t'.2 f r = if r = q then t.2 f p else t.2 f r
/-- the ends of phrases are moved -/
def mvD (of fb fe : Int32) (v i j by' : Int32) : Int32 := if (¬ of = v) ∨ ((¬ fb = i) ∨ (fe < j)) then 0 else by'
def Mv1 (t t' : MS) (np : Nat) (v i j by' : Int32) : Prop := t'.1 = t.1 ∧ (∀ f, f ≠ 17 → f ≠ 19 → t'.2 f = t.2 f) ∧ (∀ k, t'.2 17 k = if k < np then t.2 17 k + mvD (t.2 15 k) (t.2 16 k) (t.2 17 k) v i j by' else t.2 17 k) ∧ ∀ k, t'.2 19 k = if k < np then t.2 19 k + mvD (t.2 15 k) (t.2 18 k) (t.2 19 k) v i j by' else t.2 19 k
/-- sums of ticks, when one more lies in a row -/
theorem zS_ins {v i j n x : Nat} (hj : j ≤ n) (h : ∀ k, k ≤ n → zK A' v i k = if k < j then zK A v i k else if k = j then x else zK A v i (k - 1)) : (∀ k, k ≤ j → zS A' v i k = zS A v i k) ∧ ∀ k, j ≤ k → k ≤ n → zS A' v i (k + 1) = zS A v i k + x := by
  have h1 : ∀ k, k ≤ j → zS A' v i k = zS A v i k := by
    intro k
    induction k with
    | zero => intro _; rfl
    | succ k ih =>
      intro hk
      show zS A' v i k + zK A' v i k = zS A v i k + zK A v i k
      rw [ih (by omega), h k (by omega), if_pos (by omega)]
  refine ⟨h1, fun k hk => ?_⟩
  induction k with
  | zero =>
    intro _
    have e : j = 0 := by omega
    show zS A' v i 0 + zK A' v i 0 = zS A v i 0 + x
    rw [h1 0 (by omega), h 0 (by omega), if_neg (by omega), if_pos (by omega)]
  | succ k ih =>
    intro hk2
    show zS A' v i (k + 1) + zK A' v i (k + 1) = zS A v i (k + 1) + x
    by_cases e : j = k + 1
    · rw [h1 (k + 1) (by omega), h (k + 1) (by omega), if_neg (by omega), if_pos (by omega)]
    · rw [ih (by omega) (by omega), h (k + 1) (by omega), if_neg (by omega), if_neg (by omega)]
      show zS A v i k + x + zK A v i k = zS A v i k + zK A v i k + x
      omega
theorem zS_same {v i n : Nat} (h : ∀ k, k < n → zK A' v i k = zK A v i k) : zS A' v i n = zS A v i n := by
  induction n with
  | zero => rfl
  | succ n ih =>
    show zS A' v i n + zK A' v i n = zS A v i n + zK A v i n
    rw [ih (fun k hk => h k (by omega)), h n (by omega)]
end MQ
