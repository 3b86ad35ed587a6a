/-! SHIFTS OF EVENTS: the model's copies and moves; lists; sums -/
section MQ
variable {A A' t : MS}
theorem gl_ins {l : List Nat} {j x k : Nat} (hj : j ≤ l.length) : ((l_ins l j x)[k]?).getD 0 = if k < j then (l[k]?).getD 0 else if k = j then x else (l[k - 1]?).getD 0 := by
  unfold l_ins
  have hlen : (l.take j).length = j := by rw [List.length_take]; omega
  rw [List.getElem?_append, hlen]
  by_cases h : k < j
  · rw [if_pos h, if_pos h, List.getElem?_take_of_lt h]
  · rw [if_neg h, if_neg h]
    by_cases h2 : k = j
    · rw [if_pos h2, h2, Nat.sub_self]
      rfl
    · rw [if_neg h2, show k - j = (k - j - 1) + 1 by omega, List.getElem?_cons_succ, List.getElem?_drop, show j + (k - j - 1) = k - 1 by omega]
theorem ln_ins {l : List Nat} {j x : Nat} : (l_ins l j x).length = l.length + 1 := by
  unfold l_ins
  rw [List.length_append, List.length_cons, List.length_take, List.length_drop]
  omega
theorem mem_ins {l : List Nat} {j x y : Nat} (h : y ∈ l_ins l j x) : y = x ∨ y ∈ l := by
  unfold l_ins at h
  rcases List.mem_append.mp h with h | h
  · exact Or.inr (List.mem_of_mem_take h)
  · rcases List.mem_cons.mp h with h | h
    · exact Or.inl h
    · exact Or.inr (List.mem_of_mem_drop h)
/-- one event is copied -/
def Cp1 (t t' : MS) (p q : Nat) : Prop := t'.1 = t.1 ∧ (∀ f, f < 8 ∨ 12 < f → t'.2 f = t.2 f) ∧ ∀ f r, 8 ≤ f → f ≤ 12 → t'.2 f r = if r = q then t.2 f p else t.2 f r
theorem mm_copies {p q : Nat} (hp : p < 1536) (hq : q < 1536) (hg : gb (t.2 12 p)) {Q : MS → Prop} (h : ∀ t', Cp1 t t' p q → Q t') : w_copies (nI p) (nI q) t Q := by
  have ip : ∀ f, m_len f = 1536 → mIn f (nI p) := fun f e => by unfold mIn; rw [e]; exact vp_nI hp (by decide)
  have iq : ∀ f, m_len f = 1536 → mIn f (nI q) := fun f e => by unfold mIn; rw [e]; exact vp_nI hq (by decide)
  have q31 : q < 2147483648 := by omega
  have ec : (nI p).toNatClampNeg = p := nI_clamp (by omega)
  refine ⟨ip 8 rfl, iq 8 rfl, fun t3 h3 => ⟨ip 9 rfl, iq 9 rfl, fun t6 h6 => ⟨ip 10 rfl, iq 10 rfl, fun t9 h9 => ⟨ip 11 rfl, iq 11 rfl, fun t12 h12 => ⟨ip 12 rfl, iq 12 rfl, ?_, fun t16 h16 => h t16 ?_⟩⟩⟩⟩⟩
  · have e : mgA t12 12 (nI p) = t.2 12 p := by
      unfold mgA
      rw [ec, h12, mA_ne (by decide), h9, mA_ne (by decide), h6, mA_ne (by decide), h3, mA_ne (by decide)]
    rw [e]
    exact hg
  · have a8 : mgA t 8 (nI p) = t.2 8 p := by unfold mgA; rw [ec]
    have a9 : mgA t3 9 (nI p) = t.2 9 p := by unfold mgA; rw [ec, h3, mA_ne (by decide)]
    have a10 : mgA t6 10 (nI p) = t.2 10 p := by unfold mgA; rw [ec, h6, mA_ne (by decide), h3, mA_ne (by decide)]
    have a11 : mgA t9 11 (nI p) = t.2 11 p := by unfold mgA; rw [ec, h9, mA_ne (by decide), h6, mA_ne (by decide), h3, mA_ne (by decide)]
    have a12 : mgA t12 12 (nI p) = t.2 12 p := by unfold mgA; rw [ec, h12, mA_ne (by decide), h9, mA_ne (by decide), h6, mA_ne (by decide), h3, mA_ne (by decide)]
    rw [a8] at h3
    rw [a9] at h6
    rw [a10] at h9
    rw [a11] at h12
    rw [a12] at h16
    refine ⟨by rw [h16, h12, h9, h6, h3]; rfl, fun f hf => ?_, fun f r f1 f2 => ?_⟩
    · rw [h16, mA_ne (by omega), h12, mA_ne (by omega), h9, mA_ne (by omega), h6, mA_ne (by omega), h3, mA_ne (by omega)]
    · have hf : f = 8 ∨ f = 9 ∨ f = 10 ∨ f = 11 ∨ f = 12 := by omega
      rcases hf with rfl | rfl | rfl | rfl | rfl
      · rw [h16, mA_ne (by decide), h12, mA_ne (by decide), h9, mA_ne (by decide), h6, mA_ne (by decide), h3, mA_at q31]
      · rw [h16, mA_ne (by decide), h12, mA_ne (by decide), h9, mA_ne (by decide), h6, mA_at q31, h3, mA_ne (by decide)]
      · rw [h16, mA_ne (by decide), h12, mA_ne (by decide), h9, mA_at q31, h6, mA_ne (by decide), h3, mA_ne (by decide)]
      · rw [h16, mA_ne (by decide), h12, mA_at q31, h9, mA_ne (by decide), h6, mA_ne (by decide), h3, mA_ne (by decide)]
      · rw [h16, mA_at q31, h12, mA_ne (by decide), h9, mA_ne (by decide), h6, mA_ne (by decide), h3, mA_ne (by decide)]
/-- the ends of phrases are moved -/
def mvD (of fb fe : Int32) (v i j by' : Int32) : Int32 := if (¬ of = v) ∨ ((¬ fb = i) ∨ (fe < j)) then 0 else by'
def Mv1 (t t' : MS) (np : Nat) (v i j by' : Int32) : Prop := t'.1 = t.1 ∧ (∀ f, f ≠ 17 → f ≠ 19 → t'.2 f = t.2 f) ∧ (∀ k, t'.2 17 k = if k < np then t.2 17 k + mvD (t.2 15 k) (t.2 16 k) (t.2 17 k) v i j by' else t.2 17 k) ∧ ∀ k, t'.2 19 k = if k < np then t.2 19 k + mvD (t.2 15 k) (t.2 18 k) (t.2 19 k) v i j by' else t.2 19 k
theorem mm_moves {np : Nat} (hnp : np ≤ 20) (h14 : t.1 14 = nI np) {v i j by' : Int32} {Q : MS → Prop} (h : ∀ t', Mv1 t t' np v i j by' → Q t') : w_moves v i j by' t Q := by
  refine lp_for (fun k z => z.1 = nI k ∧ Mv1 t z.2 k v i j by') np ?_ ?_ 0 (Nat.zero_le _) (0, t) ⟨rfl, rfl, fun _ _ _ => rfl, fun k => (if_neg (Nat.not_lt_zero _)).symm, fun k => (if_neg (Nat.not_lt_zero _)).symm⟩
  · intro k hk K z hz hK
    obtain ⟨z1, u⟩ := z
    obtain ⟨hz1, m1, m2, m3, m4⟩ := hz
    dsimp only at hz1 m1 m2 m3 m4
    subst hz1
    have k31 : k < 2147483648 := by omega
    have e14 : mgI u 14 = nI np := (congrFun m1 14).trans h14
    have hin : ∀ f, m_len f = 20 → mIn f (nI k) := fun f e => by unfold mIn; rw [e]; exact vp_nI (by omega) (by decide)
    have ec : (nI k).toNatClampNeg = k := nI_clamp (by omega)
    have r15 : mgA u 15 (nI k) = t.2 15 k := by unfold mgA; rw [ec, m2 15 (by decide) (by decide)]
    have r16 : mgA u 16 (nI k) = t.2 16 k := by unfold mgA; rw [ec, m2 16 (by decide) (by decide)]
    have r17 : mgA u 17 (nI k) = t.2 17 k := by unfold mgA; rw [ec, m3, if_neg (Nat.lt_irrefl _)]
    unfold w_moves_L3
    dsimp only
    rw [e14, r15, r16, r17]
    refine ⟨fun h9 => absurd h9 (nI_ge hk (by omega)), fun _ => ⟨hin 17 rfl, hin 15 rfl, fun _ => hin 16 rfl, fun _ _ => hin 17 rfl, fun x3 hx3 => ⟨hin 17 rfl, fun t7 ht7 => ?_⟩⟩⟩
    have s15 : mgA t7 15 (nI k) = t.2 15 k := by unfold mgA; rw [ec, ht7, mA_ne (by decide), m2 15 (by decide) (by decide)]
    have s18 : mgA t7 18 (nI k) = t.2 18 k := by unfold mgA; rw [ec, ht7, mA_ne (by decide), m2 18 (by decide) (by decide)]
    have s19 : mgA t7 19 (nI k) = t.2 19 k := by unfold mgA; rw [ec, ht7, mA_ne (by decide), m4, if_neg (Nat.lt_irrefl _)]
    rw [s15, s18, s19]
    refine ⟨hin 19 rfl, hin 15 rfl, fun _ => hin 18 rfl, fun _ _ => hin 19 rfl, fun x10 hx10 => ⟨hin 19 rfl, fun t14 ht14 => ?_⟩⟩
    rw [nI_1]
    refine hK _ ⟨rfl, ?_, fun f f1 f2 => ?_, fun q => ?_, fun q => ?_⟩
    · rw [ht14, ht7]
      exact m1
    · dsimp only
      rw [ht14, mA_ne f2, ht7, mA_ne f1]
      exact m2 f f1 f2
    · dsimp only
      rw [ht14, mA_ne (by decide), ht7, mA_at k31, m3]
      by_cases e : q = k
      · rw [if_pos e, if_pos (by omega), e, hx3]
        rfl
      · rw [if_neg e]
        by_cases e2 : q < k
        · rw [if_pos e2, if_pos (by omega)]
        · rw [if_neg e2, if_neg (by omega)]
    · dsimp only
      rw [ht14, mA_at k31, ht7, mA_ne (by decide), m4]
      by_cases e : q = k
      · rw [if_pos e, if_pos (by omega), e, hx10]
        rfl
      · rw [if_neg e]
        by_cases e2 : q < k
        · rw [if_pos e2, if_pos (by omega)]
        · rw [if_neg e2, if_neg (by omega)]
  · intro K z hz
    obtain ⟨z1, u⟩ := z
    obtain ⟨hz1, m1, m2, m3, m4⟩ := hz
    dsimp only at hz1 m1 m2 m3 m4
    subst hz1
    have e14 : mgI u 14 = nI np := (congrFun m1 14).trans h14
    unfold w_moves_L3
    dsimp only
    rw [e14]
    exact ⟨fun _ => h u ⟨m1, m2, m3, m4⟩, fun h9 => absurd (nI_le (Nat.le_refl np) (by omega)) h9⟩
/-- sums of ticks, when one more lies in a row -/
theorem zS_ins {v i j n x : Nat} (hj : j ≤ n) (h : ∀ k, k ≤ n → zK A' v i k = if k < j then zK A v i k else if k = j then x else zK A v i (k - 1)) : (∀ k, k ≤ j → zS A' v i k = zS A v i k) ∧ ∀ k, j ≤ k → k ≤ n → zS A' v i (k + 1) = zS A v i k + x := by
  have h1 : ∀ k, k ≤ j → zS A' v i k = zS A v i k := by
    intro k
    induction k with
    | zero => intro _; rfl
    | succ k ih =>
      intro hk
      show zS A' v i k + zK A' v i k = zS A v i k + zK A v i k
      rw [ih (by omega), h k (by omega), if_pos (by omega)]
  refine ⟨h1, fun k hk => ?_⟩
  induction k with
  | zero =>
    intro _
    have e : j = 0 := by omega
    show zS A' v i 0 + zK A' v i 0 = zS A v i 0 + x
    rw [h1 0 (by omega), h 0 (by omega), if_neg (by omega), if_pos (by omega)]
  | succ k ih =>
    intro hk2
    show zS A' v i (k + 1) + zK A' v i (k + 1) = zS A v i (k + 1) + x
    by_cases e : j = k + 1
    · rw [h1 (k + 1) (by omega), h (k + 1) (by omega), if_neg (by omega), if_pos (by omega)]
    · rw [ih (by omega) (by omega), h (k + 1) (by omega), if_neg (by omega), if_neg (by omega)]
      show zS A v i k + x + zK A v i k = zS A v i k + zK A v i k + x
      omega
theorem zS_same {v i n : Nat} (h : ∀ k, k < n → zK A' v i k = zK A v i k) : zS A' v i n = zS A v i n := by
  induction n with
  | zero => rfl
  | succ n ih =>
    show zS A' v i n + zK A' v i n = zS A v i n + zK A v i n
    rw [ih (fun k hk => h k (by omega)), h n (by omega)]
end MQ
