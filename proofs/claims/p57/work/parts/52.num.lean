/-! NUMBERS, LOOPS, THE MODEL'S TOLD STATE -/
def aN (x : Int32) : Nat := x.toNatClampNeg
theorem aN_nI {n : Nat} (h : n < 2147483648) : aN (nI n) = n := nI_clamp (by omega)
theorem lp_for {σ : Type} {F : (σ → Prop) → σ → Prop} (P : Nat → σ → Prop) (b : Nat) (hs : ∀ k, k < b → ∀ (K : σ → Prop) (s : σ), P k s → (∀ s', P (k + 1) s' → K s') → F K s) (he : ∀ (K : σ → Prop) (s : σ), P b s → F K s) (a : Nat) (hab : a ≤ b) (s : σ) (h0 : P a s) : ∃ n, lp F n s := by
  have key : ∀ (m a : Nat), a + m = b → ∀ s, P a s → lp F (m + 1) s := by
    intro m
    induction m with
    | zero =>
      intro a h s hp
      have e : a = b := by omega
      subst e
      exact he _ s hp
    | succ m ih =>
      intro a h s hp
      exact hs a (by omega) _ s hp (fun s' hp' => ih (a + 1) (by omega) s' hp')
  exact ⟨_, key (b - a) a (by omega) s h0⟩
/-- a loop whose states are known ahead -/
theorem lp_seq {σ : Type} {F : (σ → Prop) → σ → Prop} (f : Nat → σ) (b : Nat) (hs : ∀ k, k < b → ∀ (K : σ → Prop), K (f (k + 1)) → F K (f k)) (he : ∀ (K : σ → Prop), F K (f b)) (a : Nat) (hab : a ≤ b) : ∃ n, lp F n (f a) := by
  refine lp_for (fun k s => s = f k) b ?_ ?_ a hab _ rfl
  · intro k hk K s hp hK
    subst hp
    exact hs k hk K (hK _ rfl)
  · intro K s hp
    subst hp
    exact he K
/-- told alike; the first place begins at 0 for good -/
def Ag (A t : MS) : Prop := (∀ k, k < 24 → t.1 k = A.1 k ∧ t.2 k = A.2 k) ∧ t.2 26 0 = A.2 26 0
theorem Ag_rfl (A : MS) : Ag A A := ⟨fun _ _ => ⟨rfl, rfl⟩, rfl⟩
theorem Ag_trans {A t u : MS} (h : Ag A t) (g : Ag t u) : Ag A u := ⟨fun k hk => ⟨(g.1 k hk).1.trans (h.1 k hk).1, (g.1 k hk).2.trans (h.1 k hk).2⟩, g.2.trans h.2⟩
theorem Ag_msI {A t : MS} {f : Nat} {v : Int32} (h : Ag A t) (hf : 24 ≤ f) : Ag A (msI t f v) := ⟨fun k hk => ⟨(va_up_ne t.1 v (by omega)).trans (h.1 k hk).1, (h.1 k hk).2⟩, h.2⟩
theorem Ag_msA {A t : MS} {f : Nat} {i v : Int32} (h : Ag A t) (hf : 24 ≤ f) (h26 : f = 26 → i.toNatClampNeg ≠ 0) : Ag A (msA t f i v) := by
  refine ⟨fun k hk => ⟨(h.1 k hk).1, (va_up_ne t.2 (va_up (t.2 f) i.toNatClampNeg v) (by omega)).trans (h.1 k hk).2⟩, ?_⟩
  show va_up t.2 f (va_up (t.2 f) i.toNatClampNeg v) 26 0 = _
  by_cases e : 26 = f
  · subst e
    rw [va_up_self, va_up_ne _ _ (Ne.symm (h26 rfl))]
    exact h.2
  · rw [va_up_ne _ _ e]
    exact h.2
theorem Ag_I {A t : MS} (h : Ag A t) {k : Nat} (hk : k < 24) : mgI t k = A.1 k := (h.1 k hk).1
theorem Ag_A {A t : MS} (h : Ag A t) {f i : Nat} (hf : f < 24) (hi : i < 2147483648) : mgA t f (nI i) = A.2 f i := by
  show t.2 f (nI i).toNatClampNeg = A.2 f i
  rw [nI_clamp (by omega), (h.1 f hf).2]
theorem rB_Ag {S : CS} {A t : MS} {so : Nat} (h : Ag A t) : rB S t so ↔ rB S A so := by
  unfold rB rM rR rE
  rw [(h.1 0 (by decide)).1, (h.1 1 (by decide)).2, (h.1 2 (by decide)).2, (h.1 3 (by decide)).2, (h.1 6 (by decide)).2, (h.1 7 (by decide)).2, (h.1 8 (by decide)).2, (h.1 9 (by decide)).2, (h.1 10 (by decide)).2, (h.1 11 (by decide)).2, (h.1 12 (by decide)).2]
/-! WHAT WAS TOLD, AS NUMBERS -/
def zN (A : MS) : Nat := aN (A.1 0)
def zB (A : MS) (i : Nat) : Nat := aN (A.2 1 i)
def zU (A : MS) (i : Nat) : Nat := aN (A.2 2 i)
def zL (A : MS) (i : Nat) : Nat := 96 * zB A i / zU A i
def zP (A : MS) : Nat → Nat
  | 0 => 120
  | k + 1 => if A.2 3 k = -1 then zP A k else aN (A.2 3 k)
def zE (A : MS) (v i : Nat) : Nat := aN (A.2 6 (24 * v + i))
def zKp (A : MS) (p : Nat) : Nat := aN (tk (A.2 9 p) (A.2 10 p))
def zp (v i j : Nat) : Nat := 16 * (24 * v + i) + j
def zK (A : MS) (v i j : Nat) : Nat := zKp A (zp v i j)
def zS (A : MS) (v i : Nat) : Nat → Nat
  | 0 => 0
  | k + 1 => zS A v i k + zK A v i k
/-- how long ticks are at a bar -/
def zT (A : MS) (i x : Nat) : Nat := x * 2500 / zP A (i + 1)
/-- what holds of one event; of a voice's row in a bar; of a bar; of all -/
def zMe (A : MS) (p : Nat) : Prop := tk (A.2 9 p) (A.2 10 p) = nI (zKp A p) ∧ 2 ≤ zKp A p ∧ zKp A p ≤ 144 ∧ A.2 8 p = nI (aN (A.2 8 p)) ∧ aN (A.2 8 p) ≤ 127 ∧ (∃ k : Nat, k < 6 ∧ A.2 9 p = nI k) ∧ (∃ f : Nat, f < 3 ∧ A.2 10 p = nI f) ∧ gb (A.2 12 p)
def zMr (A : MS) (v i : Nat) : Prop := zE A v i ≤ 16 ∧ A.2 6 (24 * v + i) = nI (zE A v i) ∧ gb (A.2 7 (24 * v + i)) ∧ zS A v i (zE A v i) ≤ zL A i ∧ ∀ j, j < zE A v i → zMe A (zp v i j)
def zMb (A : MS) (i : Nat) : Prop := (A.2 1 i = nI (zB A i) ∧ 1 ≤ zB A i ∧ zB A i ≤ 9) ∧ (A.2 2 i = nI (zU A i) ∧ (zU A i = 2 ∨ zU A i = 4 ∨ zU A i = 8)) ∧ (A.2 3 i = -1 ∨ (A.2 3 i = nI (aN (A.2 3 i)) ∧ 30 ≤ aN (A.2 3 i) ∧ aN (A.2 3 i) ≤ 240)) ∧ ∀ v, v < 4 → zMr A v i
def zM (A : MS) : Prop := A.1 0 = nI (zN A) ∧ zN A ≤ 24 ∧ ∀ i, i < zN A → zMb A i
/-- what the relation of class and model does not say of it -/
def zW (A : MS) : Prop := ∀ i, i < zN A → (A.2 3 i = -1 ∨ (A.2 3 i = nI (aN (A.2 3 i)) ∧ 30 ≤ aN (A.2 3 i) ∧ aN (A.2 3 i) ≤ 240)) ∧ ∀ v, v < 4 → zS A v i (zE A v i) ≤ zL A i ∧ ∀ j, j < zE A v i → (A.2 8 (zp v i j) = nI (aN (A.2 8 (zp v i j))) ∧ aN (A.2 8 (zp v i j)) ≤ 127) ∧ gb (A.2 12 (zp v i j))
theorem tk_ok {k f : Nat} (hk : k < 6) (hf : f < 3) : tk (nI k) (nI f) = nI (aN (tk (nI k) (nI f))) ∧ 2 ≤ aN (tk (nI k) (nI f)) ∧ aN (tk (nI k) (nI f)) ≤ 144 := by
  have h1 : k = 0 ∨ k = 1 ∨ k = 2 ∨ k = 3 ∨ k = 4 ∨ k = 5 := by omega
  have h2 : f = 0 ∨ f = 1 ∨ f = 2 := by omega
  rcases h1 with rfl | rfl | rfl | rfl | rfl | rfl <;> rcases h2 with rfl | rfl | rfl <;> decide +kernel
theorem zM_of {S : CS} {A : MS} {so : Nat} (h : rB S A so) (w : zW A) : zM A := by
  have h4 := h.2.2.2.1
  have hn := h.2.1
  have e : zN A = nbS S so := by
    unfold zN
    rw [h4, aN_nI (by omega)]
  refine ⟨by rw [e]; exact h4, by omega, fun i hi => ?_⟩
  obtain ⟨w1, w2⟩ := w i hi
  obtain ⟨-, -, -, -, ⟨c, c1, c2, c3⟩, g6, g7⟩ := h.2.2.2.2.1 i (by omega)
  have e1 : zB A i = c := by
    unfold zB
    rw [c3, aN_nI (by omega)]
  refine ⟨⟨by rw [e1]; exact c3, by omega, by omega⟩, ?_, w1, fun v hv => ?_⟩
  · unfold zU
    rcases g6 with g | g | g <;> rw [g]
    · exact ⟨rfl, Or.inl rfl⟩
    · exact ⟨rfl, Or.inr (Or.inl rfl)⟩
    · exact ⟨rfl, Or.inr (Or.inr rfl)⟩
  obtain ⟨-, -, r3, r4, -, r6, -, -, r8⟩ := g7 v hv
  obtain ⟨w3, w4⟩ := w2 v hv
  have e2 : zE A v i = neS S so v i := by
    unfold zE
    rw [r4, aN_nI (by omega)]
  refine ⟨by omega, by rw [e2]; exact r4, r6, w3, fun j hj => ?_⟩
  obtain ⟨-, -, -, -, -, -, ⟨k, k1, k2⟩, ⟨f, f1, f2⟩⟩ := r8 j (by omega)
  have ep : zp v i j = 16 * (24 * v + i) + j := rfl
  have g := tk_ok k1 f1
  rw [← k2, ← f2] at g
  exact ⟨g.1, g.2.1, g.2.2, (w4 j hj).1.1, (w4 j hj).1.2, ⟨k, k1, k2⟩, ⟨f, f1, f2⟩, (w4 j hj).2⟩
section ZF
variable {A : MS}
theorem z_n (h : zM A) : A.1 0 = nI (zN A) ∧ zN A ≤ 24 := ⟨h.1, h.2.1⟩
theorem z_b (h : zM A) {i : Nat} (hi : i < zN A) : zMb A i := h.2.2 i hi
theorem z_r (h : zM A) {v i : Nat} (hi : i < zN A) (hv : v < 4) : zMr A v i := (h.2.2 i hi).2.2.2 v hv
theorem z_v (h : zM A) {v i j : Nat} (hi : i < zN A) (hv : v < 4) (hj : j < zE A v i) : zMe A (zp v i j) := (z_r h hi hv).2.2.2.2 j hj
theorem z_k (h : zM A) {v i j : Nat} (hi : i < zN A) (hv : v < 4) (hj : j < zE A v i) : tk (A.2 9 (zp v i j)) (A.2 10 (zp v i j)) = nI (zK A v i j) ∧ 2 ≤ zK A v i j ∧ zK A v i j ≤ 144 := by
  obtain ⟨h1, h2, h3, -⟩ := z_v h hi hv hj
  exact ⟨h1, h2, h3⟩
theorem z_len (h : zM A) {i : Nat} (hi : i < zN A) : zL A i ≤ 432 ∧ 12 ≤ zL A i := by
  obtain ⟨⟨-, c1, c2⟩, ⟨-, g⟩, -⟩ := z_b h hi
  unfold zL
  rcases g with g | g | g <;> rw [g] <;> omega
theorem z_s (h : zM A) {v i : Nat} (hi : i < zN A) (hv : v < 4) : ∀ k, k ≤ zE A v i → 2 * k ≤ zS A v i k ∧ zS A v i k ≤ 144 * k := by
  intro k
  induction k with
  | zero => intro _; exact ⟨Nat.le_refl _, Nat.le_refl _⟩
  | succ k ih =>
    intro hk
    have g := ih (by omega)
    have g2 := z_k h hi hv (j := k) (by omega)
    show 2 * (k + 1) ≤ zS A v i k + zK A v i k ∧ zS A v i k + zK A v i k ≤ 144 * (k + 1)
    omega
theorem zS_mono {v i a b : Nat} (hab : a ≤ b) : zS A v i a ≤ zS A v i b := by
  induction b with
  | zero => rw [show a = 0 by omega]; exact Nat.le_refl _
  | succ b ih =>
    by_cases h9 : a = b + 1
    · rw [h9]; exact Nat.le_refl _
    · have g := ih (by omega)
      show zS A v i a ≤ zS A v i b + zK A v i b
      omega
theorem z_sL (h : zM A) {v i k : Nat} (hi : i < zN A) (hv : v < 4) (hk : k ≤ zE A v i) : zS A v i k ≤ zL A i := Nat.le_trans (zS_mono hk) (z_r h hi hv).2.2.2.1
theorem z_p (h : zM A) {k : Nat} (hk : k ≤ zN A) : 30 ≤ zP A k ∧ zP A k ≤ 240 := by
  induction k with
  | zero => exact ⟨(by decide : 30 ≤ 120), (by decide : 120 ≤ 240)⟩
  | succ k ih =>
    have g := ih (by omega)
    obtain ⟨-, -, g2, -⟩ := z_b h (i := k) (by omega)
    unfold zP
    by_cases e : A.2 3 k = -1
    · rw [if_pos e]; exact g
    · rw [if_neg e]
      rcases g2 with g2 | g2
      · exact absurd g2 e
      · exact g2.2
theorem z_t (h : zM A) {i x : Nat} (hi : i < zN A) (hx : x ≤ 2304) : zT A i x ≤ 192000 := by
  have g := z_p h (k := i + 1) (by omega)
  unfold zT
  have h1 : x * 2500 / zP A (i + 1) ≤ x * 2500 / 30 := Nat.div_le_div_left (by omega) (by omega)
  omega
theorem z_tlt (h : zM A) {i x y : Nat} (hi : i < zN A) (hxy : x < y) : zT A i x < zT A i y := by
  have g := z_p h (k := i + 1) (by omega)
  unfold zT
  have h2 : (x * 2500 + 1 * zP A (i + 1)) / zP A (i + 1) ≤ y * 2500 / zP A (i + 1) := Nat.div_le_div_right (by omega)
  rw [Nat.add_mul_div_right _ _ (by omega)] at h2
  omega
end ZF
