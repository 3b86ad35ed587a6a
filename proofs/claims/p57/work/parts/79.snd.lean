/-! THE SOUNDS OF A VOICE -/
/-- how many; begins; ends; first events -/
abbrev SQ : Type := Nat × (Nat → Nat) × (Nat → Nat) × (Nat → Nat)
def zHo (A : MS) (x y : Nat) : Bool := decide (¬ A.2 12 x = 0 ∧ ¬ A.2 8 x ≤ 0 ∧ A.2 8 x = A.2 8 y)
def zGo (A : MS) (L : List Nat) (v p k : Nat) : Bool := if k = 0 then decide (0 < p ∧ gn L (p - 1) + 1 = gn L p ∧ 0 < zE A v (gn L (p - 1)) ∧ zHo A (zp v (gn L (p - 1)) (zE A v (gn L (p - 1)) - 1)) (zp v (gn L p) 0) = true) else zHo A (zp v (gn L p) (k - 1)) (zp v (gn L p) k)
def zCu (A : MS) (L : List Nat) (v p k : Nat) : Nat := zSt A L p + zT A (gn L p) (zS A v (gn L p) k)
def zSn (A : MS) (L : List Nat) (v p k : Nat) (s : SQ) : SQ := if A.2 8 (zp v (gn L p) k) ≤ 0 then s else if zGo A L v p k = true then (s.1, s.2.1, va_up s.2.2.1 (s.1 - 1) (zCu A L v p (k + 1)), s.2.2.2) else (s.1 + 1, va_up s.2.1 s.1 (zCu A L v p k), va_up s.2.2.1 s.1 (zCu A L v p (k + 1)), va_up s.2.2.2 s.1 (16 * gn L p + k))
def zSe (A : MS) (L : List Nat) (v p : Nat) (s : SQ) : Nat → SQ
  | 0 => s
  | k + 1 => zSn A L v p k (zSe A L v p s k)
def zSs (A : MS) (L : List Nat) (v : Nat) : Nat → SQ
  | 0 => (0, fun _ => 0, fun _ => 0, fun _ => 0)
  | p + 1 => zSe A L v p (zSs A L v p) (zE A v (gn L p))
/-- behind some events of a place -/
def zSv (A : MS) (L : List Nat) (v p k : Nat) : SQ := zSe A L v p (zSs A L v p) k
/-- what holds of the sounds of a voice at a time -/
def sqOk (A : MS) (v c : Nat) (s : SQ) : Prop := (∀ x, x < s.1 → s.2.1 x < s.2.2.1 x ∧ s.2.2.1 x ≤ c ∧ ∃ i j, i < zN A ∧ j < zE A v i ∧ s.2.2.2 x = 16 * i + j) ∧ ∀ x, x + 1 < s.1 → s.2.2.1 x ≤ s.2.1 (x + 1)
section SN
variable {A : MS} {L : List Nat} {v : Nat}
theorem zCu_lt (w : zM A) (hL : ∀ x, x ∈ L → x < zN A) (hv : v < 4) {p k : Nat} (hp : p < L.length) (hk : k < zE A v (gn L p)) : zCu A L v p k < zCu A L v p (k + 1) := by
  have hb := gn_lt hL hp
  have h1 := z_k w hb hv hk
  have h2 := z_tlt w hb (x := zS A v (gn L p) k) (y := zS A v (gn L p) (k + 1)) (by show _ < _ + _; have := h1.2.1; omega)
  unfold zCu
  omega
theorem zCu_0 {p : Nat} : zCu A L v p 0 = zSt A L p := by
  show zSt A L p + 0 * 2500 / _ = _
  rw [Nat.zero_mul, Nat.zero_div]
  rfl
theorem zT_mono {i x y : Nat} (h : x ≤ y) : zT A i x ≤ zT A i y := Nat.div_le_div_right (Nat.mul_le_mul_right _ h)
theorem zCu_end (w : zM A) (hL : ∀ x, x ∈ L → x < zN A) (hv : v < 4) {p k : Nat} (hp : p < L.length) (hk : k ≤ zE A v (gn L p)) : zCu A L v p k ≤ zSt A L (p + 1) := by
  have hb := gn_lt hL hp
  have h1 := z_sL w hb hv hk
  have h2 : zT A (gn L p) (zS A v (gn L p) k) ≤ zTb A (gn L p) := zT_mono h1
  show zSt A L p + _ ≤ zSt A L p + zTb A (gn L p)
  omega
theorem zCu_le (w : zM A) (hL : ∀ x, x ∈ L → x < zN A) (h48 : L.length ≤ 48) (hv : v < 4) {p k : Nat} (hp : p < L.length) (hk : k ≤ zE A v (gn L p)) : zCu A L v p k ≤ 9216000 := by
  have h1 := zCu_end w hL hv hp hk
  have h2 := zSt_le w hL (p := p + 1) (by omega)
  omega
theorem sqOk_mono {c d : Nat} {s : SQ} (h : sqOk A v c s) (hcd : c ≤ d) : sqOk A v d s := ⟨fun x hx => ⟨(h.1 x hx).1, Nat.le_trans (h.1 x hx).2.1 hcd, (h.1 x hx).2.2⟩, h.2⟩
theorem zSn_ok (w : zM A) (hL : ∀ x, x ∈ L → x < zN A) (hv : v < 4) {p k : Nat} (hp : p < L.length) (hk : k < zE A v (gn L p)) {s : SQ} (h : sqOk A v (zCu A L v p k) s) : sqOk A v (zCu A L v p (k + 1)) (zSn A L v p k s) := by
  have hlt := zCu_lt w hL hv hp hk
  have hb := gn_lt hL hp
  unfold zSn
  by_cases e : A.2 8 (zp v (gn L p) k) ≤ 0
  · rw [if_pos e]
    exact sqOk_mono h (by omega)
  · rw [if_neg e]
    by_cases e2 : zGo A L v p k = true
    · rw [if_pos e2]
      refine ⟨fun x hx => ?_, fun x hx => ?_⟩
      · have hx' : x < s.1 := hx
        obtain ⟨g1, g2, g3⟩ := h.1 x hx'
        show s.2.1 x < va_up s.2.2.1 (s.1 - 1) (zCu A L v p (k + 1)) x ∧ va_up s.2.2.1 (s.1 - 1) (zCu A L v p (k + 1)) x ≤ _ ∧ _
        rw [va_up_at]
        by_cases e3 : x = s.1 - 1
        · rw [if_pos e3]
          exact ⟨by omega, Nat.le_refl _, g3⟩
        · rw [if_neg e3]
          exact ⟨g1, by omega, g3⟩
      · have hx' : x + 1 < s.1 := hx
        show va_up s.2.2.1 (s.1 - 1) (zCu A L v p (k + 1)) x ≤ s.2.1 (x + 1)
        rw [va_up_at, if_neg (by omega)]
        exact h.2 x hx'
    · rw [if_neg e2]
      refine ⟨fun x hx => ?_, fun x hx => ?_⟩
      · have hx' : x < s.1 + 1 := hx
        show va_up s.2.1 s.1 (zCu A L v p k) x < va_up s.2.2.1 s.1 (zCu A L v p (k + 1)) x ∧ va_up s.2.2.1 s.1 (zCu A L v p (k + 1)) x ≤ _ ∧ ∃ i j, i < zN A ∧ j < zE A v i ∧ va_up s.2.2.2 s.1 (16 * gn L p + k) x = 16 * i + j
        rw [va_up_at, va_up_at, va_up_at]
        by_cases e3 : x = s.1
        · rw [if_pos e3, if_pos e3, if_pos e3]
          exact ⟨hlt, Nat.le_refl _, gn L p, k, hb, hk, rfl⟩
        · rw [if_neg e3, if_neg e3, if_neg e3]
          obtain ⟨g1, g2, g3⟩ := h.1 x (by omega)
          exact ⟨g1, by omega, g3⟩
      · have hx' : x + 1 < s.1 + 1 := hx
        show va_up s.2.2.1 s.1 (zCu A L v p (k + 1)) x ≤ va_up s.2.1 s.1 (zCu A L v p k) (x + 1)
        rw [va_up_at, va_up_at, if_neg (by omega)]
        by_cases e3 : x + 1 = s.1
        · rw [if_pos e3]
          exact (h.1 x (by omega)).2.1
        · rw [if_neg e3]
          exact h.2 x (by omega)
theorem zSe_ok (w : zM A) (hL : ∀ x, x ∈ L → x < zN A) (hv : v < 4) {p : Nat} (hp : p < L.length) {s : SQ} (h : sqOk A v (zSt A L p) s) : ∀ k, k ≤ zE A v (gn L p) → sqOk A v (zCu A L v p k) (zSe A L v p s k) := by
  intro k
  induction k with
  | zero => intro _; rw [zCu_0]; exact h
  | succ k ih => intro hk; exact zSn_ok w hL hv hp (by omega) (ih (by omega))
theorem zSs_ok (w : zM A) (hL : ∀ x, x ∈ L → x < zN A) (hv : v < 4) : ∀ p, p ≤ L.length → sqOk A v (zSt A L p) (zSs A L v p) := by
  intro p
  induction p with
  | zero => intro _; exact ⟨fun x hx => absurd hx (Nat.not_lt_zero _), fun x hx => absurd hx (Nat.not_lt_zero _)⟩
  | succ p ih =>
    intro hp
    exact sqOk_mono (zSe_ok w hL hv (by omega) (ih (by omega)) _ (Nat.le_refl _)) (zCu_end w hL hv (by omega) (Nat.le_refl _))
theorem zSv_ok (w : zM A) (hL : ∀ x, x ∈ L → x < zN A) (hv : v < 4) {p k : Nat} (hp : p < L.length) (hk : k ≤ zE A v (gn L p)) : sqOk A v (zCu A L v p k) (zSv A L v p k) := zSe_ok w hL hv hp (zSs_ok w hL hv p (by omega)) k hk
theorem zSn_n {p k : Nat} {s : SQ} : s.1 ≤ (zSn A L v p k s).1 ∧ (zSn A L v p k s).1 ≤ s.1 + 1 := by
  unfold zSn
  by_cases e : A.2 8 (zp v (gn L p) k) ≤ 0
  · rw [if_pos e]; omega
  · rw [if_neg e]
    by_cases e2 : zGo A L v p k = true
    · rw [if_pos e2]; exact ⟨Nat.le_refl _, Nat.le_succ _⟩
    · rw [if_neg e2]; exact ⟨Nat.le_succ _, Nat.le_refl _⟩
theorem zSe_n {p : Nat} {s : SQ} : ∀ k, s.1 ≤ (zSe A L v p s k).1 ∧ (zSe A L v p s k).1 ≤ s.1 + k := by
  intro k
  induction k with
  | zero => exact ⟨Nat.le_refl _, Nat.le_refl _⟩
  | succ k ih =>
    have := zSn_n (A := A) (L := L) (v := v) (p := p) (k := k) (s := zSe A L v p s k)
    show s.1 ≤ (zSn A L v p k (zSe A L v p s k)).1 ∧ (zSn A L v p k (zSe A L v p s k)).1 ≤ s.1 + (k + 1)
    omega
theorem zSs_n (w : zM A) (hL : ∀ x, x ∈ L → x < zN A) (hv : v < 4) : ∀ p, p ≤ L.length → (zSs A L v p).1 ≤ 16 * p := by
  intro p
  induction p with
  | zero => intro _; exact Nat.le_refl _
  | succ p ih =>
    intro hp
    have g := ih (by omega)
    have g2 := zSe_n (A := A) (L := L) (v := v) (p := p) (s := zSs A L v p) (zE A v (gn L p))
    have g3 := (z_r w (gn_lt hL (p := p) (by omega)) hv).1
    show (zSe A L v p (zSs A L v p) (zE A v (gn L p))).1 ≤ 16 * (p + 1)
    omega
theorem zSv_n (w : zM A) (hL : ∀ x, x ∈ L → x < zN A) (hv : v < 4) {p k : Nat} (hp : p < L.length) (hk : k ≤ zE A v (gn L p)) : (zSv A L v p k).1 ≤ 16 * p + k := by
  have g := zSs_n w hL hv p (by omega)
  have g2 := zSe_n (A := A) (L := L) (v := v) (p := p) (s := zSs A L v p) k
  unfold zSv
  omega
/-- behind a note there is a sound -/
theorem zSn_pos {p k : Nat} {s : SQ} (hk : ¬ A.2 8 (zp v (gn L p) k) ≤ 0) (h : zGo A L v p k = true → 0 < s.1) : 0 < (zSn A L v p k s).1 := by
  unfold zSn
  rw [if_neg hk]
  by_cases e2 : zGo A L v p k = true
  · rw [if_pos e2]; exact h e2
  · rw [if_neg e2]; exact Nat.succ_pos _
theorem zHo_note {x y : Nat} (h : zHo A x y = true) : ¬ A.2 12 x = 0 ∧ ¬ A.2 8 x ≤ 0 ∧ A.2 8 x = A.2 8 y := of_decide_eq_true h
theorem zNote : ∀ p, p ≤ L.length → (∀ k, k ≤ zE A v (gn L p) → p < L.length → 0 < k → ¬ A.2 8 (zp v (gn L p) (k - 1)) ≤ 0 → 0 < (zSv A L v p k).1) ∧ ∀ k, k < zE A v (gn L p) → p < L.length → zGo A L v p k = true → 0 < (zSv A L v p k).1 := by
  intro p
  induction p with
  | zero =>
    intro _
    have key : ∀ k, k ≤ zE A v (gn L 0) → 0 < L.length → (0 < k → ¬ A.2 8 (zp v (gn L 0) (k - 1)) ≤ 0 → 0 < (zSv A L v 0 k).1) := by
      intro k
      induction k with
      | zero => intro _ _ h; exact absurd h (Nat.lt_irrefl _)
      | succ k ih =>
        intro h1 h2 _ h3
        refine zSn_pos h3 (fun hg => ?_)
        unfold zGo at hg
        by_cases e : k = 0
        · rw [if_pos e] at hg
          exact absurd (of_decide_eq_true hg).1 (Nat.lt_irrefl _)
        · rw [if_neg e] at hg
          exact ih (by omega) h2 (by omega) (zHo_note hg).2.1
    refine ⟨fun k h1 h2 h3 h4 => key k h1 h2 h3 h4, fun k h1 h2 hg => ?_⟩
    unfold zGo at hg
    by_cases e : k = 0
    · rw [if_pos e] at hg
      exact absurd (of_decide_eq_true hg).1 (Nat.lt_irrefl _)
    · rw [if_neg e] at hg
      exact key k (by omega) h2 (by omega) (zHo_note hg).2.1
  | succ p ih =>
    intro hp
    obtain ⟨ih1, ih2⟩ := ih (by omega)
    have go0 : zGo A L v (p + 1) 0 = true → 0 < (zSs A L v (p + 1)).1 := fun hg => by
      unfold zGo at hg
      rw [if_pos rfl] at hg
      obtain ⟨-, -, g3, g4⟩ := of_decide_eq_true hg
      rw [Nat.add_sub_cancel] at g3 g4
      exact ih1 (zE A v (gn L p)) (Nat.le_refl _) (by omega) g3 (zHo_note g4).2.1
    have key : ∀ k, k ≤ zE A v (gn L (p + 1)) → (0 < k → ¬ A.2 8 (zp v (gn L (p + 1)) (k - 1)) ≤ 0 → 0 < (zSv A L v (p + 1) k).1) := by
      intro k
      induction k with
      | zero => intro _ h; exact absurd h (Nat.lt_irrefl _)
      | succ k ihk =>
        intro h1 _ h3
        refine zSn_pos h3 (fun hg => ?_)
        by_cases e : k = 0
        · subst e
          exact go0 hg
        · unfold zGo at hg
          rw [if_neg e] at hg
          exact ihk (by omega) (by omega) (zHo_note hg).2.1
    refine ⟨fun k h1 _ h3 h4 => key k h1 h3 h4, fun k h1 _ hg => ?_⟩
    by_cases e : k = 0
    · subst e
      exact go0 hg
    · unfold zGo at hg
      rw [if_neg e] at hg
      exact key k (by omega) (by omega) (zHo_note hg).2.1
end SN
