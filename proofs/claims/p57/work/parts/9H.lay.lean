/-! THE TABLE OF PAGES -/
def gPk (E : Nat → Nat) (R n l s b : Nat) (t : (Nat → Nat) × (Nat → Nat)) : Prop := t.2 (gIx l s b) ≤ gC R n l ∧ (t.2 (gIx l s b) = 0 → b = 0) ∧ (1 ≤ t.2 (gIx l s b) → gW E R n t.1 l s b (t.2 (gIx l s b)) = t.1 (gIx l s b)) ∧ ∀ c, t.2 (gIx l s b) < c → c ≤ gC R n l → t.1 (gIx l s b) < gW E R n t.1 l s b c
/-- what holds of the states D that were weighed -/
def gDk (E : Nat → Nat) (R n : Nat) (t : (Nat → Nat) × (Nat → Nat)) (D : Nat → Nat → Nat → Prop) : Prop := (∀ l s b, l < n → s < 2 → b < 2 → D l s b → gOk E n l s b (t.1 (gIx l s b)) ∧ gPk E R n l s b t) ∧ ∀ s, s < 2 → t.1 (gIx n s 0) = 0
def gAd (D : Nat → Nat → Nat → Prop) (l s b : Nat) : Nat → Nat → Nat → Prop := fun l2 s2 b2 => D l2 s2 b2 ∨ (l2 = l ∧ s2 = s ∧ b2 = b)
/-- the class holds it -/
def pgC (S : CS) (pg n : Nat) (t : (Nat → Nat) × (Nat → Nat)) (D : Nat → Nat → Nat → Prop) : Prop := (∀ l s b, l < n → s < 2 → b < 2 → D l s b → fJ S pg (gIx l s b) = cL (t.1 (gIx l s b)) ∧ fA S 106 pg (gIx l s b) = nI (t.2 (gIx l s b))) ∧ ∀ s, s < 2 → fJ S pg (gIx n s 0) = cL 0
def gDt (n k : Nat) : Nat → Nat → Nat → Prop := fun l _ _ => n - k ≤ l
section LP
variable {E : Nat → Nat} {R n : Nat} {t : (Nat → Nat) × (Nat → Nat)} {D : Nat → Nat → Nat → Prop} {l s b pg : Nat} {S S' : CS}
theorem gDk_rd (h : gDk E R n t D) (hD : ∀ l2 s2, l < l2 → l2 < n → s2 < 2 → D l2 s2 0) : gRd E n t.1 l := ⟨fun l2 s2 h1 h2 h3 => (h.1 l2 s2 0 h2 h3 (by decide) (hD l2 s2 h1 h2 h3)).1, h.2⟩
theorem gDk_up (hE : ∀ k, E k ≤ 520000) (hR : R ≤ 6) (hR1 : 1 ≤ R) (hn : n ≤ 24) (hl : l < n) (hs : s < 2) (hb : b < 2) (h : gDk E R n t D) (hD : ∀ l2 s2, l < l2 → l2 < n → s2 < 2 → D l2 s2 0) (hB : b = 0 → D l (1 - s) 1) (hlow : ∀ l2 s2 b2, D l2 s2 b2 → l ≤ l2) : gDk E R n (gUp E R n l t s b) (gAd D l s b) := by
  have hrd := gDk_rd h hD
  have hgb := gAll_b hE hR hR1 hn hl hs hb hrd (fun z => (h.1 l (1 - s) 1 hl (by omega) (by decide) (hB z)).1)
  have eW : ∀ l2 s2 b2 c, l ≤ l2 → s2 < 2 → 1 ≤ c → gW E R n (gUp E R n l t s b).1 l2 s2 b2 c = gW E R n t.1 l2 s2 b2 c := fun l2 s2 b2 c y1 y2 y3 => by
    unfold gW
    rw [(gUp_T (E := E) (R := R) (n := n) (t := t) (l := l) (l2 := l2 + c) (s2 := 1 - s2) (b2 := 0) hs hb (by omega) (by decide)).1, if_neg (fun z => by omega)]
  refine ⟨fun l2 s2 b2 h1 h2 h3 h4 => ?_, fun s2 h2 => ?_⟩
  · obtain ⟨u1, u2⟩ := gUp_T (E := E) (R := R) (n := n) (t := t) (l := l) (s := s) (b := b) hs hb (l2 := l2) h2 h3
    unfold gPk
    rw [u1, u2]
    by_cases e : l2 = l ∧ s2 = s ∧ b2 = b
    · rw [if_pos e, if_pos e]
      obtain ⟨e1, e2, e3⟩ := e
      subst e1
      subst e2
      subst e3
      obtain ⟨q1, q2, q3, q4, q5, q6⟩ := gAll_ok (E := E) (R := R) (T := t.1) (s := s2) (b := b2) hl hR1
      refine ⟨hgb, q3, fun z => (q4 z).1, fun z => ?_, fun c c1 c2 => ?_⟩
      · rw [eW _ _ _ _ (Nat.le_refl _) h2 z]
        exact q5 z
      · rw [eW _ _ _ _ (Nat.le_refl _) h2 (by omega)]
        exact q6 c c1 c2
    · rw [if_neg e, if_neg e]
      have hd : D l2 s2 b2 := h4.elim id (fun z => absurd z e)
      have hll := hlow _ _ _ hd
      obtain ⟨g1, g2, g3, g4, g5⟩ := h.1 l2 s2 b2 h1 h2 h3 hd
      refine ⟨g1, g2, g3, fun z => ?_, fun c c1 c2 => ?_⟩
      · rw [eW _ _ _ _ hll h2 z]
        exact g4 z
      · rw [eW _ _ _ _ hll h2 (by omega)]
        exact g5 c c1 c2
  · rw [(gUp_T (E := E) (R := R) (n := n) (t := t) (l := l) (l2 := n) (s2 := s2) (b2 := 0) hs hb h2 (by decide)).1, if_neg (fun z => by omega)]
    exact h.2 s2 h2
theorem gDk_sub {D' : Nat → Nat → Nat → Prop} (h : gDk E R n t D) (hD : ∀ l s b, l < n → s < 2 → b < 2 → D' l s b → D l s b) : gDk E R n t D' := ⟨fun l s b h1 h2 h3 h4 => h.1 l s b h1 h2 h3 (hD l s b h1 h2 h3 h4), h.2⟩
theorem pgC_sub {D' : Nat → Nat → Nat → Prop} (h : pgC S pg n t D) (hD : ∀ l s b, l < n → s < 2 → b < 2 → D' l s b → D l s b) : pgC S pg n t D' := ⟨fun l s b h1 h2 h3 h4 => h.1 l s b h1 h2 h3 (hD l s b h1 h2 h3 h4), h.2⟩
theorem cc_pgStep (hE : ∀ k, E k ≤ 520000) (hR : R ≤ 6) (hR1 : 1 ≤ R) (hn : n ≤ 24) (hl : l < n) (hs : s < 2) (hb : b < 2) (hk : kdC S pg = 6) (h104 : ∀ l, 1 ≤ l → l < n → fA S 104 pg l = nI (E l)) (h : gDk E R n t D) (hc : pgC S pg n t D) (hD : ∀ l2 s2, l < l2 → l2 < n → s2 < 2 → D l2 s2 0) (hB : b = 0 → D l (1 - s) 1) (hlow : ∀ l2 s2 b2, D l2 s2 b2 → l ≤ l2) {B : Nat × Nat} {Q : CS → Prop} {X : String → CS → Prop} (hQ : ∀ S', Fp pg S S' → gDk E R n (gUp E R n l t s b) (gAd D l s b) → pgC S' pg n (gUp E R n l t s b) (gAd D l s b) → Q S') : w_X3_weighPagesFrom B pg (nI l) (nI s) (nI b) (nI n) (nI R) S Q X := by
  have hrd := gDk_rd h hD
  refine cc_weighPages (T := t.1) hE hR hR1 hn hl hs hb hk (fun z => h104 l z hl) hrd (fun z => (h.1 l (1 - s) 1 hl (by omega) (by decide) (hB z)).1) (fun c y1 y2 => ?_) (fun z => (hc.1 l (1 - s) 1 hl (by omega) (by decide) (hB z)).1) (fun S' F e1 e2 => hQ S' F (gDk_up hE hR hR1 hn hl hs hb h hD hB hlow) ⟨fun l2 s2 b2 h1 h2 h3 h4 => ?_, fun s2 h2 => ?_⟩)
  · by_cases e : l + c = n
    · rw [e, hc.2 _ (by omega), h.2 _ (by omega)]
    · exact (hc.1 (l + c) (1 - s) 0 (by omega) (by omega) (by decide) (hD _ _ (by omega) (by omega) (by omega))).1
  · obtain ⟨u1, u2⟩ := gUp_T (E := E) (R := R) (n := n) (t := t) (l := l) (s := s) (b := b) hs hb (l2 := l2) h2 h3
    have hi := gIx_inj (l := l2) (l2 := l) h2 h3 hs hb
    rw [u1, u2, e1, e2, va_up_at, va_up_at]
    by_cases e : l2 = l ∧ s2 = s ∧ b2 = b
    · rw [if_pos (hi.mpr e), if_pos e, if_pos (hi.mpr e), if_pos e]
      exact ⟨rfl, rfl⟩
    · rw [if_neg (fun z => e (hi.mp z)), if_neg e, if_neg (fun z => e (hi.mp z)), if_neg e]
      exact hc.1 l2 s2 b2 h1 h2 h3 (h4.elim id (fun z => absurd z e))
  · rw [e1, va_up_at, if_neg (fun z => by
      have := (gIx_inj h2 (by decide) hs hb).mp z
      omega)]
    exact hc.2 s2 h2
theorem gT_ok (hE : ∀ k, E k ≤ 520000) (hR : R ≤ 6) (hR1 : 1 ≤ R) (hn : n ≤ 24) : ∀ k, k ≤ n → gDk E R n (gT E R n k) (gDt n k) := by
  intro k
  induction k with
  | zero => intro _; exact ⟨fun l s b h1 h2 h3 h4 => by have : n - 0 ≤ l := h4; omega, fun s _ => rfl⟩
  | succ k ih =>
    intro hk
    have h0 := ih (by omega)
    have hl : n - 1 - k < n := by omega
    have d0 : ∀ l2 s2, n - 1 - k < l2 → l2 < n → s2 < 2 → gDt n k l2 s2 0 := fun l2 s2 y1 y2 y3 => by show n - k ≤ l2; omega
    have low : ∀ l2 s2 b2, gDt n k l2 s2 b2 → n - 1 - k ≤ l2 := fun l2 s2 b2 y => by have : n - k ≤ l2 := y; omega
    have h1 := gDk_up hE hR hR1 hn hl (s := 0) (b := 1) (by decide) (by decide) h0 d0 (fun z => absurd z (by decide)) low
    have h2 := gDk_up hE hR hR1 hn hl (s := 1) (b := 1) (by decide) (by decide) h1 (fun l2 s2 y1 y2 y3 => Or.inl (d0 l2 s2 y1 y2 y3)) (fun z => absurd z (by decide)) (fun l2 s2 b2 y => y.elim (low l2 s2 b2) (fun z => by omega))
    have h3 := gDk_up hE hR hR1 hn hl (s := 0) (b := 0) (by decide) (by decide) h2 (fun l2 s2 y1 y2 y3 => Or.inl (Or.inl (d0 l2 s2 y1 y2 y3))) (fun _ => Or.inr ⟨rfl, rfl, rfl⟩) (fun l2 s2 b2 y => y.elim (fun y => y.elim (low l2 s2 b2) (fun z => by omega)) (fun z => by omega))
    have h4 := gDk_up hE hR hR1 hn hl (s := 1) (b := 0) (by decide) (by decide) h3 (fun l2 s2 y1 y2 y3 => Or.inl (Or.inl (Or.inl (d0 l2 s2 y1 y2 y3)))) (fun _ => Or.inl (Or.inl (Or.inr ⟨rfl, rfl, rfl⟩))) (fun l2 s2 b2 y => y.elim (fun y => y.elim (fun y => y.elim (low l2 s2 b2) (fun z => by omega)) (fun z => by omega)) (fun z => by omega))
    refine gDk_sub h4 (fun l s b y1 y2 y3 y4 => ?_)
    have y5 : n - (k + 1) ≤ l := y4
    by_cases e : n - k ≤ l
    · exact Or.inl (Or.inl (Or.inl (Or.inl e)))
    · have el : l = n - 1 - k := by omega
      have hs2 : s = 0 ∨ s = 1 := by omega
      have hb2 : b = 0 ∨ b = 1 := by omega
      rcases hs2 with rfl | rfl <;> rcases hb2 with rfl | rfl
      · exact Or.inl (Or.inr ⟨el, rfl, rfl⟩)
      · exact Or.inl (Or.inl (Or.inl (Or.inr ⟨el, rfl, rfl⟩)))
      · exact Or.inr ⟨el, rfl, rfl⟩
      · exact Or.inl (Or.inl (Or.inr ⟨el, rfl, rfl⟩))
/-- a line of the table, in the class -/
theorem cc_pgLine (hE : ∀ k, E k ≤ 520000) (hR : R ≤ 6) (hR1 : 1 ≤ R) (hn : n ≤ 24) {k : Nat} (hk : k < n) (hkd : kdC S pg = 6) (h104 : ∀ l, 1 ≤ l → l < n → fA S 104 pg l = nI (E l)) (hc : pgC S pg n (gT E R n k) (gDt n k)) {B : Nat × Nat} {Q : CS → Prop} {X : String → CS → Prop} (hQ : ∀ S', Fp pg S S' → pgC S' pg n (gT E R n (k + 1)) (gDt n (k + 1)) → Q S') : w_X3_weighPagesFrom B pg (nI (n - 1 - k)) 0 1 (nI n) (nI R) S (fun t9 => w_X3_weighPagesFrom B pg (nI (n - 1 - k)) 1 1 (nI n) (nI R) t9 (fun t10 => w_X3_weighPagesFrom B pg (nI (n - 1 - k)) 0 0 (nI n) (nI R) t10 (fun t11 => w_X3_weighPagesFrom B pg (nI (n - 1 - k)) 1 0 (nI n) (nI R) t11 Q X) X) X) X := by
  have h0 := gT_ok (E := E) (R := R) hE hR hR1 hn k (by omega)
  have hl : n - 1 - k < n := by omega
  have d0 : ∀ l2 s2, n - 1 - k < l2 → l2 < n → s2 < 2 → gDt n k l2 s2 0 := fun l2 s2 y1 y2 y3 => by show n - k ≤ l2; omega
  have low : ∀ l2 s2 b2, gDt n k l2 s2 b2 → n - 1 - k ≤ l2 := fun l2 s2 b2 y => by have : n - k ≤ l2 := y; omega
  have a104 : ∀ {U V : CS}, Fp pg U V → (∀ l, 1 ≤ l → l < n → fA U 104 pg l = nI (E l)) → ∀ l, 1 ≤ l → l < n → fA V 104 pg l = nI (E l) := fun F h l y1 y2 => by
    rw [F.2 104 (by decide)]
    exact h l y1 y2
  refine cc_pgStep hE hR hR1 hn hl (s := 0) (b := 1) (by decide) (by decide) hkd h104 h0 hc d0 (fun z => absurd z (by decide)) low (fun S1 F1 h1 c1 => ?_)
  have k1 : kdC S1 pg = 6 := by rw [F1.1.1]; exact hkd
  refine cc_pgStep hE hR hR1 hn hl (s := 1) (b := 1) (by decide) (by decide) k1 (a104 F1 h104) h1 c1 (fun l2 s2 y1 y2 y3 => Or.inl (d0 l2 s2 y1 y2 y3)) (fun z => absurd z (by decide)) (fun l2 s2 b2 y => y.elim (low l2 s2 b2) (fun z => by omega)) (fun S2 F2 h2 c2 => ?_)
  have k2 : kdC S2 pg = 6 := by rw [F2.1.1]; exact k1
  refine cc_pgStep hE hR hR1 hn hl (s := 0) (b := 0) (by decide) (by decide) k2 (a104 F2 (a104 F1 h104)) h2 c2 (fun l2 s2 y1 y2 y3 => Or.inl (Or.inl (d0 l2 s2 y1 y2 y3))) (fun _ => Or.inr ⟨rfl, rfl, rfl⟩) (fun l2 s2 b2 y => y.elim (fun y => y.elim (low l2 s2 b2) (fun z => by omega)) (fun z => by omega)) (fun S3 F3 h3 c3 => ?_)
  have k3 : kdC S3 pg = 6 := by rw [F3.1.1]; exact k2
  refine cc_pgStep hE hR hR1 hn hl (s := 1) (b := 0) (by decide) (by decide) k3 (a104 F3 (a104 F2 (a104 F1 h104))) h3 c3 (fun l2 s2 y1 y2 y3 => Or.inl (Or.inl (Or.inl (d0 l2 s2 y1 y2 y3)))) (fun _ => Or.inl (Or.inl (Or.inr ⟨rfl, rfl, rfl⟩))) (fun l2 s2 b2 y => y.elim (fun y => y.elim (fun y => y.elim (low l2 s2 b2) (fun z => by omega)) (fun z => by omega)) (fun z => by omega)) (fun S4 F4 h4 c4 => hQ S4 (Fp_trans F1 (Fp_trans F2 (Fp_trans F3 F4))) (pgC_sub c4 (fun l s b y1 y2 y3 y4 => ?_)))
  have y5 : n - (k + 1) ≤ l := y4
  by_cases e : n - k ≤ l
  · exact Or.inl (Or.inl (Or.inl (Or.inl e)))
  · have el : l = n - 1 - k := by omega
    have hs2 : s = 0 ∨ s = 1 := by omega
    have hb2 : b = 0 ∨ b = 1 := by omega
    rcases hs2 with rfl | rfl <;> rcases hb2 with rfl | rfl
    · exact Or.inl (Or.inr ⟨el, rfl, rfl⟩)
    · exact Or.inl (Or.inl (Or.inl (Or.inr ⟨el, rfl, rfl⟩)))
    · exact Or.inr ⟨el, rfl, rfl⟩
    · exact Or.inl (Or.inl (Or.inr ⟨el, rfl, rfl⟩))
end LP
