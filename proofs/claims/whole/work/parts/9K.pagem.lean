/-! THE MODEL WEIGHS PAGES -/
def F43 (t t' : MS) : Prop := t'.1 = t.1 ∧ ∀ f, f ≠ 43 → t'.2 f = t.2 f
/-- what pages are laid of -/
def pgI (t : MS) (E : Nat → Nat) (R n : Nat) : Prop := t.1 38 = nI n ∧ t.1 22 = nI R ∧ ∀ l, 1 ≤ l → l < n → t.2 44 l = nI (E l)
def pgM (t : MS) (E : Nat → Nat) (n : Nat) (T : (Nat → Nat) × (Nat → Nat)) (D : Nat → Nat → Nat → Prop) : Prop := ∀ l s b, l < n → s < 2 → b < 2 → D l s b → t.2 43 (gIx l s b) = nI (T.1 (gIx l s b) - 64 * gTf E l s b)
def gMn (E : Nat → Nat) (R n : Nat) (T : Nat → Nat) (l s b x : Nat) : Nat → Nat
  | 0 => x
  | c + 1 => if gMn E R n T l s b x c ≤ gW E R n T l s b (c + 1) then gMn E R n T l s b x c else gW E R n T l s b (c + 1)
def gX0 (E : Nat → Nat) (T : Nat → Nat) (l s b : Nat) : Nat := if b = 0 then gBl T l s else 2000000000 + 64 * gTf E l s b
section PM
variable {E : Nat → Nat} {R n : Nat} {T : (Nat → Nat) × (Nat → Nat)} {D : Nat → Nat → Nat → Prop} {l s b : Nat} {t t' : MS}
theorem F43_rfl : F43 t t := ⟨rfl, fun _ _ => rfl⟩
theorem F43_trans {u : MS} (h : F43 t t') (g : F43 t' u) : F43 t u := ⟨g.1.trans h.1, fun f hf => (g.2 f hf).trans (h.2 f hf)⟩
theorem pgI_43 (h : pgI t E R n) (g : F43 t t') : pgI t' E R n := by
  unfold pgI at h ⊢
  rw [g.1, g.2 44 (by decide)]
  exact h
theorem gMn_ok {T : Nat → Nat} {x : Nat} : ∀ C, gMn E R n T l s b x C ≤ x ∧ (∀ c, 1 ≤ c → c ≤ C → gMn E R n T l s b x C ≤ gW E R n T l s b c) ∧ (gMn E R n T l s b x C = x ∨ ∃ c, 1 ≤ c ∧ c ≤ C ∧ gMn E R n T l s b x C = gW E R n T l s b c) := by
  intro C
  induction C with
  | zero => exact ⟨Nat.le_refl _, fun c h1 h2 => by omega, Or.inl rfl⟩
  | succ C ih =>
    obtain ⟨i1, i2, i3⟩ := ih
    have e : gMn E R n T l s b x (C + 1) = if gMn E R n T l s b x C ≤ gW E R n T l s b (C + 1) then gMn E R n T l s b x C else gW E R n T l s b (C + 1) := rfl
    rw [e]
    by_cases c : gMn E R n T l s b x C ≤ gW E R n T l s b (C + 1)
    · rw [if_pos c]
      refine ⟨i1, fun y y1 y2 => ?_, ?_⟩
      · by_cases ey : y = C + 1
        · rw [ey]; exact c
        · exact i2 y y1 (by omega)
      · rcases i3 with z | ⟨y, y1, y2, y3⟩
        · exact Or.inl z
        · exact Or.inr ⟨y, y1, by omega, y3⟩
    · rw [if_neg c]
      refine ⟨by omega, fun y y1 y2 => ?_, Or.inr ⟨C + 1, by omega, Nat.le_refl _, rfl⟩⟩
      by_cases ey : y = C + 1
      · rw [ey]; exact Nat.le_refl _
      · have := i2 y y1 (by omega)
        omega
theorem gMn_is (hE : ∀ k, E k ≤ 520000) (hR : R ≤ 6) (hR1 : 1 ≤ R) (hn : n ≤ 24) (hl : l < n) (hb : b < 2) {T : Nat → Nat} (hT : gRd E n T l) (hs : s < 2) : gMn E R n T l s b (gX0 E T l s b) (gC R n l) = (gAll E R n T l s b).1 := by
  obtain ⟨c1, c2, c3⟩ := gC_ok hl hR1
  obtain ⟨q1, q2, q3, q4, q5, q6⟩ := gAll_ok (E := E) (R := R) (T := T) (s := s) (b := b) hl hR1
  obtain ⟨m1, m2, m3⟩ := gMn_ok (E := E) (R := R) (n := n) (l := l) (s := s) (b := b) (T := T) (x := gX0 E T l s b) (gC R n l)
  refine Nat.le_antisymm ?_ ?_
  · by_cases e : (gAll E R n T l s b).2 = 0
    · obtain ⟨e1, e2⟩ := q4 e
      rw [e2]
      have : gX0 E T l s b = gBl T l s := if_pos e1
      rw [← this]
      exact m1
    · rw [← q5 (by omega)]
      exact m2 _ (by omega) q3
  · rcases m3 with z | ⟨y, y1, y2, y3⟩
    · rw [z]
      unfold gX0
      by_cases e1 : b = 0
      · rw [if_pos e1]
        exact q2 e1
      · rw [if_neg e1]
        have h1 := q1 1 (Nat.le_refl _) c1
        have h2 := (gW_ok (E := E) (R := R) (n := n) (T := T) (l := l) (s := s) (b := b) hE hR hn hb (Nat.le_refl 1) (by omega) (fun z => hT.1 _ _ (by omega) z (by omega)) (fun z => by rw [z]; exact hT.2 _ (by omega))).2
        omega
    · rw [y3]
      exact q1 y y1 y2
theorem mm_withLines (hE : ∀ k, E k ≤ 520000) (hR : R ≤ 6) (hn : n ≤ 24) (hs : s < 2) (hi : pgI t E R n) (h : gDk E R n T D) (hm : pgM t E n T D) (hD : ∀ l2 s2, l < l2 → l2 < n → s2 < 2 → D l2 s2 0) {c : Nat} (hc : 1 ≤ c) (hcR : c ≤ R) (hlc : l + c ≤ n) : d_withLines (nI l) (nI s) (nI c) t ∧ v_withLines (nI l) (nI s) (nI c) t = nI (gW E R n T.1 l s b c - 64 * gTf E l s b) := by
  obtain ⟨i1, i2, i3⟩ := hi
  have e38 : mgI t 38 = nI n := i1
  have e22 : mgI t 22 = nI R := i2
  have eq : nI (l + c) = nI n ↔ l + c = n := nI_eq (by omega) (by omega)
  have eix : ∀ s2, s2 < 2 → (4 * nI (l + c) + 2 * nI s2) + 0 = nI (gIx (l + c) s2 0) := fun s2 _ => by
    rw [show (4 : Int32) = nI 4 from rfl, show (2 : Int32) = nI 2 from rfl, pk_mul, pk_mul, nI_add, show (0 : Int32) = nI 0 from rfl, nI_add]
    rfl
  have e1s : 1 - nI s = nI (1 - s) := pk_sub (a := 1) (b := s) (by omega)
  unfold d_withLines v_withLines d_bestOf v_bestOf
  rw [nI_add, e38, e22, e1s, eix (1 - s) (by omega)]
  by_cases e : l + c = n
  · refine ⟨⟨fun z => absurd (eq.mpr e) z, fun z => absurd (eq.mpr e) z, fun z => absurd (eq.mpr e) z⟩, ?_⟩
    rw [if_pos (eq.mpr e)]
    have h0 := h.2 (1 - s) (by omega)
    have eg : gW E R n T.1 l s b c - 64 * gTf E l s b = 1 := by
      unfold gW gSp
      rw [if_pos (by omega), e, h0]
      omega
    rw [eg]
    rfl
  · have hlt : l + c < n := by omega
    have hix : gIx (l + c) (1 - s) 0 < 100 := by unfold gIx; omega
    have hok := (h.1 (l + c) (1 - s) 0 hlt (by omega) (by decide) (hD _ _ (by omega) hlt (by omega))).1
    have e43 : mgA t 43 (nI (gIx (l + c) (1 - s) 0)) = nI (T.1 (gIx (l + c) (1 - s) 0) - 64 * gTf E (l + c) (1 - s) 0) := by
      show t.2 43 (nI _).toNatClampNeg = _
      rw [nI_clamp (by omega)]
      exact hm _ _ _ hlt (by omega) (by decide) (hD _ _ (by omega) hlt (by omega))
    have e44 : mgA t 44 (nI (l + c)) = nI (E (l + c)) := by
      show t.2 44 (nI _).toNatClampNeg = _
      rw [nI_clamp (by omega)]
      exact i3 _ (by omega) hlt
    have hge := hok.2.2
    refine ⟨⟨fun _ _ => vp_nI (n := 25) (by omega) (by decide), fun _ _ => vp_nI (n := 100) hix (by decide), fun _ _ => vp_nI (n := 100) hix (by decide)⟩, ?_⟩
    rw [if_neg (fun z => e (eq.mp z)), e43, e44, pk_sub hcR, show (100 : Int32) = nI 100 from rfl, show (64 : Int32) = nI 64 from rfl, show (1 : Int32) = nI 1 from rfl, pk_mul, pk_mul]
    have hs2 : s = 0 ∨ s = 1 := by omega
    rcases hs2 with rfl | rfl
    · have etf : gTf E (l + c) (1 - 0) 0 = E (l + c) := if_pos ⟨by omega, Or.inr rfl⟩
      rw [etf] at hge ⊢
      rw [if_pos (show nI 0 = 0 from rfl), nI_add, pk_mul, nI_add, nI_add]
      congr 1
      unfold gW gSp
      rw [if_neg (by omega), Nat.mul_assoc 100]
      omega
    · have etf : gTf E (l + c) (1 - 1) 0 = 0 := if_neg (fun z => by omega)
      rw [etf]
      rw [if_neg (show ¬ nI 1 = 0 by decide), show (0 : Int32) = nI 0 from rfl, nI_add, pk_mul, nI_add, nI_add]
      congr 1
      unfold gW gSp
      rw [if_neg (by omega), Nat.mul_assoc 100]
      omega
theorem mm_withBlank (hn : n ≤ 24) (hs : s < 2) (hl : l < n) (hi : pgI t E R n) (h : gDk E R n T D) (hm : pgM t E n T D) (hB : D l (1 - s) 1) : d_withBlank (nI l) (nI s) ∧ v_withBlank (nI l) (nI s) t = nI (gBl T.1 l s - 64 * gTf E l s 0) := by
  obtain ⟨i1, i2, i3⟩ := hi
  have e0 : nI l ≤ 0 ↔ l = 0 := ⟨fun z => Classical.byContradiction fun z2 => nI_nle (n := l) (by omega) (by omega) z, fun z => by rw [z]; decide⟩
  have es : nI s = 0 ↔ s = 0 := nI_eq (b := 0) (by omega) (by decide)
  have e1s : 1 - nI s = nI (1 - s) := pk_sub (a := 1) (b := s) (by omega)
  have eix : (4 * nI l + 2 * nI (1 - s)) + 1 = nI (gIx l (1 - s) 1) := by
    rw [show (4 : Int32) = nI 4 from rfl, show (2 : Int32) = nI 2 from rfl, pk_mul, pk_mul, nI_add, show (1 : Int32) = nI 1 from rfl, nI_add]
    rfl
  have hix : gIx l (1 - s) 1 < 100 := by unfold gIx; omega
  have hok := (h.1 l (1 - s) 1 hl (by omega) (by decide) hB).1
  have hge := hok.2.2
  have e43 : mgA t 43 (nI (gIx l (1 - s) 1)) = nI (T.1 (gIx l (1 - s) 1) - 64 * gTf E l (1 - s) 1) := by
    show t.2 43 (nI _).toNatClampNeg = _
    rw [nI_clamp (by omega)]
    exact hm _ _ _ hl (by omega) (by decide) hB
  unfold d_withBlank v_withBlank d_bestOf v_bestOf
  rw [e1s, eix, e43]
  refine ⟨⟨fun _ => vp_nI (n := 100) hix (by decide), fun _ _ => vp_nI (n := 25) (by omega) (by decide), fun _ _ => vp_nI (n := 100) hix (by decide), fun _ _ => vp_nI (n := 100) hix (by decide)⟩, ?_⟩
  by_cases c : l = 0 ∨ ¬ s = 0
  · rw [if_pos (c.elim (fun z => Or.inl (e0.mpr z)) (fun z => Or.inr (fun z2 => z (es.mp z2)))), show ((64 : Int32) * (3000 + 0)) + 1 = nI 192001 by decide, nI_add]
    congr 1
    unfold gBl
    by_cases c2 : l = 0
    · have t1 : gTf E l (1 - s) 1 = 0 := if_neg (fun z => by omega)
      have t2 : gTf E l s 0 = 0 := if_neg (fun z => by omega)
      rw [t1, t2]
      omega
    · have t1 : gTf E l (1 - s) 1 = E l := if_pos ⟨by omega, Or.inl rfl⟩
      have t2 : gTf E l s 0 = E l := if_pos ⟨by omega, Or.inr (by omega)⟩
      rw [t1] at hge
      rw [t1, t2]
      omega
  · have hl0 : ¬ l = 0 := fun z => c (Or.inl z)
    have hs0 : s = 0 := Classical.byContradiction fun z => c (Or.inr z)
    have e44 : mgA t 44 (nI l) = nI (E l) := by
      show t.2 44 (nI _).toNatClampNeg = _
      rw [nI_clamp (by omega)]
      exact i3 _ (by omega) hl
    have t1 : gTf E l (1 - s) 1 = E l := if_pos ⟨by omega, Or.inl rfl⟩
    have t2 : gTf E l s 0 = 0 := if_neg (fun z => by omega)
    rw [t1] at hge
    rw [if_neg (fun z => z.elim (fun z => hl0 (e0.mp z)) (fun z => z (es.mpr hs0))), e44, show (3000 : Int32) = nI 3000 from rfl, show (64 : Int32) = nI 64 from rfl, show (1 : Int32) = nI 1 from rfl, nI_add, pk_mul, nI_add, t1, nI_add, t2]
    congr 1
    unfold gBl
    omega
end PM
