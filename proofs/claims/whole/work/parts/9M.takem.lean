/-! THE MODEL TAKES PAGES -/
def F42 (t t' : MS) : Prop := (∀ k, k ≠ 41 → t'.1 k = t.1 k) ∧ ∀ f, f ≠ 42 → f ≠ 43 → t'.2 f = t.2 f
def pM (t : MS) (X : Nat → Nat) (n : Nat) : Prop := t.1 41 = nI (gNp X n (2 * n)) ∧ ∀ p, p < gNp X n (2 * n) → t.2 42 p = nI (gCh X n p)
section TM
variable {E : Nat → Nat} {R n : Nat} {t : MS}
theorem mm_breaksPages (hE : ∀ k, E k ≤ 520000) (hR : R ≤ 6) (hR1 : 1 ≤ R) (hn : n ≤ 24) (hi : pgI t E R n) {Q : MS → Prop} (hQ : ∀ t', F42 t t' → pM t' (gT E R n n).2 n → Q t') : w_breaksPages t Q := by
  refine mm_weighs hE hR hR1 hn hi (fun t1 F1 m1 => ?_)
  have hX := gXo_T (E := E) (R := R) hE hR hR1 hn
  obtain ⟨n1, n2, n3⟩ := gNp_ok hX
  have hG := gT_ok (E := E) (R := R) hE hR hR1 hn n (Nat.le_refl _)
  have hall : ∀ l s b, gDt n n l s b := fun l s b => by show n - n ≤ l; omega
  intro t2 h2
  have F2 : F42 t t2 := by
    rw [h2]
    refine ⟨fun k hk => (mI_ne hk).trans (congrFun F1.1 k), fun f h1 h2 => F1.2 f h2⟩
  have m43 : t2.2 43 = t1.2 43 := by rw [h2]; rfl
  refine lp_for (fun p z => z.1 = nI (gS (gT E R n n).2 n p).1 ∧ z.2.1 = nI (gS (gT E R n n).2 n p).2 ∧ F42 t z.2.2 ∧ z.2.2.2 43 = t1.2 43 ∧ z.2.2.1 41 = nI p ∧ ∀ j, j < p → z.2.2.2 42 j = nI (gCh (gT E R n n).2 n j)) (gNp (gT E R n n).2 n (2 * n)) ?_ ?_ 0 (Nat.zero_le _) (0, 0, t2) ⟨rfl, rfl, F2, m43, by rw [h2, mI_at]; rfl, fun j hj => absurd hj (Nat.not_lt_zero _)⟩
  · intro p hp K z hz hK
    obtain ⟨z1, z2, u⟩ := z
    obtain ⟨hz1, hz2, F, a43, a41, a42⟩ := hz
    dsimp only at hz1 hz2 F a43 a41 a42
    subst hz1
    subst hz2
    have hlt := n1 p hp
    obtain ⟨g1, g2, g3⟩ := gS_ok hX p
    obtain ⟨l, hl⟩ : ∃ l, l = (gS (gT E R n n).2 n p).1 := ⟨_, rfl⟩
    obtain ⟨b, hb⟩ : ∃ b, b = (gS (gT E R n n).2 n p).2 := ⟨_, rfl⟩
    have hch : gCh (gT E R n n).2 n p = (gT E R n n).2 (gIx l (p % 2) b) := by rw [hl, hb]; rfl
    obtain ⟨c, hc⟩ : ∃ c, c = gCh (gT E R n n).2 n p := ⟨_, rfl⟩
    rw [← hl] at hlt
    rw [← hl, ← hb]
    rw [← hb] at g2
    have hs : p % 2 < 2 := by omega
    obtain ⟨k0, k1, k2, k3, k4⟩ := hG.1 l (p % 2) b hlt hs g2 (hall _ _ _)
    rw [← hch, ← hc] at k1 k2 k3 k4
    obtain ⟨q1, q2, q3⟩ := gC_ok (R := R) hlt hR1
    have hrem : mRem (nI p) 2 = nI (p % 2) := pk_rem (a := p) (d := 2) (by omega) (by decide) (by decide)
    have hiu : pgI u E R n := by
      unfold pgI at hi ⊢
      rw [F.1 38 (by decide), F.1 22 (by decide), F.2 44 (by decide) (by decide)]
      exact hi
    have hmu : pgM u E n (gT E R n n) (gDt n n) := fun l s b y1 y2 y3 y4 => by rw [a43]; exact m1 l s b y1 y2 y3 y4
    have e38 : mgI u 38 = nI n := hiu.1
    have e22 : mgI u 22 = nI R := hiu.2.1
    have e41 : mgI u 41 = nI p := a41
    have hix : gIx l (p % 2) b < 100 := by unfold gIx; omega
    have ebest : v_bestOf (nI l) (nI (p % 2)) (nI b) u = nI ((gT E R n n).1 (gIx l (p % 2) b) - 64 * gTf E l (p % 2) b) ∧ d_bestOf (nI l) (nI (p % 2)) (nI b) := by
      unfold v_bestOf d_bestOf
      rw [ix_is]
      refine ⟨?_, vp_nI (n := 100) hix (by decide)⟩
      show u.2 43 (nI _).toNatClampNeg = _
      rw [nI_clamp (by omega)]
      exact hmu l (p % 2) b hlt hs g2 (hall _ _ _)
    have hTb : (gT E R n n).1 (gIx l (p % 2) b) < 2147483648 ∧ 64 * gTf E l (p % 2) b ≤ (gT E R n n).1 (gIx l (p % 2) b) := by
      obtain ⟨y1, y2, y3⟩ := k0
      omega
    unfold w_breaksPages_L13
    dsimp only
    rw [e38, e22, e41, hrem]
    refine ⟨fun h9 => absurd h9 (nI_ge hlt (by omega)), fun _ x3 hx3 x4 hx4 => ?_⟩
    subst hx3
    have f4 : x4 = nI (gC R n l) := by
      rw [hx4, pk_sub (by omega)]
      unfold gC
      by_cases q : n - l < R
      · rw [if_pos q, if_pos (nI_le (by omega) (by omega))]
      · rw [if_neg q]
        by_cases q2 : n - l = R
        · rw [q2, if_pos (nI_le (Nat.le_refl _) (by omega))]
        · rw [if_neg (nI_ge (by omega) (by omega))]
    subst f4
    have hend : ∀ y : Int32, y = nI c → (vp_in (nI p) (m_len 42)) ∧ ∀ t8 : MS, t8 = msA u 42 (nI p) y → ∀ t9 : MS, t9 = msI t8 41 ((mgI t8 41) + 1) → ∀ x10 : Int32, x10 = (nI l + y) → ∀ x11 : Int32, x11 = (if y = 0 then 1 else 0) → K (x10, x11, t9) := by
      intro y hy
      subst hy
      refine ⟨vp_nI (n := 60) (by omega) (by decide), fun t8 h8 t9 h9 x10 hx10 x11 hx11 => hK _ ⟨?_, ?_, ?_, ?_, ?_, fun j hj => ?_⟩⟩
      · show x10 = nI (gS (gT E R n n).2 n (p + 1)).1
        rw [gS_s (by rw [← hl]; exact hlt), hx10, nI_add, hc, hl]
      · show x11 = nI (gS (gT E R n n).2 n (p + 1)).2
        rw [gS_s (by rw [← hl]; exact hlt), hx11, ← hc]
        have e0 : nI c = 0 ↔ c = 0 := nI_eq (b := 0) (by omega) (by decide)
        dsimp only
        by_cases q : c = 0
        · rw [if_pos (e0.mpr q), if_pos q]
          rfl
        · rw [if_neg (fun z => q (e0.mp z)), if_neg q]
          rfl
      · dsimp only
        rw [h9, h8]
        exact ⟨fun k hk => (mI_ne hk).trans (F.1 k hk), fun f y1 y2 => (mA_ne y1).trans (F.2 f y1 y2)⟩
      · dsimp only
        rw [h9]
        show t8.2 43 = _
        rw [h8, mA_ne (by decide)]
        exact a43
      · dsimp only
        have e8 : mgI t8 41 = nI p := by rw [h8]; exact a41
        rw [h9, mI_at, e8, nI_1]
      · dsimp only
        rw [h9]
        show t8.2 42 j = _
        rw [h8, mA_at (by omega)]
        by_cases q : j = p
        · rw [if_pos q, q, hc]
        · rw [if_neg q]
          exact a42 j (by omega)
    refine lp_for (fun x z => z = nI (gC R n l - x)) (gC R n l - c) ?_ ?_ 0 (Nat.zero_le _) (nI (gC R n l)) rfl
    · intro x hx K2 z hz hK2
      subst hz
      obtain ⟨y, hy⟩ : ∃ y, y = gC R n l - x := ⟨_, rfl⟩
      have hy1 : 1 ≤ y := by omega
      obtain ⟨w1, w2⟩ := mm_withLines (b := b) hE hR hn hs hiu hG hmu (fun l2 s2 _ _ _ => hall _ _ _) (l := l) (c := y) hy1 (by omega) (by omega)
      have hgt := k4 y (by omega) (by omega)
      have hwb := (gW_ok (E := E) (R := R) (n := n) (T := (gT E R n n).1) (l := l) (s := p % 2) (b := b) hE hR hn g2 hy1 (by omega) (fun z => (hG.1 _ _ _ z (by omega) (by decide) (hall _ _ _)).1) (fun z => by rw [z]; exact hG.2 _ (by omega))).2
      have hne : ¬ v_withLines (nI l) (nI (p % 2)) (nI y) u = v_bestOf (nI l) (nI (p % 2)) (nI b) u := by
        rw [w2, ebest.1]
        intro z
        have := (nI_eq (by omega) (by omega)).mp z
        omega
      have hle0 : ¬ nI y ≤ 0 := nI_nle (n := y) (by omega) (by omega)
      unfold w_breaksPages_L56
      dsimp only
      rw [← hy]
      refine ⟨fun _ => w1, fun _ => ebest.2, fun z => absurd z (fun z => z.elim hle0 hne), fun _ => hK2 _ ?_⟩
      show nI y + (-1) = nI (gC R n l - (x + 1))
      rw [show y = (gC R n l - (x + 1)) + 1 by omega, pk_m1]
    · intro K2 z hz
      rw [show gC R n l - (gC R n l - c) = c by omega] at hz
      subst hz
      unfold w_breaksPages_L56
      dsimp only
      rw [e41]
      by_cases q : c = 0
      · have hz0 : nI c ≤ 0 := by rw [q]; decide
        exact ⟨fun z => absurd hz0 z, fun z => absurd hz0 z, fun _ => hend _ rfl, fun z => absurd (Or.inl hz0) z⟩
      · obtain ⟨w1, w2⟩ := mm_withLines (b := b) hE hR hn hs hiu hG hmu (fun l2 s2 _ _ _ => hall _ _ _) (l := l) (c := c) (by omega) (by omega) (by omega)
        have heq : v_withLines (nI l) (nI (p % 2)) (nI c) u = v_bestOf (nI l) (nI (p % 2)) (nI b) u := by
          rw [w2, ebest.1, k3 (by omega)]
        exact ⟨fun _ => w1, fun _ => ebest.2, fun _ => hend _ rfl, fun z => absurd (Or.inr heq) z⟩
  · intro K z hz
    obtain ⟨z1, z2, u⟩ := z
    obtain ⟨hz1, hz2, F, a43, a41, a42⟩ := hz
    dsimp only at hz1 hz2 F a43 a41 a42
    subst hz1
    subst hz2
    have e38 : mgI u 38 = nI n := (F.1 38 (by decide)).trans hi.1
    unfold w_breaksPages_L13
    dsimp only
    rw [e38, n2]
    exact ⟨fun _ => hQ u F ⟨a41, a42⟩, fun h9 => absurd (nI_le (Nat.le_refl _) (by omega)) h9⟩
end TM
