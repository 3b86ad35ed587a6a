/-! THE CLASS LAYS PAGES -/
/-- fields of kinds alone were changed, and the row of long numbers -/
def Fj (P : Nat → Prop) (x : Nat) (S S' : CS) : Prop := (kdC S' = kdC S ∧ fR S' = fR S ∧ fQ S' = fQ S ∧ fL S' = fL S ∧ fC S' = fC S ∧ szC S' = szC S ∧ (nsC S' = nsC S ∧ ∀ o, o ≠ x → fJ S' o = fJ S o ∧ ∀ f, fI S' f o = fI S f o ∧ fA S' f o = fA S f o)) ∧ ∀ f, ¬ P f → fI S' f = fI S f ∧ fA S' f = fA S f
def yF (f : Nat) : Prop := (96 ≤ f ∧ f ≤ 100) ∨ f = 106
section LY
variable {E : Nat → Nat} {R n pg : Nat} {S S' : CS} {P P' : Nat → Prop}
theorem Fj_Fp (h : Fp pg S S') (hP : P 106) : Fj P pg S S' := by
  obtain ⟨⟨a1, a2, a3, a4, a5, a6, a7, a8, a9⟩, a10⟩ := h
  refine ⟨⟨a1, a3, a4, a5, a6, a7, a8, fun o ho => ⟨(a9 o ho).1, fun f => ⟨by rw [a2], ?_⟩⟩⟩, fun f hf => ⟨by rw [a2], a10 f (fun z => hf (by rw [z]; exact hP))⟩⟩
  by_cases e : f = 106
  · rw [e]
    exact (a9 o ho).2
  · rw [a10 f e]
theorem Fj_Fo (h : Fo P pg S S') (hP : ∀ f, P f → P' f) : Fj P' pg S S' := by
  obtain ⟨⟨a1, a2, a3, a4, a5, a6, a7, a8, a9⟩, a10⟩ := h
  exact ⟨⟨a1, a3, a4, a5, a6, a7, a8, fun o ho => ⟨by rw [a2], fun f => a9 f o ho⟩⟩, fun f hf => a10 f (fun z => hf (hP f z))⟩
theorem Fj_trans {S'' : CS} (h : Fj P pg S S') (g : Fj P pg S' S'') : Fj P pg S S'' := by
  obtain ⟨⟨a1, a2, a3, a4, a5, a6, a7, a9⟩, a8⟩ := h
  obtain ⟨⟨b1, b2, b3, b4, b5, b6, b7, b9⟩, b8⟩ := g
  exact ⟨⟨b1.trans a1, b2.trans a2, b3.trans a3, b4.trans a4, b5.trans a5, b6.trans a6, b7.trans a7, fun o ho => ⟨(b9 o ho).1.trans (a9 o ho).1, fun f => ⟨((b9 o ho).2 f).1.trans ((a9 o ho).2 f).1, ((b9 o ho).2 f).2.trans ((a9 o ho).2 f).2⟩⟩⟩, fun f hf => ⟨(b8 f hf).1.trans (a8 f hf).1, (b8 f hf).2.trans (a8 f hf).2⟩⟩
theorem Eqf_Fj (h : Fj P pg S S') (hP : ∀ f, P' f → ¬ P f) (h105 : ¬ P' 105) : Eqf P' S S' := by
  obtain ⟨⟨a1, a2, a3, a4, a5, a6, a7⟩, a8⟩ := h
  exact fun q hq => ⟨congrFun a1 q, fun z => absurd z h105, fun f hf => ⟨congrFun (a8 f (hP f hf)).1 q, congrFun (a8 f (hP f hf)).2 q, by rw [a2], by rw [a3], by rw [a4], by rw [a5]⟩⟩
theorem gXo_T (hE : ∀ k, E k ≤ 520000) (hR : R ≤ 6) (hR1 : 1 ≤ R) (hn : n ≤ 24) : gXo (gT E R n n).2 n := by
  intro l s b hl hs hb
  have h := (gT_ok (E := E) hE hR hR1 hn n (Nat.le_refl _)).1 l s b hl hs hb (by show n - n ≤ l; omega)
  obtain ⟨-, p1, p2, -, -⟩ := h
  have := (gC_ok hl hR1).2.1
  exact ⟨by omega, p2⟩
theorem cc_layPages (hE : ∀ k, E k ≤ 520000) (hR : R ≤ 6) (hR1 : 1 ≤ R) (hn : n ≤ 24) (hk : kdC S pg = 6) (h104 : ∀ l, 1 ≤ l → l < n → fA S 104 pg l = nI (E l)) {B : Nat × Nat} {Q : CS → Prop} {X : String → CS → Prop} (hQ : ∀ S', Fj yF pg S S' → pC S' pg (gT E R n n).2 n → Q S') : w_X3_layPages B pg (nI n) (nI R) S Q X := by
  intro x1 hx1
  have e1 : x1 = nI n := by
    rw [hx1]
    unfold mMin
    rw [if_neg (fun z => by
      have := (nI_ltI (a := 24) (b := n) (by decide) (by omega)).mp z
      omega)]
  subst e1
  have i0 : v_X3_state (nI n) 0 0 = nI (gIx n 0 0) := st_is (l := n) (s := 0) (b := 0) (by decide)
  have i1 : v_X3_state (nI n) 1 0 = nI (gIx n 1 0) := st_is (l := n) (s := 1) (b := 0) (by decide)
  rw [i0, i1]
  refine ⟨hk, vp_nI (n := 100) (by unfold gIx; omega) (by decide), fun t4 h4 => ⟨vp_nI (n := 100) (by unfold gIx; omega) (by decide), fun t6 h6 x7 hx7 => ?_⟩⟩
  have F6 : Fp pg S t6 := by rw [h6, h4]; exact Fp_usJ (Fp_usJ Fp_rfl)
  have c6 : pgC t6 pg n (gT E R n 0) (gDt n 0) := by
    refine ⟨fun l s b y1 y2 y3 y4 => by have : n - 0 ≤ l := y4; omega, fun s hs => ?_⟩
    have hs2 : s = 0 ∨ s = 1 := by omega
    rw [h6, fJ_at (by unfold gIx; omega), va_up_at, h4, fJ_at (by unfold gIx; omega), va_up_at]
    rcases hs2 with rfl | rfl
    · rw [if_neg (by unfold gIx; omega), if_pos rfl]
      rfl
    · rw [if_pos rfl]
      rfl
  refine lp_for (fun k z => z.1 = nI (n - k) + (-1) ∧ Fp pg S z.2 ∧ pgC z.2 pg n (gT E R n k) (gDt n k)) n ?_ ?_ 0 (Nat.zero_le _) (x7, t6) ⟨?_, F6, c6⟩
  · intro k hkn K z hz hK
    obtain ⟨z1, u⟩ := z
    obtain ⟨hz1, F, c⟩ := hz
    dsimp only at hz1 F c
    rw [show n - k = (n - 1 - k) + 1 by omega, pk_m1] at hz1
    subst hz1
    refine ⟨fun h9 => absurd h9 (nI_pos (by omega)), fun _ => ?_⟩
    refine cc_pgLine hE hR hR1 hn hkn (by rw [F.1.1]; exact hk) (fun l y1 y2 => by rw [F.2 104 (by decide)]; exact h104 l y1 y2) c (fun S' F' c' => hK _ ⟨?_, Fp_trans F F', c'⟩)
    show nI (n - 1 - k) + (-1) = nI (n - (k + 1)) + (-1)
    rw [show n - (k + 1) = n - 1 - k by omega]
  · intro K z hz
    obtain ⟨z1, u⟩ := z
    obtain ⟨hz1, F, c⟩ := hz
    dsimp only at hz1 F c
    have e1 : z1 = -1 := by rw [hz1, Nat.sub_self]; rfl
    subst e1
    refine ⟨fun _ => ?_, fun h9 => absurd (show (-1 : Int32) < 0 by decide) h9⟩
    refine cc_take (gXo_T hE hR hR1 hn) hn (by rw [F.1.1]; exact hk) (fun l s b y1 y2 y3 => (c.1 l s b y1 y2 y3 (by show n - n ≤ l; omega)).2) (fun S' F' p' => hQ S' (Fj_trans (Fj_Fp F (Or.inr rfl)) (Fj_Fo F' (fun f z => Or.inl z))) p')
  · show x7 = nI (n - 0) + (-1)
    rw [hx7, Int32.sub_eq_add_neg]
    rfl
end LY
