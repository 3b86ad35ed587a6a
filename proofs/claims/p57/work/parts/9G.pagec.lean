/-! THE CLASS WEIGHS PAGES -/
def cL (t : Nat) : Int64 := Int64.ofNat (100 * (t / 64) + t % 64)
/-- the tables of pages alone were changed -/
def Fp (x : Nat) (S S' : CS) : Prop := (kdC S' = kdC S ∧ fI S' = fI S ∧ fR S' = fR S ∧ fQ S' = fQ S ∧ fL S' = fL S ∧ fC S' = fC S ∧ szC S' = szC S ∧ (nsC S' = nsC S ∧ ∀ o, o ≠ x → fJ S' o = fJ S o ∧ fA S' 106 o = fA S 106 o)) ∧ ∀ f, f ≠ 106 → fA S' f = fA S f
section PGC
variable {E : Nat → Nat} {R n : Nat} {T : Nat → Nat} {l s b pg : Nat} {S S' : CS}
theorem Fp_rfl : Fp pg S S := ⟨⟨rfl, rfl, rfl, rfl, rfl, rfl, rfl, rfl, fun _ _ => ⟨rfl, rfl⟩⟩, fun _ _ => rfl⟩
theorem Fp_trans {S'' : CS} (h : Fp pg S S') (g : Fp pg S' S'') : Fp pg S S'' := by
  obtain ⟨⟨a1, a2, a3, a4, a5, a6, a7, a8, a9⟩, a10⟩ := h
  obtain ⟨⟨b1, b2, b3, b4, b5, b6, b7, b8, b9⟩, b10⟩ := g
  exact ⟨⟨b1.trans a1, b2.trans a2, b3.trans a3, b4.trans a4, b5.trans a5, b6.trans a6, b7.trans a7, b8.trans a8, fun o ho => ⟨(b9 o ho).1.trans (a9 o ho).1, (b9 o ho).2.trans (a9 o ho).2⟩⟩, fun f hf => (b10 f hf).trans (a10 f hf)⟩
theorem Fp_usJ {i : Int32} {v : Int64} (h : Fp pg S S') : Fp pg S (usJ S' pg i v) := by
  obtain ⟨⟨a1, a2, a3, a4, a5, a6, a7, a8, a9⟩, a10⟩ := h
  exact ⟨⟨a1, a2, a3, a4, a5, a6, a7, a8, fun o ho => ⟨(va_up_ne (fJ S') _ ho).trans (a9 o ho).1, (a9 o ho).2⟩⟩, a10⟩
theorem Fp_usA {i v : Int32} (h : Fp pg S S') : Fp pg S (usA S' 106 pg i v) := by
  obtain ⟨⟨a1, a2, a3, a4, a5, a6, a7, a8, a9⟩, a10⟩ := h
  exact ⟨⟨a1, a2, a3, a4, a5, a6, a7, a8, fun o ho => ⟨(a9 o ho).1, (up2_no (fun z => ho z.2)).trans (a9 o ho).2⟩⟩, fun f hf => (fA_ne hf).trans (a10 f hf)⟩
theorem fJ_at {o k : Nat} {v : Int64} (hk : k < 2147483648) : fJ (usJ S o (nI k) v) o = va_up (fJ S o) k v := by
  show va_up (fJ S) o (va_up (fJ S o) (nI k).toNatClampNeg v) o = _
  rw [va_up_at, if_pos rfl, nI_clamp (by omega)]
theorem fA_up {o k f : Nat} {v : Int32} (hk : k < 2147483648) : fA (usA S f o (nI k) v) f o = va_up (fA S f o) k v := by
  funext p
  rw [fA_at hk, va_up_at]
theorem cL_lt {x y : Nat} (hx : x < 2147483648) (hy : y < 2147483648) : cL x < cL y ↔ x < y := by
  unfold cL
  rw [Int64.lt_iff_toInt_lt, Int64.toInt_ofNat_of_lt (by omega), Int64.toInt_ofNat_of_lt (by omega)]
  omega
theorem cL_max {x : Nat} (hx : x < 2147483648) : cL x < 1152921504606846976 := by
  unfold cL
  rw [Int64.lt_iff_toInt_lt, Int64.toInt_ofNat_of_lt (by omega), show (1152921504606846976 : Int64).toInt = 1152921504606846976 from rfl]
  omega
theorem nI_64 {x : Nat} (hx : x < 2147483648) : (nI x).toInt64 = Int64.ofNat x := Int32.toInt64_ofNat' (by show (x : Int) ≤ 2147483647; omega)
theorem cL_step {x t : Nat} (hx : x < 20000000) (ht : t % 64 < 63) : (100 * (nI x).toInt64 + 1) + cL t = cL (64 * x + 1 + t) := by
  unfold cL
  rw [nI_64 (by omega), show (100 : Int64) = Int64.ofNat 100 from rfl, show (1 : Int64) = Int64.ofNat 1 from rfl, ← Int64.ofNat_mul, ← Int64.ofNat_add, ← Int64.ofNat_add]
  congr 1
  omega
theorem cL_blank {t : Nat} (ht : t % 64 < 63) : 300001 + cL t = cL (192001 + t) := by
  unfold cL
  rw [show (300001 : Int64) = Int64.ofNat 300001 from rfl, ← Int64.ofNat_add]
  congr 1
  omega
theorem st_is (hb : b < 2) : v_X3_state (nI l) (nI s) (nI b) = nI (gIx l s b) := by
  unfold v_X3_state gIx
  rw [show (4 : Int32) = nI 4 from rfl, show (2 : Int32) = nI 2 from rfl, pk_mul, pk_mul, nI_add]
  have hb2 : b = 0 ∨ b = 1 := by omega
  rcases hb2 with rfl | rfl
  · rw [if_pos (show nI 0 = 0 from rfl), show (0 : Int32) = nI 0 from rfl, nI_add]
  · rw [if_neg (show ¬ nI 1 = 0 by decide), show (1 : Int32) = nI 1 from rfl, nI_add]
theorem turn_is (hl : l < 1000) (hs : s < 2) (hb : b < 2) : v_X3_hasTurn (nI l) (nI s) (nI b) = 0 ↔ ¬ (0 < l ∧ (b = 1 ∨ s = 1)) := by
  unfold v_X3_hasTurn
  have e0 : nI l ≤ 0 ↔ l = 0 := ⟨fun z => Classical.byContradiction fun z2 => nI_nle (n := l) (by omega) (by omega) z, fun z => by rw [z]; decide⟩
  have e1 : nI b = 0 ↔ b = 0 := nI_eq (b := 0) (by omega) (by decide)
  have e2 : nI s = 1 ↔ s = 1 := nI_eq (b := 1) (by omega) (by decide)
  by_cases c : 0 < l ∧ (b = 1 ∨ s = 1)
  · rw [if_pos ⟨fun z => by have := e0.mp z; omega, c.2.elim (fun z => Or.inl (fun z2 => by have := e1.mp z2; omega)) (fun z => Or.inr (e2.mpr z))⟩]
    exact ⟨fun z => absurd z one_ne, fun z => absurd c z⟩
  · rw [if_neg]
    · exact ⟨fun _ => c, fun _ => rfl⟩
    · rintro ⟨y1, y2⟩
      refine c ⟨Nat.pos_of_ne_zero (fun z => y1 (e0.mpr z)), y2.elim (fun z => Or.inl ?_) (fun z => Or.inr (e2.mp z))⟩
      have : ¬ b = 0 := fun z2 => z (e1.mpr z2)
      omega
theorem cc_weighPages (hE : ∀ k, E k ≤ 520000) (hR : R ≤ 6) (hR1 : 1 ≤ R) (hn : n ≤ 24) (hl : l < n) (hs : s < 2) (hb : b < 2) (hk : kdC S pg = 6) (h104 : 1 ≤ l → fA S 104 pg l = nI (E l)) (hT : gRd E n T l) (hB : b = 0 → gOk E n l (1 - s) 1 (T (gIx l (1 - s) 1))) (hJ : ∀ c, 1 ≤ c → l + c ≤ n → fJ S pg (gIx (l + c) (1 - s) 0) = cL (T (gIx (l + c) (1 - s) 0))) (hJb : b = 0 → fJ S pg (gIx l (1 - s) 1) = cL (T (gIx l (1 - s) 1))) {B : Nat × Nat} {Q : CS → Prop} {X : String → CS → Prop} (hQ : ∀ S', Fp pg S S' → fJ S' pg = va_up (fJ S pg) (gIx l s b) (cL (gAll E R n T l s b).1) → fA S' 106 pg = va_up (fA S 106 pg) (gIx l s b) (nI (gAll E R n T l s b).2) → Q S') : w_X3_weighPagesFrom B pg (nI l) (nI s) (nI b) (nI n) (nI R) S Q X := by
  have hix : gIx l s b < 100 := by unfold gIx; omega
  have vpx : ∀ m, m = 100 → vp_in (nI (gIx l s b)) m := fun m hm => by rw [hm]; exact vp_nI (n := 100) hix (by decide)
  have ecx : (nI (gIx l s b)).toNatClampNeg = gIx l s b := nI_clamp (by omega)
  have htf := gTf_le (l := l) (s := s) (b := b) hE
  obtain ⟨c1, c2, c3⟩ := gC_ok hl hR1
  have hturn := turn_is (l := l) (s := s) (b := b) (by omega) hs hb
  have e1s : 1 - nI s = nI (1 - s) := pk_sub (a := 1) (b := s) (by omega)
  intro x1 hx1
  rw [st_is hb] at hx1
  subst hx1
  refine ⟨fun _ => hk, fun _ => vp_nI (n := 24) (by omega) (by decide), fun x2 hx2 => ⟨hk, vpx _ (by decide), fun t7 h7 x8 hx8 => ?_⟩⟩
  have f2 : x2 = nI (gTf E l s b) := by
    rw [hx2, nI_clamp (by omega)]
    unfold gTf
    by_cases c : 0 < l ∧ (b = 1 ∨ s = 1)
    · rw [if_neg (fun z => hturn.mp z c), if_pos c]
      exact h104 c.1
    · rw [if_pos (hturn.mpr c), if_neg c]
      rfl
  have f8 : x8 = nI (gC R n l) := by
    rw [hx8, pk_sub (by omega)]
    unfold mMin gC
    by_cases c : n - l < R
    · rw [if_pos (nI_lt c (by omega)), if_pos c]
    · rw [if_neg (fun z => c ((nI_ltI (by omega) (by omega)).mp z)), if_neg c]
  subst f2
  subst f8
  have hWb : ∀ c, 1 ≤ c → c ≤ gC R n l → gW E R n T l s b c < 2147483648 ∧ gW E R n T l s b c % 64 < 63 := fun c y1 y2 => by
    obtain ⟨⟨q1, q2, q3⟩, q4⟩ := gW_ok (E := E) (T := T) (s := s) hE hR hn hb y1 (show l + c ≤ n by omega) (fun z => hT.1 _ _ (by omega) z (by omega)) (fun z => by rw [z]; exact hT.2 _ (by omega))
    omega
  refine lp_for (fun j z => z.1 = nI (gC R n l - j) ∧ Fp pg S z.2 ∧ ∃ y, fJ z.2 pg = va_up (fJ S pg) (gIx l s b) y ∧ (j = 0 → y = 1152921504606846976 ∧ fA z.2 106 pg = fA S 106 pg) ∧ (0 < j → y = cL (gTk E R n T l s b j).1 ∧ fA z.2 106 pg = va_up (fA S 106 pg) (gIx l s b) (nI (gTk E R n T l s b j).2))) (gC R n l) ?_ ?_ 0 (Nat.zero_le _) (nI (gC R n l), t7) ⟨rfl, ?_, _, ?_, fun _ => ⟨rfl, ?_⟩, fun z => absurd z (Nat.lt_irrefl _)⟩
  · intro j hj K z hz hK
    obtain ⟨z1, u⟩ := z
    obtain ⟨hz1, F, y, y1, y2, y3⟩ := hz
    dsimp only at hz1 F y1 y2 y3
    subst hz1
    obtain ⟨c, hc⟩ : ∃ c, c = gC R n l - j := ⟨_, rfl⟩
    have hcp : 1 ≤ c := by omega
    have hWc := hWb c hcp (by omega)
    have eix : gIx (l + c) (1 - s) 0 < 100 := by unfold gIx; omega
    have hTb : T (gIx (l + c) (1 - s) 0) % 64 < 63 := by
      by_cases e : l + c = n
      · rw [e, hT.2 _ (by omega)]
        decide
      · have := (hT.1 (l + c) (1 - s) (by omega) (by omega) (by omega)).2.1
        omega
    have hsp := gSp_le (R := R) (n := n) (l := l) hR hcp
    have eJ : fJ u pg (gIx (l + c) (1 - s) 0) = cL (T (gIx (l + c) (1 - s) 0)) := by
      rw [y1, va_up_at, if_neg (fun z => by
        have := (gIx_inj (by omega) (by decide) hs hb).mp z
        omega)]
      exact hJ c hcp (by omega)
    unfold w_X3_weighPagesFrom_L50
    dsimp only
    rw [← hc, nI_add, e1s, show (0 : Int32) = nI 0 from rfl, st_is (l := l + c) (s := 1 - s) (b := 0) (by decide), nI_clamp (show gIx (l + c) (1 - s) 0 < 2147483648 by omega), eJ, ecx]
    refine ⟨fun h9 => absurd h9 (nI_ge (a := 0) (b := c) (by omega) (by omega)), fun _ x17 hx17 => ⟨vp_nI (n := 100) eix (by decide), fun x19 hx19 => ?_⟩⟩
    have f17 : x17 = nI (gSp R n l c) := by
      rw [hx17]
      unfold gSp
      by_cases e : n ≤ l + c
      · rw [if_pos (nI_le e (by omega)), if_pos e]
      · rw [if_neg (nI_ge (by omega) (by omega)), if_neg e]
        exact pk_sub (by omega)
    have f19 : x19 = cL (gW E R n T l s b c) := by
      rw [hx19, f17, show (100 : Int32) = nI 100 from rfl, pk_mul, pk_mul, nI_add, cL_step (by rw [Nat.mul_assoc]; omega) hTb, Nat.mul_assoc]
      rfl
    subst f19
    have e106 : fA u 106 pg = fA u 106 pg := rfl
    refine ⟨vpx _ (by decide), fun t21 => Fp pg S t21 ∧ fJ t21 pg = va_up (fJ S pg) (gIx l s b) (cL (gTk E R n T l s b (j + 1)).1) ∧ fA t21 106 pg = va_up (fA S 106 pg) (gIx l s b) (nI (gTk E R n T l s b (j + 1)).2), fun t21 h21 => hK _ ⟨?_, h21.1, _, h21.2.1, fun z => absurd z (Nat.succ_ne_zero _), fun _ => ⟨rfl, h21.2.2⟩⟩, ?_⟩
    · show nI c + (-1) = nI (gC R n l - (j + 1))
      rw [show c = (gC R n l - (j + 1)) + 1 by omega, pk_m1]
    · have eh : fJ u pg (gIx l s b) = y := by rw [y1, va_up_at, if_pos rfl]
      rw [eh]
      have hTk : 0 < j → (gTk E R n T l s b j).1 < 2147483648 := fun hj0 => by
        obtain ⟨g1, g2, g3, -, -⟩ := gTk_ok (E := E) (R := R) (n := n) (T := T) (l := l) (s := s) (b := b) (j := j) hj0 (by omega)
        rw [← g3]
        exact (hWb _ (by omega) g2).1
      have hcmp : cL (gW E R n T l s b c) < y ↔ (j = 0 ∨ gW E R n T l s b c < (gTk E R n T l s b j).1) := by
        by_cases e : j = 0
        · rw [(y2 e).1]
          exact ⟨fun _ => Or.inl e, fun _ => cL_max hWc.1⟩
        · rw [(y3 (by omega)).1, cL_lt hWc.1 (hTk (by omega))]
          exact ⟨Or.inr, fun z => z.elim (fun z => absurd z e) id⟩
      refine ⟨fun hlt => ⟨vpx _ (by decide), fun t23 h23 => ⟨vpx _ (by decide), fun t25 h25 => ?_⟩⟩, fun hlt => ?_⟩
      · have e : gTk E R n T l s b (j + 1) = (gW E R n T l s b (gC R n l - j), gC R n l - j) := if_pos (by rw [← hc]; exact hcmp.mp hlt)
        rw [e, ← hc]
        refine ⟨by rw [h25, h23]; exact Fp_usA (Fp_usJ F), ?_, ?_⟩
        · rw [h25]
          show fJ t23 pg = _
          rw [h23, fJ_at (by omega), y1, va_2]
        · rw [h25, fA_up (by omega)]
          have e23 : fA t23 106 pg = fA u 106 pg := by rw [h23]; rfl
          rw [e23]
          by_cases e : j = 0
          · rw [(y2 e).2]
          · rw [(y3 (by omega)).2, va_2]
      · have hnc : ¬ (j = 0 ∨ gW E R n T l s b (gC R n l - j) < (gTk E R n T l s b j).1) := fun z => hlt (hcmp.mpr (by rw [hc]; exact z))
        have e : gTk E R n T l s b (j + 1) = gTk E R n T l s b j := if_neg hnc
        have hj0 : 0 < j := Nat.pos_of_ne_zero (fun z => hnc (Or.inl z))
        rw [e]
        exact ⟨F, by rw [y1, (y3 hj0).1], (y3 hj0).2⟩
  · intro K z hz
    obtain ⟨z1, u⟩ := z
    obtain ⟨hz1, F, y, y1, y2, y3⟩ := hz
    dsimp only at hz1 F y1 y2 y3
    rw [Nat.sub_self] at hz1
    subst hz1
    obtain ⟨y4, y5⟩ := y3 c1
    subst y4
    have eh : fJ u pg (gIx l s b) = cL (gTk E R n T l s b (gC R n l)).1 := by rw [y1, va_up_at, if_pos rfl]
    obtain ⟨g1, g2, g3, -, -⟩ := gTk_ok (E := E) (R := R) (n := n) (T := T) (l := l) (s := s) (b := b) (j := gC R n l) c1 (Nat.le_refl _)
    have hTk : (gTk E R n T l s b (gC R n l)).1 < 2147483648 := by
      rw [← g3]
      exact (hWb _ (by omega) g2).1
    unfold w_X3_weighPagesFrom_L50
    dsimp only
    refine ⟨fun _ => ⟨Q, fun _ h => h, fun hb0 => ?_, fun hb1 => ?_⟩, fun h9 => absurd (show nI 0 ≤ 0 by decide) h9⟩
    · have hb0' : b = 0 := (nI_eq (b := 0) (by omega) (by decide)).mp hb0
      have hBo := hB hb0'
      have eix : gIx l (1 - s) 1 < 100 := by unfold gIx; omega
      have eJ : fJ u pg (gIx l (1 - s) 1) = cL (T (gIx l (1 - s) 1)) := by
        rw [y1, va_up_at, if_neg (fun z => by
          have := (gIx_inj (by omega) (by decide) hs hb).mp z
          omega)]
        exact hJb hb0'
      have hBl : gBl T l s < 2147483648 := by
        have := gBl_ok (E := E) (T := T) hs hn hl hBo
        obtain ⟨q1, q2, -⟩ := this
        omega
      rw [e1s, show (1 : Int32) = nI 1 from rfl, st_is (l := l) (s := 1 - s) (b := 1) (by decide), nI_clamp (show gIx l (1 - s) 1 < 2147483648 by omega), eJ, ecx, eh]
      refine ⟨vp_nI (n := 100) eix (by decide), fun x11 hx11 => ?_⟩
      rw [cL_blank (by have := hBo.2.1; omega)] at hx11
      have f11 : x11 = cL (gBl T l s) := hx11
      subst f11
      have hcmp := cL_lt hBl hTk
      refine ⟨vpx _ (by decide), fun hlt => ⟨vpx _ (by decide), fun t14 h14 => ⟨vpx _ (by decide), fun t16 h16 => ?_⟩⟩, fun hlt => ?_⟩
      · have e : gAll E R n T l s b = (gBl T l s, 0) := if_pos ⟨hb0', hcmp.mp hlt⟩
        refine hQ t16 (by rw [h16, h14]; exact Fp_usA (Fp_usJ F)) ?_ ?_
        · rw [h16, e]
          show fJ t14 pg = _
          rw [h14, fJ_at (by omega), y1, va_2]
        · rw [h16, fA_up (by omega), e]
          have e14 : fA t14 106 pg = fA u 106 pg := by rw [h14]; rfl
          rw [e14, y5, va_2]
          rfl
      · have e : gAll E R n T l s b = gTk E R n T l s b (gC R n l) := if_neg (fun z => hlt (hcmp.mpr z.2))
        exact hQ u F (by rw [e]; exact y1) (by rw [e]; exact y5)
    · have hb1' : ¬ b = 0 := fun z => hb1 (by rw [z]; rfl)
      have e : gAll E R n T l s b = gTk E R n T l s b (gC R n l) := if_neg (fun z => hb1' z.1)
      exact hQ u F (by rw [e]; exact y1) (by rw [e]; exact y5)
  · dsimp only
    rw [h7]
    exact Fp_usJ Fp_rfl
  · dsimp only
    rw [h7, fJ_at (by omega)]
  · dsimp only
    rw [h7]
    rfl
end PGC
