/-! WHAT STAYS WHEN SOMETHING IS CHANGED -/
/-- fields of a kind are the same, for all objects that there were -/
def Eqf (P : Nat → Prop) (S S' : CS) : Prop := ∀ q, kdC S q ≠ 0 → kdC S' q = kdC S q ∧ (P 105 → fJ S' q = fJ S q) ∧ ∀ f, P f → fI S' f q = fI S f q ∧ fA S' f q = fA S f q ∧ fR S' f q = fR S f q ∧ fQ S' f q = fQ S f q ∧ fL S' f q = fL S f q ∧ fC S' f q = fC S f q
/-- fields of playing and drawing; fields of what is told -/
def fKp (f : Nat) : Prop := f / 16 = 4 ∨ f / 16 = 6 ∨ f / 16 = 7 ∨ f / 16 = 9 ∨ f / 16 = 13 ∨ f / 16 = 14
def fTo (f : Nat) : Prop := ((f / 16 = 3 ∨ f / 16 = 5 ∨ f / 16 = 8 ∨ f / 16 = 10 ∨ f / 16 = 11 ∨ f / 16 = 12) ∧ f ≠ 53) ∨ f = 224 ∨ f = 225
section EF
variable {P : Nat → Prop} {S S' S'' : CS}
theorem Eqf_rfl : Eqf P S S := fun _ _ => ⟨rfl, fun _ => rfl, fun _ _ => ⟨rfl, rfl, rfl, rfl, rfl, rfl⟩⟩
theorem Eqf_trans (h : Eqf P S S') (g : Eqf P S' S'') : Eqf P S S'' := by
  intro q hq
  obtain ⟨h1, h2, h3⟩ := h q hq
  obtain ⟨g1, g2, g3⟩ := g q (by rw [h1]; exact hq)
  refine ⟨g1.trans h1, fun p => (g2 p).trans (h2 p), fun f hf => ?_⟩
  obtain ⟨a1, a2, a3, a4, a5, a6⟩ := h3 f hf
  obtain ⟨b1, b2, b3, b4, b5, b6⟩ := g3 f hf
  exact ⟨b1.trans a1, b2.trans a2, b3.trans a3, b4.trans a4, b5.trans a5, b6.trans a6⟩
theorem Eqf_sub {P' : Nat → Prop} (hP : ∀ f, P' f → P f) (h : Eqf P S S') : Eqf P' S S' := fun q hq => ⟨(h q hq).1, fun p => (h q hq).2.1 (hP _ p), fun f hf => (h q hq).2.2 f (hP f hf)⟩
theorem up2_no {α : Type} {f : Nat → Nat → α} {k o j q : Nat} {v : α} (h : ¬ (j = k ∧ q = o)) : up2 f k o v j q = f j q := if_neg h
theorem up2_is {α : Type} {f : Nat → Nat → α} {k o : Nat} {v : α} : up2 f k o v k o = v := if_pos ⟨rfl, rfl⟩
theorem Eqf_no {f0 o f q : Nat} (g : ¬ P f0 ∨ kdC S o = 0) (hq : kdC S q ≠ 0) (hf : P f) : ¬ (f = f0 ∧ q = o) := by
  rintro ⟨rfl, rfl⟩
  rcases g with g | g
  · exact g hf
  · exact hq g
theorem Eqf_usI {f0 o : Nat} {v : Int32} (h : Eqf P S S') (g : ¬ P f0 ∨ kdC S o = 0) : Eqf P S (usI S' f0 o v) := by
  intro q hq
  obtain ⟨h1, h2, h3⟩ := h q hq
  refine ⟨h1, h2, fun f hf => ?_⟩
  obtain ⟨a1, a2, a3, a4, a5, a6⟩ := h3 f hf
  exact ⟨(up2_no (Eqf_no g hq hf)).trans a1, a2, a3, a4, a5, a6⟩
theorem Eqf_usA {f0 o : Nat} {i v : Int32} (h : Eqf P S S') (g : ¬ P f0 ∨ kdC S o = 0) : Eqf P S (usA S' f0 o i v) := by
  intro q hq
  obtain ⟨h1, h2, h3⟩ := h q hq
  refine ⟨h1, h2, fun f hf => ?_⟩
  obtain ⟨a1, a2, a3, a4, a5, a6⟩ := h3 f hf
  exact ⟨a1, (up2_no (Eqf_no g hq hf)).trans a2, a3, a4, a5, a6⟩
theorem Eqf_usR {f0 o : Nat} {v : Option Nat} (h : Eqf P S S') (g : ¬ P f0 ∨ kdC S o = 0) : Eqf P S (usR S' f0 o v) := by
  intro q hq
  obtain ⟨h1, h2, h3⟩ := h q hq
  refine ⟨h1, h2, fun f hf => ?_⟩
  obtain ⟨a1, a2, a3, a4, a5, a6⟩ := h3 f hf
  exact ⟨a1, a2, (up2_no (Eqf_no g hq hf)).trans a3, a4, a5, a6⟩
theorem Eqf_usQ {f0 o : Nat} {i : Int32} {v : Option Nat} (h : Eqf P S S') (g : ¬ P f0 ∨ kdC S o = 0) : Eqf P S (usQ S' f0 o i v) := by
  intro q hq
  obtain ⟨h1, h2, h3⟩ := h q hq
  refine ⟨h1, h2, fun f hf => ?_⟩
  obtain ⟨a1, a2, a3, a4, a5, a6⟩ := h3 f hf
  exact ⟨a1, a2, a3, (up2_no (Eqf_no g hq hf)).trans a4, a5, a6⟩
theorem Eqf_usL {f0 o : Nat} {l : List Nat} {c sz ns : Nat} (h : Eqf P S S') (g : ¬ P f0 ∨ kdC S o = 0) : Eqf P S (usL S' f0 o l c sz ns) := by
  intro q hq
  obtain ⟨h1, h2, h3⟩ := h q hq
  refine ⟨h1, h2, fun f hf => ?_⟩
  obtain ⟨a1, a2, a3, a4, a5, a6⟩ := h3 f hf
  exact ⟨a1, a2, a3, a4, (up2_no (Eqf_no g hq hf)).trans a5, (up2_no (Eqf_no g hq hf)).trans a6⟩
theorem Eqf_usJ {o : Nat} {i : Int32} {v : Int64} (h : Eqf P S S') (g : ¬ P 105 ∨ kdC S o = 0) : Eqf P S (usJ S' o i v) := by
  intro q hq
  obtain ⟨h1, h2, h3⟩ := h q hq
  refine ⟨h1, fun p => ?_, h3⟩
  have hne : q ≠ o := by
    rintro rfl
    rcases g with g | g
    · exact g p
    · exact hq g
  exact (va_up_ne (fJ S') _ hne).trans (h2 p)
theorem Eqf_rsz {sz ns : Nat} (h : Eqf P S S') : Eqf P S (rsz S' sz ns) := h
theorem Eqf_newO {ci : Nat} (h : Eqf P S S') (g : kdC S' (szC S') = 0) : Eqf P S (newO S' ci) := by
  intro q hq
  obtain ⟨h1, h2, h3⟩ := h q hq
  have hne : q ≠ szC S' := by
    rintro rfl
    exact hq (h1.symm.trans g)
  refine ⟨(va_up_ne (kdC S') _ hne).trans h1, h2, fun f hf => ?_⟩
  obtain ⟨a1, a2, a3, a4, a5, a6⟩ := h3 f hf
  exact ⟨(if_neg hne).trans a1, a2, (if_neg hne).trans a3, a4, a5, a6⟩
theorem Eqf_uat {f0 o ci sl : Nat} (h : Eqf P S S') (g : kdC S o = 0) : Eqf P S (uat S' f0 o ci sl) := by
  intro q hq
  obtain ⟨h1, h2, h3⟩ := h q hq
  have hne : q ≠ o := by
    rintro rfl
    exact hq g
  have hn : ∀ f : Nat, ¬ (f = f0 ∧ q = o) := fun f z => hne z.2
  refine ⟨(va_up_ne (kdC S') _ hne).trans h1, fun p => ?_, fun f hf => ?_⟩
  · rw [s_uat_fJ]
    by_cases e : cFT f0 = 2
    · rw [if_pos e]
      exact (va_up_ne (fJ S') _ hne).trans (h2 p)
    · rw [if_neg e]
      exact h2 p
  · obtain ⟨a1, a2, a3, a4, a5, a6⟩ := h3 f hf
    exact ⟨a1, (up2_no (hn f)).trans a2, a3, (up2_no (hn f)).trans a4, (up2_no (hn f)).trans a5, (up2_no (hn f)).trans a6⟩
end EF
/-! the parts of the relation, when what they speak of is the same -/
def fB0 (f : Nat) : Prop := (48 ≤ f ∧ f ≤ 52) ∨ f / 16 = 5 ∨ f / 16 = 11 ∨ f = 192
def fP0 (f : Nat) : Prop := f / 16 = 8 ∨ f = 193
def fT0 (f : Nat) : Prop := f / 16 = 10 ∨ f = 194
def fS0 (f : Nat) : Prop := 195 ≤ f ∧ f ≤ 198
section CG
variable {S S' : CS} {A A' : MS} {o so po : Nat}
theorem zP_c (h : A'.2 3 = A.2 3) : zP A' = zP A := by
  funext k
  induction k with
  | zero => rfl
  | succ k ih =>
    show (if A'.2 3 k = -1 then zP A' k else aN (A'.2 3 k)) = (if A.2 3 k = -1 then zP A k else aN (A.2 3 k))
    rw [ih, h]
theorem zKp_c (h9 : A'.2 9 = A.2 9) (h10 : A'.2 10 = A.2 10) : zKp A' = zKp A := by
  funext p
  unfold zKp
  rw [h9, h10]
theorem zS_c (h9 : A'.2 9 = A.2 9) (h10 : A'.2 10 = A.2 10) : zS A' = zS A := by
  funext v i k
  induction k with
  | zero => rfl
  | succ k ih =>
    show zS A' v i k + zKp A' (zp v i k) = zS A v i k + zKp A (zp v i k)
    rw [ih, zKp_c h9 h10]
theorem zCn_c (h : A'.2 4 = A.2 4) : zCn A' = zCn A := by
  funext k
  induction k with
  | zero => rfl
  | succ k ih =>
    show (if A'.2 4 k = -1 then zCn A' k else zCn A' k + 1) = (if A.2 4 k = -1 then zCn A k else zCn A k + 1)
    rw [ih, h]
theorem zM_c (h0 : A'.1 0 = A.1 0) (h1 : A'.2 1 = A.2 1) (h2 : A'.2 2 = A.2 2) (h3 : A'.2 3 = A.2 3) (h6 : A'.2 6 = A.2 6) (h7 : A'.2 7 = A.2 7) (h8 : A'.2 8 = A.2 8) (h9 : A'.2 9 = A.2 9) (h10 : A'.2 10 = A.2 10) (h12 : A'.2 12 = A.2 12) : zM A' ↔ zM A := by
  unfold zM zMb zMr zMe zL zB zU zE zN
  rw [h0, h1, h2, h3, h6, h7, h8, h9, h10, h12, zS_c h9 h10, zKp_c h9 h10]
theorem rB_c (h : rB S A so) (g : Eqf fB0 S S') (h0 : A'.1 0 = A.1 0) (h1 : A'.2 1 = A.2 1) (h2 : A'.2 2 = A.2 2) (h3 : A'.2 3 = A.2 3) (h6 : A'.2 6 = A.2 6) (h7 : A'.2 7 = A.2 7) (h8 : A'.2 8 = A.2 8) (h9 : A'.2 9 = A.2 9) (h10 : A'.2 10 = A.2 10) (h11 : A'.2 11 = A.2 11) (h12 : A'.2 12 = A.2 12) : rB S' A' so := by
  have hA : rB S A' so := by
    unfold rB rM rR rE at h ⊢
    rw [h0, h1, h2, h3, h6, h7, h8, h9, h10, h11, h12]
    exact h
  obtain ⟨b1, b2, b3, b4, b5, b6, b7, b8⟩ := hA
  have p192 : fB0 192 := Or.inr (Or.inr (Or.inr rfl))
  have p5 : ∀ f, f / 16 = 5 → fB0 f := fun f z => Or.inr (Or.inl z)
  have p11 : ∀ f, f / 16 = 11 → fB0 f := fun f z => Or.inr (Or.inr (Or.inl z))
  obtain ⟨k1, -, k2⟩ := g so (by rw [b1]; decide)
  obtain ⟨-, -, -, -, k5, k6⟩ := k2 192 p192
  have em : ∀ i, mrL S' so i = mrL S so i := fun i => by
    unfold mrL
    rw [k5]
  have en : nbS S' so = nbS S so := by
    unfold nbS
    rw [k5]
  have er : ∀ v i, i < nbS S so → rwL S' so v i = rwL S so v i := fun v i hi => by
    obtain ⟨-, -, m2⟩ := g (mrL S so i) (by rw [(b5 i hi).1]; decide)
    unfold rwL
    rw [em, (m2 83 (p5 83 (by decide))).2.2.2.1]
  have el : ∀ v i, i < nbS S so → v < 4 → fL S' 176 (rwL S' so v i) = fL S 176 (rwL S so v i) := fun v i hi hv => by
    obtain ⟨-, r1, -⟩ := (b5 i hi).2.2.2.2.2.2 v hv
    obtain ⟨-, -, m2⟩ := g (rwL S so v i) (by rw [r1]; decide)
    rw [er v i hi, (m2 176 (p11 176 (by decide))).2.2.2.2.1]
  have ee : ∀ v i, i < nbS S so → v < 4 → neS S' so v i = neS S so v i := fun v i hi hv => congrArg List.length (el v i hi hv)
  have ev : ∀ v i j, i < nbS S so → v < 4 → evL S' so v i j = evL S so v i j := fun v i j hi hv => by
    unfold evL
    rw [el v i hi hv]
  refine ⟨k1.trans b1, by rw [en]; exact b2, by rw [k6]; exact b3, by rw [en]; exact b4, ?_, ?_, ?_, ?_⟩
  · intro i hi
    rw [en] at hi
    obtain ⟨m1, m2, m3, m4, m5, m6, m7⟩ := b5 i hi
    obtain ⟨q1, -, q2⟩ := g (mrL S so i) (by rw [m1]; decide)
    unfold rM
    rw [em]
    refine ⟨q1.trans m1, (q2 80 (p5 80 (by decide))).1.trans m2, (q2 81 (p5 81 (by decide))).1.trans m3, (q2 82 (p5 82 (by decide))).1.trans m4, m5, m6, fun v hv => ?_⟩
    obtain ⟨r0, r1, r2, r3, r4, r5, r6, r7, r8⟩ := m7 v hv
    obtain ⟨s1, -, s2⟩ := g (rwL S so v i) (by rw [r1]; decide)
    unfold rR
    rw [em, ee v i hi hv, er v i hi, (q2 83 (p5 83 (by decide))).2.2.2.1]
    refine ⟨r0, s1.trans r1, r2, r3, (s2 178 (p11 178 (by decide))).1.trans r4, r5, by rw [(s2 176 (p11 176 (by decide))).2.2.2.2.2]; exact r6, (s2 177 (p11 177 (by decide))).1.trans r7, fun j hj => ?_⟩
    obtain ⟨e1, e2, e3, e4, e5, e6, e7⟩ := r8 j hj
    obtain ⟨t1, -, t2⟩ := g (evL S so v i j) (by rw [e1]; decide)
    have pe : ∀ f, 48 ≤ f ∧ f ≤ 52 → fB0 f := fun f z => Or.inl z
    rw [ev v i j hi hv]
    exact ⟨t1.trans e1, (t2 50 (pe 50 (by decide))).1.trans e2, (t2 49 (pe 49 (by decide))).1.trans e3, (t2 52 (pe 52 (by decide))).1.trans e4, (t2 51 (pe 51 (by decide))).1.trans e5, (t2 48 (pe 48 (by decide))).1.trans e6, e7⟩
  · intro i i2 hi hi2 h9
    rw [en] at hi hi2
    rw [em, em] at h9
    exact b6 i i2 hi hi2 h9
  · intro v i v2 i2 hi hi2 hv hv2 h9
    rw [en] at hi hi2
    rw [er v i hi, er v2 i2 hi2] at h9
    exact b7 v i v2 i2 hi hi2 hv hv2 h9
  · intro v i j v2 i2 j2 hi hi2 hv hv2 hj hj2 h9
    rw [en] at hi hi2
    rw [ee v i hi hv] at hj
    rw [ee v2 i2 hi2 hv2] at hj2
    rw [ev v i j hi hv, ev v2 i2 j2 hi2 hv2] at h9
    exact b8 v i j v2 i2 j2 hi hi2 hv hv2 hj hj2 h9
/-- events are where they were -/
theorem evL_c (h : rB S A so) (w : zM A) (g : Eqf fB0 S S') {v i j : Nat} (hi : i < zN A) (hv : v < 4) : evL S' so v i j = evL S so v i j := by
  obtain ⟨b1, -, -, b4⟩ := cc_bar h w hi
  obtain ⟨r1, r2, -⟩ := cc_row h w hi hv
  have e1 := ((g so (by rw [b1]; decide)).2.2 192 (Or.inr (Or.inr (Or.inr rfl)))).2.2.2.2.1
  have e2 := ((g (mrL S so i) (by rw [b4]; decide)).2.2 83 (Or.inr (Or.inl (by decide)))).2.2.2.1
  have e3 := ((g (rwL S so v i) (by rw [r2]; decide)).2.2 176 (Or.inr (Or.inr (Or.inl (by decide))))).2.2.2.2.1
  have em : mrL S' so i = mrL S so i := by
    unfold mrL
    rw [e1]
  have er : rwL S' so v i = rwL S so v i := by
    unfold rwL
    rw [em, e2]
  unfold evL
  rw [er, e3]
theorem rP_c (hk : kdC S so ≠ 0) (h : rP S A so) (g : Eqf fP0 S S') (hev : ∀ v i j, v < 4 → i < zN A → j < zE A v i → evL S' so v i j = evL S so v i j) (h0 : A'.1 0 = A.1 0) (h6 : A'.2 6 = A.2 6) (h14 : A'.1 14 = A.1 14) (h15 : A'.2 15 = A.2 15) (h16 : A'.2 16 = A.2 16) (h17 : A'.2 17 = A.2 17) (h18 : A'.2 18 = A.2 18) (h19 : A'.2 19 = A.2 19) (h20 : A'.2 20 = A.2 20) : rP S' A' so := by
  have hA : rP S A' so := by
    unfold rP rPk rPe zN zE at h ⊢
    rw [h0, h6, h14, h15, h16, h17, h18, h19, h20]
    exact h
  have en0 : zN A' = zN A := by unfold zN; rw [h0]
  have ee0 : zE A' = zE A := by funext v i; unfold zE; rw [h6]
  obtain ⟨b1, b2, b3, b4, b5, b6⟩ := hA
  obtain ⟨-, -, k2⟩ := g so hk
  obtain ⟨-, -, -, -, k5, k6⟩ := k2 193 (Or.inr rfl)
  have ep : ∀ k, phL S' so k = phL S so k := fun k => by
    unfold phL
    rw [k5]
  have en : npS S' so = npS S so := by
    unfold npS
    rw [k5]
  unfold rP
  rw [en, k6]
  refine ⟨b1, b2, b3, fun k hk2 => ?_, fun k k2 hk2 hk3 h9 => b5 k k2 hk2 hk3 (by rw [← ep, ← ep]; exact h9), b6⟩
  obtain ⟨c1, c2, c3, c4, c5, c6, c7, c8, c9⟩ := b4 k hk2
  obtain ⟨q1, -, q2⟩ := g (phL S so k) (by rw [c1]; decide)
  have pf : ∀ f, f / 16 = 8 → fP0 f := fun f z => Or.inl z
  unfold rPk rPe
  rw [ep, (q2 131 (pf 131 (by decide))).2.2.1, (q2 132 (pf 132 (by decide))).2.2.1]
  refine ⟨q1.trans c1, (q2 128 (pf 128 (by decide))).1.trans c2, (q2 129 (pf 129 (by decide))).1.trans c3, (q2 130 (pf 130 (by decide))).1.trans c4, (q2 133 (pf 133 (by decide))).1.trans c5, c6, c7, c8, fun z => ?_⟩
  obtain ⟨v, i, j, i2, j2, d1, d2, d3, d4, d5, d6, d7, d8, d9, d10, d11, d12⟩ := c9 z
  rw [en0] at d2 d4
  rw [ee0] at d3 d5
  have e2 := hev v i j d1 d2 d3
  have e4 := hev v i2 j2 d1 d4 d5
  refine ⟨v, i, j, i2, j2, d1, by rw [en0]; exact d2, by rw [ee0]; exact d3, by rw [en0]; exact d4, by rw [ee0]; exact d5, d6, d7, d8, d9, d10, by rw [e2]; exact d11, by rw [e4]; exact d12⟩
theorem rT_c (hk : kdC S so ≠ 0) (h : rT S A so) (g : Eqf fT0 S S') (h0 : A'.1 0 = A.1 0) (h4 : A'.2 4 = A.2 4) (h5 : A'.2 5 = A.2 5) : rT S' A' so := by
  have hA : rT S A' so := by
    unfold rT zMt zY zO zG zN at h ⊢
    rw [h0, h4, h5, zCn_c h4]
    exact h
  obtain ⟨b1, b2, b3, b4, b5, b6⟩ := hA
  obtain ⟨-, -, k2⟩ := g so hk
  obtain ⟨-, -, -, -, k5, k6⟩ := k2 194 (Or.inr rfl)
  have ep : ∀ k, rtL S' so k = rtL S so k := fun k => by
    unfold rtL
    rw [k5]
  have en : nrS S' so = nrS S so := by
    unfold nrS
    rw [k5]
  have pf : ∀ f, f / 16 = 10 → fT0 f := fun f z => Or.inl z
  have e160 : ∀ k, k < nrS S so → fI S' 160 (rtL S so k) = fI S 160 (rtL S so k) := fun k hk2 => ((g (rtL S so k) (by rw [(b4 k hk2).1]; decide)).2.2 160 (pf 160 (by decide))).1
  unfold rT
  rw [en, k6]
  refine ⟨b1, b2, b3, fun k hk2 => ?_, fun i hi hy => ?_, fun k k3 hk2 hk3 h9 => ?_⟩
  · obtain ⟨c1, i, c2, c3, c4, c5, c6⟩ := b4 k hk2
    obtain ⟨q1, -, q2⟩ := g (rtL S so k) (by rw [c1]; decide)
    rw [ep]
    exact ⟨q1.trans c1, i, c2, c3, (q2 160 (pf 160 (by decide))).1.trans c4, (q2 161 (pf 161 (by decide))).1.trans c5, (q2 162 (pf 162 (by decide))).1.trans c6⟩
  · obtain ⟨k, c1, c2⟩ := b5 i hi hy
    refine ⟨k, c1, ?_⟩
    rw [ep, e160 k c1]
    exact c2
  · rw [ep, ep, e160 k hk2, e160 k3 hk3] at h9
    exact b6 k k3 hk2 hk3 h9
theorem rS_c (hk : kdC S so ≠ 0) (h : rS S A so) (g : Eqf fS0 S S') (h13 : A'.2 13 = A.2 13) (h21 : A'.1 21 = A.1 21) (h22 : A'.1 22 = A.1 22) (h23 : A'.1 23 = A.1 23) : rS S' A' so := by
  obtain ⟨-, -, k2⟩ := g so hk
  unfold rS zMs at h ⊢
  rw [h13, h21, h22, h23, (k2 195 ⟨by decide, by decide⟩).2.1, (k2 196 ⟨by decide, by decide⟩).1, (k2 197 ⟨by decide, by decide⟩).1, (k2 198 ⟨by decide, by decide⟩).1]
  exact h
theorem zZ_c (h0 : A'.1 0 = A.1 0) (h6 : A'.2 6 = A.2 6) (h7 : A'.2 7 = A.2 7) (h26 : A'.2 26 0 = A.2 26 0) : zZ A' ↔ zZ A := by
  unfold zZ zN
  rw [h0, h6, h7, h26]
theorem rA_c (h : rA S A o so po) (g : Eqf fTo S S') (hA : Ag A A') : rA S' A' o so po := by
  obtain ⟨h1, h2, h3, h4, h5, h6, h7, h8, h9, h10⟩ := h
  have r : ∀ k, k < 24 → A'.2 k = A.2 k := fun k hk => (hA.1 k hk).2
  have r1 : ∀ k, k < 24 → A'.1 k = A.1 k := fun k hk => (hA.1 k hk).1
  have hs : kdC S so ≠ 0 := by rw [h5.1]; decide
  obtain ⟨q1, -, q2⟩ := g o (by rw [h1]; decide)
  obtain ⟨p1, -, -⟩ := g po (by rw [h4]; decide)
  have gB : Eqf fB0 S S' := Eqf_sub (fun f z => by unfold fB0 at z; unfold fTo; omega) g
  refine ⟨q1.trans h1, ((q2 224 (Or.inr (Or.inl rfl))).2.2.1).trans h2, ((q2 225 (Or.inr (Or.inr rfl))).2.2.1).trans h3, p1.trans h4, ?_, ?_, ?_, ?_, ?_, ?_⟩
  · exact rB_c h5 gB (r1 0 (by decide)) (r 1 (by decide)) (r 2 (by decide)) (r 3 (by decide)) (r 6 (by decide)) (r 7 (by decide)) (r 8 (by decide)) (r 9 (by decide)) (r 10 (by decide)) (r 11 (by decide)) (r 12 (by decide))
  · exact (zM_c (r1 0 (by decide)) (r 1 (by decide)) (r 2 (by decide)) (r 3 (by decide)) (r 6 (by decide)) (r 7 (by decide)) (r 8 (by decide)) (r 9 (by decide)) (r 10 (by decide)) (r 12 (by decide))).mpr h6
  · exact rP_c hs h7 (Eqf_sub (fun f z => by unfold fP0 at z; unfold fTo; omega) g) (fun v i j hv hi _ => evL_c h5 h6 gB hi hv) (r1 0 (by decide)) (r 6 (by decide)) (r1 14 (by decide)) (r 15 (by decide)) (r 16 (by decide)) (r 17 (by decide)) (r 18 (by decide)) (r 19 (by decide)) (r 20 (by decide))
  · exact rT_c hs h8 (Eqf_sub (fun f z => by unfold fT0 at z; unfold fTo; omega) g) (r1 0 (by decide)) (r 4 (by decide)) (r 5 (by decide))
  · exact rS_c hs h9 (Eqf_sub (fun f z => by unfold fS0 at z; unfold fTo; omega) g) (r 13 (by decide)) (r1 21 (by decide)) (r1 22 (by decide)) (r1 23 (by decide))
  · exact (zZ_c (r1 0 (by decide)) (r 6 (by decide)) (r 7 (by decide)) hA.2).mpr h10
end CG
