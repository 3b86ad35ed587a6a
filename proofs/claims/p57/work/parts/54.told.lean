/-! PHRASES, REPEATS, THE REST OF WHAT IS TOLD -/
def phL (S : CS) (so k : Nat) : Nat := ((fL S 193 so)[k]?).getD 0
def npS (S : CS) (so : Nat) : Nat := (fL S 193 so).length
def rtL (S : CS) (so k : Nat) : Nat := ((fL S 194 so)[k]?).getD 0
def nrS (S : CS) (so : Nat) : Nat := (fL S 194 so).length
def rPe (S : CS) (A : MS) (so k : Nat) : Prop := ∃ v i j i2 j2 : Nat, v < 4 ∧ i < zN A ∧ j < zE A v i ∧ i2 < zN A ∧ j2 < zE A v i2 ∧ A.2 15 k = nI v ∧ A.2 16 k = nI i ∧ A.2 17 k = nI j ∧ A.2 18 k = nI i2 ∧ A.2 19 k = nI j2 ∧ fR S 131 (phL S so k) = some (evL S so v i j) ∧ fR S 132 (phL S so k) = some (evL S so v i2 j2)
def rPk (S : CS) (A : MS) (so k : Nat) : Prop := kdC S (phL S so k) = 8 ∧ fI S 128 (phL S so k) = A.2 15 k ∧ fI S 129 (phL S so k) = A.2 16 k ∧ fI S 130 (phL S so k) = A.2 18 k ∧ fI S 133 (phL S so k) = A.2 20 k ∧ gb (A.2 20 k) ∧ fR S 131 (phL S so k) ≠ none ∧ fR S 132 (phL S so k) ≠ none ∧ (A.2 20 k = 0 → rPe S A so k)
def rP (S : CS) (A : MS) (so : Nat) : Prop := npS S so ≤ 20 ∧ A.1 14 = nI (npS S so) ∧ fC S 193 so ≤ 500000 ∧ (∀ k, k < npS S so → rPk S A so k) ∧ (∀ k k2, k < npS S so → k2 < npS S so → phL S so k = phL S so k2 → k = k2) ∧ ∀ k, npS S so ≤ k → k < 20 → A.2 20 k = 0
/-- a repeat begins with a bar; its last bar; its endings -/
def zY (A : MS) (i : Nat) : Prop := ¬ A.2 4 i = -1
def zO (A : MS) (i : Nat) : Nat := aN (A.2 4 i)
def zG (A : MS) (i : Nat) : Nat := aN (A.2 5 i)
def zCn (A : MS) : Nat → Nat
  | 0 => 0
  | k + 1 => if A.2 4 k = -1 then zCn A k else zCn A k + 1
def zMt (A : MS) : Prop := ∀ i, i < zN A → zY A i → A.2 4 i = nI (zO A i) ∧ A.2 5 i = nI (zG A i) ∧ i ≤ zO A i ∧ zO A i < zN A ∧ zG A i ≤ zO A i - i ∧ ∀ i2, i < i2 → i2 ≤ zO A i → A.2 4 i2 = -1
def rT (S : CS) (A : MS) (so : Nat) : Prop := fC S 194 so ≤ 500000 ∧ zMt A ∧ zCn A (zN A) = nrS S so ∧ (∀ k, k < nrS S so → kdC S (rtL S so k) = 10 ∧ ∃ i, i < zN A ∧ zY A i ∧ fI S 160 (rtL S so k) = nI i ∧ fI S 161 (rtL S so k) = A.2 4 i ∧ fI S 162 (rtL S so k) = A.2 5 i) ∧ (∀ i, i < zN A → zY A i → ∃ k, k < nrS S so ∧ fI S 160 (rtL S so k) = nI i) ∧ ∀ k k2, k < nrS S so → k2 < nrS S so → fI S 160 (rtL S so k) = fI S 160 (rtL S so k2) → k = k2
def zMs (A : MS) : Prop := (∃ x : Nat, 40 ≤ x ∧ x ≤ 400 ∧ A.1 21 = nI x) ∧ (∃ x : Nat, 1 ≤ x ∧ x ≤ 6 ∧ A.1 22 = nI x) ∧ ∃ x : Nat, x ≤ 20000 ∧ A.1 23 = nI x
def rS (S : CS) (A : MS) (so : Nat) : Prop := (∀ v, v < 4 → fA S 195 so v = A.2 13 v) ∧ fI S 196 so = A.1 21 ∧ fI S 197 so = A.1 22 ∧ fI S 198 so = A.1 23 ∧ zMs A
/-- nothing lies behind the last bar; the first place begins at 0 -/
def zZ (A : MS) : Prop := A.2 26 0 = 0 ∧ ∀ v i, v < 4 → zN A ≤ i → i < 24 → A.2 6 (24 * v + i) = 0 ∧ A.2 7 (24 * v + i) = 0
/-- all that is told -/
def rA (S : CS) (A : MS) (o so po : Nat) : Prop := kdC S o = 14 ∧ fR S 224 o = some so ∧ fR S 225 o = some po ∧ kdC S po = 9 ∧ rB S A so ∧ zM A ∧ rP S A so ∧ rT S A so ∧ rS S A so ∧ zZ A
theorem rA_k {S : CS} {A : MS} {o so po : Nat} (h : rA S A o so po) : kdC S o = 14 := h.1
theorem rA_s {S : CS} {A : MS} {o so po : Nat} (h : rA S A o so po) : fR S 224 o = some so := h.2.1
theorem rA_p {S : CS} {A : MS} {o so po : Nat} (h : rA S A o so po) : fR S 225 o = some po := h.2.2.1
theorem rA_kp {S : CS} {A : MS} {o so po : Nat} (h : rA S A o so po) : kdC S po = 9 := h.2.2.2.1
theorem rA_B {S : CS} {A : MS} {o so po : Nat} (h : rA S A o so po) : rB S A so := h.2.2.2.2.1
theorem rA_M {S : CS} {A : MS} {o so po : Nat} (h : rA S A o so po) : zM A := h.2.2.2.2.2.1
theorem rA_P {S : CS} {A : MS} {o so po : Nat} (h : rA S A o so po) : rP S A so := h.2.2.2.2.2.2.1
theorem rA_T {S : CS} {A : MS} {o so po : Nat} (h : rA S A o so po) : rT S A so := h.2.2.2.2.2.2.2.1
theorem rA_S {S : CS} {A : MS} {o so po : Nat} (h : rA S A o so po) : rS S A so := h.2.2.2.2.2.2.2.2.1
theorem rA_Z {S : CS} {A : MS} {o so po : Nat} (h : rA S A o so po) : zZ A := h.2.2.2.2.2.2.2.2.2
theorem i_go1 {a1 a2 a3 : Int32} {t : MS} {Q : Int32 → MS → Prop} (h1 : a1 = 0) (h : Q 0 (msI t 45 1)) : w_goes a1 a2 a3 t Q := i_goes (fun x hx => by rw [if_pos h1] at hx; subst hx; exact h)
theorem i_go2 {a1 a2 a3 : Int32} {t : MS} {Q : Int32 → MS → Prop} (h1 : ¬ a1 = 0) (h2 : a2 = 0) (h : Q 0 (msI t 45 2)) : w_goes a1 a2 a3 t Q := i_goes (fun x hx => by rw [if_neg h1, if_pos h2] at hx; subst hx; exact h)
theorem i_go3 {a1 a2 a3 : Int32} {t : MS} {Q : Int32 → MS → Prop} (h1 : ¬ a1 = 0) (h2 : ¬ a2 = 0) (h3 : a3 = 0) (h : Q 0 (msI t 45 3)) : w_goes a1 a2 a3 t Q := i_goes (fun x hx => by rw [if_neg h1, if_neg h2, if_pos h3] at hx; subst hx; exact h)
theorem i_go0 {a1 a2 a3 : Int32} {t : MS} {Q : Int32 → MS → Prop} (h1 : ¬ a1 = 0) (h2 : ¬ a2 = 0) (h3 : ¬ a3 = 0) (h : Q 1 (msI t 45 0)) : w_goes a1 a2 a3 t Q := i_goes (fun x hx => by rw [if_neg h1, if_neg h2, if_neg h3] at hx; subst hx; exact h)
theorem one_ne : ¬ (1 : Int32) = 0 := by decide
section HF
variable {B : Nat × Nat} {o so po : Nat} {a1 a2 a3 : Int32} {S : CS} {t : MS} {X : String → CS → Prop}
theorem oG_so (hs : fR S 224 o = some so) : oG (fR S 224 o) = so := by rw [hs]; rfl
theorem ne_so {x : Option Nat} (hs : x = some so) : x ≠ none := by rw [hs]; exact fun z => (by cases z)
theorem a_B {Q : CS → Prop} (h : rA S t o so po) (hr : szC S + 1 ≤ B.1 ∧ nsC S + 6 ≤ B.2) (h1 : ∀ i : Nat, i < zN t → a1 = nI i → ¬ v_isBar a1 t = 0 → Q S) (h2 : v_isBar a1 t = 0 → ∀ sz ns : Nat, X "java/lang/IndexOutOfBoundsException" (rsz S sz ns)) : w_X11_requireBar B o a1 S Q X :=
  a_reqBar h.1 h.2.1 h.2.2.2.2.1 hr (fun k g1 g2 g3 => h1 k (by rw [← cc_n h.2.2.2.2.1 h.2.2.2.2.2.1]; exact g1) g2 g3) h2
theorem a_VB {Q : CS → Prop} (h : rA S t o so po) (hr : szC S + 1 ≤ B.1 ∧ nsC S + 6 ≤ B.2) (h1 : ∀ v i : Nat, v < 4 → i < zN t → a1 = nI v → a2 = nI i → ¬ v_isVoice a1 = 0 → ¬ v_isBar a2 t = 0 → Q S) (h2 : v_isVoice a1 = 0 → ∀ sz ns : Nat, X "java/lang/IllegalArgumentException" (rsz S sz ns)) (h3 : ¬ v_isVoice a1 = 0 → v_isBar a2 t = 0 → ∀ sz ns : Nat, X "java/lang/IndexOutOfBoundsException" (rsz S sz ns)) : w_X11_requireVoice B a1 S (fun t1 => (kdC t1 o = 14) ∧ w_X11_requireBar B o a2 t1 Q X) X :=
  a_reqVoice hr (fun v hv ev hz => ⟨h.1, a_B h hr (fun i hi ei hz2 => h1 v i hv hi ev ei hz hz2) (fun hz2 => h3 hz hz2)⟩) h2
theorem a_Ev {Q : Nat → CS → Prop} (h : rA S t o so po) (hr : szC S + 1 ≤ B.1 ∧ nsC S + 6 ≤ B.2) (h1 : ∀ v i j : Nat, v < 4 → i < zN t → j < zE t v i → a1 = nI v → a2 = nI i → a3 = nI j → ¬ v_isVoice a1 = 0 → d_isEvent a1 a2 a3 t → ¬ v_isEvent a1 a2 a3 t = 0 → Q (evL S so v i j) S) (h2 : v_isVoice a1 = 0 → ∀ sz ns : Nat, X "java/lang/IllegalArgumentException" (rsz S sz ns)) (h3 : ¬ v_isVoice a1 = 0 → d_isEvent a1 a2 a3 t → v_isEvent a1 a2 a3 t = 0 → ∀ sz ns : Nat, X "java/lang/IndexOutOfBoundsException" (rsz S sz ns)) : w_X11_requiredEvent B o a1 a2 a3 S Q X := by
  have hB := h.2.2.2.2.1
  have hM := h.2.2.2.2.2.1
  have hn := hM.2.1
  refine a_reqVoice hr (fun v hv ev hz => ⟨h.1, a_B h hr (fun i hi ei hz2 => ?_) (fun hz2 => h3 hz (fun z => absurd hz2 z) ?_)⟩) h2
  · subst ev
    subst ei
    obtain ⟨r1, r2, r3⟩ := cc_rw hB hM hi hv
    have he := (z_r hM hi hv).1
    have e6 : mgA t 6 (v_at (nI v) (nI i)) = nI (zE t v i) := by
      rw [at_nI hv, Ag_A (Ag_rfl t) (f := 6) (by decide) (by omega)]
      exact (z_r hM hi hv).2.1
    have d6 : d_isEvent (nI v) (nI i) a3 t := fun _ => by
      rw [at_nI hv]
      exact vp_nI (n := 96) (by omega) (by decide)
    have ev6 : v_isEvent (nI v) (nI i) a3 t = if ¬ v_in a3 0 (nI (zE t v i) - 1) = 0 then 1 else 0 := by
      unfold v_isEvent
      rw [e6]
      by_cases h9 : v_in a3 0 (nI (zE t v i) - 1) = 0
      · rw [if_neg (fun z => z.2 h9), if_neg (fun z => z h9)]
      · rw [if_pos ⟨hz2, h9⟩, if_pos h9]
    have es : v_X8_size (rwL S so v i) S = nI (zE t v i) := congrArg nI (cc_e hB hM hi hv)
    have hout := n_out (a := a3) (n := zE t v i) (by omega)
    rw [oG_so h.2.1, r2]
    refine ⟨ne_so h.2.1, hB.1, r1, r3, r3, ?_⟩
    rw [es]
    refine i_reqIdx hr (fun hc => ?_) (fun hc => h3 hz d6 ?_)
    · have hc2 : ¬ a3 < 0 ∧ a3 < nI (zE t v i) := ⟨fun z => hc (Or.inl z), Classical.byContradiction fun z => hc (Or.inr z)⟩
      obtain ⟨j, j1, j2⟩ := n_ofNN (by omega) hc2.1 hc2.2
      subst j2
      obtain ⟨q1, q2, q3⟩ := cc_ev hB hM hi hv j1
      have e9 : v_X8_get (rwL S so v i) (nI j) S = evL S so v i j := q2
      have d9 : d_X8_get (rwL S so v i) (nI j) S := ⟨r3, q1, by rw [q2]; exact q3.1⟩
      rw [e9]
      refine ⟨d9, h1 v i j hv hi j1 rfl rfl rfl hz d6 ?_⟩
      rw [ev6, if_pos (fun z => hc (hout.mpr z))]
      exact one_ne
    · rw [ev6, if_neg (fun z => z (hout.mp hc))]
  · unfold v_isEvent
    rw [if_neg (fun z => z.1 hz2)]
end HF
