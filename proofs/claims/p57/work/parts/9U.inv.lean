/-! P57: WHAT HOLDS BETWEEN TWO CALLS; room by units: a cell and ten slots -/
/-- an edition that was laid out: none, or one that was -/
def eO (x : Int32) (e : Nat) : Prop := x = -1 ∨ ∃ k, k ≤ e ∧ x = nI k
theorem eO_up {x : Int32} {e e2 : Nat} (h : eO x e) (g : e ≤ e2) : eO x e2 := h.elim Or.inl (fun ⟨k, k1, k2⟩ => Or.inr ⟨k, by omega, k2⟩)
theorem nI_m1 {a : Nat} (h : a < 2147483648) : ¬ (-1 : Int32) = nI a := fun z => by
  have : (-1 : Int32).toInt = (nI a).toInt := by rw [z]
  rw [nI_toInt (by omega)] at this
  have h2 : (-1 : Int32).toInt = -1 := by decide
  omega
theorem eO_ne {x : Int32} {e : Nat} (h : eO x e) (he : e < 2000000) : ¬ x = nI (e + 1) := by
  rcases h with h | ⟨k, k1, k2⟩
  · rw [h]
    exact nI_m1 (by omega)
  · rw [k2]
    exact fun z => by have := (nI_eq (by omega) (by omega)).mp z; omega
/-- the parts that were made; that of voice w needn't be laid -/
def pA (S : CS) (A : MS) (o so po e w : Nat) : Prop := ∀ v q, v < 4 → fQ S 226 o v = some q → ∃ lo pg, PrS S q v lo pg ∧ eO (fI S 121 q) e ∧ (v ≠ w → fI S 121 q = fI S 199 so → fI S 150 po = fI S 199 so ∧ PartOK A S q v lo pg)
def pD (S : CS) (o : Nat) : Prop := ∀ v v2 q q2, v < 4 → v2 < 4 → v ≠ v2 → fQ S 226 o v = some q → fQ S 226 o v2 = some q2 → fR S 119 q ≠ fR S 119 q2 ∧ fR S 120 q ≠ fR S 120 q2
def Jo (o so po n w : Nat) (S : CS) (A : MS) : Prop := rA S A o so po ∧ (rowOk S po ∧ capOk S po) ∧ (∃ e, e + n ≤ 1000000 ∧ fI S 199 so = nI e ∧ eO (fI S 150 po) e ∧ pA S A o so po e w) ∧ (fI S 150 po = fI S 199 so → PlayOK A S po) ∧ pD S o
def uP (S : CS) (o : Nat) : Nat := (if fQ S 226 o 0 = none then 1 else 0) + (if fQ S 226 o 1 = none then 1 else 0) + (if fQ S 226 o 2 = none then 1 else 0) + (if fQ S 226 o 3 = none then 1 else 0)
def Jr (b : Nat × Nat) (n : Nat) (S : CS) (o po : Nat) : Prop := szC S + n + 20 * uP S o ≤ b.1 + (fL S 148 po).length + fC S 148 po ∧ nsC S + 10 * n + 660 * uP S o ≤ b.2 + 5 * (fL S 148 po).length + 4 * fC S 148 po
/-- what holds of the class's state, n units ahead of the end of the room -/
def Jp (b : Nat × Nat) (o so po : Nat) (n : Nat) (S : CS) (A : MS) : Prop := Jo o so po n 4 S A ∧ Jr b n S o po
def hB (b B : Nat × Nat) : Prop := b.1 + 10000 ≤ B.1 ∧ b.2 + 42000 ≤ B.2
theorem la_1 {x n k p b s c l : Nat} (hb : b + 10000 ≤ l) (c2 : c ≤ 10 + 2 * s) (c3 : s ≤ 3072) (r : x + (n + k) + 20 * p ≤ b + s + c) : x + k + 20 * p ≤ l := by omega
theorem la_2 {x n k p b s c l : Nat} (hb : b + 42000 ≤ l) (c2 : c ≤ 10 + 2 * s) (c3 : s ≤ 3072) (r : x + 10 * (n + k) + 660 * p ≤ b + 5 * s + 4 * c) : x + 10 * k + 660 * p ≤ l := by
  have h1 : 5 * s + 4 * c ≤ 42000 := by omega
  have h2 : x + 10 * k + 660 * p ≤ x + 10 * (n + k) + 660 * p := by omega
  have h3 : b + 5 * s + 4 * c ≤ b + 42000 := by
    rw [Nat.add_assoc]
    exact Nat.add_le_add_left h1 b
  exact Nat.le_trans h2 (Nat.le_trans r (Nat.le_trans h3 hb))
theorem la_3 {x n k p b s c d K l : Nat} (hb : b + 10000 ≤ l) (hK : c ≤ K) (hK2 : K ≤ 10 + 2 * (s + d)) (hsd : s + d ≤ 3072) (r : x + (n + k) + 20 * p ≤ b + s + c) : x + d + (K - c) + k + 20 * p ≤ l := by
  have h1 : s + d + K ≤ 10000 := by omega
  clear hK2 hsd
  have h2 : x + d + (K - c) + k + 20 * p ≤ b + (s + d + K) := by
    clear h1 hb
    omega
  exact Nat.le_trans h2 (Nat.le_trans (Nat.add_le_add_left h1 b) hb)
theorem la_4 {x n k p b s c d K l : Nat} (hb : b + 42000 ≤ l) (hK : c ≤ K) (hK2 : K ≤ 10 + 2 * (s + d)) (hsd : s + d ≤ 3072) (r : x + 10 * (n + k) + 660 * p ≤ b + 5 * s + 4 * c) : x + 5 * d + 4 * (K - c) + 10 * k + 660 * p ≤ l := by
  have h1 : 5 * (s + d) + 4 * K ≤ 42000 := by omega
  clear hK2 hsd
  have h2 : x + 5 * d + 4 * (K - c) + 10 * k + 660 * p ≤ b + (5 * (s + d) + 4 * K) := by
    clear h1 hb
    omega
  exact Nat.le_trans h2 (Nat.le_trans (Nat.add_le_add_left h1 b) hb)
section JJ
variable {A A' t : MS} {S S' : CS} {o so po n m k w q v lo pg e : Nat} {b B : Nat × Nat}
theorem PartOK_o (hq : ∀ x, x = q ∨ x = lo ∨ x = pg → ∀ f, qF f → fI S' f x = fI S f x ∧ fA S' f x = fA S f x) (h : PartOK A S q v lo pg) : PartOK A S' q v lo pg := by
  have h1 : ∀ f, qF f → fI S' f q = fI S f q ∧ fA S' f q = fA S f q := hq q (Or.inl rfl)
  have h2 : ∀ f, qF f → fI S' f lo = fI S f lo ∧ fA S' f lo = fA S f lo := hq lo (Or.inr (Or.inl rfl))
  have h3 : ∀ f, qF f → fI S' f pg = fI S f pg ∧ fA S' f pg = fA S f pg := hq pg (Or.inr (Or.inr rfl))
  unfold PartOK iC lC pC at h ⊢
  rw [(h1 118 (by unfold qF; omega)).1, (h1 113 (by unfold qF; omega)).2, (h1 114 (by unfold qF; omega)).2, (h1 115 (by unfold qF; omega)).2, (h1 116 (by unfold qF; omega)).2, (h1 117 (by unfold qF; omega)).2, (h2 65 (by unfold qF; omega)).1, (h2 64 (by unfold qF; omega)).2, (h2 66 (by unfold qF; omega)).2, (h3 101 (by unfold qF; omega)).2, (h3 102 (by unfold qF; omega)).2, (h3 103 (by unfold qF; omega)).2, (h3 104 (by unfold qF; omega)).2, (h3 98 (by unfold qF; omega)).1, (h3 100 (by unfold qF; omega)).1, (h3 96 (by unfold qF; omega)).2, (h3 97 (by unfold qF; omega)).2, (h3 99 (by unfold qF; omega)).2]
  exact h
theorem PrS_o (hk : kdC S' q = kdC S q ∧ kdC S' lo = kdC S lo ∧ kdC S' pg = kdC S pg) (h1 : fR S' 119 q = fR S 119 q) (h2 : fR S' 120 q = fR S 120 q) (h3 : fI S' 112 q = fI S 112 q) (h : PrS S q v lo pg) : PrS S' q v lo pg := by
  unfold PrS at h ⊢
  rw [hk.1, hk.2.1, hk.2.2, h1, h2, h3]
  exact h
theorem PrS_kd (h : PrS S q v lo pg) : kdC S q ≠ 0 ∧ kdC S lo ≠ 0 ∧ kdC S pg ≠ 0 := by
  obtain ⟨h1, -, -, h4, h5, -⟩ := h
  exact ⟨by rw [h1]; decide, by rw [h4]; decide, by rw [h5]; decide⟩
theorem PrS_E {P : Nat → Prop} (g : Eqf P S S') (hP : P 119 ∧ P 120 ∧ P 112) (h : PrS S q v lo pg) : PrS S' q v lo pg := by
  obtain ⟨k1, k2, k3⟩ := PrS_kd h
  exact PrS_o ⟨(g q k1).1, (g lo k2).1, (g pg k3).1⟩ ((g q k1).2.2 119 hP.1).2.2.1 ((g q k1).2.2 120 hP.2.1).2.2.1 ((g q k1).2.2 112 hP.2.2).1 h
theorem PartOK_E {P : Nat → Prop} (g : Eqf P S S') (hP : ∀ f, qF f → P f) (hk : PrS S q v lo pg) (h : PartOK A S q v lo pg) : PartOK A S' q v lo pg := by
  obtain ⟨k1, k2, k3⟩ := PrS_kd hk
  refine PartOK_o (fun x hx f hf => ?_) h
  have kx : kdC S x ≠ 0 := by
    rcases hx with rfl | rfl | rfl
    · exact k1
    · exact k2
    · exact k3
  have := (g x kx).2.2 f (hP f hf)
  exact ⟨this.1, this.2.1⟩
theorem Jo_dn {m : Nat} (h : Jo o so po n w S A) (hm : m ≤ n) : Jo o so po m w S A := by
  obtain ⟨h1, h2, ⟨e, e1, e2⟩, h4⟩ := h
  exact ⟨h1, h2, ⟨e, by omega, e2⟩, h4⟩
theorem Jo_rsz {sz ns : Nat} (h : Jo o so po n w S A) : Jo o so po n w (rsz S sz ns) A := h
theorem Jo_rA (h : Jo o so po n w S A) : rA S A o so po := h.1
/-- something was told -/
theorem Jo_told (h : Jo o so po (n + 1) 4 S A) (hA : rA S' t o so po) (he : fI S' 199 so = fI S 199 so + 1) (g : Eqf fKp S S') : Jo o so po n 4 S' t := by
  obtain ⟨h1, ⟨h2, h3⟩, ⟨e, e1, e2, e3, e4⟩, h5, h6⟩ := h
  have ko : kdC S o ≠ 0 := by rw [rA_k h1]; decide
  have kp : kdC S po ≠ 0 := by rw [rA_kp h1]; decide
  have eL : fL S' 148 po = fL S 148 po := ((g po kp).2.2 148 (by unfold fKp; omega)).2.2.2.2.1
  have eC : fC S' 148 po = fC S 148 po := ((g po kp).2.2 148 (by unfold fKp; omega)).2.2.2.2.2
  have e150 : fI S' 150 po = fI S 150 po := ((g po kp).2.2 150 (by unfold fKp; omega)).1
  have eQ : fQ S' 226 o = fQ S 226 o := ((g o ko).2.2 226 (by unfold fKp; omega)).2.2.2.1
  have e199 : fI S' 199 so = nI (e + 1) := by rw [he, e2, nI_1]
  refine ⟨hA, ⟨?_, ?_⟩, ⟨e + 1, by omega, e199, by rw [e150]; exact eO_up e3 (Nat.le_succ e), fun v q hv hq => ?_⟩, fun z => ?_, fun v v2 q q2 hv hv2 hne hq hq2 => ?_⟩
  · unfold rowOk at h2 ⊢
    rw [eL]
    refine ⟨fun k hk => ?_, h2.2⟩
    have := h2.1 k hk
    exact (g _ (by rw [this]; decide)).1.trans this
  · unfold capOk at h3 ⊢
    rw [eL, eC]
    exact h3
  · rw [eQ] at hq
    obtain ⟨lo, pg, p1, p2, -⟩ := e4 v q hv hq
    have k1 := (PrS_kd p1).1
    have e121 : fI S' 121 q = fI S 121 q := ((g q k1).2.2 121 (by unfold fKp; omega)).1
    refine ⟨lo, pg, PrS_E g ⟨by unfold fKp; omega, by unfold fKp; omega, by unfold fKp; omega⟩ p1, by rw [e121]; exact eO_up p2 (Nat.le_succ e), fun _ z => ?_⟩
    rw [e121, e199] at z
    exact absurd z (eO_ne p2 (by omega))
  · rw [e150, e199] at z
    exact absurd z (eO_ne e3 (by omega))
  · rw [eQ] at hq hq2
    obtain ⟨lo, pg, p1, -, -⟩ := e4 v q hv hq
    obtain ⟨lo2, pg2, p12, -, -⟩ := e4 v2 q2 hv2 hq2
    have k1 := (PrS_kd p1).1
    have k2 := (PrS_kd p12).1
    rw [((g q k1).2.2 119 (by unfold fKp; omega)).2.2.1, ((g q k1).2.2 120 (by unfold fKp; omega)).2.2.1, ((g q2 k2).2.2 119 (by unfold fKp; omega)).2.2.1, ((g q2 k2).2.2 120 (by unfold fKp; omega)).2.2.1]
    exact h6 v v2 q q2 hv hv2 hne hq hq2
/-- it was played -/
theorem Jo_Rn {B : Nat × Nat} (h : Jo o so po n w S A) (hR : Rn S S' A o so po B) : Jo o so po n w S' A := by
  obtain ⟨h1, ⟨h2, h3⟩, ⟨e, e1, e2, e3, e4⟩, h5, h6⟩ := h
  obtain ⟨g, r2, r3, r4, r5, r6, r7, -, -⟩ := hR
  have ko : kdC S o ≠ 0 := by rw [rA_k h1]; decide
  have ks : kdC S so ≠ 0 := by rw [(rA_B h1).1]; decide
  have eQ : fQ S' 226 o = fQ S 226 o := ((g o ko).2.2 226 (by unfold fRn; omega)).2.2.2.1
  have e199 : fI S' 199 so = fI S 199 so := ((g so ks).2.2 199 (by unfold fRn; omega)).1
  have w1 := rA_M h1
  have h48 := zPl_len48 w1 (rA_T h1).2.1 (Nat.le_refl _)
  have hL : ∀ x, x ∈ zPl A (zN A) → x < zN A := zPl_lt w1 (rA_T h1).2.1 (Nat.le_refl _)
  have hTo := zTo_le w1 hL h48
  refine ⟨r2, ⟨r5, ?_⟩, ⟨e, e1, e199.trans e2, ?_, fun v q hv hq => ?_⟩, fun _ => r3, fun v v2 q q2 hv hv2 hne hq hq2 => ?_⟩
  · by_cases c : fI S 150 po = fI S 199 so
    · rw [r6 c]
      exact h3
    · obtain ⟨d, d1, d2, d3, -, -⟩ := r7 c
      obtain ⟨c1, c2, c3⟩ := h3
      obtain ⟨k1, k2, k3⟩ := ck_ok c1 c2 d
      refine ⟨?_, ?_, ?_⟩
      · rw [d3]
        exact k1
      · rw [d3, d1]
        exact k3
      · omega
  · rw [r4, e2]
    exact Or.inr ⟨e, Nat.le_refl _, rfl⟩
  · rw [eQ] at hq
    obtain ⟨lo, pg, p1, p2, p3⟩ := e4 v q hv hq
    have k1 := (PrS_kd p1).1
    have e121 : fI S' 121 q = fI S 121 q := ((g q k1).2.2 121 (by unfold fRn; omega)).1
    refine ⟨lo, pg, PrS_E g ⟨by unfold fRn; omega, by unfold fRn; omega, by unfold fRn; omega⟩ p1, by rw [e121]; exact p2, fun hw z => ?_⟩
    rw [e121, e199] at z
    exact ⟨r4.trans e199.symm, PartOK_E g (fun f hf => by unfold qF at hf; unfold fRn; omega) p1 (p3 hw z).2⟩
  · rw [eQ] at hq hq2
    obtain ⟨lo, pg, p1, -, -⟩ := e4 v q hv hq
    obtain ⟨lo2, pg2, p12, -, -⟩ := e4 v2 q2 hv2 hq2
    have k1 := (PrS_kd p1).1
    have k2 := (PrS_kd p12).1
    rw [((g q k1).2.2 119 (by unfold fRn; omega)).2.2.1, ((g q k1).2.2 120 (by unfold fRn; omega)).2.2.1, ((g q2 k2).2.2 119 (by unfold fRn; omega)).2.2.1, ((g q2 k2).2.2 120 (by unfold fRn; omega)).2.2.1]
    exact h6 v v2 q q2 hv hv2 hne hq hq2
theorem uP_q (h : fQ S' 226 o = fQ S 226 o) : uP S' o = uP S o := by
  unfold uP
  rw [h]
theorem Jp_J (h : Jp b o so po n S A) : Jo o so po n 4 S A := h.1
theorem Jp_A (h : Jp b o so po n S A) : rA S A o so po := h.1.1
theorem Jp_dn (h : Jp b o so po n S A) (hm : m ≤ n) : Jp b o so po m S A := by
  obtain ⟨h1, r1, r2⟩ := h
  refine ⟨Jo_dn h1 hm, ?_, ?_⟩
  · omega
  · have : 10 * m ≤ 10 * n := Nat.mul_le_mul_left 10 hm
    omega
theorem Jp_sz (hb : hB b B) (h : Jp b o so po (n + k) S A) : szC S + k ≤ B.1 ∧ nsC S + 10 * k ≤ B.2 := by
  obtain ⟨h1, r1, r2⟩ := h
  obtain ⟨c1, c2, c3⟩ := h1.2.1.2
  exact ⟨Nat.le_trans (Nat.le_add_right _ _) (la_1 hb.1 c2 c3 r1), Nat.le_trans (Nat.le_add_right _ _) (la_2 hb.2 c2 c3 r2)⟩
theorem Jp_rs (h : Jp b o so po (n + k) S A) {sz ns : Nat} (z1 : sz ≤ szC S + k) (z2 : ns ≤ nsC S + 10 * k) : Jp b o so po n (rsz S sz ns) A := by
  obtain ⟨h1, r1, r2⟩ := h
  refine ⟨Jo_rsz (Jo_dn h1 (Nat.le_add_right _ _)), ?_, ?_⟩
  · show sz + n + 20 * uP S o ≤ b.1 + (fL S 148 po).length + fC S 148 po
    omega
  · show ns + 10 * n + 660 * uP S o ≤ b.2 + 5 * (fL S 148 po).length + 4 * fC S 148 po
    omega
/-- something was told -/
theorem Jp_told (h : Jp b o so po (n + 100) S A) (hA : rA S' t o so po) (he : fI S' 199 so = fI S 199 so + 1) (g : Eqf fKp S S') (z1 : szC S' ≤ szC S + 100) (z2 : nsC S' ≤ nsC S + 1000) : Jp b o so po n S' t := by
  obtain ⟨h1, r1, r2⟩ := h
  have ko : kdC S o ≠ 0 := by rw [rA_k h1.1]; decide
  have kp : kdC S po ≠ 0 := by rw [rA_kp h1.1]; decide
  have eL : fL S' 148 po = fL S 148 po := ((g po kp).2.2 148 (by unfold fKp; omega)).2.2.2.2.1
  have eC : fC S' 148 po = fC S 148 po := ((g po kp).2.2 148 (by unfold fKp; omega)).2.2.2.2.2
  have eQ : fQ S' 226 o = fQ S 226 o := ((g o ko).2.2 226 (by unfold fKp; omega)).2.2.2.1
  refine ⟨Jo_told (Jo_dn h1 (Nat.add_le_add_left (by decide) n)) hA he g, ?_, ?_⟩
  · rw [eL, eC, uP_q eQ]
    omega
  · rw [eL, eC, uP_q eQ]
    omega
end JJ
/-! THE PLAYING -/
section PV
variable {b B : Nat × Nat} {o so po : Nat}
/-- the room that a call has, when the playing is renewed -/
def bX (S : CS) (A : MS) (so po : Nat) : Nat × Nat := if fI S 150 po = fI S 199 so then (szC S, nsC S) else (szC S + (max (fL S 148 po).length (zTo A (zPl A (zN A))) - (fL S 148 po).length) + (ck (fC S 148 po) (fL S 148 po).length (max (fL S 148 po).length (zTo A (zPl A (zN A))) - (fL S 148 po).length) - fC S 148 po), nsC S + 5 * (max (fL S 148 po).length (zTo A (zPl A (zN A))) - (fL S 148 po).length) + 4 * (ck (fC S 148 po) (fL S 148 po).length (max (fL S 148 po).length (zTo A (zPl A (zN A))) - (fL S 148 po).length) - fC S 148 po))
theorem bX_1 {S : CS} {A : MS} (h : fI S 150 po = fI S 199 so) : bX S A so po = (szC S, nsC S) := if_pos h
theorem bX_0 {S : CS} {A : MS} (h : ¬ fI S 150 po = fI S 199 so) : bX S A so po = (szC S + (max (fL S 148 po).length (zTo A (zPl A (zN A))) - (fL S 148 po).length) + (ck (fC S 148 po) (fL S 148 po).length (max (fL S 148 po).length (zTo A (zPl A (zN A))) - (fL S 148 po).length) - fC S 148 po), nsC S + 5 * (max (fL S 148 po).length (zTo A (zPl A (zN A))) - (fL S 148 po).length) + 4 * (ck (fC S 148 po) (fL S 148 po).length (max (fL S 148 po).length (zTo A (zPl A (zN A))) - (fL S 148 po).length) - fC S 148 po)) := if_neg h
theorem bX_ge {S : CS} {A : MS} : szC S ≤ (bX S A so po).1 ∧ nsC S ≤ (bX S A so po).2 := by
  by_cases c : fI S 150 po = fI S 199 so
  · rw [bX_1 c]
    exact ⟨Nat.le_refl _, Nat.le_refl _⟩
  · rw [bX_0 c]
    exact ⟨by dsimp only; omega, by dsimp only; omega⟩
theorem bX_lb {n k : Nat} {S : CS} {A : MS} (hb : hB b B) (h : Jp b o so po (n + k) S A) : (bX S A so po).1 + k + 20 * uP S o ≤ B.1 ∧ (bX S A so po).2 + 10 * k + 660 * uP S o ≤ B.2 := by
  obtain ⟨h1, r1, r2⟩ := h
  obtain ⟨c1, c2, c3⟩ := h1.2.1.2
  by_cases c : fI S 150 po = fI S 199 so
  · rw [bX_1 c]
    exact ⟨la_1 hb.1 c2 c3 r1, la_2 hb.2 c2 c3 r2⟩
  · rw [bX_0 c]
    have w1 := rA_M h1.1
    have h48 := zPl_len48 w1 (rA_T h1.1).2.1 (Nat.le_refl _)
    have hL : ∀ x, x ∈ zPl A (zN A) → x < zN A := zPl_lt w1 (rA_T h1.1).2.1 (Nat.le_refl _)
    have hTo := zTo_le w1 hL h48
    obtain ⟨k1, k2, k3⟩ := ck_ok c1 c2 (max (fL S 148 po).length (zTo A (zPl A (zN A))) - (fL S 148 po).length)
    exact ⟨la_3 hb.1 k2 k3 (by omega) r1, la_4 hb.2 k2 k3 (by omega) r2⟩
theorem bX_Pk {n w : Nat} {S : CS} {A : MS} (h : Jo o so po n w S A) : Pk S A so po (bX S A so po) := by
  obtain ⟨h1, ⟨h2, h3⟩, -, h5, -⟩ := h
  refine ⟨h2, h3, h5, bX_ge, fun c => ?_⟩
  rw [bX_0 c]
  exact ⟨Nat.le_refl _, Nat.le_refl _⟩
/-- how the row of sounds grew -/
def sG (S S' : CS) (A : MS) (so po : Nat) : Prop := (fI S 150 po = fI S 199 so → fL S' 148 po = fL S 148 po ∧ fC S' 148 po = fC S 148 po) ∧ (¬ fI S 150 po = fI S 199 so → ∃ d, (fL S' 148 po).length = (fL S 148 po).length + d ∧ (fL S 148 po).length + d = max (fL S 148 po).length (zTo A (zPl A (zN A))) ∧ fC S' 148 po = ck (fC S 148 po) (fL S 148 po).length d)
theorem sG_Rn {S S' : CS} {A : MS} {B : Nat × Nat} (hR : Rn S S' A o so po B) : sG S S' A so po := by
  obtain ⟨-, -, -, -, -, r6, r7, -, -⟩ := hR
  refine ⟨fun c => by rw [r6 c]; exact ⟨rfl, rfl⟩, fun c => ?_⟩
  obtain ⟨d, d1, d2, d3, -, -⟩ := r7 c
  exact ⟨d, d1, d2, d3⟩
theorem bX_Jr {n k : Nat} {S S' : CS} {A : MS} (h : Jp b o so po (n + k) S A) (hR : sG S S' A so po) {sz ns x : Nat} (hx : uP S' o + x = uP S o) (z1 : sz ≤ (bX S A so po).1 + 20 * x + k) (z2 : ns ≤ (bX S A so po).2 + 660 * x + 10 * k) : Jr b n (rsz S' sz ns) o po := by
  obtain ⟨h1, q1, q2⟩ := h
  obtain ⟨c1, c2, c3⟩ := h1.2.1.2
  obtain ⟨r6, r7⟩ := hR
  by_cases c : fI S 150 po = fI S 199 so
  · rw [bX_1 c] at z1 z2
    dsimp only at z1 z2
    obtain ⟨d1, d2⟩ := r6 c
    refine ⟨?_, ?_⟩
    · show sz + n + 20 * uP S' o ≤ b.1 + (fL S' 148 po).length + fC S' 148 po
      rw [d1, d2]
      omega
    · show ns + 10 * n + 660 * uP S' o ≤ b.2 + 5 * (fL S' 148 po).length + 4 * fC S' 148 po
      rw [d1, d2]
      omega
  · rw [bX_0 c] at z1 z2
    obtain ⟨d, d1, d2, d3⟩ := r7 c
    obtain ⟨k1, k2, k3⟩ := ck_ok c1 c2 d
    have ed : max (fL S 148 po).length (zTo A (zPl A (zN A))) - (fL S 148 po).length = d := by omega
    rw [ed] at z1 z2
    dsimp only at z1 z2
    refine ⟨?_, ?_⟩
    · show sz + n + 20 * uP S' o ≤ b.1 + (fL S' 148 po).length + fC S' 148 po
      rw [d1, d3]
      omega
    · show ns + 10 * n + 660 * uP S' o ≤ b.2 + 5 * (fL S' 148 po).length + 4 * fC S' 148 po
      rw [d1, d3]
      omega
theorem Jp_play {n : Nat} {S : CS} {A : MS} (hb : hB b B) (h : Jp b o so po (n + 1) S A) : Pk S A so po (bX S A so po) ∧ ((bX S A so po).1 + 1 ≤ B.1 ∧ (bX S A so po).2 + 10 ≤ B.2) ∧ ∀ (S' : CS) (sz ns : Nat), Rn S S' A o so po (bX S A so po) → sz ≤ (bX S A so po).1 + 1 → ns ≤ (bX S A so po).2 + 10 → Jp b o so po n (rsz S' sz ns) A := by
  have l := bX_lb hb h
  have hJ : Jo o so po n 4 S A := Jo_dn h.1 (Nat.le_succ n)
  refine ⟨bX_Pk hJ, ⟨by omega, by omega⟩, fun S' sz ns hR z1 z2 => ⟨Jo_rsz (Jo_Rn hJ hR), ?_⟩⟩
  have ko : kdC S o ≠ 0 := by rw [rA_k h.1.1]; decide
  have eQ : fQ S' 226 o = fQ S 226 o := ((hR.1 o ko).2.2 226 (by unfold fRn; omega)).2.2.2.1
  exact bX_Jr h (sG_Rn hR) (x := 0) (by rw [uP_q eQ]; rfl) (by omega) (by omega)
end PV
