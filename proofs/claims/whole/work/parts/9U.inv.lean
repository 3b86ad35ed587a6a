/-! THE INVARIANT -/
section GG
variable {A A' : MS} {S S' : CS} {o so po : Nat}
theorem Ag_sym (h : Ag A A') : Ag A' A := ⟨fun k hk => ⟨(h.1 k hk).1.symm, (h.1 k hk).2.symm⟩, h.2.symm⟩
theorem zN_g (h : Ag A A') : zN A' = zN A := by unfold zN; rw [(h.1 0 (by decide)).1]
theorem zL_g (h : Ag A A') : zL A' = zL A := by
  funext i
  unfold zL zB zU
  rw [(h.1 1 (by decide)).2, (h.1 2 (by decide)).2]
theorem zT_g (h : Ag A A') : zT A' = zT A := by
  funext i x
  unfold zT
  rw [zP_c (h.1 3 (by decide)).2]
theorem zTb_g (h : Ag A A') : zTb A' = zTb A := by
  funext i
  unfold zTb
  rw [zT_g h, zL_g h]
theorem zSt_g (h : Ag A A') : zSt A' = zSt A := by
  funext L p
  induction p with
  | zero => rfl
  | succ p ih =>
    show zSt A' L p + zTb A' (gn L p) = zSt A L p + zTb A (gn L p)
    rw [ih, zTb_g h]
theorem zAg_g (h : Ag A A') : zAg A' = zAg A := by
  funext b
  unfold zAg zG
  rw [zN_g h, (h.1 4 (by decide)).2, (h.1 5 (by decide)).2]
theorem zPl_g (h : Ag A A') : zPl A' = zPl A := by
  funext m
  induction m with
  | zero => rfl
  | succ m ih =>
    show zPl A' m ++ [m] ++ zAg A' m = zPl A m ++ [m] ++ zAg A m
    rw [ih, zAg_g h]
theorem zE_g (h : Ag A A') : zE A' = zE A := by
  funext v i
  unfold zE
  rw [(h.1 6 (by decide)).2]
theorem zS_g (h : Ag A A') : zS A' = zS A := zS_c (h.1 9 (by decide)).2 (h.1 10 (by decide)).2
theorem zHo_g (h : Ag A A') : zHo A' = zHo A := by
  funext x y
  unfold zHo
  rw [(h.1 12 (by decide)).2, (h.1 8 (by decide)).2]
theorem zGo_g (h : Ag A A') : zGo A' = zGo A := by
  funext L v p k
  unfold zGo
  rw [zHo_g h, zE_g h]
theorem zCu_g (h : Ag A A') : zCu A' = zCu A := by
  funext L v p k
  unfold zCu
  rw [zSt_g h, zT_g h, zS_g h]
theorem zSn_g (h : Ag A A') : zSn A' = zSn A := by
  funext L v p k s
  unfold zSn
  rw [zGo_g h, zCu_g h, (h.1 8 (by decide)).2]
theorem zSe_g (h : Ag A A') : zSe A' = zSe A := by
  funext L v p s k
  induction k with
  | zero => rfl
  | succ k ih =>
    show zSn A' L v p k (zSe A' L v p s k) = zSn A L v p k (zSe A L v p s k)
    rw [ih, zSn_g h]
theorem zSs_g (h : Ag A A') : zSs A' = zSs A := by
  funext L v p
  induction p with
  | zero => rfl
  | succ p ih =>
    show zSe A' L v p (zSs A' L v p) (zE A' v (gn L p)) = zSe A L v p (zSs A L v p) (zE A v (gn L p))
    rw [ih, zSe_g h, zE_g h]
theorem zTo_g (h : Ag A A') : zTo A' = zTo A := by
  funext L
  unfold zTo
  rw [zSs_g h]
theorem zLo_g (h : Ag A A') : zLo A' = zLo A := by
  funext v q
  induction q with
  | zero => rfl
  | succ q ih =>
    show (if q % 16 < zE A' v (q / 16) ∧ ¬ A'.2 11 (zp v (q / 16) (q % 16)) = -1 then A'.2 11 (zp v (q / 16) (q % 16)) else zLo A' v q) = (if q % 16 < zE A v (q / 16) ∧ ¬ A.2 11 (zp v (q / 16) (q % 16)) = -1 then A.2 11 (zp v (q / 16) (q % 16)) else zLo A v q)
    rw [ih, zE_g h, (h.1 11 (by decide)).2]
theorem PlayOK_g (h : Ag A A') (g : PlayOK A S po) : PlayOK A' S po := by
  unfold PlayOK plC sndG sFld at g ⊢
  rw [zN_g h, zPl_g h, zSt_g h, zSs_g h, zLo_g h, (h.1 8 (by decide)).2]
  exact g
theorem PlayOK_S (g : PlayOK A S po) (hL : fL S' = fL S) (hf : ∀ f, (144 ≤ f ∧ f ≤ 149) ∨ (208 ≤ f ∧ f ≤ 212) → fI S' f = fI S f ∧ fA S' f = fA S f) : PlayOK A S' po := by
  unfold PlayOK plC sndG sFld at g ⊢
  rw [hL, (hf 144 (by omega)).2, (hf 145 (by omega)).2, (hf 146 (by omega)).1, (hf 147 (by omega)).1, (hf 149 (by omega)).1, (hf 208 (by omega)).1, (hf 209 (by omega)).1, (hf 210 (by omega)).1, (hf 211 (by omega)).1, (hf 212 (by omega)).1]
  exact g
end GG
/-- an edition that was laid out: none, or one that was -/
def eO (x : Int32) (e : Nat) : Prop := x = -1 ∨ ∃ k, k ≤ e ∧ x = nI k
theorem eO_up {x : Int32} {e e2 : Nat} (h : eO x e) (g : e ≤ e2) : eO x e2 := h.elim Or.inl (fun ⟨k, k1, k2⟩ => Or.inr ⟨k, by omega, k2⟩)
theorem nI_m1 {a : Nat} (h : a < 2147483648) : ¬ (-1 : Int32) = nI a := fun z => by
  have : (-1 : Int32).toInt = (nI a).toInt := by rw [z]
  rw [nI_toInt (by omega)] at this
  have h2 : (-1 : Int32).toInt = -1 := by decide
  omega
theorem eO_ne {x : Int32} {e : Nat} (h : eO x e) (he : e < 600) : ¬ x = nI (e + 1) := by
  rcases h with h | ⟨k, k1, k2⟩
  · rw [h]
    exact nI_m1 (by omega)
  · rw [k2]
    exact fun z => by have := (nI_eq (by omega) (by omega)).mp z; omega
/-- the parts that were made; that of voice w needn't be laid -/
def pA (S : CS) (A : MS) (o so po e w : Nat) : Prop := ∀ v q, v < 4 → fQ S 226 o v = some q → ∃ lo pg, PrS S q v lo pg ∧ eO (fI S 121 q) e ∧ (v ≠ w → fI S 121 q = fI S 199 so → fI S 150 po = fI S 199 so ∧ PartOK A S q v lo pg)
def pD (S : CS) (o : Nat) : Prop := ∀ v v2 q q2, v < 4 → v2 < 4 → v ≠ v2 → fQ S 226 o v = some q → fQ S 226 o v2 = some q2 → fR S 119 q ≠ fR S 119 q2 ∧ fR S 120 q ≠ fR S 120 q2
def Jo (o so po n w : Nat) (S : CS) (A : MS) : Prop := rA S A o so po ∧ (rowOk S po ∧ capOk S po) ∧ (∃ e, e + n ≤ 512 ∧ fI S 199 so = nI e ∧ eO (fI S 150 po) e ∧ pA S A o so po e w) ∧ (fI S 150 po = fI S 199 so → PlayOK A S po) ∧ pD S o
def Jr (b : Nat × Nat) (n : Nat) (S : CS) (po : Nat) : Prop := szC S + 100 * n ≤ b.1 + (fL S 148 po).length + fC S 148 po ∧ nsC S + 2000 * n ≤ b.2 + 5 * (fL S 148 po).length + 4 * fC S 148 po
/-- what holds of class and model, n calls ahead of the end -/
def Iv (b : Nat × Nat) (o so po : Nat) (n : Nat) (S : CS) (t : MS) : Prop := ∃ A, Ag A t ∧ Jo o so po n 4 S A ∧ Jr b n S po
section JJ
variable {A A' t : MS} {S S' : CS} {o so po n w q v lo pg e : Nat}
theorem PartOK_o (hq : ∀ x, x = q ∨ x = lo ∨ x = pg → ∀ f, qF f → fI S' f x = fI S f x ∧ fA S' f x = fA S f x) (h : PartOK A S q v lo pg) : PartOK A S' q v lo pg := by
  have h1 : ∀ f, qF f → fI S' f q = fI S f q ∧ fA S' f q = fA S f q := hq q (Or.inl rfl)
  have h2 : ∀ f, qF f → fI S' f lo = fI S f lo ∧ fA S' f lo = fA S f lo := hq lo (Or.inr (Or.inl rfl))
  have h3 : ∀ f, qF f → fI S' f pg = fI S f pg ∧ fA S' f pg = fA S f pg := hq pg (Or.inr (Or.inr rfl))
  unfold PartOK iC lC pC at h ⊢
  rw [(h1 118 (by unfold qF; omega)).1, (h1 113 (by unfold qF; omega)).2, (h1 114 (by unfold qF; omega)).2, (h1 115 (by unfold qF; omega)).2, (h1 116 (by unfold qF; omega)).2, (h1 117 (by unfold qF; omega)).2, (h2 65 (by unfold qF; omega)).1, (h2 64 (by unfold qF; omega)).2, (h2 66 (by unfold qF; omega)).2, (h3 101 (by unfold qF; omega)).2, (h3 102 (by unfold qF; omega)).2, (h3 103 (by unfold qF; omega)).2, (h3 104 (by unfold qF; omega)).2, (h3 98 (by unfold qF; omega)).1, (h3 100 (by unfold qF; omega)).1, (h3 96 (by unfold qF; omega)).2, (h3 97 (by unfold qF; omega)).2, (h3 99 (by unfold qF; omega)).2]
  exact h
theorem PrS_o (hk : kdC S' q = kdC S q ∧ kdC S' lo = kdC S lo ∧ kdC S' pg = kdC S pg) (h1 : fR S' 119 q = fR S 119 q) (h2 : fR S' 120 q = fR S 120 q) (h3 : fI S' 112 q = fI S 112 q) (h : PrS S q v lo pg) : PrS S' q v lo pg := by
  unfold PrS at h ⊢
  rw [hk.1, hk.2.1, hk.2.2, h1, h2, h3]
  exact h
theorem PrS_kd (h : PrS S q v lo pg) : kdC S q ≠ 0 ∧ kdC S lo ≠ 0 ∧ kdC S pg ≠ 0 := by
  obtain ⟨h1, -, -, h4, h5, -⟩ := h
  exact ⟨by rw [h1]; decide, by rw [h4]; decide, by rw [h5]; decide⟩
theorem PrS_E {P : Nat → Prop} (g : Eqf P S S') (hP : P 119 ∧ P 120 ∧ P 112) (h : PrS S q v lo pg) : PrS S' q v lo pg := by
  obtain ⟨k1, k2, k3⟩ := PrS_kd h
  exact PrS_o ⟨(g q k1).1, (g lo k2).1, (g pg k3).1⟩ ((g q k1).2.2 119 hP.1).2.2.1 ((g q k1).2.2 120 hP.2.1).2.2.1 ((g q k1).2.2 112 hP.2.2).1 h
theorem PartOK_E {P : Nat → Prop} (g : Eqf P S S') (hP : ∀ f, qF f → P f) (hk : PrS S q v lo pg) (h : PartOK A S q v lo pg) : PartOK A S' q v lo pg := by
  obtain ⟨k1, k2, k3⟩ := PrS_kd hk
  refine PartOK_o (fun x hx f hf => ?_) h
  have kx : kdC S x ≠ 0 := by
    rcases hx with rfl | rfl | rfl
    · exact k1
    · exact k2
    · exact k3
  have := (g x kx).2.2 f (hP f hf)
  exact ⟨this.1, this.2.1⟩
theorem Jo_dn {m : Nat} (h : Jo o so po n w S A) (hm : m ≤ n) : Jo o so po m w S A := by
  obtain ⟨h1, h2, ⟨e, e1, e2⟩, h4⟩ := h
  exact ⟨h1, h2, ⟨e, by omega, e2⟩, h4⟩
theorem Jo_rsz {sz ns : Nat} (h : Jo o so po n w S A) : Jo o so po n w (rsz S sz ns) A := h
theorem Jo_rA (h : Jo o so po n w S A) : rA S A o so po := h.1
theorem Jr_rs {b : Nat × Nat} {sz ns : Nat} (h : Jr b (n + 1) S po) (h1 : sz ≤ szC S + 100) (h2 : ns ≤ nsC S + 2000) : Jr b n (rsz S sz ns) po := by
  obtain ⟨r1, r2⟩ := h
  exact ⟨by show sz + 100 * n ≤ b.1 + (fL S 148 po).length + fC S 148 po; omega, by show ns + 2000 * n ≤ b.2 + 5 * (fL S 148 po).length + 4 * fC S 148 po; omega⟩
theorem lb_1 {x b l s c n : Nat} (hb : b + 10000 ≤ l) (c2 : c ≤ 10 + 2 * s) (c3 : s ≤ 3072) (r : x + 100 * (n + 1) ≤ b + s + c) : x + 100 ≤ l := by omega
theorem lb_2 {x b l s c n : Nat} (hb : b + 42000 ≤ l) (c2 : c ≤ 10 + 2 * s) (c3 : s ≤ 3072) (r : x + 2000 * (n + 1) ≤ b + 5 * s + 4 * c) : x + 2000 ≤ l := by
  have h1 : 5 * s + 4 * c ≤ 42000 := by omega
  have h2 : x + 2000 ≤ x + 2000 * (n + 1) := Nat.add_le_add_left (Nat.le_mul_of_pos_right 2000 (Nat.succ_pos n)) x
  have h3 : b + 5 * s + 4 * c ≤ b + 42000 := by
    rw [Nat.add_assoc]
    exact Nat.add_le_add_left h1 b
  exact Nat.le_trans h2 (Nat.le_trans r (Nat.le_trans h3 hb))
theorem lb_3 {x b l s c n d K : Nat} (hb : b + 42000 ≤ l) (hK : c ≤ K) (hK2 : K ≤ 10 + 2 * (s + d)) (hsd : s + d ≤ 3072) (r : x + 2000 * (n + 1) ≤ b + 5 * s + 4 * c) : x + 5 * d + 4 * (K - c) + 2000 ≤ l := by
  have h1 : 5 * (s + d) + 4 * K ≤ 42000 := by omega
  have h2 : x + 2000 ≤ b + 5 * s + 4 * c := Nat.le_trans (Nat.add_le_add_left (Nat.le_mul_of_pos_right 2000 (Nat.succ_pos n)) x) r
  clear r
  have h3 : x + 5 * d + 4 * (K - c) + 2000 ≤ b + (5 * (s + d) + 4 * K) := by
    clear h1 hb hK2 hsd
    omega
  exact Nat.le_trans h3 (Nat.le_trans (Nat.add_le_add_left h1 b) hb)
theorem Jr_lb {b lb : Nat × Nat} (hb : b.1 + 10000 ≤ lb.1 ∧ b.2 + 42000 ≤ lb.2) (hc : capOk S po) (h : Jr b (n + 1) S po) : szC S + 100 ≤ lb.1 ∧ nsC S + 2000 ≤ lb.2 := ⟨lb_1 hb.1 hc.2.1 hc.2.2 h.1, lb_2 hb.2 hc.2.1 hc.2.2 h.2⟩
/-- something was told -/
theorem Jo_told (h : Jo o so po (n + 1) 4 S A) (hA : rA S' t o so po) (he : fI S' 199 so = fI S 199 so + 1) (g : Eqf fKp S S') : Jo o so po n 4 S' t := by
  obtain ⟨h1, ⟨h2, h3⟩, ⟨e, e1, e2, e3, e4⟩, h5, h6⟩ := h
  have ko : kdC S o ≠ 0 := by rw [rA_k h1]; decide
  have kp : kdC S po ≠ 0 := by rw [rA_kp h1]; decide
  have eL : fL S' 148 po = fL S 148 po := ((g po kp).2.2 148 (by unfold fKp; omega)).2.2.2.2.1
  have eC : fC S' 148 po = fC S 148 po := ((g po kp).2.2 148 (by unfold fKp; omega)).2.2.2.2.2
  have e150 : fI S' 150 po = fI S 150 po := ((g po kp).2.2 150 (by unfold fKp; omega)).1
  have eQ : fQ S' 226 o = fQ S 226 o := ((g o ko).2.2 226 (by unfold fKp; omega)).2.2.2.1
  have e199 : fI S' 199 so = nI (e + 1) := by rw [he, e2, nI_1]
  refine ⟨hA, ⟨?_, ?_⟩, ⟨e + 1, by omega, e199, by rw [e150]; exact eO_up e3 (Nat.le_succ e), fun v q hv hq => ?_⟩, fun z => ?_, fun v v2 q q2 hv hv2 hne hq hq2 => ?_⟩
  · unfold rowOk at h2 ⊢
    rw [eL]
    refine ⟨fun k hk => ?_, h2.2⟩
    have := h2.1 k hk
    exact (g _ (by rw [this]; decide)).1.trans this
  · unfold capOk at h3 ⊢
    rw [eL, eC]
    exact h3
  · rw [eQ] at hq
    obtain ⟨lo, pg, p1, p2, -⟩ := e4 v q hv hq
    have k1 := (PrS_kd p1).1
    have e121 : fI S' 121 q = fI S 121 q := ((g q k1).2.2 121 (by unfold fKp; omega)).1
    refine ⟨lo, pg, PrS_E g ⟨by unfold fKp; omega, by unfold fKp; omega, by unfold fKp; omega⟩ p1, by rw [e121]; exact eO_up p2 (Nat.le_succ e), fun _ z => ?_⟩
    rw [e121, e199] at z
    exact absurd z (eO_ne p2 (by omega))
  · rw [e150, e199] at z
    exact absurd z (eO_ne e3 (by omega))
  · rw [eQ] at hq hq2
    obtain ⟨lo, pg, p1, -, -⟩ := e4 v q hv hq
    obtain ⟨lo2, pg2, p12, -, -⟩ := e4 v2 q2 hv2 hq2
    have k1 := (PrS_kd p1).1
    have k2 := (PrS_kd p12).1
    rw [((g q k1).2.2 119 (by unfold fKp; omega)).2.2.1, ((g q k1).2.2 120 (by unfold fKp; omega)).2.2.1, ((g q2 k2).2.2 119 (by unfold fKp; omega)).2.2.1, ((g q2 k2).2.2 120 (by unfold fKp; omega)).2.2.1]
    exact h6 v v2 q q2 hv hv2 hne hq hq2
/-- it was played -/
theorem Jo_Rn {B : Nat × Nat} (h : Jo o so po n w S A) (hR : Rn S S' A o so po B) : Jo o so po n w S' A := by
  obtain ⟨h1, ⟨h2, h3⟩, ⟨e, e1, e2, e3, e4⟩, h5, h6⟩ := h
  obtain ⟨g, r2, r3, r4, r5, r6, r7, -, -⟩ := hR
  have ko : kdC S o ≠ 0 := by rw [rA_k h1]; decide
  have ks : kdC S so ≠ 0 := by rw [(rA_B h1).1]; decide
  have eQ : fQ S' 226 o = fQ S 226 o := ((g o ko).2.2 226 (by unfold fRn; omega)).2.2.2.1
  have e199 : fI S' 199 so = fI S 199 so := ((g so ks).2.2 199 (by unfold fRn; omega)).1
  have w1 := rA_M h1
  have h48 := zPl_len48 w1 (rA_T h1).2.1 (Nat.le_refl _)
  have hL : ∀ x, x ∈ zPl A (zN A) → x < zN A := zPl_lt w1 (rA_T h1).2.1 (Nat.le_refl _)
  have hTo := zTo_le w1 hL h48
  refine ⟨r2, ⟨r5, ?_⟩, ⟨e, e1, e199.trans e2, ?_, fun v q hv hq => ?_⟩, fun _ => r3, fun v v2 q q2 hv hv2 hne hq hq2 => ?_⟩
  · by_cases c : fI S 150 po = fI S 199 so
    · rw [r6 c]
      exact h3
    · obtain ⟨d, d1, d2, d3, -, -⟩ := r7 c
      obtain ⟨c1, c2, c3⟩ := h3
      obtain ⟨k1, k2, k3⟩ := ck_ok c1 c2 d
      refine ⟨?_, ?_, ?_⟩
      · rw [d3]
        exact k1
      · rw [d3, d1]
        exact k3
      · omega
  · rw [r4, e2]
    exact Or.inr ⟨e, Nat.le_refl _, rfl⟩
  · rw [eQ] at hq
    obtain ⟨lo, pg, p1, p2, p3⟩ := e4 v q hv hq
    have k1 := (PrS_kd p1).1
    have e121 : fI S' 121 q = fI S 121 q := ((g q k1).2.2 121 (by unfold fRn; omega)).1
    refine ⟨lo, pg, PrS_E g ⟨by unfold fRn; omega, by unfold fRn; omega, by unfold fRn; omega⟩ p1, by rw [e121]; exact p2, fun hw z => ?_⟩
    rw [e121, e199] at z
    exact ⟨r4.trans e199.symm, PartOK_E g (fun f hf => by unfold qF at hf; unfold fRn; omega) p1 (p3 hw z).2⟩
  · rw [eQ] at hq hq2
    obtain ⟨lo, pg, p1, -, -⟩ := e4 v q hv hq
    obtain ⟨lo2, pg2, p12, -, -⟩ := e4 v2 q2 hv2 hq2
    have k1 := (PrS_kd p1).1
    have k2 := (PrS_kd p12).1
    rw [((g q k1).2.2 119 (by unfold fRn; omega)).2.2.1, ((g q k1).2.2 120 (by unfold fRn; omega)).2.2.1, ((g q2 k2).2.2 119 (by unfold fRn; omega)).2.2.1, ((g q2 k2).2.2 120 (by unfold fRn; omega)).2.2.1]
    exact h6 v v2 q q2 hv hv2 hne hq hq2
end JJ
