/-! P57: CALLS THAT CHANGE SOMETHING (2) -/
def insA (t : MS) (v i j np : Nat) (pi kd fo : Int32) : MS := (t.1, fun f r =>
  if f = 6 then (if r = 24 * v + i then nI (zE t v i + 1) else t.2 6 r)
  else if f = 17 then (if r < np then t.2 17 r + mvD (t.2 15 r) (t.2 16 r) (t.2 17 r) (nI v) (nI i) (nI j) 1 else t.2 17 r)
  else if f = 19 then (if r < np then t.2 19 r + mvD (t.2 15 r) (t.2 18 r) (t.2 19 r) (nI v) (nI i) (nI j) 1 else t.2 19 r)
  else if 8 ≤ f ∧ f ≤ 12 then (if r = zp v i j then insV pi kd fo f else if zp v i j < r ∧ r ≤ zp v i (zE t v i) then t.2 f (r - 1) else t.2 f r)
  else t.2 f r)
theorem insA_ok {t : MS} {v i j np : Nat} {pi kd fo : Int32} : Ins t (insA t v i j np pi kd fo) v i j np pi kd fo := by
  refine ⟨fun _ _ => rfl, fun f h1 h2 h3 h4 => ?_, fun q => rfl, fun f q h1 h2 => ?_, fun k => ?_, fun k => ?_⟩
  · funext q
    exact (if_neg h1).trans ((if_neg h3).trans ((if_neg h4).trans (if_neg (by omega))))
  · exact (if_neg (by omega)).trans ((if_neg (by omega)).trans ((if_neg (by omega)).trans (if_pos ⟨h1, h2⟩)))
  · exact rfl
  · exact rfl
def remA (t : MS) (v i j np : Nat) : MS := (t.1, fun f r =>
  if f = 6 then (if r = 24 * v + i then nI (zE t v i - 1) else t.2 6 r)
  else if f = 17 then (if r < np then t.2 17 r + mvD (t.2 15 r) (t.2 16 r) (t.2 17 r) (nI v) (nI i) (nI (j + 1)) (-1) else t.2 17 r)
  else if f = 19 then (if r < np then t.2 19 r + mvD (t.2 15 r) (t.2 18 r) (t.2 19 r) (nI v) (nI i) (nI (j + 1)) (-1) else t.2 19 r)
  else if f = 20 then (if r < np then (if (¬ t.2 20 r = 0) ∨ (t.2 15 r = nI v ∧ ((t.2 16 r = nI i ∧ t.2 17 r = nI j) ∨ (t.2 18 r = nI i ∧ t.2 19 r = nI j))) then 1 else 0) else t.2 20 r)
  else if 8 ≤ f ∧ f ≤ 12 then (if zp v i j ≤ r ∧ r < zp v i (zE t v i - 1) then t.2 f (r + 1) else t.2 f r)
  else t.2 f r)
theorem remA_ok {t : MS} {v i j np : Nat} : Rem t (remA t v i j np) v i j np := by
  refine ⟨fun _ _ => rfl, fun f h1 h2 h3 h4 h5 => ?_, fun q => rfl, fun f q h1 h2 => ?_, fun k => ?_, fun k => ?_, fun k => ⟨fun hk => ?_, fun hk => ?_⟩⟩
  · funext q
    exact (if_neg h1).trans ((if_neg h3).trans ((if_neg h4).trans ((if_neg h5).trans (if_neg (by omega)))))
  · exact (if_neg (by omega)).trans ((if_neg (by omega)).trans ((if_neg (by omega)).trans ((if_neg (by omega)).trans (if_pos ⟨h1, h2⟩))))
  · exact rfl
  · exact rfl
  · refine ⟨fun z => ?_, fun z => ?_⟩
    · exact Eq.trans (b := if k < np then (if (¬ t.2 20 k = 0) ∨ (t.2 15 k = nI v ∧ ((t.2 16 k = nI i ∧ t.2 17 k = nI j) ∨ (t.2 18 k = nI i ∧ t.2 19 k = nI j))) then (1 : Int32) else 0) else t.2 20 k) rfl ((if_pos hk).trans (if_pos z))
    · exact Eq.trans (b := if k < np then (if (¬ t.2 20 k = 0) ∨ (t.2 15 k = nI v ∧ ((t.2 16 k = nI i ∧ t.2 17 k = nI j) ∨ (t.2 18 k = nI i ∧ t.2 19 k = nI j))) then (1 : Int32) else 0) else t.2 20 k) rfl ((if_pos hk).trans (if_neg z))
  · exact Eq.trans (b := if k < np then (if (¬ t.2 20 k = 0) ∨ (t.2 15 k = nI v ∧ ((t.2 16 k = nI i ∧ t.2 17 k = nI j) ∨ (t.2 18 k = nI i ∧ t.2 19 k = nI j))) then (1 : Int32) else 0) else t.2 20 k) rfl (if_neg (Nat.not_lt.mpr hk))
def abrA (t : MS) (c u : Int32) : MS := (fun k => if k = 0 then nI (zN t + 1) else t.1 k, fun f q =>
  if f = 1 then (if q = zN t then c else t.2 1 q) else if f = 2 then (if q = zN t then u else t.2 2 q) else if f = 3 then (if q = zN t then -1 else t.2 3 q) else if f = 4 then (if q = zN t then -1 else t.2 4 q) else t.2 f q)
theorem abrA_ok {t : MS} {c u : Int32} : Abr t (abrA t c u) c u := by
  refine ⟨fun k _ h2 => if_neg h2, rfl, fun f h1 h2 h3 h4 => ?_, fun q => rfl, fun q => ?_, fun q => ?_, fun q => ?_⟩
  · funext q
    exact (if_neg h1).trans ((if_neg h2).trans ((if_neg h3).trans (if_neg h4)))
  · exact rfl
  · exact rfl
  · exact rfl
def phA (t : MS) (np : Nat) (v a2 a3 a4 a5 : Int32) : MS := msI (msA (msA (msA (msA (msA (msI t 45 0) 15 (nI np) v) 16 (nI np) a2) 17 (nI np) a3) 18 (nI np) a4) 19 (nI np) a5) 14 (nI (np + 1))
section MV
variable {b B : Nat × Nat} {o so po n : Nat} {S : CS} {t : MS} {r : LR} {N : Int32 → LwS → Prop}
theorem mu_insert (hb : hB b B) (J : Jp b o so po (n + 100) S t) {a1 a2 a3 a4 a5 a6 : Int32} (hz0 : ∀ v i j kk ff x : Nat, v < 4 → i < zN t → j ≤ zE t v i → kk < 6 → ff < 3 → x ≤ 127 → a1 = nI v → a2 = nI i → a3 = nI j → a4 = nI x → a5 = nI kk → a6 = nI ff → ((¬ (a5 = 5)) ∨ (¬ (a6 = 1))) → insFit t v i a4 a5 a6 → ∀ S', Jp b o so po n S' (insA t v i j (aN (t.1 14)) a4 a5 a6) → N (nI (zL t i - (zS t v i (zE t v i) + aN (tk a5 a6)))) (S', r)) (h1 : ¬ ((¬ ((v_isVoice a1) = 0)) ∧ ((¬ ((v_in a4 0 127) = 0)) ∧ ((¬ ((v_in a5 0 5) = 0)) ∧ ((¬ ((v_in a6 0 2) = 0)) ∧ ((¬ (a5 = 5)) ∨ (¬ (a6 = 1))))))) → ∀ S', Jp b o so po n S' t → N (-1000002) (S', r)) (h2 : ((¬ ((v_isVoice a1) = 0)) ∧ ((¬ ((v_in a4 0 127) = 0)) ∧ ((¬ ((v_in a5 0 5) = 0)) ∧ ((¬ ((v_in a6 0 2) = 0)) ∧ ((¬ (a5 = 5)) ∨ (¬ (a6 = 1))))))) → (v_isBar a2 t = 0 ∨ v_in a3 0 (mgA t 6 (v_at a1 a2)) = 0) → ∀ S', Jp b o so po n S' t → N (-1000001) (S', r)) (h3 : ∀ v i : Nat, v < 4 → i < zN t → a1 = nI v → a2 = nI i → ¬ insFit t v i a4 a5 a6 → ∀ S', Jp b o so po n S' t → N (-1000003) (S', r)) : lcall B (S, r) (fun B1 K => w_L_insert B1 o a1 a2 a3 a4 a5 a6 (S, r) K) N := by
  obtain ⟨hr, hr2, hA, hn, hm⟩ := mu_0 hb J
  have hB := rA_B hA
  have hM := rA_M hA
  have hP := rA_P hA
  have h20 := hP.1
  have hn24 := hM.2.1
  have hso : kdC S so ≠ 0 := by rw [hB.1]; decide
  have ho : kdC S o ≠ 0 := by rw [hA.1]; decide
  have e14 : aN (t.1 14) = npS S so := by rw [hP.2.1, aN_nI (by omega)]
  have bad1 : ¬ ((¬ ((v_isVoice a1) = 0)) ∧ ((¬ ((v_in a4 0 127) = 0)) ∧ ((¬ ((v_in a5 0 5) = 0)) ∧ ((¬ ((v_in a6 0 2) = 0)) ∧ ((¬ (a5 = 5)) ∨ (¬ (a6 = 1))))))) → ∀ sz ns : Nat, sz ≤ szC S + 100 → ns ≤ nsC S + 1000 → N (-1000002) (rsz S sz ns, r) := fun hc sz ns hz3 hz4 => h1 hc _ (hn sz ns hz3 hz4)
  have bad2 : ((¬ ((v_isVoice a1) = 0)) ∧ ((¬ ((v_in a4 0 127) = 0)) ∧ ((¬ ((v_in a5 0 5) = 0)) ∧ ((¬ ((v_in a6 0 2) = 0)) ∧ ((¬ (a5 = 5)) ∨ (¬ (a6 = 1))))))) → (v_isBar a2 t = 0 ∨ v_in a3 0 (mgA t 6 (v_at a1 a2)) = 0) → ∀ sz ns : Nat, sz ≤ szC S + 100 → ns ≤ nsC S + 1000 → N (-1000001) (rsz S sz ns, r) := fun hc hno sz ns hz3 hz4 => h2 hc hno _ (hn sz ns hz3 hz4)
  refine ⟨(szC S + 100, nsC S + 1000), hr, hr2, rA_k hA, a_reqVoice rn_1 (fun v hv ev hz => a_reqRange rn_1 (fun p1 p2 => a_reqRange rn_1 (fun q1 q2 => a_reqRange rn_1 (fun f1 f2 => ⟨fun e => ⟨rn_1, fun sz ns => Or.inl ⟨rfl, bad1 (fun z => z.2.2.2.2.elim (fun z => z e.1) (fun z => z e.2)) sz ns⟩⟩, fun e => ⟨hA.1, a_B hA rn_1 (fun i hi ei hz2 => ?_) (fun hz2 sz ns => Or.inr (Or.inl ⟨rfl, bad2 ⟨hz, p1, q1, f1, ?_⟩ (Or.inl hz2) sz ns⟩))⟩⟩) (fun hc sz ns => Or.inl ⟨rfl, bad1 (fun z => z.2.2.2.1 hc) sz ns⟩)) (fun hc sz ns => Or.inl ⟨rfl, bad1 (fun z => z.2.2.1 hc) sz ns⟩)) (fun hc sz ns => Or.inl ⟨rfl, bad1 (fun z => z.2.1 hc) sz ns⟩)) (fun hc sz ns => Or.inl ⟨rfl, bad1 (fun z => z.1 hc) sz ns⟩)⟩
  case refine_2 =>
    by_cases e9 : a5 = 5
    · exact Or.inr (fun z => e ⟨e9, z⟩)
    · exact Or.inl e9
  have hcan : (¬ ((v_isVoice a1) = 0)) ∧ ((¬ ((v_in a4 0 127) = 0)) ∧ ((¬ ((v_in a5 0 5) = 0)) ∧ ((¬ ((v_in a6 0 2) = 0)) ∧ ((¬ (a5 = 5)) ∨ (¬ (a6 = 1)))))) := by
    refine ⟨hz, p1, q1, f1, ?_⟩
    by_cases e9 : a5 = 5
    · exact Or.inr (fun z => e ⟨e9, z⟩)
    · exact Or.inl e9
  obtain ⟨x, -, x2, ex⟩ := r_in (a := a4) (x := 0) (y := 127) (by decide) (by decide) p2
  obtain ⟨kk, -, kk2, ek⟩ := r_in (a := a5) (x := 0) (y := 5) (by decide) (by decide) q2
  obtain ⟨ff, -, ff2, ef⟩ := r_in (a := a6) (x := 0) (y := 2) (by decide) (by decide) f2
  have hkk : kk < 6 := by omega
  have hff : ff < 3 := by omega
  subst ev
  subst ei
  obtain ⟨r1, r2, r3⟩ := cc_rw hB hM hi hv
  have he16 := (z_r hM hi hv).1
  have e6 : mgA t 6 (v_at (nI v) (nI i)) = nI (zE t v i) := by
    rw [at_nI hv, Ag_A (Ag_rfl t) (f := 6) (by decide) (by omega)]
    exact (z_r hM hi hv).2.1
  have es : v_X8_size (rwL S so v i) S = nI (zE t v i) := congrArg nI (cc_e hB hM hi hv)
  have hout := n_out (a := a3) (n := zE t v i + 1) (by omega)
  rw [nI_pred] at hout
  have hB1 := hB
  rw [oG_so hA.2.1, r2, es, nI_1]
  refine ⟨ne_so hA.2.1, hB.1, r1, r3, r3, i_reqIdx rn_1 (fun hc => ?_) (fun hc sz ns => Or.inr (Or.inl ⟨rfl, bad2 hcan (Or.inr (by rw [e6]; exact hout.mp hc)) sz ns⟩))⟩
  have hc2 : ¬ a3 < 0 ∧ a3 < nI (zE t v i + 1) := ⟨fun z => hc (Or.inl z), Classical.byContradiction fun z => hc (Or.inr z)⟩
  obtain ⟨j, hj1, ej⟩ := n_ofNN (by omega) hc2.1 hc2.2
  have hz3 : ¬ v_in a3 0 (nI (zE t v i)) = 0 := fun z => hc (hout.mpr z)
  subst ej
  have hj : j ≤ zE t v i := by omega
  obtain ⟨l1, l2⟩ := cc_left hB hM hi hv
  obtain ⟨d1, d2⟩ := tk_c hkk hff
  rw [← ek, ← ef] at d1 d2
  obtain ⟨tk1, tk2, tk3⟩ := tk_ok hkk hff
  rw [← ek, ← ef] at tk1 tk2 tk3
  obtain ⟨wr1, wr2⟩ := wr_c hA hv (a := a4) (x := nI v)
  have hsL := z_sL hM hi hv (Nat.le_refl (zE t v i))
  have hL := z_len hM hi
  rw [oG_so hA.2.1, l2, d2, tk1, wr2, es]
  refine ⟨ne_so hA.2.1, hB.1, l1, d1, fun x18 hx18 => ⟨r3, fun _ _ => wr1, fun hno => ⟨rn_1, fun sz ns => ?_⟩, fun hyes => ?_⟩⟩
  · have hfit : ¬ insFit t v i a4 a5 a6 := by
      rintro ⟨g1, g2, g3⟩
      rcases hno with hno | hno | hno
      · exact absurd ((nI_leI (a := 16) (by decide) (by omega)).mp hno) (by omega)
      · rw [hx18, pk_sub (by omega)] at hno
        exact nI_pos (by omega) hno
      · exact g3 hno
    exact Or.inr (Or.inr ⟨rfl, fun hz4 hz5 => h3 v i hv hi rfl rfl hfit _ (hn sz ns hz4 hz5)⟩)
  · have hfit : insFit t v i a4 a5 a6 := by
      refine ⟨Classical.byContradiction fun z => hyes (Or.inl (nI_le (a := 16) (by omega) (by omega))), ?_, fun z => hyes (Or.inr (Or.inr z))⟩
      refine Classical.byContradiction fun z => hyes (Or.inr (Or.inl ?_))
      rw [hx18]
      exact pk_sneg (by omega) (by omega)
    have hs := hfit.2.1
    refine ⟨⟨Nat.add_le_add_left (by decide) _, Nat.add_le_add_left (by decide) _⟩, fun h0 t24 ht24 => ?_⟩
    subst ht24
    obtain ⟨e1, he1⟩ : ∃ e1, e1 = szC S := ⟨_, rfl⟩
    rw [← he1]
    have h0e : kdC S e1 = 0 := by rw [he1]; exact h0
    have kne : kdC (newO S 3) e1 = 3 := by
      rw [he1]
      exact va_up_self (kdC S) _ _
    refine ⟨kne, fun t2 ht2 t3 ht3 => ⟨d1, fun t5 ht5 t6 ht6 => ?_⟩⟩
    subst ht2
    subst ht3
    subst ht5
    subst ht6
    obtain ⟨S1, hS1⟩ : ∃ S1, S1 = usI (usI (usI (usI (newO S 3) 50 e1 a4) 49 e1 a6) 48 e1 (v_X0_ticksOf a5 a6)) 52 e1 (-1) := ⟨_, rfl⟩
    rw [← hS1]
    have hk1 : ∀ q, kdC S q ≠ 0 → kdC S1 q = kdC S q := fun q hq => by rw [hS1]; exact kd_new h0 hq
    have hke : kdC S1 e1 = 3 := by rw [hS1]; exact kne
    have hL1 : fL S1 = fL S := by rw [hS1]; rfl
    have hC1 : fC S1 = fC S := by rw [hS1]; rfl
    have hz1 : szC S1 = szC S + 1 := by rw [hS1]; rfl
    have hn1 : nsC S1 = nsC S + 6 := by rw [hS1]; rfl
    have hR := cc_row hB hM hi hv
    have hc5 : fC S1 176 (rwL S so v i) ≤ 500000 := by rw [hC1]; exact hR.2.2.2.2.2.2.1
    have hlen : (fL S1 176 (rwL S so v i)).length = zE t v i := by rw [hL1]; exact cc_e hB hM hi hv
    obtain ⟨p1', p2', p3'⟩ := cap_le (S := S1) (f := 176) (o := rwL S so v i)
    rw [hlen] at p2' p3'
    have krow : kdC S (rwL S so v i) ≠ 0 := by rw [r3]; decide
    have hmem : ∀ y, y ∈ fL S1 176 (rwL S so v i) → kdC S1 y = cEK 176 := fun y hy => by
      rw [hL1] at hy
      obtain ⟨k, k1, k2⟩ := gl_mem hy
      have k1' : k < zE t v i := by rw [← cc_e hB hM hi hv]; exact k1
      have k3 := (cc_ev hB hM hi hv k1').2.2.1
      have k4 : evL S so v i k = y := k2
      rw [k4] at k3
      rw [hk1 y (by rw [k3]; decide), k3]
      rfl
    have gE1 : ∀ P : Nat → Prop, Eqf P S S1 := fun P => by
      rw [hS1]
      exact Eqf_usI (Eqf_usI (Eqf_usI (Eqf_usI (Eqf_newO Eqf_rfl h0) (Or.inr h0e)) (Or.inr h0e)) (Or.inr h0e)) (Or.inr h0e)
    have ecj : (nI j).toNatClampNeg = j := nI_clamp (by omega)
    unfold w_X8_putIn
    rw [hlen, ecj]
    refine ⟨(hk1 _ krow).trans r3, by omega, vp_nI (by omega) (by omega), ⟨hc5, hmem⟩, hke, ⟨?_, ?_⟩, fun sz7 ns7 z1 z2 z3 t8 ht8 t9 ht9 => ?_⟩
    · show szC S1 + lcA S1 176 (rwL S so v i) ≤ e1 + 100
      omega
    · show nsC S1 + lcS S1 176 (rwL S so v i) ≤ nsC S + 1000
      omega
    have hs9 : fR t9 224 o = some so := by
      rw [ht9, ht8]
      exact (((gE1 (fun _ => True) o ho).2.2 224 trivial).2.2.1).trans hA.2.1
    have hk9 : kdC t9 so = 12 := by
      rw [ht9, ht8]
      exact (hk1 so hso).trans hB.1
    refine i_ed hs9 hk9 ?_
    intro hzz1 hzz2
    have hIns : Ins t (insA t v i j (npS S so) a4 a5 a6) v i j (npS S so) a4 a5 a6 := insA_ok
    have ex18 : x18 = nI (zL t i - (zS t v i (zE t v i) + aN (tk a5 a6))) := by
      rw [hx18, pk_sub (by omega), Nat.sub_sub]
    have gE : ∀ P : Nat → Prop, ¬ P 176 → ¬ P 177 → ¬ P 199 → Eqf P S (usI t9 199 so (fI t9 199 so + 1)) := fun P g1 g2 g3 => by
      rw [ht9, ht8]
      exact Eqf_usI (Eqf_usI (Eqf_usL (gE1 P) (Or.inl g1)) (Or.inl g2)) (Or.inl g3)
    have old1 : ∀ f q, kdC S q ≠ 0 → fI S1 f q = fI S f q ∧ fL S1 f q = fL S f q ∧ fC S1 f q = fC S f q := fun f q hq => by
      have g := (gE1 (fun _ => True) q hq).2.2 f trivial
      exact ⟨g.1, g.2.2.2.2.1, g.2.2.2.2.2⟩
    have new1 : fI S1 50 e1 = a4 ∧ fI S1 49 e1 = a6 ∧ fI S1 48 e1 = tk a5 a6 ∧ fI S1 52 e1 = -1 ∧ fI S1 51 e1 = 0 := by
      rw [hS1]
      refine ⟨?_, ?_, ?_, ?_, ?_⟩
      · rw [fI_ne (by decide), fI_ne (by decide), fI_ne (by decide), fI_at, if_pos rfl]
      · rw [fI_ne (by decide), fI_ne (by decide), fI_at, if_pos rfl]
      · rw [fI_ne (by decide), fI_at, if_pos rfl]
        exact d2
      · rw [fI_at, if_pos rfl]
      · rw [fI_ne (by decide), fI_ne (by decide), fI_ne (by decide), fI_ne (by decide)]
        show (if e1 = szC S then 0 else fI S 51 e1) = 0
        rw [if_pos he1]
    have new9 : ∀ f, f ≠ 177 → f ≠ 199 → fI (usI t9 199 so (fI t9 199 so + 1)) f e1 = fI S1 f e1 := fun f g1 g2 => by
      rw [fI_ne g2, ht9, fI_ne g1, ht8]
      rfl
    rw [ex18]
    refine hz0 v i j kk ff x hv hi hj hkk hff x2 rfl rfl rfl ex ek ef hcan.2.2.2.2 hfit _ ?_
    rw [e14]
    refine hm _ _ ?_ ?_ (gE _ (by unfold fKp; decide) (by unfold fKp; decide) (by unfold fKp; decide)) ?_ ?_
    · refine rA_ins hA hv hi hj hfit.1 hkk hff ek ef ex x2 hs rfl (gE _ (fun z => z.1 rfl) (fun z => z.2.1 rfl) (fun z => z.2.2 rfl)) (fun q hq => ?_) (fun q hq g1 g2 => ?_) (fun q hq => ?_) h0e ?_ ((new9 50 (by decide) (by decide)).trans new1.1) ((new9 49 (by decide) (by decide)).trans new1.2.1) ((new9 48 (by decide) (by decide)).trans new1.2.2.1) ((new9 52 (by decide) (by decide)).trans new1.2.2.2.1) ((new9 51 (by decide) (by decide)).trans new1.2.2.2.2) hIns
      · rw [ht9, ht8]
        show up2 (fL S1) 176 (rwL S so v i) (l_ins (fL S1 176 (rwL S so v i)) j e1) 176 q = _
        by_cases e9 : q = rwL S so v i
        · rw [e9, up2_is, if_pos rfl, hL1]
        · rw [up2_no (fun z => e9 z.2), if_neg e9, hL1]
      · rw [ht9, ht8]
        show up2 (fC S1) 176 (rwL S so v i) _ 176 q ≤ 500000
        by_cases e9 : q = rwL S so v i
        · rw [e9, up2_is]
          exact p3' hc5 (by omega)
        · rw [up2_no (fun z => e9 z.2), hC1]
          exact g1
      · rw [fI_ne (by decide), ht9, fI_at, ht8]
        show (if q = rwL S so v i then fI S1 177 (rwL S so v i) + fI S1 48 e1 else fI S1 177 q) = _
        rw [new1.2.2.1, (old1 177 q hq).1, (old1 177 _ krow).1]
      · show kdC t9 e1 = 3
        rw [ht9, ht8]
        exact hke
    · rw [ed_at, ht9, fI_ne (by decide), ht8, s_usL_fI, (old1 199 so hso).1]
    · rw [← he1]
      exact hzz1
    · exact hzz2
theorem mu_remove (hb : hB b B) (J : Jp b o so po (n + 100) S t) {v i j : Nat} (hv : v < 4) (hi : i < zN t) (hj : j < zE t v i) (h : ∀ S', Jp b o so po n S' (remA t v i j (aN (t.1 14))) → N (nI (zK t v i j)) (S', r)) : lcall B (S, r) (fun B1 K => w_L_remove B1 o (nI v) (nI i) (nI j) (S, r) K) N := by
  obtain ⟨hr, hr2, hA, hn, hm⟩ := mu_0 hb J
  have hB := rA_B hA
  have hM := rA_M hA
  have hP := rA_P hA
  have h20 := hP.1
  have hn24 := hM.2.1
  have hso : kdC S so ≠ 0 := by rw [hB.1]; decide
  refine ⟨(szC S + 100, nsC S + 1000), hr, hr2, rA_k hA, rA_k hA, a_Ek hA rn_1 hv hi hj (fun q1 q2 q3 => ?_)⟩
  · have e14 : aN (t.1 14) = npS S so := by rw [hP.2.1, aN_nI (by omega)]
    obtain ⟨r1, r2, r3⟩ := cc_rw hB hM hi hv
    have he16 := (z_r hM hi hv).1
    have hR := cc_row hB hM hi hv
    have ecj : (nI j).toNatClampNeg = j := nI_clamp (by omega)
    have e48 : fI S 48 (evL S so v i j) = nI (zK t v i j) := q3.2.2.2.2.2.1.trans (z_k hM hi hv hj).1
    have hmem : ∀ y, y ∈ fL S 176 (rwL S so v i) → kdC S y = cEK 176 := fun y hy => by
      obtain ⟨k, k1, k2⟩ := gl_mem hy
      have k1' : k < zE t v i := by rw [← cc_e hB hM hi hv]; exact k1
      have k3 := (cc_ev hB hM hi hv k1').2.2.1
      have k4 : evL S so v i k = y := k2
      rw [k4] at k3
      exact k3
    rw [oG_so hA.2.1, r2]
    unfold w_X8_takeOut
    rw [q2, e48, ecj]
    refine ⟨ne_so hA.2.1, hB.1, r1, r3, r3, q1, q3.1, fun t4 ht4 => ⟨?_, ?_, fun t7 ht7 => ?_⟩⟩
    · rw [ht4]
      exact ⟨hR.2.2.2.2.2.2.1, hmem⟩
    · rw [ht4]
      exact q1
    have hL7 : fL t7 = up2 (fL S) 176 (rwL S so v i) ((fL S 176 (rwL S so v i)).eraseIdx j) := by
      rw [ht7, ht4]
      rfl
    have hk7 : kdC t7 = kdC S := by rw [ht7, ht4]; rfl
    have hR7 : fR t7 = fR S := by rw [ht7, ht4]; rfl
    have hI7 : ∀ f, f ≠ 177 → fI t7 f = fI S f := fun f hf => by
      rw [ht7, s_usL_fI, ht4, fI_ne hf]
    have hs7 : fR t7 224 o = some so := by rw [hR7]; exact hA.2.1
    have hL193 : fL t7 193 so = fL S 193 so := by
      rw [hL7, up2_no (fun z => absurd z.1 (by decide))]
    have hz7 : szC t7 = szC S ∧ nsC t7 = nsC S := by rw [ht7, ht4]; exact ⟨rfl, rfl⟩
    dsimp only
    rw [oG_so hs7]
    refine ⟨ne_so hs7, by rw [hk7]; exact hB.1, ?_⟩
    refine lp_for (fun k z => z.1 = nI k ∧ (kdC z.2 = kdC t7 ∧ fA z.2 = fA t7 ∧ fJ z.2 = fJ t7 ∧ fR z.2 = fR t7 ∧ fQ z.2 = fQ t7 ∧ fL z.2 = fL t7 ∧ fC z.2 = fC t7 ∧ szC z.2 = szC t7 ∧ nsC z.2 = nsC t7 ∧ ∀ f, f ≠ 133 → fI z.2 f = fI t7 f) ∧ ∀ k2, k2 < npS S so → (k2 < k ∧ (fR S 131 (phL S so k2) = some (evL S so v i j) ∨ fR S 132 (phL S so k2) = some (evL S so v i j)) → fI z.2 133 (phL S so k2) = 1) ∧ (¬ (k2 < k ∧ (fR S 131 (phL S so k2) = some (evL S so v i j) ∨ fR S 132 (phL S so k2) = some (evL S so v i j))) → fI z.2 133 (phL S so k2) = fI S 133 (phL S so k2))) (npS S so) ?_ ?_ 0 (Nat.zero_le _) (0, t7) ⟨rfl, ⟨rfl, rfl, rfl, rfl, rfl, rfl, rfl, rfl, rfl, fun _ _ => rfl⟩, fun k2 _ => ⟨fun z => absurd z.1 (Nat.not_lt_zero _), fun _ => by rw [hI7 133 (by decide)]⟩⟩
    · intro k hk K z hz9 hK
      obtain ⟨z1, u⟩ := z
      obtain ⟨hz1, ⟨u1, u2, u3, u4, u5, u6, u7, u8, u9, u10⟩, u11⟩ := hz9
      dsimp only at hz1 u1 u2 u3 u4 u5 u6 u7 u8 u9 u10 u11
      subst hz1
      obtain ⟨p1, p2, p3⟩ := cc_ph hP hk
      obtain ⟨d1, d2, d3, d4, d5, d6, d7, d8, d9⟩ := p3
      have eL : fL u 193 so = fL S 193 so := by rw [u6]; exact hL193
      have eG : lG u 193 so (nI k) = phL S so k := by
        unfold lG
        rw [eL]
        exact p2
      have eI : lIn u 193 so (nI k) := by
        unfold lIn
        rw [eL]
        exact p1
      have ek : kdC u = kdC S := u1.trans hk7
      have eR : fR u = fR S := u4.trans hR7
      unfold w_X9_dropPhrasesAt_L2
      dsimp only
      rw [eL, eG]
      have s131 : some (oG (fR S 131 (phL S so k))) = fR S 131 (phL S so k) := by
        cases h9 : fR S 131 (phL S so k) with
        | none => exact absurd h9 d7
        | some x => rfl
      have s132 : some (oG (fR S 132 (phL S so k))) = fR S 132 (phL S so k) := by
        cases h9 : fR S 132 (phL S so k) with
        | none => exact absurd h9 d8
        | some x => rfl
      have ehe : v_X5_hasEnd (phL S so k) (evL S so v i j) u = 0 ↔ ¬ (fR S 131 (phL S so k) = some (evL S so v i j) ∨ fR S 132 (phL S so k) = some (evL S so v i j)) := by
        unfold v_X5_hasEnd
        rw [eR, s131, s132]
        by_cases c : fR S 131 (phL S so k) = some (evL S so v i j) ∨ fR S 132 (phL S so k) = some (evL S so v i j)
        · rw [if_pos c]
          exact ⟨fun z => absurd z one_ne, fun z => absurd c z⟩
        · rw [if_neg c]
          exact ⟨fun _ => c, fun _ => rfl⟩
      have ehd : d_X5_hasEnd (phL S so k) (evL S so v i j) u := ⟨by rw [ek]; exact d1, by rw [eR]; exact d7, fun _ => by rw [eR]; exact d8⟩
      rw [nI_1]
      refine ⟨by rw [ek]; exact hB.1, fun h9 => absurd h9 (nI_ge (b := npS S so) hk (by omega)), fun _ => ⟨eI, by rw [ek]; exact d1, ehd, fun u' => K (nI (k + 1), u'), fun _ h => h, fun hne => hK _ ?_, fun hne => ⟨eI, fun u' hu' => hK _ ?_⟩⟩⟩
      · have hne' := ehe.mp hne
        refine ⟨rfl, ⟨u1, u2, u3, u4, u5, u6, u7, u8, u9, u10⟩, fun k2 hk2 => ⟨fun z => ?_, fun z => ?_⟩⟩
        · refine (u11 k2 hk2).1 ⟨?_, z.2⟩
          by_cases e9 : k2 = k
          · rw [e9] at z
            exact absurd z.2 hne'
          · omega
        · exact (u11 k2 hk2).2 (fun z9 => z ⟨by omega, z9.2⟩)
      · have hne' : fR S 131 (phL S so k) = some (evL S so v i j) ∨ fR S 132 (phL S so k) = some (evL S so v i j) := Classical.byContradiction fun z => hne (ehe.mpr z)
        refine ⟨rfl, by rw [hu']; exact ⟨u1, u2, u3, u4, u5, u6, u7, u8, u9, fun f hf => (fI_ne hf).trans (u10 f hf)⟩, fun k2 hk2 => ?_⟩
        dsimp only
        rw [hu', fI_at]
        by_cases e9 : k2 = k
        · rw [if_pos (by rw [e9])]
          exact ⟨fun _ => rfl, fun z => absurd ⟨by omega, by rw [e9]; exact hne'⟩ z⟩
        · have nph : ¬ phL S so k2 = phL S so k := fun z => e9 (hP.2.2.2.2.1 k2 k hk2 hk z)
          rw [if_neg nph]
          exact ⟨fun z => (u11 k2 hk2).1 ⟨by omega, z.2⟩, fun z => (u11 k2 hk2).2 (fun z9 => z ⟨by omega, z9.2⟩)⟩
    · intro K z hz9
      obtain ⟨z1, u⟩ := z
      obtain ⟨hz1, ⟨u1, u2, u3, u4, u5, u6, u7, u8, u9, u10⟩, u11⟩ := hz9
      dsimp only at hz1 u1 u2 u3 u4 u5 u6 u7 u8 u9 u10 u11
      subst hz1
      have eL : fL u 193 so = fL S 193 so := by rw [u6]; exact hL193
      have ek : kdC u = kdC S := u1.trans hk7
      have eR : fR u = fR S := u4.trans hR7
      unfold w_X9_dropPhrasesAt_L2
      dsimp only
      rw [eL]
      refine ⟨by rw [ek]; exact hB.1, fun _ => ?_, fun h9 => absurd (nI_le (Nat.le_refl (npS S so)) (by omega)) h9⟩
      have hsu : fR u 224 o = some so := by rw [eR]; exact hA.2.1
      rw [oG_so hsu]
      refine ⟨ne_so hsu, by rw [ek]; exact hB.1, fun t13 ht13 => ?_⟩
      have e48' : fI t13 48 (evL S so v i j) = nI (zK t v i j) := by
        rw [ht13, fI_ne (by decide), u10 48 (by decide), hI7 48 (by decide)]
        exact e48
      rw [e48']
      refine ⟨by rw [ht13]; show kdC u _ = 3; rw [ek]; exact q3.1, ?_⟩
      intro hzz1 hzz2
      have hRem : Rem t (remA t v i j (npS S so)) v i j (npS S so) := remA_ok
      refine h _ ?_
      rw [e14]
      refine hm _ _ ?_ ?_ ?_ ?_ ?_
      · have fC7 : fC t7 = up2 (fC S) 176 (rwL S so v i) (fC S 176 (rwL S so v i)) := by
          rw [ht7, ht4]
          rfl
        refine rA_rem hA hv hi hj rfl ?_ (fun q hq => ?_) (fun q hq => ?_) (fun q hq => ?_) (fun k hk => ?_) hRem
        · intro q hq
          refine ⟨by rw [ht13]; exact congrFun ek q, fun _ => by rw [ht13]; show fJ u q = _; rw [u3, ht7, ht4]; rfl, fun f hf => ⟨?_, ?_, ?_, ?_, ?_, ?_⟩⟩
          · rw [ht13, fI_ne hf.2.2.1, u10 f hf.2.2.2, hI7 f hf.2.1]
          · rw [ht13]
            show fA u f q = _
            rw [u2, ht7, ht4]
            rfl
          · rw [ht13]
            show fR u f q = _
            rw [eR]
          · rw [ht13]
            show fQ u f q = _
            rw [u5, ht7, ht4]
            rfl
          · rw [ht13]
            show fL u f q = _
            rw [u6, hL7, up2_no (fun z => hf.1 z.1)]
          · rw [ht13]
            show fC u f q = _
            rw [u7, fC7, up2_no (fun z => hf.1 z.1)]
        · rw [ht13]
          show fL u 176 q = _
          rw [u6, hL7]
          by_cases e9 : q = rwL S so v i
          · rw [e9, up2_is, if_pos rfl]
          · rw [up2_no (fun z => e9 z.2), if_neg e9]
        · rw [ht13]
          show fC u 176 q = _
          rw [u7, fC7]
          by_cases e9 : q = rwL S so v i
          · rw [e9, up2_is]
          · rw [up2_no (fun z => e9 z.2)]
        · rw [ht13, fI_ne (by decide), u10 177 (by decide), ht7, s_usL_fI, ht4, fI_at]
        · rw [ht13, fI_ne (by decide)]
          obtain ⟨d1, d2, d3, d4, d5, d6, d7, d8, d9⟩ := hP.2.2.2.1 k hk
          have h20' := (hRem.2.2.2.2.2.2 k).1 hk
          by_cases c : fR S 131 (phL S so k) = some (evL S so v i j) ∨ fR S 132 (phL S so k) = some (evL S so v i j)
          · rw [(u11 k hk).1 ⟨hk, c⟩]
            refine (h20'.1 ?_).symm
            by_cases z0 : t.2 20 k = 0
            · obtain ⟨v2, i2, j2, i3, j3, f1, f2, f3, f4, f5, f6, f7, f8, f9, f10, f11, f12⟩ := d9 z0
              have inj : ∀ v2 i2 j2, i2 < zN t → v2 < 4 → j2 < zE t v2 i2 → evL S so v2 i2 j2 = evL S so v i j → v2 = v ∧ i2 = i ∧ j2 = j := fun v2 i2 j2 g1 g2 g3 g4 => hB.2.2.2.2.2.2.2 v2 i2 j2 v i j (by rw [cc_n hB hM]; exact g1) (by rw [cc_n hB hM]; exact hi) g2 hv (by rw [cc_e hB hM g1 g2]; exact g3) (by rw [cc_e hB hM hi hv]; exact hj) g4
              refine Or.inr ?_
              rw [f11, f12] at c
              rcases c with c | c
              · obtain ⟨g1, g2, g3⟩ := inj v2 i2 j2 f2 f1 f3 (Option.some.inj c)
                exact ⟨by rw [f6, g1], Or.inl ⟨by rw [f7, g2], by rw [f8, g3]⟩⟩
              · obtain ⟨g1, g2, g3⟩ := inj v2 i3 j3 f4 f1 f5 (Option.some.inj c)
                exact ⟨by rw [f6, g1], Or.inr ⟨by rw [f9, g2], by rw [f10, g3]⟩⟩
            · exact Or.inl z0
          · rw [(u11 k hk).2 (fun z => c z.2), d5]
            by_cases z0 : t.2 20 k = 0
            · rw [z0]
              refine (h20'.2 (fun z => ?_)).symm
              rcases z with z | z
              · exact z z0
              · obtain ⟨v2, i2, j2, i3, j3, f1, f2, f3, f4, f5, f6, f7, f8, f9, f10, f11, f12⟩ := d9 z0
                refine c ?_
                have E2 := (z_r hM f2 f1).1
                have E3 := (z_r hM f4 f1).1
                rw [f6, f7, f8, f9, f10] at z
                obtain ⟨g1, g2⟩ := z
                have g1' : v2 = v := (nI_eq (by omega) (by omega)).mp g1
                rcases g2 with ⟨g2, g3⟩ | ⟨g2, g3⟩
                · refine Or.inl ?_
                  rw [f11, g1', (nI_eq (by omega) (by omega)).mp g2, (nI_eq (by omega) (by omega)).mp g3]
                · refine Or.inr ?_
                  rw [f12, g1', (nI_eq (by omega) (by omega)).mp g2, (nI_eq (by omega) (by omega)).mp g3]
            · rw [h20'.1 (Or.inl z0)]
              exact d6.resolve_left z0
      · rw [ht13, ed_at, u10 199 (by decide), hI7 199 (by decide)]
      · intro q hq
        refine ⟨by rw [ht13]; exact congrFun ek q, fun _ => by rw [ht13]; show fJ u q = _; rw [u3, ht7, ht4]; rfl, fun f hf => ?_⟩
        have hf' : f ≠ 176 ∧ f ≠ 177 ∧ f ≠ 199 ∧ f ≠ 133 := by unfold fKp at hf; omega
        refine ⟨?_, ?_, ?_, ?_, ?_, ?_⟩
        · rw [ht13, fI_ne hf'.2.2.1, u10 f hf'.2.2.2, hI7 f hf'.2.1]
        · rw [ht13]
          show fA u f q = _
          rw [u2, ht7, ht4]
          rfl
        · rw [ht13]
          show fR u f q = _
          rw [eR]
        · rw [ht13]
          show fQ u f q = _
          rw [u5, ht7, ht4]
          rfl
        · rw [ht13]
          show fL u f q = _
          rw [u6, hL7, up2_no (fun z => hf'.1 z.1)]
        · rw [ht13]
          show fC u f q = _
          rw [u7, ht7, ht4]
          show up2 (fC S) 176 (rwL S so v i) (fC S 176 (rwL S so v i)) f q = _
          rw [up2_no (fun z => hf'.1 z.1)]
      · exact hzz1
      · exact hzz2
theorem mu_addBar (hb : hB b B) (J : Jp b o so po (n + 100) S t) {a1 a2 : Int32} (hz0 : ∀ c u : Nat, 1 ≤ c → c ≤ 9 → (u = 2 ∨ u = 4 ∨ u = 8) → a1 = nI c → a2 = nI u → zN t < 24 → ∀ S', Jp b o so po n S' (abrA t a1 a2) → N (nI (zN t)) (S', r)) (h1 : v_isMetre a1 a2 = 0 → ∀ S', Jp b o so po n S' t → N (-1000002) (S', r)) (h2 : ¬ v_isMetre a1 a2 = 0 → 24 ≤ zN t → ∀ S', Jp b o so po n S' t → N (-1000003) (S', r)) : lcall B (S, r) (fun B1 K => w_L_addBar B1 o a1 a2 (S, r) K) N := by
  obtain ⟨hr, hr2, hA, hn, hm⟩ := mu_0 hb J
  have hB := rA_B hA
  have hM := rA_M hA
  have hn24 := hM.2.1
  have hnb := cc_n hB hM
  have hso : kdC S so ≠ 0 := by rw [hB.1]; decide
  have ho : kdC S o ≠ 0 := by rw [hA.1]; decide
  have ebc : v_X9_barCount so S = nI (zN t) := congrArg nI hnb
  have elt : nI (zN t) < 24 ↔ zN t < 24 := nI_ltI (b := 24) (by omega) (by decide)
  refine ⟨(szC S + 100, nsC S + 1000), hr, hr2, rA_k hA, a_reqMetre rn_1 (fun c u c1 c2 hu ec eu hmt => ?_) (fun hc sz ns => ?_)⟩
  · rw [oG_so hA.2.1, ebc, elt]
    refine ⟨hA.1, ne_so hA.2.1, hB.1, hB.1, fun hlt => ⟨⟨Nat.add_le_add_left (by decide) _, Nat.add_le_add_left (by decide) _⟩, fun h0 t8 ht8 => ?_⟩, fun hlt => ⟨rn_1, fun sz ns => ?_⟩⟩
    · subst ht8
      refine cc_newM h0 ⟨Nat.add_le_add_left (by decide) _, Nat.add_le_add_left (by decide) _⟩ (fun w hw => ?_)
      obtain ⟨u1, u2, u3, u4, u5, u6, u7, u8, u9, u10⟩ := hw
      obtain ⟨m, hm2⟩ : ∃ m, m = szC S := ⟨_, rfl⟩
      dsimp only at u1 u2 u3 u4 u5 u6 u7 u8 u9 u10
      rw [← hm2] at u2 u3 u4 u5 u6 u9 u10 ⊢
      have old := fun q (hq : kdC S q ≠ 0) f => (u1 q hq).2.2 f trivial
      have eL : fL w 192 so = fL S 192 so := (old so hso 192).2.2.2.2.1
      have eC : fC w 192 so = fC S 192 so := (old so hso 192).2.2.2.2.2
      have hlen : (fL w 192 so).length = zN t := by rw [eL]; exact hnb
      obtain ⟨p1, p2, p3⟩ := cap_le (S := w) (f := 192) (o := so)
      rw [hlen] at p2 p3
      have hc5 : fC w 192 so ≤ 500000 := by rw [eC]; exact hB.2.2.1
      have hmem : ∀ y, y ∈ fL w 192 so → kdC w y = cEK 192 := fun y hy => by
        rw [eL] at hy
        obtain ⟨k, k1, k2⟩ := gl_mem hy
        have k1' : k < zN t := by rw [← hnb]; exact k1
        have k3 := (cc_bar hB hM k1').2.2.2
        have k4 : mrL S so k = y := k2
        rw [k4] at k3
        rw [(u1 y (by rw [k3]; decide)).1, k3]
        rfl
      refine ⟨⟨hc5, hmem⟩, u3, ⟨?_, ?_⟩, fun sz13 ns13 z1 z2 z3 t14 ht14 => ?_⟩
      · show szC w + lcA w 192 so ≤ m + 100
        omega
      · show nsC w + lcS w 192 so ≤ nsC S + 1000
        omega
      have hs14 : fR t14 224 o = some so := by
        rw [ht14]
        exact (old o ho 224).2.2.1.trans hA.2.1
      have hk14 : kdC t14 so = 12 := by
        rw [ht14]
        exact (u1 so hso).1.trans hB.1
      refine i_ed hs14 hk14 ?_
      have hs17 : fR (usI t14 199 so (fI t14 199 so + 1)) 224 o = some so := hs14
      rw [oG_so hs17]
      have hL14 : fL t14 192 so = fL S 192 so ++ [m] := by
        rw [ht14]
        show up2 (fL w) 192 so _ 192 so = _
        rw [up2_is, eL]
      have hcnt : v_X9_barCount so (usI t14 199 so (fI t14 199 so + 1)) = nI (zN t + 1) := by
        show nI (fL t14 192 so).length = _
        rw [hL14, List.length_append]
        show nI (nbS S so + 1) = _
        rw [hnb]
      rw [hcnt, nI_pred]
      refine ⟨ne_so hs17, hk14, hk14, ?_⟩
      intro hzz1 hzz2
      have hI' : Abr t (abrA t a1 a2) a1 a2 := abrA_ok
      refine hz0 c u c1 c2 hu ec eu hlt _ ?_
      have gE : ∀ P : Nat → Prop, ¬ P 192 → ¬ P 199 → Eqf P S (usI t14 199 so (fI t14 199 so + 1)) := fun P g1 g2 => by
        rw [ht14]
        exact Eqf_usI (Eqf_usL (Eqf_sub (fun _ _ => trivial) u1) (Or.inl g1)) (Or.inl g2)
      have kt : kdC (usI t14 199 so (fI t14 199 so + 1)) = kdC w := by rw [ht14]; rfl
      have qt : fQ (usI t14 199 so (fI t14 199 so + 1)) = fQ w := by rw [ht14]; rfl
      have it : ∀ f, f ≠ 199 → fI (usI t14 199 so (fI t14 199 so + 1)) f = fI w f := fun f hf => by
        rw [fI_ne hf, ht14]
        rfl
      have lt : fL (usI t14 199 so (fI t14 199 so + 1)) 176 = fL w 176 ∧ fC (usI t14 199 so (fI t14 199 so + 1)) 176 = fC w 176 := by
        rw [ht14]
        refine ⟨?_, ?_⟩
        · funext q
          show up2 (fL w) 192 so (fL w 192 so ++ [m]) 176 q = fL w 176 q
          rw [up2_no (fun z => absurd z.1 (by decide))]
        · funext q
          show up2 (fC w) 192 so (capA w 192 so) 176 q = fC w 176 q
          rw [up2_no (fun z => absurd z.1 (by decide))]
      refine hm _ _ ?_ ?_ (gE _ (by unfold fKp; decide) (by unfold fKp; decide)) ?_ ?_
      · rw [ec, eu] at hI' ⊢
        refine rA_bar hA hlt ⟨c1, c2⟩ hu hI' (gE _ (fun z => z.1 rfl) (fun z => z.2 rfl)) hL14 ?_ u2 (by rw [kt]; exact u3) ?_ (fun v hv => ?_) (fun v v2 hv hv2 z => u10 v v2 hv hv2 (by rw [qt] at z; exact z))
        · show fC t14 192 so ≤ 500000
          rw [ht14]
          show up2 (fC w) 192 so _ 192 so ≤ 500000
          rw [up2_is]
          exact p3 hc5 (by omega)
        · rw [it 80 (by decide), it 81 (by decide), it 82 (by decide), ← ec, ← eu]
          exact ⟨u4, u5, u6⟩
        · obtain ⟨r, w1, w2, w3, w4, w5, w6, w7⟩ := u9 v hv
          rw [qt, kt, lt.1, lt.2, it 177 (by decide), it 178 (by decide)]
          exact ⟨r, w1, w2, w3, w4, w5, w6, w7⟩
      · rw [ed_at, ht14, s_usL_fI, (old so hso 199).1]
      · rw [← hm2]
        exact hzz1
      · exact hzz2
    · exact Or.inr ⟨rfl, fun hz3 hz4 => h2 hmt (Nat.le_of_not_lt hlt) _ (hn sz ns hz3 hz4)⟩
  · exact Or.inl ⟨rfl, fun hz3 hz4 => h1 hc _ (hn sz ns hz3 hz4)⟩
theorem mu_addRepeat (hb : hB b B) (J : Jp b o so po (n + 100) S t) {a1 a2 a3 : Int32} (hz0 : ∀ f g c : Nat, f < zN t → g < zN t → f ≤ g → c ≤ g - f → a1 = nI f → a2 = nI g → a3 = nI c → zFree t f g → ∀ S', Jp b o so po n S' (msA (msA (msI t 45 0) 4 (nI f) (nI g)) 5 (nI f) (nI c)) → N (nI (zCn t (zN t) + 1)) (S', r)) (h1 : (v_isBar a1 t = 0 ∨ v_isBar a2 t = 0) → ∀ S', Jp b o so po n S' t → N (-1000001) (S', r)) (h2 : ∀ f g : Nat, f < zN t → g < zN t → a1 = nI f → a2 = nI g → (¬ nI f ≤ nI g ∨ v_in a3 0 (nI g - nI f) = 0) → ∀ S', Jp b o so po n S' t → N (-1000002) (S', r)) (h3 : ∀ f g : Nat, f < zN t → g < zN t → a1 = nI f → a2 = nI g → ¬ zFree t f g → ∀ S', Jp b o so po n S' t → N (-1000003) (S', r)) : lcall B (S, r) (fun B1 K => w_L_addRepeat B1 o a1 a2 a3 (S, r) K) N := by
  obtain ⟨hr, hr2, hA, hn, hm⟩ := mu_0 hb J
  have hB := rA_B hA
  have hM := rA_M hA
  have hT := rA_T hA
  have hn24 := hM.2.1
  have hnr := rt_n hT hM
  have hso : kdC S so ≠ 0 := by rw [hB.1]; decide
  have ho : kdC S o ≠ 0 := by rw [hA.1]; decide
  refine ⟨(szC S + 100, nsC S + 1000), hr, hr2, rA_k hA, hA.1, a_B hA rn_1 (fun f hf ef hz => a_B hA rn_1 (fun g hg eg hz2 => ⟨fun hle => ?_, fun hle => ⟨rn_1, fun sz ns => ?_⟩⟩) (fun hz2 sz ns => ?_)) (fun hz sz ns => ?_)⟩
  · subst ef
    subst eg
    have hfg : f ≤ g := (nI_leI (by omega) (by omega)).mp hle
    have hnlt : ¬ nI g < nI f := nI_nlt hfg (by omega)
    have eb : ∀ i, i < zN t → ((t.2 4 i = -1 ∨ t.2 4 i < nI f ∨ ¬ nI i ≤ nI g) ↔ (zY t i → zO t i < f ∨ g < i)) := by
      intro i hi
      have e2 : ¬ nI i ≤ nI g ↔ g < i := by
        rw [nI_leI (by omega) (by omega)]
        omega
      by_cases e : t.2 4 i = -1
      · exact ⟨fun _ z => absurd e z, fun _ => Or.inl e⟩
      · obtain ⟨g1, -, -, g4, -⟩ := hT.2.1 i hi e
        rw [g1, nI_ltI (by omega) (by omega), e2]
        refine ⟨fun z _ => z.resolve_left (fun z9 => e (g1.trans z9)), fun z => Or.inr (z e)⟩
    refine a_reqRange rn_1 (fun hc hc2 => ⟨ne_so hA.2.1, by rw [oG_so hA.2.1]; exact hB.1, ?_⟩) (fun hc sz ns => ?_)
    · have hx2 : (if (¬ nI g < nI f) ∧ ¬ v_in a3 0 (nI g - nI f) = 0 then (1 : Int32) else 0) = 1 := if_pos ⟨hnlt, hc⟩
      have hx1 : (if (¬ v_isBar (nI f) t = 0) ∧ ¬ v_isBar (nI g) t = 0 then (1 : Int32) else 0) = 1 := if_pos ⟨hz, hz2⟩
      rw [pk_sub hfg] at hc2
      obtain ⟨c, c1, c2, c3⟩ := r_in (a := a3) (x := 0) (y := g - f) (by decide) (by omega) hc2
      subst c3
      rw [oG_so hA.2.1]
      refine cc_isRep hT hM hB.1 hf hg (fun hF => ⟨fun _ => ?_, fun h9 => absurd rfl h9⟩) (fun hF => ⟨fun h9 => absurd h9 one_ne, fun _ => ⟨rn_1, fun sz ns => ?_⟩⟩)
      · rw [oG_so hA.2.1]
        refine ⟨ne_so hA.2.1, hB.1, ⟨Nat.add_le_add_left (by decide) _, Nat.add_le_add_left (by decide) _⟩, fun h0 t12 ht12 => ?_⟩
        subst ht12
        obtain ⟨e, he⟩ : ∃ e, e = szC S := ⟨_, rfl⟩
        rw [← he]
        have h0e : kdC S e = 0 := by rw [he]; exact h0
        have kne : kdC (newO S 10) e = 10 := by
          rw [he]
          exact va_up_self (kdC S) _ _
        refine ⟨kne, fun t2 ht2 t3 ht3 t4 ht4 => ?_⟩
        subst ht2
        subst ht3
        subst ht4
        obtain ⟨S1, hS1⟩ : ∃ S1, S1 = usI (usI (usI (newO S 10) 160 e (nI f)) 161 e (nI g)) 162 e (nI c) := ⟨_, rfl⟩
        rw [← hS1]
        have hk1 : ∀ q, kdC S q ≠ 0 → kdC S1 q = kdC S q := fun q hq => by rw [hS1]; exact kd_new h0 hq
        have hke : kdC S1 e = 10 := by rw [hS1]; exact kne
        have hL1 : fL S1 = fL S := by rw [hS1]; rfl
        have hC1 : fC S1 = fC S := by rw [hS1]; rfl
        have hR1 : ∀ q f, kdC S q ≠ 0 → fR S1 f q = fR S f q := fun q f hq => by rw [hS1]; exact fR_new h0 hq
        have hz1 : szC S1 = szC S + 1 := by rw [hS1]; rfl
        have hn1 : nsC S1 = nsC S + 3 := by rw [hS1]; rfl
        have hc5 : fC S1 194 so ≤ 500000 := by rw [hC1]; exact hT.1
        have hlen : (fL S1 194 so).length = nrS S so := by rw [hL1]; rfl
        obtain ⟨p1, p2, p3⟩ := cap_le (S := S1) (f := 194) (o := so)
        rw [hlen] at p2 p3
        have hmem : ∀ y, y ∈ fL S1 194 so → kdC S1 y = cEK 194 := fun y hy => by
          rw [hL1] at hy
          obtain ⟨k, k1, k2⟩ := gl_mem hy
          have k3 := (cc_rt hT hM (k := k) k1).2.2.1
          have k4 : rtL S so k = y := k2
          rw [k4] at k3
          rw [hk1 y (by rw [k3]; decide), k3]
          rfl
        refine ⟨⟨hc5, hmem⟩, hke, ⟨?_, ?_⟩, fun sz17 ns17 z1 z2 z3 t18 ht18 => ?_⟩
        · show szC S1 + lcA S1 194 so ≤ e + 100
          omega
        · show nsC S1 + lcS S1 194 so ≤ nsC S + 1000
          omega
        have hs18 : fR t18 224 o = some so := by
          rw [ht18]
          exact (hR1 o 224 ho).trans hA.2.1
        have hk18 : kdC t18 so = 12 := by
          rw [ht18]
          exact (hk1 so hso).trans hB.1
        refine i_ed hs18 hk18 ?_
        have hs21 : fR (usI t18 199 so (fI t18 199 so + 1)) 224 o = some so := hs18
        rw [oG_so hs21]
        refine ⟨ne_so hs21, hk18, ?_⟩
        have hL18 : fL t18 194 so = fL S 194 so ++ [e] := by
          rw [ht18]
          show up2 (fL S1) 194 so _ 194 so = _
          rw [up2_is, hL1]
        have hl21 : (fL (usI t18 199 so (fI t18 199 so + 1)) 194 so).length = nrS S so + 1 := by
          show (fL t18 194 so).length = _
          rw [hL18, List.length_append]
          rfl
        rw [hl21]
        intro hzz1 hzz2
        have hf31 : f < 2147483648 := by omega
        obtain ⟨t7, hA'⟩ : ∃ A', A' = msA (msA (msI t 45 0) 4 (nI f) (nI g)) 5 (nI f) (nI c) := ⟨_, rfl⟩
        have h1' : ∀ k, k ≠ 45 → t7.1 k = t.1 k := fun k hk => by rw [hA']; exact n45 rfl hk
        have h2' : ∀ k, k ≠ 4 → k ≠ 5 → t7.2 k = t.2 k := fun k k4 k5 => by
          rw [hA', mA_ne k5, mA_ne k4]
          rfl
        have h4' : ∀ k, t7.2 4 k = if k = f then nI g else t.2 4 k := fun k => by
          rw [hA', mA_ne (f' := 4) (by decide), mA_at hf31]
          rfl
        have h5' : ∀ k, t7.2 5 k = if k = f then nI c else t.2 5 k := fun k => by
          rw [hA', mA_at hf31, mA_ne (f' := 5) (by decide)]
          rfl
        have hg1 : ¬ nI g = -1 := fun z => by
          have : (nI g).toInt = (-1 : Int32).toInt := by rw [z]
          rw [nI_toInt (by omega)] at this
          exact absurd this (by show ¬ (g : Int) = -1; omega)
        have hf1 : t.2 4 f = -1 := Classical.byContradiction fun z => by
          obtain ⟨-, -, q3, -⟩ := hT.2.1 f hf z
          have := hF f hf z
          omega
        have eN : zN t7 = zN t := by unfold zN; rw [h1' 0 (by decide)]
        have hcn : zCn t7 (zN t) = nrS S so + 1 := by
          rw [zCn_up (A := t) (A' := t7) (a := f) hf1 (by rw [h4', if_pos rfl]; exact hg1) (fun k hk => by rw [h4', if_neg hk]), if_pos hf, hT.2.2.1]
        have e24 : nI (nrS S so + 1) = nI (zCn t (zN t) + 1) := by rw [hT.2.2.1]
        rw [e24]
        refine hz0 f g c hf hg hfg c2 rfl rfl rfl hF _ ?_
        rw [← hA']
        refine hm _ _ ?_ ?_ ?_ ?_ ?_
        · have gE : ∀ P : Nat → Prop, ¬ P 194 → ¬ P 199 → Eqf P S (usI t18 199 so (fI t18 199 so + 1)) := fun P g1 g2 => by
            rw [ht18, hS1]
            exact Eqf_usI (Eqf_usL (Eqf_usI (Eqf_usI (Eqf_usI (Eqf_newO Eqf_rfl h0) (Or.inr h0e)) (Or.inr h0e)) (Or.inr h0e)) (Or.inl g1)) (Or.inl g2)
          refine rA_oth hA (gE _ (by unfold fB0; decide) (by unfold fB0; decide)) (gE _ (by decide) (by decide)) (h1' 0 (by decide)) (fun k hk => h2' k (by omega) (by omega)) (congrFun (h2' 26 (by decide) (by decide)) 0) ?_ ?_ ?_
          · exact rP_c hso (rA_P hA) (gE _ (by unfold fP0; decide) (by unfold fP0; decide)) (fun v i j hv hi hj => evL_c hB hM (gE _ (by unfold fB0; decide) (by unfold fB0; decide)) hi hv) (h1' 0 (by decide)) (h2' 6 (by decide) (by decide)) (h1' 14 (by decide)) (h2' 15 (by decide) (by decide)) (h2' 16 (by decide) (by decide)) (h2' 17 (by decide) (by decide)) (h2' 18 (by decide) (by decide)) (h2' 19 (by decide) (by decide)) (h2' 20 (by decide) (by decide))
          · have gR : Eqf (fun f => f / 16 = 10) S (usI t18 199 so (fI t18 199 so + 1)) := gE _ (by decide) (by decide)
            have hr' : ∀ k, rtL (usI t18 199 so (fI t18 199 so + 1)) so k = if k < nrS S so then rtL S so k else if k = nrS S so then e else 0 := fun k => by
              unfold rtL
              show ((fL t18 194 so)[k]?).getD 0 = _
              rw [hL18, gl_app]
              rfl
            have hnr' : nrS (usI t18 199 so (fI t18 199 so + 1)) so = nrS S so + 1 := hl21
            have e160 : fI (usI t18 199 so (fI t18 199 so + 1)) 160 e = nI f ∧ fI (usI t18 199 so (fI t18 199 so + 1)) 161 e = nI g ∧ fI (usI t18 199 so (fI t18 199 so + 1)) 162 e = nI c := by
              rw [fI_ne (f' := 160) (by decide), fI_ne (f' := 161) (by decide), fI_ne (f' := 162) (by decide), ht18, s_usL_fI, hS1, fI_ne (f' := 160) (by decide), fI_ne (f' := 160) (by decide), fI_at, if_pos rfl, fI_ne (f' := 161) (by decide), fI_at, if_pos rfl, fI_at, if_pos rfl]
              exact ⟨rfl, rfl, rfl⟩
            have hke2 : kdC (usI t18 199 so (fI t18 199 so + 1)) e = 10 := by
              rw [ht18]
              exact hke
            have old : ∀ k, k < nrS S so → kdC (usI t18 199 so (fI t18 199 so + 1)) (rtL S so k) = 10 ∧ fI (usI t18 199 so (fI t18 199 so + 1)) 160 (rtL S so k) = fI S 160 (rtL S so k) ∧ fI (usI t18 199 so (fI t18 199 so + 1)) 161 (rtL S so k) = fI S 161 (rtL S so k) ∧ fI (usI t18 199 so (fI t18 199 so + 1)) 162 (rtL S so k) = fI S 162 (rtL S so k) := fun k hk => by
              have k3 := (cc_rt hT hM hk).2.2.1
              obtain ⟨w1, -, w2⟩ := gR (rtL S so k) (by rw [k3]; decide)
              exact ⟨w1.trans k3, (w2 160 (by decide)).1, (w2 161 (by decide)).1, (w2 162 (by decide)).1⟩
            obtain ⟨b1, b2, b3, b4, b5, b6⟩ := hT
            refine ⟨?_, ?_, ?_, ?_, ?_, ?_⟩
            · show fC t18 194 so ≤ 500000
              rw [ht18]
              show up2 (fC S1) 194 so _ 194 so ≤ 500000
              rw [up2_is]
              exact p3 hc5 (by omega)
            · intro i hi hy
              rw [eN] at hi ⊢
              have hy' : ¬ t7.2 4 i = -1 := hy
              unfold zO zG
              by_cases e9 : i = f
              · rw [h4', if_pos e9, h5', if_pos e9, aN_nI (by omega), aN_nI (by omega), e9]
                refine ⟨rfl, rfl, hfg, hg, by omega, fun i2 i3 i4 => ?_⟩
                rw [h4', if_neg (by omega)]
                refine Classical.byContradiction fun z => ?_
                obtain ⟨-, -, q3, q4, -⟩ := b2 i2 (by omega) z
                have := hF i2 (by omega) z
                omega
              · rw [h4', if_neg e9] at hy'
                rw [h4', if_neg e9, h5', if_neg e9]
                obtain ⟨q1, q2, q3, q4, q5, q6⟩ := b2 i hi hy'
                refine ⟨q1, q2, q3, q4, q5, fun i2 i3 i4 => ?_⟩
                have i5 : i2 ≤ zO t i := i4
                have := hF i hi hy'
                rw [h4', if_neg (by omega)]
                exact q6 i2 i3 i5
            · rw [eN, hcn, hnr']
            · intro k hk
              rw [hnr'] at hk
              rw [hr', eN]
              by_cases e9 : k < nrS S so
              · rw [if_pos e9]
                obtain ⟨d1, i, d2, d3, d4, d5, d6⟩ := b4 k e9
                obtain ⟨w1, w2, w3, w4⟩ := old k e9
                have hif : i ≠ f := fun z => d3 (by rw [z]; exact hf1)
                refine ⟨w1, i, d2, ?_, w2.trans d4, ?_, ?_⟩
                · show ¬ t7.2 4 i = -1
                  rw [h4', if_neg hif]
                  exact d3
                · rw [w3, h4', if_neg hif]
                  exact d5
                · rw [w4, h5', if_neg hif]
                  exact d6
              · rw [if_neg e9, if_pos (by omega)]
                refine ⟨hke2, f, hf, ?_, e160.1, ?_, ?_⟩
                · show ¬ t7.2 4 f = -1
                  rw [h4', if_pos rfl]
                  exact hg1
                · rw [e160.2.1, h4', if_pos rfl]
                · rw [e160.2.2, h5', if_pos rfl]
            · intro i hi hy
              rw [eN] at hi
              rw [hnr']
              by_cases e9 : i = f
              · refine ⟨nrS S so, by omega, ?_⟩
                rw [hr', if_neg (Nat.lt_irrefl _), if_pos rfl, e9]
                exact e160.1
              · have hy' : ¬ t7.2 4 i = -1 := hy
                rw [h4', if_neg e9] at hy'
                obtain ⟨k, k1, k2⟩ := b5 i hi hy'
                refine ⟨k, by omega, ?_⟩
                rw [hr', if_pos k1, (old k k1).2.1]
                exact k2
            · have dif : ∀ k, k < nrS S so → ¬ fI S 160 (rtL S so k) = nI f := fun k hk z => by
                obtain ⟨d1, i, d2, d3, d4, d5, d6⟩ := b4 k hk
                rw [d4] at z
                have e9 : i = f := (nI_eq (by omega) (by omega)).mp z
                exact d3 (by rw [e9]; exact hf1)
              intro k k2 hk hk2 z
              rw [hnr'] at hk hk2
              rw [hr', hr'] at z
              by_cases e9 : k < nrS S so
              · rw [if_pos e9, (old k e9).2.1] at z
                by_cases e8 : k2 < nrS S so
                · rw [if_pos e8, (old k2 e8).2.1] at z
                  exact b6 k k2 e9 e8 z
                · rw [if_neg e8, if_pos (by omega), e160.1] at z
                  exact absurd z (dif k e9)
              · rw [if_neg e9, if_pos (by omega), e160.1] at z
                by_cases e8 : k2 < nrS S so
                · rw [if_pos e8, (old k2 e8).2.1] at z
                  exact absurd z.symm (dif k2 e8)
                · omega
          · exact rS_c hso (rA_S hA) (gE _ (by unfold fS0; decide) (by unfold fS0; decide)) (h2' 13 (by decide) (by decide)) (h1' 21 (by decide)) (h1' 22 (by decide)) (h1' 23 (by decide))
        · rw [ed_at, ht18, s_usL_fI, hS1, fI_ne (by decide), fI_ne (by decide), fI_ne (by decide), fI_new h0 hso]
        · rw [ht18, hS1]
          exact Eqf_usI (Eqf_usL (Eqf_usI (Eqf_usI (Eqf_usI (Eqf_newO Eqf_rfl h0) (Or.inr h0e)) (Or.inr h0e)) (Or.inr h0e)) (Or.inl (by unfold fKp; decide))) (Or.inl (by unfold fKp; decide))
        · rw [← he]
          exact hzz1
        · exact hzz2
      · exact Or.inr (Or.inr ⟨rfl, fun hz3 hz4 => h3 f g hf hg rfl rfl hF _ (hn sz ns hz3 hz4)⟩)
    · exact Or.inr (Or.inl ⟨rfl, fun hz3 hz4 => h2 f g hf hg rfl rfl (Or.inr hc) _ (hn sz ns hz3 hz4)⟩)
  · exact Or.inr (Or.inl ⟨rfl, fun hz3 hz4 => h2 f g hf hg ef eg (Or.inl (by rw [← ef, ← eg]; exact hle)) _ (hn sz ns hz3 hz4)⟩)
  · exact Or.inl ⟨rfl, fun hz3 hz4 => h1 (Or.inr hz2) _ (hn sz ns hz3 hz4)⟩
  · exact Or.inl ⟨rfl, fun hz3 hz4 => h1 (Or.inl hz) _ (hn sz ns hz3 hz4)⟩
theorem mu_dropRepeat (hb : hB b B) (J : Jp b o so po (n + 100) S t) {a1 : Int32} (hz0 : ∀ f : Nat, f < zN t → a1 = nI f → zY t f → ∀ S', Jp b o so po n S' (msA (msI t 45 0) 4 (nI f) (-1)) → N (nI (zO t f)) (S', r)) (h1 : v_isBar a1 t = 0 → ∀ S', Jp b o so po n S' t → N (-1000001) (S', r)) (h2 : ∀ f : Nat, f < zN t → a1 = nI f → t.2 4 f = -1 → ∀ S', Jp b o so po n S' t → N (-1000003) (S', r)) : lcall B (S, r) (fun B1 K => w_L_dropRepeat B1 o a1 (S, r) K) N := by
  obtain ⟨hr, hr2, hA, hn, hm⟩ := mu_0 hb J
  have hB := rA_B hA
  have hM := rA_M hA
  have hT := rA_T hA
  have hn24 := hM.2.1
  have hnr := rt_n hT hM
  have hso : kdC S so ≠ 0 := by rw [hB.1]; decide
  refine ⟨(szC S + 100, nsC S + 1000), hr, hr2, rA_k hA, hA.1, a_B hA rn_1 (fun f hf ef hz => ?_) (fun hz sz ns => ?_)⟩
  · subst ef
    have hf31 : f < 2147483648 := by omega
    have e4 : mgA t 4 (nI f) = t.2 4 f := Ag_A (Ag_rfl t) (by decide) hf31
    rw [oG_so hA.2.1]
    refine ⟨ne_so hA.2.1, hB.1, cc_repFrom hT hM hB.1 hf (fun k hk hy h160 => ⟨fun h9 => ?_, fun _ => ?_⟩) (fun hy => ⟨fun _ => ⟨rn_1, fun sz ns => ?_⟩, fun h9 => absurd rfl h9⟩)⟩
    · exact absurd h9 (fun z => by
        have : (nI k).toInt = (-1 : Int32).toInt := by rw [z]
        rw [nI_toInt (by omega)] at this
        exact absurd this (by show ¬ (k : Int) = -1; omega))
    · rw [oG_so hA.2.1]
      obtain ⟨q1, q2, q3, i2, q4, q5, q6, q7, q8⟩ := cc_rt hT hM hk
      have e2 : i2 = f := by
        rw [q6] at h160
        exact (nI_eq (by omega) (by omega)).mp h160
      subst e2
      have hO : t.2 4 i2 = nI (zO t i2) := (hT.2.1 i2 hf hy).1
      have hck : (nI k).toNatClampNeg = k := nI_clamp (by omega)
      have hmem : ∀ y, y ∈ fL S 194 so → kdC S y = cEK 194 := fun y hy => by
        obtain ⟨k, k1, k2⟩ := gl_mem hy
        have k3 := (cc_rt hT hM (k := k) k1).2.2.1
        have k4 : rtL S so k = y := k2
        rw [k4] at k3
        exact k3
      rw [q2, q7, hck]
      refine ⟨ne_so hA.2.1, hB.1, q1, q3, fun x11 hx11 => ⟨⟨hT.1, hmem⟩, q1, fun t14 ht14 => ?_⟩⟩
      have hs18 : fR t14 224 o = some so := by rw [ht14]; exact hA.2.1
      have hk18 : kdC t14 so = 12 := by rw [ht14]; exact hB.1
      refine i_ed hs18 hk18 ?_
      have hL14 : fL t14 194 so = (fL S 194 so).eraseIdx k := by
        rw [ht14]
        show up2 (fL S) 194 so _ 194 so = _
        rw [up2_is]
      intro _ _
      obtain ⟨t8, ht8⟩ : ∃ t8, t8 = msA (msI t 45 0) 4 (nI i2) (-1) := ⟨_, rfl⟩
      have h1' : ∀ k, k ≠ 45 → t8.1 k = t.1 k := fun k hk => by rw [ht8]; exact n45 rfl hk
      have h2' : ∀ k, k ≠ 4 → t8.2 k = t.2 k := fun k k4 => by
        rw [ht8, mA_ne k4]
        rfl
      have h4' : ∀ k, t8.2 4 k = if k = i2 then -1 else t.2 4 k := fun k => by
        rw [ht8, mA_at hf31]
        rfl
      have eN : zN t8 = zN t := by unfold zN; rw [h1' 0 (by decide)]
      have gE : ∀ P : Nat → Prop, ¬ P 194 → ¬ P 199 → Eqf P S (usI t14 199 so (fI t14 199 so + 1)) := fun P g1 g2 => by
        rw [ht14]
        exact Eqf_usI (Eqf_usL Eqf_rfl (Or.inl g1)) (Or.inl g2)
      rw [hx11]
      refine hz0 i2 hf rfl hy _ ?_
      rw [← ht8]
      refine hm _ _ ?_ ?_ (gE _ (by unfold fKp; decide) (by unfold fKp; decide)) ?_ ?_
      · refine rA_oth hA (gE _ (by unfold fB0; decide) (by unfold fB0; decide)) (gE _ (by decide) (by decide)) (h1' 0 (by decide)) (fun k hk => h2' k (by omega)) (congrFun (h2' 26 (by decide)) 0) ?_ ?_ ?_
        · exact rP_c hso (rA_P hA) (gE _ (by unfold fP0; decide) (by unfold fP0; decide)) (fun v i j hv hi hj => evL_c hB hM (gE _ (by unfold fB0; decide) (by unfold fB0; decide)) hi hv) (h1' 0 (by decide)) (h2' 6 (by decide)) (h1' 14 (by decide)) (h2' 15 (by decide)) (h2' 16 (by decide)) (h2' 17 (by decide)) (h2' 18 (by decide)) (h2' 19 (by decide)) (h2' 20 (by decide))
        · have hr' : ∀ j, rtL (usI t14 199 so (fI t14 199 so + 1)) so j = if j < k then rtL S so j else rtL S so (j + 1) := fun j => by
            unfold rtL
            show ((fL t14 194 so)[j]?).getD 0 = _
            rw [hL14, gl_er]
          have hnr' : nrS (usI t14 199 so (fI t14 199 so + 1)) so = nrS S so - 1 := by
            show (fL t14 194 so).length = _
            rw [hL14, List.length_eraseIdx_of_lt hk]
            rfl
          have sI : ∀ f, f ≠ 199 → fI (usI t14 199 so (fI t14 199 so + 1)) f = fI S f := fun f hf => by
            rw [fI_ne hf, ht14]
            rfl
          have sK : kdC (usI t14 199 so (fI t14 199 so + 1)) = kdC S := by
            rw [ht14]
            rfl
          obtain ⟨b1, b2, b3, b4, b5, b6⟩ := hT
          have hcn : zCn t8 (zN t) + 1 = nrS S so := by
            have g := zCn_up (A := t8) (A' := t) (a := i2) (by rw [h4', if_pos rfl]) hy (fun k hk => by rw [h4', if_neg hk]) (zN t)
            rw [if_pos hf, b3] at g
            exact g.symm
          have uq : ∀ j, j < nrS S so → j ≠ k → ∃ i, i < zN t ∧ i ≠ i2 ∧ zY t i ∧ fI S 160 (rtL S so j) = nI i ∧ fI S 161 (rtL S so j) = t.2 4 i ∧ fI S 162 (rtL S so j) = t.2 5 i := fun j hj hjk => by
            obtain ⟨d1, i, d2, d3, d4, d5, d6⟩ := b4 j hj
            refine ⟨i, d2, fun z => hjk (b6 j k hj hk ?_), d3, d4, d5, d6⟩
            rw [d4, z, h160]
          refine ⟨?_, ?_, ?_, ?_, ?_, ?_⟩
          · show fC t14 194 so ≤ 500000
            rw [ht14]
            show up2 (fC S) 194 so _ 194 so ≤ 500000
            rw [up2_is]
            exact b1
          · intro i hi hy2
            rw [eN] at hi ⊢
            have hy' : ¬ t8.2 4 i = -1 := hy2
            have ne : i ≠ i2 := fun z => hy' (by rw [z, h4', if_pos rfl])
            rw [h4', if_neg ne] at hy'
            unfold zO zG
            rw [h4', if_neg ne, h2' 5 (by decide)]
            obtain ⟨r1, r2, r3, r4, r5, r6⟩ := b2 i hi hy'
            refine ⟨r1, r2, r3, r4, r5, fun i3 i4 i5 => ?_⟩
            have i6 : i3 ≤ zO t i := i5
            rw [h4']
            by_cases e9 : i3 = i2
            · rw [if_pos e9]
            · rw [if_neg e9]
              exact r6 i3 i4 i6
          · rw [eN, hnr']
            omega
          · intro j hj
            rw [hnr'] at hj
            rw [hr', sK, sI 160 (by decide), sI 161 (by decide), sI 162 (by decide), eN]
            by_cases e9 : j < k
            · rw [if_pos e9]
              obtain ⟨i, d2, dn, d3, d4, d5, d6⟩ := uq j (by omega) (by omega)
              refine ⟨(b4 j (by omega)).1, i, d2, ?_, d4, ?_, ?_⟩
              · show ¬ t8.2 4 i = -1
                rw [h4', if_neg dn]
                exact d3
              · rw [h4', if_neg dn]
                exact d5
              · rw [h2' 5 (by decide)]
                exact d6
            · rw [if_neg e9]
              obtain ⟨i, d2, dn, d3, d4, d5, d6⟩ := uq (j + 1) (by omega) (by omega)
              refine ⟨(b4 (j + 1) (by omega)).1, i, d2, ?_, d4, ?_, ?_⟩
              · show ¬ t8.2 4 i = -1
                rw [h4', if_neg dn]
                exact d3
              · rw [h4', if_neg dn]
                exact d5
              · rw [h2' 5 (by decide)]
                exact d6
          · intro i hi hy2
            rw [eN] at hi
            have hy' : ¬ t8.2 4 i = -1 := hy2
            have ne : i ≠ i2 := fun z => hy' (by rw [z, h4', if_pos rfl])
            rw [h4', if_neg ne] at hy'
            obtain ⟨j, j1, j2⟩ := b5 i hi hy'
            have hjk : j ≠ k := fun z => by
              rw [z, h160] at j2
              exact ne ((nI_eq (by omega) (by omega)).mp j2).symm
            rw [hnr', sI 160 (by decide)]
            by_cases e9 : j < k
            · refine ⟨j, by omega, ?_⟩
              rw [hr', if_pos e9]
              exact j2
            · refine ⟨j - 1, by omega, ?_⟩
              rw [hr', if_neg (by omega), show j - 1 + 1 = j by omega]
              exact j2
          · intro j j2 hj hj2 z
            rw [hnr'] at hj hj2
            rw [hr', hr', sI 160 (by decide)] at z
            by_cases e9 : j < k
            · rw [if_pos e9] at z
              by_cases e8 : j2 < k
              · rw [if_pos e8] at z
                exact b6 j j2 (by omega) (by omega) z
              · rw [if_neg e8] at z
                have := b6 j (j2 + 1) (by omega) (by omega) z
                omega
            · rw [if_neg e9] at z
              by_cases e8 : j2 < k
              · rw [if_pos e8] at z
                have := b6 (j + 1) j2 (by omega) (by omega) z
                omega
              · rw [if_neg e8] at z
                have := b6 (j + 1) (j2 + 1) (by omega) (by omega) z
                omega
        · exact rS_c hso (rA_S hA) (gE _ (by unfold fS0; decide) (by unfold fS0; decide)) (h2' 13 (by decide)) (h1' 21 (by decide)) (h1' 22 (by decide)) (h1' 23 (by decide))
      · rw [ed_at, ht14]
        rfl
      · show szC t14 ≤ szC S + 100
        rw [ht14]
        exact Nat.le_add_right _ _
      · show nsC t14 ≤ nsC S + 1000
        rw [ht14]
        exact Nat.le_add_right _ _
    · exact Or.inr ⟨rfl, fun hz3 hz4 => h2 f hf rfl hy _ (hn sz ns hz3 hz4)⟩
  · exact Or.inl ⟨rfl, fun hz3 hz4 => h1 hz _ (hn sz ns hz3 hz4)⟩
theorem mu_addPhrase (hb : hB b B) (J : Jp b o so po (n + 100) S t) {a1 a2 a3 a4 a5 : Int32} (hz0 : ∀ v i j i2 j2 : Nat, v < 4 → i < zN t → j < zE t v i → i2 < zN t → j2 < zE t v i2 → a1 = nI v → a2 = nI i → a3 = nI j → a4 = nI i2 → a5 = nI j2 → ¬ (if (a2 < a4) ∨ ((a4 = a2) ∧ (¬ (a5 ≤ a3))) then (1 : Int32) else 0) = 0 → aN (t.1 14) < 20 → ∀ S', Jp b o so po n S' (phA t (aN (t.1 14)) (nI v) a2 a3 a4 a5) → N (nI (aN (t.1 14))) (S', r)) (h1 : v_isVoice a1 = 0 → ∀ S', Jp b o so po n S' t → N (-1000002) (S', r)) (h2 : (v_isEvent a1 a2 a3 t = 0 ∨ v_isEvent a1 a4 a5 t = 0) → ∀ S', Jp b o so po n S' t → N (-1000001) (S', r)) (h3 : ∀ v i j i2 j2 : Nat, v < 4 → i < zN t → j < zE t v i → i2 < zN t → j2 < zE t v i2 → a1 = nI v → a2 = nI i → a3 = nI j → a4 = nI i2 → a5 = nI j2 → ((if (a2 < a4) ∨ ((a4 = a2) ∧ (¬ (a5 ≤ a3))) then (1 : Int32) else 0) = 0 ∨ 20 ≤ aN (t.1 14)) → ∀ S', Jp b o so po n S' t → N (-1000003) (S', r)) : lcall B (S, r) (fun B1 K => w_L_addPhrase B1 o a1 a2 a3 a4 a5 (S, r) K) N := by
  obtain ⟨hr, hr2, hA, hn, hm⟩ := mu_0 hb J
  have hB := rA_B hA
  have hM := rA_M hA
  have hP := rA_P hA
  have h20 := hP.1
  have e14 : aN (t.1 14) = npS S so := by rw [hP.2.1, aN_nI (by omega)]
  have hn24 := hM.2.1
  have hso : kdC S so ≠ 0 := by rw [hB.1]; decide
  have ho : kdC S o ≠ 0 := by rw [hA.1]; decide
  refine ⟨(szC S + 100, nsC S + 1000), hr, hr2, rA_k hA, rA_k hA, a_Ev hA rn_1 (fun v i j hv hi hj ev ei ej hz hd hz2 => a_Ev hA rn_1 (fun v2 i2 j2 hv2 hi2 hj2 ev2 ei2 ej2 hzz hd2 hz3 => ?_) (fun hzz sz ns => ?_) (fun hzz hd2 hz3 sz ns => ?_)) (fun hz sz ns => ?_) (fun hz hd hz2 sz ns => ?_)⟩
  · subst ev
    have e12 : v2 = v := ((nI_eq (by omega) (by omega)).mp ev2).symm
    subst e12
    have elen : nI (fL S 193 so).length = nI (npS S so) := rfl
    have elt : nI (npS S so) < 20 ↔ npS S so < 20 := nI_ltI (b := 20) (by omega) (by decide)
    intro x4 hx4
    rw [oG_so hA.2.1, elen, elt]
    refine ⟨fun _ => ne_so hA.2.1, fun _ => hB.1, fun hc => ⟨rn_1, fun sz ns => ?_⟩, fun hc => ?_⟩
    · refine Or.inr (Or.inr ⟨rfl, fun hz4 hz5 => h3 v2 i j i2 j2 hv hi hj hi2 hj2 rfl ei ej ei2 ej2 ?_ _ (hn sz ns hz4 hz5)⟩)
      rw [e14]
      rcases hc with hc | hc
      · exact Or.inl (hx4.symm.trans hc)
      · exact Or.inr (by omega)
    · have hnp : npS S so < 20 := Classical.byContradiction fun z => hc (Or.inr z)
      refine ⟨ne_so hA.2.1, hB.1, ⟨Nat.add_le_add_left (by decide) _, Nat.add_le_add_left (by decide) _⟩, fun h0 t12 ht12 => ?_⟩
      subst ht12
      obtain ⟨e, he⟩ : ∃ e, e = szC S := ⟨_, rfl⟩
      rw [← he]
      have h0e : kdC S e = 0 := by rw [he]; exact h0
      have kne : kdC (newO S 8) e = 8 := by
        rw [he]
        exact va_up_self (kdC S) _ _
      refine ⟨kne, fun t2 ht2 t3 ht3 t4 ht4 t5 ht5 t6 ht6 => ?_⟩
      subst ht2
      subst ht3
      subst ht4
      subst ht5
      subst ht6
      obtain ⟨S1, hS1⟩ : ∃ S1, S1 = usR (usI (usR (usI (usI (newO S 8) 128 e (nI v2)) 129 e a2) 131 e (some (evL S so v2 i j))) 130 e a4) 132 e (some (evL S so v2 i2 j2)) := ⟨_, rfl⟩
      rw [← hS1]
      have hk1 : ∀ q, kdC S q ≠ 0 → kdC S1 q = kdC S q := fun q hq => by rw [hS1]; exact kd_new h0 hq
      have hke : kdC S1 e = 8 := by rw [hS1]; exact kne
      have hL1 : fL S1 = fL S := by rw [hS1]; rfl
      have hC1 : fC S1 = fC S := by rw [hS1]; rfl
      have hz1 : szC S1 = szC S + 1 := by rw [hS1]; rfl
      have hn1 : nsC S1 = nsC S + 6 := by rw [hS1]; rfl
      have hc5 : fC S1 193 so ≤ 500000 := by rw [hC1]; exact hP.2.2.1
      have hlen : (fL S1 193 so).length = npS S so := by rw [hL1]; rfl
      obtain ⟨p1, p2, p3⟩ := cap_le (S := S1) (f := 193) (o := so)
      rw [hlen] at p2 p3
      have hmem : ∀ y, y ∈ fL S1 193 so → kdC S1 y = cEK 193 := fun y hy => by
        rw [hL1] at hy
        obtain ⟨k, k1, k2⟩ := gl_mem hy
        have k3 := (hP.2.2.2.1 k k1).1
        have k4 : phL S so k = y := k2
        rw [k4] at k3
        rw [hk1 y (by rw [k3]; decide), k3]
        rfl
      have gE1 : ∀ P : Nat → Prop, Eqf P S S1 := fun P => by
        rw [hS1]
        exact Eqf_usR (Eqf_usI (Eqf_usR (Eqf_usI (Eqf_usI (Eqf_newO Eqf_rfl h0) (Or.inr h0e)) (Or.inr h0e)) (Or.inr h0e)) (Or.inr h0e)) (Or.inr h0e)
      refine ⟨⟨hc5, hmem⟩, hke, ⟨?_, ?_⟩, fun sz17 ns17 z1 z2 z3 t18 ht18 => ?_⟩
      · show szC S1 + lcA S1 193 so ≤ e + 100
        omega
      · show nsC S1 + lcS S1 193 so ≤ nsC S + 1000
        omega
      have hs18 : fR t18 224 o = some so := by
        rw [ht18]
        exact (((gE1 (fun _ => True) o ho).2.2 224 trivial).2.2.1).trans hA.2.1
      have hk18 : kdC t18 so = 12 := by
        rw [ht18]
        exact (hk1 so hso).trans hB.1
      refine i_ed hs18 hk18 ?_
      have hs21 : fR (usI t18 199 so (fI t18 199 so + 1)) 224 o = some so := hs18
      rw [oG_so hs21]
      refine ⟨ne_so hs21, hk18, ?_⟩
      have hL18 : fL t18 193 so = fL S 193 so ++ [e] := by
        rw [ht18]
        show up2 (fL S1) 193 so _ 193 so = _
        rw [up2_is, hL1]
      have hl21 : (fL (usI t18 199 so (fI t18 199 so + 1)) 193 so).length = npS S so + 1 := by
        show (fL t18 193 so).length = _
        rw [hL18, List.length_append]
        rfl
      rw [hl21, nI_pred]
      intro hzz1 hzz2
      obtain ⟨A', hA'⟩ : ∃ A', A' = msI (msA (msA (msA (msA (msA (msI t 45 0) 15 (nI (npS S so)) (nI v2)) 16 (nI (npS S so)) a2) 17 (nI (npS S so)) a3) 18 (nI (npS S so)) a4) 19 (nI (npS S so)) a5) 14 (nI (npS S so + 1)) := ⟨_, rfl⟩
      have h31 : npS S so < 2147483648 := by omega
      have h1' : ∀ k, k ≠ 45 → k ≠ 14 → A'.1 k = t.1 k := fun k hk hk2 => by
        rw [hA', mI_ne hk2]
        exact mI_ne hk
      have h14' : A'.1 14 = nI (npS S so + 1) := by rw [hA', mI_at]
      have h2' : ∀ k, k ≠ 15 → k ≠ 16 → k ≠ 17 → k ≠ 18 → k ≠ 19 → A'.2 k = t.2 k := fun k k1 k2 k3 k4 k5 => by
        rw [hA']
        show (msA (msA (msA (msA (msA (msI t 45 0) 15 (nI (npS S so)) (nI v2)) 16 (nI (npS S so)) a2) 17 (nI (npS S so)) a3) 18 (nI (npS S so)) a4) 19 (nI (npS S so)) a5).2 k = _
        rw [mA_ne k5, mA_ne k4, mA_ne k3, mA_ne k2, mA_ne k1]
        rfl
      have h15' : ∀ k, A'.2 15 k = if k = npS S so then nI v2 else t.2 15 k := fun k => by
        rw [hA']
        show (msA (msA (msA (msA (msA (msI t 45 0) 15 (nI (npS S so)) (nI v2)) 16 (nI (npS S so)) a2) 17 (nI (npS S so)) a3) 18 (nI (npS S so)) a4) 19 (nI (npS S so)) a5).2 15 k = _
        rw [mA_ne (f' := 15) (by decide), mA_ne (f' := 15) (by decide), mA_ne (f' := 15) (by decide), mA_ne (f' := 15) (by decide), mA_at h31]
        rfl
      have h16' : ∀ k, A'.2 16 k = if k = npS S so then a2 else t.2 16 k := fun k => by
        rw [hA']
        show (msA (msA (msA (msA (msA (msI t 45 0) 15 (nI (npS S so)) (nI v2)) 16 (nI (npS S so)) a2) 17 (nI (npS S so)) a3) 18 (nI (npS S so)) a4) 19 (nI (npS S so)) a5).2 16 k = _
        rw [mA_ne (f' := 16) (by decide), mA_ne (f' := 16) (by decide), mA_ne (f' := 16) (by decide), mA_at h31, mA_ne (f' := 16) (by decide)]
        rfl
      have h17' : ∀ k, A'.2 17 k = if k = npS S so then a3 else t.2 17 k := fun k => by
        rw [hA']
        show (msA (msA (msA (msA (msA (msI t 45 0) 15 (nI (npS S so)) (nI v2)) 16 (nI (npS S so)) a2) 17 (nI (npS S so)) a3) 18 (nI (npS S so)) a4) 19 (nI (npS S so)) a5).2 17 k = _
        rw [mA_ne (f' := 17) (by decide), mA_ne (f' := 17) (by decide), mA_at h31, mA_ne (f' := 17) (by decide), mA_ne (f' := 17) (by decide)]
        rfl
      have h18' : ∀ k, A'.2 18 k = if k = npS S so then a4 else t.2 18 k := fun k => by
        rw [hA']
        show (msA (msA (msA (msA (msA (msI t 45 0) 15 (nI (npS S so)) (nI v2)) 16 (nI (npS S so)) a2) 17 (nI (npS S so)) a3) 18 (nI (npS S so)) a4) 19 (nI (npS S so)) a5).2 18 k = _
        rw [mA_ne (f' := 18) (by decide), mA_at h31, mA_ne (f' := 18) (by decide), mA_ne (f' := 18) (by decide), mA_ne (f' := 18) (by decide)]
        rfl
      have h19' : ∀ k, A'.2 19 k = if k = npS S so then a5 else t.2 19 k := fun k => by
        rw [hA']
        show (msA (msA (msA (msA (msA (msI t 45 0) 15 (nI (npS S so)) (nI v2)) 16 (nI (npS S so)) a2) 17 (nI (npS S so)) a3) 18 (nI (npS S so)) a4) 19 (nI (npS S so)) a5).2 19 k = _
        rw [mA_at h31, mA_ne (f' := 19) (by decide), mA_ne (f' := 19) (by decide), mA_ne (f' := 19) (by decide), mA_ne (f' := 19) (by decide)]
        rfl
      have eN : zN A' = zN t := by unfold zN; rw [h1' 0 (by decide) (by decide)]
      have eE : zE A' = zE t := by funext v i; unfold zE; rw [h2' 6 (by decide) (by decide) (by decide) (by decide) (by decide)]
      have gE : ∀ P : Nat → Prop, ¬ P 193 → ¬ P 199 → Eqf P S (usI t18 199 so (fI t18 199 so + 1)) := fun P g1 g2 => by
        rw [ht18]
        exact Eqf_usI (Eqf_usL (gE1 P) (Or.inl g1)) (Or.inl g2)
      have e24 : nI (npS S so) = nI (aN (t.1 14)) := by rw [e14]
      rw [e24]
      refine hz0 v2 i j i2 j2 hv hi hj hi2 hj2 rfl ei ej ei2 ej2 (fun z => hc (Or.inl (hx4.trans z))) (by rw [e14]; exact hnp) _ ?_
      unfold phA
      rw [e14, ← hA']
      refine hm _ _ ?_ ?_ (gE _ (by unfold fKp; decide) (by unfold fKp; decide)) ?_ ?_
      · refine rA_oth hA (gE _ (by unfold fB0; decide) (by unfold fB0; decide)) (gE _ (by decide) (by decide)) (h1' 0 (by decide) (by decide)) (fun k hk => h2' k (by omega) (by omega) (by omega) (by omega) (by omega)) (congrFun (h2' 26 (by decide) (by decide) (by decide) (by decide) (by decide)) 0) ?_ ?_ ?_
        · have gR : Eqf (fun f => f / 16 = 8) S (usI t18 199 so (fI t18 199 so + 1)) := gE _ (by decide) (by decide)
          have gB : Eqf fB0 S (usI t18 199 so (fI t18 199 so + 1)) := gE _ (by unfold fB0; decide) (by unfold fB0; decide)
          have hr' : ∀ k, phL (usI t18 199 so (fI t18 199 so + 1)) so k = if k < npS S so then phL S so k else if k = npS S so then e else 0 := fun k => by
            unfold phL
            show ((fL t18 193 so)[k]?).getD 0 = _
            rw [hL18, gl_app]
            rfl
          have hnp' : npS (usI t18 199 so (fI t18 199 so + 1)) so = npS S so + 1 := hl21
          have fnew : fI (usI t18 199 so (fI t18 199 so + 1)) 128 e = nI v2 ∧ fI (usI t18 199 so (fI t18 199 so + 1)) 129 e = a2 ∧ fI (usI t18 199 so (fI t18 199 so + 1)) 130 e = a4 ∧ fI (usI t18 199 so (fI t18 199 so + 1)) 133 e = 0 := by
            refine ⟨?_, ?_, ?_, ?_⟩
            · rw [fI_ne (by decide), ht18, s_usL_fI, hS1, s_usR_fI, fI_ne (by decide), s_usR_fI, fI_ne (by decide), fI_at, if_pos rfl]
            · rw [fI_ne (by decide), ht18, s_usL_fI, hS1, s_usR_fI, fI_ne (by decide), s_usR_fI, fI_at, if_pos rfl]
            · rw [fI_ne (by decide), ht18, s_usL_fI, hS1, s_usR_fI, fI_at, if_pos rfl]
            · rw [fI_ne (by decide), ht18, s_usL_fI, hS1, s_usR_fI, fI_ne (by decide), s_usR_fI, fI_ne (by decide), fI_ne (by decide)]
              show (if e = szC S then 0 else fI S 133 e) = 0
              rw [if_pos he]
          have rnew : fR (usI t18 199 so (fI t18 199 so + 1)) 131 e = some (evL S so v2 i j) ∧ fR (usI t18 199 so (fI t18 199 so + 1)) 132 e = some (evL S so v2 i2 j2) := by
            rw [s_usI_fR, ht18, s_usL_fR, hS1, s_usR_fR, s_usI_fR, s_usR_fR]
            refine ⟨?_, up2_is⟩
            rw [up2_no (fun z => absurd z.1 (by decide)), up2_is]
          have hke2 : kdC (usI t18 199 so (fI t18 199 so + 1)) e = 8 := by
            rw [ht18]
            exact hke
          obtain ⟨b1, b2, b3, b4, b5, b6⟩ := hP
          have kph : ∀ k, k < npS S so → kdC S (phL S so k) ≠ 0 := fun k hk => by rw [(b4 k hk).1]; decide
          have neq : ∀ k, k < npS S so → phL S so k ≠ e := fun k hk z => kph k hk (by rw [z]; exact h0e)
          refine ⟨by rw [hnp']; omega, by rw [hnp']; exact h14', ?_, ?_, ?_, ?_⟩
          · show fC t18 193 so ≤ 500000
            rw [ht18]
            show up2 (fC S1) 193 so _ 193 so ≤ 500000
            rw [up2_is]
            exact p3 hc5 (by omega)
          · intro k hk
            rw [hnp'] at hk
            by_cases e9 : k < npS S so
            · obtain ⟨c1, c2, c3, c4, c5, c6, c7, c8, c9⟩ := b4 k e9
              obtain ⟨w1, -, w2⟩ := gR (phL S so k) (kph k e9)
              have kne' : ¬ k = npS S so := by omega
              unfold rPk rPe
              rw [hr', if_pos e9, (w2 131 (by decide)).2.2.1, (w2 132 (by decide)).2.2.1, h15', if_neg kne', h16', if_neg kne', h17', if_neg kne', h18', if_neg kne', h19', if_neg kne', h2' 20 (by decide) (by decide) (by decide) (by decide) (by decide), eN, eE]
              refine ⟨w1.trans c1, (w2 128 (by decide)).1.trans c2, (w2 129 (by decide)).1.trans c3, (w2 130 (by decide)).1.trans c4, (w2 133 (by decide)).1.trans c5, c6, c7, c8, fun z => ?_⟩
              obtain ⟨v, i, j, i2, j2, d1, d2, d3, d4, d5, d6, d7, d8, d9, d10, d11, d12⟩ := c9 z
              exact ⟨v, i, j, i2, j2, d1, d2, d3, d4, d5, d6, d7, d8, d9, d10, by rw [evL_c hB hM gB d2 d1]; exact d11, by rw [evL_c hB hM gB d4 d1]; exact d12⟩
            · have kne' : k = npS S so := by omega
              subst kne'
              have z20 : t.2 20 (npS S so) = 0 := b6 _ (Nat.le_refl _) hnp
              unfold rPk rPe
              rw [hr', if_neg (Nat.lt_irrefl _), if_pos rfl, rnew.1, rnew.2, h15', if_pos rfl, h16', if_pos rfl, h17', if_pos rfl, h18', if_pos rfl, h19', if_pos rfl, h2' 20 (by decide) (by decide) (by decide) (by decide) (by decide), eN, eE]
              refine ⟨hke2, fnew.1, fnew.2.1, fnew.2.2.1, fnew.2.2.2.trans z20.symm, by rw [z20]; exact Or.inl rfl, fun z => (by cases z), fun z => (by cases z), fun _ => ?_⟩
              exact ⟨v2, i, j, i2, j2, hv, hi, hj, hi2, hj2, rfl, ei, ej, ei2, ej2, by rw [evL_c hB hM gB hi hv], by rw [evL_c hB hM gB hi2 hv]⟩
          · intro k k2 hk hk2 z
            rw [hnp'] at hk hk2
            rw [hr', hr'] at z
            by_cases e9 : k < npS S so
            · rw [if_pos e9] at z
              by_cases e8 : k2 < npS S so
              · rw [if_pos e8] at z
                exact b5 k k2 e9 e8 z
              · rw [if_neg e8, if_pos (by omega)] at z
                exact absurd z (neq k e9)
            · rw [if_neg e9, if_pos (by omega)] at z
              by_cases e8 : k2 < npS S so
              · rw [if_pos e8] at z
                exact absurd z.symm (neq k2 e8)
              · omega
          · intro k hk hk2
            rw [hnp'] at hk
            rw [h2' 20 (by decide) (by decide) (by decide) (by decide) (by decide)]
            exact b6 k (by omega) hk2
        · exact rT_c hso (rA_T hA) (gE _ (by unfold fT0; decide) (by unfold fT0; decide)) (h1' 0 (by decide) (by decide)) (h2' 4 (by decide) (by decide) (by decide) (by decide) (by decide)) (h2' 5 (by decide) (by decide) (by decide) (by decide) (by decide))
        · exact rS_c hso (rA_S hA) (gE _ (by unfold fS0; decide) (by unfold fS0; decide)) (h2' 13 (by decide) (by decide) (by decide) (by decide) (by decide)) (h1' 21 (by decide) (by decide)) (h1' 22 (by decide) (by decide)) (h1' 23 (by decide) (by decide))
      · rw [ed_at, ht18, s_usL_fI, hS1, s_usR_fI, fI_ne (by decide), s_usR_fI, fI_ne (by decide), fI_ne (by decide), fI_new h0 hso]
      · rw [← he]
        exact hzz1
      · exact hzz2
  · subst ev
    exact absurd hzz hz
  · exact Or.inr (Or.inl ⟨rfl, fun hz4 hz5 => h2 (Or.inr hz3) _ (hn sz ns hz4 hz5)⟩)
  · exact Or.inl ⟨rfl, fun hz4 hz5 => h1 hz _ (hn sz ns hz4 hz5)⟩
  · exact Or.inr (Or.inl ⟨rfl, fun hz4 hz5 => h2 (Or.inl hz2) _ (hn sz ns hz4 hz5)⟩)
end MV
