/-! THE CLASS PLAYS AN EVENT -/
def zTo (A : MS) (L : List Nat) : Nat := (zSs A L 0 L.length).1 + (zSs A L 1 L.length).1 + (zSs A L 2 L.length).1 + (zSs A L 3 L.length).1
section PV
variable {A : MS} {L : List Nat} {S S0 : CS} {so po p v : Nat} {x : Nat → Nat} {G : List Nat}
theorem zSs_mono {a b : Nat} (h : a ≤ b) : (zSs A L v a).1 ≤ (zSs A L v b).1 := by
  induction b with
  | zero => rw [show a = 0 by omega]; exact Nat.le_refl _
  | succ b ih =>
    by_cases e : a = b + 1
    · rw [e]; exact Nat.le_refl _
    · have h1 := ih (by omega)
      have h2 := (zSe_n (A := A) (L := L) (v := v) (p := b) (s := zSs A L v b) (zE A v (gn L b))).1
      exact Nat.le_trans h1 h2
theorem zSe_mono {s : SQ} {a b : Nat} (h : a ≤ b) : (zSe A L v p s a).1 ≤ (zSe A L v p s b).1 := by
  induction b with
  | zero => rw [show a = 0 by omega]; exact Nat.le_refl _
  | succ b ih =>
    by_cases e : a = b + 1
    · rw [e]; exact Nat.le_refl _
    · exact Nat.le_trans (ih (by omega)) (zSn_n (A := A) (L := L) (v := v) (p := p) (k := b) (s := zSe A L v p s b)).1
theorem zSv_le (hp : p < L.length) {k : Nat} (hk : k ≤ zE A v (gn L p)) : (zSv A L v p k).1 ≤ (zSs A L v L.length).1 := by
  have h1 : (zSv A L v p k).1 ≤ (zSs A L v (p + 1)).1 := zSe_mono hk
  exact Nat.le_trans h1 (zSs_mono hp)
theorem zTo_le (w : zM A) (hL : ∀ x, x ∈ L → x < zN A) (h48 : L.length ≤ 48) : zTo A L ≤ 3072 := by
  have h0 := zSs_n w hL (v := 0) (by decide) L.length (Nat.le_refl _)
  have h1 := zSs_n w hL (v := 1) (by decide) L.length (Nat.le_refl _)
  have h2 := zSs_n w hL (v := 2) (by decide) L.length (Nat.le_refl _)
  have h3 := zSs_n w hL (v := 3) (by decide) L.length (Nat.le_refl _)
  unfold zTo
  omega
theorem bud_mono {n m : Nat} {B : Nat × Nat} (hc : capOk S0 po) (h : bud S0 po n B) (hm : m ≤ n) : bud S0 po m B := by
  obtain ⟨c1, c2, -⟩ := hc
  obtain ⟨b1, b2⟩ := h
  have hmono := ck_mono c1 c2 (a := max (fL S0 148 po).length m - (fL S0 148 po).length) (b := max (fL S0 148 po).length n - (fL S0 148 po).length) (by omega)
  have g1 := (ck_ok c1 c2 (max (fL S0 148 po).length m - (fL S0 148 po).length)).2.1
  refine ⟨?_, ?_⟩
  · refine Nat.le_trans ?_ b1
    omega
  · refine Nat.le_trans ?_ b2
    omega
theorem gLen (h : sndG A (fun u => zSv A L u p (x u)) S po G) : G.length = (zSv A L 0 p (x 0)).1 + (zSv A L 1 p (x 1)).1 + (zSv A L 2 p (x 2)).1 + (zSv A L 3 p (x 3)).1 := by
  have := cn_sum (G := G) (n := G.length) h.2.2.1
  rw [h.2.2.2.1 0 (by decide), h.2.2.2.1 1 (by decide), h.2.2.2.1 2 (by decide), h.2.2.2.1 3 (by decide)] at this
  exact this.symm
theorem cc_playEvent (w : zM A) (hL : ∀ x, x ∈ L → x < zN A) (h48 : L.length ≤ 48) (hv : v < 4) (hp : p < L.length) (hbs : pBase A L so po S) (hx : ∀ u, u < 4 → x u ≤ zE A u (gn L p)) (hxv : x v < zE A v (gn L p)) (h152 : ∀ u, u < 4 → fA S 152 po u = nI (x u)) (h153 : ∀ u, u < 4 → fA S 153 po u = nI (zS A u (gn L p) (x u))) (hX : sndX A L S po p x G) (hro : rowOk S po) (hal : alc S0 S po G.length) (hcap : capOk S0 po) (hmin : ∀ u, u < 4 → x u < zE A u (gn L p) → zS A v (gn L p) (x v) < zS A u (gn L p) (x u) ∨ (zS A v (gn L p) (x v) = zS A u (gn L p) (x u) ∧ v ≤ u)) {B : Nat × Nat} (hbud : bud S0 po (zTo A L) B) {Q : CS → Prop} {X : String → CS → Prop}
    (hQ : ∀ S' G', Eqf fQp S S' → sndX A L S' po p (va_up x v (x v + 1)) G' → rowOk S' po → alc S0 S' po G'.length → (∀ u, u < 4 → fA S' 152 po u = nI (va_up x v (x v + 1) u)) → (∀ u, u < 4 → fA S' 153 po u = nI (zS A u (gn L p) (va_up x v (x v + 1) u))) → Q S') : w_X6_playEvent B po so (nI p) (nI v) (nI (zP A (gn L p + 1))) S Q X := by
  have hb := gn_lt hL hp
  obtain ⟨hB, hk, hpl, hld⟩ := hbs
  have hpo : kdC S po ≠ 0 := by rw [hk]; decide
  have ev : (nI v).toNatClampNeg = v := nI_clamp (by omega)
  have ep : (nI p).toNatClampNeg = p := nI_clamp (by omega)
  have he16 := (z_r w hb hv).1
  obtain ⟨r1, r2, r3⟩ := cc_rw hB w hb hv
  obtain ⟨q1, q2, q3⟩ := cc_ev hB w hb hv hxv
  have eg : v_X8_get (rwL S so v (gn L p)) (nI (x v)) S = evL S so v (gn L p) (x v) := q2
  have hsx := z_sL w hb hv (k := x v) (by omega)
  have hsx1 := z_sL w hb hv (k := x v + 1) (by omega)
  have hl := z_len w hb
  have hzk := z_k w hb hv hxv
  obtain ⟨t1, t2⟩ := cc_time hB w hb (x := zS A v (gn L p) (x v)) (by omega)
  obtain ⟨t3, t4⟩ := cc_time hB w hb (x := zS A v (gn L p) (x v + 1)) (by omega)
  have e48 : fI S 48 (evL S so v (gn L p) (x v)) = nI (zK A v (gn L p) (x v)) := q3.2.2.2.2.2.1.trans hzk.1
  obtain ⟨p1, p2, p3⟩ := hpl
  have epl := p2 p hp
  refine ⟨hk, vp_nI (n := 4) hv (by decide), fun x3 hx3 => ?_⟩
  rw [ev, h152 v hv] at hx3
  subst hx3
  rw [ep, epl.1, epl.2, r2, eg, ev, h153 v hv, t2, e48, nI_add, nI_add]
  refine ⟨vp_nI (n := 48) (by omega) (by decide), hB.1, r1, r3, ⟨r3, q1, by rw [q2]; exact q3.1⟩, vp_nI (n := 48) (by omega) (by decide), vp_nI (n := 4) hv (by decide), t1, fun x12 hx12 => ⟨vp_nI (n := 4) hv (by decide), q3.1, vp_nI (n := 4) hv (by decide), fun t16 h16 => ?_⟩⟩
  have e152 : fA t16 152 po v = nI (x v) := by rw [h16, fA_ne (by decide)]; exact h152 v hv
  rw [e152, nI_1]
  refine ⟨vp_nI (n := 4) hv (by decide), vp_nI (n := 4) hv (by decide), fun t19 h19 => ?_⟩
  have g19 : Eqf fQp S t19 := by
    rw [h19, h16]
    exact Eqf_usA (Eqf_usA Eqf_rfl (Or.inl (fun z => z.1.2 ⟨by decide, by decide⟩))) (Or.inl (fun z => z.1.2 ⟨by decide, by decide⟩))
  have c19 : kdC t19 = kdC S ∧ fI t19 = fI S ∧ fL t19 = fL S ∧ fQ t19 = fQ S ∧ fC t19 = fC S ∧ szC t19 = szC S ∧ nsC t19 = nsC S ∧ fR t19 = fR S := by rw [h19, h16]; exact ⟨rfl, rfl, rfl, rfl, rfl, rfl, rfl, rfl⟩
  obtain ⟨c1, c2, c3, c4, c5, c6, c7, c8⟩ := c19
  have hbs19 := pBase_Eq w ⟨hB, hk, ⟨p1, p2, p3⟩, hld⟩ g19
  obtain ⟨hB19, hk19, hp19, hld19⟩ := hbs19
  have a152 : ∀ u, u < 4 → fA t19 152 po u = nI (va_up x v (x v + 1) u) := fun u hu => by
    rw [h19, fA_at (by omega), va_up_at]
    by_cases e : u = v
    · rw [if_pos e, if_pos e]
    · rw [if_neg e, if_neg e, h16, fA_ne (by decide)]
      exact h152 u hu
  have a153 : ∀ u, u < 4 → fA t19 153 po u = nI (zS A u (gn L p) (va_up x v (x v + 1) u)) := fun u hu => by
    rw [h19, fA_ne (by decide), h16, fA_at (by omega), va_up_at]
    by_cases e : u = v
    · rw [if_pos e, if_pos e, e]
      rfl
    · rw [if_neg e, if_neg e]
      exact h153 u hu
  have isN : v_X0_isNote (evL S so v (gn L p) (x v)) t19 = 0 ↔ A.2 8 (zp v (gn L p) (x v)) ≤ 0 := by
    unfold v_X0_isNote
    rw [c2, q3.2.1]
    by_cases c : A.2 8 (zp v (gn L p) (x v)) ≤ 0
    · rw [if_neg (fun z => z c)]
      exact ⟨fun _ => c, fun _ => rfl⟩
    · rw [if_pos c]
      exact ⟨fun z => absurd z one_ne, fun z => absurd z c⟩
  have k19e : kdC t19 (evL S so v (gn L p) (x v)) = 3 := by rw [c1]; exact q3.1
  have al19 : alc S0 t19 po G.length := by
    obtain ⟨d, d1, d2, d3, d4, d5⟩ := hal
    exact ⟨d, by rw [c3]; exact d1, d2, by rw [c5]; exact d3, by rw [c6]; exact d4, by rw [c7]; exact d5⟩
  have ro19 : rowOk t19 po := by
    unfold rowOk
    rw [c3, c1]
    exact hro
  refine ⟨k19e, fun hno => ?_, fun hyes => ?_⟩
  · refine hQ t19 G g19 (sndX_1 w hL hv hp hxv (isN.mp hno) hX (by rw [c2]) (by rw [c3]) (fun k f _ _ _ => by rw [c2]) (by rw [c4])) ro19 al19 a152 a153
  have hpi : ¬ A.2 8 (zp v (gn L p) (x v)) ≤ 0 := fun z => hyes (isN.mpr z)
  obtain ⟨ad, acase⟩ := cc_ahead hB19 w hk19 hL h48 hp19 hv hp hxv
  refine ⟨ad, fun x22 hx22 => ?_⟩
  have f153 : fA t19 153 po v = nI (zS A v (gn L p) (x v + 1)) := by
    rw [a153 v hv, va_up_at, if_pos rfl]
  have f145 : fA t19 145 po p = nI (zSt A L p) := (hp19.2.1 p hp).2
  have hcu : nI (zSt A L p) + nI (zT A (gn L p) (zS A v (gn L p) (x v + 1))) = nI (zCu A L v p (x v + 1)) := nI_add _ _
  have hcu0 : x12 = nI (zCu A L v p (x v)) := by rw [hx12]; rfl
  have x22k : x22 ≠ none → kdC t19 (oG x22) = 3 := fun hne => by
    rcases acase with ⟨a1, -⟩ | ⟨i, j, a1, a2, a3, -⟩
    · exact absurd (hx22.trans a1) hne
    · rw [hx22, a3]
      exact (cc_ev hB19 w a1 hv a2).2.2.1
  refine ⟨fun h => h, fun h => x22k h, fun h => ⟨x22k h, fun _ => k19e⟩, fun _ _ => vp_nI (n := 4) hv (by decide), fun x23 hx23 => ?_⟩
  have e23 : (zGo A L v p (x v) = true → 0 < (zSv A L v p (x v)).1) := fun hg => (zNote p (by omega)).2 (x v) hxv hp hg
  have go23 : x23 = 0 ↔ ¬ zGo A L v p (x v) = true := by
    have e50 : fI t19 50 (evL S so v (gn L p) (x v)) = A.2 8 (zp v (gn L p) (x v)) := by rw [c2]; exact q3.2.1
    rcases acase with ⟨a1, a2⟩ | ⟨i, j, a1, a2, a3, a4⟩
    · rw [hx23, if_neg (fun z => z.1 (hx22.trans a1))]
      exact ⟨fun _ => a2, fun _ => rfl⟩
    · have ex : x22 = some (evL t19 so v i j) := hx22.trans a3
      have q9 := (cc_ev hB19 w a1 hv a2).2.2
      have hti : v_X0_isTiedTo (oG x22) (evL S so v (gn L p) (x v)) t19 = 0 ↔ ¬ zHo A (zp v i j) (zp v (gn L p) (x v)) = true := by
        rw [ex]
        show v_X0_isTiedTo (evL t19 so v i j) (evL S so v (gn L p) (x v)) t19 = 0 ↔ _
        unfold v_X0_isTiedTo
        rw [e50, q9.2.1, q9.2.2.2.2.1]
        by_cases c : ¬ A.2 12 (zp v i j) = 0 ∧ A.2 8 (zp v (gn L p) (x v)) = A.2 8 (zp v i j)
        · rw [if_pos c]
          refine ⟨fun z => absurd z one_ne, fun z => absurd (decide_eq_true ⟨c.1, by rw [← c.2]; exact hpi, c.2.symm⟩) z⟩
        · rw [if_neg c]
          refine ⟨fun _ z => c ?_, fun _ => rfl⟩
          obtain ⟨b1, b2, b3⟩ := zHo_note z
          exact ⟨b1, b3.symm⟩
      by_cases cg : zGo A L v p (x v) = true
      · have hpos := e23 cg
        obtain ⟨gl, -, -, -, g4⟩ := hX.2.2.2 v hv hpos
        have ne : ¬ fQ t19 151 po v = none := by rw [c4, g4]; exact fun z => (by cases z)
        have c9 : (¬ x22 = none) ∧ ((¬ v_X0_isTiedTo (oG x22) (evL S so v (gn L p) (x v)) t19 = 0) ∧ ¬ fQ t19 151 po v = none) := ⟨by rw [ex]; exact fun z => (by cases z), fun z => (hti.mp z) (a4.mp cg), ne⟩
        rw [hx23, if_pos c9]
        exact ⟨fun z => absurd z one_ne, fun z => absurd cg z⟩
      · have c9 : ¬ ((¬ x22 = none) ∧ ((¬ v_X0_isTiedTo (oG x22) (evL S so v (gn L p) (x v)) t19 = 0) ∧ ¬ fQ t19 151 po v = none)) := fun z => z.2.1 (hti.mpr (fun z9 => cg (a4.mpr z9)))
        rw [hx23, if_neg c9]
        exact ⟨fun _ => cg, fun _ => rfl⟩
  refine ⟨fun q u => kdC u q = 13 ∧ fA u 145 po p = nI (zSt A L p) ∧ fA u 153 po v = nI (zS A v (gn L p) (x v + 1)) ∧ Q (usQ (usI u 210 q (nI (zCu A L v p (x v + 1)))) 151 po (nI v) (some q)), fun q u hu => ?_, fun h23 => ?_, fun h23 => ?_⟩
  · obtain ⟨u1, u2, u3, u4⟩ := hu
    rw [u2, u3, t4, hcu]
    refine ⟨vp_nI (n := 48) (by omega) (by decide), vp_nI (n := 4) hv (by decide), t3, u1, fun t34 h34 => ⟨vp_nI (n := 4) hv (by decide), fun t36 h36 => ?_⟩⟩
    rw [h36, h34]
    exact u4
  · have hng := go23.mp h23
    have hgl := gLen hX.1
    have hG3072 := zTo_le w hL h48
    have hm : ∀ u, u < 4 → (zSv A L u p (x u)).1 ≤ (zSs A L u L.length).1 := fun u hu => zSv_le hp (hx u hu)
    have hmv : (zSv A L v p (x v)).1 + 1 ≤ (zSs A L v L.length).1 := by
      have h1 : (zSv A L v p (x v + 1)).1 ≤ (zSs A L v L.length).1 := zSv_le hp (by omega)
      have h2 : (zSv A L v p (x v + 1)).1 = (zSv A L v p (x v)).1 + 1 := by
        show (zSn A L v p (x v) (zSv A L v p (x v))).1 = _
        unfold zSn
        rw [if_neg hpi, if_neg hng]
      omega
    have hlt : G.length + 1 ≤ zTo A L := by
      have m0 := hm 0 (by decide)
      have m1 := hm 1 (by decide)
      have m2 := hm 2 (by decide)
      have m3 := hm 3 (by decide)
      unfold zTo
      have hv4 : v = 0 ∨ v = 1 ∨ v = 2 ∨ v = 3 := by omega
      rcases hv4 with rfl | rfl | rfl | rfl <;> omega
    have h149 : fI t19 149 po = nI G.length := by rw [c2]; exact hX.1.1
    have hcl : G.length ≤ (fL t19 148 po).length := by rw [c3]; exact hX.1.2.1
    refine cc_newSound hk19 k19e hcap ro19 al19 h149 hcl (by omega) (bud_mono hcap hbud hlt) (fun q u y1 y3 y4 y5 y6 y7 y8 y9 y10 y11 y12 y13 => ?_)
    have upo := y1 po (by rw [hk19]; decide)
    have ua : ∀ f, 144 ≤ f → f ≤ 153 → f ≠ 148 → f ≠ 149 → fA u f po = fA t19 f po ∧ fQ u f po = fQ t19 f po := fun f f1 f2 f3 f4 => ⟨(upo.2.2 f ⟨f3, f4, by omega⟩).2.1, (upo.2.2 f ⟨f3, f4, by omega⟩).2.2.2.1⟩
    have kq : kdC u q = 13 := by rw [y7]; exact y5.1 _ y4
    have gu : Eqf fQp S (usQ (usI u 210 q (nI (zCu A L v p (x v + 1)))) 151 po (nI v) (some q)) := Eqf_trans g19 (Eqf_usQ (Eqf_usI (Eqf_sub (fun f z => ⟨fun e => z.1.1 ⟨by omega, by omega⟩, fun e => z.1.1 ⟨by omega, by omega⟩, fun e => z.2 e⟩) y1) (Or.inl (fun z => z.2 ⟨by decide, by decide⟩))) (Or.inl (fun z => z.1.2 ⟨by decide, by decide⟩)))
    refine ⟨kq, by rw [(ua 145 (by decide) (by decide) (by decide) (by decide)).1]; exact f145, by rw [(ua 153 (by decide) (by decide) (by decide) (by decide)).1]; exact f153, hQ _ (G ++ [v]) gu ?_ ?_ ?_ (fun u' hu' => ?_) (fun u' hu' => ?_)⟩
    · have hlS : (fL t19 148 po).length = (fL S 148 po).length := by rw [c3]
      have nq : ∀ k, k < (fL S 148 po).length → k ≠ G.length → gn (fL S 148 po) k ≠ q := fun k hk2 hne z => by
        have y3k := y3 k (by omega)
        rw [c3] at y3k
        rw [← y3k, y7] at z
        have hlt2 : k < (fL u 148 po).length := by
          obtain ⟨d, d1, d2, -⟩ := y6
          obtain ⟨d', d1', d2', -⟩ := hal
          omega
        exact hne (y5.2 k G.length hlt2 y4 z)
      refine sndX_3 w hL hv hp hxv hpi hng hX hmin ?_ y4 (fun k hk2 => ?_) (fun k f hk2 f1 f2 => ?_) ?_ (fun u' => ?_)
      · show fI (usI u 210 q (nI (zCu A L v p (x v + 1)))) 149 po = _
        rw [fI_ne (by decide)]
        exact y8
      · have := y3 k (by omega)
        rw [c3] at this
        exact this
      · have hk3 : k < (fL S 148 po).length := by have := hX.1.2.1; omega
        show fI (usI u 210 q (nI (zCu A L v p (x v + 1)))) f (gn (fL S 148 po) k) = _
        have e9 : fI u f (gn (fL S 148 po) k) = fI S f (gn (fL S 148 po) k) := by
          have := y9 k f (by omega) (by omega) (by omega)
          rw [c3, c2] at this
          exact this
        show up2 (fI u) 210 q _ f (gn (fL S 148 po) k) = _
        rw [up2_no (fun z => nq k hk3 (by omega) z.2)]
        exact e9
      · have ezs : zSn A L v p (x v) (zSv A L v p (x v)) = ((zSv A L v p (x v)).1 + 1, va_up (zSv A L v p (x v)).2.1 (zSv A L v p (x v)).1 (zCu A L v p (x v)), va_up (zSv A L v p (x v)).2.2.1 (zSv A L v p (x v)).1 (zCu A L v p (x v + 1)), va_up (zSv A L v p (x v)).2.2.2 (zSv A L v p (x v)).1 (16 * gn L p + x v)) := by
          unfold zSn
          rw [if_neg hpi, if_neg hng]
        show sFld A (usQ (usI u 210 q (nI (zCu A L v p (x v + 1)))) 151 po (nI v) (some q)) (gn (fL u 148 po) G.length) v _ _
        rw [← y7, ezs]
        unfold sFld
        dsimp only
        rw [va_up_at, va_up_at, va_up_at, if_pos rfl, if_pos rfl, if_pos rfl]
        refine ⟨?_, ?_, ?_, ?_, ?_⟩
        · show fI (usI u 210 q (nI (zCu A L v p (x v + 1)))) 208 q = _
          rw [fI_ne (by decide)]
          exact y10
        · show fI (usI u 210 q (nI (zCu A L v p (x v + 1)))) 209 q = _
          rw [fI_ne (by decide), y11]
          exact hcu0
        · show fI (usI u 210 q (nI (zCu A L v p (x v + 1)))) 210 q = _
          rw [fI_at, if_pos rfl]
        · show fI (usI u 210 q (nI (zCu A L v p (x v + 1)))) 211 q = _
          rw [fI_ne (by decide), y12, c2, q3.2.1]
          rw [show zp v (gn L p) (x v) = 384 * v + (16 * gn L p + x v) by unfold zp; omega]
        · show fI (usI u 210 q (nI (zCu A L v p (x v + 1)))) 212 q = _
          rw [fI_ne (by decide), y13]
          have eev : evL t19 so v (gn L p) (x v) = evL S so v (gn L p) (x v) := by
            unfold evL rwL mrL
            rw [c3, c4]
          have := hld v (gn L p) (x v) hv hb hxv (by have := w.2.1; omega)
          rw [c2]
          exact this
      · show fQ (usQ (usI u 210 q (nI (zCu A L v p (x v + 1)))) 151 po (nI v) (some q)) 151 po u' = _
        show up2 (fQ u) 151 po (va_up (fQ u 151 po) (nI v).toNatClampNeg (some q)) 151 po u' = _
        rw [up2_is, ev, va_up_at]
        show _ = if u' = v then some (gn (fL u 148 po) G.length) else fQ S 151 po u'
        rw [← y7, (ua 151 (by decide) (by decide) (by decide) (by decide)).2, c4]
    · exact y5
    · rw [List.length_append]
      exact y6
    · show fA u 152 po u' = _
      rw [(ua 152 (by decide) (by decide) (by decide) (by decide)).1]
      exact a152 u' hu'
    · show fA u 153 po u' = _
      rw [(ua 153 (by decide) (by decide) (by decide) (by decide)).1]
      exact a153 u' hu'
  · have hgo : zGo A L v p (x v) = true := Classical.byContradiction fun z => h23 (go23.mpr z)
    have hpos := e23 hgo
    obtain ⟨gl, g1, g2, g3, g4⟩ := hX.2.2.2 v hv hpos
    have eq19 : fQ t19 151 po v = some (gn (fL S 148 po) gl) := by rw [c4]; exact g4
    have hglS : gl < (fL S 148 po).length := by have := hX.1.2.1; omega
    rw [eq19]
    refine ⟨vp_nI (n := 4) hv (by decide), fun z => (by cases z), ?_⟩
    show kdC t19 (gn (fL S 148 po) gl) = 13 ∧ _
    obtain ⟨q, hq⟩ : ∃ q, q = gn (fL S 148 po) gl := ⟨_, rfl⟩
    rw [← hq]
    have kq : kdC t19 q = 13 := by rw [c1, hq]; exact hro.1 gl hglS
    refine ⟨kq, f145, f153, hQ _ G (Eqf_trans g19 (Eqf_usQ (Eqf_usI Eqf_rfl (Or.inl (fun z => z.2 ⟨by decide, by decide⟩))) (Or.inl (fun z => z.1.2 ⟨by decide, by decide⟩)))) ?_ ro19 al19 a152 a153⟩
    refine sndX_2 w hL hv hp hxv hpi hgo hX g1 g2 g3 ?_ ?_ (fun k f hk2 f1 f2 f3 => ?_) (fun k hk2 => ?_) (fun u' => ?_)
    · show fI (usI t19 210 q (nI (zCu A L v p (x v + 1)))) 149 po = _
      rw [fI_ne (by decide), c2]
    · show fL t19 148 po = _
      rw [c3]
    · show fI (usI t19 210 q (nI (zCu A L v p (x v + 1)))) f (gn (fL S 148 po) k) = _
      rw [fI_ne f3, c2]
    · show fI (usI t19 210 q (nI (zCu A L v p (x v + 1)))) 210 (gn (fL S 148 po) k) = _
      rw [fI_at, c2]
      by_cases e : k = gl
      · rw [if_pos (by rw [e, hq]), if_pos e]
      · rw [if_neg (fun z => e (hro.2 k gl hk2 hglS (by rw [z, hq]))), if_neg e]
    · show up2 (fQ t19) 151 po (va_up (fQ t19 151 po) (nI v).toNatClampNeg (some q)) 151 po u' = _
      rw [up2_is, ev, va_up_at, c4, hq]
end PV
