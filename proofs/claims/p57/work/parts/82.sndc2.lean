/-! THE CLASS'S SOUNDS: an event is played -/
def fQp (f : Nat) : Prop := (¬ (148 ≤ f ∧ f ≤ 149) ∧ ¬ (151 ≤ f ∧ f ≤ 153)) ∧ ¬ (208 ≤ f ∧ f ≤ 212)
def pBase (A : MS) (L : List Nat) (so po : Nat) (S : CS) : Prop := rB S A so ∧ kdC S po = 9 ∧ plC A S po L ∧ ldTo S A so 1536 S
def rowOk (S : CS) (po : Nat) : Prop := (∀ k, k < (fL S 148 po).length → kdC S (gn (fL S 148 po) k) = 13) ∧ ∀ k k2, k < (fL S 148 po).length → k2 < (fL S 148 po).length → gn (fL S 148 po) k = gn (fL S 148 po) k2 → k = k2
/-- the room that sounds took since S0, when c of them are wanted -/
def alc (S0 S : CS) (po c : Nat) : Prop := ∃ d, (fL S 148 po).length = (fL S0 148 po).length + d ∧ (fL S0 148 po).length + d = max (fL S0 148 po).length c ∧ fC S 148 po = ck (fC S0 148 po) (fL S0 148 po).length d ∧ szC S ≤ szC S0 + d + (ck (fC S0 148 po) (fL S0 148 po).length d - fC S0 148 po) ∧ nsC S ≤ nsC S0 + 5 * d + 4 * (ck (fC S0 148 po) (fL S0 148 po).length d - fC S0 148 po)
def capOk (S0 : CS) (po : Nat) : Prop := (fC S0 148 po = 0 ∨ 10 ≤ fC S0 148 po) ∧ fC S0 148 po ≤ 10 + 2 * (fL S0 148 po).length ∧ (fL S0 148 po).length ≤ 3072
/-- how much room n sounds take in all -/
def bud (S0 : CS) (po n : Nat) (B : Nat × Nat) : Prop := szC S0 + (max (fL S0 148 po).length n - (fL S0 148 po).length) + (ck (fC S0 148 po) (fL S0 148 po).length (max (fL S0 148 po).length n - (fL S0 148 po).length) - fC S0 148 po) ≤ B.1 ∧ nsC S0 + 5 * (max (fL S0 148 po).length n - (fL S0 148 po).length) + 4 * (ck (fC S0 148 po) (fL S0 148 po).length (max (fL S0 148 po).length n - (fL S0 148 po).length) - fC S0 148 po) ≤ B.2
def sFld (A : MS) (S : CS) (q v : Nat) (s : SQ) (x : Nat) : Prop := fI S 208 q = nI v ∧ fI S 209 q = nI (s.2.1 x) ∧ fI S 210 q = nI (s.2.2.1 x) ∧ fI S 211 q = A.2 8 (384 * v + s.2.2.2 x) ∧ fI S 212 q = zLo A v (s.2.2.2 x + 1)
def gB (σ : Nat → SQ) (G : List Nat) (g : Nat) : Nat := (σ (gn G g)).2.1 (cn G (gn G g) g)
/-- the row of sounds G, by their voices -/
def sndG (A : MS) (σ : Nat → SQ) (S : CS) (po : Nat) (G : List Nat) : Prop := fI S 149 po = nI G.length ∧ G.length ≤ (fL S 148 po).length ∧ (∀ g, g < G.length → gn G g < 4) ∧ (∀ v, v < 4 → cn G v G.length = (σ v).1) ∧ (∀ g, g < G.length → sFld A S (gn (fL S 148 po) g) (gn G g) (σ (gn G g)) (cn G (gn G g) g)) ∧ ∀ g g2, g < g2 → g2 < G.length → lexLt (gB σ G g) (gn G g) (gB σ G g2) (gn G g2)
def sndX (A : MS) (L : List Nat) (S : CS) (po p : Nat) (x : Nat → Nat) (G : List Nat) : Prop := sndG A (fun v => zSv A L v p (x v)) S po G ∧ (∀ g u, g < G.length → u < 4 → x u < zE A u (gn L p) → lexLt (gB (fun v => zSv A L v p (x v)) G g) (gn G g) (zCu A L u p (x u)) u) ∧ (∀ g, g < G.length → gB (fun v => zSv A L v p (x v)) G g < zSt A L (p + 1)) ∧ ∀ v, v < 4 → 0 < (zSv A L v p (x v)).1 → ∃ g, g < G.length ∧ gn G g = v ∧ cn G v g + 1 = (zSv A L v p (x v)).1 ∧ fQ S 151 po v = some (gn (fL S 148 po) g)
section PE
variable {A : MS} {L : List Nat} {S S0 S' : CS} {so po : Nat}
theorem pBase_Eq (w : zM A) (h : pBase A L so po S) (g : Eqf fQp S S') : pBase A L so po S' := by
  obtain ⟨h1, h2, h3, h4⟩ := h
  have gB : Eqf fB0 S S' := Eqf_sub (fun f z => by unfold fB0 at z; unfold fQp; omega) g
  have hp := g po (by rw [h2]; decide)
  refine ⟨rB_c h1 gB rfl rfl rfl rfl rfl rfl rfl rfl rfl rfl rfl, hp.1.trans h2, ?_, fun v i j a1 a2 a3 a4 => ?_⟩
  · obtain ⟨p1, p2, p3⟩ := h3
    refine ⟨(hp.2.2 146 (by unfold fQp; omega)).1.trans p1, fun p hpl => ?_, (hp.2.2 147 (by unfold fQp; omega)).1.trans p3⟩
    rw [(hp.2.2 144 (by unfold fQp; omega)).2.1, (hp.2.2 145 (by unfold fQp; omega)).2.1]
    exact p2 p hpl
  · rw [evL_c h1 w gB a2 a1]
    have k3 := (cc_ev h1 w a2 a1 a3).2.2.1
    rw [((g (evL S so v i j) (by rw [k3]; decide)).2.2 53 (by unfold fQp; omega)).1]
    exact h4 v i j a1 a2 a3 a4
theorem nI_neg1 {k : Nat} (h : k < 2147483648) : ¬ nI k = -1 := fun z => by
  have : (nI k).toInt = (-1 : Int32).toInt := by rw [z]
  rw [nI_toInt (by omega)] at this
  exact absurd this (by show ¬ (k : Int) = -1; omega)
theorem cc_newSound {B : Nat × Nat} {a1 a2 : Int32} {e c : Nat} {Q : Nat → CS → Prop} {X : String → CS → Prop} (hk : kdC S po = 9) (hce : kdC S e = 3) (hcap : capOk S0 po) (hro : rowOk S po) (hal : alc S0 S po c) (h149 : fI S 149 po = nI c) (hcl : c ≤ (fL S 148 po).length) (hc : c < 3072) (hb : bud S0 po (c + 1) B)
    (hQ : ∀ q u, Eqf (fun f => f ≠ 148 ∧ f ≠ 149 ∧ ¬ (208 ≤ f ∧ f ≤ 212)) S u → (∀ k, k < (fL S 148 po).length → gn (fL u 148 po) k = gn (fL S 148 po) k) → c < (fL u 148 po).length → rowOk u po → alc S0 u po (c + 1) → q = gn (fL u 148 po) c → fI u 149 po = nI (c + 1) → (∀ k f, k < (fL S 148 po).length → k ≠ c → f ≠ 148 → fI u f (gn (fL S 148 po) k) = fI S f (gn (fL S 148 po) k)) → fI u 208 q = a1 → fI u 209 q = a2 → fI u 211 q = fI S 50 e → fI u 212 q = fI S 53 e → Q q u) : w_X6_newSound B po a1 a2 e S Q X := by
  have hpo : kdC S po ≠ 0 := by rw [hk]; decide
  have hee : kdC S e ≠ 0 := by rw [hce]; decide
  obtain ⟨d, d1, d2, d3, d4, d5⟩ := hal
  obtain ⟨c1, c2, c3⟩ := hcap
  refine ⟨hk, fun t2 => Eqf (fun f => f ≠ 148) S t2 ∧ (∀ k, k < (fL S 148 po).length → gn (fL t2 148 po) k = gn (fL S 148 po) k) ∧ c < (fL t2 148 po).length ∧ rowOk t2 po ∧ alc S0 t2 po (c + 1), ?_, ?_, ?_⟩
  · intro t2 ht2
    obtain ⟨g, g1, g2, g3, g4⟩ := ht2
    have q1 := g po hpo
    have e149 : fI t2 149 po = nI c := (q1.2.2 149 (by decide)).1.trans h149
    have hlen31 : (fL t2 148 po).length < 2147483648 := by
      obtain ⟨d', y1, y2, -⟩ := g4
      omega
    obtain ⟨q, hq⟩ : ∃ q, q = gn (fL t2 148 po) c := ⟨_, rfl⟩
    have eG : lG t2 148 po (nI c) = q := by rw [cc_lG (by omega), hq]; rfl
    have kq : kdC t2 q = 13 := by rw [hq]; exact g3.1 c g2
    rw [e149, eG, nI_1]
    refine ⟨cc_in rfl g2 hlen31, kq, fun t5 h5 t6 h6 t7 h7 => ?_⟩
    have k7 : kdC t7 = kdC t2 := by rw [h7, h6, h5]; rfl
    have e2 := (g e hee).2.2
    have i7 : ∀ f, f ≠ 149 → f ≠ 208 → f ≠ 209 → fI t7 f = fI t2 f := fun f f1 f2 f3 => by rw [h7, fI_ne f3, h6, fI_ne f2, h5, fI_ne f1]
    refine ⟨by rw [k7, (g e hee).1]; exact hce, fun t9 h9 t10 h10 => ?_⟩
    rw [i7 50 (by decide) (by decide) (by decide), (e2 50 (by decide)).1] at h9
    have e53 : fI t9 53 e = fI S 53 e := by rw [h9, fI_ne (by decide), i7 53 (by decide) (by decide) (by decide), (e2 53 (by decide)).1]
    rw [e53] at h10
    have L10 : fL t10 = fL t2 := by rw [h10, h9, h7, h6, h5]; rfl
    have i10 : ∀ f y, y ≠ q → f ≠ 149 ∨ y ≠ po → fI t10 f y = fI t2 f y := fun f y y1 y2 => by
      rw [h10]
      show up2 (fI t9) 212 q _ f y = _
      rw [up2_no (fun z => y1 z.2), h9]
      show up2 (fI t7) 211 q _ f y = _
      rw [up2_no (fun z => y1 z.2), h7]
      show up2 (fI t6) 209 q _ f y = _
      rw [up2_no (fun z => y1 z.2), h6]
      show up2 (fI t5) 208 q _ f y = _
      rw [up2_no (fun z => y1 z.2), h5]
      show up2 (fI t2) 149 po _ f y = _
      rw [up2_no (fun z => y2.elim (fun z9 => z9 z.1) (fun z9 => z9 z.2))]
    refine hQ q t10 ?_ (fun k hkl => by rw [L10]; exact g1 k hkl) (by rw [L10]; exact g2) ?_ ?_ (by rw [L10]; exact hq) ?_ (fun k f hkl hkc f148 => ?_) ?_ ?_ ?_ ?_
    · rw [h10, h9, h7, h6, h5]
      have gg : Eqf (fun f => f ≠ 148 ∧ f ≠ 149 ∧ ¬ (208 ≤ f ∧ f ≤ 212)) S t2 := Eqf_sub (fun f z => z.1) g
      exact Eqf_usI (Eqf_usI (Eqf_usI (Eqf_usI (Eqf_usI gg (Or.inl (fun z => z.2.1 rfl))) (Or.inl (fun z => z.2.2 ⟨by decide, by decide⟩))) (Or.inl (fun z => z.2.2 ⟨by decide, by decide⟩))) (Or.inl (fun z => z.2.2 ⟨by decide, by decide⟩))) (Or.inl (fun z => z.2.2 ⟨by decide, by decide⟩))
    · have k10 : kdC t10 = kdC t2 := by rw [h10, h9]; exact k7
      unfold rowOk
      rw [L10, k10]
      exact g3
    · have z10 : szC t10 = szC t2 ∧ nsC t10 = nsC t2 ∧ fC t10 = fC t2 := by rw [h10, h9, h7, h6, h5]; exact ⟨rfl, rfl, rfl⟩
      unfold alc
      rw [L10, z10.1, z10.2.1, z10.2.2]
      exact g4
    · rw [h10, fI_ne (by decide), h9, fI_ne (by decide), h7, fI_ne (by decide), h6, fI_ne (by decide), h5, fI_at, if_pos rfl]
    · have kk := hro.1 k hkl
      have nq : gn (fL S 148 po) k ≠ q := fun z => by
        rw [hq, ← g1 k hkl] at z
        have hkl2 : k < (fL t2 148 po).length := by
          obtain ⟨d', y1, y2, -⟩ := g4
          omega
        exact hkc (g3.2 k c hkl2 g2 z)
      rw [i10 f _ nq (Or.inr (fun z => by rw [z, hk] at kk; exact absurd kk (by decide)))]
      exact ((g _ (by rw [kk]; decide)).2.2 f f148).1
    · rw [h10, fI_ne (by decide), h9, fI_ne (by decide), h7, fI_ne (by decide), h6, fI_at, if_pos rfl]
    · rw [h10, fI_ne (by decide), h9, fI_ne (by decide), h7, fI_at, if_pos rfl]
    · rw [h10, fI_ne (by decide), h9, fI_at, if_pos rfl]
    · rw [h10, fI_at, if_pos rfl]
  · intro hlt
    have hlt' : c < (fL S 148 po).length := by
      rw [h149] at hlt
      exact (nI_ltI (by omega) (by omega)).mp hlt
    refine ⟨Eqf_rfl, fun _ _ => rfl, hlt', hro, d, d1, by omega, d3, d4, d5⟩
  · intro hge
    have hge' : (fL S 148 po).length = c := by
      rw [h149] at hge
      have : ¬ c < (fL S 148 po).length := fun z => hge (nI_lt z (by omega))
      omega
    obtain ⟨b1, b2⟩ := hb
    have emx : max (fL S0 148 po).length (c + 1) - (fL S0 148 po).length = d + 1 := by omega
    rw [emx] at b1 b2
    have hck := ck_ok c1 c2 d
    have hnx := nx_ok (m := (fL S0 148 po).length + d) hck.1
    have eck : ck (fC S0 148 po) (fL S0 148 po).length (d + 1) = nx (ck (fC S0 148 po) (fL S0 148 po).length d) ((fL S0 148 po).length + d) := rfl
    have c13 : cNF 13 = 5 ∧ cNE 13 = 0 := by decide +kernel
    obtain ⟨n1, n2, n3, n4, n5⟩ := hnx
    rw [c13.1]
    refine ⟨⟨by omega, by omega⟩, fun f0 t13 h13 => ?_⟩
    obtain ⟨e1, he1⟩ : ∃ e1, e1 = szC S := ⟨_, rfl⟩
    rw [← he1]
    have f0' : kdC S e1 = 0 := by rw [he1]; exact f0
    have k13 : kdC t13 e1 = 13 := by
      rw [h13, s_newO_kdC, he1, va_up_at, if_pos rfl, c13.2]
      rfl
    have L13 : fL t13 = fL S := by rw [h13]; rfl
    have C13 : fC t13 = fC S := by rw [h13]; rfl
    have z13 : szC t13 = szC S + 1 := by rw [h13]; rfl
    have ns13 : nsC t13 = nsC S + 5 := by rw [h13, s_newO_nsC, c13.1]
    have ko : ∀ y, kdC S y ≠ 0 → kdC t13 y = kdC S y := fun y hy => by rw [h13]; exact kd_new f0 hy
    have ecap : capA t13 148 po = ck (fC S0 148 po) (fL S0 148 po).length (d + 1) := by
      unfold capA
      rw [L13, C13, eck, ← d1, ← d3]
      rfl
    have hlc : lcA t13 148 po ≤ ck (fC S0 148 po) (fL S0 148 po).length (d + 1) - ck (fC S0 148 po) (fL S0 148 po).length d ∧ lcS t13 148 po ≤ 4 * (ck (fC S0 148 po) (fL S0 148 po).length (d + 1) - ck (fC S0 148 po) (fL S0 148 po).length d) := by
      unfold lcA lcS
      rw [ecap, L13, C13, d1, d3, eck]
      by_cases cc : (fL S0 148 po).length + d < ck (fC S0 148 po) (fL S0 148 po).length d
      · rw [if_pos cc, if_pos cc]
        exact ⟨Nat.zero_le _, Nat.zero_le _⟩
      · rw [if_neg cc, if_neg cc]
        have := n3 cc
        omega
    have hck2 := ck_ok c1 c2 (d + 1)
    have hmono := ck_mono c1 c2 (Nat.le_succ d)
    refine ⟨⟨?_, fun y hy => ?_⟩, k13, ⟨by omega, by omega⟩, fun sz18 ns18 z1 z2 z3 t19 h19 => ?_⟩
    · rw [C13, d3]
      omega
    · rw [L13] at hy
      obtain ⟨k, y1, y2⟩ := gl_mem hy
      have y3 := hro.1 k y1
      have y4 : gn (fL S 148 po) k = y := y2
      rw [y4] at y3
      rw [ko y (by rw [y3]; decide), y3]
      rfl
    · have L19 : fL t19 148 po = fL S 148 po ++ [e1] := by
        rw [h19]
        show up2 (fL t13) 148 po (fL t13 148 po ++ [e1]) 148 po = _
        rw [up2_is, L13]
      have g19 : Eqf (fun f => f ≠ 148) S t19 := by
        rw [h19]
        exact Eqf_usL (by rw [h13]; exact Eqf_newO Eqf_rfl f0) (Or.inl (fun z => z rfl))
      have k19 : kdC t19 = kdC t13 := by rw [h19]; rfl
      have fr : ∀ k, k < (fL S 148 po).length → gn (fL S 148 po) k ≠ e1 := fun k hkl z => by
        have := hro.1 k hkl
        rw [z, f0'] at this
        exact absurd this (by decide)
      refine ⟨g19, fun k hkl => ?_, ?_, ⟨fun k hkl => ?_, fun k k2 hkl hkl2 z => ?_⟩, d + 1, ?_, ?_, ?_, ?_, ?_⟩
      · rw [L19, gn_app, if_pos hkl]
      · rw [L19, List.length_append, hge']
        exact Nat.lt_succ_self c
      · rw [L19, List.length_append] at hkl
        have hkl' : k < (fL S 148 po).length + 1 := hkl
        rw [L19, gn_app, k19]
        by_cases cc : k < (fL S 148 po).length
        · rw [if_pos cc, ko _ (by rw [hro.1 k cc]; decide)]
          exact hro.1 k cc
        · rw [if_neg cc, if_pos (by omega)]
          exact k13
      · rw [L19, List.length_append] at hkl hkl2
        have hkl' : k < (fL S 148 po).length + 1 := hkl
        have hkl2' : k2 < (fL S 148 po).length + 1 := hkl2
        rw [L19, gn_app, gn_app] at z
        by_cases cc : k < (fL S 148 po).length
        · by_cases cc2 : k2 < (fL S 148 po).length
          · rw [if_pos cc, if_pos cc2] at z
            exact hro.2 k k2 cc cc2 z
          · rw [if_pos cc, if_neg cc2, if_pos (by omega)] at z
            exact absurd z (fr k cc)
        · by_cases cc2 : k2 < (fL S 148 po).length
          · rw [if_neg cc, if_pos (by omega), if_pos cc2] at z
            exact absurd z.symm (fr k2 cc2)
          · omega
      · rw [L19, List.length_append]
        show (fL S 148 po).length + 1 = _
        omega
      · omega
      · rw [h19]
        show up2 (fC t13) 148 po _ 148 po = _
        rw [up2_is, ecap]
      · rw [h19]
        show sz18 ≤ _
        omega
      · rw [h19]
        show ns18 ≤ _
        omega
end PE
