/-! HOW LOUD EVENTS ARE -/
def zLo (A : MS) (v : Nat) : Nat → Int32
  | 0 => 2
  | q + 1 => if q % 16 < zE A v (q / 16) ∧ ¬ A.2 11 (zp v (q / 16) (q % 16)) = -1 then A.2 11 (zp v (q / 16) (q % 16)) else zLo A v q
section LO
variable {A : MS} {S : CS} {so : Nat}
theorem zLo_in {v i j : Nat} (hj : j < zE A v i) (hj2 : j < 16) : zLo A v (16 * i + j + 1) = if A.2 11 (zp v i j) = -1 then zLo A v (16 * i + j) else A.2 11 (zp v i j) := by
  have e1 : (16 * i + j) / 16 = i := by omega
  have e2 : (16 * i + j) % 16 = j := by omega
  show (if (16 * i + j) % 16 < zE A v ((16 * i + j) / 16) ∧ ¬ A.2 11 (zp v ((16 * i + j) / 16) ((16 * i + j) % 16)) = -1 then A.2 11 (zp v ((16 * i + j) / 16) ((16 * i + j) % 16)) else zLo A v (16 * i + j)) = _
  rw [e1, e2]
  by_cases e : A.2 11 (zp v i j) = -1
  · rw [if_pos e, if_neg (fun z => z.2 e)]
  · rw [if_neg e, if_pos ⟨hj, e⟩]
theorem zLo_out {v i j : Nat} (hj : zE A v i ≤ j) (hj2 : j < 16) : zLo A v (16 * i + j + 1) = zLo A v (16 * i + j) := by
  have e1 : (16 * i + j) / 16 = i := by omega
  have e2 : (16 * i + j) % 16 = j := by omega
  show (if (16 * i + j) % 16 < zE A v ((16 * i + j) / 16) ∧ ¬ A.2 11 (zp v ((16 * i + j) / 16) ((16 * i + j) % 16)) = -1 then A.2 11 (zp v ((16 * i + j) / 16) ((16 * i + j) % 16)) else zLo A v (16 * i + j)) = _
  rw [e1, e2, if_neg (fun z => by omega)]
theorem zLo_bar {v i : Nat} (he : zE A v i ≤ 16) : zLo A v (16 * (i + 1)) = zLo A v (16 * i + zE A v i) := by
  have key : ∀ d, zE A v i + d ≤ 16 → zLo A v (16 * i + (zE A v i + d)) = zLo A v (16 * i + zE A v i) := by
    intro d
    induction d with
    | zero => intro _; rfl
    | succ d ih =>
      intro hd
      rw [← ih (by omega)]
      exact zLo_out (i := i) (j := zE A v i + d) (by omega) (by omega)
  have := key (16 - zE A v i) (by omega)
  rw [← this]
  congr 1
  omega
def fLd (f : Nat) : Prop := f = 53
theorem evL_Fc {P : Nat → Prop} {S S' : CS} (h : Fc P S S') : evL S' so = evL S so ∧ rwL S' so = rwL S so ∧ mrL S' so = mrL S so := by
  obtain ⟨⟨-, -, -, a4, a5, -⟩, -⟩ := h
  have em : mrL S' so = mrL S so := by funext i; unfold mrL; rw [a5]
  have er : rwL S' so = rwL S so := by funext v i; unfold rwL; rw [em, a4]
  refine ⟨?_, er, em⟩
  funext v i j
  unfold evL
  rw [er, a5]
theorem rB_Ld {S S' : CS} (h : rB S A so) (g : Fc fLd S S') : rB S' A so := rB_c h (Eqf_Fc g (fun f z => by unfold fB0 at z; unfold fLd; omega)) rfl rfl rfl rfl rfl rfl rfl rfl rfl rfl rfl
def ldTo (S : CS) (A : MS) (so n : Nat) (u : CS) : Prop := ∀ v i j, v < 4 → i < zN A → j < zE A v i → 384 * v + 16 * i + j < n → fI u 53 (evL S so v i j) = zLo A v (16 * i + j + 1)
theorem cc_spread (h : rB S A so) (w : zM A) {B : Nat × Nat} {Q : CS → Prop} {X : String → CS → Prop} (hQ : ∀ u, Fc fLd S u → ldTo S A so 1536 u → Q u) : w_X9_spreadMarks B so S Q X := by
  have hn := w.2.1
  have ei : ∀ {v i j v2 i2 j2}, v < 4 → v2 < 4 → i < zN A → i2 < zN A → j < zE A v i → j2 < zE A v2 i2 → evL S so v i j = evL S so v2 i2 j2 → v = v2 ∧ i = i2 ∧ j = j2 := fun hv hv2 hi hi2 hj hj2 z => h.2.2.2.2.2.2.2 _ _ _ _ _ _ (by rw [cc_n h w]; exact hi) (by rw [cc_n h w]; exact hi2) hv hv2 (by rw [cc_e h w hi hv]; exact hj) (by rw [cc_e h w hi2 hv2]; exact hj2) z
  refine lp_for (fun v z => z.1 = nI v ∧ Fc fLd S z.2 ∧ ldTo S A so (384 * v) z.2) 4 ?_ ?_ 0 (Nat.zero_le _) (0, S) ⟨rfl, Fc_rfl, fun v i j _ _ _ z => absurd z (by omega)⟩
  · intro v hv K z hz hK
    obtain ⟨z1, u⟩ := z
    obtain ⟨hz1, hF, hl⟩ := hz
    dsimp only at hz1 hF hl
    subst hz1
    refine ⟨fun h9 => absurd h9 (nI_ge (a := v) (b := 4) hv (by decide)), fun _ => ?_⟩
    refine lp_for (fun i z => z.1 = zLo A v (16 * i) ∧ z.2.1 = nI i ∧ Fc fLd S z.2.2 ∧ ldTo S A so (384 * v + 16 * i) z.2.2) (zN A) ?_ ?_ 0 (Nat.zero_le _) (2, 0, u) ⟨rfl, rfl, hF, hl⟩
    · intro i hi K2 z hz hK2
      obtain ⟨y0, y1, u⟩ := z
      obtain ⟨hy0, hy1, hF, hl⟩ := hz
      dsimp only at hy0 hy1 hF hl
      subst hy0
      subst hy1
      have hBu := rB_Ld h hF
      obtain ⟨er, erw, -⟩ := evL_Fc (so := so) hF
      obtain ⟨r1, r2, r3⟩ := cc_rw hBu w hi hv
      rw [erw] at r2 r3
      have hl0 : nI (fL u 192 so).length = nI (zN A) := congrArg nI (cc_n hBu w)
      have he16 := (z_r w hi hv).1
      unfold w_X9_spreadMarks_L11
      dsimp only
      rw [hl0]
      refine ⟨hBu.1, fun h9 => absurd h9 (nI_ge hi (by omega)), fun _ => ⟨r1, ?_⟩⟩
      refine lp_for (fun j z => z.1 = zLo A v (16 * i + j) ∧ z.2.1 = nI j ∧ Fc fLd S z.2.2 ∧ ldTo S A so (384 * v + 16 * i + j) z.2.2) (zE A v i) ?_ ?_ 0 (Nat.zero_le _) (zLo A v (16 * i), 0, u) ⟨rfl, rfl, hF, hl⟩
      · intro j hj K3 z hz hK3
        obtain ⟨x0, x1, y⟩ := z
        obtain ⟨hx0, hx1, hFy, hly⟩ := hz
        dsimp only at hx0 hx1 hFy hly
        subst hx0
        subst hx1
        have hBy := rB_Ld h hFy
        obtain ⟨ey, eyw, -⟩ := evL_Fc (so := so) hFy
        obtain ⟨q1, q2, q3⟩ := cc_ev hBy w hi hv hj
        rw [eyw] at q1 q2
        rw [ey] at q2 q3
        have r3y : kdC y (rwL S so v i) = 11 := by rw [← eyw]; exact (cc_rw hBy w hi hv).2.2
        have es : v_X8_size (rwL S so v i) y = nI (zE A v i) := by
          have := congrArg nI (cc_e hBy w hi hv)
          show nI (fL y 176 (rwL S so v i)).length = _
          rw [← eyw]
          exact this
        have eg : v_X8_get (rwL S so v i) (nI j) y = evL S so v i j := q2
        unfold w_X9_spreadMarks_L33
        dsimp only
        rw [r2, es, eg, q3.2.2.2.1]
        refine ⟨r3y, r3y, fun h9 => absurd h9 (nI_ge hj (by omega)), fun _ => ⟨⟨r3y, q1, by rw [q2]; exact q3.1⟩, q3.1, fun x7 hx7 t8 ht8 => ?_⟩⟩
        have e7 : x7 = zLo A v (16 * i + j + 1) := by
          rw [hx7, zLo_in hj (by omega)]
        rw [nI_1]
        refine hK3 _ ⟨e7, rfl, ?_, fun v2 i2 j2 a1 a2 a3 a4 => ?_⟩
        · dsimp only
          rw [ht8]
          exact Fc_usI hFy rfl
        · dsimp only
          rw [ht8, fI_at]
          by_cases e9 : evL S so v2 i2 j2 = evL S so v i j
          · obtain ⟨b1, b2, b3⟩ := ei a1 hv a2 hi a3 hj e9
            rw [if_pos e9, e7, b1, b2, b3]
          · rw [if_neg e9]
            refine hly v2 i2 j2 a1 a2 a3 ?_
            have h2 := (z_r w a2 a1).1
            have : ¬ (384 * v2 + 16 * i2 + j2 = 384 * v + 16 * i + j) := fun z => e9 (by
              have c1 : v2 = v := by omega
              have c2 : i2 = i := by omega
              have c3 : j2 = j := by omega
              rw [c1, c2, c3])
            omega
      · intro K3 z hz
        obtain ⟨x0, x1, y⟩ := z
        obtain ⟨hx0, hx1, hFy, hly⟩ := hz
        dsimp only at hx0 hx1 hFy hly
        subst hx0
        subst hx1
        have hBy := rB_Ld h hFy
        obtain ⟨ey, eyw, -⟩ := evL_Fc (so := so) hFy
        have r3y : kdC y (rwL S so v i) = 11 := by rw [← eyw]; exact (cc_rw hBy w hi hv).2.2
        have es : v_X8_size (rwL S so v i) y = nI (zE A v i) := by
          have := congrArg nI (cc_e hBy w hi hv)
          show nI (fL y 176 (rwL S so v i)).length = _
          rw [← eyw]
          exact this
        unfold w_X9_spreadMarks_L33
        dsimp only
        rw [r2, es]
        refine ⟨r3y, r3y, fun _ => ?_, fun h9 => absurd (nI_le (Nat.le_refl _) (by omega)) h9⟩
        rw [nI_1]
        refine hK2 _ ⟨(zLo_bar he16).symm, rfl, hFy, fun v2 i2 j2 a1 a2 a3 a4 => hly v2 i2 j2 a1 a2 a3 ?_⟩
        have h2 := (z_r w a2 a1).1
        by_cases c : v2 = v ∧ i2 = i
        · obtain ⟨c1, c2⟩ := c
          subst c1
          subst c2
          omega
        · by_cases c1 : v2 = v
          · have : ¬ i2 = i := fun z => c ⟨c1, z⟩
            omega
          · omega
    · intro K2 z hz
      obtain ⟨y0, y1, u⟩ := z
      obtain ⟨hy0, hy1, hF, hl⟩ := hz
      dsimp only at hy0 hy1 hF hl
      subst hy0
      subst hy1
      have hBu := rB_Ld h hF
      have hl0 : nI (fL u 192 so).length = nI (zN A) := congrArg nI (cc_n hBu w)
      unfold w_X9_spreadMarks_L11
      dsimp only
      rw [hl0]
      refine ⟨hBu.1, fun _ => ?_, fun h9 => absurd (nI_le (Nat.le_refl _) (by omega)) h9⟩
      rw [nI_1]
      refine hK _ ⟨rfl, hF, fun v2 i2 j2 a1 a2 a3 a4 => hl v2 i2 j2 a1 a2 a3 ?_⟩
      have h2 := (z_r w a2 a1).1
      by_cases c1 : v2 = v
      · omega
      · omega
  · intro K z hz
    obtain ⟨z1, u⟩ := z
    obtain ⟨hz1, hF, hl⟩ := hz
    dsimp only at hz1 hF hl
    subst hz1
    exact ⟨fun _ => hQ u hF hl, fun h9 => absurd (nI_le (Nat.le_refl 4) (by decide)) h9⟩
end LO
