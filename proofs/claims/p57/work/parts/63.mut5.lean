/-! MUTATORS: metres -/
def zMx (A : MS) (i : Nat) : Nat → Nat
  | 0 => 0
  | k + 1 => if zMx A i k < zS A k i (zE A k i) then zS A k i (zE A k i) else zMx A i k
section MJ
variable {S : CS} {A t : MS} {o so po : Nat}
theorem zMx_le {i x : Nat} : ∀ k, zMx A i k ≤ x ↔ ∀ v, v < k → zS A v i (zE A v i) ≤ x := by
  intro k
  induction k with
  | zero => exact ⟨fun _ v hv => absurd hv (Nat.not_lt_zero _), fun _ => Nat.zero_le _⟩
  | succ k ih =>
    unfold zMx
    by_cases e : zMx A i k < zS A k i (zE A k i)
    · rw [if_pos e]
      refine ⟨fun h v hv => ?_, fun h => h k (by omega)⟩
      by_cases e2 : v = k
      · rw [e2]; exact h
      · exact ih.mp (by omega) v (by omega)
    · rw [if_neg e]
      refine ⟨fun h v hv => ?_, fun h => ih.mpr (fun v hv => h v (by omega))⟩
      by_cases e2 : v = k
      · rw [e2]; omega
      · exact ih.mp h v (by omega)
theorem cc_most (h : rB S A so) (w : zM A) {B : Nat × Nat} {Q : Int32 → CS → Prop} {X : String → CS → Prop} {i : Nat} (hi : i < zN A) (hQ : Q (nI (zMx A i 4)) S) : w_X2_mostTicks B (mrL S so i) S Q X := by
  obtain ⟨b1, b2, b3, b4⟩ := cc_bar h w hi
  have hL := z_len w hi
  refine lp_seq (fun k => (nI (zMx A i k), nI k)) 4 ?_ ?_ 0 (by decide)
  · intro k hk K hK
    obtain ⟨r0, r1, -⟩ := cc_row h w hi hk
    have ek : (nI k).toNatClampNeg = k := nI_clamp (by omega)
    have e177 : fI S 177 (oG (fQ S 83 (mrL S so i) k)) = nI (zS A k i (zE A k i)) := cc_ticks h w hi hk
    have h1 : zMx A i k ≤ zL A i := (zMx_le k).mpr (fun v hv => z_sL w hi (by omega) (Nat.le_refl _))
    have h2 : zS A k i (zE A k i) ≤ zL A i := z_sL w hi hk (Nat.le_refl _)
    refine ⟨fun h9 => absurd h9 (nI_ge (a := k) (b := 4) hk (by decide)), fun _ => ?_⟩
    dsimp only
    rw [ek, e177]
    refine ⟨b4, vp_nI (n := 4) hk (by decide), r0, r1, fun x5 hx5 => ?_⟩
    have e5 : x5 = nI (zMx A i (k + 1)) := by
      rw [hx5]
      unfold mMax
      show _ = nI (if zMx A i k < zS A k i (zE A k i) then zS A k i (zE A k i) else zMx A i k)
      by_cases e : zMx A i k < zS A k i (zE A k i)
      · rw [if_pos e, if_pos (nI_lt e (by omega))]
      · rw [if_neg e, if_neg (nI_nlt (by omega) (by omega))]
    rw [e5, nI_1]
    exact hK
  · intro K
    exact ⟨fun _ => hQ, fun h9 => absurd (nI_le (Nat.le_refl 4) (by decide)) h9⟩
theorem metre_ok {a b : Int32} : (¬ v_isMetre a b = 0 ↔ ¬ v_in a 1 9 = 0 ∧ (b = 2 ∨ b = 4 ∨ b = 8)) := by
  unfold v_isMetre
  by_cases e : ¬ v_in a 1 9 = 0 ∧ (b = 2 ∨ b = 4 ∨ b = 8)
  · rw [if_pos e]
    exact ⟨fun _ => e, fun _ => one_ne⟩
  · rw [if_neg e]
    exact ⟨fun z => absurd rfl z, fun z => absurd z e⟩
theorem a_reqMetre {B : Nat × Nat} {a b : Int32} {Q : CS → Prop} {X : String → CS → Prop} (hr : szC S + 1 ≤ B.1 ∧ nsC S + 6 ≤ B.2) (h1 : ∀ c u : Nat, 1 ≤ c → c ≤ 9 → (u = 2 ∨ u = 4 ∨ u = 8) → a = nI c → b = nI u → ¬ v_isMetre a b = 0 → Q S) (h2 : v_isMetre a b = 0 → ∀ sz ns : Nat, X "java/lang/IllegalArgumentException" (rsz S sz ns)) : w_X11_requireMetre B a b S Q X := by
  refine a_reqRange hr (fun hc hd => ⟨fun e => ?_, fun e => ⟨hr, h2 (Classical.byContradiction fun z => e (metre_ok.mp z).2)⟩⟩) (fun hc => h2 (Classical.byContradiction fun z => (metre_ok.mp z).1 hc))
  obtain ⟨c, c1, c2, c3⟩ := r_in (a := a) (x := 1) (y := 9) (by decide) (by decide) hd
  rcases e with e | e | e
  · exact h1 c 2 c1 c2 (Or.inl rfl) c3 e (metre_ok.mpr ⟨hc, Or.inl e⟩)
  · exact h1 c 4 c1 c2 (Or.inr (Or.inl rfl)) c3 e (metre_ok.mpr ⟨hc, Or.inr (Or.inl e)⟩)
  · exact h1 c 8 c1 c2 (Or.inr (Or.inr rfl)) c3 e (metre_ok.mpr ⟨hc, Or.inr (Or.inr e)⟩)
theorem len_nI {c u : Nat} (h2 : c ≤ 9) (hu : u = 2 ∨ u = 4 ∨ u = 8) : (96 * nI c) / nI u = nI (96 * c / u) := by
  rw [show (96 : Int32) = nI 96 from rfl, pk_mul, pk_div (by omega) (by omega) (by omega)]
end MJ
section MK
variable {lb : Nat × Nat} {o so po : Nat} {I : Nat → CS → MS → Prop}
end MK
