/-! A BAR THAT IS RIGHT -/
def zRun (A : MS) (v i : Nat) : Nat → Nat
  | 0 => 0
  | k + 1 => if A.2 10 (zp v i k) = 2 then zRun A v i k + zK A v i k else 0
def zOk (A : MS) (v i : Nat) : Nat → Prop
  | 0 => True
  | k + 1 => zOk A v i k ∧ (A.2 10 (zp v i k) = 2 ∨ zRun A v i k % 6 = 0)
def zRight (A : MS) (v i : Nat) : Prop := (zE A v i = 0 ∨ zS A v i (zE A v i) = zL A i) ∧ zOk A v i (zE A v i) ∧ zRun A v i (zE A v i) % 6 = 0
section RF
variable {A t : MS} {S : CS} {so : Nat}
theorem zRun_le (w : zM A) {v i : Nat} (hi : i < zN A) (hv : v < 4) : ∀ k, k ≤ zE A v i → zRun A v i k ≤ zS A v i k := by
  intro k
  induction k with
  | zero => intro _; exact Nat.le_refl _
  | succ k ih =>
    intro hk
    have g := ih (by omega)
    show (if A.2 10 (zp v i k) = 2 then zRun A v i k + zK A v i k else 0) ≤ zS A v i k + zK A v i k
    by_cases e : A.2 10 (zp v i k) = 2
    · rw [if_pos e]; omega
    · rw [if_neg e]; omega
theorem zOk_mono {v i a b : Nat} (hab : a ≤ b) (h : zOk A v i b) : zOk A v i a := by
  induction b with
  | zero => rw [show a = 0 by omega]; exact h
  | succ b ih =>
    by_cases h9 : a = b + 1
    · rw [h9]; exact h
    · exact ih (by omega) h.1
theorem rem6 {x : Nat} (hx : x < 100000) : mRem (nI x) 6 = nI (x % 6) := pk_rem (a := x) (d := 6) (by omega) (by decide) (by decide)
theorem rem6_0 {x : Nat} (hx : x < 100000) : mRem (nI x) 6 = 0 ↔ x % 6 = 0 := by
  rw [rem6 hx]
  exact nI_eq (b := 0) (by omega) (by decide)
theorem cc_whole (h : rB S A so) (w : zM A) {B : Nat × Nat} {Q : Int32 → CS → Prop} {X : String → CS → Prop} {v i : Nat} (hi : i < zN A) (hv : v < 4) (h1 : zOk A v i (zE A v i) ∧ zRun A v i (zE A v i) % 6 = 0 → Q 1 S) (h0 : ¬ (zOk A v i (zE A v i) ∧ zRun A v i (zE A v i) % 6 = 0) → Q 0 S) : w_X8_hasWholeTriplets B (rwL S so v i) S Q X := by
  obtain ⟨r1, r2, r3⟩ := cc_rw h w hi hv
  have he := (z_r w hi hv).1
  have hl : nI (fL S 176 (rwL S so v i)).length = nI (zE A v i) := congrArg nI (cc_e h w hi hv)
  refine lp_for (fun k z => z = (nI (zRun A v i k), nI k) ∧ zOk A v i k) (zE A v i) ?_ ?_ 0 (Nat.zero_le _) (0, 0) ⟨rfl, trivial⟩
  · intro k hk K z hz hK
    obtain ⟨hz, ho⟩ := hz
    subst hz
    obtain ⟨q1, q2, q3⟩ := cc_ev h w hi hv hk
    have hr := zRun_le w hi hv k (by omega)
    have hs := z_s w hi hv k (by omega)
    unfold w_X8_hasWholeTriplets_L4
    rw [hl]
    refine ⟨r3, fun h9 => absurd h9 (nI_ge hk (by omega)), fun _ => ⟨q1, by rw [q2]; exact q3.1, fun x => K (x, nI k + 1), fun _ h => h, ?_, ?_⟩⟩
    · intro e x hx
      dsimp only at e hx ⊢
      rw [q2, q3.2.2.1] at e
      rw [q2, q3.2.2.2.2.2.1, (z_k w hi hv hk).1, nI_add] at hx
      rw [hx, nI_1]
      refine hK _ ⟨?_, ho, Or.inl e⟩
      show _ = (nI (if A.2 10 (zp v i k) = 2 then zRun A v i k + zK A v i k else 0), _)
      rw [if_pos e]
    · intro e
      dsimp only at e ⊢
      rw [q2, q3.2.2.1] at e
      rw [rem6_0 (by omega)]
      refine ⟨fun e6 => ?_, fun e6 => h0 (fun z => ?_)⟩
      · rw [nI_1]
        refine hK _ ⟨?_, ho, Or.inr e6⟩
        show _ = (nI (if A.2 10 (zp v i k) = 2 then zRun A v i k + zK A v i k else 0), _)
        rw [if_neg e]
        rfl
      · have g := (zOk_mono (a := k + 1) hk z.1).2
        rcases g with g | g
        · exact e g
        · exact e6 g
  · intro K z hz
    obtain ⟨hz, ho⟩ := hz
    subst hz
    have hr := zRun_le w hi hv (zE A v i) (Nat.le_refl _)
    have hs := z_s w hi hv (zE A v i) (Nat.le_refl _)
    unfold w_X8_hasWholeTriplets_L4
    rw [hl]
    refine ⟨r3, fun _ x hx => ?_, fun h9 => absurd (nI_le (Nat.le_refl _) (by omega)) h9⟩
    dsimp only at hx
    by_cases e6 : zRun A v i (zE A v i) % 6 = 0
    · rw [if_pos ((rem6_0 (by omega)).mpr e6)] at hx
      subst hx
      exact ⟨Or.inr rfl, h1 ⟨ho, e6⟩⟩
    · rw [if_neg (fun z => e6 ((rem6_0 (by omega)).mp z))] at hx
      subst hx
      exact ⟨Or.inl rfl, h0 (fun z => e6 z.2)⟩
theorem cc_right (h : rB S A so) (w : zM A) {B : Nat × Nat} {Q : Int32 → CS → Prop} {X : String → CS → Prop} {v i : Nat} (hi : i < zN A) (hv : v < 4) (h1 : zRight A v i → Q 1 S) (h0 : ¬ zRight A v i → Q 0 S) : w_X9_isRightBar B so (nI v) (nI i) S Q X := by
  obtain ⟨r1, r2, r3⟩ := cc_rw h w hi hv
  obtain ⟨k1, k2⟩ := cc_left h w hi hv
  have he := (z_r w hi hv).1
  have hl : (fL S 176 (rwL S so v i)).length = zE A v i := cc_e h w hi hv
  have hL := z_len w hi
  have hsL := z_sL w hi hv (Nat.le_refl _)
  unfold w_X9_isRightBar v_X8_isEmpty d_X8_isEmpty
  rw [r2, hl, k2]
  refine ⟨h.1, r1, r3, ⟨r3, by omega⟩, fun x S' => S' = S ∧ ((x = 1 ∧ zRight A v i) ∨ (x = 0 ∧ ¬ zRight A v i)), ?_, fun S' => S' = S ∧ zRight A v i, ?_, ?_, ?_⟩
  · intro x S' hx
    obtain ⟨rfl, ⟨rfl, hx⟩ | ⟨rfl, hx⟩⟩ := hx
    · exact ⟨Or.inr rfl, h1 hx⟩
    · exact ⟨Or.inl rfl, h0 hx⟩
  · exact fun S' hx => ⟨hx.1, Or.inl ⟨rfl, hx.2⟩⟩
  · intro e
    have ne : ¬ zE A v i = 0 := fun z => by
      rw [if_pos z] at e
      exact one_ne e
    refine ⟨k1, fun S' => S' = S ∧ ¬ zRight A v i, fun S' hx => ⟨hx.1, Or.inr ⟨rfl, hx.2⟩⟩, fun e0 => ?_, fun e0 => ⟨rfl, fun z => ?_⟩⟩
    · have e1 : zS A v i (zE A v i) = zL A i := by
        have g := (nI_eq (a := zL A i - zS A v i (zE A v i)) (b := 0) (by omega) (by decide)).mp e0
        omega
      refine cc_whole h w hi hv (fun z => ⟨fun z9 => absurd z9 one_ne, fun _ => ⟨rfl, Or.inr e1, z⟩⟩) (fun z => ⟨fun _ => ⟨rfl, fun z9 => z z9.2⟩, fun z9 => absurd rfl z9⟩)
    · rcases z.1 with g | g
      · exact ne g
      · exact e0 (by rw [g, Nat.sub_self]; rfl)
  · intro e
    have ne : zE A v i = 0 := Classical.byContradiction fun z => by
      rw [if_neg z] at e
      exact e rfl
    refine ⟨rfl, Or.inl ne, ?_, ?_⟩
    · rw [ne]; exact trivial
    · rw [ne]; rfl
end RF
section RG
variable {lb : Nat × Nat} {o so po : Nat} {I : Nat → CS → MS → Prop}
end RG
