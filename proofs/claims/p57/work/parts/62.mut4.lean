/-! MUTATORS: transpositions, paper, metres, phrases dropped -/
section MH
variable {S S' : CS} {A A' t : MS} {o so po : Nat}
theorem rA_oth (hA : rA S A o so po) (g : Eqf fB0 S S') (gk : Eqf (fun f => f = 224 ∨ f = 225) S S') (h0 : A'.1 0 = A.1 0) (hr : ∀ k, k = 1 ∨ k = 2 ∨ k = 3 ∨ (6 ≤ k ∧ k ≤ 12) → A'.2 k = A.2 k) (h26 : A'.2 26 0 = A.2 26 0) (hP : rP S' A' so) (hT : rT S' A' so) (hS : rS S' A' so) : rA S' A' o so po := by
  obtain ⟨b1, b2, b3, b4, b5, b6, b7, b8, b9, b10⟩ := hA
  obtain ⟨q1, -, q2⟩ := gk o (by rw [b1]; decide)
  obtain ⟨p1, -, -⟩ := gk po (by rw [b4]; decide)
  refine ⟨q1.trans b1, ((q2 224 (Or.inl rfl)).2.2.1).trans b2, ((q2 225 (Or.inr rfl)).2.2.1).trans b3, p1.trans b4, ?_, ?_, hP, hT, hS, ?_⟩
  · exact rB_c b5 g h0 (hr 1 (by decide)) (hr 2 (by decide)) (hr 3 (by decide)) (hr 6 (by decide)) (hr 7 (by decide)) (hr 8 (by decide)) (hr 9 (by decide)) (hr 10 (by decide)) (hr 11 (by decide)) (hr 12 (by decide))
  · exact (zM_c h0 (hr 1 (by decide)) (hr 2 (by decide)) (hr 3 (by decide)) (hr 6 (by decide)) (hr 7 (by decide)) (hr 8 (by decide)) (hr 9 (by decide)) (hr 10 (by decide)) (hr 12 (by decide))).mpr b6
  · exact (zZ_c h0 (hr 6 (by decide)) (hr 7 (by decide)) h26).mpr b10
def zTr (A : MS) (v : Nat) (b : Int32) : Prop := ∀ i j, i < zN A → j < zE A v i → ¬ v_isWritten 0 (A.2 8 (zp v i j)) b = 0
theorem wr_x (x y a b : Int32) : v_isWritten x a b = v_isWritten y a b := rfl
theorem cc_trans (h : rB S A so) (w : zM A) {B : Nat × Nat} {Q : Int32 → CS → Prop} {X : String → CS → Prop} {v : Nat} {b : Int32} (hv : v < 4) (h1 : zTr A v b → Q 1 S) (h0 : ¬ zTr A v b → Q 0 S) : w_X9_canBeTransposed B so (nI v) b S Q X := by
  have hn := w.2.1
  have hl : nI (fL S 192 so).length = nI (zN A) := congrArg nI (cc_n h w)
  refine lp_for (fun k z => z = nI k ∧ ∀ i j, i < k → j < zE A v i → ¬ v_isWritten 0 (A.2 8 (zp v i j)) b = 0) (zN A) ?_ ?_ 0 (Nat.zero_le _) 0 ⟨rfl, fun i j hi => absurd hi (Nat.not_lt_zero _)⟩
  · intro k hk K z hz hK
    obtain ⟨hz, hok⟩ := hz
    subst hz
    obtain ⟨r1, r2, r3⟩ := cc_rw h w hk hv
    have he := (z_r w hk hv).1
    have es : v_X8_size (rwL S so v k) S = nI (zE A v k) := congrArg nI (cc_e h w hk hv)
    unfold w_X9_canBeTransposed_L2
    rw [hl]
    refine ⟨h.1, fun h9 => absurd h9 (nI_ge hk (by omega)), fun _ => ⟨r1, ?_⟩⟩
    refine lp_for (fun j z => z = nI j ∧ ∀ j2, j2 < j → ¬ v_isWritten 0 (A.2 8 (zp v k j2)) b = 0) (zE A v k) ?_ ?_ 0 (Nat.zero_le _) 0 ⟨rfl, fun i hi => absurd hi (Nat.not_lt_zero _)⟩
    · intro j hj K2 z hz hK2
      obtain ⟨hz, hok2⟩ := hz
      subst hz
      obtain ⟨q1, q2, q3⟩ := cc_ev h w hk hv hj
      have eg : v_X8_get (rwL S so v k) (nI j) S = evL S so v k j := q2
      unfold w_X9_canBeTransposed_L24
      rw [r2, es, eg, q3.2.1, wr_eq (x := 0)]
      refine ⟨r3, r3, fun h9 => absurd h9 (nI_ge hj (by omega)), fun _ => ⟨⟨r3, q1, by rw [q2]; exact q3.1⟩, q3.1, fun e => h0 (fun z => z k j hk hj e), fun e => ?_⟩⟩
      rw [nI_1]
      refine hK2 _ ⟨rfl, fun j2 hj2 => ?_⟩
      by_cases e2 : j2 = j
      · rw [e2]; exact e
      · exact hok2 j2 (by omega)
    · intro K2 z hz
      obtain ⟨hz, hok2⟩ := hz
      subst hz
      unfold w_X9_canBeTransposed_L24
      rw [r2, es]
      refine ⟨r3, r3, fun _ => ?_, fun h9 => absurd (nI_le (Nat.le_refl _) (by omega)) h9⟩
      rw [nI_1]
      refine hK _ ⟨rfl, fun i j hi hj => ?_⟩
      by_cases e2 : i = k
      · subst e2; exact hok2 j hj
      · exact hok i j (by omega) hj
  · intro K z hz
    obtain ⟨hz, hok⟩ := hz
    subst hz
    unfold w_X9_canBeTransposed_L2
    rw [hl]
    exact ⟨h.1, fun _ => h1 hok, fun h9 => absurd (nI_le (Nat.le_refl _) (by omega)) h9⟩
theorem dm16 {x : Nat} (hx : x < 100000) : nI x / 16 = nI (x / 16) ∧ mRem (nI x) 16 = nI (x % 16) := ⟨pk_div (a := x) (d := 16) (by omega) (by decide) (by decide), pk_rem (a := x) (d := 16) (by omega) (by decide) (by decide)⟩
end MH
section MI
variable {lb : Nat × Nat} {o so po : Nat} {I : Nat → CS → MS → Prop}
end MI
