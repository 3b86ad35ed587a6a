/-! WIDTHS; THE VOICE OF A CUE -/
/-- the voice that a cue is of, of the highest k voices -/
def zQd (A : MS) (v b : Nat) : Nat → Int32
  | 0 => -1
  | k + 1 => if 3 - k = v ∨ zE A (3 - k) b = 0 then zQd A v b k else nI (3 - k)
def zWe (A : MS) (v b : Nat) : Nat → Nat
  | 0 => 0
  | k + 1 => zWe A v b k + (4 + zK A v b k / 6 + (if A.2 10 (zp v b k) = 1 then 2 else 0) + (if A.2 11 (zp v b k) = -1 then 0 else 3) + (if A.2 11 (zp v b k) = -1 ∨ k = 0 ∨ A.2 11 (zp v b (k - 1)) = -1 then 0 else 2))
def zWc (A : MS) (v b : Nat) : Nat → Nat
  | 0 => 0
  | k + 1 => zWc A v b k + (3 + zK A v b k / 8)
section WD
variable {A t : MS} {S : CS} {so : Nat}
theorem zWe_le (w : zM A) {v b : Nat} (hb : b < zN A) (hv : v < 4) : ∀ k, k ≤ zE A v b → zWe A v b k ≤ 35 * k := by
  intro k
  induction k with
  | zero => intro _; exact Nat.le_refl _
  | succ k ih =>
    intro hk
    have h1 := ih (by omega)
    have h2 := (z_k w hb hv (j := k) (by omega)).2.2
    have e1 : (if A.2 10 (zp v b k) = 1 then 2 else 0) ≤ 2 := by
      by_cases c : A.2 10 (zp v b k) = 1
      · rw [if_pos c]; omega
      · rw [if_neg c]; omega
    have e2 : (if A.2 11 (zp v b k) = -1 then 0 else 3) ≤ 3 := by
      by_cases c : A.2 11 (zp v b k) = -1
      · rw [if_pos c]; omega
      · rw [if_neg c]; omega
    have e3 : (if A.2 11 (zp v b k) = -1 ∨ k = 0 ∨ A.2 11 (zp v b (k - 1)) = -1 then 0 else 2) ≤ 2 := by
      by_cases c : A.2 11 (zp v b k) = -1 ∨ k = 0 ∨ A.2 11 (zp v b (k - 1)) = -1
      · rw [if_pos c]; omega
      · rw [if_neg c]; omega
    show zWe A v b k + (4 + zK A v b k / 6 + _ + _ + _) ≤ _
    omega
theorem zWc_le (w : zM A) {v b : Nat} (hb : b < zN A) (hv : v < 4) : ∀ k, k ≤ zE A v b → zWc A v b k ≤ 21 * k := by
  intro k
  induction k with
  | zero => intro _; exact Nat.le_refl _
  | succ k ih =>
    intro hk
    have h1 := ih (by omega)
    have h2 := (z_k w hb hv (j := k) (by omega)).2.2
    show zWc A v b k + (3 + zK A v b k / 8) ≤ _
    omega
theorem zQd_is {v b : Nat} : (zQd A v b 4 = -1 ∧ ∀ u, u < 4 → u = v ∨ zE A u b = 0) ∨ ∃ u, u < 4 ∧ zQd A v b 4 = nI u ∧ u ≠ v ∧ 0 < zE A u b ∧ ∀ u2, u2 < u → u2 = v ∨ zE A u2 b = 0 := by
  have e4 : zQd A v b 4 = if 0 = v ∨ zE A 0 b = 0 then (if 1 = v ∨ zE A 1 b = 0 then (if 2 = v ∨ zE A 2 b = 0 then (if 3 = v ∨ zE A 3 b = 0 then -1 else nI 3) else nI 2) else nI 1) else nI 0 := rfl
  rw [e4]
  by_cases c0 : 0 = v ∨ zE A 0 b = 0
  · rw [if_pos c0]
    by_cases c1 : 1 = v ∨ zE A 1 b = 0
    · rw [if_pos c1]
      by_cases c2 : 2 = v ∨ zE A 2 b = 0
      · rw [if_pos c2]
        by_cases c3 : 3 = v ∨ zE A 3 b = 0
        · rw [if_pos c3]
          refine Or.inl ⟨rfl, fun u hu => ?_⟩
          have h4 : u = 0 ∨ u = 1 ∨ u = 2 ∨ u = 3 := by omega
          rcases h4 with rfl | rfl | rfl | rfl
          · exact c0
          · exact c1
          · exact c2
          · exact c3
        · rw [if_neg c3]
          refine Or.inr ⟨3, by decide, rfl, fun z => c3 (Or.inl z), Nat.pos_of_ne_zero (fun z => c3 (Or.inr z)), fun u hu => ?_⟩
          have h4 : u = 0 ∨ u = 1 ∨ u = 2 := by omega
          rcases h4 with rfl | rfl | rfl
          · exact c0
          · exact c1
          · exact c2
      · rw [if_neg c2]
        refine Or.inr ⟨2, by decide, rfl, fun z => c2 (Or.inl z), Nat.pos_of_ne_zero (fun z => c2 (Or.inr z)), fun u hu => ?_⟩
        have h4 : u = 0 ∨ u = 1 := by omega
        rcases h4 with rfl | rfl
        · exact c0
        · exact c1
    · rw [if_neg c1]
      refine Or.inr ⟨1, by decide, rfl, fun z => c1 (Or.inl z), Nat.pos_of_ne_zero (fun z => c1 (Or.inr z)), fun u hu => ?_⟩
      have h4 : u = 0 := by omega
      subst h4
      exact c0
  · rw [if_neg c0]
    exact Or.inr ⟨0, by decide, rfl, fun z => c0 (Or.inl z), Nat.pos_of_ne_zero (fun z => c0 (Or.inr z)), fun u hu => absurd hu (Nat.not_lt_zero _)⟩
theorem cc_cueOf (h : rB S A so) (w : zM A) {v b : Nat} (hv : v < 4) (hb : b < zN A) {B : Nat × Nat} {Q : Int32 → CS → Prop} {X : String → CS → Prop} (hQ : Q (zQd A v b 4) S) : w_X9_lowestVoiceBeside B so (nI v) (nI b) S Q X := by
  refine lp_for (fun k z => z = nI k ∧ ∀ u, u < k → u = v ∨ zE A u b = 0) 4 ?_ ?_ 0 (Nat.zero_le _) 0 ⟨rfl, fun u hu => absurd hu (Nat.not_lt_zero _)⟩
  · intro k hk K z hz hK
    obtain ⟨hz, hno⟩ := hz
    subst hz
    obtain ⟨r1, r2, r3⟩ := cc_rw h w hb hk
    have el : (fL S 176 (rwL S so k b)).length = zE A k b := cc_e h w hb hk
    have he := (z_r w hb hk).1
    have eq : nI k = nI v ↔ k = v := nI_eq (by omega) (by omega)
    have ee : (¬ (if zE A k b = 0 then (1 : Int32) else 0) = 0) ↔ zE A k b = 0 := by
      by_cases c : zE A k b = 0
      · rw [if_pos c]
        exact ⟨fun _ => c, fun _ => one_ne⟩
      · rw [if_neg c]
        exact ⟨fun z => absurd rfl z, fun z => absurd z c⟩
    unfold w_X9_lowestVoiceBeside_L2 v_X8_isEmpty d_X8_isEmpty
    rw [r2, el, eq, ee]
    refine ⟨fun h9 => absurd h9 (nI_ge (a := k) (b := 4) hk (by decide)), fun _ => ⟨fun _ => h.1, fun _ => r1, fun _ => r3, fun _ => ⟨r3, by omega⟩, fun hc => ?_, fun hc => ?_⟩⟩
    · rw [nI_1]
      refine hK _ ⟨rfl, fun u hu => ?_⟩
      by_cases e : u = k
      · rw [e]
        exact hc
      · exact hno u (by omega)
    · rcases zQd_is (A := A) (v := v) (b := b) with ⟨q1, q2⟩ | ⟨u, u1, u2, u3, u4, u5⟩
      · exact absurd (q2 k hk) hc
      · have e : u = k := by
          rcases Nat.lt_trichotomy u k with g | g | g
          · exact absurd (hno u g) (fun z => z.elim u3 (fun z2 => by omega))
          · exact g
          · exact absurd (u5 k g) hc
        rw [u2, e] at hQ
        exact hQ
  · intro K z hz
    obtain ⟨hz, hno⟩ := hz
    subst hz
    refine ⟨fun _ => ?_, fun h9 => absurd (show (4 : Int32) ≤ nI 4 by decide) h9⟩
    rcases zQd_is (A := A) (v := v) (b := b) with ⟨q1, q2⟩ | ⟨u, u1, u2, u3, u4, u5⟩
    · rw [q1] at hQ
      exact hQ
    · exact absurd (hno u u1) (fun z => z.elim u3 (fun z2 => by omega))
theorem cc_barWidth (h : rB S A so) (w : zM A) {v b : Nat} (hv : v < 4) (hb : b < zN A) {B : Nat × Nat} {Q : Int32 → CS → Prop} {X : String → CS → Prop} (hQ : Q (nI (zWe A v b (zE A v b))) S) : w_X8_widthOfEvents B (rwL S so v b) S Q X := by
  obtain ⟨r1, r2, r3⟩ := cc_rw h w hb hv
  have el : (fL S 176 (rwL S so v b)).length = zE A v b := cc_e h w hb hv
  have he16 := (z_r w hb hv).1
  refine lp_for (fun k z => z.1 = nI (zWe A v b k) ∧ (z.2.1 = 0 ↔ (k = 0 ∨ A.2 11 (zp v b (k - 1)) = -1)) ∧ z.2.2 = nI k) (zE A v b) ?_ ?_ 0 (Nat.zero_le _) (0, 0, 0) ⟨rfl, ⟨fun _ => Or.inl rfl, fun _ => rfl⟩, rfl⟩
  · intro k hk K z hz hK
    obtain ⟨z1, z2, z3⟩ := z
    obtain ⟨hz1, hz2, hz3⟩ := hz
    dsimp only at hz1 hz2 hz3
    subst hz1
    subst hz3
    obtain ⟨q1, q2, q3⟩ := cc_ev h w hb hv hk
    have hzk := z_k w hb hv hk
    have e48 : fI S 48 (evL S so v b k) = nI (zK A v b k) := q3.2.2.2.2.2.1.trans hzk.1
    unfold w_X8_widthOfEvents_L6
    dsimp only
    rw [el, q2, q3.2.2.1, q3.2.2.2.1, e48, show (6 : Int32) = nI 6 from rfl, pk_div (a := zK A v b k) (d := 6) (by omega) (by decide) (by decide)]
    refine ⟨r3, fun h9 => absurd h9 (nI_ge hk (by omega)), fun _ => ⟨q1, q3.1, fun x4 hx4 x5 hx5 x6 hx6 x7 hx7 x8 hx8 x9 hx9 x10 hx10 x11 hx11 => hK _ ⟨?_, ?_, ?_⟩⟩⟩
    · have e4 : x4 = 0 ↔ A.2 11 (zp v b k) = -1 := by
        rw [hx4]
        by_cases c : A.2 11 (zp v b k) = -1
        · rw [if_neg (fun z => z c)]
          exact ⟨fun _ => c, fun _ => rfl⟩
        · rw [if_pos c]
          exact ⟨fun z => absurd z one_ne, fun z => absurd z c⟩
      have f6 : x6 = nI (if A.2 10 (zp v b k) = 1 then 2 else 0) := hx6.trans (nI_if (a := 2) (b := 0))
      have f8 : x8 = nI (if A.2 11 (zp v b k) = -1 then 0 else 3) := by
        rw [hx8]
        by_cases c : A.2 11 (zp v b k) = -1
        · rw [if_pos (e4.mpr c), if_pos c]
          rfl
        · rw [if_neg (fun z => c (e4.mp z)), if_neg c]
          rfl
      have f10 : x10 = nI (if A.2 11 (zp v b k) = -1 ∨ k = 0 ∨ A.2 11 (zp v b (k - 1)) = -1 then 0 else 2) := by
        rw [hx10]
        by_cases c : A.2 11 (zp v b k) = -1 ∨ k = 0 ∨ A.2 11 (zp v b (k - 1)) = -1
        · rw [if_pos c, if_pos (c.elim (fun z => Or.inl (e4.mpr z)) (fun z => Or.inr (hz2.mpr z)))]
          rfl
        · rw [if_neg c, if_neg (fun z => c (z.elim (fun z => Or.inl (e4.mp z)) (fun z => Or.inr (hz2.mp z))))]
          rfl
      show x11 = nI (zWe A v b k + (4 + zK A v b k / 6 + _ + _ + _))
      rw [hx11, hx9, hx7, hx5, f6, f8, f10, show (4 : Int32) = nI 4 from rfl, nI_add, nI_add, nI_add, nI_add, nI_add]
      congr 1
      omega
    · show x4 = 0 ↔ (k + 1 = 0 ∨ A.2 11 (zp v b k) = -1)
      rw [hx4]
      by_cases c : A.2 11 (zp v b k) = -1
      · rw [if_neg (fun z => z c)]
        exact ⟨fun _ => Or.inr c, fun _ => rfl⟩
      · rw [if_pos c]
        exact ⟨fun z => absurd z one_ne, fun z => z.elim (fun z => absurd z (Nat.succ_ne_zero _)) (fun z => absurd z c)⟩
    · show nI k + 1 = nI (k + 1)
      rw [nI_1]
  · intro K z hz
    obtain ⟨z1, z2, z3⟩ := z
    obtain ⟨hz1, hz2, hz3⟩ := hz
    dsimp only at hz1 hz2 hz3
    subst hz1
    subst hz3
    unfold w_X8_widthOfEvents_L6
    dsimp only
    rw [el]
    exact ⟨r3, fun _ => hQ, fun h9 => absurd (nI_le (Nat.le_refl _) (by omega)) h9⟩
theorem cc_cueWidth (h : rB S A so) (w : zM A) {v b : Nat} (hv : v < 4) (hb : b < zN A) {B : Nat × Nat} {Q : Int32 → CS → Prop} {X : String → CS → Prop} (hQ : Q (nI (zWc A v b (zE A v b))) S) : w_X8_widthAsCue B (rwL S so v b) S Q X := by
  obtain ⟨r1, r2, r3⟩ := cc_rw h w hb hv
  have el : (fL S 176 (rwL S so v b)).length = zE A v b := cc_e h w hb hv
  have he16 := (z_r w hb hv).1
  refine lp_seq (fun k => (nI (zWc A v b k), nI k)) (zE A v b) ?_ ?_ 0 (Nat.zero_le _)
  · intro k hk K hK
    obtain ⟨q1, q2, q3⟩ := cc_ev h w hb hv hk
    have hzk := z_k w hb hv hk
    have e48 : fI S 48 (evL S so v b k) = nI (zK A v b k) := q3.2.2.2.2.2.1.trans hzk.1
    unfold w_X8_widthAsCue_L4
    dsimp only
    rw [el, q2, e48, show (8 : Int32) = nI 8 from rfl, pk_div (a := zK A v b k) (d := 8) (by omega) (by decide) (by decide)]
    refine ⟨r3, fun h9 => absurd h9 (nI_ge hk (by omega)), fun _ => ⟨q1, q3.1, fun x4 hx4 => ?_⟩⟩
    have e : x4 = nI (zWc A v b (k + 1)) := by
      rw [hx4, show (3 : Int32) = nI 3 from rfl, nI_add, nI_add]
      rfl
    rw [e, nI_1]
    exact hK
  · intro K
    unfold w_X8_widthAsCue_L4
    dsimp only
    rw [el]
    exact ⟨r3, fun _ => hQ, fun h9 => absurd (nI_le (Nat.le_refl _) (by omega)) h9⟩
end WD
