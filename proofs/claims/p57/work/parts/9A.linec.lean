/-! THE CLASS BREAKS LINES -/
def bF (f : Nat) : Prop := 64 ≤ f ∧ f ≤ 67
/-- lines of m items, as the class keeps them -/
def lC (S : CS) (lo : Nat) (W : Nat → Nat) (m P : Nat) : Prop := fI S 65 lo = nI (zNl (zLs W m P m).2 m m) ∧ (∀ k, k < zNl (zLs W m P m).2 m m → fA S 64 lo k = nI (zFi (zLs W m P m).2 m k)) ∧ fA S 66 lo 0 = nI ((zLs W m P m).1 0)
section LK
variable {W T : Nat → Nat} {m P i : Nat} {S : CS} {lo q : Nat}
theorem cc_bad {x : Nat} {l : Bool} (hx : x ≤ 600) (hP : P ≤ 400) : v_X1_badnessOf (nI x) (nI P) (bI l) = nI (zBd P x l) := by
  unfold v_X1_badnessOf zBd
  rw [nI_sq]
  have e : nI x ≤ nI P ↔ x ≤ P := ⟨fun z => Classical.byContradiction fun z2 => nI_ge (a := P) (b := x) (by omega) (by omega) z, fun z => nI_le z (by omega)⟩
  have h1 := sq_le (x := P - x) (c := 400) (by omega)
  by_cases c : x ≤ P
  · rw [if_pos (e.mpr c), if_pos c, if_pos c]
    by_cases c2 : l = true
    · rw [if_neg (fun z => bI_0.mp z c2), if_pos c2, show (4 : Int32) = nI 4 from rfl, pk_div (by omega) (by decide) (by decide)]
    · rw [if_pos (bI_0.mpr c2), if_neg c2]
  · rw [if_neg (fun z => c (e.mp z)), if_neg c, if_neg c, show (1000000 : Int32) = nI 1000000 from rfl, nI_add]
theorem cc_weigh (hk : kdC S q = 7) (hl : kdC S lo = 4) (hm : m ≤ 24) (hi : i < m) (hP : P ≤ 400) (hW : ∀ j, j < m → W j ≤ 600) (h117 : ∀ j, j < m → fA S 117 q j = nI (W j)) (hT : ∀ j, i < j → j ≤ m → fA S 66 lo j = nI (T j) ∧ T j ≤ 50000000) {B : Nat × Nat} {Q : CS → Prop} {X : String → CS → Prop} (hQ : ∀ S', Fo bF lo S S' → (∀ j, j ≠ i → fA S' 66 lo j = fA S 66 lo j ∧ fA S' 67 lo j = fA S 67 lo j) → fA S' 66 lo i = nI (zLi W m P T i (m - i)).1 → fA S' 67 lo i = nI (zLi W m P T i (m - i)).2 → Q S') : w_X1_weighLinesFrom B lo (nI i) q (nI m) (nI P) S Q X := by
  have ec : (nI i).toNatClampNeg = i := nI_clamp (by omega)
  have ec1 : (nI (i + 1)).toNatClampNeg = i + 1 := nI_clamp (by omega)
  have hWi := hW i hi
  have hlast : ∀ d, (if nI (i + d) = nI m then (1 : Int32) else 0) = bI (decide (i + d = m)) ∨ ¬ i + d ≤ m := fun d => by
    by_cases c : i + d ≤ m
    · refine Or.inl ?_
      unfold bI
      by_cases c2 : i + d = m
      · rw [if_pos (by rw [c2]), if_pos (decide_eq_true c2)]
      · rw [if_neg (fun z => c2 ((nI_eq (by omega) (by omega)).mp z)), if_neg (fun z => c2 (of_decide_eq_true z))]
    · exact Or.inr c
  refine ⟨hk, vp_nI (n := 24) (by omega) (by decide), fun x3 hx3 => ⟨hl, fun x5 hx5 => ?_⟩⟩
  rw [ec, h117 i hi] at hx3
  subst hx3
  rw [nI_1] at hx5
  have f5 : x5 = bI (decide (i + 1 = m)) := by
    rcases hlast 1 with z | z
    · exact hx5.trans z
    · omega
  rw [nI_1, ec1, (hT (i + 1) (by omega) (by omega)).1, f5, cc_bad hWi hP, nI_add]
  refine ⟨vp_nI (n := 25) (by omega) (by decide), vp_nI (n := 25) (by omega) (by decide), fun t8 h8 => ⟨vp_nI (n := 25) (by omega) (by decide), fun t10 h10 x11 hx11 => ?_⟩⟩
  have e11 : x11 = nI (i + 1 + 1) := by rw [hx11, show (2 : Int32) = nI 2 from rfl, nI_add]
  subst e11
  have hLi : ∀ D, 1 ≤ D → D ≤ m - i → (zLi W m P T i D).1 ≤ 60000000 := fun D h1 h2 => by
    have := (zLi_ok (m := m) (i := i) (T := T) (W := W) hP hWi (c := 50000000) (by omega) (D := D) h1 (fun d d1 d2 => (hT (i + d) (by omega) (by omega)).2)).1
    omega
  refine lp_for (fun d z => z.1 = nI (zLw W i d) ∧ z.2.1 = nI (i + d + 1) ∧ Fo bF lo S z.2.2 ∧ (∀ j, j ≠ i → fA z.2.2 66 lo j = fA S 66 lo j ∧ fA z.2.2 67 lo j = fA S 67 lo j) ∧ fA z.2.2 66 lo i = nI (zLi W m P T i d).1 ∧ fA z.2.2 67 lo i = nI (zLi W m P T i d).2 ∧ 1 ≤ d) (m - i) ?_ ?_ 1 (by omega) (nI (W i), nI (i + 1 + 1), t10) ⟨?_, rfl, ?_, fun j hj => ?_, ?_, ?_, Nat.le_refl _⟩
  · intro d hd K z hz hK
    obtain ⟨z1, z2, u⟩ := z
    obtain ⟨hz1, hz2, F, ho, e66, e67, hd1⟩ := hz
    dsimp only at hz1 hz2 F ho e66 e67
    subst hz1
    subst hz2
    have eb : (nI (i + d + 1)).toNatClampNeg = i + d + 1 := nI_clamp (by omega)
    have eb1 : nI (i + d + 1) - 1 = nI (i + d) := pk_sub (a := i + d + 1) (b := 1) (by omega)
    have e117 : fA u 117 q (i + d) = nI (W (i + d)) := by
      rw [(F.2 117 (by unfold bF; omega)).2]
      exact h117 _ (by omega)
    have hTb := hT (i + d + 1) (by omega) (by omega)
    have eT : fA u 66 lo (i + d + 1) = nI (T (i + d + 1)) := by
      rw [(ho (i + d + 1) (by omega)).1]
      exact hTb.1
    have hsum := zLw_le (W := W) (a := i) (d := d + 1) (fun j hj => hW (i + j) (by omega))
    have hLid := hLi d hd1 (by omega)
    unfold w_X1_weighLinesFrom_L53
    dsimp only
    rw [eb1, nI_clamp (show i + d < 2147483648 by omega), e117, eb, eT, ec, e66, nI_add]
    refine ⟨fun h9 => absurd ((nI_ltI (by omega) (by omega)).mp h9) (by omega), fun _ => ⟨vp_nI (n := 24) (by omega) (by decide), fun x13 hx13 => ?_⟩⟩
    have e13 : x13 = nI (zLw W i (d + 1)) := hx13
    subst e13
    have eP : nI (zLw W i (d + 1)) ≤ nI P ↔ zLw W i (d + 1) ≤ P := ⟨fun z => Classical.byContradiction fun z2 => nI_ge (a := P) (b := zLw W i (d + 1)) (by omega) (by omega) z, fun z => nI_le z (by omega)⟩
    refine ⟨fun hc x14 hx14 => ?_, fun hc => ?_⟩
    · have hcP := eP.mp hc
      have f14 : x14 = bI (decide (i + (d + 1) = m)) := by
        rcases hlast (d + 1) with z | z
        · exact hx14.trans z
        · omega
      rw [f14, cc_bad (by omega) hP, nI_add]
      refine ⟨vp_nI (n := 25) (by omega) (by decide), fun x16 hx16 => ⟨vp_nI (n := 25) (by omega) (by decide), ?_⟩⟩
      have e16 : x16 = nI (zTg W m P T i (d + 1)) := hx16
      have hTg := zTg_le (m := m) (T := T) hP hWi (d := d + 1) (c := 50000000) (Or.inr hcP) hTb.2
      have eLt : nI (zLi W m P T i d).1 < nI (zTg W m P T i (d + 1)) ↔ (zLi W m P T i d).1 < zTg W m P T i (d + 1) := nI_ltI (by omega) (by omega)
      rw [e16]
      refine ⟨fun t18 => Fo bF lo S t18 ∧ (∀ j, j ≠ i → fA t18 66 lo j = fA S 66 lo j ∧ fA t18 67 lo j = fA S 67 lo j) ∧ fA t18 66 lo i = nI (zLi W m P T i (d + 1)).1 ∧ fA t18 67 lo i = nI (zLi W m P T i (d + 1)).2, fun t18 h18 => hK _ ⟨rfl, ?_, h18.1, h18.2.1, h18.2.2.1, h18.2.2.2, by omega⟩, fun hlt => ?_, fun hlt => ?_⟩
      · show nI (i + d + 1) + 1 = nI (i + (d + 1) + 1)
        rw [nI_1]
        rfl
      · rw [zLi_s hd1, if_neg (fun z => by have := eLt.mp hlt; omega)]
        exact ⟨F, ho, e66, e67⟩
      · have hle : zTg W m P T i (d + 1) ≤ (zLi W m P T i d).1 := Nat.le_of_not_lt (fun z => hlt (eLt.mpr z))
        rw [zLi_s hd1, if_pos ⟨hcP, hle⟩]
        refine ⟨vp_nI (n := 25) (by omega) (by decide), fun t20 h20 => ⟨vp_nI (n := 25) (by omega) (by decide), fun t22 h22 => ?_⟩⟩
        refine ⟨?_, fun j hj => ?_, ?_, ?_⟩
        · rw [h22, h20]
          exact Fo_usA (Fo_usA F ⟨by decide, by decide⟩) ⟨by decide, by decide⟩
        · rw [h22, fA_ne (f' := 66) (by decide), fA_at (by omega), if_neg hj, h20, fA_at (by omega), if_neg hj, fA_ne (f' := 67) (by decide)]
          exact ho j hj
        · rw [h22, fA_ne (f' := 66) (by decide), h20, fA_at (by omega), if_pos rfl]
        · rw [h22, fA_at (by omega), if_pos rfl]
          rfl
    · have hs := zLi_stop (m := m) (T := T) hd1 (e := m - i) (by omega) (fun z => hc (eP.mpr z))
      exact hQ u F ho (by rw [hs]; exact e66) (by rw [hs]; exact e67)
  · intro K z hz
    obtain ⟨z1, z2, u⟩ := z
    obtain ⟨hz1, hz2, F, ho, e66, e67, hd1⟩ := hz
    dsimp only at hz1 hz2 F ho e66 e67
    subst hz1
    subst hz2
    unfold w_X1_weighLinesFrom_L53
    dsimp only
    exact ⟨fun _ => hQ u F ho e66 e67, fun h9 => absurd (nI_lt (a := m) (b := i + (m - i) + 1) (by omega) (by omega)) h9⟩
  · show nI (W i) = nI (zLw W i 1)
    rw [zLw_1]
  · dsimp only
    rw [h10, h8]
    exact Fo_usA (Fo_usA Fo_rfl ⟨by decide, by decide⟩) ⟨by decide, by decide⟩
  · dsimp only
    rw [h10, fA_ne (f' := 66) (by decide), fA_at (by omega), if_neg hj, h8, fA_at (by omega), if_neg hj, fA_ne (f' := 67) (by decide)]
    exact ⟨rfl, rfl⟩
  · dsimp only
    rw [h10, fA_ne (f' := 66) (by decide), h8, fA_at (by omega), if_pos rfl, zLi_1]
    unfold zTg
    rw [zLw_1]
  · dsimp only
    rw [h10, fA_at (by omega), if_pos rfl, zLi_1]
theorem cc_breakItems (hk : kdC S q = 7) (hl : kdC S lo = 4) (hm : m ≤ 24) (hP : P ≤ 400) (hW : ∀ j, j < m → W j ≤ 600) (h117 : ∀ j, j < m → fA S 117 q j = nI (W j)) {B : Nat × Nat} {Q : CS → Prop} {X : String → CS → Prop} (hQ : ∀ S', Fo bF lo S S' → lC S' lo W m P → Q S') : w_X1_breakItems B lo q (nI m) (nI P) S Q X := by
  refine ⟨hk, fun x2 hx2 => ?_⟩
  have e2 : x2 = nI m := by
    rw [hx2]
    unfold mMin
    rw [if_neg (show ¬ (24 : Int32) < 24 by decide), if_neg (fun z => by
      have := (nI_ltI (a := 24) (b := m) (by decide) (by omega)).mp z
      omega)]
  subst e2
  refine ⟨hl, vp_nI (n := 25) (by omega) (by decide), fun t5 h5 x6 hx6 => ?_⟩
  have hzs := zLs_ok (W := W) hP hm hW
  refine lp_for (fun k z => z.1 = nI (m - k) + (-1) ∧ Fo bF lo S z.2 ∧ ∀ j, m - k ≤ j → j ≤ m → fA z.2 66 lo j = nI ((zLs W m P k).1 j) ∧ (j < m → fA z.2 67 lo j = nI ((zLs W m P k).2 j))) m ?_ ?_ 0 (Nat.zero_le _) (x6, t5) ⟨?_, ?_, fun j h1 h2 => ⟨?_, fun z => by omega⟩⟩
  · intro k hkm K z hz hK
    obtain ⟨z1, u⟩ := z
    obtain ⟨hz1, F, ht⟩ := hz
    dsimp only at hz1 F ht
    have e1 : z1 = nI (m - 1 - k) := by rw [hz1, show m - k = (m - 1 - k) + 1 by omega, pk_m1]
    subst e1
    refine ⟨fun h9 => absurd h9 (nI_pos (by omega)), fun _ => ?_⟩
    have hko : kdC u lo = 4 := by rw [F.1.1]; exact hl
    refine cc_weigh (T := (zLs W m P k).1) (by rw [F.1.1]; exact hk) hko hm (by omega) hP hW (fun j hj => by rw [(F.2 117 (by unfold bF; omega)).2]; exact h117 j hj) (fun j h1 h2 => ⟨(ht j (by omega) h2).1, by have := (hzs k (by omega) j (by omega)).1; omega⟩) (fun S' F' ho e66 e67 => hK _ ⟨?_, Fo_trans F F', fun j h1 h2 => ?_⟩)
    · show nI (m - 1 - k) + (-1) = nI (m - (k + 1)) + (-1)
      rw [show m - (k + 1) = m - 1 - k by omega]
    · dsimp only
      show fA S' 66 lo j = nI (va_up (zLs W m P k).1 (m - 1 - k) (zLi W m P (zLs W m P k).1 (m - 1 - k) (k + 1)).1 j) ∧ (j < m → fA S' 67 lo j = nI (va_up (zLs W m P k).2 (m - 1 - k) (zLi W m P (zLs W m P k).1 (m - 1 - k) (k + 1)).2 j))
      rw [va_up_at, va_up_at]
      rw [show m - (m - 1 - k) = k + 1 by omega] at e66 e67
      by_cases e : j = m - 1 - k
      · rw [if_pos e, if_pos e, e]
        exact ⟨e66, fun _ => e67⟩
      · rw [if_neg e, if_neg e, (ho j e).1, (ho j e).2]
        exact ht j (by omega) h2
  · intro K z hz
    obtain ⟨z1, u⟩ := z
    obtain ⟨hz1, F, ht⟩ := hz
    dsimp only at hz1 F ht
    have e1 : z1 = -1 := by
      rw [hz1, Nat.sub_self]
      rfl
    subst e1
    have hnx : ∀ j, j < m → j < (zLs W m P m).2 j ∧ (zLs W m P m).2 j ≤ m := fun j hj => (hzs m (Nat.le_refl _) j (by omega)).2 hj
    obtain ⟨n1, n2, n3⟩ := zNl_ok hnx
    refine ⟨fun _ t7 h7 => ?_, fun h9 => absurd (show (-1 : Int32) < 0 by decide) h9⟩
    have F7 : Fo bF lo S t7 := by rw [h7]; exact Fo_usI F ⟨by decide, by decide⟩
    have hA7 : fA t7 = fA u := by rw [h7]; rfl
    refine lp_for (fun k z => z.1 = nI (zFi (zLs W m P m).2 m k) ∧ Fo bF lo S z.2 ∧ fI z.2 65 lo = nI k ∧ (∀ j, j < k → fA z.2 64 lo j = nI (zFi (zLs W m P m).2 m j)) ∧ fA z.2 66 lo = fA u 66 lo ∧ fA z.2 67 lo = fA u 67 lo) (zNl (zLs W m P m).2 m m) ?_ ?_ 0 (Nat.zero_le _) (0, t7) ⟨rfl, F7, ?_, fun j hj => absurd hj (Nat.not_lt_zero _), by rw [hA7], by rw [hA7]⟩
    · intro k hkn K2 z hz hK2
      obtain ⟨z1, y⟩ := z
      obtain ⟨hz1, Fy, y1, y2, y3, y4⟩ := hz
      dsimp only at hz1 Fy y1 y2 y3 y4
      subst hz1
      have hlt := n1 k hkn
      unfold w_X1_breakItems_L56
      dsimp only
      rw [y1]
      refine ⟨fun h9 => ?_, fun _ => ⟨vp_nI (n := 24) (by omega) (by decide), fun t9 h9 t10 h10 => ?_⟩⟩
      · rcases h9 with h9 | h9
        · exact absurd h9 (nI_ge hlt (by omega))
        · exact absurd h9 (nI_ge (a := k) (b := 24) (by omega) (by decide))
      have e9 : fI t9 65 lo = nI k := by rw [h9]; exact y1
      rw [e9, nI_1] at h10
      refine ⟨vp_nI (n := 25) (by omega) (by decide), fun x12 hx12 => hK2 _ ⟨?_, ?_, ?_, fun j hj => ?_, ?_, ?_⟩⟩
      · show x12 = nI (if zFi (zLs W m P m).2 m k < m then (zLs W m P m).2 (zFi (zLs W m P m).2 m k) else m)
        rw [if_pos hlt, hx12, nI_clamp (by omega), h10]
        show fA t9 67 lo _ = _
        rw [h9, fA_ne (f' := 67) (by decide), y4]
        exact (ht _ (by omega) (by omega)).2 hlt
      · dsimp only
        rw [h10, h9]
        exact Fo_usI (Fo_usA Fy ⟨by decide, by decide⟩) ⟨by decide, by decide⟩
      · dsimp only
        rw [h10, fI_at, if_pos rfl]
      · dsimp only
        rw [h10]
        show fA t9 64 lo j = _
        rw [h9, fA_at (by omega)]
        by_cases e : j = k
        · rw [if_pos e, e]
        · rw [if_neg e]
          exact y2 j (by omega)
      · dsimp only
        rw [h10]
        show fA t9 66 lo = _
        rw [h9, fA_ne (f' := 66) (by decide)]
        exact y3
      · dsimp only
        rw [h10]
        show fA t9 67 lo = _
        rw [h9, fA_ne (f' := 67) (by decide)]
        exact y4
    · intro K2 z hz
      obtain ⟨z1, y⟩ := z
      obtain ⟨hz1, Fy, y1, y2, y3, y4⟩ := hz
      dsimp only at hz1 Fy y1 y2 y3 y4
      subst hz1
      unfold w_X1_breakItems_L56
      dsimp only
      rw [n2]
      refine ⟨fun _ => hQ y Fy ⟨y1, y2, ?_⟩, fun h9 => absurd (Or.inl (nI_le (Nat.le_refl _) (by omega))) h9⟩
      rw [y3]
      exact (ht 0 (by omega) (Nat.zero_le _)).1
    · dsimp only
      rw [h7, fI_at, if_pos rfl]
      rfl
  · show x6 = nI (m - 0) + (-1)
    rw [hx6, Int32.sub_eq_add_neg]
    rfl
  · dsimp only
    rw [h5]
    exact Fo_usA Fo_rfl ⟨by decide, by decide⟩
  · dsimp only
    rw [h5, fA_at (by omega), if_pos (by omega)]
    rfl
end LK
