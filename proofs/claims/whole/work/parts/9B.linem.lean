/-! THE MODEL BREAKS LINES -/
def Fl (t t' : MS) : Prop := (∀ k, k ≠ 38 → t'.1 k = t.1 k) ∧ ∀ f, f ≠ 39 → f ≠ 40 → t'.2 f = t.2 f
def lM (t : MS) (W : Nat → Nat) (m P : Nat) : Prop := t.1 38 = nI (zNl (zLs W m P m).2 m m) ∧ (∀ k, k ≤ zNl (zLs W m P m).2 m m → t.2 39 k = nI (zFi (zLs W m P m).2 m k)) ∧ t.2 40 0 = nI ((zLs W m P m).1 0)
/-- what lines are broken of -/
def lI (t : MS) (W : Nat → Nat) (m P : Nat) : Prop := t.1 32 = nI m ∧ t.1 21 = nI P ∧ ∀ j, j < m → t.2 37 j = nI (W j)
section LM
variable {W T T' : Nat → Nat} {m P i : Nat} {t t' : MS}
theorem Fl_rfl : Fl t t := ⟨fun _ _ => rfl, fun _ _ _ => rfl⟩
theorem Fl_trans {u : MS} (h : Fl t t') (g : Fl t' u) : Fl t u := ⟨fun k hk => (g.1 k hk).trans (h.1 k hk), fun f h1 h2 => (g.2 f h1 h2).trans (h.2 f h1 h2)⟩
theorem Fl_msA {f0 : Nat} {i v : Int32} (h : Fl t t') (hf : f0 = 39 ∨ f0 = 40) : Fl t (msA t' f0 i v) := ⟨h.1, fun f h1 h2 => (mA_ne (by omega)).trans (h.2 f h1 h2)⟩
theorem Fl_msI {v : Int32} (h : Fl t t') : Fl t (msI t' 38 v) := ⟨fun k hk => (mI_ne hk).trans (h.1 k hk), h.2⟩
theorem lI_Fl (h : lI t W m P) (g : Fl t t') : lI t' W m P := by
  obtain ⟨h1, h2, h3⟩ := h
  refine ⟨(g.1 32 (by decide)).trans h1, (g.1 21 (by decide)).trans h2, fun j hj => ?_⟩
  rw [g.2 37 (by decide) (by decide)]
  exact h3 j hj
theorem Ag_Fl {A : MS} (g : Ag A t) (h : Fl t t') : Ag A t' := ⟨fun k hk => ⟨(h.1 k (by omega)).trans (g.1 k hk).1, (h.2 k (by omega) (by omega)).trans (g.1 k hk).2⟩, (congrFun (h.2 26 (by decide) (by decide)) 0).trans g.2⟩
theorem zRd_c {d : Nat} (h : T (i + d) = T' (i + d)) : zRd W m P T i d = zRd W m P T' i d := by
  unfold zRd zTg
  rw [h]
theorem zLs_fix {k k' j : Nat} (hk : k ≤ k') (hk' : k' ≤ m) (hj : m - k ≤ j) : (zLs W m P k').1 j = (zLs W m P k).1 j ∧ (zLs W m P k').2 j = (zLs W m P k).2 j := by
  induction k' with
  | zero => rw [show k = 0 by omega]; exact ⟨rfl, rfl⟩
  | succ k' ih =>
    by_cases e : k = k' + 1
    · rw [e]; exact ⟨rfl, rfl⟩
    · have := ih (by omega) (by omega)
      show va_up (zLs W m P k').1 (m - 1 - k') _ j = _ ∧ va_up (zLs W m P k').2 (m - 1 - k') _ j = _
      rw [va_up_at, va_up_at, if_neg (by omega), if_neg (by omega)]
      exact this
/-- the choice at an item -/
theorem zLs_pick (hP : P ≤ 400) (hm : m ≤ 24) (hW : ∀ j, j < m → W j ≤ 600) (hi : i < m) : ∃ d, 1 ≤ d ∧ i + d ≤ m ∧ (zLs W m P m).2 i = i + d ∧ zRd W m P (zLs W m P m).1 i d = (zLs W m P m).1 i ∧ ∀ e, d < e → i + e ≤ m → ¬ zRd W m P (zLs W m P m).1 i e = (zLs W m P m).1 i := by
  have hzs := zLs_ok (W := W) hP hm hW (m - 1 - i) (by omega)
  obtain ⟨-, -, d, d1, d2, d3, d4, d5⟩ := zLi_ok (m := m) (i := i) (T := (zLs W m P (m - 1 - i)).1) hP (hW i hi) (c := 1360000 * (m - 1 - i)) (by omega) (D := m - 1 - i + 1) (by omega) (fun d h1 h2 => (hzs (i + d) (by omega)).1)
  obtain ⟨f1, f2⟩ := zLs_fix (W := W) (P := P) (m := m) (k := m - 1 - i + 1) (k' := m) (j := i) (by omega) (Nat.le_refl _) (by omega)
  have g1 : (zLs W m P (m - 1 - i + 1)).1 i = (zLi W m P (zLs W m P (m - 1 - i)).1 i (m - 1 - i + 1)).1 := by
    show va_up (zLs W m P (m - 1 - i)).1 (m - 1 - (m - 1 - i)) (zLi W m P (zLs W m P (m - 1 - i)).1 (m - 1 - (m - 1 - i)) (m - 1 - i + 1)).1 i = _
    rw [va_up_at, if_pos (by omega), show m - 1 - (m - 1 - i) = i by omega]
  have g2 : (zLs W m P (m - 1 - i + 1)).2 i = (zLi W m P (zLs W m P (m - 1 - i)).1 i (m - 1 - i + 1)).2 := by
    show va_up (zLs W m P (m - 1 - i)).2 (m - 1 - (m - 1 - i)) (zLi W m P (zLs W m P (m - 1 - i)).1 (m - 1 - (m - 1 - i)) (m - 1 - i + 1)).2 i = _
    rw [va_up_at, if_pos (by omega), show m - 1 - (m - 1 - i) = i by omega]
  have hc : ∀ e, 1 ≤ e → zRd W m P (zLs W m P m).1 i e = zRd W m P (zLs W m P (m - 1 - i)).1 i e := fun e he => zRd_c (zLs_fix (W := W) (P := P) (m := m) (k := m - 1 - i) (k' := m) (j := i + e) (by omega) (Nat.le_refl _) (by omega)).1
  refine ⟨d, d1, by omega, by rw [f2, g2]; exact d3, by rw [hc d d1, f1, g1]; exact d4, fun e e1 e2 => ?_⟩
  rw [hc e (by omega), f1, g1]
  exact d5 e e1 (by omega)
theorem mm_bad {x : Nat} {l : Bool} (h21 : t.1 21 = nI P) (hx : x ≤ 600) (hP : P ≤ 400) : v_badnessOf (nI x) (bI l) t = nI (zBd P x l) := by
  have e21 : mgI t 21 = nI P := h21
  unfold v_badnessOf zBd
  rw [e21, nI_sq]
  have e : (0 : Int32) ≤ nI P - nI x ↔ x ≤ P := by
    rw [Int32.le_iff_toInt_le, pk_sub_toInt (by omega) (by omega)]
    show (0 : Int) ≤ _ ↔ _
    omega
  have h1 := sq_le (x := P - x) (c := 400) (by omega)
  by_cases c : x ≤ P
  · rw [if_pos (e.mpr c), if_pos c, if_pos c]
    by_cases c2 : l = true
    · rw [if_neg (fun z => bI_0.mp z c2), if_pos c2, show (4 : Int32) = nI 4 from rfl, pk_div (by omega) (by decide) (by decide)]
    · rw [if_pos (bI_0.mpr c2), if_neg c2]
  · rw [if_neg (fun z => c (e.mp z)), if_neg c, if_neg c, show (1000000 : Int32) = nI 1000000 from rfl, nI_add]
theorem mm_badnessTo (h : lI t W m P) (hm : m ≤ 24) (hP : P ≤ 400) (hW : ∀ j, j < m → W j ≤ 600) {d : Nat} (hd : 1 ≤ d) (hid : i + d ≤ m) (hT : t.2 40 (i + d) = nI (T (i + d))) {Q : Int32 → MS → Prop} (hQ : Q (nI (zRd W m P T i d)) t) : w_badnessTo (nI i) (nI (i + d)) t Q := by
  obtain ⟨h32, h21, h37⟩ := h
  refine lp_seq (fun k => (nI (zLw W i k), nI (i + k))) d ?_ ?_ 0 (Nat.zero_le _)
  · intro k hk K hK
    have e37 : mgA t 37 (nI (i + k)) = nI (W (i + k)) := by
      show t.2 37 (nI _).toNatClampNeg = _
      rw [nI_clamp (by omega)]
      exact h37 _ (by omega)
    unfold w_badnessTo_L5
    dsimp only
    rw [e37, nI_add]
    refine ⟨fun h9 => absurd h9 (nI_ge (by omega) (by omega)), fun _ => ⟨vp_nI (n := 24) (by omega) (by decide), fun x7 hx7 => ?_⟩⟩
    rw [hx7, nI_1]
    exact hK
  · intro K
    have e40 : mgA t 40 (nI (i + d)) = nI (T (i + d)) := by
      show t.2 40 (nI _).toNatClampNeg = _
      rw [nI_clamp (by omega)]
      exact hT
    have e32 : mgI t 32 = nI m := h32
    have e21 : mgI t 21 = nI P := h21
    have hsum := zLw_le (W := W) (a := i) (d := d) (fun j hj => hW (i + j) (by omega))
    have c1 : nI (i + d) ≤ nI i + 1 ↔ d = 1 := by
      rw [nI_1]
      exact ⟨fun z => Classical.byContradiction fun z2 => nI_ge (a := i + 1) (b := i + d) (by omega) (by omega) z, fun z => nI_le (by omega) (by omega)⟩
    have c2 : nI (zLw W i d) ≤ nI P ↔ zLw W i d ≤ P := ⟨fun z => Classical.byContradiction fun z2 => nI_ge (a := P) (b := zLw W i d) (by omega) (by omega) z, fun z => nI_le z (by omega)⟩
    have c3 : nI (i + d) = nI m ↔ i + d = m := nI_eq (by omega) (by omega)
    unfold w_badnessTo_L5
    dsimp only
    rw [e40, e32, e21]
    refine ⟨fun _ => ⟨fun _ _ => vp_nI (n := 25) (by omega) (by decide), fun _ _ => vp_nI (n := 25) (by omega) (by decide), fun _ _ _ => vp_nI (n := 25) (by omega) (by decide), fun _ _ _ => vp_nI (n := 25) (by omega) (by decide), fun x1 hx1 => ?_⟩, fun h9 => absurd (nI_le (Nat.le_refl _) (by omega)) h9⟩
    have ex : x1 = nI (zRd W m P T i d) := by
      have yes : zLw W i d ≤ 600 → (if nI (i + d) = nI m then v_badnessOf (nI (zLw W i d)) 1 t + nI (T (i + d)) else v_badnessOf (nI (zLw W i d)) 0 t + nI (T (i + d))) = nI (zTg W m P T i d) := fun hle => by
        unfold zTg
        by_cases c : i + d = m
        · rw [if_pos (c3.mpr c), show (1 : Int32) = bI true from rfl, mm_bad h21 hle hP, nI_add, decide_eq_true c]
        · rw [if_neg (fun z => c (c3.mp z)), show (0 : Int32) = bI false from rfl, mm_bad h21 hle hP, nI_add, decide_eq_false c]
      unfold zRd
      by_cases q1 : d = 1
      · have hle : zLw W i d ≤ 600 := by rw [q1, zLw_1]; exact hW i (by omega)
        rw [if_pos (c1.mpr q1), yes hle] at hx1
        rw [if_pos (Or.inl q1)]
        exact hx1
      · rw [if_neg (fun z => q1 (c1.mp z))] at hx1
        by_cases q2 : zLw W i d ≤ P
        · rw [if_pos (c2.mpr q2), yes (by omega)] at hx1
          rw [if_pos (Or.inr q2)]
          exact hx1
        · rw [if_neg (fun z => q2 (c2.mp z))] at hx1
          rw [if_neg (fun z => z.elim q1 q2)]
          exact hx1
    rw [ex]
    exact hQ
theorem mm_breaksLines (h : lI t W m P) (hm : m ≤ 24) (hP : P ≤ 400) (hW : ∀ j, j < m → W j ≤ 600) {Q : MS → Prop} (hQ : ∀ t', Fl t t' → lI t' W m P → lM t' W m P → Q t') : w_breaksLines t Q := by
  have hzs := zLs_ok (W := W) hP hm hW
  have e32 : mgI t 32 = nI m := h.1
  unfold w_breaksLines
  rw [e32]
  refine ⟨vp_nI (n := 25) (by omega) (by decide), fun t2 h2 x3 hx3 => ?_⟩
  have e32' : mgI t2 32 = nI m := by rw [h2]; exact h.1
  rw [e32'] at hx3
  refine lp_for (fun k z => z.1 = nI (m - k) + (-1) ∧ Fl t z.2 ∧ ∀ j, m - k ≤ j → j ≤ m → z.2.2 40 j = nI ((zLs W m P k).1 j)) m ?_ ?_ 0 (Nat.zero_le _) (x3, t2) ⟨?_, ?_, fun j h1 h2' => ?_⟩
  · intro k hkm K z hz hK
    obtain ⟨z1, u⟩ := z
    obtain ⟨hz1, F, ht⟩ := hz
    dsimp only at hz1 F ht
    have e1 : z1 = nI (m - 1 - k) := by rw [hz1, show m - k = (m - 1 - k) + 1 by omega, pk_m1]
    subst e1
    have ec : (nI (m - 1 - k)).toNatClampNeg = m - 1 - k := nI_clamp (by omega)
    refine ⟨fun h9 => absurd h9 (nI_pos (by omega)), fun _ => ⟨vp_nI (n := 25) (by omega) (by decide), fun t14 h14 x15 hx15 => ?_⟩⟩
    have hTk : ∀ d, 1 ≤ d → d ≤ k + 1 → (zLs W m P k).1 (m - 1 - k + d) ≤ 1360000 * k := fun d h1 h2 => (hzs k (by omega) (m - 1 - k + d) (by omega)).1
    refine lp_for (fun d z => z.1 = nI (m - 1 - k + 1 + d) ∧ Fl t z.2 ∧ (∀ j, m - k ≤ j → j ≤ m → z.2.2 40 j = nI ((zLs W m P k).1 j)) ∧ z.2.2 40 (m - 1 - k) = nI (zMi W m P (zLs W m P k).1 (m - 1 - k) d)) (k + 1) ?_ ?_ 0 (Nat.zero_le _) (x15, t14) ⟨by rw [hx15, nI_1], ?_, fun j h1 h2' => ?_, ?_⟩
    · intro d hd K2 z hz hK2
      obtain ⟨z1, y⟩ := z
      obtain ⟨hz1, Fy, ty, ey⟩ := hz
      dsimp only at hz1 Fy ty ey
      subst hz1
      have hly := lI_Fl h Fy
      have e32y : mgI y 32 = nI m := hly.1
      have hrd := zRd_le (m := m) (d := d + 1) hP (hW (m - 1 - k) (by omega)) (c := 1360000 * k) (by omega) (hTk (d + 1) (by omega) (by omega))
      have hmi := zMi_le (W := W) (m := m) (P := P) (T := (zLs W m P k).1) (i := m - 1 - k) d
      unfold w_breaksLines_L34
      dsimp only
      rw [e32y]
      refine ⟨fun h9 => absurd ((nI_ltI (by omega) (by omega)).mp h9) (by omega), fun _ => ?_⟩
      rw [show m - 1 - k + 1 + d = m - 1 - k + (d + 1) by omega]
      refine mm_badnessTo (T := (zLs W m P k).1) hly hm hP hW (by omega) (by omega) (ty _ (by omega) (by omega)) ?_
      have e40 : mgA y 40 (nI (m - 1 - k)) = nI (zMi W m P (zLs W m P k).1 (m - 1 - k) d) := by
        show y.2 40 (nI _).toNatClampNeg = _
        rw [ec]
        exact ey
      have eLe : nI (zMi W m P (zLs W m P k).1 (m - 1 - k) d) ≤ nI (zRd W m P (zLs W m P k).1 (m - 1 - k) (d + 1)) ↔ zMi W m P (zLs W m P k).1 (m - 1 - k) d ≤ zRd W m P (zLs W m P k).1 (m - 1 - k) (d + 1) := ⟨fun z => Classical.byContradiction fun z2 => nI_ge (by omega) (by omega) z, fun z => nI_le z (by omega)⟩
      rw [e40]
      refine ⟨vp_nI (n := 25) (by omega) (by decide), fun _ => vp_nI (n := 25) (by omega) (by decide), fun x18 hx18 => ⟨vp_nI (n := 25) (by omega) (by decide), fun t21 h21 => hK2 _ ⟨?_, ?_, fun j h1 h2' => ?_, ?_⟩⟩⟩
      · show nI (m - 1 - k + (d + 1)) + 1 = nI (m - 1 - k + 1 + (d + 1))
        rw [nI_1]
        congr 1
        omega
      · dsimp only
        rw [h21]
        exact Fl_msA Fy (Or.inr rfl)
      · dsimp only
        rw [h21, mA_at (by omega), if_neg (by omega)]
        exact ty j h1 h2'
      · dsimp only
        rw [h21, mA_at (by omega), if_pos rfl, hx18]
        show _ = nI (if zMi W m P (zLs W m P k).1 (m - 1 - k) d ≤ zRd W m P (zLs W m P k).1 (m - 1 - k) (d + 1) then zMi W m P (zLs W m P k).1 (m - 1 - k) d else zRd W m P (zLs W m P k).1 (m - 1 - k) (d + 1))
        by_cases c : zMi W m P (zLs W m P k).1 (m - 1 - k) d ≤ zRd W m P (zLs W m P k).1 (m - 1 - k) (d + 1)
        · rw [if_pos (eLe.mpr c), if_pos c]
        · rw [if_neg (fun z => c (eLe.mp z)), if_neg c]
    · intro K2 z hz
      obtain ⟨z1, y⟩ := z
      obtain ⟨hz1, Fy, ty, ey⟩ := hz
      dsimp only at hz1 Fy ty ey
      subst hz1
      have e32y : mgI y 32 = nI m := (lI_Fl h Fy).1
      unfold w_breaksLines_L34
      dsimp only
      rw [e32y]
      refine ⟨fun _ => hK _ ⟨?_, Fy, fun j h1 h2' => ?_⟩, fun h9 => absurd (nI_lt (a := m) (b := m - 1 - k + 1 + (k + 1)) (by omega) (by omega)) h9⟩
      · show nI (m - 1 - k) + (-1) = nI (m - (k + 1)) + (-1)
        rw [show m - (k + 1) = m - 1 - k by omega]
      · show y.2 40 j = nI (va_up (zLs W m P k).1 (m - 1 - k) (zLi W m P (zLs W m P k).1 (m - 1 - k) (k + 1)).1 j)
        rw [va_up_at]
        by_cases e : j = m - 1 - k
        · rw [if_pos e, e, ey, zMi_is hP (hW (m - 1 - k) (by omega)) (c := 1360000 * k) (by omega) (by omega) hTk]
        · rw [if_neg e]
          exact ty j (by omega) h2'
    · dsimp only
      rw [h14]
      exact Fl_msA F (Or.inr rfl)
    · dsimp only
      rw [h14, mA_at (by omega), if_neg (by omega)]
      exact ht j h1 h2'
    · dsimp only
      rw [h14, mA_at (by omega), if_pos rfl]
      rfl
  · intro K z hz
    obtain ⟨z1, u⟩ := z
    obtain ⟨hz1, F, ht⟩ := hz
    dsimp only at hz1 F ht
    have e1 : z1 = -1 := by
      rw [hz1, Nat.sub_self]
      rfl
    subst e1
    have hnx : ∀ j, j < m → j < (zLs W m P m).2 j ∧ (zLs W m P m).2 j ≤ m := fun j hj => (hzs m (Nat.le_refl _) j (by omega)).2 hj
    obtain ⟨n1, n2, n3⟩ := zNl_ok hnx
    refine ⟨fun _ t4 h4 => ?_, fun h9 => absurd (show (-1 : Int32) < 0 by decide) h9⟩
    have F4 : Fl t t4 := by rw [h4]; exact Fl_msI F
    refine lp_for (fun k z => z.1 = nI (zFi (zLs W m P m).2 m k) ∧ Fl t z.2 ∧ z.2.1 38 = nI k ∧ (∀ j, j < k → z.2.2 39 j = nI (zFi (zLs W m P m).2 m j)) ∧ z.2.2 40 = u.2 40) (zNl (zLs W m P m).2 m m) ?_ ?_ 0 (Nat.zero_le _) (0, t4) ⟨rfl, F4, by rw [h4, mI_at]; rfl, fun j hj => absurd hj (Nat.not_lt_zero _), by rw [h4]; rfl⟩
    · intro k hkn K2 z hz hK2
      obtain ⟨z1, y⟩ := z
      obtain ⟨hz1, Fy, y1, y2, y3⟩ := hz
      dsimp only at hz1 Fy y1 y2 y3
      subst hz1
      have hlt := n1 k hkn
      have hly := lI_Fl h Fy
      have e32y : mgI y 32 = nI m := hly.1
      have e38y : mgI y 38 = nI k := y1
      unfold w_breaksLines_L94
      dsimp only
      rw [e32y, e38y]
      refine ⟨fun h9 => absurd h9 (nI_ge hlt (by omega)), fun _ => ⟨vp_nI (n := 25) (by omega) (by decide), fun t8 h8 t9 h9 x10 hx10 => ?_⟩⟩
      have e38 : mgI t8 38 = nI k := by rw [h8]; exact y1
      rw [e38, nI_1] at h9
      have F9 : Fl t t9 := by rw [h9, h8]; exact Fl_msI (Fl_msA Fy (Or.inl rfl))
      have hl9 := lI_Fl h F9
      have e329 : mgI t9 32 = nI m := hl9.1
      rw [e329] at hx10
      subst hx10
      have e40 : t9.2 40 = u.2 40 := by
        rw [h9]
        show t8.2 40 = _
        rw [h8, mA_ne (by decide)]
        exact y3
      obtain ⟨d, d1, d2, d3, d4, d5⟩ := zLs_pick hP hm hW hlt
      have hbest := (hzs m (Nat.le_refl _) (zFi (zLs W m P m).2 m k) (by omega)).1
      have e40i : mgA t9 40 (nI (zFi (zLs W m P m).2 m k)) = nI ((zLs W m P m).1 (zFi (zLs W m P m).2 m k)) := by
        show t9.2 40 (nI _).toNatClampNeg = _
        rw [nI_clamp (by omega), e40]
        exact ht _ (by omega) (by omega)
      have hK3 : ∀ x, x = zFi (zLs W m P m).2 m k + d → K2 (nI x, t9) := fun x hx => hK2 _ ⟨?_, F9, ?_, fun j hj => ?_, e40⟩
      · refine lp_for (fun x z => z.1 = nI (m - x) ∧ z.2 = t9) (m - (zFi (zLs W m P m).2 m k + d)) ?_ ?_ 0 (Nat.zero_le _) (nI m, t9) ⟨rfl, rfl⟩
        · intro x hx K3 z hz hK3'
          obtain ⟨z1, z2⟩ := z
          obtain ⟨hz1, hz2⟩ := hz
          dsimp only at hz1 hz2
          subst hz1
          subst hz2
          have hrd := zRd_le (m := m) (d := m - x - zFi (zLs W m P m).2 m k) hP (hW _ hlt) (T := (zLs W m P m).1) (c := 1360000 * m) (by omega) (hzs m (Nat.le_refl _) _ (by omega)).1
          have hne := d5 (m - x - zFi (zLs W m P m).2 m k) (by omega) (by omega)
          unfold w_breaksLines_L127
          dsimp only
          rw [show m - x = zFi (zLs W m P m).2 m k + (m - x - zFi (zLs W m P m).2 m k) by omega]
          refine mm_badnessTo (T := (zLs W m P m).1) hl9 hm hP hW (by omega) (by omega) (by rw [e40]; exact ht _ (by omega) (by omega)) ?_
          rw [e40i]
          refine ⟨vp_nI (n := 25) (by omega) (by decide), fun z => absurd ((nI_eq (by omega) (by omega)).mp z) hne, fun _ => hK3' _ ⟨?_, rfl⟩⟩
          show nI (zFi (zLs W m P m).2 m k + (m - x - zFi (zLs W m P m).2 m k)) + (-1) = nI (m - (x + 1))
          rw [show zFi (zLs W m P m).2 m k + (m - x - zFi (zLs W m P m).2 m k) = (m - (x + 1)) + 1 by omega, pk_m1]
        · intro K3 z hz
          obtain ⟨z1, z2⟩ := z
          obtain ⟨hz1, hz2⟩ := hz
          dsimp only at hz1 hz2
          rw [show m - (m - (zFi (zLs W m P m).2 m k + d)) = zFi (zLs W m P m).2 m k + d by omega] at hz1
          subst hz1
          subst hz2
          unfold w_breaksLines_L127
          dsimp only
          refine mm_badnessTo (T := (zLs W m P m).1) hl9 hm hP hW d1 d2 (by rw [e40]; exact ht _ (by omega) (by omega)) ?_
          rw [e40i, d4]
          exact ⟨vp_nI (n := 25) (by omega) (by decide), fun _ => hK3 _ rfl, fun z => absurd rfl z⟩
      · show nI x = nI (if zFi (zLs W m P m).2 m k < m then (zLs W m P m).2 (zFi (zLs W m P m).2 m k) else m)
        rw [if_pos hlt, hx, d3]
      · dsimp only
        rw [h9, mI_at]
      · dsimp only
        rw [h9]
        show t8.2 39 j = _
        rw [h8, mA_at (by omega)]
        by_cases e : j = k
        · rw [if_pos e, e]
        · rw [if_neg e]
          exact y2 j (by omega)
    · intro K2 z hz
      obtain ⟨z1, y⟩ := z
      obtain ⟨hz1, Fy, y1, y2, y3⟩ := hz
      dsimp only at hz1 Fy y1 y2 y3
      subst hz1
      have hly := lI_Fl h Fy
      have e32y : mgI y 32 = nI m := hly.1
      have e38y : mgI y 38 = nI (zNl (zLs W m P m).2 m m) := y1
      unfold w_breaksLines_L94
      dsimp only
      rw [e32y, e38y, n2]
      refine ⟨fun _ => ⟨vp_nI (n := 25) (by omega) (by decide), fun t6 h6 => ?_⟩, fun h9 => absurd (nI_le (Nat.le_refl _) (by omega)) h9⟩
      have F6 : Fl t t6 := by rw [h6]; exact Fl_msA Fy (Or.inl rfl)
      refine hQ t6 F6 (lI_Fl h F6) ⟨by rw [h6]; exact y1, fun k hk => ?_, ?_⟩
      · rw [h6, mA_at (by omega)]
        by_cases e : k = zNl (zLs W m P m).2 m m
        · rw [if_pos e, e, n2]
        · rw [if_neg e]
          exact y2 k (by omega)
      · rw [h6, mA_ne (by decide), y3]
        exact ht 0 (by omega) (Nat.zero_le _)
  · show x3 = nI (m - 0) + (-1)
    rw [hx3, Int32.sub_eq_add_neg]
    rfl
  · dsimp only
    rw [h2]
    exact Fl_msA Fl_rfl (Or.inr rfl)
  · dsimp only
    rw [h2, mA_at (by omega), if_pos (by omega)]
    rfl
end LM
