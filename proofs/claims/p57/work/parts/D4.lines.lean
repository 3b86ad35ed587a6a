/-! P57: THE LAW'S METHODS (3): areLines -/
theorem bad_is {P x : Nat} {l : Bool} (hP : P ≤ 400) (hx : x ≤ 20000) : v_L_badOf (nI P) (nI x) (bI l) = nI (zBd P x l) := by
  unfold v_L_badOf zBd
  rw [nI_sq]
  have e : (0 : Int32) ≤ nI P - nI x ↔ x ≤ P := by
    rw [Int32.le_iff_toInt_le, pk_sub_toInt (by omega) (by omega)]
    show (0 : Int) ≤ _ ↔ _
    omega
  have h1 := sq_le (x := P - x) (c := 400) (by omega)
  have h2 := sq_le (x := x - P) (c := 20000) (by omega)
  by_cases c : x ≤ P
  · rw [if_pos (e.mpr c), if_pos c, if_pos c]
    by_cases c2 : l = true
    · rw [if_neg (fun z => bI_0.mp z c2), if_pos c2, show (4 : Int32) = nI 4 from rfl, pk_div (by omega) (by decide) (by decide)]
    · rw [if_pos (bI_0.mpr c2), if_neg c2]
  · rw [if_neg (fun z => c (e.mp z)), if_neg c, if_neg c, show (1000000 : Int32) = nI 1000000 from rfl, nI_add]
theorem bI_is {a c : Nat} (ha : a < 1000) (hc : c < 1000) : (if nI a = nI c then (1 : Int32) else 0) = bI (decide (a = c)) := by
  unfold bI
  by_cases e : a = c
  · rw [if_pos (by rw [e]), if_pos (decide_eq_true e)]
  · rw [if_neg (fun z => e ((nI_eq (by omega) (by omega)).mp z)), if_neg (fun z => e (of_decide_eq_true z))]
section DL
variable {b B : Nat × Nat} {o so po n ga v : Nat} {S : CS} {A : MS} {r : LR} {Q : Int32 → LwS → Prop}
theorem lnB_big {W : Nat → Nat} {m P i k : Nat} (hP : P ≤ 400) (hx : zLw W i (k - i) ≤ 20000) : lnB W m P i k ≤ 401000000 := by
  unfold lnB zBd
  have h1 := sq_le (x := P - zLw W i (k - i)) (c := 400) (by omega)
  have h2 := sq_le (x := zLw W i (k - i) - P) (c := 20000) (by omega)
  by_cases c : zLw W i (k - i) ≤ P
  · rw [if_pos c]
    by_cases c2 : decide (k = m) = true
    · rw [if_pos c2]
      omega
    · rw [if_neg c2]
      omega
  · rw [if_neg c]
    omega
/-- the law's rows of widths and of what is best -/
theorem pf_areLines (hb : hB b B) (J : Jp b o so po (n + 100) S A) (hg : gRow r ga A) (hv : v < 4) (hd : zDr A v) (h : ∀ S' r', Jp b o so po n S' A → rExt r r' → Q 1 (S', r')) : w_L_areLines B o ga (nI v) (S, r) Q := by
  have hA := Jp_A J
  have w := rA_M hA
  obtain ⟨p1, p2, p3, p4, p5⟩ := part_W hA hv
  obtain ⟨q1, q2, q3, q4, q5, q6⟩ := part_L hA hv
  have hpos : 0 < dm A v := dm_pos hd.1
  have hW : ∀ j, j < dm A v → dW A v j ≤ 600 := fun j hj => (p5 j hj).1
  have hlw : ∀ a d, a + d ≤ dm A v → zLw (dW A v) a d ≤ 600 * d := fun a d had => zLw_le (fun j hj => hW (a + j) (by omega))
  have hsplit : ∀ i k, i ≤ k → zLw (dW A v) 0 k = zLw (dW A v) 0 i + zLw (dW A v) i (k - i) := fun i k hik => by
    have h9 := zLw_add (W := dW A v) (a := 0) (d := i) (k - i)
    rw [show i + (k - i) = k by omega, Nat.zero_add] at h9
    exact h9
  have hFk : ∀ k, k ≤ dm A v → fT (dW A v) (dm A v) (dP A) (dm A v) k ≤ 32640000 := fun k hk => by
    by_cases c : k = 0
    · rw [c, fT_0]
      exact Nat.zero_le _
    · have := (fT_ok p1 p4 hW (k := k) (by omega) hk).1
      omega
  unfold w_L_areLines
  refine rd_items (n := n + 99) hb J hv hd (fun S1 J1 => ?_)
  have hs1 := Jp_sz (k := 6) hb (Jp_dn (m := n + 93 + 6) J1 (by omega))
  refine ⟨⟨by show szC S1 + 1 ≤ B.1; omega, by show nsC S1 + 25 ≤ B.2; omega⟩, fun hf1 t4 ht4 => ?_⟩
  have hf1' : r (szC S1) = none := hf1
  rw [show rNw ((S1, r) : LwS) 25 = (rsz S1 (szC S1 + 1) (nsC S1 + 25), rPut r (szC S1) (25, fun _ => 0)) from rfl] at ht4
  subst ht4
  refine ⟨⟨by show szC S1 + 1 + 1 ≤ B.1; omega, by show nsC S1 + 25 + 25 ≤ B.2; omega⟩, fun hf2 t7 ht7 => ?_⟩
  have J2 : Jp b o so po (n + 93) (rsz (rsz S1 (szC S1 + 1) (nsC S1 + 25)) (szC S1 + 1 + 1) (nsC S1 + 25 + 25)) A := Jp_new (Jp_new (m := 25) (Jp_dn (m := n + 93 + 3 + 3) J1 (by omega)) (by decide)) (by decide)
  have hf2' : rPut r (szC S1) (25, fun _ => 0) (szC S1 + 1) = none := hf2
  rw [show rNw ((rsz S1 (szC S1 + 1) (nsC S1 + 25), rPut r (szC S1) (25, fun _ => 0)) : LwS) 25 = (rsz (rsz S1 (szC S1 + 1) (nsC S1 + 25)) (szC S1 + 1 + 1) (nsC S1 + 25 + 25), rPut (rPut r (szC S1) (25, fun _ => 0)) (szC S1 + 1) (25, fun _ => 0)) from rfl] at ht7
  subst ht7
  have hba : szC S1 ≠ szC S1 + 1 := by omega
  have hba2 : szC S1 + 1 ≠ szC S1 := by omega
  rw [rPut_ne hba2] at hf2'
  have gw : ga ≠ szC S1 := gRow_ne hg hf1'
  have gb' : ga ≠ szC S1 + 1 := gRow_ne hg hf2'
  have hRx : ∀ x y : Nat × (Nat → Int32), rExt r (rPut (rPut r (szC S1) x) (szC S1 + 1) y) := fun x y => rExt_put (rExt_put rExt_rfl hf1') hf2'
  have hG : ∀ x y : Nat × (Nat → Int32), gRow (rPut (rPut r (szC S1) x) (szC S1 + 1) y) ga A := fun x y => gRow_e hg (hRx x y)
  obtain ⟨wa, hwa⟩ : ∃ wa, wa = szC S1 := ⟨_, rfl⟩
  obtain ⟨ba, hbaE⟩ : ∃ ba, ba = szC S1 + 1 := ⟨_, rfl⟩
  obtain ⟨T1, hT1⟩ : ∃ T1, T1 = rsz (rsz S1 (szC S1 + 1) (nsC S1 + 25)) (szC S1 + 1 + 1) (nsC S1 + 25 + 25) := ⟨_, rfl⟩
  rw [← hbaE, ← hwa] at hba hba2 hRx hG
  have eW : ∀ f g : Nat → Int32, rN (rPut (rPut r wa (25, f)) ba (25, g)) wa = 25 ∧ rG (rPut (rPut r wa (25, f)) ba (25, g)) wa = f ∧ rN (rPut (rPut r wa (25, f)) ba (25, g)) ba = 25 ∧ rG (rPut (rPut r wa (25, f)) ba (25, g)) ba = g := fun f g => by
    refine ⟨?_, ?_, rN_put, rG_put⟩
    · rw [rN_put2 hba, rN_put]
    · rw [rG_put2 hba, rG_put]
  have e1b : (rPut (rPut r (szC S1) (25, fun _ => (0 : Int32))) (szC S1 + 1) (25, fun _ => (0 : Int32))) = rPut (rPut r wa (25, fun _ => 0)) ba (25, fun _ => 0) := by rw [hwa, hbaE]
  show ∃ n_1, lp (w_L_areLines_L21 B o ga (nI v) Q (S1, r) (nI (dm A v)) (rsz S1 (szC S1 + 1) (nsC S1 + 25), rPut r (szC S1) (25, fun _ => 0))) n_1 (0, (rsz (rsz S1 (szC S1 + 1) (nsC S1 + 25)) (szC S1 + 1 + 1) (nsC S1 + 25 + 25), rPut (rPut r (szC S1) (25, fun _ => 0)) (szC S1 + 1) (25, fun _ => 0)))
  obtain ⟨t1, ht1⟩ : ∃ t1 : LwS, t1 = (S1, r) := ⟨_, rfl⟩
  obtain ⟨t4, ht4⟩ : ∃ t4 : LwS, t4 = (rsz S1 (szC S1 + 1) (nsC S1 + 25), rPut r (szC S1) (25, fun _ => 0)) := ⟨_, rfl⟩
  have z1 : szC t1.1 = wa := by rw [ht1, hwa]
  have z4 : szC t4.1 = ba := by rw [ht4, hbaE]; rfl
  rw [e1b, ← hT1, ← ht1, ← ht4]
  rw [← hT1] at J2
  refine lp_for (fun k s => ∃ S2 f, s = (nI k, ((S2, rPut (rPut r wa (25, f)) ba (25, fun _ => 0)) : LwS)) ∧ (∀ j, j ≤ k → f j = nI (zLw (dW A v) 0 j)) ∧ Jp b o so po (n + 60 + (dm A v - k)) S2 A) (dm A v) ?_ ?_ 0 (Nat.zero_le _) _ ⟨T1, fun _ => 0, rfl, fun j hj => by rw [show j = 0 by omega]; rfl, Jp_dn J2 (by omega)⟩
  · rintro k hk K s ⟨S2, f, rfl, hf, J3⟩ hK
    obtain ⟨w1, w2, w3, w4⟩ := eW f (fun _ => 0)
    have J3' : Jp b o so po (n + 60 + (dm A v - (k + 1)) + 1) S2 A := Jp_dn J3 (by omega)
    unfold w_L_areLines_L21
    dsimp only
    rw [z1, w1, w2]
    refine ⟨fun z => absurd z (nI_ge hk (by omega)), fun _ => ⟨vp_nI (n := 25) (by omega) (by decide), ?_⟩⟩
    refine rd_itemWidth hb J3' hv hd hk (fun S3 J4 => ?_)
    dsimp only
    rw [w1, nI_1, rSt_put2 hba, nI_clamp (show k < 2147483648 by omega), nI_clamp (show k + 1 < 2147483648 by omega), hf k (Nat.le_refl k), nI_add]
    refine ⟨vp_nI (n := 25) (by omega) (by decide), fun t50 ht50 => ?_⟩
    rw [ht50]
    refine hK _ ⟨S3, _, rfl, fun j hj => ?_, J4⟩
    rw [va_up_at]
    by_cases c : j = k + 1
    · rw [if_pos c, c]
      show _ = nI (zLw (dW A v) 0 k + dW A v (0 + k))
      rw [Nat.zero_add]
    · rw [if_neg c]
      exact hf j (by omega)
  · rintro K s ⟨S2, f, rfl, hf, J3⟩
    unfold w_L_areLines_L21
    dsimp only
    refine ⟨fun _ => ?_, fun z => absurd (nI_le (Nat.le_refl _) (by omega)) z⟩
    clear K
    refine lp_for (fun k s => 1 ≤ k ∧ ∃ g, s = (nI k, ((S2, rPut (rPut r wa (25, f)) ba (25, g)) : LwS)) ∧ ∀ j, j < k → g j = nI (fT (dW A v) (dm A v) (dP A) (dm A v) j)) (dm A v + 1) ?_ ?_ 1 (by omega) _ ⟨Nat.le_refl 1, fun _ => 0, rfl, fun j hj => by rw [show j = 0 by omega, fT_0]; rfl⟩
    · rintro k hk K s ⟨k1, g, rfl, hgk⟩ hK
      have hkm : k ≤ dm A v := by omega
      obtain ⟨w1, w2, w3, w4⟩ := eW f g
      unfold w_L_areLines_L56
      dsimp only
      rw [z4, w3]
      refine ⟨fun z => absurd z (nI_nlt hkm (by omega)), fun _ => ⟨vp_nI (n := 25) (by omega) (by decide), fun t30 ht30 => ?_⟩⟩
      rw [rSt_put, nI_clamp (show k < 2147483648 by omega)] at ht30
      subst ht30
      refine lp_for (fun i s => ∃ g2, s = (nI i, ((S2, rPut (rPut r wa (25, f)) ba (25, g2)) : LwS)) ∧ (∀ j, j < k → g2 j = nI (fT (dW A v) (dm A v) (dP A) (dm A v) j)) ∧ g2 k = nI (lnF (dW A v) (dm A v) (dP A) (fT (dW A v) (dm A v) (dP A) (dm A v)) k i)) k ?_ ?_ 0 (Nat.zero_le _) _ ⟨va_up g k 1000000000, rfl, fun j hj => by rw [va_up_at, if_neg (by omega)]; exact hgk j hj, by rw [va_up_at, if_pos rfl]; rfl⟩
      · rintro i hi K2 s ⟨g2, rfl, hg2, hgi⟩ hK2
        obtain ⟨v1, v2, v3, v4⟩ := eW f g2
        have hGr := hG (25, f) (25, g2)
        have hil := hlw i (k - i) (by omega)
        have hP1 : rG (rPut (rPut r wa (25, f)) ba (25, g2)) ga (Int32.toNatClampNeg 1) = nI (dP A) := (gR_1 hGr).trans p3
        have hV1 := vp4_1 hGr
        have hlB := lnB_big (m := dm A v) (W := dW A v) (P := dP A) (i := i) (k := k) p1 (by omega)
        have hFi := hFk i (by omega)
        have hlF : lnF (dW A v) (dm A v) (dP A) (fT (dW A v) (dm A v) (dP A) (dm A v)) k i ≤ 1000000000 := by
          have : ∀ i, lnF (dW A v) (dm A v) (dP A) (fT (dW A v) (dm A v) (dP A) (dm A v)) k i ≤ 1000000000 := by
            intro i
            induction i with
            | zero => exact Nat.le_refl _
            | succ i ih =>
              show (if _ then _ else _) ≤ _
              by_cases c : (i + 1 = k ∨ zLw (dW A v) i (k - i) ≤ dP A) ∧ fT (dW A v) (dm A v) (dP A) (dm A v) i + lnB (dW A v) (dm A v) (dP A) i k < lnF (dW A v) (dm A v) (dP A) (fT (dW A v) (dm A v) (dP A) (dm A v)) k i
              · rw [if_pos c]
                omega
              · rw [if_neg c]
                exact ih
          exact this i
        unfold w_L_areLines_L72
        dsimp only
        rw [z1, z4, v1, v2, v3, v4, hP1]
        refine ⟨fun z => absurd z (nI_ge hi (by omega)), fun _ => ⟨vp_nI (n := 25) (by omega) (by decide), vp_nI (n := 25) (by omega) (by decide), fun x33 hx33 => ⟨vp_nI (n := 25) (by omega) (by decide), hV1, fun x36 hx36 x37 hx37 => ?_⟩⟩⟩
        have e33 : x33 = nI (zLw (dW A v) i (k - i)) := by
          rw [hx33, nI_clamp (show k < 2147483648 by omega), nI_clamp (show i < 2147483648 by omega), hf k hkm, hf i (by omega), pk_sub (by have := hsplit i k (by omega); omega)]
          have := hsplit i k (by omega)
          congr 1
          omega
        have e37 : x37 = nI (fT (dW A v) (dm A v) (dP A) (dm A v) i + lnB (dW A v) (dm A v) (dP A) i k) := by
          rw [hx37, e33, hx36, bI_is (by omega) (by omega), bad_is p1 (by omega), nI_clamp (show i < 2147483648 by omega), hg2 i hi, nI_add]
          rfl
        refine ⟨fun _ => vp_nI (n := 25) (by omega) (by decide), fun _ _ => vp_nI (n := 25) (by omega) (by decide), fun _ => hV1, fun _ _ => vp_nI (n := 25) (by omega) (by decide), fun _ _ => vp_nI (n := 25) (by omega) (by decide), fun _ _ _ => vp_nI (n := 25) (by omega) (by decide), fun x38 hx38 => ⟨vp_nI (n := 25) (by omega) (by decide), fun t46 ht46 => ?_⟩⟩
        have ek : nI i = nI k - 1 ↔ i + 1 = k := by
          rw [show (nI k - 1 : Int32) = nI (k - 1) from pk_sub (a := k) (b := 1) (by omega), nI_eq (by omega) (by omega)]
          omega
        have e38 : x38 = nI (lnF (dW A v) (dm A v) (dP A) (fT (dW A v) (dm A v) (dP A) (dm A v)) k (i + 1)) := by
          have hdef : lnF (dW A v) (dm A v) (dP A) (fT (dW A v) (dm A v) (dP A) (dm A v)) k (i + 1) = if (i + 1 = k ∨ zLw (dW A v) i (k - i) ≤ dP A) ∧ fT (dW A v) (dm A v) (dP A) (dm A v) i + lnB (dW A v) (dm A v) (dP A) i k < lnF (dW A v) (dm A v) (dP A) (fT (dW A v) (dm A v) (dP A) (dm A v)) k i then fT (dW A v) (dm A v) (dP A) (dm A v) i + lnB (dW A v) (dm A v) (dP A) i k else lnF (dW A v) (dm A v) (dP A) (fT (dW A v) (dm A v) (dP A) (dm A v)) k i := rfl
          rw [hx38, hdef, nI_clamp (show k < 2147483648 by omega), hgi, e37, e33]
          have c1 : nI (lnF (dW A v) (dm A v) (dP A) (fT (dW A v) (dm A v) (dP A) (dm A v)) k i) ≤ nI (fT (dW A v) (dm A v) (dP A) (dm A v) i + lnB (dW A v) (dm A v) (dP A) i k) ↔ lnF (dW A v) (dm A v) (dP A) (fT (dW A v) (dm A v) (dP A) (dm A v)) k i ≤ fT (dW A v) (dm A v) (dP A) (dm A v) i + lnB (dW A v) (dm A v) (dP A) i k := nI_leI (by omega) (by omega)
          have c2 : nI (dP A) < nI (zLw (dW A v) i (k - i)) ↔ dP A < zLw (dW A v) i (k - i) := nI_ltI (by omega) (by omega)
          by_cases c : (i + 1 = k ∨ zLw (dW A v) i (k - i) ≤ dP A) ∧ fT (dW A v) (dm A v) (dP A) (dm A v) i + lnB (dW A v) (dm A v) (dP A) i k < lnF (dW A v) (dm A v) (dP A) (fT (dW A v) (dm A v) (dP A) (dm A v)) k i
          · rw [if_pos c, if_neg (fun z => ?_)]
            obtain ⟨ca, cb⟩ := c
            rcases z with ⟨y1, y2⟩ | ⟨y1, y2⟩
            · have := c1.mp y2
              omega
            · rcases y2 with y2 | y2
              · have y3 := c2.mp y2
                have y4 : ¬ i + 1 = k := fun y => y1 (ek.mpr y)
                omega
              · have := c1.mp y2
                omega
          · rw [if_neg c, if_pos ?_]
            by_cases y : i + 1 = k
            · exact Or.inl ⟨ek.mpr y, c1.mpr (by omega)⟩
            · refine Or.inr ⟨fun y2 => y (ek.mp y2), ?_⟩
              by_cases y3 : dP A < zLw (dW A v) i (k - i)
              · exact Or.inl (c2.mpr y3)
              · exact Or.inr (c1.mpr (by omega))
        rw [ht46, rSt_put, nI_clamp (show k < 2147483648 by omega), nI_1, e38]
        refine hK2 _ ⟨_, rfl, fun j hj => ?_, ?_⟩
        · rw [va_up_at, if_neg (by omega)]
          exact hg2 j hj
        · rw [va_up_at, if_pos rfl]
      · rintro K2 s ⟨g2, rfl, hg2, hgi⟩
        unfold w_L_areLines_L72
        dsimp only
        rw [nI_1]
        refine ⟨fun _ => hK _ ⟨by omega, g2, rfl, fun j hj => ?_⟩, fun z => absurd (nI_le (Nat.le_refl _) (by omega)) z⟩
        by_cases c : j = k
        · rw [c, hgi, fT_at k1 hkm]
        · exact hg2 j (by omega)
    · rintro K s ⟨k1, g, rfl, hgk⟩
      obtain ⟨w1, w2, w3, w4⟩ := eW f g
      have hGr := hG (25, f) (25, g)
      have hP1 : rG (rPut (rPut r wa (25, f)) ba (25, g)) ga (Int32.toNatClampNeg 1) = nI (dP A) := (gR_1 hGr).trans p3
      have hV1 := vp4_1 hGr
      unfold w_L_areLines_L56
      dsimp only
      refine ⟨fun _ => ?_, fun z => absurd (nI_lt (Nat.lt_succ_self _) (by omega)) z⟩
      refine rd_lines (n := n + 59) hb (Jp_dn J3 (by omega)) hv hd (fun S3 J4 => ?_)
      have hS : ∀ k, k ≤ dL A v → lnS (dW A v) (dm A v) (dP A) (dX A v) k ≤ 32640000 := fun k hk => by
        have h9 := lnS_ok p1 p4 hW (n := dL A v) (fun k hk => by have := (q1 k hk); have h8 : dF A v k < dm A v := by omega
                                                                 exact h8) k hk
        have h8 := bT_le (W := dW A v) (m := dm A v) (P := dP A) p1 p4 hW (i := 0)
        have h7 : lnS (dW A v) (dm A v) (dP A) (dX A v) k + (zLs (dW A v) (dm A v) (dP A) (dm A v)).1 (zFi (dX A v) (dm A v) k) = (zLs (dW A v) (dm A v) (dP A) (dm A v)).1 0 := h9
        omega
      refine lp_for (fun k s => ∃ S4, s = (nI (lnS (dW A v) (dm A v) (dP A) (dX A v) k), nI k, ((S4, rPut (rPut r wa (25, f)) ba (25, g)) : LwS)) ∧ Jp b o so po (n + 3 + 2 * (dL A v - k)) S4 A) (dL A v) ?_ ?_ 0 (Nat.zero_le _) _ ⟨S3, rfl, Jp_dn J4 (by omega)⟩
      · rintro k hk K2 s ⟨S4, rfl, J5⟩ hK2
        obtain ⟨u1, u2, u3⟩ := q1 k hk
        have J5' : Jp b o so po (n + 3 + 2 * (dL A v - (k + 1)) + 1 + 1) S4 A := Jp_dn J5 (by omega)
        have hlw2 := hlw (dF A v k) (dF A v (k + 1) - dF A v k) (by omega)
        unfold w_L_areLines_L186
        dsimp only
        refine ⟨fun z => absurd z (nI_ge hk (by omega)), fun _ => ?_⟩
        refine rd_firstItem hb J5' hv hd hk (fun S5 J6 => ?_)
        have ein : ∀ (S6 : CS), Jp b o so po (n + 3 + 2 * (dL A v - (k + 1))) S6 A → ∃ J274 : Prop, (J274 → (Q 0 (S6, rPut (rPut r wa (25, f)) ba (25, g)))) ∧ (((nI (dF A v k) < 0) → J274) ∧ (¬ (nI (dF A v k) < 0) → ((nI (dF A v (k + 1)) ≤ nI (dF A v k)) → J274) ∧ (¬ (nI (dF A v (k + 1)) ≤ nI (dF A v k)) → ∃ J248 : Prop, (J248 → (∃ J276 : Prop, (J276 → ((vp_in 1 (rN (rPut (rPut r wa (25, f)) ba (25, g)) ga)) ∧ (vp_in (nI (dF A v (k + 1))) (rN (rPut (rPut r wa (25, f)) ba (25, g)) (szC t1.1))) ∧ (vp_in (nI (dF A v k)) (rN (rPut (rPut r wa (25, f)) ba (25, g)) (szC t1.1))) ∧ ∀ x23 : Int32, x23 = (if nI (dF A v (k + 1)) = nI (dm A v) then 1 else 0) → ∀ x24 : Int32, x24 = (nI (lnS (dW A v) (dm A v) (dP A) (dX A v) k) + (v_L_badOf (rG (rPut (rPut r wa (25, f)) ba (25, g)) ga (Int32.toNatClampNeg 1)) ((rG (rPut (rPut r wa (25, f)) ba (25, g)) (szC t1.1) (Int32.toNatClampNeg (nI (dF A v (k + 1))))) - (rG (rPut (rPut r wa (25, f)) ba (25, g)) (szC t1.1) (Int32.toNatClampNeg (nI (dF A v k))))) x23)) → K2 (x24, (nI k + 1), (S6, rPut (rPut r wa (25, f)) ba (25, g))))) ∧ (((nI (dF A v (k + 1)) ≤ (nI (dF A v k) + 1)) → J276) ∧ (¬ (nI (dF A v (k + 1)) ≤ (nI (dF A v k) + 1)) → (vp_in (nI (dF A v (k + 1))) (rN (rPut (rPut r wa (25, f)) ba (25, g)) (szC t1.1))) ∧ (vp_in (nI (dF A v k)) (rN (rPut (rPut r wa (25, f)) ba (25, g)) (szC t1.1))) ∧ (vp_in 1 (rN (rPut (rPut r wa (25, f)) ba (25, g)) ga)) ∧ ((((rG (rPut (rPut r wa (25, f)) ba (25, g)) (szC t1.1) (Int32.toNatClampNeg (nI (dF A v (k + 1))))) - (rG (rPut (rPut r wa (25, f)) ba (25, g)) (szC t1.1) (Int32.toNatClampNeg (nI (dF A v k))))) ≤ (rG (rPut (rPut r wa (25, f)) ba (25, g)) ga (Int32.toNatClampNeg 1))) → J276) ∧ (¬ (((rG (rPut (rPut r wa (25, f)) ba (25, g)) (szC t1.1) (Int32.toNatClampNeg (nI (dF A v (k + 1))))) - (rG (rPut (rPut r wa (25, f)) ba (25, g)) (szC t1.1) (Int32.toNatClampNeg (nI (dF A v k))))) ≤ (rG (rPut (rPut r wa (25, f)) ba (25, g)) ga (Int32.toNatClampNeg 1))) → J274))))) ∧ (((nI k = 0) → ((nI (dF A v k) = 0) → J248) ∧ (¬ (nI (dF A v k) = 0) → J274)) ∧ (¬ (nI k = 0) → J248))))) := by
          intro S6 J7
          have ewd : rG (rPut (rPut r wa (25, f)) ba (25, g)) (szC t1.1) (Int32.toNatClampNeg (nI (dF A v (k + 1)))) - rG (rPut (rPut r wa (25, f)) ba (25, g)) (szC t1.1) (Int32.toNatClampNeg (nI (dF A v k))) = nI (zLw (dW A v) (dF A v k) (dF A v (k + 1) - dF A v k)) := by
            have := hsplit (dF A v k) (dF A v (k + 1)) (by omega)
            rw [z1, w2, nI_clamp (show dF A v (k + 1) < 2147483648 by omega), nI_clamp (show dF A v k < 2147483648 by omega), hf _ (by omega), hf _ (by omega), pk_sub (by omega)]
            congr 1
            omega
          rw [ewd, hP1, z1, w1]
          refine ⟨False, fun z => z.elim, fun z => nI_pos (by omega) z, fun _ => ⟨fun z => nI_ge u1 (by omega) z, fun _ => ⟨True, fun _ => ⟨True, fun _ => ⟨hV1, vp_nI (n := 25) (by omega) (by decide), vp_nI (n := 25) (by omega) (by decide), fun x23 hx23 x24 hx24 => ?_⟩, fun _ => trivial, fun z => ⟨vp_nI (n := 25) (by omega) (by decide), vp_nI (n := 25) (by omega) (by decide), hV1, fun _ => trivial, fun z2 => ?_⟩⟩, fun z => ⟨fun _ => trivial, fun z2 => ?_⟩, fun _ => trivial⟩⟩⟩
          · rw [hx24, hx23, bI_is (by omega) (by omega), bad_is p1 (by omega), nI_add, nI_1]
            exact hK2 _ ⟨S6, rfl, J7⟩
          · rcases u3 with u3 | u3
            · exact z (by rw [nI_1]; exact nI_le (by omega) (by omega))
            · exact z2 (nI_le u3 (by omega))
          · have hk0 : k = 0 := (nI_eq (b := 0) (by omega) (by decide)).mp z
            rw [hk0, q2] at z2
            exact z2 rfl
        refine ⟨fun x t => x = nI (dF A v (k + 1)) ∧ ∃ S6, t = ((S6, rPut (rPut r wa (25, f)) ba (25, g)) : LwS) ∧ Jp b o so po (n + 3 + 2 * (dL A v - (k + 1))) S6 A, ?_, fun z => ?_, fun z => ?_⟩
        · rintro _ _ ⟨rfl, S6, rfl, J7⟩
          exact ein S6 J7
        · rw [nI_1] at z
          have hkl : k + 1 = dL A v := by
            have := (nI_leI (by omega) (by omega)).mp z
            omega
          refine ⟨?_, S5, rfl, Jp_dn J6 (Nat.le_succ _)⟩
          rw [hkl, q3]
        · rw [nI_1] at z ⊢
          have hkl : k + 1 < dL A v := Nat.lt_of_not_le fun y => z (nI_le y (by omega))
          exact rd_firstItem hb J6 hv hd hkl (fun S6 J7 => ⟨rfl, S6, rfl, J7⟩)
      · rintro K2 s ⟨S4, rfl, J5⟩
        have hgm : g (dm A v) = nI (dZ A v) := by
          rw [hgk _ (Nat.lt_succ_self _), q6]
        unfold w_L_areLines_L186
        dsimp only
        rw [z4, w3, w4, nI_clamp (show dm A v < 2147483648 by omega), hgm, q5]
        refine ⟨fun _ => ⟨vp_nI (n := 25) (by omega) (by decide), fun x t => x = 1 ∧ ∃ S' r', t = ((S', r') : LwS) ∧ Jp b o so po n S' A ∧ rExt r r', ?_, fun _ => False, fun _ z => z.elim, fun _ => ?_, fun z => absurd rfl z⟩, fun z => absurd (nI_le (Nat.le_refl _) (by omega)) z⟩
        · rintro _ _ ⟨rfl, S', r', rfl, J', hr'⟩
          exact ⟨Or.inr rfl, h S' r' J' hr'⟩
        refine rd_badness (n := n + 2) hb (Jp_dn J5 (by omega)) hv hd (fun S5 J6 => ⟨fun _ => ?_, fun z => absurd rfl z⟩)
        refine rd_firstItem_out (n := n + 1) hb J6 hv hd (Or.inr (fun z => Int32.lt_irrefl z)) (fun S6 J7 => ⟨fun _ => ?_, fun z => absurd rfl z⟩)
        exact rd_firstItem_out (n := n) hb J7 hv hd (Or.inl (by decide)) (fun S7 J8 => ⟨fun _ => ⟨rfl, S7, _, rfl, J8, hRx _ _⟩, fun z => absurd rfl z⟩)
end DL
