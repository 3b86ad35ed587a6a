/-! P57: CALLS THAT CHANGE SOMETHING -/
section MU
variable {b B : Nat × Nat} {o so po n : Nat} {S : CS} {t : MS} {r : LR} {N : Int32 → LwS → Prop}
theorem rn_1 : szC S + 1 ≤ ((szC S + 100, nsC S + 1000) : Nat × Nat).1 ∧ nsC S + 6 ≤ ((szC S + 100, nsC S + 1000) : Nat × Nat).2 := ⟨Nat.add_le_add_left (by decide) _, Nat.add_le_add_left (by decide) _⟩
theorem rm_e : szC S + 1 ≤ ((szC S + 1, nsC S + 10) : Nat × Nat).1 ∧ nsC S + 6 ≤ ((szC S + 1, nsC S + 10) : Nat × Nat).2 := ⟨Nat.le_refl _, Nat.add_le_add_left (by decide) _⟩
/-- a call that changes something: its room, and what holds behind it -/
theorem mu_0 (hb : hB b B) (J : Jp b o so po (n + 100) S t) : (szC S + 100 ≤ B.1 ∧ nsC S + 1000 ≤ B.2) ∧ (szC S ≤ szC S + 100 ∧ nsC S ≤ nsC S + 1000) ∧ rA S t o so po ∧ (∀ sz ns : Nat, sz ≤ szC S + 100 → ns ≤ nsC S + 1000 → Jp b o so po n (rsz S sz ns) t) ∧ ∀ (S' : CS) (t' : MS), rA S' t' o so po → fI S' 199 so = fI S 199 so + 1 → Eqf fKp S S' → szC S' ≤ szC S + 100 → nsC S' ≤ nsC S + 1000 → Jp b o so po n S' t' := by
  obtain ⟨l1, l2⟩ := Jp_sz (k := 100) hb J
  exact ⟨⟨l1, l2⟩, ⟨Nat.le_add_right _ _, Nat.le_add_right _ _⟩, Jp_A J, fun sz ns z1 z2 => Jp_rs (k := 100) J z1 z2, fun S' t' h1 h2 h3 h4 h5 => Jp_told J h1 h2 h3 h4 h5⟩
/-- one that is refused -/
theorem mu_e (hb : hB b B) (J : Jp b o so po (n + 1) S t) : (szC S + 1 ≤ B.1 ∧ nsC S + 10 ≤ B.2) ∧ (szC S ≤ szC S + 1 ∧ nsC S ≤ nsC S + 10) ∧ rA S t o so po ∧ ∀ sz ns : Nat, sz ≤ szC S + 1 → ns ≤ nsC S + 10 → Jp b o so po n (rsz S sz ns) t := by
  obtain ⟨l1, l2⟩ := Jp_sz (k := 1) hb J
  exact ⟨⟨l1, l2⟩, ⟨Nat.le_add_right _ _, Nat.le_add_right _ _⟩, Jp_A J, fun sz ns z1 z2 => Jp_rs (k := 1) J z1 z2⟩
theorem nI_31 {a c : Nat} (h : nI a = nI c) (ha : a < 1000) (hc : c < 1000) : a = c := (nI_eq (by omega) (by omega)).mp h
theorem gb_01 {x : Int32} (h : gb x) {P : Int32 → Prop} (hP : P x) : (¬ x = 0 → P 1) ∧ (x = 0 → P 0) := by
  rcases h with rfl | rfl
  · exact ⟨fun z => absurd rfl z, fun _ => hP⟩
  · exact ⟨fun _ => hP, fun z => absurd z one_ne⟩
/-- an event that is asked for: where it is, and what both sides know of it -/
theorem a_Ek {B1 : Nat × Nat} {X : String → CS → Prop} {Q : Nat → CS → Prop} (hA : rA S t o so po) (hr : szC S + 1 ≤ B1.1 ∧ nsC S + 6 ≤ B1.2) {v i j : Nat} (hv : v < 4) (hi : i < zN t) (hj : j < zE t v i) (hQ : lIn S 176 (rwL S so v i) (nI j) → lG S 176 (rwL S so v i) (nI j) = evL S so v i j → rE S t (evL S so v i j) (zp v i j) → Q (evL S so v i j) S) : w_X11_requiredEvent B1 o (nI v) (nI i) (nI j) S Q X := by
  obtain ⟨q1, q2, q3⟩ := cc_ev (rA_B hA) (rA_M hA) hi hv hj
  exact a_Ei hA hr hv hi hj (hQ q1 q2 q3)

theorem mu_setTempo (hb : hB b B) (J : Jp b o so po (n + 100) S t) {i : Nat} {a2 : Int32} (hi : i < zN t) (hok : a2 = -1 ∨ ¬ v_in a2 30 240 = 0) (h : ∀ S', Jp b o so po n S' (msA (msI t 45 0) 3 (nI i) a2) → N (t.2 3 i) (S', r)) : lcall B (S, r) (fun B1 K => w_L_setTempo B1 o (nI i) a2 (S, r) K) N := by
  obtain ⟨hr, hr2, hA, hn, hm⟩ := mu_0 hb J
  have hB := rA_B hA
  have hM := rA_M hA
  refine ⟨(szC S + 100, nsC S + 1000), hr, hr2, rA_k hA, hA.1, a_B hA rn_1 (fun i2 hi2 ei hz => ?_) (fun hz => absurd hz (isBar_in hM hi))⟩
  · obtain rfl := nI_31 ei (by have := hM.2.1; omega) (by have := hM.2.1; omega)
    obtain ⟨b1, b2, b3, b4⟩ := cc_bar hB hM hi
    have em : v_X9_measure so (nI i) S = mrL S so i := b3
    have hn24 := hM.2.1
    refine ⟨fun S' => S' = S, ?_, fun _ => rfl, fun e => a_reqRange rn_1 (fun _ _ => rfl) (fun z => absurd z (hok.resolve_left e))⟩
    · intro S1 e1
      rw [e1, oG_so hA.2.1, em]
      refine ⟨ne_so hA.2.1, b1, ⟨b1, b2, by rw [b3]; exact b4⟩, b4, fun x8 hx8 t9 ht9 => ?_⟩
      subst ht9
      refine i_ed hA.2.1 b1 ?_
      intro _ _
      have hi31 : i < 2147483648 := by omega
      have e4 : x8 = t.2 3 i := hx8.trans (cc_told hB hM hi).1
      rw [e4]
      refine h _ (hm _ _ ?_ ?_ ?_ (Nat.le_add_right _ _) (Nat.le_add_right _ _))
      · refine rA_val hA (Eqf_usI (Eqf_usI Eqf_rfl (Or.inl (by unfold fOt fP0 fT0 fS0; decide))) (Or.inl (by unfold fOt fP0 fT0 fS0; decide))) ?_ ?_ (fun _ _ _ _ _ _ => rfl) (fun k hk => n45 rfl (by omega)) (fun k _ hk => mA_ne (by omega)) (zZ_k (rA_Z hA) (n45 rfl (by decide)) (mA_ne (by decide)) (mA_ne (by decide)) (congrFun (mA_ne (by decide)) 0))
        · refine rB_upd hB rfl rfl rfl rfl rfl rfl (n45 rfl (by decide)) (mA_ne (by decide)) (mA_ne (by decide)) (mA_ne (by decide)) ?_ ?_ ?_ ?_ ?_ ?_
          · rw [fI_ne (by decide), fI_ne (by decide)]
          · rw [fI_ne (by decide), fI_ne (by decide)]
          · rw [fI_ne (by decide), fI_ne (by decide)]
          · intro k hk
            obtain ⟨c1, c2, c3, c4, c5⟩ := rB_hb hB k hk
            rw [fI_ne (f' := 80) (by decide), fI_ne (f' := 80) (by decide), fI_ne (f' := 81) (by decide), fI_ne (f' := 81) (by decide), fI_ne (f' := 82) (by decide), fI_at, mA_ne (f' := 1) (by decide), mA_ne (f' := 2) (by decide), mA_at hi31]
            refine ⟨c1, c2, ?_, c4, c5⟩
            by_cases e : k = i
            · rw [if_pos ((e_mr hB hM hk hi).mpr e), if_pos e]
            · rw [if_neg (fun z => e ((e_mr hB hM hk hi).mp z)), if_neg e]
              exact c3
          · rw [fI_ne (f' := 178) (by decide), fI_ne (f' := 178) (by decide), mA_ne (f' := 7) (by decide)]
            exact rB_hr hB
          · rw [fI_ne (f' := 50) (by decide), fI_ne (f' := 50) (by decide), fI_ne (f' := 51) (by decide), fI_ne (f' := 51) (by decide), fI_ne (f' := 52) (by decide), fI_ne (f' := 52) (by decide), mA_ne (f' := 8) (by decide), mA_ne (f' := 11) (by decide), mA_ne (f' := 12) (by decide)]
            exact rB_he hB
        · refine zM_upd hM (n45 rfl (by decide)) (mA_ne (by decide)) (mA_ne (by decide)) (mA_ne (by decide)) ?_ ?_ ?_
          · intro k hk
            obtain ⟨c1, c2, c3⟩ := zM_hb hM k hk
            unfold zB zU
            rw [mA_ne (f' := 1) (by decide), mA_ne (f' := 2) (by decide), mA_at hi31]
            refine ⟨c1, c2, ?_⟩
            by_cases e : k = i
            · rw [if_pos e]
              by_cases e9 : a2 = -1
              · exact Or.inl e9
              · rcases hok with hok | hok
                · exact Or.inl hok
                · obtain ⟨x, x1, x2, x3⟩ := r_in (a := a2) (x := 30) (y := 240) (by decide) (by decide) (fun z => hok (r_out.mp z))
                  refine Or.inr ?_
                  rw [x3, aN_nI (by omega)]
                  exact ⟨rfl, x1, x2⟩
            · rw [if_neg e]
              exact c3
          · unfold zL zB zU
            rw [mA_ne (f' := 1) (by decide), mA_ne (f' := 2) (by decide), mA_ne (f' := 7) (by decide)]
            exact zM_hr hM
          · rw [mA_ne (f' := 8) (by decide), mA_ne (f' := 12) (by decide)]
            exact zM_he hM
      · rw [ed_at, fI_ne (by decide)]
      · exact Eqf_usI (Eqf_usI Eqf_rfl (Or.inl (by unfold fKp; decide))) (Or.inl (by unfold fKp; decide))
theorem mu_setMark (hb : hB b B) (J : Jp b o so po (n + 100) S t) {v i j : Nat} {a4 : Int32} (hv : v < 4) (hi : i < zN t) (hj : j < zE t v i) (hok : ¬ v_in a4 (-1) 5 = 0) (h : ∀ S', Jp b o so po n S' (msA (msI t 45 0) 11 (nI (zp v i j)) a4) → N (t.2 11 (zp v i j)) (S', r)) : lcall B (S, r) (fun B1 K => w_L_setMark B1 o (nI v) (nI i) (nI j) a4 (S, r) K) N := by
  obtain ⟨hr, hr2, hA, hn, hm⟩ := mu_0 hb J
  have hB := rA_B hA
  have hM := rA_M hA
  have hn24 := hM.2.1
  refine ⟨(szC S + 100, nsC S + 1000), hr, hr2, rA_k hA, a_reqRange rn_1 (fun hc _ => ⟨rA_k hA, a_Ek hA rn_1 hv hi hj (fun q1 q2 q3 => ?_)⟩) (fun hc => absurd hc hok)⟩
  · obtain ⟨k1, k2, k3, k4, k5, k6⟩ := q3
    have hz8 := z_v hM hi hv hj
    have hp := zp_lt (v := v) (i := i) (j := j) hv (by omega) (by have := (z_r hM hi hv).1; omega)
    refine ⟨k1, fun x5 hx5 t6 ht6 => ?_⟩
    subst ht6
    refine i_ed hA.2.1 hB.1 ?_
    intro _ _
    have hi31 : zp v i j < 2147483648 := by omega
    have e6 : x5 = t.2 11 (zp v i j) := hx5.trans k4
    rw [e6]
    refine h _ (hm _ _ ?_ ?_ ?_ (Nat.le_add_right _ _) (Nat.le_add_right _ _))
    · refine rA_evt hA hv hi hj (x8 := t.2 8 (zp v i j)) (x11 := a4) (x12 := t.2 12 (zp v i j)) rfl rfl rfl rfl rfl (Eqf_usI (Eqf_usI Eqf_rfl (Or.inl (by unfold fOt fP0 fT0 fS0; decide))) (Or.inl (by unfold fOt fP0 fT0 fS0; decide))) (fun f f1 f2 f3 f4 => by rw [fI_ne f4, fI_ne f3]) (fun q => ?_) (fun q => ?_) (fun q => ?_) (fun k hk => n45 rfl (by omega)) (fun k g1 g2 g3 => mA_ne g2) (fun q => ?_) (fun q => ?_) (fun q => ?_) ⟨hz8.2.2.2.1, hz8.2.2.2.2.1⟩ hz8.2.2.2.2.2.2.2
      · rw [fI_ne (f' := 50) (by decide), fI_ne (f' := 50) (by decide), if_at k2.symm]
      · rw [fI_ne (f' := 52) (by decide), fI_at]
      · rw [fI_ne (f' := 51) (by decide), fI_ne (f' := 51) (by decide), if_at k5.symm]
      · rw [mA_ne (f' := 8) (by decide)]
        exact (if_at rfl).symm
      · exact mA_at hi31
      · rw [mA_ne (f' := 12) (by decide)]
        exact (if_at rfl).symm
    · rw [ed_at, fI_ne (by decide)]
    · exact Eqf_usI (Eqf_usI Eqf_rfl (Or.inl (by unfold fKp; decide))) (Or.inl (by unfold fKp; decide))
theorem mu_setTie (hb : hB b B) (J : Jp b o so po (n + 100) S t) {v i j : Nat} {a4 : Int32} (hv : v < 4) (hi : i < zN t) (hj : j < zE t v i) (hno : ¬ t.2 8 (zp v i j) ≤ 0) (hgb : gb a4) (h : ∀ S', Jp b o so po n S' (msA (msI t 45 0) 12 (nI (zp v i j)) a4) → N (t.2 12 (zp v i j)) (S', r)) : lcall B (S, r) (fun B1 K => w_L_setTie B1 o (nI v) (nI i) (nI j) a4 (S, r) K) N := by
  obtain ⟨hr, hr2, hA, hn, hm⟩ := mu_0 hb J
  have hB := rA_B hA
  have hM := rA_M hA
  have hn24 := hM.2.1
  refine ⟨(szC S + 100, nsC S + 1000), hr, hr2, rA_k hA, rA_k hA, a_Ek hA rn_1 hv hi hj (fun q1 q2 q3 => ?_)⟩
  · obtain ⟨k1, k2, k3, k4, k5, k6⟩ := q3
    have hz8 := z_v hM hi hv hj
    have hp := zp_lt (v := v) (i := i) (j := j) hv (by omega) (by have := (z_r hM hi hv).1; omega)
    have hi31 : zp v i j < 2147483648 := by omega
    have en : v_X0_isNote (evL S so v i j) S = (if ¬ t.2 8 (zp v i j) ≤ 0 then 1 else 0) := by
      unfold v_X0_isNote
      rw [k2]
    have e8 : mgA t 8 (nI (zp v i j)) = t.2 8 (zp v i j) := Ag_A (Ag_rfl t) (by decide) hi31
    rw [en]
    refine ⟨k1, k1, fun e => ⟨rn_1, fun sz ns => ?_⟩, fun e x6 hx6 => ⟨hgb, fun t8 ht8 => ?_⟩⟩
    · exfalso
      rw [if_pos hno] at e
      exact one_ne e
    · have e9 : ¬ t.2 8 (zp v i j) ≤ 0 := fun z => by
        rw [if_neg (fun z2 => z2 z)] at e
        exact e rfl
      subst ht8
      refine i_ed hA.2.1 hB.1 ?_
      have e51 : x6 = t.2 12 (zp v i j) := hx6.trans k5
      have g6 : gb x6 := by rw [e51]; exact hz8.2.2.2.2.2.2.2
      have hfin : Jp b o so po n (usI (usI S 51 (evL S so v i j) a4) 199 so (fI (usI S 51 (evL S so v i j) a4) 199 so + 1)) (msA (msI t 45 0) 12 (nI (zp v i j)) a4) := by
        refine hm _ _ ?_ ?_ ?_ (Nat.le_add_right _ _) (Nat.le_add_right _ _)
        · refine rA_evt hA hv hi hj (x8 := t.2 8 (zp v i j)) (x11 := t.2 11 (zp v i j)) (x12 := a4) rfl rfl rfl rfl rfl (Eqf_usI (Eqf_usI Eqf_rfl (Or.inl (by unfold fOt fP0 fT0 fS0; decide))) (Or.inl (by unfold fOt fP0 fT0 fS0; decide))) (fun f f1 f2 f3 f4 => by rw [fI_ne f4, fI_ne f2]) (fun q => ?_) (fun q => ?_) (fun q => ?_) (fun k hk => n45 rfl (by omega)) (fun k g1 g2 g3 => mA_ne g3) (fun q => ?_) (fun q => ?_) (fun q => ?_) ⟨hz8.2.2.2.1, hz8.2.2.2.2.1⟩ hgb
          · rw [fI_ne (f' := 50) (by decide), fI_ne (f' := 50) (by decide), if_at k2.symm]
          · rw [fI_ne (f' := 52) (by decide), fI_ne (f' := 52) (by decide), if_at k4.symm]
          · rw [fI_ne (f' := 51) (by decide), fI_at]
          · rw [mA_ne (f' := 8) (by decide)]
            exact (if_at rfl).symm
          · rw [mA_ne (f' := 11) (by decide)]
            exact (if_at rfl).symm
          · exact mA_at hi31
        · rw [ed_at, fI_ne (by decide)]
        · exact Eqf_usI (Eqf_usI Eqf_rfl (Or.inl (by unfold fKp; decide))) (Or.inl (by unfold fKp; decide))
      rw [e51] at g6 ⊢
      exact ⟨g6, gb_01 g6 (P := fun y => szC _ ≤ _ → nsC _ ≤ _ → N y (_, r)) (fun _ _ => h _ hfin)⟩
theorem mu_setTie_rest (hb : hB b B) (J : Jp b o so po (n + 1) S t) {v i j : Nat} {a4 : Int32} (hv : v < 4) (hi : i < zN t) (hj : j < zE t v i) (hno : t.2 8 (zp v i j) ≤ 0) (h : ∀ S', Jp b o so po n S' t → N (-1000003) (S', r)) : lcall B (S, r) (fun B1 K => w_L_setTie B1 o (nI v) (nI i) (nI j) a4 (S, r) K) N := by
  obtain ⟨hr, hr2, hA, hn⟩ := mu_e hb J
  refine ⟨(szC S + 1, nsC S + 10), hr, hr2, rA_k hA, rA_k hA, a_Ek hA rm_e hv hi hj (fun q1 q2 q3 => ?_)⟩
  obtain ⟨k1, k2, k3, k4, k5, k6⟩ := q3
  have en : v_X0_isNote (evL S so v i j) S = 0 := by
    unfold v_X0_isNote
    rw [k2, if_neg (fun z => z hno)]
  rw [en]
  exact ⟨k1, k1, fun _ => ⟨rm_e, fun sz ns => Or.inr (Or.inr ⟨rfl, fun z1 z2 => h _ (hn sz ns z1 z2)⟩)⟩, fun e => absurd rfl e⟩
theorem mu_setPitch (hb : hB b B) (J : Jp b o so po (n + 100) S t) {v i j : Nat} {a4 : Int32} (hv : v < 4) (hi : i < zN t) (hj : j < zE t v i) (hok : ¬ v_in a4 0 127 = 0) (hwr : ¬ v_isWritten (nI v) a4 (t.2 13 v) = 0) (h : ∀ S', Jp b o so po n S' (msA (msA (msI t 45 0) 8 (nI (zp v i j)) a4) 12 (nI (zp v i j)) (if ¬ t.2 12 (zp v i j) = 0 ∧ ¬ a4 ≤ 0 then 1 else 0)) → N (t.2 8 (zp v i j)) (S', r)) : lcall B (S, r) (fun B1 K => w_L_setPitch B1 o (nI v) (nI i) (nI j) a4 (S, r) K) N := by
  obtain ⟨hr, hr2, hA, hn, hm⟩ := mu_0 hb J
  have hB := rA_B hA
  have hM := rA_M hA
  have hn24 := hM.2.1
  refine ⟨(szC S + 100, nsC S + 1000), hr, hr2, rA_k hA, a_reqRange rn_1 (fun hc hc2 => ⟨rA_k hA, a_Ek hA rn_1 hv hi hj (fun q1 q2 q3 => ?_)⟩) (fun hc => absurd hc hok)⟩
  · obtain ⟨k1, k2, k3, k4, k5, k6⟩ := q3
    have hz8 := z_v hM hi hv hj
    have hp := zp_lt (v := v) (i := i) (j := j) hv (by omega) (by have := (z_r hM hi hv).1; omega)
    have hi31 : zp v i j < 2147483648 := by omega
    obtain ⟨w1, w2⟩ := wr_c hA hv (a := a4) (x := nI v)
    have e13 : mgA t 13 (nI v) = t.2 13 v := Ag_A (Ag_rfl t) (by decide) (by omega)
    obtain ⟨x, x1, x2, x3⟩ := r_in (a := a4) (x := 0) (y := 127) (by decide) (by decide) hc2
    rw [oG_so hA.2.1, w2]
    refine ⟨ne_so hA.2.1, hB.1, w1, fun e => absurd e hwr, fun e => ⟨k1, fun x9 hx9 t10 ht10 => ?_⟩⟩
    · subst ht10
      have e51 : fI (usI S 50 (evL S so v i j) a4) 51 (evL S so v i j) = t.2 12 (zp v i j) := by
        rw [fI_ne (by decide)]
        exact k5
      have e50 : v_X0_isNote (evL S so v i j) (usI S 50 (evL S so v i j) a4) = (if ¬ a4 ≤ 0 then 1 else 0) := by
        unfold v_X0_isNote
        rw [fI_at, if_pos rfl]
      rw [e51, e50]
      refine ⟨fun _ => k1, fun x11 hx11 => ?_⟩
      have g11 : gb x11 := by
        rw [hx11]
        exact gb_if
      have e11 : x11 = if ¬ t.2 12 (zp v i j) = 0 ∧ ¬ a4 ≤ 0 then 1 else 0 := by
        have h0 : (if ¬ a4 ≤ 0 then (1 : Int32) else 0) = 0 ↔ a4 ≤ 0 := by
          by_cases e9 : a4 ≤ 0
          · rw [if_neg (fun z => z e9)]
            exact ⟨fun _ => e9, fun _ => rfl⟩
          · rw [if_pos e9]
            exact ⟨fun z => absurd z one_ne, fun z => absurd z e9⟩
        rw [hx11]
        by_cases e8 : ¬ t.2 12 (zp v i j) = 0 ∧ ¬ a4 ≤ 0
        · rw [if_pos e8, if_pos ⟨e8.1, fun z => e8.2 (h0.mp z)⟩]
        · rw [if_neg e8, if_neg (fun z => e8 ⟨z.1, fun z9 => z.2 (h0.mpr z9)⟩)]
      refine ⟨g11, fun t14 ht14 => ?_⟩
      subst ht14
      refine i_ed hA.2.1 hB.1 ?_
      intro _ _
      have e9 : x9 = t.2 8 (zp v i j) := hx9.trans k2
      rw [e9]
      rw [e11] at g11
      subst e11
      refine h _ (hm _ _ ?_ ?_ ?_ (Nat.le_add_right _ _) (Nat.le_add_right _ _))
      · refine rA_evt hA hv hi hj (x8 := a4) (x11 := t.2 11 (zp v i j)) (x12 := if ¬ t.2 12 (zp v i j) = 0 ∧ ¬ a4 ≤ 0 then 1 else 0) rfl rfl rfl rfl rfl (Eqf_usI (Eqf_usI (Eqf_usI Eqf_rfl (Or.inl (by unfold fOt fP0 fT0 fS0; decide))) (Or.inl (by unfold fOt fP0 fT0 fS0; decide))) (Or.inl (by unfold fOt fP0 fT0 fS0; decide))) (fun f f1 f2 f3 f4 => by rw [fI_ne f4, fI_ne f2, fI_ne f1]) (fun q => ?_) (fun q => ?_) (fun q => ?_) (fun k hk => n45 rfl (by omega)) (fun k g1 g2 g3 => by rw [mA_ne g3, mA_ne g1]; rfl) (fun q => ?_) (fun q => ?_) (fun q => ?_) ?_ g11
        · rw [fI_ne (f' := 50) (by decide), fI_ne (f' := 50) (by decide), fI_at]
        · rw [fI_ne (f' := 52) (by decide), fI_ne (f' := 52) (by decide), fI_ne (f' := 52) (by decide), if_at k4.symm]
        · rw [fI_ne (f' := 51) (by decide), fI_at, fI_ne (f' := 51) (by decide)]
        · rw [mA_ne (f' := 8) (by decide), mA_at hi31]
          rfl
        · rw [mA_ne (f' := 11) (by decide), mA_ne (f' := 11) (by decide)]
          exact (if_at rfl).symm
        · rw [mA_at hi31, mA_ne (f' := 12) (by decide)]
          rfl
        · rw [x3, aN_nI (by omega)]
          exact ⟨rfl, x2⟩
      · rw [ed_at, fI_ne (by decide), fI_ne (by decide)]
      · exact Eqf_usI (Eqf_usI (Eqf_usI Eqf_rfl (Or.inl (by unfold fKp; decide))) (Or.inl (by unfold fKp; decide))) (Or.inl (by unfold fKp; decide))
theorem mu_allowTurn (hb : hB b B) (J : Jp b o so po (n + 100) S t) {v i : Nat} {a3 : Int32} (hv : v < 4) (hi : i < zN t) (hgb : gb a3) (h : ∀ S', Jp b o so po n S' (msA (msI t 45 0) 7 (nI (24 * v + i)) a3) → N (t.2 7 (24 * v + i)) (S', r)) : lcall B (S, r) (fun B1 K => w_L_allowTurn B1 o (nI v) (nI i) a3 (S, r) K) N := by
  obtain ⟨hr, hr2, hA, hn, hm⟩ := mu_0 hb J
  have hB := rA_B hA
  have hM := rA_M hA
  have hn24 := hM.2.1
  refine ⟨(szC S + 100, nsC S + 1000), hr, hr2, rA_k hA, a_VB hA rn_1 (fun v2 i2 hv2 hi2 ev ei hz hz2 => ?_) (fun z => absurd z (isV_in hv)) (fun _ z => absurd z (isBar_in hM hi))⟩
  · obtain ⟨r1, r2, r3⟩ := cc_rw hB hM hi hv
    have hq : 24 * v + i < 2147483648 := by omega
    have e178 : fI S 178 (rwL S so v i) = t.2 7 (24 * v + i) := (rB_hr hB v i hv (by rw [cc_n hB hM]; exact hi)).1
    have g7 : gb (t.2 7 (24 * v + i)) := (z_r hM hi hv).2.2.1
    rw [oG_so hA.2.1, r2]
    refine ⟨ne_so hA.2.1, hB.1, r1, r3, fun x8 hx8 => ⟨hgb, fun t10 ht10 => ?_⟩⟩
    subst ht10
    refine i_ed hA.2.1 hB.1 ?_
    have g8 : gb x8 := by rw [hx8, e178]; exact g7
    have hfin : Jp b o so po n (usI (usI S 178 (rwL S so v i) a3) 199 so (fI (usI S 178 (rwL S so v i) a3) 199 so + 1)) (msA (msI t 45 0) 7 (nI (24 * v + i)) a3) := by
      refine hm _ _ ?_ ?_ ?_ (Nat.le_add_right _ _) (Nat.le_add_right _ _)
      · refine rA_val hA (Eqf_usI (Eqf_usI Eqf_rfl (Or.inl (by unfold fOt fP0 fT0 fS0; decide))) (Or.inl (by unfold fOt fP0 fT0 fS0; decide))) ?_ ?_ (fun _ _ _ _ _ _ => rfl) (fun k hk => n45 rfl (by omega)) (fun k _ hk => mA_ne (by omega)) ?_
        · refine rB_upd hB rfl rfl rfl rfl rfl rfl (n45 rfl (by decide)) (mA_ne (by decide)) (mA_ne (by decide)) (mA_ne (by decide)) ?_ ?_ ?_ ?_ ?_ ?_
          · rw [fI_ne (by decide), fI_ne (by decide)]
          · rw [fI_ne (by decide), fI_ne (by decide)]
          · rw [fI_ne (by decide), fI_ne (by decide)]
          · rw [fI_ne (f' := 80) (by decide), fI_ne (f' := 80) (by decide), fI_ne (f' := 81) (by decide), fI_ne (f' := 81) (by decide), fI_ne (f' := 82) (by decide), fI_ne (f' := 82) (by decide), mA_ne (f' := 1) (by decide), mA_ne (f' := 2) (by decide), mA_ne (f' := 3) (by decide)]
            exact rB_hb hB
          · intro v2 i2 hv2 hi2
            obtain ⟨c1, c2⟩ := rB_hr hB v2 i2 hv2 hi2
            rw [fI_ne (f' := 178) (by decide), fI_at, mA_at hq]
            by_cases e : 24 * v2 + i2 = 24 * v + i
            · rw [if_pos ((e_rw hB hM hv2 hv hi2 hi).mpr e), if_pos e]
              exact ⟨rfl, hgb⟩
            · rw [if_neg (fun z => e ((e_rw hB hM hv2 hv hi2 hi).mp z)), if_neg e]
              exact ⟨c1, c2⟩
          · rw [fI_ne (f' := 50) (by decide), fI_ne (f' := 50) (by decide), fI_ne (f' := 51) (by decide), fI_ne (f' := 51) (by decide), fI_ne (f' := 52) (by decide), fI_ne (f' := 52) (by decide), mA_ne (f' := 8) (by decide), mA_ne (f' := 11) (by decide), mA_ne (f' := 12) (by decide)]
            exact rB_he hB
        · refine zM_upd hM (n45 rfl (by decide)) (mA_ne (by decide)) (mA_ne (by decide)) (mA_ne (by decide)) ?_ ?_ ?_
          · unfold zB zU
            rw [mA_ne (f' := 1) (by decide), mA_ne (f' := 2) (by decide), mA_ne (f' := 3) (by decide)]
            exact zM_hb hM
          · intro v2 i2 hv2 hi2
            unfold zL zB zU
            rw [mA_ne (f' := 1) (by decide), mA_ne (f' := 2) (by decide), mA_at hq]
            obtain ⟨c1, c2⟩ := zM_hr hM v2 i2 hv2 hi2
            refine ⟨?_, c2⟩
            by_cases e : 24 * v2 + i2 = 24 * v + i
            · rw [if_pos e]; exact hgb
            · rw [if_neg e]; exact c1
          · rw [mA_ne (f' := 8) (by decide), mA_ne (f' := 12) (by decide)]
            exact zM_he hM
        · obtain ⟨c0, c1⟩ := rA_Z hA
          refine ⟨c0, fun v2 i2 hv2 hi2 hi3 => ?_⟩
          have hi4 : zN t ≤ i2 := hi2
          obtain ⟨c2, c3⟩ := c1 v2 i2 hv2 hi4 hi3
          rw [mA_ne (f' := 6) (by decide), mA_at hq, if_neg (by omega)]
          exact ⟨c2, c3⟩
      · rw [ed_at, fI_ne (by decide)]
      · exact Eqf_usI (Eqf_usI Eqf_rfl (Or.inl (by unfold fKp; decide))) (Or.inl (by unfold fKp; decide))
    rw [e178] at hx8
    rw [hx8]
    exact ⟨g7, gb_01 g7 (P := fun y => szC _ ≤ _ → nsC _ ≤ _ → N y (_, r)) (fun _ _ => h _ hfin)⟩
theorem mu_transpose (hb : hB b B) (J : Jp b o so po (n + 100) S t) {v : Nat} {a2 : Int32} (hv : v < 4) (hok : ¬ v_in a2 (-12) 12 = 0) (hTr : zTr t v a2) (h : ∀ S', Jp b o so po n S' (msA (msI t 45 0) 13 (nI v) a2) → N (t.2 13 v) (S', r)) : lcall B (S, r) (fun B1 K => w_L_transpose B1 o (nI v) a2 (S, r) K) N := by
  obtain ⟨hr, hr2, hA, hn, hm⟩ := mu_0 hb J
  have hB := rA_B hA
  have hM := rA_M hA
  refine ⟨(szC S + 100, nsC S + 1000), hr, hr2, rA_k hA, a_reqVoice rn_1 (fun v2 hv2 ev hz => a_reqRange rn_1 (fun hc hc2 => ⟨rA_k hA, ne_so hA.2.1, by rw [oG_so hA.2.1]; exact hB.1, ?_⟩) (fun hc => absurd hc hok)) (fun z => absurd z (isV_in hv))⟩
  · rw [oG_so hA.2.1]
    refine cc_trans hB hM hv (fun hT => ⟨fun h9 => absurd h9 one_ne, fun _ => ?_⟩) (fun hT => absurd hTr hT)
    · rw [oG_so hA.2.1]
      refine ⟨ne_so hA.2.1, hB.1, vp_nI (n := 4) hv (by decide), fun x11 hx11 => ⟨vp_nI (n := 4) hv (by decide), fun t13 ht13 => ?_⟩⟩
      subst ht13
      refine i_ed hA.2.1 hB.1 ?_
      intro _ _
      have ec : (nI v).toNatClampNeg = v := nI_clamp (by omega)
      have e11 : x11 = t.2 13 v := by
        rw [hx11, ec]
        exact (rA_S hA).1 v hv
      have hs : kdC S so ≠ 0 := by rw [hB.1]; decide
      rw [e11]
      refine h _ (hm _ _ ?_ ?_ ?_ (Nat.le_add_right _ _) (Nat.le_add_right _ _))
      · have gB : ∀ P : Nat → Prop, ¬ P 195 → ¬ P 199 → Eqf P S (usI (usA S 195 so (nI v) a2) 199 so (fI (usA S 195 so (nI v) a2) 199 so + 1)) := fun P h1 h2 => Eqf_usI (Eqf_usA Eqf_rfl (Or.inl h1)) (Or.inl h2)
        refine rA_oth hA (gB _ (by unfold fB0; decide) (by unfold fB0; decide)) (gB _ (by decide) (by decide)) (n45 rfl (by decide)) (fun k hk => mA_ne (by omega)) (congrFun (mA_ne (by decide)) 0) ?_ ?_ ?_
        · exact rP_c hs (rA_P hA) (gB _ (by unfold fP0; decide) (by unfold fP0; decide)) (fun _ _ _ _ _ _ => rfl) (n45 rfl (by decide)) (mA_ne (by decide)) (n45 rfl (by decide)) (mA_ne (by decide)) (mA_ne (by decide)) (mA_ne (by decide)) (mA_ne (by decide)) (mA_ne (by decide)) (mA_ne (by decide))
        · exact rT_c hs (rA_T hA) (gB _ (by unfold fT0; decide) (by unfold fT0; decide)) (n45 rfl (by decide)) (mA_ne (by decide)) (mA_ne (by decide))
        · obtain ⟨s1, s2, s3, s4, s5⟩ := rA_S hA
          refine ⟨fun v2 hv2 => ?_, ?_, ?_, ?_, ?_⟩
          · rw [mA_at (by omega)]
            show (up2 (fA S) 195 so (va_up (fA S 195 so) (nI v).toNatClampNeg a2)) 195 so v2 = _
            rw [up2_is, ec, va_up_at, s1 v2 hv2]
            rfl
          · rw [fI_ne (f' := 196) (by decide)]
            exact s2.trans (Eq.symm (n45 rfl (by decide)))
          · rw [fI_ne (f' := 197) (by decide)]
            exact s3.trans (Eq.symm (n45 rfl (by decide)))
          · rw [fI_ne (f' := 198) (by decide)]
            exact s4.trans (Eq.symm (n45 rfl (by decide)))
          · unfold zMs at s5 ⊢
            rw [show (msA (msI t 45 0) 13 (nI v) a2).1 21 = t.1 21 from n45 rfl (by decide), show (msA (msI t 45 0) 13 (nI v) a2).1 22 = t.1 22 from n45 rfl (by decide), show (msA (msI t 45 0) 13 (nI v) a2).1 23 = t.1 23 from n45 rfl (by decide)]
            exact s5
      · rw [ed_at]
        rfl
      · exact Eqf_usI (Eqf_usA Eqf_rfl (Or.inl (by unfold fKp; decide))) (Or.inl (by unfold fKp; decide))
theorem mu_setPaper (hb : hB b B) (J : Jp b o so po (n + 100) S t) {a1 a2 a3 : Int32} (k1 : ¬ v_in a1 40 400 = 0) (k2 : ¬ v_in a2 1 6 = 0) (k3 : ¬ v_in a3 0 20000 = 0) (h : ∀ S', Jp b o so po n S' (msI (msI (msI (msI t 45 0) 21 a1) 22 a2) 23 a3) → N 0 (S', r)) : lcall B (S, r) (fun B1 K => w_L_setPaper B1 o a1 a2 a3 (S, r) K) N := by
  obtain ⟨hr, hr2, hA, hn, hm⟩ := mu_0 hb J
  have hB := rA_B hA
  refine ⟨(szC S + 100, nsC S + 1000), hr, hr2, rA_k hA, a_reqRange rn_1 (fun hc1 hd1 => a_reqRange rn_1 (fun hc2 hd2 => a_reqRange rn_1 (fun hc3 hd3 => ?_) (fun hc => absurd hc k3)) (fun hc => absurd hc k2)) (fun hc => absurd hc k1)⟩
  obtain ⟨x, x1, x2, x3⟩ := r_in (a := a1) (x := 40) (y := 400) (by decide) (by decide) hd1
  obtain ⟨y, y1, y2, y3⟩ := r_in (a := a2) (x := 1) (y := 6) (by decide) (by decide) hd2
  obtain ⟨u, u1, u2, u3⟩ := r_in (a := a3) (x := 0) (y := 20000) (by decide) (by decide) hd3
  rw [oG_so hA.2.1]
  refine ⟨hA.1, ne_so hA.2.1, hB.1, fun t7 ht7 => ?_⟩
  subst ht7
  have f1 : fR (usI S 196 so a1) 224 o = some so := hA.2.1
  rw [oG_so f1]
  refine ⟨ne_so f1, hB.1, fun t10 ht10 => ?_⟩
  subst ht10
  have f2 : fR (usI (usI S 196 so a1) 197 so a2) 224 o = some so := hA.2.1
  rw [oG_so f2]
  refine ⟨ne_so f2, hB.1, fun t13 ht13 => ?_⟩
  subst ht13
  refine i_ed hA.2.1 hB.1 ?_
  intro _ _
  have hs : kdC S so ≠ 0 := by rw [hB.1]; decide
  refine h _ (hm _ _ ?_ ?_ ?_ (Nat.le_add_right _ _) (Nat.le_add_right _ _))
  · have gB : ∀ P : Nat → Prop, ¬ P 196 → ¬ P 197 → ¬ P 198 → ¬ P 199 → Eqf P S (usI (usI (usI (usI S 196 so a1) 197 so a2) 198 so a3) 199 so (fI (usI (usI (usI S 196 so a1) 197 so a2) 198 so a3) 199 so + 1)) := fun P h1 h2 h3 h4 => Eqf_usI (Eqf_usI (Eqf_usI (Eqf_usI Eqf_rfl (Or.inl h1)) (Or.inl h2)) (Or.inl h3)) (Or.inl h4)
    have m0 : ∀ k, k ≠ 45 → k ≠ 21 → k ≠ 22 → k ≠ 23 → (msI (msI (msI (msI t 45 0) 21 a1) 22 a2) 23 a3).1 k = t.1 k := fun k h1 h2 h3 h4 => by rw [mI_ne h4, mI_ne h3, mI_ne h2, mI_ne h1]
    refine rA_oth hA (gB _ (by unfold fB0; decide) (by unfold fB0; decide) (by unfold fB0; decide) (by unfold fB0; decide)) (gB _ (by decide) (by decide) (by decide) (by decide)) (m0 0 (by decide) (by decide) (by decide) (by decide)) (fun _ _ => rfl) rfl ?_ ?_ ?_
    · exact rP_c hs (rA_P hA) (gB _ (by unfold fP0; decide) (by unfold fP0; decide) (by unfold fP0; decide) (by unfold fP0; decide)) (fun _ _ _ _ _ _ => rfl) (m0 0 (by decide) (by decide) (by decide) (by decide)) rfl (m0 14 (by decide) (by decide) (by decide) (by decide)) rfl rfl rfl rfl rfl rfl
    · exact rT_c hs (rA_T hA) (gB _ (by unfold fT0; decide) (by unfold fT0; decide) (by unfold fT0; decide) (by unfold fT0; decide)) (m0 0 (by decide) (by decide) (by decide) (by decide)) rfl rfl
    · obtain ⟨s1, -, -, -, -⟩ := rA_S hA
      refine ⟨s1, ?_, ?_, ?_, ⟨x, x1, x2, ?_⟩, ⟨y, y1, y2, ?_⟩, ⟨u, u2, ?_⟩⟩
      · rw [fI_ne (f' := 196) (by decide), fI_ne (f' := 196) (by decide), fI_ne (f' := 196) (by decide), fI_at, if_pos rfl, mI_ne (by decide), mI_ne (by decide), mI_at]
      · rw [fI_ne (f' := 197) (by decide), fI_ne (f' := 197) (by decide), fI_at, if_pos rfl, mI_ne (by decide), mI_at]
      · rw [fI_ne (f' := 198) (by decide), fI_at, if_pos rfl, mI_at]
      · rw [mI_ne (by decide), mI_ne (by decide), mI_at]
        exact x3
      · rw [mI_ne (by decide), mI_at]
        exact y3
      · rw [mI_at]
        exact u3
  · rw [ed_at, fI_ne (by decide), fI_ne (by decide), fI_ne (by decide)]
  · exact Eqf_usI (Eqf_usI (Eqf_usI (Eqf_usI Eqf_rfl (Or.inl (by unfold fKp; decide))) (Or.inl (by unfold fKp; decide))) (Or.inl (by unfold fKp; decide))) (Or.inl (by unfold fKp; decide))
theorem mu_dropPhrase (hb : hB b B) (J : Jp b o so po (n + 100) S t) {k : Nat} (hk : k < aN (t.1 14)) (h : ∀ S', Jp b o so po n S' (msA (msI t 45 0) 20 (nI k) 1) → N (if t.2 20 k = 0 then 1 else 0) (S', r)) : lcall B (S, r) (fun B1 K => w_L_dropPhrase B1 o (nI k) (S, r) K) N := by
  obtain ⟨hr, hr2, hA, hn, hm⟩ := mu_0 hb J
  have hB := rA_B hA
  have hM := rA_M hA
  have hP := rA_P hA
  have h20 := hP.1
  have e14 : aN (t.1 14) = npS S so := by rw [hP.2.1, aN_nI (by omega)]
  rw [e14] at hk
  refine ⟨(szC S + 100, nsC S + 1000), hr, hr2, rA_k hA, rA_k hA, ne_so hA.2.1, by rw [oG_so hA.2.1]; exact hB.1, ?_⟩
  rw [oG_so hA.2.1]
  refine i_reqIdx rn_1 (fun hc => ?_) (fun hc => ?_)
  · have hk0 := hk
    obtain ⟨q1, q2, q3⟩ := cc_ph hP hk
    obtain ⟨k1, k2, k3, k4, k5, k6, k7, k8, k9⟩ := q3
    have hk31 : k < 2147483648 := by omega
    rw [oG_so hA.2.1, q2]
    refine ⟨ne_so hA.2.1, hB.1, q1, k1, fun x9 hx9 t10 ht10 => ?_⟩
    subst ht10
    refine i_ed hA.2.1 hB.1 ?_
    rw [k5] at hx9
    have g9 : gb x9 := by rw [hx9]; exact gb_if
    have hs : kdC S so ≠ 0 := by rw [hB.1]; decide
    have hfin : Jp b o so po n (usI (usI S 133 (phL S so k) 1) 199 so (fI (usI S 133 (phL S so k) 1) 199 so + 1)) (msA (msI t 45 0) 20 (nI k) 1) := by
      refine hm _ _ ?_ ?_ ?_ (Nat.le_add_right _ _) (Nat.le_add_right _ _)
      · have gB : ∀ P : Nat → Prop, ¬ P 133 → ¬ P 199 → Eqf P S (usI (usI S 133 (phL S so k) 1) 199 so (fI (usI S 133 (phL S so k) 1) 199 so + 1)) := fun P h1 h2 => Eqf_usI (Eqf_usI Eqf_rfl (Or.inl h1)) (Or.inl h2)
        refine rA_oth hA (gB _ (by unfold fB0; decide) (by unfold fB0; decide)) (gB _ (by decide) (by decide)) (n45 rfl (by decide)) (fun k hk => mA_ne (by omega)) (congrFun (mA_ne (by decide)) 0) ?_ ?_ ?_
        · obtain ⟨p1, p2, p3, p4, p5, p6⟩ := hP
          refine ⟨p1, (show (msI t 45 0).1 14 = t.1 14 from n45 rfl (by decide)).trans p2, p3, fun k2 hk2 => ?_, p5, fun k2 hk2 hk3 => ?_⟩
          · obtain ⟨c1, c2, c3, c4, c5, c6, c7, c8, c9⟩ := p4 k2 hk2
            have e133 : fI (usI (usI S 133 (phL S so k) 1) 199 so (fI (usI S 133 (phL S so k) 1) 199 so + 1)) 133 (phL S so k2) = if k2 = k then 1 else t.2 20 k2 := by
              rw [fI_ne (f' := 133) (by decide), fI_at]
              by_cases e : k2 = k
              · rw [if_pos (by rw [e]), if_pos e]
              · rw [if_neg (fun z => e (p5 k2 k hk2 hk z)), if_neg e]
                exact c5
            have e20 : (msA (msI t 45 0) 20 (nI k) 1).2 20 k2 = if k2 = k then 1 else t.2 20 k2 := mA_at hk31
            refine ⟨c1, ?_, ?_, ?_, e133.trans e20.symm, ?_, c7, c8, fun z => ?_⟩
            · rw [mA_ne (f' := 15) (by decide)]
              exact c2
            · rw [mA_ne (f' := 16) (by decide)]
              exact c3
            · rw [mA_ne (f' := 18) (by decide)]
              exact c4
            · rw [e20]
              by_cases e : k2 = k
              · rw [if_pos e]; exact Or.inr rfl
              · rw [if_neg e]; exact c6
            · rw [e20] at z
              have ne : ¬ k2 = k := fun e => by
                rw [if_pos e] at z
                exact one_ne z
              rw [if_neg ne] at z
              have c10 := c9 z
              unfold rPe at c10 ⊢
              rw [mA_ne (f' := 15) (by decide), mA_ne (f' := 16) (by decide), mA_ne (f' := 17) (by decide), mA_ne (f' := 18) (by decide), mA_ne (f' := 19) (by decide)]
              exact c10
          · have e20 : (msA (msI t 45 0) 20 (nI k) 1).2 20 k2 = if k2 = k then 1 else t.2 20 k2 := mA_at hk31
            rw [e20, if_neg (fun z => by subst z; exact absurd hk (Nat.not_lt.mpr hk2))]
            exact p6 k2 hk2 hk3
        · exact rT_c hs (rA_T hA) (gB _ (by unfold fT0; decide) (by unfold fT0; decide)) (n45 rfl (by decide)) (mA_ne (by decide)) (mA_ne (by decide))
        · exact rS_c hs (rA_S hA) (gB _ (by unfold fS0; decide) (by unfold fS0; decide)) (mA_ne (by decide)) (n45 rfl (by decide)) (n45 rfl (by decide)) (n45 rfl (by decide))
      · rw [ed_at, fI_ne (by decide)]
      · exact Eqf_usI (Eqf_usI Eqf_rfl (Or.inl (by unfold fKp; decide))) (Or.inl (by unfold fKp; decide))
    rw [hx9] at g9 ⊢
    exact ⟨g9, gb_01 g9 (P := fun y => szC _ ≤ _ → nsC _ ≤ _ → N y (_, r)) (fun _ _ => h _ hfin)⟩
  · exfalso
    rcases hc with hc | hc
    · exact nI_pos (by omega) hc
    · exact hc (nI_lt (b := npS S so) hk (by omega))
theorem metre_in {c u : Nat} (h1 : 1 ≤ c) (h2 : c ≤ 9) (hu : u = 2 ∨ u = 4 ∨ u = 8) : ¬ v_isMetre (nI c) (nI u) = 0 := by
  refine metre_ok.mpr ⟨fun z => ?_, ?_⟩
  · rcases r_out.mpr z with z | z
    · exact nI_nlt (a := c) (b := 1) h1 (by omega) z
    · exact z (nI_le (a := c) (b := 9) h2 (by decide))
  · rcases hu with hu | hu | hu <;> rw [hu]
    · exact Or.inl rfl
    · exact Or.inr (Or.inl rfl)
    · exact Or.inr (Or.inr rfl)
theorem mu_setMetre (hb : hB b B) (J : Jp b o so po (n + 100) S t) {i c u : Nat} (hi : i < zN t) (c1 : 1 ≤ c) (c2 : c ≤ 9) (hu : u = 2 ∨ u = 4 ∨ u = 8) (hfit : zMx t i 4 ≤ 96 * c / u) (h : ∀ S', Jp b o so po n S' (msA (msA (msI t 45 0) 1 (nI i) (nI c)) 2 (nI i) (nI u)) → N (nI (zL t i)) (S', r)) : lcall B (S, r) (fun B1 K => w_L_setMetre B1 o (nI i) (nI c) (nI u) (S, r) K) N := by
  obtain ⟨hr, hr2, hA, hn, hm⟩ := mu_0 hb J
  have hB := rA_B hA
  have hM := rA_M hA
  have hn24 := hM.2.1
  refine ⟨(szC S + 100, nsC S + 1000), hr, hr2, rA_k hA, hA.1, a_B hA rn_1 (fun i2 hi2 ei hz => a_reqMetre rn_1 (fun c3 u3 c13 c23 hu3 ec eu hmt => ?_) (fun hc => absurd hc (metre_in c1 c2 hu))) (fun hz => absurd hz (isBar_in hM hi))⟩
  · obtain ⟨b1, b2, b3, b4⟩ := cc_bar hB hM hi
    obtain ⟨l1, l2⟩ := cc_len hB hM hi
    have em : v_X9_measure so (nI i) S = mrL S so i := b3
    have hi31 : i < 2147483648 := by omega
    have hu0 : 0 < u ∧ u ≤ 8 := by omega
    have hq : 96 * c / u ≤ 432 := by rcases hu with hu | hu | hu <;> rw [hu] <;> omega
    have etk : v_X2_ticksOf (nI c) (nI u) = nI (96 * c / u) := by
      unfold v_X2_ticksOf
      rw [if_neg (nI_nle hu0.1 (by omega)), len_nI c2 hu]
    have hmx : zMx t i 4 ≤ zL t i := (zMx_le 4).mpr (fun v hv => z_sL hM hi (by omega) (Nat.le_refl _))
    have hL := z_len hM hi
    rw [oG_so hA.2.1, em, etk]
    refine ⟨ne_so hA.2.1, b1, ⟨b1, b2, by rw [b3]; exact b4⟩, b4, cc_most hB hM hi ⟨fun _ => nI_ne0 hu0.1 (by omega), fun e => ?_, fun e => absurd ((nI_leI (by omega) (by omega)).mpr hfit) e⟩⟩
    · have e9 : zMx t i 4 ≤ 96 * c / u := (nI_leI (by omega) (by omega)).mp e
      rw [l2]
      refine ⟨l1, fun x11 hx11 t12 ht12 t13 ht13 => ?_⟩
      subst ht12
      subst ht13
      refine i_ed hA.2.1 b1 ?_
      intro _ _
      rw [hx11]
      refine h _ (hm _ _ ?_ ?_ ?_ (Nat.le_add_right _ _) (Nat.le_add_right _ _))
      · refine rA_val hA (Eqf_usI (Eqf_usI (Eqf_usI Eqf_rfl (Or.inl (by unfold fOt fP0 fT0 fS0; decide))) (Or.inl (by unfold fOt fP0 fT0 fS0; decide))) (Or.inl (by unfold fOt fP0 fT0 fS0; decide))) ?_ ?_ (fun _ _ _ _ _ _ => rfl) (fun k hk => n45 rfl (by omega)) (fun k _ hk => by rw [mA_ne (by omega), mA_ne (by omega)]; rfl) (zZ_k (rA_Z hA) (n45 rfl (by decide)) (by rw [mA_ne (by decide), mA_ne (by decide)]; rfl) (by rw [mA_ne (by decide), mA_ne (by decide)]; rfl) (by rw [mA_ne (by decide), mA_ne (by decide)]; rfl))
        · refine rB_upd hB rfl rfl rfl rfl rfl rfl (n45 rfl (by decide)) (by rw [mA_ne (by decide), mA_ne (by decide)]; rfl) (by rw [mA_ne (by decide), mA_ne (by decide)]; rfl) (by rw [mA_ne (by decide), mA_ne (by decide)]; rfl) ?_ ?_ ?_ ?_ ?_ ?_
          · rw [fI_ne (by decide), fI_ne (by decide), fI_ne (by decide)]
          · rw [fI_ne (by decide), fI_ne (by decide), fI_ne (by decide)]
          · rw [fI_ne (by decide), fI_ne (by decide), fI_ne (by decide)]
          · intro k hk
            obtain ⟨d1, d2, d3, d4, d5⟩ := rB_hb hB k hk
            rw [fI_ne (f' := 80) (by decide), fI_ne (f' := 80) (by decide), fI_at, fI_ne (f' := 81) (by decide), fI_at, fI_ne (f' := 81) (by decide), fI_ne (f' := 82) (by decide), fI_ne (f' := 82) (by decide), fI_ne (f' := 82) (by decide), mA_ne (f' := 1) (by decide), mA_at hi31, mA_at hi31, mA_ne (f' := 2) (by decide), mA_ne (f' := 3) (by decide), mA_ne (f' := 3) (by decide)]
            by_cases e8 : k = i
            · rw [if_pos ((e_mr hB hM hk hi).mpr e8), if_pos e8, if_pos ((e_mr hB hM hk hi).mpr e8), if_pos e8]
              refine ⟨rfl, rfl, d3, ⟨c, c1, c2, rfl⟩, ?_⟩
              rcases hu with hu | hu | hu <;> rw [hu]
              · exact Or.inl rfl
              · exact Or.inr (Or.inl rfl)
              · exact Or.inr (Or.inr rfl)
            · rw [if_neg (fun z => e8 ((e_mr hB hM hk hi).mp z)), if_neg e8, if_neg (fun z => e8 ((e_mr hB hM hk hi).mp z)), if_neg e8]
              exact ⟨d1, d2, d3, d4, d5⟩
          · rw [fI_ne (f' := 178) (by decide), fI_ne (f' := 178) (by decide), fI_ne (f' := 178) (by decide), mA_ne (f' := 7) (by decide), mA_ne (f' := 7) (by decide)]
            exact rB_hr hB
          · rw [fI_ne (f' := 50) (by decide), fI_ne (f' := 50) (by decide), fI_ne (f' := 50) (by decide), fI_ne (f' := 51) (by decide), fI_ne (f' := 51) (by decide), fI_ne (f' := 51) (by decide), fI_ne (f' := 52) (by decide), fI_ne (f' := 52) (by decide), fI_ne (f' := 52) (by decide), mA_ne (f' := 8) (by decide), mA_ne (f' := 8) (by decide), mA_ne (f' := 11) (by decide), mA_ne (f' := 11) (by decide), mA_ne (f' := 12) (by decide), mA_ne (f' := 12) (by decide)]
            exact rB_he hB
        · have eB : ∀ k, zB (msA (msA (msI t 45 0) 1 (nI i) (nI c)) 2 (nI i) (nI u)) k = if k = i then c else zB t k := fun k => by
            unfold zB
            rw [mA_ne (f' := 1) (by decide), mA_at hi31]
            by_cases e8 : k = i
            · rw [if_pos e8, if_pos e8, aN_nI (by omega)]
            · rw [if_neg e8, if_neg e8]
              rfl
          have eU : ∀ k, zU (msA (msA (msI t 45 0) 1 (nI i) (nI c)) 2 (nI i) (nI u)) k = if k = i then u else zU t k := fun k => by
            unfold zU
            rw [mA_at hi31, mA_ne (f' := 2) (by decide)]
            by_cases e8 : k = i
            · rw [if_pos e8, if_pos e8, aN_nI (by omega)]
            · rw [if_neg e8, if_neg e8]
              rfl
          refine zM_upd hM (n45 rfl (by decide)) (by rw [mA_ne (by decide), mA_ne (by decide)]; rfl) (by rw [mA_ne (by decide), mA_ne (by decide)]; rfl) (by rw [mA_ne (by decide), mA_ne (by decide)]; rfl) ?_ ?_ ?_
          · intro k hk
            obtain ⟨d1, d2, d3⟩ := zM_hb hM k hk
            rw [eB, eU, mA_ne (f' := 1) (by decide), mA_at hi31, mA_at hi31, mA_ne (f' := 2) (by decide), mA_ne (f' := 3) (by decide), mA_ne (f' := 3) (by decide)]
            by_cases e8 : k = i
            · rw [if_pos e8, if_pos e8, if_pos e8, if_pos e8]
              exact ⟨⟨rfl, c1, c2⟩, ⟨rfl, hu⟩, d3⟩
            · rw [if_neg e8, if_neg e8, if_neg e8, if_neg e8]
              exact ⟨d1, d2, d3⟩
          · intro v k hv hk
            obtain ⟨d1, d2⟩ := zM_hr hM v k hv hk
            unfold zL
            rw [eB, eU, mA_ne (f' := 7) (by decide), mA_ne (f' := 7) (by decide)]
            refine ⟨d1, ?_⟩
            by_cases e8 : k = i
            · rw [if_pos e8, if_pos e8, e8]
              exact (zMx_le 4).mp e9 v hv
            · rw [if_neg e8, if_neg e8]
              exact d2
          · rw [mA_ne (f' := 8) (by decide), mA_ne (f' := 8) (by decide), mA_ne (f' := 12) (by decide), mA_ne (f' := 12) (by decide)]
            exact zM_he hM
      · rw [ed_at, fI_ne (by decide), fI_ne (by decide)]
      · exact Eqf_usI (Eqf_usI (Eqf_usI Eqf_rfl (Or.inl (by unfold fKp; decide))) (Or.inl (by unfold fKp; decide))) (Or.inl (by unfold fKp; decide))
end MU
