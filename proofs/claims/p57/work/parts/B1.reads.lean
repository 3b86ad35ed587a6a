/-! P57: CALLS THAT CHANGE NOTHING: bars, events, phrases -/
section RA
variable {A : MS} {a : Int32}
theorem isBar_e (w : zM A) : v_isBar a A = v_in a 0 (nI (zN A) - 1) := by
  unfold v_isBar
  rw [show mgI A 0 = nI (zN A) from w.1]
theorem isBar_in (w : zM A) {i : Nat} (hi : i < zN A) : ¬ v_isBar (nI i) A = 0 := by
  have hn := w.2.1
  rw [isBar_e w]
  intro z
  rcases (n_out (by omega)).mpr z with h | h
  · exact nI_pos (by omega) h
  · exact h (nI_lt hi (by omega))
theorem isBar_out (w : zM A) (h : a < 0 ∨ ¬ a < nI (zN A)) : v_isBar a A = 0 := by
  have hn := w.2.1
  rw [isBar_e w]
  exact (n_out (by omega)).mp h
theorem isBar_n (w : zM A) : v_isBar (nI (zN A)) A = 0 := isBar_out w (Or.inr (fun h => Int32.lt_irrefl h))
theorem isBar_m (w : zM A) : v_isBar (-1) A = 0 := isBar_out w (Or.inl (by decide))
theorem isV_in {v : Nat} (hv : v < 4) : ¬ v_isVoice (nI v) = 0 := by
  intro z
  rcases v_out.mpr z with h | h
  · exact nI_pos (by omega) h
  · exact h (nI_le (a := v) (b := 3) (by omega) (by decide))
theorem isV_4 : v_isVoice 4 = 0 := by decide
theorem isV_m : v_isVoice (-1) = 0 := by decide
/-- what written tells -/
def zWr (A : MS) (v i j : Nat) : Int32 := if aN (A.2 8 (zp v i j)) = 0 then -1 else A.2 8 (zp v i j) + A.2 13 v
end RA
section RD
variable {b B : Nat × Nat} {o so po n : Nat} {S : CS} {A : MS} {r : LR} {N : Int32 → LwS → Prop}
theorem rd_bars (J : Jp b o so po n S A) : kdC S o = 14 ∧ d_X11_bars o S ∧ v_X11_bars o S = nI (zN A) := by
  have hA := Jp_A J
  obtain ⟨h1, h2⟩ := a_bars (rA_k hA) (rA_s hA) (rA_B hA)
  exact ⟨rA_k hA, h1, h2.trans (rA_M hA).1⟩
theorem rd_length (hb : hB b B) (J : Jp b o so po (n + 1) S A) {i : Nat} (hi : i < zN A) (h : ∀ S', Jp b o so po n S' A → N (nI (zL A i)) (S', r)) : lcall B (S, r) (fun B1 K => w_L_length B1 o (nI i) (S, r) K) N := by
  obtain ⟨l1, l2⟩ := Jp_sz hb J
  have hA := Jp_A J
  obtain ⟨g1, g2, g3, g4⟩ := a_length (rA_B hA) (k := i) (by rw [cc_n (rA_B hA) (rA_M hA)]; exact hi)
  refine ⟨(szC S + 1, nsC S + 10), ⟨l1, l2⟩, ⟨Nat.le_add_right _ _, Nat.le_add_right _ _⟩, rA_k hA, rA_k hA, a_B hA ⟨Nat.le_refl _, Nat.add_le_add_left (by decide) _⟩ (fun i2 hi2 e hz => ?_) (fun z => absurd z (isBar_in (rA_M hA) hi))⟩
  rw [oG_so (rA_s hA)]
  refine ⟨ne_so (rA_s hA), (rA_B hA).1, g1, g2.1, g2, ?_⟩
  show szC S ≤ _ → nsC S ≤ _ → N _ (S, r)
  rw [g3, (mm_len (rA_M hA) (Ag_rfl A) hi).2]
  exact fun _ _ => h S (Jp_dn J (Nat.le_succ n))
theorem rd_tempo (hb : hB b B) (J : Jp b o so po (n + 1) S A) {i : Nat} (hi : i < zN A) (h : ∀ S', Jp b o so po n S' A → N (nI (zP A (i + 1))) (S', r)) : lcall B (S, r) (fun B1 K => w_L_tempo B1 o (nI i) (S, r) K) N := by
  obtain ⟨l1, l2⟩ := Jp_sz hb J
  have hA := Jp_A J
  refine ⟨(szC S + 1, nsC S + 10), ⟨l1, l2⟩, ⟨Nat.le_add_right _ _, Nat.le_add_right _ _⟩, rA_k hA, rA_k hA, a_B hA ⟨Nat.le_refl _, Nat.add_le_add_left (by decide) _⟩ (fun i2 hi2 e hz => ?_) (fun z => absurd z (isBar_in (rA_M hA) hi))⟩
  rw [oG_so (rA_s hA)]
  exact ⟨ne_so (rA_s hA), (rA_B hA).1, cc_tempo (rA_B hA) (rA_M hA) i hi (fun _ _ => h S (Jp_dn J (Nat.le_succ n)))⟩
theorem rd_time (hb : hB b B) (J : Jp b o so po (n + 1) S A) {i : Nat} (hi : i < zN A) (h : ∀ S', Jp b o so po n S' A → N (nI (zTb A i)) (S', r)) : lcall B (S, r) (fun B1 K => w_L_time B1 o (nI i) (S, r) K) N := by
  obtain ⟨l1, l2⟩ := Jp_sz hb J
  have hA := Jp_A J
  refine ⟨(szC S + 1, nsC S + 10), ⟨l1, l2⟩, ⟨Nat.le_add_right _ _, Nat.le_add_right _ _⟩, rA_k hA, rA_k hA, a_B hA ⟨Nat.le_refl _, Nat.add_le_add_left (by decide) _⟩ (fun i2 hi2 e hz => ?_) (fun z => absurd z (isBar_in (rA_M hA) hi))⟩
  rw [oG_so (rA_s hA)]
  exact ⟨ne_so (rA_s hA), (rA_B hA).1, cc_timeOfBar (rA_B hA) (rA_M hA) hi (fun _ _ => h S (Jp_dn J (Nat.le_succ n)))⟩
theorem rd_length_out (hb : hB b B) (J : Jp b o so po (n + 1) S A) {a : Int32} (hz : v_isBar a A = 0) (h : ∀ S', Jp b o so po n S' A → N (-1000001) (S', r)) : lcall B (S, r) (fun B1 K => w_L_length B1 o a (S, r) K) N := by
  obtain ⟨l1, l2⟩ := Jp_sz hb J
  have hA := Jp_A J
  refine ⟨(szC S + 1, nsC S + 10), ⟨l1, l2⟩, ⟨Nat.le_add_right _ _, Nat.le_add_right _ _⟩, rA_k hA, rA_k hA, a_B hA ⟨Nat.le_refl _, Nat.add_le_add_left (by decide) _⟩ (fun i hi e hz2 => absurd hz hz2) (fun _ sz ns => ⟨rfl, fun z1 z2 => h _ (Jp_rs J z1 z2)⟩)⟩
theorem rd_tempo_out (hb : hB b B) (J : Jp b o so po (n + 1) S A) {a : Int32} (hz : v_isBar a A = 0) (h : ∀ S', Jp b o so po n S' A → N (-1000001) (S', r)) : lcall B (S, r) (fun B1 K => w_L_tempo B1 o a (S, r) K) N := by
  obtain ⟨l1, l2⟩ := Jp_sz hb J
  have hA := Jp_A J
  refine ⟨(szC S + 1, nsC S + 10), ⟨l1, l2⟩, ⟨Nat.le_add_right _ _, Nat.le_add_right _ _⟩, rA_k hA, rA_k hA, a_B hA ⟨Nat.le_refl _, Nat.add_le_add_left (by decide) _⟩ (fun i hi e hz2 => absurd hz hz2) (fun _ sz ns => ⟨rfl, fun z1 z2 => h _ (Jp_rs J z1 z2)⟩)⟩
theorem rd_time_out (hb : hB b B) (J : Jp b o so po (n + 1) S A) {a : Int32} (hz : v_isBar a A = 0) (h : ∀ S', Jp b o so po n S' A → N (-1000001) (S', r)) : lcall B (S, r) (fun B1 K => w_L_time B1 o a (S, r) K) N := by
  obtain ⟨l1, l2⟩ := Jp_sz hb J
  have hA := Jp_A J
  refine ⟨(szC S + 1, nsC S + 10), ⟨l1, l2⟩, ⟨Nat.le_add_right _ _, Nat.le_add_right _ _⟩, rA_k hA, rA_k hA, a_B hA ⟨Nat.le_refl _, Nat.add_le_add_left (by decide) _⟩ (fun i hi e hz2 => absurd hz hz2) (fun _ sz ns => ⟨rfl, fun z1 z2 => h _ (Jp_rs J z1 z2)⟩)⟩
theorem rd_events (hb : hB b B) (J : Jp b o so po (n + 1) S A) {v i : Nat} (hv : v < 4) (hi : i < zN A) (h : ∀ S', Jp b o so po n S' A → N (nI (zE A v i)) (S', r)) : lcall B (S, r) (fun B1 K => w_L_events B1 o (nI v) (nI i) (S, r) K) N := by
  obtain ⟨l1, l2⟩ := Jp_sz hb J
  have hA := Jp_A J
  obtain ⟨g1, g2, g3, g4, g5⟩ := a_row (rA_B hA) (v := v) (i := i) (by rw [cc_n (rA_B hA) (rA_M hA)]; exact hi) hv
  refine ⟨(szC S + 1, nsC S + 10), ⟨l1, l2⟩, ⟨Nat.le_add_right _ _, Nat.le_add_right _ _⟩, rA_k hA, a_VB hA ⟨Nat.le_refl _, Nat.add_le_add_left (by decide) _⟩ (fun v2 i2 hv2 hi2 ev ei hz hz2 => ?_) (fun z => absurd z (isV_in hv)) (fun _ z => absurd z (isBar_in (rA_M hA) hi))⟩
  rw [oG_so (rA_s hA), g2]
  refine ⟨ne_so (rA_s hA), (rA_B hA).1, g1, g3, g3, ?_⟩
  have e : v_X8_size (rwL S so v i) S = nI (zE A v i) := congrArg nI (cc_e (rA_B hA) (rA_M hA) hi hv)
  show szC S ≤ _ → nsC S ≤ _ → N _ (S, r)
  rw [e]
  exact fun _ _ => h S (Jp_dn J (Nat.le_succ n))
theorem rd_left (hb : hB b B) (J : Jp b o so po (n + 1) S A) {v i : Nat} (hv : v < 4) (hi : i < zN A) (h : ∀ S', Jp b o so po n S' A → N (nI (zL A i - zS A v i (zE A v i))) (S', r)) : lcall B (S, r) (fun B1 K => w_L_left B1 o (nI v) (nI i) (S, r) K) N := by
  obtain ⟨l1, l2⟩ := Jp_sz hb J
  have hA := Jp_A J
  obtain ⟨k1, k2⟩ := cc_left (rA_B hA) (rA_M hA) hi hv
  refine ⟨(szC S + 1, nsC S + 10), ⟨l1, l2⟩, ⟨Nat.le_add_right _ _, Nat.le_add_right _ _⟩, rA_k hA, a_VB hA ⟨Nat.le_refl _, Nat.add_le_add_left (by decide) _⟩ (fun v2 i2 hv2 hi2 ev ei hz hz2 => ?_) (fun z => absurd z (isV_in hv)) (fun _ z => absurd z (isBar_in (rA_M hA) hi))⟩
  rw [oG_so (rA_s hA), k2]
  exact ⟨ne_so (rA_s hA), (rA_B hA).1, k1, fun _ _ => h S (Jp_dn J (Nat.le_succ n))⟩
theorem rd_isRight (hb : hB b B) (J : Jp b o so po (n + 1) S A) {v i : Nat} (hv : v < 4) (hi : i < zN A) (h1 : zRight A v i → ∀ S', Jp b o so po n S' A → N 1 (S', r)) (h0 : ¬ zRight A v i → ∀ S', Jp b o so po n S' A → N 0 (S', r)) : lcall B (S, r) (fun B1 K => w_L_isRight B1 o (nI v) (nI i) (S, r) K) N := by
  obtain ⟨l1, l2⟩ := Jp_sz hb J
  have hA := Jp_A J
  refine ⟨(szC S + 1, nsC S + 10), ⟨l1, l2⟩, ⟨Nat.le_add_right _ _, Nat.le_add_right _ _⟩, rA_k hA, a_VB hA ⟨Nat.le_refl _, Nat.add_le_add_left (by decide) _⟩ (fun v2 i2 hv2 hi2 ev ei hz hz2 => ?_) (fun z => absurd z (isV_in hv)) (fun _ z => absurd z (isBar_in (rA_M hA) hi))⟩
  rw [oG_so (rA_s hA)]
  exact ⟨ne_so (rA_s hA), (rA_B hA).1, cc_right (rA_B hA) (rA_M hA) hi hv (fun hR => ⟨Or.inr rfl, fun _ _ _ => h1 hR S (Jp_dn J (Nat.le_succ n)), fun z => absurd z one_ne⟩) (fun hR => ⟨Or.inl rfl, fun z => absurd rfl z, fun _ _ _ => h0 hR S (Jp_dn J (Nat.le_succ n))⟩)⟩
/-- an event that is asked for, by its place -/
theorem a_Ei {B1 : Nat × Nat} {X : String → CS → Prop} {Q : Nat → CS → Prop} (hA : rA S A o so po) (hr : szC S + 1 ≤ B1.1 ∧ nsC S + 6 ≤ B1.2) {v i j : Nat} (hv : v < 4) (hi : i < zN A) (hj : j < zE A v i) (hQ : Q (evL S so v i j) S) : w_X11_requiredEvent B1 o (nI v) (nI i) (nI j) S Q X := by
  have hn := (rA_M hA).2.1
  have he := (z_r (rA_M hA) hi hv).1
  refine a_Ev hA hr (fun v2 i2 j2 hv2 hi2 hj2 ev ei ej _ _ _ => ?_) (fun z => absurd z (isV_in hv)) (fun _ d z => ?_)
  · obtain rfl := (nI_eq (by omega) (by omega)).mp ev
    obtain rfl := (nI_eq (by omega) (by omega)).mp ei
    have he2 := (z_r (rA_M hA) hi hv).1
    obtain rfl := (nI_eq (by omega) (by omega)).mp ej
    exact hQ
  · exfalso
    have e6 : mgA A 6 (v_at (nI v) (nI i)) = nI (zE A v i) := by
      rw [at_nI hv, Ag_A (Ag_rfl A) (f := 6) (by decide) (by omega)]
      exact (z_r (rA_M hA) hi hv).2.1
    unfold v_isEvent at z
    rw [e6] at z
    by_cases h9 : v_in (nI j) 0 (nI (zE A v i) - 1) = 0
    · rcases (n_out (by omega)).mpr h9 with h8 | h8
      · exact nI_pos (by omega) h8
      · exact h8 (nI_lt hj (by omega))
    · rw [if_pos ⟨isBar_in (rA_M hA) hi, h9⟩] at z
      exact one_ne z
/-- .. that isn't there -/
theorem a_Eo {B1 : Nat × Nat} {X : String → CS → Prop} {Q : Nat → CS → Prop} (hA : rA S A o so po) (hr : szC S + 1 ≤ B1.1 ∧ nsC S + 6 ≤ B1.2) {v i j : Nat} (hv : v < 4) (hi : i < zN A) (hj : zE A v i ≤ j) (hj2 : j < 1000) (hX : ∀ sz ns : Nat, X "java/lang/IndexOutOfBoundsException" (rsz S sz ns)) : w_X11_requiredEvent B1 o (nI v) (nI i) (nI j) S Q X := by
  have hn := (rA_M hA).2.1
  have he := (z_r (rA_M hA) hi hv).1
  refine a_Ev hA hr (fun v2 i2 j2 hv2 hi2 hj2' ev ei ej _ _ _ => ?_) (fun z => absurd z (isV_in hv)) (fun _ d z => hX)
  obtain rfl := (nI_eq (by omega) (by omega)).mp ev
  obtain rfl := (nI_eq (by omega) (by omega)).mp ei
  obtain rfl := (nI_eq (by omega) (by omega)).mp ej
  omega
/-- .. of no voice -/
theorem a_Eb {B1 : Nat × Nat} {X : String → CS → Prop} {Q : Nat → CS → Prop} (hA : rA S A o so po) (hr : szC S + 1 ≤ B1.1 ∧ nsC S + 6 ≤ B1.2) {a1 a2 a3 : Int32} (hz : v_isVoice a1 = 0) (hX : ∀ sz ns : Nat, X "java/lang/IllegalArgumentException" (rsz S sz ns)) : w_X11_requiredEvent B1 o a1 a2 a3 S Q X :=
  a_Ev hA hr (fun _ _ _ _ _ _ _ _ _ z _ _ => absurd hz z) (fun _ => hX) (fun z _ _ => absurd hz z)
theorem rd_written (hb : hB b B) (J : Jp b o so po (n + 1) S A) {v i j : Nat} (hv : v < 4) (hi : i < zN A) (hj : j < zE A v i) (h : ∀ S', Jp b o so po n S' A → N (zWr A v i j) (S', r)) : lcall B (S, r) (fun B1 K => w_L_written B1 o (nI v) (nI i) (nI j) (S, r) K) N := by
  obtain ⟨l1, l2⟩ := Jp_sz hb J
  have hA := Jp_A J
  obtain ⟨q1, q2, q3⟩ := cc_ev (rA_B hA) (rA_M hA) hi hv hj
  obtain ⟨-, -, -, p1, p2, -⟩ := z_v (rA_M hA) hi hv hj
  refine ⟨(szC S + 1, nsC S + 10), ⟨l1, l2⟩, ⟨Nat.le_add_right _ _, Nat.le_add_right _ _⟩, rA_k hA, rA_k hA, a_Ei hA ⟨Nat.le_refl _, Nat.add_le_add_left (by decide) _⟩ hv hi hj ?_⟩
  refine ⟨q3.1, q3.1, fun _ => ne_so (rA_s hA), fun _ => by rw [oG_so (rA_s hA)]; exact (rA_B hA).1, fun _ => vp_nI (n := 4) hv (by decide), fun x hx => ?_⟩
  have e : x = zWr A v i j := by
    rw [hx]
    unfold v_X0_isNote zWr
    rw [oG_so (rA_s hA), nI_clamp (show v < 2147483648 by omega), (rA_S hA).1 v hv, q3.2.1]
    have en : (if ¬ A.2 8 (zp v i j) ≤ 0 then (1 : Int32) else 0) = (if aN (A.2 8 (zp v i j)) = 0 then 0 else 1) := by
      have h9 := nI_isNote p2
      rw [← p1] at h9
      exact h9
    rw [en]
    by_cases e0 : aN (A.2 8 (zp v i j)) = 0
    · rw [if_pos e0, if_pos e0]
      exact if_pos rfl
    · rw [if_neg e0, if_neg e0, if_neg one_ne]
  rw [e]
  exact fun _ _ => h S (Jp_dn J (Nat.le_succ n))
theorem rd_phrases (hb : hB b B) (J : Jp b o so po (n + 1) S A) (h : ∀ S', Jp b o so po n S' A → N (zPh A (aN (A.1 14))) (S', r)) : (kdC S o = 14) ∧ lcall B (S, r) (fun B1 K => w_X11_phrases B1 o S (fun x S' => K x (S', r)) (fun _ _ => False)) N := by
  obtain ⟨l1, l2⟩ := Jp_sz hb J
  have hA := Jp_A J
  have hP := rA_P hA
  have h20 := hP.1
  have e14 : aN (A.1 14) = npS S so := by rw [hP.2.1, aN_nI (by omega)]
  rw [e14] at h
  refine ⟨rA_k hA, (szC S + 1, nsC S + 10), ⟨l1, l2⟩, ⟨Nat.le_add_right _ _, Nat.le_add_right _ _⟩, rA_k hA, ne_so (rA_s hA), by rw [oG_so (rA_s hA)]; exact (rA_B hA).1, ?_⟩
  rw [oG_so (rA_s hA)]
  refine lp_seq (fun k => (zPh A k, nI k)) (npS S so) ?_ ?_ 0 (Nat.zero_le _)
  · intro k hk K hK
    obtain ⟨q1, q2, q3⟩ := cc_ph hP hk
    refine ⟨(rA_B hA).1, fun h9 => absurd h9 (nI_ge (b := npS S so) (a := k) hk (by omega)), fun _ => ⟨q1, by rw [q2]; exact q3.1, fun x4 hx4 x5 hx5 => ?_⟩⟩
    dsimp only at hx4 hx5 ⊢
    rw [q2, q3.2.2.2.2.1] at hx4
    rw [hx5, hx4, nI_1]
    exact hK
  · intro K
    exact ⟨(rA_B hA).1, fun _ => fun _ _ => h S (Jp_dn J (Nat.le_succ n)), fun h9 => absurd (nI_le (Nat.le_refl (npS S so)) (by omega)) h9⟩
end RD
