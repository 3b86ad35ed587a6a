/-! P57: CALLS THAT ARE REFUSED -/
section NO
variable {b B : Nat × Nat} {o so po n : Nat} {S : CS} {t : MS} {r : LR} {N : Int32 → LwS → Prop}
theorem no_tempo_bad (hb : hB b B) (J : Jp b o so po (n + 1) S t) {i : Nat} (hi : i < zN t) {a : Int32} (hne : ¬ a = -1) (hbad : v_in a 30 240 = 0) (h : ∀ S', Jp b o so po n S' t → N (-1000002) (S', r)) : lcall B (S, r) (fun B1 K => w_L_setTempo B1 o (nI i) a (S, r) K) N := by
  obtain ⟨hr, hr2, hA, hn⟩ := mu_e hb J
  exact ⟨(szC S + 1, nsC S + 10), hr, hr2, rA_k hA, hA.1, a_B hA rm_e (fun i2 hi2 ei hz => ⟨fun _ => False, fun _ z => z.elim, fun z => absurd z hne, fun _ => a_reqRange rm_e (fun hc _ => absurd hbad hc) (fun _ sz ns => Or.inr ⟨rfl, fun z1 z2 => h _ (hn sz ns z1 z2)⟩)⟩) (fun hz => absurd hz (isBar_in (rA_M hA) hi))⟩
theorem no_tempo_out (hb : hB b B) (J : Jp b o so po (n + 1) S t) {a1 : Int32} (ho : v_isBar a1 t = 0) (a2 : Int32) (h : ∀ S', Jp b o so po n S' t → N (-1000001) (S', r)) : lcall B (S, r) (fun B1 K => w_L_setTempo B1 o a1 a2 (S, r) K) N := by
  obtain ⟨hr, hr2, hA, hn⟩ := mu_e hb J
  exact ⟨(szC S + 1, nsC S + 10), hr, hr2, rA_k hA, hA.1, a_B hA rm_e (fun i2 hi2 ei hz => absurd ho hz) (fun _ sz ns => Or.inl ⟨rfl, fun z1 z2 => h _ (hn sz ns z1 z2)⟩)⟩
theorem no_metre_out (hb : hB b B) (J : Jp b o so po (n + 1) S t) {a1 : Int32} (ho : v_isBar a1 t = 0) (a2 a3 : Int32) (h : ∀ S', Jp b o so po n S' t → N (-1000001) (S', r)) : lcall B (S, r) (fun B1 K => w_L_setMetre B1 o a1 a2 a3 (S, r) K) N := by
  obtain ⟨hr, hr2, hA, hn⟩ := mu_e hb J
  exact ⟨(szC S + 1, nsC S + 10), hr, hr2, rA_k hA, hA.1, a_B hA rm_e (fun i2 hi2 ei hz => absurd ho hz) (fun _ sz ns => Or.inl ⟨rfl, fun z1 z2 => h _ (hn sz ns z1 z2)⟩)⟩
theorem no_metre_bad (hb : hB b B) (J : Jp b o so po (n + 1) S t) {i : Nat} (hi : i < zN t) {a2 a3 : Int32} (hbad : v_isMetre a2 a3 = 0) (h : ∀ S', Jp b o so po n S' t → N (-1000002) (S', r)) : lcall B (S, r) (fun B1 K => w_L_setMetre B1 o (nI i) a2 a3 (S, r) K) N := by
  obtain ⟨hr, hr2, hA, hn⟩ := mu_e hb J
  exact ⟨(szC S + 1, nsC S + 10), hr, hr2, rA_k hA, hA.1, a_B hA rm_e (fun i2 hi2 ei hz => a_reqMetre rm_e (fun c u c1 c2 hu ec eu hmt => absurd hbad hmt) (fun _ sz ns => Or.inr (Or.inl ⟨rfl, fun z1 z2 => h _ (hn sz ns z1 z2)⟩))) (fun hz => absurd hz (isBar_in (rA_M hA) hi))⟩
theorem no_mark_bad (hb : hB b B) (J : Jp b o so po (n + 1) S t) {a4 : Int32} (hbad : v_in a4 (-1) 5 = 0) (a1 a2 a3 : Int32) (h : ∀ S', Jp b o so po n S' t → N (-1000002) (S', r)) : lcall B (S, r) (fun B1 K => w_L_setMark B1 o a1 a2 a3 a4 (S, r) K) N := by
  obtain ⟨hr, hr2, hA, hn⟩ := mu_e hb J
  exact ⟨(szC S + 1, nsC S + 10), hr, hr2, rA_k hA, a_reqRange rm_e (fun hc _ => absurd hbad hc) (fun _ sz ns => Or.inl ⟨rfl, fun z1 z2 => h _ (hn sz ns z1 z2)⟩)⟩
theorem no_mark_out (hb : hB b B) (J : Jp b o so po (n + 1) S t) {v i j : Nat} (hv : v < 4) (hi : i < zN t) (hj : zE t v i ≤ j) (hj2 : j < 1000) {a4 : Int32} (hok : ¬ v_in a4 (-1) 5 = 0) (h : ∀ S', Jp b o so po n S' t → N (-1000001) (S', r)) : lcall B (S, r) (fun B1 K => w_L_setMark B1 o (nI v) (nI i) (nI j) a4 (S, r) K) N := by
  obtain ⟨hr, hr2, hA, hn⟩ := mu_e hb J
  exact ⟨(szC S + 1, nsC S + 10), hr, hr2, rA_k hA, a_reqRange rm_e (fun _ _ => ⟨rA_k hA, a_Eo hA rm_e hv hi hj hj2 (fun sz ns => Or.inr ⟨rfl, fun z1 z2 => h _ (hn sz ns z1 z2)⟩)⟩) (fun hc => absurd hc hok)⟩
theorem no_tie_out (hb : hB b B) (J : Jp b o so po (n + 1) S t) {v i j : Nat} (hv : v < 4) (hi : i < zN t) (hj : zE t v i ≤ j) (hj2 : j < 1000) (a4 : Int32) (h : ∀ S', Jp b o so po n S' t → N (-1000001) (S', r)) : lcall B (S, r) (fun B1 K => w_L_setTie B1 o (nI v) (nI i) (nI j) a4 (S, r) K) N := by
  obtain ⟨hr, hr2, hA, hn⟩ := mu_e hb J
  exact ⟨(szC S + 1, nsC S + 10), hr, hr2, rA_k hA, rA_k hA, a_Eo hA rm_e hv hi hj hj2 (fun sz ns => Or.inr (Or.inl ⟨rfl, fun z1 z2 => h _ (hn sz ns z1 z2)⟩))⟩
theorem no_pitch_bad (hb : hB b B) (J : Jp b o so po (n + 1) S t) {a4 : Int32} (hbad : v_in a4 0 127 = 0) (a1 a2 a3 : Int32) (h : ∀ S', Jp b o so po n S' t → N (-1000002) (S', r)) : lcall B (S, r) (fun B1 K => w_L_setPitch B1 o a1 a2 a3 a4 (S, r) K) N := by
  obtain ⟨hr, hr2, hA, hn⟩ := mu_e hb J
  exact ⟨(szC S + 1, nsC S + 10), hr, hr2, rA_k hA, a_reqRange rm_e (fun hc _ => absurd hbad hc) (fun _ sz ns => Or.inl ⟨rfl, fun z1 z2 => h _ (hn sz ns z1 z2)⟩)⟩
theorem no_pitch_out (hb : hB b B) (J : Jp b o so po (n + 1) S t) {v i j : Nat} (hv : v < 4) (hi : i < zN t) (hj : zE t v i ≤ j) (hj2 : j < 1000) {a4 : Int32} (hok : ¬ v_in a4 0 127 = 0) (h : ∀ S', Jp b o so po n S' t → N (-1000001) (S', r)) : lcall B (S, r) (fun B1 K => w_L_setPitch B1 o (nI v) (nI i) (nI j) a4 (S, r) K) N := by
  obtain ⟨hr, hr2, hA, hn⟩ := mu_e hb J
  exact ⟨(szC S + 1, nsC S + 10), hr, hr2, rA_k hA, a_reqRange rm_e (fun _ _ => ⟨rA_k hA, a_Eo hA rm_e hv hi hj hj2 (fun sz ns => Or.inr (Or.inl ⟨rfl, fun z1 z2 => h _ (hn sz ns z1 z2)⟩))⟩) (fun hc => absurd hc hok)⟩
theorem no_remove_bad (hb : hB b B) (J : Jp b o so po (n + 1) S t) {a1 : Int32} (hz : v_isVoice a1 = 0) (a2 a3 : Int32) (h : ∀ S', Jp b o so po n S' t → N (-1000002) (S', r)) : lcall B (S, r) (fun B1 K => w_L_remove B1 o a1 a2 a3 (S, r) K) N := by
  obtain ⟨hr, hr2, hA, hn⟩ := mu_e hb J
  exact ⟨(szC S + 1, nsC S + 10), hr, hr2, rA_k hA, rA_k hA, a_Eb hA rm_e hz (fun sz ns => Or.inl ⟨rfl, fun z1 z2 => h _ (hn sz ns z1 z2)⟩)⟩
theorem no_remove_out (hb : hB b B) (J : Jp b o so po (n + 1) S t) {v i j : Nat} (hv : v < 4) (hi : i < zN t) (hj : zE t v i ≤ j) (hj2 : j < 1000) (h : ∀ S', Jp b o so po n S' t → N (-1000001) (S', r)) : lcall B (S, r) (fun B1 K => w_L_remove B1 o (nI v) (nI i) (nI j) (S, r) K) N := by
  obtain ⟨hr, hr2, hA, hn⟩ := mu_e hb J
  exact ⟨(szC S + 1, nsC S + 10), hr, hr2, rA_k hA, rA_k hA, a_Eo hA rm_e hv hi hj hj2 (fun sz ns => Or.inr ⟨rfl, fun z1 z2 => h _ (hn sz ns z1 z2)⟩)⟩
theorem no_trans_voice (hb : hB b B) (J : Jp b o so po (n + 1) S t) {a1 : Int32} (hz : v_isVoice a1 = 0) (a2 : Int32) (h : ∀ S', Jp b o so po n S' t → N (-1000002) (S', r)) : lcall B (S, r) (fun B1 K => w_L_transpose B1 o a1 a2 (S, r) K) N := by
  obtain ⟨hr, hr2, hA, hn⟩ := mu_e hb J
  exact ⟨(szC S + 1, nsC S + 10), hr, hr2, rA_k hA, a_reqVoice rm_e (fun v hv ev hz2 => absurd hz hz2) (fun _ sz ns => Or.inl ⟨rfl, fun z1 z2 => h _ (hn sz ns z1 z2)⟩)⟩
theorem no_trans_bad (hb : hB b B) (J : Jp b o so po (n + 1) S t) {v : Nat} (hv : v < 4) {a2 : Int32} (hbad : v_in a2 (-12) 12 = 0) (h : ∀ S', Jp b o so po n S' t → N (-1000002) (S', r)) : lcall B (S, r) (fun B1 K => w_L_transpose B1 o (nI v) a2 (S, r) K) N := by
  obtain ⟨hr, hr2, hA, hn⟩ := mu_e hb J
  exact ⟨(szC S + 1, nsC S + 10), hr, hr2, rA_k hA, a_reqVoice rm_e (fun v2 hv2 ev hz2 => a_reqRange rm_e (fun hc _ => absurd hbad hc) (fun _ sz ns => Or.inl ⟨rfl, fun z1 z2 => h _ (hn sz ns z1 z2)⟩)) (fun z => absurd z (isV_in hv))⟩
theorem no_paper1 (hb : hB b B) (J : Jp b o so po (n + 1) S t) {a1 : Int32} (hbad : v_in a1 40 400 = 0) (a2 a3 : Int32) (h : ∀ S', Jp b o so po n S' t → N (-1000002) (S', r)) : lcall B (S, r) (fun B1 K => w_L_setPaper B1 o a1 a2 a3 (S, r) K) N := by
  obtain ⟨hr, hr2, hA, hn⟩ := mu_e hb J
  exact ⟨(szC S + 1, nsC S + 10), hr, hr2, rA_k hA, a_reqRange rm_e (fun hc _ => absurd hbad hc) (fun _ sz ns => ⟨rfl, fun z1 z2 => h _ (hn sz ns z1 z2)⟩)⟩
theorem no_paper2 (hb : hB b B) (J : Jp b o so po (n + 1) S t) {a1 a2 : Int32} (h1 : ¬ v_in a1 40 400 = 0) (hbad : v_in a2 1 6 = 0) (a3 : Int32) (h : ∀ S', Jp b o so po n S' t → N (-1000002) (S', r)) : lcall B (S, r) (fun B1 K => w_L_setPaper B1 o a1 a2 a3 (S, r) K) N := by
  obtain ⟨hr, hr2, hA, hn⟩ := mu_e hb J
  exact ⟨(szC S + 1, nsC S + 10), hr, hr2, rA_k hA, a_reqRange rm_e (fun _ _ => a_reqRange rm_e (fun hc _ => absurd hbad hc) (fun _ sz ns => ⟨rfl, fun z1 z2 => h _ (hn sz ns z1 z2)⟩)) (fun hc => absurd hc h1)⟩
theorem no_paper3 (hb : hB b B) (J : Jp b o so po (n + 1) S t) {a1 a2 a3 : Int32} (h1 : ¬ v_in a1 40 400 = 0) (h2 : ¬ v_in a2 1 6 = 0) (hbad : v_in a3 0 20000 = 0) (h : ∀ S', Jp b o so po n S' t → N (-1000002) (S', r)) : lcall B (S, r) (fun B1 K => w_L_setPaper B1 o a1 a2 a3 (S, r) K) N := by
  obtain ⟨hr, hr2, hA, hn⟩ := mu_e hb J
  exact ⟨(szC S + 1, nsC S + 10), hr, hr2, rA_k hA, a_reqRange rm_e (fun _ _ => a_reqRange rm_e (fun _ _ => a_reqRange rm_e (fun hc _ => absurd hbad hc) (fun _ sz ns => ⟨rfl, fun z1 z2 => h _ (hn sz ns z1 z2)⟩)) (fun hc => absurd hc h2)) (fun hc => absurd hc h1)⟩
theorem no_turn_voice (hb : hB b B) (J : Jp b o so po (n + 1) S t) {a1 : Int32} (hz : v_isVoice a1 = 0) (a2 a3 : Int32) (h : ∀ S', Jp b o so po n S' t → N (-1000002) (S', r)) : lcall B (S, r) (fun B1 K => w_L_allowTurn B1 o a1 a2 a3 (S, r) K) N := by
  obtain ⟨hr, hr2, hA, hn⟩ := mu_e hb J
  exact ⟨(szC S + 1, nsC S + 10), hr, hr2, rA_k hA, a_VB hA rm_e (fun v i hv hi ev ei hz1 hz2 => absurd hz hz1) (fun _ sz ns => Or.inl ⟨rfl, fun z1 z2 => h _ (hn sz ns z1 z2)⟩) (fun hz1 => absurd hz hz1)⟩
theorem no_turn_out (hb : hB b B) (J : Jp b o so po (n + 1) S t) {v : Nat} (hv : v < 4) {a2 : Int32} (ho : v_isBar a2 t = 0) (a3 : Int32) (h : ∀ S', Jp b o so po n S' t → N (-1000001) (S', r)) : lcall B (S, r) (fun B1 K => w_L_allowTurn B1 o (nI v) a2 a3 (S, r) K) N := by
  obtain ⟨hr, hr2, hA, hn⟩ := mu_e hb J
  exact ⟨(szC S + 1, nsC S + 10), hr, hr2, rA_k hA, a_VB hA rm_e (fun v2 i hv2 hi ev ei hz1 hz2 => absurd ho hz2) (fun z => absurd z (isV_in hv)) (fun _ _ sz ns => Or.inr ⟨rfl, fun z1 z2 => h _ (hn sz ns z1 z2)⟩)⟩
theorem no_drop_out (hb : hB b B) (J : Jp b o so po (n + 1) S t) {a1 : Int32} (ho : a1 < 0 ∨ ¬ a1 < nI (npS S so)) (h : ∀ S', Jp b o so po n S' t → N (-1000001) (S', r)) : lcall B (S, r) (fun B1 K => w_L_dropPhrase B1 o a1 (S, r) K) N := by
  obtain ⟨hr, hr2, hA, hn⟩ := mu_e hb J
  exact ⟨(szC S + 1, nsC S + 10), hr, hr2, rA_k hA, rA_k hA, ne_so hA.2.1, by rw [oG_so hA.2.1]; exact (rA_B hA).1, by rw [oG_so hA.2.1]; exact i_reqIdx rm_e (fun hc => absurd ho hc) (fun _ sz ns => ⟨rfl, fun z1 z2 => h _ (hn sz ns z1 z2)⟩)⟩
theorem no_metre_short (hb : hB b B) (J : Jp b o so po (n + 1) S t) {i c u : Nat} (hi : i < zN t) (c1 : 1 ≤ c) (c2 : c ≤ 9) (hu : u = 2 ∨ u = 4 ∨ u = 8) (hfit : ¬ zMx t i 4 ≤ 96 * c / u) (h : ∀ S', Jp b o so po n S' t → N (-1000003) (S', r)) : lcall B (S, r) (fun B1 K => w_L_setMetre B1 o (nI i) (nI c) (nI u) (S, r) K) N := by
  obtain ⟨hr, hr2, hA, hn⟩ := mu_e hb J
  have hB := rA_B hA
  have hM := rA_M hA
  have hn24 := hM.2.1
  refine ⟨(szC S + 1, nsC S + 10), hr, hr2, rA_k hA, hA.1, a_B hA rm_e (fun i2 hi2 ei hz => a_reqMetre rm_e (fun c3 u3 c13 c23 hu3 ec eu hmt => ?_) (fun hc => absurd hc (metre_in c1 c2 hu))) (fun hz => absurd hz (isBar_in hM hi))⟩
  obtain ⟨b1, b2, b3, b4⟩ := cc_bar hB hM hi
  obtain ⟨l1, l2⟩ := cc_len hB hM hi
  have em : v_X9_measure so (nI i) S = mrL S so i := b3
  have hi31 : i < 2147483648 := by omega
  have hu0 : 0 < u ∧ u ≤ 8 := by omega
  have hq : 96 * c / u ≤ 432 := by rcases hu with hu | hu | hu <;> rw [hu] <;> omega
  have etk : v_X2_ticksOf (nI c) (nI u) = nI (96 * c / u) := by
    unfold v_X2_ticksOf
    rw [if_neg (nI_nle hu0.1 (by omega)), len_nI c2 hu]
  have hmx : zMx t i 4 ≤ zL t i := (zMx_le 4).mpr (fun v hv => z_sL hM hi (by omega) (Nat.le_refl _))
  have hL := z_len hM hi
  rw [oG_so hA.2.1, em, etk]
  exact ⟨ne_so hA.2.1, b1, ⟨b1, b2, by rw [b3]; exact b4⟩, b4, cc_most hB hM hi ⟨fun _ => nI_ne0 hu0.1 (by omega), fun e => absurd ((nI_leI (by omega) (by omega)).mp e) hfit, fun e => ⟨rm_e, fun sz ns => Or.inr (Or.inr ⟨rfl, fun z1 z2 => h _ (hn sz ns z1 z2)⟩)⟩⟩⟩
end NO
