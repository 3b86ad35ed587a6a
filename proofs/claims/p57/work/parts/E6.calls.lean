/-! P57: REPEATS, PHRASES, BARS: the calls, case by case -/
section CL
variable {b B : Nat × Nat} {o so po n : Nat} {S : CS} {t : MS} {r : LR} {N : Int32 → LwS → Prop}
theorem rp_lt (hb : hB b B) (J : Jp b o so po (n + 1) S t) {f g : Nat} (hf : f < zN t) (hg : g < zN t) (hgf : g < f) (a3 : Int32) (h : ∀ S', Jp b o so po n S' t → N (-1000002) (S', r)) : lcall B (S, r) (fun B1 K => w_L_addRepeat B1 o (nI f) (nI g) a3 (S, r) K) N := by
  obtain ⟨hr, hr2, hA, hn⟩ := mu_e hb J
  have hn24 := (rA_M hA).2.1
  exact ⟨(szC S + 1, nsC S + 10), hr, hr2, rA_k hA, hA.1, a_B hA rm_e (fun f2 hf2 ef hz => a_B hA rm_e (fun g2 hg2 eg hz2 => ⟨fun hle => absurd hle (nI_ge hgf (by omega)), fun hle => ⟨rm_e, fun sz ns => Or.inr (Or.inl ⟨rfl, fun z1 z2 => h _ (hn sz ns z1 z2)⟩)⟩⟩) (fun hz => absurd hz (isBar_in (rA_M hA) hg))) (fun hz => absurd hz (isBar_in (rA_M hA) hf))⟩
theorem rp_many (hb : hB b B) (J : Jp b o so po (n + 1) S t) {f g : Nat} (hf : f < zN t) (hg : g < zN t) (hfg : f ≤ g) {a3 : Int32} (hbad : v_in a3 0 (nI g - nI f) = 0) (h : ∀ S', Jp b o so po n S' t → N (-1000002) (S', r)) : lcall B (S, r) (fun B1 K => w_L_addRepeat B1 o (nI f) (nI g) a3 (S, r) K) N := by
  obtain ⟨hr, hr2, hA, hn⟩ := mu_e hb J
  have hn24 := (rA_M hA).2.1
  exact ⟨(szC S + 1, nsC S + 10), hr, hr2, rA_k hA, hA.1, a_B hA rm_e (fun f2 hf2 ef hz => a_B hA rm_e (fun g2 hg2 eg hz2 => ⟨fun hle => a_reqRange rm_e (fun hc _ => absurd hbad hc) (fun _ sz ns => Or.inr (Or.inl ⟨rfl, fun z1 z2 => h _ (hn sz ns z1 z2)⟩)), fun hle => absurd (nI_le hfg (by omega)) hle⟩) (fun hz => absurd hz (isBar_in (rA_M hA) hg))) (fun hz => absurd hz (isBar_in (rA_M hA) hf))⟩
theorem rp_out (hb : hB b B) (J : Jp b o so po (n + 1) S t) {f : Nat} (hf : f < zN t) {a2 : Int32} (ho : v_isBar a2 t = 0) (a3 : Int32) (h : ∀ S', Jp b o so po n S' t → N (-1000001) (S', r)) : lcall B (S, r) (fun B1 K => w_L_addRepeat B1 o (nI f) a2 a3 (S, r) K) N := by
  obtain ⟨hr, hr2, hA, hn⟩ := mu_e hb J
  have hn24 := (rA_M hA).2.1
  exact ⟨(szC S + 1, nsC S + 10), hr, hr2, rA_k hA, hA.1, a_B hA rm_e (fun f2 hf2 ef hz => a_B hA rm_e (fun g2 hg2 eg hz2 => absurd ho hz2) (fun _ sz ns => Or.inl ⟨rfl, fun z1 z2 => h _ (hn sz ns z1 z2)⟩)) (fun hz => absurd hz (isBar_in (rA_M hA) hf))⟩
theorem ph_out (hb : hB b B) (J : Jp b o so po (n + 1) S t) {v i : Nat} (hv : v < 4) (hi : i < zN t) {m : Nat} (hm : 0 < m) (hm2 : zE t v i = m) (h : ∀ S', Jp b o so po n S' t → N (-1000001) (S', r)) : lcall B (S, r) (fun B1 K => w_L_addPhrase B1 o (nI v) (nI i) (nI 0) (nI i) (nI m) (S, r) K) N := by
  obtain ⟨hr, hr2, hA, hn⟩ := mu_e hb J
  have hn24 := (rA_M hA).2.1
  exact ⟨(szC S + 1, nsC S + 10), hr, hr2, rA_k hA, rA_k hA, a_Ei hA rm_e hv hi (by omega) (a_Eo hA rm_e hv hi (Nat.le_of_eq hm2) (by have := (z_r (rA_M hA) hi hv).1; omega) (fun sz ns => Or.inr (Or.inl ⟨rfl, fun z1 z2 => h _ (hn sz ns z1 z2)⟩)))⟩
theorem ph_out1 (hb : hB b B) (J : Jp b o so po (n + 1) S t) {v i : Nat} (hv : v < 4) (hi : i < zN t) (hm2 : zE t v i = 0) (a4 a5 : Int32) (h : ∀ S', Jp b o so po n S' t → N (-1000001) (S', r)) : lcall B (S, r) (fun B1 K => w_L_addPhrase B1 o (nI v) (nI i) (nI 0) a4 a5 (S, r) K) N := by
  obtain ⟨hr, hr2, hA, hn⟩ := mu_e hb J
  have hn24 := (rA_M hA).2.1
  exact ⟨(szC S + 1, nsC S + 10), hr, hr2, rA_k hA, rA_k hA, a_Eo hA rm_e hv hi (Nat.le_of_eq hm2) (by decide) (fun sz ns => Or.inr (Or.inl ⟨rfl, fun z1 z2 => h _ (hn sz ns z1 z2)⟩))⟩
theorem ph_voice (hb : hB b B) (J : Jp b o so po (n + 1) S t) {a1 : Int32} (hz : v_isVoice a1 = 0) (a2 a3 a4 a5 : Int32) (h : ∀ S', Jp b o so po n S' t → N (-1000002) (S', r)) : lcall B (S, r) (fun B1 K => w_L_addPhrase B1 o a1 a2 a3 a4 a5 (S, r) K) N := by
  obtain ⟨hr, hr2, hA, hn⟩ := mu_e hb J
  have hn24 := (rA_M hA).2.1
  exact ⟨(szC S + 1, nsC S + 10), hr, hr2, rA_k hA, rA_k hA, a_Eb hA rm_e hz (fun sz ns => Or.inl ⟨rfl, fun z1 z2 => h _ (hn sz ns z1 z2)⟩)⟩
theorem rp_in {f g c : Nat} (hg : g < 1000) (hfg : f ≤ g) (hc : c ≤ g - f) : ¬ v_in (nI c) 0 (nI g - nI f) = 0 := by
  rw [pk_sub hfg]
  exact in_rng (x := 0) (y := g - f) (Nat.zero_le _) hc (by omega)
theorem rp_ok (hb : hB b B) (J : Jp b o so po (n + 100) S t) {f g c : Nat} (hf : f < zN t) (hg : g < zN t) (hfg : f ≤ g) (hc : c ≤ g - f) (hF : zFree t f g) (h : ∀ S', Jp b o so po n S' (msA (msA (msI t 45 0) 4 (nI f) (nI g)) 5 (nI f) (nI c)) → N (nI (zCn t (zN t) + 1)) (S', r)) : lcall B (S, r) (fun B1 K => w_L_addRepeat B1 o (nI f) (nI g) (nI c) (S, r) K) N := by
  have hM := rA_M (Jp_A J)
  have hn24 := hM.2.1
  refine mu_addRepeat hb J (fun f2 g2 c2 hf2 hg2 hfg2 hc2 e1 e2 e3 hF2 => ?_) (fun z => absurd z (fun z => z.elim (isBar_in hM hf) (isBar_in hM hg))) (fun f2 g2 hf2 hg2 e1 e2 z => ?_) (fun f2 g2 hf2 hg2 e1 e2 z => ?_)
  · obtain rfl := (nI_eq (by omega) (by omega)).mp e1
    obtain rfl := (nI_eq (by omega) (by omega)).mp e2
    obtain rfl := (nI_eq (by omega) (by omega)).mp e3
    exact h
  · obtain rfl := (nI_eq (by omega) (by omega)).mp e1
    obtain rfl := (nI_eq (by omega) (by omega)).mp e2
    exact absurd z (fun z => z.elim (fun z => z (nI_le hfg (by omega))) (rp_in (by omega) hfg hc))
  · obtain rfl := (nI_eq (by omega) (by omega)).mp e1
    obtain rfl := (nI_eq (by omega) (by omega)).mp e2
    exact absurd hF z
theorem rp_no (hb : hB b B) (J : Jp b o so po (n + 100) S t) {f g c : Nat} (hf : f < zN t) (hg : g < zN t) (hfg : f ≤ g) (hc : c ≤ g - f) (hF : ¬ zFree t f g) (h : ∀ S', Jp b o so po n S' t → N (-1000003) (S', r)) : lcall B (S, r) (fun B1 K => w_L_addRepeat B1 o (nI f) (nI g) (nI c) (S, r) K) N := by
  have hM := rA_M (Jp_A J)
  have hn24 := hM.2.1
  refine mu_addRepeat hb J (fun f2 g2 c2 hf2 hg2 hfg2 hc2 e1 e2 e3 hF2 => ?_) (fun z => absurd z (fun z => z.elim (isBar_in hM hf) (isBar_in hM hg))) (fun f2 g2 hf2 hg2 e1 e2 z => ?_) (fun f2 g2 hf2 hg2 e1 e2 z => h)
  · obtain rfl := (nI_eq (by omega) (by omega)).mp e1
    obtain rfl := (nI_eq (by omega) (by omega)).mp e2
    exact absurd hF2 hF
  · obtain rfl := (nI_eq (by omega) (by omega)).mp e1
    obtain rfl := (nI_eq (by omega) (by omega)).mp e2
    exact absurd z (fun z => z.elim (fun z => z (nI_le hfg (by omega))) (rp_in (by omega) hfg hc))
theorem dr_ok (hb : hB b B) (J : Jp b o so po (n + 100) S t) {f : Nat} (hf : f < zN t) (hy : zY t f) (h : ∀ S', Jp b o so po n S' (msA (msI t 45 0) 4 (nI f) (-1)) → N (nI (zO t f)) (S', r)) : lcall B (S, r) (fun B1 K => w_L_dropRepeat B1 o (nI f) (S, r) K) N := by
  have hM := rA_M (Jp_A J)
  have hn24 := hM.2.1
  refine mu_dropRepeat hb J (fun f2 hf2 e1 hy2 => ?_) (fun z => absurd z (isBar_in hM hf)) (fun f2 hf2 e1 z => ?_)
  · obtain rfl := (nI_eq (by omega) (by omega)).mp e1
    exact h
  · obtain rfl := (nI_eq (by omega) (by omega)).mp e1
    exact absurd z hy
theorem dr_no (hb : hB b B) (J : Jp b o so po (n + 100) S t) {f : Nat} (hf : f < zN t) (hy : t.2 4 f = -1) (h : ∀ S', Jp b o so po n S' t → N (-1000003) (S', r)) : lcall B (S, r) (fun B1 K => w_L_dropRepeat B1 o (nI f) (S, r) K) N := by
  have hM := rA_M (Jp_A J)
  have hn24 := hM.2.1
  refine mu_dropRepeat hb J (fun f2 hf2 e1 hy2 => ?_) (fun z => absurd z (isBar_in hM hf)) (fun f2 hf2 e1 z => h)
  obtain rfl := (nI_eq (by omega) (by omega)).mp e1
  exact absurd hy hy2
theorem dr_out (hb : hB b B) (J : Jp b o so po (n + 100) S t) {a1 : Int32} (ho : v_isBar a1 t = 0) (h : ∀ S', Jp b o so po n S' t → N (-1000001) (S', r)) : lcall B (S, r) (fun B1 K => w_L_dropRepeat B1 o a1 (S, r) K) N := by
  have hM := rA_M (Jp_A J)
  refine mu_dropRepeat hb J (fun f2 hf2 e1 hy2 => ?_) (fun _ => h) (fun f2 hf2 e1 z => ?_)
  · rw [e1] at ho
    exact absurd ho (isBar_in hM hf2)
  · rw [e1] at ho
    exact absurd ho (isBar_in hM hf2)
theorem ev_in (w : zM t) {v i j : Nat} (hv : v < 4) (hi : i < zN t) (hj : j < zE t v i) : ¬ v_isEvent (nI v) (nI i) (nI j) t = 0 := by
  have hn := w.2.1
  have he := (z_r w hi hv).1
  have e6 : mgA t 6 (v_at (nI v) (nI i)) = nI (zE t v i) := by
    rw [at_nI hv, Ag_A (Ag_rfl t) (f := 6) (by decide) (by omega)]
    exact (z_r w hi hv).2.1
  have hx : ¬ v_in (nI j) 0 (mgA t 6 (v_at (nI v) (nI i)) - 1) = 0 := by
    rw [e6, show nI (zE t v i) - 1 = nI (zE t v i - 1) from pk_sub (a := zE t v i) (b := 1) (by omega)]
    exact in_rng (x := 0) (y := zE t v i - 1) (Nat.zero_le _) (by omega) (by omega)
  exact fun z => one_ne ((if_pos (And.intro (isBar_in w hi) hx)).symm.trans z)
theorem ph_ok (hb : hB b B) (J : Jp b o so po (n + 100) S t) {v i m : Nat} (hv : v < 4) (hi : i < zN t) (hm : zE t v i = m) (hm2 : 2 ≤ m) (hnp : aN (t.1 14) < 20) (h : ∀ S', Jp b o so po n S' (phA t (aN (t.1 14)) (nI v) (nI i) (nI 0) (nI i) (nI (m - 1))) → N (nI (aN (t.1 14))) (S', r)) : lcall B (S, r) (fun B1 K => w_L_addPhrase B1 o (nI v) (nI i) (nI 0) (nI i) (nI (m - 1)) (S, r) K) N := by
  have hM := rA_M (Jp_A J)
  have hn24 := hM.2.1
  have he := (z_r hM hi hv).1
  have hx : (if (nI i < nI i) ∨ ((nI i = nI i) ∧ (¬ (nI (m - 1) ≤ nI 0))) then (1 : Int32) else 0) = 1 := if_pos (Or.inr ⟨rfl, nI_nle (by omega) (by omega)⟩)
  refine mu_addPhrase hb J (fun v2 i2 j2 i3 j3 hv2 hi2 hj2 hi3 hj3 e1 e2 e3 e4 e5 _ _ => by rw [← e1]; exact h) (fun z => absurd z (isV_in hv)) (fun z => absurd z (fun z => z.elim (ev_in hM hv hi (by omega)) (ev_in hM hv hi (by omega)))) (fun v2 i2 j2 i3 j3 hv2 hi2 hj2 hi3 hj3 e1 e2 e3 e4 e5 z => ?_)
  rcases z with z | z
  · rw [hx] at z
    exact absurd z one_ne
  · exact absurd z (by omega)
theorem ph_full (hb : hB b B) (J : Jp b o so po (n + 100) S t) {v i m : Nat} (hv : v < 4) (hi : i < zN t) (hm : zE t v i = m) (hm2 : 2 ≤ m) (hnp : ¬ aN (t.1 14) < 20) (h : ∀ S', Jp b o so po n S' t → N (-1000003) (S', r)) : lcall B (S, r) (fun B1 K => w_L_addPhrase B1 o (nI v) (nI i) (nI 0) (nI i) (nI (m - 1)) (S, r) K) N := by
  have hM := rA_M (Jp_A J)
  have hn24 := hM.2.1
  have he := (z_r hM hi hv).1
  exact mu_addPhrase hb J (fun v2 i2 j2 i3 j3 hv2 hi2 hj2 hi3 hj3 e1 e2 e3 e4 e5 _ z => absurd z hnp) (fun z => absurd z (isV_in hv)) (fun z => absurd z (fun z => z.elim (ev_in hM hv hi (by omega)) (ev_in hM hv hi (by omega)))) (fun v2 i2 j2 i3 j3 hv2 hi2 hj2 hi3 hj3 e1 e2 e3 e4 e5 z => h)
theorem ph_ord (hb : hB b B) (J : Jp b o so po (n + 100) S t) {v i j k : Nat} (hv : v < 4) (hi : i < zN t) (hj : j < zE t v i) (hk : k < zE t v i) (hkj : k ≤ j) (h : ∀ S', Jp b o so po n S' t → N (-1000003) (S', r)) : lcall B (S, r) (fun B1 K => w_L_addPhrase B1 o (nI v) (nI i) (nI j) (nI i) (nI k) (S, r) K) N := by
  have hM := rA_M (Jp_A J)
  have hn24 := hM.2.1
  have he := (z_r hM hi hv).1
  have hx : (if (nI i < nI i) ∨ ((nI i = nI i) ∧ (¬ (nI k ≤ nI j))) then (1 : Int32) else 0) = 0 := if_neg (fun z => z.elim (fun z => Int32.lt_irrefl z) (fun z => z.2 (nI_le hkj (by omega))))
  exact mu_addPhrase hb J (fun v2 i2 j2 i3 j3 hv2 hi2 hj2 hi3 hj3 e1 e2 e3 e4 e5 z _ => absurd hx z) (fun z => absurd z (isV_in hv)) (fun z => absurd z (fun z => z.elim (ev_in hM hv hi hj) (ev_in hM hv hi hk))) (fun v2 i2 j2 i3 j3 hv2 hi2 hj2 hi3 hj3 e1 e2 e3 e4 e5 z => h)
theorem ba_ok (hb : hB b B) (J : Jp b o so po (n + 100) S t) {c u : Nat} (c1 : 1 ≤ c) (c2 : c ≤ 9) (hu : u = 2 ∨ u = 4 ∨ u = 8) (hN : zN t < 24) (h : ∀ S', Jp b o so po n S' (abrA t (nI c) (nI u)) → N (nI (zN t)) (S', r)) : lcall B (S, r) (fun B1 K => w_L_addBar B1 o (nI c) (nI u) (S, r) K) N :=
  mu_addBar hb J (fun c2 u2 _ _ _ _ _ _ => h) (fun z => absurd z (metre_in c1 c2 hu)) (fun _ z => absurd hN (Nat.not_lt.mpr z))
theorem ba_full (hb : hB b B) (J : Jp b o so po (n + 100) S t) {c u : Nat} (c1 : 1 ≤ c) (c2 : c ≤ 9) (hu : u = 2 ∨ u = 4 ∨ u = 8) (hN : ¬ zN t < 24) (h : ∀ S', Jp b o so po n S' t → N (-1000003) (S', r)) : lcall B (S, r) (fun B1 K => w_L_addBar B1 o (nI c) (nI u) (S, r) K) N :=
  mu_addBar hb J (fun c2 u2 _ _ _ _ _ z => absurd z hN) (fun z => absurd z (metre_in c1 c2 hu)) (fun _ z => h)
theorem ba_bad (hb : hB b B) (J : Jp b o so po (n + 100) S t) {a1 a2 : Int32} (hbad : v_isMetre a1 a2 = 0) (h : ∀ S', Jp b o so po n S' t → N (-1000002) (S', r)) : lcall B (S, r) (fun B1 K => w_L_addBar B1 o a1 a2 (S, r) K) N :=
  mu_addBar hb J (fun c u c1 c2 hu e1 e2 _ => absurd hbad (by rw [e1, e2]; exact metre_in c1 c2 hu)) (fun _ => h) (fun z _ => absurd hbad z)
end CL
