/-! P57: THE LAW'S METHODS (4): arePages -/
def tnP (A : MS) (v k : Nat) : Nat := if k < kNp A v then gMc (dPg A v) (dL A v) k else kTc A v
section DP
variable {b B : Nat × Nat} {o so po n ga v : Nat} {S : CS} {A : MS} {r : LR} {Q : Int32 → LwS → Prop}
theorem sh_1 {m k : Nat} (hm : m ≤ 48) (hk : k < m) : nI (4 * m) - 1 - (nI (2 * k) + 0) = nI (4 * m - 1 - 2 * k) ∧ (4 : Int32) * nI m - 1 - 2 * nI k = nI (4 * m - 1 - 2 * k) ∧ nI (2 * k) + 0 = 2 * nI k ∧ nI (2 * k) + 1 = 2 * nI k + 1 ∧ nI (4 * m) - 1 - (nI (2 * k) + 1) = nI (4 * m - 1 - 2 * k) - 1 := by
  have e1 : (4 : Int32) * nI m = nI (4 * m) := pk_mul 4 m
  have e2 : (2 : Int32) * nI k = nI (2 * k) := pk_mul 2 k
  have e3 : nI (2 * k) + 0 = nI (2 * k) := nI_add (2 * k) 0
  have e4 : nI (4 * m) - 1 = nI (4 * m - 1) := pk_sub (a := 4 * m) (b := 1) (by omega)
  have e5 : nI (4 * m - 1) - nI (2 * k) = nI (4 * m - 1 - 2 * k) := pk_sub (by omega)
  have e6 : nI (2 * k) + 1 = nI (2 * k + 1) := nI_1 _
  have e7 : nI (4 * m - 1) - nI (2 * k + 1) = nI (4 * m - 1 - (2 * k + 1)) := pk_sub (by omega)
  have e8 : nI (4 * m - 1 - 2 * k) - 1 = nI (4 * m - 1 - 2 * k - 1) := pk_sub (a := 4 * m - 1 - 2 * k) (b := 1) (by omega)
  rw [e1, e2, e3, e4, e5, e6, e7, e8]
  refine ⟨rfl, rfl, rfl, rfl, ?_⟩
  congr 1
theorem tnP_s (hX : gXo (dPg A v) (dL A v)) {k : Nat} (hk : k < kNp A v) : tnP A v k = gMc (dPg A v) (dL A v) k ∧ tnP A v (k + 1) = tnP A v k + (if k + 1 < kNp A v ∧ 1 ≤ kCh A v k ∧ (k % 2 = 0 ∨ kCh A v (k + 1) = 0) then 1 else 0) := by
  have e1 : tnP A v k = gMc (dPg A v) (dL A v) k := if_pos hk
  refine ⟨e1, ?_⟩
  by_cases c : k + 1 < kNp A v
  · have e2 : tnP A v (k + 1) = gMc (dPg A v) (dL A v) (k + 1) := if_pos c
    have e3 := gM_step hX (p := k) c
    rw [e2, e1, e3]
    by_cases c2 : 1 ≤ kCh A v k ∧ (k % 2 = 0 ∨ kCh A v (k + 1) = 0)
    · have e5 : (if k + 1 < kNp A v ∧ 1 ≤ kCh A v k ∧ (k % 2 = 0 ∨ kCh A v (k + 1) = 0) then 1 else 0 : Nat) = 1 := if_pos ⟨c, c2⟩
      have e6 : (if 1 ≤ gCh (dPg A v) (dL A v) k ∧ (k % 2 = 0 ∨ gCh (dPg A v) (dL A v) (k + 1) = 0) then 1 else 0 : Nat) = 1 := if_pos c2
      rw [e5, e6]
    · have e5 : (if k + 1 < kNp A v ∧ 1 ≤ kCh A v k ∧ (k % 2 = 0 ∨ kCh A v (k + 1) = 0) then 1 else 0 : Nat) = 0 := if_neg (fun z => c2 z.2)
      have e6 : (if 1 ≤ gCh (dPg A v) (dL A v) k ∧ (k % 2 = 0 ∨ gCh (dPg A v) (dL A v) (k + 1) = 0) then 1 else 0 : Nat) = 0 := if_neg c2
      rw [e5, e6]
  · have e2 : tnP A v (k + 1) = kTc A v := if_neg c
    have e3 : gMc (dPg A v) (dL A v) k = kTc A v := gM_last hX (p := k) (by have : kNp A v = gNp (dPg A v) (dL A v) (2 * dL A v) := rfl; omega)
    rw [e2, e1, e3, if_neg (fun z => c z.1)]
    rfl
theorem pf_arePages (hb : hB b B) (J : Jp b o so po (n + 3200) S A) (hg : gRow r ga A) (hv : v < 4) (hd : zDr A v) (h : ∀ S', Jp b o so po n S' A → Q 1 (S', r)) : w_L_arePages B o ga (nI v) (S, r) Q := by
  have hA := Jp_A J
  have w := rA_M hA
  have hn24 := w.2.1
  have hS := (rA_S hA).2.2.2.2
  obtain ⟨hX, l24, n48, t24⟩ := kX hA hv
  obtain ⟨n1, n2, n3⟩ := gNp_ok hX
  obtain ⟨rm1, rm2, rm3⟩ := dRm_ok hS
  obtain ⟨wn1, wn2⟩ := wanted hA
  have hE := eP_le hA
  have hL0 := dL_pos w hS hv hd.1
  have hN0 : 0 < kNp A v := gNp_pos hL0 hX
  have h48 := nP_48 hA
  have hz := gR_z hg w
  have hm24 := (dm_ok (v := v) w).1
  have hgN : ∀ k, k < kNp A v → (gS (dPg A v) (dL A v) k).1 < dL A v := n1
  have hgE : (gS (dPg A v) (dL A v) (kNp A v)).1 = dL A v := n2
  have htE : tnP A v (kNp A v) = kTc A v := if_neg (Nat.lt_irrefl _)
  have ht0 : tnP A v 0 = 0 := (if_pos hN0).trans gM_0
  have hup : ∀ k, k < kNp A v → (gS (dPg A v) (dL A v) (k + 1)).1 = (gS (dPg A v) (dL A v) k).1 + kCh A v k := fun k hk => (gS_up hX hk).1
  have hgl : ∀ k, (gS (dPg A v) (dL A v) k).1 ≤ dL A v := fun k => (gS_ok hX k).1
  have hR : ∀ k, k < kNp A v → kCh A v k ≤ dRm A := fun k hk => gCh_R dE_le rm2 rm1 l24 hk
  have htle : ∀ d k, k + d = kNp A v → tnP A v k ≤ kTc A v := by
    intro d
    induction d with
    | zero => intro k hk; rw [show k = kNp A v by omega, htE]; exact Nat.le_refl _
    | succ d ih =>
      intro k hk
      have h1 := ih (k + 1) (by omega)
      have h2 := (tnP_s (A := A) (v := v) hX (k := k) (by omega)).2
      omega
  unfold w_L_arePages
  refine rd_pages (n := n + 3199) hb J hv hd (fun S1 J1 => ?_)
  refine lp_for (fun k s => ∃ S2 bd, s = (nI (gS (dPg A v) (dL A v) k).1, nI (tnP A v k), nI bd, nI k, ((S2, r) : LwS)) ∧ bd ≤ gFt (dE A v) (kTl A v) (tnP A v k) ∧ Jp b o so po (n + 62 * (kNp A v - k) + 100) S2 A) (kNp A v) ?_ ?_ 0 (Nat.zero_le _) _ ⟨S1, 0, by rw [ht0]; rfl, Nat.zero_le _, Jp_dn J1 (by omega)⟩
  · rintro k hk K s ⟨S2, bd, rfl, hbd, J2⟩ hK
    obtain ⟨tn1, tn2⟩ := tnP_s (A := A) (v := v) hX hk
    have hk1 := hup k hk
    have hkl := hgl (k + 1)
    have hkR := hR k hk
    have htk := htle (kNp A v - k) k (by omega)
    have hbd24 : bd ≤ 24 := Nat.le_trans hbd (Nat.le_trans (gFt_le _) (Nat.le_trans htk t24))
    obtain ⟨nx, hnx1, hnx0, hnx6⟩ : ∃ nx : Nat, (k + 1 < kNp A v → nx = kCh A v (k + 1)) ∧ (¬ k + 1 < kNp A v → nx = 1) ∧ nx ≤ 6 := by
      by_cases c : k + 1 < kNp A v
      · exact ⟨_, fun _ => rfl, fun z => absurd c z, Nat.le_trans (hR _ c) rm2⟩
      · exact ⟨1, fun z => absurd z c, fun _ => rfl, by decide⟩
    have hblank : kCh A v k = 0 → k + 1 < kNp A v ∧ ¬ nx = 0 := fun z => by
      obtain ⟨b1, b2⟩ := gCh_blank hX hk z
      have b2' : 1 ≤ kCh A v (k + 1) := b2
      refine ⟨b1, ?_⟩
      rw [hnx1 b1]
      omega
    have J2' : Jp b o so po (n + 62 * (kNp A v - (k + 1)) + 100 + 60 + 1 + 1) S2 A := Jp_dn J2 (by omega)
    unfold w_L_arePages_L18
    dsimp only
    refine ⟨fun z => absurd z (nI_ge hk (by omega)), fun _ => ?_⟩
    refine rd_pageLines hb J2' hv hd hk (fun S3 J3 => ?_)
    rw [nI_1]
    refine ⟨fun x t => x = nI nx ∧ ∃ S', t = ((S', r) : LwS) ∧ Jp b o so po (n + 62 * (kNp A v - (k + 1)) + 100 + 60) S' A, ?_, fun z => ?_, fun z => ?_⟩
    rotate_left
    · have c : ¬ k + 1 < kNp A v := fun y => nI_ge y (by omega) z
      exact ⟨by rw [hnx0 c]; rfl, S3, rfl, Jp_dn J3 (Nat.le_succ _)⟩
    · have c : k + 1 < kNp A v := Nat.lt_of_not_le fun y => z (nI_le y (by omega))
      exact rd_pageLines hb J3 hv hd c (fun S4 J4 => ⟨by rw [hnx1 c], S4, rfl, J4⟩)
    rintro _ _ ⟨rfl, S4, rfl, J4⟩
    dsimp only
    have e2R : rG r ga (Int32.toNatClampNeg 2) = nI (dRm A) := (gR_2 hg).trans rm3
    rw [e2R]
    refine ⟨fun _ => vp4_2 hg, fun z => ?_, fun _ x32 hx32 => ?_⟩
    · exfalso
      rcases z with z | z | ⟨z, z2⟩
      · exact nI_pos (by omega) z
      · exact nI_nlt hkR (by omega) z
      · obtain ⟨b1, b2⟩ := hblank ((nI_eq (b := 0) (by omega) (by decide)).mp z)
        rcases z2 with z2 | z2
        · have := (nI_eq (by omega) (by omega)).mp z2
          omega
        · exact b2 ((nI_eq (b := 0) (by omega) (by decide)).mp z2)
    rw [nI_add, ← hk1] at hx32
    have erem : mRem (nI k) 2 = nI (k % 2) := pk_rem (a := k) (d := 2) (by omega) (by decide) (by decide)
    have erem0 : mRem (nI k) 2 = 0 ↔ k % 2 = 0 := by
      rw [erem]
      exact nI_eq (b := 0) (by omega) (by decide)
    have enx0 : nI nx = 0 ↔ nx = 0 := nI_eq (b := 0) (by omega) (by decide)
    refine ⟨fun a c t => a = nI (tnP A v (k + 1)) ∧ ∃ bd2 S', c = nI bd2 ∧ bd2 ≤ gFt (dE A v) (kTl A v) (tnP A v (k + 1)) ∧ t = ((S', r) : LwS) ∧ Jp b o so po (n + 62 * (kNp A v - (k + 1)) + 100) S' A, ?_, fun z => ?_, fun z => ?_⟩
    · rintro _ _ _ ⟨rfl, bd2, S', rfl, q1, rfl, J'⟩
      rw [hx32]
      exact hK _ ⟨S', bd2, rfl, q1, J'⟩
    · have hno : ¬ (k + 1 < kNp A v ∧ 1 ≤ kCh A v k ∧ (k % 2 = 0 ∨ kCh A v (k + 1) = 0)) := by
        rintro ⟨y1, y2, y3⟩
        rw [hnx1 y1] at z
        rcases z with z | z | ⟨z, z2⟩
        · exact nI_ge y1 (by omega) z
        · exact nI_nle (n := kCh A v k) y2 (by omega) z
        · rcases y3 with y3 | y3
          · exact z (erem0.mpr y3)
          · exact z2 (by rw [y3]; rfl)
      rw [if_neg hno] at tn2
      have tn2' : tnP A v (k + 1) = tnP A v k := tn2
      exact ⟨by rw [tn2'], bd, S4, rfl, by rw [tn2']; exact hbd, rfl, Jp_dn J4 (by omega)⟩
    · have c : k + 1 < kNp A v := Nat.lt_of_not_le fun y => z (Or.inl (nI_le y (by omega)))
      have c1 : 1 ≤ kCh A v k := Nat.one_le_iff_ne_zero.mpr fun y => z (Or.inr (Or.inl (by rw [y]; exact Int32.le_refl 0)))
      have c2 : k % 2 = 0 ∨ kCh A v (k + 1) = 0 := by
        by_cases y : k % 2 = 0
        · exact Or.inl y
        · refine Or.inr (Classical.byContradiction fun y2 => z (Or.inr (Or.inr ⟨fun y3 => y (erem0.mp y3), fun y3 => ?_⟩)))
          have := enx0.mp y3
          rw [hnx1 c] at this
          exact y2 this
      rw [if_pos ⟨c, c1, c2⟩] at tn2
      obtain ⟨u1, u2⟩ := gM_turn hX (p := k) c ⟨c1, c2⟩
      have u1' : tnP A v k < kTc A v := by rw [tn1]; exact u1
      have u2' : kTl A v (tnP A v k) = (gS (dPg A v) (dL A v) (k + 1)).1 := by rw [tn1]; exact u2
      obtain ⟨l, hl⟩ : ∃ l, l = (gS (dPg A v) (dL A v) (k + 1)).1 := ⟨_, rfl⟩
      have hl1 : 1 ≤ l := by omega
      have hlL : l < dL A v := by rw [hl]; exact hgN (k + 1) c
      rw [← hl] at u2' hx32
      obtain ⟨d1, d2, d3, d4, d5⟩ := dB_ok w hS hv hl1 hlL
      obtain ⟨f1, f2, f3, f4⟩ := dT_at hA hv hl1 hlL
      have f4' : zSt A (lP A) (zFp (lP A) (dB A v l)) ≤ 9216000 := by rw [← f4]; exact dT_le w (rA_T hA).2.1 d5
      have hdR := dR_le hA hv l
      rw [hx32]
      refine rd_firstItem hb (n := n + 62 * (kNp A v - (k + 1)) + 100 + 59) J4 hv hd hlL (fun S5 J5 => ?_)
      refine rd_itemBar hb (n := n + 62 * (kNp A v - (k + 1)) + 100 + 58) J5 hv hd d2 (fun S6 J6 x38 hx38 => ?_)
      have e38 : x38 = nI (dB A v l - 1) := hx38.trans (pk_sub (a := dB A v l) (b := 1) d4)
      have e38b : nI (dB A v l - 1) + 1 = nI (dB A v l) := by
        rw [nI_1]
        congr 1
        omega
      subst e38
      refine rd_turnRest hb (n := n + 62 * (kNp A v - (k + 1)) + 100 + 57) J6 hv hd u1' (fun S7 J7 => ?_)
      rw [u2']
      refine lp_for (fun j s => ∃ S8, s = (nI j, ((S8, r) : LwS)) ∧ Jp b o so po (n + 62 * (kNp A v - (k + 1)) + 100 + 7 + (zFp (lP A) (dB A v l) + 1 - j)) S8 A) (zFp (lP A) (dB A v l)) ?_ ?_ 0 (Nat.zero_le _) _ ⟨S7, rfl, Jp_dn J7 (by have : nP A ≤ 48 := h48; omega)⟩
      · rintro j hj K2 s ⟨S8, rfl, J8⟩ hK2
        have J8' : Jp b o so po (n + 62 * (kNp A v - (k + 1)) + 100 + 7 + (zFp (lP A) (dB A v l) + 1 - (j + 1)) + 1) S8 A := Jp_dn J8 (by omega)
        have hgj : gn (lP A) j < zN A := gn_lt (zPl_lt w (rA_T hA).2.1 (Nat.le_refl _)) (by have : (lP A).length = nP A := rfl; omega)
        unfold w_L_arePages_L153
        dsimp only
        rw [e38b, nI_1]
        refine rd_barAt hb J8' (by omega) (fun S9 J9 => ⟨fun y => ?_, fun _ => hK2 _ ⟨S9, by rw [nI_1], J9⟩⟩)
        exact absurd ((nI_eq (by omega) (by omega)).mp y) (f3 j hj)
      · rintro K2 s ⟨S8, rfl, J8⟩
        unfold w_L_arePages_L153
        dsimp only
        rw [e38b]
        refine rd_barAt hb (n := n + 62 * (kNp A v - (k + 1)) + 100 + 7) (Jp_dn J8 (by omega)) f1 (fun S9 J9 => ⟨fun _ => ?_, fun y => absurd (by rw [f2]) y⟩)
        refine rd_turnBar hb (n := n + 62 * (kNp A v - (k + 1)) + 100 + 6) J9 hv hd u1' (fun S10 J10 => ?_)
        rw [u2']
        refine ⟨fun _ => False, fun _ y => y.elim, fun _ => ?_, fun y => absurd rfl y⟩
        refine rd_turnTime hb (n := n + 62 * (kNp A v - (k + 1)) + 100 + 5) J10 hv hd u1' (fun S11 J11 => ?_)
        rw [u2']
        refine rd_startOf hb (n := n + 62 * (kNp A v - (k + 1)) + 100 + 4) J11 f1 (fun S12 J12 => ⟨fun y => ?_, fun _ => ?_⟩)
        · rcases y with y | y
          · exact y (by rw [f4])
          · exact nI_pos (by omega) y
        refine rd_playingTime (n := n + 62 * (kNp A v - (k + 1)) + 100 + 3) hb J12 (fun S13 J13 => ⟨fun y => nI_nlt hdR (by omega) y, fun _ => ?_⟩)
        refine rd_pageOf hb (n := n + 62 * (kNp A v - (k + 1)) + 100 + 2) J13 hv hd (k := dB A v l - 1) (by omega) (fun l2 pp g1 g2 S14 J14 => ?_)
        have el2 : l2 = l - 1 := isLn_1 g1 (ln_before hA hv hl1 hlL)
        have epp : pp = k := by
          rw [el2, hl] at g2
          exact isPg_1 g2 (pg_last hX hk c1)
        rw [epp]
        refine ⟨fun _ => ?_, fun y => absurd rfl y⟩
        refine rd_pageOf hb (n := n + 62 * (kNp A v - (k + 1)) + 100 + 1) J14 hv hd (k := dB A v l) d5 (fun l3 p3 g3 g4 S15 J15 x48 hx48 => ?_)
        have el3 : l3 = l := isLn_1 g3 (ln_at hA hv hlL)
        have e48 : nI p3 = x48 := by
          rw [el3, hl] at g4
          rw [hx48]
          by_cases y : kCh A v (k + 1) = 0
          · rw [if_pos (enx0.mpr (by rw [hnx1 c]; exact y)), isPg_1 g4 (pg_next2 hX c y)]
            exact (nI_add k 2).symm
          · rw [if_neg (fun y2 => y (by rw [← hnx1 c]; exact enx0.mp y2)), isPg_1 g4 (pg_next hX c (Nat.one_le_iff_ne_zero.mpr y))]
            exact (nI_1 k).symm
        refine ⟨fun _ => ⟨vp4_3 hg, fun x50 hx50 x51 hx51 => ?_⟩, fun y => absurd e48 y⟩
        have e3R : rG r ga (Int32.toNatClampNeg 3) = nI (aN (A.1 23)) := (gR_3 hg).trans wn2
        dsimp only at hx50
        rw [e3R] at hx50
        have hft : gFt (dE A v) (kTl A v) (tnP A v k + 1) = gFt (dE A v) (kTl A v) (tnP A v k) + (if dE A v (kTl A v (tnP A v k)) = 0 then 0 else 1) := rfl
        rw [u2'] at hft
        refine ⟨by rw [tn2, nI_1], bd + (if aN (A.1 23) ≤ dR A v l then 0 else 1), S15, ?_, ?_, rfl, Jp_dn J15 (Nat.le_succ _)⟩
        · rw [hx51, hx50]
          by_cases y : aN (A.1 23) ≤ dR A v l
          · rw [if_pos y, if_neg (fun y2 => y2 (nI_le y (by omega)))]
            exact nI_add bd 0
          · rw [if_neg y, if_pos (fun y2 => y ((nI_leI (by omega) (by omega)).mp y2))]
            exact nI_1 bd
        · rw [tn2, hft]
          by_cases y : aN (A.1 23) ≤ dR A v l
          · rw [if_pos y]
            omega
          · rw [if_neg y, if_neg (dE_bad (Nat.lt_of_not_le y))]
            omega
  · rintro K s ⟨S2, bd, rfl, hbd, J2⟩
    rw [htE] at hbd
    have hk48 := kSh_48 S A v hA hv
    have hBd : kBd A v ≤ kTc A v := gFt_le _
    have hbd2 : bd ≤ kBd A v := hbd
    unfold w_L_arePages_L18
    dsimp only
    refine ⟨fun _ => ?_, fun z => absurd (nI_le (Nat.le_refl _) (by omega)) z⟩
    rw [hgE, htE]
    refine rd_sheets (n := n + 99) hb (Jp_dn J2 (by omega)) hv hd (fun S3 J3 => ?_)
    refine rd_lines (n := n + 98) hb J3 hv hd (fun S4 J4 => ?_)
    refine ⟨fun x t => x = 1 ∧ ∃ S5, t = ((S5, r) : LwS) ∧ Jp b o so po (n + 70) S5 A, ?_, fun _ => False, fun _ z => z.elim, fun _ => ?_, fun z => absurd rfl z⟩
    · rintro _ _ ⟨rfl, S5, rfl, J5⟩
      have hsh12 : kSh A v ≤ 12 := by
        have : kSh A v = (kNp A v + 3) / 4 := rfl
        omega
      refine lp_for (fun j s => ∃ S6, s = ((1 : Int32), nI j, ((S6, r) : LwS)) ∧ Jp b o so po (n + 6 + 4 * (kSh A v - j)) S6 A) (kSh A v) ?_ ?_ 0 (Nat.zero_le _) _ ⟨S5, rfl, Jp_dn J5 (by omega)⟩
      · rintro j hj K2 s ⟨S6, rfl, J6⟩ hK2
        obtain ⟨s1, s2, s3, s4, s5⟩ := sh_1 (m := kSh A v) (k := j) hk48 hj
        have J6' : Jp b o so po (n + 6 + 4 * (kSh A v - (j + 1)) + 1 + 1 + 1 + 1) S6 A := Jp_dn J6 (by omega)
        unfold w_L_arePages_L350
        dsimp only
        refine ⟨fun z => absurd z (nI_ge hj (by omega)), fun _ => ?_⟩
        refine rd_sheetPage hb J6' hv hd hj 1 1 (fun S7 J7 => ?_)
        refine rd_sheetPage hb J7 hv hd hj 0 1 (fun S8 J8 => ?_)
        rw [if_pos rfl, if_neg one_ne, if_neg (fun z => one_ne (Eq.symm z)), if_pos rfl, s1, s2]
        refine ⟨fun x t => x = 1 ∧ ∃ S9, t = ((S9, r) : LwS) ∧ Jp b o so po (n + 6 + 4 * (kSh A v - (j + 1))) S9 A, ?_, fun _ => False, fun _ z => z.elim, fun z => ?_, fun _ => ?_⟩
        · rintro _ _ ⟨rfl, S9, rfl, J9⟩
          rw [nI_1]
          exact hK2 _ ⟨S9, rfl, J9⟩
        · rcases z with z | z
          · exact one_ne z
          · exact z rfl
        · refine rd_sheetPage hb J8 hv hd hj 1 0 (fun S9 J9 => ?_)
          rw [if_neg one_ne, if_neg one_ne, s3, s4]
          refine ⟨fun _ => ?_, fun z => absurd ⟨rfl, rfl⟩ z⟩
          refine rd_sheetPage hb J9 hv hd hj 0 0 (fun S10 J10 => ?_)
          rw [if_pos rfl, if_pos rfl, s5]
          exact ⟨fun _ => ⟨rfl, S10, rfl, J10⟩, fun z => absurd rfl z⟩
      · rintro K2 s ⟨S6, rfl, J6⟩
        unfold w_L_arePages_L350
        dsimp only
        refine ⟨fun _ => ?_, fun z => absurd (nI_le (Nat.le_refl _) (by omega)) z⟩
        refine ⟨fun x t => x = 1 ∧ ∃ S', t = ((S', r) : LwS) ∧ Jp b o so po n S' A, ?_, fun _ => False, fun _ z => z.elim, fun z => absurd z one_ne, fun _ => ?_⟩
        · rintro _ _ ⟨rfl, S', rfl, J'⟩
          exact ⟨Or.inr rfl, h S' J'⟩
        refine rd_pageLines_out (n := n + 5) hb (Jp_dn J6 (by omega)) hv hd (Or.inr (fun z => Int32.lt_irrefl z)) (fun S7 J7 => ⟨fun _ => ?_, fun z => absurd rfl z⟩)
        refine rd_turnBar_out (n := n + 4) hb J7 hv hd (Or.inr (fun z => Int32.lt_irrefl z)) (fun S8 J8 => ⟨fun _ => ?_, fun z => absurd rfl z⟩)
        refine rd_turnTime_out (n := n + 3) hb J8 hv hd (Or.inr (fun z => Int32.lt_irrefl z)) (fun S9 J9 => ⟨fun _ => ?_, fun z => absurd rfl z⟩)
        refine rd_turnRest_out (n := n + 2) hb J9 hv hd (Or.inl (by decide)) (fun S10 J10 => ⟨fun _ => ⟨vp4_0 hg, ?_⟩, fun z => absurd rfl z⟩)
        dsimp only
        rw [hz]
        refine rd_pageOf_out (n := n + 1) hb J10 hv hd (isBar_n w) (fun S11 J11 => ⟨fun _ => ?_, fun z => absurd rfl z⟩)
        exact rd_sheetPage_out (n := n) hb J11 hv hd (Or.inr (fun z => Int32.lt_irrefl z)) 1 1 (fun S12 J12 => ⟨fun _ => ⟨rfl, S12, rfl, J12⟩, fun z => absurd rfl z⟩)
    · refine rd_pageTurns (n := n + 97) hb J4 hv hd (fun S5 J5 => ⟨fun _ => ?_, fun z => absurd rfl z⟩)
      refine rd_badTurns (n := n + 96) hb J5 hv hd (fun S6 J6 => ⟨fun z => nI_nlt hbd2 (by omega) z, fun _ => ?_⟩)
      refine rd_badTurns (n := n + 95) hb J6 hv hd (fun S7 J7 => ⟨fun z => ?_, fun _ => ⟨rfl, S7, rfl, Jp_dn J7 (by omega)⟩⟩)
      rcases z with z | z
      · exact nI_nlt hBd (by omega) z
      · refine z ?_
        rw [show (3 : Int32) = nI 3 from rfl, nI_add]
        exact (pk_div (a := kNp A v + 3) (d := 4) (by omega) (by decide) (by decide)).symm
end DP
