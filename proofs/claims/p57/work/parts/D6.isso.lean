/-! P57: THE LAW'S METHODS (5): isSo -/
section DI
variable {b B : Nat × Nat} {o so po n ga v : Nat} {S : CS} {A : MS} {r : LR} {Q : Int32 → LwS → Prop} {N : Int32 → LwS → Prop}
theorem lc_own {F : Nat × Nat → (Int32 → LwS → Prop) → Prop} (hb : hB b B) (J : Jp b o so po n S A) (h : F B (fun x t' => szC t'.1 ≤ B.1 → nsC t'.1 ≤ B.2 → N x t')) : lcall B (S, r) F N := by
  obtain ⟨h1, h2⟩ := Jp_sz (k := 0) hb (Jp_dn (m := n + 0) J (Nat.le_refl _))
  exact ⟨B, ⟨Nat.le_refl _, Nat.le_refl _⟩, ⟨by show szC S ≤ B.1; omega, by show nsC S ≤ B.2; omega⟩, h⟩
def isU (k one : Nat) : Nat := if k ≤ one then 3640 else 0
theorem pf_isSo (hb : hB b B) (J : Jp b o so po (n + 4500) S A) (hg : gRow r ga A) (hm : mkOK A) {x : Int32} (h : ∀ S' r', Jp b o so po n S' A → rExt r r' → Q 1 (S', r')) : w_L_isSo B o ga x (S, r) Q := by
  have hA := Jp_A J
  have w := rA_M hA
  obtain ⟨one, ho4, heo⟩ := low_in (x >>> (3 &&& 31)) (d := 4) (by decide) (by decide)
  have hn3 : ((-1000003 : Int32) < 0) := by decide
  have e34 : isU 0 one = 3640 := if_pos (Nat.zero_le _)
  unfold w_L_isSo
  refine lc_own hb J (pf_isPlayed (n := n + 4000) hb J hg (fun S1 J1 _ _ => ?_))
  refine ⟨fun y t => y = 1 ∧ ∃ S' r', t = ((S', r') : LwS) ∧ Jp b o so po (n + 10 + 30 * 4 + isU 0 one) S' A ∧ rExt r r', ?_, fun _ => False, fun _ z => z.elim, fun z => absurd z one_ne, fun _ => ?_⟩
  · rintro _ _ ⟨rfl, S2, r2, rfl, J2, hr2⟩
    refine ⟨low_d (d := 4) (by decide) (by decide) _, fun x5 hx5 => ?_⟩
    have e5 : x5 = nI one := hx5.trans heo
    refine lp_for (fun k s => ∃ S' r', s = ((1 : Int32), nI k, ((S', r') : LwS)) ∧ Jp b o so po (n + 10 + 30 * (4 - k) + isU k one) S' A ∧ rExt r r') 4 ?_ ?_ 0 (Nat.zero_le _) _ ⟨S2, r2, rfl, J2, hr2⟩
    · rintro k hk K s ⟨S3, r3, rfl, J3, hr3⟩ hK
      have hU : isU (k + 1) one ≤ isU k one := by
        unfold isU
        by_cases c : k + 1 ≤ one
        · rw [if_pos c, if_pos (by omega)]
          exact Nat.le_refl _
        · rw [if_neg c]
          exact Nat.zero_le _
      have hU2 : k = one → isU (k + 1) one + 3640 ≤ isU k one := fun c => by
        unfold isU
        rw [if_neg (by omega), if_pos (by omega)]
        decide
      have hg3 := gRow_e hg hr3
      have J3' : Jp b o so po (n + 10 + 30 * (4 - (k + 1)) + isU (k + 1) one + 20 + 1) S3 A := Jp_dn J3 (by omega)
      unfold w_L_isSo_L34
      dsimp only
      rw [e5, nI_1]
      refine ⟨False, fun z => z.elim, fun z => nI_ge (a := k) (b := 4) hk (by decide) z, fun _ => ⟨fun z => one_ne z, fun _ => ?_⟩⟩
      by_cases hd : zDr A k
      · by_cases e : k = one
        · have J3b : Jp b o so po (n + 10 + 30 * (4 - (k + 1)) + isU (k + 1) one + 3200 + 100 + 300 + 2) S3 A := Jp_dn J3 (by have := hU2 e; omega)
          refine rd_items hb J3b hk hd (fun S4 J4 => ⟨fun y t => y = 1 ∧ ∃ S' r', t = ((S', r') : LwS) ∧ Jp b o so po (n + 10 + 30 * (4 - (k + 1)) + isU (k + 1) one) S' A ∧ rExt r r', ?_, fun _ => ?_, fun z => absurd (Or.inr (by rw [e])) z⟩)
          · rintro _ _ ⟨rfl, S', r', rfl, J', hr'⟩
            exact hK _ ⟨S', r', rfl, J', hr'⟩
          have hmm := (dm_ok (v := k) w).1
          refine rd_items hb J4 hk hd (fun S5 J5 => ⟨fun z => absurd z (nI_pos (by omega)), fun _ => ?_⟩)
          refine lc_own hb J5 (pf_areItems (n := n + 10 + 30 * (4 - (k + 1)) + isU (k + 1) one + 3200 + 100) hb J5 hg3 hk hd (fun S6 J6 _ _ => ?_))
          refine ⟨fun y t => y = 1 ∧ ∃ S' r', t = ((S', r') : LwS) ∧ Jp b o so po (n + 10 + 30 * (4 - (k + 1)) + isU (k + 1) one) S' A ∧ rExt r r', ?_, fun _ => False, fun _ z => z.elim, fun z => absurd z one_ne, fun _ => ?_⟩
          · rintro _ _ ⟨rfl, S', r', rfl, J', hr'⟩
            exact ⟨rfl, S', r', rfl, J', hr'⟩
          refine lc_own hb J6 (pf_areLines (n := n + 10 + 30 * (4 - (k + 1)) + isU (k + 1) one + 3200) hb J6 hg3 hk hd (fun S7 r7 J7 hr7 _ _ => ⟨fun z => absurd z one_ne, fun _ => ?_⟩))
          exact lc_own hb J7 (pf_arePages (n := n + 10 + 30 * (4 - (k + 1)) + isU (k + 1) one) hb J7 (gRow_e hg3 hr7) hk hd (fun S8 J8 _ _ => ⟨fun z => absurd z one_ne, fun _ => ⟨rfl, S8, r7, rfl, J8, rExt_trans hr3 hr7⟩⟩))
        · have hmm := (dm_ok (v := k) w).1
          refine rd_items hb J3' hk hd (fun S4 J4 => ⟨fun y t => y = 1 ∧ ∃ S' r', t = ((S', r') : LwS) ∧ Jp b o so po (n + 10 + 30 * (4 - (k + 1)) + isU (k + 1) one) S' A ∧ rExt r r', ?_, fun z => ?_, fun _ => ?_⟩)
          · rintro _ _ ⟨rfl, S', r', rfl, J', hr'⟩
            exact hK _ ⟨S', r', rfl, J', hr'⟩
          · exfalso
            rcases z with z | z
            · exact nI_pos (by omega) z
            · exact e ((nI_eq (by omega) (by omega)).mp z)
          refine rd_badness (n := n + 10 + 30 * (4 - (k + 1)) + isU (k + 1) one + 19) hb J4 hk hd (fun S5 J5 => ?_)
          intro x41 hx41
          rw [hx41]
          have hZ : dZ A k ≤ 32640000 := by
            obtain ⟨p1, p2, p3, p4, p5⟩ := part_W hA hk
            exact bT_le p1 p4 (fun j hj => (p5 j hj).1)
          exact ⟨if_pos (nI_pos (by omega)), S5, r3, rfl, Jp_dn J5 (by omega), hr3⟩
      · refine rd_items_no hb J3' hk hd (fun S4 J4 => ⟨fun y t => y = 1 ∧ ∃ S' r', t = ((S', r') : LwS) ∧ Jp b o so po (n + 10 + 30 * (4 - (k + 1)) + isU (k + 1) one) S' A ∧ rExt r r', ?_, fun _ => ?_, fun z => absurd (Or.inl hn3) z⟩)
        · rintro _ _ ⟨rfl, S', r', rfl, J', hr'⟩
          exact hK _ ⟨S', r', rfl, J', hr'⟩
        refine rd_items_no hb J4 hk hd (fun S5 J5 => ⟨fun _ => ?_, fun z => absurd hn3 z⟩)
        refine rd_lines_no hb J5 hk hd (fun S6 J6 => ?_)
        refine ⟨fun y t => y = 1 ∧ ∃ S' r', t = ((S', r') : LwS) ∧ Jp b o so po (n + 10 + 30 * (4 - (k + 1)) + isU (k + 1) one) S' A ∧ rExt r r', ?_, fun _ => False, fun _ z => z.elim, fun _ => ?_, fun z => absurd rfl z⟩
        · rintro _ _ ⟨rfl, S', r', rfl, J', hr'⟩
          exact ⟨rfl, S', r', rfl, J', hr'⟩
        refine rd_firstItem_no hb J6 hk hd 0 (fun S7 J7 => ⟨fun _ => ?_, fun z => absurd rfl z⟩)
        refine rd_badness_no hb J7 hk hd (fun S8 J8 => ⟨fun _ => ?_, fun z => absurd rfl z⟩)
        refine rd_pages_no hb J8 hk hd (fun S9 J9 => ⟨fun _ => ?_, fun z => absurd rfl z⟩)
        refine rd_pageLines_no hb J9 hk hd 0 (fun S10 J10 => ⟨fun _ => ?_, fun z => absurd rfl z⟩)
        refine rd_pageOf_no hb J10 hk hd 0 (fun S11 J11 => ⟨fun _ => ?_, fun z => absurd rfl z⟩)
        refine rd_pageTurns_no hb J11 hk hd (fun S12 J12 => ⟨fun _ => ?_, fun z => absurd rfl z⟩)
        refine rd_turnBar_no hb J12 hk hd 0 (fun S13 J13 => ⟨fun _ => ?_, fun z => absurd rfl z⟩)
        refine rd_badTurns_no hb J13 hk hd (fun S14 J14 => ⟨fun _ => ?_, fun z => absurd rfl z⟩)
        refine rd_sheets_no hb J14 hk hd (fun S15 J15 => ⟨fun _ => ?_, fun z => absurd rfl z⟩)
        refine rd_sheetPage_no hb J15 hk hd 0 1 1 (fun S16 J16 => ⟨fun _ => ?_, fun z => absurd rfl z⟩)
        exact rd_itemWidth_no hb J16 hk hd 0 (fun S17 J17 => ⟨fun _ => ⟨rfl, S17, r3, rfl, Jp_dn J17 (by omega), hr3⟩, fun z => absurd rfl z⟩)
    · rintro K s ⟨S3, r3, rfl, J3, hr3⟩
      unfold w_L_isSo_L34
      dsimp only
      refine ⟨True, fun _ => ?_, fun _ => trivial, fun z => absurd (nI_le (Nat.le_refl _) (by decide)) z⟩
      refine ⟨fun y t => y = 1 ∧ ∃ S' r', t = ((S', r') : LwS) ∧ Jp b o so po n S' A ∧ rExt r r', ?_, fun _ => False, fun _ z => z.elim, fun z => absurd z one_ne, fun _ => ?_⟩
      · rintro _ _ ⟨rfl, S', r', rfl, J', hr'⟩
        exact ⟨Or.inr rfl, h S' r' J' hr'⟩
      refine rd_items_bad (n := n + 4) hb (Jp_dn J3 (by omega)) isV_4 (fun S4 J4 => ⟨fun _ => ?_, fun z => absurd rfl z⟩)
      refine rd_lines_bad (n := n + 3) hb J4 isV_m (fun S5 J5 => ⟨fun _ => ?_, fun z => absurd rfl z⟩)
      refine rd_pages_bad (n := n + 2) hb J5 isV_4 (fun S6 J6 => ⟨fun _ => ?_, fun z => absurd rfl z⟩)
      refine rd_turnRest_bad (n := n + 1) hb J6 isV_4 0 (fun S7 J7 => ⟨fun _ => ?_, fun z => absurd rfl z⟩)
      exact rd_sheetPage_bad (n := n) hb J7 isV_4 0 1 1 (fun S8 J8 => ⟨fun _ => ⟨rfl, S8, r3, rfl, J8, hr3⟩, fun z => absurd rfl z⟩)
  · refine lc_own hb J1 (pf_areSounds (n := n + 10 + 30 * 4 + isU 0 one) hb (Jp_dn J1 (by omega)) hm (fun S2 r2 J2 hr2 _ _ => ⟨fun z => absurd z one_ne, fun _ => ⟨rfl, S2, r2, rfl, J2, hr2⟩⟩))
end DI
