/-! P57: THE LAW'S METHODS (6): fills -/
/-- what the law knows between two acts -/
def lwI (b : Nat × Nat) (o so po : Nat) (r : LR) (ga ta n : Nat) (S : CS) (A : MS) : Prop := Jp b o so po n S A ∧ gdW A ∧ gRow r ga A ∧ tRow r ta A
section DF
variable {b B : Nat × Nat} {o so po n ga ta v i : Nat} {S : CS} {A A' : MS} {r : LR} {Q : Int32 → LwS → Prop}
theorem tR_at (h : tRow r ta A) (hv : v < 4) : rG r ta (Int32.toNatClampNeg (nI v)) = A.2 13 v := by
  obtain ⟨f, h1, h2⟩ := h
  rw [rG_some h1, nI_clamp (by omega)]
  exact h2 v hv
theorem tR_vp (h : tRow r ta A) (hv : v < 4) : vp_in (nI v) (rN r ta) := by
  obtain ⟨f, h1, h2⟩ := h
  rw [rN_some h1]
  exact vp_nI (n := 4) hv (by decide)
theorem lwI_dn (h : lwI b o so po r ga ta n S A) {m : Nat} (hm : m ≤ n) : lwI b o so po r ga ta m S A := ⟨Jp_dn h.1 hm, h.2⟩
theorem lwI_k (h : lwI b o so po r ga ta n S A) {m : Nat} {S' : CS} (hJ : Jp b o so po m S' A') (h0 : A'.1 0 = A.1 0) (h1 : A'.1 21 = A.1 21) (h2 : A'.1 22 = A.1 22) (h3 : A'.1 23 = A.1 23) (h13 : A'.2 13 = A.2 13) (hW : gdW A') : lwI b o so po r ga ta m S' A' := ⟨hJ, hW, gRow_k h.2.2.1 h0 h1 h2 h3, tRow_k h.2.2.2 h13⟩
theorem zWr_is {j pp : Nat} (hp : A.2 8 (zp v i j) = nI pp) (hpp : pp ≤ 127) (hT : tRow r ta A) (hv : v < 4) : zWr A v i j = if (nI pp) = 0 then ((-1) : Int32) else (nI pp + (rG r ta (Int32.toNatClampNeg (nI v)))) := by
  unfold zWr
  rw [hp, aN_nI (by omega), tR_at hT hv]
  by_cases c : pp = 0
  · rw [if_pos c, if_pos (by rw [c]; rfl)]
  · rw [if_neg c, if_neg (nI_ne0 (by omega) (by omega))]
def fl1 (b : Nat × Nat) (o so po : Nat) (r : LR) (ga ta v i : Nat) (n : Nat) (L m : Int32) (S : CS) (A : MS) : Prop := lwI b o so po r ga ta n S A ∧ i < zN A ∧ m = nI (zE A v i) ∧ L = nI (zL A i - zS A v i (zE A v i))
theorem pf_fills (hb : hB b B) (I : lwI b o so po r ga ta (n + 2540) S A) (hv : v < 4) (hi : i < zN A) {kk pp : Nat} (hkk : kk < 6) (hpp : pp = 0 ∨ (40 ≤ pp ∧ pp ≤ 42)) (h : ∀ S' A', lwI b o so po r ga ta n S' A' → Q 1 (S', r)) : w_L_fills B o ta (nI v) (nI i) (nI kk) (nI pp) (S, r) Q := by
  have hpx : pp ≤ 127 := by omega
  have hpN : nI pp = 0 ∨ ∃ m : Nat, 40 ≤ m ∧ m ≤ 42 ∧ nI pp = nI m := by
    rcases hpp with z | ⟨z1, z2⟩
    · exact Or.inl (by rw [z]; rfl)
    · exact Or.inr ⟨pp, z1, z2, rfl⟩
  unfold w_L_fills
  refine rd_left (n := n + 2539) hb I.1 hv hi (fun S1 J1 => ?_)
  refine rd_events (n := n + 2538) hb J1 hv hi (fun S2 J2 => ?_)
  refine lp_for (fun k s => ∃ (S' : CS) (A' : MS) (L m : Int32) (nx : Nat), s = ((1 : Int32), L, m, nI nx, nI k, ((S', r) : LwS)) ∧ nx ≤ 6 ∧ fl1 b o so po r ga ta v i (n + 10 + 105 * (24 - k)) L m S' A') 24 ?_ ?_ 0 (Nat.zero_le _) _ ⟨S2, A, _, _, kk, rfl, by omega, ⟨Jp_dn J2 (by omega), I.2⟩, hi, rfl, rfl⟩
  · rintro k hk K s ⟨S3, A3, L, m, nx, rfl, hnx, I3, hi3, hm, hL⟩ hK
    have hM := rA_M (Jp_A I3.1)
    have hn24 := hM.2.1
    have he16 := (z_r hM hi3 hv).1
    have hLL := z_len hM hi3
    have hsL := z_sL hM hi3 hv (Nat.le_refl (zE A3 v i))
    unfold w_L_fills_L26
    dsimp only
    by_cases c : 6 ≤ nx ∨ 16 ≤ zE A3 v i
    · refine ⟨True, fun _ => ?_, fun _ => trivial, fun _ => ⟨fun _ => trivial, fun z => ?_⟩⟩
      · refine ⟨fun x t => x = 1 ∧ ∃ S' A', t = ((S', r) : LwS) ∧ lwI b o so po r ga ta n S' A', ?_, fun _ => False, fun _ z => z.elim, fun z => absurd z one_ne, fun _ => ?_⟩
        · rintro _ _ ⟨rfl, S', A', rfl, I'⟩
          exact ⟨Or.inr rfl, h S' A' I'⟩
        refine rd_events (n := n + 9) hb (Jp_dn I3.1 (by omega)) hv hi3 (fun S4 J4 => ⟨fun _ => ⟨rfl, S4, A3, rfl, Jp_dn J4 (by omega), I3.2⟩, fun z => absurd hm.symm z⟩)
      · exfalso
        refine z (Or.inr ?_)
        rcases c with c | c
        · exact Or.inl (nI_le (a := 6) (b := nx) c (by omega))
        · refine Or.inr ?_
          rw [hm]
          exact nI_le (a := 16) (b := zE A3 v i) c (by omega)
    · have hnx6 : nx < 6 := by omega
      have he15 : zE A3 v i < 16 := by omega
      refine ⟨False, fun z => z.elim, fun z => nI_ge (a := k) (b := 24) hk (by decide) z, fun _ => ⟨fun z => ?_, fun _ x8 hx8 => ?_⟩⟩
      · rcases z with z | z | z
        · exact one_ne z
        · exact nI_ge (a := nx) (b := 6) hnx6 (by decide) z
        · rw [hm] at z
          exact nI_ge (a := zE A3 v i) (b := 16) he15 (by decide) z
      obtain ⟨tk1, tk2, tk3⟩ := tk_ok hnx6 (f := 0) (by decide)
      obtain ⟨T, hT⟩ : ∃ T, T = aN (tk (nI nx) (nI 0)) := ⟨_, rfl⟩
      rw [← hT] at tk1 tk2 tk3
      have e8 : x8 = nI T := by
        rw [hx8, ← tk1]
        exact ((if_neg (by decide)).trans (if_neg (by decide))).symm
      obtain ⟨LL, hLe⟩ : ∃ LL, LL = zL A3 i - zS A3 v i (zE A3 v i) := ⟨_, rfl⟩
      rw [← hLe] at hL
      refine ⟨fun x9 x10 x11 x12 t => x9 = 1 ∧ ∃ S' A' nx', t = ((S', r) : LwS) ∧ x12 = nI nx' ∧ nx' ≤ 6 ∧ fl1 b o so po r ga ta v i (n + 10 + 105 * (24 - (k + 1))) x10 x11 S' A', ?_, fun z x14 hx14 => ?_, fun z => ⟨rfl, S3, A3, nx + 1, rfl, nI_1 nx, hnx6, lwI_dn I3 (by omega), hi3, hm, by rw [hL, hLe]⟩⟩
      · rintro _ x10 x11 _ _ ⟨rfl, S', A', nx', rfl, rfl, hn', f'⟩
        exact hK _ ⟨S', A', x10, x11, nx', by rw [nI_1], hn', f'⟩
      · rw [e8, hL] at z
        have hTL : T ≤ LL := (nI_leI (by omega) (by omega)).mp z
        have e14 : x14 = nI (LL - T) := by rw [hx14, hL, e8]; exact pk_sub hTL
        have J3' : Jp b o so po (n + 10 + 105 * (24 - (k + 1)) + 5 + 100) S3 A3 := Jp_dn I3.1 (by omega)
        have hfit : insFit A3 v i (nI pp) (nI nx) (nI 0) := ⟨he15, by rw [← hT]; omega, wr_ok (I3.2.1.2 v hv) hpN⟩
        rw [hm]
        refine ins_ok (ff := 0) (j := zE A3 v i) hb J3' hv hi3 (Nat.le_refl _) hnx6 (by decide) hpx (fun z => absurd z.2 (by decide)) hfit (fun S4 J4 => ?_)
        obtain ⟨A4, hA4⟩ : ∃ A4, A4 = insA A3 v i (zE A3 v i) (aN (A3.1 14)) (nI pp) (nI nx) (nI 0) := ⟨_, rfl⟩
        have hI : Ins A3 A4 v i (zE A3 v i) (aN (A3.1 14)) (nI pp) (nI nx) (nI 0) := by rw [hA4]; exact insA_ok
        obtain ⟨-, hE4, hS4⟩ := in_M hM hI hv hi3 he15 (Nat.le_refl _) hnx6 (ff := 0) (by decide) rfl rfl rfl hpx hfit.2.1
        have hW4 : gdW A4 := by rw [hA4]; exact gdW_in hM I3.2.1 hv hi3 he15 (Nat.le_refl _) hpN
        rw [← hA4] at J4
        have hL4 : zL A4 = zL A3 := (in_l hI).1
        have hi4 : i < zN A4 := by rw [in_n hI]; exact hi3
        have hp4 : A4.2 8 (zp v i (zE A3 v i)) = nI pp := by
          have := in_s hI he15 (f := 8) (Nat.le_refl _) (Nat.le_refl (zE A3 v i)) (by decide) (by decide)
          rw [if_neg (Nat.lt_irrefl _), if_pos rfl] at this
          exact this
        have I4 : ∀ m S', Jp b o so po m S' A4 → lwI b o so po r ga ta m S' A4 := fun m S' J => lwI_k I3 J (by rw [hA4]; rfl) (by rw [hA4]; rfl) (by rw [hA4]; rfl) (by rw [hA4]; rfl) (by rw [hA4]; rfl) hW4
        have eL : nI (zL A3 i - (zS A3 v i (zE A3 v i) + aN (tk (nI nx) (nI 0)))) = x14 := by
          rw [← hT, e14]
          congr 1
          omega
        have eL4 : nI (zL A4 i - zS A4 v i (zE A4 v i)) = x14 := by
          rw [hL4, hE4, hS4]
          exact eL
        refine ⟨fun x t => x = 1 ∧ ∃ S', t = ((S', r) : LwS) ∧ Jp b o so po (n + 10 + 105 * (24 - (k + 1))) S' A4, ?_, fun _ => False, fun _ z => z.elim, fun _ => ?_, fun z => absurd eL z⟩
        · rintro _ _ ⟨rfl, S', rfl, J'⟩
          exact ⟨rfl, S', A4, nx, rfl, rfl, hnx, I4 _ _ J', hi4, by rw [nI_1, hE4], by rw [eL4]⟩
        refine rd_left hb J4 hv hi4 (fun S5 J5 => ⟨fun _ => ?_, fun z => absurd eL4 z⟩)
        refine rd_written (j := zE A3 v i) hb J5 hv hi4 (by rw [hE4]; exact Nat.lt_succ_self _) (fun S6 J6 => ⟨fun _ => tR_vp I3.2.2.2 hv, fun x21 hx21 => ⟨fun _ => ⟨rfl, S6, rfl, Jp_dn J6 (by omega)⟩, fun z => absurd ?_ z⟩⟩)
        rw [hx21]
        exact zWr_is hp4 hpx (I4 _ _ J4).2.2.2 hv
  · rintro K s ⟨S3, A3, L, m, nx, rfl, hnx, I3, hi3, hm, hL⟩
    unfold w_L_fills_L26
    dsimp only
    refine ⟨True, fun _ => ?_, fun _ => trivial, fun z => absurd (nI_le (Nat.le_refl _) (by decide)) z⟩
    refine ⟨fun x t => x = 1 ∧ ∃ S' A', t = ((S', r) : LwS) ∧ lwI b o so po r ga ta n S' A', ?_, fun _ => False, fun _ z => z.elim, fun z => absurd z one_ne, fun _ => ?_⟩
    · rintro _ _ ⟨rfl, S', A', rfl, I'⟩
      exact ⟨Or.inr rfl, h S' A' I'⟩
    refine rd_events (n := n + 9) hb (Jp_dn I3.1 (by omega)) hv hi3 (fun S4 J4 => ⟨fun _ => ⟨rfl, S4, A3, rfl, Jp_dn J4 (by omega), I3.2⟩, fun z => absurd hm.symm z⟩)
end DF
