/-! P57: THE LAW'S METHODS (2): areItems -/
def iEd (A : MS) (v k : Nat) : Nat := if k < dm A v then iFb A v k else zN A
section DI
variable {b B : Nat × Nat} {o so po n ga v : Nat} {S : CS} {A : MS} {r : LR} {Q : Int32 → LwS → Prop}
theorem part_I (hd : zDr A v) : 0 < dm A v ∧ iEd A v 0 = 0 ∧ iEd A v (dm A v) = zN A ∧ ∀ k, k < dm A v → iFb A v k = iEd A v k ∧ iEd A v k + iBc A v k = iEd A v (k + 1) ∧ 1 ≤ iBc A v k ∧ iEd A v (k + 1) ≤ zN A := by
  have ok := zIt_ok (A := A) (v := v) (zN A)
  obtain ⟨h1, h2, h3, h4, h5⟩ := id ok
  have hpos : 0 < dm A v := dm_pos hd.1
  have hE : ∀ k, k < dm A v → iEd A v k = iFb A v k := fun k hk => if_pos hk
  refine ⟨hpos, (hE 0 hpos).trans (h5 hpos), if_neg (Nat.lt_irrefl _), fun k hk => ?_⟩
  have hk' : k < (zIt A v (zN A)).1 := hk
  have e : iFb A v k + iBc A v k = iEd A v (k + 1) := by
    by_cases c : k + 1 < dm A v
    · rw [hE _ c]
      exact h2 k c
    · have e1 : iEd A v (k + 1) = zN A := if_neg c
      rw [e1]
      have h9 := h3 hpos
      have e2 : (zIt A v (zN A)).1 - 1 = k := by
        have : dm A v = (zIt A v (zN A)).1 := rfl
        omega
      rw [e2] at h9
      exact h9
  refine ⟨(hE k hk).symm, by rw [hE k hk]; exact e, (h1 k hk').1, ?_⟩
  rw [← e]
  exact itOk_end ok hk'
theorem part_K {k : Nat} (hk : k < dm A v) : (iKd A v k = 0 ∨ iKd A v k = 1 ∨ iKd A v k = 2) ∧ (¬ iKd A v k = 1 → iBc A v k = 1) ∧ (¬ iKd A v k = 2 → iCu A v k = -1) ∧ (iKd A v k = 1 → 13 ≤ dW A v k) := by
  have ok := zIt_ok (A := A) (v := v) (zN A)
  obtain ⟨a1, a2, a3⟩ := ok.1 k hk
  rcases a3 with ⟨q1, q2, q3⟩ | ⟨q1, q2⟩ | ⟨q1, q2, u, q3, q4⟩
  · have q1' : iKd A v k = 0 := q1
    exact ⟨Or.inl q1, fun _ => q2, fun _ => q3, fun z => by omega⟩
  · have q1' : iKd A v k = 1 := q1
    refine ⟨Or.inr (Or.inl q1), fun z => absurd q1 z, fun _ => q2, fun _ => ?_⟩
    show 13 ≤ zWi A v (zIt A v (zN A)) k
    unfold zWi
    rw [if_neg (by rw [q1]; decide), if_pos q1]
    omega
  · have q1' : iKd A v k = 2 := q1
    exact ⟨Or.inr (Or.inr q1), fun _ => q2, fun z => absurd q1 z, fun z => by omega⟩
theorem pf_areItems (hb : hB b B) (J : Jp b o so po (n + 300) S A) (hg : gRow r ga A) (hv : v < 4) (hd : zDr A v) (h : ∀ S', Jp b o so po n S' A → Q 1 (S', r)) : w_L_areItems B o ga (nI v) (S, r) Q := by
  have hA := Jp_A J
  have w := rA_M hA
  have hn := w.2.1
  have hm24 := (dm_ok (v := v) w).1
  have hz := gR_z hg w
  obtain ⟨p1, -, -, -, p5⟩ := part_W hA hv
  obtain ⟨i1, i2, i3, i4⟩ := part_I hd
  have iX := zIt_X (A := A) (v := v) (zN A)
  have hle : ∀ k, k ≤ dm A v → iEd A v k ≤ zN A := fun k hk => by
    by_cases c : k = dm A v
    · rw [c, i3]
      exact Nat.le_refl _
    · have := (i4 k (by omega)).2.1
      have := (i4 k (by omega)).2.2.2
      omega
  unfold w_L_areItems
  refine rd_items (n := n + 299) hb J hv hd (fun S1 J1 => ?_)
  refine lp_for (fun k s => ∃ S2, s = (nI (iEd A v k), nI k, ((S2, r) : LwS)) ∧ Jp b o so po (n + 9 * (dm A v - k) + (zN A - iEd A v k) + 10) S2 A) (dm A v) ?_ ?_ 0 (Nat.zero_le _) _ ⟨S1, by rw [i2]; rfl, Jp_dn J1 (by omega)⟩
  · rintro k hk K s ⟨S2, rfl, J2⟩ hK
    obtain ⟨a1, a2, a3, a4⟩ := i4 k hk
    obtain ⟨b1, b2, b3, b4⟩ := part_K (A := A) (v := v) hk
    obtain ⟨c1, c2, c3⟩ := iX k hk
    have c4 : PLift _ := ⟨c3⟩
    clear c3
    have c1' : iKd A v k = 0 → ¬ zE A v (iFb A v k) = 0 := c1
    have c2' : ¬ iKd A v k = 0 → ∀ j, j < iBc A v k → zE A v (iFb A v k + j) = 0 := c2
    have hek := hle k (by omega)
    unfold w_L_areItems_L12
    dsimp only
    refine ⟨fun z => absurd z (nI_ge hk (by omega)), fun _ => ?_⟩
    have J2' : Jp b o so po (n + 9 * (dm A v - (k + 1)) + (zN A - iEd A v k) + 10 + 4 + 5) S2 A := Jp_dn J2 (by omega)
    refine rd_itemKind hb J2' hv hd hk (fun S3 J3 => ?_)
    refine rd_itemBars hb J3 hv hd hk (fun S4 J4 => ?_)
    refine rd_cue hb J4 hv hd hk (fun S5 J5 => ?_)
    refine rd_itemBar hb J5 hv hd hk (fun S6 J6 => ?_)
    rw [a1]
    have eadd : nI (iEd A v k) + nI (iBc A v k) = nI (iEd A v (k + 1)) := by rw [nI_add, a2]
    refine ⟨fun x t => x = 1 ∧ ∃ S', t = ((S', r) : LwS) ∧ Jp b o so po (n + 9 * (dm A v - (k + 1)) + (zN A - iEd A v k) + 10 + 4) S' A, ?_, fun _ => False, fun _ z => z.elim, fun _ _ => vp4_0 hg, fun z => ?_, fun _ => ?_⟩
    · rintro _ _ ⟨rfl, S7, rfl, J7⟩
      refine lp_for (fun j s => ∃ S8, s = ((1 : Int32), nI j, ((S8, r) : LwS)) ∧ Jp b o so po (n + 9 * (dm A v - (k + 1)) + (zN A - iEd A v (k + 1)) + 10 + 4 + (iBc A v k - j)) S8 A) (iBc A v k) ?_ ?_ 0 (Nat.zero_le _) _ ⟨S7, rfl, Jp_dn J7 (by omega)⟩
      · rintro j hj K2 s ⟨S8, rfl, J8⟩ hK2
        unfold w_L_areItems_L118
        dsimp only
        have J8' : Jp b o so po (n + 9 * (dm A v - (k + 1)) + (zN A - iEd A v (k + 1)) + 10 + 4 + (iBc A v k - (j + 1)) + 1) S8 A := Jp_dn J8 (by omega)
        have ej : nI (iEd A v k) + nI j = nI (iEd A v k + j) := nI_add _ _
        have hbar : iEd A v k + j < zN A := by omega
        have he16 := (z_r w hbar hv).1
        refine ⟨False, fun z => z.elim, fun z => absurd z (nI_ge hj (by omega)), fun _ => ⟨fun z => absurd z one_ne, fun _ => ⟨fun x t => x = 1 ∧ ∃ S', t = ((S', r) : LwS) ∧ Jp b o so po (n + 9 * (dm A v - (k + 1)) + (zN A - iEd A v (k + 1)) + 10 + 4 + (iBc A v k - (j + 1))) S' A, ?_, fun e0 => ?_, fun e0 => ?_⟩⟩⟩
        · rintro _ _ ⟨rfl, S', rfl, J'⟩
          rw [nI_1]
          exact hK2 _ ⟨S', rfl, J'⟩
        · have k0 : iKd A v k = 0 := (nI_eq (b := 0) (by omega) (by decide)).mp e0
          have hb1 := b2 (by omega)
          have hj0 : j = 0 := by omega
          have hne := c1' k0
          rw [a1] at hne
          rw [ej]
          refine rd_events hb J8' hv hbar (fun S9 J9 => ⟨fun z => ?_, fun _ => ⟨rfl, S9, rfl, J9⟩⟩)
          exfalso
          rw [hj0] at z
          exact nI_nle (n := zE A v (iEd A v k + 0)) (Nat.pos_of_ne_zero hne) (by rw [hj0] at he16; omega) z
        · have k0 : ¬ iKd A v k = 0 := fun z => e0 (by rw [z]; rfl)
          have hzz := c2' k0 j hj
          rw [a1] at hzz
          rw [ej]
          refine rd_events hb J8' hv hbar (fun S9 J9 => ⟨fun _ => ⟨rfl, S9, rfl, J9⟩, fun z => ?_⟩)
          exact absurd (by rw [hzz]; rfl) z
      · rintro K2 s ⟨S8, rfl, J8⟩
        unfold w_L_areItems_L118
        dsimp only
        refine ⟨True, fun _ => ?_, fun _ => trivial, fun z => absurd (nI_le (Nat.le_refl _) (by omega)) z⟩
        refine ⟨fun x t => x = 1 ∧ ∃ S', t = ((S', r) : LwS) ∧ Jp b o so po (n + 9 * (dm A v - (k + 1)) + (zN A - iEd A v (k + 1)) + 10) S' A, ?_, fun _ => False, fun _ z => z.elim, fun z => absurd z one_ne, fun _ => ⟨True, fun _ => ?_, ?_⟩⟩
        · rintro _ _ ⟨rfl, S', rfl, J'⟩
          refine ⟨fun z => absurd z one_ne, fun _ x20 hx20 => ?_⟩
          rw [hx20, eadd, nI_1]
          exact hK _ ⟨S', rfl, J'⟩
        · refine ⟨fun t => ∃ S', t = ((S', r) : LwS) ∧ Jp b o so po (n + 9 * (dm A v - (k + 1)) + (zN A - iEd A v (k + 1)) + 10) S' A, fun t z => ⟨rfl, z⟩, fun e2 => ?_, fun e2 => ⟨fun _ => ⟨S8, rfl, Jp_dn J8 (by omega)⟩, fun z => ?_⟩⟩
          · have k2 : iKd A v k = 2 := (nI_eq (b := 2) (by omega) (by decide)).mp e2
            obtain ⟨⟨u, u1, u2, u3, u4⟩, d1, d2, d3, d4, d5⟩ := c4.down k2
            have u3' : iCu A v k = nI u := u3
            have u4' : ¬ zE A u (iFb A v k) = 0 := u4
            rw [a1] at u4'
            have hbar : iEd A v k < zN A := by omega
            have he16 := (z_r w hbar u1).1
            have d3' : 3 ≤ iBc A v (k - 1) := d3
            have d2' : iKd A v (k - 1) = 1 := d2
            have d5' : iKd A v (k + 1) = 0 := d5
            have d4' : k + 1 < dm A v := d4
            have ek1 : nI k - 1 = nI (k - 1) := pk_sub (a := k) (b := 1) (by omega)
            have hbk := (i4 (k - 1) (by omega)).2
            rw [u3', ek1, nI_1]
            refine ⟨fun z => ?_, fun _ => ?_⟩
            · exfalso
              rcases z with z | z | z
              · exact nI_pos (by omega) z
              · exact nI_ge (b := 4) u1 (by decide) z
              · exact u2 ((nI_eq (by omega) (by omega)).mp z)
            refine rd_events (n := n + 9 * (dm A v - (k + 1)) + (zN A - iEd A v (k + 1)) + 10 + 3) hb (Jp_dn J8 (by omega)) u1 hbar (fun S9 J9 => ⟨fun z => ?_, fun _ => ?_⟩)
            · exfalso
              rcases z with z | z
              · exact nI_nle (Nat.pos_of_ne_zero u4') (by omega) z
              · exact nI_nle (n := k) d1 (by omega) z
            refine rd_itemKind hb J9 hv hd (by omega) (fun S10 J10 => ⟨fun _ => ?_, fun z => ?_⟩)
            · refine rd_itemBars hb J10 hv hd (by omega) (fun S11 J11 => ⟨fun z => ?_, fun _ => ?_⟩)
              · exfalso
                rcases z with z | z
                · exact nI_ge (a := 2) (b := iBc A v (k - 1)) (by omega) (by omega) z
                · exact nI_ge d4' (by omega) z
              · refine rd_itemKind hb J11 hv hd d4' (fun S12 J12 => ⟨fun _ => ⟨S12, rfl, J12⟩, fun z => ?_⟩)
                exact absurd (by rw [d5']; rfl) z
            · exact absurd (by rw [d2']; rfl) z
          · have k2 : ¬ iKd A v k = 2 := fun y => e2 (by rw [y]; rfl)
            exact absurd (b3 k2) z
        · refine ⟨fun _ => trivial, fun e1 => ⟨fun _ => trivial, fun z => ?_⟩⟩
          have k1 : ¬ iKd A v k = 1 := fun y => e1 (by rw [y]; rfl)
          exact absurd (by rw [b2 k1]; rfl) z
    · exfalso
      dsimp only at z
      rw [hz, eadd] at z
      rcases z with z | z | z
      · exact z rfl
      · exact nI_nlt (a := iBc A v k) (b := 1) a3 (by omega) z
      · exact nI_nlt a4 (by omega) z
    · refine rd_itemWidth (n := n + 9 * (dm A v - (k + 1)) + (zN A - iEd A v k) + 10 + 4) hb J6 hv hd hk (fun S7 J7 x34 hx34 => ⟨fun z => ?_, fun _ => ⟨rfl, S7, rfl, J7⟩⟩)
      exfalso
      obtain ⟨w1, w2⟩ := p5 k hk
      rcases z with z | z | z
      · by_cases k1 : iKd A v k = 1
        · have e9 : nI (iKd A v k) = 1 := by rw [k1]; rfl
          rw [hx34, if_pos e9, show (13 : Int32) - 0 = nI 13 by decide] at z
          exact nI_nlt (a := dW A v k) (b := 13) (b4 k1) (by omega) z
        · have e9 : ¬ nI (iKd A v k) = 1 := fun y => k1 ((nI_eq (b := 1) (by omega) (by decide)).mp y)
          rw [hx34, if_neg e9, show (13 : Int32) - 3 = nI 10 by decide] at z
          exact nI_nlt (a := dW A v k) (b := 10) w2 (by omega) z
      · exact nI_pos (by omega) z
      · exact nI_ge (a := iKd A v k) (b := 3) (by omega) (by decide) z
  · rintro K s ⟨S2, rfl, J2⟩
    unfold w_L_areItems_L12
    dsimp only
    rw [hz, i3]
    refine ⟨fun _ => ⟨vp4_0 hg, fun x t => x = 1 ∧ ∃ S', t = ((S', r) : LwS) ∧ Jp b o so po n S' A, ?_, fun _ => False, fun _ z => z.elim, fun _ => ?_, fun z => absurd rfl z⟩, fun z => absurd (nI_le (Nat.le_refl _) (by omega)) z⟩
    · rintro _ _ ⟨rfl, S', rfl, J'⟩
      exact ⟨Or.inr rfl, h S' J'⟩
    refine rd_itemKind_out (n := n + 4) hb (Jp_dn J2 (by omega)) hv hd (Or.inr (fun z => Int32.lt_irrefl z)) (fun S3 J3 => ⟨fun _ => ?_, fun z => absurd rfl z⟩)
    refine rd_itemBar_out (n := n + 3) hb J3 hv hd (Or.inl (by decide)) (fun S4 J4 => ⟨fun _ => ?_, fun z => absurd rfl z⟩)
    refine rd_itemBars_out (n := n + 2) hb J4 hv hd (Or.inr (fun z => Int32.lt_irrefl z)) (fun S5 J5 => ⟨fun _ => ?_, fun z => absurd rfl z⟩)
    refine rd_cue_out (n := n + 1) hb J5 hv hd (Or.inr (fun z => Int32.lt_irrefl z)) (fun S6 J6 => ⟨fun _ => ?_, fun z => absurd rfl z⟩)
    exact rd_itemWidth_out (n := n) hb J6 hv hd (Or.inr (fun z => Int32.lt_irrefl z)) (fun S7 J7 => ⟨fun _ => ⟨rfl, S7, rfl, J7⟩, fun z => absurd rfl z⟩)
end DI
