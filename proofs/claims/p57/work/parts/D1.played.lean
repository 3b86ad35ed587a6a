/-! P57: THE LAW'S METHODS (1): isPlayed, areSounds -/
/-- the law's own rows: what was told -/
def gRow (r : LR) (ga : Nat) (A : MS) : Prop := ∃ f : Nat → Int32, r ga = some (4, f) ∧ f 0 = A.1 0 ∧ f 1 = A.1 21 ∧ f 2 = A.1 22 ∧ f 3 = A.1 23
def tRow (r : LR) (ta : Nat) (A : MS) : Prop := ∃ f : Nat → Int32, r ta = some (4, f) ∧ ∀ v : Nat, v < 4 → f v = A.2 13 v
section DB
variable {A : MS} {r : LR} {ga ta : Nat}
theorem gR_n (h : gRow r ga A) : rN r ga = 4 := by
  obtain ⟨f, h1, -⟩ := h
  exact rN_some h1
theorem gR_0 (h : gRow r ga A) : rG r ga (Int32.toNatClampNeg 0) = A.1 0 := by
  obtain ⟨f, h1, h2, -⟩ := h
  rw [rG_some h1]
  exact h2
theorem gR_z (h : gRow r ga A) (w : zM A) : rG r ga (Int32.toNatClampNeg 0) = nI (zN A) := (gR_0 h).trans w.1
theorem gR_1 (h : gRow r ga A) : rG r ga (Int32.toNatClampNeg 1) = A.1 21 := by
  obtain ⟨f, h1, -, h2, -⟩ := h
  rw [rG_some h1]
  exact h2
theorem gR_2 (h : gRow r ga A) : rG r ga (Int32.toNatClampNeg 2) = A.1 22 := by
  obtain ⟨f, h1, -, -, h2, -⟩ := h
  rw [rG_some h1]
  exact h2
theorem gR_3 (h : gRow r ga A) : rG r ga (Int32.toNatClampNeg 3) = A.1 23 := by
  obtain ⟨f, h1, -, -, -, h2⟩ := h
  rw [rG_some h1]
  exact h2
theorem vp4 (h : gRow r ga A) (k : Nat) (hk : k < 4) : vp_in (nI k) (rN r ga) := by
  rw [gR_n h]
  exact vp_nI (n := 4) hk (by decide)
theorem vp4_0 (h : gRow r ga A) : vp_in 0 (rN r ga) := vp4 h 0 (by decide)
theorem vp4_1 (h : gRow r ga A) : vp_in 1 (rN r ga) := vp4 h 1 (by decide)
theorem vp4_2 (h : gRow r ga A) : vp_in 2 (rN r ga) := vp4 h 2 (by decide)
theorem vp4_3 (h : gRow r ga A) : vp_in 3 (rN r ga) := vp4 h 3 (by decide)
theorem tR_n (h : tRow r ta A) : rN r ta = 4 := by
  obtain ⟨f, h1, -⟩ := h
  exact rN_some h1
theorem tR_v (h : tRow r ta A) {v : Nat} (hv : v < 4) : rG r ta (nI v).toNatClampNeg = A.2 13 v := by
  obtain ⟨f, h1, h2⟩ := h
  rw [rG_some h1, nI_clamp (by omega)]
  exact h2 v hv
theorem vpt (h : tRow r ta A) {v : Nat} (hv : v < 4) : vp_in (nI v) (rN r ta) := by
  rw [tR_n h]
  exact vp_nI (n := 4) hv (by decide)
end DB
section DC
variable {b B : Nat × Nat} {o so po n ga : Nat} {S : CS} {A : MS} {r : LR} {Q : Int32 → LwS → Prop}
theorem zDr_is {v : Nat} : zDr A v ↔ ¬ (zN A = 0 ∨ ¬ ∀ i, i < zN A → zRight A v i) := by
  unfold zDr
  constructor
  · rintro ⟨h1, h2⟩ h3
    rcases h3 with h3 | h3
    · omega
    · exact h3 h2
  · intro h
    exact ⟨Nat.pos_of_ne_zero fun z => h (Or.inl z), Classical.byContradiction fun z => h (Or.inr z)⟩
theorem pf_isPlayed (hb : hB b B) (J : Jp b o so po (n + 500) S A) (hg : gRow r ga A) (h : ∀ S', Jp b o so po n S' A → Q 1 (S', r)) : w_L_isPlayed B o ga (S, r) Q := by
  have hA := Jp_A J
  have w := rA_M hA
  have hn := w.2.1
  have h48 := nP_48 hA
  have hE := eP_le hA
  have hL : ∀ x, x ∈ lP A → x < zN A := zPl_lt w (rA_T hA).2.1 (Nat.le_refl _)
  have hge : zN A ≤ nP A := zPl_ge (zN A)
  have hle : nP A ≤ 2 * zN A := zPl_len w (rA_T hA).2.1
  have hz := gR_z hg w
  unfold w_L_isPlayed
  refine rd_places (n := n + 499) hb J (fun S1 J1 => ?_)
  refine lp_for (fun k s => ∃ S2, s = (nI (zSt A (lP A) k), nI k, ((S2, r) : LwS)) ∧ Jp b o so po (n + 6 * (nP A - k) + 200) S2 A) (nP A) ?_ ?_ 0 (Nat.zero_le _) _ ⟨S1, rfl, Jp_dn J1 (by omega)⟩
  · rintro k hk K s ⟨S2, rfl, J2⟩ hK
    have hbk : gn (lP A) k < zN A := gn_lt hL hk
    have J2' : Jp b o so po (n + 6 * (nP A - (k + 1)) + 200 + 6) S2 A := Jp_dn J2 (by omega)
    unfold w_L_isPlayed_L10
    dsimp only
    refine ⟨fun h9 => absurd h9 (nI_ge hk (by omega)), fun _ => ?_⟩
    refine rd_barAt hb J2' hk (fun S3 J3 => ?_)
    refine ⟨fun _ => False, fun _ z => z.elim, fun _ => vp4_0 hg, fun z => ?_, fun _ => ?_⟩
    · dsimp only at z
      rw [hz] at z
      rcases z with z | z
      · exact nI_pos (by omega) z
      · exact nI_ge hbk (by omega) z
    · refine rd_startOf hb J3 hk (fun S4 J4 => ⟨fun _ => ?_, fun z => absurd rfl z⟩)
      refine rd_time hb J4 hbk (fun S5 J5 => ?_)
      refine rd_length hb J5 hbk (fun S6 J6 => ?_)
      refine rd_tempo hb J6 hbk (fun S7 J7 => ?_)
      have gp := z_p w (k := gn (lP A) k + 1) (by omega)
      have gl := z_len w hbk
      refine ⟨nI_ne0 (by omega) (by omega), fun _ => ?_, fun z => absurd (tm_nI (by omega) (by omega) (by omega)).symm z⟩
      refine rd_time hb J7 hbk (fun S8 J8 x45 hx => ?_)
      rw [hx, nI_add, nI_1]
      exact hK _ ⟨S8, rfl, J8⟩
  · rintro K s ⟨S2, rfl, J2⟩
    unfold w_L_isPlayed_L10
    dsimp only
    refine ⟨fun _ => ?_, fun z => absurd (nI_le (Nat.le_refl _) (by omega)) z⟩
    refine rd_playingTime (n := n + 199) hb (Jp_dn J2 (by omega)) (fun S3 J3 => ?_)
    refine ⟨fun x t => x = 1 ∧ ∃ S4, t = ((S4, r) : LwS) ∧ Jp b o so po (n + 150) S4 A, ?_, fun _ => False, fun _ z => z.elim, fun _ => vp4_0 hg, fun _ _ => vp4_0 hg, fun z => ?_, fun _ => ?_⟩
    · rintro _ _ ⟨rfl, S4, rfl, J4⟩
      refine lp_for (fun k s => ∃ S5, s = ((1 : Int32), nI k, ((S5, r) : LwS)) ∧ Jp b o so po (n + 30 * (4 - k) + 10) S5 A) 4 ?_ ?_ 0 (by decide) _ ⟨S4, rfl, Jp_dn J4 (by omega)⟩
      · rintro v hv K2 s ⟨S5, rfl, J5⟩ hK2
        unfold w_L_isPlayed_L154
        dsimp only
        refine ⟨fun z => absurd z (nI_ge (b := 4) hv (by decide)), fun _ => ?_⟩
        refine lp_for (fun k s => ∃ S6 x, s = ((x : Int32), nI k, ((S6, r) : LwS)) ∧ (x = 1 ∧ (∀ i, i < k → zRight A v i) ∨ x = 0 ∧ ¬ ∀ i, i < zN A → zRight A v i) ∧ Jp b o so po (n + 30 * (4 - (v + 1)) + 10 + 2 + (zN A - k)) S6 A) (zN A) ?_ ?_ 0 (Nat.zero_le _) _ ⟨S5, 1, rfl, Or.inl ⟨rfl, fun i hi => absurd hi (Nat.not_lt_zero _)⟩, Jp_dn J5 (by omega)⟩
        · rintro k hk K3 s ⟨S6, x, rfl, hx, J6⟩ hK3
          unfold w_L_isPlayed_L166
          dsimp only
          rw [hz]
          refine ⟨vp4_0 hg, fun z => absurd z (nI_ge hk (by omega)), fun _ => ?_⟩
          refine ⟨fun x t => (x = 1 ∧ (∀ i, i < k + 1 → zRight A v i) ∨ x = 0 ∧ ¬ ∀ i, i < zN A → zRight A v i) ∧ ∃ S7, t = ((S7, r) : LwS) ∧ Jp b o so po (n + 30 * (4 - (v + 1)) + 10 + 2 + (zN A - (k + 1))) S7 A, ?_, fun t => (¬ ∀ i, i < zN A → zRight A v i) ∧ ∃ S7, t = ((S7, r) : LwS) ∧ Jp b o so po (n + 30 * (4 - (v + 1)) + 10 + 2 + (zN A - (k + 1))) S7 A, fun t z => ⟨Or.inr ⟨rfl, z.1⟩, z.2⟩, fun z => ?_, fun z => ?_⟩
          · rintro x2 _ ⟨hx2, S7, rfl, J7⟩
            rw [nI_1]
            exact hK3 _ ⟨S7, x2, rfl, hx2, J7⟩
          · rcases hx with hx | hx
            · rw [hx.1] at z
              exact absurd z one_ne
            · exact ⟨hx.2, S6, rfl, Jp_dn J6 (by omega)⟩
          · have hx' := hx.resolve_right (fun y => z y.1)
            refine rd_isRight (n := n + 30 * (4 - (v + 1)) + 10 + 2 + (zN A - (k + 1))) hb (Jp_dn J6 (by omega)) hv hk (fun hR S7 J7 => ⟨fun _ => ⟨Or.inl ⟨rfl, fun i hi => ?_⟩, S7, rfl, J7⟩, fun y => absurd rfl y⟩) (fun hR S7 J7 => ⟨fun y => absurd y (by decide), fun _ => ⟨fun y => hR (y k hk), S7, rfl, J7⟩⟩)
            by_cases e : i = k
            · rw [e]
              exact hR
            · exact hx'.2 i (by omega)
        · rintro K3 s ⟨S6, x, rfl, hx, J6⟩
          have hx2 : (x = 1 ∧ ∀ i, i < zN A → zRight A v i) ∨ (x = 0 ∧ ¬ ∀ i, i < zN A → zRight A v i) := hx
          unfold w_L_isPlayed_L166
          dsimp only
          rw [hz]
          refine ⟨vp4_0 hg, fun _ => ?_, fun z => absurd (nI_le (Nat.le_refl _) (by omega)) z⟩
          refine rd_timeByEvents (n := n + 30 * (4 - (v + 1)) + 10 + 1) hb (Jp_dn J6 (by omega)) hv (fun S7 J7 => ?_)
          have t1 := zTe_le w hv hL (lP A).length (Nat.le_refl _)
          have t2 : zSt A (lP A) (lP A).length ≤ 9216000 := hE
          refine ⟨fun y t => y = 1 ∧ ∃ S8, t = ((S8, r) : LwS) ∧ Jp b o so po (n + 30 * (4 - (v + 1)) + 10) S8 A, ?_, fun _ => False, fun _ z => z.elim, fun z => ?_, fun _ => ?_⟩
          · rintro _ _ ⟨rfl, S8, rfl, J8⟩
            rw [nI_1]
            exact hK2 _ ⟨S8, rfl, J8⟩
          · rcases z with z | z | z | z
            · exact one_ne z
            · exact nI_pos (by omega) z
            · exact nI_nlt t1 (by omega) z
            · obtain ⟨z1, z2⟩ := z
              have hx3 := hx2.resolve_right (fun y => z1 y.1)
              exact z2 (congrArg nI (zTe_eq hx3.2 hL _ (Nat.le_refl _)))
          · have e0 : (nI (zN A) = 0) ↔ zN A = 0 := (nI_eq (a := zN A) (b := 0) (by omega) (by decide))
            by_cases hd : zDr A v
            · have hno := zDr_is.mp hd
              have hmm := (dm_ok (v := v) w).1
              refine rd_items (n := n + 30 * (4 - (v + 1)) + 10) hb J7 hv hd (fun S8 J8 x21 hx21 => ⟨vp4_0 hg, fun x23 hx23 => ⟨fun _ => ⟨rfl, S8, rfl, J8⟩, fun z => z ?_⟩⟩)
              rw [hx21, hx23, if_neg (fun y => ?_), if_neg (fun y => ?_)]
              · dsimp only at y
                rw [hz, e0] at y
                refine hno (y.imp id (fun y => ?_))
                rcases hx2 with hx2 | hx2
                · rw [hx2.1] at y
                  exact absurd y one_ne
                · exact hx2.2
              · have y2 : (nI (dm A v)).toInt = (-1000003 : Int32).toInt := by rw [y]
                rw [nI_toInt (by omega)] at y2
                have y3 : (-1000003 : Int32).toInt = -1000003 := by decide
                omega
            · have hyes : zN A = 0 ∨ ¬ ∀ i, i < zN A → zRight A v i := Classical.byContradiction fun z => hd (zDr_is.mpr z)
              refine rd_items_no (n := n + 30 * (4 - (v + 1)) + 10) hb J7 hv hd (fun S8 J8 x21 hx21 => ⟨vp4_0 hg, fun x23 hx23 => ⟨fun _ => ⟨rfl, S8, rfl, J8⟩, fun z => z ?_⟩⟩)
              rw [hx21, hx23, if_pos rfl, if_pos]
              dsimp only
              rw [hz, e0]
              refine hyes.imp id (fun y => ?_)
              rcases hx2 with hx2 | hx2
              · exact absurd hx2.2 y
              · exact hx2.1
      · rintro K2 s ⟨S5, rfl, J5⟩
        unfold w_L_isPlayed_L154
        dsimp only
        refine ⟨fun _ => ?_, fun z => absurd (nI_le (a := 4) (b := 4) (Nat.le_refl _) (by decide)) z⟩
        refine ⟨fun x t => x = 1 ∧ ∃ S', t = ((S', r) : LwS) ∧ Jp b o so po n S' A, ?_, fun _ => False, fun _ z => z.elim, fun z => absurd z one_ne, fun _ => ?_⟩
        · rintro _ _ ⟨rfl, S', rfl, J'⟩
          exact ⟨Or.inr rfl, h S' J'⟩
        · refine rd_timeByEvents_bad (n := n + 3) hb (Jp_dn J5 (by omega)) isV_4 (fun S6 J6 => ⟨fun _ => ⟨vp4_0 hg, ?_⟩, fun z => absurd rfl z⟩)
          dsimp only
          rw [hz]
          refine rd_time_out hb J6 (isBar_n w) (fun S7 J7 => ⟨fun _ => ?_, fun z => absurd rfl z⟩)
          refine rd_length_out hb J7 (isBar_m w) (fun S8 J8 => ⟨fun _ => ⟨vp4_0 hg, ?_⟩, fun z => absurd rfl z⟩)
          dsimp only
          rw [hz]
          exact rd_tempo_out hb J8 (isBar_n w) (fun S9 J9 => ⟨fun _ => ⟨rfl, S9, rfl, J9⟩, fun z => absurd rfl z⟩)
    · dsimp only at z
      rw [hz] at z
      rcases z with z | z | z
      · exact z rfl
      · exact nI_nlt hge (by omega) z
      · have e2 : (2 : Int32) * nI (zN A) = nI (2 * zN A) := pk_mul 2 (zN A)
        rw [e2] at z
        exact nI_nlt hle (by omega) z
    · refine rd_barAt_out hb J3 (Or.inr (fun z => Int32.lt_irrefl z)) (fun S4 J4 => ⟨fun _ => ?_, fun z => absurd rfl z⟩)
      refine rd_startOf_out hb J4 (Or.inl (by decide)) (fun S5 J5 => ⟨fun _ => ?_, fun z => absurd rfl z⟩)
      obtain ⟨b1, b2, b3⟩ := rd_bars J5
      refine ⟨b1, b2, vp4_0 hg, fun _ => ⟨rfl, S5, rfl, Jp_dn J5 (by omega)⟩, fun z => z ?_⟩
      exact b3.trans hz.symm
end DC
