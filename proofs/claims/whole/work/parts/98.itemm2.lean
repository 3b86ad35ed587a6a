/-! THE MODEL DRAWS -/
/-- bars of rests that are one item -/
def zRu (A : MS) (v b m : Nat) : Prop := zE A v b = 0 ∧ (∀ j, b ≤ j → j < m → zE A v j = 0) ∧ zIt A v m = iAdd (zIt A v b) 1 b (m - b) (-1)
section DR
variable {A t : MS} {v b m : Nat}
theorem zRu_1 (h0 : zE A v b = 0) (hs : ¬ (iRest (zIt A v b) = true ∧ ¬ zPt A b = true)) : zRu A v b (b + 1) := by
  refine ⟨h0, fun j h1 h2 => by rw [show j = b by omega]; exact h0, ?_⟩
  show (if ¬ zE A v b = 0 then _ else if _ then _ else _) = _
  rw [if_neg (fun z => z h0), if_neg hs, show b + 1 - b = 1 by omega]
theorem zRu_s (h : zRu A v b m) (hb : b < m) (h0 : zE A v m = 0) (hp : ¬ zPt A m = true) : zRu A v b (m + 1) := by
  obtain ⟨r1, r2, r3⟩ := h
  refine ⟨r1, fun j h1 h2 => ?_, ?_⟩
  · by_cases e : j = m
    · rw [e]; exact h0
    · exact r2 j h1 (by omega)
  · have hr : iRest (zIt A v m) = true := by rw [r3]; exact iRest_add.mpr rfl
    have e : zIt A v (m + 1) = iSet (zIt A v m) ((zIt A v m).2.2.2.1 ((zIt A v m).1 - 1) + 1) := by
      show (if ¬ zE A v m = 0 then _ else if _ then _ else _) = _
      rw [if_neg (fun z => z h0), if_pos ⟨hr, hp⟩]
    obtain ⟨l1, l2, l3, l4⟩ := iAdd_last (s := zIt A v b) (k := 1) (f := b) (c := m - b) (u := -1)
    rw [e, r3, l1, show (zIt A v b).1 + 1 - 1 = (zIt A v b).1 by omega, l4, iSet_iAdd, show m - b + 1 = m + 1 - b by omega]
theorem zRu_cue (h : zRu A v b m) (hb : b < m) : iCue A v (zIt A v m) = if 4 ≤ m - b ∧ ¬ zQd A v (m - 1) 4 = -1 then iAdd (iAdd (zIt A v b) 1 b (m - b - 1) (-1)) 2 (m - 1) 1 (zQd A v (m - 1) 4) else zIt A v m := by
  obtain ⟨r1, r2, r3⟩ := h
  obtain ⟨l1, l2, l3, l4⟩ := iAdd_last (s := zIt A v b) (k := 1) (f := b) (c := m - b) (u := -1)
  have hr : iRest (zIt A v m) = true := by rw [r3]; exact iRest_add.mpr rfl
  have hl : (zIt A v m).2.2.2.1 ((zIt A v m).1 - 1) = m - b := by
    rw [r3, l1, show (zIt A v b).1 + 1 - 1 = (zIt A v b).1 by omega]
    exact l4
  have he : iEnd (zIt A v m) = m - 1 := by
    unfold iEnd
    rw [hl, r3, l1, show (zIt A v b).1 + 1 - 1 = (zIt A v b).1 by omega, l3]
    omega
  unfold iCue
  rw [hl, he]
  by_cases c : 4 ≤ m - b ∧ ¬ zQd A v (m - 1) 4 = -1
  · rw [if_pos ⟨hr, c⟩, if_pos c, r3, iSet_iAdd]
  · rw [if_neg (fun z => c z.2), if_neg c]
theorem zIp_full (hb : ¬ zE A v b = 0) : zIp A v (b + 1) = zIt A v (b + 1) ∧ ¬ iRest (zIt A v (b + 1)) = true := by
  have e : zIt A v (b + 1) = iAdd (iCue A v (zIt A v b)) 0 b 1 (-1) := if_pos hb
  have hr : ¬ iRest (zIt A v (b + 1)) = true := fun z => by
    rw [e] at z
    exact absurd (iRest_add.mp z) (by decide)
  refine ⟨?_, hr⟩
  unfold zIp
  by_cases c : b + 1 < zN A ∧ ¬ zE A v (b + 1) = 0
  · rw [if_pos c]
    unfold iCue
    rw [if_neg (fun z => hr z.1)]
  · rw [if_neg c]
theorem mm_draws (w : zM A) (g : Ag A t) (hv : v < 4) {Q : MS → Prop} (hQ : ∀ t', Fdr t t' → Ag A t' → iM A v t' (zIt A v (zN A)) → Q t') : w_draws (nI v) t Q := by
  have hn := w.2.1
  intro t1 h1
  have F1 : Fdr t t1 := by
    rw [h1]
    exact ⟨fun k hk => mI_ne hk, fun f _ => rfl⟩
  have i1 : iM A v t1 (zIt A v 0) := ⟨by rw [h1, mI_at]; rfl, fun k hk => absurd hk (Nat.not_lt_zero _)⟩
  have hemp : ∀ (u : MS), Ag A u → ∀ j, j < zN A → d_isEmpty (nI v) (nI j) ∧ (v_isEmpty (nI v) (nI j) u = 0 ↔ ¬ zE A v j = 0) := by
    intro u gu j hj
    have he := z_r w hj hv
    have e6 : mgA u 6 (nI (24 * v + j)) = nI (zE A v j) := by
      rw [Ag_A gu (f := 6) (i := 24 * v + j) (by decide) (by omega), he.2.1]
    have e0 : nI (zE A v j) = 0 ↔ zE A v j = 0 := nI_eq (b := 0) (by have := he.1; omega) (by decide)
    unfold d_isEmpty v_isEmpty
    rw [at_nI hv, e6]
    refine ⟨vp_nI (n := 96) (by omega) (by decide), ?_⟩
    by_cases c : zE A v j = 0
    · rw [if_pos (e0.mpr c)]
      exact ⟨fun z => absurd z one_ne, fun z => absurd c z⟩
    · rw [if_neg (fun z => c (e0.mp z))]
      exact ⟨fun _ => c, fun _ => rfl⟩
  refine lp_inv (fun z => ∃ b, b ≤ zN A ∧ z.1 = nI b ∧ Fdr t z.2 ∧ Ag A z.2 ∧ iM A v z.2 (zIp A v b) ∧ (b < zN A → zE A v b = 0 → ¬ (iRest (zIt A v b) = true ∧ ¬ zPt A b = true))) (fun z => zN A - aN z.1) ?_ (0, t1) ⟨0, Nat.zero_le _, rfl, F1, Ag_Fdr g F1, ?_, fun _ _ z => ?_⟩
  · rintro K ⟨z1, u⟩ ⟨b, hb, hz1, F, gu, iu, hst⟩ hK
    dsimp only at hz1 F gu iu hst
    subst hz1
    have e0 : mgI u 0 = nI (zN A) := (gu.1 0 (by decide)).1.trans w.1
    unfold w_draws_L7
    dsimp only
    rw [e0]
    by_cases hbN : b = zN A
    · refine ⟨fun _ => hQ u F gu ?_, fun h9 => absurd (nI_le (by omega) (by omega)) h9⟩
      unfold zIp at iu
      rw [if_neg (fun z => by omega), hbN] at iu
      exact iu
    · have hb' : b < zN A := by omega
      refine ⟨fun h9 => absurd h9 (nI_ge hb' (by omega)), fun _ x2 hx2 => ?_⟩
      rw [nI_1] at hx2
      subst hx2
      have hK' : ∀ m u', b < m → m ≤ zN A → Fdr t u' → Ag A u' → iM A v u' (zIp A v m) → (m < zN A → zE A v m = 0 → ¬ (iRest (zIt A v m) = true ∧ ¬ zPt A m = true)) → K (nI m, u') := fun m u' m1 m2 m3 m4 m5 m6 => hK _ ⟨m, m2, rfl, m3, m4, m5, m6⟩ (by
        show zN A - aN (nI m) < zN A - aN (nI b)
        rw [aN_nI (by omega), aN_nI (by omega)]
        omega)
      obtain ⟨db, vb⟩ := hemp u gu b hb'
      have step : ∀ m, b < m → m ≤ zN A → ∀ (K19 : (Int32 × MS) → Prop) (z : Int32 × MS), (z.1 = nI m ∧ z.2 = u ∧ (zE A v b = 0 → zRu A v b m) ∧ (¬ zE A v b = 0 → m = b + 1)) → (m < zN A → ∀ z' : Int32 × MS, (z'.1 = nI (m + 1) ∧ z'.2 = u ∧ (zE A v b = 0 → zRu A v b (m + 1)) ∧ (¬ zE A v b = 0 → m + 1 = b + 1)) → K19 z') → w_draws_L19 (nI v) K (nI b, u) K19 z := by
        rintro m m1 m2 K19 ⟨z1, z2⟩ ⟨hz1, hz2, c1, c2⟩ hK19
        dsimp only at hz1 hz2
        subst hz1
        subst hz2
        have hle : nI (zN A) ≤ nI m ↔ m = zN A := ⟨fun z => Classical.byContradiction fun z2 => nI_ge (a := m) (b := zN A) (by omega) (by omega) z, fun z => nI_le (by omega) (by omega)⟩
        unfold w_draws_L19
        dsimp only
        rw [e0]
        refine ⟨db, fun t4 => t4 = z2 ∧ (m = zN A ∨ ¬ zE A v m = 0 ∨ zPt A m = true ∨ ¬ zE A v b = 0), fun t4 h4 => ?_, fun _ hh => (hemp z2 gu m (Nat.lt_of_le_of_ne m2 (fun z => hh (hle.mpr z)))).1, fun hc => ⟨rfl, ?_⟩, fun hc => ?_⟩
        · obtain ⟨h4, hstop⟩ := h4
          subst h4
          have hsub : nI m - nI b = nI (m - b) := pk_sub (by omega)
          have h4I : nI (m - b) < 4 ↔ m - b < 4 := nI_ltI (b := 4) (by omega) (by decide)
          have em1 : nI m - 1 = nI (m - 1) := pk_sub (a := m) (b := 1) (by omega)
          rw [e0, hsub, em1]
          refine ⟨fun _ hh => (hemp t4 gu m (Nat.lt_of_le_of_ne m2 (fun z => hh (hle.mpr z)))).1, fun x5 hx5 => ?_⟩
          have f5 : x5 = 0 ↔ ¬ (4 ≤ m - b ∧ m < zN A ∧ ¬ zE A v m = 0) := by
            rw [hx5]
            by_cases c : 4 ≤ m - b ∧ m < zN A ∧ ¬ zE A v m = 0
            · rw [if_pos ⟨fun z => by have := h4I.mp z; omega, fun z => by have := hle.mp z; omega, (hemp t4 gu m c.2.1).2.mpr c.2.2⟩]
              exact ⟨fun z => absurd z one_ne, fun z => absurd c z⟩
            · rw [if_neg]
              · exact ⟨fun _ => c, fun _ => rfl⟩
              · rintro ⟨y1, y2, y3⟩
                have hm : m < zN A := Nat.lt_of_le_of_ne m2 (fun z => y2 (hle.mpr z))
                exact c ⟨Nat.le_of_not_lt (fun z => y1 (h4I.mpr z)), hm, (hemp t4 gu m hm).2.mp y3⟩
          have hstart : m < zN A → zE A v m = 0 → zRu A v b m → ¬ (iRest (zIt A v m) = true ∧ ¬ zPt A m = true) := fun hm h0 hr z => by
            rcases hstop with q | q | q | q
            · omega
            · exact q h0
            · exact z.2 q
            · exact q hr.1
          refine ⟨fun x t8 => t8 = t4 ∧ ((x = -1 ∧ (zE A v b = 0 → zIp A v m = zIt A v m)) ∨ (zE A v b = 0 ∧ ¬ x = -1 ∧ 4 ≤ m - b ∧ (∃ y, y < 4 ∧ x = nI y) ∧ zIp A v m = iAdd (iAdd (zIt A v b) 1 b (m - b - 1) (-1)) 2 (m - 1) 1 x)), fun x7 t8 h8 => ?_, fun h0 => ?_, fun h0 => ?_⟩
          · obtain ⟨h8, hx7⟩ := h8
            subst h8
            refine ⟨db, fun t10 => Fdr t t10 ∧ Ag A t10 ∧ iM A v t10 (zIp A v m) ∧ (m < zN A → zE A v m = 0 → ¬ (iRest (zIt A v m) = true ∧ ¬ zPt A m = true)), fun t10 h10 => hK' m t10 m1 m2 h10.1 h10.2.1 h10.2.2.1 h10.2.2.2, fun hne => ?_, fun hze => ?_⟩
            · have hne' := vb.mp hne
              have hmb := c2 hne'
              subst hmb
              have hon := itOk_n (itOk_cue (A := A) (zIt_ok (A := A) (v := v) b))
              have iu' : iM A v t8 (iCue A v (zIt A v b)) := by
                unfold zIp at iu
                rw [if_pos ⟨hb', hne'⟩] at iu
                exact iu
              refine mm_addsItem (k := 0) (c := 1) w gu hv iu' (by omega) (Nat.le_refl _) (by omega) (Or.inl rfl) (fun t11 F11 g11 i11 => ?_)
              obtain ⟨p1, p2⟩ := zIp_full hne'
              refine ⟨Fdr_trans F F11, g11, ?_, fun _ _ z => p2 z.1⟩
              rw [p1, show zIt A v (b + 1) = iAdd (iCue A v (zIt A v b)) 0 b 1 (-1) from if_pos hne']
              exact i11
            · have h0 : zE A v b = 0 := Classical.byContradiction fun z => hze (vb.mpr z)
              have hr := c1 h0
              have hon := itOk_n (zIt_ok (A := A) (v := v) b)
              have iu' : iM A v t8 (zIt A v b) := by
                unfold zIp at iu
                rw [if_neg (fun z => z.2 h0)] at iu
                exact iu
              refine ⟨fun hx => ?_, fun hx => ?_⟩
              · have hIp : zIp A v m = zIt A v m := by
                  rcases hx7 with ⟨-, z⟩ | ⟨-, z, -⟩
                  · exact z h0
                  · exact absurd hx z
                refine mm_addsItem (k := 1) w gu hv iu' (by omega) (by omega) (by omega) (Or.inr (Or.inl rfl)) (fun t12 F12 g12 i12 => ⟨Fdr_trans F F12, g12, ?_, fun y1 y2 => hstart y1 y2 hr⟩)
                rw [hIp, hr.2.2]
                exact i12
              · rcases hx7 with ⟨z, -⟩ | ⟨-, -, h4, ⟨y, y1, y2⟩, hIp⟩
                · exact absurd z hx
                · rw [show nI (m - b) - 1 = nI (m - b - 1) from pk_sub (a := m - b) (b := 1) (by omega)]
                  refine mm_addsItem (k := 1) w gu hv iu' (by omega) (by omega) (by omega) (Or.inr (Or.inl rfl)) (fun t13 F13 g13 i13 => ?_)
                  have e1 := (iAdd_last (s := zIt A v b) (k := 1) (f := b) (c := m - b - 1) (u := -1)).1
                  refine mm_addsItem (k := 2) (c := 1) w g13 hv i13 (by rw [e1]; omega) (Nat.le_refl _) (by omega) (Or.inr (Or.inr ⟨rfl, y, y1, y2⟩)) (fun t14 F14 g14 i14 => ⟨Fdr_trans F (Fdr_trans F13 F14), g14, ?_, fun y1 y2 => hstart y1 y2 hr⟩)
                  rw [hIp]
                  exact i14
          · refine ⟨rfl, Or.inl ⟨rfl, fun hz => ?_⟩⟩
            have hr := c1 hz
            unfold zIp
            by_cases c : m < zN A ∧ ¬ zE A v m = 0
            · rw [if_pos c, zRu_cue hr m1, if_neg (fun z => f5.mp h0 ⟨z.1, c⟩)]
            · rw [if_neg c]
          · have hcc : 4 ≤ m - b ∧ m < zN A ∧ ¬ zE A v m = 0 := Classical.byContradiction fun z => h0 (f5.mpr z)
            refine mm_cueOf w gu hv (by omega) ⟨rfl, ?_⟩
            have hz : zE A v b = 0 := Classical.byContradiction fun z => by have := c2 z; omega
            have hr := c1 hz
            have eIp : zIp A v m = iCue A v (zIt A v m) := if_pos hcc.2
            by_cases cq : zQd A v (m - 1) 4 = -1
            · refine Or.inl ⟨cq, fun _ => ?_⟩
              rw [eIp, zRu_cue hr m1, if_neg (fun z => z.2 cq)]
            · refine Or.inr ⟨hz, cq, hcc.1, ?_, ?_⟩
              · rcases zQd_is (A := A) (v := v) (b := m - 1) with ⟨q1, -⟩ | ⟨y, y1, y2, -⟩
                · exact absurd q1 cq
                · exact ⟨y, y1, y2⟩
              · rw [eIp, zRu_cue hr m1, if_pos ⟨hcc.1, cq⟩]
        · rcases hc with hc | hc | hc
          · exact Or.inr (Or.inr (Or.inr (vb.mp hc)))
          · exact Or.inl (hle.mp hc)
          · by_cases e : m = zN A
            · exact Or.inl e
            · exact Or.inr (Or.inl ((hemp z2 gu m (by omega)).2.mp hc))
        · have hm : m < zN A := Nat.lt_of_le_of_ne m2 (fun z => hc (Or.inr (Or.inl (hle.mpr z))))
          have hz : zE A v b = 0 := Classical.byContradiction fun z => hc (Or.inl (vb.mpr z))
          have hzm : zE A v m = 0 := Classical.byContradiction fun z => hc (Or.inr (Or.inr ((hemp z2 gu m hm).2.mpr z)))
          refine mm_parts w gu hm ⟨fun h0 => ?_, fun h0 => ⟨rfl, Or.inr (Or.inr (Or.inl (Classical.byContradiction fun z => h0 (bI_0.mpr z))))⟩⟩
          rw [nI_1]
          exact hK19 hm _ ⟨rfl, rfl, fun _ => zRu_s (c1 hz) m1 hzm (bI_0.mp h0), fun z => absurd hz z⟩
      refine lp_for (fun m z => b < m ∧ z.1 = nI m ∧ z.2 = u ∧ (zE A v b = 0 → zRu A v b m) ∧ (¬ zE A v b = 0 → m = b + 1)) (zN A) (fun m hm K19 z hz hK19 => step m hz.1 (by omega) K19 z hz.2 (fun _ z' hz' => hK19 z' ⟨Nat.lt_succ_of_lt hz.1, hz'⟩)) (fun K19 z hz => step (zN A) hz.1 (Nat.le_refl _) K19 z hz.2 (fun h => absurd h (Nat.lt_irrefl _))) (b + 1) hb' (nI (b + 1), u) ⟨Nat.lt_succ_self _, rfl, rfl, fun h0 => zRu_1 h0 (hst hb' h0), fun _ => rfl⟩
  · show iM A v t1 (zIp A v 0)
    unfold zIp
    by_cases c : 0 < zN A ∧ ¬ zE A v 0 = 0
    · rw [if_pos c]
      unfold iCue
      rw [if_neg (fun z => absurd (iRest_iff.mp z.1).1 (Nat.lt_irrefl _))]
      exact i1
    · rw [if_neg c]
      exact i1
  · exact absurd (iRest_iff.mp z.1).1 (Nat.lt_irrefl _)
end DR
