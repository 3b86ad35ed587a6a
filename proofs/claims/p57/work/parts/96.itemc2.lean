/-! THE CLASS LAYS ITEMS, TO THE END -/
section LI
variable {A : MS} {S S' : CS} {so q v b : Nat} {s : IT}
theorem cc_widthOf (hB : rB S A so) (hT : rT S A so) (w : zM A) (hv : v < 4) (hk : kdC S q = 7) (h112 : fI S 112 q = nI v) (h : iC S q s) (ho : itOk A v (zN A) s) {k : Nat} (hks : k < s.1) {B : Nat × Nat} {Q : Int32 → CS → Prop} {X : String → CS → Prop} (hQ : Q (nI (zWi A v s k)) S) : w_X4_widthOf B q so (nI k) S Q X := by
  have hn := w.2.1
  have hs := itOk_n ho
  obtain ⟨g1, g2, g3, g4⟩ := h.2 k hks
  have hend := itOk_end ho hks
  obtain ⟨a1, a2, a3⟩ := ho.1 k hks
  have ec : (nI k).toNatClampNeg = k := nI_clamp (by omega)
  have vp : ∀ n, n = 24 → vp_in (nI k) n := fun n hn => by rw [hn]; exact vp_nI (n := 24) (by omega) (by decide)
  have hf : s.2.2.1 k < zN A := by omega
  refine ⟨hk, vp _ (by decide), fun x3 hx3 => ?_⟩
  rw [ec, g2] at hx3
  subst hx3
  refine lp_seq (fun c => (nI (zSu A (s.2.2.1 k) c), nI (s.2.2.1 k + c), S)) (s.2.2.2.1 k) ?_ ?_ 0 (Nat.zero_le _)
  · intro c hc K hK
    unfold w_X4_widthOf_L13
    dsimp only
    rw [ec, g3, nI_add]
    refine ⟨vp _ (by decide), fun h9 => absurd h9 (nI_ge (by omega) (by omega)), fun _ => ⟨hB.1, cc_signs hB hT w (by omega) (fun x20 hx20 => ?_)⟩⟩
    rw [hx20, nI_add, nI_1]
    exact hK
  · intro K
    unfold w_X4_widthOf_L13
    dsimp only
    rw [ec, g1, g3, g4, nI_add]
    refine ⟨vp _ (by decide), fun _ => ⟨vp _ (by decide), ?_⟩, fun h9 => absurd (nI_le (Nat.le_refl _) (by omega)) h9⟩
    rcases a3 with ⟨q1, q2, q3⟩ | ⟨q1, q2⟩ | ⟨q1, q2, u, q3, q4⟩
    · rw [q1, h112]
      refine ⟨fun _ => ?_, fun z => absurd rfl z⟩
      obtain ⟨r1, r2, r3⟩ := cc_rw hB w hf hv
      rw [r2]
      refine ⟨hB.1, r1, r3, cc_barWidth hB w hv hf ?_⟩
      have e : nI (zSu A (s.2.2.1 k) (s.2.2.2.1 k)) + 10 + nI (zWe A v (s.2.2.1 k) (zE A v (s.2.2.1 k))) = nI (zWi A v s k) := by
        rw [show (10 : Int32) = nI 10 from rfl, nI_add, nI_add]
        unfold zWi
        rw [if_pos q1]
        congr 1
        omega
      rw [e]
      exact hQ
    · rw [q1]
      refine ⟨fun z => absurd z (by decide), fun _ => ⟨vp _ (by decide), fun z => absurd z (by decide), fun _ => ⟨vp _ (by decide), ?_⟩, fun z => absurd (Or.inl (by decide)) z⟩⟩
      have e : nI (zSu A (s.2.2.1 k) (s.2.2.2.1 k)) + 16 + nI (s.2.2.2.1 k) = nI (zWi A v s k) := by
        rw [show (16 : Int32) = nI 16 from rfl, nI_add, nI_add]
        unfold zWi
        rw [if_neg (by omega), if_pos q1]
        congr 1
        omega
      rw [e]
      exact hQ
    · rw [q1, q4]
      obtain ⟨r1, r2, r3⟩ := cc_rw hB w hf q3
      refine ⟨fun z => absurd z (by decide), fun _ => ⟨vp _ (by decide), fun _ => vp _ (by decide), fun z => ?_, fun _ => ?_⟩⟩
      · rcases z with z | z
        · exact absurd (show nI 2 = 2 from rfl) z
        · exact absurd z (nI_neg1 (by omega))
      · rw [r2]
        refine ⟨vp _ (by decide), hB.1, r1, r3, cc_cueWidth hB w q3 hf ?_⟩
        have e : nI (zSu A (s.2.2.1 k) (s.2.2.2.1 k)) + 10 + nI (zWc A u (s.2.2.1 k) (zE A u (s.2.2.1 k))) = nI (zWi A v s k) := by
          rw [show (10 : Int32) = nI 10 from rfl, nI_add, nI_add]
          unfold zWi
          rw [if_neg (by omega), if_neg (by omega), q4, aN_nI (by omega)]
          congr 1
          omega
        rw [e]
        exact hQ
theorem cc_layItems (hB : rB S A so) (hT : rT S A so) (w : zM A) (hv : v < 4) (hk : kdC S q = 7) (h112 : fI S 112 q = nI v) {B : Nat × Nat} {Q : CS → Prop} {X : String → CS → Prop} (hQ : ∀ S', Fo iF q S S' → iC S' q (zIt A v (zN A)) → (∀ k, k < (zIt A v (zN A)).1 → fA S' 117 q k = nI (zWi A v (zIt A v (zN A)) k)) → Q S') : w_X4_layItems B q so S Q X := by
  have hn := w.2.1
  refine ⟨hk, fun t2 h2 => ?_⟩
  have F2 : Fo iF q S t2 := by rw [h2]; exact Fo_usI Fo_rfl ⟨by decide, by decide⟩
  have i2 : iC t2 q (zIt A v 0) := ⟨by rw [h2, fI_at, if_pos rfl]; rfl, fun k hk => absurd hk (Nat.not_lt_zero _)⟩
  refine lp_for (fun b z => z.1 = nI b ∧ Fo iF q S z.2 ∧ iC z.2 q (zIt A v b)) (zN A) ?_ ?_ 0 (Nat.zero_le _) (0, t2) ⟨rfl, F2, i2⟩
  · intro b hb K z hz hK
    obtain ⟨z1, u⟩ := z
    obtain ⟨hz1, F, i⟩ := hz
    dsimp only at hz1 F i
    subst hz1
    have hBu := rB_iF hB F
    have hTu := rT_iF hB.1 hT F
    have hku : kdC u q = 7 := by rw [F.1.1]; exact hk
    have h112u : fI u 112 q = nI v := by rw [(F.2 112 (by unfold iF; omega)).1]; exact h112
    have ebc : v_X9_barCount so u = nI (zN A) := congrArg nI (cc_n hBu w)
    obtain ⟨r1, r2, r3⟩ := cc_rw hBu w hb hv
    have el : (fL u 176 (rwL u so v b)).length = zE A v b := cc_e hBu w hb hv
    have he16 := (z_r w hb hv).1
    have ho := zIt_ok (A := A) (v := v) b
    have hon := itOk_n ho
    unfold w_X4_layItems_L7
    dsimp only
    rw [ebc, h112u, r2]
    refine ⟨hBu.1, hBu.1, fun h9 => absurd h9 (nI_ge hb (by omega)), fun _ => ⟨r1, r3, ⟨r3, by rw [el]; omega⟩, fun t11 => Fo iF q S t11 ∧ iC t11 q (zIt A v (b + 1)), fun t11 h11 => ?_, fun h0 => ?_, fun h0 => ?_⟩⟩
    · rw [nI_1]
      exact hK _ ⟨rfl, h11.1, h11.2⟩
    · have hne : ¬ zE A v b = 0 := fun z => by
        unfold v_X8_isEmpty at h0
        rw [el, if_pos z] at h0
        exact one_ne h0
      refine cc_partCue hBu w hv hku h112u i ho (by omega) (by omega) (fun t12 F12 i12 => ?_)
      have hoc := itOk_n (itOk_cue (A := A) ho)
      refine cc_addItem (k := 0) (by rw [F12.1.1]; exact hku) i12 (by omega) (fun t13 F13 i13 => ⟨Fo_trans F (Fo_trans F12 F13), ?_⟩)
      have e : zIt A v (b + 1) = iAdd (iCue A v (zIt A v b)) 0 b 1 (-1) := if_pos hne
      rw [e]
      exact i13
    · have hz : ¬ ¬ zE A v b = 0 := fun z => h0 (by unfold v_X8_isEmpty; rw [el, if_neg z])
      obtain ⟨d1, d2⟩ := cc_restLast hku i ho (by omega)
      rw [d2]
      refine ⟨d1, fun t15 => Fo iF q S t15 ∧ iC t15 q (zIt A v b) ∧ ¬ (iRest (zIt A v b) = true ∧ ¬ zPt A b = true), fun t15 h15 => ?_, fun hr => ⟨F, i, fun z => bI_0.mp hr z.1⟩, fun hr => cc_parted hBu hTu w hb ⟨fun hp => ?_, fun hp => ⟨F, i, fun z => hp (bI_0.mpr z.2)⟩⟩⟩
      · obtain ⟨y1, y2, y3⟩ := h15
        refine cc_addItem (k := 1) (by rw [y1.1.1]; exact hk) y2 (by omega) (fun t16 F16 i16 => ⟨Fo_trans y1 F16, ?_⟩)
        have e : zIt A v (b + 1) = iAdd (zIt A v b) 1 b 1 (-1) := by
          show (if ¬ zE A v b = 0 then _ else if _ then _ else _) = _
          rw [if_neg hz, if_neg y3]
        rw [e]
        exact i16
      · have c : iRest (zIt A v b) = true := Classical.byContradiction fun z => hr (bI_0.mpr z)
        have r0 := (iRest_iff.mp c).1
        have e1 : nI (zIt A v b).1 - 1 = nI ((zIt A v b).1 - 1) := pk_sub (a := (zIt A v b).1) (b := 1) (by omega)
        have g3 := (i.2 ((zIt A v b).1 - 1) (by omega)).2.2.1
        have ec : (nI ((zIt A v b).1 - 1)).toNatClampNeg = (zIt A v b).1 - 1 := nI_clamp (by omega)
        rw [i.1, e1, ec, g3, nI_1]
        refine ⟨vp_nI (n := 24) (by omega) (by decide), vp_nI (n := 24) (by omega) (by decide), fun t20 h20 => ?_⟩
        rw [← e1] at h20
        obtain ⟨F20, i20⟩ := iC_set i r0 (by omega) h20
        refine ⟨Fo_trans F F20, ?_⟩
        have e : zIt A v (b + 1) = iSet (zIt A v b) ((zIt A v b).2.2.2.1 ((zIt A v b).1 - 1) + 1) := by
          show (if ¬ zE A v b = 0 then _ else if _ then _ else _) = _
          rw [if_neg hz, if_pos ⟨c, bI_0.mp hp⟩]
        rw [e]
        exact i20
  · intro K z hz
    obtain ⟨z1, u⟩ := z
    obtain ⟨hz1, F, i⟩ := hz
    dsimp only at hz1 F i
    subst hz1
    have hBu := rB_iF hB F
    have ebc : v_X9_barCount so u = nI (zN A) := congrArg nI (cc_n hBu w)
    have ho := zIt_ok (A := A) (v := v) (zN A)
    have hon := itOk_n ho
    unfold w_X4_layItems_L7
    dsimp only
    rw [ebc]
    refine ⟨hBu.1, hBu.1, fun _ => ?_, fun h9 => absurd (nI_le (Nat.le_refl _) (by omega)) h9⟩
    refine lp_for (fun k z => z.1 = nI k ∧ Fo iF q S z.2 ∧ iC z.2 q (zIt A v (zN A)) ∧ ∀ j, j < k → fA z.2 117 q j = nI (zWi A v (zIt A v (zN A)) j)) (zIt A v (zN A)).1 ?_ ?_ 0 (Nat.zero_le _) (0, u) ⟨rfl, F, i, fun j hj => absurd hj (Nat.not_lt_zero _)⟩
    · intro k hks K2 z hz hK2
      obtain ⟨z1, y⟩ := z
      obtain ⟨hz1, Fy, iy, wy⟩ := hz
      dsimp only at hz1 Fy iy wy
      subst hz1
      have hBy := rB_iF hB Fy
      have hTy := rT_iF hB.1 hT Fy
      have hky : kdC y q = 7 := by rw [Fy.1.1]; exact hk
      have h112y : fI y 112 q = nI v := by rw [(Fy.2 112 (by unfold iF; omega)).1]; exact h112
      unfold w_X4_layItems_L93
      dsimp only
      rw [iy.1]
      refine ⟨fun h9 => absurd h9 (nI_ge hks (by omega)), fun _ => cc_widthOf hBy hTy w hv hky h112y iy ho hks ⟨vp_nI (n := 24) (by omega) (by decide), fun t7 h7 => ?_⟩⟩
      rw [nI_1]
      refine hK2 _ ⟨rfl, ?_, ?_, fun j hj => ?_⟩
      · dsimp only
        rw [h7]
        exact Fo_usA Fy ⟨by decide, by decide⟩
      · dsimp only
        refine ⟨by rw [h7]; exact iy.1, fun j hj => ?_⟩
        rw [h7, fA_ne (f' := 113) (by decide), fA_ne (f' := 114) (by decide), fA_ne (f' := 115) (by decide), fA_ne (f' := 116) (by decide)]
        exact iy.2 j hj
      · dsimp only
        rw [h7, fA_at (by omega)]
        by_cases e : j = k
        · rw [if_pos e, e]
        · rw [if_neg e]
          exact wy j (by omega)
    · intro K2 z hz
      obtain ⟨z1, y⟩ := z
      obtain ⟨hz1, Fy, iy, wy⟩ := hz
      dsimp only at hz1 Fy iy wy
      subst hz1
      unfold w_X4_layItems_L93
      dsimp only
      rw [iy.1]
      exact ⟨fun _ => hQ y Fy iy wy, fun h9 => absurd (nI_le (Nat.le_refl _) (by omega)) h9⟩
end LI
