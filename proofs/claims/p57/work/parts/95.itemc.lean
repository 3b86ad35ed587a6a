/-! THE CLASS LAYS ITEMS -/
/-- numbers of fields of a kind alone were changed, of one object -/
def Fo (P : Nat → Prop) (x : Nat) (S S' : CS) : Prop := (kdC S' = kdC S ∧ fJ S' = fJ S ∧ fR S' = fR S ∧ fQ S' = fQ S ∧ fL S' = fL S ∧ fC S' = fC S ∧ szC S' = szC S ∧ (nsC S' = nsC S ∧ ∀ f o, o ≠ x → fI S' f o = fI S f o ∧ fA S' f o = fA S f o)) ∧ ∀ f, ¬ P f → fI S' f = fI S f ∧ fA S' f = fA S f
section FO
variable {P P' : Nat → Prop} {x : Nat} {S S' S'' : CS}
theorem Fc_Fo (h : Fo P x S S') : Fc P S S' := by
  obtain ⟨⟨a1, a2, a3, a4, a5, a6, a7, a8, -⟩, a9⟩ := h
  exact ⟨⟨a1, a2, a3, a4, a5, a6, a7, a8⟩, a9⟩
theorem Fo_rfl : Fo P x S S := ⟨⟨rfl, rfl, rfl, rfl, rfl, rfl, rfl, rfl, fun _ _ _ => ⟨rfl, rfl⟩⟩, fun _ _ => ⟨rfl, rfl⟩⟩
theorem Fo_trans (h : Fo P x S S') (g : Fo P x S' S'') : Fo P x S S'' := by
  obtain ⟨⟨a1, a2, a3, a4, a5, a6, a7, a8, a9⟩, a10⟩ := h
  obtain ⟨⟨b1, b2, b3, b4, b5, b6, b7, b8, b9⟩, b10⟩ := g
  exact ⟨⟨b1.trans a1, b2.trans a2, b3.trans a3, b4.trans a4, b5.trans a5, b6.trans a6, b7.trans a7, b8.trans a8, fun f o ho => ⟨(b9 f o ho).1.trans (a9 f o ho).1, (b9 f o ho).2.trans (a9 f o ho).2⟩⟩, fun f hf => ⟨(b10 f hf).1.trans (a10 f hf).1, (b10 f hf).2.trans (a10 f hf).2⟩⟩
theorem Fo_usI {f : Nat} {v : Int32} (h : Fo P x S S') (hf : P f) : Fo P x S (usI S' f x v) := by
  obtain ⟨⟨a1, a2, a3, a4, a5, a6, a7, a8, a9⟩, a10⟩ := h
  exact ⟨⟨a1, a2, a3, a4, a5, a6, a7, a8, fun f' o ho => ⟨(up2_no (fun z => ho z.2)).trans (a9 f' o ho).1, (a9 f' o ho).2⟩⟩, fun f' hf' => ⟨(fI_ne (fun z => hf' (by rw [z]; exact hf))).trans (a10 f' hf').1, (a10 f' hf').2⟩⟩
theorem Fo_usA {f : Nat} {i v : Int32} (h : Fo P x S S') (hf : P f) : Fo P x S (usA S' f x i v) := by
  obtain ⟨⟨a1, a2, a3, a4, a5, a6, a7, a8, a9⟩, a10⟩ := h
  exact ⟨⟨a1, a2, a3, a4, a5, a6, a7, a8, fun f' o ho => ⟨(a9 f' o ho).1, (up2_no (fun z => ho z.2)).trans (a9 f' o ho).2⟩⟩, fun f' hf' => ⟨(a10 f' hf').1, (fA_ne (fun z => hf' (by rw [z]; exact hf))).trans (a10 f' hf').2⟩⟩
end FO
def iF (f : Nat) : Prop := 113 ≤ f ∧ f ≤ 118
def iC (S : CS) (q : Nat) (s : IT) : Prop := fI S 118 q = nI s.1 ∧ ∀ k, k < s.1 → fA S 113 q k = nI (s.2.1 k) ∧ fA S 114 q k = nI (s.2.2.1 k) ∧ fA S 115 q k = nI (s.2.2.2.1 k) ∧ fA S 116 q k = s.2.2.2.2 k
section IC
variable {A : MS} {S S' : CS} {so q v b : Nat} {s : IT}
theorem rB_iF (h : rB S A so) (g : Fo iF q S S') : rB S' A so := rB_c h (Eqf_Fc (Fc_Fo g) (fun f z => by unfold fB0 at z; unfold iF; omega)) rfl rfl rfl rfl rfl rfl rfl rfl rfl rfl rfl
theorem rT_iF (hk : kdC S so = 12) (h : rT S A so) (g : Fo iF q S S') : rT S' A so := rT_c (by rw [hk]; decide) h (Eqf_Fc (Fc_Fo g) (fun f z => by unfold fT0 at z; unfold iF; omega)) rfl rfl rfl
theorem cc_addItem (hk : kdC S q = 7) (h : iC S q s) (hs : s.1 < 24) {k f : Nat} {u : Int32} {B : Nat × Nat} {Q : CS → Prop} {X : String → CS → Prop} (hQ : ∀ S', Fo iF q S S' → iC S' q (iAdd s k f 1 u) → Q S') : w_X4_addItem B q (nI k) (nI f) u S Q X := by
  obtain ⟨h1, h2⟩ := h
  have vp : ∀ n, n = 24 → vp_in (nI s.1) n := fun n hn => by rw [hn]; exact vp_nI (n := 24) hs (by decide)
  refine ⟨hk, Q, fun _ z => z, fun h9 => ?_, fun _ => ?_⟩
  · rw [h1] at h9
    exact absurd h9 (nI_ge (a := s.1) (b := 24) hs (by decide))
  rw [h1]
  refine ⟨vp _ (by decide), fun t4 h4 => ?_⟩
  have e4 : fI t4 118 q = nI s.1 := by rw [h4]; exact h1
  rw [e4]
  refine ⟨vp _ (by decide), fun t6 h6 => ?_⟩
  have e6 : fI t6 118 q = nI s.1 := by rw [h6]; exact e4
  rw [e6]
  refine ⟨vp _ (by decide), fun t8 h8 => ?_⟩
  have e8 : fI t8 118 q = nI s.1 := by rw [h8]; exact e6
  rw [e8]
  refine ⟨vp _ (by decide), fun t10 h10 t11 h11 => ?_⟩
  have e10 : fI t10 118 q = nI s.1 := by rw [h10]; exact e8
  rw [e10, nI_1] at h11
  have aA : fA t11 = fA t10 := by rw [h11]; rfl
  refine hQ t11 ?_ ⟨?_, fun j hj => ?_⟩
  · rw [h11, h10, h8, h6, h4]
    exact Fo_usI (Fo_usA (Fo_usA (Fo_usA (Fo_usA Fo_rfl ⟨by decide, by decide⟩) ⟨by decide, by decide⟩) ⟨by decide, by decide⟩) ⟨by decide, by decide⟩) ⟨by decide, by decide⟩
  · rw [h11, fI_at, if_pos rfl]
    rfl
  · have hj' : j < s.1 + 1 := hj
    show fA t11 113 q j = nI (va_up s.2.1 s.1 k j) ∧ fA t11 114 q j = nI (va_up s.2.2.1 s.1 f j) ∧ fA t11 115 q j = nI (va_up s.2.2.2.1 s.1 1 j) ∧ fA t11 116 q j = va_up s.2.2.2.2 s.1 u j
    rw [aA, h10, fA_ne (f' := 113) (by decide), fA_ne (f' := 114) (by decide), fA_ne (f' := 115) (by decide), fA_at (by omega), h8, fA_ne (f' := 113) (by decide), fA_ne (f' := 114) (by decide), fA_at (by omega), fA_ne (f' := 116) (by decide), h6, fA_ne (f' := 113) (by decide), fA_at (by omega), fA_ne (f' := 115) (by decide), fA_ne (f' := 116) (by decide), h4, fA_at (by omega), fA_ne (f' := 114) (by decide), fA_ne (f' := 115) (by decide), fA_ne (f' := 116) (by decide), va_up_at, va_up_at, va_up_at, va_up_at]
    by_cases e : j = s.1
    · rw [if_pos e, if_pos e, if_pos e, if_pos e, if_pos e, if_pos e, if_pos e, if_pos e]
      exact ⟨rfl, rfl, rfl, rfl⟩
    · rw [if_neg e, if_neg e, if_neg e, if_neg e, if_neg e, if_neg e, if_neg e, if_neg e]
      exact h2 j (by omega)
theorem iC_set (h : iC S q s) (hs : 0 < s.1) (hs2 : s.1 ≤ 24) {c : Nat} (e : S' = usA S 115 q (nI s.1 - 1) (nI c)) : Fo iF q S S' ∧ iC S' q (iSet s c) := by
  obtain ⟨h1, h2⟩ := h
  have e1 : nI s.1 - 1 = nI (s.1 - 1) := pk_sub (a := s.1) (b := 1) (by omega)
  rw [e1] at e
  refine ⟨by rw [e]; exact Fo_usA Fo_rfl ⟨by decide, by decide⟩, by rw [e]; exact h1, fun j hj => ?_⟩
  have hj' : j < s.1 := hj
  show fA S' 113 q j = nI (s.2.1 j) ∧ fA S' 114 q j = nI (s.2.2.1 j) ∧ fA S' 115 q j = nI (va_up s.2.2.2.1 (s.1 - 1) c j) ∧ fA S' 116 q j = s.2.2.2.2 j
  obtain ⟨g1, g2, g3, g4⟩ := h2 j hj'
  rw [e, fA_ne (f' := 113) (by decide), fA_ne (f' := 114) (by decide), fA_at (by omega), fA_ne (f' := 116) (by decide), va_up_at]
  refine ⟨g1, g2, ?_, g4⟩
  by_cases e9 : j = s.1 - 1
  · rw [if_pos e9, if_pos e9]
  · rw [if_neg e9, if_neg e9]
    exact g3
theorem cc_restLast (hk : kdC S q = 7) (h : iC S q s) (ho : itOk A v b s) (hb : b ≤ 24) : d_X4_isRestLast q S ∧ v_X4_isRestLast q S = bI (iRest s) := by
  have hn := itOk_n ho
  obtain ⟨h1, h2⟩ := h
  have e1 : 0 < s.1 → nI s.1 - 1 = nI (s.1 - 1) := fun z => pk_sub (a := s.1) (b := 1) (by omega)
  have e0 : nI s.1 ≤ 0 ↔ s.1 = 0 := ⟨fun z => Classical.byContradiction fun z2 => nI_nle (n := s.1) (by omega) (by omega) z, fun z => by rw [z]; decide⟩
  unfold d_X4_isRestLast v_X4_isRestLast
  rw [h1]
  refine ⟨⟨hk, fun z => ?_⟩, ?_⟩
  · have hp : 0 < s.1 := Nat.pos_of_ne_zero (fun z2 => z (e0.mpr z2))
    rw [e1 hp]
    exact vp_nI (n := 24) (by omega) (by decide)
  · by_cases c : 0 < s.1
    · have g1 := (h2 (s.1 - 1) (by omega)).1
      have hk3 : s.2.1 (s.1 - 1) = 0 ∨ s.2.1 (s.1 - 1) = 1 ∨ s.2.1 (s.1 - 1) = 2 := by
        rcases (ho.1 (s.1 - 1) (by omega)).2.2 with z | z | z
        · exact Or.inl z.1
        · exact Or.inr (Or.inl z.1)
        · exact Or.inr (Or.inr z.1)
      have e2 : nI (s.2.1 (s.1 - 1)) = 1 ↔ s.2.1 (s.1 - 1) = 1 := nI_eq (b := 1) (by omega) (by decide)
      rw [e1 c, nI_clamp (by omega), g1]
      unfold bI
      by_cases c2 : s.2.1 (s.1 - 1) = 1
      · rw [if_pos ⟨fun z => absurd (e0.mp z) (by omega), e2.mpr c2⟩, if_pos (iRest_iff.mpr ⟨c, c2⟩)]
      · rw [if_neg (fun z => c2 (e2.mp z.2)), if_neg (fun z => c2 (iRest_iff.mp z).2)]
    · rw [if_neg (fun z => z.1 (e0.mpr (by omega)))]
      exact (if_neg (fun z => c (iRest_iff.mp z).1)).symm
theorem cc_partCue (hB : rB S A so) (w : zM A) (hv : v < 4) (hk : kdC S q = 7) (h112 : fI S 112 q = nI v) (h : iC S q s) (ho : itOk A v b s) (hb : b ≤ zN A) {B : Nat × Nat} {Q : CS → Prop} {X : String → CS → Prop} (hn24 : s.1 < 24) (hQ : ∀ S', Fo iF q S S' → iC S' q (iCue A v s) → Q S') : w_X4_partCueFromRest B q so S Q X := by
  have h24 := w.2.1
  obtain ⟨d1, d2⟩ := cc_restLast hk h ho (by omega)
  have h1 := h.1
  by_cases c : iRest s = true
  · obtain ⟨r1, r2⟩ := iRest_iff.mp c
    have hend := ho.2.2.1 r1
    obtain ⟨g1, g2, g3, g4⟩ := h.2 (s.1 - 1) (by omega)
    have e1 : nI s.1 - 1 = nI (s.1 - 1) := pk_sub (a := s.1) (b := 1) (by omega)
    have ec : (nI (s.1 - 1)).toNatClampNeg = s.1 - 1 := nI_clamp (by omega)
    have vp : ∀ n, n = 24 → vp_in (nI (s.1 - 1)) n := fun n hn => by rw [hn]; exact vp_nI (n := 24) (by omega) (by decide)
    have hne : ¬ bI (iRest s) = 0 := fun z => bI_0.mp z c
    have c1 := (ho.1 (s.1 - 1) (by omega)).1
    unfold w_X4_partCueFromRest
    rw [d2, h1, e1, ec, g2, g3, h112]
    refine ⟨hk, d1, fun _ => vp _ (by decide), fun hc => ?_, fun hc => ⟨vp _ (by decide), vp _ (by decide), fun x6 hx6 => ⟨hB.1, ?_⟩⟩⟩
    · have hno : ¬ (iRest s = true ∧ 4 ≤ s.2.2.2.1 (s.1 - 1) ∧ ¬ zQd A v (iEnd s) 4 = -1) := fun z => by
        rcases hc with hc | hc
        · exact hne hc
        · exact hc (nI_le (a := 4) (b := s.2.2.2.1 (s.1 - 1)) z.2.1 (by omega))
      have e : iCue A v s = s := if_neg hno
      exact hQ S Fo_rfl (by rw [e]; exact h)
    · have h4 : 4 ≤ s.2.2.2.1 (s.1 - 1) := by
        refine Classical.byContradiction fun z => hc (Or.inr (fun z2 => ?_))
        exact nI_ge (a := s.2.2.2.1 (s.1 - 1)) (b := 4) (by omega) (by decide) z2
      have ex : x6 = nI (iEnd s) := by
        rw [hx6, nI_add]
        exact pk_sub (a := s.2.2.1 (s.1 - 1) + s.2.2.2.1 (s.1 - 1)) (b := 1) (by omega)
      subst ex
      have hlt : iEnd s < zN A := by unfold iEnd; omega
      refine cc_cueOf hB w hv hlt ⟨Q, fun _ z => z, fun hq => ?_, fun hq => ?_⟩
      · have e : iCue A v s = s := if_neg (fun z => z.2.2 hq)
        exact hQ S Fo_rfl (by rw [e]; exact h)
      · rw [h1, e1, ec, g3]
        refine ⟨vp _ (by decide), vp _ (by decide), fun t12 h12 => ?_⟩
        rw [show nI (s.2.2.2.1 (s.1 - 1)) - 1 = nI (s.2.2.2.1 (s.1 - 1) - 1) from pk_sub (a := s.2.2.2.1 (s.1 - 1)) (b := 1) (by omega), ← e1] at h12
        obtain ⟨F12, i12⟩ := iC_set h r1 (by omega) h12
        refine cc_addItem (k := 2) (by rw [F12.1.1]; exact hk) i12 hn24 (fun S' F' i' => hQ S' (Fo_trans F12 F') ?_)
        have e : iCue A v s = iAdd (iSet s (s.2.2.2.1 (s.1 - 1) - 1)) 2 (iEnd s) 1 (zQd A v (iEnd s) 4) := if_pos ⟨c, h4, hq⟩
        rw [e]
        exact i'
  · have e : iCue A v s = s := if_neg (fun z => c z.1)
    unfold w_X4_partCueFromRest
    rw [d2]
    exact ⟨hk, d1, fun z => absurd (bI_0.mpr c) z, fun _ => hQ S Fo_rfl (by rw [e]; exact h), fun z => absurd (Or.inl (bI_0.mpr c)) z⟩
end IC
