/-! BREAKS AHEAD OF LINES -/
def dW (A : MS) (v : Nat) : Nat → Nat := zWi A v (zIt A v (zN A))
def dm (A : MS) (v : Nat) : Nat := (zIt A v (zN A)).1
def dP (A : MS) : Nat := aN (A.1 21)
def dX (A : MS) (v : Nat) : Nat → Nat := (zLs (dW A v) (dm A v) (dP A) (dm A v)).2
/-- how many lines; the first item, the first bar of a line; when it is played, the rest then, the faults of a turn -/
def dL (A : MS) (v : Nat) : Nat := zNl (dX A v) (dm A v) (dm A v)
def dF (A : MS) (v k : Nat) : Nat := zFi (dX A v) (dm A v) k
def dB (A : MS) (v k : Nat) : Nat := (zIt A v (zN A)).2.2.1 (dF A v k)
def dT (A : MS) (v k : Nat) : Nat := zSt A (zPl A (zN A)) (zFp (zPl A (zN A)) (dB A v k))
def dR (A : MS) (v k : Nat) : Nat := zRe (zSs A (zPl A (zN A)) v (zPl A (zN A)).length) (dT A v k) (zSt A (zPl A (zN A)) (zPl A (zN A)).length)
def dE (A : MS) (v k : Nat) : Nat := (if aN (A.1 23) ≤ dR A v k then 0 else 20000) + (if zFb A v (dB A v k - 1) = true then 500000 else 0)
def tF (f : Nat) : Prop := 101 ≤ f ∧ f ≤ 104
/-- what a part is when its breaks are told -/
def dH (A : MS) (S : CS) (so po q lo v : Nat) : Prop := rB S A so ∧ rP S A so ∧ kdC S po = 9 ∧ PlayOK A S po ∧ rowOk S po ∧ (fL S 148 po).length < 2147483648 ∧ kdC S q = 7 ∧ fI S 112 q = nI v ∧ iC S q (zIt A v (zN A)) ∧ fR S 119 q = some lo ∧ kdC S lo = 4 ∧ lC S lo (dW A v) (dm A v) (dP A) ∧ fI S 198 so = A.1 23
section DB
variable {A t : MS} {S S' : CS} {so po q lo pg v : Nat} {P : Nat → Prop}
theorem PlayOK_Fc (h : PlayOK A S po) (g : Fc P S S') (hP : ∀ f, P f → ¬ (144 ≤ f ∧ f ≤ 149) ∧ ¬ (208 ≤ f ∧ f ≤ 212)) : PlayOK A S' po := by
  have e : ∀ f, (144 ≤ f ∧ f ≤ 149) ∨ (208 ≤ f ∧ f ≤ 212) → fI S' f = fI S f ∧ fA S' f = fA S f := fun f hf => g.2 f (fun z => by have := hP f z; omega)
  unfold PlayOK plC sndG sFld at h ⊢
  rw [(e 146 (by omega)).1, (e 144 (by omega)).2, (e 145 (by omega)).2, (e 147 (by omega)).1, (e 149 (by omega)).1, (e 208 (by omega)).1, (e 209 (by omega)).1, (e 210 (by omega)).1, (e 211 (by omega)).1, (e 212 (by omega)).1, g.1.2.2.2.2.1]
  exact h
theorem iC_Fc {s : IT} (h : iC S q s) (g : Fc P S S') (hP : ∀ f, P f → ¬ (113 ≤ f ∧ f ≤ 118)) : iC S' q s := by
  have e : ∀ f, (113 ≤ f ∧ f ≤ 118) → fI S' f = fI S f ∧ fA S' f = fA S f := fun f hf => g.2 f (fun z => hP f z hf)
  unfold iC at h ⊢
  rw [(e 118 (by omega)).1, (e 113 (by omega)).2, (e 114 (by omega)).2, (e 115 (by omega)).2, (e 116 (by omega)).2]
  exact h
theorem lC_Fc {W : Nat → Nat} {m p : Nat} (h : lC S lo W m p) (g : Fc P S S') (hP : ∀ f, P f → ¬ (64 ≤ f ∧ f ≤ 67)) : lC S' lo W m p := by
  have e : ∀ f, (64 ≤ f ∧ f ≤ 67) → fI S' f = fI S f ∧ fA S' f = fA S f := fun f hf => g.2 f (fun z => hP f z hf)
  unfold lC at h ⊢
  rw [(e 65 (by omega)).1, (e 64 (by omega)).2, (e 66 (by omega)).2]
  exact h
theorem dH_tF (h : dH A S so po q lo v) (g : Fo tF pg S S') : dH A S' so po q lo v := by
  obtain ⟨h1, h2, h3, h4, h5, h6, h7, h8, h9, h10, h11, h12, h13⟩ := h
  obtain ⟨⟨c1, c2, c3, c4, c5, c6, c7, c8⟩, c9⟩ := id g
  have hs : kdC S so ≠ 0 := by rw [h1.1]; decide
  refine ⟨rB_c h1 (Eqf_Fc (Fc_Fo g) (fun f z => by unfold fB0 at z; unfold tF; omega)) rfl rfl rfl rfl rfl rfl rfl rfl rfl rfl rfl, rP_c hs h2 (Eqf_Fc (Fc_Fo g) (fun f z => by unfold fP0 at z; unfold tF; omega)) (fun v i j _ _ _ => by rw [(evL_Fc (Fc_Fo g)).1]) rfl rfl rfl rfl rfl rfl rfl rfl rfl, by rw [c1]; exact h3, PlayOK_Fc h4 (Fc_Fo g) (fun f z => by unfold tF at z; omega), rowOk_c h5 c5 c1, by rw [c5]; exact h6, by rw [c1]; exact h7, by rw [(c9 112 (by unfold tF; omega)).1]; exact h8, iC_Fc h9 (Fc_Fo g) (fun f z => by unfold tF at z; omega), by rw [c3]; exact h10, by rw [c1]; exact h11, lC_Fc h12 (Fc_Fo g) (fun f z => by unfold tF at z; omega), by rw [(c9 198 (by unfold tF; omega)).1]; exact h13⟩
theorem dP_ok (h : zMs A) : dP A ≤ 400 ∧ A.1 21 = nI (dP A) := by
  obtain ⟨⟨x, x1, x2, x3⟩, -⟩ := h
  unfold dP
  rw [x3, aN_nI (by omega)]
  exact ⟨x2, rfl⟩
theorem dm_ok (w : zM A) : dm A v ≤ 24 ∧ dm A v ≤ zN A := by
  have hn := w.2.1
  have := itOk_n (zIt_ok (A := A) (v := v) (zN A))
  unfold dm
  omega
theorem dm_pos (h : 0 < zN A) : 0 < dm A v := by
  refine Nat.pos_of_ne_zero (fun z => ?_)
  have := (zIt_ok (A := A) (v := v) (zN A)).2.2.2.1 z
  omega
theorem dW_ok (w : zM A) (hv : v < 4) : ∀ j, j < dm A v → dW A v j ≤ 600 := fun j hj => (zWi_le w hv (zIt_ok (A := A) (v := v) (zN A)) hj).1
theorem dX_ok (w : zM A) (hS : zMs A) (hv : v < 4) : ∀ j, j < dm A v → j < dX A v j ∧ dX A v j ≤ dm A v := fun j hj => (zLs_ok (dP_ok hS).1 (dm_ok w).1 (dW_ok w hv) (dm A v) (Nat.le_refl _) j (by omega)).2 hj
theorem dL_ok (w : zM A) (hS : zMs A) (hv : v < 4) : (∀ k, k < dL A v → dF A v k < dm A v) ∧ dF A v (dL A v) = dm A v ∧ dL A v ≤ dm A v := zNl_ok (dX_ok w hS hv)
theorem dL_pos (w : zM A) (hS : zMs A) (hv : v < 4) (h : 0 < zN A) : 0 < dL A v := by
  obtain ⟨-, h2, -⟩ := dL_ok w hS hv
  refine Nat.pos_of_ne_zero (fun z => ?_)
  rw [z] at h2
  have h3 : 0 = dm A v := h2
  have := dm_pos (v := v) h
  omega
theorem dB_ok (w : zM A) (hS : zMs A) (hv : v < 4) {k : Nat} (h1 : 1 ≤ k) (hk : k < dL A v) : 1 ≤ dF A v k ∧ dF A v k < dm A v ∧ dB A v k = (zIt A v (zN A)).2.2.1 (dF A v k - 1) + (zIt A v (zN A)).2.2.2.1 (dF A v k - 1) ∧ 1 ≤ dB A v k ∧ dB A v k < zN A := by
  obtain ⟨a1, a2, a3⟩ := dL_ok w hS hv
  have h2 := a1 k hk
  have h3 : k ≤ dF A v k := (zFi_ok (dX_ok w hS hv) k).2.1 h2
  have ho := zIt_ok (A := A) (v := v) (zN A)
  have h4 := ho.2.1 (dF A v k - 1) (show dF A v k - 1 + 1 < (zIt A v (zN A)).1 by unfold dm at h2; omega)
  rw [show dF A v k - 1 + 1 = dF A v k by omega] at h4
  have h5 := ho.1 (dF A v k) h2
  have h6 := itOk_end ho h2
  have e : dB A v k = (zIt A v (zN A)).2.2.1 (dF A v k) := rfl
  obtain ⟨g1, g2, -⟩ := h5
  exact ⟨by omega, h2, by rw [e, h4], by omega, by omega⟩
theorem dT_le (w : zM A) (hT : zMt A) {k : Nat} (hk : dB A v k < zN A) : dT A v k ≤ 9216000 := by
  have hL : ∀ x, x ∈ zPl A (zN A) → x < zN A := zPl_lt w hT (Nat.le_refl _)
  have h48 := zPl_len48 w hT (Nat.le_refl _)
  have h1 := (zFp_ok (zPl A (zN A)) (zPl_mem w hk)).1
  have := zSt_le w hL (p := zFp (zPl A (zN A)) (dB A v k)) (by omega)
  unfold dT
  omega
theorem sq_end (w : zM A) (hT : zMt A) (hv : v < 4) : sqOk A v (zSt A (zPl A (zN A)) (zPl A (zN A)).length) (zSs A (zPl A (zN A)) v (zPl A (zN A)).length) ∧ zSt A (zPl A (zN A)) (zPl A (zN A)).length ≤ 9216000 := by
  have hL : ∀ x, x ∈ zPl A (zN A) → x < zN A := zPl_lt w hT (Nat.le_refl _)
  have h48 := zPl_len48 w hT (Nat.le_refl _)
  have := zSt_le w hL (p := (zPl A (zN A)).length) (Nat.le_refl _)
  exact ⟨zSs_ok w hL hv _ (Nat.le_refl _), by omega⟩
theorem cc_timeBreaks (w : zM A) (hv : v < 4) (hS : zMs A) (hT : zMt A) (hN : 0 < zN A) (h : dH A S so po q lo v) (h120 : fR S 120 q = some pg) (hkp : kdC S pg = 6) {B : Nat × Nat} {Q : CS → Prop} {X : String → CS → Prop} (hQ : ∀ S', Fo tF pg S S' → (∀ k, 1 ≤ k → k < dL A v → fA S' 101 pg k = nI (dB A v k - 1) ∧ fA S' 102 pg k = nI (dT A v k) ∧ fA S' 103 pg k = nI (dR A v k) ∧ fA S' 104 pg k = nI (dE A v k)) → Q S') : w_X4_timeBreaks B q so po S Q X := by
  have hn := w.2.1
  obtain ⟨n1, n2, n3⟩ := dL_ok w hS hv
  have hm := dm_ok (v := v) w
  have h48 := zPl_len48 w hT (Nat.le_refl _)
  have hL : ∀ x, x ∈ zPl A (zN A) → x < zN A := zPl_lt w hT (Nat.le_refl _)
  obtain ⟨-, -, x, x2, x3⟩ := id hS
  refine lp_for (fun k z => z.1 = nI k ∧ 1 ≤ k ∧ Fo tF pg S z.2 ∧ ∀ j, 1 ≤ j → j < k → fA z.2 101 pg j = nI (dB A v j - 1) ∧ fA z.2 102 pg j = nI (dT A v j) ∧ fA z.2 103 pg j = nI (dR A v j) ∧ fA z.2 104 pg j = nI (dE A v j)) (dL A v) ?_ ?_ 1 (dL_pos w hS hv hN) (1, S) ⟨rfl, Nat.le_refl _, Fo_rfl, fun j h1 h2 => by omega⟩
  · intro k hk K z hz hK
    obtain ⟨z1, u⟩ := z
    obtain ⟨hz1, hk1, F, hj⟩ := hz
    dsimp only at hz1 F hj
    subst hz1
    have hu := dH_tF h F
    obtain ⟨u1, u2, u3, u4, u5, u6, u7, u8, u9, u10, u11, u12, u13⟩ := id hu
    obtain ⟨b1, b2, b3, b4, b5⟩ := dB_ok w hS hv hk1 hk
    have e120 : fR u 120 q = some pg := by rw [F.1.2.2.1]; exact h120
    have ekp : kdC u pg = 6 := by rw [F.1.1]; exact hkp
    have ec : (nI k).toNatClampNeg = k := nI_clamp (by omega)
    have e119 : oG (fR u 119 q) = lo := by rw [u10]; rfl
    have eo120 : oG (fR u 120 q) = pg := by rw [e120]; rfl
    have e64 : fA u 64 lo k = nI (dF A v k) := u12.2.1 k hk
    have e65 : fI u 65 lo = nI (dL A v) := u12.1
    have ei := u9.2 (dF A v k) b2
    have hbar : v_X4_firstBarOfLine q (nI k) u = nI (dB A v k) := by
      unfold v_X4_firstBarOfLine
      rw [e119, ec, e64, nI_clamp (by omega)]
      exact ei.2.1
    unfold w_X4_timeBreaks_L2
    dsimp only
    rw [e119, e65, hbar]
    refine ⟨u7, ne_so u10, u11, fun h9 => absurd h9 (nI_ge hk (by omega)), fun _ => ⟨⟨u7, ne_so u10, by rw [e119]; exact u11, vp_nI (n := 24) (by omega) (by decide), by rw [e119, ec, e64]; exact vp_nI (n := 24) (by omega) (by decide)⟩, fun x5 hx5 => ?_⟩⟩
    subst hx5
    obtain ⟨hpl, G, hG⟩ := u4
    refine ⟨u3, cc_firstTime w u3 hpl h48 (zPl_mem w b5) hL ?_⟩
    rw [u8]
    obtain ⟨q1, q2⟩ := sq_end w hT hv
    have hto := zTo_le w hL h48
    have hdT := dT_le (v := v) (k := k) w hT b5
    refine cc_restAt (e := zSt A (zPl A (zN A)) (zPl A (zN A)).length) (x := dT A v k) w u3 hpl.2.2 q2 hdT hG u5 u6 hv (fun y hy => (sq_end w hT hy).1) (by rw [sndG_len hG]; exact hto) ?_
    rw [u8, u13]
    refine ⟨u1.1, fun x10 hx10 => ?_⟩
    rw [show nI (dB A v k) - 1 = nI (dB A v k - 1) from pk_sub (a := dB A v k) (b := 1) b4]
    refine cc_forbidden u1 u2 w hv (b := dB A v k - 1) (by omega) ?_
    rw [eo120]
    have hdR : dR A v k ≤ 9216000 := Nat.le_trans (zRe_le q1) q2
    have ef : v_X3_faultOf x10 (bI (zFb A v (dB A v k - 1))) = nI (dE A v k) := by
      have e23 : aN (A.1 23) = x := by rw [x3, aN_nI (by omega)]
      have ele : nI x ≤ nI (dR A v k) ↔ x ≤ dR A v k := ⟨fun z => Classical.byContradiction fun z2 => nI_ge (by omega) (by omega) z, fun z => nI_le z (by omega)⟩
      have hx10' : x10 = 0 ↔ x ≤ dR A v k := by
        rw [hx10]
        show (if ¬ (A.1 23 ≤ nI (dR A v k)) then (1 : Int32) else 0) = 0 ↔ _
        rw [x3]
        by_cases c : x ≤ dR A v k
        · rw [if_neg (fun z => z (ele.mpr c))]
          exact ⟨fun _ => c, fun _ => rfl⟩
        · rw [if_pos (fun z => c (ele.mp z))]
          exact ⟨fun z => absurd z one_ne, fun z => absurd z c⟩
      unfold v_X3_faultOf dE
      rw [e23]
      by_cases c : x ≤ dR A v k
      · rw [if_pos (hx10'.mpr c), if_pos c]
        by_cases c2 : zFb A v (dB A v k - 1) = true
        · rw [if_neg (fun z => bI_0.mp z c2), if_pos c2]
          rfl
        · rw [if_pos (bI_0.mpr c2), if_neg c2]
          rfl
      · rw [if_neg (fun z => c (hx10'.mp z)), if_neg c]
        by_cases c2 : zFb A v (dB A v k - 1) = true
        · rw [if_neg (fun z => bI_0.mp z c2), if_pos c2]
          rfl
        · rw [if_pos (bI_0.mpr c2), if_neg c2]
          rfl
    rw [ef]
    refine ⟨ne_so e120, ekp, fun t1 => Fo tF pg S t1 ∧ ∀ j, 1 ≤ j → j < k + 1 → fA t1 101 pg j = nI (dB A v j - 1) ∧ fA t1 102 pg j = nI (dT A v j) ∧ fA t1 103 pg j = nI (dR A v j) ∧ fA t1 104 pg j = nI (dE A v j), fun t1 h1 => ?_, fun h9 => ?_, fun _ => ⟨ekp, vp_nI (n := 24) (by omega) (by decide), fun t4 h4 => ⟨vp_nI (n := 24) (by omega) (by decide), fun t6 h6 => ⟨vp_nI (n := 24) (by omega) (by decide), fun t8 h8 => ⟨vp_nI (n := 24) (by omega) (by decide), fun t10 h10 => ⟨?_, fun j j1 j2 => ?_⟩⟩⟩⟩⟩⟩
    · rw [nI_1]
      exact hK _ ⟨rfl, by omega, h1.1, h1.2⟩
    · rcases h9 with h9 | h9
      · exact absurd h9 (nI_pos (by omega))
      · exact absurd h9 (nI_ge (a := k) (b := 24) (by omega) (by decide))
    · rw [h10, h8, h6, h4]
      exact Fo_usA (Fo_usA (Fo_usA (Fo_usA F ⟨by decide, by decide⟩) ⟨by decide, by decide⟩) ⟨by decide, by decide⟩) ⟨by decide, by decide⟩
    · rw [h10, fA_ne (f' := 101) (by decide), fA_ne (f' := 102) (by decide), fA_ne (f' := 103) (by decide), fA_at (by omega), h8, fA_ne (f' := 101) (by decide), fA_ne (f' := 102) (by decide), fA_at (by omega), fA_ne (f' := 104) (by decide), h6, fA_ne (f' := 101) (by decide), fA_at (by omega), fA_ne (f' := 103) (by decide), fA_ne (f' := 104) (by decide), h4, fA_at (by omega), fA_ne (f' := 102) (by decide), fA_ne (f' := 103) (by decide), fA_ne (f' := 104) (by decide)]
      by_cases e : j = k
      · rw [if_pos e, if_pos e, if_pos e, if_pos e, e]
        exact ⟨rfl, rfl, rfl, rfl⟩
      · rw [if_neg e, if_neg e, if_neg e, if_neg e]
        exact hj j j1 (by omega)
  · intro K z hz
    obtain ⟨z1, u⟩ := z
    obtain ⟨hz1, hk1, F, hj⟩ := hz
    dsimp only at hz1 F hj
    subst hz1
    have hu := dH_tF h F
    obtain ⟨u1, u2, u3, u4, u5, u6, u7, u8, u9, u10, u11, u12, u13⟩ := id hu
    have e119 : oG (fR u 119 q) = lo := by rw [u10]; rfl
    have e65 : fI u 65 lo = nI (dL A v) := u12.1
    unfold w_X4_timeBreaks_L2
    dsimp only
    rw [e119, e65]
    exact ⟨u7, ne_so u10, u11, fun _ => hQ u F hj, fun h9 => absurd (nI_le (Nat.le_refl _) (by omega)) h9⟩
end DB
