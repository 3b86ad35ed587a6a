/-! CALLS OF SOUNDS -/
section SC
variable {A t t' : MS} {L G : List Nat} {S : CS}
theorem Ag_F31 (g : Ag A t) (h : F31 t t') : Ag A t' := ⟨fun k hk => ⟨(congrFun h.1 k).trans (g.1 k hk).1, (h.2 k (by omega)).trans (g.1 k hk).2⟩, (congrFun (h.2 26 (by decide)) 0).trans g.2⟩
theorem F31_rfl : F31 t t := ⟨rfl, fun _ _ => rfl⟩
theorem F31_trans {u : MS} (h : F31 t t') (g : F31 t' u) : F31 t u := ⟨g.1.trans h.1, fun f hf => (g.2 f hf).trans (h.2 f hf)⟩
theorem snM_F31 {v : Nat} {s : SQ} (h : snM t v s) (g : F31 t t') : snM t' v s := by
  unfold snM at h ⊢
  rw [g.2 27 (by decide), g.2 28 (by decide), g.2 29 (by decide), g.2 30 (by decide)]
  exact h
theorem sndG_len {po : Nat} (h : sndG A (fun v => zSs A L v L.length) S po G) : G.length = zTo A L := by
  have := cn_sum (G := G) (n := G.length) h.2.2.1
  rw [h.2.2.2.1 0 (by decide), h.2.2.2.1 1 (by decide), h.2.2.2.1 2 (by decide), h.2.2.2.1 3 (by decide)] at this
  exact this.symm
theorem n768 {v x : Nat} (hv : v < 4) (hx : x < 768) : nI (768 * v + x) / 768 = nI v := by
  rw [show (768 : Int32) = nI 768 from rfl, pk_div (a := 768 * v + x) (d := 768) (by omega) (by decide) (by decide)]
  congr 1
  omega
theorem mm_loud (w : zM A) (g : Ag A t) {v x i j : Nat} (hv : v < 4) (hx : x < 768) (hi : i < zN A) (hj : j < zE A v i) (h30 : t.2 30 (768 * v + x) = nI (16 * i + j)) {Q : Int32 → MS → Prop} (hQ : Q (zLo A v (16 * i + j + 1)) t) : ∃ n, lp (w_loudness_L28 Q (nI (768 * v + x)) t (nI v)) n (2, 0) := by
  have hn := w.2.1
  have he := (z_r w hi hv).1
  have e30 : mgA t 30 (nI (768 * v + x)) = nI (16 * i + j) := by
    show t.2 30 (nI _).toNatClampNeg = _
    rw [nI_clamp (by omega)]
    exact h30
  refine lp_seq (fun k => (zLo A v k, nI k)) (16 * i + j + 1) ?_ ?_ 0 (Nat.zero_le _)
  · intro k hk K hK
    have hb : k / 16 < zN A := by omega
    obtain ⟨d1, d2⟩ := dm16 (x := k) (by omega)
    have he2 := z_r w hb hv
    have e6 : mgA t 6 (nI (24 * v + k / 16)) = nI (zE A v (k / 16)) := by
      rw [Ag_A g (f := 6) (i := 24 * v + k / 16) (by decide) (by omega), he2.2.1]
    have hz : zp v (k / 16) (k % 16) < 1536 := zp_lt hv (by omega) (by omega)
    have e11 : mgA t 11 (nI (zp v (k / 16) (k % 16))) = A.2 11 (zp v (k / 16) (k % 16)) := Ag_A g (f := 11) (by decide) (by omega)
    unfold w_loudness_L28
    dsimp only
    rw [e30, d1, d2, at_nI hv, pl_nI hv, e6, e11]
    have hle : ¬ nI (zE A v (k / 16)) ≤ nI (k % 16) ↔ k % 16 < zE A v (k / 16) := by
      have := he2.1
      constructor
      · intro z
        exact Nat.lt_of_not_le (fun z2 => z (nI_le z2 (by omega)))
      · intro z
        exact nI_ge z (by omega)
    refine ⟨vp_nI (n := 3072) (by omega) (by decide), fun h9 => absurd ((nI_ltI (by omega) (by omega)).mp h9) (by omega), fun _ => ⟨vp_nI (n := 96) (by omega) (by decide), fun _ => vp_nI (n := 1536) hz (by decide), fun x6 hx6 => ⟨fun _ => vp_nI (n := 1536) hz (by decide), fun x8 hx8 => ?_⟩⟩⟩
    have ex : x8 = zLo A v (k + 1) := by
      show x8 = if k % 16 < zE A v (k / 16) ∧ ¬ A.2 11 (zp v (k / 16) (k % 16)) = -1 then A.2 11 (zp v (k / 16) (k % 16)) else zLo A v k
      by_cases c : k % 16 < zE A v (k / 16) ∧ ¬ A.2 11 (zp v (k / 16) (k % 16)) = -1
      · rw [if_pos ⟨hle.mpr c.1, c.2⟩] at hx6
        rw [hx6, if_neg one_ne] at hx8
        rw [if_pos c]
        exact hx8
      · rw [if_neg (fun z => c ⟨hle.mp z.1, z.2⟩)] at hx6
        rw [hx6, if_pos rfl] at hx8
        rw [if_neg c]
        exact hx8
    rw [ex, nI_1]
    exact hK
  · intro K
    unfold w_loudness_L28
    dsimp only
    rw [e30]
    exact ⟨vp_nI (n := 3072) (by omega) (by decide), fun _ => hQ, fun h9 => absurd (nI_lt (Nat.lt_succ_self _) (by omega)) h9⟩
end SC
section SD
variable {lb : Nat × Nat} {o so po : Nat} {I : Nat → CS → MS → Prop}
theorem snd_call (hI : Ip lb o so po I) (fc : Nat → CS → Int32) (R : Int32 → Int32 → MS → (Int32 → MS → Prop) → Prop) (hR0 : ∀ (a : Int32) (t1 : MS) (Q : Int32 → MS → Prop), Q 0 t1 → R a 0 t1 Q)
    (hR1 : ∀ (A t1 : MS) (S' : CS) (q v x a : Nat) (s : SQ) (Q : Int32 → MS → Prop), zM A → Ag A t1 → v < 4 → x < s.1 → s.1 ≤ 768 → snM t1 v s → sqOk A v 9216000 s → sFld A S' q v s x → (∀ (u : MS) (Q' : Int32 → MS → Prop), F31 t1 u → (∀ t', F31 u t' → Q' (nI (768 * v + x)) t') → w_soundAt (nI a) u Q') → (∀ t3, F31 t1 t3 → Q (fc q S') t3) → R (nI a) 1 t1 Q)
    (n : Nat) (S : CS) (t : MS) (ov : Nat → Int64) (a1 : Int32) (h : I (n + 1) S t) : ∃ B1 : Nat × Nat, sB lb B1 S ∧ (kdC S o = 14) ∧ w_X11_requiredSound B1 o a1 S (fun r2 t2 => (kdC t2 r2 = 13) ∧ sPI B1 (I n) (fun Q => w_isSound a1 t (fun r1 t1 => R a1 r1 t1 Q)) 0 (va_up ov 0 (Int32.toInt64 (fc r2 t2))) t2) (fun E S' => E = "java/lang/IndexOutOfBoundsException" ∧ sPI B1 (I n) (fun Q => w_isSound a1 t (fun r1 t1 => R a1 r1 t1 Q)) 1 ov S') := by
  obtain ⟨hA, B, ⟨l1, l2⟩, hP, hw, hn⟩ := hI n S t h
  obtain ⟨l3, l4⟩ := hP.2.2.2.1
  have w := rA_M hA
  have h48 := zPl_len48 w (rA_T hA).2.1 (Nat.le_refl _)
  have hL : ∀ x, x ∈ zPl t (zN t) → x < zN t := zPl_lt w (rA_T hA).2.1 (Nat.le_refl _)
  have hTo := zTo_le w hL h48
  refine ⟨(B.1 + 100, B.2 + 2000), ⟨⟨l1, l2⟩, ⟨Nat.le_add_right_of_le l3, Nat.le_add_right_of_le l4⟩⟩, rA_k hA, ?_⟩
  refine ⟨rA_k hA, cc_ren hA hP (Nat.le_add_right _ _) (Nat.le_add_right _ _) (fun S' hR => ?_)⟩
  obtain ⟨-, hA', ⟨hpl, G, hG⟩, -, hro, -, -, q7, q8⟩ := id hR
  have hlen := sndG_len hG
  have ep : oG (fR S' 225 o) = po := by rw [rA_p hA']; rfl
  have hout := n_out (a := a1) (n := zTo t (zPl t (zN t))) (by omega)
  rw [ep, hG.1, hlen]
  refine ⟨ne_so (rA_p hA'), rA_kp hA', i_reqIdx ⟨by show _ ≤ B.1 + 100; omega, by show _ ≤ B.2 + 2000; omega⟩ (fun hc => ?_) (fun hc sz ns => ?_)⟩
  · obtain ⟨a, p1, p2⟩ := n_ofNN (n := zTo t (zPl t (zN t))) (by omega) (fun z => hc (Or.inl z)) (Classical.byContradiction fun z => hc (Or.inr z))
    subst p2
    have haG : a < G.length := by omega
    have hlS := hG.2.1
    have h31 : (fL S' 148 po).length < 2147483648 := by
      by_cases c : fI S 150 po = fI S 199 so
      · have := hP.2.1.2.2
        rw [hR.2.2.2.2.2.1 c]
        omega
      · obtain ⟨d, d1, d2, -⟩ := hR.2.2.2.2.2.2.1 c
        have := hP.2.1.2.2
        omega
    have eG : lG S' 148 po (nI a) = gn (fL S' 148 po) a := by rw [cc_lG (by omega)]; rfl
    have kq := hro.1 a (by omega)
    rw [ep, eG]
    refine ⟨ne_so (rA_p hA'), rA_kp hA', cc_in rfl (by omega) h31, kq, kq, fun _ _ => ?_⟩
    refine mm_laysAll w (rA_T hA).2.1 (rA_Z hA).1 (Ag_rfl t) (fun t' ht' => i_go0 (fun z => hc (hout.mpr z)) one_ne one_ne ⟨Or.inr rfl, ?_⟩)
    obtain ⟨m1, m2, -, -, m5⟩ := ht'
    have hv := hG.2.2.1 a haG
    have hx : cn G (gn G a) a < (zSs t (zPl t (zN t)) (gn G a) (zPl t (zN t)).length).1 := by
      rw [← hG.2.2.2.1 _ hv]
      exact cn_lt haG rfl
    have hb : ∀ v, v < 4 → (zSs t (zPl t (zN t)) v (zPl t (zN t)).length).1 ≤ 768 := fun v hv => by
      have := zSs_n w hL hv (zPl t (zN t)).length (Nat.le_refl _)
      omega
    have hok : ∀ v, v < 4 → sqOk t v 9216000 (zSs t (zPl t (zN t)) v (zPl t (zN t)).length) := fun v hv => by
      have := zSt_le w hL (p := (zPl t (zN t)).length) (Nat.le_refl _)
      exact sqOk_mono (zSs_ok w hL hv _ (Nat.le_refl _)) (by omega)
    refine hR1 t (msI t' 45 0) S' (gn (fL S' 148 po) a) (gn G a) (cn G (gn G a) a) a (zSs t (zPl t (zN t)) (gn G a) (zPl t (zN t)).length) _ w (Ag_msI m1 (by decide)) hv hx (hb _ hv) (m5 _ hv) (hok _ hv) (hG.2.2.2.2.1 a haG) (fun u Q' hu hQ' => ?_) (fun t3 h3 => ?_)
    · refine mm_soundAt (σ := fun v => zSs t (zPl t (zN t)) v (zPl t (zN t)).length) (fun v hv => ⟨snM_F31 (t := msI t' 45 0) (m5 v hv) hu, hb v hv, fun x hx => ?_⟩) hG.2.2.1 hG.2.2.2.1 hG.2.2.2.2.2 haG (by omega) hQ'
      have := (hok v hv).1 x hx
      omega
    · refine ⟨(congrFun h3.1 45).trans (thr_same t' 0), fun _ => rfl, hn S' (szC S') (nsC S') _ hR (Nat.le_add_right_of_le q7) (Nat.le_add_right_of_le q8) (Ag_F31 (Ag_msI m1 (by decide)) h3)⟩
  · refine ⟨rfl, fun hz1 hz2 => ?_⟩
    refine mm_laysAll w (rA_T hA).2.1 (rA_Z hA).1 (Ag_rfl t) (fun t' ht' => i_go1 (hout.mp hc) ⟨Or.inl rfl, hR0 _ _ _ ?_⟩)
    exact ⟨thr_same t' 1, fun z => absurd z (by decide), hn S' sz ns _ hR hz1 hz2 (Ag_msI ht'.1 (by decide))⟩
theorem si_soundVoice (hI : Ip lb o so po I) : Si_soundVoice lb o I := snd_call hI (fun r2 t2 => fI t2 208 r2) (fun a1 r1 t1 Q => ∃ J21 : Int32 → MS → Prop, (∀ x2 : Int32, ∀ t3 : MS, J21 x2 t3 → (Q x2 t3)) ∧ (((r1 = 0) → J21 0 t1) ∧ (¬ (r1 = 0) → w_soundAt a1 t1 (fun r4 t4 => J21 (r4 / 768) t4)))) (fun a t1 Q hQ => ⟨Q, fun _ _ h => h, fun _ => hQ, fun z => absurd rfl z⟩) (fun A t1 S' q v x a s Q w g hv hx hs hm hok hf hat hQ => ⟨Q, fun _ _ h => h, fun z => absurd z one_ne, fun _ => hat t1 _ F31_rfl (fun t' ht' => by
    rw [n768 hv (by omega)]
    have := hQ t' ht'
    rw [hf.1] at this
    exact this)⟩)
theorem si_soundStart (hI : Ip lb o so po I) : Si_soundStart lb o I := snd_call hI (fun r2 t2 => fI t2 209 r2) (fun a1 r1 t1 Q => ∃ J22 : Int32 → MS → Prop, (∀ x2 : Int32, ∀ t3 : MS, J22 x2 t3 → (Q x2 t3)) ∧ (((r1 = 0) → J22 0 t1) ∧ (¬ (r1 = 0) → w_soundAt a1 t1 (fun r4 t4 => (mIn 28 r4) ∧ J22 (mgA t4 28 r4) t4)))) (fun a t1 Q hQ => ⟨Q, fun _ _ h => h, fun _ => hQ, fun z => absurd rfl z⟩) (fun A t1 S' q v x a s Q w g hv hx hs hm hok hf hat hQ => ⟨Q, fun _ _ h => h, fun z => absurd z one_ne, fun _ => hat t1 _ F31_rfl (fun t' ht' => ⟨vp_nI (n := 3072) (by omega) (by decide), by
    have e : mgA t' 28 (nI (768 * v + x)) = nI (s.2.1 x) := by
      show t'.2 28 (nI _).toNatClampNeg = _
      rw [nI_clamp (by omega)]
      exact ((snM_F31 hm ht').2 x hx).1
    rw [e]
    have := hQ t' ht'
    rw [hf.2.1] at this
    exact this⟩)⟩)
theorem si_soundTime (hI : Ip lb o so po I) : Si_soundTime lb o I := snd_call hI (fun r2 t2 => (fI t2 210 r2) - (fI t2 209 r2)) (fun a1 r1 t1 Q => ∃ J33 : Int32 → MS → Prop, (∀ x2 : Int32, ∀ t3 : MS, J33 x2 t3 → (Q x2 t3)) ∧ (((r1 = 0) → J33 0 t1) ∧ (¬ (r1 = 0) → w_soundAt a1 t1 (fun r4 t4 => (mIn 29 r4) ∧ w_soundAt a1 t4 (fun r6 t6 => (mIn 28 r6) ∧ J33 ((mgA t4 29 r4) - (mgA t6 28 r6)) t6))))) (fun a t1 Q hQ => ⟨Q, fun _ _ h => h, fun _ => hQ, fun z => absurd rfl z⟩) (fun A t1 S' q v x a s Q w g hv hx hs hm hok hf hat hQ => ⟨Q, fun _ _ h => h, fun z => absurd z one_ne, fun _ => hat t1 _ F31_rfl (fun t' ht' => ⟨vp_nI (n := 3072) (by omega) (by decide), hat t' _ ht' (fun t6 ht6 => ⟨vp_nI (n := 3072) (by omega) (by decide), by
    have e29 : mgA t' 29 (nI (768 * v + x)) = nI (s.2.2.1 x) := by
      show t'.2 29 (nI _).toNatClampNeg = _
      rw [nI_clamp (by omega)]
      exact ((snM_F31 hm ht').2 x hx).2.1
    have e28 : mgA t6 28 (nI (768 * v + x)) = nI (s.2.1 x) := by
      show t6.2 28 (nI _).toNatClampNeg = _
      rw [nI_clamp (by omega)]
      exact ((snM_F31 hm (F31_trans ht' ht6)).2 x hx).1
    rw [e29, e28]
    have := hQ t6 (F31_trans ht' ht6)
    rw [hf.2.1, hf.2.2.1] at this
    exact this⟩)⟩)⟩)
theorem si_soundPitch (hI : Ip lb o so po I) : Si_soundPitch lb o I := snd_call hI (fun r2 t2 => fI t2 211 r2) (fun a1 r1 t1 Q => ∃ J26 : Int32 → MS → Prop, (∀ x2 : Int32, ∀ t3 : MS, J26 x2 t3 → (Q x2 t3)) ∧ (((r1 = 0) → J26 0 t1) ∧ (¬ (r1 = 0) → w_soundAt a1 t1 (fun r4 t4 => (d_eventOf r4) ∧ (mIn 8 (v_eventOf r4 t4)) ∧ J26 (mgA t4 8 (v_eventOf r4 t4)) t4)))) (fun a t1 Q hQ => ⟨Q, fun _ _ h => h, fun _ => hQ, fun z => absurd rfl z⟩) (fun A t1 S' q v x a s Q w g hv hx hs hm hok hf hat hQ => ⟨Q, fun _ _ h => h, fun z => absurd z one_ne, fun _ => hat t1 _ F31_rfl (fun t' ht' => by
    obtain ⟨i, j, hi, hj, hij⟩ := (hok.1 x hx).2.2
    have hn := w.2.1
    have he := (z_r w hi hv).1
    have e30 : mgA t' 30 (nI (768 * v + x)) = nI (s.2.2.2 x) := by
      show t'.2 30 (nI _).toNatClampNeg = _
      rw [nI_clamp (by omega)]
      exact ((snM_F31 hm ht').2 x hx).2.2
    have ev : v_eventOf (nI (768 * v + x)) t' = nI (384 * v + s.2.2.2 x) := by
      unfold v_eventOf
      rw [n768 hv (by omega), e30, show (384 : Int32) = nI 384 from rfl, pk_mul, nI_add]
    rw [ev, Ag_A (Ag_F31 g ht') (f := 8) (by decide) (by omega)]
    refine ⟨vp_nI (n := 3072) (by omega) (by decide), vp_nI (n := 1536) (by omega) (by decide), ?_⟩
    have := hQ t' ht'
    rw [hf.2.2.2.1] at this
    exact this)⟩)
theorem si_loudness (hI : Ip lb o so po I) : Si_loudness lb o I := snd_call hI (fun r2 t2 => fI t2 212 r2) (fun a1 r1 t1 Q => ((r1 = 0) → Q 0 t1) ∧ (¬ (r1 = 0) → w_soundAt a1 t1 (fun r2 t2 => ∀ x3 : Int32, x3 = (r2 / 768) → ∃ n, lp (w_loudness_L28 Q r2 t2 x3) n (2, 0)))) (fun a t1 Q hQ => ⟨fun _ => hQ, fun z => absurd rfl z⟩) (fun A t1 S' q v x a s Q w g hv hx hs hm hok hf hat hQ => ⟨fun z => absurd z one_ne, fun _ => hat t1 _ F31_rfl (fun t' ht' x3 hx3 => by
    obtain ⟨i, j, hi, hj, hij⟩ := (hok.1 x hx).2.2
    have e30 := ((snM_F31 hm ht').2 x hx).2.2
    rw [n768 hv (by omega)] at hx3
    subst hx3
    refine mm_loud w (Ag_F31 g ht') hv (by omega) hi hj (by rw [e30, hij]) ?_
    have := hQ t' ht'
    rw [hf.2.2.2.2, hij] at this
    exact this)⟩)
theorem si_sounds (hI : Ip lb o so po I) : Si_sounds lb o I := by
  intro n S t h
  obtain ⟨hA, B, ⟨l1, l2⟩, hP, hw, hn⟩ := hI n S t h
  obtain ⟨l3, l4⟩ := hP.2.2.2.1
  refine ⟨(B.1 + 100, B.2 + 2000), ⟨⟨l1, l2⟩, ⟨Nat.le_add_right_of_le l3, Nat.le_add_right_of_le l4⟩⟩, rA_k hA, cc_played hA hP (Nat.le_add_right _ _) (Nat.le_add_right _ _) (fun S' hR => ⟨rA_kp hR.2.1, fun _ _ => ?_⟩)⟩
  refine mm_laysAll (rA_M hA) (rA_T hA).2.1 (rA_Z hA).1 (Ag_rfl t) (fun t' ht' => ?_)
  intro t1 ht1
  rw [ht1]
  obtain ⟨-, -, ⟨-, G, hG⟩, -, -, -, -, q7, q8⟩ := id hR
  exact ⟨hG.1.trans (congrArg nI (sndG_len hG)), hn S' (szC S') (nsC S') _ hR (Nat.le_add_right_of_le q7) (Nat.le_add_right_of_le q8) (Ag_msI ht'.1 (by decide))⟩
end SD
