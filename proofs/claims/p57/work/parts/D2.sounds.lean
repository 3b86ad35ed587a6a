/-! P57: rows that are made; low; areSounds -/
section DR2
theorem rPut_put {r : LR} {a : Nat} {x y : Nat × (Nat → Int32)} : rPut (rPut r a x) a y = rPut r a y := by
  funext q
  by_cases e : q = a
  · rw [e, rPut_at, rPut_at]
  · rw [rPut_ne e, rPut_ne e, rPut_ne e]
theorem rPut_comm {r : LR} {a c : Nat} {x y : Nat × (Nat → Int32)} (h : a ≠ c) : rPut (rPut r a x) c y = rPut (rPut r c y) a x := by
  funext q
  by_cases e : q = a
  · rw [e, rPut_at, rPut_ne h, rPut_at]
  · by_cases e2 : q = c
    · rw [e2, rPut_at, rPut_ne (Ne.symm h), rPut_at]
    · rw [rPut_ne e2, rPut_ne e, rPut_ne e, rPut_ne e2]
theorem rN_put {r : LR} {a : Nat} {x : Nat × (Nat → Int32)} : rN (rPut r a x) a = x.1 := rN_some rPut_at
theorem rG_put {r : LR} {a : Nat} {x : Nat × (Nat → Int32)} : rG (rPut r a x) a = x.2 := rG_some rPut_at
theorem rN_put2 {r : LR} {a c : Nat} {x : Nat × (Nat → Int32)} (h : a ≠ c) : rN (rPut r c x) a = rN r a := by
  unfold rN
  rw [rPut_ne h]
theorem rG_put2 {r : LR} {a c : Nat} {x : Nat × (Nat → Int32)} (h : a ≠ c) : rG (rPut r c x) a = rG r a := by
  funext i
  unfold rG
  rw [rPut_ne h]
theorem rSt_put {r : LR} {S : CS} {a m : Nat} {f : Nat → Int32} {i v : Int32} : rSt ((S, rPut r a (m, f)) : LwS) a i v = (S, rPut r a (m, va_up f i.toNatClampNeg v)) := by
  show (S, rPut (rPut r a (m, f)) a (rN (rPut r a (m, f)) a, va_up (rG (rPut r a (m, f)) a) i.toNatClampNeg v)) = _
  rw [rPut_put, rN_put, rG_put]
theorem rSt_put2 {r : LR} {S : CS} {a c m : Nat} {f : Nat → Int32} {y : Nat × (Nat → Int32)} {i v : Int32} (h : a ≠ c) : rSt ((S, rPut (rPut r a (m, f)) c y) : LwS) a i v = (S, rPut (rPut r a (m, va_up f i.toNatClampNeg v)) c y) := by
  rw [rPut_comm h, rSt_put, rPut_comm h]
def rExt (r r' : LR) : Prop := ∀ a, r a ≠ none → r' a = r a
theorem rExt_rfl {r : LR} : rExt r r := fun _ _ => rfl
theorem rExt_trans {r r' r2 : LR} (h : rExt r r') (g : rExt r' r2) : rExt r r2 := fun a ha => (g a (by rw [h a ha]; exact ha)).trans (h a ha)
theorem rExt_put {r r' : LR} {a : Nat} {x : Nat × (Nat → Int32)} (h : rExt r r') (ha : r a = none) : rExt r (rPut r' a x) := fun q hq => by
  rw [rPut_ne (fun e => hq (by rw [e]; exact ha))]
  exact h q hq
theorem gRow_e {r r' : LR} {ga : Nat} {A : MS} (h : gRow r ga A) (g : rExt r r') : gRow r' ga A := by
  obtain ⟨f, h1, h2⟩ := h
  exact ⟨f, (g ga (by rw [h1]; exact fun z => (by cases z))).trans h1, h2⟩
theorem tRow_e {r r' : LR} {ta : Nat} {A : MS} (h : tRow r ta A) (g : rExt r r') : tRow r' ta A := by
  obtain ⟨f, h1, h2⟩ := h
  exact ⟨f, (g ta (by rw [h1]; exact fun z => (by cases z))).trans h1, h2⟩
theorem gRow_ne {r : LR} {ga a : Nat} {A : MS} (h : gRow r ga A) (ha : r a = none) : ga ≠ a := by
  obtain ⟨f, h1, -⟩ := h
  exact fun e => by rw [e, ha] at h1; cases h1
theorem low_m (a : Int32) : ∃ m : Nat, m < 2147483648 ∧ a &&& 2147483647 = nI m := by
  refine ⟨(a.toBitVec &&& (2147483647 : Int32).toBitVec).toNat, ?_, ?_⟩
  · rw [BitVec.toNat_and]
    exact Nat.lt_of_le_of_lt Nat.and_le_right (by decide)
  · apply Int32.toBitVec.inj
    rw [Int32.toBitVec_and]
    show a.toBitVec &&& (2147483647 : Int32).toBitVec = BitVec.ofNat 32 _
    rw [BitVec.ofNat_toNat, BitVec.setWidth_eq]
theorem low_in (a : Int32) {d : Nat} (h0 : 0 < d) (h1 : d ≤ 5000) : ∃ k : Nat, k < d ∧ v_L_low a (nI d) = nI k := by
  obtain ⟨m, m1, m2⟩ := low_m a
  refine ⟨m % d, Nat.mod_lt _ h0, ?_⟩
  unfold v_L_low
  rw [m2]
  exact pk_rem (a := m) (d := d) (by omega) h0 (by omega)
theorem low_d {d : Nat} (h0 : 0 < d) (h1 : d ≤ 5000) (a : Int32) : d_L_low a (nI d) := nI_ne0 h0 (by omega)
end DR2
section DS
variable {b B : Nat × Nat} {o so po n ga : Nat} {S : CS} {A : MS} {r : LR} {Q : Int32 → LwS → Prop}
theorem Jp_new (J : Jp b o so po (n + 3) S A) {m : Nat} (hm : m ≤ 25) : Jp b o so po n (rsz S (szC S + 1) (nsC S + m)) A := Jp_rs J (by omega) (by omega)
theorem zOr_of (hA : rA S A o so po) (h : PlayOK A S po) : gOK A (zOr A) ∧ nS A ≤ 3072 := by
  have hg := (zOr_ok h).1
  exact ⟨hg, nS_le (rA_M hA) (rA_T hA).2.1 hg⟩
/-- sounds: how many, and that their order is one -/
theorem rd_soundsG (hb : hB b B) (J : Jp b o so po (n + 1) S A) {N : Int32 → LwS → Prop} (h : gOK A (zOr A) → nS A ≤ 3072 → ∀ S', Jp b o so po n S' A → N (nI (nS A)) (S', r)) : (kdC S o = 14) ∧ lcall B (S, r) (fun B1 K => w_X11_sounds B1 o S (fun x S' => K x (S', r)) (fun _ _ => False)) N := by
  have hA := Jp_A J
  obtain ⟨B1, h1, h2, h3⟩ := pl_call hb J (Q := fun B1 q t2 => (kdC t2 q = 9) ∧ (szC t2 ≤ B1.1 → nsC t2 ≤ B1.2 → N (fI t2 149 q) (t2, r))) (X := fun _ _ _ => False) (fun B1 S' a1 a2 a3 a4 a5 => ⟨rA_kp a1, fun _ _ => by
    obtain ⟨g1, g2⟩ := zOr_of a1 a2
    have e : fI S' 149 po = nI (nS A) := (zOr_ok a2).2.1
    rw [e]
    exact h g1 g2 S' a3⟩)
  exact ⟨rA_k hA, B1, h1, h2, rA_k hA, h3⟩
theorem pf_areSounds (hb : hB b B) (J : Jp b o so po (n + 130) S A) (hm : mkOK A) {x : Int32} (h : ∀ S' r', Jp b o so po n S' A → rExt r r' → Q 1 (S', r')) : w_L_areSounds B o x (S, r) Q := by
  have hA := Jp_A J
  have hE := eP_le hA
  unfold w_L_areSounds
  refine rd_soundsG (n := n + 129) hb J (fun hg h3 S1 J1 => ?_)
  have hs1 := Jp_sz (k := 3) hb (Jp_dn (m := n + 3) J1 (by omega))
  refine ⟨⟨by show szC S1 + 1 ≤ B.1; omega, by show nsC S1 + 4 ≤ B.2; omega⟩, fun hfree t3 ht3 => ?_⟩
  have hfree' : r (szC S1) = none := hfree
  have J2 : Jp b o so po (n + 126) (rsz S1 (szC S1 + 1) (nsC S1 + 4)) A := Jp_new J1 (by decide)
  rw [show rNw ((S1, r) : LwS) 4 = (rsz S1 (szC S1 + 1) (nsC S1 + 4), rPut r (szC S1) (4, fun _ => 0)) from rfl] at ht3
  subst ht3
  obtain ⟨oa, hoa⟩ : ∃ oa, oa = szC S1 := ⟨_, rfl⟩
  obtain ⟨T1, hT1⟩ : ∃ T1, T1 = rsz S1 (szC S1 + 1) (nsC S1 + 4) := ⟨_, rfl⟩
  rw [← hoa] at hfree'
  have hnz : nI (nS A) = 0 ↔ nS A = 0 := nI_eq (a := nS A) (b := 0) (by omega) (by decide)
  refine ⟨fun z => z, fun x4 hx4 => ?_⟩
  obtain ⟨fr, f1, f2, f3⟩ : ∃ fr : Nat, fr ≤ nS A ∧ (fr < nS A ∨ nS A = 0) ∧ x4 = nI fr := by
    by_cases c : nS A = 0
    · rw [if_pos (hnz.mpr c)] at hx4
      exact ⟨0, Nat.zero_le _, Or.inr c, hx4⟩
    · rw [if_neg (fun z => c (hnz.mp z))] at hx4
      obtain ⟨k, k1, k2⟩ := low_in x (d := nS A) (by omega) (by omega)
      exact ⟨k, by omega, Or.inl k1, hx4.trans k2⟩
  rw [f3]
  show ∃ n_1, lp (w_L_areSounds_L34 B o Q (S1, r) (nI (nS A)) (nI fr)) n_1 (0, -1, nI fr, (rsz S1 (szC S1 + 1) (nsC S1 + 4), rPut r (szC S1) (4, fun _ => 0)))
  rw [← hT1] at J2 ⊢
  obtain ⟨e, he1, he2, he3⟩ : ∃ e : Nat, fr ≤ e ∧ e ≤ nS A ∧ e ≤ fr + 9 ∧ (e = nS A ∨ e = fr + 9) := by
    by_cases c : nS A ≤ fr + 9
    · exact ⟨nS A, f1, Nat.le_refl _, c, Or.inl rfl⟩
    · exact ⟨fr + 9, by omega, by omega, Nat.le_refl _, Or.inr rfl⟩
  obtain ⟨he3, he4⟩ := he3
  have e9 : (nI fr + 9 : Int32) = nI (fr + 9) := nI_add fr 9
  refine lp_for (fun k s => ∃ S2 f l lv, s = ((l : Int32), (lv : Int32), nI k, ((S2, rPut r (szC S1) (4, f)) : LwS)) ∧ (k = fr ∧ l = 0 ∧ lv = -1 ∨ fr < k ∧ l = nI (sBg A (k - 1)) ∧ lv = nI (sV A (k - 1))) ∧ (∀ v, v < 4 → f v = 0 ∨ ∃ j, j < k ∧ sV A j = v ∧ f v = nI (sEn A j)) ∧ Jp b o so po (n + 9 * (e - k) + 10) S2 A) e ?_ ?_ fr he1 _ ⟨T1, fun _ => 0, 0, -1, rfl, Or.inl ⟨rfl, rfl, rfl⟩, fun _ _ => Or.inl rfl, Jp_dn J2 (by omega)⟩
  · rintro k hk K s ⟨S2, f, l, lv, rfl, hl, hf, J3⟩ hK
    by_cases hkfr : k < fr
    · exfalso
      rcases hl with hl | hl <;> omega
    have hkn : k < nS A := by omega
    obtain ⟨q1, q2, q3, q4, ⟨pt, p1, p2, p3⟩, ⟨ld, d1, d2⟩⟩ := snd_in hA hg hm hkn
    unfold w_L_areSounds_L34
    dsimp only
    rw [e9]
    refine ⟨fun z => ?_, fun _ => ?_⟩
    · exfalso
      rcases z with z | z
      · exact nI_ge hkn (by omega) z
      · exact nI_ge (a := k) (b := fr + 9) (by omega) (by omega) z
    have J3' : Jp b o so po (n + 9 * (e - (k + 1)) + 10 + 8) S2 A := Jp_dn J3 (by omega)
    refine rd_soundVoice hb J3' hkn h3 (fun S3 J4 => ?_)
    refine rd_soundStart hb J4 hkn h3 (fun S4 J5 => ?_)
    refine rd_soundTime hb J5 hkn h3 (fun S5 J6 x18 hx18 => ?_)
    have et : nI (sEn A k) - nI (sBg A k) = nI (sEn A k - sBg A k) := pk_sub (by omega)
    have ee : nI (sBg A k) + nI (sEn A k - sBg A k) = nI (sEn A k) := by
      rw [nI_add]
      congr 1
      omega
    have hx : ¬ x18 = 0 := by
      rw [hx18, if_pos]
      · exact one_ne
      · rcases hl with ⟨h1, h2, h4⟩ | ⟨h1, h2, h4⟩
        · rw [h2, h4]
          by_cases c : sBg A k = 0
          · refine Or.inr ⟨by rw [c]; rfl, fun z => ?_⟩
            have z1 := Int32.le_iff_toInt_le.mp z
            rw [nI_toInt (by omega)] at z1
            have z2 : (-1 : Int32).toInt = -1 := by decide
            omega
          · exact Or.inl (nI_lt (a := 0) (b := sBg A k) (by omega) (by omega))
        · rw [h2, h4]
          have ho := snd_ord (A := A) (k := k - 1) hg (by omega)
          rw [show k - 1 + 1 = k by omega] at ho
          rcases ho with ho | ⟨ho1, ho2⟩
          · exact Or.inl (nI_lt ho (by omega))
          · exact Or.inr ⟨by rw [ho1], nI_ge ho2 (by omega)⟩
    refine ⟨fun _ => False, fun _ z => z.elim, fun _ _ _ _ => ?_, fun z => ?_, fun _ => ?_⟩
    · rw [rN_put]
      exact vp_nI (n := 4) q1 (by decide)
    · dsimp only at z
      rw [et, rG_put, nI_clamp (show sV A k < 2147483648 by omega)] at z
      rcases z with z | z | z | z | z
      · exact nI_pos (by omega) z
      · exact nI_nlt (a := 3) (b := sV A k) (by omega) (by omega) z
      · exact hx z
      · exact nI_nle (n := sEn A k - sBg A k) (by omega) (by omega) z
      · rcases hf _ q1 with g | ⟨j, j1, j2, g⟩
        · have g' : f (sV A k) = 0 := g
          rw [show (4, f).2 = f from rfl, g'] at z
          exact nI_pos (by omega) z
        · rw [show (4, f).2 = f from rfl, g] at z
          exact nI_nlt (snd_apart hA hg j1 hkn j2) (by omega) z
    refine rd_soundPitch hb J6 hkn h3 (fun S6 J7 => ⟨fun z => ?_, fun _ => ?_⟩)
    · rw [p3] at z
      exact nI_nlt (a := pt) (b := 1) p1 (by omega) z
    refine rd_soundPitch hb J7 hkn h3 (fun S7 J8 => ⟨fun z => ?_, fun _ => ?_⟩)
    · rw [p3] at z
      exact nI_nlt (a := 127) (b := pt) p2 (by decide) z
    refine rd_loudness hb J8 hkn h3 (fun S8 J9 => ⟨fun z => ?_, fun _ => ?_⟩)
    · rw [d2] at z
      exact nI_pos (by omega) z
    refine rd_loudness hb J9 hkn h3 (fun S9 J10 => ⟨fun z => ?_, fun _ => ?_⟩)
    · rw [d2] at z
      exact nI_nlt (a := 5) (b := ld) d1 (by decide) z
    refine rd_playingTime (n := n + 9 * (e - (k + 1)) + 10) hb J10 (fun S10 J11 => ⟨fun _ => ⟨?_, fun t27 ht27 => ?_⟩, fun z => ?_⟩)
    · rw [rN_put]
      exact vp_nI (n := 4) q1 (by decide)
    · rw [ht27, et, ee, rSt_put, nI_clamp (show sV A k < 2147483648 by omega), nI_1]
      refine hK _ ⟨S10, _, _, _, rfl, Or.inr ⟨by omega, rfl, rfl⟩, fun v hv => ?_, J11⟩
      rw [va_up_at]
      by_cases c : v = sV A k
      · rw [if_pos c]
        exact Or.inr ⟨k, Nat.lt_succ_self k, c.symm, rfl⟩
      · rw [if_neg c]
        rcases hf v hv with g | ⟨j, j1, j2, g⟩
        · exact Or.inl g
        · exact Or.inr ⟨j, by omega, j2, g⟩
    · rw [et, ee] at z
      exact z (nI_le q4 (by omega))
  · rintro K s ⟨S2, f, l, lv, rfl, hl, hf, J3⟩
    unfold w_L_areSounds_L34
    dsimp only
    rw [e9]
    refine ⟨fun _ => ?_, fun z => ?_⟩
    · refine rd_soundVoice_out (n := n + 4) hb (Jp_dn J3 (by omega)) h3 (Or.inr (fun z => Int32.lt_irrefl z)) (fun S3 J4 => ?_)
      refine ⟨fun x t => x = 1 ∧ ∃ S' r', t = ((S', r') : LwS) ∧ Jp b o so po n S' A ∧ rExt r r', ?_, fun _ => False, fun _ z => z.elim, fun _ => ?_, fun z => absurd rfl z⟩
      · rintro _ _ ⟨rfl, S', r', rfl, J', hr'⟩
        exact ⟨Or.inr rfl, h S' r' J' hr'⟩
      refine rd_soundStart_out (n := n + 3) hb J4 h3 (Or.inl (by decide)) (fun S4 J5 => ⟨fun _ => ?_, fun z => absurd rfl z⟩)
      refine rd_soundTime_out (n := n + 2) hb J5 h3 (Or.inr (fun z => Int32.lt_irrefl z)) (fun S5 J6 => ⟨fun _ => ?_, fun z => absurd rfl z⟩)
      refine rd_soundPitch_out (n := n + 1) hb J6 h3 (Or.inr (fun z => Int32.lt_irrefl z)) (fun S6 J7 => ⟨fun _ => ?_, fun z => absurd rfl z⟩)
      exact rd_loudness_out (n := n) hb J7 h3 (Or.inr (fun z => Int32.lt_irrefl z)) (fun S7 J8 => ⟨fun _ => ⟨rfl, S7, _, rfl, J8, rExt_put rExt_rfl hfree⟩, fun z => absurd rfl z⟩)
    · exfalso
      refine z ?_
      rcases he4 with he4 | he4
      · exact Or.inl (nI_le (by omega) (by omega))
      · exact Or.inr (nI_le (by omega) (by omega))
end DS
