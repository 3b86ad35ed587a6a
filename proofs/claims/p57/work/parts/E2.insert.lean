/-! P57: INSERTIONS; WHAT IS KEPT OF THE SCORE -/
section NI
variable {b B : Nat × Nat} {o so po n ga ta : Nat} {S : CS} {t : MS} {r : LR} {N : Int32 → LwS → Prop}
theorem ins_voice (hb : hB b B) (J : Jp b o so po (n + 1) S t) {a1 : Int32} (hz : v_isVoice a1 = 0) (a2 a3 a4 a5 a6 : Int32) (h : ∀ S', Jp b o so po n S' t → N (-1000002) (S', r)) : lcall B (S, r) (fun B1 K => w_L_insert B1 o a1 a2 a3 a4 a5 a6 (S, r) K) N := by
  obtain ⟨hr, hr2, hA, hn⟩ := mu_e hb J
  exact ⟨(szC S + 1, nsC S + 10), hr, hr2, rA_k hA, a_reqVoice rm_e (fun v hv ev hz2 => absurd hz hz2) (fun _ sz ns => Or.inl ⟨rfl, fun z1 z2 => h _ (hn sz ns z1 z2)⟩)⟩
theorem ins_pitch (hb : hB b B) (J : Jp b o so po (n + 1) S t) {v : Nat} (hv : v < 4) {a4 : Int32} (hbad : v_in a4 0 127 = 0) (a2 a3 a5 a6 : Int32) (h : ∀ S', Jp b o so po n S' t → N (-1000002) (S', r)) : lcall B (S, r) (fun B1 K => w_L_insert B1 o (nI v) a2 a3 a4 a5 a6 (S, r) K) N := by
  obtain ⟨hr, hr2, hA, hn⟩ := mu_e hb J
  exact ⟨(szC S + 1, nsC S + 10), hr, hr2, rA_k hA, a_reqVoice rm_e (fun v2 hv2 ev hz2 => a_reqRange rm_e (fun hc _ => absurd hbad hc) (fun _ sz ns => Or.inl ⟨rfl, fun z1 z2 => h _ (hn sz ns z1 z2)⟩)) (fun z => absurd z (isV_in hv))⟩
theorem ins_kind (hb : hB b B) (J : Jp b o so po (n + 1) S t) {v : Nat} (hv : v < 4) {a4 a5 : Int32} (p : ¬ v_in a4 0 127 = 0) (hbad : v_in a5 0 5 = 0) (a2 a3 a6 : Int32) (h : ∀ S', Jp b o so po n S' t → N (-1000002) (S', r)) : lcall B (S, r) (fun B1 K => w_L_insert B1 o (nI v) a2 a3 a4 a5 a6 (S, r) K) N := by
  obtain ⟨hr, hr2, hA, hn⟩ := mu_e hb J
  exact ⟨(szC S + 1, nsC S + 10), hr, hr2, rA_k hA, a_reqVoice rm_e (fun v2 hv2 ev hz2 => a_reqRange rm_e (fun _ _ => a_reqRange rm_e (fun hc _ => absurd hbad hc) (fun _ sz ns => Or.inl ⟨rfl, fun z1 z2 => h _ (hn sz ns z1 z2)⟩)) (fun hc => absurd hc p)) (fun z => absurd z (isV_in hv))⟩
theorem ins_form (hb : hB b B) (J : Jp b o so po (n + 1) S t) {v : Nat} (hv : v < 4) {a4 a5 a6 : Int32} (p : ¬ v_in a4 0 127 = 0) (q : ¬ v_in a5 0 5 = 0) (hbad : v_in a6 0 2 = 0) (a2 a3 : Int32) (h : ∀ S', Jp b o so po n S' t → N (-1000002) (S', r)) : lcall B (S, r) (fun B1 K => w_L_insert B1 o (nI v) a2 a3 a4 a5 a6 (S, r) K) N := by
  obtain ⟨hr, hr2, hA, hn⟩ := mu_e hb J
  exact ⟨(szC S + 1, nsC S + 10), hr, hr2, rA_k hA, a_reqVoice rm_e (fun v2 hv2 ev hz2 => a_reqRange rm_e (fun _ _ => a_reqRange rm_e (fun _ _ => a_reqRange rm_e (fun hc _ => absurd hbad hc) (fun _ sz ns => Or.inl ⟨rfl, fun z1 z2 => h _ (hn sz ns z1 z2)⟩)) (fun hc => absurd hc q)) (fun hc => absurd hc p)) (fun z => absurd z (isV_in hv))⟩
theorem ins_can (hb : hB b B) (J : Jp b o so po (n + 1) S t) {v : Nat} (hv : v < 4) {a4 a5 a6 : Int32} (p : ¬ v_in a4 0 127 = 0) (q : ¬ v_in a5 0 5 = 0) (f : ¬ v_in a6 0 2 = 0) (e : (a5 = 5) ∧ (a6 = 1)) (a2 a3 : Int32) (h : ∀ S', Jp b o so po n S' t → N (-1000002) (S', r)) : lcall B (S, r) (fun B1 K => w_L_insert B1 o (nI v) a2 a3 a4 a5 a6 (S, r) K) N := by
  obtain ⟨hr, hr2, hA, hn⟩ := mu_e hb J
  exact ⟨(szC S + 1, nsC S + 10), hr, hr2, rA_k hA, a_reqVoice rm_e (fun v2 hv2 ev hz2 => a_reqRange rm_e (fun _ _ => a_reqRange rm_e (fun _ _ => a_reqRange rm_e (fun _ _ => ⟨fun _ => ⟨rm_e, fun sz ns => Or.inl ⟨rfl, fun z1 z2 => h _ (hn sz ns z1 z2)⟩⟩, fun z => absurd e z⟩) (fun hc => absurd hc f)) (fun hc => absurd hc q)) (fun hc => absurd hc p)) (fun z => absurd z (isV_in hv))⟩
theorem ins_bar (hb : hB b B) (J : Jp b o so po (n + 1) S t) {v : Nat} (hv : v < 4) {a2 a4 a5 a6 : Int32} (p : ¬ v_in a4 0 127 = 0) (q : ¬ v_in a5 0 5 = 0) (f : ¬ v_in a6 0 2 = 0) (e : ¬ ((a5 = 5) ∧ (a6 = 1))) (ho : v_isBar a2 t = 0) (a3 : Int32) (h : ∀ S', Jp b o so po n S' t → N (-1000001) (S', r)) : lcall B (S, r) (fun B1 K => w_L_insert B1 o (nI v) a2 a3 a4 a5 a6 (S, r) K) N := by
  obtain ⟨hr, hr2, hA, hn⟩ := mu_e hb J
  exact ⟨(szC S + 1, nsC S + 10), hr, hr2, rA_k hA, a_reqVoice rm_e (fun v2 hv2 ev hz2 => a_reqRange rm_e (fun _ _ => a_reqRange rm_e (fun _ _ => a_reqRange rm_e (fun _ _ => ⟨fun z => absurd z e, fun _ => ⟨hA.1, a_B hA rm_e (fun i2 hi2 ei hz3 => absurd ho hz3) (fun _ sz ns => Or.inr (Or.inl ⟨rfl, fun z1 z2 => h _ (hn sz ns z1 z2)⟩))⟩⟩) (fun hc => absurd hc f)) (fun hc => absurd hc q)) (fun hc => absurd hc p)) (fun z => absurd z (isV_in hv))⟩
theorem ins_idx (hb : hB b B) (J : Jp b o so po (n + 1) S t) {v i j : Nat} (hv : v < 4) (hi : i < zN t) (hj : zE t v i < j) (hj2 : j < 1000) {a4 a5 a6 : Int32} (p : ¬ v_in a4 0 127 = 0) (q : ¬ v_in a5 0 5 = 0) (f : ¬ v_in a6 0 2 = 0) (e : ¬ ((a5 = 5) ∧ (a6 = 1))) (h : ∀ S', Jp b o so po n S' t → N (-1000001) (S', r)) : lcall B (S, r) (fun B1 K => w_L_insert B1 o (nI v) (nI i) (nI j) a4 a5 a6 (S, r) K) N := by
  obtain ⟨hr, hr2, hA, hn⟩ := mu_e hb J
  refine ⟨(szC S + 1, nsC S + 10), hr, hr2, rA_k hA, a_reqVoice rm_e (fun v2 hv2 ev hz2 => a_reqRange rm_e (fun _ _ => a_reqRange rm_e (fun _ _ => a_reqRange rm_e (fun _ _ => ⟨fun z => absurd z e, fun _ => ⟨hA.1, a_B hA rm_e (fun i2 hi2 ei hz3 => ?_) (fun hz => absurd hz (isBar_in (rA_M hA) hi))⟩⟩) (fun hc => absurd hc f)) (fun hc => absurd hc q)) (fun hc => absurd hc p)) (fun z => absurd z (isV_in hv))⟩
  have hB := rA_B hA
  have hM := rA_M hA
  obtain ⟨r1, r2, r3⟩ := cc_rw hB hM hi hv
  have he16 := (z_r hM hi hv).1
  have es : v_X8_size (rwL S so v i) S = nI (zE t v i) := congrArg nI (cc_e hB hM hi hv)
  rw [oG_so hA.2.1, r2, es, nI_1]
  exact ⟨ne_so hA.2.1, hB.1, r1, r3, r3, i_reqIdx rm_e (fun hc => absurd (Or.inr (fun z => nI_nlt (a := j) (b := zE t v i + 1) hj (by omega) z)) hc) (fun _ sz ns => Or.inr (Or.inl ⟨rfl, fun z1 z2 => h _ (hn sz ns z1 z2)⟩))⟩
theorem in_rng {x y k : Nat} (h1 : x ≤ k) (h2 : k ≤ y) (hy : y < 1000000) : ¬ v_in (nI k) (nI x) (nI y) = 0 := fun z => by
  rcases r_out.mpr z with z | z
  · exact nI_nlt h1 (by omega) z
  · exact z (nI_le h2 (by omega))
theorem ins_ok (hb : hB b B) (J : Jp b o so po (n + 100) S t) {v i j kk ff x : Nat} (hv : v < 4) (hi : i < zN t) (hj : j ≤ zE t v i) (hk : kk < 6) (hf : ff < 3) (hx : x ≤ 127) (hcan : ¬ (kk = 5 ∧ ff = 1)) (hfit : insFit t v i (nI x) (nI kk) (nI ff)) (h : ∀ S', Jp b o so po n S' (insA t v i j (aN (t.1 14)) (nI x) (nI kk) (nI ff)) → N (nI (zL t i - (zS t v i (zE t v i) + aN (tk (nI kk) (nI ff))))) (S', r)) : lcall B (S, r) (fun B1 K => w_L_insert B1 o (nI v) (nI i) (nI j) (nI x) (nI kk) (nI ff) (S, r) K) N := by
  have hM := rA_M (Jp_A J)
  have hn24 := hM.2.1
  have he := (z_r hM hi hv).1
  have hc5 : ¬ (nI kk = 5) ∨ ¬ (nI ff = 1) := by
    by_cases e : kk = 5
    · exact Or.inr (fun z => hcan ⟨e, (nI_eq (b := 1) (by omega) (by decide)).mp z⟩)
    · exact Or.inl (fun z => e ((nI_eq (b := 5) (by omega) (by decide)).mp z))
  have k4 : ¬ v_in (nI x) 0 127 = 0 := in_rng (x := 0) (y := 127) (Nat.zero_le _) hx (by decide)
  have k5 : ¬ v_in (nI kk) 0 5 = 0 := in_rng (x := 0) (y := 5) (Nat.zero_le _) (by omega) (by decide)
  have k6 : ¬ v_in (nI ff) 0 2 = 0 := in_rng (x := 0) (y := 2) (Nat.zero_le _) (by omega) (by decide)
  refine mu_insert hb J (fun v2 i2 j2 kk2 ff2 x2 hv2 hi2 hj2 hk2 hf2 hx2 e1 e2 e3 e4 e5 e6 _ hfit2 => ?_) (fun hc => absurd ⟨isV_in hv, k4, k5, k6, hc5⟩ hc) (fun _ hno => ?_) (fun v2 i2 hv2 hi2 e1 e2 hn2 => ?_)
  · obtain rfl := (nI_eq (by omega) (by omega)).mp e1
    obtain rfl := (nI_eq (by omega) (by omega)).mp e2
    have he2 := (z_r hM hi2 hv2).1
    obtain rfl := (nI_eq (by omega) (by omega)).mp e3
    exact h
  · exfalso
    rcases hno with z | z
    · exact isBar_in hM hi z
    · have e6 : mgA t 6 (v_at (nI v) (nI i)) = nI (zE t v i) := by
        rw [at_nI hv, Ag_A (Ag_rfl t) (f := 6) (by decide) (by omega)]
        exact (z_r hM hi hv).2.1
      rw [e6] at z
      exact in_rng (x := 0) (y := zE t v i) (Nat.zero_le _) hj (by omega) z
  · obtain rfl := (nI_eq (by omega) (by omega)).mp e1
    obtain rfl := (nI_eq (by omega) (by omega)).mp e2
    exact absurd hfit hn2
theorem ins_no (hb : hB b B) (J : Jp b o so po (n + 100) S t) {v i j kk ff x : Nat} (hv : v < 4) (hi : i < zN t) (hj : j ≤ zE t v i) (hk : kk < 6) (hf : ff < 3) (hx : x ≤ 127) (hcan : ¬ (kk = 5 ∧ ff = 1)) (hfit : ¬ insFit t v i (nI x) (nI kk) (nI ff)) (h : ∀ S', Jp b o so po n S' t → N (-1000003) (S', r)) : lcall B (S, r) (fun B1 K => w_L_insert B1 o (nI v) (nI i) (nI j) (nI x) (nI kk) (nI ff) (S, r) K) N := by
  have hM := rA_M (Jp_A J)
  have hn24 := hM.2.1
  have he := (z_r hM hi hv).1
  have hc5 : ¬ (nI kk = 5) ∨ ¬ (nI ff = 1) := by
    by_cases e : kk = 5
    · exact Or.inr (fun z => hcan ⟨e, (nI_eq (b := 1) (by omega) (by decide)).mp z⟩)
    · exact Or.inl (fun z => e ((nI_eq (b := 5) (by omega) (by decide)).mp z))
  have k4 : ¬ v_in (nI x) 0 127 = 0 := in_rng (x := 0) (y := 127) (Nat.zero_le _) hx (by decide)
  have k5 : ¬ v_in (nI kk) 0 5 = 0 := in_rng (x := 0) (y := 5) (Nat.zero_le _) (by omega) (by decide)
  have k6 : ¬ v_in (nI ff) 0 2 = 0 := in_rng (x := 0) (y := 2) (Nat.zero_le _) (by omega) (by decide)
  refine mu_insert hb J (fun v2 i2 j2 kk2 ff2 x2 hv2 hi2 hj2 hk2 hf2 hx2 e1 e2 e3 e4 e5 e6 _ hfit2 => ?_) (fun hc => absurd ⟨isV_in hv, k4, k5, k6, hc5⟩ hc) (fun _ hno => ?_) (fun v2 i2 hv2 hi2 e1 e2 hn2 => h)
  · obtain rfl := (nI_eq (by omega) (by omega)).mp e1
    obtain rfl := (nI_eq (by omega) (by omega)).mp e2
    exact absurd hfit2 hfit
  · exfalso
    rcases hno with z | z
    · exact isBar_in hM hi z
    · have e6 : mgA t 6 (v_at (nI v) (nI i)) = nI (zE t v i) := by
        rw [at_nI hv, Ag_A (Ag_rfl t) (f := 6) (by decide) (by omega)]
        exact (z_r hM hi hv).2.1
      rw [e6] at z
      exact in_rng (x := 0) (y := zE t v i) (Nat.zero_le _) hj (by omega) z
end NI
/-- what is kept of marks, pitches and transpositions -/
def evG (A : MS) (q : Nat) : Prop := (A.2 11 q = -1 ∨ ∃ m : Nat, m ≤ 5 ∧ A.2 11 q = nI m) ∧ (A.2 8 q = 0 ∨ ∃ m : Nat, 40 ≤ m ∧ m ≤ 42 ∧ A.2 8 q = nI m)
def gdW (A : MS) : Prop := (∀ v i j, v < 4 → i < zN A → j < zE A v i → evG A (zp v i j)) ∧ ∀ v, v < 4 → ¬ v_in (A.2 13 v) (-12) 12 = 0
section GW
variable {t t' : MS} {v i j np ga ta : Nat} {r : LR}
theorem gdW_mk (h : gdW t) : mkOK t := fun v i j hv hi hj => (h.1 v i j hv hi hj).1
theorem evG_c {q q' : Nat} (h : evG t q) (e1 : t'.2 11 q' = t.2 11 q) (e2 : t'.2 8 q' = t.2 8 q) : evG t' q' := by
  unfold evG
  rw [e1, e2]
  exact h
theorem zN_c (h : t'.1 0 = t.1 0) : zN t' = zN t := by unfold zN; rw [h]
theorem zE_c (h : t'.2 6 = t.2 6) {v i : Nat} : zE t' v i = zE t v i := by unfold zE; rw [h]
theorem gdW_k (h : gdW t) (h0 : t'.1 0 = t.1 0) (h6 : t'.2 6 = t.2 6) (h8 : t'.2 8 = t.2 8) (h11 : t'.2 11 = t.2 11) (h13 : t'.2 13 = t.2 13) : gdW t' := by
  refine ⟨fun v i j hv hi hj => ?_, fun v hv => ?_⟩
  · rw [zN_c h0] at hi
    rw [zE_c h6] at hj
    exact evG_c (h.1 v i j hv hi hj) (by rw [h11]) (by rw [h8])
  · rw [h13]
    exact h.2 v hv
theorem gRow_k (h : gRow r ga t) (h0 : t'.1 0 = t.1 0) (h1 : t'.1 21 = t.1 21) (h2 : t'.1 22 = t.1 22) (h3 : t'.1 23 = t.1 23) : gRow r ga t' := by
  obtain ⟨f, g⟩ := h
  refine ⟨f, ?_⟩
  rw [h0, h1, h2, h3]
  exact g
theorem tRow_k (h : tRow r ta t) (h0 : t'.2 13 = t.2 13) : tRow r ta t' := by
  obtain ⟨f, g⟩ := h
  refine ⟨f, ?_⟩
  rw [h0]
  exact g
theorem wr_ok {a p x : Int32} (ha : ¬ v_in a (-12) 12 = 0) (hp : p = 0 ∨ ∃ m : Nat, 40 ≤ m ∧ m ≤ 42 ∧ p = nI m) : ¬ v_isWritten x p a = 0 := by
  unfold v_isWritten
  rcases hp with hp | ⟨m, m1, m2, hp⟩
  · rw [if_pos (Or.inl hp)]
    exact one_ne
  · have h1 : ¬ (a < -12 ∨ ¬ a ≤ 12) := fun z => ha (r_out.mp z)
    have h2 : ¬ a < -12 := fun z => h1 (Or.inl z)
    have h3 : a ≤ 12 := Classical.byContradiction fun z => h1 (Or.inr z)
    have k2 : ¬ a.toInt < -12 := fun z => h2 (Int32.lt_iff_toInt_lt.mpr z)
    have k3 : a.toInt ≤ 12 := Int32.le_iff_toInt_le.mp h3
    have e1 : (p + a).toInt = (m : Int) + a.toInt := by
      rw [hp, Int32.toInt_add, nI_toInt (by omega)]
      exact Int.bmod_eq_of_le (by omega) (by omega)
    have h4 : ¬ v_in (p + a) 1 127 = 0 := fun z => by
      rcases r_out.mpr z with z | z
      · have := Int32.lt_iff_toInt_lt.mp z
        rw [e1] at this
        have e : (1 : Int32).toInt = 1 := by decide
        omega
      · refine z (Int32.le_iff_toInt_le.mpr ?_)
        rw [e1]
        have e : (127 : Int32).toInt = 127 := by decide
        omega
    rw [if_pos (Or.inr h4)]
    exact one_ne
theorem gdW_in (w : zM t) (h : gdW t) (hv : v < 4) (hi : i < zN t) (he : zE t v i < 16) (hj : j ≤ zE t v i) {pi kd fo : Int32} (hp : pi = 0 ∨ ∃ m : Nat, 40 ≤ m ∧ m ≤ 42 ∧ pi = nI m) : gdW (insA t v i j np pi kd fo) := by
  have hI : Ins t (insA t v i j np pi kd fo) v i j np pi kd fo := insA_ok
  refine ⟨fun v2 i2 j2 hv2 hi2 hj2 => ?_, fun v2 hv2 => h.2 v2 hv2⟩
  have hn := w.2.1
  rw [in_n hI] at hi2
  rw [in_e hI] at hj2
  have he2 := (z_r w hi2 hv2).1
  by_cases e : 24 * v2 + i2 = 24 * v + i
  · obtain rfl : v2 = v := by omega
    obtain rfl : i2 = i := by omega
    rw [if_pos e, aN_nI (by omega)] at hj2
    have f1 := in_s hI he (f := 11) hj (j2 := j2) (by omega) (by decide) (by decide)
    have f2 := in_s hI he (f := 8) hj (j2 := j2) (by omega) (by decide) (by decide)
    by_cases c1 : j2 < j
    · rw [if_pos c1] at f1 f2
      exact evG_c (h.1 v2 i2 j2 hv2 hi2 (by omega)) f1 f2
    · by_cases c2 : j2 = j
      · rw [if_neg c1, if_pos c2] at f1 f2
        refine ⟨Or.inl f1, ?_⟩
        rw [f2]
        exact hp
      · rw [if_neg c1, if_neg c2] at f1 f2
        exact evG_c (h.1 v2 i2 (j2 - 1) hv2 hi2 (by omega)) f1 f2
  · rw [if_neg e] at hj2
    exact evG_c (h.1 v2 i2 j2 hv2 hi2 hj2) (in_r hI he e hj (by omega) (by decide) (by decide)) (in_r hI he e hj (by omega) (by decide) (by decide))
theorem gdW_re (w : zM t) (h : gdW t) (hv : v < 4) (hi : i < zN t) (hj : j < zE t v i) : gdW (remA t v i j np) := by
  have hI : Rem t (remA t v i j np) v i j np := remA_ok
  refine ⟨fun v2 i2 j2 hv2 hi2 hj2 => ?_, fun v2 hv2 => h.2 v2 hv2⟩
  have hn := w.2.1
  have he := (z_r w hi hv).1
  rw [re_n hI] at hi2
  rw [re_e hI] at hj2
  have he2 := (z_r w hi2 hv2).1
  by_cases e : 24 * v2 + i2 = 24 * v + i
  · obtain rfl : v2 = v := by omega
    obtain rfl : i2 = i := by omega
    rw [if_pos e, aN_nI (by omega)] at hj2
    have f1 := re_s hI (f := 11) hj (j2 := j2) (by omega) (by decide) (by decide)
    have f2 := re_s hI (f := 8) hj (j2 := j2) (by omega) (by decide) (by decide)
    by_cases c1 : j2 < j
    · rw [if_pos c1] at f1 f2
      exact evG_c (h.1 v2 i2 j2 hv2 hi2 (by omega)) f1 f2
    · rw [if_neg c1] at f1 f2
      exact evG_c (h.1 v2 i2 (j2 + 1) hv2 hi2 (by omega)) f1 f2
  · rw [if_neg e] at hj2
    exact evG_c (h.1 v2 i2 j2 hv2 hi2 hj2) (re_r hI he e hj (by omega) (by decide) (by decide)) (re_r hI he e hj (by omega) (by decide) (by decide))
theorem zp_31 (w : zM t) (hv : v < 4) (hi : i < zN t) (hj : j < zE t v i) : zp v i j < 2147483648 := by
  have hn := w.2.1
  have he := (z_r w hi hv).1
  unfold zp
  omega
theorem gdW_mark (w : zM t) (h : gdW t) (hv : v < 4) (hi : i < zN t) (hj : j < zE t v i) {a : Int32} (ha : a = -1 ∨ ∃ m : Nat, m ≤ 5 ∧ a = nI m) : gdW (msA (msI t 45 0) 11 (nI (zp v i j)) a) := by
  refine ⟨fun v2 i2 j2 hv2 hi2 hj2 => ?_, fun v2 hv2 => h.2 v2 hv2⟩
  have h2 := h.1 v2 i2 j2 hv2 hi2 hj2
  have e : (msA (msI t 45 0) 11 (nI (zp v i j)) a).2 11 (zp v2 i2 j2) = if zp v2 i2 j2 = zp v i j then a else t.2 11 (zp v2 i2 j2) := mA_at (zp_31 w hv hi hj)
  refine ⟨?_, h2.2⟩
  rw [e]
  by_cases c : zp v2 i2 j2 = zp v i j
  · rw [if_pos c]
    exact ha
  · rw [if_neg c]
    exact h2.1
theorem gdW_pitch (w : zM t) (h : gdW t) (hv : v < 4) (hi : i < zN t) (hj : j < zE t v i) {a x : Int32} (ha : a = 0 ∨ ∃ m : Nat, 40 ≤ m ∧ m ≤ 42 ∧ a = nI m) : gdW (msA (msA (msI t 45 0) 8 (nI (zp v i j)) a) 12 (nI (zp v i j)) x) := by
  refine ⟨fun v2 i2 j2 hv2 hi2 hj2 => ?_, fun v2 hv2 => h.2 v2 hv2⟩
  have h2 := h.1 v2 i2 j2 hv2 hi2 hj2
  have e : (msA (msA (msI t 45 0) 8 (nI (zp v i j)) a) 12 (nI (zp v i j)) x).2 8 (zp v2 i2 j2) = if zp v2 i2 j2 = zp v i j then a else t.2 8 (zp v2 i2 j2) := (congrFun (mA_ne (t := msA (msI t 45 0) 8 (nI (zp v i j)) a) (f := 12) (f' := 8) (by decide)) _).trans (mA_at (t := msI t 45 0) (zp_31 w hv hi hj))
  refine ⟨h2.1, ?_⟩
  rw [e]
  by_cases c : zp v2 i2 j2 = zp v i j
  · rw [if_pos c]
    exact ha
  · rw [if_neg c]
    exact h2.2
end GW
