/-! THE SOUNDS OF A VOICE, AS THE MODEL LAYS THEM -/
def snM (t : MS) (v : Nat) (s : SQ) : Prop := t.2 27 v = nI s.1 ∧ ∀ x, x < s.1 → t.2 28 (768 * v + x) = nI (s.2.1 x) ∧ t.2 29 (768 * v + x) = nI (s.2.2.1 x) ∧ t.2 30 (768 * v + x) = nI (s.2.2.2 x)
def Fs (v : Nat) (t t' : MS) : Prop := t'.1 = t.1 ∧ (∀ f, f < 27 ∨ 30 < f → t'.2 f = t.2 f) ∧ (∀ q, q ≠ v → t'.2 27 q = t.2 27 q) ∧ ∀ f r, 28 ≤ f → f ≤ 30 → (r < 768 * v ∨ 768 * v + 768 ≤ r) → t'.2 f r = t.2 f r
section SM
variable {A t t' : MS} {L : List Nat} {v : Nat}
theorem Ag_Fs (g : Ag A t) (h : Fs v t t') : Ag A t' := ⟨fun k hk => ⟨(congrFun h.1 k).trans (g.1 k hk).1, (h.2.1 k (by omega)).trans (g.1 k hk).2⟩, (congrFun (h.2.1 26 (by decide)) 0).trans g.2⟩
theorem plM_Fs (g : plM A t L) (h : Fs v t t') : plM A t' L := by
  obtain ⟨p1, p2, p3⟩ := g
  unfold plM
  rw [h.1, h.2.1 25 (by decide), h.2.1 26 (by decide)]
  exact ⟨p1, p2, p3⟩
theorem Fs_rfl : Fs v t t := ⟨rfl, fun _ _ => rfl, fun _ _ => rfl, fun _ _ _ _ _ => rfl⟩
theorem Fs_27 {x : Int32} (hv : v < 4) (h : Fs v t t') : Fs v t (msA t' 27 (nI v) x) := by
  refine ⟨h.1, fun f hf => (mA_ne (by omega)).trans (h.2.1 f hf), fun q hq => ?_, fun f r f1 f2 hr => ?_⟩
  · rw [mA_at (by omega), if_neg hq]
    exact h.2.2.1 q hq
  · rw [mA_ne (by omega)]
    exact h.2.2.2 f r f1 f2 hr
theorem Fs_row {f0 x : Nat} {y : Int32} (hv : v < 4) (hf : f0 = 28 ∨ f0 = 29 ∨ f0 = 30) (hx : x < 768) (h : Fs v t t') : Fs v t (msA t' f0 (nI (768 * v + x)) y) := by
  refine ⟨h.1, fun f hf2 => (mA_ne (by omega)).trans (h.2.1 f hf2), fun q hq => ?_, fun f r f1 f2 hr => ?_⟩
  · rw [mA_ne (by omega)]
    exact h.2.2.1 q hq
  · by_cases e : f = f0
    · rw [e, mA_at (by omega), if_neg (by omega), ← e]
      exact h.2.2.2 f r f1 f2 hr
    · rw [mA_ne e]
      exact h.2.2.2 f r f1 f2 hr
theorem sub1_eq {x y : Nat} (hx : x < 1000) (hy : y < 1000) : nI x = nI y - 1 ↔ x + 1 = y := by
  constructor
  · intro h
    have h2 : nI x + 1 = nI y := by rw [h]; exact Int32.sub_add_cancel _ _
    rw [nI_1] at h2
    exact (nI_eq (by omega) (by omega)).mp h2
  · intro h
    rw [← h, nI_pred]
theorem mm_over (w : zM A) (g : Ag A t) (hL : ∀ x, x ∈ L → x < zN A) (h48 : L.length ≤ 48) (hp : plM A t L) (hv : v < 4) {p k : Nat} (hpl : p < L.length) (hk : k < zE A v (gn L p)) {Q : Int32 → MS → Prop} (h : Q (nI (zCu A L v p (k + 1))) t) : w_over (nI v) (nI p) (nI k) t Q := by
  have hb := gn_lt hL hpl
  have hs := z_sL w hb hv (k := k + 1) (by omega)
  have hl := z_len w hb
  have e25 : mgA t 25 (nI p) = nI (gn L p) := by unfold mgA; rw [nI_clamp (by omega)]; exact hp.2.1 p hpl
  have e26 : mgA t 26 (nI p) = nI (zSt A L p) := by unfold mgA; rw [nI_clamp (by omega)]; exact hp.2.2 p (by omega)
  unfold w_over
  rw [e25, e26, nI_1]
  refine ⟨vp_nI (n := 49) (by omega) (by decide), vp_nI (n := 48) (by omega) (by decide), vp_nI (n := 48) (by omega) (by decide), mm_ticks w g hb hv (k := k + 1) (by omega) (mm_lasts w g hb (by omega) ?_)⟩
  rw [nI_add]
  exact h
theorem ho_m (g : Ag A t) {x y : Nat} (hx : x < 1536) (hy : y < 1536) : d_holds (nI x) (nI y) t ∧ v_holds (nI x) (nI y) t = if zHo A x y = true then 1 else 0 := by
  have ix : ∀ f, m_len f = 1536 → mIn f (nI x) := fun f e => by unfold mIn; rw [e]; exact vp_nI hx (by decide)
  have iy : ∀ f, m_len f = 1536 → mIn f (nI y) := fun f e => by unfold mIn; rw [e]; exact vp_nI hy (by decide)
  unfold d_holds v_holds
  rw [Ag_A g (f := 12) (i := x) (by decide) (by omega), Ag_A g (f := 8) (i := x) (by decide) (by omega), Ag_A g (f := 8) (i := y) (by decide) (by omega)]
  refine ⟨⟨ix 12 rfl, fun _ => ix 8 rfl, fun _ _ => ix 8 rfl, fun _ _ => iy 8 rfl⟩, ?_⟩
  by_cases e : ¬ A.2 12 x = 0 ∧ ¬ A.2 8 x ≤ 0 ∧ A.2 8 x = A.2 8 y
  · have e9 : zHo A x y = true := decide_eq_true e
    rw [if_pos e, if_pos e9]
  · have e9 : ¬ zHo A x y = true := fun z => e (of_decide_eq_true z)
    rw [if_neg e, if_neg e9]
theorem go_m (w : zM A) (g : Ag A t) (hL : ∀ x, x ∈ L → x < zN A) (h48 : L.length ≤ 48) (hp : plM A t L) (hv : v < 4) {p k : Nat} (hpl : p < L.length) (hk : k < zE A v (gn L p)) : d_goesOn (nI v) (nI p) (nI k) t ∧ v_goesOn (nI v) (nI p) (nI k) t = if zGo A L v p k = true then 1 else 0 := by
  have hn := w.2.1
  have hb := gn_lt hL hpl
  have he := (z_r w hb hv).1
  have e25 : ∀ q, q < L.length → mgA t 25 (nI q) = nI (gn L q) := fun q hq => by unfold mgA; rw [nI_clamp (by omega)]; exact hp.2.1 q hq
  have e6 : ∀ i, i < zN A → mgA t 6 (v_at (nI v) (nI i)) = nI (zE A v i) ∧ mIn 6 (v_at (nI v) (nI i)) := fun i hi => by
    rw [at_nI hv, Ag_A g (f := 6) (by decide) (by omega)]
    exact ⟨(z_r w hi hv).2.1, vp_nI (n := 96) (by omega) (by decide)⟩
  unfold d_goesOn v_goesOn zGo
  rw [e25 p hpl]
  by_cases k0 : k = 0
  · subst k0
    have c0 : (nI 0 : Int32) ≤ 0 := by decide
    rw [if_pos c0, if_pos rfl]
    by_cases p0 : p = 0
    · subst p0
      rw [if_pos c0, if_neg (fun z => absurd (of_decide_eq_true z).1 (Nat.lt_irrefl _))]
      exact ⟨⟨vp_nI (n := 48) (by omega) (by decide), fun _ z => absurd c0 z, fun _ z => absurd c0 z, fun _ z => absurd c0 z, fun _ z => absurd c0 z, fun _ z => absurd c0 z, fun z => absurd c0 z⟩, rfl⟩
    · obtain ⟨q, hq⟩ : ∃ q, p = q + 1 := ⟨p - 1, by omega⟩
      subst hq
      have cp : ¬ nI (q + 1) ≤ 0 := nI_nle (by omega) (by omega)
      have hbq := gn_lt hL (p := q) (by omega)
      rw [if_neg cp, nI_pred, e25 q (by omega)]
      have es : nI (gn L q) = nI (gn L (q + 1)) - 1 ↔ gn L q + 1 = gn L (q + 1) := sub1_eq (by omega) (by omega)
      by_cases cb : gn L q + 1 = gn L (q + 1)
      · have cb2 := es.mpr cb
        obtain ⟨m1, m2⟩ := e6 _ hbq
        have heq := (z_r w hbq hv).1
        rw [if_pos cb2, ← cb2, m1]
        by_cases ce : zE A v (gn L q) = 0
        · rw [if_pos (by rw [ce]; exact c0), if_neg (fun z => absurd (of_decide_eq_true z).2.2.1 (by rw [Nat.add_sub_cancel, ce]; exact Nat.lt_irrefl _))]
          refine ⟨⟨vp_nI (n := 48) (by omega) (by decide), fun _ _ => vp_nI (n := 48) (by omega) (by decide), fun _ _ _ => vp_nI (n := 48) (by omega) (by decide), fun _ _ _ => m2, fun _ _ _ z => absurd (by rw [ce]; exact c0) z, fun _ _ _ z => absurd (by rw [ce]; exact c0) z, fun z => absurd c0 z⟩, rfl⟩
        · have cz : ¬ nI (zE A v (gn L q)) ≤ 0 := nI_nle (by omega) (by omega)
          obtain ⟨c, hc⟩ : ∃ c, zE A v (gn L q) = c + 1 := ⟨zE A v (gn L q) - 1, by omega⟩
          have e1 : nI (zE A v (gn L q)) - 1 = nI (zE A v (gn L q) - 1) := by rw [hc, nI_pred]; rfl
          have hx := zp_lt (v := v) (i := gn L q) (j := zE A v (gn L q) - 1) hv (by omega) (by omega)
          have hy := zp_lt (v := v) (i := gn L (q + 1)) (j := 0) hv (by omega) (by omega)
          obtain ⟨h1, h2⟩ := ho_m g hx hy
          have ey : v_place (nI v) (nI (gn L (q + 1))) 0 = nI (zp v (gn L (q + 1)) 0) := pl_nI (j := 0) hv
          rw [if_neg cz, e1, pl_nI hv, ey, h2]
          refine ⟨⟨vp_nI (n := 48) (by omega) (by decide), fun _ _ => vp_nI (n := 48) (by omega) (by decide), fun _ _ _ => vp_nI (n := 48) (by omega) (by decide), fun _ _ _ => m2, fun _ _ _ _ => m2, fun _ _ _ _ => h1, fun z => absurd c0 z⟩, ?_⟩
          by_cases ch : zHo A (zp v (gn L q) (zE A v (gn L q) - 1)) (zp v (gn L (q + 1)) 0) = true
          · rw [if_pos ch, if_neg one_ne, if_pos]
            refine decide_eq_true ⟨by omega, ?_, ?_, ?_⟩
            · rw [Nat.add_sub_cancel]
              exact cb
            · rw [Nat.add_sub_cancel]
              omega
            · rw [Nat.add_sub_cancel]
              exact ch
          · rw [if_neg ch, if_pos rfl, if_neg]
            intro z
            have := (of_decide_eq_true z).2.2.2
            rw [Nat.add_sub_cancel] at this
            exact ch this
      · have cb2 : ¬ nI (gn L q) = nI (gn L (q + 1)) - 1 := fun z => cb (es.mp z)
        rw [if_neg cb2, if_neg (fun z => by
          have := (of_decide_eq_true z).2.1
          rw [Nat.add_sub_cancel] at this
          exact cb this)]
        exact ⟨⟨vp_nI (n := 48) (by omega) (by decide), fun _ _ => vp_nI (n := 48) (by omega) (by decide), fun _ _ z => absurd z cb2, fun _ _ z => absurd z cb2, fun _ _ z => absurd z cb2, fun _ _ z => absurd z cb2, fun z => absurd c0 z⟩, rfl⟩
  · obtain ⟨j, hj⟩ : ∃ j, k = j + 1 := ⟨k - 1, by omega⟩
    subst hj
    have ck : ¬ nI (j + 1) ≤ 0 := nI_nle (by omega) (by omega)
    have hx := zp_lt (v := v) (i := gn L p) (j := j) hv (by omega) (by omega)
    have hy := zp_lt (v := v) (i := gn L p) (j := j + 1) hv (by omega) (by omega)
    obtain ⟨h1, h2⟩ := ho_m g hx hy
    rw [if_neg ck, if_neg k0, nI_pred, pl_nI hv, pl_nI hv, h2, Nat.add_sub_cancel]
    exact ⟨⟨vp_nI (n := 48) (by omega) (by decide), fun z => absurd z ck, fun z => absurd z ck, fun z => absurd z ck, fun z => absurd z ck, fun z => absurd z ck, fun _ => h1⟩, rfl⟩
theorem mm_laysSounds (w : zM A) (g : Ag A t) (hL : ∀ x, x ∈ L → x < zN A) (h48 : L.length ≤ 48) (hp : plM A t L) (hv : v < 4) {Q : MS → Prop} (h : ∀ t', Fs v t t' → snM t' v (zSs A L v L.length) → Q t') : w_laysSounds (nI v) t Q := by
  have hn := w.2.1
  refine ⟨vp_nI (n := 4) hv (by decide), fun t2 ht2 => ?_⟩
  have F2 : Fs v t t2 := by rw [ht2]; exact Fs_27 hv Fs_rfl
  refine lp_for (fun p z => z.1 = nI p ∧ Fs v t z.2 ∧ snM z.2 v (zSs A L v p)) L.length ?_ ?_ 0 (Nat.zero_le _) (0, t2) ⟨rfl, F2, ?_, fun x hx => absurd hx (Nat.not_lt_zero _)⟩
  · intro p hpl K z hz hK
    obtain ⟨z1, u⟩ := z
    obtain ⟨hz1, hF, hs⟩ := hz
    dsimp only at hz1 hF hs
    subst hz1
    have gu := Ag_Fs g hF
    have pu := plM_Fs hp hF
    have hb := gn_lt hL hpl
    have he16 := (z_r w hb hv).1
    have e24 : mgI u 24 = nI L.length := pu.1
    have e25 : mgA u 25 (nI p) = nI (gn L p) := by unfold mgA; rw [nI_clamp (by omega)]; exact pu.2.1 p hpl
    unfold w_laysSounds_L9
    dsimp only
    rw [e24, e25]
    refine ⟨fun h9 => absurd h9 (nI_ge hpl (by omega)), fun _ => ⟨vp_nI (n := 48) (by omega) (by decide), fun x4 hx4 => ?_⟩⟩
    subst hx4
    refine lp_for (fun k z => z.1 = nI k ∧ Fs v t z.2 ∧ snM z.2 v (zSv A L v p k)) (zE A v (gn L p)) ?_ ?_ 0 (Nat.zero_le _) (0, u) ⟨rfl, hF, hs⟩
    · intro k hk K2 z hz2 hK2
      obtain ⟨z1, y⟩ := z
      obtain ⟨hz1, hFy, hsy⟩ := hz2
      dsimp only at hz1 hFy hsy
      subst hz1
      have gy := Ag_Fs g hFy
      have py := plM_Fs hp hFy
      have e6 : mgA y 6 (v_at (nI v) (nI (gn L p))) = nI (zE A v (gn L p)) ∧ mIn 6 (v_at (nI v) (nI (gn L p))) := by
        rw [at_nI hv, Ag_A gy (f := 6) (by decide) (by omega)]
        exact ⟨(z_r w hb hv).2.1, vp_nI (n := 96) (by omega) (by decide)⟩
      obtain ⟨n, hn9⟩ : ∃ n, n = (zSv A L v p k).1 := ⟨_, rfl⟩
      have hnb : n ≤ 16 * p + k := by rw [hn9]; exact zSv_n w hL hv hpl (by omega)
      have hn768 : n < 768 := by omega
      have e27 : mgA y 27 (nI v) = nI n := by unfold mgA; rw [nI_clamp (by omega), hn9]; exact hsy.1
      have hpp := zp_lt (v := v) (i := gn L p) (j := k) hv (by omega) (by omega)
      have i8 : mIn 8 (nI (zp v (gn L p) k)) := vp_nI (n := 1536) hpp (by decide)
      have e8 : mgA y 8 (nI (zp v (gn L p) k)) = A.2 8 (zp v (gn L p) k) := Ag_A gy (by decide) (by omega)
      have e26 : mgA y 26 (nI p) = nI (zSt A L p) := by unfold mgA; rw [nI_clamp (by omega)]; exact py.2.2 p (by omega)
      have ex7 : (768 : Int32) * nI v + nI n = nI (768 * v + n) := by
        rw [show (768 : Int32) = nI 768 from rfl, pk_mul, nI_add]
      have r31 : 768 * v + n < 2147483648 := by omega
      have iN : ∀ f, m_len f = 3072 → mIn f (nI (768 * v + n)) := fun f e => by unfold mIn; rw [e]; exact vp_nI (by omega) (by decide)
      obtain ⟨gd, gv⟩ := go_m w gy hL h48 py hv hpl hk
      have hs16 := z_sL w hb hv (k := k) (by omega)
      have hl := z_len w hb
      unfold w_laysSounds_L27
      dsimp only
      rw [e6.1, e27, pl_nI hv, e8, e26, gv]
      refine ⟨e6.2, fun h9 => absurd h9 (nI_ge hk (by omega)), fun _ => ⟨vp_nI (n := 4) hv (by decide), fun x7 hx7 => ⟨i8, fun t9 => Fs v t t9 ∧ snM t9 v (zSv A L v p (k + 1)), fun t9 h9 => ?_, (A.2 8 (zp v (gn L p) k) ≤ 0 ∨ ¬ zGo A L v p k = true), fun hJ => ⟨i8, fun h9 => ?_, fun h9 => ?_⟩, fun h9 => Or.inl h9, fun h9 => ⟨gd, fun h8 => Or.inr (fun z => ?_), fun h8 => ?_⟩⟩⟩⟩
      · rw [nI_1]
        exact hK2 _ ⟨rfl, h9.1, h9.2⟩
      · refine ⟨hFy, ?_⟩
        show snM y v (zSn A L v p k (zSv A L v p k))
        unfold zSn
        rw [if_pos h9]
        exact hsy
      · have hgo := hJ.resolve_left h9
        rw [ex7] at hx7
        subst hx7
        refine ⟨vp_nI (n := 49) (by omega) (by decide), mm_ticks w gy hb hv (k := k) (by omega) (mm_lasts w gy hb (by omega) ⟨iN 28 rfl, fun t15 h15 => ?_⟩)⟩
        have F15 : Fs v t t15 := by rw [h15]; exact Fs_row hv (Or.inl rfl) hn768 hFy
        refine mm_over w (Ag_Fs g F15) hL h48 (plM_Fs hp F15) hv hpl hk ⟨iN 29 rfl, fun t18 h18 => ⟨iN 30 rfl, fun t20 h20 => ⟨vp_nI (n := 4) hv (by decide), vp_nI (n := 4) hv (by decide), fun t23 h23 => ?_⟩⟩⟩
        have F20 : Fs v t t20 := by rw [h20]; exact Fs_row hv (Or.inr (Or.inr rfl)) hn768 (by rw [h18]; exact Fs_row hv (Or.inr (Or.inl rfl)) hn768 F15)
        have e27' : mgA t20 27 (nI v) = nI n := by
          unfold mgA
          rw [nI_clamp (by omega), h20, mA_ne (by decide), h18, mA_ne (by decide), h15, mA_ne (by decide), hn9]
          exact hsy.1
        rw [e27', nI_1] at h23
        refine ⟨by rw [h23]; exact Fs_27 hv F20, ?_⟩
        have ezs : zSv A L v p (k + 1) = (n + 1, va_up (zSv A L v p k).2.1 n (zCu A L v p k), va_up (zSv A L v p k).2.2.1 n (zCu A L v p (k + 1)), va_up (zSv A L v p k).2.2.2 n (16 * gn L p + k)) := by
          show zSn A L v p k (zSv A L v p k) = _
          unfold zSn
          rw [if_neg h9, if_neg hgo, hn9]
        rw [ezs]
        refine ⟨?_, fun x hx => ?_⟩
        · rw [h23, mA_at (by omega), if_pos rfl]
        · have hx' : x < n + 1 := hx
          have q28 : t23.2 28 (768 * v + x) = if 768 * v + x = 768 * v + n then nI (zSt A L p) + nI (zT A (gn L p) (zS A v (gn L p) k)) else y.2 28 (768 * v + x) := by
            rw [h23, mA_ne (by decide), h20, mA_ne (by decide), h18, mA_ne (by decide), h15, mA_at r31]
          have q29 : t23.2 29 (768 * v + x) = if 768 * v + x = 768 * v + n then nI (zCu A L v p (k + 1)) else y.2 29 (768 * v + x) := by
            rw [h23, mA_ne (by decide), h20, mA_ne (by decide), h18, mA_at r31, h15, mA_ne (by decide)]
          have q30 : t23.2 30 (768 * v + x) = if 768 * v + x = 768 * v + n then (16 * nI (gn L p)) + nI k else y.2 30 (768 * v + x) := by
            rw [h23, mA_ne (by decide), h20, mA_at r31, h18, mA_ne (by decide), h15, mA_ne (by decide)]
          rw [q28, q29, q30]
          dsimp only
          rw [va_up_at, va_up_at, va_up_at]
          by_cases e : x = n
          · have e' : 768 * v + x = 768 * v + n := by omega
            rw [if_pos e', if_pos e', if_pos e', if_pos e, if_pos e, if_pos e, nI_add, show (16 : Int32) = nI 16 from rfl, pk_mul, nI_add]
            exact ⟨rfl, rfl, rfl⟩
          · have e' : ¬ 768 * v + x = 768 * v + n := by omega
            rw [if_neg e', if_neg e', if_neg e', if_neg e, if_neg e, if_neg e]
            exact hsy.2 x (by omega)
      · rw [if_pos z] at h8
        exact one_ne h8
      · have hgo : zGo A L v p k = true := Classical.byContradiction fun z => by
          rw [if_neg z] at h8
          exact h8 rfl
        have hpos : 0 < n := by rw [hn9]; exact (zNote p (by omega)).2 k hk hpl hgo
        obtain ⟨m, hm⟩ : ∃ m, n = m + 1 := ⟨n - 1, by omega⟩
        have ex1 : x7 - 1 = nI (768 * v + m) := by rw [hx7, ex7, hm, ← Nat.add_assoc, nI_pred]
        rw [ex1]
        refine mm_over w gy hL h48 py hv hpl hk ⟨vp_nI (n := 3072) (by omega) (by decide), fun t27 h27 => ?_⟩
        refine ⟨by rw [h27]; exact Fs_row hv (Or.inr (Or.inl rfl)) (by omega) hFy, ?_⟩
        have ezs : zSv A L v p (k + 1) = (n, (zSv A L v p k).2.1, va_up (zSv A L v p k).2.2.1 (n - 1) (zCu A L v p (k + 1)), (zSv A L v p k).2.2.2) := by
          show zSn A L v p k (zSv A L v p k) = _
          unfold zSn
          rw [if_neg h9, if_pos hgo, hn9]
        rw [ezs]
        refine ⟨?_, fun x hx => ?_⟩
        · rw [h27, mA_ne (by decide), hn9]
          exact hsy.1
        · have hx' : x < n := hx
          obtain ⟨b1, b2, b3⟩ := hsy.2 x (by omega)
          rw [h27, mA_ne (f' := 28) (by decide), mA_at (by omega), mA_ne (f' := 30) (by decide)]
          dsimp only
          rw [va_up_at]
          by_cases e : x = n - 1
          · rw [if_pos (by omega), if_pos e]
            exact ⟨b1, rfl, b3⟩
          · rw [if_neg (by omega), if_neg e]
            exact ⟨b1, b2, b3⟩
    · intro K2 z hz2
      obtain ⟨z1, y⟩ := z
      obtain ⟨hz1, hFy, hsy⟩ := hz2
      dsimp only at hz1 hFy hsy
      subst hz1
      have gy := Ag_Fs g hFy
      have e6 : mgA y 6 (v_at (nI v) (nI (gn L p))) = nI (zE A v (gn L p)) ∧ mIn 6 (v_at (nI v) (nI (gn L p))) := by
        rw [at_nI hv, Ag_A gy (f := 6) (by decide) (by omega)]
        exact ⟨(z_r w hb hv).2.1, vp_nI (n := 96) (by omega) (by decide)⟩
      unfold w_laysSounds_L27
      dsimp only
      rw [e6.1]
      refine ⟨e6.2, fun _ => ?_, fun h9 => absurd (nI_le (Nat.le_refl _) (by omega)) h9⟩
      rw [nI_1]
      exact hK _ ⟨rfl, hFy, hsy⟩
  · intro K z hz
    obtain ⟨z1, u⟩ := z
    obtain ⟨hz1, hF, hs⟩ := hz
    dsimp only at hz1 hF hs
    subst hz1
    have e24 : mgI u 24 = nI L.length := (plM_Fs hp hF).1
    unfold w_laysSounds_L9
    dsimp only
    rw [e24]
    exact ⟨fun _ => h u hF hs, fun h9 => absurd (nI_le (Nat.le_refl _) (by omega)) h9⟩
  · rw [ht2, mA_at (by omega), if_pos rfl]
    rfl
end SM
