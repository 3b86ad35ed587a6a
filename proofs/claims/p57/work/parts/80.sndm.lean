/-! THE SOUNDS OF A VOICE, AS THE MODEL LAYS THEM -/
def snM (t : MS) (v : Nat) (s : SQ) : Prop := t.2 27 v = nI s.1 ∧ ∀ x, x < s.1 → t.2 28 (768 * v + x) = nI (s.2.1 x) ∧ t.2 29 (768 * v + x) = nI (s.2.2.1 x) ∧ t.2 30 (768 * v + x) = nI (s.2.2.2 x)
def Fs (v : Nat) (t t' : MS) : Prop := t'.1 = t.1 ∧ (∀ f, f < 27 ∨ 30 < f → t'.2 f = t.2 f) ∧ (∀ q, q ≠ v → t'.2 27 q = t.2 27 q) ∧ ∀ f r, 28 ≤ f → f ≤ 30 → (r < 768 * v ∨ 768 * v + 768 ≤ r) → t'.2 f r = t.2 f r
section SM
variable {A t t' : MS} {L : List Nat} {v : Nat}
theorem Ag_Fs (g : Ag A t) (h : Fs v t t') : Ag A t' := ⟨fun k hk => ⟨(congrFun h.1 k).trans (g.1 k hk).1, (h.2.1 k (by omega)).trans (g.1 k hk).2⟩, (congrFun (h.2.1 26 (by decide)) 0).trans g.2⟩
theorem plM_Fs (g : plM A t L) (h : Fs v t t') : plM A t' L := by
  obtain ⟨p1, p2, p3⟩ := g
  unfold plM
  rw [h.1, h.2.1 25 (by decide), h.2.1 26 (by decide)]
  exact ⟨p1, p2, p3⟩
theorem Fs_rfl : Fs v t t := ⟨rfl, fun _ _ => rfl, fun _ _ => rfl, fun _ _ _ _ _ => rfl⟩
theorem Fs_27 {x : Int32} (hv : v < 4) (h : Fs v t t') : Fs v t (msA t' 27 (nI v) x) := by
  refine ⟨h.1, fun f hf => (mA_ne (by omega)).trans (h.2.1 f hf), fun q hq => ?_, fun f r f1 f2 hr => ?_⟩
  · rw [mA_at (by omega), if_neg hq]
    exact h.2.2.1 q hq
  · rw [mA_ne (by omega)]
    exact h.2.2.2 f r f1 f2 hr
theorem Fs_row {f0 x : Nat} {y : Int32} (hv : v < 4) (hf : f0 = 28 ∨ f0 = 29 ∨ f0 = 30) (hx : x < 768) (h : Fs v t t') : Fs v t (msA t' f0 (nI (768 * v + x)) y) := by
  refine ⟨h.1, fun f hf2 => (mA_ne (by omega)).trans (h.2.1 f hf2), fun q hq => ?_, fun f r f1 f2 hr => ?_⟩
  · rw [mA_ne (by omega)]
    exact h.2.2.1 q hq
  · by_cases e : f = f0
    · rw [e, mA_at (by omega), if_neg (by omega), ← e]
      exact h.2.2.2 f r f1 f2 hr
    · rw [mA_ne e]
      exact h.2.2.2 f r f1 f2 hr
theorem sub1_eq {x y : Nat} (hx : x < 1000) (hy : y < 1000) : nI x = nI y - 1 ↔ x + 1 = y := by
  constructor
  · intro h
    have h2 : nI x + 1 = nI y := by rw [h]; exact Int32.sub_add_cancel _ _
    rw [nI_1] at h2
    exact (nI_eq (by omega) (by omega)).mp h2
  · intro h
    rw [← h, nI_pred]
theorem ho_m (g : Ag A t) {x y : Nat} (hx : x < 1536) (hy : y < 1536) : d_holds (nI x) (nI y) t ∧ v_holds (nI x) (nI y) t = if zHo A x y = true then 1 else 0 := by
  have ix : ∀ f, m_len f = 1536 → mIn f (nI x) := fun f e => by unfold mIn; rw [e]; exact vp_nI hx (by decide)
  have iy : ∀ f, m_len f = 1536 → mIn f (nI y) := fun f e => by unfold mIn; rw [e]; exact vp_nI hy (by decide)
  unfold d_holds v_holds
  rw [Ag_A g (f := 12) (i := x) (by decide) (by omega), Ag_A g (f := 8) (i := x) (by decide) (by omega), Ag_A g (f := 8) (i := y) (by decide) (by omega)]
  refine ⟨⟨ix 12 rfl, fun _ => ix 8 rfl, fun _ _ => ix 8 rfl, fun _ _ => iy 8 rfl⟩, ?_⟩
  by_cases e : ¬ A.2 12 x = 0 ∧ ¬ A.2 8 x ≤ 0 ∧ A.2 8 x = A.2 8 y
  · have e9 : zHo A x y = true := decide_eq_true e
    rw [if_pos e, if_pos e9]
  · have e9 : ¬ zHo A x y = true := fun z => e (of_decide_eq_true z)
    rw [if_neg e, if_neg e9]
theorem go_m (w : zM A) (g : Ag A t) (hL : ∀ x, x ∈ L → x < zN A) (h48 : L.length ≤ 48) (hp : plM A t L) (hv : v < 4) {p k : Nat} (hpl : p < L.length) (hk : k < zE A v (gn L p)) : d_goesOn (nI v) (nI p) (nI k) t ∧ v_goesOn (nI v) (nI p) (nI k) t = if zGo A L v p k = true then 1 else 0 := by
  have hn := w.2.1
  have hb := gn_lt hL hpl
  have he := (z_r w hb hv).1
  have e25 : ∀ q, q < L.length → mgA t 25 (nI q) = nI (gn L q) := fun q hq => by unfold mgA; rw [nI_clamp (by omega)]; exact hp.2.1 q hq
  have e6 : ∀ i, i < zN A → mgA t 6 (v_at (nI v) (nI i)) = nI (zE A v i) ∧ mIn 6 (v_at (nI v) (nI i)) := fun i hi => by
    rw [at_nI hv, Ag_A g (f := 6) (by decide) (by omega)]
    exact ⟨(z_r w hi hv).2.1, vp_nI (n := 96) (by omega) (by decide)⟩
  unfold d_goesOn v_goesOn zGo
  rw [e25 p hpl]
  by_cases k0 : k = 0
  · subst k0
    have c0 : (nI 0 : Int32) ≤ 0 := by decide
    rw [if_pos c0, if_pos rfl]
    by_cases p0 : p = 0
    · subst p0
      rw [if_pos c0, if_neg (fun z => absurd (of_decide_eq_true z).1 (Nat.lt_irrefl _))]
      exact ⟨⟨vp_nI (n := 48) (by omega) (by decide), fun _ z => absurd c0 z, fun _ z => absurd c0 z, fun _ z => absurd c0 z, fun _ z => absurd c0 z, fun _ z => absurd c0 z, fun z => absurd c0 z⟩, rfl⟩
    · obtain ⟨q, hq⟩ : ∃ q, p = q + 1 := ⟨p - 1, by omega⟩
      subst hq
      have cp : ¬ nI (q + 1) ≤ 0 := nI_nle (by omega) (by omega)
      have hbq := gn_lt hL (p := q) (by omega)
      rw [if_neg cp, nI_pred, e25 q (by omega)]
      have es : nI (gn L q) = nI (gn L (q + 1)) - 1 ↔ gn L q + 1 = gn L (q + 1) := sub1_eq (by omega) (by omega)
      by_cases cb : gn L q + 1 = gn L (q + 1)
      · have cb2 := es.mpr cb
        obtain ⟨m1, m2⟩ := e6 _ hbq
        have heq := (z_r w hbq hv).1
        rw [if_pos cb2, ← cb2, m1]
        by_cases ce : zE A v (gn L q) = 0
        · rw [if_pos (by rw [ce]; exact c0), if_neg (fun z => absurd (of_decide_eq_true z).2.2.1 (by rw [Nat.add_sub_cancel, ce]; exact Nat.lt_irrefl _))]
          refine ⟨⟨vp_nI (n := 48) (by omega) (by decide), fun _ _ => vp_nI (n := 48) (by omega) (by decide), fun _ _ _ => vp_nI (n := 48) (by omega) (by decide), fun _ _ _ => m2, fun _ _ _ z => absurd (by rw [ce]; exact c0) z, fun _ _ _ z => absurd (by rw [ce]; exact c0) z, fun z => absurd c0 z⟩, rfl⟩
        · have cz : ¬ nI (zE A v (gn L q)) ≤ 0 := nI_nle (by omega) (by omega)
          obtain ⟨c, hc⟩ : ∃ c, zE A v (gn L q) = c + 1 := ⟨zE A v (gn L q) - 1, by omega⟩
          have e1 : nI (zE A v (gn L q)) - 1 = nI (zE A v (gn L q) - 1) := by rw [hc, nI_pred]; rfl
          have hx := zp_lt (v := v) (i := gn L q) (j := zE A v (gn L q) - 1) hv (by omega) (by omega)
          have hy := zp_lt (v := v) (i := gn L (q + 1)) (j := 0) hv (by omega) (by omega)
          obtain ⟨h1, h2⟩ := ho_m g hx hy
          have ey : v_place (nI v) (nI (gn L (q + 1))) 0 = nI (zp v (gn L (q + 1)) 0) := pl_nI (j := 0) hv
          rw [if_neg cz, e1, pl_nI hv, ey, h2]
          refine ⟨⟨vp_nI (n := 48) (by omega) (by decide), fun _ _ => vp_nI (n := 48) (by omega) (by decide), fun _ _ _ => vp_nI (n := 48) (by omega) (by decide), fun _ _ _ => m2, fun _ _ _ _ => m2, fun _ _ _ _ => h1, fun z => absurd c0 z⟩, ?_⟩
          by_cases ch : zHo A (zp v (gn L q) (zE A v (gn L q) - 1)) (zp v (gn L (q + 1)) 0) = true
          · rw [if_pos ch, if_neg one_ne, if_pos]
            refine decide_eq_true ⟨by omega, ?_, ?_, ?_⟩
            · rw [Nat.add_sub_cancel]
              exact cb
            · rw [Nat.add_sub_cancel]
              omega
            · rw [Nat.add_sub_cancel]
              exact ch
          · rw [if_neg ch, if_pos rfl, if_neg]
            intro z
            have := (of_decide_eq_true z).2.2.2
            rw [Nat.add_sub_cancel] at this
            exact ch this
      · have cb2 : ¬ nI (gn L q) = nI (gn L (q + 1)) - 1 := fun z => cb (es.mp z)
        rw [if_neg cb2, if_neg (fun z => by
          have := (of_decide_eq_true z).2.1
          rw [Nat.add_sub_cancel] at this
          exact cb this)]
        exact ⟨⟨vp_nI (n := 48) (by omega) (by decide), fun _ _ => vp_nI (n := 48) (by omega) (by decide), fun _ _ z => absurd z cb2, fun _ _ z => absurd z cb2, fun _ _ z => absurd z cb2, fun _ _ z => absurd z cb2, fun z => absurd c0 z⟩, rfl⟩
  · obtain ⟨j, hj⟩ : ∃ j, k = j + 1 := ⟨k - 1, by omega⟩
    subst hj
    have ck : ¬ nI (j + 1) ≤ 0 := nI_nle (by omega) (by omega)
    have hx := zp_lt (v := v) (i := gn L p) (j := j) hv (by omega) (by omega)
    have hy := zp_lt (v := v) (i := gn L p) (j := j + 1) hv (by omega) (by omega)
    obtain ⟨h1, h2⟩ := ho_m g hx hy
    rw [if_neg ck, if_neg k0, nI_pred, pl_nI hv, pl_nI hv, h2, Nat.add_sub_cancel]
    exact ⟨⟨vp_nI (n := 48) (by omega) (by decide), fun z => absurd z ck, fun z => absurd z ck, fun z => absurd z ck, fun z => absurd z ck, fun z => absurd z ck, fun _ => h1⟩, rfl⟩
end SM
