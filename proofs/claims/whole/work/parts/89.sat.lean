/-! SOUNDS IN THEIR ORDER, IN THE MODEL -/
def zTk (A : MS) (L : List Nat) : Nat → Nat
  | 0 => 0
  | k + 1 => zTk A L k + (zSs A L k L.length).1
/-- sounds were laid -/
def mAll (A t t' : MS) (L : List Nat) : Prop := Ag A t' ∧ plM A t' L ∧ (∀ k, k ≠ 24 → t'.1 k = t.1 k) ∧ (∀ f, f < 25 ∨ 30 < f → t'.2 f = t.2 f) ∧ ∀ v, v < 4 → snM t' v (zSs A L v L.length)
def F31 (t t' : MS) : Prop := t'.1 = t.1 ∧ ∀ f, f ≠ 31 → t'.2 f = t.2 f
section SA
variable {A t t' : MS} {L G : List Nat} {σ : Nat → SQ}
theorem zTk_4 : zTk A L 4 = zTo A L := by
  show 0 + _ + _ + _ + _ = _
  rw [Nat.zero_add]
  rfl
theorem zTk_le (w : zM A) (hL : ∀ x, x ∈ L → x < zN A) (h48 : L.length ≤ 48) {k : Nat} (hk : k ≤ 4) : zTk A L k ≤ 768 * k := by
  induction k with
  | zero => exact Nat.le_refl _
  | succ k ih =>
    have h1 := ih (by omega)
    have h2 := zSs_n w hL (v := k) (by omega) L.length (Nat.le_refl _)
    show zTk A L k + _ ≤ _
    omega
theorem snM_Fs {v k : Nat} {s : SQ} (hs : s.1 ≤ 768) (h : snM t v s) (g : Fs k t t') (hne : v ≠ k) : snM t' v s := by
  obtain ⟨h1, h2⟩ := h
  obtain ⟨-, -, g3, g4⟩ := g
  refine ⟨(g3 v hne).trans h1, fun x hx => ?_⟩
  obtain ⟨a1, a2, a3⟩ := h2 x hx
  exact ⟨(g4 28 _ (by decide) (by decide) (by omega)).trans a1, (g4 29 _ (by decide) (by decide) (by omega)).trans a2, (g4 30 _ (by decide) (by decide) (by omega)).trans a3⟩
theorem mm_laysAll (w : zM A) (hT : zMt A) (h26 : A.2 26 0 = 0) (g : Ag A t) {Q : Int32 → MS → Prop} (h : ∀ t', mAll A t t' (zPl A (zN A)) → Q (nI (zTo A (zPl A (zN A)))) t') : w_laysAllSounds t Q := by
  have hL : ∀ x, x ∈ zPl A (zN A) → x < zN A := zPl_lt w hT (Nat.le_refl _)
  have h48 := zPl_len48 w hT (Nat.le_refl _)
  refine mm_laysPlaces w hT h26 g (fun u F gu pu => ?_)
  obtain ⟨L, hLe⟩ : ∃ L, L = zPl A (zN A) := ⟨_, rfl⟩
  rw [← hLe] at h hL h48 pu
  refine lp_for (fun k z => z.1 = nI (zTk A L k) ∧ z.2.1 = nI k ∧ Ag A z.2.2 ∧ plM A z.2.2 L ∧ (∀ k, k ≠ 24 → z.2.2.1 k = t.1 k) ∧ (∀ f, f < 25 ∨ 30 < f → z.2.2.2 f = t.2 f) ∧ ∀ v, v < k → snM z.2.2 v (zSs A L v L.length)) 4 ?_ ?_ 0 (Nat.zero_le _) (0, 0, u) ⟨rfl, rfl, gu, pu, F.1, fun f hf => F.2 f (by omega) (by omega), fun v hv => absurd hv (Nat.not_lt_zero _)⟩
  · intro k hk4 K z hz hK
    obtain ⟨z1, z2, s⟩ := z
    obtain ⟨hz1, hz2, a1, a2, a3, a4, a5⟩ := hz
    dsimp only at hz1 hz2 a1 a2 a3 a4 a5
    subst hz1
    subst hz2
    refine ⟨fun h9 => absurd h9 (nI_ge (a := k) (b := 4) hk4 (by decide)), fun _ => ?_⟩
    refine mm_laysSounds w a1 hL h48 a2 hk4 (fun t' F' s' => ⟨vp_nI (n := 4) hk4 (by decide), fun x4 hx4 => hK _ ⟨?_, ?_, Ag_Fs a1 F', plM_Fs a2 F', fun k hk => (congrFun F'.1 k).trans (a3 k hk), fun f hf => (F'.2.1 f (by omega)).trans (a4 f hf), fun v hv => ?_⟩⟩)
    · show x4 = nI (zTk A L k + (zSs A L k L.length).1)
      have e : mgA t' 27 (nI k) = nI (zSs A L k L.length).1 := by
        show t'.2 27 (nI k).toNatClampNeg = _
        rw [nI_clamp (by omega)]
        exact s'.1
      rw [hx4, e, nI_add]
    · show nI k + 1 = nI (k + 1)
      rw [nI_1]
    · by_cases e : v = k
      · rw [e]
        exact s'
      · have := zSs_n w hL (v := v) (by omega) L.length (Nat.le_refl _)
        exact snM_Fs (by omega) (a5 v (by omega)) F' e
  · intro K z hz
    obtain ⟨z1, z2, s⟩ := z
    obtain ⟨hz1, hz2, a1, a2, a3, a4, a5⟩ := hz
    dsimp only at hz1 hz2 a1 a2 a3 a4 a5
    subst hz1
    subst hz2
    refine ⟨fun _ => ?_, fun h9 => absurd (show (4 : Int32) ≤ nI 4 by decide) h9⟩
    dsimp only
    rw [zTk_4]
    exact h s ⟨a1, a2, a3, a4, a5⟩
theorem cn_nx {u k n : Nat} (h : cn G u k < cn G u n) : ∃ g, k ≤ g ∧ g < n ∧ gn G g = u ∧ cn G u g = cn G u k := by
  induction n with
  | zero => exact absurd h (Nat.not_lt_zero _)
  | succ n ih =>
    by_cases c : cn G u k < cn G u n
    · obtain ⟨g, g1, g2, g3, g4⟩ := ih c
      exact ⟨g, g1, by omega, g3, g4⟩
    · have h1 : cn G u (n + 1) = cn G u n + (if gn G n = u then 1 else 0) := rfl
      have hk : k ≤ n := by
        refine Nat.le_of_not_lt (fun z => ?_)
        have := cn_mono (G := G) (v := u) (a := n + 1) (b := k) z
        omega
      by_cases e : gn G n = u
      · rw [if_pos e] at h1
        exact ⟨n, hk, Nat.lt_succ_self _, e, by omega⟩
      · rw [if_neg e] at h1
        omega
theorem mm_soundAt (hs : ∀ v, v < 4 → snM t v (σ v) ∧ (σ v).1 ≤ 768 ∧ ∀ x, x < (σ v).1 → (σ v).2.1 x < 2147483648) (hg : ∀ g, g < G.length → gn G g < 4) (hc : ∀ v, v < 4 → cn G v G.length = (σ v).1) (ho : ∀ g g2, g < g2 → g2 < G.length → lexLt (gB σ G g) (gn G g) (gB σ G g2) (gn G g2)) {a : Nat} (ha : a < G.length) (h31 : G.length < 2147483647) {Q : Int32 → MS → Prop} (hQ : ∀ t', F31 t t' → Q (nI (768 * gn G a + cn G (gn G a) a)) t') : w_soundAt (nI a) t Q := by
  have ec : ∀ v, v < 4 → (nI v).toNatClampNeg = v := fun v hv => nI_clamp (by omega)
  refine lp_for (fun k z => z.1 = nI k ∧ F31 t z.2 ∧ ∀ v, v < k → z.2.2 31 v = nI 0) 4 ?_ ?_ 0 (Nat.zero_le _) (0, t) ⟨rfl, ⟨rfl, fun _ _ => rfl⟩, fun v hv => absurd hv (Nat.not_lt_zero _)⟩
  · intro k hk4 K z hz hK
    obtain ⟨z1, s⟩ := z
    obtain ⟨hz1, a1, a2⟩ := hz
    dsimp only at hz1 a1 a2
    subst hz1
    refine ⟨fun h9 => absurd h9 (nI_ge (a := k) (b := 4) hk4 (by decide)), fun _ => ⟨vp_nI (n := 4) hk4 (by decide), fun t15 h15 => hK _ ⟨?_, ?_, fun v hv => ?_⟩⟩⟩
    · show nI k + 1 = nI (k + 1)
      rw [nI_1]
    · dsimp only
      rw [h15]
      exact ⟨a1.1, fun f hf => (mA_ne hf).trans (a1.2 f hf)⟩
    · dsimp only
      rw [h15, mA_at (by omega)]
      by_cases e : v = k
      · rw [if_pos e]
        rfl
      · rw [if_neg e]
        exact a2 v (by omega)
  · intro K z hz
    obtain ⟨z1, s⟩ := z
    obtain ⟨hz1, a1, a2⟩ := hz
    dsimp only at hz1 a1 a2
    subst hz1
    refine ⟨fun _ => ?_, fun h9 => absurd (show (4 : Int32) ≤ nI 4 by decide) h9⟩
    refine lp_for (fun k z => z.2.1 = nI k ∧ F31 t z.2.2 ∧ (∀ v, v < 4 → z.2.2.2 31 v = nI (cn G v k)) ∧ (0 < k → z.1 = nI (768 * gn G (k - 1) + cn G (gn G (k - 1)) (k - 1)))) (a + 1) ?_ ?_ 0 (Nat.zero_le _) (-1, 0, s) ⟨rfl, a1, fun v hv => a2 v hv, fun z => absurd z (Nat.lt_irrefl _)⟩
    · intro k hk K z hz hK
      obtain ⟨z1, z2, u⟩ := z
      obtain ⟨hz2, b1, b2, -⟩ := hz
      dsimp only at hz2 b1 b2
      subst hz2
      have hkG : k < G.length := by omega
      have hm4 := hg k hkG
      have hrem : cn G (gn G k) k < (σ (gn G k)).1 := by
        rw [← hc _ hm4]
        exact cn_lt hkG rfl
      have hle : ∀ v, v < 4 → cn G v k ≤ (σ v).1 := fun v hv => by rw [← hc v hv]; exact cn_mono (by omega)
      have e27 : ∀ v, v < 4 → mgA u 27 (nI v) = nI (σ v).1 := fun v hv => by
        show u.2 27 (nI v).toNatClampNeg = _
        rw [ec v hv, b1.2 27 (by decide)]
        exact (hs v hv).1.1
      have e31 : ∀ v, v < 4 → mgA u 31 (nI v) = nI (cn G v k) := fun v hv => by
        show u.2 31 (nI v).toNatClampNeg = _
        rw [ec v hv]
        exact b2 v hv
      have e28 : ∀ v, v < 4 → cn G v k < (σ v).1 → mgA u 28 (nI (768 * v + cn G v k)) = nI ((σ v).2.1 (cn G v k)) := fun v hv hl => by
        have := (hs v hv).2.1
        show u.2 28 (nI _).toNatClampNeg = _
        rw [nI_clamp (by omega), b1.2 28 (by decide)]
        exact ((hs v hv).1.2 _ hl).1
      have em : ∀ v, (768 : Int32) * nI v + nI (cn G v k) = nI (768 * v + cn G v k) := fun v => by
        rw [show (768 : Int32) = nI 768 from rfl, pk_mul, nI_add]
      refine ⟨fun h9 => absurd h9 (fun z => ?_), fun _ => ?_⟩
      · have := (nI_ltI (by omega) (by omega)).mp z
        omega
      refine lp_for (fun v z => z.2 = nI v ∧ ((z.1 = -1 ∧ ∀ w, w < v → cn G w k = (σ w).1) ∨ ∃ b, b < v ∧ z.1 = nI b ∧ cn G b k < (σ b).1 ∧ ∀ w, w < v → cn G w k < (σ w).1 → (σ b).2.1 (cn G b k) < (σ w).2.1 (cn G w k) ∨ ((σ b).2.1 (cn G b k) = (σ w).2.1 (cn G w k) ∧ b ≤ w))) 4 ?_ ?_ 0 (Nat.zero_le _) (-1, 0) ⟨rfl, Or.inl ⟨rfl, fun w hw => absurd hw (Nat.not_lt_zero _)⟩⟩
      · intro v hv K' y hy hK'
        obtain ⟨y1, y2⟩ := y
        obtain ⟨hy2, hy1⟩ := hy
        dsimp only at hy1 hy2
        subst hy2
        have hσv := (hs v hv).2.1
        refine ⟨fun h9 => absurd h9 (nI_ge (a := v) (b := 4) hv (by decide)), fun _ => ?_⟩
        dsimp only
        rw [e27 v hv, e31 v hv, em v]
        have hremI : ¬ nI (σ v).1 ≤ nI (cn G v k) ↔ cn G v k < (σ v).1 := by
          have := hle v hv
          constructor
          · intro z
            exact Nat.lt_of_not_le (fun z2 => z (nI_le z2 (by omega)))
          · intro z
            exact nI_ge z (by omega)
        refine ⟨vp_nI (n := 4) hv (by decide), vp_nI (n := 4) hv (by decide), fun _ _ => vp_nI (n := 4) hv (by decide), fun hc1 _ => vp_nI (n := 3072) (by have := hremI.mp hc1; omega) (by decide), fun _ hne => ?_, fun _ hne => ?_, fun x8 hx8 x13 hx13 => hK' _ ⟨?_, ?_⟩⟩
        · rcases hy1 with ⟨q, -⟩ | ⟨b, q1, q2, -⟩
          · exact absurd q hne
          · rw [q2]
            exact vp_nI (n := 4) (by omega) (by decide)
        · rcases hy1 with ⟨q, -⟩ | ⟨b, q1, q2, q3, -⟩
          · exact absurd q hne
          · have := (hs b (by omega)).2.1
            rw [q2, e31 b (by omega), em b]
            exact vp_nI (n := 3072) (by omega) (by decide)
        · show nI v + 1 = nI (v + 1)
          rw [nI_1]
        · dsimp only
          rcases hy1 with ⟨q, qall⟩ | ⟨b, q1, q2, q3, q4⟩
          · by_cases c : cn G v k < (σ v).1
            · rw [if_pos ⟨hremI.mpr c, Or.inl q⟩] at hx8
              rw [hx8, if_neg one_ne] at hx13
              refine Or.inr ⟨v, Nat.lt_succ_self _, hx13, c, fun w hw hw2 => ?_⟩
              by_cases e : w = v
              · rw [e]
                exact Or.inr ⟨rfl, Nat.le_refl _⟩
              · have := qall w (by omega)
                omega
            · rw [if_neg (fun z => c (hremI.mp z.1))] at hx8
              rw [hx8, if_pos rfl] at hx13
              refine Or.inl ⟨hx13.trans q, fun w hw => ?_⟩
              by_cases e : w = v
              · rw [e]
                have := hle v hv
                omega
              · exact qall w (by omega)
          · have hb4 : b < 4 := by omega
            have hne : ¬ y1 = -1 := fun z => by
              rw [q2] at z
              exact nI_neg1 (by omega) z
            have hbb := (hs b hb4).2.2 _ q3
            rw [q2, e31 b hb4, em b, e28 b hb4 q3] at hx8
            by_cases c : cn G v k < (σ v).1 ∧ (σ v).2.1 (cn G v k) < (σ b).2.1 (cn G b k)
            · have hvb := (hs v hv).2.2 _ c.1
              rw [e28 v hv c.1, if_pos ⟨hremI.mpr c.1, Or.inr (nI_ge c.2 (by omega))⟩] at hx8
              rw [hx8, if_neg one_ne] at hx13
              refine Or.inr ⟨v, Nat.lt_succ_self _, hx13, c.1, fun w hw hw2 => ?_⟩
              by_cases e : w = v
              · rw [e]
                exact Or.inr ⟨rfl, Nat.le_refl _⟩
              · rcases q4 w (by omega) hw2 with r | r
                · exact Or.inl (by omega)
                · exact Or.inl (by omega)
            · have hno : ¬ ((¬ nI (σ v).1 ≤ nI (cn G v k)) ∧ (nI b = -1 ∨ ¬ nI ((σ b).2.1 (cn G b k)) ≤ mgA u 28 (nI (768 * v + cn G v k)))) := by
                rintro ⟨z1, z2⟩
                have hv2 := hremI.mp z1
                rcases z2 with z2 | z2
                · exact nI_neg1 (by omega) z2
                · rw [e28 v hv hv2] at z2
                  have hvb := (hs v hv).2.2 _ hv2
                  exact c ⟨hv2, Nat.lt_of_not_le (fun z => z2 (nI_le z (by omega)))⟩
              rw [if_neg hno] at hx8
              rw [hx8, if_pos rfl, q2] at hx13
              refine Or.inr ⟨b, by omega, hx13, q3, fun w hw hw2 => ?_⟩
              by_cases e : w = v
              · rw [e] at hw2 ⊢
                have : ¬ (σ v).2.1 (cn G v k) < (σ b).2.1 (cn G b k) := fun z => c ⟨hw2, z⟩
                omega
              · exact q4 w (by omega) hw2
      · intro K' y hy
        obtain ⟨y1, y2⟩ := y
        obtain ⟨hy2, hy1⟩ := hy
        dsimp only at hy1 hy2
        subst hy2
        have hbest : y1 = nI (gn G k) := by
          rcases hy1 with ⟨q, qall⟩ | ⟨b, q1, q2, q3, q4⟩
          · have := qall _ hm4
            omega
          · by_cases e : b = gn G k
            · rw [q2, e]
            · exfalso
              rw [← hc b q1] at q3
              obtain ⟨g, g1, g2, g3, g4⟩ := cn_nx q3
              have hgk : k < g := by
                refine Nat.lt_of_le_of_ne g1 (fun z => e ?_)
                rw [z]
                exact g3.symm
              have hlex := ho k g hgk g2
              have hBg : gB σ G g = (σ b).2.1 (cn G b k) := by
                unfold gB
                rw [g3, g4]
              have hBk : gB σ G k = (σ (gn G k)).2.1 (cn G (gn G k) k) := rfl
              rw [hBg, hBk, g3] at hlex
              rcases q4 _ hm4 hrem with r | r <;> rcases hlex with r2 | r2 <;> omega
        refine ⟨fun _ => ?_, fun h9 => absurd (show (4 : Int32) ≤ nI 4 by decide) h9⟩
        dsimp only
        rw [hbest, e31 _ hm4, em]
        refine ⟨vp_nI (n := 4) hm4 (by decide), fun x2 hx2 => ⟨vp_nI (n := 4) hm4 (by decide), vp_nI (n := 4) hm4 (by decide), fun t5 h5 => hK _ ⟨?_, ?_, fun v hv => ?_, fun _ => ?_⟩⟩⟩
        · show nI k + 1 = nI (k + 1)
          rw [nI_1]
        · dsimp only
          rw [h5]
          exact ⟨b1.1, fun f hf => (mA_ne hf).trans (b1.2 f hf)⟩
        · dsimp only
          rw [h5, mA_at (by omega)]
          show _ = nI (cn G v k + (if gn G k = v then 1 else 0))
          by_cases e : v = gn G k
          · rw [if_pos e, if_pos e.symm, e, nI_1]
          · rw [if_neg e, if_neg (fun z => e z.symm)]
            exact b2 v hv
        · dsimp only
          rw [hx2]
          rfl
    · intro K z hz
      obtain ⟨z1, z2, u⟩ := z
      obtain ⟨hz2, b1, b2, b3⟩ := hz
      dsimp only at hz2 b1 b2 b3
      subst hz2
      refine ⟨fun _ => ?_, fun h9 => absurd (nI_lt (Nat.lt_succ_self a) (by omega)) h9⟩
      dsimp only
      rw [b3 (Nat.succ_pos _)]
      exact hQ u b1
end SA
