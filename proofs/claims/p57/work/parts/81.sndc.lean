/-! THE CLASS'S SOUNDS: the voice that is next, the event ahead -/
def cn (G : List Nat) (v : Nat) : Nat → Nat
  | 0 => 0
  | k + 1 => cn G v k + (if gn G k = v then 1 else 0)
/-- how the list of sounds' room grows -/
def nx (c m : Nat) : Nat := if m < c then c else if c = 0 then 10 else c + c / 2
def ck (c m : Nat) : Nat → Nat
  | 0 => c
  | k + 1 => nx (ck c m k) (m + k)
def lexLt (a v b w : Nat) : Prop := a < b ∨ (a = b ∧ v < w)
section CN
theorem cn_app {G : List Nat} {v w k : Nat} (h : k ≤ G.length) : cn (G ++ [v]) w k = cn G w k := by
  induction k with
  | zero => rfl
  | succ k ih =>
    show cn (G ++ [v]) w k + (if gn (G ++ [v]) k = w then 1 else 0) = cn G w k + (if gn G k = w then 1 else 0)
    rw [ih (by omega), gn_app2 (by omega)]
theorem cn_new {G : List Nat} {v w : Nat} : cn (G ++ [v]) w (G.length + 1) = cn G w G.length + (if v = w then 1 else 0) := by
  show cn (G ++ [v]) w G.length + (if gn (G ++ [v]) G.length = w then 1 else 0) = _
  rw [cn_app (Nat.le_refl _), gn_app, if_neg (Nat.lt_irrefl _), if_pos rfl]
theorem cn_mono {G : List Nat} {v a b : Nat} (h : a ≤ b) : cn G v a ≤ cn G v b := by
  induction b with
  | zero => rw [show a = 0 by omega]; exact Nat.le_refl _
  | succ b ih =>
    by_cases e : a = b + 1
    · rw [e]; exact Nat.le_refl _
    · have := ih (by omega)
      show _ ≤ cn G v b + _
      omega
theorem cn_lt {G : List Nat} {v a b : Nat} (h : a < b) (hv : gn G a = v) : cn G v a < cn G v b := by
  have h1 : cn G v (a + 1) ≤ cn G v b := cn_mono h
  have h2 : cn G v (a + 1) = cn G v a + 1 := by
    show cn G v a + (if gn G a = v then 1 else 0) = _
    rw [if_pos hv]
  omega
theorem cn_sum {G : List Nat} {n : Nat} (h : ∀ g, g < n → gn G g < 4) : cn G 0 n + cn G 1 n + cn G 2 n + cn G 3 n = n := by
  induction n with
  | zero => rfl
  | succ n ih =>
    have g1 := ih (fun g hg => h g (by omega))
    have g2 := h n (by omega)
    show cn G 0 n + (if gn G n = 0 then 1 else 0) + (cn G 1 n + (if gn G n = 1 then 1 else 0)) + (cn G 2 n + (if gn G n = 2 then 1 else 0)) + (cn G 3 n + (if gn G n = 3 then 1 else 0)) = n + 1
    have h4 : gn G n = 0 ∨ gn G n = 1 ∨ gn G n = 2 ∨ gn G n = 3 := by omega
    rcases h4 with h4 | h4 | h4 | h4 <;> rw [h4] <;> simp only [if_pos, if_neg, Nat.reduceEqDiff, if_true, if_false] <;> omega
theorem nx_ok {c m : Nat} (hc : c = 0 ∨ 10 ≤ c) : c ≤ nx c m ∧ (nx c m = 0 ∨ 10 ≤ nx c m) ∧ (¬ m < c → c + 1 ≤ nx c m ∧ nx c m ≤ 4 * (nx c m - c)) ∧ (c ≤ 10 + 2 * m → nx c m ≤ 10 + 2 * (m + 1)) ∧ (m < c → nx c m = c) := by
  unfold nx
  by_cases h : m < c
  · rw [if_pos h]
    exact ⟨Nat.le_refl _, hc, fun z => absurd h z, fun z => by omega, fun _ => rfl⟩
  · rw [if_neg h]
    by_cases h2 : c = 0
    · rw [if_pos h2]
      exact ⟨by omega, by omega, fun _ => by omega, fun _ => by omega, fun z => absurd z h⟩
    · rw [if_neg h2]
      exact ⟨by omega, by omega, fun _ => by omega, fun _ => by omega, fun z => absurd z h⟩
theorem ck_ok {c m : Nat} (hc : c = 0 ∨ 10 ≤ c) (hm : c ≤ 10 + 2 * m) : ∀ k, (ck c m k = 0 ∨ 10 ≤ ck c m k) ∧ c ≤ ck c m k ∧ ck c m k ≤ 10 + 2 * (m + k) := by
  intro k
  induction k with
  | zero => exact ⟨hc, Nat.le_refl _, hm⟩
  | succ k ih =>
    obtain ⟨i1, i2, i3⟩ := ih
    obtain ⟨g1, g2, -, g4, -⟩ := nx_ok (m := m + k) i1
    have g5 := g4 i3
    show (nx (ck c m k) (m + k) = 0 ∨ 10 ≤ nx (ck c m k) (m + k)) ∧ c ≤ nx (ck c m k) (m + k) ∧ nx (ck c m k) (m + k) ≤ 10 + 2 * (m + (k + 1))
    exact ⟨g2, by omega, by omega⟩
theorem ck_mono {c m : Nat} (hc : c = 0 ∨ 10 ≤ c) (hm : c ≤ 10 + 2 * m) {a b : Nat} (h : a ≤ b) : ck c m a ≤ ck c m b := by
  induction b with
  | zero => rw [show a = 0 by omega]; exact Nat.le_refl _
  | succ b ih =>
    by_cases e : a = b + 1
    · rw [e]; exact Nat.le_refl _
    · have g := ih (by omega)
      have g2 := (nx_ok (m := m + b) (ck_ok hc hm b).1).1
      exact Nat.le_trans g g2
variable {A : MS} {S : CS} {so po : Nat} {L : List Nat}
theorem cc_nextVoice (h : rB S A so) (w : zM A) (hk : kdC S po = 9) {i : Nat} (hi : i < zN A) {x : Nat → Nat} (hx : ∀ v, v < 4 → x v ≤ zE A v i) (h152 : ∀ v, v < 4 → fA S 152 po v = nI (x v)) (h153 : ∀ v, v < 4 → fA S 153 po v = nI (zS A v i (x v))) {B : Nat × Nat} {Q : Int32 → CS → Prop} {X : String → CS → Prop}
    (h0 : (∀ v, v < 4 → x v = zE A v i) → Q (-1) S) (h1 : ∀ v, v < 4 → x v < zE A v i → (∀ u, u < 4 → x u < zE A u i → zS A v i (x v) < zS A u i (x u) ∨ (zS A v i (x v) = zS A u i (x u) ∧ v ≤ u)) → Q (nI v) S) : w_X6_nextVoice B po (mrL S so i) S Q X := by
  have hb := cc_bar h w hi
  refine lp_for (fun k z => z.2 = nI k ∧ ((z.1 = -1 ∧ ∀ v, v < k → x v = zE A v i) ∨ ∃ v, v < k ∧ z.1 = nI v ∧ x v < zE A v i ∧ ∀ u, u < k → x u < zE A u i → zS A v i (x v) < zS A u i (x u) ∨ (zS A v i (x v) = zS A u i (x u) ∧ v ≤ u))) 4 ?_ ?_ 0 (Nat.zero_le _) (-1, 0) ⟨rfl, Or.inl ⟨rfl, fun v hv => absurd hv (Nat.not_lt_zero _)⟩⟩
  · intro k hk4 K z hz hK
    obtain ⟨z1, z2⟩ := z
    obtain ⟨hz2, hz1⟩ := hz
    dsimp only at hz2 hz1
    subst hz2
    obtain ⟨r0, r1, -⟩ := cc_row h w hi hk4
    have ec : ∀ v, v < 4 → (nI v).toNatClampNeg = v := fun v hv => nI_clamp (by omega)
    have es : v_X8_size (oG (fQ S 83 (mrL S so i) k)) S = nI (zE A k i) := congrArg nI (cc_e h w hi hk4)
    have he := (z_r w hi hk4).1
    have hxk := hx k hk4
    have hsb : ∀ v, v < 4 → zS A v i (x v) ≤ 432 := fun v hv => Nat.le_trans (z_sL w hi hv (hx v hv)) (z_len w hi).1
    refine ⟨fun h9 => absurd h9 (nI_ge (a := k) (b := 4) hk4 (by decide)), fun _ => ?_⟩
    dsimp only
    rw [ec k hk4, h152 k hk4, es, h153 k hk4, nI_1]
    refine ⟨hk, vp_nI (n := 4) hk4 (by decide), hb.2.2.2, vp_nI (n := 4) hk4 (by decide), r0, r1, r1, fun x8 hx8 => ⟨fun _ _ => vp_nI (n := 4) hk4 (by decide), fun _ hne => ?_, fun x9 hx9 => hK _ ⟨rfl, ?_⟩⟩⟩
    · rcases hz1 with ⟨hz1, -⟩ | ⟨v, v1, v2, -⟩
      · exact absurd hz1 hne
      · rw [v2]
        exact vp_nI (n := 4) (by omega) (by decide)
    · dsimp only
      have e8 : x8 = 0 ↔ x k < zE A k i := by
        rw [hx8]
        by_cases c : x k < zE A k i
        · rw [if_neg (fun z => z (nI_lt c (by omega)))]
          exact ⟨fun _ => c, fun _ => rfl⟩
        · rw [if_pos (fun z => c ((nI_ltI (by omega) (by omega)).mp z))]
          exact ⟨fun z => absurd z one_ne, fun z => absurd z c⟩
      rcases hz1 with ⟨hz1, hall⟩ | ⟨v, v1, v2, v3, v4⟩
      · by_cases c : x k < zE A k i
        · rw [if_pos ⟨e8.mpr c, Or.inl hz1⟩] at hx9
          refine Or.inr ⟨k, by omega, hx9, c, fun u hu hu2 => ?_⟩
          by_cases e : u = k
          · rw [e]
            exact Or.inr ⟨rfl, Nat.le_refl _⟩
          · have := hall u (by omega)
            omega
        · rw [if_neg (fun z => c (e8.mp z.1))] at hx9
          refine Or.inl ⟨hx9.trans hz1, fun u hu => ?_⟩
          by_cases e : u = k
          · rw [e]; omega
          · exact hall u (by omega)
      · have hne : ¬ z1 = -1 := fun z => by
          rw [v2] at z
          have : (nI v).toInt = (-1 : Int32).toInt := by rw [z]
          rw [nI_toInt (by omega)] at this
          exact absurd this (by show ¬ (v : Int) = -1; omega)
        have e153 : fA S 153 po (Int32.toNatClampNeg z1) = nI (zS A v i (x v)) := by rw [v2, ec v (by omega)]; exact h153 v (by omega)
        rw [e153] at hx9
        have s1 := hsb v (by omega)
        have s2 := hsb k hk4
        by_cases c : x k < zE A k i ∧ zS A k i (x k) < zS A v i (x v)
        · rw [if_pos ⟨e8.mpr c.1, Or.inr (nI_ge c.2 (by omega))⟩] at hx9
          refine Or.inr ⟨k, by omega, hx9, c.1, fun u hu hu2 => ?_⟩
          by_cases e : u = k
          · rw [e]
            exact Or.inr ⟨rfl, Nat.le_refl _⟩
          · rcases v4 u (by omega) hu2 with q | q
            · exact Or.inl (by omega)
            · exact Or.inl (by omega)
        · rw [if_neg] at hx9
          · refine Or.inr ⟨v, by omega, hx9.trans v2, v3, fun u hu hu2 => ?_⟩
            by_cases e : u = k
            · rw [e] at hu2 ⊢
              have : ¬ zS A k i (x k) < zS A v i (x v) := fun z => c ⟨hu2, z⟩
              omega
            · exact v4 u (by omega) hu2
          · rintro ⟨q1, q2⟩
            rcases q2 with q2 | q2
            · exact hne q2
            · refine c ⟨e8.mp q1, Nat.lt_of_not_le (fun z => q2 (nI_le z (by omega)))⟩
  · intro K z hz
    obtain ⟨z1, z2⟩ := z
    obtain ⟨hz2, hz1⟩ := hz
    dsimp only at hz2 hz1
    subst hz2
    refine ⟨fun _ => ?_, fun h9 => absurd (nI_le (Nat.le_refl 4) (by decide)) h9⟩
    dsimp only
    rcases hz1 with ⟨hz1, hall⟩ | ⟨v, v1, v2, v3, v4⟩
    · rw [hz1]
      exact h0 hall
    · rw [v2]
      exact h1 v v1 v3 v4
/-- the event ahead of one, if it is played right ahead of it -/
theorem cc_ahead (h : rB S A so) (w : zM A) (hk : kdC S po = 9) (hL : ∀ x, x ∈ L → x < zN A) (h48 : L.length ≤ 48) (hp : plC A S po L) {v p k : Nat} (hv : v < 4) (hpl : p < L.length) (hke : k < zE A v (gn L p)) : d_X6_eventAhead po so (nI p) (nI v) (nI k) S ∧ ((v_X6_eventAhead po so (nI p) (nI v) (nI k) S = none ∧ ¬ zGo A L v p k = true) ∨ ∃ i j, i < zN A ∧ j < zE A v i ∧ v_X6_eventAhead po so (nI p) (nI v) (nI k) S = some (evL S so v i j) ∧ (zGo A L v p k = true ↔ zHo A (zp v i j) (zp v (gn L p) k) = true)) := by
  have hn := w.2.1
  have hb := gn_lt hL hpl
  have he := (z_r w hb hv).1
  have ec : ∀ q, q < 2147483648 → (nI q).toNatClampNeg = q := fun q hq => nI_clamp (by omega)
  have e144 : ∀ q, q < L.length → fA S 144 po q = nI (gn L q) := fun q hq => (hp.2.1 q hq).1
  unfold d_X6_eventAhead v_X6_eventAhead zGo
  by_cases k0 : k = 0
  · subst k0
    have c0 : (nI 0 : Int32) ≤ 0 := by decide
    rw [if_pos c0, if_pos rfl]
    by_cases p0 : p = 0
    · subst p0
      have z0 : (nI 0 : Int32) = 0 := rfl
      rw [if_pos z0]
      refine ⟨⟨fun _ z => absurd z0 z, fun _ z => absurd z0 z, fun _ z => absurd z0 z, fun _ z => absurd z0 z, fun _ z => absurd z0 z, fun _ z => absurd z0 z, fun _ z => absurd z0 z, fun _ z => absurd z0 z, fun _ z => absurd z0 z, fun _ z => absurd z0 z, fun z => absurd c0 z, fun z => absurd c0 z, fun z => absurd c0 z, fun z => absurd c0 z, fun z => absurd c0 z, fun z => absurd c0 z⟩, Or.inl ⟨rfl, fun z => absurd (of_decide_eq_true z).1 (Nat.lt_irrefl _)⟩⟩
    · obtain ⟨q, hq⟩ : ∃ q, p = q + 1 := ⟨p - 1, by omega⟩
      subst hq
      have np : ¬ nI (q + 1) = 0 := nI_ne0 (by omega) (by omega)
      have hbq := gn_lt hL (p := q) (by omega)
      have i1 : vp_in (nI q) (cLN 144) := vp_nI (n := 48) (by omega) (by decide)
      have i2 : vp_in (nI (q + 1)) (cLN 144) := vp_nI (n := 48) (by omega) (by decide)
      rw [if_neg np, nI_pred, ec q (by omega), ec (q + 1) (by omega), e144 q (by omega), e144 (q + 1) (by omega), nI_1]
      have es : nI (gn L q + 1) = nI (gn L (q + 1)) ↔ gn L q + 1 = gn L (q + 1) := nI_eq (by omega) (by omega)
      obtain ⟨r1, r2, r3⟩ := cc_rw h w hbq hv
      have hlen : (fL S 176 (rwL S so v (gn L q))).length = zE A v (gn L q) := cc_e h w hbq hv
      have heq := (z_r w hbq hv).1
      have es8 : v_X8_size (rwL S so v (gn L q)) S = nI (zE A v (gn L q)) := congrArg nI hlen
      have esz : v_X8_isEmpty (rwL S so v (gn L q)) S = 0 ↔ 0 < zE A v (gn L q) := by
        unfold v_X8_isEmpty
        rw [hlen]
        by_cases c : zE A v (gn L q) = 0
        · rw [if_pos c]
          exact ⟨fun z => absurd z one_ne, fun z => by omega⟩
        · rw [if_neg c]
          exact ⟨fun _ => by omega, fun _ => rfl⟩
      rw [r2, es8]
      by_cases cb : gn L q + 1 = gn L (q + 1)
      · by_cases ce : 0 < zE A v (gn L q)
        · obtain ⟨c, hc⟩ : ∃ c, zE A v (gn L q) = c + 1 := ⟨zE A v (gn L q) - 1, by omega⟩
          have e1 : nI (zE A v (gn L q)) - 1 = nI (zE A v (gn L q) - 1) := by rw [hc, nI_pred]; rfl
          obtain ⟨q1, q2, q3⟩ := cc_ev h w hbq hv (j := zE A v (gn L q) - 1) (by omega)
          have eg : v_X8_get (rwL S so v (gn L q)) (nI (zE A v (gn L q) - 1)) S = evL S so v (gn L q) (zE A v (gn L q) - 1) := q2
          rw [e1, eg, if_pos (es.mpr cb), if_pos (esz.mpr ce)]
          refine ⟨⟨fun _ _ => hk, fun _ _ => i1, fun _ _ => i2, fun _ _ _ => i1, fun _ _ _ => h.1, fun _ _ _ => r1, fun _ _ _ => r3, fun _ _ _ => ⟨r3, by omega⟩, fun _ _ _ _ => r3, fun _ _ _ _ => ⟨r3, q1, by rw [q2]; exact q3.1⟩, fun z => absurd c0 z, fun z => absurd c0 z, fun z => absurd c0 z, fun z => absurd c0 z, fun z => absurd c0 z, fun z => absurd c0 z⟩, Or.inr ⟨gn L q, zE A v (gn L q) - 1, hbq, by omega, rfl, ?_⟩⟩
          refine ⟨fun z => ?_, fun z => decide_eq_true ⟨by omega, ?_, ?_, ?_⟩⟩
          · have := (of_decide_eq_true z).2.2.2
            rw [Nat.add_sub_cancel] at this
            exact this
          · rw [Nat.add_sub_cancel]; exact cb
          · rw [Nat.add_sub_cancel]; exact ce
          · rw [Nat.add_sub_cancel]; exact z
        · rw [if_pos (es.mpr cb), if_neg (fun z => ce (esz.mp z))]
          refine ⟨⟨fun _ _ => hk, fun _ _ => i1, fun _ _ => i2, fun _ _ _ => i1, fun _ _ _ => h.1, fun _ _ _ => r1, fun _ _ _ => r3, fun _ _ _ => ⟨r3, by omega⟩, fun _ _ _ z => absurd (esz.mp z) ce, fun _ _ _ z => absurd (esz.mp z) ce, fun z => absurd c0 z, fun z => absurd c0 z, fun z => absurd c0 z, fun z => absurd c0 z, fun z => absurd c0 z, fun z => absurd c0 z⟩, Or.inl ⟨rfl, fun z => ?_⟩⟩
          have := (of_decide_eq_true z).2.2.1
          rw [Nat.add_sub_cancel] at this
          exact ce this
      · rw [if_neg (fun z => cb (es.mp z))]
        refine ⟨⟨fun _ _ => hk, fun _ _ => i1, fun _ _ => i2, fun _ _ z => absurd (es.mp z) cb, fun _ _ z => absurd (es.mp z) cb, fun _ _ z => absurd (es.mp z) cb, fun _ _ z => absurd (es.mp z) cb, fun _ _ z => absurd (es.mp z) cb, fun _ _ z => absurd (es.mp z) cb, fun _ _ z => absurd (es.mp z) cb, fun z => absurd c0 z, fun z => absurd c0 z, fun z => absurd c0 z, fun z => absurd c0 z, fun z => absurd c0 z, fun z => absurd c0 z⟩, Or.inl ⟨rfl, fun z => ?_⟩⟩
        have := (of_decide_eq_true z).2.1
        rw [Nat.add_sub_cancel] at this
        exact cb this
  · obtain ⟨j, hj⟩ : ∃ j, k = j + 1 := ⟨k - 1, by omega⟩
    subst hj
    have ck : ¬ nI (j + 1) ≤ 0 := nI_nle (by omega) (by omega)
    obtain ⟨r1, r2, r3⟩ := cc_rw h w hb hv
    obtain ⟨q1, q2, q3⟩ := cc_ev h w hb hv (j := j) (by omega)
    have eg : v_X8_get (rwL S so v (gn L p)) (nI j) S = evL S so v (gn L p) j := q2
    rw [if_neg ck, if_neg k0, nI_pred, ec p (by omega), e144 p hpl, r2, eg, Nat.add_sub_cancel]
    refine ⟨⟨fun z => absurd z ck, fun z => absurd z ck, fun z => absurd z ck, fun z => absurd z ck, fun z => absurd z ck, fun z => absurd z ck, fun z => absurd z ck, fun z => absurd z ck, fun z => absurd z ck, fun z => absurd z ck, fun _ => hk, fun _ => vp_nI (n := 48) (by omega) (by decide), fun _ => h.1, fun _ => r1, fun _ => r3, fun _ => ⟨r3, q1, by rw [q2]; exact q3.1⟩⟩, Or.inr ⟨gn L p, j, hb, by omega, rfl, Iff.rfl⟩⟩
end CN
