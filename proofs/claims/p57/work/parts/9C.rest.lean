/-! RESTS AT BREAKS -/
/-- the end of the last of k sounds that begins ahead of a time -/
def zLa (s : SQ) (x : Nat) : Nat → Nat
  | 0 => 0
  | k + 1 => if x ≤ s.2.1 k then zLa s x k else s.2.2.1 k
/-- the begin of the first of the last k sounds that doesn't -/
def zNx (s : SQ) (x e : Nat) : Nat → Nat
  | 0 => e
  | k + 1 => if s.2.1 (s.1 - 1 - k) < x then zNx s x e k else s.2.1 (s.1 - 1 - k)
def zRe (s : SQ) (x e : Nat) : Nat := if zLa s x s.1 ≤ x then zNx s x e s.1 - zLa s x s.1 else 0
/-- the first place of a bar -/
def zFp : List Nat → Nat → Nat
  | [], _ => 0
  | y :: L, b => if y = b then 0 else zFp L b + 1
def zFc (A : MS) (v b k : Nat) : Bool := decide (A.2 20 k = 0 ∧ A.2 15 k = nI v ∧ ¬ nI b < A.2 16 k ∧ ¬ A.2 18 k ≤ nI b)
/-- a turn behind a bar is forbidden -/
def zFb (A : MS) (v b : Nat) : Bool := zAny (zFc A v b) (aN (A.1 14)) && decide (A.2 7 (24 * v + b) = 0)
section RS
variable {A t : MS} {S : CS} {L G : List Nat} {so po v : Nat} {s : SQ}
theorem zFp_ok {b : Nat} : ∀ L : List Nat, b ∈ L → zFp L b < L.length ∧ gn L (zFp L b) = b ∧ ∀ q, q < zFp L b → gn L q ≠ b := by
  intro L
  induction L with
  | nil => intro h; exact absurd h List.not_mem_nil
  | cons y L ih =>
    intro h
    by_cases e : y = b
    · have e2 : zFp (y :: L) b = 0 := if_pos e
      rw [e2]
      exact ⟨Nat.succ_pos _, e, fun q hq => absurd hq (Nat.not_lt_zero _)⟩
    · have e2 : zFp (y :: L) b = zFp L b + 1 := if_neg e
      have hm : b ∈ L := by
        rcases List.mem_cons.mp h with z | z
        · exact absurd z.symm e
        · exact z
      obtain ⟨i1, i2, i3⟩ := ih hm
      rw [e2]
      refine ⟨Nat.succ_lt_succ i1, i2, fun q hq => ?_⟩
      cases q with
      | zero => exact e
      | succ q => exact i3 q (by omega)
theorem zPl_mem (w : zM A) {b : Nat} (hb : b < zN A) : b ∈ zPl A (zN A) := by
  obtain ⟨M, hM⟩ := zPl_mono (A := A) (show b + 1 ≤ zN A from hb)
  rw [hM]
  refine List.mem_append_left _ ?_
  show b ∈ zPl A b ++ [b] ++ zAg A b
  exact List.mem_append_left _ (List.mem_append_right _ (List.mem_singleton.mpr rfl))
theorem zLa_stay {x c n : Nat} (hcn : c ≤ n) (h : ∀ k, c ≤ k → k < n → x ≤ s.2.1 k) : zLa s x n = zLa s x c := by
  induction n with
  | zero => rw [show c = 0 by omega]
  | succ n ih =>
    by_cases e : c = n + 1
    · rw [e]
    · show (if x ≤ s.2.1 n then zLa s x n else _) = _
      rw [if_pos (h n (by omega) (Nat.lt_succ_self _)), ih (by omega) (fun k h1 h2 => h k h1 (by omega))]
theorem zNx_is {x e c : Nat} (hc : c ≤ s.1) (h1 : ∀ k, k < c → s.2.1 k < x) (h2 : ∀ k, c ≤ k → k < s.1 → x ≤ s.2.1 k) : zNx s x e s.1 = if c < s.1 then s.2.1 c else e := by
  have key : ∀ k, k ≤ s.1 → zNx s x e k = if c ≤ s.1 - k then (if s.1 - k < s.1 then s.2.1 (s.1 - k) else e) else (if c < s.1 then s.2.1 c else e) := by
    intro k
    induction k with
    | zero =>
      intro _
      rw [Nat.sub_zero, if_pos hc, if_neg (Nat.lt_irrefl _)]
      rfl
    | succ k ih =>
      intro hk
      have hi := ih (by omega)
      show (if s.2.1 (s.1 - 1 - k) < x then zNx s x e k else s.2.1 (s.1 - 1 - k)) = _
      rw [show s.1 - (k + 1) = s.1 - 1 - k by omega]
      by_cases cc : c ≤ s.1 - 1 - k
      · have := h2 (s.1 - 1 - k) cc (by omega)
        rw [if_neg (by omega), if_pos cc, if_pos (by omega)]
      · have := h1 (s.1 - 1 - k) (by omega)
        rw [if_pos this, if_neg cc, hi]
        by_cases c3 : c = s.1 - k
        · rw [← c3, if_pos (Nat.le_refl _)]
        · rw [if_neg (by omega)]
  have := key s.1 (Nat.le_refl _)
  rw [this, Nat.sub_self]
  by_cases c0 : c = 0
  · subst c0
    rw [if_pos (Nat.le_refl _)]
  · rw [if_neg (by omega)]
/-- begins of a voice lie in their order -/
theorem sq_sorted {c : Nat} (h : sqOk A v c s) {a b : Nat} (hab : a < b) (hb : b < s.1) : s.2.2.1 a ≤ s.2.1 b := by
  induction b with
  | zero => omega
  | succ b ih =>
    by_cases e : a = b
    · rw [e]; exact h.2 b hb
    · have h1 := ih (by omega) (by omega)
      have h2 := (h.1 b (by omega)).1
      have h3 := h.2 b hb
      omega
theorem zLa_le {c x : Nat} (h : sqOk A v c s) : ∀ k, k ≤ s.1 → zLa s x k ≤ c := by
  intro k
  induction k with
  | zero => intro _; exact Nat.zero_le _
  | succ k ih =>
    intro hk
    show (if x ≤ s.2.1 k then zLa s x k else s.2.2.1 k) ≤ c
    by_cases e : x ≤ s.2.1 k
    · rw [if_pos e]; exact ih (by omega)
    · rw [if_neg e]; exact (h.1 k (by omega)).2.1
theorem zNx_le {c x e : Nat} (h : sqOk A v c s) (he : e ≤ c) : ∀ k, k ≤ s.1 → zNx s x e k ≤ c := by
  intro k
  induction k with
  | zero => intro _; exact he
  | succ k ih =>
    intro hk
    show (if s.2.1 (s.1 - 1 - k) < x then zNx s x e k else s.2.1 (s.1 - 1 - k)) ≤ c
    have h1 := h.1 (s.1 - 1 - k) (by omega)
    by_cases e2 : s.2.1 (s.1 - 1 - k) < x
    · rw [if_pos e2]; exact ih (by omega)
    · rw [if_neg e2]; omega
theorem cc_firstTime (w : zM A) (hk : kdC S po = 9) (hpl : plC A S po L) (h48 : L.length ≤ 48) {b : Nat} (hb : b ∈ L) (hb2 : ∀ x, x ∈ L → x < zN A) {B : Nat × Nat} {Q : Int32 → CS → Prop} {X : String → CS → Prop} (hQ : Q (nI (zSt A L (zFp L b))) S) : w_X6_firstTimeOf B po (nI b) S Q X := by
  have hn := w.2.1
  obtain ⟨f1, f2, f3⟩ := zFp_ok L hb
  have hbN := hb2 b hb
  obtain ⟨p1, p2, p3⟩ := hpl
  refine lp_for (fun k z => z = nI k) (zFp L b) ?_ ?_ 0 (Nat.zero_le _) 0 rfl
  · intro k hkp K z hz hK
    subst hz
    have hkL : k < L.length := by omega
    have hbk := gn_lt hb2 hkL
    unfold w_X6_firstTimeOf_L2
    rw [p1, nI_clamp (by omega), (p2 k hkL).1]
    refine ⟨hk, fun h9 => absurd h9 (nI_ge hkL (by omega)), fun _ => ⟨vp_nI (n := 48) (by omega) (by decide), fun e => absurd ((nI_eq (by omega) (by omega)).mp e) (f3 k hkp), fun _ => ?_⟩⟩
    rw [nI_1]
    exact hK _ rfl
  · intro K z hz
    subst hz
    unfold w_X6_firstTimeOf_L2
    rw [p1, nI_clamp (by omega), (p2 _ f1).1, (p2 _ f1).2, f2]
    exact ⟨hk, fun h9 => absurd h9 (nI_ge f1 (by omega)), fun _ => ⟨vp_nI (n := 48) (by omega) (by decide), fun _ => ⟨vp_nI (n := 48) (by omega) (by decide), hQ⟩, fun z => absurd rfl z⟩⟩
theorem cc_restAt (w : zM A) (hk : kdC S po = 9) {e x : Nat} (h147 : fI S 147 po = nI e) (he : e ≤ 9216000) (hx : x ≤ 9216000) {σ : Nat → SQ} (hG : sndG A σ S po G) (hro : rowOk S po) (hlen : (fL S 148 po).length < 2147483648) (hv : v < 4) (hok : ∀ u, u < 4 → sqOk A u e (σ u)) (hG3 : G.length ≤ 3072) {B : Nat × Nat} {Q : Int32 → CS → Prop} {X : String → CS → Prop} (hQ : Q (nI (zRe (σ v) x e)) S) : w_X6_restAt B po (nI v) (nI x) S Q X := by
  obtain ⟨g1, g2, g3, g4, g5, g6⟩ := hG
  have hov := hok v hv
  have hc4 := g4 v hv
  refine lp_for (fun g z => z.1 = nI (zLa (σ v) x (cn G v g)) ∧ z.2 = nI g ∧ ∀ k, k < cn G v g → (σ v).2.1 k < x ∧ (σ v).2.2.1 k ≤ x) G.length ?_ ?_ 0 (Nat.zero_le _) (0, 0) ⟨rfl, rfl, fun k hk => absurd hk (Nat.not_lt_zero _)⟩
  · intro g hg K z hz hK
    obtain ⟨z1, z2⟩ := z
    obtain ⟨hz1, hz2, hb⟩ := hz
    dsimp only at hz1 hz2 hb
    subst hz1
    subst hz2
    have eG : lG S 148 po (nI g) = gn (fL S 148 po) g := by rw [cc_lG (by omega)]; rfl
    have kq := hro.1 g (by omega)
    obtain ⟨s1, s2, s3, -, -⟩ := g5 g hg
    have hu4 := g3 g hg
    have hxlt : cn G (gn G g) g < (σ (gn G g)).1 := by
      rw [← g4 _ hu4]
      exact cn_lt hg rfl
    have hbnd := (hok _ hu4).1 _ hxlt
    have ev : nI (gn G g) = nI v ↔ gn G g = v := nI_eq (by omega) (by omega)
    have eb : nI ((σ (gn G g)).2.1 (cn G (gn G g) g)) < nI x ↔ (σ (gn G g)).2.1 (cn G (gn G g) g) < x := nI_ltI (by omega) (by omega)
    have ee : nI ((σ (gn G g)).2.2.1 (cn G (gn G g) g)) ≤ nI x ↔ (σ (gn G g)).2.2.1 (cn G (gn G g) g) ≤ x := ⟨fun z => Classical.byContradiction fun z2 => nI_ge (by omega) (by omega) z, fun z => nI_le z (by omega)⟩
    have hlaC : zLa (σ v) x (cn G v g) ≤ e := zLa_le hov _ (by rw [← hc4]; exact cn_mono (by omega))
    have hcs : cn G v (g + 1) = cn G v g + (if gn G g = v then 1 else 0) := rfl
    unfold w_X6_restAt_L5
    dsimp only
    rw [g1, eG, s1, s2, s3, ev, eb, ee]
    refine ⟨hk, fun h9 => absurd h9 (nI_ge hg (by omega)), fun _ => ⟨cc_in rfl (by omega) hlen, kq, fun x4 => K (x4, nI g + 1), fun _ h => h, fun e1 => ?_, fun e1 => ?_⟩⟩
    · rw [e1] at hxlt hbnd ⊢
      rw [if_pos e1] at hcs
      refine ⟨fun c1 => ⟨fun c2 x5 hx5 => ?_, fun c2 => ?_⟩, fun c1 => ?_⟩
      · rw [nI_1]
        refine hK _ ⟨?_, rfl, fun k hk2 => ?_⟩
        · show x5 = nI (zLa (σ v) x (cn G v (g + 1)))
          rw [hcs, hx5]
          show _ = nI (if x ≤ (σ v).2.1 (cn G v g) then _ else _)
          rw [if_neg (by omega)]
        · by_cases e2 : k = cn G v g
          · rw [e2]
            exact ⟨c1, c2⟩
          · exact hb k (by omega)
      · have hla : zLa (σ v) x (σ v).1 = (σ v).2.2.1 (cn G v g) := by
          rw [zLa_stay (c := cn G v g + 1) hxlt (fun k h1 h2 => ?_)]
          · show (if x ≤ (σ v).2.1 (cn G v g) then _ else _) = _
            rw [if_neg (by omega)]
          · have := sq_sorted hov (a := cn G v g) (b := k) (by omega) h2
            omega
        have er : zRe (σ v) x e = 0 := by
          unfold zRe
          rw [hla, if_neg c2]
        rw [er] at hQ
        exact hQ
      · have hst : ∀ k, cn G v g ≤ k → k < (σ v).1 → x ≤ (σ v).2.1 k := fun k h1 h2 => by
          by_cases e2 : k = cn G v g
          · rw [e2]; omega
          · have h3 := sq_sorted hov (a := cn G v g) (b := k) (by omega) h2
            omega
        have hla := zLa_stay (s := σ v) (x := x) (c := cn G v g) (n := (σ v).1) (by omega) hst
        have hnx := zNx_is (s := σ v) (x := x) (e := e) (c := cn G v g) (by omega) (fun k hk2 => (hb k hk2).1) hst
        rw [if_pos hxlt] at hnx
        have hle : zLa (σ v) x (cn G v g) ≤ x := by
          have key : ∀ k, k ≤ cn G v g → zLa (σ v) x k ≤ x := by
            intro k
            induction k with
            | zero => intro _; exact Nat.zero_le _
            | succ k ih =>
              intro hk2
              show (if x ≤ (σ v).2.1 k then zLa (σ v) x k else (σ v).2.2.1 k) ≤ x
              rw [if_neg (by have := (hb k (by omega)).1; omega)]
              exact (hb k (by omega)).2
          exact key _ (Nat.le_refl _)
        have er : zRe (σ v) x e = (σ v).2.1 (cn G v g) - zLa (σ v) x (cn G v g) := by
          unfold zRe
          rw [hla, hnx, if_pos hle]
        rw [er] at hQ
        rw [pk_sub (by omega)]
        exact hQ
    · rw [if_neg e1] at hcs
      rw [nI_1]
      refine hK _ ⟨?_, rfl, fun k hk2 => hb k (by omega)⟩
      show nI (zLa (σ v) x (cn G v g)) = nI (zLa (σ v) x (cn G v (g + 1)))
      rw [hcs]
      rfl
  · intro K z hz
    obtain ⟨z1, z2⟩ := z
    obtain ⟨hz1, hz2, hb⟩ := hz
    dsimp only at hz1 hz2 hb
    subst hz1
    subst hz2
    rw [hc4] at hb ⊢
    have hnx := zNx_is (s := σ v) (x := x) (e := e) (c := (σ v).1) (Nat.le_refl _) (fun k hk2 => (hb k hk2).1) (fun k h1 h2 => by omega)
    rw [if_neg (Nat.lt_irrefl _)] at hnx
    have hle : ∀ k, k ≤ (σ v).1 → zLa (σ v) x k ≤ x := by
      intro k
      induction k with
      | zero => intro _; exact Nat.zero_le _
      | succ k ih =>
        intro hk2
        show (if x ≤ (σ v).2.1 k then zLa (σ v) x k else (σ v).2.2.1 k) ≤ x
        rw [if_neg (by have := (hb k (by omega)).1; omega)]
        exact (hb k (by omega)).2
    unfold w_X6_restAt_L5
    dsimp only
    rw [g1, h147]
    refine ⟨hk, fun _ => ?_, fun h9 => absurd (nI_le (Nat.le_refl _) (by omega)) h9⟩
    have er : zRe (σ v) x e = e - zLa (σ v) x (σ v).1 := by
      unfold zRe
      rw [hnx, if_pos (hle _ (Nat.le_refl _))]
    rw [er] at hQ
    rw [pk_sub (zLa_le hov _ (Nat.le_refl _))]
    exact hQ
theorem zNx_ge {x e : Nat} : ∀ k, zNx s x e k = e ∨ x ≤ zNx s x e k := by
  intro k
  induction k with
  | zero => exact Or.inl rfl
  | succ k ih =>
    show (if s.2.1 (s.1 - 1 - k) < x then zNx s x e k else s.2.1 (s.1 - 1 - k)) = e ∨ x ≤ (if s.2.1 (s.1 - 1 - k) < x then zNx s x e k else s.2.1 (s.1 - 1 - k))
    by_cases c : s.2.1 (s.1 - 1 - k) < x
    · rw [if_pos c]; exact ih
    · rw [if_neg c]; exact Or.inr (by omega)
theorem zRe_le {x e : Nat} (h : sqOk A v e s) : zRe s x e ≤ e := by
  unfold zRe
  by_cases c : zLa s x s.1 ≤ x
  · rw [if_pos c]
    have := zNx_le (x := x) h (Nat.le_refl e) s.1 (Nat.le_refl _)
    omega
  · rw [if_neg c]; exact Nat.zero_le _
theorem cc_forbidden (hB : rB S A so) (hPh : rP S A so) (w : zM A) (hv : v < 4) {b : Nat} (hb : b < zN A) {B : Nat × Nat} {Q : Int32 → CS → Prop} {X : String → CS → Prop} (hQ : Q (bI (zFb A v b)) S) : w_X9_isTurnForbidden B so (nI v) (nI b) S Q X := by
  have hn := w.2.1
  obtain ⟨r1, r2, r3⟩ := cc_rw hB w hb hv
  have h178 := (cc_row hB w hb hv).2.2.2.2.1
  have hnp := hPh.1
  have eN : aN (A.1 14) = npS S so := by rw [hPh.2.1, aN_nI (by omega)]
  have el : (fL S 193 so).length = npS S so := rfl
  have yes : zFb A v b = true → Q 1 S := fun z => by
    rw [show bI (zFb A v b) = 1 from if_pos z] at hQ
    exact hQ
  have no : ¬ zFb A v b = true → Q 0 S := fun z => by
    rw [show bI (zFb A v b) = 0 from if_neg z] at hQ
    exact hQ
  have hF : zFb A v b = true ↔ (∃ k, k < npS S so ∧ zFc A v b k = true) ∧ A.2 7 (24 * v + b) = 0 := by
    unfold zFb
    rw [Bool.and_eq_true, zAny_iff, decide_eq_true_iff, eN]
  unfold w_X9_isTurnForbidden
  rw [r2, h178]
  refine ⟨hB.1, r1, r3, fun h0 => ?_, fun h0 => no (fun z => h0 (hF.mp z).2)⟩
  refine lp_for (fun k z => z = nI k ∧ ∀ k2, k2 < k → ¬ zFc A v b k2 = true) (npS S so) ?_ ?_ 0 (Nat.zero_le _) 0 ⟨rfl, fun k2 hk2 => absurd hk2 (Nat.not_lt_zero _)⟩
  · intro k hk K z hz hK
    obtain ⟨hz, hno⟩ := hz
    subst hz
    obtain ⟨q1, q2, q3⟩ := cc_ph hPh hk
    obtain ⟨f0, f1, f2, f3, f4, -⟩ := q3
    have eg : v_X5_goesOnBehind (phL S so k) (nI v) (nI b) S = bI (zFc A v b k) := by
      unfold v_X5_goesOnBehind bI zFc
      rw [f1, f2, f3, f4]
      by_cases c : A.2 20 k = 0 ∧ A.2 15 k = nI v ∧ ¬ nI b < A.2 16 k ∧ ¬ A.2 18 k ≤ nI b
      · rw [if_pos c, if_pos (decide_eq_true c)]
      · rw [if_neg c, if_neg (fun z => c (of_decide_eq_true z))]
    unfold w_X9_isTurnForbidden_L16
    rw [el, q2, eg]
    refine ⟨fun h9 => absurd h9 (nI_ge hk (by omega)), fun _ => ⟨q1, f0, f0, fun hc => ?_, fun hc => yes (hF.mpr ⟨⟨k, hk, Classical.byContradiction fun z => hc (bI_0.mpr z)⟩, h0⟩)⟩⟩
    rw [nI_1]
    refine hK _ ⟨rfl, fun k2 hk2 => ?_⟩
    by_cases e : k2 = k
    · rw [e]
      exact bI_0.mp hc
    · exact hno k2 (by omega)
  · intro K z hz
    obtain ⟨hz, hno⟩ := hz
    subst hz
    unfold w_X9_isTurnForbidden_L16
    rw [el]
    refine ⟨fun _ => no (fun z => ?_), fun h9 => absurd (nI_le (Nat.le_refl _) (by omega)) h9⟩
    obtain ⟨⟨k, k1, k2⟩, -⟩ := hF.mp z
    exact hno k k1 k2
end RS
