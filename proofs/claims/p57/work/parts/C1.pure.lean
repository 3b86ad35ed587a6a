/-! P57: THE PURE HALF (1): places, times, sounds -/
section CA
variable {A : MS} {L : List Nat} {v : Nat}
theorem zPl_ge : ∀ m, m ≤ (zPl A m).length := by
  intro m
  induction m with
  | zero => exact Nat.zero_le _
  | succ m ih =>
    show m + 1 ≤ (zPl A m ++ [m] ++ zAg A m).length
    rw [List.length_append, List.length_append]
    show m + 1 ≤ (zPl A m).length + 1 + (zAg A m).length
    omega
theorem zTq_le (w : zM A) {b : Nat} (hv : v < 4) (hb : b < zN A) : zTq A v b ≤ zTb A b := by
  unfold zTq
  by_cases c : zE A v b = 0
  · rw [if_pos c]
    exact Nat.le_refl _
  · rw [if_neg c]
    unfold zTb zT
    exact Nat.div_le_div_right (Nat.mul_le_mul_right 2500 (z_sL w hb hv (Nat.le_refl _)))
theorem zTq_eq {b : Nat} (h : zRight A v b) : zTq A v b = zTb A b := by
  unfold zTq
  by_cases c : zE A v b = 0
  · rw [if_pos c]
  · have h1 := h.1.resolve_left c
    rw [if_neg c, h1]
    rfl
theorem zTe_le (w : zM A) (hv : v < 4) (hL : ∀ x, x ∈ L → x < zN A) : ∀ p, p ≤ L.length → zTe A L v p ≤ zSt A L p := by
  intro p
  induction p with
  | zero => intro _; exact Nat.le_refl _
  | succ p ih =>
    intro hp
    have h1 := ih (by omega)
    have h2 := zTq_le w hv (gn_lt hL (p := p) (by omega))
    show zTe A L v p + zTq A v (gn L p) ≤ zSt A L p + zTb A (gn L p)
    omega
theorem zTe_eq (hR : ∀ b, b < zN A → zRight A v b) (hL : ∀ x, x ∈ L → x < zN A) : ∀ p, p ≤ L.length → zTe A L v p = zSt A L p := by
  intro p
  induction p with
  | zero => intro _; rfl
  | succ p ih =>
    intro hp
    show zTe A L v p + zTq A v (gn L p) = zSt A L p + zTb A (gn L p)
    rw [ih (by omega), zTq_eq (hR _ (gn_lt hL (p := p) (by omega)))]
/-! sounds are notes -/
theorem zSn_note {p k : Nat} {s : SQ} (h : ∀ x, x < s.1 → ¬ A.2 8 (384 * v + s.2.2.2 x) ≤ 0) : ∀ x, x < (zSn A L v p k s).1 → ¬ A.2 8 (384 * v + (zSn A L v p k s).2.2.2 x) ≤ 0 := by
  unfold zSn
  by_cases c : A.2 8 (zp v (gn L p) k) ≤ 0
  · rw [if_pos c]
    exact h
  · rw [if_neg c]
    by_cases d : zGo A L v p k = true
    · rw [if_pos d]
      exact h
    · rw [if_neg d]
      intro x hx
      have hx' : x < s.1 + 1 := hx
      show ¬ A.2 8 (384 * v + va_up s.2.2.2 s.1 (16 * gn L p + k) x) ≤ 0
      rw [va_up_at]
      by_cases e : x = s.1
      · rw [if_pos e]
        have e2 : 384 * v + (16 * gn L p + k) = zp v (gn L p) k := by unfold zp; omega
        rw [e2]
        exact c
      · rw [if_neg e]
        exact h x (by omega)
theorem zSe_note {p : Nat} {s : SQ} (h : ∀ x, x < s.1 → ¬ A.2 8 (384 * v + s.2.2.2 x) ≤ 0) : ∀ k x, x < (zSe A L v p s k).1 → ¬ A.2 8 (384 * v + (zSe A L v p s k).2.2.2 x) ≤ 0 := by
  intro k
  induction k with
  | zero => exact h
  | succ k ih => exact zSn_note ih
theorem zSs_note : ∀ p x, x < (zSs A L v p).1 → ¬ A.2 8 (384 * v + (zSs A L v p).2.2.2 x) ≤ 0 := by
  intro p
  induction p with
  | zero => exact fun x hx => absurd hx (Nat.not_lt_zero _)
  | succ p ih => exact zSe_note ih (zE A v (gn L p))
theorem sq_apart {c : Nat} {s : SQ} (h : sqOk A v c s) : ∀ y x, x < y → y < s.1 → s.2.2.1 x ≤ s.2.1 y := by
  intro y
  induction y with
  | zero => exact fun x hx => absurd hx (Nat.not_lt_zero _)
  | succ y ih =>
    intro x hx hy
    have h1 := h.2 y hy
    by_cases e : x = y
    · rw [e]
      exact h1
    · have h2 := ih x (by omega) (by omega)
      have h3 := (h.1 y (by omega)).1
      omega
/-- marks are what can be told -/
def mkOK (A : MS) : Prop := ∀ v i j, v < 4 → i < zN A → j < zE A v i → A.2 11 (zp v i j) = -1 ∨ ∃ m : Nat, m ≤ 5 ∧ A.2 11 (zp v i j) = nI m
theorem zLo_5 (hm : mkOK A) (hv : v < 4) : ∀ q, q ≤ 16 * zN A → ∃ m : Nat, m ≤ 5 ∧ zLo A v q = nI m := by
  intro q
  induction q with
  | zero => intro _; exact ⟨2, by decide, rfl⟩
  | succ q ih =>
    intro hq
    show ∃ m : Nat, m ≤ 5 ∧ (if q % 16 < zE A v (q / 16) ∧ ¬ A.2 11 (zp v (q / 16) (q % 16)) = -1 then A.2 11 (zp v (q / 16) (q % 16)) else zLo A v q) = nI m
    by_cases c : q % 16 < zE A v (q / 16) ∧ ¬ A.2 11 (zp v (q / 16) (q % 16)) = -1
    · rw [if_pos c]
      exact (hm v (q / 16) (q % 16) hv (by omega) c.1).resolve_left c.2
    · rw [if_neg c]
      exact ih (by omega)
theorem sgm_ok {S : CS} {o so po : Nat} (hA : rA S A o so po) (hv : v < 4) : sqOk A v (eP A) (sgm A v) := zSs_ok (rA_M hA) (zPl_lt (rA_M hA) (rA_T hA).2.1 (Nat.le_refl _)) hv _ (Nat.le_refl _)
theorem eP_le {S : CS} {o so po : Nat} (hA : rA S A o so po) : eP A ≤ 9216000 := by
  have h1 := zSt_le (rA_M hA) (zPl_lt (rA_M hA) (rA_T hA).2.1 (Nat.le_refl _)) (p := (lP A).length) (Nat.le_refl _)
  have h2 := nP_48 hA
  have h3 : (lP A).length ≤ 48 := h2
  have h4 : eP A ≤ 192000 * (lP A).length := h1
  omega
/-- a sound -/
theorem snd_in {S : CS} {o so po k : Nat} (hA : rA S A o so po) (hg : gOK A (zOr A)) (hm : mkOK A) (hk : k < nS A) : sV A k < 4 ∧ sX A k < (sgm A (sV A k)).1 ∧ sBg A k < sEn A k ∧ sEn A k ≤ eP A ∧ (∃ x : Nat, 1 ≤ x ∧ x ≤ 127 ∧ sPt A k = nI x) ∧ ∃ x : Nat, x ≤ 5 ∧ sLd A k = nI x := by
  have hv : sV A k < 4 := hg.1 k hk
  have hx : sX A k < (sgm A (sV A k)).1 := by
    rw [← hg.2.1 _ hv]
    exact cn_lt hk rfl
  obtain ⟨o1, o2⟩ := sgm_ok hA hv
  obtain ⟨a1, a2, i, j, b1, b2, b3⟩ := o1 _ hx
  have e : 384 * sV A k + sWh A k = zp (sV A k) i j := by
    have : sWh A k = 16 * i + j := b3
    unfold zp
    omega
  obtain ⟨-, -, -, p1, p2, -⟩ := z_v (rA_M hA) b1 hv b2
  have hpos : ¬ A.2 8 (384 * sV A k + sWh A k) ≤ 0 := zSs_note (lP A).length _ hx
  refine ⟨hv, hx, a1, a2, ⟨aN (A.2 8 (zp (sV A k) i j)), ?_, p2, ?_⟩, ?_⟩
  · rw [e, p1] at hpos
    refine Nat.one_le_iff_ne_zero.mpr fun z => hpos ?_
    rw [z]
    decide
  · show A.2 8 (384 * sV A k + sWh A k) = _
    rw [e]
    exact p1
  · have he := (z_r (rA_M hA) b1 hv).1
    have : sWh A k = 16 * i + j := b3
    exact zLo_5 hm hv _ (by omega)
theorem snd_ord {k : Nat} (hg : gOK A (zOr A)) (hk : k + 1 < nS A) : sBg A k < sBg A (k + 1) ∨ (sBg A k = sBg A (k + 1) ∧ sV A k < sV A (k + 1)) := hg.2.2 k (k + 1) (Nat.lt_succ_self k) hk
theorem snd_apart {S : CS} {o so po j k : Nat} (hA : rA S A o so po) (hg : gOK A (zOr A)) (hjk : j < k) (hk : k < nS A) (h : sV A j = sV A k) : sEn A j ≤ sBg A k := by
  have hv : sV A k < 4 := hg.1 k hk
  have hx : sX A k < (sgm A (sV A k)).1 := by
    rw [← hg.2.1 _ hv]
    exact cn_lt hk rfl
  have hlt : sX A j < sX A k := by
    unfold sX
    rw [h]
    exact cn_lt hjk h
  have h9 := sq_apart (sgm_ok hA hv) _ _ hlt hx
  show (sgm A (sV A j)).2.2.1 (sX A j) ≤ _
  rw [h]
  exact h9
end CA
/-! items: what is in their bars -/
def itX (A : MS) (v : Nat) (s : IT) : Prop := ∀ k, k < s.1 → (s.2.1 k = 0 → ¬ zE A v (s.2.2.1 k) = 0) ∧ (¬ s.2.1 k = 0 → ∀ j, j < s.2.2.2.1 k → zE A v (s.2.2.1 k + j) = 0) ∧ (s.2.1 k = 2 → (∃ u : Nat, u < 4 ∧ u ≠ v ∧ s.2.2.2.2 k = nI u ∧ ¬ zE A u (s.2.2.1 k) = 0) ∧ 0 < k ∧ s.2.1 (k - 1) = 1 ∧ 3 ≤ s.2.2.2.1 (k - 1) ∧ k + 1 < s.1 ∧ s.2.1 (k + 1) = 0)
section CI
variable {A : MS} {v b : Nat} {s : IT}
theorem iAdd_at {x f c : Nat} {u : Int32} (k : Nat) : (iAdd s x f c u).2.1 k = (if k = s.1 then x else s.2.1 k) ∧ (iAdd s x f c u).2.2.1 k = (if k = s.1 then f else s.2.2.1 k) ∧ (iAdd s x f c u).2.2.2.1 k = (if k = s.1 then c else s.2.2.2.1 k) ∧ (iAdd s x f c u).2.2.2.2 k = (if k = s.1 then u else s.2.2.2.2 k) := ⟨va_up_at _ _ _ _, va_up_at _ _ _ _, va_up_at _ _ _ _, va_up_at _ _ _ _⟩
theorem iAdd_old {x f c : Nat} {u : Int32} {k : Nat} (h : k < s.1) : (iAdd s x f c u).2.1 k = s.2.1 k ∧ (iAdd s x f c u).2.2.1 k = s.2.2.1 k ∧ (iAdd s x f c u).2.2.2.1 k = s.2.2.2.1 k ∧ (iAdd s x f c u).2.2.2.2 k = s.2.2.2.2 k := by
  obtain ⟨a1, a2, a3, a4⟩ := iAdd_at (s := s) (x := x) (f := f) (c := c) (u := u) k
  have hne : ¬ k = s.1 := by omega
  rw [if_neg hne] at a1 a2 a3 a4
  exact ⟨a1, a2, a3, a4⟩
theorem iAdd_new {x f c : Nat} {u : Int32} : (iAdd s x f c u).2.1 s.1 = x ∧ (iAdd s x f c u).2.2.1 s.1 = f ∧ (iAdd s x f c u).2.2.2.1 s.1 = c ∧ (iAdd s x f c u).2.2.2.2 s.1 = u := by
  obtain ⟨a1, a2, a3, a4⟩ := iAdd_at (s := s) (x := x) (f := f) (c := c) (u := u) s.1
  rw [if_pos rfl] at a1 a2 a3 a4
  exact ⟨a1, a2, a3, a4⟩
/-- an item more that is no CUE -/
theorem itX_add {x f c : Nat} {u : Int32} (h : itX A v s) (hx : x = 0 ∧ ¬ zE A v f = 0 ∨ x = 1 ∧ ∀ j, j < c → zE A v (f + j) = 0) : itX A v (iAdd s x f c u) := by
  intro k hk
  have hk' : k < s.1 + 1 := hk
  by_cases e : k = s.1
  · obtain ⟨n1, n2, n3, n4⟩ := iAdd_new (s := s) (x := x) (f := f) (c := c) (u := u)
    rw [e, n1, n2, n3]
    rcases hx with ⟨x1, x2⟩ | ⟨x1, x2⟩
    · exact ⟨fun _ => x2, fun z => absurd x1 z, fun z => by omega⟩
    · exact ⟨fun z => by omega, fun _ => x2, fun z => by omega⟩
  · obtain ⟨a1, a2, a3⟩ := h k (by omega)
    obtain ⟨o1, o2, o3, o4⟩ := iAdd_old (s := s) (x := x) (f := f) (c := c) (u := u) (k := k) (by omega)
    rw [o1, o2, o3, o4]
    refine ⟨a1, a2, fun z => ?_⟩
    obtain ⟨b1, b2, b3, b4, b5, b6⟩ := a3 z
    obtain ⟨q1, -, q3, -⟩ := iAdd_old (s := s) (x := x) (f := f) (c := c) (u := u) (k := k - 1) (by omega)
    obtain ⟨q5, -⟩ := iAdd_old (s := s) (x := x) (f := f) (c := c) (u := u) (k := k + 1) b5
    rw [q1, q3, q5]
    exact ⟨b1, b2, b3, b4, Nat.lt_succ_of_lt b5, b6⟩
/-- the last REST has other bars -/
theorem itX_set {c : Nat} (h : itX A v s) (hr : iRest s = true) (hz : ∀ j, j < c → zE A v (s.2.2.1 (s.1 - 1) + j) = 0) : itX A v (iSet s c) := by
  obtain ⟨r1, r2⟩ := iRest_iff.mp hr
  intro k hk
  have hk' : k < s.1 := hk
  obtain ⟨a1, a2, a3⟩ := h k hk'
  have eC : ∀ i, (iSet s c).2.2.2.1 i = if i = s.1 - 1 then c else s.2.2.2.1 i := fun i => va_up_at _ _ _ _
  show (s.2.1 k = 0 → ¬ zE A v (s.2.2.1 k) = 0) ∧ (¬ s.2.1 k = 0 → ∀ j, j < (iSet s c).2.2.2.1 k → zE A v (s.2.2.1 k + j) = 0) ∧ (s.2.1 k = 2 → (∃ u : Nat, u < 4 ∧ u ≠ v ∧ s.2.2.2.2 k = nI u ∧ ¬ zE A u (s.2.2.1 k) = 0) ∧ 0 < k ∧ s.2.1 (k - 1) = 1 ∧ 3 ≤ (iSet s c).2.2.2.1 (k - 1) ∧ k + 1 < s.1 ∧ s.2.1 (k + 1) = 0)
  refine ⟨a1, fun z => ?_, fun z => ?_⟩
  · rw [eC]
    by_cases e : k = s.1 - 1
    · rw [if_pos e, e]
      exact hz
    · rw [if_neg e]
      exact a2 z
  · obtain ⟨b1, b2, b3, b4, b5, b6⟩ := a3 z
    rw [eC, if_neg (by omega)]
    exact ⟨b1, b2, b3, b4, b5, b6⟩
/-- a CUE, and the BAR behind it -/
theorem itX_cue {c e u : Nat} (h : itX A v s) (hr : iRest s = true) (hc : 3 ≤ c) (hz : ∀ j, j < c → zE A v (s.2.2.1 (s.1 - 1) + j) = 0) (he : zE A v e = 0) (hu : u < 4 ∧ u ≠ v ∧ ¬ zE A u e = 0) (hb : ¬ zE A v b = 0) : itX A v (iAdd (iAdd (iSet s c) 2 e 1 (nI u)) 0 b 1 (-1)) := by
  obtain ⟨r1, r2⟩ := iRest_iff.mp hr
  have h1 := itX_set h hr hz
  intro k hk
  have hk' : k < s.1 + 1 + 1 := hk
  have s1 : (iAdd (iSet s c) 2 e 1 (nI u)).1 = s.1 + 1 := rfl
  have s0 : (iSet s c).1 = s.1 := rfl
  by_cases e1 : k = s.1 + 1
  · obtain ⟨n1, n2, n3, n4⟩ := iAdd_new (s := iAdd (iSet s c) 2 e 1 (nI u)) (x := 0) (f := b) (c := 1) (u := -1)
    rw [s1] at n1 n2 n3 n4
    rw [e1, n1, n2]
    exact ⟨fun _ => hb, fun z => absurd rfl z, fun z => by omega⟩
  · obtain ⟨o1, o2, o3, o4⟩ := iAdd_old (s := iAdd (iSet s c) 2 e 1 (nI u)) (x := 0) (f := b) (c := 1) (u := -1) (k := k) (by rw [s1]; omega)
    rw [o1, o2, o3, o4]
    by_cases e2 : k = s.1
    · obtain ⟨n1, n2, n3, n4⟩ := iAdd_new (s := iSet s c) (x := 2) (f := e) (c := 1) (u := nI u)
      rw [s0] at n1 n2 n3 n4
      rw [e2, n1, n2, n3, n4]
      obtain ⟨m1, -⟩ := iAdd_new (s := iAdd (iSet s c) 2 e 1 (nI u)) (x := 0) (f := b) (c := 1) (u := -1)
      rw [s1] at m1
      rw [m1]
      obtain ⟨q1, -, q3, -⟩ := iAdd_old (s := iAdd (iSet s c) 2 e 1 (nI u)) (x := 0) (f := b) (c := 1) (u := -1) (k := s.1 - 1) (by rw [s1]; omega)
      obtain ⟨q5, -, q7, -⟩ := iAdd_old (s := iSet s c) (x := 2) (f := e) (c := 1) (u := nI u) (k := s.1 - 1) (by rw [s0]; omega)
      rw [q1, q3, q5, q7]
      refine ⟨fun z => absurd z (by decide), fun _ j hj => ?_, fun _ => ⟨⟨u, hu.1, hu.2.1, rfl, hu.2.2⟩, r1, r2, ?_, Nat.lt_succ_self _, rfl⟩⟩
      · have : j = 0 := by omega
        rw [this]
        exact he
      · show 3 ≤ va_up s.2.2.2.1 (s.1 - 1) c (s.1 - 1)
        rw [va_up_at, if_pos rfl]
        exact hc
    · obtain ⟨a1, a2, a3⟩ := h1 k (by rw [s0]; omega)
      obtain ⟨p1, p2, p3, p4⟩ := iAdd_old (s := iSet s c) (x := 2) (f := e) (c := 1) (u := nI u) (k := k) (by rw [s0]; omega)
      rw [p1, p2, p3, p4]
      refine ⟨a1, a2, fun z => ?_⟩
      obtain ⟨b1, b2, b3, b4, b5, b6⟩ := a3 z
      obtain ⟨q1, -, q3, -⟩ := iAdd_old (s := iAdd (iSet s c) 2 e 1 (nI u)) (x := 0) (f := b) (c := 1) (u := -1) (k := k - 1) (by rw [s1]; omega)
      obtain ⟨q5, -, q7, -⟩ := iAdd_old (s := iSet s c) (x := 2) (f := e) (c := 1) (u := nI u) (k := k - 1) (by rw [s0]; omega)
      obtain ⟨t1, -⟩ := iAdd_old (s := iAdd (iSet s c) 2 e 1 (nI u)) (x := 0) (f := b) (c := 1) (u := -1) (k := k + 1) (by rw [s1]; rw [s0] at b5; omega)
      obtain ⟨t2, -⟩ := iAdd_old (s := iSet s c) (x := 2) (f := e) (c := 1) (u := nI u) (k := k + 1) b5
      rw [q1, q3, q5, q7, t1, t2]
      refine ⟨b1, b2, b3, b4, ?_, b6⟩
      show k + 1 < s.1 + 1 + 1
      omega
theorem zIt_X : ∀ b, itX A v (zIt A v b) := by
  intro b
  induction b with
  | zero => exact fun k hk => absurd hk (Nat.not_lt_zero _)
  | succ b ih =>
    have ok := zIt_ok (A := A) (v := v) b
    unfold zIt
    by_cases e : ¬ zE A v b = 0
    · rw [if_pos e]
      unfold iCue
      by_cases c : iRest (zIt A v b) = true ∧ 4 ≤ (zIt A v b).2.2.2.1 ((zIt A v b).1 - 1) ∧ ¬ zQd A v (iEnd (zIt A v b)) 4 = -1
      · rw [if_pos c]
        obtain ⟨c1, c2, c3⟩ := c
        obtain ⟨r1, r2⟩ := iRest_iff.mp c1
        obtain ⟨-, a2, -⟩ := ih ((zIt A v b).1 - 1) (by omega)
        have a3 := a2 (by omega)
        rcases zQd_is (A := A) (v := v) (b := iEnd (zIt A v b)) with ⟨q1, -⟩ | ⟨u, u1, u2, u3, u4, -⟩
        · exact absurd q1 c3
        · rw [u2]
          refine itX_cue ih c1 (by omega) (fun j hj => a3 j (by omega)) ?_ ⟨u1, u3, by omega⟩ e
          have e9 : iEnd (zIt A v b) = (zIt A v b).2.2.1 ((zIt A v b).1 - 1) + ((zIt A v b).2.2.2.1 ((zIt A v b).1 - 1) - 1) := by unfold iEnd; omega
          rw [e9]
          exact a3 _ (by omega)
      · rw [if_neg c]
        exact itX_add ih (Or.inl ⟨rfl, e⟩)
    · have e0 : zE A v b = 0 := Classical.byContradiction e
      rw [if_neg e]
      by_cases e2 : iRest (zIt A v b) = true ∧ ¬ zPt A b = true
      · rw [if_pos e2]
        obtain ⟨r1, r2⟩ := iRest_iff.mp e2.1
        have hb := ok.2.2.1 r1
        obtain ⟨-, a2, -⟩ := ih ((zIt A v b).1 - 1) (by omega)
        have a3 := a2 (by omega)
        refine itX_set ih e2.1 (fun j hj => ?_)
        by_cases e3 : j = (zIt A v b).2.2.2.1 ((zIt A v b).1 - 1)
        · rw [e3, hb]
          exact e0
        · exact a3 j (by omega)
      · rw [if_neg e2]
        refine itX_add ih (Or.inr ⟨rfl, fun j hj => ?_⟩)
        have : j = 0 := by omega
        rw [this]
        exact e0
end CI
