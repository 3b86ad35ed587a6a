/-! THE SMALL FUNCTIONS OF BOTH SIDES -/
section SF
variable {A t : MS} {S : CS} {so : Nat}
theorem pl_nI {v i j : Nat} (hv : v < 4) : v_place (nI v) (nI i) (nI j) = nI (zp v i j) := by
  unfold v_place
  rw [at_nI hv, show (16 : Int32) = nI 16 from rfl, pk_mul, nI_add]
  rfl
theorem zp_lt {v i j : Nat} (hv : v < 4) (hi : i < 24) (hj : j < 16) : zp v i j < 1536 := by
  unfold zp
  omega
theorem mm_len (w : zM A) (g : Ag A t) {i : Nat} (hi : i < zN A) : d_lengthOf (nI i) t ∧ v_lengthOf (nI i) t = nI (zL A i) := by
  obtain ⟨⟨b1, b2, b3⟩, ⟨u1, u2⟩, -⟩ := z_b w hi
  have hn := w.2.1
  unfold d_lengthOf v_lengthOf
  rw [Ag_A g (f := 1) (i := i) (by decide) (by omega), Ag_A g (f := 2) (i := i) (by decide) (by omega), b1, u1]
  have hu : 0 < zU A i ∧ zU A i < 9 := by omega
  refine ⟨⟨vp_nI (n := 24) (by omega) (by decide), vp_nI (n := 24) (by omega) (by decide), nI_ne0 hu.1 (by omega)⟩, ?_⟩
  rw [show (96 : Int32) = nI 96 from rfl, pk_mul, pk_div (by omega) hu.1 (by omega)]
  rfl
theorem tm_nI {x p : Nat} (hx : x ≤ 2304) (hp : 0 < p) (hp2 : p ≤ 240) : (nI x * 2500) / nI p = nI (x * 2500 / p) := by
  rw [show (2500 : Int32) = nI 2500 from rfl, pk_mul, pk_div (by omega) hp (by omega)]
/-! of the class -/
theorem cc_n (h : rB S A so) (w : zM A) : nbS S so = zN A := by
  have e := h.2.2.2.1
  have e2 := w.1
  have h9 := h.2.1
  have h8 := w.2.1
  rw [e] at e2
  exact (nI_eq (by omega) (by omega)).mp e2
theorem cc_in {f o k N : Nat} (h : (fL S f o).length = N) (hk : k < N) (hN : N < 2147483648) : lIn S f o (nI k) := ⟨by rw [h]; exact vp_nI hk hN, by omega⟩
theorem cc_lG {f o k : Nat} (hk : k < 2147483648) : lG S f o (nI k) = ((fL S f o)[k]?).getD 0 := by
  unfold lG
  rw [nI_clamp (by omega)]
theorem cc_bar (h : rB S A so) (w : zM A) {i : Nat} (hi : i < zN A) : kdC S so = 12 ∧ lIn S 192 so (nI i) ∧ lG S 192 so (nI i) = mrL S so i ∧ kdC S (mrL S so i) = 5 := by
  have hn := w.2.1
  exact ⟨h.1, cc_in (cc_n h w) hi (by omega), cc_lG (by omega), (h.2.2.2.2.1 i (by rw [cc_n h w]; exact hi)).1⟩
theorem cc_row (h : rB S A so) (w : zM A) {v i : Nat} (hi : i < zN A) (hv : v < 4) : rR S A so v i := (h.2.2.2.2.1 i (by rw [cc_n h w]; exact hi)).2.2.2.2.2.2 v hv
theorem cc_e (h : rB S A so) (w : zM A) {v i : Nat} (hi : i < zN A) (hv : v < 4) : neS S so v i = zE A v i := by
  have h1 := (cc_row h w hi hv).2.2.2.1
  have h2 := (z_r w hi hv).2.1
  have h3 := (cc_row h w hi hv).2.2.1
  have h4 := (z_r w hi hv).1
  rw [h1] at h2
  exact (nI_eq (by omega) (by omega)).mp h2
theorem cc_rw (h : rB S A so) (w : zM A) {v i : Nat} (hi : i < zN A) (hv : v < 4) : d_X9_row so (nI v) (nI i) S ∧ v_X9_row so (nI v) (nI i) S = rwL S so v i ∧ kdC S (rwL S so v i) = 11 := by
  obtain ⟨h1, h2, h3, -⟩ := a_row h (by rw [cc_n h w]; exact hi) hv
  exact ⟨h1, h2, h3⟩
theorem cc_ev (h : rB S A so) (w : zM A) {v i j : Nat} (hi : i < zN A) (hv : v < 4) (hj : j < zE A v i) : lIn S 176 (rwL S so v i) (nI j) ∧ lG S 176 (rwL S so v i) (nI j) = evL S so v i j ∧ rE S A (evL S so v i j) (zp v i j) := by
  have he := (z_r w hi hv).1
  exact ⟨cc_in (cc_e h w hi hv) hj (by omega), cc_lG (by omega), (cc_row h w hi hv).2.2.2.2.2.2.2.2 j (by rw [cc_e h w hi hv]; exact hj)⟩
theorem cc_len (h : rB S A so) (w : zM A) {i : Nat} (hi : i < zN A) : d_X2_ticks (mrL S so i) S ∧ v_X2_ticks (mrL S so i) S = nI (zL A i) := by
  obtain ⟨-, g2, g3, -⟩ := a_length h (k := i) (by rw [cc_n h w]; exact hi)
  have e : v_X9_measure so (nI i) S = mrL S so i := (cc_bar h w hi).2.2.1
  rw [e] at g2 g3
  exact ⟨g2, g3.trans (mm_len w (Ag_rfl A) hi).2⟩
theorem cc_told (h : rB S A so) (w : zM A) {i : Nat} (hi : i < zN A) : fI S 82 (mrL S so i) = A.2 3 i ∧ fI S 80 (mrL S so i) = A.2 1 i ∧ fI S 81 (mrL S so i) = A.2 2 i := by
  obtain ⟨-, h1, h2, h3, -⟩ := h.2.2.2.2.1 i (by rw [cc_n h w]; exact hi)
  exact ⟨h3, h1, h2⟩
theorem cc_tempo (h : rB S A so) (w : zM A) {B : Nat × Nat} {Q : Int32 → CS → Prop} {X : String → CS → Prop} : ∀ i : Nat, i < zN A → Q (nI (zP A (i + 1))) S → w_X9_tempoAt B so (nI i) S Q X := by
  intro i
  induction i with
  | zero =>
    intro hi hQ
    obtain ⟨b1, b2, b3, b4⟩ := cc_bar h w hi
    have ht := (cc_told h w hi).1
    refine ⟨2, ⟨fun h9 => absurd h9 (nI_pos (n := 0) (by decide)), fun _ => ⟨b1, b2, by rw [b3]; exact b4, fun x hx => ?_⟩⟩⟩
    rw [b3, ht] at hx
    refine ⟨fun e9 => ?_, fun e9 => ?_⟩
    · refine ⟨fun _ => ?_, fun h9 => absurd (show (nI 0 + (-1) : Int32) < 0 by decide) h9⟩
      have e : zP A (0 + 1) = 120 := by
        show (if A.2 3 0 = -1 then 120 else aN (A.2 3 0)) = 120
        rw [if_pos (by rw [← hx]; exact e9)]
      rw [e] at hQ
      exact hQ
    · have e : x = nI (zP A (0 + 1)) := by
        show x = nI (if A.2 3 0 = -1 then 120 else aN (A.2 3 0))
        obtain ⟨-, -, g2, -⟩ := z_b w hi
        rw [if_neg (by rw [← hx]; exact e9)]
        rcases g2 with g2 | g2
        · exact absurd (hx.trans g2) e9
        · exact hx.trans g2.1
      rw [e]
      exact hQ
  | succ i ih =>
    intro hi hQ
    have hn := w.2.1
    obtain ⟨b1, b2, b3, b4⟩ := cc_bar h w hi
    have ht := (cc_told h w hi).1
    by_cases e9 : A.2 3 (i + 1) = -1
    · have e : zP A (i + 1 + 1) = zP A (i + 1) := by
        show (if A.2 3 (i + 1) = -1 then zP A (i + 1) else aN (A.2 3 (i + 1))) = _
        rw [if_pos e9]
      rw [e] at hQ
      obtain ⟨m, hm⟩ := ih (by omega) hQ
      refine ⟨m + 1, ⟨fun h9 => absurd h9 (nI_pos (by omega)), fun _ => ⟨b1, b2, by rw [b3]; exact b4, fun x hx => ?_⟩⟩⟩
      rw [b3, ht] at hx
      refine ⟨fun _ => ?_, fun h9 => absurd (hx.trans e9) h9⟩
      rw [pk_m1]
      exact hm
    · refine ⟨1, ⟨fun h9 => absurd h9 (nI_pos (by omega)), fun _ => ⟨b1, b2, by rw [b3]; exact b4, fun x hx => ?_⟩⟩⟩
      rw [b3, ht] at hx
      refine ⟨fun h9 => absurd (hx.symm.trans h9) e9, fun _ => ?_⟩
      have e : x = nI (zP A (i + 1 + 1)) := by
        show x = nI (if A.2 3 (i + 1) = -1 then zP A (i + 1) else aN (A.2 3 (i + 1)))
        obtain ⟨-, -, g2, -⟩ := z_b w hi
        rw [if_neg e9]
        rcases g2 with g2 | g2
        · exact absurd g2 e9
        · exact hx.trans g2.1
      rw [e]
      exact hQ
theorem cc_timeOf {x p : Nat} (hx : x ≤ 2304) (hp : 0 < p) (hp2 : p ≤ 240) : d_X9_timeOf (nI x) (nI p) ∧ v_X9_timeOf (nI x) (nI p) = nI (x * 2500 / p) := by
  unfold d_X9_timeOf v_X9_timeOf
  refine ⟨fun _ => nI_ne0 hp (by omega), ?_⟩
  rw [if_neg (nI_nle hp (by omega))]
  exact tm_nI hx hp hp2
theorem cc_time (h : rB S A so) (w : zM A) {i x : Nat} (hi : i < zN A) (hx : x ≤ 2304) : d_X9_timeOf (nI x) (nI (zP A (i + 1))) ∧ v_X9_timeOf (nI x) (nI (zP A (i + 1))) = nI (zT A i x) := by
  have g := z_p w (k := i + 1) (by omega)
  exact cc_timeOf hx (by omega) (by omega)
theorem cc_timeOfBar (h : rB S A so) (w : zM A) {B : Nat × Nat} {Q : Int32 → CS → Prop} {X : String → CS → Prop} {i : Nat} (hi : i < zN A) (hQ : Q (nI (zT A i (zL A i))) S) : w_X9_timeOfBar B so (nI i) S Q X := by
  obtain ⟨b1, b2, b3, b4⟩ := cc_bar h w hi
  obtain ⟨l1, l2⟩ := cc_len h w hi
  have hl := z_len w hi
  unfold w_X9_timeOfBar
  rw [b3, l2]
  refine ⟨b1, b2, b4, l1, cc_tempo h w i hi ?_⟩
  obtain ⟨g1, g2⟩ := cc_time h w hi (x := zL A i) (by omega)
  rw [g2]
  exact ⟨g1, hQ⟩
theorem iS_z {v i : Nat} : ∀ m : Nat, (∀ k, k < m → tk (A.2 9 (zp v i k)) (A.2 10 (zp v i k)) = nI (zKp A (zp v i k))) → iS (A.2 9) (A.2 10) (16 * (24 * v + i)) m = nI (zS A v i m) := by
  intro m
  induction m with
  | zero => intro _; rfl
  | succ m ih =>
    intro h
    show iS (A.2 9) (A.2 10) (16 * (24 * v + i)) m + tk (A.2 9 (zp v i m)) (A.2 10 (zp v i m)) = nI (zS A v i m + zKp A (zp v i m))
    rw [ih (fun k hk => h k (by omega)), h m (by omega), nI_add]
theorem cc_ticks (h : rB S A so) (w : zM A) {v i : Nat} (hi : i < zN A) (hv : v < 4) : fI S 177 (rwL S so v i) = nI (zS A v i (zE A v i)) := by
  have e := (cc_row h w hi hv).2.2.2.2.2.2.2.1
  rw [e, cc_e h w hi hv]
  exact iS_z _ (fun k hk => (z_k w hi hv hk).1)
theorem cc_left (h : rB S A so) (w : zM A) {v i : Nat} (hi : i < zN A) (hv : v < 4) : d_X9_ticksLeft so (nI v) (nI i) S ∧ v_X9_ticksLeft so (nI v) (nI i) S = nI (zL A i - zS A v i (zE A v i)) := by
  obtain ⟨b1, b2, b3, b4⟩ := cc_bar h w hi
  obtain ⟨l1, l2⟩ := cc_len h w hi
  obtain ⟨r1, r2, r3⟩ := cc_rw h w hi hv
  unfold d_X9_ticksLeft v_X9_ticksLeft
  rw [b3, r2, l2, cc_ticks h w hi hv]
  exact ⟨⟨b1, b2, b4, l1, r1, r3⟩, pk_sub (z_sL w hi hv (Nat.le_refl _))⟩
end SF
