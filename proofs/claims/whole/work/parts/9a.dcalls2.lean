/-! CALLS OF PAGES, TURNS AND SHEETS -/
def kNp (A : MS) (v : Nat) : Nat := gNp (dPg A v) (dL A v) (2 * dL A v)
def kTc (A : MS) (v : Nat) : Nat := gTc (dPg A v) (dL A v) (kNp A v)
def kTl (A : MS) (v j : Nat) : Nat := gTl (dPg A v) (dL A v) (kNp A v) j
section Da
variable {lb b : Nat × Nat} {o so po : Nat}
theorem kX {S : CS} {A : MS} {v : Nat} (hA : rA S A o so po) (hv : v < 4) : gXo (dPg A v) (dL A v) ∧ dL A v ≤ 24 ∧ kNp A v ≤ 48 ∧ kTc A v ≤ 24 := by
  have h1 := (dm_ok (v := v) (rA_M hA)).1
  have h2 := (dL_ok (rA_M hA) (rA_S hA).2.2.2.2 hv).2.2
  obtain ⟨r1, r2, -⟩ := dRm_ok (rA_S hA).2.2.2.2
  have hX : gXo (dPg A v) (dL A v) := gXo_T dE_le r2 r1 (by omega)
  obtain ⟨n1, n2, n3⟩ := gNp_ok hX
  have ht := gTc_ok hX (kNp A v)
  have e : (gS (dPg A v) (dL A v) (kNp A v)).1 = dL A v := n2
  rw [e] at ht
  refine ⟨hX, by omega, by unfold kNp; omega, ?_⟩
  by_cases c : 0 < dL A v
  · have h9 : kTc A v + 1 ≤ dL A v := ht.2 c (Nat.le_refl _)
    omega
  · have h9 : kTc A v = 0 := ht.1 (by omega)
    omega
theorem kNp_48 : ∀ (S : CS) (A : MS) (v : Nat), rA S A o so po → v < 4 → kNp A v ≤ 48 := fun S A v hA hv => (kX hA hv).2.2.1
theorem kTc_48 : ∀ (S : CS) (A : MS) (v : Nat), rA S A o so po → v < 4 → kTc A v ≤ 48 := fun S A v hA hv => Nat.le_trans (kX hA hv).2.2.2 (by decide)
theorem si_pages (hb : b.1 + 10000 ≤ lb.1 ∧ b.2 + 42000 ≤ lb.2) : Si_pages lb o (Iv b o so po) := fun n S t ov a1 h => dr_1 hb stg_3 (T := fun r2 t2 Q => ∀ x3 : Int32, x3 = (if r2 = 0 then 0 else (mgI t2 41)) → Q x3 t2) (V := fun B q t2 Q X => (kdC t2 q = 7) ∧ ((fR t2 120 q) ≠ none) ∧ (kdC t2 (oG (fR t2 120 q)) = 6) ∧ Q (fI t2 98 (oG (fR t2 120 q))) t2) h (fun t1 Q hQ => if_T0 hQ) (fun A v hA hv hd B q lo pg S' p1 p2 K Y hgo => by
  (try dsimp only)
  rw [(lo_of p1).2]
  exact ⟨p1.1, ne_so p1.2.2.1, p1.2.2.2.2.1, hgo _ (fun t1 Q g1 q1 hQ => if_T1 (((mI_ne (by decide)).trans q1.2.2.1).trans p2.2.2.2.2.1.symm) hQ)⟩)
theorem si_pageLines (hb : b.1 + 10000 ≤ lb.1 ∧ b.2 + 42000 ≤ lb.2) : Si_pageLines lb o (Iv b o so po) := fun n S t ov a1 a2 h => dr_3s hb stg_3 (T := fun r3 t3 Q => ((¬ (r3 = 0)) → mIn 42 a2) ∧ ∀ x4 : Int32, x4 = (if r3 = 0 then 0 else (mgA t3 42 a2)) → Q x4 t3) (V := fun B q t2 Q X => (kdC t2 q = 7) ∧ ((fR t2 120 q) ≠ none) ∧ (kdC t2 (oG (fR t2 120 q)) = 6) ∧ w_X11_requireIndex B a2 (fI t2 98 (oG (fR t2 120 q))) t2 (fun t6 => (vp_in a2 (cLN 96)) ∧ Q (fA t6 96 (oG (fR t2 120 q)) (Int32.toNatClampNeg a2)) t6) X) (fun t1 => mgI t1 41) kNp kNp_48 (fun _ _ _ _ _ _ q1 => q1.2.2.1) h (fun t1 Q hQ => ⟨fun z => absurd rfl z, if_T0 hQ⟩) (fun A v hA hv hd B q lo pg S' p1 p2 K Y hidx hgo => by
  have h1 := kNp_48 S A v hA hv
  (try dsimp only)
  rw [(lo_of p1).2, show fI S' 98 pg = nI (kNp A v) from p2.2.2.2.2.1]
  refine ⟨p1.1, ne_so p1.2.2.1, p1.2.2.2.2.1, hidx _ (fun i i1 i2 => ⟨by rw [i2]; exact vp_nI (n := 48) (by omega) (by decide), hgo i _ i1 i2 (fun t1 Q g1 q1 hQ => ⟨fun _ => by rw [i2]; exact vp_nI (n := 60) (by omega) (by decide), if_T1 ?_ hQ⟩)⟩)⟩
  show t1.2 42 (Int32.toNatClampNeg a2) = fA S' 96 pg (Int32.toNatClampNeg a2)
  rw [i2, nI_clamp (by omega)]
  exact (q1.2.2.2 i i1).trans (p2.2.2.2.2.2.2.1 i i1).1.symm)
theorem si_pageTurns (hb : b.1 + 10000 ≤ lb.1 ∧ b.2 + 42000 ≤ lb.2) : Si_pageTurns lb o (Iv b o so po) := fun n S t ov a1 h => dr_1 hb stg_3 (T := fun r2 t2 Q => ∃ J29 : Int32 → MS → Prop, (∀ x3 : Int32, ∀ t4 : MS, J29 x3 t4 → (Q x3 t4)) ∧ (((r2 = 0) → J29 0 t2) ∧ (¬ (r2 = 0) → w_turnsTo 0 1 t2 (fun r5 t5 => J29 r5 t5)))) (V := fun B q t2 Q X => (kdC t2 q = 7) ∧ ((fR t2 120 q) ≠ none) ∧ (kdC t2 (oG (fR t2 120 q)) = 6) ∧ Q (fI t2 100 (oG (fR t2 120 q))) t2) h (fun t1 Q hQ => ⟨Q, fun _ _ z => z, fun _ => hQ, fun z => absurd rfl z⟩) (fun A v hA hv hd B q lo pg S' p1 p2 K Y hgo => by
  obtain ⟨x1, x2, x3, x4⟩ := kX hA hv
  have hl0 := dL_pos (rA_M hA) (rA_S hA).2.2.2.2 hv hd.1
  (try dsimp only)
  rw [(lo_of p1).2]
  refine ⟨p1.1, ne_so p1.2.2.1, p1.2.2.2.2.1, hgo _ (fun t1 Q g1 q1 hQ => ⟨Q, fun _ _ z => z, fun z => absurd z one_ne, fun _ => mm_turnsTo (a := 0) x1 x2 hl0 (dQ_45 q1).2.2 (by omega) (fun _ => ?_) (fun z => absurd z one_ne)⟩)⟩
  rw [p2.2.2.2.2.2.1] at hQ
  exact hQ)
theorem si_badTurns (hb : b.1 + 10000 ≤ lb.1 ∧ b.2 + 42000 ≤ lb.2) : Si_badTurns lb o (Iv b o so po) := fun n S t ov a1 h => dr_1 hb stg_3 (T := fun r2 t2 Q => ((r2 = 0) → Q 0 t2) ∧ (¬ (r2 = 0) → ∃ n, lp (w_badTurns_L26 Q) n (0, 0, t2))) (V := fun B q t2 Q X => (kdC t2 q = 7) ∧ ((fR t2 120 q) ≠ none) ∧ (kdC t2 (oG (fR t2 120 q)) = 6) ∧ w_X3_faultyTurns B (oG (fR t2 120 q)) t2 (fun r6 t6 => Q r6 t6) X) h (fun t1 Q hQ => ⟨fun _ => hQ, fun z => absurd rfl z⟩) (fun A v hA hv hd B q lo pg S' p1 p2 K Y hgo => by
  obtain ⟨x1, x2, x3, x4⟩ := kX hA hv
  (try dsimp only)
  rw [(lo_of p1).2]
  exact ⟨p1.1, ne_so p1.2.2.1, p1.2.2.2.2.1, cc_faulty (E := dE A v) x1 x2 p1.2.2.2.2.1 p2.2.2.2.2 (fun k k1 k2 => (p2.2.2.2.1 k k1 k2).2.2.2) dE_le (hgo _ (fun t1 Q g1 q1 hQ => ⟨fun z => absurd z one_ne, fun _ => mm_badTurns (rA_M hA) (rA_S hA).2.2.2.2 hv hd.1 (dQ_45 q1) hQ⟩))⟩)
theorem si_sheets (hb : b.1 + 10000 ≤ lb.1 ∧ b.2 + 42000 ≤ lb.2) : Si_sheets lb o (Iv b o so po) := fun n S t ov a1 h => dr_1 hb stg_3 (T := fun r2 t2 Q => ∀ x3 : Int32, x3 = (if r2 = 0 then 0 else (v_sheetsOf t2)) → Q x3 t2) (V := fun B q t2 Q X => (kdC t2 q = 7) ∧ ((fR t2 120 q) ≠ none) ∧ (kdC t2 (oG (fR t2 120 q)) = 6) ∧ Q (v_X11_sheetsFor (fI t2 98 (oG (fR t2 120 q)))) t2) h (fun t1 Q hQ => if_T0 hQ) (fun A v hA hv hd B q lo pg S' p1 p2 K Y hgo => by
  (try dsimp only)
  rw [(lo_of p1).2]
  refine ⟨p1.1, ne_so p1.2.2.1, p1.2.2.2.2.1, hgo _ (fun t1 Q g1 q1 hQ => if_T1 ?_ hQ)⟩
  have e1 : mgI (msI t1 45 0) 41 = fI S' 98 pg := ((mI_ne (by decide)).trans q1.2.2.1).trans p2.2.2.2.2.1.symm
  unfold v_sheetsOf v_X11_sheetsFor
  rw [e1])
def kSh (A : MS) (v : Nat) : Nat := (kNp A v + 3) / 4
theorem kSh_48 : ∀ (S : CS) (A : MS) (v : Nat), rA S A o so po → v < 4 → kSh A v ≤ 48 := fun S A v hA hv => by
  have := (kX hA hv).2.2.1
  unfold kSh
  omega
theorem sh_nI {N : Nat} (h : N ≤ 48) : v_X11_sheetsFor (nI N) = nI ((N + 3) / 4) := by
  have e : nI N + 4 - 1 = nI (N + 3) := by
    have h1 : nI N + 4 = nI (N + 3 + 1) := nI_add N 4
    rw [h1]
    exact nI_pred (N + 3)
  unfold v_X11_sheetsFor
  rw [e]
  exact pk_div (a := N + 3) (d := 4) (by omega) (by decide) (by decide)
theorem kSh_m : ∀ (S : CS) (A : MS) (v : Nat) (t1 : MS), rA S A o so po → v < 4 → dQ A v t1 → v_sheetsOf t1 = nI (kSh A v) := fun S A v t1 hA hv q1 => by
  have e1 : mgI t1 41 = nI (kNp A v) := q1.2.2.1
  have := sh_nI (kX hA hv).2.2.1
  unfold v_X11_sheetsFor at this
  unfold v_sheetsOf
  rw [e1]
  exact this
theorem si_sheetPage (hb : b.1 + 10000 ≤ lb.1 ∧ b.2 + 42000 ≤ lb.2) : Si_sheetPage lb o (Iv b o so po) := fun n S t ov a1 a2 a3 a4 h => dr_3s hb stg_3 (T := fun r3 t3 Q => ((r3 = 0) → Q 0 t3) ∧ (¬ (r3 = 0) → ∀ x4 : Int32, x4 = (4 * (v_sheetsOf t3)) → ∀ x5 : Int32, x5 = (if a3 = 0 then 2 else 1) → ∀ x6 : Int32, x6 = ((x4 - x5) - (2 * a2)) → ∀ x7 : Int32, x7 = (if a3 = 0 then 1 else 0) → ∀ x8 : Int32, x8 = ((2 * a2) + x7) → ∀ x9 : Int32, x9 = (if a3 = a4 then x6 else x8) → Q x9 t3)) (V := fun B q t2 Q X => (kdC t2 q = 7) ∧ ((fR t2 120 q) ≠ none) ∧ (kdC t2 (oG (fR t2 120 q)) = 6) ∧ ∀ x6 : Int32, x6 = (v_X11_sheetsFor (fI t2 98 (oG (fR t2 120 q)))) → w_X11_requireIndex B a2 x6 t2 (fun t7 => ∀ x8 : Int32, x8 = (if a3 = 0 then 1 else 0) → ∀ x9 : Int32, x9 = ((2 * a2) + x8) → ∀ x10 : Int32, x10 = (if a3 = a4 then (((4 * x6) - 1) - x9) else x9) → Q x10 t7) X) v_sheetsOf kSh kSh_48 kSh_m h (fun t1 Q hQ => ⟨fun _ => hQ, fun z => absurd rfl z⟩) (fun A v hA hv hd B q lo pg S' p1 p2 K Y hidx hgo => by
  have h1 := kSh_48 S A v hA hv
  (try dsimp only)
  rw [(lo_of p1).2, show fI S' 98 pg = nI (kNp A v) from p2.2.2.2.2.1, sh_nI (kX hA hv).2.2.1]
  refine ⟨p1.1, ne_so p1.2.2.1, p1.2.2.2.2.1, fun x6 hx6 => ?_⟩
  rw [hx6]
  refine hidx _ (fun i i1 i2 x8 hx8 x9 hx9 x10 hx10 => hgo i _ i1 i2 (fun t1 Q g1 q1 hQ => ⟨fun z => absurd z one_ne, fun _ y4 hy4 y5 hy5 y6 hy6 y7 hy7 y8 hy8 y9 hy9 => ?_⟩))
  have e : y9 = x10 := by
    rw [hy9, hx10]
    by_cases c : a3 = a4
    · rw [if_pos c, if_pos c, hy6, hy4, hx9, hx8, hy5, kSh_m S A v _ hA hv (dQ_45 q1), i2]
      have e1 : (4 : Int32) * nI (kSh A v) = nI (4 * kSh A v) := pk_mul 4 (kSh A v)
      have e2 : (2 : Int32) * nI i = nI (2 * i) := pk_mul 2 i
      have e3 : (4 : Int32) * nI ((kNp A v + 3) / 4) = nI (4 * kSh A v) := e1
      rw [e1, e2, e3]
      have y1 : nI (4 * kSh A v) - 2 - nI (2 * i) = nI (4 * kSh A v - 2 - 2 * i) := by
        rw [show (2 : Int32) = nI 2 from rfl, pk_sub (a := 4 * kSh A v) (b := 2) (by omega), pk_sub (by omega)]
      have y2 : nI (4 * kSh A v) - 1 - (nI (2 * i) + 1) = nI (4 * kSh A v - 1 - (2 * i + 1)) := by
        rw [nI_1, show (1 : Int32) = nI 1 from rfl, pk_sub (a := 4 * kSh A v) (b := 1) (by omega), pk_sub (by omega)]
      have z0 : nI (2 * i) + 0 = nI (2 * i) := nI_add (2 * i) 0
      by_cases c3 : a3 = 0
      · rw [if_pos c3, if_pos c3, y1, y2]
        exact congrArg nI (by omega)
      · rw [if_neg c3, if_neg c3, z0]
    · rw [if_neg c, if_neg c, hy8, hx9, hx8, hy7]
  rw [e]
  exact hQ)
end Da
