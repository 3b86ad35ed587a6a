/-! CALLS OF ONE TURN; THE PAGE OF A BAR -/
section Db
variable {lb b : Nat × Nat} {o so po : Nat}
def tnR (a1 a2 : Int32) (T : Int32 → MS → (Int32 → MS → Prop) → Prop) (r1 : Int32) (t1 : MS) (Q : Int32 → MS → Prop) : Prop := ∃ J37 : Int32 → MS → Prop, (∀ x2 : Int32, ∀ t3 : MS, J37 x2 t3 → (w_goes (v_isVoice a1) r1 x2 t3 (fun r4 t4 => (gb r4) ∧ T r4 t4 Q))) ∧ ∃ J36 : MS → Prop, (∀ t6 : MS, J36 t6 → (J37 0 t6)) ∧ (((r1 = 0) → J36 t1) ∧ (¬ (r1 = 0) → w_turnsTo 0 1 t1 (fun r7 t7 => (((v_in a2 0 (r7 - 1)) = 0) → J36 t7) ∧ (¬ ((v_in a2 0 (r7 - 1)) = 0) → J37 1 t7))))
theorem tn_R1 {a1 a2 : Int32} {T : Int32 → MS → (Int32 → MS → Prop) → Prop} (hT0 : ∀ (t1 : MS) (Q : Int32 → MS → Prop), Q 0 t1 → T 0 t1 Q) : v_isVoice a1 = 0 → ∀ (t1 : MS) (Q : Int32 → MS → Prop), Q 0 (msI t1 45 1) → tnR a1 a2 T 0 t1 Q := fun hz t1 Q hQ => ⟨fun x u => x = 0 ∧ u = t1, fun x u hx => by rw [hx.2]; exact i_go1 hz ⟨Or.inl rfl, hT0 _ _ hQ⟩, fun u => u = t1, fun u hu => ⟨rfl, hu⟩, fun _ => rfl, fun z => absurd rfl z⟩
theorem tn_R2 {a1 a2 : Int32} {T : Int32 → MS → (Int32 → MS → Prop) → Prop} (hT0 : ∀ (t1 : MS) (Q : Int32 → MS → Prop), Q 0 t1 → T 0 t1 Q) : ¬ v_isVoice a1 = 0 → ∀ (t1 : MS) (Q : Int32 → MS → Prop), Q 0 (msI t1 45 2) → tnR a1 a2 T 0 t1 Q := fun hz t1 Q hQ => ⟨fun x u => x = 0 ∧ u = t1, fun x u hx => by rw [hx.2]; exact i_go2 hz rfl ⟨Or.inl rfl, hT0 _ _ hQ⟩, fun u => u = t1, fun u hu => ⟨rfl, hu⟩, fun _ => rfl, fun z => absurd rfl z⟩
theorem tn_R3 {a1 a2 : Int32} {T : Int32 → MS → (Int32 → MS → Prop) → Prop} (hT0 : ∀ (t1 : MS) (Q : Int32 → MS → Prop), Q 0 t1 → T 0 t1 Q) (hz : ¬ v_isVoice a1 = 0) (S : CS) (A : MS) (v : Nat) (t1 : MS) (Q : Int32 → MS → Prop) (hA : rA S A o so po) (hv : v < 4) (hd : zDr A v) (g1 : Ag A t1) (q1 : dQ A v t1) (ho : v_in a2 0 (nI (kTc A v) - 1) = 0) (hQ : Q 0 (msI t1 45 3)) : tnR a1 a2 T 1 t1 Q := by
  obtain ⟨x1, x2, x3, x4⟩ := kX hA hv
  have hl0 := dL_pos (rA_M hA) (rA_S hA).2.2.2.2 hv hd.1
  refine ⟨fun x u => x = 0 ∧ u = t1, fun x u hx => ?_, fun u => u = t1, fun u hu => ⟨rfl, hu⟩, fun z => absurd z one_ne, fun _ => mm_turnsTo (a := 0) x1 x2 hl0 q1.2.2 (by omega) (fun _ => ⟨fun _ => rfl, fun z => absurd ho z⟩) (fun z => absurd z one_ne)⟩
  rw [hx.1, hx.2]
  exact i_go3 hz one_ne rfl ⟨Or.inl rfl, hT0 _ _ hQ⟩
theorem tn_R0 {a1 a2 : Int32} {T : Int32 → MS → (Int32 → MS → Prop) → Prop} (hz : ¬ v_isVoice a1 = 0) (S : CS) (A : MS) (v : Nat) (t1 : MS) (Q : Int32 → MS → Prop) (hA : rA S A o so po) (hv : v < 4) (hd : zDr A v) (q1 : dQ A v t1) (ho : ¬ v_in a2 0 (nI (kTc A v) - 1) = 0) (hQ : T 1 (msI t1 45 0) Q) : tnR a1 a2 T 1 t1 Q := by
  obtain ⟨x1, x2, x3, x4⟩ := kX hA hv
  have hl0 := dL_pos (rA_M hA) (rA_S hA).2.2.2.2 hv hd.1
  refine ⟨fun x u => x = 1 ∧ u = t1, fun x u hx => ?_, fun _ => False, fun u hu => hu.elim, fun z => absurd z one_ne, fun _ => mm_turnsTo (a := 0) x1 x2 hl0 q1.2.2 (by omega) (fun _ => ⟨fun z => absurd z ho, fun _ => ⟨rfl, rfl⟩⟩) (fun z => absurd z one_ne)⟩
  rw [hx.1, hx.2]
  exact i_go0 hz one_ne one_ne ⟨Or.inr rfl, hQ⟩
/-- what both sides tell of a turn -/
theorem tn_V {a1 a2 : Int32} {T : Int32 → MS → (Int32 → MS → Prop) → Prop} {fc : Nat} {G : MS → Nat → Nat → Nat} (hc : cLN fc = 24) (hrow : ∀ (A : MS) (S' : CS) (q v lo pg k : Nat), PartOK A S' q v lo pg → 1 ≤ k → k < dL A v → fA S' fc pg k = nI (G A v k)) (hT : ∀ (S : CS) (A : MS) (v i : Nat) (t1 : MS) (Q : Int32 → MS → Prop), rA S A o so po → v < 4 → a1 = nI v → zDr A v → dQ A v t1 → i < kTc A v → a2 = nI i → 1 ≤ kTl A v i → kTl A v i < dL A v → Q (nI (G A v (kTl A v i))) t1 → T 1 t1 Q) (S : CS) : ¬ v_isVoice a1 = 0 → ∀ (A : MS) (v : Nat), rA S A o so po → v < 4 → a1 = nI v → zDr A v → ∀ (B : Nat × Nat) (q lo pg : Nat) (S' : CS), PrS S' q v lo pg → PartOK A S' q v lo pg → rA S' A o so po → ∀ (K : Int32 → CS → Prop) (Y : String → CS → Prop), (∀ Qc : CS → Prop, (∀ i, i < kTc A v → a2 = nI i → ¬ v_in a2 0 (nI (kTc A v) - 1) = 0 → Qc S') → w_X11_requireIndex B a2 (nI (kTc A v)) S' Qc Y) → (∀ r : Int32, (∀ (t1 : MS) (Q : Int32 → MS → Prop), Ag A t1 → dQ A v t1 → (∀ t2 : MS, Ag A t2 → v_thrown t2 = 0 → Q r t2) → tnR a1 a2 T 1 t1 Q) → K r S') → (kdC S' q = 7) ∧ ((fR S' 120 q) ≠ none) ∧ (kdC S' (oG (fR S' 120 q)) = 6) ∧ w_X11_requireIndex B a2 (fI S' 100 (oG (fR S' 120 q))) S' (fun t6 => (vp_in a2 (cLN 99)) ∧ (vp_in (fA t6 99 (oG (fR S' 120 q)) (Int32.toNatClampNeg a2)) (cLN fc)) ∧ K (fA t6 fc (oG (fR S' 120 q)) (Int32.toNatClampNeg (fA t6 99 (oG (fR S' 120 q)) (Int32.toNatClampNeg a2)))) t6) Y := by
  intro hz A v hA hv ev hd B q lo pg S' p1 p2 p3 K Y hidx hgo
  obtain ⟨x1, x2, x3, x4⟩ := kX hA hv
  rw [(lo_of p1).2, show fI S' 100 pg = nI (kTc A v) from p2.2.2.2.2.2.1]
  refine ⟨p1.1, ne_so p1.2.2.1, p1.2.2.2.2.1, hidx _ (fun i i1 i2 ho => ?_)⟩
  obtain ⟨l1, l2⟩ := gTl_ok x1 (kNp A v) (Nat.le_refl _) i i1
  have e99 : fA S' 99 pg (Int32.toNatClampNeg a2) = nI (kTl A v i) := by
    rw [i2, nI_clamp (by omega)]
    exact p2.2.2.2.2.2.2.2 i i1
  have l1' : 1 ≤ kTl A v i := l1
  have l2' : kTl A v i < dL A v := l2
  rw [e99, nI_clamp (show kTl A v i < 2147483648 by omega), hc, hrow A S' q v lo pg _ p2 l1' l2']
  refine ⟨by rw [i2]; exact vp_nI (n := 24) (by omega) (by decide), vp_nI (by omega) (by decide), hgo _ (fun t1 Q g1 q1 hQ => tn_R0 hz S A v t1 Q hA hv hd q1 ho (hT S A v i _ _ hA hv ev hd (dQ_45 q1) i1 i2 l1' l2' (hQ _ (Ag_msI g1 (by decide)) (thr_same t1 0))))⟩
theorem tn_to {A t1 : MS} {v i : Nat} {a2 : Int32} {S : CS} (hA : rA S A o so po) (hv : v < 4) (hd : zDr A v) (q1 : dQ A v t1) (i1 : i < kTc A v) (i2 : a2 = nI i) {Q : Int32 → MS → Prop} (hQ : Q (nI (kTl A v i)) t1) : w_turnsTo a2 0 t1 Q := by
  obtain ⟨x1, x2, x3, x4⟩ := kX hA hv
  have hl0 := dL_pos (rA_M hA) (rA_S hA).2.2.2.2 hv hd.1
  rw [i2]
  exact mm_turnsTo (a := i) x1 x2 hl0 q1.2.2 (by omega) (fun z => absurd rfl z) (fun _ => ⟨i1, hQ⟩)
theorem si_turnBar (hb : b.1 + 10000 ≤ lb.1 ∧ b.2 + 42000 ≤ lb.2) : Si_turnBar lb o (Iv b o so po) := fun n S t ov a1 a2 h =>
  have hT0 : ∀ (t1 : MS) (Q : Int32 → MS → Prop), Q 0 t1 → ∃ J23 : Int32 → MS → Prop, (∀ x2 : Int32, ∀ t3 : MS, J23 x2 t3 → (Q x2 t3)) ∧ ((((0 : Int32) = 0) → J23 0 t1) ∧ (¬ ((0 : Int32) = 0) → w_turnsTo a2 0 t1 (fun r4 t4 => (d_barAhead r4 t4) ∧ J23 (v_barAhead r4 t4) t4))) := fun t1 Q hQ => ⟨Q, fun _ _ z => z, fun _ => hQ, fun z => absurd rfl z⟩
  dr_3 hb stg_3 (R := tnR a1 a2 (fun r1 t1 Q => ∃ J23 : Int32 → MS → Prop, (∀ x2 : Int32, ∀ t3 : MS, J23 x2 t3 → (Q x2 t3)) ∧ (((r1 = 0) → J23 0 t1) ∧ (¬ (r1 = 0) → w_turnsTo a2 0 t1 (fun r4 t4 => (d_barAhead r4 t4) ∧ J23 (v_barAhead r4 t4) t4))))) (V := fun B q t2 Q X => (kdC t2 q = 7) ∧ ((fR t2 120 q) ≠ none) ∧ (kdC t2 (oG (fR t2 120 q)) = 6) ∧ w_X11_requireIndex B a2 (fI t2 100 (oG (fR t2 120 q))) t2 (fun t6 => (vp_in a2 (cLN 99)) ∧ (vp_in (fA t6 99 (oG (fR t2 120 q)) (Int32.toNatClampNeg a2)) (cLN 101)) ∧ Q (fA t6 101 (oG (fR t2 120 q)) (Int32.toNatClampNeg (fA t6 99 (oG (fR t2 120 q)) (Int32.toNatClampNeg a2)))) t6) X) kTc kTc_48 h (tn_R1 hT0) (tn_R2 hT0) (tn_R3 hT0) (tn_V (G := fun A v k => dB A v k - 1) (by decide +kernel) (fun A S' q v lo pg k p2 k1 k2 => (p2.2.2.2.1 k k1 k2).1) (fun S A v i t1 Q hA hv ev hd q1 i1 i2 l1 l2 hQ => ⟨Q, fun _ _ z => z, fun z => absurd z one_ne, fun _ => tn_to hA hv hd q1 i1 i2 (by
    obtain ⟨d1, d2⟩ := mm_barAhead (rA_M hA) (rA_S hA).2.2.2.2 hv q1.1 l1 l2
    rw [d2]
    exact ⟨d1, hQ⟩)⟩) S)
theorem si_turnTime (hb : b.1 + 10000 ≤ lb.1 ∧ b.2 + 42000 ≤ lb.2) : Si_turnTime lb o (Iv b o so po) := fun n S t ov a1 a2 h =>
  have hT0 : ∀ (t1 : MS) (Q : Int32 → MS → Prop), Q 0 t1 → ∃ J27 : Int32 → MS → Prop, (∀ x2 : Int32, ∀ t3 : MS, J27 x2 t3 → (Q x2 t3)) ∧ ((((0 : Int32) = 0) → J27 0 t1) ∧ (¬ ((0 : Int32) = 0) → w_turnsTo a2 0 t1 (fun r4 t4 => (d_barAhead r4 t4) ∧ w_timed (v_barAhead r4 t4) t4 (fun r6 t6 => J27 r6 t6)))) := fun t1 Q hQ => ⟨Q, fun _ _ z => z, fun _ => hQ, fun z => absurd rfl z⟩
  dr_3 hb stg_3 (R := tnR a1 a2 (fun r1 t1 Q => ∃ J27 : Int32 → MS → Prop, (∀ x2 : Int32, ∀ t3 : MS, J27 x2 t3 → (Q x2 t3)) ∧ (((r1 = 0) → J27 0 t1) ∧ (¬ (r1 = 0) → w_turnsTo a2 0 t1 (fun r4 t4 => (d_barAhead r4 t4) ∧ w_timed (v_barAhead r4 t4) t4 (fun r6 t6 => J27 r6 t6)))))) (V := fun B q t2 Q X => (kdC t2 q = 7) ∧ ((fR t2 120 q) ≠ none) ∧ (kdC t2 (oG (fR t2 120 q)) = 6) ∧ w_X11_requireIndex B a2 (fI t2 100 (oG (fR t2 120 q))) t2 (fun t6 => (vp_in a2 (cLN 99)) ∧ (vp_in (fA t6 99 (oG (fR t2 120 q)) (Int32.toNatClampNeg a2)) (cLN 102)) ∧ Q (fA t6 102 (oG (fR t2 120 q)) (Int32.toNatClampNeg (fA t6 99 (oG (fR t2 120 q)) (Int32.toNatClampNeg a2)))) t6) X) kTc kTc_48 h (tn_R1 hT0) (tn_R2 hT0) (tn_R3 hT0) (tn_V (G := dT) (by decide +kernel) (fun A S' q v lo pg k p2 k1 k2 => (p2.2.2.2.1 k k1 k2).2.1) (fun S A v i t1 Q hA hv ev hd q1 i1 i2 l1 l2 hQ => ⟨Q, fun _ _ z => z, fun z => absurd z one_ne, fun _ => tn_to hA hv hd q1 i1 i2 (by
    obtain ⟨d1, d2⟩ := mm_barAhead (rA_M hA) (rA_S hA).2.2.2.2 hv q1.1 l1 l2
    rw [d2]
    exact ⟨d1, mm_time (rA_M hA) (rA_S hA).2.2.2.2 (rA_T hA).2.1 hv q1.1 l1 l2 hQ⟩)⟩) S)
theorem si_turnRest (hb : b.1 + 10000 ≤ lb.1 ∧ b.2 + 42000 ≤ lb.2) : Si_turnRest lb o (Iv b o so po) := fun n S t ov a1 a2 h =>
  have hT0 : ∀ (t1 : MS) (Q : Int32 → MS → Prop), Q 0 t1 → ∃ J28 : Int32 → MS → Prop, (∀ x2 : Int32, ∀ t3 : MS, J28 x2 t3 → (Q x2 t3)) ∧ ((((0 : Int32) = 0) → J28 0 t1) ∧ (¬ ((0 : Int32) = 0) → w_turnsTo a2 0 t1 (fun r4 t4 => (d_barAhead r4 t4) ∧ w_restAt a1 (v_barAhead r4 t4) t4 (fun r6 t6 => J28 r6 t6)))) := fun t1 Q hQ => ⟨Q, fun _ _ z => z, fun _ => hQ, fun z => absurd rfl z⟩
  dr_3 hb stg_3 (R := tnR a1 a2 (fun r1 t1 Q => ∃ J28 : Int32 → MS → Prop, (∀ x2 : Int32, ∀ t3 : MS, J28 x2 t3 → (Q x2 t3)) ∧ (((r1 = 0) → J28 0 t1) ∧ (¬ (r1 = 0) → w_turnsTo a2 0 t1 (fun r4 t4 => (d_barAhead r4 t4) ∧ w_restAt a1 (v_barAhead r4 t4) t4 (fun r6 t6 => J28 r6 t6)))))) (V := fun B q t2 Q X => (kdC t2 q = 7) ∧ ((fR t2 120 q) ≠ none) ∧ (kdC t2 (oG (fR t2 120 q)) = 6) ∧ w_X11_requireIndex B a2 (fI t2 100 (oG (fR t2 120 q))) t2 (fun t6 => (vp_in a2 (cLN 99)) ∧ (vp_in (fA t6 99 (oG (fR t2 120 q)) (Int32.toNatClampNeg a2)) (cLN 103)) ∧ Q (fA t6 103 (oG (fR t2 120 q)) (Int32.toNatClampNeg (fA t6 99 (oG (fR t2 120 q)) (Int32.toNatClampNeg a2)))) t6) X) kTc kTc_48 h (tn_R1 hT0) (tn_R2 hT0) (tn_R3 hT0) (tn_V (G := dR) (by decide +kernel) (fun A S' q v lo pg k p2 k1 k2 => (p2.2.2.2.1 k k1 k2).2.2.1) (fun S A v i t1 Q hA hv ev hd q1 i1 i2 l1 l2 hQ => ⟨Q, fun _ _ z => z, fun z => absurd z one_ne, fun _ => tn_to hA hv hd q1 i1 i2 (by
    obtain ⟨d1, d2⟩ := mm_barAhead (rA_M hA) (rA_S hA).2.2.2.2 hv q1.1 l1 l2
    rw [d2, ev]
    exact ⟨d1, mm_rest (rA_M hA) (rA_S hA).2.2.2.2 (rA_T hA).2.1 hv q1.1 l1 l2 hQ⟩)⟩) S)
theorem zN_48 : ∀ (S : CS) (A : MS) (v : Nat), rA S A o so po → v < 4 → zN A ≤ 48 := fun S A v hA _ => Nat.le_trans (rA_M hA).2.1 (by decide)
theorem si_pageOf (hb : b.1 + 10000 ≤ lb.1 ∧ b.2 + 42000 ≤ lb.2) : Si_pageOf lb o (Iv b o so po) := fun n S t ov a1 a2 h =>
  have eb : ∀ {A t1 : MS} {S : CS}, rA S A o so po → Ag A t1 → v_isBar a2 t1 = v_in a2 0 (nI (zN A) - 1) := fun hA g1 => by
    have e0 : mgI _ 0 = nI (zN _) := ((g1.1 0 (by decide)).1).trans (rA_M hA).1
    unfold v_isBar
    rw [e0]
  dr_3 hb stg_3 (R := fun r1 t1 Q => w_goes (v_isVoice a1) r1 (v_isBar a2 t1) t1 (fun r2 t2 => ((r2 = 0) → Q 0 t2) ∧ (¬ (r2 = 0) → ∃ n, lp (w_pageOf_L28 a2 Q t2) n 0))) (V := fun B q t2 Q X => w_X11_requireBar B o a2 t2 (fun t3 => (kdC t3 q = 7) ∧ ((fR t3 120 q) ≠ none) ∧ w_X4_lineWithBar B q a2 t3 (fun r6 t6 => (kdC t6 (oG (fR t3 120 q)) = 6) ∧ w_X3_pageWithLine B (oG (fR t3 120 q)) r6 t6 (fun r8 t8 => Q r8 t8) X) X) X) (fun A _ => zN A) zN_48 h (fun hz t1 Q hQ => i_go1 hz ⟨fun _ => hQ, fun z => absurd rfl z⟩) (fun hz t1 Q hQ => i_go2 hz rfl ⟨fun _ => hQ, fun z => absurd rfl z⟩) (fun hz S A v t1 Q hA hv hd g1 q1 ho hQ => i_go3 hz one_ne ((eb hA g1).trans ho) ⟨fun _ => hQ, fun z => absurd rfl z⟩) (fun hz A v hA hv ev hd B q lo pg S' p1 p2 p3 K Y hidx hgo => by
    obtain ⟨x1, x2, x3, x4⟩ := kX hA hv
    have hn := (rA_M hA).2.1
    have hS := (rA_S hA).2.2.2.2
    have es : oG (fR S' 224 o) = so := by rw [rA_s p3]; rfl
    have en : v_X9_barCount so S' = nI (zN A) := congrArg nI (cc_n (rA_B p3) (rA_M p3))
    (try dsimp only)
    unfold w_X11_requireBar
    rw [es, en]
    refine ⟨rA_k p3, ne_so (rA_s p3), (rA_B p3).1, (rA_B p3).1, hidx _ (fun i i1 i2 ho => ⟨p1.1, ne_so p1.2.2.1, ?_⟩)⟩
    rw [(lo_of p1).2, i2]
    refine cc_lineWithBar (rA_M hA) hS hv hd.1 p1 p2 (b := i) (by omega) (fun k hk => ⟨p1.2.2.2.2.1, cc_pageWithLine x1 x2 p1.2.2.2.2.1 p2.2.2.2.2 hk.1 (fun p hp => hgo _ (fun t1 Q g1 q1 hQ => ?_))⟩)
    have hb1 : ¬ v_isBar a2 t1 = 0 := by rw [eb hA g1]; exact ho
    refine i_go0 hz one_ne hb1 ⟨fun z => absurd z one_ne, fun _ => ?_⟩
    rw [i2]
    refine mm_pageOf (rA_M hA) hS hv hd.1 (dQ_45 q1) (b := i) (by omega) (fun k2 p2' hk2 hp2 => ?_)
    obtain rfl := isLn_1 hk hk2
    obtain rfl := isPg_1 hp hp2
    exact hQ _ (Ag_msI g1 (by decide)) (thr_same t1 0))
end Db
