/-! CALLS OF ITEMS AND LINES -/
section DZ
variable {lb b : Nat × Nat} {o so po : Nat}
theorem dm_24 : ∀ (S : CS) (A : MS) (v : Nat), rA S A o so po → v < 4 → dm A v ≤ 48 := fun S A v hA _ => by
  have := (dm_ok (v := v) (rA_M hA)).1
  omega
theorem dL_24 : ∀ (S : CS) (A : MS) (v : Nat), rA S A o so po → v < 4 → dL A v ≤ 48 := fun S A v hA hv => by
  have h1 := (dm_ok (v := v) (rA_M hA)).1
  have h2 := (dL_ok (rA_M hA) (rA_S hA).2.2.2.2 hv).2.2
  omega
theorem if_T0 {f : Int32} {t1 : MS} {Q : Int32 → MS → Prop} (hQ : Q 0 t1) : ∀ x3 : Int32, x3 = (if (0 : Int32) = 0 then 0 else f) → Q x3 t1 := fun x3 h3 => by
  rw [if_pos rfl] at h3
  rw [h3]
  exact hQ
theorem if_T1 {f r : Int32} {t1 : MS} {Q : Int32 → MS → Prop} (e : f = r) (hQ : Q r t1) : ∀ x3 : Int32, x3 = (if (1 : Int32) = 0 then 0 else f) → Q x3 t1 := fun x3 h3 => by
  rw [if_neg one_ne] at h3
  rw [h3, e]
  exact hQ
theorem it_V {a2 : Int32} {fc fm : Nat} (hc : cLN fc = 24) (hm : m_len fm = 24) (hrow : ∀ (A : MS) (v : Nat) (S' : CS) (q lo pg : Nat) (t1 : MS) (k : Nat), PartOK A S' q v lo pg → iM A v t1 (zIt A v (zN A)) → k < dm A v → fA S' fc q k = t1.2 fm k) (S : CS) : ∀ (A : MS) (v : Nat), rA S A o so po → v < 4 → zDr A v → ∀ (B : Nat × Nat) (q lo pg : Nat) (S' : CS), PrS S' q v lo pg → PartOK A S' q v lo pg → ∀ (K : Int32 → CS → Prop) (Y : String → CS → Prop), (∀ Qc : CS → Prop, (∀ i, i < dm A v → a2 = nI i → Qc S') → w_X11_requireIndex B a2 (nI (dm A v)) S' Qc Y) → (∀ (i : Nat) (r : Int32), i < dm A v → a2 = nI i → (∀ (t1 : MS) (Q : Int32 → MS → Prop), Ag A t1 → iM A v t1 (zIt A v (zN A)) → Q r (msI t1 45 0) → (gb (1 : Int32)) ∧ ((¬ ((1 : Int32) = 0)) → mIn fm a2) ∧ ∀ x2 : Int32, x2 = (if (1 : Int32) = 0 then 0 else (mgA (msI t1 45 0) fm a2)) → Q x2 (msI t1 45 0)) → K r S') → (kdC S' q = 7) ∧ w_X11_requireIndex B a2 (fI S' 118 q) S' (fun t4 => (vp_in a2 (cLN fc)) ∧ K (fA t4 fc q (Int32.toNatClampNeg a2)) t4) Y := by
  intro A v hA hv hd B q lo pg S' p1 p2 K Y hidx hgo
  have hmm := (dm_ok (v := v) (rA_M hA)).1
  have e : fI S' 118 q = nI (dm A v) := p2.1.1
  rw [e]
  refine ⟨p1.1, hidx _ (fun i i1 i2 => ⟨?_, hgo i _ i1 i2 (fun t1 Q g1 q1 hQ => ⟨Or.inr rfl, fun _ => ?_, if_T1 ?_ hQ⟩)⟩)⟩
  · rw [i2, hc]
    exact vp_nI (by omega) (by decide)
  · unfold mIn
    rw [i2, hm]
    exact vp_nI (by omega) (by decide)
  · show t1.2 fm (Int32.toNatClampNeg a2) = _
    rw [i2, nI_clamp (by omega)]
    exact (hrow A v S' q lo pg t1 i p2 q1 i1).symm
theorem it_N : ∀ (S : CS) (A : MS) (v : Nat) (t1 : MS), rA S A o so po → v < 4 → iM A v t1 (zIt A v (zN A)) → mgI t1 32 = nI (dm A v) := fun _ _ _ _ _ _ h => h.1
theorem si_items (hb : b.1 + 10000 ≤ lb.1 ∧ b.2 + 42000 ≤ lb.2) : Si_items lb o (Iv b o so po) := fun n S t ov a1 h => dr_1 hb stg_1 (T := fun r2 t2 Q => ∀ x3 : Int32, x3 = (if r2 = 0 then 0 else (mgI t2 32)) → Q x3 t2) (V := fun B q t2 Q X => (kdC t2 q = 7) ∧ Q (fI t2 118 q) t2) h (fun t1 Q hQ => if_T0 hQ) (fun A v hA hv hd B q lo pg S' p1 p2 K Y hgo => ⟨p1.1, hgo _ (fun t1 Q g1 q1 hQ => if_T1 (((mI_ne (by decide)).trans q1.1).trans p2.1.1.symm) hQ)⟩)
theorem si_itemKind (hb : b.1 + 10000 ≤ lb.1 ∧ b.2 + 42000 ≤ lb.2) : Si_itemKind lb o (Iv b o so po) := fun n S t ov a1 a2 h => dr_3s hb stg_1 (T := fun r3 t3 Q => (gb r3) ∧ ((¬ (r3 = 0)) → mIn 33 a2) ∧ ∀ x2 : Int32, x2 = (if r3 = 0 then 0 else (mgA t3 33 a2)) → Q x2 t3) (V := fun B q t2 Q X => (kdC t2 q = 7) ∧ w_X11_requireIndex B a2 (fI t2 118 q) t2 (fun t4 => (vp_in a2 (cLN 113)) ∧ Q (fA t4 113 q (Int32.toNatClampNeg a2)) t4) X) (fun t1 => mgI t1 32) dm dm_24 it_N h (fun t1 Q hQ => ⟨Or.inl rfl, fun z => absurd rfl z, if_T0 hQ⟩) (it_V (by decide +kernel) (by decide +kernel) (fun A v S' q lo pg t1 k p2 q1 hk => (p2.1.2 k hk).1.trans (q1.2 k hk).1.symm) S)
theorem si_itemBar (hb : b.1 + 10000 ≤ lb.1 ∧ b.2 + 42000 ≤ lb.2) : Si_itemBar lb o (Iv b o so po) := fun n S t ov a1 a2 h => dr_3s hb stg_1 (T := fun r3 t3 Q => (gb r3) ∧ ((¬ (r3 = 0)) → mIn 34 a2) ∧ ∀ x2 : Int32, x2 = (if r3 = 0 then 0 else (mgA t3 34 a2)) → Q x2 t3) (V := fun B q t2 Q X => (kdC t2 q = 7) ∧ w_X11_requireIndex B a2 (fI t2 118 q) t2 (fun t4 => (vp_in a2 (cLN 114)) ∧ Q (fA t4 114 q (Int32.toNatClampNeg a2)) t4) X) (fun t1 => mgI t1 32) dm dm_24 it_N h (fun t1 Q hQ => ⟨Or.inl rfl, fun z => absurd rfl z, if_T0 hQ⟩) (it_V (by decide +kernel) (by decide +kernel) (fun A v S' q lo pg t1 k p2 q1 hk => (p2.1.2 k hk).2.1.trans (q1.2 k hk).2.1.symm) S)
theorem si_itemBars (hb : b.1 + 10000 ≤ lb.1 ∧ b.2 + 42000 ≤ lb.2) : Si_itemBars lb o (Iv b o so po) := fun n S t ov a1 a2 h => dr_3s hb stg_1 (T := fun r3 t3 Q => (gb r3) ∧ ((¬ (r3 = 0)) → mIn 35 a2) ∧ ∀ x2 : Int32, x2 = (if r3 = 0 then 0 else (mgA t3 35 a2)) → Q x2 t3) (V := fun B q t2 Q X => (kdC t2 q = 7) ∧ w_X11_requireIndex B a2 (fI t2 118 q) t2 (fun t4 => (vp_in a2 (cLN 115)) ∧ Q (fA t4 115 q (Int32.toNatClampNeg a2)) t4) X) (fun t1 => mgI t1 32) dm dm_24 it_N h (fun t1 Q hQ => ⟨Or.inl rfl, fun z => absurd rfl z, if_T0 hQ⟩) (it_V (by decide +kernel) (by decide +kernel) (fun A v S' q lo pg t1 k p2 q1 hk => (p2.1.2 k hk).2.2.1.trans (q1.2 k hk).2.2.1.symm) S)
theorem si_cue (hb : b.1 + 10000 ≤ lb.1 ∧ b.2 + 42000 ≤ lb.2) : Si_cue lb o (Iv b o so po) := fun n S t ov a1 a2 h => dr_3s hb stg_1 (T := fun r3 t3 Q => (gb r3) ∧ ((¬ (r3 = 0)) → mIn 36 a2) ∧ ∀ x2 : Int32, x2 = (if r3 = 0 then 0 else (mgA t3 36 a2)) → Q x2 t3) (V := fun B q t2 Q X => (kdC t2 q = 7) ∧ w_X11_requireIndex B a2 (fI t2 118 q) t2 (fun t4 => (vp_in a2 (cLN 116)) ∧ Q (fA t4 116 q (Int32.toNatClampNeg a2)) t4) X) (fun t1 => mgI t1 32) dm dm_24 it_N h (fun t1 Q hQ => ⟨Or.inl rfl, fun z => absurd rfl z, if_T0 hQ⟩) (it_V (by decide +kernel) (by decide +kernel) (fun A v S' q lo pg t1 k p2 q1 hk => (p2.1.2 k hk).2.2.2.trans (q1.2 k hk).2.2.2.1.symm) S)
theorem si_itemWidth (hb : b.1 + 10000 ≤ lb.1 ∧ b.2 + 42000 ≤ lb.2) : Si_itemWidth lb o (Iv b o so po) := fun n S t ov a1 a2 h => dr_3s hb stg_1 (T := fun r3 t3 Q => (gb r3) ∧ ((¬ (r3 = 0)) → mIn 37 a2) ∧ ∀ x2 : Int32, x2 = (if r3 = 0 then 0 else (mgA t3 37 a2)) → Q x2 t3) (V := fun B q t2 Q X => (kdC t2 q = 7) ∧ w_X11_requireIndex B a2 (fI t2 118 q) t2 (fun t4 => (vp_in a2 (cLN 117)) ∧ Q (fA t4 117 q (Int32.toNatClampNeg a2)) t4) X) (fun t1 => mgI t1 32) dm dm_24 it_N h (fun t1 Q hQ => ⟨Or.inl rfl, fun z => absurd rfl z, if_T0 hQ⟩) (it_V (by decide +kernel) (by decide +kernel) (fun A v S' q lo pg t1 k p2 q1 hk => (p2.2.1 k hk).trans (q1.2 k hk).2.2.2.2.symm) S)
theorem lo_of {S' : CS} {q v lo pg : Nat} (p : PrS S' q v lo pg) : oG (fR S' 119 q) = lo ∧ oG (fR S' 120 q) = pg := ⟨by rw [p.2.1]; rfl, by rw [p.2.2.1]; rfl⟩
theorem si_lines (hb : b.1 + 10000 ≤ lb.1 ∧ b.2 + 42000 ≤ lb.2) : Si_lines lb o (Iv b o so po) := fun n S t ov a1 h => dr_1 hb stg_2 (T := fun r2 t2 Q => ∀ x3 : Int32, x3 = (if r2 = 0 then 0 else (mgI t2 38)) → Q x3 t2) (V := fun B q t2 Q X => (kdC t2 q = 7) ∧ ((fR t2 119 q) ≠ none) ∧ (kdC t2 (oG (fR t2 119 q)) = 4) ∧ Q (fI t2 65 (oG (fR t2 119 q))) t2) h (fun t1 Q hQ => if_T0 hQ) (fun A v hA hv hd B q lo pg S' p1 p2 K Y hgo => by
  (try dsimp only)
  rw [(lo_of p1).1]
  exact ⟨p1.1, ne_so p1.2.1, p1.2.2.2.1, hgo _ (fun t1 Q g1 q1 hQ => if_T1 (((mI_ne (by decide)).trans q1.2.1).trans p2.2.2.1.1.symm) hQ)⟩)
theorem si_badness (hb : b.1 + 10000 ≤ lb.1 ∧ b.2 + 42000 ≤ lb.2) : Si_badness lb o (Iv b o so po) := fun n S t ov a1 h => dr_1 hb stg_2 (T := fun r2 t2 Q => ((¬ (r2 = 0)) → mIn 40 0) ∧ ∀ x3 : Int32, x3 = (if r2 = 0 then 0 else (mgA t2 40 0)) → Q x3 t2) (V := fun B q t2 Q X => (kdC t2 q = 7) ∧ ((fR t2 119 q) ≠ none) ∧ (kdC t2 (oG (fR t2 119 q)) = 4) ∧ (vp_in 0 (cLN 66)) ∧ Q (fA t2 66 (oG (fR t2 119 q)) (Int32.toNatClampNeg 0)) t2) h (fun t1 Q hQ => ⟨fun z => absurd rfl z, if_T0 hQ⟩) (fun A v hA hv hd B q lo pg S' p1 p2 K Y hgo => by
  (try dsimp only)
  rw [(lo_of p1).1]
  exact ⟨p1.1, ne_so p1.2.1, p1.2.2.2.1, vp_nI (n := 25) (k := 0) (by decide) (by decide), hgo _ (fun t1 Q g1 q1 hQ => ⟨fun _ => vp_nI (n := 25) (k := 0) (by decide) (by decide), if_T1 (show t1.2 40 0 = fA S' 66 lo 0 from q1.2.2.2.trans p2.2.2.1.2.2.symm) hQ⟩)⟩)
theorem si_firstItem (hb : b.1 + 10000 ≤ lb.1 ∧ b.2 + 42000 ≤ lb.2) : Si_firstItem lb o (Iv b o so po) := fun n S t ov a1 a2 h => dr_3s hb stg_2 (T := fun r3 t3 Q => ((¬ (r3 = 0)) → mIn 39 a2) ∧ ∀ x4 : Int32, x4 = (if r3 = 0 then 0 else (mgA t3 39 a2)) → Q x4 t3) (V := fun B q t2 Q X => (kdC t2 q = 7) ∧ ((fR t2 119 q) ≠ none) ∧ (kdC t2 (oG (fR t2 119 q)) = 4) ∧ w_X11_requireIndex B a2 (fI t2 65 (oG (fR t2 119 q))) t2 (fun t6 => (vp_in a2 (cLN 64)) ∧ Q (fA t6 64 (oG (fR t2 119 q)) (Int32.toNatClampNeg a2)) t6) X) (fun t1 => mgI t1 38) dL dL_24 (fun _ _ _ _ _ _ q1 => q1.2.1) h (fun t1 Q hQ => ⟨fun z => absurd rfl z, if_T0 hQ⟩) (fun A v hA hv hd B q lo pg S' p1 p2 K Y hidx hgo => by
  have h1 := (dm_ok (v := v) (rA_M hA)).1
  have h2 := (dL_ok (rA_M hA) (rA_S hA).2.2.2.2 hv).2.2
  (try dsimp only)
  rw [(lo_of p1).1, show fI S' 65 lo = nI (dL A v) from p2.2.2.1.1]
  refine ⟨p1.1, ne_so p1.2.1, p1.2.2.2.1, hidx _ (fun i i1 i2 => ⟨by rw [i2]; exact vp_nI (n := 24) (by omega) (by decide), hgo i _ i1 i2 (fun t1 Q g1 q1 hQ => ⟨fun _ => by rw [i2]; exact vp_nI (n := 25) (by omega) (by decide), if_T1 ?_ hQ⟩)⟩)⟩
  show t1.2 39 (Int32.toNatClampNeg a2) = fA S' 64 lo (Int32.toNatClampNeg a2)
  rw [i2, nI_clamp (by omega)]
  exact (q1.2.2.1 i (Nat.le_of_lt i1)).trans (p2.2.2.1.2.1 i i1).symm)
end DZ
