/-! AN OBJECT GETS ITS OWN ARRAYS AND LISTS, one behind the other -/
def attV (v ci : Nat) : Nat := if v / 100 = cNE ci then ci else v + 100
def attS (S : CS) (f o v' sl : Nat) : CS := mkC (va_up (kdC S) o v') (fI S) (up2 (fA S) f o (fun _ => 0)) (if cFT f = 2 then va_up (fJ S) o (fun _ => 0) else fJ S) (fR S) (up2 (fQ S) f o (fun _ => none)) (up2 (fL S) f o []) (up2 (fC S) f o 0) (szC S + 1) (nsC S + sl)
def attG (S : CS) (G : CG) (f o : Nat) : CG := (va_up G.1 (szC S) (f, o), up2 G.2.1 f o none, up2 G.2.2 f o 0)
theorem rgA {n : Nat} {p : Nat → Bool} (h : (List.range n).all p = true) {i : Nat} (hi : i < n) : p i = true := List.all_eq_true.mp h i (List.mem_range.mpr hi)
theorem cNF_le {ci : Nat} (h : ci < 15) : cNF ci ≤ 11 := (by decide : ∀ n, n < 15 → cNF n ≤ 11) ci h
theorem cEI_lt {ci k : Nat} (h3 : 3 ≤ ci) (h15 : ci < 15) (hk : k < cNF ci) (he : cEmb (cFT (16 * ci + k)) = true) : cEI (16 * ci + k) < cNE ci := by
  have hb := cNF_le h15
  exact (by decide : ∀ n, n < 15 → 3 ≤ n → ∀ j, j < 11 → j < cNF n → cEmb (cFT (16 * n + j)) = true → cEI (16 * n + j) < cNE n) ci h15 h3 k (by omega) hk he
theorem cEI_inj {ci k k2 : Nat} (h3 : 3 ≤ ci) (h15 : ci < 15) (hk : k < cNF ci) (hk2 : k2 < cNF ci) (he : cEmb (cFT (16 * ci + k)) = true) (he2 : cEmb (cFT (16 * ci + k2)) = true) (h : cEI (16 * ci + k) = cEI (16 * ci + k2)) : k = k2 := by
  have hb := cNF_le h15
  have key : ((List.range 15).all fun n => (List.range 11).all fun j => (List.range 11).all fun i => decide (n < 3) || decide (cNF n ≤ j) || decide (cNF n ≤ i) || !cEmb (cFT (16 * n + j)) || !cEmb (cFT (16 * n + i)) || !decide (cEI (16 * n + j) = cEI (16 * n + i)) || decide (j = i)) = true := by decide +kernel
  have h9 := rgA (rgA (rgA key h15) (show k < 11 by omega)) (show k2 < 11 by omega)
  simp only [he, he2, h, Bool.or_eq_true, decide_eq_true_eq, Bool.not_true, decide_true, Bool.false_eq_true, or_false] at h9
  omega
theorem cAtt_iff {v g : Nat} (hv : 100 ≤ v) : cAtt v g = true ↔ cEI g < v / 100 - 1 := by
  unfold cAtt
  rw [decide_eq_false (by omega : ¬ v < 100)]
  simp
theorem cAtt_full {v g : Nat} (hv : v < 100) : cAtt v g = true := by
  unfold cAtt
  rw [decide_eq_true hv]
  rfl
theorem attV_mod {v ci : Nat} (hm : v % 100 = ci) (h15 : ci < 15) : attV v ci % 100 = ci ∧ (3 ≤ ci → attV v ci ≠ 0) := by
  unfold attV
  split <;> constructor <;> omega
theorem cAtt_same {v ci k k0 : Nat} (h3 : 3 ≤ ci) (h15 : ci < 15) (hv : 100 ≤ v) (hk : k < cNF ci) (hk0 : k0 < cNF ci) (he : cEmb (cFT (16 * ci + k)) = true) (he0 : cEmb (cFT (16 * ci + k0)) = true) (hE : cEI (16 * ci + k0) = v / 100 - 1) (hne : k ≠ k0) : cAtt (attV v ci) (16 * ci + k) = cAtt v (16 * ci + k) := by
  have h1 : cEI (16 * ci + k) ≠ v / 100 - 1 := fun h => hne (cEI_inj h3 h15 hk hk0 he he0 (by rw [h, hE]))
  have h2 := cEI_lt h3 h15 hk he
  have h0 := cEI_lt h3 h15 hk0 he0
  rw [Bool.eq_iff_iff]
  unfold attV
  by_cases hf : v / 100 = cNE ci
  · rw [if_pos hf]
    rw [cAtt_iff hv]
    constructor
    · intro _
      omega
    · intro _
      exact cAtt_full (by omega)
  · rw [if_neg hf, cAtt_iff hv, cAtt_iff (by omega)]
    omega
theorem cAtt_here {v ci k0 : Nat} (h15 : ci < 15) (hv : 100 ≤ v) (hE : cEI (16 * ci + k0) = v / 100 - 1) : cAtt (attV v ci) (16 * ci + k0) = true := by
  unfold attV
  by_cases hf : v / 100 = cNE ci
  · rw [if_pos hf]
    exact cAtt_full (by omega)
  · rw [if_neg hf, cAtt_iff (by omega)]
    omega
theorem cAtt_not {v g : Nat} (hv : 100 ≤ v) (hE : cEI g = v / 100 - 1) : cAtt v g = false := by
  cases h : cAtt v g with
  | false => rfl
  | true => rw [cAtt_iff hv] at h; omega
theorem cAtt_mono {v ci g : Nat} (hci : ci < 100) (hv : 100 ≤ v) (h : cAtt v g = true) : cAtt (attV v ci) g = true := by
  rw [cAtt_iff hv] at h
  unfold attV
  by_cases hf : v / 100 = cNE ci
  · rw [if_pos hf]
    exact cAtt_full (by omega)
  · rw [if_neg hf, cAtt_iff (by omega)]
    omega
theorem attS_fv {S : CS} {o v ci k0 sl : Nat} (h3 : 3 ≤ ci) (h15 : ci < 15) (hv : kdC S o = v) (hv2 : 100 ≤ v) (hk0 : k0 < cNF ci) (he0 : cEmb (cFT (16 * ci + k0)) = true) (hE : cEI (16 * ci + k0) = v / 100 - 1) : c_fs (attS S (16 * ci + k0) o (attV v ci) sl) ci o = (c_fs S ci o).set k0 (.ref (o + cOF (16 * ci + k0))) := by
  have e0 : cFT (16 * ci + k0) ≠ 0 := fun h => by rw [h] at he0; cases he0
  have e3 : cFT (16 * ci + k0) ≠ 3 := fun h => by rw [h] at he0; cases he0
  have hkd : kdC (attS S (16 * ci + k0) o (attV v ci) sl) o = attV v ci := va_up_self _ _ _
  apply List.ext_getElem?
  intro j
  rw [List.getElem?_set]
  by_cases hj : k0 = j
  · subst hj
    rw [if_pos rfl, c_flen, if_pos hk0, c_fget hk0]
    unfold c_fv
    rw [if_neg e0, if_neg e3, hkd, cAtt_here h15 hv2 hE, if_pos rfl]
  · rw [if_neg hj]
    by_cases hj2 : j < cNF ci
    · rw [c_fget hj2, c_fget hj2]
      congr 1
      unfold c_fv
      show (if cFT (16 * ci + j) = 0 then Value.int (fI S (16 * ci + j) o) else if cFT (16 * ci + j) = 3 then va_rf (fR S (16 * ci + j) o) else _) = _
      by_cases h0 : cFT (16 * ci + j) = 0
      · rw [if_pos h0, if_pos h0]
      · rw [if_neg h0, if_neg h0]
        by_cases h4 : cFT (16 * ci + j) = 3
        · rw [if_pos h4, if_pos h4]
        · rw [if_neg h4, if_neg h4, hkd, hv]
          have hem : cEmb (cFT (16 * ci + j)) = true := by
            have hb := cNF_le h15
            rcases (by decide : ∀ n, n < 15 → 3 ≤ n → ∀ j, j < 11 → j < cNF n → (cFT (16 * n + j) = 0 ∨ cFT (16 * n + j) = 3 ∨ cEmb (cFT (16 * n + j)) = true)) ci h15 h3 j (by omega) hj2 with q | q | q
            · exact absurd q h0
            · exact absurd q h4
            · exact q
          rw [cAtt_same h3 h15 hv2 hj2 hk0 hem he0 hE (Ne.symm hj)]
    · rw [List.getElem?_eq_none (by rw [c_flen]; omega), List.getElem?_eq_none (by rw [c_flen]; omega)]
theorem cFT2 {r : Nat} (h : cFT r = 2) : r = 105 := by
  by_cases hr : r < 240
  · have key : ((List.range 240).all fun n => !decide (cFT n = 2) || decide (n = 105)) = true := by decide +kernel
    have h9 := rgA key hr
    simp only [h, Bool.or_eq_true, decide_eq_true_eq, Bool.not_true, decide_true, Bool.false_eq_true, false_or] at h9
    exact h9
  · have hl : cFTl.length = 240 := by decide +kernel
    have h9 : cFT r = 9 := by
      unfold cFT
      rw [List.getD_eq_getElem?_getD, List.getElem?_eq_none (by omega)]
      rfl
    omega
theorem RepC.attach {D : va_G} {K : Nat → ClassId} {E0 : Nat} {S : CS} {G : CG} {H H1 H2 : Heap} {ci k0 o v sl : Nat} {cell c0 c1 : Cell} (hP : RepC D K E0 S G H) (h3 : 3 ≤ ci) (h15 : ci < 15) (hv : kdC S o = v) (hv2 : 100 ≤ v) (hm : v % 100 = ci) (hk0 : k0 < cNF ci) (he0 : cEmb (cFT (16 * ci + k0)) = true) (hE : cEI (16 * ci + k0) = v / 100 - 1) (hoff : o + cOF (16 * ci + k0) = szC S)
    (hz : H1.size = H.size + 1) (hc : H1[H.size]? = some cell) (hq : ∀ q, q < H.size → H1[q]? = H[q]?) (hs : cell.slots.size = sl)
    (e0 : H1[o]? = some c0) (e1 : H2[o]? = some c1) (hsl1 : c1.slots.size = c0.slots.size) (e2 : H2.size = H1.size) (e3 : ∀ q, q ≠ o → H2[q]? = H1[q]?)
    (hnew : va_at D vwCl (H.size, c_ce K E0 (attS S (16 * ci + k0) o (attV v ci) sl) (attG S G (16 * ci + k0) o) (16 * ci + k0) o) H2)
    (hobj : va_at D vwCl (o, .inr (ci, (c_fs S ci o).set k0 (.ref (o + cOF (16 * ci + k0))))) H2) : RepC D K E0 (attS S (16 * ci + k0) o (attV v ci) sl) (attG S G (16 * ci + k0) o) H2 := by
  have y1 : H.size = szC S := hP.2.2.1
  generalize hf : 16 * ci + k0 = f at hE hoff hnew hobj he0 ⊢
  have hb := cNF_le h15
  have hf240 : f < 240 ∧ 48 ≤ f := by omega
  have hkd : ∀ o', o' ≠ o → kdC (attS S f o (attV v ci) sl) o' = kdC S o' := fun o' h => va_up_ne _ _ h
  have hkd0 : kdC (attS S f o (attV v ci) sl) o = attV v ci := va_up_self _ _ _
  have hmod := attV_mod hm h15
  have hGo : G.1 o = (ci, o) := by
    have h9 := (hP.2.1 o (by omega)).1
    rw [hv, hm] at h9
    exact h9
  have hfs : ∀ c2 o', o' ≠ o → c_fs (attS S f o (attV v ci) sl) c2 o' = c_fs S c2 o' := by
    intro c2 o' h
    refine List.map_congr_left (fun k2 _ => ?_)
    unfold c_fv
    rw [hkd o' h]
    rfl
  have hatt0 : cAtt (kdC S o) f = false := by
    rw [hv]
    exact cAtt_not hv2 hE
  have hce : ∀ r o', r ≠ 0 → (r, o') ≠ (ci, o) → c_rok (kdC S) r o' → (16 ≤ r ∨ o' ≠ o) → c_ce K E0 (attS S f o (attV v ci) sl) (attG S G f o) r o' = c_ce K E0 S G r o' := by
    intro r o' hr hne hrok hor
    unfold c_ce
    by_cases h16 : r < 16
    · rw [if_pos h16, if_pos h16, hfs r o' (by omega)]
    · rw [if_neg h16, if_neg h16]
      have h9 := hrok.2 (by omega)
      by_cases hth : 1000 ≤ r
      · rw [if_pos hth, if_pos hth]
        rw [if_pos hth] at h9
        generalize r - 1000 = r1 at h9 ⊢
        have hn : ¬ (r1 = f ∧ o' = o) := fun h => by rw [h.1, h.2, hatt0] at h9; cases h9
        have hL : fL (attS S f o (attV v ci) sl) r1 o' = fL S r1 o' := up2_ne _ _ hn
        have hC : fC (attS S f o (attV v ci) sl) r1 o' = fC S r1 o' := up2_ne _ _ hn
        rw [hL, hC]
      · rw [if_neg hth, if_neg hth]
        rw [if_neg hth] at h9
        have hn : ¬ (r = f ∧ o' = o) := fun h => by rw [h.1, h.2, hatt0] at h9; cases h9
        have hL : fL (attS S f o (attV v ci) sl) r o' = fL S r o' := up2_ne _ _ hn
        have hA : fA (attS S f o (attV v ci) sl) r o' = fA S r o' := up2_ne _ _ hn
        have hQ : fQ (attS S f o (attV v ci) sl) r o' = fQ S r o' := up2_ne _ _ hn
        have hG1 : (attG S G f o).2.1 r o' = G.2.1 r o' := up2_ne _ _ hn
        have hG2 : (attG S G f o).2.2 r o' = G.2.2 r o' := up2_ne _ _ hn
        rw [hL, hA, hQ, hG1, hG2]
        by_cases hJ : cFT r = 2
        · have hJ2 : fJ (attS S f o (attV v ci) sl) o' = fJ S o' := by
            show (if cFT f = 2 then va_up (fJ S) o (fun _ => 0) else fJ S) o' = fJ S o'
            by_cases hf2 : cFT f = 2
            · rw [if_pos hf2]
              exact va_up_ne _ _ (fun h => hn ⟨by rw [cFT2 hJ, cFT2 hf2], h⟩)
            · rw [if_neg hf2]
          rw [hJ2]
        · rw [if_neg hJ, if_neg hJ]
  have hGne : ∀ a, a ≠ szC S → (attG S G f o).1 a = G.1 a := fun a h => va_up_ne _ _ h
  have hGs : (attG S G f o).1 (szC S) = (f, o) := va_up_self _ _ _
  have ho_lt : o < szC S := hP.kd_lt (by omega)
  refine ⟨fun a r o' h1 h2 => ?_, fun o' h1 => ?_, by rw [e2, hz, y1]; rfl, by rw [hsl_set e2 e0 e1 hsl1 e3, hsl_push hz hc hq, hs, hP.2.2.2]; rfl⟩
  · by_cases ha : a = szC S
    · subst ha
      rw [hGs] at h1
      cases h1
      refine ⟨by rw [← y1]; exact hnew, ?_, ?_, ?_⟩
      · unfold c_adr
        rw [if_neg (by omega), if_neg (by omega)]
        exact hoff
      · rw [hkd0]
        exact hmod.2 h3
      · intro _
        rw [if_neg (by omega), hkd0, ← hf]
        exact cAtt_here h15 hv2 (by rw [hf]; exact hE)
    · rw [hGne a ha] at h1
      obtain ⟨g1, g2, g3⟩ := hP.1 a r o' h1 h2
      have halt : a < szC S := by rw [← y1]; exact g1.lt
      have hrok : c_rok (kdC (attS S f o (attV v ci) sl)) r o' := by
        by_cases ho : o' = o
        · subst ho
          refine ⟨by rw [hkd0]; exact hmod.2 h3, fun h16 => ?_⟩
          rw [hkd0]
          have h9 := g3.2 h16
          rw [hv] at h9
          exact cAtt_mono (by omega) hv2 h9
        · unfold c_rok
          rw [hkd o' ho]
          exact g3
      refine ⟨?_, ?_, hrok⟩
      · by_cases hao : a = o
        · subst hao
          rw [hGo] at h1
          cases h1
          unfold c_ce
          rw [if_pos (by omega), ← hf, attS_fv h3 h15 hv hv2 hk0 (by rw [hf]; exact he0) (by rw [hf]; exact hE), hf]
          exact hobj
        · have hne : (r, o') ≠ (ci, o) := fun h => by
            cases h
            apply hao
            rw [← g2]
            unfold c_adr
            rw [if_pos (by omega)]
          have hor : 16 ≤ r ∨ o' ≠ o := by
            by_cases h16 : 16 ≤ r
            · exact Or.inl h16
            · refine Or.inr (fun h => hao ?_)
              rw [← g2, ← h]
              unfold c_adr
              rw [if_pos (by omega)]
          rw [hce r o' h2 hne g3 hor]
          exact va_at.kept g1 ((e3 a hao).trans (hq a g1.lt))
      · rw [← g2]
        unfold c_adr
        by_cases h16 : r < 16
        · rw [if_pos h16, if_pos h16]
        · rw [if_neg h16, if_neg h16]
          by_cases hth : 1000 ≤ r
          · rw [if_pos hth, if_pos hth]
            have h9 := g3.2 (by omega)
            rw [if_pos hth] at h9
            generalize r - 1000 = r1 at h9 ⊢
            have hn : ¬ (r1 = f ∧ o' = o) := fun h => by rw [h.1, h.2, hatt0] at h9; cases h9
            rw [show (attG S G f o).2.1 r1 o' = G.2.1 r1 o' from up2_ne _ _ hn]
          · rw [if_neg hth, if_neg hth]
  · by_cases ho : o' = o
    · subst ho
      rw [hkd0] at h1 ⊢
      rw [hmod.1]
      refine ⟨by rw [hGne o' (Nat.ne_of_lt ho_lt), hGo], h3, h15, fun k hk he hat2 => ?_⟩
      by_cases hkk : k = k0
      · subst hkk
        rw [hf]
        refine ⟨by rw [hoff]; exact hGs, fun h5 => ?_⟩
        have hd : (attG S G f o').2.1 f o' = none := up2_same _ _ _ _
        unfold c_lok
        rw [hd]
        exact ⟨up2_same _ _ _ _, up2_same _ _ _ _⟩
      · have hat3 : cAtt (kdC S o') (16 * ci + k) = true := by
          rw [hv, ← cAtt_same h3 h15 hv2 hk hk0 he (by rw [hf]; exact he0) (by rw [hf]; exact hE) hkk]
          exact hat2
        have g4 := (hP.2.1 o' (by omega)).2.2.2 k (by rw [hv, hm]; exact hk) (by rw [hv, hm]; exact he) (by rw [hv, hm, ← hv]; exact hat3)
        rw [hv, hm] at g4
        obtain ⟨q1, q2⟩ := g4
        have hlt : o' + cOF (16 * ci + k) < szC S := hP.lt (by rw [q1]; show 16 * ci + k ≠ 0; omega)
        refine ⟨by rw [← q1]; exact hGne _ (Nat.ne_of_lt hlt), fun h5 => ?_⟩
        have q3 := q2 h5
        have hn : ¬ (16 * ci + k = f ∧ o' = o') := fun h => hkk (by omega)
        have hL : fL (attS S f o' (attV v ci) sl) (16 * ci + k) o' = fL S (16 * ci + k) o' := up2_ne _ _ hn
        have hC : fC (attS S f o' (attV v ci) sl) (16 * ci + k) o' = fC S (16 * ci + k) o' := up2_ne _ _ hn
        have hG1 : (attG S G f o').2.1 (16 * ci + k) o' = G.2.1 (16 * ci + k) o' := up2_ne _ _ hn
        unfold c_lok at q3 ⊢
        rw [hL, hC, hG1]
        cases hd : G.2.1 (16 * ci + k) o' with
        | none => rw [hd] at q3; exact q3
        | some q =>
          rw [hd] at q3
          have hlt2 : q < szC S := hP.lt (by rw [q3.1]; show 1000 + _ ≠ 0; omega)
          exact ⟨by rw [hGne q (Nat.ne_of_lt hlt2)]; exact q3.1, q3.2⟩
    · rw [hkd o' ho] at h1 ⊢
      obtain ⟨g1, g2, g3, g4⟩ := hP.2.1 o' h1
      have ho2 := hP.kd_lt h1
      refine ⟨by rw [hGne o' (Nat.ne_of_lt ho2)]; exact g1, g2, g3, fun k hk he hat2 => ?_⟩
      obtain ⟨q1, q2⟩ := g4 k hk he hat2
      have hlt : o' + cOF (16 * (kdC S o' % 100) + k) < szC S := hP.lt (by rw [q1]; show 16 * (kdC S o' % 100) + k ≠ 0; omega)
      refine ⟨by rw [hGne _ (Nat.ne_of_lt hlt)]; exact q1, fun h5 => ?_⟩
      have q3 := q2 h5
      have hn : ¬ (16 * (kdC S o' % 100) + k = f ∧ o' = o) := fun h => ho h.2
      have hL : fL (attS S f o (attV v ci) sl) (16 * (kdC S o' % 100) + k) o' = fL S (16 * (kdC S o' % 100) + k) o' := up2_ne _ _ hn
      have hC : fC (attS S f o (attV v ci) sl) (16 * (kdC S o' % 100) + k) o' = fC S (16 * (kdC S o' % 100) + k) o' := up2_ne _ _ hn
      have hG1 : (attG S G f o).2.1 (16 * (kdC S o' % 100) + k) o' = G.2.1 (16 * (kdC S o' % 100) + k) o' := up2_ne _ _ hn
      unfold c_lok at q3 ⊢
      rw [hL, hC, hG1]
      cases hd : G.2.1 (16 * (kdC S o' % 100) + k) o' with
      | none => rw [hd] at q3; exact q3
      | some q =>
        rw [hd] at q3
        have hlt2 : q < szC S := hP.lt (by rw [q3.1]; show 1000 + _ ≠ 0; omega)
        exact ⟨by rw [hGne q (Nat.ne_of_lt hlt2)]; exact q3.1, q3.2⟩

