/-! P57: CALLS OF THE PLAYING; the order of sounds is one -/
def lP (A : MS) : List Nat := zPl A (zN A)
def nP (A : MS) : Nat := (lP A).length
def eP (A : MS) : Nat := zSt A (lP A) (lP A).length
def sgm (A : MS) (v : Nat) : SQ := zSs A (lP A) v (lP A).length
def gOK (A : MS) (G : List Nat) : Prop := (∀ g, g < G.length → gn G g < 4) ∧ (∀ v, v < 4 → cn G v G.length = (sgm A v).1) ∧ ∀ g g2, g < g2 → g2 < G.length → lexLt (gB (sgm A) G g) (gn G g) (gB (sgm A) G g2) (gn G g2)
theorem gOK_len {A : MS} {G : List Nat} (h : gOK A G) : G.length = (sgm A 0).1 + (sgm A 1).1 + (sgm A 2).1 + (sgm A 3).1 := by
  have := cn_sum (G := G) (n := G.length) h.1
  rw [h.2.1 0 (by decide), h.2.1 1 (by decide), h.2.1 2 (by decide), h.2.1 3 (by decide)] at this
  exact this.symm
theorem gOK_1 {A : MS} {G G' : List Nat} (h : gOK A G) (h' : gOK A G') : G = G' := by
  have hl : G.length = G'.length := (gOK_len h).trans (gOK_len h').symm
  have key : ∀ k, k < G.length → (∀ j, j < k → gn G j = gn G' j) → gn G k = gn G' k := by
    intro k hk hj
    have hc : ∀ v m, m ≤ k → cn G v m = cn G' v m := by
      intro v m
      induction m with
      | zero => intro _; rfl
      | succ m ih =>
        intro hm
        show cn G v m + (if gn G m = v then 1 else 0) = cn G' v m + (if gn G' m = v then 1 else 0)
        rw [ih (by omega), hj m (by omega)]
    refine Classical.byContradiction fun hne => ?_
    have e1 : cn G' (gn G k) k < cn G' (gn G k) G'.length := by
      rw [h'.2.1 _ (h.1 k hk), ← h.2.1 _ (h.1 k hk), ← hc _ k (Nat.le_refl _)]
      exact cn_lt hk rfl
    have e2 : cn G (gn G' k) k < cn G (gn G' k) G.length := by
      rw [h.2.1 _ (h'.1 k (by omega)), ← h'.2.1 _ (h'.1 k (by omega)), hc _ k (Nat.le_refl _)]
      exact cn_lt (by omega) rfl
    obtain ⟨g, g1, g2, g3, g4⟩ := cn_nx e1
    obtain ⟨f, f1, f2, f3, f4⟩ := cn_nx e2
    have gk : k < g := by
      rcases Nat.lt_or_ge k g with z | z
      · exact z
      · have : g = k := by omega
        rw [this] at g3
        exact absurd g3.symm hne
    have fk : k < f := by
      rcases Nat.lt_or_ge k f with z | z
      · exact z
      · have : f = k := by omega
        rw [this] at f3
        exact absurd f3 hne
    have o1 := h'.2.2 k g gk g2
    have o2 := h.2.2 k f fk f2
    have b1 : gB (sgm A) G' g = gB (sgm A) G k := by
      unfold gB
      rw [g3, g4, hc _ k (Nat.le_refl _)]
    have b2 : gB (sgm A) G f = gB (sgm A) G' k := by
      unfold gB
      rw [f3, f4, ← hc _ k (Nat.le_refl _)]
    rw [b1, g3] at o1
    rw [b2, f3] at o2
    unfold lexLt at o1 o2
    omega
  have all : ∀ k, k < G.length → gn G k = gn G' k := by
    intro k
    induction k using Nat.strongRecOn with
    | _ k ih => exact fun hk => key k hk (fun j hj => ih j hj (by omega))
  apply List.ext_getElem?
  intro i
  by_cases hi : i < G.length
  · have := all i hi
    unfold gn at this
    rw [List.getElem?_eq_getElem hi, List.getElem?_eq_getElem (by omega)] at this ⊢
    exact congrArg some this
  · rw [List.getElem?_eq_none (by omega), List.getElem?_eq_none (by omega)]
noncomputable def zOr (A : MS) : List Nat := Classical.epsilon (gOK A)
noncomputable def nS (A : MS) : Nat := (zOr A).length
noncomputable def sV (A : MS) (k : Nat) : Nat := gn (zOr A) k
noncomputable def sX (A : MS) (k : Nat) : Nat := cn (zOr A) (sV A k) k
noncomputable def sBg (A : MS) (k : Nat) : Nat := (sgm A (sV A k)).2.1 (sX A k)
noncomputable def sEn (A : MS) (k : Nat) : Nat := (sgm A (sV A k)).2.2.1 (sX A k)
noncomputable def sWh (A : MS) (k : Nat) : Nat := (sgm A (sV A k)).2.2.2 (sX A k)
noncomputable def sPt (A : MS) (k : Nat) : Int32 := A.2 8 (384 * sV A k + sWh A k)
noncomputable def sLd (A : MS) (k : Nat) : Int32 := zLo A (sV A k) (sWh A k + 1)
theorem zOr_ok {A : MS} {S : CS} {po : Nat} (h : PlayOK A S po) : gOK A (zOr A) ∧ sndG A (sgm A) S po (zOr A) := by
  obtain ⟨-, G, hG⟩ := h
  have hG1 : sndG A (sgm A) S po G := hG
  have g1 : gOK A G := ⟨hG1.2.2.1, hG1.2.2.2.1, hG1.2.2.2.2.2⟩
  have g2 : gOK A (zOr A) := Classical.epsilon_spec (p := gOK A) ⟨G, g1⟩
  have e : G = zOr A := gOK_1 g1 g2
  rw [e] at hG1
  exact ⟨g2, hG1⟩
theorem nS_le {A : MS} (w : zM A) (hT : zMt A) (g : gOK A (zOr A)) : nS A ≤ 3072 := by
  have h1 := gOK_len g
  have h2 := zTo_le w (zPl_lt w hT (Nat.le_refl _)) (zPl_len48 w hT (Nat.le_refl _))
  have h3 : (zOr A).length = zTo A (zPl A (zN A)) := h1
  unfold nS
  omega
section RP
variable {b B : Nat × Nat} {o so po n : Nat} {S : CS} {A : MS} {r : LR} {N : Int32 → LwS → Prop}
theorem nP_48 (hA : rA S A o so po) : nP A ≤ 48 := zPl_len48 (rA_M hA) (rA_T hA).2.1 (Nat.le_refl _)
/-- a call that asks the playing -/
theorem pl_call (hb : hB b B) (J : Jp b o so po (n + 1) S A) {Q : Nat × Nat → Nat → CS → Prop} {X : Nat × Nat → String → CS → Prop} (hQ : ∀ (B1 : Nat × Nat) (S' : CS), rA S' A o so po → PlayOK A S' po → Jp b o so po n S' A → (szC S' + 1 ≤ B1.1 ∧ nsC S' + 6 ≤ B1.2) → (∀ sz ns : Nat, sz ≤ B1.1 → ns ≤ B1.2 → Jp b o so po n (rsz S' sz ns) A) → Q B1 po S') : ∃ B1 : Nat × Nat, (B1.1 ≤ B.1 ∧ B1.2 ≤ B.2) ∧ (szC S ≤ B1.1 ∧ nsC S ≤ B1.2) ∧ w_X11_played B1 o S (Q B1) (X B1) := by
  obtain ⟨hP, ⟨l1, l2⟩, hn⟩ := Jp_play hb J
  have hA := Jp_A J
  obtain ⟨g1, g2⟩ := bX_ge (S := S) (A := A) (so := so) (po := po)
  refine ⟨((bX S A so po).1 + 1, (bX S A so po).2 + 10), ⟨l1, l2⟩, ⟨by show _ ≤ _ + 1; omega, by show _ ≤ _ + 10; omega⟩, cc_played hA hP (Nat.le_add_right _ _) (Nat.le_add_right _ _) (fun S' hR => ?_)⟩
  have q7 := hR.2.2.2.2.2.2.2.1
  have q8 := hR.2.2.2.2.2.2.2.2
  exact hQ _ S' hR.2.1 hR.2.2.1 (hn S' (szC S') (nsC S') hR (by omega) (by omega)) ⟨by show _ ≤ _ + 1; omega, by show _ ≤ _ + 10; omega⟩ (fun sz ns z1 z2 => hn S' sz ns hR z1 z2)
theorem rd_places (hb : hB b B) (J : Jp b o so po (n + 1) S A) (h : ∀ S', Jp b o so po n S' A → N (nI (nP A)) (S', r)) : (kdC S o = 14) ∧ lcall B (S, r) (fun B1 K => w_X11_places B1 o S (fun x S' => K x (S', r)) (fun _ _ => False)) N := by
  have hA := Jp_A J
  obtain ⟨B1, h1, h2, h3⟩ := pl_call hb J (Q := fun B1 q t2 => (kdC t2 q = 9) ∧ (szC t2 ≤ B1.1 → nsC t2 ≤ B1.2 → N (fI t2 146 q) (t2, r))) (X := fun _ _ _ => False) (fun B1 S' a1 a2 a3 a4 a5 => ⟨rA_kp a1, fun _ _ => by
    have e : fI S' 146 po = nI (nP A) := a2.1.1
    rw [e]
    exact h S' a3⟩)
  exact ⟨rA_k hA, B1, h1, h2, rA_k hA, h3⟩
theorem rd_playingTime (hb : hB b B) (J : Jp b o so po (n + 1) S A) (h : ∀ S', Jp b o so po n S' A → N (nI (eP A)) (S', r)) : (kdC S o = 14) ∧ lcall B (S, r) (fun B1 K => w_X11_playingTime B1 o S (fun x S' => K x (S', r)) (fun _ _ => False)) N := by
  have hA := Jp_A J
  obtain ⟨B1, h1, h2, h3⟩ := pl_call hb J (Q := fun B1 q t2 => (kdC t2 q = 9) ∧ (szC t2 ≤ B1.1 → nsC t2 ≤ B1.2 → N (fI t2 147 q) (t2, r))) (X := fun _ _ _ => False) (fun B1 S' a1 a2 a3 a4 a5 => ⟨rA_kp a1, fun _ _ => by
    have e : fI S' 147 po = nI (eP A) := a2.1.2.2
    rw [e]
    exact h S' a3⟩)
  exact ⟨rA_k hA, B1, h1, h2, rA_k hA, h3⟩
theorem rd_sounds (hb : hB b B) (J : Jp b o so po (n + 1) S A) (h : ∀ S', Jp b o so po n S' A → N (nI (nS A)) (S', r)) : (kdC S o = 14) ∧ lcall B (S, r) (fun B1 K => w_X11_sounds B1 o S (fun x S' => K x (S', r)) (fun _ _ => False)) N := by
  have hA := Jp_A J
  obtain ⟨B1, h1, h2, h3⟩ := pl_call hb J (Q := fun B1 q t2 => (kdC t2 q = 9) ∧ (szC t2 ≤ B1.1 → nsC t2 ≤ B1.2 → N (fI t2 149 q) (t2, r))) (X := fun _ _ _ => False) (fun B1 S' a1 a2 a3 a4 a5 => ⟨rA_kp a1, fun _ _ => by
    have e : fI S' 149 po = nI (nS A) := (zOr_ok a2).2.1
    rw [e]
    exact h S' a3⟩)
  exact ⟨rA_k hA, B1, h1, h2, rA_k hA, h3⟩
theorem rd_barAt (hb : hB b B) (J : Jp b o so po (n + 1) S A) {k : Nat} (hk : k < nP A) (h : ∀ S', Jp b o so po n S' A → N (nI (gn (lP A) k)) (S', r)) : lcall B (S, r) (fun B1 K => w_L_barAt B1 o (nI k) (S, r) K) N := by
  have hA := Jp_A J
  have h48 := nP_48 hA
  refine Exists.elim (pl_call hb J (Q := fun B1 q t2 => (kdC t2 q = 9) ∧ w_X11_requireIndex B1 (nI k) (fI t2 146 q) t2 (fun t4 => ((fR t4 225 o) ≠ none) ∧ (kdC t4 (oG (fR t4 225 o)) = 9) ∧ (vp_in (nI k) (cLN 144)) ∧ (szC t4 ≤ B1.1 → nsC t4 ≤ B1.2 → N (fA t4 144 (oG (fR t4 225 o)) (Int32.toNatClampNeg (nI k))) (t4, r))) (fun E S' => E = "java/lang/IndexOutOfBoundsException" ∧ (szC S' ≤ B1.1 → nsC S' ≤ B1.2 → N (-1000001) (S', r)))) (X := fun B1 E S' => E = "java/lang/IndexOutOfBoundsException" ∧ (szC S' ≤ B1.1 → nsC S' ≤ B1.2 → N (-1000001) (S', r))) (fun B1 S' a1 a2 a3 a4 a5 => ⟨rA_kp a1, ?_⟩)) (fun B1 ⟨h1, h2, h3⟩ => ⟨B1, h1, h2, rA_k hA, rA_k hA, h3⟩)
  · have e : fI S' 146 po = nI (nP A) := a2.1.1
    have ep : oG (fR S' 225 o) = po := by rw [rA_p a1]; rfl
    rw [e]
    refine i_reqIdx a4 (fun hc => ?_) (fun hc => ?_)
    · rw [ep, nI_clamp (show k < 2147483648 by omega)]
      refine ⟨ne_so (rA_p a1), rA_kp a1, vp_nI (n := 48) (by omega) (by decide), fun _ _ => ?_⟩
      have e2 : fA S' 144 po k = nI (gn (lP A) k) := (a2.1.2.1 k hk).1
      rw [e2]
      exact h S' a3
    · exfalso
      rcases hc with hc | hc
      · exact nI_pos (by omega) hc
      · exact hc (nI_lt hk (by omega))
theorem rd_barAt_out (hb : hB b B) (J : Jp b o so po (n + 1) S A) {a : Int32} (ha : a < 0 ∨ ¬ a < nI (nP A)) (h : ∀ S', Jp b o so po n S' A → N (-1000001) (S', r)) : lcall B (S, r) (fun B1 K => w_L_barAt B1 o a (S, r) K) N := by
  have hA := Jp_A J
  refine Exists.elim (pl_call hb J (Q := fun B1 q t2 => (kdC t2 q = 9) ∧ w_X11_requireIndex B1 a (fI t2 146 q) t2 (fun t4 => ((fR t4 225 o) ≠ none) ∧ (kdC t4 (oG (fR t4 225 o)) = 9) ∧ (vp_in a (cLN 144)) ∧ (szC t4 ≤ B1.1 → nsC t4 ≤ B1.2 → N (fA t4 144 (oG (fR t4 225 o)) (Int32.toNatClampNeg a)) (t4, r))) (fun E S' => E = "java/lang/IndexOutOfBoundsException" ∧ (szC S' ≤ B1.1 → nsC S' ≤ B1.2 → N (-1000001) (S', r)))) (X := fun B1 E S' => E = "java/lang/IndexOutOfBoundsException" ∧ (szC S' ≤ B1.1 → nsC S' ≤ B1.2 → N (-1000001) (S', r))) (fun B1 S' a1 a2 a3 a4 a5 => ⟨rA_kp a1, ?_⟩)) (fun B1 ⟨h1, h2, h3⟩ => ⟨B1, h1, h2, rA_k hA, rA_k hA, h3⟩)
  · have e : fI S' 146 po = nI (nP A) := a2.1.1
    rw [e]
    exact i_reqIdx a4 (fun hc => absurd ha hc) (fun _ sz ns => ⟨rfl, fun z1 z2 => h _ (a5 sz ns z1 z2)⟩)
theorem rd_startOf (hb : hB b B) (J : Jp b o so po (n + 1) S A) {k : Nat} (hk : k < nP A) (h : ∀ S', Jp b o so po n S' A → N (nI (zSt A (lP A) k)) (S', r)) : lcall B (S, r) (fun B1 K => w_L_startOf B1 o (nI k) (S, r) K) N := by
  have hA := Jp_A J
  have h48 := nP_48 hA
  refine Exists.elim (pl_call hb J (Q := fun B1 q t2 => (kdC t2 q = 9) ∧ w_X11_requireIndex B1 (nI k) (fI t2 146 q) t2 (fun t4 => ((fR t4 225 o) ≠ none) ∧ (kdC t4 (oG (fR t4 225 o)) = 9) ∧ (vp_in (nI k) (cLN 145)) ∧ (szC t4 ≤ B1.1 → nsC t4 ≤ B1.2 → N (fA t4 145 (oG (fR t4 225 o)) (Int32.toNatClampNeg (nI k))) (t4, r))) (fun E S' => E = "java/lang/IndexOutOfBoundsException" ∧ (szC S' ≤ B1.1 → nsC S' ≤ B1.2 → N (-1000001) (S', r)))) (X := fun B1 E S' => E = "java/lang/IndexOutOfBoundsException" ∧ (szC S' ≤ B1.1 → nsC S' ≤ B1.2 → N (-1000001) (S', r))) (fun B1 S' a1 a2 a3 a4 a5 => ⟨rA_kp a1, ?_⟩)) (fun B1 ⟨h1, h2, h3⟩ => ⟨B1, h1, h2, rA_k hA, rA_k hA, h3⟩)
  · have e : fI S' 146 po = nI (nP A) := a2.1.1
    have ep : oG (fR S' 225 o) = po := by rw [rA_p a1]; rfl
    rw [e]
    refine i_reqIdx a4 (fun hc => ?_) (fun hc => ?_)
    · rw [ep, nI_clamp (show k < 2147483648 by omega)]
      refine ⟨ne_so (rA_p a1), rA_kp a1, vp_nI (n := 48) (by omega) (by decide), fun _ _ => ?_⟩
      have e2 : fA S' 145 po k = nI (zSt A (lP A) k) := (a2.1.2.1 k hk).2
      rw [e2]
      exact h S' a3
    · exfalso
      rcases hc with hc | hc
      · exact nI_pos (by omega) hc
      · exact hc (nI_lt hk (by omega))
theorem rd_startOf_out (hb : hB b B) (J : Jp b o so po (n + 1) S A) {a : Int32} (ha : a < 0 ∨ ¬ a < nI (nP A)) (h : ∀ S', Jp b o so po n S' A → N (-1000001) (S', r)) : lcall B (S, r) (fun B1 K => w_L_startOf B1 o a (S, r) K) N := by
  have hA := Jp_A J
  refine Exists.elim (pl_call hb J (Q := fun B1 q t2 => (kdC t2 q = 9) ∧ w_X11_requireIndex B1 a (fI t2 146 q) t2 (fun t4 => ((fR t4 225 o) ≠ none) ∧ (kdC t4 (oG (fR t4 225 o)) = 9) ∧ (vp_in a (cLN 145)) ∧ (szC t4 ≤ B1.1 → nsC t4 ≤ B1.2 → N (fA t4 145 (oG (fR t4 225 o)) (Int32.toNatClampNeg a)) (t4, r))) (fun E S' => E = "java/lang/IndexOutOfBoundsException" ∧ (szC S' ≤ B1.1 → nsC S' ≤ B1.2 → N (-1000001) (S', r)))) (X := fun B1 E S' => E = "java/lang/IndexOutOfBoundsException" ∧ (szC S' ≤ B1.1 → nsC S' ≤ B1.2 → N (-1000001) (S', r))) (fun B1 S' a1 a2 a3 a4 a5 => ⟨rA_kp a1, ?_⟩)) (fun B1 ⟨h1, h2, h3⟩ => ⟨B1, h1, h2, rA_k hA, rA_k hA, h3⟩)
  · have e : fI S' 146 po = nI (nP A) := a2.1.1
    rw [e]
    exact i_reqIdx a4 (fun hc => absurd ha hc) (fun _ sz ns => ⟨rfl, fun z1 z2 => h _ (a5 sz ns z1 z2)⟩)
theorem rd_timeByEvents (hb : hB b B) (J : Jp b o so po (n + 1) S A) {v : Nat} (hv : v < 4) (h : ∀ S', Jp b o so po n S' A → N (nI (zTe A (lP A) v (lP A).length)) (S', r)) : lcall B (S, r) (fun B1 K => w_L_timeByEvents B1 o (nI v) (S, r) K) N := by
  have hA := Jp_A J
  obtain ⟨hP, ⟨l1, l2⟩, hn⟩ := Jp_play hb J
  obtain ⟨g1, g2⟩ := bX_ge (S := S) (A := A) (so := so) (po := po)
  have h48 := nP_48 hA
  have hL : ∀ x, x ∈ zPl A (zN A) → x < zN A := zPl_lt (rA_M hA) (rA_T hA).2.1 (Nat.le_refl _)
  refine ⟨((bX S A so po).1 + 1, (bX S A so po).2 + 10), ⟨l1, l2⟩, ⟨by dsimp only; omega, by dsimp only; omega⟩, rA_k hA, a_reqVoice ⟨by dsimp only; omega, by dsimp only; omega⟩ (fun v2 hv2 ev hz => ⟨rA_k hA, cc_played hA hP (Nat.le_add_right _ _) (Nat.le_add_right _ _) (fun S' hR => ?_)⟩) (fun z => absurd z (isV_in hv))⟩
  have q7 := hR.2.2.2.2.2.2.2.1
  have q8 := hR.2.2.2.2.2.2.2.2
  have hA' := hR.2.1
  have hpl := hR.2.2.1.1
  rw [rA_s hA']
  exact ⟨fun z => (by cases z), rA_kp hA', cc_timeOfEvents (rA_B hA') (rA_M hA) (rA_kp hA') hpl hL h48 hv (fun _ _ => h S' (hn S' (szC S') (nsC S') hR (by omega) (by omega)))⟩
theorem rd_timeByEvents_bad (hb : hB b B) (J : Jp b o so po (n + 1) S A) {a : Int32} (hz : v_isVoice a = 0) (h : ∀ S', Jp b o so po n S' A → N (-1000002) (S', r)) : lcall B (S, r) (fun B1 K => w_L_timeByEvents B1 o a (S, r) K) N := by
  obtain ⟨l1, l2⟩ := Jp_sz hb J
  have hA := Jp_A J
  exact ⟨(szC S + 1, nsC S + 10), ⟨l1, l2⟩, ⟨Nat.le_add_right _ _, Nat.le_add_right _ _⟩, rA_k hA, a_reqVoice ⟨Nat.le_refl _, Nat.add_le_add_left (by decide) _⟩ (fun v hv ev hz2 => absurd hz hz2) (fun _ sz ns => ⟨rfl, fun z1 z2 => h _ (Jp_rs J z1 z2)⟩)⟩
/-- a sound that is asked for -/
theorem sd_call (hb : hB b B) (J : Jp b o so po (n + 1) S A) {a : Int32} {Q : Nat × Nat → Nat → CS → Prop} {X : Nat × Nat → String → CS → Prop} (hQ : ∀ (B1 : Nat × Nat) (S' : CS) (k : Nat) (q : Nat), k < nS A → a = nI k → kdC S' q = 13 → Jp b o so po n S' A → sFld A S' q (sV A k) (sgm A (sV A k)) (sX A k) → Q B1 q S') (hX : (a < 0 ∨ ¬ a < nI (nS A)) → ∀ (B1 : Nat × Nat) (S' : CS), (szC S' ≤ B1.1 → nsC S' ≤ B1.2 → Jp b o so po n S' A) → X B1 "java/lang/IndexOutOfBoundsException" S') : ∃ B1 : Nat × Nat, (B1.1 ≤ B.1 ∧ B1.2 ≤ B.2) ∧ (szC S ≤ B1.1 ∧ nsC S ≤ B1.2) ∧ w_X11_requiredSound B1 o a S (Q B1) (X B1) := by
  obtain ⟨hP, ⟨l1, l2⟩, hn⟩ := Jp_play hb J
  have hA := Jp_A J
  obtain ⟨g1, g2⟩ := bX_ge (S := S) (A := A) (so := so) (po := po)
  refine ⟨((bX S A so po).1 + 1, (bX S A so po).2 + 10), ⟨l1, l2⟩, ⟨by show _ ≤ _ + 1; omega, by show _ ≤ _ + 10; omega⟩, rA_k hA, cc_ren hA hP (Nat.le_add_right _ _) (Nat.le_add_right _ _) (fun S' hR => ?_)⟩
  have q7 := hR.2.2.2.2.2.2.2.1
  have q8 := hR.2.2.2.2.2.2.2.2
  have hA' := hR.2.1
  have hro := hR.2.2.2.2.1
  have J' : Jp b o so po n S' A := hn S' (szC S') (nsC S') hR (by omega) (by omega)
  obtain ⟨hg, hG⟩ := zOr_ok hR.2.2.1
  have hS := nS_le (rA_M hA) (rA_T hA).2.1 hg
  have h31 : (fL S' 148 po).length < 2147483648 := by
    have := J'.1.2.1.2.2.2
    omega
  have ep : oG (fR S' 225 o) = po := by rw [rA_p hA']; rfl
  have e149 : fI S' 149 po = nI (nS A) := hG.1
  have hlen : nS A ≤ (fL S' 148 po).length := hG.2.1
  rw [ep, e149]
  refine ⟨ne_so (rA_p hA'), rA_kp hA', i_reqIdx ⟨by dsimp only; omega, by dsimp only; omega⟩ (fun hc => ?_) (fun hc sz ns => hX hc _ _ (fun z1 z2 => hn S' sz ns hR z1 z2))⟩
  obtain ⟨k, k1, k2⟩ := n_ofNN (n := nS A) (by omega) (fun z => hc (Or.inl z)) (Classical.byContradiction fun z => hc (Or.inr z))
  rw [k2, ep]
  have eG : lG S' 148 po (nI k) = gn (fL S' 148 po) k := by rw [cc_lG (by omega)]; rfl
  have kq := hro.1 k (by omega)
  rw [eG]
  exact ⟨ne_so (rA_p hA'), rA_kp hA', cc_in rfl (by omega) h31, kq, hQ _ S' k _ k1 k2 kq J' (hG.2.2.2.2.1 k k1)⟩
theorem rd_soundVoice (hb : hB b B) (J : Jp b o so po (n + 1) S A) {k : Nat} (hk : k < nS A) (hk2 : nS A ≤ 3072) (h : ∀ S', Jp b o so po n S' A → N (nI (sV A k)) (S', r)) : lcall B (S, r) (fun B1 K => w_L_soundVoice B1 o (nI k) (S, r) K) N := by
  have hA := Jp_A J
  refine Exists.elim (sd_call hb J (a := nI k) (Q := fun B1 q t2 => (kdC t2 q = 13) ∧ (szC t2 ≤ B1.1 → nsC t2 ≤ B1.2 → N (fI t2 208 q) (t2, r))) (X := fun B1 E S' => E = "java/lang/IndexOutOfBoundsException" ∧ (szC S' ≤ B1.1 → nsC S' ≤ B1.2 → N (-1000001) (S', r))) (fun B1 t2 k2 q hk3 e2 kq J' hf => ⟨kq, fun _ _ => ?_⟩) (fun hc => ?_)) (fun B1 ⟨h1, h2, h3⟩ => ⟨B1, h1, h2, rA_k hA, rA_k hA, h3⟩)
  · obtain rfl := (nI_eq (by omega) (by omega)).mp e2
    obtain ⟨f1, f2, f3, f4, f5⟩ := hf
    have e : fI t2 208 q = nI (sV A k) := f1
    rw [e]
    exact h t2 J'
  · exfalso
    rcases hc with hc | hc
    · exact nI_pos (by omega) hc
    · exact hc (nI_lt hk (by omega))
theorem rd_soundVoice_out (hb : hB b B) (J : Jp b o so po (n + 1) S A) {a : Int32} (hk2 : nS A ≤ 3072) (ha : a < 0 ∨ ¬ a < nI (nS A)) (h : ∀ S', Jp b o so po n S' A → N (-1000001) (S', r)) : lcall B (S, r) (fun B1 K => w_L_soundVoice B1 o a (S, r) K) N := by
  have hA := Jp_A J
  refine Exists.elim (sd_call hb J (a := a) (Q := fun B1 q t2 => (kdC t2 q = 13) ∧ (szC t2 ≤ B1.1 → nsC t2 ≤ B1.2 → N (fI t2 208 q) (t2, r))) (X := fun B1 E S' => E = "java/lang/IndexOutOfBoundsException" ∧ (szC S' ≤ B1.1 → nsC S' ≤ B1.2 → N (-1000001) (S', r))) (fun B1 t2 k2 q hk3 e2 kq J' hf => ?_) (fun hc B1 S' hz => ⟨rfl, fun z1 z2 => h _ (hz z1 z2)⟩)) (fun B1 ⟨h1, h2, h3⟩ => ⟨B1, h1, h2, rA_k hA, rA_k hA, h3⟩)
  · exfalso
    rw [e2] at ha
    rcases ha with ha | ha
    · exact nI_pos (by omega) ha
    · exact ha (nI_lt hk3 (by omega))
theorem rd_soundStart (hb : hB b B) (J : Jp b o so po (n + 1) S A) {k : Nat} (hk : k < nS A) (hk2 : nS A ≤ 3072) (h : ∀ S', Jp b o so po n S' A → N (nI (sBg A k)) (S', r)) : lcall B (S, r) (fun B1 K => w_L_soundStart B1 o (nI k) (S, r) K) N := by
  have hA := Jp_A J
  refine Exists.elim (sd_call hb J (a := nI k) (Q := fun B1 q t2 => (kdC t2 q = 13) ∧ (szC t2 ≤ B1.1 → nsC t2 ≤ B1.2 → N (fI t2 209 q) (t2, r))) (X := fun B1 E S' => E = "java/lang/IndexOutOfBoundsException" ∧ (szC S' ≤ B1.1 → nsC S' ≤ B1.2 → N (-1000001) (S', r))) (fun B1 t2 k2 q hk3 e2 kq J' hf => ⟨kq, fun _ _ => ?_⟩) (fun hc => ?_)) (fun B1 ⟨h1, h2, h3⟩ => ⟨B1, h1, h2, rA_k hA, rA_k hA, h3⟩)
  · obtain rfl := (nI_eq (by omega) (by omega)).mp e2
    obtain ⟨f1, f2, f3, f4, f5⟩ := hf
    have e : fI t2 209 q = nI (sBg A k) := f2
    rw [e]
    exact h t2 J'
  · exfalso
    rcases hc with hc | hc
    · exact nI_pos (by omega) hc
    · exact hc (nI_lt hk (by omega))
theorem rd_soundStart_out (hb : hB b B) (J : Jp b o so po (n + 1) S A) {a : Int32} (hk2 : nS A ≤ 3072) (ha : a < 0 ∨ ¬ a < nI (nS A)) (h : ∀ S', Jp b o so po n S' A → N (-1000001) (S', r)) : lcall B (S, r) (fun B1 K => w_L_soundStart B1 o a (S, r) K) N := by
  have hA := Jp_A J
  refine Exists.elim (sd_call hb J (a := a) (Q := fun B1 q t2 => (kdC t2 q = 13) ∧ (szC t2 ≤ B1.1 → nsC t2 ≤ B1.2 → N (fI t2 209 q) (t2, r))) (X := fun B1 E S' => E = "java/lang/IndexOutOfBoundsException" ∧ (szC S' ≤ B1.1 → nsC S' ≤ B1.2 → N (-1000001) (S', r))) (fun B1 t2 k2 q hk3 e2 kq J' hf => ?_) (fun hc B1 S' hz => ⟨rfl, fun z1 z2 => h _ (hz z1 z2)⟩)) (fun B1 ⟨h1, h2, h3⟩ => ⟨B1, h1, h2, rA_k hA, rA_k hA, h3⟩)
  · exfalso
    rw [e2] at ha
    rcases ha with ha | ha
    · exact nI_pos (by omega) ha
    · exact ha (nI_lt hk3 (by omega))
theorem rd_soundTime (hb : hB b B) (J : Jp b o so po (n + 1) S A) {k : Nat} (hk : k < nS A) (hk2 : nS A ≤ 3072) (h : ∀ S', Jp b o so po n S' A → N (nI (sEn A k) - nI (sBg A k)) (S', r)) : lcall B (S, r) (fun B1 K => w_L_soundTime B1 o (nI k) (S, r) K) N := by
  have hA := Jp_A J
  refine Exists.elim (sd_call hb J (a := nI k) (Q := fun B1 q t2 => (kdC t2 q = 13) ∧ (szC t2 ≤ B1.1 → nsC t2 ≤ B1.2 → N ((fI t2 210 q) - (fI t2 209 q)) (t2, r))) (X := fun B1 E S' => E = "java/lang/IndexOutOfBoundsException" ∧ (szC S' ≤ B1.1 → nsC S' ≤ B1.2 → N (-1000001) (S', r))) (fun B1 t2 k2 q hk3 e2 kq J' hf => ⟨kq, fun _ _ => ?_⟩) (fun hc => ?_)) (fun B1 ⟨h1, h2, h3⟩ => ⟨B1, h1, h2, rA_k hA, rA_k hA, h3⟩)
  · obtain rfl := (nI_eq (by omega) (by omega)).mp e2
    obtain ⟨f1, f2, f3, f4, f5⟩ := hf
    have e : (fI t2 210 q) - (fI t2 209 q) = nI (sEn A k) - nI (sBg A k) := by rw [f3, f2]; rfl
    rw [e]
    exact h t2 J'
  · exfalso
    rcases hc with hc | hc
    · exact nI_pos (by omega) hc
    · exact hc (nI_lt hk (by omega))
theorem rd_soundTime_out (hb : hB b B) (J : Jp b o so po (n + 1) S A) {a : Int32} (hk2 : nS A ≤ 3072) (ha : a < 0 ∨ ¬ a < nI (nS A)) (h : ∀ S', Jp b o so po n S' A → N (-1000001) (S', r)) : lcall B (S, r) (fun B1 K => w_L_soundTime B1 o a (S, r) K) N := by
  have hA := Jp_A J
  refine Exists.elim (sd_call hb J (a := a) (Q := fun B1 q t2 => (kdC t2 q = 13) ∧ (szC t2 ≤ B1.1 → nsC t2 ≤ B1.2 → N ((fI t2 210 q) - (fI t2 209 q)) (t2, r))) (X := fun B1 E S' => E = "java/lang/IndexOutOfBoundsException" ∧ (szC S' ≤ B1.1 → nsC S' ≤ B1.2 → N (-1000001) (S', r))) (fun B1 t2 k2 q hk3 e2 kq J' hf => ?_) (fun hc B1 S' hz => ⟨rfl, fun z1 z2 => h _ (hz z1 z2)⟩)) (fun B1 ⟨h1, h2, h3⟩ => ⟨B1, h1, h2, rA_k hA, rA_k hA, h3⟩)
  · exfalso
    rw [e2] at ha
    rcases ha with ha | ha
    · exact nI_pos (by omega) ha
    · exact ha (nI_lt hk3 (by omega))
theorem rd_soundPitch (hb : hB b B) (J : Jp b o so po (n + 1) S A) {k : Nat} (hk : k < nS A) (hk2 : nS A ≤ 3072) (h : ∀ S', Jp b o so po n S' A → N (sPt A k) (S', r)) : lcall B (S, r) (fun B1 K => w_L_soundPitch B1 o (nI k) (S, r) K) N := by
  have hA := Jp_A J
  refine Exists.elim (sd_call hb J (a := nI k) (Q := fun B1 q t2 => (kdC t2 q = 13) ∧ (szC t2 ≤ B1.1 → nsC t2 ≤ B1.2 → N (fI t2 211 q) (t2, r))) (X := fun B1 E S' => E = "java/lang/IndexOutOfBoundsException" ∧ (szC S' ≤ B1.1 → nsC S' ≤ B1.2 → N (-1000001) (S', r))) (fun B1 t2 k2 q hk3 e2 kq J' hf => ⟨kq, fun _ _ => ?_⟩) (fun hc => ?_)) (fun B1 ⟨h1, h2, h3⟩ => ⟨B1, h1, h2, rA_k hA, rA_k hA, h3⟩)
  · obtain rfl := (nI_eq (by omega) (by omega)).mp e2
    obtain ⟨f1, f2, f3, f4, f5⟩ := hf
    have e : fI t2 211 q = sPt A k := f4
    rw [e]
    exact h t2 J'
  · exfalso
    rcases hc with hc | hc
    · exact nI_pos (by omega) hc
    · exact hc (nI_lt hk (by omega))
theorem rd_soundPitch_out (hb : hB b B) (J : Jp b o so po (n + 1) S A) {a : Int32} (hk2 : nS A ≤ 3072) (ha : a < 0 ∨ ¬ a < nI (nS A)) (h : ∀ S', Jp b o so po n S' A → N (-1000001) (S', r)) : lcall B (S, r) (fun B1 K => w_L_soundPitch B1 o a (S, r) K) N := by
  have hA := Jp_A J
  refine Exists.elim (sd_call hb J (a := a) (Q := fun B1 q t2 => (kdC t2 q = 13) ∧ (szC t2 ≤ B1.1 → nsC t2 ≤ B1.2 → N (fI t2 211 q) (t2, r))) (X := fun B1 E S' => E = "java/lang/IndexOutOfBoundsException" ∧ (szC S' ≤ B1.1 → nsC S' ≤ B1.2 → N (-1000001) (S', r))) (fun B1 t2 k2 q hk3 e2 kq J' hf => ?_) (fun hc B1 S' hz => ⟨rfl, fun z1 z2 => h _ (hz z1 z2)⟩)) (fun B1 ⟨h1, h2, h3⟩ => ⟨B1, h1, h2, rA_k hA, rA_k hA, h3⟩)
  · exfalso
    rw [e2] at ha
    rcases ha with ha | ha
    · exact nI_pos (by omega) ha
    · exact ha (nI_lt hk3 (by omega))
theorem rd_loudness (hb : hB b B) (J : Jp b o so po (n + 1) S A) {k : Nat} (hk : k < nS A) (hk2 : nS A ≤ 3072) (h : ∀ S', Jp b o so po n S' A → N (sLd A k) (S', r)) : lcall B (S, r) (fun B1 K => w_L_loudness B1 o (nI k) (S, r) K) N := by
  have hA := Jp_A J
  refine Exists.elim (sd_call hb J (a := nI k) (Q := fun B1 q t2 => (kdC t2 q = 13) ∧ (szC t2 ≤ B1.1 → nsC t2 ≤ B1.2 → N (fI t2 212 q) (t2, r))) (X := fun B1 E S' => E = "java/lang/IndexOutOfBoundsException" ∧ (szC S' ≤ B1.1 → nsC S' ≤ B1.2 → N (-1000001) (S', r))) (fun B1 t2 k2 q hk3 e2 kq J' hf => ⟨kq, fun _ _ => ?_⟩) (fun hc => ?_)) (fun B1 ⟨h1, h2, h3⟩ => ⟨B1, h1, h2, rA_k hA, rA_k hA, h3⟩)
  · obtain rfl := (nI_eq (by omega) (by omega)).mp e2
    obtain ⟨f1, f2, f3, f4, f5⟩ := hf
    have e : fI t2 212 q = sLd A k := f5
    rw [e]
    exact h t2 J'
  · exfalso
    rcases hc with hc | hc
    · exact nI_pos (by omega) hc
    · exact hc (nI_lt hk (by omega))
theorem rd_loudness_out (hb : hB b B) (J : Jp b o so po (n + 1) S A) {a : Int32} (hk2 : nS A ≤ 3072) (ha : a < 0 ∨ ¬ a < nI (nS A)) (h : ∀ S', Jp b o so po n S' A → N (-1000001) (S', r)) : lcall B (S, r) (fun B1 K => w_L_loudness B1 o a (S, r) K) N := by
  have hA := Jp_A J
  refine Exists.elim (sd_call hb J (a := a) (Q := fun B1 q t2 => (kdC t2 q = 13) ∧ (szC t2 ≤ B1.1 → nsC t2 ≤ B1.2 → N (fI t2 212 q) (t2, r))) (X := fun B1 E S' => E = "java/lang/IndexOutOfBoundsException" ∧ (szC S' ≤ B1.1 → nsC S' ≤ B1.2 → N (-1000001) (S', r))) (fun B1 t2 k2 q hk3 e2 kq J' hf => ?_) (fun hc B1 S' hz => ⟨rfl, fun z1 z2 => h _ (hz z1 z2)⟩)) (fun B1 ⟨h1, h2, h3⟩ => ⟨B1, h1, h2, rA_k hA, rA_k hA, h3⟩)
  · exfalso
    rw [e2] at ha
    rcases ha with ha | ha
    · exact nI_pos (by omega) ha
    · exact ha (nI_lt hk3 (by omega))
end RP
