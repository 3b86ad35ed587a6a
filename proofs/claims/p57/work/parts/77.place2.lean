/-! PLACES, AS MODEL AND CLASS LAY THEM -/
def plM (A t : MS) (L : List Nat) : Prop := t.1 24 = nI L.length ∧ (∀ p, p < L.length → t.2 25 p = nI (gn L p)) ∧ ∀ p, p ≤ L.length → t.2 26 p = nI (zSt A L p)
/-- places alone were laid -/
def Fm (t t' : MS) : Prop := (∀ k, k ≠ 24 → t'.1 k = t.1 k) ∧ ∀ f, f ≠ 25 → f ≠ 26 → t'.2 f = t.2 f
section MPl
variable {A t : MS}
theorem Ag_Fm {t' : MS} {L : List Nat} (g : Ag A t) (h0 : A.2 26 0 = 0) (h : Fm t t') (hp : plM A t' L) : Ag A t' := by
  refine ⟨fun k hk => ⟨(h.1 k (by omega)).trans (g.1 k hk).1, (h.2 k (by omega) (by omega)).trans (g.1 k hk).2⟩, ?_⟩
  rw [h0]
  exact (hp.2.2 0 (Nat.zero_le _))
end MPl
def plC (A : MS) (S : CS) (po : Nat) (L : List Nat) : Prop := fI S 146 po = nI L.length ∧ (∀ p, p < L.length → fA S 144 po p = nI (gn L p) ∧ fA S 145 po p = nI (zSt A L p)) ∧ fI S 147 po = nI (zSt A L L.length)
/-- numbers of fields of a kind alone were changed -/
def Fc (P : Nat → Prop) (S S' : CS) : Prop := (kdC S' = kdC S ∧ fJ S' = fJ S ∧ fR S' = fR S ∧ fQ S' = fQ S ∧ fL S' = fL S ∧ fC S' = fC S ∧ szC S' = szC S ∧ nsC S' = nsC S) ∧ ∀ f, ¬ P f → fI S' f = fI S f ∧ fA S' f = fA S f
section CPl
variable {A : MS} {S S' S'' : CS} {so po : Nat} {P : Nat → Prop}
theorem Fc_rfl : Fc P S S := ⟨⟨rfl, rfl, rfl, rfl, rfl, rfl, rfl, rfl⟩, fun _ _ => ⟨rfl, rfl⟩⟩
theorem Fc_trans (h : Fc P S S') (g : Fc P S' S'') : Fc P S S'' := by
  obtain ⟨⟨a1, a2, a3, a4, a5, a6, a7, a8⟩, a9⟩ := h
  obtain ⟨⟨b1, b2, b3, b4, b5, b6, b7, b8⟩, b9⟩ := g
  exact ⟨⟨b1.trans a1, b2.trans a2, b3.trans a3, b4.trans a4, b5.trans a5, b6.trans a6, b7.trans a7, b8.trans a8⟩, fun f hf => ⟨(b9 f hf).1.trans (a9 f hf).1, (b9 f hf).2.trans (a9 f hf).2⟩⟩
theorem Fc_usI {f o : Nat} {v : Int32} (h : Fc P S S') (hf : P f) : Fc P S (usI S' f o v) := ⟨h.1, fun f' hf' => ⟨(fI_ne (fun z => hf' (by rw [z]; exact hf))).trans (h.2 f' hf').1, (h.2 f' hf').2⟩⟩
theorem fA_ne {f o f' : Nat} {i v : Int32} (h : f' ≠ f) : fA (usA S f o i v) f' = fA S f' := by
  funext q
  exact up2_no (fun z => h z.1)
theorem fA_at {f o k p : Nat} {v : Int32} (hk : k < 2147483648) : fA (usA S f o (nI k) v) f o p = if p = k then v else fA S f o p := by
  show up2 (fA S) f o (va_up (fA S f o) (nI k).toNatClampNeg v) f o p = _
  rw [up2_is, nI_clamp (by omega), va_up_at]
theorem Fc_usA {f o : Nat} {i v : Int32} (h : Fc P S S') (hf : P f) : Fc P S (usA S' f o i v) := ⟨h.1, fun f' hf' => ⟨(h.2 f' hf').1, (fA_ne (fun z => hf' (by rw [z]; exact hf))).trans (h.2 f' hf').2⟩⟩
theorem Eqf_Fc {P' : Nat → Prop} (h : Fc P S S') (hP : ∀ f, P' f → ¬ P f) : Eqf P' S S' := by
  obtain ⟨⟨a1, a2, a3, a4, a5, a6, a7, a8⟩, a9⟩ := h
  exact fun q hq => ⟨congrFun a1 q, fun _ => congrFun a2 q, fun f hf => ⟨congrFun (a9 f (hP f hf)).1 q, congrFun (a9 f (hP f hf)).2 q, by rw [a3], by rw [a4], by rw [a5], by rw [a6]⟩⟩
/-- fields of places -/
def pF (f : Nat) : Prop := 144 ≤ f ∧ f ≤ 147
theorem rB_pF (h : rB S A so) (g : Fc pF S S') : rB S' A so := rB_c h (Eqf_Fc g (fun f z => by unfold fB0 at z; unfold pF; omega)) rfl rfl rfl rfl rfl rfl rfl rfl rfl rfl rfl
theorem rT_pF (hk : kdC S so = 12) (h : rT S A so) (g : Fc pF S S') : rT S' A so := rT_c (by rw [hk]; decide) h (Eqf_Fc g (fun f z => by unfold fT0 at z; unfold pF; omega)) rfl rfl rfl
theorem cc_addPlace (h : rB S A so) (w : zM A) (hk : kdC S po = 9) {b : Nat} (hb : b < zN A) {L : List Nat} (hL : ∀ x, x ∈ L → x < zN A) (hlen : L.length < 48) (hp : plC A S po L) {B : Nat × Nat} {Q : CS → Prop} {X : String → CS → Prop} (hQ : ∀ S', Fc pF S S' → plC A S' po (L ++ [b]) → Q S') : w_X6_addPlace B po so (nI b) S Q X := by
  have hn := w.2.1
  obtain ⟨p1, p2, p3⟩ := hp
  have m31 : L.length < 2147483648 := by omega
  have hst := zSt_le w hL (p := L.length) (Nat.le_refl _)
  have hTb := zTb_le w hb
  refine ⟨hk, Q, fun _ z => z, fun h9 => ?_, fun _ => ?_⟩
  · rw [p1] at h9
    exact absurd h9 (nI_ge (a := L.length) (b := 48) hlen (by decide))
  · rw [p1]
    refine ⟨vp_nI (n := 48) hlen (by decide), fun t4 h4 => ?_⟩
    have e4 : fI t4 146 po = nI L.length ∧ fI t4 147 po = nI (zSt A L L.length) := by rw [h4]; exact ⟨p1, p3⟩
    rw [e4.1, e4.2]
    refine ⟨vp_nI (n := 48) hlen (by decide), fun t6 h6 t7 h7 => ?_⟩
    have e6 : fI t6 146 po = nI L.length := by rw [h6]; exact e4.1
    rw [e6, nI_1] at h7
    have F7 : Fc pF S t7 := by
      rw [h7, h6, h4]
      exact Fc_usI (Fc_usA (Fc_usA Fc_rfl ⟨by decide, by decide⟩) ⟨by decide, by decide⟩) ⟨by decide, by decide⟩
    have e7 : fI t7 147 po = nI (zSt A L L.length) := by rw [h7, fI_ne (by decide), h6]; exact e4.2
    have h' := rB_pF h F7
    refine ⟨h'.1, cc_timeOfBar h' w hb (fun t10 h10 => hQ t10 ?_ ?_)⟩
    · rw [h10]
      exact Fc_usI F7 ⟨by decide, by decide⟩
    · have elen : (L ++ [b]).length = L.length + 1 := by rw [List.length_append]; rfl
      have a144 : ∀ p, fA t10 144 po p = if p = L.length then nI b else fA S 144 po p := fun p => by
        rw [h10, h7, h6]
        show fA (usA t4 145 po _ _) 144 po p = _
        rw [fA_ne (by decide), h4, fA_at m31]
      have a145 : ∀ p, fA t10 145 po p = if p = L.length then nI (zSt A L L.length) else fA S 145 po p := fun p => by
        rw [h10, h7, h6]
        show fA (usA t4 145 po (nI L.length) (nI (zSt A L L.length))) 145 po p = _
        rw [fA_at m31, h4, fA_ne (by decide)]
      refine ⟨?_, fun p hp => ?_, ?_⟩
      · rw [h10, fI_ne (by decide), h7, fI_at, if_pos rfl, elen]
      · rw [elen] at hp
        rw [a144, a145, gn_app, zSt_app (by omega)]
        by_cases e : p = L.length
        · rw [if_pos e, if_pos e, if_neg (by omega), if_pos e, e]
          exact ⟨rfl, rfl⟩
        · rw [if_pos (show p < L.length by omega), if_neg e, if_neg e]
          exact p2 p (by omega)
      · rw [h10, fI_at, if_pos rfl, e7, nI_add, elen]
        show _ = nI (zSt A (L ++ [b]) L.length + zTb A (gn (L ++ [b]) L.length))
        rw [zSt_app (Nat.le_refl _), gn_app, if_neg (Nat.lt_irrefl _), if_pos rfl]
        rfl
theorem cc_layPlaces (h : rB S A so) (w : zM A) (hT : rT S A so) (hk : kdC S po = 9) {B : Nat × Nat} {Q : CS → Prop} {X : String → CS → Prop} (hQ : ∀ S', Fc pF S S' → plC A S' po (zPl A (zN A)) → Q S') : w_X6_layPlaces B po so S Q X := by
  have hn := w.2.1
  have hMt := hT.2.1
  refine ⟨hk, fun t2 h2 t3 h3 => ?_⟩
  have F3 : Fc pF S t3 := by
    rw [h3, h2]
    exact Fc_usI (Fc_usI Fc_rfl ⟨by decide, by decide⟩) ⟨by decide, by decide⟩
  have P3 : plC A t3 po (zPl A 0) := by
    refine ⟨?_, fun p hp => absurd hp (Nat.not_lt_zero _), ?_⟩
    · rw [h3, fI_ne (by decide), h2, fI_at, if_pos rfl]
      rfl
    · rw [h3, fI_at, if_pos rfl]
      rfl
  refine lp_for (fun k z => z.1 = nI k ∧ Fc pF S z.2 ∧ plC A z.2 po (zPl A k)) (zN A) ?_ ?_ 0 (Nat.zero_le _) (0, t3) ⟨rfl, F3, P3⟩
  · intro k hkn K z hz hK
    obtain ⟨z1, u⟩ := z
    obtain ⟨hz1, hF, hu⟩ := hz
    dsimp only at hz1 hF hu
    subst hz1
    have hBu := rB_pF h hF
    have hTu := rT_pF h.1 hT hF
    have hku : kdC u po = 9 := by rw [hF.1.1]; exact hk
    have ebc : v_X9_barCount so u = nI (zN A) := congrArg nI (cc_n hBu w)
    unfold w_X6_layPlaces_L12
    dsimp only
    rw [ebc]
    have hl := zPl_len48 w hMt (b := k + 1) (by omega)
    have hl' : ((zPl A k ++ [k]) ++ zAg A k).length ≤ 48 := hl
    rw [List.length_append, List.length_append] at hl'
    have hl'' : (zPl A k).length + 1 + (zAg A k).length ≤ 48 := hl'
    have hLk := zPl_lt w hMt (b := k) (by omega)
    refine ⟨hBu.1, hBu.1, fun h9 => absurd h9 (nI_ge hkn (by omega)), fun _ => cc_addPlace hBu w hku hkn hLk (by omega) hu (fun t6 hF6 hp6 => ?_)⟩
    have F6 := Fc_trans hF hF6
    have hB6 := rB_pF h F6
    have hT6 := rT_pF h.1 hT F6
    have hk6 : kdC t6 po = 9 := by rw [F6.1.1]; exact hk
    refine cc_repTo hT6 w hB6.1 (by omega) (fun i j hi hy hO hj l1 l2 l3 l4 l5 l6 => ?_) (fun hno => ?_)
    · refine ⟨fun t8 => Fc pF S t8 ∧ plC A t8 po (zPl A (k + 1)), fun t8 h8 => ?_, fun h9 => ?_, fun _ => ?_⟩
      · rw [nI_1]
        exact hK _ ⟨rfl, h8.1, h8.2⟩
      · exact absurd h9 (fun z => by
          have hj24 := rt_n hT6 w
          have : (nI j).toInt = (-1 : Int32).toInt := by rw [z]
          rw [nI_toInt (by omega)] at this
          exact absurd this (by show ¬ (j : Int) = -1; omega))
      · obtain ⟨g1, g2, g3, g4, g5, g6⟩ := hMt i hi hy
        rw [l2]
        refine ⟨l1, l3, fun x11 hx11 => ?_⟩
        rw [l4] at hx11
        subst hx11
        have eAg := zAg_some hMt w hi hy hO
        rw [eAg, rg_len] at hl''
        have hLk1 : ∀ x, x ∈ zPl A k ++ [k] → x < zN A := fun x hx => by
          rcases List.mem_append.mp hx with hx | hx
          · exact hLk x hx
          · rw [List.mem_singleton.mp hx]
            exact hkn
        refine lp_for (fun q z => z.1 = nI (i + q) ∧ Fc pF t6 z.2 ∧ plC A z.2 po (zPl A k ++ [k] ++ rg i q)) (k + 1 - zG A i - i) ?_ ?_ 0 (Nat.zero_le _) (nI i, t6) ⟨rfl, Fc_rfl, by show plC A t6 po (zPl A k ++ [k] ++ []); rw [List.append_nil]; exact hp6⟩
        · intro q hq K2 z hz2 hK2
          obtain ⟨z1, y⟩ := z
          obtain ⟨hz1, hFy, hy2⟩ := hz2
          dsimp only at hz1 hFy hy2
          subst hz1
          have Fy := Fc_trans F6 hFy
          have hBy := rB_pF h Fy
          have hky : kdC y po = 9 := by rw [Fy.1.1]; exact hk
          have la : v_X7_lastAgain (rtL t6 so j) y = nI (k - zG A i) := by
            unfold v_X7_lastAgain
            rw [(hFy.2 161 (by unfold pF; omega)).1, (hFy.2 162 (by unfold pF; omega)).1, l5, l6, pk_sub (by omega)]
          unfold w_X6_layPlaces_L57
          dsimp only
          rw [l2, la]
          refine ⟨by show kdC y _ = 10; rw [hFy.1.1]; exact l3, fun h9 => absurd h9 (nI_nlt (by omega) (by omega)), fun _ => cc_addPlace hBy w hky (b := i + q) (by omega) (fun x hx => ?_) ?_ hy2 (fun t13 hF13 hp13 => ?_)⟩
          · rcases List.mem_append.mp hx with hx | hx
            · exact hLk1 x hx
            · exact rg_lt (by omega) x hx
          · rw [List.length_append, List.length_append, rg_len]
            show (zPl A k).length + 1 + q < 48
            omega
          · rw [nI_1]
            refine hK2 _ ⟨rfl, Fc_trans hFy hF13, ?_⟩
            show plC A t13 po (zPl A k ++ [k] ++ (rg i q ++ [i + q]))
            rw [← List.append_assoc]
            exact hp13
        · intro K2 z hz2
          obtain ⟨z1, y⟩ := z
          obtain ⟨hz1, hFy, hy2⟩ := hz2
          dsimp only at hz1 hFy hy2
          subst hz1
          have la : v_X7_lastAgain (rtL t6 so j) y = nI (k - zG A i) := by
            unfold v_X7_lastAgain
            rw [(hFy.2 161 (by unfold pF; omega)).1, (hFy.2 162 (by unfold pF; omega)).1, l5, l6, pk_sub (by omega)]
          unfold w_X6_layPlaces_L57
          dsimp only
          rw [l2, la]
          refine ⟨by show kdC y _ = 10; rw [hFy.1.1]; exact l3, fun _ => ⟨Fc_trans F6 hFy, ?_⟩, fun h9 => absurd (nI_lt (a := k - zG A i) (b := i + (k + 1 - zG A i - i)) (by omega) (by omega)) h9⟩
          show plC A y po (zPl A k ++ [k] ++ zAg A k)
          rw [eAg]
          exact hy2
    · refine ⟨fun t8 => Fc pF S t8 ∧ plC A t8 po (zPl A (k + 1)), fun t8 h8 => ?_, fun _ => ⟨F6, ?_⟩, fun h9 => absurd rfl h9⟩
      · rw [nI_1]
        exact hK _ ⟨rfl, h8.1, h8.2⟩
      · show plC A t6 po (zPl A k ++ [k] ++ zAg A k)
        rw [zAg_none w (by omega) hno, List.append_nil]
        exact hp6
  · intro K z hz
    obtain ⟨z1, u⟩ := z
    obtain ⟨hz1, hF, hu⟩ := hz
    dsimp only at hz1 hF hu
    subst hz1
    have hBu := rB_pF h hF
    have ebc : v_X9_barCount so u = nI (zN A) := congrArg nI (cc_n hBu w)
    unfold w_X6_layPlaces_L12
    dsimp only
    rw [ebc]
    exact ⟨hBu.1, hBu.1, fun _ => hQ u hF hu, fun h9 => absurd (nI_le (Nat.le_refl _) (by omega)) h9⟩
end CPl
