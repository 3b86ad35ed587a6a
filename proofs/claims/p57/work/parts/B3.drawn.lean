/-! P57: CALLS OF PARTS, LINES, PAGES, TURNS, SHEETS -/
/-! CALLS OF PAGES, TURNS AND SHEETS -/
def kNp (A : MS) (v : Nat) : Nat := gNp (dPg A v) (dL A v) (2 * dL A v)
def kTc (A : MS) (v : Nat) : Nat := gTc (dPg A v) (dL A v) (kNp A v)
def kTl (A : MS) (v j : Nat) : Nat := gTl (dPg A v) (dL A v) (kNp A v) j
def kSh (A : MS) (v : Nat) : Nat := (kNp A v + 3) / 4
def iKd (A : MS) (v k : Nat) : Nat := (zIt A v (zN A)).2.1 k
def iFb (A : MS) (v k : Nat) : Nat := (zIt A v (zN A)).2.2.1 k
def iBc (A : MS) (v k : Nat) : Nat := (zIt A v (zN A)).2.2.2.1 k
def iCu (A : MS) (v k : Nat) : Int32 := (zIt A v (zN A)).2.2.2.2 k
def dZ (A : MS) (v : Nat) : Nat := (zLs (dW A v) (dm A v) (dP A) (dm A v)).1 0
def kCh (A : MS) (v p : Nat) : Nat := gCh (dPg A v) (dL A v) p
def kBd (A : MS) (v : Nat) : Nat := gFt (dE A v) (kTl A v) (kTc A v)
section DD
variable {o so po : Nat}
theorem dm_24 : ∀ (S : CS) (A : MS) (v : Nat), rA S A o so po → v < 4 → dm A v ≤ 48 := fun S A v hA _ => by
  have := (dm_ok (v := v) (rA_M hA)).1
  omega
theorem dL_24 : ∀ (S : CS) (A : MS) (v : Nat), rA S A o so po → v < 4 → dL A v ≤ 48 := fun S A v hA hv => by
  have h1 := (dm_ok (v := v) (rA_M hA)).1
  have h2 := (dL_ok (rA_M hA) (rA_S hA).2.2.2.2 hv).2.2
  omega
theorem kX {S : CS} {A : MS} {v : Nat} (hA : rA S A o so po) (hv : v < 4) : gXo (dPg A v) (dL A v) ∧ dL A v ≤ 24 ∧ kNp A v ≤ 48 ∧ kTc A v ≤ 24 := by
  have h1 := (dm_ok (v := v) (rA_M hA)).1
  have h2 := (dL_ok (rA_M hA) (rA_S hA).2.2.2.2 hv).2.2
  obtain ⟨r1, r2, -⟩ := dRm_ok (rA_S hA).2.2.2.2
  have hX : gXo (dPg A v) (dL A v) := gXo_T dE_le r2 r1 (by omega)
  obtain ⟨n1, n2, n3⟩ := gNp_ok hX
  have ht := gTc_ok hX (kNp A v)
  have e : (gS (dPg A v) (dL A v) (kNp A v)).1 = dL A v := n2
  rw [e] at ht
  refine ⟨hX, by omega, by unfold kNp; omega, ?_⟩
  by_cases c : 0 < dL A v
  · have h9 : kTc A v + 1 ≤ dL A v := ht.2 c (Nat.le_refl _)
    omega
  · have h9 : kTc A v = 0 := ht.1 (by omega)
    omega
theorem kNp_48 : ∀ (S : CS) (A : MS) (v : Nat), rA S A o so po → v < 4 → kNp A v ≤ 48 := fun S A v hA hv => (kX hA hv).2.2.1
theorem kTc_48 : ∀ (S : CS) (A : MS) (v : Nat), rA S A o so po → v < 4 → kTc A v ≤ 48 := fun S A v hA hv => Nat.le_trans (kX hA hv).2.2.2 (by decide)
theorem kSh_48 : ∀ (S : CS) (A : MS) (v : Nat), rA S A o so po → v < 4 → kSh A v ≤ 48 := fun S A v hA hv => by
  have := (kX hA hv).2.2.1
  unfold kSh
  omega
theorem sh_nI {N : Nat} (h : N ≤ 48) : v_X11_sheetsFor (nI N) = nI ((N + 3) / 4) := by
  have e : nI N + 4 - 1 = nI (N + 3) := by
    have h1 : nI N + 4 = nI (N + 3 + 1) := nI_add N 4
    rw [h1]
    exact nI_pred (N + 3)
  unfold v_X11_sheetsFor
  rw [e]
  exact pk_div (a := N + 3) (d := 4) (by omega) (by decide) (by decide)
theorem lo_of {S' : CS} {q v lo pg : Nat} (p : PrS S' q v lo pg) : oG (fR S' 119 q) = lo ∧ oG (fR S' 120 q) = pg := ⟨by rw [p.2.1]; rfl, by rw [p.2.2.1]; rfl⟩
end DD
section DR
variable {b B : Nat × Nat} {o so po n : Nat} {S : CS} {A : MS} {r : LR} {N : Int32 → LwS → Prop}
theorem lc_dr {F : Nat × Nat → (Int32 → LwS → Prop) → Prop} {W : Nat × Nat → Prop} (h : ∃ B1, sB B B1 S ∧ (kdC S o = 14) ∧ W B1) (hF : ∀ B1, W B1 → F B1 (fun x t' => szC t'.1 ≤ B1.1 → nsC t'.1 ≤ B1.2 → N x t')) : lcall B (S, r) F N := by
  obtain ⟨B1, ⟨h1, h2⟩, -, h3⟩ := h
  exact ⟨B1, h1, h2, hF B1 h3⟩
theorem rd_items_bad (hb : hB b B) (J : Jp b o so po (n + 1) S A) {a : Int32} (hz : v_isVoice a = 0) (h : ∀ S', Jp b o so po n S' A → N (-1000002) (S', r)) : lcall B (S, r) (fun B1 K => w_L_items B1 o a (S, r) K) N := by
  have hA := Jp_A J
  refine lc_dr (o := o) ?_ (fun B1 z => ⟨rA_k hA, rA_k hA, z⟩)
  exact pd_bad hb J hz (fun B1 sz ns hJ => Or.inl ⟨rfl, fun z1 z2 => h _ (hJ z1 z2)⟩)
theorem rd_items_no (hb : hB b B) (J : Jp b o so po (n + 1) S A) {v : Nat} (hv : v < 4) (hd : ¬ zDr A v) (h : ∀ S', Jp b o so po n S' A → N (-1000003) (S', r)) : lcall B (S, r) (fun B1 K => w_L_items B1 o (nI v) (S, r) K) N := by
  have hA := Jp_A J
  refine lc_dr (o := o) ?_ (fun B1 z => ⟨rA_k hA, rA_k hA, z⟩)
  exact pd_no hb J hv hd (fun B1 sz ns hJ => Or.inr ⟨rfl, fun z1 z2 => h _ (hJ z1 z2)⟩)
theorem rd_items (hb : hB b B) (J : Jp b o so po (n + 1) S A) {v : Nat} (hv : v < 4) (hd : zDr A v) (h : ∀ S', Jp b o so po n S' A → N (nI (dm A v)) (S', r)) : lcall B (S, r) (fun B1 K => w_L_items B1 o (nI v) (S, r) K) N := by
  have hA := Jp_A J
  refine lc_dr (o := o) ?_ (fun B1 z => ⟨rA_k hA, rA_k hA, z⟩)
  refine pd_in hb J hv hd (fun B1 q lo pg S' p1 p2 p3 J' hr hJ => ?_)
  show (kdC S' q = 7) ∧ (szC S' ≤ _ → nsC S' ≤ _ → N (fI S' 118 q) (S', r))
  rw [show fI S' 118 q = nI (dm A v) from p2.1.1]
  exact ⟨p1.1, fun _ _ => h S' J'⟩
theorem rd_lines_bad (hb : hB b B) (J : Jp b o so po (n + 1) S A) {a : Int32} (hz : v_isVoice a = 0) (h : ∀ S', Jp b o so po n S' A → N (-1000002) (S', r)) : lcall B (S, r) (fun B1 K => w_L_lines B1 o a (S, r) K) N := by
  have hA := Jp_A J
  refine lc_dr (o := o) ?_ (fun B1 z => ⟨rA_k hA, rA_k hA, z⟩)
  exact pd_bad hb J hz (fun B1 sz ns hJ => Or.inl ⟨rfl, fun z1 z2 => h _ (hJ z1 z2)⟩)
theorem rd_lines_no (hb : hB b B) (J : Jp b o so po (n + 1) S A) {v : Nat} (hv : v < 4) (hd : ¬ zDr A v) (h : ∀ S', Jp b o so po n S' A → N (-1000003) (S', r)) : lcall B (S, r) (fun B1 K => w_L_lines B1 o (nI v) (S, r) K) N := by
  have hA := Jp_A J
  refine lc_dr (o := o) ?_ (fun B1 z => ⟨rA_k hA, rA_k hA, z⟩)
  exact pd_no hb J hv hd (fun B1 sz ns hJ => Or.inr ⟨rfl, fun z1 z2 => h _ (hJ z1 z2)⟩)
theorem rd_lines (hb : hB b B) (J : Jp b o so po (n + 1) S A) {v : Nat} (hv : v < 4) (hd : zDr A v) (h : ∀ S', Jp b o so po n S' A → N (nI (dL A v)) (S', r)) : lcall B (S, r) (fun B1 K => w_L_lines B1 o (nI v) (S, r) K) N := by
  have hA := Jp_A J
  refine lc_dr (o := o) ?_ (fun B1 z => ⟨rA_k hA, rA_k hA, z⟩)
  refine pd_in hb J hv hd (fun B1 q lo pg S' p1 p2 p3 J' hr hJ => ?_)
  show (kdC S' q = 7) ∧ ((fR S' 119 q) ≠ none) ∧ (kdC S' (oG (fR S' 119 q)) = 4) ∧ (szC S' ≤ _ → nsC S' ≤ _ → N (fI S' 65 (oG (fR S' 119 q))) (S', r))
  rw [(lo_of p1).1, show fI S' 65 lo = nI (dL A v) from p2.2.2.1.1]
  exact ⟨p1.1, ne_so p1.2.1, p1.2.2.2.1, fun _ _ => h S' J'⟩
theorem rd_badness_bad (hb : hB b B) (J : Jp b o so po (n + 1) S A) {a : Int32} (hz : v_isVoice a = 0) (h : ∀ S', Jp b o so po n S' A → N (-1000002) (S', r)) : lcall B (S, r) (fun B1 K => w_L_badness B1 o a (S, r) K) N := by
  have hA := Jp_A J
  refine lc_dr (o := o) ?_ (fun B1 z => ⟨rA_k hA, rA_k hA, z⟩)
  exact pd_bad hb J hz (fun B1 sz ns hJ => Or.inl ⟨rfl, fun z1 z2 => h _ (hJ z1 z2)⟩)
theorem rd_badness_no (hb : hB b B) (J : Jp b o so po (n + 1) S A) {v : Nat} (hv : v < 4) (hd : ¬ zDr A v) (h : ∀ S', Jp b o so po n S' A → N (-1000003) (S', r)) : lcall B (S, r) (fun B1 K => w_L_badness B1 o (nI v) (S, r) K) N := by
  have hA := Jp_A J
  refine lc_dr (o := o) ?_ (fun B1 z => ⟨rA_k hA, rA_k hA, z⟩)
  exact pd_no hb J hv hd (fun B1 sz ns hJ => Or.inr ⟨rfl, fun z1 z2 => h _ (hJ z1 z2)⟩)
theorem rd_badness (hb : hB b B) (J : Jp b o so po (n + 1) S A) {v : Nat} (hv : v < 4) (hd : zDr A v) (h : ∀ S', Jp b o so po n S' A → N (nI (dZ A v)) (S', r)) : lcall B (S, r) (fun B1 K => w_L_badness B1 o (nI v) (S, r) K) N := by
  have hA := Jp_A J
  refine lc_dr (o := o) ?_ (fun B1 z => ⟨rA_k hA, rA_k hA, z⟩)
  refine pd_in hb J hv hd (fun B1 q lo pg S' p1 p2 p3 J' hr hJ => ?_)
  show (kdC S' q = 7) ∧ ((fR S' 119 q) ≠ none) ∧ (kdC S' (oG (fR S' 119 q)) = 4) ∧ (vp_in 0 (cLN 66)) ∧ (szC S' ≤ _ → nsC S' ≤ _ → N (fA S' 66 (oG (fR S' 119 q)) (Int32.toNatClampNeg 0)) (S', r))
  rw [(lo_of p1).1, show fA S' 66 lo (Int32.toNatClampNeg 0) = nI (dZ A v) from p2.2.2.1.2.2]
  exact ⟨p1.1, ne_so p1.2.1, p1.2.2.2.1, vp_nI (n := 25) (k := 0) (by decide) (by decide), fun _ _ => h S' J'⟩
theorem rd_pages_bad (hb : hB b B) (J : Jp b o so po (n + 1) S A) {a : Int32} (hz : v_isVoice a = 0) (h : ∀ S', Jp b o so po n S' A → N (-1000002) (S', r)) : lcall B (S, r) (fun B1 K => w_L_pages B1 o a (S, r) K) N := by
  have hA := Jp_A J
  refine lc_dr (o := o) ?_ (fun B1 z => ⟨rA_k hA, rA_k hA, z⟩)
  exact pd_bad hb J hz (fun B1 sz ns hJ => Or.inl ⟨rfl, fun z1 z2 => h _ (hJ z1 z2)⟩)
theorem rd_pages_no (hb : hB b B) (J : Jp b o so po (n + 1) S A) {v : Nat} (hv : v < 4) (hd : ¬ zDr A v) (h : ∀ S', Jp b o so po n S' A → N (-1000003) (S', r)) : lcall B (S, r) (fun B1 K => w_L_pages B1 o (nI v) (S, r) K) N := by
  have hA := Jp_A J
  refine lc_dr (o := o) ?_ (fun B1 z => ⟨rA_k hA, rA_k hA, z⟩)
  exact pd_no hb J hv hd (fun B1 sz ns hJ => Or.inr ⟨rfl, fun z1 z2 => h _ (hJ z1 z2)⟩)
theorem rd_pages (hb : hB b B) (J : Jp b o so po (n + 1) S A) {v : Nat} (hv : v < 4) (hd : zDr A v) (h : ∀ S', Jp b o so po n S' A → N (nI (kNp A v)) (S', r)) : lcall B (S, r) (fun B1 K => w_L_pages B1 o (nI v) (S, r) K) N := by
  have hA := Jp_A J
  refine lc_dr (o := o) ?_ (fun B1 z => ⟨rA_k hA, rA_k hA, z⟩)
  refine pd_in hb J hv hd (fun B1 q lo pg S' p1 p2 p3 J' hr hJ => ?_)
  show (kdC S' q = 7) ∧ ((fR S' 120 q) ≠ none) ∧ (kdC S' (oG (fR S' 120 q)) = 6) ∧ (szC S' ≤ _ → nsC S' ≤ _ → N (fI S' 98 (oG (fR S' 120 q))) (S', r))
  rw [(lo_of p1).2, show fI S' 98 pg = nI (kNp A v) from p2.2.2.2.2.1]
  exact ⟨p1.1, ne_so p1.2.2.1, p1.2.2.2.2.1, fun _ _ => h S' J'⟩
theorem rd_pageTurns_bad (hb : hB b B) (J : Jp b o so po (n + 1) S A) {a : Int32} (hz : v_isVoice a = 0) (h : ∀ S', Jp b o so po n S' A → N (-1000002) (S', r)) : lcall B (S, r) (fun B1 K => w_L_pageTurns B1 o a (S, r) K) N := by
  have hA := Jp_A J
  refine lc_dr (o := o) ?_ (fun B1 z => ⟨rA_k hA, rA_k hA, z⟩)
  exact pd_bad hb J hz (fun B1 sz ns hJ => Or.inl ⟨rfl, fun z1 z2 => h _ (hJ z1 z2)⟩)
theorem rd_pageTurns_no (hb : hB b B) (J : Jp b o so po (n + 1) S A) {v : Nat} (hv : v < 4) (hd : ¬ zDr A v) (h : ∀ S', Jp b o so po n S' A → N (-1000003) (S', r)) : lcall B (S, r) (fun B1 K => w_L_pageTurns B1 o (nI v) (S, r) K) N := by
  have hA := Jp_A J
  refine lc_dr (o := o) ?_ (fun B1 z => ⟨rA_k hA, rA_k hA, z⟩)
  exact pd_no hb J hv hd (fun B1 sz ns hJ => Or.inr ⟨rfl, fun z1 z2 => h _ (hJ z1 z2)⟩)
theorem rd_pageTurns (hb : hB b B) (J : Jp b o so po (n + 1) S A) {v : Nat} (hv : v < 4) (hd : zDr A v) (h : ∀ S', Jp b o so po n S' A → N (nI (kTc A v)) (S', r)) : lcall B (S, r) (fun B1 K => w_L_pageTurns B1 o (nI v) (S, r) K) N := by
  have hA := Jp_A J
  refine lc_dr (o := o) ?_ (fun B1 z => ⟨rA_k hA, rA_k hA, z⟩)
  refine pd_in hb J hv hd (fun B1 q lo pg S' p1 p2 p3 J' hr hJ => ?_)
  show (kdC S' q = 7) ∧ ((fR S' 120 q) ≠ none) ∧ (kdC S' (oG (fR S' 120 q)) = 6) ∧ (szC S' ≤ _ → nsC S' ≤ _ → N (fI S' 100 (oG (fR S' 120 q))) (S', r))
  rw [(lo_of p1).2, show fI S' 100 pg = nI (kTc A v) from p2.2.2.2.2.2.1]
  exact ⟨p1.1, ne_so p1.2.2.1, p1.2.2.2.2.1, fun _ _ => h S' J'⟩
theorem rd_sheets_bad (hb : hB b B) (J : Jp b o so po (n + 1) S A) {a : Int32} (hz : v_isVoice a = 0) (h : ∀ S', Jp b o so po n S' A → N (-1000002) (S', r)) : lcall B (S, r) (fun B1 K => w_L_sheets B1 o a (S, r) K) N := by
  have hA := Jp_A J
  refine lc_dr (o := o) ?_ (fun B1 z => ⟨rA_k hA, rA_k hA, z⟩)
  exact pd_bad hb J hz (fun B1 sz ns hJ => Or.inl ⟨rfl, fun z1 z2 => h _ (hJ z1 z2)⟩)
theorem rd_sheets_no (hb : hB b B) (J : Jp b o so po (n + 1) S A) {v : Nat} (hv : v < 4) (hd : ¬ zDr A v) (h : ∀ S', Jp b o so po n S' A → N (-1000003) (S', r)) : lcall B (S, r) (fun B1 K => w_L_sheets B1 o (nI v) (S, r) K) N := by
  have hA := Jp_A J
  refine lc_dr (o := o) ?_ (fun B1 z => ⟨rA_k hA, rA_k hA, z⟩)
  exact pd_no hb J hv hd (fun B1 sz ns hJ => Or.inr ⟨rfl, fun z1 z2 => h _ (hJ z1 z2)⟩)
theorem rd_sheets (hb : hB b B) (J : Jp b o so po (n + 1) S A) {v : Nat} (hv : v < 4) (hd : zDr A v) (h : ∀ S', Jp b o so po n S' A → N (nI (kSh A v)) (S', r)) : lcall B (S, r) (fun B1 K => w_L_sheets B1 o (nI v) (S, r) K) N := by
  have hA := Jp_A J
  refine lc_dr (o := o) ?_ (fun B1 z => ⟨rA_k hA, rA_k hA, z⟩)
  refine pd_in hb J hv hd (fun B1 q lo pg S' p1 p2 p3 J' hr hJ => ?_)
  show (kdC S' q = 7) ∧ ((fR S' 120 q) ≠ none) ∧ (kdC S' (oG (fR S' 120 q)) = 6) ∧ (szC S' ≤ _ → nsC S' ≤ _ → N (v_X11_sheetsFor (fI S' 98 (oG (fR S' 120 q)))) (S', r))
  rw [(lo_of p1).2, show fI S' 98 pg = nI (kNp A v) from p2.2.2.2.2.1, sh_nI (kX hA hv).2.2.1]
  exact ⟨p1.1, ne_so p1.2.2.1, p1.2.2.2.2.1, fun _ _ => h S' J'⟩
theorem rd_badTurns_bad (hb : hB b B) (J : Jp b o so po (n + 1) S A) {a : Int32} (hz : v_isVoice a = 0) (h : ∀ S', Jp b o so po n S' A → N (-1000002) (S', r)) : lcall B (S, r) (fun B1 K => w_L_badTurns B1 o a (S, r) K) N := by
  have hA := Jp_A J
  refine lc_dr (o := o) ?_ (fun B1 z => ⟨rA_k hA, rA_k hA, z⟩)
  exact pd_bad hb J hz (fun B1 sz ns hJ => Or.inl ⟨rfl, fun z1 z2 => h _ (hJ z1 z2)⟩)
theorem rd_badTurns_no (hb : hB b B) (J : Jp b o so po (n + 1) S A) {v : Nat} (hv : v < 4) (hd : ¬ zDr A v) (h : ∀ S', Jp b o so po n S' A → N (-1000003) (S', r)) : lcall B (S, r) (fun B1 K => w_L_badTurns B1 o (nI v) (S, r) K) N := by
  have hA := Jp_A J
  refine lc_dr (o := o) ?_ (fun B1 z => ⟨rA_k hA, rA_k hA, z⟩)
  exact pd_no hb J hv hd (fun B1 sz ns hJ => Or.inr ⟨rfl, fun z1 z2 => h _ (hJ z1 z2)⟩)
theorem rd_badTurns (hb : hB b B) (J : Jp b o so po (n + 1) S A) {v : Nat} (hv : v < 4) (hd : zDr A v) (h : ∀ S', Jp b o so po n S' A → N (nI (kBd A v)) (S', r)) : lcall B (S, r) (fun B1 K => w_L_badTurns B1 o (nI v) (S, r) K) N := by
  have hA := Jp_A J
  refine lc_dr (o := o) ?_ (fun B1 z => ⟨rA_k hA, rA_k hA, z⟩)
  refine pd_in hb J hv hd (fun B1 q lo pg S' p1 p2 p3 J' hr hJ => ?_)
  obtain ⟨x1, x2, x3, x4⟩ := kX hA hv
  show (kdC S' q = 7) ∧ ((fR S' 120 q) ≠ none) ∧ (kdC S' (oG (fR S' 120 q)) = 6) ∧ w_X3_faultyTurns B1 (oG (fR S' 120 q)) S' (fun r6 t6 => szC t6 ≤ B1.1 → nsC t6 ≤ B1.2 → N r6 (t6, r)) _
  rw [(lo_of p1).2]
  exact ⟨p1.1, ne_so p1.2.2.1, p1.2.2.2.2.1, cc_faulty (E := dE A v) x1 x2 p1.2.2.2.2.1 p2.2.2.2.2 (fun k k1 k2 => (p2.2.2.2.1 k k1 k2).2.2.2) dE_le (fun _ _ => h S' J')⟩
theorem rd_itemKind_bad (hb : hB b B) (J : Jp b o so po (n + 1) S A) {a : Int32} (hz : v_isVoice a = 0) (a2 : Int32) (h : ∀ S', Jp b o so po n S' A → N (-1000002) (S', r)) : lcall B (S, r) (fun B1 K => w_L_itemKind B1 o a a2 (S, r) K) N := by
  have hA := Jp_A J
  refine lc_dr (o := o) ?_ (fun B1 z => ⟨rA_k hA, rA_k hA, z⟩)
  exact pd_bad hb J hz (fun B1 sz ns hJ => Or.inl ⟨rfl, fun z1 z2 => h _ (hJ z1 z2)⟩)
theorem rd_itemKind_no (hb : hB b B) (J : Jp b o so po (n + 1) S A) {v : Nat} (hv : v < 4) (hd : ¬ zDr A v) (a2 : Int32) (h : ∀ S', Jp b o so po n S' A → N (-1000003) (S', r)) : lcall B (S, r) (fun B1 K => w_L_itemKind B1 o (nI v) a2 (S, r) K) N := by
  have hA := Jp_A J
  refine lc_dr (o := o) ?_ (fun B1 z => ⟨rA_k hA, rA_k hA, z⟩)
  exact pd_no hb J hv hd (fun B1 sz ns hJ => Or.inr (Or.inl ⟨rfl, fun z1 z2 => h _ (hJ z1 z2)⟩))
theorem rd_itemKind (hb : hB b B) (J : Jp b o so po (n + 1) S A) {v : Nat} (hv : v < 4) (hd : zDr A v) {k : Nat} (hk : k < dm A v) (h : ∀ S', Jp b o so po n S' A → N (nI (iKd A v k)) (S', r)) : lcall B (S, r) (fun B1 K => w_L_itemKind B1 o (nI v) (nI k) (S, r) K) N := by
  have hA := Jp_A J
  refine lc_dr (o := o) ?_ (fun B1 z => ⟨rA_k hA, rA_k hA, z⟩)
  have hbd := (dm_ok (v := v) (rA_M hA)).1
  have hn24 := (rA_M hA).2.1
  refine pd_in hb J hv hd (fun B1 q lo pg S' p1 p2 p3 J' hr hJ => ?_)
  show (kdC S' q = 7) ∧ w_X11_requireIndex B1 (nI k) (fI S' 118 q) S' (fun t4 => (vp_in (nI k) (cLN 113)) ∧ (szC t4 ≤ B1.1 → nsC t4 ≤ B1.2 → N (fA t4 113 q (Int32.toNatClampNeg (nI k))) (t4, r))) _
  rw [show fI S' 118 q = nI (dm A v) from p2.1.1]
  refine ⟨p1.1, i_reqIdx hr (fun _ => ?_) (fun hc => ?_)⟩
  · rw [nI_clamp (show k < 2147483648 by omega)]
    refine ⟨vp_nI (n := 24) (by omega) (by decide), fun _ _ => ?_⟩
    have e : fA S' 113 q k = nI (iKd A v k) := (p2.1.2 k hk).1
    rw [e]
    exact h S' J'
  · exfalso
    rcases hc with hc | hc
    · exact nI_pos (by omega) hc
    · exact hc (nI_lt hk (by omega))
theorem rd_itemKind_out (hb : hB b B) (J : Jp b o so po (n + 1) S A) {v : Nat} (hv : v < 4) (hd : zDr A v) {a : Int32} (ha : a < 0 ∨ ¬ a < nI (dm A v)) (h : ∀ S', Jp b o so po n S' A → N (-1000001) (S', r)) : lcall B (S, r) (fun B1 K => w_L_itemKind B1 o (nI v) a (S, r) K) N := by
  have hA := Jp_A J
  refine lc_dr (o := o) ?_ (fun B1 z => ⟨rA_k hA, rA_k hA, z⟩)
  refine pd_in hb J hv hd (fun B1 q lo pg S' p1 p2 p3 J' hr hJ => ?_)
  show (kdC S' q = 7) ∧ w_X11_requireIndex B1 a (fI S' 118 q) S' (fun t4 => (vp_in a (cLN 113)) ∧ (szC t4 ≤ B1.1 → nsC t4 ≤ B1.2 → N (fA t4 113 q (Int32.toNatClampNeg a)) (t4, r))) _
  rw [show fI S' 118 q = nI (dm A v) from p2.1.1]
  exact ⟨p1.1, i_reqIdx hr (fun hc => absurd ha hc) (fun _ sz ns => Or.inr (Or.inr ⟨rfl, fun z1 z2 => h _ (hJ sz ns z1 z2)⟩))⟩
theorem rd_itemBar_bad (hb : hB b B) (J : Jp b o so po (n + 1) S A) {a : Int32} (hz : v_isVoice a = 0) (a2 : Int32) (h : ∀ S', Jp b o so po n S' A → N (-1000002) (S', r)) : lcall B (S, r) (fun B1 K => w_L_itemBar B1 o a a2 (S, r) K) N := by
  have hA := Jp_A J
  refine lc_dr (o := o) ?_ (fun B1 z => ⟨rA_k hA, rA_k hA, z⟩)
  exact pd_bad hb J hz (fun B1 sz ns hJ => Or.inl ⟨rfl, fun z1 z2 => h _ (hJ z1 z2)⟩)
theorem rd_itemBar_no (hb : hB b B) (J : Jp b o so po (n + 1) S A) {v : Nat} (hv : v < 4) (hd : ¬ zDr A v) (a2 : Int32) (h : ∀ S', Jp b o so po n S' A → N (-1000003) (S', r)) : lcall B (S, r) (fun B1 K => w_L_itemBar B1 o (nI v) a2 (S, r) K) N := by
  have hA := Jp_A J
  refine lc_dr (o := o) ?_ (fun B1 z => ⟨rA_k hA, rA_k hA, z⟩)
  exact pd_no hb J hv hd (fun B1 sz ns hJ => Or.inr (Or.inl ⟨rfl, fun z1 z2 => h _ (hJ z1 z2)⟩))
theorem rd_itemBar (hb : hB b B) (J : Jp b o so po (n + 1) S A) {v : Nat} (hv : v < 4) (hd : zDr A v) {k : Nat} (hk : k < dm A v) (h : ∀ S', Jp b o so po n S' A → N (nI (iFb A v k)) (S', r)) : lcall B (S, r) (fun B1 K => w_L_itemBar B1 o (nI v) (nI k) (S, r) K) N := by
  have hA := Jp_A J
  refine lc_dr (o := o) ?_ (fun B1 z => ⟨rA_k hA, rA_k hA, z⟩)
  have hbd := (dm_ok (v := v) (rA_M hA)).1
  have hn24 := (rA_M hA).2.1
  refine pd_in hb J hv hd (fun B1 q lo pg S' p1 p2 p3 J' hr hJ => ?_)
  show (kdC S' q = 7) ∧ w_X11_requireIndex B1 (nI k) (fI S' 118 q) S' (fun t4 => (vp_in (nI k) (cLN 114)) ∧ (szC t4 ≤ B1.1 → nsC t4 ≤ B1.2 → N (fA t4 114 q (Int32.toNatClampNeg (nI k))) (t4, r))) _
  rw [show fI S' 118 q = nI (dm A v) from p2.1.1]
  refine ⟨p1.1, i_reqIdx hr (fun _ => ?_) (fun hc => ?_)⟩
  · rw [nI_clamp (show k < 2147483648 by omega)]
    refine ⟨vp_nI (n := 24) (by omega) (by decide), fun _ _ => ?_⟩
    have e : fA S' 114 q k = nI (iFb A v k) := (p2.1.2 k hk).2.1
    rw [e]
    exact h S' J'
  · exfalso
    rcases hc with hc | hc
    · exact nI_pos (by omega) hc
    · exact hc (nI_lt hk (by omega))
theorem rd_itemBar_out (hb : hB b B) (J : Jp b o so po (n + 1) S A) {v : Nat} (hv : v < 4) (hd : zDr A v) {a : Int32} (ha : a < 0 ∨ ¬ a < nI (dm A v)) (h : ∀ S', Jp b o so po n S' A → N (-1000001) (S', r)) : lcall B (S, r) (fun B1 K => w_L_itemBar B1 o (nI v) a (S, r) K) N := by
  have hA := Jp_A J
  refine lc_dr (o := o) ?_ (fun B1 z => ⟨rA_k hA, rA_k hA, z⟩)
  refine pd_in hb J hv hd (fun B1 q lo pg S' p1 p2 p3 J' hr hJ => ?_)
  show (kdC S' q = 7) ∧ w_X11_requireIndex B1 a (fI S' 118 q) S' (fun t4 => (vp_in a (cLN 114)) ∧ (szC t4 ≤ B1.1 → nsC t4 ≤ B1.2 → N (fA t4 114 q (Int32.toNatClampNeg a)) (t4, r))) _
  rw [show fI S' 118 q = nI (dm A v) from p2.1.1]
  exact ⟨p1.1, i_reqIdx hr (fun hc => absurd ha hc) (fun _ sz ns => Or.inr (Or.inr ⟨rfl, fun z1 z2 => h _ (hJ sz ns z1 z2)⟩))⟩
theorem rd_itemBars_bad (hb : hB b B) (J : Jp b o so po (n + 1) S A) {a : Int32} (hz : v_isVoice a = 0) (a2 : Int32) (h : ∀ S', Jp b o so po n S' A → N (-1000002) (S', r)) : lcall B (S, r) (fun B1 K => w_L_itemBars B1 o a a2 (S, r) K) N := by
  have hA := Jp_A J
  refine lc_dr (o := o) ?_ (fun B1 z => ⟨rA_k hA, rA_k hA, z⟩)
  exact pd_bad hb J hz (fun B1 sz ns hJ => Or.inl ⟨rfl, fun z1 z2 => h _ (hJ z1 z2)⟩)
theorem rd_itemBars_no (hb : hB b B) (J : Jp b o so po (n + 1) S A) {v : Nat} (hv : v < 4) (hd : ¬ zDr A v) (a2 : Int32) (h : ∀ S', Jp b o so po n S' A → N (-1000003) (S', r)) : lcall B (S, r) (fun B1 K => w_L_itemBars B1 o (nI v) a2 (S, r) K) N := by
  have hA := Jp_A J
  refine lc_dr (o := o) ?_ (fun B1 z => ⟨rA_k hA, rA_k hA, z⟩)
  exact pd_no hb J hv hd (fun B1 sz ns hJ => Or.inr (Or.inl ⟨rfl, fun z1 z2 => h _ (hJ z1 z2)⟩))
theorem rd_itemBars (hb : hB b B) (J : Jp b o so po (n + 1) S A) {v : Nat} (hv : v < 4) (hd : zDr A v) {k : Nat} (hk : k < dm A v) (h : ∀ S', Jp b o so po n S' A → N (nI (iBc A v k)) (S', r)) : lcall B (S, r) (fun B1 K => w_L_itemBars B1 o (nI v) (nI k) (S, r) K) N := by
  have hA := Jp_A J
  refine lc_dr (o := o) ?_ (fun B1 z => ⟨rA_k hA, rA_k hA, z⟩)
  have hbd := (dm_ok (v := v) (rA_M hA)).1
  have hn24 := (rA_M hA).2.1
  refine pd_in hb J hv hd (fun B1 q lo pg S' p1 p2 p3 J' hr hJ => ?_)
  show (kdC S' q = 7) ∧ w_X11_requireIndex B1 (nI k) (fI S' 118 q) S' (fun t4 => (vp_in (nI k) (cLN 115)) ∧ (szC t4 ≤ B1.1 → nsC t4 ≤ B1.2 → N (fA t4 115 q (Int32.toNatClampNeg (nI k))) (t4, r))) _
  rw [show fI S' 118 q = nI (dm A v) from p2.1.1]
  refine ⟨p1.1, i_reqIdx hr (fun _ => ?_) (fun hc => ?_)⟩
  · rw [nI_clamp (show k < 2147483648 by omega)]
    refine ⟨vp_nI (n := 24) (by omega) (by decide), fun _ _ => ?_⟩
    have e : fA S' 115 q k = nI (iBc A v k) := (p2.1.2 k hk).2.2.1
    rw [e]
    exact h S' J'
  · exfalso
    rcases hc with hc | hc
    · exact nI_pos (by omega) hc
    · exact hc (nI_lt hk (by omega))
theorem rd_itemBars_out (hb : hB b B) (J : Jp b o so po (n + 1) S A) {v : Nat} (hv : v < 4) (hd : zDr A v) {a : Int32} (ha : a < 0 ∨ ¬ a < nI (dm A v)) (h : ∀ S', Jp b o so po n S' A → N (-1000001) (S', r)) : lcall B (S, r) (fun B1 K => w_L_itemBars B1 o (nI v) a (S, r) K) N := by
  have hA := Jp_A J
  refine lc_dr (o := o) ?_ (fun B1 z => ⟨rA_k hA, rA_k hA, z⟩)
  refine pd_in hb J hv hd (fun B1 q lo pg S' p1 p2 p3 J' hr hJ => ?_)
  show (kdC S' q = 7) ∧ w_X11_requireIndex B1 a (fI S' 118 q) S' (fun t4 => (vp_in a (cLN 115)) ∧ (szC t4 ≤ B1.1 → nsC t4 ≤ B1.2 → N (fA t4 115 q (Int32.toNatClampNeg a)) (t4, r))) _
  rw [show fI S' 118 q = nI (dm A v) from p2.1.1]
  exact ⟨p1.1, i_reqIdx hr (fun hc => absurd ha hc) (fun _ sz ns => Or.inr (Or.inr ⟨rfl, fun z1 z2 => h _ (hJ sz ns z1 z2)⟩))⟩
theorem rd_cue_bad (hb : hB b B) (J : Jp b o so po (n + 1) S A) {a : Int32} (hz : v_isVoice a = 0) (a2 : Int32) (h : ∀ S', Jp b o so po n S' A → N (-1000002) (S', r)) : lcall B (S, r) (fun B1 K => w_L_cue B1 o a a2 (S, r) K) N := by
  have hA := Jp_A J
  refine lc_dr (o := o) ?_ (fun B1 z => ⟨rA_k hA, rA_k hA, z⟩)
  exact pd_bad hb J hz (fun B1 sz ns hJ => Or.inl ⟨rfl, fun z1 z2 => h _ (hJ z1 z2)⟩)
theorem rd_cue_no (hb : hB b B) (J : Jp b o so po (n + 1) S A) {v : Nat} (hv : v < 4) (hd : ¬ zDr A v) (a2 : Int32) (h : ∀ S', Jp b o so po n S' A → N (-1000003) (S', r)) : lcall B (S, r) (fun B1 K => w_L_cue B1 o (nI v) a2 (S, r) K) N := by
  have hA := Jp_A J
  refine lc_dr (o := o) ?_ (fun B1 z => ⟨rA_k hA, rA_k hA, z⟩)
  exact pd_no hb J hv hd (fun B1 sz ns hJ => Or.inr (Or.inl ⟨rfl, fun z1 z2 => h _ (hJ z1 z2)⟩))
theorem rd_cue (hb : hB b B) (J : Jp b o so po (n + 1) S A) {v : Nat} (hv : v < 4) (hd : zDr A v) {k : Nat} (hk : k < dm A v) (h : ∀ S', Jp b o so po n S' A → N (iCu A v k) (S', r)) : lcall B (S, r) (fun B1 K => w_L_cue B1 o (nI v) (nI k) (S, r) K) N := by
  have hA := Jp_A J
  refine lc_dr (o := o) ?_ (fun B1 z => ⟨rA_k hA, rA_k hA, z⟩)
  have hbd := (dm_ok (v := v) (rA_M hA)).1
  have hn24 := (rA_M hA).2.1
  refine pd_in hb J hv hd (fun B1 q lo pg S' p1 p2 p3 J' hr hJ => ?_)
  show (kdC S' q = 7) ∧ w_X11_requireIndex B1 (nI k) (fI S' 118 q) S' (fun t4 => (vp_in (nI k) (cLN 116)) ∧ (szC t4 ≤ B1.1 → nsC t4 ≤ B1.2 → N (fA t4 116 q (Int32.toNatClampNeg (nI k))) (t4, r))) _
  rw [show fI S' 118 q = nI (dm A v) from p2.1.1]
  refine ⟨p1.1, i_reqIdx hr (fun _ => ?_) (fun hc => ?_)⟩
  · rw [nI_clamp (show k < 2147483648 by omega)]
    refine ⟨vp_nI (n := 24) (by omega) (by decide), fun _ _ => ?_⟩
    have e : fA S' 116 q k = iCu A v k := (p2.1.2 k hk).2.2.2
    rw [e]
    exact h S' J'
  · exfalso
    rcases hc with hc | hc
    · exact nI_pos (by omega) hc
    · exact hc (nI_lt hk (by omega))
theorem rd_cue_out (hb : hB b B) (J : Jp b o so po (n + 1) S A) {v : Nat} (hv : v < 4) (hd : zDr A v) {a : Int32} (ha : a < 0 ∨ ¬ a < nI (dm A v)) (h : ∀ S', Jp b o so po n S' A → N (-1000001) (S', r)) : lcall B (S, r) (fun B1 K => w_L_cue B1 o (nI v) a (S, r) K) N := by
  have hA := Jp_A J
  refine lc_dr (o := o) ?_ (fun B1 z => ⟨rA_k hA, rA_k hA, z⟩)
  refine pd_in hb J hv hd (fun B1 q lo pg S' p1 p2 p3 J' hr hJ => ?_)
  show (kdC S' q = 7) ∧ w_X11_requireIndex B1 a (fI S' 118 q) S' (fun t4 => (vp_in a (cLN 116)) ∧ (szC t4 ≤ B1.1 → nsC t4 ≤ B1.2 → N (fA t4 116 q (Int32.toNatClampNeg a)) (t4, r))) _
  rw [show fI S' 118 q = nI (dm A v) from p2.1.1]
  exact ⟨p1.1, i_reqIdx hr (fun hc => absurd ha hc) (fun _ sz ns => Or.inr (Or.inr ⟨rfl, fun z1 z2 => h _ (hJ sz ns z1 z2)⟩))⟩
theorem rd_itemWidth_bad (hb : hB b B) (J : Jp b o so po (n + 1) S A) {a : Int32} (hz : v_isVoice a = 0) (a2 : Int32) (h : ∀ S', Jp b o so po n S' A → N (-1000002) (S', r)) : lcall B (S, r) (fun B1 K => w_L_itemWidth B1 o a a2 (S, r) K) N := by
  have hA := Jp_A J
  refine lc_dr (o := o) ?_ (fun B1 z => ⟨rA_k hA, rA_k hA, z⟩)
  exact pd_bad hb J hz (fun B1 sz ns hJ => Or.inl ⟨rfl, fun z1 z2 => h _ (hJ z1 z2)⟩)
theorem rd_itemWidth_no (hb : hB b B) (J : Jp b o so po (n + 1) S A) {v : Nat} (hv : v < 4) (hd : ¬ zDr A v) (a2 : Int32) (h : ∀ S', Jp b o so po n S' A → N (-1000003) (S', r)) : lcall B (S, r) (fun B1 K => w_L_itemWidth B1 o (nI v) a2 (S, r) K) N := by
  have hA := Jp_A J
  refine lc_dr (o := o) ?_ (fun B1 z => ⟨rA_k hA, rA_k hA, z⟩)
  exact pd_no hb J hv hd (fun B1 sz ns hJ => Or.inr (Or.inl ⟨rfl, fun z1 z2 => h _ (hJ z1 z2)⟩))
theorem rd_itemWidth (hb : hB b B) (J : Jp b o so po (n + 1) S A) {v : Nat} (hv : v < 4) (hd : zDr A v) {k : Nat} (hk : k < dm A v) (h : ∀ S', Jp b o so po n S' A → N (nI (dW A v k)) (S', r)) : lcall B (S, r) (fun B1 K => w_L_itemWidth B1 o (nI v) (nI k) (S, r) K) N := by
  have hA := Jp_A J
  refine lc_dr (o := o) ?_ (fun B1 z => ⟨rA_k hA, rA_k hA, z⟩)
  have hbd := (dm_ok (v := v) (rA_M hA)).1
  have hn24 := (rA_M hA).2.1
  refine pd_in hb J hv hd (fun B1 q lo pg S' p1 p2 p3 J' hr hJ => ?_)
  show (kdC S' q = 7) ∧ w_X11_requireIndex B1 (nI k) (fI S' 118 q) S' (fun t4 => (vp_in (nI k) (cLN 117)) ∧ (szC t4 ≤ B1.1 → nsC t4 ≤ B1.2 → N (fA t4 117 q (Int32.toNatClampNeg (nI k))) (t4, r))) _
  rw [show fI S' 118 q = nI (dm A v) from p2.1.1]
  refine ⟨p1.1, i_reqIdx hr (fun _ => ?_) (fun hc => ?_)⟩
  · rw [nI_clamp (show k < 2147483648 by omega)]
    refine ⟨vp_nI (n := 24) (by omega) (by decide), fun _ _ => ?_⟩
    have e : fA S' 117 q k = nI (dW A v k) := p2.2.1 k hk
    rw [e]
    exact h S' J'
  · exfalso
    rcases hc with hc | hc
    · exact nI_pos (by omega) hc
    · exact hc (nI_lt hk (by omega))
theorem rd_itemWidth_out (hb : hB b B) (J : Jp b o so po (n + 1) S A) {v : Nat} (hv : v < 4) (hd : zDr A v) {a : Int32} (ha : a < 0 ∨ ¬ a < nI (dm A v)) (h : ∀ S', Jp b o so po n S' A → N (-1000001) (S', r)) : lcall B (S, r) (fun B1 K => w_L_itemWidth B1 o (nI v) a (S, r) K) N := by
  have hA := Jp_A J
  refine lc_dr (o := o) ?_ (fun B1 z => ⟨rA_k hA, rA_k hA, z⟩)
  refine pd_in hb J hv hd (fun B1 q lo pg S' p1 p2 p3 J' hr hJ => ?_)
  show (kdC S' q = 7) ∧ w_X11_requireIndex B1 a (fI S' 118 q) S' (fun t4 => (vp_in a (cLN 117)) ∧ (szC t4 ≤ B1.1 → nsC t4 ≤ B1.2 → N (fA t4 117 q (Int32.toNatClampNeg a)) (t4, r))) _
  rw [show fI S' 118 q = nI (dm A v) from p2.1.1]
  exact ⟨p1.1, i_reqIdx hr (fun hc => absurd ha hc) (fun _ sz ns => Or.inr (Or.inr ⟨rfl, fun z1 z2 => h _ (hJ sz ns z1 z2)⟩))⟩
theorem rd_firstItem_bad (hb : hB b B) (J : Jp b o so po (n + 1) S A) {a : Int32} (hz : v_isVoice a = 0) (a2 : Int32) (h : ∀ S', Jp b o so po n S' A → N (-1000002) (S', r)) : lcall B (S, r) (fun B1 K => w_L_firstItem B1 o a a2 (S, r) K) N := by
  have hA := Jp_A J
  refine lc_dr (o := o) ?_ (fun B1 z => ⟨rA_k hA, rA_k hA, z⟩)
  exact pd_bad hb J hz (fun B1 sz ns hJ => Or.inl ⟨rfl, fun z1 z2 => h _ (hJ z1 z2)⟩)
theorem rd_firstItem_no (hb : hB b B) (J : Jp b o so po (n + 1) S A) {v : Nat} (hv : v < 4) (hd : ¬ zDr A v) (a2 : Int32) (h : ∀ S', Jp b o so po n S' A → N (-1000003) (S', r)) : lcall B (S, r) (fun B1 K => w_L_firstItem B1 o (nI v) a2 (S, r) K) N := by
  have hA := Jp_A J
  refine lc_dr (o := o) ?_ (fun B1 z => ⟨rA_k hA, rA_k hA, z⟩)
  exact pd_no hb J hv hd (fun B1 sz ns hJ => Or.inr (Or.inl ⟨rfl, fun z1 z2 => h _ (hJ z1 z2)⟩))
theorem rd_firstItem (hb : hB b B) (J : Jp b o so po (n + 1) S A) {v : Nat} (hv : v < 4) (hd : zDr A v) {k : Nat} (hk : k < dL A v) (h : ∀ S', Jp b o so po n S' A → N (nI (dF A v k)) (S', r)) : lcall B (S, r) (fun B1 K => w_L_firstItem B1 o (nI v) (nI k) (S, r) K) N := by
  have hA := Jp_A J
  refine lc_dr (o := o) ?_ (fun B1 z => ⟨rA_k hA, rA_k hA, z⟩)
  have hbd := (dL_ok (rA_M hA) (rA_S hA).2.2.2.2 hv).2.2
  have hm24 := (dm_ok (v := v) (rA_M hA)).1
  have hn24 := (rA_M hA).2.1
  refine pd_in hb J hv hd (fun B1 q lo pg S' p1 p2 p3 J' hr hJ => ?_)
  show (kdC S' q = 7) ∧ ((fR S' 119 q) ≠ none) ∧ (kdC S' (oG (fR S' 119 q)) = 4) ∧ w_X11_requireIndex B1 (nI k) (fI S' 65 (oG (fR S' 119 q))) S' (fun t4 => (vp_in (nI k) (cLN 64)) ∧ (szC t4 ≤ B1.1 → nsC t4 ≤ B1.2 → N (fA t4 64 (oG (fR S' 119 q)) (Int32.toNatClampNeg (nI k))) (t4, r))) _
  rw [(lo_of p1).1, show fI S' 65 lo = nI (dL A v) from p2.2.2.1.1]
  refine ⟨p1.1, ne_so p1.2.1, p1.2.2.2.1, i_reqIdx hr (fun _ => ?_) (fun hc => ?_)⟩
  · rw [nI_clamp (show k < 2147483648 by omega)]
    refine ⟨vp_nI (n := 24) (by omega) (by decide), fun _ _ => ?_⟩
    have e : fA S' 64 lo k = nI (dF A v k) := p2.2.2.1.2.1 k hk
    rw [e]
    exact h S' J'
  · exfalso
    rcases hc with hc | hc
    · exact nI_pos (by omega) hc
    · exact hc (nI_lt hk (by omega))
theorem rd_firstItem_out (hb : hB b B) (J : Jp b o so po (n + 1) S A) {v : Nat} (hv : v < 4) (hd : zDr A v) {a : Int32} (ha : a < 0 ∨ ¬ a < nI (dL A v)) (h : ∀ S', Jp b o so po n S' A → N (-1000001) (S', r)) : lcall B (S, r) (fun B1 K => w_L_firstItem B1 o (nI v) a (S, r) K) N := by
  have hA := Jp_A J
  refine lc_dr (o := o) ?_ (fun B1 z => ⟨rA_k hA, rA_k hA, z⟩)
  refine pd_in hb J hv hd (fun B1 q lo pg S' p1 p2 p3 J' hr hJ => ?_)
  show (kdC S' q = 7) ∧ ((fR S' 119 q) ≠ none) ∧ (kdC S' (oG (fR S' 119 q)) = 4) ∧ w_X11_requireIndex B1 a (fI S' 65 (oG (fR S' 119 q))) S' (fun t4 => (vp_in a (cLN 64)) ∧ (szC t4 ≤ B1.1 → nsC t4 ≤ B1.2 → N (fA t4 64 (oG (fR S' 119 q)) (Int32.toNatClampNeg a)) (t4, r))) _
  rw [(lo_of p1).1, show fI S' 65 lo = nI (dL A v) from p2.2.2.1.1]
  exact ⟨p1.1, ne_so p1.2.1, p1.2.2.2.1, i_reqIdx hr (fun hc => absurd ha hc) (fun _ sz ns => Or.inr (Or.inr ⟨rfl, fun z1 z2 => h _ (hJ sz ns z1 z2)⟩))⟩
theorem rd_pageLines_bad (hb : hB b B) (J : Jp b o so po (n + 1) S A) {a : Int32} (hz : v_isVoice a = 0) (a2 : Int32) (h : ∀ S', Jp b o so po n S' A → N (-1000002) (S', r)) : lcall B (S, r) (fun B1 K => w_L_pageLines B1 o a a2 (S, r) K) N := by
  have hA := Jp_A J
  refine lc_dr (o := o) ?_ (fun B1 z => ⟨rA_k hA, rA_k hA, z⟩)
  exact pd_bad hb J hz (fun B1 sz ns hJ => Or.inl ⟨rfl, fun z1 z2 => h _ (hJ z1 z2)⟩)
theorem rd_pageLines_no (hb : hB b B) (J : Jp b o so po (n + 1) S A) {v : Nat} (hv : v < 4) (hd : ¬ zDr A v) (a2 : Int32) (h : ∀ S', Jp b o so po n S' A → N (-1000003) (S', r)) : lcall B (S, r) (fun B1 K => w_L_pageLines B1 o (nI v) a2 (S, r) K) N := by
  have hA := Jp_A J
  refine lc_dr (o := o) ?_ (fun B1 z => ⟨rA_k hA, rA_k hA, z⟩)
  exact pd_no hb J hv hd (fun B1 sz ns hJ => Or.inr (Or.inl ⟨rfl, fun z1 z2 => h _ (hJ z1 z2)⟩))
theorem rd_pageLines (hb : hB b B) (J : Jp b o so po (n + 1) S A) {v : Nat} (hv : v < 4) (hd : zDr A v) {k : Nat} (hk : k < kNp A v) (h : ∀ S', Jp b o so po n S' A → N (nI (kCh A v k)) (S', r)) : lcall B (S, r) (fun B1 K => w_L_pageLines B1 o (nI v) (nI k) (S, r) K) N := by
  have hA := Jp_A J
  refine lc_dr (o := o) ?_ (fun B1 z => ⟨rA_k hA, rA_k hA, z⟩)
  have hbd := kNp_48 S A v hA hv
  refine pd_in hb J hv hd (fun B1 q lo pg S' p1 p2 p3 J' hr hJ => ?_)
  show (kdC S' q = 7) ∧ ((fR S' 120 q) ≠ none) ∧ (kdC S' (oG (fR S' 120 q)) = 6) ∧ w_X11_requireIndex B1 (nI k) (fI S' 98 (oG (fR S' 120 q))) S' (fun t4 => (vp_in (nI k) (cLN 96)) ∧ (szC t4 ≤ B1.1 → nsC t4 ≤ B1.2 → N (fA t4 96 (oG (fR S' 120 q)) (Int32.toNatClampNeg (nI k))) (t4, r))) _
  rw [(lo_of p1).2, show fI S' 98 pg = nI (kNp A v) from p2.2.2.2.2.1]
  refine ⟨p1.1, ne_so p1.2.2.1, p1.2.2.2.2.1, i_reqIdx hr (fun _ => ?_) (fun hc => ?_)⟩
  · rw [nI_clamp (show k < 2147483648 by omega)]
    refine ⟨vp_nI (n := 48) (by omega) (by decide), fun _ _ => ?_⟩
    have e : fA S' 96 pg k = nI (kCh A v k) := (p2.2.2.2.2.2.2.1 k hk).1
    rw [e]
    exact h S' J'
  · exfalso
    rcases hc with hc | hc
    · exact nI_pos (by omega) hc
    · exact hc (nI_lt hk (by omega))
theorem rd_pageLines_out (hb : hB b B) (J : Jp b o so po (n + 1) S A) {v : Nat} (hv : v < 4) (hd : zDr A v) {a : Int32} (ha : a < 0 ∨ ¬ a < nI (kNp A v)) (h : ∀ S', Jp b o so po n S' A → N (-1000001) (S', r)) : lcall B (S, r) (fun B1 K => w_L_pageLines B1 o (nI v) a (S, r) K) N := by
  have hA := Jp_A J
  refine lc_dr (o := o) ?_ (fun B1 z => ⟨rA_k hA, rA_k hA, z⟩)
  refine pd_in hb J hv hd (fun B1 q lo pg S' p1 p2 p3 J' hr hJ => ?_)
  show (kdC S' q = 7) ∧ ((fR S' 120 q) ≠ none) ∧ (kdC S' (oG (fR S' 120 q)) = 6) ∧ w_X11_requireIndex B1 a (fI S' 98 (oG (fR S' 120 q))) S' (fun t4 => (vp_in a (cLN 96)) ∧ (szC t4 ≤ B1.1 → nsC t4 ≤ B1.2 → N (fA t4 96 (oG (fR S' 120 q)) (Int32.toNatClampNeg a)) (t4, r))) _
  rw [(lo_of p1).2, show fI S' 98 pg = nI (kNp A v) from p2.2.2.2.2.1]
  exact ⟨p1.1, ne_so p1.2.2.1, p1.2.2.2.2.1, i_reqIdx hr (fun hc => absurd ha hc) (fun _ sz ns => Or.inr (Or.inr ⟨rfl, fun z1 z2 => h _ (hJ sz ns z1 z2)⟩))⟩
theorem rd_turnBar_bad (hb : hB b B) (J : Jp b o so po (n + 1) S A) {a : Int32} (hz : v_isVoice a = 0) (a2 : Int32) (h : ∀ S', Jp b o so po n S' A → N (-1000002) (S', r)) : lcall B (S, r) (fun B1 K => w_L_turnBar B1 o a a2 (S, r) K) N := by
  have hA := Jp_A J
  refine lc_dr (o := o) ?_ (fun B1 z => ⟨rA_k hA, rA_k hA, z⟩)
  exact pd_bad hb J hz (fun B1 sz ns hJ => Or.inl ⟨rfl, fun z1 z2 => h _ (hJ z1 z2)⟩)
theorem rd_turnBar_no (hb : hB b B) (J : Jp b o so po (n + 1) S A) {v : Nat} (hv : v < 4) (hd : ¬ zDr A v) (a2 : Int32) (h : ∀ S', Jp b o so po n S' A → N (-1000003) (S', r)) : lcall B (S, r) (fun B1 K => w_L_turnBar B1 o (nI v) a2 (S, r) K) N := by
  have hA := Jp_A J
  refine lc_dr (o := o) ?_ (fun B1 z => ⟨rA_k hA, rA_k hA, z⟩)
  exact pd_no hb J hv hd (fun B1 sz ns hJ => Or.inr (Or.inl ⟨rfl, fun z1 z2 => h _ (hJ z1 z2)⟩))
theorem rd_turnBar (hb : hB b B) (J : Jp b o so po (n + 1) S A) {v : Nat} (hv : v < 4) (hd : zDr A v) {k : Nat} (hk : k < kTc A v) (h : ∀ S', Jp b o so po n S' A → N (nI (dB A v (kTl A v k) - 1)) (S', r)) : lcall B (S, r) (fun B1 K => w_L_turnBar B1 o (nI v) (nI k) (S, r) K) N := by
  have hA := Jp_A J
  refine lc_dr (o := o) ?_ (fun B1 z => ⟨rA_k hA, rA_k hA, z⟩)
  have hbd := (kX hA hv).2.2.2
  obtain ⟨x1, x2, x3, x4⟩ := kX hA hv
  obtain ⟨l1, l2⟩ := gTl_ok x1 (kNp A v) (Nat.le_refl _) k hk
  refine pd_in hb J hv hd (fun B1 q lo pg S' p1 p2 p3 J' hr hJ => ?_)
  show (kdC S' q = 7) ∧ ((fR S' 120 q) ≠ none) ∧ (kdC S' (oG (fR S' 120 q)) = 6) ∧ w_X11_requireIndex B1 (nI k) (fI S' 100 (oG (fR S' 120 q))) S' (fun t4 => (vp_in (nI k) (cLN 99)) ∧ (vp_in (fA t4 99 (oG (fR S' 120 q)) (Int32.toNatClampNeg (nI k))) (cLN 101)) ∧ (szC t4 ≤ B1.1 → nsC t4 ≤ B1.2 → N (fA t4 101 (oG (fR S' 120 q)) (Int32.toNatClampNeg (fA t4 99 (oG (fR S' 120 q)) (Int32.toNatClampNeg (nI k))))) (t4, r))) _
  rw [(lo_of p1).2, show fI S' 100 pg = nI (kTc A v) from p2.2.2.2.2.2.1]
  refine ⟨p1.1, ne_so p1.2.2.1, p1.2.2.2.2.1, i_reqIdx hr (fun _ => ?_) (fun hc => ?_)⟩
  · rw [nI_clamp (show k < 2147483648 by omega)]
    have e99 : fA S' 99 pg k = nI (kTl A v k) := p2.2.2.2.2.2.2.2 k hk
    have l1' : 1 ≤ kTl A v k := l1
    have l2' : kTl A v k < dL A v := l2
    rw [e99, nI_clamp (show kTl A v k < 2147483648 by omega)]
    refine ⟨vp_nI (n := 24) (by omega) (by decide), vp_nI (n := 24) (by omega) (by decide), fun _ _ => ?_⟩
    have e : fA S' 101 pg (kTl A v k) = nI (dB A v (kTl A v k) - 1) := (p2.2.2.2.1 _ l1' l2').1
    rw [e]
    exact h S' J'
  · exfalso
    rcases hc with hc | hc
    · exact nI_pos (by omega) hc
    · exact hc (nI_lt hk (by omega))
theorem rd_turnBar_out (hb : hB b B) (J : Jp b o so po (n + 1) S A) {v : Nat} (hv : v < 4) (hd : zDr A v) {a : Int32} (ha : a < 0 ∨ ¬ a < nI (kTc A v)) (h : ∀ S', Jp b o so po n S' A → N (-1000001) (S', r)) : lcall B (S, r) (fun B1 K => w_L_turnBar B1 o (nI v) a (S, r) K) N := by
  have hA := Jp_A J
  refine lc_dr (o := o) ?_ (fun B1 z => ⟨rA_k hA, rA_k hA, z⟩)
  refine pd_in hb J hv hd (fun B1 q lo pg S' p1 p2 p3 J' hr hJ => ?_)
  show (kdC S' q = 7) ∧ ((fR S' 120 q) ≠ none) ∧ (kdC S' (oG (fR S' 120 q)) = 6) ∧ w_X11_requireIndex B1 a (fI S' 100 (oG (fR S' 120 q))) S' (fun t4 => (vp_in a (cLN 99)) ∧ (vp_in (fA t4 99 (oG (fR S' 120 q)) (Int32.toNatClampNeg a)) (cLN 101)) ∧ (szC t4 ≤ B1.1 → nsC t4 ≤ B1.2 → N (fA t4 101 (oG (fR S' 120 q)) (Int32.toNatClampNeg (fA t4 99 (oG (fR S' 120 q)) (Int32.toNatClampNeg a)))) (t4, r))) _
  rw [(lo_of p1).2, show fI S' 100 pg = nI (kTc A v) from p2.2.2.2.2.2.1]
  exact ⟨p1.1, ne_so p1.2.2.1, p1.2.2.2.2.1, i_reqIdx hr (fun hc => absurd ha hc) (fun _ sz ns => Or.inr (Or.inr ⟨rfl, fun z1 z2 => h _ (hJ sz ns z1 z2)⟩))⟩
theorem rd_turnTime_bad (hb : hB b B) (J : Jp b o so po (n + 1) S A) {a : Int32} (hz : v_isVoice a = 0) (a2 : Int32) (h : ∀ S', Jp b o so po n S' A → N (-1000002) (S', r)) : lcall B (S, r) (fun B1 K => w_L_turnTime B1 o a a2 (S, r) K) N := by
  have hA := Jp_A J
  refine lc_dr (o := o) ?_ (fun B1 z => ⟨rA_k hA, rA_k hA, z⟩)
  exact pd_bad hb J hz (fun B1 sz ns hJ => Or.inl ⟨rfl, fun z1 z2 => h _ (hJ z1 z2)⟩)
theorem rd_turnTime_no (hb : hB b B) (J : Jp b o so po (n + 1) S A) {v : Nat} (hv : v < 4) (hd : ¬ zDr A v) (a2 : Int32) (h : ∀ S', Jp b o so po n S' A → N (-1000003) (S', r)) : lcall B (S, r) (fun B1 K => w_L_turnTime B1 o (nI v) a2 (S, r) K) N := by
  have hA := Jp_A J
  refine lc_dr (o := o) ?_ (fun B1 z => ⟨rA_k hA, rA_k hA, z⟩)
  exact pd_no hb J hv hd (fun B1 sz ns hJ => Or.inr (Or.inl ⟨rfl, fun z1 z2 => h _ (hJ z1 z2)⟩))
theorem rd_turnTime (hb : hB b B) (J : Jp b o so po (n + 1) S A) {v : Nat} (hv : v < 4) (hd : zDr A v) {k : Nat} (hk : k < kTc A v) (h : ∀ S', Jp b o so po n S' A → N (nI (dT A v (kTl A v k))) (S', r)) : lcall B (S, r) (fun B1 K => w_L_turnTime B1 o (nI v) (nI k) (S, r) K) N := by
  have hA := Jp_A J
  refine lc_dr (o := o) ?_ (fun B1 z => ⟨rA_k hA, rA_k hA, z⟩)
  have hbd := (kX hA hv).2.2.2
  obtain ⟨x1, x2, x3, x4⟩ := kX hA hv
  obtain ⟨l1, l2⟩ := gTl_ok x1 (kNp A v) (Nat.le_refl _) k hk
  refine pd_in hb J hv hd (fun B1 q lo pg S' p1 p2 p3 J' hr hJ => ?_)
  show (kdC S' q = 7) ∧ ((fR S' 120 q) ≠ none) ∧ (kdC S' (oG (fR S' 120 q)) = 6) ∧ w_X11_requireIndex B1 (nI k) (fI S' 100 (oG (fR S' 120 q))) S' (fun t4 => (vp_in (nI k) (cLN 99)) ∧ (vp_in (fA t4 99 (oG (fR S' 120 q)) (Int32.toNatClampNeg (nI k))) (cLN 102)) ∧ (szC t4 ≤ B1.1 → nsC t4 ≤ B1.2 → N (fA t4 102 (oG (fR S' 120 q)) (Int32.toNatClampNeg (fA t4 99 (oG (fR S' 120 q)) (Int32.toNatClampNeg (nI k))))) (t4, r))) _
  rw [(lo_of p1).2, show fI S' 100 pg = nI (kTc A v) from p2.2.2.2.2.2.1]
  refine ⟨p1.1, ne_so p1.2.2.1, p1.2.2.2.2.1, i_reqIdx hr (fun _ => ?_) (fun hc => ?_)⟩
  · rw [nI_clamp (show k < 2147483648 by omega)]
    have e99 : fA S' 99 pg k = nI (kTl A v k) := p2.2.2.2.2.2.2.2 k hk
    have l1' : 1 ≤ kTl A v k := l1
    have l2' : kTl A v k < dL A v := l2
    rw [e99, nI_clamp (show kTl A v k < 2147483648 by omega)]
    refine ⟨vp_nI (n := 24) (by omega) (by decide), vp_nI (n := 24) (by omega) (by decide), fun _ _ => ?_⟩
    have e : fA S' 102 pg (kTl A v k) = nI (dT A v (kTl A v k)) := (p2.2.2.2.1 _ l1' l2').2.1
    rw [e]
    exact h S' J'
  · exfalso
    rcases hc with hc | hc
    · exact nI_pos (by omega) hc
    · exact hc (nI_lt hk (by omega))
theorem rd_turnTime_out (hb : hB b B) (J : Jp b o so po (n + 1) S A) {v : Nat} (hv : v < 4) (hd : zDr A v) {a : Int32} (ha : a < 0 ∨ ¬ a < nI (kTc A v)) (h : ∀ S', Jp b o so po n S' A → N (-1000001) (S', r)) : lcall B (S, r) (fun B1 K => w_L_turnTime B1 o (nI v) a (S, r) K) N := by
  have hA := Jp_A J
  refine lc_dr (o := o) ?_ (fun B1 z => ⟨rA_k hA, rA_k hA, z⟩)
  refine pd_in hb J hv hd (fun B1 q lo pg S' p1 p2 p3 J' hr hJ => ?_)
  show (kdC S' q = 7) ∧ ((fR S' 120 q) ≠ none) ∧ (kdC S' (oG (fR S' 120 q)) = 6) ∧ w_X11_requireIndex B1 a (fI S' 100 (oG (fR S' 120 q))) S' (fun t4 => (vp_in a (cLN 99)) ∧ (vp_in (fA t4 99 (oG (fR S' 120 q)) (Int32.toNatClampNeg a)) (cLN 102)) ∧ (szC t4 ≤ B1.1 → nsC t4 ≤ B1.2 → N (fA t4 102 (oG (fR S' 120 q)) (Int32.toNatClampNeg (fA t4 99 (oG (fR S' 120 q)) (Int32.toNatClampNeg a)))) (t4, r))) _
  rw [(lo_of p1).2, show fI S' 100 pg = nI (kTc A v) from p2.2.2.2.2.2.1]
  exact ⟨p1.1, ne_so p1.2.2.1, p1.2.2.2.2.1, i_reqIdx hr (fun hc => absurd ha hc) (fun _ sz ns => Or.inr (Or.inr ⟨rfl, fun z1 z2 => h _ (hJ sz ns z1 z2)⟩))⟩
theorem rd_turnRest_bad (hb : hB b B) (J : Jp b o so po (n + 1) S A) {a : Int32} (hz : v_isVoice a = 0) (a2 : Int32) (h : ∀ S', Jp b o so po n S' A → N (-1000002) (S', r)) : lcall B (S, r) (fun B1 K => w_L_turnRest B1 o a a2 (S, r) K) N := by
  have hA := Jp_A J
  refine lc_dr (o := o) ?_ (fun B1 z => ⟨rA_k hA, rA_k hA, z⟩)
  exact pd_bad hb J hz (fun B1 sz ns hJ => Or.inl ⟨rfl, fun z1 z2 => h _ (hJ z1 z2)⟩)
theorem rd_turnRest_no (hb : hB b B) (J : Jp b o so po (n + 1) S A) {v : Nat} (hv : v < 4) (hd : ¬ zDr A v) (a2 : Int32) (h : ∀ S', Jp b o so po n S' A → N (-1000003) (S', r)) : lcall B (S, r) (fun B1 K => w_L_turnRest B1 o (nI v) a2 (S, r) K) N := by
  have hA := Jp_A J
  refine lc_dr (o := o) ?_ (fun B1 z => ⟨rA_k hA, rA_k hA, z⟩)
  exact pd_no hb J hv hd (fun B1 sz ns hJ => Or.inr (Or.inl ⟨rfl, fun z1 z2 => h _ (hJ z1 z2)⟩))
theorem rd_turnRest (hb : hB b B) (J : Jp b o so po (n + 1) S A) {v : Nat} (hv : v < 4) (hd : zDr A v) {k : Nat} (hk : k < kTc A v) (h : ∀ S', Jp b o so po n S' A → N (nI (dR A v (kTl A v k))) (S', r)) : lcall B (S, r) (fun B1 K => w_L_turnRest B1 o (nI v) (nI k) (S, r) K) N := by
  have hA := Jp_A J
  refine lc_dr (o := o) ?_ (fun B1 z => ⟨rA_k hA, rA_k hA, z⟩)
  have hbd := (kX hA hv).2.2.2
  obtain ⟨x1, x2, x3, x4⟩ := kX hA hv
  obtain ⟨l1, l2⟩ := gTl_ok x1 (kNp A v) (Nat.le_refl _) k hk
  refine pd_in hb J hv hd (fun B1 q lo pg S' p1 p2 p3 J' hr hJ => ?_)
  show (kdC S' q = 7) ∧ ((fR S' 120 q) ≠ none) ∧ (kdC S' (oG (fR S' 120 q)) = 6) ∧ w_X11_requireIndex B1 (nI k) (fI S' 100 (oG (fR S' 120 q))) S' (fun t4 => (vp_in (nI k) (cLN 99)) ∧ (vp_in (fA t4 99 (oG (fR S' 120 q)) (Int32.toNatClampNeg (nI k))) (cLN 103)) ∧ (szC t4 ≤ B1.1 → nsC t4 ≤ B1.2 → N (fA t4 103 (oG (fR S' 120 q)) (Int32.toNatClampNeg (fA t4 99 (oG (fR S' 120 q)) (Int32.toNatClampNeg (nI k))))) (t4, r))) _
  rw [(lo_of p1).2, show fI S' 100 pg = nI (kTc A v) from p2.2.2.2.2.2.1]
  refine ⟨p1.1, ne_so p1.2.2.1, p1.2.2.2.2.1, i_reqIdx hr (fun _ => ?_) (fun hc => ?_)⟩
  · rw [nI_clamp (show k < 2147483648 by omega)]
    have e99 : fA S' 99 pg k = nI (kTl A v k) := p2.2.2.2.2.2.2.2 k hk
    have l1' : 1 ≤ kTl A v k := l1
    have l2' : kTl A v k < dL A v := l2
    rw [e99, nI_clamp (show kTl A v k < 2147483648 by omega)]
    refine ⟨vp_nI (n := 24) (by omega) (by decide), vp_nI (n := 24) (by omega) (by decide), fun _ _ => ?_⟩
    have e : fA S' 103 pg (kTl A v k) = nI (dR A v (kTl A v k)) := (p2.2.2.2.1 _ l1' l2').2.2.1
    rw [e]
    exact h S' J'
  · exfalso
    rcases hc with hc | hc
    · exact nI_pos (by omega) hc
    · exact hc (nI_lt hk (by omega))
theorem rd_turnRest_out (hb : hB b B) (J : Jp b o so po (n + 1) S A) {v : Nat} (hv : v < 4) (hd : zDr A v) {a : Int32} (ha : a < 0 ∨ ¬ a < nI (kTc A v)) (h : ∀ S', Jp b o so po n S' A → N (-1000001) (S', r)) : lcall B (S, r) (fun B1 K => w_L_turnRest B1 o (nI v) a (S, r) K) N := by
  have hA := Jp_A J
  refine lc_dr (o := o) ?_ (fun B1 z => ⟨rA_k hA, rA_k hA, z⟩)
  refine pd_in hb J hv hd (fun B1 q lo pg S' p1 p2 p3 J' hr hJ => ?_)
  show (kdC S' q = 7) ∧ ((fR S' 120 q) ≠ none) ∧ (kdC S' (oG (fR S' 120 q)) = 6) ∧ w_X11_requireIndex B1 a (fI S' 100 (oG (fR S' 120 q))) S' (fun t4 => (vp_in a (cLN 99)) ∧ (vp_in (fA t4 99 (oG (fR S' 120 q)) (Int32.toNatClampNeg a)) (cLN 103)) ∧ (szC t4 ≤ B1.1 → nsC t4 ≤ B1.2 → N (fA t4 103 (oG (fR S' 120 q)) (Int32.toNatClampNeg (fA t4 99 (oG (fR S' 120 q)) (Int32.toNatClampNeg a)))) (t4, r))) _
  rw [(lo_of p1).2, show fI S' 100 pg = nI (kTc A v) from p2.2.2.2.2.2.1]
  exact ⟨p1.1, ne_so p1.2.2.1, p1.2.2.2.2.1, i_reqIdx hr (fun hc => absurd ha hc) (fun _ sz ns => Or.inr (Or.inr ⟨rfl, fun z1 z2 => h _ (hJ sz ns z1 z2)⟩))⟩
theorem rd_pageOf_bad (hb : hB b B) (J : Jp b o so po (n + 1) S A) {a : Int32} (hz : v_isVoice a = 0) (a2 : Int32) (h : ∀ S', Jp b o so po n S' A → N (-1000002) (S', r)) : lcall B (S, r) (fun B1 K => w_L_pageOf B1 o a a2 (S, r) K) N := by
  have hA := Jp_A J
  refine lc_dr (o := o) ?_ (fun B1 z => ⟨rA_k hA, rA_k hA, z⟩)
  exact pd_bad hb J hz (fun B1 sz ns hJ => Or.inl ⟨rfl, fun z1 z2 => h _ (hJ z1 z2)⟩)
theorem rd_pageOf_no (hb : hB b B) (J : Jp b o so po (n + 1) S A) {v : Nat} (hv : v < 4) (hd : ¬ zDr A v) (a2 : Int32) (h : ∀ S', Jp b o so po n S' A → N (-1000003) (S', r)) : lcall B (S, r) (fun B1 K => w_L_pageOf B1 o (nI v) a2 (S, r) K) N := by
  have hA := Jp_A J
  refine lc_dr (o := o) ?_ (fun B1 z => ⟨rA_k hA, rA_k hA, z⟩)
  exact pd_no hb J hv hd (fun B1 sz ns hJ => Or.inr (Or.inl ⟨rfl, fun z1 z2 => h _ (hJ z1 z2)⟩))
theorem rd_pageOf (hb : hB b B) (J : Jp b o so po (n + 1) S A) {v : Nat} (hv : v < 4) (hd : zDr A v) {k : Nat} (hk : k < zN A) (h : ∀ l p, isLn A v k l → isPg (dPg A v) (dL A v) l p → ∀ S', Jp b o so po n S' A → N (nI p) (S', r)) : lcall B (S, r) (fun B1 K => w_L_pageOf B1 o (nI v) (nI k) (S, r) K) N := by
  have hA := Jp_A J
  obtain ⟨x1, x2, x3, x4⟩ := kX hA hv
  have hn24 := (rA_M hA).2.1
  refine lc_dr (o := o) ?_ (fun B1 z => ⟨rA_k hA, rA_k hA, z⟩)
  refine pd_in hb J hv hd (fun B1 q lo pg S' p1 p2 p3 J' hr hJ => ?_)
  show w_X11_requireBar B1 o (nI k) S' (fun t3 => (kdC t3 q = 7) ∧ ((fR t3 120 q) ≠ none) ∧ w_X4_lineWithBar B1 q (nI k) t3 (fun r6 t6 => (kdC t6 (oG (fR t3 120 q)) = 6) ∧ w_X3_pageWithLine B1 (oG (fR t3 120 q)) r6 t6 (fun r8 t8 => szC t8 ≤ B1.1 → nsC t8 ≤ B1.2 → N r8 (t8, r)) _) _) _
  refine a_B p3 hr (fun i hi ei hz => ⟨p1.1, ne_so p1.2.2.1, ?_⟩) (fun z => absurd z (isBar_in (rA_M p3) hk))
  rw [(lo_of p1).2]
  exact cc_lineWithBar (rA_M hA) (rA_S hA).2.2.2.2 hv hd.1 p1 p2 (b := k) (by omega) (fun l hl => ⟨p1.2.2.2.2.1, cc_pageWithLine x1 x2 p1.2.2.2.2.1 p2.2.2.2.2 hl.1 (fun p hp _ _ => h l p hl hp S' J')⟩)
theorem rd_pageOf_out (hb : hB b B) (J : Jp b o so po (n + 1) S A) {v : Nat} (hv : v < 4) (hd : zDr A v) {a : Int32} (hz : v_isBar a A = 0) (h : ∀ S', Jp b o so po n S' A → N (-1000001) (S', r)) : lcall B (S, r) (fun B1 K => w_L_pageOf B1 o (nI v) a (S, r) K) N := by
  have hA := Jp_A J
  refine lc_dr (o := o) ?_ (fun B1 z => ⟨rA_k hA, rA_k hA, z⟩)
  refine pd_in hb J hv hd (fun B1 q lo pg S' p1 p2 p3 J' hr hJ => ?_)
  show w_X11_requireBar B1 o a S' (fun t3 => (kdC t3 q = 7) ∧ ((fR t3 120 q) ≠ none) ∧ w_X4_lineWithBar B1 q a t3 (fun r6 t6 => (kdC t6 (oG (fR t3 120 q)) = 6) ∧ w_X3_pageWithLine B1 (oG (fR t3 120 q)) r6 t6 (fun r8 t8 => szC t8 ≤ B1.1 → nsC t8 ≤ B1.2 → N r8 (t8, r)) _) _) _
  exact a_B p3 hr (fun i hi ei hz2 => absurd hz hz2) (fun _ sz ns => Or.inr (Or.inr ⟨rfl, fun z1 z2 => h _ (hJ sz ns z1 z2)⟩))
theorem rd_sheetPage_bad (hb : hB b B) (J : Jp b o so po (n + 1) S A) {a : Int32} (hz : v_isVoice a = 0) (a2 a3 a4 : Int32) (h : ∀ S', Jp b o so po n S' A → N (-1000002) (S', r)) : lcall B (S, r) (fun B1 K => w_L_sheetPage B1 o a a2 a3 a4 (S, r) K) N := by
  have hA := Jp_A J
  refine lc_dr (o := o) ?_ (fun B1 z => ⟨rA_k hA, rA_k hA, z⟩)
  exact pd_bad hb J hz (fun B1 sz ns hJ => Or.inl ⟨rfl, fun z1 z2 => h _ (hJ z1 z2)⟩)
theorem rd_sheetPage_no (hb : hB b B) (J : Jp b o so po (n + 1) S A) {v : Nat} (hv : v < 4) (hd : ¬ zDr A v) (a2 a3 a4 : Int32) (h : ∀ S', Jp b o so po n S' A → N (-1000003) (S', r)) : lcall B (S, r) (fun B1 K => w_L_sheetPage B1 o (nI v) a2 a3 a4 (S, r) K) N := by
  have hA := Jp_A J
  refine lc_dr (o := o) ?_ (fun B1 z => ⟨rA_k hA, rA_k hA, z⟩)
  exact pd_no hb J hv hd (fun B1 sz ns hJ => Or.inr (Or.inl ⟨rfl, fun z1 z2 => h _ (hJ z1 z2)⟩))
theorem rd_sheetPage (hb : hB b B) (J : Jp b o so po (n + 1) S A) {v : Nat} (hv : v < 4) (hd : zDr A v) {k : Nat} (hk : k < kSh A v) (a3 a4 : Int32) (h : ∀ S', Jp b o so po n S' A → N (if a3 = a4 then nI (4 * kSh A v) - 1 - (nI (2 * k) + (if a3 = 0 then 1 else 0)) else nI (2 * k) + (if a3 = 0 then 1 else 0)) (S', r)) : lcall B (S, r) (fun B1 K => w_L_sheetPage B1 o (nI v) (nI k) a3 a4 (S, r) K) N := by
  have hA := Jp_A J
  have h48 := kSh_48 S A v hA hv
  refine lc_dr (o := o) ?_ (fun B1 z => ⟨rA_k hA, rA_k hA, z⟩)
  refine pd_in hb J hv hd (fun B1 q lo pg S' p1 p2 p3 J' hr hJ => ?_)
  show (kdC S' q = 7) ∧ ((fR S' 120 q) ≠ none) ∧ (kdC S' (oG (fR S' 120 q)) = 6) ∧ ∀ x6 : Int32, x6 = (v_X11_sheetsFor (fI S' 98 (oG (fR S' 120 q)))) → w_X11_requireIndex B1 (nI k) x6 S' (fun t7 => ∀ x8 : Int32, x8 = (if a3 = 0 then 1 else 0) → ∀ x9 : Int32, x9 = ((2 * (nI k)) + x8) → ∀ x10 : Int32, x10 = (if a3 = a4 then (((4 * x6) - 1) - x9) else x9) → szC t7 ≤ B1.1 → nsC t7 ≤ B1.2 → N x10 (t7, r)) _
  rw [(lo_of p1).2, show fI S' 98 pg = nI (kNp A v) from p2.2.2.2.2.1, sh_nI (kX hA hv).2.2.1]
  refine ⟨p1.1, ne_so p1.2.2.1, p1.2.2.2.2.1, fun x6 hx6 => ?_⟩
  rw [hx6]
  refine i_reqIdx hr (fun _ x8 hx8 x9 hx9 x10 hx10 _ _ => ?_) (fun hc => ?_)
  · have e1 : (4 : Int32) * nI ((kNp A v + 3) / 4) = nI (4 * kSh A v) := pk_mul 4 (kSh A v)
    have e2 : (2 : Int32) * nI k = nI (2 * k) := pk_mul 2 k
    rw [hx10, hx9, hx8, e1, e2]
    exact h S' J'
  · exfalso
    rcases hc with hc | hc
    · exact nI_pos (by omega) hc
    · exact hc (nI_lt (b := kSh A v) hk (by omega))
theorem rd_sheetPage_out (hb : hB b B) (J : Jp b o so po (n + 1) S A) {v : Nat} (hv : v < 4) (hd : zDr A v) {a : Int32} (ha : a < 0 ∨ ¬ a < nI (kSh A v)) (a3 a4 : Int32) (h : ∀ S', Jp b o so po n S' A → N (-1000001) (S', r)) : lcall B (S, r) (fun B1 K => w_L_sheetPage B1 o (nI v) a a3 a4 (S, r) K) N := by
  have hA := Jp_A J
  refine lc_dr (o := o) ?_ (fun B1 z => ⟨rA_k hA, rA_k hA, z⟩)
  refine pd_in hb J hv hd (fun B1 q lo pg S' p1 p2 p3 J' hr hJ => ?_)
  show (kdC S' q = 7) ∧ ((fR S' 120 q) ≠ none) ∧ (kdC S' (oG (fR S' 120 q)) = 6) ∧ ∀ x6 : Int32, x6 = (v_X11_sheetsFor (fI S' 98 (oG (fR S' 120 q)))) → w_X11_requireIndex B1 a x6 S' (fun t7 => ∀ x8 : Int32, x8 = (if a3 = 0 then 1 else 0) → ∀ x9 : Int32, x9 = ((2 * a) + x8) → ∀ x10 : Int32, x10 = (if a3 = a4 then (((4 * x6) - 1) - x9) else x9) → szC t7 ≤ B1.1 → nsC t7 ≤ B1.2 → N x10 (t7, r)) _
  rw [(lo_of p1).2, show fI S' 98 pg = nI (kNp A v) from p2.2.2.2.2.1, sh_nI (kX hA hv).2.2.1]
  refine ⟨p1.1, ne_so p1.2.2.1, p1.2.2.2.2.1, fun x6 hx6 => ?_⟩
  rw [hx6]
  exact i_reqIdx hr (fun hc => absurd ha hc) (fun _ sz ns => Or.inr (Or.inr ⟨rfl, fun z1 z2 => h _ (hJ sz ns z1 z2)⟩))
end DR
