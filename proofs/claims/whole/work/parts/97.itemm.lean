/-! THE MODEL LAYS ITEMS -/
def iM (A : MS) (v : Nat) (t : MS) (s : IT) : Prop := t.1 32 = nI s.1 ∧ ∀ k, k < s.1 → t.2 33 k = nI (s.2.1 k) ∧ t.2 34 k = nI (s.2.2.1 k) ∧ t.2 35 k = nI (s.2.2.2.1 k) ∧ t.2 36 k = s.2.2.2.2 k ∧ t.2 37 k = nI (zWi A v s k)
def Fdr (t t' : MS) : Prop := (∀ k, k ≠ 32 → t'.1 k = t.1 k) ∧ ∀ f, f < 33 ∨ 37 < f → t'.2 f = t.2 f
def zWj (A : MS) (v k f c : Nat) (u : Int32) : Nat := zSu A f c + (if k = 0 then 10 + zWe A v f (zE A v f) else if k = 1 then 16 + c else 10 + zWc A (aN u) f (zE A (aN u) f))
/-- the items ahead of a bar, when the model comes to it -/
def zIp (A : MS) (v b : Nat) : IT := if b < zN A ∧ ¬ zE A v b = 0 then iCue A v (zIt A v b) else zIt A v b
section DM
variable {A t t' : MS} {v b : Nat} {s : IT}
theorem Fdr_rfl : Fdr t t := ⟨fun _ _ => rfl, fun _ _ => rfl⟩
theorem Fdr_trans {u : MS} (h : Fdr t t') (g : Fdr t' u) : Fdr t u := ⟨fun k hk => (g.1 k hk).trans (h.1 k hk), fun f hf => (g.2 f hf).trans (h.2 f hf)⟩
theorem Ag_Fdr (g : Ag A t) (h : Fdr t t') : Ag A t' := ⟨fun k hk => ⟨(h.1 k (by omega)).trans (g.1 k hk).1, (h.2 k (by omega)).trans (g.1 k hk).2⟩, (congrFun (h.2 26 (by decide)) 0).trans g.2⟩
theorem va_2 {α : Type} {f : Nat → α} {i : Nat} {x y : α} : va_up (va_up f i x) i y = va_up f i y := by
  funext j
  rw [va_up_at, va_up_at, va_up_at]
  by_cases e : j = i
  · rw [if_pos e, if_pos e]
  · rw [if_neg e, if_neg e, if_neg e]
theorem iSet_iAdd {k f c c' : Nat} {u : Int32} : iSet (iAdd s k f c u) c' = iAdd s k f c' u := by
  unfold iSet iAdd
  dsimp only
  rw [show s.1 + 1 - 1 = s.1 by omega, va_2]
theorem zWi_add {k f c : Nat} {u : Int32} {j : Nat} (hj : j < s.1) : zWi A v (iAdd s k f c u) j = zWi A v s j := by
  show zWj A v (va_up s.2.1 s.1 k j) (va_up s.2.2.1 s.1 f j) (va_up s.2.2.2.1 s.1 c j) (va_up s.2.2.2.2 s.1 u j) = zWj A v (s.2.1 j) (s.2.2.1 j) (s.2.2.2.1 j) (s.2.2.2.2 j)
  rw [va_up_at, va_up_at, va_up_at, va_up_at, if_neg (by omega), if_neg (by omega), if_neg (by omega), if_neg (by omega)]
theorem zWi_new {k f c : Nat} {u : Int32} : zWi A v (iAdd s k f c u) s.1 = zSu A f c + (if k = 0 then 10 + zWe A v f (zE A v f) else if k = 1 then 16 + c else 10 + zWc A (aN u) f (zE A (aN u) f)) := by
  show zWj A v (va_up s.2.1 s.1 k s.1) (va_up s.2.2.1 s.1 f s.1) (va_up s.2.2.2.1 s.1 c s.1) (va_up s.2.2.2.2 s.1 u s.1) = zWj A v k f c u
  rw [va_up_at, va_up_at, va_up_at, va_up_at, if_pos rfl, if_pos rfl, if_pos rfl, if_pos rfl]
theorem iAdd_last {k f c : Nat} {u : Int32} : (iAdd s k f c u).1 = s.1 + 1 ∧ (iAdd s k f c u).2.1 s.1 = k ∧ (iAdd s k f c u).2.2.1 s.1 = f ∧ (iAdd s k f c u).2.2.2.1 s.1 = c := by
  unfold iAdd
  dsimp only
  rw [va_up_at, va_up_at, va_up_at, if_pos rfl, if_pos rfl, if_pos rfl]
  exact ⟨rfl, rfl, rfl, rfl⟩
theorem iRest_add {k f c : Nat} {u : Int32} : iRest (iAdd s k f c u) = true ↔ k = 1 := by
  obtain ⟨e1, e2, -, -⟩ := iAdd_last (s := s) (k := k) (f := f) (c := c) (u := u)
  rw [iRest_iff, e1, show s.1 + 1 - 1 = s.1 by omega, e2]
  exact ⟨fun z => z.2, fun z => ⟨Nat.succ_pos _, z⟩⟩
theorem mm_addsItem (w : zM A) (g : Ag A t) (hv : v < 4) (h : iM A v t s) (hs : s.1 < 24) {k f c : Nat} {u : Int32} (hc : 1 ≤ c) (hf : f + c ≤ zN A) (hk : k = 0 ∨ k = 1 ∨ k = 2 ∧ ∃ x, x < 4 ∧ u = nI x) {Q : MS → Prop} (hQ : ∀ t', Fdr t t' → Ag A t' → iM A v t' (iAdd s k f c u) → Q t') : w_addsItem (nI v) (nI k) (nI f) (nI c) u t Q := by
  have hn := w.2.1
  obtain ⟨h1, h2⟩ := h
  have key : ∀ base, base ≤ 10000 → zSu A f c + base = zWi A v (iAdd s k f c u) s.1 → ∃ n, lp (w_addsItem_L38 (nI k) (nI f) (nI c) u Q) n (nI base, 0, t) := by
    intro base hbase hw
    refine lp_seq (fun j => (nI (base + zSu A f j), nI j, t)) c ?_ ?_ 0 (Nat.zero_le _)
    · intro j hj K hK
      unfold w_addsItem_L38
      dsimp only
      rw [nI_add]
      refine ⟨fun h9 => absurd h9 (nI_ge hj (by omega)), fun _ => mm_signs w g (by omega) (fun x15 hx15 => ?_)⟩
      rw [hx15, nI_add, nI_1, Nat.add_assoc]
      exact hK
    · intro K
      have vp : ∀ n, n = 24 → vp_in (nI s.1) n := fun n hn => by rw [hn]; exact vp_nI (n := 24) hs (by decide)
      unfold w_addsItem_L38
      dsimp only
      refine ⟨fun _ => ?_, fun h9 => absurd (nI_le (Nat.le_refl _) (by omega)) h9⟩
      have e0 : mgI t 32 = nI s.1 := h1
      rw [e0]
      refine ⟨vp _ (by decide), fun t4 h4 => ?_⟩
      have e4 : mgI t4 32 = nI s.1 := by rw [h4]; exact h1
      rw [e4]
      refine ⟨vp _ (by decide), fun t6 h6 => ?_⟩
      have e6 : mgI t6 32 = nI s.1 := by rw [h6]; exact e4
      rw [e6]
      refine ⟨vp _ (by decide), fun t8 h8 => ?_⟩
      have e8 : mgI t8 32 = nI s.1 := by rw [h8]; exact e6
      rw [e8]
      refine ⟨vp _ (by decide), fun t10 h10 => ?_⟩
      have e10 : mgI t10 32 = nI s.1 := by rw [h10]; exact e8
      rw [e10]
      refine ⟨vp _ (by decide), fun t12 h12 t13 h13 => ?_⟩
      have e12 : mgI t12 32 = nI s.1 := by rw [h12]; exact e10
      rw [e12, nI_1] at h13
      have F : Fdr t t13 := by
        refine ⟨fun k hk => ?_, fun f hf => ?_⟩
        · rw [h13, mI_ne hk, h12, h10, h8, h6, h4]
          rfl
        · rw [h13]
          show t12.2 f = t.2 f
          rw [h12, mA_ne (by omega), h10, mA_ne (by omega), h8, mA_ne (by omega), h6, mA_ne (by omega), h4, mA_ne (by omega)]
      have e2 : t13.2 = t12.2 := by rw [h13]; rfl
      refine hQ t13 F (Ag_Fdr g F) ⟨by rw [h13, mI_at]; rfl, fun j hj => ?_⟩
      have hj' : j < s.1 + 1 := hj
      show t13.2 33 j = nI (va_up s.2.1 s.1 k j) ∧ t13.2 34 j = nI (va_up s.2.2.1 s.1 f j) ∧ t13.2 35 j = nI (va_up s.2.2.2.1 s.1 c j) ∧ t13.2 36 j = va_up s.2.2.2.2 s.1 u j ∧ t13.2 37 j = nI (zWi A v (iAdd s k f c u) j)
      rw [e2, h12, mA_ne (f' := 33) (by decide), mA_ne (f' := 34) (by decide), mA_ne (f' := 35) (by decide), mA_ne (f' := 36) (by decide), mA_at (by omega), h10, mA_ne (f' := 33) (by decide), mA_ne (f' := 34) (by decide), mA_ne (f' := 35) (by decide), mA_at (by omega), mA_ne (f' := 37) (by decide), h8, mA_ne (f' := 33) (by decide), mA_ne (f' := 34) (by decide), mA_at (by omega), mA_ne (f' := 36) (by decide), mA_ne (f' := 37) (by decide), h6, mA_ne (f' := 33) (by decide), mA_at (by omega), mA_ne (f' := 35) (by decide), mA_ne (f' := 36) (by decide), mA_ne (f' := 37) (by decide), h4, mA_at (by omega), mA_ne (f' := 34) (by decide), mA_ne (f' := 35) (by decide), mA_ne (f' := 36) (by decide), mA_ne (f' := 37) (by decide), va_up_at, va_up_at, va_up_at, va_up_at]
      by_cases e : j = s.1
      · rw [if_pos e, if_pos e, if_pos e, if_pos e, if_pos e, if_pos e, if_pos e, if_pos e, if_pos e]
        refine ⟨rfl, rfl, rfl, rfl, ?_⟩
        rw [e, ← hw]
        congr 1
        omega
      · rw [if_neg e, if_neg e, if_neg e, if_neg e, if_neg e, if_neg e, if_neg e, if_neg e, if_neg e, zWi_add (by omega)]
        exact h2 j (by omega)
  have hw := zWi_new (A := A) (v := v) (s := s) (k := k) (f := f) (c := c) (u := u)
  have hfN : f < zN A := by omega
  refine ⟨fun x t2 => (∃ base, base ≤ 10000 ∧ x = nI base ∧ zSu A f c + base = zWi A v (iAdd s k f c u) s.1) ∧ t2 = t, fun x1 t2 hx => ?_, fun e => ?_, fun e => ⟨fun e2 => ?_, fun e2 => ?_⟩⟩
  · obtain ⟨⟨base, b1, b2, b3⟩, b4⟩ := hx
    rw [b4, b2]
    exact key base b1 b3
  · have e0 : k = 0 := (nI_eq (b := 0) (by omega) (by decide)).mp e
    have h3 := zWe_le w hfN hv _ (Nat.le_refl _)
    have h4 := (z_r w hfN hv).1
    refine mm_barWidth w g hv hfN ⟨⟨_, by omega, rfl, ?_⟩, rfl⟩
    rw [hw, if_pos e0]
  · have e1 : k = 1 := (nI_eq (b := 1) (by omega) (by decide)).mp e2
    refine ⟨⟨16 + c, by omega, ?_, ?_⟩, rfl⟩
    · rw [show (16 : Int32) = nI 16 from rfl, nI_add]
    · rw [hw, if_neg (by omega), if_pos e1]
  · have n0 : ¬ k = 0 := fun z => e (by rw [z]; rfl)
    have n1 : ¬ k = 1 := fun z => e2 (by rw [z]; rfl)
    obtain ⟨x, x1, x2⟩ : ∃ x, x < 4 ∧ u = nI x := by
      rcases hk with hk | hk | hk
      · exact absurd hk n0
      · exact absurd hk n1
      · exact hk.2
    have h3 := zWc_le w hfN x1 _ (Nat.le_refl _)
    have h4 := (z_r w hfN x1).1
    rw [x2]
    refine mm_cueWidth w g x1 hfN ⟨⟨_, by omega, rfl, ?_⟩, rfl⟩
    rw [x2] at hw
    rw [hw, if_neg n0, if_neg n1, aN_nI (by omega)]
end DM
