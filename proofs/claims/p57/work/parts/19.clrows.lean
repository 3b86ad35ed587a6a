/-! LISTS THAT AN OBJECT OWNS: asked and changed -/
/-- of what class the things of a list are -/
def cEK (f : Nat) : Nat := if f = 176 then 3 else if f = 192 then 5 else if f = 193 then 8 else if f = 194 then 10 else if f = 148 then 13 else 0
def usL (S : CS) (f o : Nat) (L : List Nat) (cap sz ns : Nat) : CS := mkC (kdC S) (fI S) (fA S) (fJ S) (fR S) (fQ S) (up2 (fL S) f o L) (up2 (fC S) f o cap) sz ns
def usLG (G : CG) (f o q : Nat) (m : Int32) : CG := (fun a => if a = q then (1000 + f, o) else if G.1 a = (1000 + f, o) then (0, 0) else G.1 a, up2 G.2.1 f o (some q), up2 G.2.2 f o m)
theorem c_ceL {K : Nat → ClassId} {E0 : Nat} {S : CS} {G : CG} {ci k0 f o : Nat} (h15 : ci < 15) (h3 : 3 ≤ ci) (hk : k0 < cNF ci) (hf : 16 * ci + k0 = f) (ht : cFT f = 5) : c_ce K E0 S G f o = .inr (2, [.int (G.2.2 f o), c_dref E0 (G.2.1 f o), .int (nI (fL S f o).length)]) := by
  have hb := cNF_le h15
  unfold c_ce
  rw [if_neg (by omega), if_neg (by omega), if_neg (by rw [ht]; decide), if_neg (by rw [ht]; decide), if_neg (by rw [ht]; decide)]
theorem c_ceD {K : Nat → ClassId} {E0 : Nat} {S : CS} {G : CG} {f o : Nat} : c_ce K E0 S G (1000 + f) o = .inl (K 2, fC S f o, .inr (.inr (.inr (.inr (fun i => (fL S f o)[i]?))))) := by
  unfold c_ce
  rw [if_neg (by omega), if_pos (by omega)]
  rw [Nat.add_sub_cancel_left]
/-- a list's cells -/
theorem RepC.lists {D : va_G} {K : Nat → ClassId} {E0 : Nat} {S : CS} {G : CG} {H : Heap} {ci k0 f o : Nat} (hP : RepC D K E0 S G H) (h3 : 3 ≤ ci) (h15 : ci < 15) (hk : k0 < cNF ci) (hf : 16 * ci + k0 = f) (ht : cFT f = 5) (hc : kdC S o = ci) :
    G.1 (o + cOF f) = (f, o) ∧ va_at D vwCl (o + cOF f, .inr (2, [.int (G.2.2 f o), c_dref E0 (G.2.1 f o), .int (nI (fL S f o).length)])) H ∧ ((G.2.1 f o = none ∧ fL S f o = [] ∧ fC S f o = 0) ∨ ∃ d, G.2.1 f o = some d ∧ G.1 d = (1000 + f, o) ∧ (fL S f o).length ≤ fC S f o ∧ d ≠ o + cOF f ∧ va_at D vwCl (d, .inl (K 2, fC S f o, .inr (.inr (.inr (.inr (fun i => (fL S f o)[i]?)))))) H ∧ 2 ≤ fC S f o) := by
  obtain ⟨q1, q2, q3⟩ := c_emb hP hc h3 h15 hk hf (by rw [ht]; rfl)
  have q4 := q2 0 _ rfl
  rw [c_ceL h15 h3 hk hf ht] at q4
  refine ⟨q1, q4, ?_⟩
  have q5 := q3 ht
  unfold c_lok at q5
  cases hd : G.2.1 f o with
  | none =>
    rw [hd] at q5
    exact Or.inl ⟨rfl, q5⟩
  | some d =>
    rw [hd] at q5
    have q6 := (hP.1 d _ _ q5.1 (by omega)).1
    rw [c_ceD] at q6
    exact Or.inr ⟨d, rfl, q5.1, q5.2.1, fun h => by have q7 := q5.1; rw [h, q1] at q7; have := (Prod.mk.inj q7).1; omega, q6, q5.2.2⟩
theorem RepC.list {D : va_G} {K : Nat → ClassId} {E0 : Nat} {S : CS} {G : CG} {H H1 : Heap} {ci k0 f o q cap : Nat} {m : Int32} {L : List Nat} (hP : RepC D K E0 S G H) (h3 : 3 ≤ ci) (h15 : ci < 15) (hk : k0 < cNF ci) (hf : 16 * ci + k0 = f) (ht : cFT f = 5) (hc : kdC S o = ci)
    (hq : G.2.1 f o = some q ∨ H.size ≤ q) (hL : L.length ≤ cap ∧ 2 ≤ cap)
    (hlo : va_at D vwCl (o + cOF f, .inr (2, [.int m, .ref q, .int (nI L.length)])) H1) (hd1 : va_at D vwCl (q, .inl (K 2, cap, .inr (.inr (.inr (.inr (fun i => L[i]?)))))) H1)
    (ho : ∀ a, a < H.size → a ≠ o + cOF f → G.2.1 f o ≠ some a → H1[a]? = H[a]?) : RepC D K E0 (usL S f o L cap H1.size (hsl H1)) (usLG G f o q m) H1 := by
  have hb := cNF_le h15
  have y1 : H.size = szC S := hP.2.2.1
  obtain ⟨u1, u2, u3⟩ := hP.lists h3 h15 hk hf ht hc
  have hlt : o + cOF f < H.size := u2.lt
  have hdr : ∀ d, G.2.1 f o = some d → G.1 d = (1000 + f, o) ∧ d < H.size ∧ d ≠ o + cOF f := by
    intro d hd
    rcases u3 with ⟨h9, -, -⟩ | ⟨d', h9, h8, -, h7, h6, -⟩
    · rw [h9] at hd; cases hd
    · rw [h9] at hd
      cases hd
      exact ⟨h8, h6.lt, h7⟩
  have hqne : q ≠ o + cOF f := by
    rcases hq with h | h
    · exact (hdr q h).2.2
    · omega
  -- an old address with another role stays
  have hGo : ∀ a r o', G.1 a = (r, o') → r ≠ 0 → r ≠ 1000 + f ∨ o' ≠ o → (usLG G f o q m).1 a = (r, o') ∧ a < H.size ∧ a ≠ q ∧ G.2.1 f o ≠ some a := by
    intro a r o' h1 h2 h4
    have halt : a < H.size := by rw [y1]; exact hP.lt (by rw [h1]; exact h2)
    have hnd : G.2.1 f o ≠ some a := fun h => by
      have h9 := (hdr a h).1
      rw [h1] at h9
      cases h9
      rcases h4 with h4 | h4 <;> exact h4 rfl
    have haq : a ≠ q := fun h => by
      subst h
      rcases hq with h | h
      · exact hnd h
      · omega
    refine ⟨?_, halt, haq, hnd⟩
    show (if a = q then (1000 + f, o) else if G.1 a = (1000 + f, o) then (0, 0) else G.1 a) = _
    have hn9 : ¬ G.1 a = (1000 + f, o) := fun h => by
      rw [h1] at h
      cases h
      rcases h4 with h4 | h4 <;> exact h4 rfl
    rw [if_neg haq, if_neg hn9, h1]
  have hce : ∀ r o', r ≠ 0 → ¬ (r = f ∧ o' = o) → ¬ (r = 1000 + f ∧ o' = o) → c_ce K E0 (usL S f o L cap H1.size (hsl H1)) (usLG G f o q m) r o' = c_ce K E0 S G r o' := by
    intro r o' hr hn1 hn2
    unfold c_ce
    by_cases h16 : r < 16
    · rw [if_pos h16, if_pos h16]
      rfl
    · rw [if_neg h16, if_neg h16]
      by_cases hth : 1000 ≤ r
      · rw [if_pos hth, if_pos hth]
        have hn : ¬ (r - 1000 = f ∧ o' = o) := fun h => hn2 ⟨by omega, h.2⟩
        generalize r - 1000 = r1 at hn ⊢
        have e1 : fL (usL S f o L cap H1.size (hsl H1)) r1 o' = fL S r1 o' := up2_ne _ _ hn
        have e2 : fC (usL S f o L cap H1.size (hsl H1)) r1 o' = fC S r1 o' := up2_ne _ _ hn
        rw [e1, e2]
      · rw [if_neg hth, if_neg hth]
        have e1 : fL (usL S f o L cap H1.size (hsl H1)) r o' = fL S r o' := up2_ne _ _ hn1
        have e2 : (usLG G f o q m).2.1 r o' = G.2.1 r o' := up2_ne _ _ hn1
        have e3 : (usLG G f o q m).2.2 r o' = G.2.2 r o' := up2_ne _ _ hn1
        rw [e1, e2, e3]
        rfl
  have eL : fL (usL S f o L cap H1.size (hsl H1)) f o = L := up2_same _ _ _ _
  have eC : fC (usL S f o L cap H1.size (hsl H1)) f o = cap := up2_same _ _ _ _
  have eD : (usLG G f o q m).2.1 f o = some q := up2_same _ _ _ _
  have eM : (usLG G f o q m).2.2 f o = m := up2_same _ _ _ _
  have hGq : (usLG G f o q m).1 q = (1000 + f, o) := if_pos rfl
  refine ⟨fun a r o' h1 h2 => ?_, fun o' h1 => ?_, rfl, rfl⟩
  · by_cases haq : a = q
    · subst haq
      rw [hGq] at h1
      cases h1
      refine ⟨by rw [c_ceD, eL, eC]; exact hd1, ?_, by show kdC S o ≠ 0; omega, fun _ => ?_⟩
      · unfold c_adr
        rw [if_neg (by omega), if_pos (by omega), Nat.add_sub_cancel_left, eD]
        rfl
      · show cAtt (kdC S o) _ = true
        exact cAtt_full (by omega)
    · have h1' : (if G.1 a = (1000 + f, o) then (0, 0) else G.1 a) = (r, o') := by
        have h9 : (if a = q then (1000 + f, o) else if G.1 a = (1000 + f, o) then (0, 0) else G.1 a) = (r, o') := h1
        rw [if_neg haq] at h9
        exact h9
      by_cases hda : G.1 a = (1000 + f, o)
      · rw [if_pos hda] at h1'
        cases h1'
        exact absurd rfl h2
      · rw [if_neg hda] at h1'
        obtain ⟨g1, g2, g3⟩ := hP.1 a r o' h1' h2
        have hn2 : ¬ (r = 1000 + f ∧ o' = o) := fun h => hda (by rw [h1', h.1, h.2])
        have hnd : G.2.1 f o ≠ some a := fun h => hda (hdr a h).1
        refine ⟨?_, ?_, g3⟩
        · by_cases hlo1 : r = f ∧ o' = o
          · obtain ⟨hr, ho'⟩ := hlo1
            subst hr; subst ho'
            have ea : a = o' + cOF r := by
              rw [← g2]
              unfold c_adr
              rw [if_neg (by omega), if_neg (by omega)]
            rw [ea, c_ceL h15 h3 hk hf ht, eL, eD, eM]
            exact hlo
          · rw [hce r o' h2 hlo1 hn2]
            refine va_at.kept g1 (ho a g1.lt (fun h => hlo1 ?_) hnd)
            rw [h, u1] at h1'
            exact ⟨(Prod.mk.inj h1').1.symm, (Prod.mk.inj h1').2.symm⟩
        · rw [← g2]
          unfold c_adr
          by_cases h16 : r < 16
          · rw [if_pos h16, if_pos h16]
          · rw [if_neg h16, if_neg h16]
            by_cases hth : 1000 ≤ r
            · rw [if_pos hth, if_pos hth]
              have hn : ¬ (r - 1000 = f ∧ o' = o) := fun h => hn2 ⟨by omega, h.2⟩
              generalize r - 1000 = r1 at hn ⊢
              rw [show (usLG G f o q m).2.1 r1 o' = G.2.1 r1 o' from up2_ne _ _ hn]
            · rw [if_neg hth, if_neg hth]
  · obtain ⟨g1, g2, g3, g4⟩ := hP.2.1 o' h1
    refine ⟨(hGo o' _ _ g1 (by omega) (Or.inl (by omega))).1, g2, g3, fun k he2 he hat2 => ?_⟩
    obtain ⟨q1, q2⟩ := g4 k he2 he hat2
    have hb2 := cNF_le g3
    have hkd2 : kdC (usL S f o L cap H1.size (hsl H1)) o' = kdC S o' := rfl
    rw [hkd2] at he2 he hat2 ⊢
    refine ⟨(hGo _ _ _ q1 (by omega) (Or.inl (by omega))).1, fun h5 => ?_⟩
    have q3 := q2 h5
    by_cases hn : 16 * (kdC S o' % 100) + k = f ∧ o' = o
    · obtain ⟨hr, ho'⟩ := hn
      subst ho'
      rw [hr]
      unfold c_lok
      rw [eD]
      exact ⟨hGq, by rw [eL, eC]; exact hL⟩
    · have e1 : fL (usL S f o L cap H1.size (hsl H1)) (16 * (kdC S o' % 100) + k) o' = fL S (16 * (kdC S o' % 100) + k) o' := up2_ne _ _ hn
      have e2 : fC (usL S f o L cap H1.size (hsl H1)) (16 * (kdC S o' % 100) + k) o' = fC S (16 * (kdC S o' % 100) + k) o' := up2_ne _ _ hn
      have e3 : (usLG G f o q m).2.1 (16 * (kdC S o' % 100) + k) o' = G.2.1 (16 * (kdC S o' % 100) + k) o' := up2_ne _ _ hn
      unfold c_lok at q3 ⊢
      rw [e1, e2, e3]
      cases hd : G.2.1 (16 * (kdC S o' % 100) + k) o' with
      | none => rw [hd] at q3; exact q3
      | some d =>
        rw [hd] at q3
        exact ⟨(hGo d _ _ q3.1 (by omega) (by
          by_cases h9 : o' = o
          · exact Or.inl (fun h => hn ⟨by omega, h9⟩)
          · exact Or.inr h9)).1, q3.2⟩

