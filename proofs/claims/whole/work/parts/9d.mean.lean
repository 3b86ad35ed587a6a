/-! MEAN -/
theorem mean_sim {b lb : Nat × Nat} {o so po : Nat} (hb : b.1 + 10000 ≤ lb.1 ∧ b.2 + 42000 ≤ lb.2) : Sim lb o (Iv b o so po) := by
  have hm : Im lb o so po (Iv b o so po) := Iv_m hb
  have hw : Iw lb o so po (Iv b o so po) := Iw_of hm
  have hq : Iq lb o so (Iv b o so po) := Iq_of hw
  have hp : Ip lb o so po (Iv b o so po) := Iv_p hb
  exact ⟨Iv_rs hb, Iv_kd, Iv_dn, si_addBar hm, si_setMetre hm, si_setTempo hm, si_bars hq, si_length hq, si_tempo hw, si_time hw, si_insert hm, si_remove hm, si_setPitch hm, si_setTie hm, si_setMark hm, si_transpose hm, si_events hq, si_left hw, si_isRight hw, si_written hw, si_addPhrase hm, si_dropPhrase hm, si_phrases hw, si_allowTurn hm, si_addRepeat hm, si_dropRepeat hm, si_places hp, si_barAt hp, si_startOf hp, si_playingTime hp, si_timeByEvents hp, si_sounds hp, si_soundVoice hp, si_soundStart hp, si_soundTime hp, si_soundPitch hp, si_loudness hp, si_setPaper hm, si_items hb, si_itemKind hb, si_itemBar hb, si_itemBars hb, si_cue hb, si_itemWidth hb, si_lines hb, si_firstItem hb, si_badness hb, si_pages hb, si_pageLines hb, si_pageOf hb, si_pageTurns hb, si_turnBar hb, si_turnTime hb, si_turnRest hb, si_badTurns hb, si_sheets hb, si_sheetPage hb⟩
theorem mean_I {b : Nat × Nat} {o x y : Nat} {S1 : CS} (hJ : Jo o (o + 1) (o + 6) 512 4 S1 m_t0) (l0 : fL S1 148 (o + 6) = []) (z0 : fC S1 148 (o + 6) = 0) (e1 : b.1 = x + 51200) (e2 : b.2 = y + 1024000) {sz ns : Nat} (h1 : sz ≤ x) (h2 : ns ≤ y) : Iv b o (o + 1) (o + 6) 512 (rsz S1 sz ns) m_t0 := by
  have q1 : sz + 100 * 512 ≤ b.1 + (fL S1 148 (o + 6)).length + fC S1 148 (o + 6) := by
    rw [l0, z0, e1]
    exact Nat.add_le_add_right h1 51200
  have q2 : ns + 2000 * 512 ≤ b.2 + 5 * (fL S1 148 (o + 6)).length + 4 * fC S1 148 (o + 6) := by
    rw [l0, z0, e2]
    exact Nat.add_le_add_right h2 1024000
  exact ⟨m_t0, Ag_rfl _, Jo_rsz hJ, q1, q2⟩
theorem mean_mk {b B1 : Nat × Nat} {S00 : CS} {x y : Nat} (e1 : b.1 = x + 51200) (e2 : b.2 = y + 1024000) (hB : B1.1 = szC S00 + 14 ∧ B1.2 = nsC S00 + 149) : w_X11_init B1 (szC S00) (newO S00 14) (fun S1 => ∀ sz ns : Nat, sz ≤ x → ns ≤ y → Iv b (szC S00) (szC S00 + 1) (szC S00 + 6) 512 (rsz S1 sz ns) m_t0) (fun _ _ => False) := by
  have c1 : cNE 14 = 1 ∧ cNF 14 = 3 := by decide +kernel
  have kA : kdC (newO S00 14) (szC S00) = 114 := by
    rw [s_newO_kdC, va_up_at, if_pos rfl, c1.1]
    rfl
  have zA : szC (newO S00 14) = szC S00 + 1 := by rw [s_newO_szC]
  have nA : nsC (newO S00 14) = nsC S00 + 3 := by rw [s_newO_nsC, c1.2]
  have hJ := Jo_0 kA zA
  have l0 := (st11_f zA).2.2.1.2.2.2
  have z0 := (st11_f zA).2.2.2.1.2.2.2
  exact i_X11 kA zA ⟨by rw [zA, hB.1]; exact Nat.le_refl _, by rw [nA, hB.2]; exact Nat.le_refl _⟩ (fun sz ns h1 h2 => mean_I hJ l0 z0 e1 e2 h1 h2)
theorem mean_ar {l s m : Nat} (h : m ≤ 1000000) (e : l = s + 7293034) : s + 149 + (47 + m) + 1024000 + 42000 ≤ l ∧ s + 149 + (47 + m) ≤ l := by
  subst e
  exact ⟨by omega, by omega⟩
theorem mean : Mean := by
  intro lb S00 hk0 hl1 hl2
  have c13 : m_sum 36 ≤ 1000000 := by decide +kernel
  obtain ⟨m, hm⟩ : ∃ m, m = m_sum 36 := ⟨_, rfl⟩
  rw [← hm] at c13 ⊢
  obtain ⟨x, hx⟩ : ∃ x, x = szC S00 := ⟨_, rfl⟩
  obtain ⟨y, hy⟩ : ∃ y, y = nsC S00 := ⟨_, rfl⟩
  obtain ⟨b, hbd⟩ : ∃ b : Nat × Nat, b = (szC S00 + 14 + 38 + 51200, nsC S00 + 149 + (47 + m) + 1024000) := ⟨_, rfl⟩
  have e1 : b.1 = szC S00 + 14 + 38 + 51200 := by rw [hbd]
  have e2 : b.2 = nsC S00 + 149 + (47 + m) + 1024000 := by rw [hbd]
  obtain ⟨a1, a2⟩ := mean_ar c13 hl2
  have hb : b.1 + 10000 ≤ lb.1 ∧ b.2 + 42000 ≤ lb.2 := ⟨by rw [e1, hl1]; omega, by rw [e2]; exact a1⟩
  exact ⟨Iv b (szC S00) (szC S00 + 1) (szC S00 + 6), mean_sim hb, (szC S00 + 14, nsC S00 + 149), by rw [hl1]; omega, a2, Nat.add_le_add_left (by decide) _, Nat.add_le_add_left (by decide) _, mean_mk e1 e2 ⟨rfl, rfl⟩⟩
