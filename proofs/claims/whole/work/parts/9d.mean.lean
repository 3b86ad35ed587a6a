/-! MEAN -/
theorem mean : Mean := by
  intro lb S00 hk0 hl1 hl2
  have c1 : cNE 14 = 1 ∧ cNF 14 = 3 ∧ m_sum 36 ≤ 1000000 := by decide +kernel
  obtain ⟨c11, c12, c13⟩ := c1
  obtain ⟨b, hbd⟩ : ∃ b : Nat × Nat, b = (szC S00 + 14 + 38 + 51200, nsC S00 + 149 + (47 + m_sum 36) + 1024000) := ⟨_, rfl⟩
  have e1 : b.1 = szC S00 + 14 + 38 + 51200 := by rw [hbd]
  have e2 : b.2 = nsC S00 + 149 + (47 + m_sum 36) + 1024000 := by rw [hbd]
  have hb : b.1 + 10000 ≤ lb.1 ∧ b.2 + 42000 ≤ lb.2 := ⟨by omega, by omega⟩
  have hm : Im lb (szC S00) (szC S00 + 1) (szC S00 + 6) (Iv b (szC S00) (szC S00 + 1) (szC S00 + 6)) := Iv_m hb
  have hw : Iw lb (szC S00) (szC S00 + 1) (szC S00 + 6) (Iv b (szC S00) (szC S00 + 1) (szC S00 + 6)) := Iw_of hm
  have hq : Iq lb (szC S00) (szC S00 + 1) (Iv b (szC S00) (szC S00 + 1) (szC S00 + 6)) := Iq_of hw
  have hp : Ip lb (szC S00) (szC S00 + 1) (szC S00 + 6) (Iv b (szC S00) (szC S00 + 1) (szC S00 + 6)) := Iv_p hb
  refine ⟨Iv b (szC S00) (szC S00 + 1) (szC S00 + 6), ?_, (szC S00 + 14, nsC S00 + 149), by dsimp only; omega, by dsimp only; omega, by dsimp only; omega, by dsimp only; omega, ?_⟩
  · exact ⟨Iv_rs hb, Iv_kd, Iv_dn, si_addBar hm, si_setMetre hm, si_setTempo hm, si_bars hq, si_length hq, si_tempo hw, si_time hw, si_insert hm, si_remove hm, si_setPitch hm, si_setTie hm, si_setMark hm, si_transpose hm, si_events hq, si_left hw, si_isRight hw, si_written hw, si_addPhrase hm, si_dropPhrase hm, si_phrases hw, si_allowTurn hm, si_addRepeat hm, si_dropRepeat hm, si_places hp, si_barAt hp, si_startOf hp, si_playingTime hp, si_timeByEvents hp, si_sounds hp, si_soundVoice hp, si_soundStart hp, si_soundTime hp, si_soundPitch hp, si_loudness hp, si_setPaper hm, si_items hb, si_itemKind hb, si_itemBar hb, si_itemBars hb, si_cue hb, si_itemWidth hb, si_lines hb, si_firstItem hb, si_badness hb, si_pages hb, si_pageLines hb, si_pageOf hb, si_pageTurns hb, si_turnBar hb, si_turnTime hb, si_turnRest hb, si_badTurns hb, si_sheets hb, si_sheetPage hb⟩
  · have kA : kdC (newO S00 14) (szC S00) = 114 := by
      rw [s_newO_kdC, va_up_at, if_pos rfl, c11]
      rfl
    have zA : szC (newO S00 14) = szC S00 + 1 := by rw [s_newO_szC]
    have nA : nsC (newO S00 14) = nsC S00 + 3 := by rw [s_newO_nsC, c12]
    refine i_X11 kA zA ⟨by dsimp only; omega, by dsimp only; omega⟩ (fun sz ns h1 h2 => ⟨m_t0, Ag_rfl _, Jo_rsz (Jo_0 kA zA), ?_, ?_⟩)
    · have l0 : fL (rsz (st11 (szC S00) (newO S00 14)) sz ns) 148 (szC S00 + 6) = [] := (st11_f zA).2.2.1.2.2.2
      have z0 : fC (rsz (st11 (szC S00) (newO S00 14)) sz ns) 148 (szC S00 + 6) = 0 := (st11_f zA).2.2.2.1.2.2.2
      rw [l0, z0]
      show sz + 100 * 512 ≤ b.1 + 0 + 0
      dsimp only at h1
      omega
    · have l0 : fL (rsz (st11 (szC S00) (newO S00 14)) sz ns) 148 (szC S00 + 6) = [] := (st11_f zA).2.2.1.2.2.2
      have z0 : fC (rsz (st11 (szC S00) (newO S00 14)) sz ns) 148 (szC S00 + 6) = 0 := (st11_f zA).2.2.2.1.2.2.2
      rw [l0, z0]
      show ns + 2000 * 512 ≤ b.2 + 5 * 0 + 4 * 0
      dsimp only at h2
      omega
