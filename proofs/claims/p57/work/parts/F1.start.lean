/-! AT THE LAW'S ENTRY: the classes and rows of the machine, the constants -/
theorem BXi : Cond.instantiable RX11 3 ∈ wU := w_at 63 (by decide +kernel) (by decide +kernel)
theorem l_prim {s : State} {args : Array Value} {ty : FieldType} (h : (Cond.arrayClass ty).before args s = true) (hn : va_RA s = va_RA s) (hz : ∀ cA : ClassId, s.vm.findClass ("[" ++ ty.toString) = some cA → va_RA s cA ty) : ∃ cA : ClassId, ArrOfT s cA ty ∧ va_RA s cA ty := by
  obtain ⟨c, k, comp, h1, h2, h3⟩ := Cond.arrayClass_spec h
  exact ⟨c, fun n z => ⟨fun k h => (by cases h), k, h2, comp, h3⟩, hz c h1⟩
theorem l_ref {s : State} {args : Array Value} {C : String} (h : (Cond.arrayOver (.object C)).before args s = true) : ∃ cA : ClassId, ArrOfT s cA (.object C) ∧ va_RA s cA (.object C) := by
  obtain ⟨comp, c, k, h1, -, h2, h3, h4⟩ := Cond.arrayOver_spec h
  exact ⟨c, fun n z => ⟨fun k h => (by cases h), k, h2, comp, h3⟩, k, comp, h2, h3, h1, h4⟩
def c_tyl : List (Nat × FieldType) := [(0, .int), (1, .long), (2, .object "java/lang/Object"), (7, .object RX4), (11, .object RX8), (13, .object RX10)]
theorem l_KD {args : Array Value} {s : State} (hts : ∀ w ∈ lw_tbl, w.before args s = true) : ∃ (D : va_G) (K : Nat → ClassId), va_K D vwCl (c_tys K) s := by
  have hw : ∀ w ∈ wU, w.before args s = true := fun w h => hts w (wU_in h)
  have h1 : ∀ c : Nat, ∃ x : ClassId × (Nat → Nat), ∀ q, vwCl[c]? = some q → u_Kn s q.1 q.2.1 q.2.2 x.1 x.2 := by
    intro c
    have key : ∀ (C : String) (T : u_T) (N n : Nat), (∀ w ∈ u_ws C T N, w ∈ wU) → Cond.instantiable C n ∈ wU → vwCl[c]? = some (C, T, N) → ∃ x : ClassId × (Nat → Nat), ∀ q, vwCl[c]? = some q → u_Kn s q.1 q.2.1 q.2.2 x.1 x.2 := by
      intro C T N n g1 g2 g3
      obtain ⟨a, b, h⟩ := u_known hw g1 (hw _ g2)
      refine ⟨(a, b), fun q hq => ?_⟩
      cases g3.symm.trans hq
      exact h
    by_cases hc : c < 15
    · have hc2 : c = 0 ∨ c = 1 ∨ c = 2 ∨ c = 3 ∨ c = 4 ∨ c = 5 ∨ c = 6 ∨ c = 7 ∨ c = 8 ∨ c = 9 ∨ c = 10 ∨ c = 11 ∨ c = 12 ∨ c = 13 ∨ c = 14 := by omega
      rcases hc2 with rfl | rfl | rfl | rfl | rfl | rfl | rfl | rfl | rfl | rfl | rfl | rfl | rfl | rfl | rfl
      · exact key RJ0 TJ0 4 4 (bx_mem (by decide +kernel)) (w_at 1593 (by decide +kernel) (by decide +kernel)) rfl
      · exact key RJ4 TJ4 4 4 (bx_mem (by decide +kernel)) (w_at 1426 (by decide +kernel) (by decide +kernel)) rfl
      · exact key RJx4a65c TJx4a65c 3 3 (bx_mem (by decide +kernel)) (w_at 77 (by decide +kernel) (by decide +kernel)) rfl
      · exact key RX0 TX0 6 6 BX0.2.1 (w_at 1371 (by decide +kernel) (by decide +kernel)) rfl
      · exact key RX1 TX1 4 4 BX1.2.1 (w_at 669 (by decide +kernel) (by decide +kernel)) rfl
      · exact key RX2 TX2 4 4 BX2.2.1 (w_at 1137 (by decide +kernel) (by decide +kernel)) rfl
      · exact key RX3 TX3 11 11 BX3.2.1 (w_at 693 (by decide +kernel) (by decide +kernel)) rfl
      · exact key RX4 TX4 10 10 BX4.2.1 (w_at 663 (by decide +kernel) (by decide +kernel)) rfl
      · exact key RX5 TX5 6 6 BX5.2.1 (w_at 1313 (by decide +kernel) (by decide +kernel)) rfl
      · exact key RX6 TX6 10 10 BX6.2.1 (w_at 139 (by decide +kernel) (by decide +kernel)) rfl
      · exact key RX7 TX7 3 3 BX7.2.1 (w_at 1231 (by decide +kernel) (by decide +kernel)) rfl
      · exact key RX8 TX8 3 3 BX8.2.1 (w_at 1144 (by decide +kernel) (by decide +kernel)) rfl
      · exact key RX9 TX9 8 8 BX9.2.1 (w_at 71 (by decide +kernel) (by decide +kernel)) rfl
      · exact key RX10 TX10 5 5 BX10.2.1 (w_at 348 (by decide +kernel) (by decide +kernel)) rfl
      · exact key RX11 TX11 3 3 BX11.2.1 (w_at 63 (by decide +kernel) (by decide +kernel)) rfl
    · exact ⟨(0, fun _ => 0), fun q hq => absurd (List.getElem?_eq_some_iff.mp hq).1 (by show ¬ c < 15; exact hc)⟩
  obtain ⟨f, hf⟩ := Classical.axiomOfChoice h1
  have h2 : ∀ i : Nat, ∃ cA : ClassId, ∀ ty, (i, ty) ∈ c_tyl → ArrOfT s cA ty ∧ va_RA s cA ty := by
    intro i
    have key : ∀ ty, (∀ ty2, (i, ty2) ∈ c_tyl → ty2 = ty) → (∃ cA : ClassId, ArrOfT s cA ty ∧ va_RA s cA ty) → ∃ cA : ClassId, ∀ ty, (i, ty) ∈ c_tyl → ArrOfT s cA ty ∧ va_RA s cA ty := by
      intro ty g1 g2
      obtain ⟨cA, h⟩ := g2
      exact ⟨cA, fun ty2 h2 => by rw [g1 ty2 h2]; exact h⟩
    by_cases e0 : i = 0
    · subst e0
      exact key .int (by intro t h; simp [c_tyl] at h; exact h) (l_prim (hts _ (List.mem_of_getElem? (show lw_tbl[137]? = some _ from by decide +kernel))) rfl (fun cA h => h))
    by_cases e1 : i = 1
    · subst e1
      exact key .long (by intro t h; simp [c_tyl] at h; exact h) (l_prim (hts _ (List.mem_of_getElem? (show lw_tbl[739]? = some _ from by decide +kernel))) rfl (fun cA h => h))
    by_cases e2 : i = 2
    · subst e2
      exact key (.object "java/lang/Object") (by intro t h; simp [c_tyl] at h; exact h) (l_ref (hts _ (List.mem_of_getElem? (show lw_tbl[429]? = some _ from by decide +kernel))))
    by_cases e7 : i = 7
    · subst e7
      exact key (.object RX4) (by intro t h; simp [c_tyl] at h; exact h) (l_ref (hts _ (List.mem_of_getElem? (show lw_tbl[186]? = some _ from by decide +kernel))))
    by_cases e11 : i = 11
    · subst e11
      exact key (.object RX8) (by intro t h; simp [c_tyl] at h; exact h) (l_ref (hts _ (List.mem_of_getElem? (show lw_tbl[1143]? = some _ from by decide +kernel))))
    by_cases e13 : i = 13
    · subst e13
      exact key (.object RX10) (by intro t h; simp [c_tyl] at h; exact h) (l_ref (hts _ (List.mem_of_getElem? (show lw_tbl[147]? = some _ from by decide +kernel))))
    exact ⟨0, fun ty h => by simp [c_tyl] at h; omega⟩
  obtain ⟨K, hK⟩ := Classical.axiomOfChoice h2
  refine ⟨(fun c => (f c).1, fun c => (f c).2), K, fun c q hq => hf c q hq, fun k q hq => ?_⟩
  have hk : ∀ i ty, (i, ty) ∈ c_tyl → ArrOfT s (K i) ty ∧ va_RA s (K i) ty := fun i ty h => hK i ty h
  have hq2 : (c_tys K) = c_tyl.map (fun z => (K z.1, z.2)) := rfl
  rw [hq2, List.getElem?_map] at hq
  cases hz : c_tyl[k]? with
  | none => rw [hz] at hq; cases hq
  | some z =>
    rw [hz] at hq
    rw [← Option.some.inj hq]
    exact hk z.1 z.2 (List.mem_of_getElem? hz)
theorem l_Nc {args : Array Value} {s : State} (hg : (Jvm.Cond.and given_1 narrow_1).before args s = true) : NcS s := by
  have hs := flat_of_before _ hg
  intro a ha b hb hab
  simp only [exA, List.mem_cons, List.not_mem_nil, or_false] at ha hb
  rcases ha with rfl | rfl | rfl <;> rcases hb with rfl | rfl | rfl <;> first | exact absurd rfl hab | exact va_Nc.of (hs _ (by decide +kernel))
theorem l_Ev {args : Array Value} {s : State} (hts : ∀ w ∈ lw_tbl, w.before args s = true) (hg : (Jvm.Cond.and given_1 narrow_1).before args s = true) : c_Ev s := by
  have hs := flat_of_before _ hg
  refine ⟨fun w hw => ?_, fun q hq => ?_, va_Mi.of (hs (Cond.isRef (.mirror "[Ljava/lang/Object;")) (by decide +kernel))⟩
  · have hm := List.mem_filter.mp hw
    have h1 := hts w hm.1
    have hk : nwK w = true := hm.2
    unfold nwK at hk
    split at hk
    · exact va_Nw.of rfl h1
    · exact va_Nw.of rfl h1
    · exact va_Nw.of rfl h1
    · exact va_AO.of h1
    · cases hk
  · have hall : c_strs.all (fun q => decide (q.1 = RX11) && decide (Cond.stringRef q.1 q.2.1 q.2.2 ∈ lw_tbl)) = true := by decide +kernel
    have h2 := List.all_eq_true.mp hall q hq
    simp only [Bool.and_eq_true, decide_eq_true_eq] at h2
    obtain ⟨cC, kC, hfc, -⟩ := Cond.instantiable_spec (hts _ (wU_in (BXi : Cond.instantiable RX11 3 ∈ wU)))
    have h3 := hts _ h2.2
    obtain ⟨k, cf, i, a, -, -, -, -, -, hev⟩ := Cond.stringRef_spec (by rw [h2.1]; exact hfc) h3
    exact ⟨a, vk_R.of h3 hev⟩
theorem l_StC {args : Array Value} {s : State} {A : Nat → Prop} (hts : ∀ w ∈ lw_tbl, w.before args s = true) (hg : (Jvm.Cond.and given_1 narrow_1).before args s = true) (hA : ∀ a : Nat, a < s.heap.size → ¬ A a) : ∃ E0 : Nat, StC E0 A s s.heap := by
  have hs := flat_of_before _ hg
  obtain ⟨tk, hk1, hk2⟩ := va_Tof (args := args) (s := s) (tm := .static RX0 "TICKS" "[I") (ty := .int) (N := 6) (f := fun j => .int (cTick j)) (A := A) (by decide) (hs _ (by decide +kernel)) (Cond.eq_int (hs (.eq (.length (.static RX0 "TICKS" "[I")) (.int 6)) (by decide +kernel)) rfl) (fun j hj => by
    have h9 : j = 0 ∨ j = 1 ∨ j = 2 ∨ j = 3 ∨ j = 4 ∨ j = 5 := by omega
    rcases h9 with rfl | rfl | rfl | rfl | rfl | rfl
    · exact Cond.eq_int (hs (.eq (.elem (.static RX0 "TICKS" "[I") (.int 0)) (.int 96)) (by decide +kernel)) rfl
    · exact Cond.eq_int (hs (.eq (.elem (.static RX0 "TICKS" "[I") (.int 1)) (.int 48)) (by decide +kernel)) rfl
    · exact Cond.eq_int (hs (.eq (.elem (.static RX0 "TICKS" "[I") (.int 2)) (.int 24)) (by decide +kernel)) rfl
    · exact Cond.eq_int (hs (.eq (.elem (.static RX0 "TICKS" "[I") (.int 3)) (.int 12)) (by decide +kernel)) rfl
    · exact Cond.eq_int (hs (.eq (.elem (.static RX0 "TICKS" "[I") (.int 4)) (.int 6)) (by decide +kernel)) rfl
    · exact Cond.eq_int (hs (.eq (.elem (.static RX0 "TICKS" "[I") (.int 5)) (.int 3)) (by decide +kernel)) rfl) hA
  obtain ⟨E0, he1, he2⟩ := va_Tof (args := args) (s := s) (tm := .static RJx4a65c "DEFAULTCAPACITY_EMPTY_ELEMENTDATA" "[Ljava/lang/Object;") (ty := .object "java/lang/Object") (N := 0) (f := fun _ => .null) (A := A) (by decide) (hs _ (by decide +kernel)) (Cond.eq_int (hs (.eq (.length (.static RJx4a65c "DEFAULTCAPACITY_EMPTY_ELEMENTDATA" "[Ljava/lang/Object;")) (.int 0)) (by decide +kernel)) rfl) (fun j hj => absurd hj (Nat.not_lt_zero _)) hA
  refine ⟨E0, ⟨tk, va_Zof (hts _ (List.mem_of_getElem? (show lw_tbl[1364]? = some _ from by decide +kernel))) (hts _ (List.mem_of_getElem? (show lw_tbl[54]? = some _ from by decide +kernel))) hk1 hA, hk2⟩, ⟨va_Zof (hts _ (List.mem_of_getElem? (show lw_tbl[89]? = some _ from by decide +kernel))) (hts _ (List.mem_of_getElem? (show lw_tbl[32]? = some _ from by decide +kernel))) he1 hA, he2⟩, vx_Zqof (hts _ (List.mem_of_getElem? (show lw_tbl[492]? = some _ from by decide +kernel))) (hts _ (List.mem_of_getElem? (show lw_tbl[42]? = some _ from by decide +kernel))) (hs _ (by decide +kernel)) hA, vx_Zqof (hts _ (List.mem_of_getElem? (show lw_tbl[494]? = some _ from by decide +kernel))) (hts _ (List.mem_of_getElem? (show lw_tbl[42]? = some _ from by decide +kernel))) (hs _ (by decide +kernel)) hA⟩
