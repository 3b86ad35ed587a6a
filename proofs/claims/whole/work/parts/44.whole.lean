/-! THE WALK, OUT OF WHAT IS WANTED OF CLASS AND MODEL -/
/-- what the meaning owes: an invariant that the making gives and every call keeps -/
def Mean : Prop := ∀ (lb : Nat × Nat) (S00 : CS), (∀ q, kdC S00 q = 0) → lb.1 = szC S00 + 601024 → lb.2 = nsC S00 + 7293034 → ∃ I : Nat → CS → MS → Prop, Sim lb (szC S00) I ∧ ∃ B1 : Nat × Nat, B1.1 + 38 ≤ lb.1 ∧ B1.2 + (47 + m_sum 36) ≤ lb.2 ∧ szC S00 + 1 ≤ B1.1 ∧ nsC S00 + 3 ≤ B1.2 ∧ w_X11_init B1 (szC S00) (newO S00 14) (fun S1 => ∀ sz ns : Nat, sz ≤ B1.1 + 38 → ns ≤ B1.2 + (47 + m_sum 36) → I 512 (rsz S1 sz ns) m_t0) (fun _ _ => False)
section LE
variable {p : Program} {l : Launch} {e : Env} {s : State} {m : MethodId} {b : Nat} {below : List Frame} {meth : Method} {c : Code} {Q : State → Prop} {L : Nat} {xs : Nat → Int32}
variable {D : va_G} {K : Nat → ClassId} {E0 : Nat} {S : CS} {pc : Nat} {lv : List (Nat × Value)} {st : List Value}
theorem gy_dup (C : ly_Cx p l s m b c meth L xs D K E0) {a : Value} (d : decode code pc = .ok (.dup, 1)) (ha : a.category = 1) (k : GY p l e s m b below meth c D K E0 Q S (pc + 1) lv (a :: a :: st)) : GY p l e s m b below meth c D K E0 Q S pc lv (a :: st) :=
  fun G H locs ls hP hA hS hs h1 h2 hl => lv_dup C.1 C.2.1 d ha (k G H locs ls hP hA hS hs h1 h2 hl)
theorem gy_astoren (C : ly_Cx p l s m b c meth L xs D K E0) {n : Fin 4} (i : Nat) {x : Nat} (lv' : List (Nat × Value)) (d : decode code pc = .ok (.astore_n n, 1)) (hi : (n : Nat) = i) (hn : i < 7) (hl' : (i, Value.ref x) :: lv.filter (fun q => !(q.1 == i) && !(q.1 + 1 == i && q.2.category == 2)) = lv') (k : GY p l e s m b below meth c D K E0 Q S (pc + 1) lv' st) : GY p l e s m b below meth c D K E0 Q S pc lv (.ref x :: st) :=
  fun G H locs ls hP hA hS hs h1 h2 hl => lv_astore_n C.1 C.2.1 d hi hl hn hl' (fun ls' hl2 => k G H locs ls' hP hA hS hs h1 h2 hl2)
end LE
theorem whole_of (hMean : Mean) {p : Program} {e : Env} {s : State} {m : MethodId} {below : List Frame} {meth : Method} {c : Code} (l : Launch) (hflags : l.flags = flags0) {b L : Nat} {xs : Nat → Int32} (hL : L ≤ 3584) (C0 : lw_At p s m meth c b L xs) : W p l e room_1 s m #[Value.ref b] below meth c s.heap [] 0 0 (lw_Z below #[Value.ref b] s) (entryFrame m ([Value.ref b] : List Value).toArray 7) := by
  obtain ⟨hx, hcode, hret, hml, hown, hts, hX, hbl, hlk, hg⟩ := C0
  obtain ⟨D, K, hK⟩ := l_KD hts
  obtain ⟨E0, hSt⟩ := l_StC (A := fun q => s.heap.size ≤ q) hts hg (fun a h1 h2 => Nat.lt_irrefl _ (Nat.lt_of_lt_of_le h1 h2))
  have hst : l.stackTraces = false := by
    unfold Launch.stackTraces
    rw [hflags]
    decide +kernel
  have C : ly_Cx p l s m b c meth L xs D K E0 := ⟨hx, hcode, hml, hown, fun w hw => by
    rcases List.mem_cons.mp hw with h | h
    · rw [h]; exact hts _ (wU_in BXi)
    · exact hts w (wU_in h), hK, hSt, hst, hlk, l_Ev hts hg, l_Nc hg, hX, hbl, hret⟩
  obtain ⟨S00, hS00⟩ : ∃ S : CS, S = mkC (fun _ => 0) (fun _ _ => 0) (fun _ _ _ => 0) (fun _ _ => 0) (fun _ _ => none) (fun _ _ _ => none) (fun _ _ => []) (fun _ _ => 0) s.heap.size (hsl s.heap) := ⟨_, rfl⟩
  have k0 : ∀ q, kdC S00 q = 0 := fun q => by rw [hS00]; rfl
  have k1 : szC S00 = s.heap.size := by rw [hS00]; rfl
  have k2 : nsC S00 = hsl s.heap := by rw [hS00]; rfl
  have hl1 : (lB s).1 = szC S00 + 601024 := by rw [k1]; rfl
  have hl2 : (lB s).2 = nsC S00 + 7293034 := by rw [k2]; rfl
  obtain ⟨I, Sm, B1, b1, b2, b3, b4, hw⟩ := hMean (lB s) S00 k0 hl1 hl2
  have hG0 : RepC D K E0 S00 ((fun _ => (0, 0)), (fun _ _ => none), (fun _ _ => 0)) s.heap :=
    ⟨fun a r o h1 h2 => absurd (congrArg Prod.fst h1).symm h2, fun o h => absurd (k0 o) h, k1.symm, k2.symm⟩
  have key : GY p l e s m b below meth c D K E0 (lw_Z below #[Value.ref b] s) S00 0 (lv_args 0 [.ref b]) [] := by
    refine gy_new C ⟨by omega, by omega⟩ dL_law_0 (fun hz => ?_)
    refine gy_dup C dL_law_3 rfl ?_
    refine gy_init C B1 ⟨by omega, by omega⟩ ⟨b3, b4⟩ (c_X11_init l D K E0 B1 _ (szC S00) (newO S00 14) _ _ hw) dL_law_4 (Nat.le_of_ble_eq_true rfl) (fun S1 hp hz1 hz2 => ?_)
    refine gy_astoren C 1 [(1, .ref (szC S00)), (0, .ref b)] dL_law_7 rfl (by decide) rfl ?_
    refine gy_go C ⟨by omega, by omega⟩ (fun mo ao Cx => ?_)
    exact l_loop Cx Sm hL 512 0 rfl _ _ _ (hp _ _ (by omega) (by omega))
  have hl := lv_entry [.ref b] (n := 7) (Nat.le_of_ble_eq_true rfl)
  rw [lg_entry_eq]
  have kk := key _ s.heap [] _ hG0 (fun q hq => hq.elim (fun h => absurd rfl h) (fun h => by rw [← k1]; exact h)) va_S.rf (Nat.le_refl _) (by omega) (by omega) hl
  rw [Nat.sub_self, Nat.sub_self] at kk
  exact kk
