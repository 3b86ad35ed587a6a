/-! THE LAW'S CASES: what is wanted of class and model, call by call -/
def lbo (x : Int32) : Int32 := if x = 0 then 0 else 1
def lboL (x : Int32) : Int64 := if x = 0 then 0 else 1
theorem lbo_gb (x : Int32) : gb (lbo x) := by
  unfold lbo
  by_cases h : x = 0
  · rw [if_pos h]
    exact Or.inl rfl
  · rw [if_neg h]
    exact Or.inr rfl
def sB (lb B1 : Nat × Nat) (S : CS) : Prop := (B1.1 ≤ lb.1 ∧ B1.2 ≤ lb.2) ∧ (szC S ≤ B1.1 ∧ nsC S ≤ B1.2)
def sPI (B1 : Nat × Nat) (I : CS → MS → Prop) (M : (Int32 → MS → Prop) → Prop) : Int32 → (Nat → Int64) → CS → Prop := fun k ov S => szC S ≤ B1.1 → nsC S ≤ B1.2 → M (fun r t => v_thrown t = k ∧ (k = 0 → ov 0 = Int32.toInt64 r) ∧ I S t)
def sPZ (B1 : Nat × Nat) (I : CS → MS → Prop) (M : (Int32 → MS → Prop) → Prop) : Int32 → (Nat → Int64) → CS → Prop := fun k ov S => szC S ≤ B1.1 → nsC S ≤ B1.2 → M (fun r t => v_thrown t = k ∧ (k = 0 → ov 0 = lboL r) ∧ I S t)
def sPV (B1 : Nat × Nat) (I : CS → MS → Prop) (M : (MS → Prop) → Prop) : Int32 → (Nat → Int64) → CS → Prop := fun k _ S => szC S ≤ B1.1 → nsC S ≤ B1.2 → M (fun t => v_thrown t = k ∧ I S t)
def sPD (B1 : Nat × Nat) (I : CS → MS → Prop) (M : (Int32 → MS → Prop) → Prop) : Int32 → CS → Prop := fun k S => szC S ≤ B1.1 → nsC S ≤ B1.2 → M (fun r t => k = r ∧ I S t)
def Si_rs (lb : Nat × Nat) (o : Nat) (I : Nat → CS → MS → Prop) : Prop := ∀ (n : Nat) (S : CS) (t : MS) (ns : Nat), I n S t → ns ≤ nsC S → I n (rsz S (szC S) ns) t
def Si_kd (lb : Nat × Nat) (o : Nat) (I : Nat → CS → MS → Prop) : Prop := ∀ (n : Nat) (S : CS) (t : MS), I n S t → kdC S o = 14
def Si_dn (lb : Nat × Nat) (o : Nat) (I : Nat → CS → MS → Prop) : Prop := ∀ (n : Nat) (S : CS) (t : MS), I (n + 1) S t → I n S t
def Si_addBar (lb : Nat × Nat) (o : Nat) (I : Nat → CS → MS → Prop) : Prop := ∀ (n : Nat) (S : CS) (t : MS) (ov : Nat → Int64) (a1 : Int32) (a2 : Int32), I (n + 1) S t → ∃ B1 : Nat × Nat, sB lb B1 S ∧ w_X11_addBar B1 o a1 a2 S (fun r S' => sPI B1 (I n) (w_addBar a1 a2 t) 0 (va_up ov 0 (Int32.toInt64 r)) S') (fun E S' => (E = "java/lang/IllegalArgumentException" ∧ sPI B1 (I n) (w_addBar a1 a2 t) 1 ov S') ∨ (E = "java/lang/IllegalStateException" ∧ sPI B1 (I n) (w_addBar a1 a2 t) 2 ov S'))
def Si_setMetre (lb : Nat × Nat) (o : Nat) (I : Nat → CS → MS → Prop) : Prop := ∀ (n : Nat) (S : CS) (t : MS) (ov : Nat → Int64) (a1 : Int32) (a2 : Int32) (a3 : Int32), I (n + 1) S t → ∃ B1 : Nat × Nat, sB lb B1 S ∧ w_X11_setMetre B1 o a1 a2 a3 S (fun r S' => sPI B1 (I n) (w_setMetre a1 a2 a3 t) 0 (va_up ov 0 (Int32.toInt64 r)) S') (fun E S' => (E = "java/lang/IndexOutOfBoundsException" ∧ sPI B1 (I n) (w_setMetre a1 a2 a3 t) 1 ov S') ∨ (E = "java/lang/IllegalArgumentException" ∧ sPI B1 (I n) (w_setMetre a1 a2 a3 t) 2 ov S') ∨ (E = "java/lang/IllegalStateException" ∧ sPI B1 (I n) (w_setMetre a1 a2 a3 t) 3 ov S'))
def Si_setTempo (lb : Nat × Nat) (o : Nat) (I : Nat → CS → MS → Prop) : Prop := ∀ (n : Nat) (S : CS) (t : MS) (ov : Nat → Int64) (a1 : Int32) (a2 : Int32), I (n + 1) S t → ∃ B1 : Nat × Nat, sB lb B1 S ∧ w_X11_setTempo B1 o a1 a2 S (fun r S' => sPI B1 (I n) (w_setTempo a1 a2 t) 0 (va_up ov 0 (Int32.toInt64 r)) S') (fun E S' => (E = "java/lang/IndexOutOfBoundsException" ∧ sPI B1 (I n) (w_setTempo a1 a2 t) 1 ov S') ∨ (E = "java/lang/IllegalArgumentException" ∧ sPI B1 (I n) (w_setTempo a1 a2 t) 2 ov S'))
def Si_bars (lb : Nat × Nat) (o : Nat) (I : Nat → CS → MS → Prop) : Prop := ∀ (n : Nat) (S : CS) (t : MS), I (n + 1) S t → ∃ B1 : Nat × Nat, sB lb B1 S ∧ d_X11_bars o S ∧ (sPD B1 (I n) (w_bars t) (v_X11_bars o S) S)
def Si_length (lb : Nat × Nat) (o : Nat) (I : Nat → CS → MS → Prop) : Prop := ∀ (n : Nat) (S : CS) (t : MS) (ov : Nat → Int64) (a1 : Int32), I (n + 1) S t → ∃ B1 : Nat × Nat, sB lb B1 S ∧ w_X11_length B1 o a1 S (fun r S' => sPI B1 (I n) (w_length a1 t) 0 (va_up ov 0 (Int32.toInt64 r)) S') (fun E S' => (E = "java/lang/IndexOutOfBoundsException" ∧ sPI B1 (I n) (w_length a1 t) 1 ov S'))
def Si_tempo (lb : Nat × Nat) (o : Nat) (I : Nat → CS → MS → Prop) : Prop := ∀ (n : Nat) (S : CS) (t : MS) (ov : Nat → Int64) (a1 : Int32), I (n + 1) S t → ∃ B1 : Nat × Nat, sB lb B1 S ∧ w_X11_tempo B1 o a1 S (fun r S' => sPI B1 (I n) (w_tempo a1 t) 0 (va_up ov 0 (Int32.toInt64 r)) S') (fun E S' => (E = "java/lang/IndexOutOfBoundsException" ∧ sPI B1 (I n) (w_tempo a1 t) 1 ov S'))
def Si_time (lb : Nat × Nat) (o : Nat) (I : Nat → CS → MS → Prop) : Prop := ∀ (n : Nat) (S : CS) (t : MS) (ov : Nat → Int64) (a1 : Int32), I (n + 1) S t → ∃ B1 : Nat × Nat, sB lb B1 S ∧ w_X11_time B1 o a1 S (fun r S' => sPI B1 (I n) (w_time a1 t) 0 (va_up ov 0 (Int32.toInt64 r)) S') (fun E S' => (E = "java/lang/IndexOutOfBoundsException" ∧ sPI B1 (I n) (w_time a1 t) 1 ov S'))
def Si_insert (lb : Nat × Nat) (o : Nat) (I : Nat → CS → MS → Prop) : Prop := ∀ (n : Nat) (S : CS) (t : MS) (ov : Nat → Int64) (a1 : Int32) (a2 : Int32) (a3 : Int32) (a4 : Int32) (a5 : Int32) (a6 : Int32), I (n + 1) S t → ∃ B1 : Nat × Nat, sB lb B1 S ∧ w_X11_insert B1 o a1 a2 a3 a4 a5 a6 S (fun r S' => sPI B1 (I n) (w_insert a1 a2 a3 a4 a5 a6 t) 0 (va_up ov 0 (Int32.toInt64 r)) S') (fun E S' => (E = "java/lang/IllegalArgumentException" ∧ sPI B1 (I n) (w_insert a1 a2 a3 a4 a5 a6 t) 1 ov S') ∨ (E = "java/lang/IndexOutOfBoundsException" ∧ sPI B1 (I n) (w_insert a1 a2 a3 a4 a5 a6 t) 2 ov S') ∨ (E = "java/lang/IllegalStateException" ∧ sPI B1 (I n) (w_insert a1 a2 a3 a4 a5 a6 t) 3 ov S'))
def Si_remove (lb : Nat × Nat) (o : Nat) (I : Nat → CS → MS → Prop) : Prop := ∀ (n : Nat) (S : CS) (t : MS) (ov : Nat → Int64) (a1 : Int32) (a2 : Int32) (a3 : Int32), I (n + 1) S t → ∃ B1 : Nat × Nat, sB lb B1 S ∧ w_X11_remove B1 o a1 a2 a3 S (fun r S' => sPI B1 (I n) (w_remove a1 a2 a3 t) 0 (va_up ov 0 (Int32.toInt64 r)) S') (fun E S' => (E = "java/lang/IllegalArgumentException" ∧ sPI B1 (I n) (w_remove a1 a2 a3 t) 1 ov S') ∨ (E = "java/lang/IndexOutOfBoundsException" ∧ sPI B1 (I n) (w_remove a1 a2 a3 t) 2 ov S'))
def Si_setPitch (lb : Nat × Nat) (o : Nat) (I : Nat → CS → MS → Prop) : Prop := ∀ (n : Nat) (S : CS) (t : MS) (ov : Nat → Int64) (a1 : Int32) (a2 : Int32) (a3 : Int32) (a4 : Int32), I (n + 1) S t → ∃ B1 : Nat × Nat, sB lb B1 S ∧ w_X11_setPitch B1 o a1 a2 a3 a4 S (fun r S' => sPI B1 (I n) (w_setPitch a1 a2 a3 a4 t) 0 (va_up ov 0 (Int32.toInt64 r)) S') (fun E S' => (E = "java/lang/IllegalArgumentException" ∧ sPI B1 (I n) (w_setPitch a1 a2 a3 a4 t) 1 ov S') ∨ (E = "java/lang/IndexOutOfBoundsException" ∧ sPI B1 (I n) (w_setPitch a1 a2 a3 a4 t) 2 ov S') ∨ (E = "java/lang/IllegalStateException" ∧ sPI B1 (I n) (w_setPitch a1 a2 a3 a4 t) 3 ov S'))
def Si_setTie (lb : Nat × Nat) (o : Nat) (I : Nat → CS → MS → Prop) : Prop := ∀ (n : Nat) (S : CS) (t : MS) (ov : Nat → Int64) (a1 : Int32) (a2 : Int32) (a3 : Int32) (a4 : Int32), I (n + 1) S t → gb a4 → ∃ B1 : Nat × Nat, sB lb B1 S ∧ w_X11_setTie B1 o a1 a2 a3 a4 S (fun r S' => (¬ r = 0 → sPZ B1 (I n) (w_setTie a1 a2 a3 a4 t) 0 (va_up ov 0 1) S') ∧ (r = 0 → sPZ B1 (I n) (w_setTie a1 a2 a3 a4 t) 0 (va_up ov 0 0) S')) (fun E S' => (E = "java/lang/IllegalArgumentException" ∧ sPZ B1 (I n) (w_setTie a1 a2 a3 a4 t) 1 ov S') ∨ (E = "java/lang/IndexOutOfBoundsException" ∧ sPZ B1 (I n) (w_setTie a1 a2 a3 a4 t) 2 ov S') ∨ (E = "java/lang/IllegalStateException" ∧ sPZ B1 (I n) (w_setTie a1 a2 a3 a4 t) 3 ov S'))
def Si_setMark (lb : Nat × Nat) (o : Nat) (I : Nat → CS → MS → Prop) : Prop := ∀ (n : Nat) (S : CS) (t : MS) (ov : Nat → Int64) (a1 : Int32) (a2 : Int32) (a3 : Int32) (a4 : Int32), I (n + 1) S t → ∃ B1 : Nat × Nat, sB lb B1 S ∧ w_X11_setMark B1 o a1 a2 a3 a4 S (fun r S' => sPI B1 (I n) (w_setMark a1 a2 a3 a4 t) 0 (va_up ov 0 (Int32.toInt64 r)) S') (fun E S' => (E = "java/lang/IllegalArgumentException" ∧ sPI B1 (I n) (w_setMark a1 a2 a3 a4 t) 1 ov S') ∨ (E = "java/lang/IndexOutOfBoundsException" ∧ sPI B1 (I n) (w_setMark a1 a2 a3 a4 t) 2 ov S'))
def Si_transpose (lb : Nat × Nat) (o : Nat) (I : Nat → CS → MS → Prop) : Prop := ∀ (n : Nat) (S : CS) (t : MS) (ov : Nat → Int64) (a1 : Int32) (a2 : Int32), I (n + 1) S t → ∃ B1 : Nat × Nat, sB lb B1 S ∧ w_X11_transpose B1 o a1 a2 S (fun r S' => sPI B1 (I n) (w_transpose a1 a2 t) 0 (va_up ov 0 (Int32.toInt64 r)) S') (fun E S' => (E = "java/lang/IllegalArgumentException" ∧ sPI B1 (I n) (w_transpose a1 a2 t) 1 ov S') ∨ (E = "java/lang/IllegalStateException" ∧ sPI B1 (I n) (w_transpose a1 a2 t) 2 ov S'))
def Si_events (lb : Nat × Nat) (o : Nat) (I : Nat → CS → MS → Prop) : Prop := ∀ (n : Nat) (S : CS) (t : MS) (ov : Nat → Int64) (a1 : Int32) (a2 : Int32), I (n + 1) S t → ∃ B1 : Nat × Nat, sB lb B1 S ∧ w_X11_events B1 o a1 a2 S (fun r S' => sPI B1 (I n) (w_events a1 a2 t) 0 (va_up ov 0 (Int32.toInt64 r)) S') (fun E S' => (E = "java/lang/IllegalArgumentException" ∧ sPI B1 (I n) (w_events a1 a2 t) 1 ov S') ∨ (E = "java/lang/IndexOutOfBoundsException" ∧ sPI B1 (I n) (w_events a1 a2 t) 2 ov S'))
def Si_left (lb : Nat × Nat) (o : Nat) (I : Nat → CS → MS → Prop) : Prop := ∀ (n : Nat) (S : CS) (t : MS) (ov : Nat → Int64) (a1 : Int32) (a2 : Int32), I (n + 1) S t → ∃ B1 : Nat × Nat, sB lb B1 S ∧ w_X11_left B1 o a1 a2 S (fun r S' => sPI B1 (I n) (w_left a1 a2 t) 0 (va_up ov 0 (Int32.toInt64 r)) S') (fun E S' => (E = "java/lang/IllegalArgumentException" ∧ sPI B1 (I n) (w_left a1 a2 t) 1 ov S') ∨ (E = "java/lang/IndexOutOfBoundsException" ∧ sPI B1 (I n) (w_left a1 a2 t) 2 ov S'))
def Si_isRight (lb : Nat × Nat) (o : Nat) (I : Nat → CS → MS → Prop) : Prop := ∀ (n : Nat) (S : CS) (t : MS) (ov : Nat → Int64) (a1 : Int32) (a2 : Int32), I (n + 1) S t → ∃ B1 : Nat × Nat, sB lb B1 S ∧ w_X11_isRight B1 o a1 a2 S (fun r S' => (¬ r = 0 → sPZ B1 (I n) (w_isRight a1 a2 t) 0 (va_up ov 0 1) S') ∧ (r = 0 → sPZ B1 (I n) (w_isRight a1 a2 t) 0 (va_up ov 0 0) S')) (fun E S' => (E = "java/lang/IllegalArgumentException" ∧ sPZ B1 (I n) (w_isRight a1 a2 t) 1 ov S') ∨ (E = "java/lang/IndexOutOfBoundsException" ∧ sPZ B1 (I n) (w_isRight a1 a2 t) 2 ov S'))
def Si_written (lb : Nat × Nat) (o : Nat) (I : Nat → CS → MS → Prop) : Prop := ∀ (n : Nat) (S : CS) (t : MS) (ov : Nat → Int64) (a1 : Int32) (a2 : Int32) (a3 : Int32), I (n + 1) S t → ∃ B1 : Nat × Nat, sB lb B1 S ∧ w_X11_written B1 o a1 a2 a3 S (fun r S' => sPI B1 (I n) (w_written a1 a2 a3 t) 0 (va_up ov 0 (Int32.toInt64 r)) S') (fun E S' => (E = "java/lang/IllegalArgumentException" ∧ sPI B1 (I n) (w_written a1 a2 a3 t) 1 ov S') ∨ (E = "java/lang/IndexOutOfBoundsException" ∧ sPI B1 (I n) (w_written a1 a2 a3 t) 2 ov S'))
def Si_addPhrase (lb : Nat × Nat) (o : Nat) (I : Nat → CS → MS → Prop) : Prop := ∀ (n : Nat) (S : CS) (t : MS) (ov : Nat → Int64) (a1 : Int32) (a2 : Int32) (a3 : Int32) (a4 : Int32) (a5 : Int32), I (n + 1) S t → ∃ B1 : Nat × Nat, sB lb B1 S ∧ w_X11_addPhrase B1 o a1 a2 a3 a4 a5 S (fun r S' => sPI B1 (I n) (w_addPhrase a1 a2 a3 a4 a5 t) 0 (va_up ov 0 (Int32.toInt64 r)) S') (fun E S' => (E = "java/lang/IllegalArgumentException" ∧ sPI B1 (I n) (w_addPhrase a1 a2 a3 a4 a5 t) 1 ov S') ∨ (E = "java/lang/IndexOutOfBoundsException" ∧ sPI B1 (I n) (w_addPhrase a1 a2 a3 a4 a5 t) 2 ov S') ∨ (E = "java/lang/IllegalStateException" ∧ sPI B1 (I n) (w_addPhrase a1 a2 a3 a4 a5 t) 3 ov S'))
def Si_dropPhrase (lb : Nat × Nat) (o : Nat) (I : Nat → CS → MS → Prop) : Prop := ∀ (n : Nat) (S : CS) (t : MS) (ov : Nat → Int64) (a1 : Int32), I (n + 1) S t → ∃ B1 : Nat × Nat, sB lb B1 S ∧ w_X11_dropPhrase B1 o a1 S (fun r S' => (¬ r = 0 → sPZ B1 (I n) (w_dropPhrase a1 t) 0 (va_up ov 0 1) S') ∧ (r = 0 → sPZ B1 (I n) (w_dropPhrase a1 t) 0 (va_up ov 0 0) S')) (fun E S' => (E = "java/lang/IndexOutOfBoundsException" ∧ sPZ B1 (I n) (w_dropPhrase a1 t) 1 ov S'))
def Si_phrases (lb : Nat × Nat) (o : Nat) (I : Nat → CS → MS → Prop) : Prop := ∀ (n : Nat) (S : CS) (t : MS), I (n + 1) S t → ∃ B1 : Nat × Nat, sB lb B1 S ∧ w_X11_phrases B1 o S (sPD B1 (I n) (w_phrases t)) (fun _ _ => False)
def Si_allowTurn (lb : Nat × Nat) (o : Nat) (I : Nat → CS → MS → Prop) : Prop := ∀ (n : Nat) (S : CS) (t : MS) (ov : Nat → Int64) (a1 : Int32) (a2 : Int32) (a3 : Int32), I (n + 1) S t → gb a3 → ∃ B1 : Nat × Nat, sB lb B1 S ∧ w_X11_allowTurn B1 o a1 a2 a3 S (fun r S' => (¬ r = 0 → sPZ B1 (I n) (w_allowTurn a1 a2 a3 t) 0 (va_up ov 0 1) S') ∧ (r = 0 → sPZ B1 (I n) (w_allowTurn a1 a2 a3 t) 0 (va_up ov 0 0) S')) (fun E S' => (E = "java/lang/IllegalArgumentException" ∧ sPZ B1 (I n) (w_allowTurn a1 a2 a3 t) 1 ov S') ∨ (E = "java/lang/IndexOutOfBoundsException" ∧ sPZ B1 (I n) (w_allowTurn a1 a2 a3 t) 2 ov S'))
def Si_addRepeat (lb : Nat × Nat) (o : Nat) (I : Nat → CS → MS → Prop) : Prop := ∀ (n : Nat) (S : CS) (t : MS) (ov : Nat → Int64) (a1 : Int32) (a2 : Int32) (a3 : Int32), I (n + 1) S t → ∃ B1 : Nat × Nat, sB lb B1 S ∧ w_X11_addRepeat B1 o a1 a2 a3 S (fun r S' => sPI B1 (I n) (w_addRepeat a1 a2 a3 t) 0 (va_up ov 0 (Int32.toInt64 r)) S') (fun E S' => (E = "java/lang/IndexOutOfBoundsException" ∧ sPI B1 (I n) (w_addRepeat a1 a2 a3 t) 1 ov S') ∨ (E = "java/lang/IllegalArgumentException" ∧ sPI B1 (I n) (w_addRepeat a1 a2 a3 t) 2 ov S') ∨ (E = "java/lang/IllegalStateException" ∧ sPI B1 (I n) (w_addRepeat a1 a2 a3 t) 3 ov S'))
def Si_dropRepeat (lb : Nat × Nat) (o : Nat) (I : Nat → CS → MS → Prop) : Prop := ∀ (n : Nat) (S : CS) (t : MS) (ov : Nat → Int64) (a1 : Int32), I (n + 1) S t → ∃ B1 : Nat × Nat, sB lb B1 S ∧ w_X11_dropRepeat B1 o a1 S (fun r S' => sPI B1 (I n) (w_dropRepeat a1 t) 0 (va_up ov 0 (Int32.toInt64 r)) S') (fun E S' => (E = "java/lang/IndexOutOfBoundsException" ∧ sPI B1 (I n) (w_dropRepeat a1 t) 1 ov S') ∨ (E = "java/lang/IllegalStateException" ∧ sPI B1 (I n) (w_dropRepeat a1 t) 2 ov S'))
def Si_places (lb : Nat × Nat) (o : Nat) (I : Nat → CS → MS → Prop) : Prop := ∀ (n : Nat) (S : CS) (t : MS), I (n + 1) S t → ∃ B1 : Nat × Nat, sB lb B1 S ∧ w_X11_places B1 o S (sPD B1 (I n) (w_places t)) (fun _ _ => False)
def Si_barAt (lb : Nat × Nat) (o : Nat) (I : Nat → CS → MS → Prop) : Prop := ∀ (n : Nat) (S : CS) (t : MS) (ov : Nat → Int64) (a1 : Int32), I (n + 1) S t → ∃ B1 : Nat × Nat, sB lb B1 S ∧ w_X11_barAt B1 o a1 S (fun r S' => sPI B1 (I n) (w_barAt a1 t) 0 (va_up ov 0 (Int32.toInt64 r)) S') (fun E S' => (E = "java/lang/IndexOutOfBoundsException" ∧ sPI B1 (I n) (w_barAt a1 t) 1 ov S'))
def Si_startOf (lb : Nat × Nat) (o : Nat) (I : Nat → CS → MS → Prop) : Prop := ∀ (n : Nat) (S : CS) (t : MS) (ov : Nat → Int64) (a1 : Int32), I (n + 1) S t → ∃ B1 : Nat × Nat, sB lb B1 S ∧ w_X11_startOf B1 o a1 S (fun r S' => sPI B1 (I n) (w_startOf a1 t) 0 (va_up ov 0 (Int32.toInt64 r)) S') (fun E S' => (E = "java/lang/IndexOutOfBoundsException" ∧ sPI B1 (I n) (w_startOf a1 t) 1 ov S'))
def Si_playingTime (lb : Nat × Nat) (o : Nat) (I : Nat → CS → MS → Prop) : Prop := ∀ (n : Nat) (S : CS) (t : MS), I (n + 1) S t → ∃ B1 : Nat × Nat, sB lb B1 S ∧ w_X11_playingTime B1 o S (sPD B1 (I n) (w_playingTime t)) (fun _ _ => False)
def Si_timeByEvents (lb : Nat × Nat) (o : Nat) (I : Nat → CS → MS → Prop) : Prop := ∀ (n : Nat) (S : CS) (t : MS) (ov : Nat → Int64) (a1 : Int32), I (n + 1) S t → ∃ B1 : Nat × Nat, sB lb B1 S ∧ w_X11_timeByEvents B1 o a1 S (fun r S' => sPI B1 (I n) (w_timeByEvents a1 t) 0 (va_up ov 0 (Int32.toInt64 r)) S') (fun E S' => (E = "java/lang/IllegalArgumentException" ∧ sPI B1 (I n) (w_timeByEvents a1 t) 1 ov S'))
def Si_sounds (lb : Nat × Nat) (o : Nat) (I : Nat → CS → MS → Prop) : Prop := ∀ (n : Nat) (S : CS) (t : MS), I (n + 1) S t → ∃ B1 : Nat × Nat, sB lb B1 S ∧ w_X11_sounds B1 o S (sPD B1 (I n) (w_sounds t)) (fun _ _ => False)
def Si_soundVoice (lb : Nat × Nat) (o : Nat) (I : Nat → CS → MS → Prop) : Prop := ∀ (n : Nat) (S : CS) (t : MS) (ov : Nat → Int64) (a1 : Int32), I (n + 1) S t → ∃ B1 : Nat × Nat, sB lb B1 S ∧ w_X11_soundVoice B1 o a1 S (fun r S' => sPI B1 (I n) (w_soundVoice a1 t) 0 (va_up ov 0 (Int32.toInt64 r)) S') (fun E S' => (E = "java/lang/IndexOutOfBoundsException" ∧ sPI B1 (I n) (w_soundVoice a1 t) 1 ov S'))
def Si_soundStart (lb : Nat × Nat) (o : Nat) (I : Nat → CS → MS → Prop) : Prop := ∀ (n : Nat) (S : CS) (t : MS) (ov : Nat → Int64) (a1 : Int32), I (n + 1) S t → ∃ B1 : Nat × Nat, sB lb B1 S ∧ w_X11_soundStart B1 o a1 S (fun r S' => sPI B1 (I n) (w_soundStart a1 t) 0 (va_up ov 0 (Int32.toInt64 r)) S') (fun E S' => (E = "java/lang/IndexOutOfBoundsException" ∧ sPI B1 (I n) (w_soundStart a1 t) 1 ov S'))
def Si_soundTime (lb : Nat × Nat) (o : Nat) (I : Nat → CS → MS → Prop) : Prop := ∀ (n : Nat) (S : CS) (t : MS) (ov : Nat → Int64) (a1 : Int32), I (n + 1) S t → ∃ B1 : Nat × Nat, sB lb B1 S ∧ w_X11_soundTime B1 o a1 S (fun r S' => sPI B1 (I n) (w_soundTime a1 t) 0 (va_up ov 0 (Int32.toInt64 r)) S') (fun E S' => (E = "java/lang/IndexOutOfBoundsException" ∧ sPI B1 (I n) (w_soundTime a1 t) 1 ov S'))
def Si_soundPitch (lb : Nat × Nat) (o : Nat) (I : Nat → CS → MS → Prop) : Prop := ∀ (n : Nat) (S : CS) (t : MS) (ov : Nat → Int64) (a1 : Int32), I (n + 1) S t → ∃ B1 : Nat × Nat, sB lb B1 S ∧ w_X11_soundPitch B1 o a1 S (fun r S' => sPI B1 (I n) (w_soundPitch a1 t) 0 (va_up ov 0 (Int32.toInt64 r)) S') (fun E S' => (E = "java/lang/IndexOutOfBoundsException" ∧ sPI B1 (I n) (w_soundPitch a1 t) 1 ov S'))
def Si_loudness (lb : Nat × Nat) (o : Nat) (I : Nat → CS → MS → Prop) : Prop := ∀ (n : Nat) (S : CS) (t : MS) (ov : Nat → Int64) (a1 : Int32), I (n + 1) S t → ∃ B1 : Nat × Nat, sB lb B1 S ∧ w_X11_loudness B1 o a1 S (fun r S' => sPI B1 (I n) (w_loudness a1 t) 0 (va_up ov 0 (Int32.toInt64 r)) S') (fun E S' => (E = "java/lang/IndexOutOfBoundsException" ∧ sPI B1 (I n) (w_loudness a1 t) 1 ov S'))
def Si_setPaper (lb : Nat × Nat) (o : Nat) (I : Nat → CS → MS → Prop) : Prop := ∀ (n : Nat) (S : CS) (t : MS) (ov : Nat → Int64) (a1 : Int32) (a2 : Int32) (a3 : Int32), I (n + 1) S t → ∃ B1 : Nat × Nat, sB lb B1 S ∧ w_X11_setPaper B1 o a1 a2 a3 S (fun S' => sPV B1 (I n) (w_setPaper a1 a2 a3 t) 0 ov S') (fun E S' => (E = "java/lang/IllegalArgumentException" ∧ sPV B1 (I n) (w_setPaper a1 a2 a3 t) 1 ov S'))
def Si_items (lb : Nat × Nat) (o : Nat) (I : Nat → CS → MS → Prop) : Prop := ∀ (n : Nat) (S : CS) (t : MS) (ov : Nat → Int64) (a1 : Int32), I (n + 1) S t → ∃ B1 : Nat × Nat, sB lb B1 S ∧ w_X11_items B1 o a1 S (fun r S' => sPI B1 (I n) (w_items a1 t) 0 (va_up ov 0 (Int32.toInt64 r)) S') (fun E S' => (E = "java/lang/IllegalArgumentException" ∧ sPI B1 (I n) (w_items a1 t) 1 ov S') ∨ (E = "java/lang/IllegalStateException" ∧ sPI B1 (I n) (w_items a1 t) 2 ov S'))
def Si_itemKind (lb : Nat × Nat) (o : Nat) (I : Nat → CS → MS → Prop) : Prop := ∀ (n : Nat) (S : CS) (t : MS) (ov : Nat → Int64) (a1 : Int32) (a2 : Int32), I (n + 1) S t → ∃ B1 : Nat × Nat, sB lb B1 S ∧ w_X11_itemKind B1 o a1 a2 S (fun r S' => sPI B1 (I n) (w_itemKind a1 a2 t) 0 (va_up ov 0 (Int32.toInt64 r)) S') (fun E S' => (E = "java/lang/IllegalArgumentException" ∧ sPI B1 (I n) (w_itemKind a1 a2 t) 1 ov S') ∨ (E = "java/lang/IllegalStateException" ∧ sPI B1 (I n) (w_itemKind a1 a2 t) 2 ov S') ∨ (E = "java/lang/IndexOutOfBoundsException" ∧ sPI B1 (I n) (w_itemKind a1 a2 t) 3 ov S'))
def Si_itemBar (lb : Nat × Nat) (o : Nat) (I : Nat → CS → MS → Prop) : Prop := ∀ (n : Nat) (S : CS) (t : MS) (ov : Nat → Int64) (a1 : Int32) (a2 : Int32), I (n + 1) S t → ∃ B1 : Nat × Nat, sB lb B1 S ∧ w_X11_itemBar B1 o a1 a2 S (fun r S' => sPI B1 (I n) (w_itemBar a1 a2 t) 0 (va_up ov 0 (Int32.toInt64 r)) S') (fun E S' => (E = "java/lang/IllegalArgumentException" ∧ sPI B1 (I n) (w_itemBar a1 a2 t) 1 ov S') ∨ (E = "java/lang/IllegalStateException" ∧ sPI B1 (I n) (w_itemBar a1 a2 t) 2 ov S') ∨ (E = "java/lang/IndexOutOfBoundsException" ∧ sPI B1 (I n) (w_itemBar a1 a2 t) 3 ov S'))
def Si_itemBars (lb : Nat × Nat) (o : Nat) (I : Nat → CS → MS → Prop) : Prop := ∀ (n : Nat) (S : CS) (t : MS) (ov : Nat → Int64) (a1 : Int32) (a2 : Int32), I (n + 1) S t → ∃ B1 : Nat × Nat, sB lb B1 S ∧ w_X11_itemBars B1 o a1 a2 S (fun r S' => sPI B1 (I n) (w_itemBars a1 a2 t) 0 (va_up ov 0 (Int32.toInt64 r)) S') (fun E S' => (E = "java/lang/IllegalArgumentException" ∧ sPI B1 (I n) (w_itemBars a1 a2 t) 1 ov S') ∨ (E = "java/lang/IllegalStateException" ∧ sPI B1 (I n) (w_itemBars a1 a2 t) 2 ov S') ∨ (E = "java/lang/IndexOutOfBoundsException" ∧ sPI B1 (I n) (w_itemBars a1 a2 t) 3 ov S'))
def Si_cue (lb : Nat × Nat) (o : Nat) (I : Nat → CS → MS → Prop) : Prop := ∀ (n : Nat) (S : CS) (t : MS) (ov : Nat → Int64) (a1 : Int32) (a2 : Int32), I (n + 1) S t → ∃ B1 : Nat × Nat, sB lb B1 S ∧ w_X11_cue B1 o a1 a2 S (fun r S' => sPI B1 (I n) (w_cue a1 a2 t) 0 (va_up ov 0 (Int32.toInt64 r)) S') (fun E S' => (E = "java/lang/IllegalArgumentException" ∧ sPI B1 (I n) (w_cue a1 a2 t) 1 ov S') ∨ (E = "java/lang/IllegalStateException" ∧ sPI B1 (I n) (w_cue a1 a2 t) 2 ov S') ∨ (E = "java/lang/IndexOutOfBoundsException" ∧ sPI B1 (I n) (w_cue a1 a2 t) 3 ov S'))
def Si_itemWidth (lb : Nat × Nat) (o : Nat) (I : Nat → CS → MS → Prop) : Prop := ∀ (n : Nat) (S : CS) (t : MS) (ov : Nat → Int64) (a1 : Int32) (a2 : Int32), I (n + 1) S t → ∃ B1 : Nat × Nat, sB lb B1 S ∧ w_X11_itemWidth B1 o a1 a2 S (fun r S' => sPI B1 (I n) (w_itemWidth a1 a2 t) 0 (va_up ov 0 (Int32.toInt64 r)) S') (fun E S' => (E = "java/lang/IllegalArgumentException" ∧ sPI B1 (I n) (w_itemWidth a1 a2 t) 1 ov S') ∨ (E = "java/lang/IllegalStateException" ∧ sPI B1 (I n) (w_itemWidth a1 a2 t) 2 ov S') ∨ (E = "java/lang/IndexOutOfBoundsException" ∧ sPI B1 (I n) (w_itemWidth a1 a2 t) 3 ov S'))
def Si_lines (lb : Nat × Nat) (o : Nat) (I : Nat → CS → MS → Prop) : Prop := ∀ (n : Nat) (S : CS) (t : MS) (ov : Nat → Int64) (a1 : Int32), I (n + 1) S t → ∃ B1 : Nat × Nat, sB lb B1 S ∧ w_X11_lines B1 o a1 S (fun r S' => sPI B1 (I n) (w_lines a1 t) 0 (va_up ov 0 (Int32.toInt64 r)) S') (fun E S' => (E = "java/lang/IllegalArgumentException" ∧ sPI B1 (I n) (w_lines a1 t) 1 ov S') ∨ (E = "java/lang/IllegalStateException" ∧ sPI B1 (I n) (w_lines a1 t) 2 ov S'))
def Si_firstItem (lb : Nat × Nat) (o : Nat) (I : Nat → CS → MS → Prop) : Prop := ∀ (n : Nat) (S : CS) (t : MS) (ov : Nat → Int64) (a1 : Int32) (a2 : Int32), I (n + 1) S t → ∃ B1 : Nat × Nat, sB lb B1 S ∧ w_X11_firstItem B1 o a1 a2 S (fun r S' => sPI B1 (I n) (w_firstItem a1 a2 t) 0 (va_up ov 0 (Int32.toInt64 r)) S') (fun E S' => (E = "java/lang/IllegalArgumentException" ∧ sPI B1 (I n) (w_firstItem a1 a2 t) 1 ov S') ∨ (E = "java/lang/IllegalStateException" ∧ sPI B1 (I n) (w_firstItem a1 a2 t) 2 ov S') ∨ (E = "java/lang/IndexOutOfBoundsException" ∧ sPI B1 (I n) (w_firstItem a1 a2 t) 3 ov S'))
def Si_badness (lb : Nat × Nat) (o : Nat) (I : Nat → CS → MS → Prop) : Prop := ∀ (n : Nat) (S : CS) (t : MS) (ov : Nat → Int64) (a1 : Int32), I (n + 1) S t → ∃ B1 : Nat × Nat, sB lb B1 S ∧ w_X11_badness B1 o a1 S (fun r S' => sPI B1 (I n) (w_badness a1 t) 0 (va_up ov 0 (Int32.toInt64 r)) S') (fun E S' => (E = "java/lang/IllegalArgumentException" ∧ sPI B1 (I n) (w_badness a1 t) 1 ov S') ∨ (E = "java/lang/IllegalStateException" ∧ sPI B1 (I n) (w_badness a1 t) 2 ov S'))
def Si_pages (lb : Nat × Nat) (o : Nat) (I : Nat → CS → MS → Prop) : Prop := ∀ (n : Nat) (S : CS) (t : MS) (ov : Nat → Int64) (a1 : Int32), I (n + 1) S t → ∃ B1 : Nat × Nat, sB lb B1 S ∧ w_X11_pages B1 o a1 S (fun r S' => sPI B1 (I n) (w_pages a1 t) 0 (va_up ov 0 (Int32.toInt64 r)) S') (fun E S' => (E = "java/lang/IllegalArgumentException" ∧ sPI B1 (I n) (w_pages a1 t) 1 ov S') ∨ (E = "java/lang/IllegalStateException" ∧ sPI B1 (I n) (w_pages a1 t) 2 ov S'))
def Si_pageLines (lb : Nat × Nat) (o : Nat) (I : Nat → CS → MS → Prop) : Prop := ∀ (n : Nat) (S : CS) (t : MS) (ov : Nat → Int64) (a1 : Int32) (a2 : Int32), I (n + 1) S t → ∃ B1 : Nat × Nat, sB lb B1 S ∧ w_X11_pageLines B1 o a1 a2 S (fun r S' => sPI B1 (I n) (w_pageLines a1 a2 t) 0 (va_up ov 0 (Int32.toInt64 r)) S') (fun E S' => (E = "java/lang/IllegalArgumentException" ∧ sPI B1 (I n) (w_pageLines a1 a2 t) 1 ov S') ∨ (E = "java/lang/IllegalStateException" ∧ sPI B1 (I n) (w_pageLines a1 a2 t) 2 ov S') ∨ (E = "java/lang/IndexOutOfBoundsException" ∧ sPI B1 (I n) (w_pageLines a1 a2 t) 3 ov S'))
def Si_pageOf (lb : Nat × Nat) (o : Nat) (I : Nat → CS → MS → Prop) : Prop := ∀ (n : Nat) (S : CS) (t : MS) (ov : Nat → Int64) (a1 : Int32) (a2 : Int32), I (n + 1) S t → ∃ B1 : Nat × Nat, sB lb B1 S ∧ w_X11_pageOf B1 o a1 a2 S (fun r S' => sPI B1 (I n) (w_pageOf a1 a2 t) 0 (va_up ov 0 (Int32.toInt64 r)) S') (fun E S' => (E = "java/lang/IllegalArgumentException" ∧ sPI B1 (I n) (w_pageOf a1 a2 t) 1 ov S') ∨ (E = "java/lang/IllegalStateException" ∧ sPI B1 (I n) (w_pageOf a1 a2 t) 2 ov S') ∨ (E = "java/lang/IndexOutOfBoundsException" ∧ sPI B1 (I n) (w_pageOf a1 a2 t) 3 ov S'))
def Si_pageTurns (lb : Nat × Nat) (o : Nat) (I : Nat → CS → MS → Prop) : Prop := ∀ (n : Nat) (S : CS) (t : MS) (ov : Nat → Int64) (a1 : Int32), I (n + 1) S t → ∃ B1 : Nat × Nat, sB lb B1 S ∧ w_X11_pageTurns B1 o a1 S (fun r S' => sPI B1 (I n) (w_pageTurns a1 t) 0 (va_up ov 0 (Int32.toInt64 r)) S') (fun E S' => (E = "java/lang/IllegalArgumentException" ∧ sPI B1 (I n) (w_pageTurns a1 t) 1 ov S') ∨ (E = "java/lang/IllegalStateException" ∧ sPI B1 (I n) (w_pageTurns a1 t) 2 ov S'))
def Si_turnBar (lb : Nat × Nat) (o : Nat) (I : Nat → CS → MS → Prop) : Prop := ∀ (n : Nat) (S : CS) (t : MS) (ov : Nat → Int64) (a1 : Int32) (a2 : Int32), I (n + 1) S t → ∃ B1 : Nat × Nat, sB lb B1 S ∧ w_X11_turnBar B1 o a1 a2 S (fun r S' => sPI B1 (I n) (w_turnBar a1 a2 t) 0 (va_up ov 0 (Int32.toInt64 r)) S') (fun E S' => (E = "java/lang/IllegalArgumentException" ∧ sPI B1 (I n) (w_turnBar a1 a2 t) 1 ov S') ∨ (E = "java/lang/IllegalStateException" ∧ sPI B1 (I n) (w_turnBar a1 a2 t) 2 ov S') ∨ (E = "java/lang/IndexOutOfBoundsException" ∧ sPI B1 (I n) (w_turnBar a1 a2 t) 3 ov S'))
def Si_turnTime (lb : Nat × Nat) (o : Nat) (I : Nat → CS → MS → Prop) : Prop := ∀ (n : Nat) (S : CS) (t : MS) (ov : Nat → Int64) (a1 : Int32) (a2 : Int32), I (n + 1) S t → ∃ B1 : Nat × Nat, sB lb B1 S ∧ w_X11_turnTime B1 o a1 a2 S (fun r S' => sPI B1 (I n) (w_turnTime a1 a2 t) 0 (va_up ov 0 (Int32.toInt64 r)) S') (fun E S' => (E = "java/lang/IllegalArgumentException" ∧ sPI B1 (I n) (w_turnTime a1 a2 t) 1 ov S') ∨ (E = "java/lang/IllegalStateException" ∧ sPI B1 (I n) (w_turnTime a1 a2 t) 2 ov S') ∨ (E = "java/lang/IndexOutOfBoundsException" ∧ sPI B1 (I n) (w_turnTime a1 a2 t) 3 ov S'))
def Si_turnRest (lb : Nat × Nat) (o : Nat) (I : Nat → CS → MS → Prop) : Prop := ∀ (n : Nat) (S : CS) (t : MS) (ov : Nat → Int64) (a1 : Int32) (a2 : Int32), I (n + 1) S t → ∃ B1 : Nat × Nat, sB lb B1 S ∧ w_X11_turnRest B1 o a1 a2 S (fun r S' => sPI B1 (I n) (w_turnRest a1 a2 t) 0 (va_up ov 0 (Int32.toInt64 r)) S') (fun E S' => (E = "java/lang/IllegalArgumentException" ∧ sPI B1 (I n) (w_turnRest a1 a2 t) 1 ov S') ∨ (E = "java/lang/IllegalStateException" ∧ sPI B1 (I n) (w_turnRest a1 a2 t) 2 ov S') ∨ (E = "java/lang/IndexOutOfBoundsException" ∧ sPI B1 (I n) (w_turnRest a1 a2 t) 3 ov S'))
def Si_badTurns (lb : Nat × Nat) (o : Nat) (I : Nat → CS → MS → Prop) : Prop := ∀ (n : Nat) (S : CS) (t : MS) (ov : Nat → Int64) (a1 : Int32), I (n + 1) S t → ∃ B1 : Nat × Nat, sB lb B1 S ∧ w_X11_badTurns B1 o a1 S (fun r S' => sPI B1 (I n) (w_badTurns a1 t) 0 (va_up ov 0 (Int32.toInt64 r)) S') (fun E S' => (E = "java/lang/IllegalArgumentException" ∧ sPI B1 (I n) (w_badTurns a1 t) 1 ov S') ∨ (E = "java/lang/IllegalStateException" ∧ sPI B1 (I n) (w_badTurns a1 t) 2 ov S'))
def Si_sheets (lb : Nat × Nat) (o : Nat) (I : Nat → CS → MS → Prop) : Prop := ∀ (n : Nat) (S : CS) (t : MS) (ov : Nat → Int64) (a1 : Int32), I (n + 1) S t → ∃ B1 : Nat × Nat, sB lb B1 S ∧ w_X11_sheets B1 o a1 S (fun r S' => sPI B1 (I n) (w_sheets a1 t) 0 (va_up ov 0 (Int32.toInt64 r)) S') (fun E S' => (E = "java/lang/IllegalArgumentException" ∧ sPI B1 (I n) (w_sheets a1 t) 1 ov S') ∨ (E = "java/lang/IllegalStateException" ∧ sPI B1 (I n) (w_sheets a1 t) 2 ov S'))
def Si_sheetPage (lb : Nat × Nat) (o : Nat) (I : Nat → CS → MS → Prop) : Prop := ∀ (n : Nat) (S : CS) (t : MS) (ov : Nat → Int64) (a1 : Int32) (a2 : Int32) (a3 : Int32) (a4 : Int32), I (n + 1) S t → ∃ B1 : Nat × Nat, sB lb B1 S ∧ w_X11_sheetPage B1 o a1 a2 a3 a4 S (fun r S' => sPI B1 (I n) (w_sheetPage a1 a2 a3 a4 t) 0 (va_up ov 0 (Int32.toInt64 r)) S') (fun E S' => (E = "java/lang/IllegalArgumentException" ∧ sPI B1 (I n) (w_sheetPage a1 a2 a3 a4 t) 1 ov S') ∨ (E = "java/lang/IllegalStateException" ∧ sPI B1 (I n) (w_sheetPage a1 a2 a3 a4 t) 2 ov S') ∨ (E = "java/lang/IndexOutOfBoundsException" ∧ sPI B1 (I n) (w_sheetPage a1 a2 a3 a4 t) 3 ov S'))
def Sim (lb : Nat × Nat) (o : Nat) (I : Nat → CS → MS → Prop) : Prop :=
  Si_rs lb o I ∧
  Si_kd lb o I ∧
  Si_dn lb o I ∧
  Si_addBar lb o I ∧
  Si_setMetre lb o I ∧
  Si_setTempo lb o I ∧
  Si_bars lb o I ∧
  Si_length lb o I ∧
  Si_tempo lb o I ∧
  Si_time lb o I ∧
  Si_insert lb o I ∧
  Si_remove lb o I ∧
  Si_setPitch lb o I ∧
  Si_setTie lb o I ∧
  Si_setMark lb o I ∧
  Si_transpose lb o I ∧
  Si_events lb o I ∧
  Si_left lb o I ∧
  Si_isRight lb o I ∧
  Si_written lb o I ∧
  Si_addPhrase lb o I ∧
  Si_dropPhrase lb o I ∧
  Si_phrases lb o I ∧
  Si_allowTurn lb o I ∧
  Si_addRepeat lb o I ∧
  Si_dropRepeat lb o I ∧
  Si_places lb o I ∧
  Si_barAt lb o I ∧
  Si_startOf lb o I ∧
  Si_playingTime lb o I ∧
  Si_timeByEvents lb o I ∧
  Si_sounds lb o I ∧
  Si_soundVoice lb o I ∧
  Si_soundStart lb o I ∧
  Si_soundTime lb o I ∧
  Si_soundPitch lb o I ∧
  Si_loudness lb o I ∧
  Si_setPaper lb o I ∧
  Si_items lb o I ∧
  Si_itemKind lb o I ∧
  Si_itemBar lb o I ∧
  Si_itemBars lb o I ∧
  Si_cue lb o I ∧
  Si_itemWidth lb o I ∧
  Si_lines lb o I ∧
  Si_firstItem lb o I ∧
  Si_badness lb o I ∧
  Si_pages lb o I ∧
  Si_pageLines lb o I ∧
  Si_pageOf lb o I ∧
  Si_pageTurns lb o I ∧
  Si_turnBar lb o I ∧
  Si_turnTime lb o I ∧
  Si_turnRest lb o I ∧
  Si_badTurns lb o I ∧
  Si_sheets lb o I ∧
  Si_sheetPage lb o I
theorem Sim.rs {lb : Nat × Nat} {o : Nat} {I : Nat → CS → MS → Prop} (h : Sim lb o I) : Si_rs lb o I := h.1
theorem Sim.kd {lb : Nat × Nat} {o : Nat} {I : Nat → CS → MS → Prop} (h : Sim lb o I) : Si_kd lb o I := h.2.1
theorem Sim.dn {lb : Nat × Nat} {o : Nat} {I : Nat → CS → MS → Prop} (h : Sim lb o I) : Si_dn lb o I := h.2.2.1
theorem Sim.addBar {lb : Nat × Nat} {o : Nat} {I : Nat → CS → MS → Prop} (h : Sim lb o I) : Si_addBar lb o I := h.2.2.2.1
theorem Sim.setMetre {lb : Nat × Nat} {o : Nat} {I : Nat → CS → MS → Prop} (h : Sim lb o I) : Si_setMetre lb o I := h.2.2.2.2.1
theorem Sim.setTempo {lb : Nat × Nat} {o : Nat} {I : Nat → CS → MS → Prop} (h : Sim lb o I) : Si_setTempo lb o I := h.2.2.2.2.2.1
theorem Sim.bars {lb : Nat × Nat} {o : Nat} {I : Nat → CS → MS → Prop} (h : Sim lb o I) : Si_bars lb o I := h.2.2.2.2.2.2.1
theorem Sim.length {lb : Nat × Nat} {o : Nat} {I : Nat → CS → MS → Prop} (h : Sim lb o I) : Si_length lb o I := h.2.2.2.2.2.2.2.1
theorem Sim.tempo {lb : Nat × Nat} {o : Nat} {I : Nat → CS → MS → Prop} (h : Sim lb o I) : Si_tempo lb o I := h.2.2.2.2.2.2.2.2.1
theorem Sim.time {lb : Nat × Nat} {o : Nat} {I : Nat → CS → MS → Prop} (h : Sim lb o I) : Si_time lb o I := h.2.2.2.2.2.2.2.2.2.1
theorem Sim.insert {lb : Nat × Nat} {o : Nat} {I : Nat → CS → MS → Prop} (h : Sim lb o I) : Si_insert lb o I := h.2.2.2.2.2.2.2.2.2.2.1
theorem Sim.remove {lb : Nat × Nat} {o : Nat} {I : Nat → CS → MS → Prop} (h : Sim lb o I) : Si_remove lb o I := h.2.2.2.2.2.2.2.2.2.2.2.1
theorem Sim.setPitch {lb : Nat × Nat} {o : Nat} {I : Nat → CS → MS → Prop} (h : Sim lb o I) : Si_setPitch lb o I := h.2.2.2.2.2.2.2.2.2.2.2.2.1
theorem Sim.setTie {lb : Nat × Nat} {o : Nat} {I : Nat → CS → MS → Prop} (h : Sim lb o I) : Si_setTie lb o I := h.2.2.2.2.2.2.2.2.2.2.2.2.2.1
theorem Sim.setMark {lb : Nat × Nat} {o : Nat} {I : Nat → CS → MS → Prop} (h : Sim lb o I) : Si_setMark lb o I := h.2.2.2.2.2.2.2.2.2.2.2.2.2.2.1
theorem Sim.transpose {lb : Nat × Nat} {o : Nat} {I : Nat → CS → MS → Prop} (h : Sim lb o I) : Si_transpose lb o I := h.2.2.2.2.2.2.2.2.2.2.2.2.2.2.2.1
theorem Sim.events {lb : Nat × Nat} {o : Nat} {I : Nat → CS → MS → Prop} (h : Sim lb o I) : Si_events lb o I := h.2.2.2.2.2.2.2.2.2.2.2.2.2.2.2.2.1
theorem Sim.left {lb : Nat × Nat} {o : Nat} {I : Nat → CS → MS → Prop} (h : Sim lb o I) : Si_left lb o I := h.2.2.2.2.2.2.2.2.2.2.2.2.2.2.2.2.2.1
theorem Sim.isRight {lb : Nat × Nat} {o : Nat} {I : Nat → CS → MS → Prop} (h : Sim lb o I) : Si_isRight lb o I := h.2.2.2.2.2.2.2.2.2.2.2.2.2.2.2.2.2.2.1
theorem Sim.written {lb : Nat × Nat} {o : Nat} {I : Nat → CS → MS → Prop} (h : Sim lb o I) : Si_written lb o I := h.2.2.2.2.2.2.2.2.2.2.2.2.2.2.2.2.2.2.2.1
theorem Sim.addPhrase {lb : Nat × Nat} {o : Nat} {I : Nat → CS → MS → Prop} (h : Sim lb o I) : Si_addPhrase lb o I := h.2.2.2.2.2.2.2.2.2.2.2.2.2.2.2.2.2.2.2.2.1
theorem Sim.dropPhrase {lb : Nat × Nat} {o : Nat} {I : Nat → CS → MS → Prop} (h : Sim lb o I) : Si_dropPhrase lb o I := h.2.2.2.2.2.2.2.2.2.2.2.2.2.2.2.2.2.2.2.2.2.1
theorem Sim.phrases {lb : Nat × Nat} {o : Nat} {I : Nat → CS → MS → Prop} (h : Sim lb o I) : Si_phrases lb o I := h.2.2.2.2.2.2.2.2.2.2.2.2.2.2.2.2.2.2.2.2.2.2.1
theorem Sim.allowTurn {lb : Nat × Nat} {o : Nat} {I : Nat → CS → MS → Prop} (h : Sim lb o I) : Si_allowTurn lb o I := h.2.2.2.2.2.2.2.2.2.2.2.2.2.2.2.2.2.2.2.2.2.2.2.1
theorem Sim.addRepeat {lb : Nat × Nat} {o : Nat} {I : Nat → CS → MS → Prop} (h : Sim lb o I) : Si_addRepeat lb o I := h.2.2.2.2.2.2.2.2.2.2.2.2.2.2.2.2.2.2.2.2.2.2.2.2.1
theorem Sim.dropRepeat {lb : Nat × Nat} {o : Nat} {I : Nat → CS → MS → Prop} (h : Sim lb o I) : Si_dropRepeat lb o I := h.2.2.2.2.2.2.2.2.2.2.2.2.2.2.2.2.2.2.2.2.2.2.2.2.2.1
theorem Sim.places {lb : Nat × Nat} {o : Nat} {I : Nat → CS → MS → Prop} (h : Sim lb o I) : Si_places lb o I := h.2.2.2.2.2.2.2.2.2.2.2.2.2.2.2.2.2.2.2.2.2.2.2.2.2.2.1
theorem Sim.barAt {lb : Nat × Nat} {o : Nat} {I : Nat → CS → MS → Prop} (h : Sim lb o I) : Si_barAt lb o I := h.2.2.2.2.2.2.2.2.2.2.2.2.2.2.2.2.2.2.2.2.2.2.2.2.2.2.2.1
theorem Sim.startOf {lb : Nat × Nat} {o : Nat} {I : Nat → CS → MS → Prop} (h : Sim lb o I) : Si_startOf lb o I := h.2.2.2.2.2.2.2.2.2.2.2.2.2.2.2.2.2.2.2.2.2.2.2.2.2.2.2.2.1
theorem Sim.playingTime {lb : Nat × Nat} {o : Nat} {I : Nat → CS → MS → Prop} (h : Sim lb o I) : Si_playingTime lb o I := h.2.2.2.2.2.2.2.2.2.2.2.2.2.2.2.2.2.2.2.2.2.2.2.2.2.2.2.2.2.1
theorem Sim.timeByEvents {lb : Nat × Nat} {o : Nat} {I : Nat → CS → MS → Prop} (h : Sim lb o I) : Si_timeByEvents lb o I := h.2.2.2.2.2.2.2.2.2.2.2.2.2.2.2.2.2.2.2.2.2.2.2.2.2.2.2.2.2.2.1
theorem Sim.sounds {lb : Nat × Nat} {o : Nat} {I : Nat → CS → MS → Prop} (h : Sim lb o I) : Si_sounds lb o I := h.2.2.2.2.2.2.2.2.2.2.2.2.2.2.2.2.2.2.2.2.2.2.2.2.2.2.2.2.2.2.2.1
theorem Sim.soundVoice {lb : Nat × Nat} {o : Nat} {I : Nat → CS → MS → Prop} (h : Sim lb o I) : Si_soundVoice lb o I := h.2.2.2.2.2.2.2.2.2.2.2.2.2.2.2.2.2.2.2.2.2.2.2.2.2.2.2.2.2.2.2.2.1
theorem Sim.soundStart {lb : Nat × Nat} {o : Nat} {I : Nat → CS → MS → Prop} (h : Sim lb o I) : Si_soundStart lb o I := h.2.2.2.2.2.2.2.2.2.2.2.2.2.2.2.2.2.2.2.2.2.2.2.2.2.2.2.2.2.2.2.2.2.1
theorem Sim.soundTime {lb : Nat × Nat} {o : Nat} {I : Nat → CS → MS → Prop} (h : Sim lb o I) : Si_soundTime lb o I := h.2.2.2.2.2.2.2.2.2.2.2.2.2.2.2.2.2.2.2.2.2.2.2.2.2.2.2.2.2.2.2.2.2.2.1
theorem Sim.soundPitch {lb : Nat × Nat} {o : Nat} {I : Nat → CS → MS → Prop} (h : Sim lb o I) : Si_soundPitch lb o I := h.2.2.2.2.2.2.2.2.2.2.2.2.2.2.2.2.2.2.2.2.2.2.2.2.2.2.2.2.2.2.2.2.2.2.2.1
theorem Sim.loudness {lb : Nat × Nat} {o : Nat} {I : Nat → CS → MS → Prop} (h : Sim lb o I) : Si_loudness lb o I := h.2.2.2.2.2.2.2.2.2.2.2.2.2.2.2.2.2.2.2.2.2.2.2.2.2.2.2.2.2.2.2.2.2.2.2.2.1
theorem Sim.setPaper {lb : Nat × Nat} {o : Nat} {I : Nat → CS → MS → Prop} (h : Sim lb o I) : Si_setPaper lb o I := h.2.2.2.2.2.2.2.2.2.2.2.2.2.2.2.2.2.2.2.2.2.2.2.2.2.2.2.2.2.2.2.2.2.2.2.2.2.1
theorem Sim.items {lb : Nat × Nat} {o : Nat} {I : Nat → CS → MS → Prop} (h : Sim lb o I) : Si_items lb o I := h.2.2.2.2.2.2.2.2.2.2.2.2.2.2.2.2.2.2.2.2.2.2.2.2.2.2.2.2.2.2.2.2.2.2.2.2.2.2.1
theorem Sim.itemKind {lb : Nat × Nat} {o : Nat} {I : Nat → CS → MS → Prop} (h : Sim lb o I) : Si_itemKind lb o I := h.2.2.2.2.2.2.2.2.2.2.2.2.2.2.2.2.2.2.2.2.2.2.2.2.2.2.2.2.2.2.2.2.2.2.2.2.2.2.2.1
theorem Sim.itemBar {lb : Nat × Nat} {o : Nat} {I : Nat → CS → MS → Prop} (h : Sim lb o I) : Si_itemBar lb o I := h.2.2.2.2.2.2.2.2.2.2.2.2.2.2.2.2.2.2.2.2.2.2.2.2.2.2.2.2.2.2.2.2.2.2.2.2.2.2.2.2.1
theorem Sim.itemBars {lb : Nat × Nat} {o : Nat} {I : Nat → CS → MS → Prop} (h : Sim lb o I) : Si_itemBars lb o I := h.2.2.2.2.2.2.2.2.2.2.2.2.2.2.2.2.2.2.2.2.2.2.2.2.2.2.2.2.2.2.2.2.2.2.2.2.2.2.2.2.2.1
theorem Sim.cue {lb : Nat × Nat} {o : Nat} {I : Nat → CS → MS → Prop} (h : Sim lb o I) : Si_cue lb o I := h.2.2.2.2.2.2.2.2.2.2.2.2.2.2.2.2.2.2.2.2.2.2.2.2.2.2.2.2.2.2.2.2.2.2.2.2.2.2.2.2.2.2.1
theorem Sim.itemWidth {lb : Nat × Nat} {o : Nat} {I : Nat → CS → MS → Prop} (h : Sim lb o I) : Si_itemWidth lb o I := h.2.2.2.2.2.2.2.2.2.2.2.2.2.2.2.2.2.2.2.2.2.2.2.2.2.2.2.2.2.2.2.2.2.2.2.2.2.2.2.2.2.2.2.1
theorem Sim.lines {lb : Nat × Nat} {o : Nat} {I : Nat → CS → MS → Prop} (h : Sim lb o I) : Si_lines lb o I := h.2.2.2.2.2.2.2.2.2.2.2.2.2.2.2.2.2.2.2.2.2.2.2.2.2.2.2.2.2.2.2.2.2.2.2.2.2.2.2.2.2.2.2.2.1
theorem Sim.firstItem {lb : Nat × Nat} {o : Nat} {I : Nat → CS → MS → Prop} (h : Sim lb o I) : Si_firstItem lb o I := h.2.2.2.2.2.2.2.2.2.2.2.2.2.2.2.2.2.2.2.2.2.2.2.2.2.2.2.2.2.2.2.2.2.2.2.2.2.2.2.2.2.2.2.2.2.1
theorem Sim.badness {lb : Nat × Nat} {o : Nat} {I : Nat → CS → MS → Prop} (h : Sim lb o I) : Si_badness lb o I := h.2.2.2.2.2.2.2.2.2.2.2.2.2.2.2.2.2.2.2.2.2.2.2.2.2.2.2.2.2.2.2.2.2.2.2.2.2.2.2.2.2.2.2.2.2.2.1
theorem Sim.pages {lb : Nat × Nat} {o : Nat} {I : Nat → CS → MS → Prop} (h : Sim lb o I) : Si_pages lb o I := h.2.2.2.2.2.2.2.2.2.2.2.2.2.2.2.2.2.2.2.2.2.2.2.2.2.2.2.2.2.2.2.2.2.2.2.2.2.2.2.2.2.2.2.2.2.2.2.1
theorem Sim.pageLines {lb : Nat × Nat} {o : Nat} {I : Nat → CS → MS → Prop} (h : Sim lb o I) : Si_pageLines lb o I := h.2.2.2.2.2.2.2.2.2.2.2.2.2.2.2.2.2.2.2.2.2.2.2.2.2.2.2.2.2.2.2.2.2.2.2.2.2.2.2.2.2.2.2.2.2.2.2.2.1
theorem Sim.pageOf {lb : Nat × Nat} {o : Nat} {I : Nat → CS → MS → Prop} (h : Sim lb o I) : Si_pageOf lb o I := h.2.2.2.2.2.2.2.2.2.2.2.2.2.2.2.2.2.2.2.2.2.2.2.2.2.2.2.2.2.2.2.2.2.2.2.2.2.2.2.2.2.2.2.2.2.2.2.2.2.1
theorem Sim.pageTurns {lb : Nat × Nat} {o : Nat} {I : Nat → CS → MS → Prop} (h : Sim lb o I) : Si_pageTurns lb o I := h.2.2.2.2.2.2.2.2.2.2.2.2.2.2.2.2.2.2.2.2.2.2.2.2.2.2.2.2.2.2.2.2.2.2.2.2.2.2.2.2.2.2.2.2.2.2.2.2.2.2.1
theorem Sim.turnBar {lb : Nat × Nat} {o : Nat} {I : Nat → CS → MS → Prop} (h : Sim lb o I) : Si_turnBar lb o I := h.2.2.2.2.2.2.2.2.2.2.2.2.2.2.2.2.2.2.2.2.2.2.2.2.2.2.2.2.2.2.2.2.2.2.2.2.2.2.2.2.2.2.2.2.2.2.2.2.2.2.2.1
theorem Sim.turnTime {lb : Nat × Nat} {o : Nat} {I : Nat → CS → MS → Prop} (h : Sim lb o I) : Si_turnTime lb o I := h.2.2.2.2.2.2.2.2.2.2.2.2.2.2.2.2.2.2.2.2.2.2.2.2.2.2.2.2.2.2.2.2.2.2.2.2.2.2.2.2.2.2.2.2.2.2.2.2.2.2.2.2.1
theorem Sim.turnRest {lb : Nat × Nat} {o : Nat} {I : Nat → CS → MS → Prop} (h : Sim lb o I) : Si_turnRest lb o I := h.2.2.2.2.2.2.2.2.2.2.2.2.2.2.2.2.2.2.2.2.2.2.2.2.2.2.2.2.2.2.2.2.2.2.2.2.2.2.2.2.2.2.2.2.2.2.2.2.2.2.2.2.2.1
theorem Sim.badTurns {lb : Nat × Nat} {o : Nat} {I : Nat → CS → MS → Prop} (h : Sim lb o I) : Si_badTurns lb o I := h.2.2.2.2.2.2.2.2.2.2.2.2.2.2.2.2.2.2.2.2.2.2.2.2.2.2.2.2.2.2.2.2.2.2.2.2.2.2.2.2.2.2.2.2.2.2.2.2.2.2.2.2.2.2.1
theorem Sim.sheets {lb : Nat × Nat} {o : Nat} {I : Nat → CS → MS → Prop} (h : Sim lb o I) : Si_sheets lb o I := h.2.2.2.2.2.2.2.2.2.2.2.2.2.2.2.2.2.2.2.2.2.2.2.2.2.2.2.2.2.2.2.2.2.2.2.2.2.2.2.2.2.2.2.2.2.2.2.2.2.2.2.2.2.2.2.1
theorem Sim.sheetPage {lb : Nat × Nat} {o : Nat} {I : Nat → CS → MS → Prop} (h : Sim lb o I) : Si_sheetPage lb o I := h.2.2.2.2.2.2.2.2.2.2.2.2.2.2.2.2.2.2.2.2.2.2.2.2.2.2.2.2.2.2.2.2.2.2.2.2.2.2.2.2.2.2.2.2.2.2.2.2.2.2.2.2.2.2.2.2
theorem v_i505 : Cond.methodLink RL 178 yL_addBar ∈ wU := w_at 505 (by decide +kernel) (by decide +kernel)
theorem v_i506 : Cond.static yL_addBar ∈ wU := w_at 506 (by decide +kernel) (by decide +kernel)
theorem v_i83 : Cond.initialized RL ∈ wU := w_at 83 (by decide +kernel) (by decide +kernel)
theorem vw_178 : ∀ w ∈ ([.methodLink RL 178 yL_addBar, .static yL_addBar, .initialized RL] : List Cond), w ∈ wU := w_3 v_i505 v_i506 v_i83
theorem kl_addBar : Cond.codeWith yL_addBar cL_addBar 5 (some .int) [(0, 10, 13, 13), (0, 10, 17, 15)] ∈ wU := w_at 507 (by decide +kernel) (by decide +kernel)
theorem hl_addBar : yL_addBar.cls = RL ∧ yL_addBar.cls ≠ "java/lang/invoke/MethodHandle" ∧ yL_addBar.cls ≠ "java/lang/invoke/VarHandle" ∧ (parseMethodDescriptor yL_addBar.desc).map (fun d => d.parameters.length) = some 4 := by decide +kernel
theorem v_i1869 : Cond.methodLink RL 183 yX12_addBar ∈ wU := w_at 1869 (by decide +kernel) (by decide +kernel)
theorem v_i1870 : Cond.instanceMethod yX12_addBar ∈ wU := w_at 1870 (by decide +kernel) (by decide +kernel)
theorem v_i1871 : Cond.selects RX12 yX12_addBar yX12_addBar ∈ wU := w_at 1871 (by decide +kernel) (by decide +kernel)
theorem v_i90 : Cond.initialized RX12 ∈ wU := w_at 90 (by decide +kernel) (by decide +kernel)
theorem vq_183 : ∀ w ∈ ([.methodLink RL 183 yX12_addBar, .instanceMethod yX12_addBar, .selects RX12 yX12_addBar yX12_addBar, .initialized RX12] : List Cond), w ∈ wU := w_4 v_i1869 v_i1870 v_i1871 v_i90
theorem v_i1865 : Cond.methodLink RL 184 yX12_thrown ∈ wU := w_at 1865 (by decide +kernel) (by decide +kernel)
theorem v_i1866 : Cond.instanceMethod yX12_thrown ∈ wU := w_at 1866 (by decide +kernel) (by decide +kernel)
theorem v_i1867 : Cond.selects RX12 yX12_thrown yX12_thrown ∈ wU := w_at 1867 (by decide +kernel) (by decide +kernel)
theorem vq_184 : ∀ w ∈ ([.methodLink RL 184 yX12_thrown, .instanceMethod yX12_thrown, .selects RX12 yX12_thrown yX12_thrown, .initialized RX12] : List Cond), w ∈ wU := w_4 v_i1865 v_i1866 v_i1867 v_i90
theorem v_i654 : Cond.methodLink RL 188 yL_setMetre ∈ wU := w_at 654 (by decide +kernel) (by decide +kernel)
theorem v_i655 : Cond.static yL_setMetre ∈ wU := w_at 655 (by decide +kernel) (by decide +kernel)
theorem vw_188 : ∀ w ∈ ([.methodLink RL 188 yL_setMetre, .static yL_setMetre, .initialized RL] : List Cond), w ∈ wU := w_3 v_i654 v_i655 v_i83
theorem kl_setMetre : Cond.codeWith yL_setMetre cL_setMetre 6 (some .int) [(0, 12, 15, 21), (0, 12, 19, 13), (0, 12, 23, 15)] ∈ wU := w_at 656 (by decide +kernel) (by decide +kernel)
theorem hl_setMetre : yL_setMetre.cls = RL ∧ yL_setMetre.cls ≠ "java/lang/invoke/MethodHandle" ∧ yL_setMetre.cls ≠ "java/lang/invoke/VarHandle" ∧ (parseMethodDescriptor yL_setMetre.desc).map (fun d => d.parameters.length) = some 5 := by decide +kernel
theorem v_i1883 : Cond.methodLink RL 191 yX12_setMetre ∈ wU := w_at 1883 (by decide +kernel) (by decide +kernel)
theorem v_i1884 : Cond.instanceMethod yX12_setMetre ∈ wU := w_at 1884 (by decide +kernel) (by decide +kernel)
theorem v_i1885 : Cond.selects RX12 yX12_setMetre yX12_setMetre ∈ wU := w_at 1885 (by decide +kernel) (by decide +kernel)
theorem vq_191 : ∀ w ∈ ([.methodLink RL 191 yX12_setMetre, .instanceMethod yX12_setMetre, .selects RX12 yX12_setMetre yX12_setMetre, .initialized RX12] : List Cond), w ∈ wU := w_4 v_i1883 v_i1884 v_i1885 v_i90
theorem v_i694 : Cond.methodLink RL 192 yL_setTempo ∈ wU := w_at 694 (by decide +kernel) (by decide +kernel)
theorem v_i695 : Cond.static yL_setTempo ∈ wU := w_at 695 (by decide +kernel) (by decide +kernel)
theorem vw_192 : ∀ w ∈ ([.methodLink RL 192 yL_setTempo, .static yL_setTempo, .initialized RL] : List Cond), w ∈ wU := w_3 v_i694 v_i695 v_i83
theorem kl_setTempo : Cond.codeWith yL_setTempo cL_setTempo 5 (some .int) [(0, 10, 13, 21), (0, 10, 17, 13)] ∈ wU := w_at 696 (by decide +kernel) (by decide +kernel)
theorem hl_setTempo : yL_setTempo.cls = RL ∧ yL_setTempo.cls ≠ "java/lang/invoke/MethodHandle" ∧ yL_setTempo.cls ≠ "java/lang/invoke/VarHandle" ∧ (parseMethodDescriptor yL_setTempo.desc).map (fun d => d.parameters.length) = some 4 := by decide +kernel
theorem v_i1913 : Cond.methodLink RL 194 yX12_setTempo ∈ wU := w_at 1913 (by decide +kernel) (by decide +kernel)
theorem v_i1914 : Cond.instanceMethod yX12_setTempo ∈ wU := w_at 1914 (by decide +kernel) (by decide +kernel)
theorem v_i1915 : Cond.selects RX12 yX12_setTempo yX12_setTempo ∈ wU := w_at 1915 (by decide +kernel) (by decide +kernel)
theorem vq_194 : ∀ w ∈ ([.methodLink RL 194 yX12_setTempo, .instanceMethod yX12_setTempo, .selects RX12 yX12_setTempo yX12_setTempo, .initialized RX12] : List Cond), w ∈ wU := w_4 v_i1913 v_i1914 v_i1915 v_i90
theorem v_i254 : Cond.methodLink RL 195 yX11_bars ∈ wU := w_at 254 (by decide +kernel) (by decide +kernel)
theorem v_i255 : Cond.instanceMethod yX11_bars ∈ wU := w_at 255 (by decide +kernel) (by decide +kernel)
theorem v_i256 : Cond.selects RX11 yX11_bars yX11_bars ∈ wU := w_at 256 (by decide +kernel) (by decide +kernel)
theorem vl_L_195 : ∀ w ∈ ([.methodLink RL 195 yX11_bars, .instanceMethod yX11_bars, .selects RX11 yX11_bars yX11_bars, .initialized RX11] : List Cond), w ∈ wU := w_4 v_i254 v_i255 v_i256 v_i84
theorem v_i1917 : Cond.methodLink RL 198 yX12_bars ∈ wU := w_at 1917 (by decide +kernel) (by decide +kernel)
theorem v_i1918 : Cond.instanceMethod yX12_bars ∈ wU := w_at 1918 (by decide +kernel) (by decide +kernel)
theorem v_i1919 : Cond.selects RX12 yX12_bars yX12_bars ∈ wU := w_at 1919 (by decide +kernel) (by decide +kernel)
theorem vq_198 : ∀ w ∈ ([.methodLink RL 198 yX12_bars, .instanceMethod yX12_bars, .selects RX12 yX12_bars yX12_bars, .initialized RX12] : List Cond), w ∈ wU := w_4 v_i1917 v_i1918 v_i1919 v_i90
theorem v_i701 : Cond.methodLink RL 199 yL_length ∈ wU := w_at 701 (by decide +kernel) (by decide +kernel)
theorem v_i702 : Cond.static yL_length ∈ wU := w_at 702 (by decide +kernel) (by decide +kernel)
theorem vw_199 : ∀ w ∈ ([.methodLink RL 199 yL_length, .static yL_length, .initialized RL] : List Cond), w ∈ wU := w_3 v_i701 v_i702 v_i83
theorem kl_length : Cond.codeWith yL_length cL_length 4 (some .int) [(0, 9, 12, 21)] ∈ wU := w_at 703 (by decide +kernel) (by decide +kernel)
theorem hl_length : yL_length.cls = RL ∧ yL_length.cls ≠ "java/lang/invoke/MethodHandle" ∧ yL_length.cls ≠ "java/lang/invoke/VarHandle" ∧ (parseMethodDescriptor yL_length.desc).map (fun d => d.parameters.length) = some 3 := by decide +kernel
theorem v_i1925 : Cond.methodLink RL 202 yX12_length ∈ wU := w_at 1925 (by decide +kernel) (by decide +kernel)
theorem v_i1926 : Cond.instanceMethod yX12_length ∈ wU := w_at 1926 (by decide +kernel) (by decide +kernel)
theorem v_i1927 : Cond.selects RX12 yX12_length yX12_length ∈ wU := w_at 1927 (by decide +kernel) (by decide +kernel)
theorem vq_202 : ∀ w ∈ ([.methodLink RL 202 yX12_length, .instanceMethod yX12_length, .selects RX12 yX12_length yX12_length, .initialized RX12] : List Cond), w ∈ wU := w_4 v_i1925 v_i1926 v_i1927 v_i90
theorem v_i708 : Cond.methodLink RL 203 yL_tempo ∈ wU := w_at 708 (by decide +kernel) (by decide +kernel)
theorem v_i709 : Cond.static yL_tempo ∈ wU := w_at 709 (by decide +kernel) (by decide +kernel)
theorem vw_203 : ∀ w ∈ ([.methodLink RL 203 yL_tempo, .static yL_tempo, .initialized RL] : List Cond), w ∈ wU := w_3 v_i708 v_i709 v_i83
theorem kl_tempo : Cond.codeWith yL_tempo cL_tempo 4 (some .int) [(0, 9, 12, 21)] ∈ wU := w_at 710 (by decide +kernel) (by decide +kernel)
theorem hl_tempo : yL_tempo.cls = RL ∧ yL_tempo.cls ≠ "java/lang/invoke/MethodHandle" ∧ yL_tempo.cls ≠ "java/lang/invoke/VarHandle" ∧ (parseMethodDescriptor yL_tempo.desc).map (fun d => d.parameters.length) = some 3 := by decide +kernel
theorem v_i1929 : Cond.methodLink RL 205 yX12_tempo ∈ wU := w_at 1929 (by decide +kernel) (by decide +kernel)
theorem v_i1930 : Cond.instanceMethod yX12_tempo ∈ wU := w_at 1930 (by decide +kernel) (by decide +kernel)
theorem v_i1931 : Cond.selects RX12 yX12_tempo yX12_tempo ∈ wU := w_at 1931 (by decide +kernel) (by decide +kernel)
theorem vq_205 : ∀ w ∈ ([.methodLink RL 205 yX12_tempo, .instanceMethod yX12_tempo, .selects RX12 yX12_tempo yX12_tempo, .initialized RX12] : List Cond), w ∈ wU := w_4 v_i1929 v_i1930 v_i1931 v_i90
theorem v_i716 : Cond.methodLink RL 206 yL_time ∈ wU := w_at 716 (by decide +kernel) (by decide +kernel)
theorem v_i717 : Cond.static yL_time ∈ wU := w_at 717 (by decide +kernel) (by decide +kernel)
theorem vw_206 : ∀ w ∈ ([.methodLink RL 206 yL_time, .static yL_time, .initialized RL] : List Cond), w ∈ wU := w_3 v_i716 v_i717 v_i83
theorem kl_time : Cond.codeWith yL_time cL_time 4 (some .int) [(0, 9, 12, 21)] ∈ wU := w_at 718 (by decide +kernel) (by decide +kernel)
theorem hl_time : yL_time.cls = RL ∧ yL_time.cls ≠ "java/lang/invoke/MethodHandle" ∧ yL_time.cls ≠ "java/lang/invoke/VarHandle" ∧ (parseMethodDescriptor yL_time.desc).map (fun d => d.parameters.length) = some 3 := by decide +kernel
theorem v_i1937 : Cond.methodLink RL 208 yX12_time ∈ wU := w_at 1937 (by decide +kernel) (by decide +kernel)
theorem v_i1938 : Cond.instanceMethod yX12_time ∈ wU := w_at 1938 (by decide +kernel) (by decide +kernel)
theorem v_i1939 : Cond.selects RX12 yX12_time yX12_time ∈ wU := w_at 1939 (by decide +kernel) (by decide +kernel)
theorem vq_208 : ∀ w ∈ ([.methodLink RL 208 yX12_time, .instanceMethod yX12_time, .selects RX12 yX12_time yX12_time, .initialized RX12] : List Cond), w ∈ wU := w_4 v_i1937 v_i1938 v_i1939 v_i90
theorem v_i724 : Cond.methodLink RL 209 yL_insert ∈ wU := w_at 724 (by decide +kernel) (by decide +kernel)
theorem v_i725 : Cond.static yL_insert ∈ wU := w_at 725 (by decide +kernel) (by decide +kernel)
theorem vw_209 : ∀ w ∈ ([.methodLink RL 209 yL_insert, .static yL_insert, .initialized RL] : List Cond), w ∈ wU := w_3 v_i724 v_i725 v_i83
theorem kl_insert : Cond.codeWith yL_insert cL_insert 9 (some .int) [(0, 18, 21, 13), (0, 18, 25, 21), (0, 18, 29, 15)] ∈ wU := w_at 726 (by decide +kernel) (by decide +kernel)
theorem hl_insert : yL_insert.cls = RL ∧ yL_insert.cls ≠ "java/lang/invoke/MethodHandle" ∧ yL_insert.cls ≠ "java/lang/invoke/VarHandle" ∧ (parseMethodDescriptor yL_insert.desc).map (fun d => d.parameters.length) = some 8 := by decide +kernel
theorem v_i1945 : Cond.methodLink RL 212 yX12_insert ∈ wU := w_at 1945 (by decide +kernel) (by decide +kernel)
theorem v_i1946 : Cond.instanceMethod yX12_insert ∈ wU := w_at 1946 (by decide +kernel) (by decide +kernel)
theorem v_i1947 : Cond.selects RX12 yX12_insert yX12_insert ∈ wU := w_at 1947 (by decide +kernel) (by decide +kernel)
theorem vq_212 : ∀ w ∈ ([.methodLink RL 212 yX12_insert, .instanceMethod yX12_insert, .selects RX12 yX12_insert yX12_insert, .initialized RX12] : List Cond), w ∈ wU := w_4 v_i1945 v_i1946 v_i1947 v_i90
theorem v_i1042 : Cond.methodLink RL 213 yL_remove ∈ wU := w_at 1042 (by decide +kernel) (by decide +kernel)
theorem v_i1043 : Cond.static yL_remove ∈ wU := w_at 1043 (by decide +kernel) (by decide +kernel)
theorem vw_213 : ∀ w ∈ ([.methodLink RL 213 yL_remove, .static yL_remove, .initialized RL] : List Cond), w ∈ wU := w_3 v_i1042 v_i1043 v_i83
theorem kl_remove : Cond.codeWith yL_remove cL_remove 6 (some .int) [(0, 12, 15, 13), (0, 12, 19, 21)] ∈ wU := w_at 1044 (by decide +kernel) (by decide +kernel)
theorem hl_remove : yL_remove.cls = RL ∧ yL_remove.cls ≠ "java/lang/invoke/MethodHandle" ∧ yL_remove.cls ≠ "java/lang/invoke/VarHandle" ∧ (parseMethodDescriptor yL_remove.desc).map (fun d => d.parameters.length) = some 5 := by decide +kernel
theorem v_i1964 : Cond.methodLink RL 215 yX12_remove ∈ wU := w_at 1964 (by decide +kernel) (by decide +kernel)
theorem v_i1965 : Cond.instanceMethod yX12_remove ∈ wU := w_at 1965 (by decide +kernel) (by decide +kernel)
theorem v_i1966 : Cond.selects RX12 yX12_remove yX12_remove ∈ wU := w_at 1966 (by decide +kernel) (by decide +kernel)
theorem vq_215 : ∀ w ∈ ([.methodLink RL 215 yX12_remove, .instanceMethod yX12_remove, .selects RX12 yX12_remove yX12_remove, .initialized RX12] : List Cond), w ∈ wU := w_4 v_i1964 v_i1965 v_i1966 v_i90
theorem v_i1074 : Cond.methodLink RL 216 yL_setPitch ∈ wU := w_at 1074 (by decide +kernel) (by decide +kernel)
theorem v_i1075 : Cond.static yL_setPitch ∈ wU := w_at 1075 (by decide +kernel) (by decide +kernel)
theorem vw_216 : ∀ w ∈ ([.methodLink RL 216 yL_setPitch, .static yL_setPitch, .initialized RL] : List Cond), w ∈ wU := w_3 v_i1074 v_i1075 v_i83
theorem kl_setPitch : Cond.codeWith yL_setPitch cL_setPitch 7 (some .int) [(0, 14, 17, 13), (0, 14, 21, 21), (0, 14, 25, 15)] ∈ wU := w_at 1076 (by decide +kernel) (by decide +kernel)
theorem hl_setPitch : yL_setPitch.cls = RL ∧ yL_setPitch.cls ≠ "java/lang/invoke/MethodHandle" ∧ yL_setPitch.cls ≠ "java/lang/invoke/VarHandle" ∧ (parseMethodDescriptor yL_setPitch.desc).map (fun d => d.parameters.length) = some 6 := by decide +kernel
theorem v_i1972 : Cond.methodLink RL 219 yX12_setPitch ∈ wU := w_at 1972 (by decide +kernel) (by decide +kernel)
theorem v_i1973 : Cond.instanceMethod yX12_setPitch ∈ wU := w_at 1973 (by decide +kernel) (by decide +kernel)
theorem v_i1974 : Cond.selects RX12 yX12_setPitch yX12_setPitch ∈ wU := w_at 1974 (by decide +kernel) (by decide +kernel)
theorem vq_219 : ∀ w ∈ ([.methodLink RL 219 yX12_setPitch, .instanceMethod yX12_setPitch, .selects RX12 yX12_setPitch yX12_setPitch, .initialized RX12] : List Cond), w ∈ wU := w_4 v_i1972 v_i1973 v_i1974 v_i90
theorem v_i1083 : Cond.methodLink RL 220 yL_setTie ∈ wU := w_at 1083 (by decide +kernel) (by decide +kernel)
theorem v_i1084 : Cond.static yL_setTie ∈ wU := w_at 1084 (by decide +kernel) (by decide +kernel)
theorem vw_220 : ∀ w ∈ ([.methodLink RL 220 yL_setTie, .static yL_setTie, .initialized RL] : List Cond), w ∈ wU := w_3 v_i1083 v_i1084 v_i83
theorem kl_setTie : Cond.codeWith yL_setTie cL_setTie 7 (some .int) [(0, 21, 24, 13), (0, 21, 28, 21), (0, 21, 32, 15)] ∈ wU := w_at 1085 (by decide +kernel) (by decide +kernel)
theorem hl_setTie : yL_setTie.cls = RL ∧ yL_setTie.cls ≠ "java/lang/invoke/MethodHandle" ∧ yL_setTie.cls ≠ "java/lang/invoke/VarHandle" ∧ (parseMethodDescriptor yL_setTie.desc).map (fun d => d.parameters.length) = some 6 := by decide +kernel
theorem v_i1976 : Cond.methodLink RL 223 yX12_setTie ∈ wU := w_at 1976 (by decide +kernel) (by decide +kernel)
theorem v_i1977 : Cond.instanceMethod yX12_setTie ∈ wU := w_at 1977 (by decide +kernel) (by decide +kernel)
theorem v_i1978 : Cond.selects RX12 yX12_setTie yX12_setTie ∈ wU := w_at 1978 (by decide +kernel) (by decide +kernel)
theorem vq_223 : ∀ w ∈ ([.methodLink RL 223 yX12_setTie, .instanceMethod yX12_setTie, .selects RX12 yX12_setTie yX12_setTie, .initialized RX12] : List Cond), w ∈ wU := w_4 v_i1976 v_i1977 v_i1978 v_i90
theorem v_i1091 : Cond.methodLink RL 224 yL_setMark ∈ wU := w_at 1091 (by decide +kernel) (by decide +kernel)
theorem v_i1092 : Cond.static yL_setMark ∈ wU := w_at 1092 (by decide +kernel) (by decide +kernel)
theorem vw_224 : ∀ w ∈ ([.methodLink RL 224 yL_setMark, .static yL_setMark, .initialized RL] : List Cond), w ∈ wU := w_3 v_i1091 v_i1092 v_i83
theorem kl_setMark : Cond.codeWith yL_setMark cL_setMark 7 (some .int) [(0, 14, 17, 13), (0, 14, 21, 21)] ∈ wU := w_at 1093 (by decide +kernel) (by decide +kernel)
theorem hl_setMark : yL_setMark.cls = RL ∧ yL_setMark.cls ≠ "java/lang/invoke/MethodHandle" ∧ yL_setMark.cls ≠ "java/lang/invoke/VarHandle" ∧ (parseMethodDescriptor yL_setMark.desc).map (fun d => d.parameters.length) = some 6 := by decide +kernel
theorem v_i1980 : Cond.methodLink RL 226 yX12_setMark ∈ wU := w_at 1980 (by decide +kernel) (by decide +kernel)
theorem v_i1981 : Cond.instanceMethod yX12_setMark ∈ wU := w_at 1981 (by decide +kernel) (by decide +kernel)
theorem v_i1982 : Cond.selects RX12 yX12_setMark yX12_setMark ∈ wU := w_at 1982 (by decide +kernel) (by decide +kernel)
theorem vq_226 : ∀ w ∈ ([.methodLink RL 226 yX12_setMark, .instanceMethod yX12_setMark, .selects RX12 yX12_setMark yX12_setMark, .initialized RX12] : List Cond), w ∈ wU := w_4 v_i1980 v_i1981 v_i1982 v_i90
theorem v_i1098 : Cond.methodLink RL 227 yL_transpose ∈ wU := w_at 1098 (by decide +kernel) (by decide +kernel)
theorem v_i1099 : Cond.static yL_transpose ∈ wU := w_at 1099 (by decide +kernel) (by decide +kernel)
theorem vw_227 : ∀ w ∈ ([.methodLink RL 227 yL_transpose, .static yL_transpose, .initialized RL] : List Cond), w ∈ wU := w_3 v_i1098 v_i1099 v_i83
theorem kl_transpose : Cond.codeWith yL_transpose cL_transpose 5 (some .int) [(0, 10, 13, 13), (0, 10, 17, 15)] ∈ wU := w_at 1100 (by decide +kernel) (by decide +kernel)
theorem hl_transpose : yL_transpose.cls = RL ∧ yL_transpose.cls ≠ "java/lang/invoke/MethodHandle" ∧ yL_transpose.cls ≠ "java/lang/invoke/VarHandle" ∧ (parseMethodDescriptor yL_transpose.desc).map (fun d => d.parameters.length) = some 4 := by decide +kernel
theorem v_i1984 : Cond.methodLink RL 229 yX12_transpose ∈ wU := w_at 1984 (by decide +kernel) (by decide +kernel)
theorem v_i1985 : Cond.instanceMethod yX12_transpose ∈ wU := w_at 1985 (by decide +kernel) (by decide +kernel)
theorem v_i1986 : Cond.selects RX12 yX12_transpose yX12_transpose ∈ wU := w_at 1986 (by decide +kernel) (by decide +kernel)
theorem vq_229 : ∀ w ∈ ([.methodLink RL 229 yX12_transpose, .instanceMethod yX12_transpose, .selects RX12 yX12_transpose yX12_transpose, .initialized RX12] : List Cond), w ∈ wU := w_4 v_i1984 v_i1985 v_i1986 v_i90
theorem v_i1110 : Cond.methodLink RL 230 yL_events ∈ wU := w_at 1110 (by decide +kernel) (by decide +kernel)
theorem v_i1111 : Cond.static yL_events ∈ wU := w_at 1111 (by decide +kernel) (by decide +kernel)
theorem vw_230 : ∀ w ∈ ([.methodLink RL 230 yL_events, .static yL_events, .initialized RL] : List Cond), w ∈ wU := w_3 v_i1110 v_i1111 v_i83
theorem kl_events : Cond.codeWith yL_events cL_events 5 (some .int) [(0, 10, 13, 13), (0, 10, 17, 21)] ∈ wU := w_at 1112 (by decide +kernel) (by decide +kernel)
theorem hl_events : yL_events.cls = RL ∧ yL_events.cls ≠ "java/lang/invoke/MethodHandle" ∧ yL_events.cls ≠ "java/lang/invoke/VarHandle" ∧ (parseMethodDescriptor yL_events.desc).map (fun d => d.parameters.length) = some 4 := by decide +kernel
theorem v_i1988 : Cond.methodLink RL 232 yX12_events ∈ wU := w_at 1988 (by decide +kernel) (by decide +kernel)
theorem v_i1989 : Cond.instanceMethod yX12_events ∈ wU := w_at 1989 (by decide +kernel) (by decide +kernel)
theorem v_i1990 : Cond.selects RX12 yX12_events yX12_events ∈ wU := w_at 1990 (by decide +kernel) (by decide +kernel)
theorem vq_232 : ∀ w ∈ ([.methodLink RL 232 yX12_events, .instanceMethod yX12_events, .selects RX12 yX12_events yX12_events, .initialized RX12] : List Cond), w ∈ wU := w_4 v_i1988 v_i1989 v_i1990 v_i90
theorem v_i1117 : Cond.methodLink RL 233 yL_left ∈ wU := w_at 1117 (by decide +kernel) (by decide +kernel)
theorem v_i1118 : Cond.static yL_left ∈ wU := w_at 1118 (by decide +kernel) (by decide +kernel)
theorem vw_233 : ∀ w ∈ ([.methodLink RL 233 yL_left, .static yL_left, .initialized RL] : List Cond), w ∈ wU := w_3 v_i1117 v_i1118 v_i83
theorem kl_left : Cond.codeWith yL_left cL_left 5 (some .int) [(0, 10, 13, 13), (0, 10, 17, 21)] ∈ wU := w_at 1119 (by decide +kernel) (by decide +kernel)
theorem hl_left : yL_left.cls = RL ∧ yL_left.cls ≠ "java/lang/invoke/MethodHandle" ∧ yL_left.cls ≠ "java/lang/invoke/VarHandle" ∧ (parseMethodDescriptor yL_left.desc).map (fun d => d.parameters.length) = some 4 := by decide +kernel
theorem v_i1992 : Cond.methodLink RL 235 yX12_left ∈ wU := w_at 1992 (by decide +kernel) (by decide +kernel)
theorem v_i1993 : Cond.instanceMethod yX12_left ∈ wU := w_at 1993 (by decide +kernel) (by decide +kernel)
theorem v_i1994 : Cond.selects RX12 yX12_left yX12_left ∈ wU := w_at 1994 (by decide +kernel) (by decide +kernel)
theorem vq_235 : ∀ w ∈ ([.methodLink RL 235 yX12_left, .instanceMethod yX12_left, .selects RX12 yX12_left yX12_left, .initialized RX12] : List Cond), w ∈ wU := w_4 v_i1992 v_i1993 v_i1994 v_i90
theorem v_i1124 : Cond.methodLink RL 236 yL_isRight ∈ wU := w_at 1124 (by decide +kernel) (by decide +kernel)
theorem v_i1125 : Cond.static yL_isRight ∈ wU := w_at 1125 (by decide +kernel) (by decide +kernel)
theorem vw_236 : ∀ w ∈ ([.methodLink RL 236 yL_isRight, .static yL_isRight, .initialized RL] : List Cond), w ∈ wU := w_3 v_i1124 v_i1125 v_i83
theorem kl_isRight : Cond.codeWith yL_isRight cL_isRight 5 (some .int) [(0, 17, 20, 13), (0, 17, 24, 21)] ∈ wU := w_at 1126 (by decide +kernel) (by decide +kernel)
theorem hl_isRight : yL_isRight.cls = RL ∧ yL_isRight.cls ≠ "java/lang/invoke/MethodHandle" ∧ yL_isRight.cls ≠ "java/lang/invoke/VarHandle" ∧ (parseMethodDescriptor yL_isRight.desc).map (fun d => d.parameters.length) = some 4 := by decide +kernel
theorem v_i1996 : Cond.methodLink RL 238 yX12_isRight ∈ wU := w_at 1996 (by decide +kernel) (by decide +kernel)
theorem v_i1997 : Cond.instanceMethod yX12_isRight ∈ wU := w_at 1997 (by decide +kernel) (by decide +kernel)
theorem v_i1998 : Cond.selects RX12 yX12_isRight yX12_isRight ∈ wU := w_at 1998 (by decide +kernel) (by decide +kernel)
theorem vq_238 : ∀ w ∈ ([.methodLink RL 238 yX12_isRight, .instanceMethod yX12_isRight, .selects RX12 yX12_isRight yX12_isRight, .initialized RX12] : List Cond), w ∈ wU := w_4 v_i1996 v_i1997 v_i1998 v_i90
theorem v_i1141 : Cond.methodLink RL 239 yL_written ∈ wU := w_at 1141 (by decide +kernel) (by decide +kernel)
theorem v_i1142 : Cond.static yL_written ∈ wU := w_at 1142 (by decide +kernel) (by decide +kernel)
theorem vw_239 : ∀ w ∈ ([.methodLink RL 239 yL_written, .static yL_written, .initialized RL] : List Cond), w ∈ wU := w_3 v_i1141 v_i1142 v_i83
theorem kl_written : Cond.codeWith yL_written cL_written 6 (some .int) [(0, 12, 15, 13), (0, 12, 19, 21)] ∈ wU := w_at 1143 (by decide +kernel) (by decide +kernel)
theorem hl_written : yL_written.cls = RL ∧ yL_written.cls ≠ "java/lang/invoke/MethodHandle" ∧ yL_written.cls ≠ "java/lang/invoke/VarHandle" ∧ (parseMethodDescriptor yL_written.desc).map (fun d => d.parameters.length) = some 5 := by decide +kernel
theorem v_i2004 : Cond.methodLink RL 241 yX12_written ∈ wU := w_at 2004 (by decide +kernel) (by decide +kernel)
theorem v_i2005 : Cond.instanceMethod yX12_written ∈ wU := w_at 2005 (by decide +kernel) (by decide +kernel)
theorem v_i2006 : Cond.selects RX12 yX12_written yX12_written ∈ wU := w_at 2006 (by decide +kernel) (by decide +kernel)
theorem vq_241 : ∀ w ∈ ([.methodLink RL 241 yX12_written, .instanceMethod yX12_written, .selects RX12 yX12_written yX12_written, .initialized RX12] : List Cond), w ∈ wU := w_4 v_i2004 v_i2005 v_i2006 v_i90
theorem v_i1148 : Cond.methodLink RL 242 yL_addPhrase ∈ wU := w_at 1148 (by decide +kernel) (by decide +kernel)
theorem v_i1149 : Cond.static yL_addPhrase ∈ wU := w_at 1149 (by decide +kernel) (by decide +kernel)
theorem vw_242 : ∀ w ∈ ([.methodLink RL 242 yL_addPhrase, .static yL_addPhrase, .initialized RL] : List Cond), w ∈ wU := w_3 v_i1148 v_i1149 v_i83
theorem kl_addPhrase : Cond.codeWith yL_addPhrase cL_addPhrase 8 (some .int) [(0, 16, 19, 13), (0, 16, 23, 21), (0, 16, 27, 15)] ∈ wU := w_at 1150 (by decide +kernel) (by decide +kernel)
theorem hl_addPhrase : yL_addPhrase.cls = RL ∧ yL_addPhrase.cls ≠ "java/lang/invoke/MethodHandle" ∧ yL_addPhrase.cls ≠ "java/lang/invoke/VarHandle" ∧ (parseMethodDescriptor yL_addPhrase.desc).map (fun d => d.parameters.length) = some 7 := by decide +kernel
theorem v_i2008 : Cond.methodLink RL 245 yX12_addPhrase ∈ wU := w_at 2008 (by decide +kernel) (by decide +kernel)
theorem v_i2009 : Cond.instanceMethod yX12_addPhrase ∈ wU := w_at 2009 (by decide +kernel) (by decide +kernel)
theorem v_i2010 : Cond.selects RX12 yX12_addPhrase yX12_addPhrase ∈ wU := w_at 2010 (by decide +kernel) (by decide +kernel)
theorem vq_245 : ∀ w ∈ ([.methodLink RL 245 yX12_addPhrase, .instanceMethod yX12_addPhrase, .selects RX12 yX12_addPhrase yX12_addPhrase, .initialized RX12] : List Cond), w ∈ wU := w_4 v_i2008 v_i2009 v_i2010 v_i90
theorem v_i1184 : Cond.methodLink RL 246 yL_dropPhrase ∈ wU := w_at 1184 (by decide +kernel) (by decide +kernel)
theorem v_i1185 : Cond.static yL_dropPhrase ∈ wU := w_at 1185 (by decide +kernel) (by decide +kernel)
theorem vw_246 : ∀ w ∈ ([.methodLink RL 246 yL_dropPhrase, .static yL_dropPhrase, .initialized RL] : List Cond), w ∈ wU := w_3 v_i1184 v_i1185 v_i83
theorem kl_dropPhrase : Cond.codeWith yL_dropPhrase cL_dropPhrase 4 (some .int) [(0, 16, 19, 21)] ∈ wU := w_at 1186 (by decide +kernel) (by decide +kernel)
theorem hl_dropPhrase : yL_dropPhrase.cls = RL ∧ yL_dropPhrase.cls ≠ "java/lang/invoke/MethodHandle" ∧ yL_dropPhrase.cls ≠ "java/lang/invoke/VarHandle" ∧ (parseMethodDescriptor yL_dropPhrase.desc).map (fun d => d.parameters.length) = some 3 := by decide +kernel
theorem v_i2012 : Cond.methodLink RL 248 yX12_dropPhrase ∈ wU := w_at 2012 (by decide +kernel) (by decide +kernel)
theorem v_i2013 : Cond.instanceMethod yX12_dropPhrase ∈ wU := w_at 2013 (by decide +kernel) (by decide +kernel)
theorem v_i2014 : Cond.selects RX12 yX12_dropPhrase yX12_dropPhrase ∈ wU := w_at 2014 (by decide +kernel) (by decide +kernel)
theorem vq_248 : ∀ w ∈ ([.methodLink RL 248 yX12_dropPhrase, .instanceMethod yX12_dropPhrase, .selects RX12 yX12_dropPhrase yX12_dropPhrase, .initialized RX12] : List Cond), w ∈ wU := w_4 v_i2012 v_i2013 v_i2014 v_i90
theorem v_i266 : Cond.methodLink RL 249 yX11_phrases ∈ wU := w_at 266 (by decide +kernel) (by decide +kernel)
theorem v_i267 : Cond.instanceMethod yX11_phrases ∈ wU := w_at 267 (by decide +kernel) (by decide +kernel)
theorem v_i268 : Cond.selects RX11 yX11_phrases yX11_phrases ∈ wU := w_at 268 (by decide +kernel) (by decide +kernel)
theorem vl_L_249 : ∀ w ∈ ([.methodLink RL 249 yX11_phrases, .instanceMethod yX11_phrases, .selects RX11 yX11_phrases yX11_phrases, .initialized RX11] : List Cond), w ∈ wU := w_4 v_i266 v_i267 v_i268 v_i84
theorem v_i2016 : Cond.methodLink RL 252 yX12_phrases ∈ wU := w_at 2016 (by decide +kernel) (by decide +kernel)
theorem v_i2017 : Cond.instanceMethod yX12_phrases ∈ wU := w_at 2017 (by decide +kernel) (by decide +kernel)
theorem v_i2018 : Cond.selects RX12 yX12_phrases yX12_phrases ∈ wU := w_at 2018 (by decide +kernel) (by decide +kernel)
theorem vq_252 : ∀ w ∈ ([.methodLink RL 252 yX12_phrases, .instanceMethod yX12_phrases, .selects RX12 yX12_phrases yX12_phrases, .initialized RX12] : List Cond), w ∈ wU := w_4 v_i2016 v_i2017 v_i2018 v_i90
theorem v_i1192 : Cond.methodLink RL 253 yL_allowTurn ∈ wU := w_at 1192 (by decide +kernel) (by decide +kernel)
theorem v_i1193 : Cond.static yL_allowTurn ∈ wU := w_at 1193 (by decide +kernel) (by decide +kernel)
theorem vw_253 : ∀ w ∈ ([.methodLink RL 253 yL_allowTurn, .static yL_allowTurn, .initialized RL] : List Cond), w ∈ wU := w_3 v_i1192 v_i1193 v_i83
theorem kl_allowTurn : Cond.codeWith yL_allowTurn cL_allowTurn 6 (some .int) [(0, 19, 22, 13), (0, 19, 26, 21)] ∈ wU := w_at 1194 (by decide +kernel) (by decide +kernel)
theorem hl_allowTurn : yL_allowTurn.cls = RL ∧ yL_allowTurn.cls ≠ "java/lang/invoke/MethodHandle" ∧ yL_allowTurn.cls ≠ "java/lang/invoke/VarHandle" ∧ (parseMethodDescriptor yL_allowTurn.desc).map (fun d => d.parameters.length) = some 5 := by decide +kernel
theorem v_i2020 : Cond.methodLink RL 256 yX12_allowTurn ∈ wU := w_at 2020 (by decide +kernel) (by decide +kernel)
theorem v_i2021 : Cond.instanceMethod yX12_allowTurn ∈ wU := w_at 2021 (by decide +kernel) (by decide +kernel)
theorem v_i2022 : Cond.selects RX12 yX12_allowTurn yX12_allowTurn ∈ wU := w_at 2022 (by decide +kernel) (by decide +kernel)
theorem vq_256 : ∀ w ∈ ([.methodLink RL 256 yX12_allowTurn, .instanceMethod yX12_allowTurn, .selects RX12 yX12_allowTurn yX12_allowTurn, .initialized RX12] : List Cond), w ∈ wU := w_4 v_i2020 v_i2021 v_i2022 v_i90
theorem v_i1199 : Cond.methodLink RL 257 yL_addRepeat ∈ wU := w_at 1199 (by decide +kernel) (by decide +kernel)
theorem v_i1200 : Cond.static yL_addRepeat ∈ wU := w_at 1200 (by decide +kernel) (by decide +kernel)
theorem vw_257 : ∀ w ∈ ([.methodLink RL 257 yL_addRepeat, .static yL_addRepeat, .initialized RL] : List Cond), w ∈ wU := w_3 v_i1199 v_i1200 v_i83
theorem kl_addRepeat : Cond.codeWith yL_addRepeat cL_addRepeat 6 (some .int) [(0, 12, 15, 21), (0, 12, 19, 13), (0, 12, 23, 15)] ∈ wU := w_at 1201 (by decide +kernel) (by decide +kernel)
theorem hl_addRepeat : yL_addRepeat.cls = RL ∧ yL_addRepeat.cls ≠ "java/lang/invoke/MethodHandle" ∧ yL_addRepeat.cls ≠ "java/lang/invoke/VarHandle" ∧ (parseMethodDescriptor yL_addRepeat.desc).map (fun d => d.parameters.length) = some 5 := by decide +kernel
theorem v_i2024 : Cond.methodLink RL 259 yX12_addRepeat ∈ wU := w_at 2024 (by decide +kernel) (by decide +kernel)
theorem v_i2025 : Cond.instanceMethod yX12_addRepeat ∈ wU := w_at 2025 (by decide +kernel) (by decide +kernel)
theorem v_i2026 : Cond.selects RX12 yX12_addRepeat yX12_addRepeat ∈ wU := w_at 2026 (by decide +kernel) (by decide +kernel)
theorem vq_259 : ∀ w ∈ ([.methodLink RL 259 yX12_addRepeat, .instanceMethod yX12_addRepeat, .selects RX12 yX12_addRepeat yX12_addRepeat, .initialized RX12] : List Cond), w ∈ wU := w_4 v_i2024 v_i2025 v_i2026 v_i90
theorem v_i1233 : Cond.methodLink RL 260 yL_dropRepeat ∈ wU := w_at 1233 (by decide +kernel) (by decide +kernel)
theorem v_i1234 : Cond.static yL_dropRepeat ∈ wU := w_at 1234 (by decide +kernel) (by decide +kernel)
theorem vw_260 : ∀ w ∈ ([.methodLink RL 260 yL_dropRepeat, .static yL_dropRepeat, .initialized RL] : List Cond), w ∈ wU := w_3 v_i1233 v_i1234 v_i83
theorem kl_dropRepeat : Cond.codeWith yL_dropRepeat cL_dropRepeat 4 (some .int) [(0, 9, 12, 21), (0, 9, 15, 15)] ∈ wU := w_at 1235 (by decide +kernel) (by decide +kernel)
theorem hl_dropRepeat : yL_dropRepeat.cls = RL ∧ yL_dropRepeat.cls ≠ "java/lang/invoke/MethodHandle" ∧ yL_dropRepeat.cls ≠ "java/lang/invoke/VarHandle" ∧ (parseMethodDescriptor yL_dropRepeat.desc).map (fun d => d.parameters.length) = some 3 := by decide +kernel
theorem v_i2032 : Cond.methodLink RL 262 yX12_dropRepeat ∈ wU := w_at 2032 (by decide +kernel) (by decide +kernel)
theorem v_i2033 : Cond.instanceMethod yX12_dropRepeat ∈ wU := w_at 2033 (by decide +kernel) (by decide +kernel)
theorem v_i2034 : Cond.selects RX12 yX12_dropRepeat yX12_dropRepeat ∈ wU := w_at 2034 (by decide +kernel) (by decide +kernel)
theorem vq_262 : ∀ w ∈ ([.methodLink RL 262 yX12_dropRepeat, .instanceMethod yX12_dropRepeat, .selects RX12 yX12_dropRepeat yX12_dropRepeat, .initialized RX12] : List Cond), w ∈ wU := w_4 v_i2032 v_i2033 v_i2034 v_i90
theorem v_i289 : Cond.methodLink RL 263 yX11_places ∈ wU := w_at 289 (by decide +kernel) (by decide +kernel)
theorem v_i290 : Cond.instanceMethod yX11_places ∈ wU := w_at 290 (by decide +kernel) (by decide +kernel)
theorem v_i291 : Cond.selects RX11 yX11_places yX11_places ∈ wU := w_at 291 (by decide +kernel) (by decide +kernel)
theorem vl_L_263 : ∀ w ∈ ([.methodLink RL 263 yX11_places, .instanceMethod yX11_places, .selects RX11 yX11_places yX11_places, .initialized RX11] : List Cond), w ∈ wU := w_4 v_i289 v_i290 v_i291 v_i84
theorem v_i2036 : Cond.methodLink RL 266 yX12_places ∈ wU := w_at 2036 (by decide +kernel) (by decide +kernel)
theorem v_i2037 : Cond.instanceMethod yX12_places ∈ wU := w_at 2037 (by decide +kernel) (by decide +kernel)
theorem v_i2038 : Cond.selects RX12 yX12_places yX12_places ∈ wU := w_at 2038 (by decide +kernel) (by decide +kernel)
theorem vq_266 : ∀ w ∈ ([.methodLink RL 266 yX12_places, .instanceMethod yX12_places, .selects RX12 yX12_places yX12_places, .initialized RX12] : List Cond), w ∈ wU := w_4 v_i2036 v_i2037 v_i2038 v_i90
theorem v_i1246 : Cond.methodLink RL 267 yL_barAt ∈ wU := w_at 1246 (by decide +kernel) (by decide +kernel)
theorem v_i1247 : Cond.static yL_barAt ∈ wU := w_at 1247 (by decide +kernel) (by decide +kernel)
theorem vw_267 : ∀ w ∈ ([.methodLink RL 267 yL_barAt, .static yL_barAt, .initialized RL] : List Cond), w ∈ wU := w_3 v_i1246 v_i1247 v_i83
theorem kl_barAt : Cond.codeWith yL_barAt cL_barAt 4 (some .int) [(0, 9, 12, 21)] ∈ wU := w_at 1248 (by decide +kernel) (by decide +kernel)
theorem hl_barAt : yL_barAt.cls = RL ∧ yL_barAt.cls ≠ "java/lang/invoke/MethodHandle" ∧ yL_barAt.cls ≠ "java/lang/invoke/VarHandle" ∧ (parseMethodDescriptor yL_barAt.desc).map (fun d => d.parameters.length) = some 3 := by decide +kernel
theorem v_i2048 : Cond.methodLink RL 269 yX12_barAt ∈ wU := w_at 2048 (by decide +kernel) (by decide +kernel)
theorem v_i2049 : Cond.instanceMethod yX12_barAt ∈ wU := w_at 2049 (by decide +kernel) (by decide +kernel)
theorem v_i2050 : Cond.selects RX12 yX12_barAt yX12_barAt ∈ wU := w_at 2050 (by decide +kernel) (by decide +kernel)
theorem vq_269 : ∀ w ∈ ([.methodLink RL 269 yX12_barAt, .instanceMethod yX12_barAt, .selects RX12 yX12_barAt yX12_barAt, .initialized RX12] : List Cond), w ∈ wU := w_4 v_i2048 v_i2049 v_i2050 v_i90
theorem v_i1253 : Cond.methodLink RL 270 yL_startOf ∈ wU := w_at 1253 (by decide +kernel) (by decide +kernel)
theorem v_i1254 : Cond.static yL_startOf ∈ wU := w_at 1254 (by decide +kernel) (by decide +kernel)
theorem vw_270 : ∀ w ∈ ([.methodLink RL 270 yL_startOf, .static yL_startOf, .initialized RL] : List Cond), w ∈ wU := w_3 v_i1253 v_i1254 v_i83
theorem kl_startOf : Cond.codeWith yL_startOf cL_startOf 4 (some .int) [(0, 9, 12, 21)] ∈ wU := w_at 1255 (by decide +kernel) (by decide +kernel)
theorem hl_startOf : yL_startOf.cls = RL ∧ yL_startOf.cls ≠ "java/lang/invoke/MethodHandle" ∧ yL_startOf.cls ≠ "java/lang/invoke/VarHandle" ∧ (parseMethodDescriptor yL_startOf.desc).map (fun d => d.parameters.length) = some 3 := by decide +kernel
theorem v_i2056 : Cond.methodLink RL 272 yX12_startOf ∈ wU := w_at 2056 (by decide +kernel) (by decide +kernel)
theorem v_i2057 : Cond.instanceMethod yX12_startOf ∈ wU := w_at 2057 (by decide +kernel) (by decide +kernel)
theorem v_i2058 : Cond.selects RX12 yX12_startOf yX12_startOf ∈ wU := w_at 2058 (by decide +kernel) (by decide +kernel)
theorem vq_272 : ∀ w ∈ ([.methodLink RL 272 yX12_startOf, .instanceMethod yX12_startOf, .selects RX12 yX12_startOf yX12_startOf, .initialized RX12] : List Cond), w ∈ wU := w_4 v_i2056 v_i2057 v_i2058 v_i90
theorem v_i497 : Cond.methodLink RL 273 yX11_playingTime ∈ wU := w_at 497 (by decide +kernel) (by decide +kernel)
theorem v_i498 : Cond.instanceMethod yX11_playingTime ∈ wU := w_at 498 (by decide +kernel) (by decide +kernel)
theorem v_i499 : Cond.selects RX11 yX11_playingTime yX11_playingTime ∈ wU := w_at 499 (by decide +kernel) (by decide +kernel)
theorem vl_L_273 : ∀ w ∈ ([.methodLink RL 273 yX11_playingTime, .instanceMethod yX11_playingTime, .selects RX11 yX11_playingTime yX11_playingTime, .initialized RX11] : List Cond), w ∈ wU := w_4 v_i497 v_i498 v_i499 v_i84
theorem v_i2060 : Cond.methodLink RL 276 yX12_playingTime ∈ wU := w_at 2060 (by decide +kernel) (by decide +kernel)
theorem v_i2061 : Cond.instanceMethod yX12_playingTime ∈ wU := w_at 2061 (by decide +kernel) (by decide +kernel)
theorem v_i2062 : Cond.selects RX12 yX12_playingTime yX12_playingTime ∈ wU := w_at 2062 (by decide +kernel) (by decide +kernel)
theorem vq_276 : ∀ w ∈ ([.methodLink RL 276 yX12_playingTime, .instanceMethod yX12_playingTime, .selects RX12 yX12_playingTime yX12_playingTime, .initialized RX12] : List Cond), w ∈ wU := w_4 v_i2060 v_i2061 v_i2062 v_i90
theorem v_i1260 : Cond.methodLink RL 277 yL_timeByEvents ∈ wU := w_at 1260 (by decide +kernel) (by decide +kernel)
theorem v_i1261 : Cond.static yL_timeByEvents ∈ wU := w_at 1261 (by decide +kernel) (by decide +kernel)
theorem vw_277 : ∀ w ∈ ([.methodLink RL 277 yL_timeByEvents, .static yL_timeByEvents, .initialized RL] : List Cond), w ∈ wU := w_3 v_i1260 v_i1261 v_i83
theorem kl_timeByEvents : Cond.codeWith yL_timeByEvents cL_timeByEvents 4 (some .int) [(0, 9, 12, 13)] ∈ wU := w_at 1262 (by decide +kernel) (by decide +kernel)
theorem hl_timeByEvents : yL_timeByEvents.cls = RL ∧ yL_timeByEvents.cls ≠ "java/lang/invoke/MethodHandle" ∧ yL_timeByEvents.cls ≠ "java/lang/invoke/VarHandle" ∧ (parseMethodDescriptor yL_timeByEvents.desc).map (fun d => d.parameters.length) = some 3 := by decide +kernel
theorem v_i2064 : Cond.methodLink RL 279 yX12_timeByEvents ∈ wU := w_at 2064 (by decide +kernel) (by decide +kernel)
theorem v_i2065 : Cond.instanceMethod yX12_timeByEvents ∈ wU := w_at 2065 (by decide +kernel) (by decide +kernel)
theorem v_i2066 : Cond.selects RX12 yX12_timeByEvents yX12_timeByEvents ∈ wU := w_at 2066 (by decide +kernel) (by decide +kernel)
theorem vq_279 : ∀ w ∈ ([.methodLink RL 279 yX12_timeByEvents, .instanceMethod yX12_timeByEvents, .selects RX12 yX12_timeByEvents yX12_timeByEvents, .initialized RX12] : List Cond), w ∈ wU := w_4 v_i2064 v_i2065 v_i2066 v_i90
theorem v_i501 : Cond.methodLink RL 280 yX11_sounds ∈ wU := w_at 501 (by decide +kernel) (by decide +kernel)
theorem v_i502 : Cond.instanceMethod yX11_sounds ∈ wU := w_at 502 (by decide +kernel) (by decide +kernel)
theorem v_i503 : Cond.selects RX11 yX11_sounds yX11_sounds ∈ wU := w_at 503 (by decide +kernel) (by decide +kernel)
theorem vl_L_280 : ∀ w ∈ ([.methodLink RL 280 yX11_sounds, .instanceMethod yX11_sounds, .selects RX11 yX11_sounds yX11_sounds, .initialized RX11] : List Cond), w ∈ wU := w_4 v_i501 v_i502 v_i503 v_i84
theorem v_i2068 : Cond.methodLink RL 283 yX12_sounds ∈ wU := w_at 2068 (by decide +kernel) (by decide +kernel)
theorem v_i2069 : Cond.instanceMethod yX12_sounds ∈ wU := w_at 2069 (by decide +kernel) (by decide +kernel)
theorem v_i2070 : Cond.selects RX12 yX12_sounds yX12_sounds ∈ wU := w_at 2070 (by decide +kernel) (by decide +kernel)
theorem vq_283 : ∀ w ∈ ([.methodLink RL 283 yX12_sounds, .instanceMethod yX12_sounds, .selects RX12 yX12_sounds yX12_sounds, .initialized RX12] : List Cond), w ∈ wU := w_4 v_i2068 v_i2069 v_i2070 v_i90
theorem v_i1271 : Cond.methodLink RL 284 yL_soundVoice ∈ wU := w_at 1271 (by decide +kernel) (by decide +kernel)
theorem v_i1272 : Cond.static yL_soundVoice ∈ wU := w_at 1272 (by decide +kernel) (by decide +kernel)
theorem vw_284 : ∀ w ∈ ([.methodLink RL 284 yL_soundVoice, .static yL_soundVoice, .initialized RL] : List Cond), w ∈ wU := w_3 v_i1271 v_i1272 v_i83
theorem kl_soundVoice : Cond.codeWith yL_soundVoice cL_soundVoice 4 (some .int) [(0, 9, 12, 21)] ∈ wU := w_at 1273 (by decide +kernel) (by decide +kernel)
theorem hl_soundVoice : yL_soundVoice.cls = RL ∧ yL_soundVoice.cls ≠ "java/lang/invoke/MethodHandle" ∧ yL_soundVoice.cls ≠ "java/lang/invoke/VarHandle" ∧ (parseMethodDescriptor yL_soundVoice.desc).map (fun d => d.parameters.length) = some 3 := by decide +kernel
theorem v_i2092 : Cond.methodLink RL 286 yX12_soundVoice ∈ wU := w_at 2092 (by decide +kernel) (by decide +kernel)
theorem v_i2093 : Cond.instanceMethod yX12_soundVoice ∈ wU := w_at 2093 (by decide +kernel) (by decide +kernel)
theorem v_i2094 : Cond.selects RX12 yX12_soundVoice yX12_soundVoice ∈ wU := w_at 2094 (by decide +kernel) (by decide +kernel)
theorem vq_286 : ∀ w ∈ ([.methodLink RL 286 yX12_soundVoice, .instanceMethod yX12_soundVoice, .selects RX12 yX12_soundVoice yX12_soundVoice, .initialized RX12] : List Cond), w ∈ wU := w_4 v_i2092 v_i2093 v_i2094 v_i90
theorem v_i1283 : Cond.methodLink RL 287 yL_soundStart ∈ wU := w_at 1283 (by decide +kernel) (by decide +kernel)
theorem v_i1284 : Cond.static yL_soundStart ∈ wU := w_at 1284 (by decide +kernel) (by decide +kernel)
theorem vw_287 : ∀ w ∈ ([.methodLink RL 287 yL_soundStart, .static yL_soundStart, .initialized RL] : List Cond), w ∈ wU := w_3 v_i1283 v_i1284 v_i83
theorem kl_soundStart : Cond.codeWith yL_soundStart cL_soundStart 4 (some .int) [(0, 9, 12, 21)] ∈ wU := w_at 1285 (by decide +kernel) (by decide +kernel)
theorem hl_soundStart : yL_soundStart.cls = RL ∧ yL_soundStart.cls ≠ "java/lang/invoke/MethodHandle" ∧ yL_soundStart.cls ≠ "java/lang/invoke/VarHandle" ∧ (parseMethodDescriptor yL_soundStart.desc).map (fun d => d.parameters.length) = some 3 := by decide +kernel
theorem v_i2104 : Cond.methodLink RL 289 yX12_soundStart ∈ wU := w_at 2104 (by decide +kernel) (by decide +kernel)
theorem v_i2105 : Cond.instanceMethod yX12_soundStart ∈ wU := w_at 2105 (by decide +kernel) (by decide +kernel)
theorem v_i2106 : Cond.selects RX12 yX12_soundStart yX12_soundStart ∈ wU := w_at 2106 (by decide +kernel) (by decide +kernel)
theorem vq_289 : ∀ w ∈ ([.methodLink RL 289 yX12_soundStart, .instanceMethod yX12_soundStart, .selects RX12 yX12_soundStart yX12_soundStart, .initialized RX12] : List Cond), w ∈ wU := w_4 v_i2104 v_i2105 v_i2106 v_i90
theorem v_i1290 : Cond.methodLink RL 290 yL_soundTime ∈ wU := w_at 1290 (by decide +kernel) (by decide +kernel)
theorem v_i1291 : Cond.static yL_soundTime ∈ wU := w_at 1291 (by decide +kernel) (by decide +kernel)
theorem vw_290 : ∀ w ∈ ([.methodLink RL 290 yL_soundTime, .static yL_soundTime, .initialized RL] : List Cond), w ∈ wU := w_3 v_i1290 v_i1291 v_i83
theorem kl_soundTime : Cond.codeWith yL_soundTime cL_soundTime 4 (some .int) [(0, 9, 12, 21)] ∈ wU := w_at 1292 (by decide +kernel) (by decide +kernel)
theorem hl_soundTime : yL_soundTime.cls = RL ∧ yL_soundTime.cls ≠ "java/lang/invoke/MethodHandle" ∧ yL_soundTime.cls ≠ "java/lang/invoke/VarHandle" ∧ (parseMethodDescriptor yL_soundTime.desc).map (fun d => d.parameters.length) = some 3 := by decide +kernel
theorem v_i2108 : Cond.methodLink RL 292 yX12_soundTime ∈ wU := w_at 2108 (by decide +kernel) (by decide +kernel)
theorem v_i2109 : Cond.instanceMethod yX12_soundTime ∈ wU := w_at 2109 (by decide +kernel) (by decide +kernel)
theorem v_i2110 : Cond.selects RX12 yX12_soundTime yX12_soundTime ∈ wU := w_at 2110 (by decide +kernel) (by decide +kernel)
theorem vq_292 : ∀ w ∈ ([.methodLink RL 292 yX12_soundTime, .instanceMethod yX12_soundTime, .selects RX12 yX12_soundTime yX12_soundTime, .initialized RX12] : List Cond), w ∈ wU := w_4 v_i2108 v_i2109 v_i2110 v_i90
theorem v_i1297 : Cond.methodLink RL 293 yL_soundPitch ∈ wU := w_at 1297 (by decide +kernel) (by decide +kernel)
theorem v_i1298 : Cond.static yL_soundPitch ∈ wU := w_at 1298 (by decide +kernel) (by decide +kernel)
theorem vw_293 : ∀ w ∈ ([.methodLink RL 293 yL_soundPitch, .static yL_soundPitch, .initialized RL] : List Cond), w ∈ wU := w_3 v_i1297 v_i1298 v_i83
theorem kl_soundPitch : Cond.codeWith yL_soundPitch cL_soundPitch 4 (some .int) [(0, 9, 12, 21)] ∈ wU := w_at 1299 (by decide +kernel) (by decide +kernel)
theorem hl_soundPitch : yL_soundPitch.cls = RL ∧ yL_soundPitch.cls ≠ "java/lang/invoke/MethodHandle" ∧ yL_soundPitch.cls ≠ "java/lang/invoke/VarHandle" ∧ (parseMethodDescriptor yL_soundPitch.desc).map (fun d => d.parameters.length) = some 3 := by decide +kernel
theorem v_i2112 : Cond.methodLink RL 295 yX12_soundPitch ∈ wU := w_at 2112 (by decide +kernel) (by decide +kernel)
theorem v_i2113 : Cond.instanceMethod yX12_soundPitch ∈ wU := w_at 2113 (by decide +kernel) (by decide +kernel)
theorem v_i2114 : Cond.selects RX12 yX12_soundPitch yX12_soundPitch ∈ wU := w_at 2114 (by decide +kernel) (by decide +kernel)
theorem vq_295 : ∀ w ∈ ([.methodLink RL 295 yX12_soundPitch, .instanceMethod yX12_soundPitch, .selects RX12 yX12_soundPitch yX12_soundPitch, .initialized RX12] : List Cond), w ∈ wU := w_4 v_i2112 v_i2113 v_i2114 v_i90
theorem v_i1304 : Cond.methodLink RL 296 yL_loudness ∈ wU := w_at 1304 (by decide +kernel) (by decide +kernel)
theorem v_i1305 : Cond.static yL_loudness ∈ wU := w_at 1305 (by decide +kernel) (by decide +kernel)
theorem vw_296 : ∀ w ∈ ([.methodLink RL 296 yL_loudness, .static yL_loudness, .initialized RL] : List Cond), w ∈ wU := w_3 v_i1304 v_i1305 v_i83
theorem kl_loudness : Cond.codeWith yL_loudness cL_loudness 4 (some .int) [(0, 9, 12, 21)] ∈ wU := w_at 1306 (by decide +kernel) (by decide +kernel)
theorem hl_loudness : yL_loudness.cls = RL ∧ yL_loudness.cls ≠ "java/lang/invoke/MethodHandle" ∧ yL_loudness.cls ≠ "java/lang/invoke/VarHandle" ∧ (parseMethodDescriptor yL_loudness.desc).map (fun d => d.parameters.length) = some 3 := by decide +kernel
theorem v_i2120 : Cond.methodLink RL 298 yX12_loudness ∈ wU := w_at 2120 (by decide +kernel) (by decide +kernel)
theorem v_i2121 : Cond.instanceMethod yX12_loudness ∈ wU := w_at 2121 (by decide +kernel) (by decide +kernel)
theorem v_i2122 : Cond.selects RX12 yX12_loudness yX12_loudness ∈ wU := w_at 2122 (by decide +kernel) (by decide +kernel)
theorem vq_298 : ∀ w ∈ ([.methodLink RL 298 yX12_loudness, .instanceMethod yX12_loudness, .selects RX12 yX12_loudness yX12_loudness, .initialized RX12] : List Cond), w ∈ wU := w_4 v_i2120 v_i2121 v_i2122 v_i90
theorem v_i1311 : Cond.methodLink RL 299 yL_setPaper ∈ wU := w_at 1311 (by decide +kernel) (by decide +kernel)
theorem v_i1312 : Cond.static yL_setPaper ∈ wU := w_at 1312 (by decide +kernel) (by decide +kernel)
theorem vw_299 : ∀ w ∈ ([.methodLink RL 299 yL_setPaper, .static yL_setPaper, .initialized RL] : List Cond), w ∈ wU := w_3 v_i1311 v_i1312 v_i83
theorem kl_setPaper : Cond.codeWith yL_setPaper cL_setPaper 5 (some .int) [(0, 7, 10, 13)] ∈ wU := w_at 1313 (by decide +kernel) (by decide +kernel)
theorem hl_setPaper : yL_setPaper.cls = RL ∧ yL_setPaper.cls ≠ "java/lang/invoke/MethodHandle" ∧ yL_setPaper.cls ≠ "java/lang/invoke/VarHandle" ∧ (parseMethodDescriptor yL_setPaper.desc).map (fun d => d.parameters.length) = some 4 := by decide +kernel
theorem v_i2124 : Cond.methodLink RL 302 yX12_setPaper ∈ wU := w_at 2124 (by decide +kernel) (by decide +kernel)
theorem v_i2125 : Cond.instanceMethod yX12_setPaper ∈ wU := w_at 2125 (by decide +kernel) (by decide +kernel)
theorem v_i2126 : Cond.selects RX12 yX12_setPaper yX12_setPaper ∈ wU := w_at 2126 (by decide +kernel) (by decide +kernel)
theorem vq_302 : ∀ w ∈ ([.methodLink RL 302 yX12_setPaper, .instanceMethod yX12_setPaper, .selects RX12 yX12_setPaper yX12_setPaper, .initialized RX12] : List Cond), w ∈ wU := w_4 v_i2124 v_i2125 v_i2126 v_i90
theorem v_i1318 : Cond.methodLink RL 303 yL_items ∈ wU := w_at 1318 (by decide +kernel) (by decide +kernel)
theorem v_i1319 : Cond.static yL_items ∈ wU := w_at 1319 (by decide +kernel) (by decide +kernel)
theorem vw_303 : ∀ w ∈ ([.methodLink RL 303 yL_items, .static yL_items, .initialized RL] : List Cond), w ∈ wU := w_3 v_i1318 v_i1319 v_i83
theorem kl_items : Cond.codeWith yL_items cL_items 4 (some .int) [(0, 9, 12, 13), (0, 9, 15, 15)] ∈ wU := w_at 1320 (by decide +kernel) (by decide +kernel)
theorem hl_items : yL_items.cls = RL ∧ yL_items.cls ≠ "java/lang/invoke/MethodHandle" ∧ yL_items.cls ≠ "java/lang/invoke/VarHandle" ∧ (parseMethodDescriptor yL_items.desc).map (fun d => d.parameters.length) = some 3 := by decide +kernel
theorem v_i2128 : Cond.methodLink RL 305 yX12_items ∈ wU := w_at 2128 (by decide +kernel) (by decide +kernel)
theorem v_i2129 : Cond.instanceMethod yX12_items ∈ wU := w_at 2129 (by decide +kernel) (by decide +kernel)
theorem v_i2130 : Cond.selects RX12 yX12_items yX12_items ∈ wU := w_at 2130 (by decide +kernel) (by decide +kernel)
theorem vq_305 : ∀ w ∈ ([.methodLink RL 305 yX12_items, .instanceMethod yX12_items, .selects RX12 yX12_items yX12_items, .initialized RX12] : List Cond), w ∈ wU := w_4 v_i2128 v_i2129 v_i2130 v_i90
theorem v_i1578 : Cond.methodLink RL 306 yL_itemKind ∈ wU := w_at 1578 (by decide +kernel) (by decide +kernel)
theorem v_i1579 : Cond.static yL_itemKind ∈ wU := w_at 1579 (by decide +kernel) (by decide +kernel)
theorem vw_306 : ∀ w ∈ ([.methodLink RL 306 yL_itemKind, .static yL_itemKind, .initialized RL] : List Cond), w ∈ wU := w_3 v_i1578 v_i1579 v_i83
theorem kl_itemKind : Cond.codeWith yL_itemKind cL_itemKind 5 (some .int) [(0, 10, 13, 13), (0, 10, 17, 15), (0, 10, 21, 21)] ∈ wU := w_at 1580 (by decide +kernel) (by decide +kernel)
theorem hl_itemKind : yL_itemKind.cls = RL ∧ yL_itemKind.cls ≠ "java/lang/invoke/MethodHandle" ∧ yL_itemKind.cls ≠ "java/lang/invoke/VarHandle" ∧ (parseMethodDescriptor yL_itemKind.desc).map (fun d => d.parameters.length) = some 4 := by decide +kernel
theorem v_i2180 : Cond.methodLink RL 308 yX12_itemKind ∈ wU := w_at 2180 (by decide +kernel) (by decide +kernel)
theorem v_i2181 : Cond.instanceMethod yX12_itemKind ∈ wU := w_at 2181 (by decide +kernel) (by decide +kernel)
theorem v_i2182 : Cond.selects RX12 yX12_itemKind yX12_itemKind ∈ wU := w_at 2182 (by decide +kernel) (by decide +kernel)
theorem vq_308 : ∀ w ∈ ([.methodLink RL 308 yX12_itemKind, .instanceMethod yX12_itemKind, .selects RX12 yX12_itemKind yX12_itemKind, .initialized RX12] : List Cond), w ∈ wU := w_4 v_i2180 v_i2181 v_i2182 v_i90
theorem v_i1585 : Cond.methodLink RL 309 yL_itemBar ∈ wU := w_at 1585 (by decide +kernel) (by decide +kernel)
theorem v_i1586 : Cond.static yL_itemBar ∈ wU := w_at 1586 (by decide +kernel) (by decide +kernel)
theorem vw_309 : ∀ w ∈ ([.methodLink RL 309 yL_itemBar, .static yL_itemBar, .initialized RL] : List Cond), w ∈ wU := w_3 v_i1585 v_i1586 v_i83
theorem kl_itemBar : Cond.codeWith yL_itemBar cL_itemBar 5 (some .int) [(0, 10, 13, 13), (0, 10, 17, 15), (0, 10, 21, 21)] ∈ wU := w_at 1587 (by decide +kernel) (by decide +kernel)
theorem hl_itemBar : yL_itemBar.cls = RL ∧ yL_itemBar.cls ≠ "java/lang/invoke/MethodHandle" ∧ yL_itemBar.cls ≠ "java/lang/invoke/VarHandle" ∧ (parseMethodDescriptor yL_itemBar.desc).map (fun d => d.parameters.length) = some 4 := by decide +kernel
theorem v_i2188 : Cond.methodLink RL 311 yX12_itemBar ∈ wU := w_at 2188 (by decide +kernel) (by decide +kernel)
theorem v_i2189 : Cond.instanceMethod yX12_itemBar ∈ wU := w_at 2189 (by decide +kernel) (by decide +kernel)
theorem v_i2190 : Cond.selects RX12 yX12_itemBar yX12_itemBar ∈ wU := w_at 2190 (by decide +kernel) (by decide +kernel)
theorem vq_311 : ∀ w ∈ ([.methodLink RL 311 yX12_itemBar, .instanceMethod yX12_itemBar, .selects RX12 yX12_itemBar yX12_itemBar, .initialized RX12] : List Cond), w ∈ wU := w_4 v_i2188 v_i2189 v_i2190 v_i90
theorem v_i1592 : Cond.methodLink RL 312 yL_itemBars ∈ wU := w_at 1592 (by decide +kernel) (by decide +kernel)
theorem v_i1593 : Cond.static yL_itemBars ∈ wU := w_at 1593 (by decide +kernel) (by decide +kernel)
theorem vw_312 : ∀ w ∈ ([.methodLink RL 312 yL_itemBars, .static yL_itemBars, .initialized RL] : List Cond), w ∈ wU := w_3 v_i1592 v_i1593 v_i83
theorem kl_itemBars : Cond.codeWith yL_itemBars cL_itemBars 5 (some .int) [(0, 10, 13, 13), (0, 10, 17, 15), (0, 10, 21, 21)] ∈ wU := w_at 1594 (by decide +kernel) (by decide +kernel)
theorem hl_itemBars : yL_itemBars.cls = RL ∧ yL_itemBars.cls ≠ "java/lang/invoke/MethodHandle" ∧ yL_itemBars.cls ≠ "java/lang/invoke/VarHandle" ∧ (parseMethodDescriptor yL_itemBars.desc).map (fun d => d.parameters.length) = some 4 := by decide +kernel
theorem v_i2192 : Cond.methodLink RL 314 yX12_itemBars ∈ wU := w_at 2192 (by decide +kernel) (by decide +kernel)
theorem v_i2193 : Cond.instanceMethod yX12_itemBars ∈ wU := w_at 2193 (by decide +kernel) (by decide +kernel)
theorem v_i2194 : Cond.selects RX12 yX12_itemBars yX12_itemBars ∈ wU := w_at 2194 (by decide +kernel) (by decide +kernel)
theorem vq_314 : ∀ w ∈ ([.methodLink RL 314 yX12_itemBars, .instanceMethod yX12_itemBars, .selects RX12 yX12_itemBars yX12_itemBars, .initialized RX12] : List Cond), w ∈ wU := w_4 v_i2192 v_i2193 v_i2194 v_i90
theorem v_i1599 : Cond.methodLink RL 315 yL_cue ∈ wU := w_at 1599 (by decide +kernel) (by decide +kernel)
theorem v_i1600 : Cond.static yL_cue ∈ wU := w_at 1600 (by decide +kernel) (by decide +kernel)
theorem vw_315 : ∀ w ∈ ([.methodLink RL 315 yL_cue, .static yL_cue, .initialized RL] : List Cond), w ∈ wU := w_3 v_i1599 v_i1600 v_i83
theorem kl_cue : Cond.codeWith yL_cue cL_cue 5 (some .int) [(0, 10, 13, 13), (0, 10, 17, 15), (0, 10, 21, 21)] ∈ wU := w_at 1601 (by decide +kernel) (by decide +kernel)
theorem hl_cue : yL_cue.cls = RL ∧ yL_cue.cls ≠ "java/lang/invoke/MethodHandle" ∧ yL_cue.cls ≠ "java/lang/invoke/VarHandle" ∧ (parseMethodDescriptor yL_cue.desc).map (fun d => d.parameters.length) = some 4 := by decide +kernel
theorem v_i2196 : Cond.methodLink RL 317 yX12_cue ∈ wU := w_at 2196 (by decide +kernel) (by decide +kernel)
theorem v_i2197 : Cond.instanceMethod yX12_cue ∈ wU := w_at 2197 (by decide +kernel) (by decide +kernel)
theorem v_i2198 : Cond.selects RX12 yX12_cue yX12_cue ∈ wU := w_at 2198 (by decide +kernel) (by decide +kernel)
theorem vq_317 : ∀ w ∈ ([.methodLink RL 317 yX12_cue, .instanceMethod yX12_cue, .selects RX12 yX12_cue yX12_cue, .initialized RX12] : List Cond), w ∈ wU := w_4 v_i2196 v_i2197 v_i2198 v_i90
theorem v_i1606 : Cond.methodLink RL 318 yL_itemWidth ∈ wU := w_at 1606 (by decide +kernel) (by decide +kernel)
theorem v_i1607 : Cond.static yL_itemWidth ∈ wU := w_at 1607 (by decide +kernel) (by decide +kernel)
theorem vw_318 : ∀ w ∈ ([.methodLink RL 318 yL_itemWidth, .static yL_itemWidth, .initialized RL] : List Cond), w ∈ wU := w_3 v_i1606 v_i1607 v_i83
theorem kl_itemWidth : Cond.codeWith yL_itemWidth cL_itemWidth 5 (some .int) [(0, 10, 13, 13), (0, 10, 17, 15), (0, 10, 21, 21)] ∈ wU := w_at 1608 (by decide +kernel) (by decide +kernel)
theorem hl_itemWidth : yL_itemWidth.cls = RL ∧ yL_itemWidth.cls ≠ "java/lang/invoke/MethodHandle" ∧ yL_itemWidth.cls ≠ "java/lang/invoke/VarHandle" ∧ (parseMethodDescriptor yL_itemWidth.desc).map (fun d => d.parameters.length) = some 4 := by decide +kernel
theorem v_i2200 : Cond.methodLink RL 320 yX12_itemWidth ∈ wU := w_at 2200 (by decide +kernel) (by decide +kernel)
theorem v_i2201 : Cond.instanceMethod yX12_itemWidth ∈ wU := w_at 2201 (by decide +kernel) (by decide +kernel)
theorem v_i2202 : Cond.selects RX12 yX12_itemWidth yX12_itemWidth ∈ wU := w_at 2202 (by decide +kernel) (by decide +kernel)
theorem vq_320 : ∀ w ∈ ([.methodLink RL 320 yX12_itemWidth, .instanceMethod yX12_itemWidth, .selects RX12 yX12_itemWidth yX12_itemWidth, .initialized RX12] : List Cond), w ∈ wU := w_4 v_i2200 v_i2201 v_i2202 v_i90
theorem v_i1613 : Cond.methodLink RL 321 yL_lines ∈ wU := w_at 1613 (by decide +kernel) (by decide +kernel)
theorem v_i1614 : Cond.static yL_lines ∈ wU := w_at 1614 (by decide +kernel) (by decide +kernel)
theorem vw_321 : ∀ w ∈ ([.methodLink RL 321 yL_lines, .static yL_lines, .initialized RL] : List Cond), w ∈ wU := w_3 v_i1613 v_i1614 v_i83
theorem kl_lines : Cond.codeWith yL_lines cL_lines 4 (some .int) [(0, 9, 12, 13), (0, 9, 15, 15)] ∈ wU := w_at 1615 (by decide +kernel) (by decide +kernel)
theorem hl_lines : yL_lines.cls = RL ∧ yL_lines.cls ≠ "java/lang/invoke/MethodHandle" ∧ yL_lines.cls ≠ "java/lang/invoke/VarHandle" ∧ (parseMethodDescriptor yL_lines.desc).map (fun d => d.parameters.length) = some 3 := by decide +kernel
theorem v_i2204 : Cond.methodLink RL 323 yX12_lines ∈ wU := w_at 2204 (by decide +kernel) (by decide +kernel)
theorem v_i2205 : Cond.instanceMethod yX12_lines ∈ wU := w_at 2205 (by decide +kernel) (by decide +kernel)
theorem v_i2206 : Cond.selects RX12 yX12_lines yX12_lines ∈ wU := w_at 2206 (by decide +kernel) (by decide +kernel)
theorem vq_323 : ∀ w ∈ ([.methodLink RL 323 yX12_lines, .instanceMethod yX12_lines, .selects RX12 yX12_lines yX12_lines, .initialized RX12] : List Cond), w ∈ wU := w_4 v_i2204 v_i2205 v_i2206 v_i90
theorem v_i1620 : Cond.methodLink RL 324 yL_firstItem ∈ wU := w_at 1620 (by decide +kernel) (by decide +kernel)
theorem v_i1621 : Cond.static yL_firstItem ∈ wU := w_at 1621 (by decide +kernel) (by decide +kernel)
theorem vw_324 : ∀ w ∈ ([.methodLink RL 324 yL_firstItem, .static yL_firstItem, .initialized RL] : List Cond), w ∈ wU := w_3 v_i1620 v_i1621 v_i83
theorem kl_firstItem : Cond.codeWith yL_firstItem cL_firstItem 5 (some .int) [(0, 10, 13, 13), (0, 10, 17, 15), (0, 10, 21, 21)] ∈ wU := w_at 1622 (by decide +kernel) (by decide +kernel)
theorem hl_firstItem : yL_firstItem.cls = RL ∧ yL_firstItem.cls ≠ "java/lang/invoke/MethodHandle" ∧ yL_firstItem.cls ≠ "java/lang/invoke/VarHandle" ∧ (parseMethodDescriptor yL_firstItem.desc).map (fun d => d.parameters.length) = some 4 := by decide +kernel
theorem v_i2226 : Cond.methodLink RL 326 yX12_firstItem ∈ wU := w_at 2226 (by decide +kernel) (by decide +kernel)
theorem v_i2227 : Cond.instanceMethod yX12_firstItem ∈ wU := w_at 2227 (by decide +kernel) (by decide +kernel)
theorem v_i2228 : Cond.selects RX12 yX12_firstItem yX12_firstItem ∈ wU := w_at 2228 (by decide +kernel) (by decide +kernel)
theorem vq_326 : ∀ w ∈ ([.methodLink RL 326 yX12_firstItem, .instanceMethod yX12_firstItem, .selects RX12 yX12_firstItem yX12_firstItem, .initialized RX12] : List Cond), w ∈ wU := w_4 v_i2226 v_i2227 v_i2228 v_i90
theorem v_i1627 : Cond.methodLink RL 327 yL_badness ∈ wU := w_at 1627 (by decide +kernel) (by decide +kernel)
theorem v_i1628 : Cond.static yL_badness ∈ wU := w_at 1628 (by decide +kernel) (by decide +kernel)
theorem vw_327 : ∀ w ∈ ([.methodLink RL 327 yL_badness, .static yL_badness, .initialized RL] : List Cond), w ∈ wU := w_3 v_i1627 v_i1628 v_i83
theorem kl_badness : Cond.codeWith yL_badness cL_badness 4 (some .int) [(0, 9, 12, 13), (0, 9, 15, 15)] ∈ wU := w_at 1629 (by decide +kernel) (by decide +kernel)
theorem hl_badness : yL_badness.cls = RL ∧ yL_badness.cls ≠ "java/lang/invoke/MethodHandle" ∧ yL_badness.cls ≠ "java/lang/invoke/VarHandle" ∧ (parseMethodDescriptor yL_badness.desc).map (fun d => d.parameters.length) = some 3 := by decide +kernel
theorem v_i2230 : Cond.methodLink RL 329 yX12_badness ∈ wU := w_at 2230 (by decide +kernel) (by decide +kernel)
theorem v_i2231 : Cond.instanceMethod yX12_badness ∈ wU := w_at 2231 (by decide +kernel) (by decide +kernel)
theorem v_i2232 : Cond.selects RX12 yX12_badness yX12_badness ∈ wU := w_at 2232 (by decide +kernel) (by decide +kernel)
theorem vq_329 : ∀ w ∈ ([.methodLink RL 329 yX12_badness, .instanceMethod yX12_badness, .selects RX12 yX12_badness yX12_badness, .initialized RX12] : List Cond), w ∈ wU := w_4 v_i2230 v_i2231 v_i2232 v_i90
theorem v_i1634 : Cond.methodLink RL 330 yL_pages ∈ wU := w_at 1634 (by decide +kernel) (by decide +kernel)
theorem v_i1635 : Cond.static yL_pages ∈ wU := w_at 1635 (by decide +kernel) (by decide +kernel)
theorem vw_330 : ∀ w ∈ ([.methodLink RL 330 yL_pages, .static yL_pages, .initialized RL] : List Cond), w ∈ wU := w_3 v_i1634 v_i1635 v_i83
theorem kl_pages : Cond.codeWith yL_pages cL_pages 4 (some .int) [(0, 9, 12, 13), (0, 9, 15, 15)] ∈ wU := w_at 1636 (by decide +kernel) (by decide +kernel)
theorem hl_pages : yL_pages.cls = RL ∧ yL_pages.cls ≠ "java/lang/invoke/MethodHandle" ∧ yL_pages.cls ≠ "java/lang/invoke/VarHandle" ∧ (parseMethodDescriptor yL_pages.desc).map (fun d => d.parameters.length) = some 3 := by decide +kernel
theorem v_i2234 : Cond.methodLink RL 332 yX12_pages ∈ wU := w_at 2234 (by decide +kernel) (by decide +kernel)
theorem v_i2235 : Cond.instanceMethod yX12_pages ∈ wU := w_at 2235 (by decide +kernel) (by decide +kernel)
theorem v_i2236 : Cond.selects RX12 yX12_pages yX12_pages ∈ wU := w_at 2236 (by decide +kernel) (by decide +kernel)
theorem vq_332 : ∀ w ∈ ([.methodLink RL 332 yX12_pages, .instanceMethod yX12_pages, .selects RX12 yX12_pages yX12_pages, .initialized RX12] : List Cond), w ∈ wU := w_4 v_i2234 v_i2235 v_i2236 v_i90
theorem v_i1641 : Cond.methodLink RL 333 yL_pageLines ∈ wU := w_at 1641 (by decide +kernel) (by decide +kernel)
theorem v_i1642 : Cond.static yL_pageLines ∈ wU := w_at 1642 (by decide +kernel) (by decide +kernel)
theorem vw_333 : ∀ w ∈ ([.methodLink RL 333 yL_pageLines, .static yL_pageLines, .initialized RL] : List Cond), w ∈ wU := w_3 v_i1641 v_i1642 v_i83
theorem kl_pageLines : Cond.codeWith yL_pageLines cL_pageLines 5 (some .int) [(0, 10, 13, 13), (0, 10, 17, 15), (0, 10, 21, 21)] ∈ wU := w_at 1643 (by decide +kernel) (by decide +kernel)
theorem hl_pageLines : yL_pageLines.cls = RL ∧ yL_pageLines.cls ≠ "java/lang/invoke/MethodHandle" ∧ yL_pageLines.cls ≠ "java/lang/invoke/VarHandle" ∧ (parseMethodDescriptor yL_pageLines.desc).map (fun d => d.parameters.length) = some 4 := by decide +kernel
theorem v_i2280 : Cond.methodLink RL 335 yX12_pageLines ∈ wU := w_at 2280 (by decide +kernel) (by decide +kernel)
theorem v_i2281 : Cond.instanceMethod yX12_pageLines ∈ wU := w_at 2281 (by decide +kernel) (by decide +kernel)
theorem v_i2282 : Cond.selects RX12 yX12_pageLines yX12_pageLines ∈ wU := w_at 2282 (by decide +kernel) (by decide +kernel)
theorem vq_335 : ∀ w ∈ ([.methodLink RL 335 yX12_pageLines, .instanceMethod yX12_pageLines, .selects RX12 yX12_pageLines yX12_pageLines, .initialized RX12] : List Cond), w ∈ wU := w_4 v_i2280 v_i2281 v_i2282 v_i90
theorem v_i1648 : Cond.methodLink RL 336 yL_pageOf ∈ wU := w_at 1648 (by decide +kernel) (by decide +kernel)
theorem v_i1649 : Cond.static yL_pageOf ∈ wU := w_at 1649 (by decide +kernel) (by decide +kernel)
theorem vw_336 : ∀ w ∈ ([.methodLink RL 336 yL_pageOf, .static yL_pageOf, .initialized RL] : List Cond), w ∈ wU := w_3 v_i1648 v_i1649 v_i83
theorem kl_pageOf : Cond.codeWith yL_pageOf cL_pageOf 5 (some .int) [(0, 10, 13, 13), (0, 10, 17, 15), (0, 10, 21, 21)] ∈ wU := w_at 1650 (by decide +kernel) (by decide +kernel)
theorem hl_pageOf : yL_pageOf.cls = RL ∧ yL_pageOf.cls ≠ "java/lang/invoke/MethodHandle" ∧ yL_pageOf.cls ≠ "java/lang/invoke/VarHandle" ∧ (parseMethodDescriptor yL_pageOf.desc).map (fun d => d.parameters.length) = some 4 := by decide +kernel
theorem v_i2284 : Cond.methodLink RL 338 yX12_pageOf ∈ wU := w_at 2284 (by decide +kernel) (by decide +kernel)
theorem v_i2285 : Cond.instanceMethod yX12_pageOf ∈ wU := w_at 2285 (by decide +kernel) (by decide +kernel)
theorem v_i2286 : Cond.selects RX12 yX12_pageOf yX12_pageOf ∈ wU := w_at 2286 (by decide +kernel) (by decide +kernel)
theorem vq_338 : ∀ w ∈ ([.methodLink RL 338 yX12_pageOf, .instanceMethod yX12_pageOf, .selects RX12 yX12_pageOf yX12_pageOf, .initialized RX12] : List Cond), w ∈ wU := w_4 v_i2284 v_i2285 v_i2286 v_i90
theorem v_i1663 : Cond.methodLink RL 339 yL_pageTurns ∈ wU := w_at 1663 (by decide +kernel) (by decide +kernel)
theorem v_i1664 : Cond.static yL_pageTurns ∈ wU := w_at 1664 (by decide +kernel) (by decide +kernel)
theorem vw_339 : ∀ w ∈ ([.methodLink RL 339 yL_pageTurns, .static yL_pageTurns, .initialized RL] : List Cond), w ∈ wU := w_3 v_i1663 v_i1664 v_i83
theorem kl_pageTurns : Cond.codeWith yL_pageTurns cL_pageTurns 4 (some .int) [(0, 9, 12, 13), (0, 9, 15, 15)] ∈ wU := w_at 1665 (by decide +kernel) (by decide +kernel)
theorem hl_pageTurns : yL_pageTurns.cls = RL ∧ yL_pageTurns.cls ≠ "java/lang/invoke/MethodHandle" ∧ yL_pageTurns.cls ≠ "java/lang/invoke/VarHandle" ∧ (parseMethodDescriptor yL_pageTurns.desc).map (fun d => d.parameters.length) = some 3 := by decide +kernel
theorem v_i2288 : Cond.methodLink RL 341 yX12_pageTurns ∈ wU := w_at 2288 (by decide +kernel) (by decide +kernel)
theorem v_i2289 : Cond.instanceMethod yX12_pageTurns ∈ wU := w_at 2289 (by decide +kernel) (by decide +kernel)
theorem v_i2290 : Cond.selects RX12 yX12_pageTurns yX12_pageTurns ∈ wU := w_at 2290 (by decide +kernel) (by decide +kernel)
theorem vq_341 : ∀ w ∈ ([.methodLink RL 341 yX12_pageTurns, .instanceMethod yX12_pageTurns, .selects RX12 yX12_pageTurns yX12_pageTurns, .initialized RX12] : List Cond), w ∈ wU := w_4 v_i2288 v_i2289 v_i2290 v_i90
theorem v_i1670 : Cond.methodLink RL 342 yL_turnBar ∈ wU := w_at 1670 (by decide +kernel) (by decide +kernel)
theorem v_i1671 : Cond.static yL_turnBar ∈ wU := w_at 1671 (by decide +kernel) (by decide +kernel)
theorem vw_342 : ∀ w ∈ ([.methodLink RL 342 yL_turnBar, .static yL_turnBar, .initialized RL] : List Cond), w ∈ wU := w_3 v_i1670 v_i1671 v_i83
theorem kl_turnBar : Cond.codeWith yL_turnBar cL_turnBar 5 (some .int) [(0, 10, 13, 13), (0, 10, 17, 15), (0, 10, 21, 21)] ∈ wU := w_at 1672 (by decide +kernel) (by decide +kernel)
theorem hl_turnBar : yL_turnBar.cls = RL ∧ yL_turnBar.cls ≠ "java/lang/invoke/MethodHandle" ∧ yL_turnBar.cls ≠ "java/lang/invoke/VarHandle" ∧ (parseMethodDescriptor yL_turnBar.desc).map (fun d => d.parameters.length) = some 4 := by decide +kernel
theorem v_i2296 : Cond.methodLink RL 344 yX12_turnBar ∈ wU := w_at 2296 (by decide +kernel) (by decide +kernel)
theorem v_i2297 : Cond.instanceMethod yX12_turnBar ∈ wU := w_at 2297 (by decide +kernel) (by decide +kernel)
theorem v_i2298 : Cond.selects RX12 yX12_turnBar yX12_turnBar ∈ wU := w_at 2298 (by decide +kernel) (by decide +kernel)
theorem vq_344 : ∀ w ∈ ([.methodLink RL 344 yX12_turnBar, .instanceMethod yX12_turnBar, .selects RX12 yX12_turnBar yX12_turnBar, .initialized RX12] : List Cond), w ∈ wU := w_4 v_i2296 v_i2297 v_i2298 v_i90
theorem v_i1677 : Cond.methodLink RL 345 yL_turnTime ∈ wU := w_at 1677 (by decide +kernel) (by decide +kernel)
theorem v_i1678 : Cond.static yL_turnTime ∈ wU := w_at 1678 (by decide +kernel) (by decide +kernel)
theorem vw_345 : ∀ w ∈ ([.methodLink RL 345 yL_turnTime, .static yL_turnTime, .initialized RL] : List Cond), w ∈ wU := w_3 v_i1677 v_i1678 v_i83
theorem kl_turnTime : Cond.codeWith yL_turnTime cL_turnTime 5 (some .int) [(0, 10, 13, 13), (0, 10, 17, 15), (0, 10, 21, 21)] ∈ wU := w_at 1679 (by decide +kernel) (by decide +kernel)
theorem hl_turnTime : yL_turnTime.cls = RL ∧ yL_turnTime.cls ≠ "java/lang/invoke/MethodHandle" ∧ yL_turnTime.cls ≠ "java/lang/invoke/VarHandle" ∧ (parseMethodDescriptor yL_turnTime.desc).map (fun d => d.parameters.length) = some 4 := by decide +kernel
theorem v_i2304 : Cond.methodLink RL 347 yX12_turnTime ∈ wU := w_at 2304 (by decide +kernel) (by decide +kernel)
theorem v_i2305 : Cond.instanceMethod yX12_turnTime ∈ wU := w_at 2305 (by decide +kernel) (by decide +kernel)
theorem v_i2306 : Cond.selects RX12 yX12_turnTime yX12_turnTime ∈ wU := w_at 2306 (by decide +kernel) (by decide +kernel)
theorem vq_347 : ∀ w ∈ ([.methodLink RL 347 yX12_turnTime, .instanceMethod yX12_turnTime, .selects RX12 yX12_turnTime yX12_turnTime, .initialized RX12] : List Cond), w ∈ wU := w_4 v_i2304 v_i2305 v_i2306 v_i90
theorem v_i1684 : Cond.methodLink RL 348 yL_turnRest ∈ wU := w_at 1684 (by decide +kernel) (by decide +kernel)
theorem v_i1685 : Cond.static yL_turnRest ∈ wU := w_at 1685 (by decide +kernel) (by decide +kernel)
theorem vw_348 : ∀ w ∈ ([.methodLink RL 348 yL_turnRest, .static yL_turnRest, .initialized RL] : List Cond), w ∈ wU := w_3 v_i1684 v_i1685 v_i83
theorem kl_turnRest : Cond.codeWith yL_turnRest cL_turnRest 5 (some .int) [(0, 10, 13, 13), (0, 10, 17, 15), (0, 10, 21, 21)] ∈ wU := w_at 1686 (by decide +kernel) (by decide +kernel)
theorem hl_turnRest : yL_turnRest.cls = RL ∧ yL_turnRest.cls ≠ "java/lang/invoke/MethodHandle" ∧ yL_turnRest.cls ≠ "java/lang/invoke/VarHandle" ∧ (parseMethodDescriptor yL_turnRest.desc).map (fun d => d.parameters.length) = some 4 := by decide +kernel
theorem v_i2308 : Cond.methodLink RL 350 yX12_turnRest ∈ wU := w_at 2308 (by decide +kernel) (by decide +kernel)
theorem v_i2309 : Cond.instanceMethod yX12_turnRest ∈ wU := w_at 2309 (by decide +kernel) (by decide +kernel)
theorem v_i2310 : Cond.selects RX12 yX12_turnRest yX12_turnRest ∈ wU := w_at 2310 (by decide +kernel) (by decide +kernel)
theorem vq_350 : ∀ w ∈ ([.methodLink RL 350 yX12_turnRest, .instanceMethod yX12_turnRest, .selects RX12 yX12_turnRest yX12_turnRest, .initialized RX12] : List Cond), w ∈ wU := w_4 v_i2308 v_i2309 v_i2310 v_i90
theorem v_i1691 : Cond.methodLink RL 351 yL_badTurns ∈ wU := w_at 1691 (by decide +kernel) (by decide +kernel)
theorem v_i1692 : Cond.static yL_badTurns ∈ wU := w_at 1692 (by decide +kernel) (by decide +kernel)
theorem vw_351 : ∀ w ∈ ([.methodLink RL 351 yL_badTurns, .static yL_badTurns, .initialized RL] : List Cond), w ∈ wU := w_3 v_i1691 v_i1692 v_i83
theorem kl_badTurns : Cond.codeWith yL_badTurns cL_badTurns 4 (some .int) [(0, 9, 12, 13), (0, 9, 15, 15)] ∈ wU := w_at 1693 (by decide +kernel) (by decide +kernel)
theorem hl_badTurns : yL_badTurns.cls = RL ∧ yL_badTurns.cls ≠ "java/lang/invoke/MethodHandle" ∧ yL_badTurns.cls ≠ "java/lang/invoke/VarHandle" ∧ (parseMethodDescriptor yL_badTurns.desc).map (fun d => d.parameters.length) = some 3 := by decide +kernel
theorem v_i2312 : Cond.methodLink RL 353 yX12_badTurns ∈ wU := w_at 2312 (by decide +kernel) (by decide +kernel)
theorem v_i2313 : Cond.instanceMethod yX12_badTurns ∈ wU := w_at 2313 (by decide +kernel) (by decide +kernel)
theorem v_i2314 : Cond.selects RX12 yX12_badTurns yX12_badTurns ∈ wU := w_at 2314 (by decide +kernel) (by decide +kernel)
theorem vq_353 : ∀ w ∈ ([.methodLink RL 353 yX12_badTurns, .instanceMethod yX12_badTurns, .selects RX12 yX12_badTurns yX12_badTurns, .initialized RX12] : List Cond), w ∈ wU := w_4 v_i2312 v_i2313 v_i2314 v_i90
theorem v_i1702 : Cond.methodLink RL 354 yL_sheets ∈ wU := w_at 1702 (by decide +kernel) (by decide +kernel)
theorem v_i1703 : Cond.static yL_sheets ∈ wU := w_at 1703 (by decide +kernel) (by decide +kernel)
theorem vw_354 : ∀ w ∈ ([.methodLink RL 354 yL_sheets, .static yL_sheets, .initialized RL] : List Cond), w ∈ wU := w_3 v_i1702 v_i1703 v_i83
theorem kl_sheets : Cond.codeWith yL_sheets cL_sheets 4 (some .int) [(0, 9, 12, 13), (0, 9, 15, 15)] ∈ wU := w_at 1704 (by decide +kernel) (by decide +kernel)
theorem hl_sheets : yL_sheets.cls = RL ∧ yL_sheets.cls ≠ "java/lang/invoke/MethodHandle" ∧ yL_sheets.cls ≠ "java/lang/invoke/VarHandle" ∧ (parseMethodDescriptor yL_sheets.desc).map (fun d => d.parameters.length) = some 3 := by decide +kernel
theorem v_i2316 : Cond.methodLink RL 356 yX12_sheets ∈ wU := w_at 2316 (by decide +kernel) (by decide +kernel)
theorem v_i2317 : Cond.instanceMethod yX12_sheets ∈ wU := w_at 2317 (by decide +kernel) (by decide +kernel)
theorem v_i2318 : Cond.selects RX12 yX12_sheets yX12_sheets ∈ wU := w_at 2318 (by decide +kernel) (by decide +kernel)
theorem vq_356 : ∀ w ∈ ([.methodLink RL 356 yX12_sheets, .instanceMethod yX12_sheets, .selects RX12 yX12_sheets yX12_sheets, .initialized RX12] : List Cond), w ∈ wU := w_4 v_i2316 v_i2317 v_i2318 v_i90
theorem v_i1712 : Cond.methodLink RL 357 yL_sheetPage ∈ wU := w_at 1712 (by decide +kernel) (by decide +kernel)
theorem v_i1713 : Cond.static yL_sheetPage ∈ wU := w_at 1713 (by decide +kernel) (by decide +kernel)
theorem vw_357 : ∀ w ∈ ([.methodLink RL 357 yL_sheetPage, .static yL_sheetPage, .initialized RL] : List Cond), w ∈ wU := w_3 v_i1712 v_i1713 v_i83
theorem kl_sheetPage : Cond.codeWith yL_sheetPage cL_sheetPage 7 (some .int) [(0, 14, 17, 13), (0, 14, 21, 15), (0, 14, 25, 21)] ∈ wU := w_at 1714 (by decide +kernel) (by decide +kernel)
theorem hl_sheetPage : yL_sheetPage.cls = RL ∧ yL_sheetPage.cls ≠ "java/lang/invoke/MethodHandle" ∧ yL_sheetPage.cls ≠ "java/lang/invoke/VarHandle" ∧ (parseMethodDescriptor yL_sheetPage.desc).map (fun d => d.parameters.length) = some 6 := by decide +kernel
theorem v_i2324 : Cond.methodLink RL 360 yX12_sheetPage ∈ wU := w_at 2324 (by decide +kernel) (by decide +kernel)
theorem v_i2325 : Cond.instanceMethod yX12_sheetPage ∈ wU := w_at 2325 (by decide +kernel) (by decide +kernel)
theorem v_i2326 : Cond.selects RX12 yX12_sheetPage yX12_sheetPage ∈ wU := w_at 2326 (by decide +kernel) (by decide +kernel)
theorem vq_360 : ∀ w ∈ ([.methodLink RL 360 yX12_sheetPage, .instanceMethod yX12_sheetPage, .selects RX12 yX12_sheetPage yX12_sheetPage, .initialized RX12] : List Cond), w ∈ wU := w_4 v_i2324 v_i2325 v_i2326 v_i90
section LC
variable {p : Program} {l : Launch} {e : Env} {s : State} {m : MethodId} {b : Nat} {below : List Frame} {meth : Method} {c : Code} {Q : State → Prop} {L : Nat} {xs : Nat → Int32}
variable {D : va_G} {K : Nat → ClassId} {E0 : Nat} {mo ao : Nat}
theorem gl_bool (C : lx_Cx p l s m b c meth L xs D K E0 mo ao) {S : CS} {ov : Nat → Int64} {t : MS} {pc : Nat} {lv : List (Nat × Value)} {st : List Value} {x : Int32} (d : decode code pc = .ok (.ifCond .eq 7, 3)) (d1 : decode code (pc + 3) = .ok (.iconst 1, 1)) (d2 : decode code (pc + 4) = .ok (.goto 4, 3)) (d3 : decode code (pc + 7) = .ok (.iconst 0, 1)) (k : GL p l e s m b below meth c D K E0 mo ao Q S ov t (pc + 8) lv (.int (lbo x) :: st)) : GL p l e s m b below meth c D K E0 mo ao Q S ov t pc lv (.int x :: st) := by
  unfold lbo at k
  refine gl_if_eq C (pc + 7) d (by omega) (fun h => ?_) (fun h => ?_)
  · rw [if_pos h] at k
    exact gl_iconst C 0 d3 (by decide) k
  · rw [if_neg h] at k
    exact gl_iconst C 1 d1 (by decide) (gl_goto C (pc + 8) d2 (by omega) k)
theorem gl_boolL (C : lx_Cx p l s m b c meth L xs D K E0 mo ao) {S : CS} {ov : Nat → Int64} {t : MS} {pc : Nat} {lv : List (Nat × Value)} {st : List Value} {x : Int32} (d : decode code pc = .ok (.ifCond .eq 7, 3)) (d1 : decode code (pc + 3) = .ok (.lconst 1, 1)) (d2 : decode code (pc + 4) = .ok (.goto 4, 3)) (d3 : decode code (pc + 7) = .ok (.lconst 0, 1)) (k : GL p l e s m b below meth c D K E0 mo ao Q S ov t (pc + 8) lv (.long (lboL x) :: st)) : GL p l e s m b below meth c D K E0 mo ao Q S ov t pc lv (.int x :: st) := by
  unfold lboL at k
  refine gl_if_eq C (pc + 7) d (by omega) (fun h => ?_) (fun h => ?_)
  · rw [if_pos h] at k
    exact gl_lconst C 0 d3 (by decide) k
  · rw [if_neg h] at k
    exact gl_lconst C 1 d1 (by decide) (gl_goto C (pc + 8) d2 (by omega) k)
/-- a call of the class that throws nothing -/
theorem gl_cls (C : lx_Cx p l s m b c meth L xs D K E0 mo ao) {S : CS} {ov : Nat → Int64} {t : MS} {pc : Nat} {lv : List (Nat × Value)} {st : List Value} {y : MethodName} {cb : ByteArray} {maxL ix n d o : Nat} {rt : Option FieldType} {as : List Value} {P : Option Value → CS → Prop} (B1 : Nat × Nat) (hB : B1.1 ≤ (lB s).1 ∧ B1.2 ≤ (lB s).2) (hB2 : szC S ≤ B1.1 ∧ nsC S ≤ B1.2) (hd : d ≤ 60) (hm : maxL ≤ 29)
    (hM' : MetC l y cb maxL rt d (.ref o :: as) P (fun _ _ => False) D K E0 B1 (lA s mo ao) S) (hy : y.cls = RX11 ∧ y.cls ≠ "java/lang/invoke/MethodHandle" ∧ y.cls ≠ "java/lang/invoke/VarHandle" ∧ (parseMethodDescriptor y.desc).map (fun d => d.parameters.length) = some n) (hn : as.length = n)
    (hw : ∀ w ∈ ([.methodLink RL ix y, .instanceMethod y, .selects RX11 y y, .initialized RX11] : List Cond), w ∈ wU) (hcode : Cond.code y cb maxL rt ∈ wU) (hg : isC S o 14)
    (hdg : decode code pc = .ok (.invokevirtual ix, 3)) (hst : (st.map fun v => v.category).sum ≤ 8)
    (kk : ∀ (v : Option Value) (S' : CS), P v S' → szC S' ≤ B1.1 → nsC S' ≤ B1.2 → GL p l e s m b below meth c D K E0 mo ao Q S' ov t (pc + 3) lv (v.toList ++ st)) : GL p l e s m b below meth c D K E0 mo ao Q S ov t pc lv (as.reverse ++ .ref o :: st) := by
  intro G H locs ls hP hA hO hM hS hs h1 h2 hl T hT X9
  have y1 : H.size = szC S := hP.2.2.1
  have y2 : hsl H = nsC S := hP.2.2.2
  have z0 : s.heap.size ≤ H.size := hS.1
  have hB1' : B1.1 ≤ s.heap.size + 601024 := hB.1
  have hB2' : B1.2 ≤ hsl s.heap + 7293034 := hB.2
  have hoA : ∀ q, lA s mo ao q → s.heap.size ≤ q := fun q hq => hq.1
  have hrun := vx_runV (meth := meth) (below := below) (e := e) (g := F0 m pc ls (as.reverse ++ .ref o :: st)) (H := H) (locs := locs) (cells := H.size - s.heap.size) (slots := hsl H - hsl s.heap) (As := as) (rest := st) (R := room_1) (p := p) (l := l) (s := s) (m := m) (args := #[Value.ref b]) (c := c) ⟨C.1, C.2.1, C.2.2.1, C.2.2.2.1, C.2.2.2.2.1⟩ (hM' C.2.2.2.2.2.2.2.1 hB2.1 hB2.2) (cwV n C.2.2.2.2.1 (gU hw hcode) rfl rfl rfl hy ⟨by show d + 1 ≤ 2048; omega, by show 8 + (maxL + 11) + 48 * d ≤ 84000; omega⟩)
    ⟨c_blind, va_recv C.2.2.2.2.2.1 (c_obj hP hg (by decide) (by decide)).2 (ci := 14) (q0 := 0) BX11.1 rfl, fun U hU hW => ⟨rfl, ⟨G, by rw [hU]; exact hP, hA⟩, va_K.moved hW.alike (l_K1 C.2.2.2.2.2.1), by rw [hU]; exact StC.narrow (StC.kept (StC.moved hW.alike C.2.2.2.2.2.2.1) hS.2.1) hoA, c_Ev.warm hW C.2.2.2.2.2.2.2.2.2.1⟩⟩ rfl hn hl.1 rfl (lv_room hst) hdg ⟨by show _ ≤ 601024; omega, by show _ ≤ 7293034; omega⟩
  rcases hrun T hT X9 with ⟨v, st₀, t1, T', L9, h0, X', hL, e1, e2, ⟨⟨v', S', hv, ⟨hp, hk⟩, G', hP', hA'⟩, hF⟩, stp⟩ | ⟨q, st₀, t1, T', L9, E, ce, h0, X', hL, e1, e2, ⟨⟨S', hq, hq2⟩, hF⟩, hce, hcv, hcl, stp⟩
  · cases hv
    obtain ⟨k1, k2, k3⟩ := vx_keep (A0 := fun q => s.heap.size ≤ q) h0 e1 hS (fun q _ z => hoA q z) (fun q z => hoA q z) hL hF
    have hb := stand_slots X'
    rw [← e1] at hP'
    have z1 : T'.heap.size = szC S' := hP'.2.2.1
    have z2 : hsl T'.heap = nsC S' := hP'.2.2.2
    have hkeep : ∀ q : Nat, q < H.size → ¬ lA s mo ao q → T'.heap[q]? = H[q]? := fun q q1 q2 => by
      have f2 := hF.2
      rw [h0] at f2
      rw [e1]
      exact f2 q q1 q2
    have hM2 : va_P D vwCl (m_ws (K 0) (K 3) mo (m_ad mo) t) T'.heap := va_P.kept hM (fun k x hx => hkeep x.1 ((hM k x hx).lt) (fun h9 => h9.2.2 ((m_D (cI := K 0) (cZ := K 3) (m_adap mo) t).2 k x hx)))
    obtain ⟨t2, a1, b1⟩ := kk v S' hp (by omega) (by omega) G' T'.heap (locs ++ L9) ls hP' hA' (va_at.kept hO (hkeep ao hO.lt (fun h => h.2.1 rfl))) hM2 k3 hb.1 (by show _ ≤ s.heap.size + 601024; omega) (by show _ ≤ hsl s.heap + 7293034; omega) hl T' rfl (stand_norm X')
    exact ⟨t2, stp t2 a1, b1⟩
  · exact hq.elim
theorem lc_0 (C : lx_Cx p l s m b c meth L xs D K E0 mo ao) {o : Nat} {I : Nat → CS → MS → Prop} (Sm : Sim (lB s) o I) {i : Int32} (hin : vp_in (i + 1) L ∧ vp_in (i + 2) L ∧ vp_in (i + 3) L ∧ vp_in (i + 4) L ∧ vp_in (i + 5) L ∧ vp_in (i + 6) L) {n : Nat} {S : CS} {t : MS} {ov : Nat → Int64} (h : I (n + 1) S t) (kk : ∀ (ov1 : Nat → Int64) (S1 : CS) (t1 : MS), I n S1 t1 → GL p l e s m b below meth c D K E0 mo ao Q S1 ov1 t1 3755 [(4, .int i), (3, .ref ao), (2, .ref mo), (1, .ref o), (0, .ref b)] []) : GL p l e s m b below meth c D K E0 mo ao Q S ov t 272 [(4, .int i), (3, .ref ao), (2, .ref mo), (1, .ref o), (0, .ref b)] [] := by
  refine gl_aloadn C 3 1 dL_law_272 rfl rfl ?_
  refine gl_aloadn C 4 0 dL_law_273 rfl rfl ?_
  refine gl_iload C 0 dL_law_274 rfl ?_
  refine gl_iconst C 1 dL_law_276 (by decide) ?_
  refine gl_iadd C dL_law_277 ?_
  refine gl_scr C hin.1 dL_law_278 ?_
  refine gl_aloadn C 4 0 dL_law_279 rfl rfl ?_
  refine gl_iload C 0 dL_law_280 rfl ?_
  refine gl_iconst C 2 dL_law_282 (by decide) ?_
  refine gl_iadd C dL_law_283 ?_
  refine gl_scr C hin.2.1 dL_law_284 ?_
  refine gl_aloadn C 1 3 dL_law_285 rfl rfl ?_
  obtain ⟨B1, hB, hw⟩ := Sm.addBar n S t ov (xs (Int32.toNatClampNeg (i + 1))) (xs (Int32.toNatClampNeg (i + 2))) h
  refine gl_wrap C (y := yL_addBar) (as := [.ref o, .int (xs (Int32.toNatClampNeg (i + 1))), .int (xs (Int32.toNatClampNeg (i + 2))), .ref ao]) B1 hB.1 hB.2 (by decide) (by decide) (k_addBar l D K E0 B1 _ ao o (xs (Int32.toNatClampNeg (i + 1))) (xs (Int32.toNatClampNeg (i + 2))) S ov _ (Sm.kd _ _ _ h) hw) hl_addBar rfl vw_178 kl_addBar dL_law_286 (Nat.le_of_ble_eq_true rfl) (fun k ov1 S1 hp hz1 hz2 => ?_)
  have hp := hp hz1 hz2
  refine gl_istore C [(5, .int k), (4, .int i), (3, .ref ao), (2, .ref mo), (1, .ref o), (0, .ref b)] dL_law_289 (by decide) rfl ?_
  refine gl_aloadn C 3 2 dL_law_291 rfl rfl ?_
  refine gl_aloadn C 5 0 dL_law_292 rfl rfl ?_
  refine gl_iload C 1 dL_law_293 rfl ?_
  refine gl_iconst C 1 dL_law_295 (by decide) ?_
  refine gl_iadd C dL_law_296 ?_
  refine gl_scr C hin.1 dL_law_297 ?_
  refine gl_aloadn C 5 0 dL_law_298 rfl rfl ?_
  refine gl_iload C 1 dL_law_299 rfl ?_
  refine gl_iconst C 2 dL_law_301 (by decide) ?_
  refine gl_iadd C dL_law_302 ?_
  refine gl_scr C hin.2.1 dL_law_303 ?_
  refine gl_mod C (y := yX12_addBar) (as := [.int (xs (Int32.toNatClampNeg (i + 1))), .int (xs (Int32.toNatClampNeg (i + 2)))]) (by decide) (by decide) (c_addBar l D (K 0) (K 3) mo (m_ad mo) (xs (Int32.toNatClampNeg (i + 1))) (xs (Int32.toNatClampNeg (i + 2))) t _ hp) hy_addBar rfl vq_183 cu_addBar dL_law_304 (Nat.le_of_ble_eq_true rfl) (fun v t1 ns1 hq hns1 => ?_)
  obtain ⟨r, rfl, hq1, hq2, hI9⟩ := hq
  have hI9 := Sm.rs _ _ _ ns1 hI9 hns1
  refine gl_istore C [(6, .int r), (5, .int k), (4, .int i), (3, .ref ao), (2, .ref mo), (1, .ref o), (0, .ref b)] dL_law_307 (by decide) rfl ?_
  refine gl_aloadn C 4 2 dL_law_309 rfl rfl ?_
  refine gl_mod C (y := yX12_thrown) (as := []) (by decide) (by decide) (c_thrown l D (K 0) (K 3) mo (m_ad mo) t1) hy_thrown rfl vq_184 cu_thrown dL_law_310 (Nat.le_of_ble_eq_true rfl) (fun v t2 ns2 hq hns2 => ?_)
  obtain ⟨r2, rfl, rfl, rfl⟩ := hq
  have hI9 := Sm.rs _ _ _ ns2 hI9 hns2
  refine gl_iload C 1 dL_law_313 rfl ?_
  refine gl_icmp_eq C 320 dL_law_315 (by decide) (fun c1 => ?_) (fun c1 => absurd hq1 c1)
  refine gl_iload C 1 dL_law_320 rfl ?_
  have kend : GL p l e s m b below meth c D K E0 mo ao Q (rsz (rsz S1 (szC S1) ns1) (szC (rsz S1 (szC S1) ns1)) ns2) ov1 t1 337 [(6, .int r), (5, .int k), (4, .int i), (3, .ref ao), (2, .ref mo), (1, .ref o), (0, .ref b)] [] := by
    refine gl_goto C 3755 dL_law_337 (by decide) ?_
    refine gl_sub [2, 3, 4, 5, 6] rfl ?_
    exact kk _ _ _ hI9
  refine gl_if_ne C 337 dL_law_322 (by decide) (fun _ => kend) (fun c2 => ?_)
  refine gl_aloadn C 3 3 dL_law_325 rfl rfl ?_
  refine gl_iconst C 0 dL_law_326 (by decide) ?_
  refine gl_out C dL_law_327 ?_
  refine gl_iload C 0 dL_law_328 rfl ?_
  refine gl_i2l C dL_law_330 ?_
  exact gl_lcmpeq C 337 dL_law_331 dL_law_332 (by decide) (fun _ => kend) (fun c3 => absurd (hq2 c2) c3)
theorem lc_1 (C : lx_Cx p l s m b c meth L xs D K E0 mo ao) {o : Nat} {I : Nat → CS → MS → Prop} (Sm : Sim (lB s) o I) {i : Int32} (hin : vp_in (i + 1) L ∧ vp_in (i + 2) L ∧ vp_in (i + 3) L ∧ vp_in (i + 4) L ∧ vp_in (i + 5) L ∧ vp_in (i + 6) L) {n : Nat} {S : CS} {t : MS} {ov : Nat → Int64} (h : I (n + 1) S t) (kk : ∀ (ov1 : Nat → Int64) (S1 : CS) (t1 : MS), I n S1 t1 → GL p l e s m b below meth c D K E0 mo ao Q S1 ov1 t1 3755 [(4, .int i), (3, .ref ao), (2, .ref mo), (1, .ref o), (0, .ref b)] []) : GL p l e s m b below meth c D K E0 mo ao Q S ov t 340 [(4, .int i), (3, .ref ao), (2, .ref mo), (1, .ref o), (0, .ref b)] [] := by
  refine gl_aloadn C 3 1 dL_law_340 rfl rfl ?_
  refine gl_aloadn C 4 0 dL_law_341 rfl rfl ?_
  refine gl_iload C 0 dL_law_342 rfl ?_
  refine gl_iconst C 1 dL_law_344 (by decide) ?_
  refine gl_iadd C dL_law_345 ?_
  refine gl_scr C hin.1 dL_law_346 ?_
  refine gl_aloadn C 4 0 dL_law_347 rfl rfl ?_
  refine gl_iload C 0 dL_law_348 rfl ?_
  refine gl_iconst C 2 dL_law_350 (by decide) ?_
  refine gl_iadd C dL_law_351 ?_
  refine gl_scr C hin.2.1 dL_law_352 ?_
  refine gl_aloadn C 4 0 dL_law_353 rfl rfl ?_
  refine gl_iload C 0 dL_law_354 rfl ?_
  refine gl_iconst C 3 dL_law_356 (by decide) ?_
  refine gl_iadd C dL_law_357 ?_
  refine gl_scr C hin.2.2.1 dL_law_358 ?_
  refine gl_aloadn C 1 3 dL_law_359 rfl rfl ?_
  obtain ⟨B1, hB, hw⟩ := Sm.setMetre n S t ov (xs (Int32.toNatClampNeg (i + 1))) (xs (Int32.toNatClampNeg (i + 2))) (xs (Int32.toNatClampNeg (i + 3))) h
  refine gl_wrap C (y := yL_setMetre) (as := [.ref o, .int (xs (Int32.toNatClampNeg (i + 1))), .int (xs (Int32.toNatClampNeg (i + 2))), .int (xs (Int32.toNatClampNeg (i + 3))), .ref ao]) B1 hB.1 hB.2 (by decide) (by decide) (k_setMetre l D K E0 B1 _ ao o (xs (Int32.toNatClampNeg (i + 1))) (xs (Int32.toNatClampNeg (i + 2))) (xs (Int32.toNatClampNeg (i + 3))) S ov _ (Sm.kd _ _ _ h) hw) hl_setMetre rfl vw_188 kl_setMetre dL_law_360 (Nat.le_of_ble_eq_true rfl) (fun k ov1 S1 hp hz1 hz2 => ?_)
  have hp := hp hz1 hz2
  refine gl_istore C [(5, .int k), (4, .int i), (3, .ref ao), (2, .ref mo), (1, .ref o), (0, .ref b)] dL_law_363 (by decide) rfl ?_
  refine gl_aloadn C 3 2 dL_law_365 rfl rfl ?_
  refine gl_aloadn C 5 0 dL_law_366 rfl rfl ?_
  refine gl_iload C 1 dL_law_367 rfl ?_
  refine gl_iconst C 1 dL_law_369 (by decide) ?_
  refine gl_iadd C dL_law_370 ?_
  refine gl_scr C hin.1 dL_law_371 ?_
  refine gl_aloadn C 5 0 dL_law_372 rfl rfl ?_
  refine gl_iload C 1 dL_law_373 rfl ?_
  refine gl_iconst C 2 dL_law_375 (by decide) ?_
  refine gl_iadd C dL_law_376 ?_
  refine gl_scr C hin.2.1 dL_law_377 ?_
  refine gl_aloadn C 5 0 dL_law_378 rfl rfl ?_
  refine gl_iload C 1 dL_law_379 rfl ?_
  refine gl_iconst C 3 dL_law_381 (by decide) ?_
  refine gl_iadd C dL_law_382 ?_
  refine gl_scr C hin.2.2.1 dL_law_383 ?_
  refine gl_mod C (y := yX12_setMetre) (as := [.int (xs (Int32.toNatClampNeg (i + 1))), .int (xs (Int32.toNatClampNeg (i + 2))), .int (xs (Int32.toNatClampNeg (i + 3)))]) (by decide) (by decide) (c_setMetre l D (K 0) (K 3) mo (m_ad mo) (xs (Int32.toNatClampNeg (i + 1))) (xs (Int32.toNatClampNeg (i + 2))) (xs (Int32.toNatClampNeg (i + 3))) t _ hp) hy_setMetre rfl vq_191 cu_setMetre dL_law_384 (Nat.le_of_ble_eq_true rfl) (fun v t1 ns1 hq hns1 => ?_)
  obtain ⟨r, rfl, hq1, hq2, hI9⟩ := hq
  have hI9 := Sm.rs _ _ _ ns1 hI9 hns1
  refine gl_istore C [(6, .int r), (5, .int k), (4, .int i), (3, .ref ao), (2, .ref mo), (1, .ref o), (0, .ref b)] dL_law_387 (by decide) rfl ?_
  refine gl_aloadn C 4 2 dL_law_389 rfl rfl ?_
  refine gl_mod C (y := yX12_thrown) (as := []) (by decide) (by decide) (c_thrown l D (K 0) (K 3) mo (m_ad mo) t1) hy_thrown rfl vq_184 cu_thrown dL_law_390 (Nat.le_of_ble_eq_true rfl) (fun v t2 ns2 hq hns2 => ?_)
  obtain ⟨r2, rfl, rfl, rfl⟩ := hq
  have hI9 := Sm.rs _ _ _ ns2 hI9 hns2
  refine gl_iload C 1 dL_law_393 rfl ?_
  refine gl_icmp_eq C 400 dL_law_395 (by decide) (fun c1 => ?_) (fun c1 => absurd hq1 c1)
  refine gl_iload C 1 dL_law_400 rfl ?_
  have kend : GL p l e s m b below meth c D K E0 mo ao Q (rsz (rsz S1 (szC S1) ns1) (szC (rsz S1 (szC S1) ns1)) ns2) ov1 t1 417 [(6, .int r), (5, .int k), (4, .int i), (3, .ref ao), (2, .ref mo), (1, .ref o), (0, .ref b)] [] := by
    refine gl_goto C 3755 dL_law_417 (by decide) ?_
    refine gl_sub [2, 3, 4, 5, 6] rfl ?_
    exact kk _ _ _ hI9
  refine gl_if_ne C 417 dL_law_402 (by decide) (fun _ => kend) (fun c2 => ?_)
  refine gl_aloadn C 3 3 dL_law_405 rfl rfl ?_
  refine gl_iconst C 0 dL_law_406 (by decide) ?_
  refine gl_out C dL_law_407 ?_
  refine gl_iload C 0 dL_law_408 rfl ?_
  refine gl_i2l C dL_law_410 ?_
  exact gl_lcmpeq C 417 dL_law_411 dL_law_412 (by decide) (fun _ => kend) (fun c3 => absurd (hq2 c2) c3)
theorem lc_2 (C : lx_Cx p l s m b c meth L xs D K E0 mo ao) {o : Nat} {I : Nat → CS → MS → Prop} (Sm : Sim (lB s) o I) {i : Int32} (hin : vp_in (i + 1) L ∧ vp_in (i + 2) L ∧ vp_in (i + 3) L ∧ vp_in (i + 4) L ∧ vp_in (i + 5) L ∧ vp_in (i + 6) L) {n : Nat} {S : CS} {t : MS} {ov : Nat → Int64} (h : I (n + 1) S t) (kk : ∀ (ov1 : Nat → Int64) (S1 : CS) (t1 : MS), I n S1 t1 → GL p l e s m b below meth c D K E0 mo ao Q S1 ov1 t1 3755 [(4, .int i), (3, .ref ao), (2, .ref mo), (1, .ref o), (0, .ref b)] []) : GL p l e s m b below meth c D K E0 mo ao Q S ov t 420 [(4, .int i), (3, .ref ao), (2, .ref mo), (1, .ref o), (0, .ref b)] [] := by
  refine gl_aloadn C 3 1 dL_law_420 rfl rfl ?_
  refine gl_aloadn C 4 0 dL_law_421 rfl rfl ?_
  refine gl_iload C 0 dL_law_422 rfl ?_
  refine gl_iconst C 1 dL_law_424 (by decide) ?_
  refine gl_iadd C dL_law_425 ?_
  refine gl_scr C hin.1 dL_law_426 ?_
  refine gl_aloadn C 4 0 dL_law_427 rfl rfl ?_
  refine gl_iload C 0 dL_law_428 rfl ?_
  refine gl_iconst C 2 dL_law_430 (by decide) ?_
  refine gl_iadd C dL_law_431 ?_
  refine gl_scr C hin.2.1 dL_law_432 ?_
  refine gl_aloadn C 1 3 dL_law_433 rfl rfl ?_
  obtain ⟨B1, hB, hw⟩ := Sm.setTempo n S t ov (xs (Int32.toNatClampNeg (i + 1))) (xs (Int32.toNatClampNeg (i + 2))) h
  refine gl_wrap C (y := yL_setTempo) (as := [.ref o, .int (xs (Int32.toNatClampNeg (i + 1))), .int (xs (Int32.toNatClampNeg (i + 2))), .ref ao]) B1 hB.1 hB.2 (by decide) (by decide) (k_setTempo l D K E0 B1 _ ao o (xs (Int32.toNatClampNeg (i + 1))) (xs (Int32.toNatClampNeg (i + 2))) S ov _ (Sm.kd _ _ _ h) hw) hl_setTempo rfl vw_192 kl_setTempo dL_law_434 (Nat.le_of_ble_eq_true rfl) (fun k ov1 S1 hp hz1 hz2 => ?_)
  have hp := hp hz1 hz2
  refine gl_istore C [(5, .int k), (4, .int i), (3, .ref ao), (2, .ref mo), (1, .ref o), (0, .ref b)] dL_law_437 (by decide) rfl ?_
  refine gl_aloadn C 3 2 dL_law_439 rfl rfl ?_
  refine gl_aloadn C 5 0 dL_law_440 rfl rfl ?_
  refine gl_iload C 1 dL_law_441 rfl ?_
  refine gl_iconst C 1 dL_law_443 (by decide) ?_
  refine gl_iadd C dL_law_444 ?_
  refine gl_scr C hin.1 dL_law_445 ?_
  refine gl_aloadn C 5 0 dL_law_446 rfl rfl ?_
  refine gl_iload C 1 dL_law_447 rfl ?_
  refine gl_iconst C 2 dL_law_449 (by decide) ?_
  refine gl_iadd C dL_law_450 ?_
  refine gl_scr C hin.2.1 dL_law_451 ?_
  refine gl_mod C (y := yX12_setTempo) (as := [.int (xs (Int32.toNatClampNeg (i + 1))), .int (xs (Int32.toNatClampNeg (i + 2)))]) (by decide) (by decide) (c_setTempo l D (K 0) (K 3) mo (m_ad mo) (xs (Int32.toNatClampNeg (i + 1))) (xs (Int32.toNatClampNeg (i + 2))) t _ hp) hy_setTempo rfl vq_194 cu_setTempo dL_law_452 (Nat.le_of_ble_eq_true rfl) (fun v t1 ns1 hq hns1 => ?_)
  obtain ⟨r, rfl, hq1, hq2, hI9⟩ := hq
  have hI9 := Sm.rs _ _ _ ns1 hI9 hns1
  refine gl_istore C [(6, .int r), (5, .int k), (4, .int i), (3, .ref ao), (2, .ref mo), (1, .ref o), (0, .ref b)] dL_law_455 (by decide) rfl ?_
  refine gl_aloadn C 4 2 dL_law_457 rfl rfl ?_
  refine gl_mod C (y := yX12_thrown) (as := []) (by decide) (by decide) (c_thrown l D (K 0) (K 3) mo (m_ad mo) t1) hy_thrown rfl vq_184 cu_thrown dL_law_458 (Nat.le_of_ble_eq_true rfl) (fun v t2 ns2 hq hns2 => ?_)
  obtain ⟨r2, rfl, rfl, rfl⟩ := hq
  have hI9 := Sm.rs _ _ _ ns2 hI9 hns2
  refine gl_iload C 1 dL_law_461 rfl ?_
  refine gl_icmp_eq C 468 dL_law_463 (by decide) (fun c1 => ?_) (fun c1 => absurd hq1 c1)
  refine gl_iload C 1 dL_law_468 rfl ?_
  have kend : GL p l e s m b below meth c D K E0 mo ao Q (rsz (rsz S1 (szC S1) ns1) (szC (rsz S1 (szC S1) ns1)) ns2) ov1 t1 485 [(6, .int r), (5, .int k), (4, .int i), (3, .ref ao), (2, .ref mo), (1, .ref o), (0, .ref b)] [] := by
    refine gl_goto C 3755 dL_law_485 (by decide) ?_
    refine gl_sub [2, 3, 4, 5, 6] rfl ?_
    exact kk _ _ _ hI9
  refine gl_if_ne C 485 dL_law_470 (by decide) (fun _ => kend) (fun c2 => ?_)
  refine gl_aloadn C 3 3 dL_law_473 rfl rfl ?_
  refine gl_iconst C 0 dL_law_474 (by decide) ?_
  refine gl_out C dL_law_475 ?_
  refine gl_iload C 0 dL_law_476 rfl ?_
  refine gl_i2l C dL_law_478 ?_
  exact gl_lcmpeq C 485 dL_law_479 dL_law_480 (by decide) (fun _ => kend) (fun c3 => absurd (hq2 c2) c3)
theorem lc_3 (C : lx_Cx p l s m b c meth L xs D K E0 mo ao) {o : Nat} {I : Nat → CS → MS → Prop} (Sm : Sim (lB s) o I) {i : Int32} (hin : vp_in (i + 1) L ∧ vp_in (i + 2) L ∧ vp_in (i + 3) L ∧ vp_in (i + 4) L ∧ vp_in (i + 5) L ∧ vp_in (i + 6) L) {n : Nat} {S : CS} {t : MS} {ov : Nat → Int64} (h : I (n + 1) S t) (kk : ∀ (ov1 : Nat → Int64) (S1 : CS) (t1 : MS), I n S1 t1 → GL p l e s m b below meth c D K E0 mo ao Q S1 ov1 t1 3755 [(4, .int i), (3, .ref ao), (2, .ref mo), (1, .ref o), (0, .ref b)] []) : GL p l e s m b below meth c D K E0 mo ao Q S ov t 488 [(4, .int i), (3, .ref ao), (2, .ref mo), (1, .ref o), (0, .ref b)] [] := by
  refine gl_aloadn C 3 1 dL_law_488 rfl rfl ?_
  obtain ⟨B1, hB, hw⟩ := Sm.bars n S t h
  refine gl_cls C (y := yX11_bars) (as := []) B1 hB.1 hB.2 (by decide) (by decide) (c_X11_bars l D K E0 B1 _ o S hw.1) hk_X11_bars rfl vl_L_195 kc_X11_bars (isC_of (Sm.kd _ _ _ h) (by decide)) dL_law_489 (Nat.le_of_ble_eq_true rfl) (fun v S1 hp hz1 hz2 => ?_)
  obtain ⟨k, rfl, rfl, rfl⟩ := hp
  have hp := hw.2 hz1 hz2
  refine gl_aloadn C 2 2 dL_law_492 rfl rfl ?_
  refine gl_mod C (y := yX12_bars) (as := []) (by decide) (by decide) (c_bars l D (K 0) (K 3) mo (m_ad mo) t _ hp) hy_bars rfl vq_198 cu_bars dL_law_493 (Nat.le_of_ble_eq_true rfl) (fun v t1 ns1 hq hns1 => ?_)
  obtain ⟨r, rfl, hq1, hI9⟩ := hq
  have hI9 := Sm.rs _ _ _ ns1 hI9 hns1
  refine gl_icmp_eq C 3755 dL_law_496 (by decide) (fun c1 => ?_) (fun c1 => absurd hq1 c1)
  exact kk _ _ _ hI9
theorem lc_4 (C : lx_Cx p l s m b c meth L xs D K E0 mo ao) {o : Nat} {I : Nat → CS → MS → Prop} (Sm : Sim (lB s) o I) {i : Int32} (hin : vp_in (i + 1) L ∧ vp_in (i + 2) L ∧ vp_in (i + 3) L ∧ vp_in (i + 4) L ∧ vp_in (i + 5) L ∧ vp_in (i + 6) L) {n : Nat} {S : CS} {t : MS} {ov : Nat → Int64} (h : I (n + 1) S t) (kk : ∀ (ov1 : Nat → Int64) (S1 : CS) (t1 : MS), I n S1 t1 → GL p l e s m b below meth c D K E0 mo ao Q S1 ov1 t1 3755 [(4, .int i), (3, .ref ao), (2, .ref mo), (1, .ref o), (0, .ref b)] []) : GL p l e s m b below meth c D K E0 mo ao Q S ov t 501 [(4, .int i), (3, .ref ao), (2, .ref mo), (1, .ref o), (0, .ref b)] [] := by
  refine gl_aloadn C 3 1 dL_law_501 rfl rfl ?_
  refine gl_aloadn C 4 0 dL_law_502 rfl rfl ?_
  refine gl_iload C 0 dL_law_503 rfl ?_
  refine gl_iconst C 1 dL_law_505 (by decide) ?_
  refine gl_iadd C dL_law_506 ?_
  refine gl_scr C hin.1 dL_law_507 ?_
  refine gl_aloadn C 1 3 dL_law_508 rfl rfl ?_
  obtain ⟨B1, hB, hw⟩ := Sm.length n S t ov (xs (Int32.toNatClampNeg (i + 1))) h
  refine gl_wrap C (y := yL_length) (as := [.ref o, .int (xs (Int32.toNatClampNeg (i + 1))), .ref ao]) B1 hB.1 hB.2 (by decide) (by decide) (k_length l D K E0 B1 _ ao o (xs (Int32.toNatClampNeg (i + 1))) S ov _ (Sm.kd _ _ _ h) hw) hl_length rfl vw_199 kl_length dL_law_509 (Nat.le_of_ble_eq_true rfl) (fun k ov1 S1 hp hz1 hz2 => ?_)
  have hp := hp hz1 hz2
  refine gl_istore C [(5, .int k), (4, .int i), (3, .ref ao), (2, .ref mo), (1, .ref o), (0, .ref b)] dL_law_512 (by decide) rfl ?_
  refine gl_aloadn C 3 2 dL_law_514 rfl rfl ?_
  refine gl_aloadn C 5 0 dL_law_515 rfl rfl ?_
  refine gl_iload C 1 dL_law_516 rfl ?_
  refine gl_iconst C 1 dL_law_518 (by decide) ?_
  refine gl_iadd C dL_law_519 ?_
  refine gl_scr C hin.1 dL_law_520 ?_
  refine gl_mod C (y := yX12_length) (as := [.int (xs (Int32.toNatClampNeg (i + 1)))]) (by decide) (by decide) (c_length l D (K 0) (K 3) mo (m_ad mo) (xs (Int32.toNatClampNeg (i + 1))) t _ hp) hy_length rfl vq_202 cu_length dL_law_521 (Nat.le_of_ble_eq_true rfl) (fun v t1 ns1 hq hns1 => ?_)
  obtain ⟨r, rfl, hq1, hq2, hI9⟩ := hq
  have hI9 := Sm.rs _ _ _ ns1 hI9 hns1
  refine gl_istore C [(6, .int r), (5, .int k), (4, .int i), (3, .ref ao), (2, .ref mo), (1, .ref o), (0, .ref b)] dL_law_524 (by decide) rfl ?_
  refine gl_aloadn C 4 2 dL_law_526 rfl rfl ?_
  refine gl_mod C (y := yX12_thrown) (as := []) (by decide) (by decide) (c_thrown l D (K 0) (K 3) mo (m_ad mo) t1) hy_thrown rfl vq_184 cu_thrown dL_law_527 (Nat.le_of_ble_eq_true rfl) (fun v t2 ns2 hq hns2 => ?_)
  obtain ⟨r2, rfl, rfl, rfl⟩ := hq
  have hI9 := Sm.rs _ _ _ ns2 hI9 hns2
  refine gl_iload C 1 dL_law_530 rfl ?_
  refine gl_icmp_eq C 537 dL_law_532 (by decide) (fun c1 => ?_) (fun c1 => absurd hq1 c1)
  refine gl_iload C 1 dL_law_537 rfl ?_
  have kend : GL p l e s m b below meth c D K E0 mo ao Q (rsz (rsz S1 (szC S1) ns1) (szC (rsz S1 (szC S1) ns1)) ns2) ov1 t1 554 [(6, .int r), (5, .int k), (4, .int i), (3, .ref ao), (2, .ref mo), (1, .ref o), (0, .ref b)] [] := by
    refine gl_goto C 3755 dL_law_554 (by decide) ?_
    refine gl_sub [2, 3, 4, 5, 6] rfl ?_
    exact kk _ _ _ hI9
  refine gl_if_ne C 554 dL_law_539 (by decide) (fun _ => kend) (fun c2 => ?_)
  refine gl_aloadn C 3 3 dL_law_542 rfl rfl ?_
  refine gl_iconst C 0 dL_law_543 (by decide) ?_
  refine gl_out C dL_law_544 ?_
  refine gl_iload C 0 dL_law_545 rfl ?_
  refine gl_i2l C dL_law_547 ?_
  exact gl_lcmpeq C 554 dL_law_548 dL_law_549 (by decide) (fun _ => kend) (fun c3 => absurd (hq2 c2) c3)
theorem lc_5 (C : lx_Cx p l s m b c meth L xs D K E0 mo ao) {o : Nat} {I : Nat → CS → MS → Prop} (Sm : Sim (lB s) o I) {i : Int32} (hin : vp_in (i + 1) L ∧ vp_in (i + 2) L ∧ vp_in (i + 3) L ∧ vp_in (i + 4) L ∧ vp_in (i + 5) L ∧ vp_in (i + 6) L) {n : Nat} {S : CS} {t : MS} {ov : Nat → Int64} (h : I (n + 1) S t) (kk : ∀ (ov1 : Nat → Int64) (S1 : CS) (t1 : MS), I n S1 t1 → GL p l e s m b below meth c D K E0 mo ao Q S1 ov1 t1 3755 [(4, .int i), (3, .ref ao), (2, .ref mo), (1, .ref o), (0, .ref b)] []) : GL p l e s m b below meth c D K E0 mo ao Q S ov t 557 [(4, .int i), (3, .ref ao), (2, .ref mo), (1, .ref o), (0, .ref b)] [] := by
  refine gl_aloadn C 3 1 dL_law_557 rfl rfl ?_
  refine gl_aloadn C 4 0 dL_law_558 rfl rfl ?_
  refine gl_iload C 0 dL_law_559 rfl ?_
  refine gl_iconst C 1 dL_law_561 (by decide) ?_
  refine gl_iadd C dL_law_562 ?_
  refine gl_scr C hin.1 dL_law_563 ?_
  refine gl_aloadn C 1 3 dL_law_564 rfl rfl ?_
  obtain ⟨B1, hB, hw⟩ := Sm.tempo n S t ov (xs (Int32.toNatClampNeg (i + 1))) h
  refine gl_wrap C (y := yL_tempo) (as := [.ref o, .int (xs (Int32.toNatClampNeg (i + 1))), .ref ao]) B1 hB.1 hB.2 (by decide) (by decide) (k_tempo l D K E0 B1 _ ao o (xs (Int32.toNatClampNeg (i + 1))) S ov _ (Sm.kd _ _ _ h) hw) hl_tempo rfl vw_203 kl_tempo dL_law_565 (Nat.le_of_ble_eq_true rfl) (fun k ov1 S1 hp hz1 hz2 => ?_)
  have hp := hp hz1 hz2
  refine gl_istore C [(5, .int k), (4, .int i), (3, .ref ao), (2, .ref mo), (1, .ref o), (0, .ref b)] dL_law_568 (by decide) rfl ?_
  refine gl_aloadn C 3 2 dL_law_570 rfl rfl ?_
  refine gl_aloadn C 5 0 dL_law_571 rfl rfl ?_
  refine gl_iload C 1 dL_law_572 rfl ?_
  refine gl_iconst C 1 dL_law_574 (by decide) ?_
  refine gl_iadd C dL_law_575 ?_
  refine gl_scr C hin.1 dL_law_576 ?_
  refine gl_mod C (y := yX12_tempo) (as := [.int (xs (Int32.toNatClampNeg (i + 1)))]) (by decide) (by decide) (c_tempo l D (K 0) (K 3) mo (m_ad mo) (xs (Int32.toNatClampNeg (i + 1))) t _ hp) hy_tempo rfl vq_205 cu_tempo dL_law_577 (Nat.le_of_ble_eq_true rfl) (fun v t1 ns1 hq hns1 => ?_)
  obtain ⟨r, rfl, hq1, hq2, hI9⟩ := hq
  have hI9 := Sm.rs _ _ _ ns1 hI9 hns1
  refine gl_istore C [(6, .int r), (5, .int k), (4, .int i), (3, .ref ao), (2, .ref mo), (1, .ref o), (0, .ref b)] dL_law_580 (by decide) rfl ?_
  refine gl_aloadn C 4 2 dL_law_582 rfl rfl ?_
  refine gl_mod C (y := yX12_thrown) (as := []) (by decide) (by decide) (c_thrown l D (K 0) (K 3) mo (m_ad mo) t1) hy_thrown rfl vq_184 cu_thrown dL_law_583 (Nat.le_of_ble_eq_true rfl) (fun v t2 ns2 hq hns2 => ?_)
  obtain ⟨r2, rfl, rfl, rfl⟩ := hq
  have hI9 := Sm.rs _ _ _ ns2 hI9 hns2
  refine gl_iload C 1 dL_law_586 rfl ?_
  refine gl_icmp_eq C 593 dL_law_588 (by decide) (fun c1 => ?_) (fun c1 => absurd hq1 c1)
  refine gl_iload C 1 dL_law_593 rfl ?_
  have kend : GL p l e s m b below meth c D K E0 mo ao Q (rsz (rsz S1 (szC S1) ns1) (szC (rsz S1 (szC S1) ns1)) ns2) ov1 t1 610 [(6, .int r), (5, .int k), (4, .int i), (3, .ref ao), (2, .ref mo), (1, .ref o), (0, .ref b)] [] := by
    refine gl_goto C 3755 dL_law_610 (by decide) ?_
    refine gl_sub [2, 3, 4, 5, 6] rfl ?_
    exact kk _ _ _ hI9
  refine gl_if_ne C 610 dL_law_595 (by decide) (fun _ => kend) (fun c2 => ?_)
  refine gl_aloadn C 3 3 dL_law_598 rfl rfl ?_
  refine gl_iconst C 0 dL_law_599 (by decide) ?_
  refine gl_out C dL_law_600 ?_
  refine gl_iload C 0 dL_law_601 rfl ?_
  refine gl_i2l C dL_law_603 ?_
  exact gl_lcmpeq C 610 dL_law_604 dL_law_605 (by decide) (fun _ => kend) (fun c3 => absurd (hq2 c2) c3)
theorem lc_6 (C : lx_Cx p l s m b c meth L xs D K E0 mo ao) {o : Nat} {I : Nat → CS → MS → Prop} (Sm : Sim (lB s) o I) {i : Int32} (hin : vp_in (i + 1) L ∧ vp_in (i + 2) L ∧ vp_in (i + 3) L ∧ vp_in (i + 4) L ∧ vp_in (i + 5) L ∧ vp_in (i + 6) L) {n : Nat} {S : CS} {t : MS} {ov : Nat → Int64} (h : I (n + 1) S t) (kk : ∀ (ov1 : Nat → Int64) (S1 : CS) (t1 : MS), I n S1 t1 → GL p l e s m b below meth c D K E0 mo ao Q S1 ov1 t1 3755 [(4, .int i), (3, .ref ao), (2, .ref mo), (1, .ref o), (0, .ref b)] []) : GL p l e s m b below meth c D K E0 mo ao Q S ov t 613 [(4, .int i), (3, .ref ao), (2, .ref mo), (1, .ref o), (0, .ref b)] [] := by
  refine gl_aloadn C 3 1 dL_law_613 rfl rfl ?_
  refine gl_aloadn C 4 0 dL_law_614 rfl rfl ?_
  refine gl_iload C 0 dL_law_615 rfl ?_
  refine gl_iconst C 1 dL_law_617 (by decide) ?_
  refine gl_iadd C dL_law_618 ?_
  refine gl_scr C hin.1 dL_law_619 ?_
  refine gl_aloadn C 1 3 dL_law_620 rfl rfl ?_
  obtain ⟨B1, hB, hw⟩ := Sm.time n S t ov (xs (Int32.toNatClampNeg (i + 1))) h
  refine gl_wrap C (y := yL_time) (as := [.ref o, .int (xs (Int32.toNatClampNeg (i + 1))), .ref ao]) B1 hB.1 hB.2 (by decide) (by decide) (k_time l D K E0 B1 _ ao o (xs (Int32.toNatClampNeg (i + 1))) S ov _ (Sm.kd _ _ _ h) hw) hl_time rfl vw_206 kl_time dL_law_621 (Nat.le_of_ble_eq_true rfl) (fun k ov1 S1 hp hz1 hz2 => ?_)
  have hp := hp hz1 hz2
  refine gl_istore C [(5, .int k), (4, .int i), (3, .ref ao), (2, .ref mo), (1, .ref o), (0, .ref b)] dL_law_624 (by decide) rfl ?_
  refine gl_aloadn C 3 2 dL_law_626 rfl rfl ?_
  refine gl_aloadn C 5 0 dL_law_627 rfl rfl ?_
  refine gl_iload C 1 dL_law_628 rfl ?_
  refine gl_iconst C 1 dL_law_630 (by decide) ?_
  refine gl_iadd C dL_law_631 ?_
  refine gl_scr C hin.1 dL_law_632 ?_
  refine gl_mod C (y := yX12_time) (as := [.int (xs (Int32.toNatClampNeg (i + 1)))]) (by decide) (by decide) (c_time l D (K 0) (K 3) mo (m_ad mo) (xs (Int32.toNatClampNeg (i + 1))) t _ hp) hy_time rfl vq_208 cu_time dL_law_633 (Nat.le_of_ble_eq_true rfl) (fun v t1 ns1 hq hns1 => ?_)
  obtain ⟨r, rfl, hq1, hq2, hI9⟩ := hq
  have hI9 := Sm.rs _ _ _ ns1 hI9 hns1
  refine gl_istore C [(6, .int r), (5, .int k), (4, .int i), (3, .ref ao), (2, .ref mo), (1, .ref o), (0, .ref b)] dL_law_636 (by decide) rfl ?_
  refine gl_aloadn C 4 2 dL_law_638 rfl rfl ?_
  refine gl_mod C (y := yX12_thrown) (as := []) (by decide) (by decide) (c_thrown l D (K 0) (K 3) mo (m_ad mo) t1) hy_thrown rfl vq_184 cu_thrown dL_law_639 (Nat.le_of_ble_eq_true rfl) (fun v t2 ns2 hq hns2 => ?_)
  obtain ⟨r2, rfl, rfl, rfl⟩ := hq
  have hI9 := Sm.rs _ _ _ ns2 hI9 hns2
  refine gl_iload C 1 dL_law_642 rfl ?_
  refine gl_icmp_eq C 649 dL_law_644 (by decide) (fun c1 => ?_) (fun c1 => absurd hq1 c1)
  refine gl_iload C 1 dL_law_649 rfl ?_
  have kend : GL p l e s m b below meth c D K E0 mo ao Q (rsz (rsz S1 (szC S1) ns1) (szC (rsz S1 (szC S1) ns1)) ns2) ov1 t1 666 [(6, .int r), (5, .int k), (4, .int i), (3, .ref ao), (2, .ref mo), (1, .ref o), (0, .ref b)] [] := by
    refine gl_goto C 3755 dL_law_666 (by decide) ?_
    refine gl_sub [2, 3, 4, 5, 6] rfl ?_
    exact kk _ _ _ hI9
  refine gl_if_ne C 666 dL_law_651 (by decide) (fun _ => kend) (fun c2 => ?_)
  refine gl_aloadn C 3 3 dL_law_654 rfl rfl ?_
  refine gl_iconst C 0 dL_law_655 (by decide) ?_
  refine gl_out C dL_law_656 ?_
  refine gl_iload C 0 dL_law_657 rfl ?_
  refine gl_i2l C dL_law_659 ?_
  exact gl_lcmpeq C 666 dL_law_660 dL_law_661 (by decide) (fun _ => kend) (fun c3 => absurd (hq2 c2) c3)
theorem lc_7 (C : lx_Cx p l s m b c meth L xs D K E0 mo ao) {o : Nat} {I : Nat → CS → MS → Prop} (Sm : Sim (lB s) o I) {i : Int32} (hin : vp_in (i + 1) L ∧ vp_in (i + 2) L ∧ vp_in (i + 3) L ∧ vp_in (i + 4) L ∧ vp_in (i + 5) L ∧ vp_in (i + 6) L) {n : Nat} {S : CS} {t : MS} {ov : Nat → Int64} (h : I (n + 1) S t) (kk : ∀ (ov1 : Nat → Int64) (S1 : CS) (t1 : MS), I n S1 t1 → GL p l e s m b below meth c D K E0 mo ao Q S1 ov1 t1 3755 [(4, .int i), (3, .ref ao), (2, .ref mo), (1, .ref o), (0, .ref b)] []) : GL p l e s m b below meth c D K E0 mo ao Q S ov t 669 [(4, .int i), (3, .ref ao), (2, .ref mo), (1, .ref o), (0, .ref b)] [] := by
  refine gl_aloadn C 3 1 dL_law_669 rfl rfl ?_
  refine gl_aloadn C 4 0 dL_law_670 rfl rfl ?_
  refine gl_iload C 0 dL_law_671 rfl ?_
  refine gl_iconst C 1 dL_law_673 (by decide) ?_
  refine gl_iadd C dL_law_674 ?_
  refine gl_scr C hin.1 dL_law_675 ?_
  refine gl_aloadn C 4 0 dL_law_676 rfl rfl ?_
  refine gl_iload C 0 dL_law_677 rfl ?_
  refine gl_iconst C 2 dL_law_679 (by decide) ?_
  refine gl_iadd C dL_law_680 ?_
  refine gl_scr C hin.2.1 dL_law_681 ?_
  refine gl_aloadn C 4 0 dL_law_682 rfl rfl ?_
  refine gl_iload C 0 dL_law_683 rfl ?_
  refine gl_iconst C 3 dL_law_685 (by decide) ?_
  refine gl_iadd C dL_law_686 ?_
  refine gl_scr C hin.2.2.1 dL_law_687 ?_
  refine gl_aloadn C 4 0 dL_law_688 rfl rfl ?_
  refine gl_iload C 0 dL_law_689 rfl ?_
  refine gl_iconst C 4 dL_law_691 (by decide) ?_
  refine gl_iadd C dL_law_692 ?_
  refine gl_scr C hin.2.2.2.1 dL_law_693 ?_
  refine gl_aloadn C 4 0 dL_law_694 rfl rfl ?_
  refine gl_iload C 0 dL_law_695 rfl ?_
  refine gl_iconst C 5 dL_law_697 (by decide) ?_
  refine gl_iadd C dL_law_698 ?_
  refine gl_scr C hin.2.2.2.2.1 dL_law_699 ?_
  refine gl_aloadn C 4 0 dL_law_700 rfl rfl ?_
  refine gl_iload C 0 dL_law_701 rfl ?_
  refine gl_bipush C 6 dL_law_703 (by decide) ?_
  refine gl_iadd C dL_law_705 ?_
  refine gl_scr C hin.2.2.2.2.2 dL_law_706 ?_
  refine gl_aloadn C 1 3 dL_law_707 rfl rfl ?_
  obtain ⟨B1, hB, hw⟩ := Sm.insert n S t ov (xs (Int32.toNatClampNeg (i + 1))) (xs (Int32.toNatClampNeg (i + 2))) (xs (Int32.toNatClampNeg (i + 3))) (xs (Int32.toNatClampNeg (i + 4))) (xs (Int32.toNatClampNeg (i + 5))) (xs (Int32.toNatClampNeg (i + 6))) h
  refine gl_wrap C (y := yL_insert) (as := [.ref o, .int (xs (Int32.toNatClampNeg (i + 1))), .int (xs (Int32.toNatClampNeg (i + 2))), .int (xs (Int32.toNatClampNeg (i + 3))), .int (xs (Int32.toNatClampNeg (i + 4))), .int (xs (Int32.toNatClampNeg (i + 5))), .int (xs (Int32.toNatClampNeg (i + 6))), .ref ao]) B1 hB.1 hB.2 (by decide) (by decide) (k_insert l D K E0 B1 _ ao o (xs (Int32.toNatClampNeg (i + 1))) (xs (Int32.toNatClampNeg (i + 2))) (xs (Int32.toNatClampNeg (i + 3))) (xs (Int32.toNatClampNeg (i + 4))) (xs (Int32.toNatClampNeg (i + 5))) (xs (Int32.toNatClampNeg (i + 6))) S ov _ (Sm.kd _ _ _ h) hw) hl_insert rfl vw_209 kl_insert dL_law_708 (Nat.le_of_ble_eq_true rfl) (fun k ov1 S1 hp hz1 hz2 => ?_)
  have hp := hp hz1 hz2
  refine gl_istore C [(5, .int k), (4, .int i), (3, .ref ao), (2, .ref mo), (1, .ref o), (0, .ref b)] dL_law_711 (by decide) rfl ?_
  refine gl_aloadn C 3 2 dL_law_713 rfl rfl ?_
  refine gl_aloadn C 5 0 dL_law_714 rfl rfl ?_
  refine gl_iload C 1 dL_law_715 rfl ?_
  refine gl_iconst C 1 dL_law_717 (by decide) ?_
  refine gl_iadd C dL_law_718 ?_
  refine gl_scr C hin.1 dL_law_719 ?_
  refine gl_aloadn C 5 0 dL_law_720 rfl rfl ?_
  refine gl_iload C 1 dL_law_721 rfl ?_
  refine gl_iconst C 2 dL_law_723 (by decide) ?_
  refine gl_iadd C dL_law_724 ?_
  refine gl_scr C hin.2.1 dL_law_725 ?_
  refine gl_aloadn C 5 0 dL_law_726 rfl rfl ?_
  refine gl_iload C 1 dL_law_727 rfl ?_
  refine gl_iconst C 3 dL_law_729 (by decide) ?_
  refine gl_iadd C dL_law_730 ?_
  refine gl_scr C hin.2.2.1 dL_law_731 ?_
  refine gl_aloadn C 5 0 dL_law_732 rfl rfl ?_
  refine gl_iload C 1 dL_law_733 rfl ?_
  refine gl_iconst C 4 dL_law_735 (by decide) ?_
  refine gl_iadd C dL_law_736 ?_
  refine gl_scr C hin.2.2.2.1 dL_law_737 ?_
  refine gl_aloadn C 5 0 dL_law_738 rfl rfl ?_
  refine gl_iload C 1 dL_law_739 rfl ?_
  refine gl_iconst C 5 dL_law_741 (by decide) ?_
  refine gl_iadd C dL_law_742 ?_
  refine gl_scr C hin.2.2.2.2.1 dL_law_743 ?_
  refine gl_aloadn C 5 0 dL_law_744 rfl rfl ?_
  refine gl_iload C 1 dL_law_745 rfl ?_
  refine gl_bipush C 6 dL_law_747 (by decide) ?_
  refine gl_iadd C dL_law_749 ?_
  refine gl_scr C hin.2.2.2.2.2 dL_law_750 ?_
  refine gl_mod C (y := yX12_insert) (as := [.int (xs (Int32.toNatClampNeg (i + 1))), .int (xs (Int32.toNatClampNeg (i + 2))), .int (xs (Int32.toNatClampNeg (i + 3))), .int (xs (Int32.toNatClampNeg (i + 4))), .int (xs (Int32.toNatClampNeg (i + 5))), .int (xs (Int32.toNatClampNeg (i + 6)))]) (by decide) (by decide) (c_insert l D (K 0) (K 3) mo (m_ad mo) (xs (Int32.toNatClampNeg (i + 1))) (xs (Int32.toNatClampNeg (i + 2))) (xs (Int32.toNatClampNeg (i + 3))) (xs (Int32.toNatClampNeg (i + 4))) (xs (Int32.toNatClampNeg (i + 5))) (xs (Int32.toNatClampNeg (i + 6))) t _ hp) hy_insert rfl vq_212 cu_insert dL_law_751 (Nat.le_of_ble_eq_true rfl) (fun v t1 ns1 hq hns1 => ?_)
  obtain ⟨r, rfl, hq1, hq2, hI9⟩ := hq
  have hI9 := Sm.rs _ _ _ ns1 hI9 hns1
  refine gl_istore C [(6, .int r), (5, .int k), (4, .int i), (3, .ref ao), (2, .ref mo), (1, .ref o), (0, .ref b)] dL_law_754 (by decide) rfl ?_
  refine gl_aloadn C 4 2 dL_law_756 rfl rfl ?_
  refine gl_mod C (y := yX12_thrown) (as := []) (by decide) (by decide) (c_thrown l D (K 0) (K 3) mo (m_ad mo) t1) hy_thrown rfl vq_184 cu_thrown dL_law_757 (Nat.le_of_ble_eq_true rfl) (fun v t2 ns2 hq hns2 => ?_)
  obtain ⟨r2, rfl, rfl, rfl⟩ := hq
  have hI9 := Sm.rs _ _ _ ns2 hI9 hns2
  refine gl_iload C 1 dL_law_760 rfl ?_
  refine gl_icmp_eq C 767 dL_law_762 (by decide) (fun c1 => ?_) (fun c1 => absurd hq1 c1)
  refine gl_iload C 1 dL_law_767 rfl ?_
  have kend : GL p l e s m b below meth c D K E0 mo ao Q (rsz (rsz S1 (szC S1) ns1) (szC (rsz S1 (szC S1) ns1)) ns2) ov1 t1 784 [(6, .int r), (5, .int k), (4, .int i), (3, .ref ao), (2, .ref mo), (1, .ref o), (0, .ref b)] [] := by
    refine gl_goto C 3755 dL_law_784 (by decide) ?_
    refine gl_sub [2, 3, 4, 5, 6] rfl ?_
    exact kk _ _ _ hI9
  refine gl_if_ne C 784 dL_law_769 (by decide) (fun _ => kend) (fun c2 => ?_)
  refine gl_aloadn C 3 3 dL_law_772 rfl rfl ?_
  refine gl_iconst C 0 dL_law_773 (by decide) ?_
  refine gl_out C dL_law_774 ?_
  refine gl_iload C 0 dL_law_775 rfl ?_
  refine gl_i2l C dL_law_777 ?_
  exact gl_lcmpeq C 784 dL_law_778 dL_law_779 (by decide) (fun _ => kend) (fun c3 => absurd (hq2 c2) c3)
theorem lc_8 (C : lx_Cx p l s m b c meth L xs D K E0 mo ao) {o : Nat} {I : Nat → CS → MS → Prop} (Sm : Sim (lB s) o I) {i : Int32} (hin : vp_in (i + 1) L ∧ vp_in (i + 2) L ∧ vp_in (i + 3) L ∧ vp_in (i + 4) L ∧ vp_in (i + 5) L ∧ vp_in (i + 6) L) {n : Nat} {S : CS} {t : MS} {ov : Nat → Int64} (h : I (n + 1) S t) (kk : ∀ (ov1 : Nat → Int64) (S1 : CS) (t1 : MS), I n S1 t1 → GL p l e s m b below meth c D K E0 mo ao Q S1 ov1 t1 3755 [(4, .int i), (3, .ref ao), (2, .ref mo), (1, .ref o), (0, .ref b)] []) : GL p l e s m b below meth c D K E0 mo ao Q S ov t 787 [(4, .int i), (3, .ref ao), (2, .ref mo), (1, .ref o), (0, .ref b)] [] := by
  refine gl_aloadn C 3 1 dL_law_787 rfl rfl ?_
  refine gl_aloadn C 4 0 dL_law_788 rfl rfl ?_
  refine gl_iload C 0 dL_law_789 rfl ?_
  refine gl_iconst C 1 dL_law_791 (by decide) ?_
  refine gl_iadd C dL_law_792 ?_
  refine gl_scr C hin.1 dL_law_793 ?_
  refine gl_aloadn C 4 0 dL_law_794 rfl rfl ?_
  refine gl_iload C 0 dL_law_795 rfl ?_
  refine gl_iconst C 2 dL_law_797 (by decide) ?_
  refine gl_iadd C dL_law_798 ?_
  refine gl_scr C hin.2.1 dL_law_799 ?_
  refine gl_aloadn C 4 0 dL_law_800 rfl rfl ?_
  refine gl_iload C 0 dL_law_801 rfl ?_
  refine gl_iconst C 3 dL_law_803 (by decide) ?_
  refine gl_iadd C dL_law_804 ?_
  refine gl_scr C hin.2.2.1 dL_law_805 ?_
  refine gl_aloadn C 1 3 dL_law_806 rfl rfl ?_
  obtain ⟨B1, hB, hw⟩ := Sm.remove n S t ov (xs (Int32.toNatClampNeg (i + 1))) (xs (Int32.toNatClampNeg (i + 2))) (xs (Int32.toNatClampNeg (i + 3))) h
  refine gl_wrap C (y := yL_remove) (as := [.ref o, .int (xs (Int32.toNatClampNeg (i + 1))), .int (xs (Int32.toNatClampNeg (i + 2))), .int (xs (Int32.toNatClampNeg (i + 3))), .ref ao]) B1 hB.1 hB.2 (by decide) (by decide) (k_remove l D K E0 B1 _ ao o (xs (Int32.toNatClampNeg (i + 1))) (xs (Int32.toNatClampNeg (i + 2))) (xs (Int32.toNatClampNeg (i + 3))) S ov _ (Sm.kd _ _ _ h) hw) hl_remove rfl vw_213 kl_remove dL_law_807 (Nat.le_of_ble_eq_true rfl) (fun k ov1 S1 hp hz1 hz2 => ?_)
  have hp := hp hz1 hz2
  refine gl_istore C [(5, .int k), (4, .int i), (3, .ref ao), (2, .ref mo), (1, .ref o), (0, .ref b)] dL_law_810 (by decide) rfl ?_
  refine gl_aloadn C 3 2 dL_law_812 rfl rfl ?_
  refine gl_aloadn C 5 0 dL_law_813 rfl rfl ?_
  refine gl_iload C 1 dL_law_814 rfl ?_
  refine gl_iconst C 1 dL_law_816 (by decide) ?_
  refine gl_iadd C dL_law_817 ?_
  refine gl_scr C hin.1 dL_law_818 ?_
  refine gl_aloadn C 5 0 dL_law_819 rfl rfl ?_
  refine gl_iload C 1 dL_law_820 rfl ?_
  refine gl_iconst C 2 dL_law_822 (by decide) ?_
  refine gl_iadd C dL_law_823 ?_
  refine gl_scr C hin.2.1 dL_law_824 ?_
  refine gl_aloadn C 5 0 dL_law_825 rfl rfl ?_
  refine gl_iload C 1 dL_law_826 rfl ?_
  refine gl_iconst C 3 dL_law_828 (by decide) ?_
  refine gl_iadd C dL_law_829 ?_
  refine gl_scr C hin.2.2.1 dL_law_830 ?_
  refine gl_mod C (y := yX12_remove) (as := [.int (xs (Int32.toNatClampNeg (i + 1))), .int (xs (Int32.toNatClampNeg (i + 2))), .int (xs (Int32.toNatClampNeg (i + 3)))]) (by decide) (by decide) (c_remove l D (K 0) (K 3) mo (m_ad mo) (xs (Int32.toNatClampNeg (i + 1))) (xs (Int32.toNatClampNeg (i + 2))) (xs (Int32.toNatClampNeg (i + 3))) t _ hp) hy_remove rfl vq_215 cu_remove dL_law_831 (Nat.le_of_ble_eq_true rfl) (fun v t1 ns1 hq hns1 => ?_)
  obtain ⟨r, rfl, hq1, hq2, hI9⟩ := hq
  have hI9 := Sm.rs _ _ _ ns1 hI9 hns1
  refine gl_istore C [(6, .int r), (5, .int k), (4, .int i), (3, .ref ao), (2, .ref mo), (1, .ref o), (0, .ref b)] dL_law_834 (by decide) rfl ?_
  refine gl_aloadn C 4 2 dL_law_836 rfl rfl ?_
  refine gl_mod C (y := yX12_thrown) (as := []) (by decide) (by decide) (c_thrown l D (K 0) (K 3) mo (m_ad mo) t1) hy_thrown rfl vq_184 cu_thrown dL_law_837 (Nat.le_of_ble_eq_true rfl) (fun v t2 ns2 hq hns2 => ?_)
  obtain ⟨r2, rfl, rfl, rfl⟩ := hq
  have hI9 := Sm.rs _ _ _ ns2 hI9 hns2
  refine gl_iload C 1 dL_law_840 rfl ?_
  refine gl_icmp_eq C 847 dL_law_842 (by decide) (fun c1 => ?_) (fun c1 => absurd hq1 c1)
  refine gl_iload C 1 dL_law_847 rfl ?_
  have kend : GL p l e s m b below meth c D K E0 mo ao Q (rsz (rsz S1 (szC S1) ns1) (szC (rsz S1 (szC S1) ns1)) ns2) ov1 t1 864 [(6, .int r), (5, .int k), (4, .int i), (3, .ref ao), (2, .ref mo), (1, .ref o), (0, .ref b)] [] := by
    refine gl_goto C 3755 dL_law_864 (by decide) ?_
    refine gl_sub [2, 3, 4, 5, 6] rfl ?_
    exact kk _ _ _ hI9
  refine gl_if_ne C 864 dL_law_849 (by decide) (fun _ => kend) (fun c2 => ?_)
  refine gl_aloadn C 3 3 dL_law_852 rfl rfl ?_
  refine gl_iconst C 0 dL_law_853 (by decide) ?_
  refine gl_out C dL_law_854 ?_
  refine gl_iload C 0 dL_law_855 rfl ?_
  refine gl_i2l C dL_law_857 ?_
  exact gl_lcmpeq C 864 dL_law_858 dL_law_859 (by decide) (fun _ => kend) (fun c3 => absurd (hq2 c2) c3)
theorem lc_9 (C : lx_Cx p l s m b c meth L xs D K E0 mo ao) {o : Nat} {I : Nat → CS → MS → Prop} (Sm : Sim (lB s) o I) {i : Int32} (hin : vp_in (i + 1) L ∧ vp_in (i + 2) L ∧ vp_in (i + 3) L ∧ vp_in (i + 4) L ∧ vp_in (i + 5) L ∧ vp_in (i + 6) L) {n : Nat} {S : CS} {t : MS} {ov : Nat → Int64} (h : I (n + 1) S t) (kk : ∀ (ov1 : Nat → Int64) (S1 : CS) (t1 : MS), I n S1 t1 → GL p l e s m b below meth c D K E0 mo ao Q S1 ov1 t1 3755 [(4, .int i), (3, .ref ao), (2, .ref mo), (1, .ref o), (0, .ref b)] []) : GL p l e s m b below meth c D K E0 mo ao Q S ov t 867 [(4, .int i), (3, .ref ao), (2, .ref mo), (1, .ref o), (0, .ref b)] [] := by
  refine gl_aloadn C 3 1 dL_law_867 rfl rfl ?_
  refine gl_aloadn C 4 0 dL_law_868 rfl rfl ?_
  refine gl_iload C 0 dL_law_869 rfl ?_
  refine gl_iconst C 1 dL_law_871 (by decide) ?_
  refine gl_iadd C dL_law_872 ?_
  refine gl_scr C hin.1 dL_law_873 ?_
  refine gl_aloadn C 4 0 dL_law_874 rfl rfl ?_
  refine gl_iload C 0 dL_law_875 rfl ?_
  refine gl_iconst C 2 dL_law_877 (by decide) ?_
  refine gl_iadd C dL_law_878 ?_
  refine gl_scr C hin.2.1 dL_law_879 ?_
  refine gl_aloadn C 4 0 dL_law_880 rfl rfl ?_
  refine gl_iload C 0 dL_law_881 rfl ?_
  refine gl_iconst C 3 dL_law_883 (by decide) ?_
  refine gl_iadd C dL_law_884 ?_
  refine gl_scr C hin.2.2.1 dL_law_885 ?_
  refine gl_aloadn C 4 0 dL_law_886 rfl rfl ?_
  refine gl_iload C 0 dL_law_887 rfl ?_
  refine gl_iconst C 4 dL_law_889 (by decide) ?_
  refine gl_iadd C dL_law_890 ?_
  refine gl_scr C hin.2.2.2.1 dL_law_891 ?_
  refine gl_aloadn C 1 3 dL_law_892 rfl rfl ?_
  obtain ⟨B1, hB, hw⟩ := Sm.setPitch n S t ov (xs (Int32.toNatClampNeg (i + 1))) (xs (Int32.toNatClampNeg (i + 2))) (xs (Int32.toNatClampNeg (i + 3))) (xs (Int32.toNatClampNeg (i + 4))) h
  refine gl_wrap C (y := yL_setPitch) (as := [.ref o, .int (xs (Int32.toNatClampNeg (i + 1))), .int (xs (Int32.toNatClampNeg (i + 2))), .int (xs (Int32.toNatClampNeg (i + 3))), .int (xs (Int32.toNatClampNeg (i + 4))), .ref ao]) B1 hB.1 hB.2 (by decide) (by decide) (k_setPitch l D K E0 B1 _ ao o (xs (Int32.toNatClampNeg (i + 1))) (xs (Int32.toNatClampNeg (i + 2))) (xs (Int32.toNatClampNeg (i + 3))) (xs (Int32.toNatClampNeg (i + 4))) S ov _ (Sm.kd _ _ _ h) hw) hl_setPitch rfl vw_216 kl_setPitch dL_law_893 (Nat.le_of_ble_eq_true rfl) (fun k ov1 S1 hp hz1 hz2 => ?_)
  have hp := hp hz1 hz2
  refine gl_istore C [(5, .int k), (4, .int i), (3, .ref ao), (2, .ref mo), (1, .ref o), (0, .ref b)] dL_law_896 (by decide) rfl ?_
  refine gl_aloadn C 3 2 dL_law_898 rfl rfl ?_
  refine gl_aloadn C 5 0 dL_law_899 rfl rfl ?_
  refine gl_iload C 1 dL_law_900 rfl ?_
  refine gl_iconst C 1 dL_law_902 (by decide) ?_
  refine gl_iadd C dL_law_903 ?_
  refine gl_scr C hin.1 dL_law_904 ?_
  refine gl_aloadn C 5 0 dL_law_905 rfl rfl ?_
  refine gl_iload C 1 dL_law_906 rfl ?_
  refine gl_iconst C 2 dL_law_908 (by decide) ?_
  refine gl_iadd C dL_law_909 ?_
  refine gl_scr C hin.2.1 dL_law_910 ?_
  refine gl_aloadn C 5 0 dL_law_911 rfl rfl ?_
  refine gl_iload C 1 dL_law_912 rfl ?_
  refine gl_iconst C 3 dL_law_914 (by decide) ?_
  refine gl_iadd C dL_law_915 ?_
  refine gl_scr C hin.2.2.1 dL_law_916 ?_
  refine gl_aloadn C 5 0 dL_law_917 rfl rfl ?_
  refine gl_iload C 1 dL_law_918 rfl ?_
  refine gl_iconst C 4 dL_law_920 (by decide) ?_
  refine gl_iadd C dL_law_921 ?_
  refine gl_scr C hin.2.2.2.1 dL_law_922 ?_
  refine gl_mod C (y := yX12_setPitch) (as := [.int (xs (Int32.toNatClampNeg (i + 1))), .int (xs (Int32.toNatClampNeg (i + 2))), .int (xs (Int32.toNatClampNeg (i + 3))), .int (xs (Int32.toNatClampNeg (i + 4)))]) (by decide) (by decide) (c_setPitch l D (K 0) (K 3) mo (m_ad mo) (xs (Int32.toNatClampNeg (i + 1))) (xs (Int32.toNatClampNeg (i + 2))) (xs (Int32.toNatClampNeg (i + 3))) (xs (Int32.toNatClampNeg (i + 4))) t _ hp) hy_setPitch rfl vq_219 cu_setPitch dL_law_923 (Nat.le_of_ble_eq_true rfl) (fun v t1 ns1 hq hns1 => ?_)
  obtain ⟨r, rfl, hq1, hq2, hI9⟩ := hq
  have hI9 := Sm.rs _ _ _ ns1 hI9 hns1
  refine gl_istore C [(6, .int r), (5, .int k), (4, .int i), (3, .ref ao), (2, .ref mo), (1, .ref o), (0, .ref b)] dL_law_926 (by decide) rfl ?_
  refine gl_aloadn C 4 2 dL_law_928 rfl rfl ?_
  refine gl_mod C (y := yX12_thrown) (as := []) (by decide) (by decide) (c_thrown l D (K 0) (K 3) mo (m_ad mo) t1) hy_thrown rfl vq_184 cu_thrown dL_law_929 (Nat.le_of_ble_eq_true rfl) (fun v t2 ns2 hq hns2 => ?_)
  obtain ⟨r2, rfl, rfl, rfl⟩ := hq
  have hI9 := Sm.rs _ _ _ ns2 hI9 hns2
  refine gl_iload C 1 dL_law_932 rfl ?_
  refine gl_icmp_eq C 939 dL_law_934 (by decide) (fun c1 => ?_) (fun c1 => absurd hq1 c1)
  refine gl_iload C 1 dL_law_939 rfl ?_
  have kend : GL p l e s m b below meth c D K E0 mo ao Q (rsz (rsz S1 (szC S1) ns1) (szC (rsz S1 (szC S1) ns1)) ns2) ov1 t1 956 [(6, .int r), (5, .int k), (4, .int i), (3, .ref ao), (2, .ref mo), (1, .ref o), (0, .ref b)] [] := by
    refine gl_goto C 3755 dL_law_956 (by decide) ?_
    refine gl_sub [2, 3, 4, 5, 6] rfl ?_
    exact kk _ _ _ hI9
  refine gl_if_ne C 956 dL_law_941 (by decide) (fun _ => kend) (fun c2 => ?_)
  refine gl_aloadn C 3 3 dL_law_944 rfl rfl ?_
  refine gl_iconst C 0 dL_law_945 (by decide) ?_
  refine gl_out C dL_law_946 ?_
  refine gl_iload C 0 dL_law_947 rfl ?_
  refine gl_i2l C dL_law_949 ?_
  exact gl_lcmpeq C 956 dL_law_950 dL_law_951 (by decide) (fun _ => kend) (fun c3 => absurd (hq2 c2) c3)
theorem lc_10 (C : lx_Cx p l s m b c meth L xs D K E0 mo ao) {o : Nat} {I : Nat → CS → MS → Prop} (Sm : Sim (lB s) o I) {i : Int32} (hin : vp_in (i + 1) L ∧ vp_in (i + 2) L ∧ vp_in (i + 3) L ∧ vp_in (i + 4) L ∧ vp_in (i + 5) L ∧ vp_in (i + 6) L) {n : Nat} {S : CS} {t : MS} {ov : Nat → Int64} (h : I (n + 1) S t) (kk : ∀ (ov1 : Nat → Int64) (S1 : CS) (t1 : MS), I n S1 t1 → GL p l e s m b below meth c D K E0 mo ao Q S1 ov1 t1 3755 [(4, .int i), (3, .ref ao), (2, .ref mo), (1, .ref o), (0, .ref b)] []) : GL p l e s m b below meth c D K E0 mo ao Q S ov t 959 [(4, .int i), (3, .ref ao), (2, .ref mo), (1, .ref o), (0, .ref b)] [] := by
  refine gl_aloadn C 3 1 dL_law_959 rfl rfl ?_
  refine gl_aloadn C 4 0 dL_law_960 rfl rfl ?_
  refine gl_iload C 0 dL_law_961 rfl ?_
  refine gl_iconst C 1 dL_law_963 (by decide) ?_
  refine gl_iadd C dL_law_964 ?_
  refine gl_scr C hin.1 dL_law_965 ?_
  refine gl_aloadn C 4 0 dL_law_966 rfl rfl ?_
  refine gl_iload C 0 dL_law_967 rfl ?_
  refine gl_iconst C 2 dL_law_969 (by decide) ?_
  refine gl_iadd C dL_law_970 ?_
  refine gl_scr C hin.2.1 dL_law_971 ?_
  refine gl_aloadn C 4 0 dL_law_972 rfl rfl ?_
  refine gl_iload C 0 dL_law_973 rfl ?_
  refine gl_iconst C 3 dL_law_975 (by decide) ?_
  refine gl_iadd C dL_law_976 ?_
  refine gl_scr C hin.2.2.1 dL_law_977 ?_
  refine gl_aloadn C 4 0 dL_law_978 rfl rfl ?_
  refine gl_iload C 0 dL_law_979 rfl ?_
  refine gl_iconst C 4 dL_law_981 (by decide) ?_
  refine gl_iadd C dL_law_982 ?_
  refine gl_scr C hin.2.2.2.1 dL_law_983 ?_
  refine gl_bool C dL_law_984 dL_law_987 dL_law_988 dL_law_991 ?_
  refine gl_aloadn C 1 3 dL_law_992 rfl rfl ?_
  obtain ⟨B1, hB, hw⟩ := Sm.setTie n S t ov (xs (Int32.toNatClampNeg (i + 1))) (xs (Int32.toNatClampNeg (i + 2))) (xs (Int32.toNatClampNeg (i + 3))) (lbo (xs (Int32.toNatClampNeg (i + 4)))) h (lbo_gb _)
  refine gl_wrap C (y := yL_setTie) (as := [.ref o, .int (xs (Int32.toNatClampNeg (i + 1))), .int (xs (Int32.toNatClampNeg (i + 2))), .int (xs (Int32.toNatClampNeg (i + 3))), .int (lbo (xs (Int32.toNatClampNeg (i + 4)))), .ref ao]) B1 hB.1 hB.2 (by decide) (by decide) (k_setTie l D K E0 B1 _ ao o (xs (Int32.toNatClampNeg (i + 1))) (xs (Int32.toNatClampNeg (i + 2))) (xs (Int32.toNatClampNeg (i + 3))) (lbo (xs (Int32.toNatClampNeg (i + 4)))) S ov _ (Sm.kd _ _ _ h) hw) hl_setTie rfl vw_220 kl_setTie dL_law_993 (Nat.le_of_ble_eq_true rfl) (fun k ov1 S1 hp hz1 hz2 => ?_)
  have hp := hp hz1 hz2
  refine gl_istore C [(5, .int k), (4, .int i), (3, .ref ao), (2, .ref mo), (1, .ref o), (0, .ref b)] dL_law_996 (by decide) rfl ?_
  refine gl_aloadn C 3 2 dL_law_998 rfl rfl ?_
  refine gl_aloadn C 5 0 dL_law_999 rfl rfl ?_
  refine gl_iload C 1 dL_law_1000 rfl ?_
  refine gl_iconst C 1 dL_law_1002 (by decide) ?_
  refine gl_iadd C dL_law_1003 ?_
  refine gl_scr C hin.1 dL_law_1004 ?_
  refine gl_aloadn C 5 0 dL_law_1005 rfl rfl ?_
  refine gl_iload C 1 dL_law_1006 rfl ?_
  refine gl_iconst C 2 dL_law_1008 (by decide) ?_
  refine gl_iadd C dL_law_1009 ?_
  refine gl_scr C hin.2.1 dL_law_1010 ?_
  refine gl_aloadn C 5 0 dL_law_1011 rfl rfl ?_
  refine gl_iload C 1 dL_law_1012 rfl ?_
  refine gl_iconst C 3 dL_law_1014 (by decide) ?_
  refine gl_iadd C dL_law_1015 ?_
  refine gl_scr C hin.2.2.1 dL_law_1016 ?_
  refine gl_aloadn C 5 0 dL_law_1017 rfl rfl ?_
  refine gl_iload C 1 dL_law_1018 rfl ?_
  refine gl_iconst C 4 dL_law_1020 (by decide) ?_
  refine gl_iadd C dL_law_1021 ?_
  refine gl_scr C hin.2.2.2.1 dL_law_1022 ?_
  refine gl_bool C dL_law_1023 dL_law_1026 dL_law_1027 dL_law_1030 ?_
  refine gl_mod C (y := yX12_setTie) (as := [.int (xs (Int32.toNatClampNeg (i + 1))), .int (xs (Int32.toNatClampNeg (i + 2))), .int (xs (Int32.toNatClampNeg (i + 3))), .int (lbo (xs (Int32.toNatClampNeg (i + 4))))]) (by decide) (by decide) (c_setTie l D (K 0) (K 3) mo (m_ad mo) (xs (Int32.toNatClampNeg (i + 1))) (xs (Int32.toNatClampNeg (i + 2))) (xs (Int32.toNatClampNeg (i + 3))) (lbo (xs (Int32.toNatClampNeg (i + 4)))) t _ hp) hy_setTie rfl vq_223 cu_setTie dL_law_1031 (Nat.le_of_ble_eq_true rfl) (fun v t1 ns1 hq hns1 => ?_)
  obtain ⟨r, rfl, hq1, hq2, hI9⟩ := hq
  have hI9 := Sm.rs _ _ _ ns1 hI9 hns1
  refine gl_istore C [(6, .int r), (5, .int k), (4, .int i), (3, .ref ao), (2, .ref mo), (1, .ref o), (0, .ref b)] dL_law_1034 (by decide) rfl ?_
  refine gl_aloadn C 4 2 dL_law_1036 rfl rfl ?_
  refine gl_mod C (y := yX12_thrown) (as := []) (by decide) (by decide) (c_thrown l D (K 0) (K 3) mo (m_ad mo) t1) hy_thrown rfl vq_184 cu_thrown dL_law_1037 (Nat.le_of_ble_eq_true rfl) (fun v t2 ns2 hq hns2 => ?_)
  obtain ⟨r2, rfl, rfl, rfl⟩ := hq
  have hI9 := Sm.rs _ _ _ ns2 hI9 hns2
  refine gl_iload C 1 dL_law_1040 rfl ?_
  refine gl_icmp_eq C 1047 dL_law_1042 (by decide) (fun c1 => ?_) (fun c1 => absurd hq1 c1)
  refine gl_iload C 1 dL_law_1047 rfl ?_
  have kend : GL p l e s m b below meth c D K E0 mo ao Q (rsz (rsz S1 (szC S1) ns1) (szC (rsz S1 (szC S1) ns1)) ns2) ov1 t1 1071 [(6, .int r), (5, .int k), (4, .int i), (3, .ref ao), (2, .ref mo), (1, .ref o), (0, .ref b)] [] := by
    refine gl_goto C 3755 dL_law_1071 (by decide) ?_
    refine gl_sub [2, 3, 4, 5, 6] rfl ?_
    exact kk _ _ _ hI9
  refine gl_if_ne C 1071 dL_law_1049 (by decide) (fun _ => kend) (fun c2 => ?_)
  refine gl_aloadn C 3 3 dL_law_1052 rfl rfl ?_
  refine gl_iconst C 0 dL_law_1053 (by decide) ?_
  refine gl_out C dL_law_1054 ?_
  refine gl_iload C 0 dL_law_1055 rfl ?_
  refine gl_boolL C dL_law_1057 dL_law_1060 dL_law_1061 dL_law_1064 ?_
  exact gl_lcmpeq C 1071 dL_law_1065 dL_law_1066 (by decide) (fun _ => kend) (fun c3 => absurd (hq2 c2) c3)
theorem lc_11 (C : lx_Cx p l s m b c meth L xs D K E0 mo ao) {o : Nat} {I : Nat → CS → MS → Prop} (Sm : Sim (lB s) o I) {i : Int32} (hin : vp_in (i + 1) L ∧ vp_in (i + 2) L ∧ vp_in (i + 3) L ∧ vp_in (i + 4) L ∧ vp_in (i + 5) L ∧ vp_in (i + 6) L) {n : Nat} {S : CS} {t : MS} {ov : Nat → Int64} (h : I (n + 1) S t) (kk : ∀ (ov1 : Nat → Int64) (S1 : CS) (t1 : MS), I n S1 t1 → GL p l e s m b below meth c D K E0 mo ao Q S1 ov1 t1 3755 [(4, .int i), (3, .ref ao), (2, .ref mo), (1, .ref o), (0, .ref b)] []) : GL p l e s m b below meth c D K E0 mo ao Q S ov t 1074 [(4, .int i), (3, .ref ao), (2, .ref mo), (1, .ref o), (0, .ref b)] [] := by
  refine gl_aloadn C 3 1 dL_law_1074 rfl rfl ?_
  refine gl_aloadn C 4 0 dL_law_1075 rfl rfl ?_
  refine gl_iload C 0 dL_law_1076 rfl ?_
  refine gl_iconst C 1 dL_law_1078 (by decide) ?_
  refine gl_iadd C dL_law_1079 ?_
  refine gl_scr C hin.1 dL_law_1080 ?_
  refine gl_aloadn C 4 0 dL_law_1081 rfl rfl ?_
  refine gl_iload C 0 dL_law_1082 rfl ?_
  refine gl_iconst C 2 dL_law_1084 (by decide) ?_
  refine gl_iadd C dL_law_1085 ?_
  refine gl_scr C hin.2.1 dL_law_1086 ?_
  refine gl_aloadn C 4 0 dL_law_1087 rfl rfl ?_
  refine gl_iload C 0 dL_law_1088 rfl ?_
  refine gl_iconst C 3 dL_law_1090 (by decide) ?_
  refine gl_iadd C dL_law_1091 ?_
  refine gl_scr C hin.2.2.1 dL_law_1092 ?_
  refine gl_aloadn C 4 0 dL_law_1093 rfl rfl ?_
  refine gl_iload C 0 dL_law_1094 rfl ?_
  refine gl_iconst C 4 dL_law_1096 (by decide) ?_
  refine gl_iadd C dL_law_1097 ?_
  refine gl_scr C hin.2.2.2.1 dL_law_1098 ?_
  refine gl_aloadn C 1 3 dL_law_1099 rfl rfl ?_
  obtain ⟨B1, hB, hw⟩ := Sm.setMark n S t ov (xs (Int32.toNatClampNeg (i + 1))) (xs (Int32.toNatClampNeg (i + 2))) (xs (Int32.toNatClampNeg (i + 3))) (xs (Int32.toNatClampNeg (i + 4))) h
  refine gl_wrap C (y := yL_setMark) (as := [.ref o, .int (xs (Int32.toNatClampNeg (i + 1))), .int (xs (Int32.toNatClampNeg (i + 2))), .int (xs (Int32.toNatClampNeg (i + 3))), .int (xs (Int32.toNatClampNeg (i + 4))), .ref ao]) B1 hB.1 hB.2 (by decide) (by decide) (k_setMark l D K E0 B1 _ ao o (xs (Int32.toNatClampNeg (i + 1))) (xs (Int32.toNatClampNeg (i + 2))) (xs (Int32.toNatClampNeg (i + 3))) (xs (Int32.toNatClampNeg (i + 4))) S ov _ (Sm.kd _ _ _ h) hw) hl_setMark rfl vw_224 kl_setMark dL_law_1100 (Nat.le_of_ble_eq_true rfl) (fun k ov1 S1 hp hz1 hz2 => ?_)
  have hp := hp hz1 hz2
  refine gl_istore C [(5, .int k), (4, .int i), (3, .ref ao), (2, .ref mo), (1, .ref o), (0, .ref b)] dL_law_1103 (by decide) rfl ?_
  refine gl_aloadn C 3 2 dL_law_1105 rfl rfl ?_
  refine gl_aloadn C 5 0 dL_law_1106 rfl rfl ?_
  refine gl_iload C 1 dL_law_1107 rfl ?_
  refine gl_iconst C 1 dL_law_1109 (by decide) ?_
  refine gl_iadd C dL_law_1110 ?_
  refine gl_scr C hin.1 dL_law_1111 ?_
  refine gl_aloadn C 5 0 dL_law_1112 rfl rfl ?_
  refine gl_iload C 1 dL_law_1113 rfl ?_
  refine gl_iconst C 2 dL_law_1115 (by decide) ?_
  refine gl_iadd C dL_law_1116 ?_
  refine gl_scr C hin.2.1 dL_law_1117 ?_
  refine gl_aloadn C 5 0 dL_law_1118 rfl rfl ?_
  refine gl_iload C 1 dL_law_1119 rfl ?_
  refine gl_iconst C 3 dL_law_1121 (by decide) ?_
  refine gl_iadd C dL_law_1122 ?_
  refine gl_scr C hin.2.2.1 dL_law_1123 ?_
  refine gl_aloadn C 5 0 dL_law_1124 rfl rfl ?_
  refine gl_iload C 1 dL_law_1125 rfl ?_
  refine gl_iconst C 4 dL_law_1127 (by decide) ?_
  refine gl_iadd C dL_law_1128 ?_
  refine gl_scr C hin.2.2.2.1 dL_law_1129 ?_
  refine gl_mod C (y := yX12_setMark) (as := [.int (xs (Int32.toNatClampNeg (i + 1))), .int (xs (Int32.toNatClampNeg (i + 2))), .int (xs (Int32.toNatClampNeg (i + 3))), .int (xs (Int32.toNatClampNeg (i + 4)))]) (by decide) (by decide) (c_setMark l D (K 0) (K 3) mo (m_ad mo) (xs (Int32.toNatClampNeg (i + 1))) (xs (Int32.toNatClampNeg (i + 2))) (xs (Int32.toNatClampNeg (i + 3))) (xs (Int32.toNatClampNeg (i + 4))) t _ hp) hy_setMark rfl vq_226 cu_setMark dL_law_1130 (Nat.le_of_ble_eq_true rfl) (fun v t1 ns1 hq hns1 => ?_)
  obtain ⟨r, rfl, hq1, hq2, hI9⟩ := hq
  have hI9 := Sm.rs _ _ _ ns1 hI9 hns1
  refine gl_istore C [(6, .int r), (5, .int k), (4, .int i), (3, .ref ao), (2, .ref mo), (1, .ref o), (0, .ref b)] dL_law_1133 (by decide) rfl ?_
  refine gl_aloadn C 4 2 dL_law_1135 rfl rfl ?_
  refine gl_mod C (y := yX12_thrown) (as := []) (by decide) (by decide) (c_thrown l D (K 0) (K 3) mo (m_ad mo) t1) hy_thrown rfl vq_184 cu_thrown dL_law_1136 (Nat.le_of_ble_eq_true rfl) (fun v t2 ns2 hq hns2 => ?_)
  obtain ⟨r2, rfl, rfl, rfl⟩ := hq
  have hI9 := Sm.rs _ _ _ ns2 hI9 hns2
  refine gl_iload C 1 dL_law_1139 rfl ?_
  refine gl_icmp_eq C 1146 dL_law_1141 (by decide) (fun c1 => ?_) (fun c1 => absurd hq1 c1)
  refine gl_iload C 1 dL_law_1146 rfl ?_
  have kend : GL p l e s m b below meth c D K E0 mo ao Q (rsz (rsz S1 (szC S1) ns1) (szC (rsz S1 (szC S1) ns1)) ns2) ov1 t1 1163 [(6, .int r), (5, .int k), (4, .int i), (3, .ref ao), (2, .ref mo), (1, .ref o), (0, .ref b)] [] := by
    refine gl_goto C 3755 dL_law_1163 (by decide) ?_
    refine gl_sub [2, 3, 4, 5, 6] rfl ?_
    exact kk _ _ _ hI9
  refine gl_if_ne C 1163 dL_law_1148 (by decide) (fun _ => kend) (fun c2 => ?_)
  refine gl_aloadn C 3 3 dL_law_1151 rfl rfl ?_
  refine gl_iconst C 0 dL_law_1152 (by decide) ?_
  refine gl_out C dL_law_1153 ?_
  refine gl_iload C 0 dL_law_1154 rfl ?_
  refine gl_i2l C dL_law_1156 ?_
  exact gl_lcmpeq C 1163 dL_law_1157 dL_law_1158 (by decide) (fun _ => kend) (fun c3 => absurd (hq2 c2) c3)
theorem lc_12 (C : lx_Cx p l s m b c meth L xs D K E0 mo ao) {o : Nat} {I : Nat → CS → MS → Prop} (Sm : Sim (lB s) o I) {i : Int32} (hin : vp_in (i + 1) L ∧ vp_in (i + 2) L ∧ vp_in (i + 3) L ∧ vp_in (i + 4) L ∧ vp_in (i + 5) L ∧ vp_in (i + 6) L) {n : Nat} {S : CS} {t : MS} {ov : Nat → Int64} (h : I (n + 1) S t) (kk : ∀ (ov1 : Nat → Int64) (S1 : CS) (t1 : MS), I n S1 t1 → GL p l e s m b below meth c D K E0 mo ao Q S1 ov1 t1 3755 [(4, .int i), (3, .ref ao), (2, .ref mo), (1, .ref o), (0, .ref b)] []) : GL p l e s m b below meth c D K E0 mo ao Q S ov t 1166 [(4, .int i), (3, .ref ao), (2, .ref mo), (1, .ref o), (0, .ref b)] [] := by
  refine gl_aloadn C 3 1 dL_law_1166 rfl rfl ?_
  refine gl_aloadn C 4 0 dL_law_1167 rfl rfl ?_
  refine gl_iload C 0 dL_law_1168 rfl ?_
  refine gl_iconst C 1 dL_law_1170 (by decide) ?_
  refine gl_iadd C dL_law_1171 ?_
  refine gl_scr C hin.1 dL_law_1172 ?_
  refine gl_aloadn C 4 0 dL_law_1173 rfl rfl ?_
  refine gl_iload C 0 dL_law_1174 rfl ?_
  refine gl_iconst C 2 dL_law_1176 (by decide) ?_
  refine gl_iadd C dL_law_1177 ?_
  refine gl_scr C hin.2.1 dL_law_1178 ?_
  refine gl_aloadn C 1 3 dL_law_1179 rfl rfl ?_
  obtain ⟨B1, hB, hw⟩ := Sm.transpose n S t ov (xs (Int32.toNatClampNeg (i + 1))) (xs (Int32.toNatClampNeg (i + 2))) h
  refine gl_wrap C (y := yL_transpose) (as := [.ref o, .int (xs (Int32.toNatClampNeg (i + 1))), .int (xs (Int32.toNatClampNeg (i + 2))), .ref ao]) B1 hB.1 hB.2 (by decide) (by decide) (k_transpose l D K E0 B1 _ ao o (xs (Int32.toNatClampNeg (i + 1))) (xs (Int32.toNatClampNeg (i + 2))) S ov _ (Sm.kd _ _ _ h) hw) hl_transpose rfl vw_227 kl_transpose dL_law_1180 (Nat.le_of_ble_eq_true rfl) (fun k ov1 S1 hp hz1 hz2 => ?_)
  have hp := hp hz1 hz2
  refine gl_istore C [(5, .int k), (4, .int i), (3, .ref ao), (2, .ref mo), (1, .ref o), (0, .ref b)] dL_law_1183 (by decide) rfl ?_
  refine gl_aloadn C 3 2 dL_law_1185 rfl rfl ?_
  refine gl_aloadn C 5 0 dL_law_1186 rfl rfl ?_
  refine gl_iload C 1 dL_law_1187 rfl ?_
  refine gl_iconst C 1 dL_law_1189 (by decide) ?_
  refine gl_iadd C dL_law_1190 ?_
  refine gl_scr C hin.1 dL_law_1191 ?_
  refine gl_aloadn C 5 0 dL_law_1192 rfl rfl ?_
  refine gl_iload C 1 dL_law_1193 rfl ?_
  refine gl_iconst C 2 dL_law_1195 (by decide) ?_
  refine gl_iadd C dL_law_1196 ?_
  refine gl_scr C hin.2.1 dL_law_1197 ?_
  refine gl_mod C (y := yX12_transpose) (as := [.int (xs (Int32.toNatClampNeg (i + 1))), .int (xs (Int32.toNatClampNeg (i + 2)))]) (by decide) (by decide) (c_transpose l D (K 0) (K 3) mo (m_ad mo) (xs (Int32.toNatClampNeg (i + 1))) (xs (Int32.toNatClampNeg (i + 2))) t _ hp) hy_transpose rfl vq_229 cu_transpose dL_law_1198 (Nat.le_of_ble_eq_true rfl) (fun v t1 ns1 hq hns1 => ?_)
  obtain ⟨r, rfl, hq1, hq2, hI9⟩ := hq
  have hI9 := Sm.rs _ _ _ ns1 hI9 hns1
  refine gl_istore C [(6, .int r), (5, .int k), (4, .int i), (3, .ref ao), (2, .ref mo), (1, .ref o), (0, .ref b)] dL_law_1201 (by decide) rfl ?_
  refine gl_aloadn C 4 2 dL_law_1203 rfl rfl ?_
  refine gl_mod C (y := yX12_thrown) (as := []) (by decide) (by decide) (c_thrown l D (K 0) (K 3) mo (m_ad mo) t1) hy_thrown rfl vq_184 cu_thrown dL_law_1204 (Nat.le_of_ble_eq_true rfl) (fun v t2 ns2 hq hns2 => ?_)
  obtain ⟨r2, rfl, rfl, rfl⟩ := hq
  have hI9 := Sm.rs _ _ _ ns2 hI9 hns2
  refine gl_iload C 1 dL_law_1207 rfl ?_
  refine gl_icmp_eq C 1214 dL_law_1209 (by decide) (fun c1 => ?_) (fun c1 => absurd hq1 c1)
  refine gl_iload C 1 dL_law_1214 rfl ?_
  have kend : GL p l e s m b below meth c D K E0 mo ao Q (rsz (rsz S1 (szC S1) ns1) (szC (rsz S1 (szC S1) ns1)) ns2) ov1 t1 1231 [(6, .int r), (5, .int k), (4, .int i), (3, .ref ao), (2, .ref mo), (1, .ref o), (0, .ref b)] [] := by
    refine gl_goto C 3755 dL_law_1231 (by decide) ?_
    refine gl_sub [2, 3, 4, 5, 6] rfl ?_
    exact kk _ _ _ hI9
  refine gl_if_ne C 1231 dL_law_1216 (by decide) (fun _ => kend) (fun c2 => ?_)
  refine gl_aloadn C 3 3 dL_law_1219 rfl rfl ?_
  refine gl_iconst C 0 dL_law_1220 (by decide) ?_
  refine gl_out C dL_law_1221 ?_
  refine gl_iload C 0 dL_law_1222 rfl ?_
  refine gl_i2l C dL_law_1224 ?_
  exact gl_lcmpeq C 1231 dL_law_1225 dL_law_1226 (by decide) (fun _ => kend) (fun c3 => absurd (hq2 c2) c3)
theorem lc_13 (C : lx_Cx p l s m b c meth L xs D K E0 mo ao) {o : Nat} {I : Nat → CS → MS → Prop} (Sm : Sim (lB s) o I) {i : Int32} (hin : vp_in (i + 1) L ∧ vp_in (i + 2) L ∧ vp_in (i + 3) L ∧ vp_in (i + 4) L ∧ vp_in (i + 5) L ∧ vp_in (i + 6) L) {n : Nat} {S : CS} {t : MS} {ov : Nat → Int64} (h : I (n + 1) S t) (kk : ∀ (ov1 : Nat → Int64) (S1 : CS) (t1 : MS), I n S1 t1 → GL p l e s m b below meth c D K E0 mo ao Q S1 ov1 t1 3755 [(4, .int i), (3, .ref ao), (2, .ref mo), (1, .ref o), (0, .ref b)] []) : GL p l e s m b below meth c D K E0 mo ao Q S ov t 1234 [(4, .int i), (3, .ref ao), (2, .ref mo), (1, .ref o), (0, .ref b)] [] := by
  refine gl_aloadn C 3 1 dL_law_1234 rfl rfl ?_
  refine gl_aloadn C 4 0 dL_law_1235 rfl rfl ?_
  refine gl_iload C 0 dL_law_1236 rfl ?_
  refine gl_iconst C 1 dL_law_1238 (by decide) ?_
  refine gl_iadd C dL_law_1239 ?_
  refine gl_scr C hin.1 dL_law_1240 ?_
  refine gl_aloadn C 4 0 dL_law_1241 rfl rfl ?_
  refine gl_iload C 0 dL_law_1242 rfl ?_
  refine gl_iconst C 2 dL_law_1244 (by decide) ?_
  refine gl_iadd C dL_law_1245 ?_
  refine gl_scr C hin.2.1 dL_law_1246 ?_
  refine gl_aloadn C 1 3 dL_law_1247 rfl rfl ?_
  obtain ⟨B1, hB, hw⟩ := Sm.events n S t ov (xs (Int32.toNatClampNeg (i + 1))) (xs (Int32.toNatClampNeg (i + 2))) h
  refine gl_wrap C (y := yL_events) (as := [.ref o, .int (xs (Int32.toNatClampNeg (i + 1))), .int (xs (Int32.toNatClampNeg (i + 2))), .ref ao]) B1 hB.1 hB.2 (by decide) (by decide) (k_events l D K E0 B1 _ ao o (xs (Int32.toNatClampNeg (i + 1))) (xs (Int32.toNatClampNeg (i + 2))) S ov _ (Sm.kd _ _ _ h) hw) hl_events rfl vw_230 kl_events dL_law_1248 (Nat.le_of_ble_eq_true rfl) (fun k ov1 S1 hp hz1 hz2 => ?_)
  have hp := hp hz1 hz2
  refine gl_istore C [(5, .int k), (4, .int i), (3, .ref ao), (2, .ref mo), (1, .ref o), (0, .ref b)] dL_law_1251 (by decide) rfl ?_
  refine gl_aloadn C 3 2 dL_law_1253 rfl rfl ?_
  refine gl_aloadn C 5 0 dL_law_1254 rfl rfl ?_
  refine gl_iload C 1 dL_law_1255 rfl ?_
  refine gl_iconst C 1 dL_law_1257 (by decide) ?_
  refine gl_iadd C dL_law_1258 ?_
  refine gl_scr C hin.1 dL_law_1259 ?_
  refine gl_aloadn C 5 0 dL_law_1260 rfl rfl ?_
  refine gl_iload C 1 dL_law_1261 rfl ?_
  refine gl_iconst C 2 dL_law_1263 (by decide) ?_
  refine gl_iadd C dL_law_1264 ?_
  refine gl_scr C hin.2.1 dL_law_1265 ?_
  refine gl_mod C (y := yX12_events) (as := [.int (xs (Int32.toNatClampNeg (i + 1))), .int (xs (Int32.toNatClampNeg (i + 2)))]) (by decide) (by decide) (c_events l D (K 0) (K 3) mo (m_ad mo) (xs (Int32.toNatClampNeg (i + 1))) (xs (Int32.toNatClampNeg (i + 2))) t _ hp) hy_events rfl vq_232 cu_events dL_law_1266 (Nat.le_of_ble_eq_true rfl) (fun v t1 ns1 hq hns1 => ?_)
  obtain ⟨r, rfl, hq1, hq2, hI9⟩ := hq
  have hI9 := Sm.rs _ _ _ ns1 hI9 hns1
  refine gl_istore C [(6, .int r), (5, .int k), (4, .int i), (3, .ref ao), (2, .ref mo), (1, .ref o), (0, .ref b)] dL_law_1269 (by decide) rfl ?_
  refine gl_aloadn C 4 2 dL_law_1271 rfl rfl ?_
  refine gl_mod C (y := yX12_thrown) (as := []) (by decide) (by decide) (c_thrown l D (K 0) (K 3) mo (m_ad mo) t1) hy_thrown rfl vq_184 cu_thrown dL_law_1272 (Nat.le_of_ble_eq_true rfl) (fun v t2 ns2 hq hns2 => ?_)
  obtain ⟨r2, rfl, rfl, rfl⟩ := hq
  have hI9 := Sm.rs _ _ _ ns2 hI9 hns2
  refine gl_iload C 1 dL_law_1275 rfl ?_
  refine gl_icmp_eq C 1282 dL_law_1277 (by decide) (fun c1 => ?_) (fun c1 => absurd hq1 c1)
  refine gl_iload C 1 dL_law_1282 rfl ?_
  have kend : GL p l e s m b below meth c D K E0 mo ao Q (rsz (rsz S1 (szC S1) ns1) (szC (rsz S1 (szC S1) ns1)) ns2) ov1 t1 1299 [(6, .int r), (5, .int k), (4, .int i), (3, .ref ao), (2, .ref mo), (1, .ref o), (0, .ref b)] [] := by
    refine gl_goto C 3755 dL_law_1299 (by decide) ?_
    refine gl_sub [2, 3, 4, 5, 6] rfl ?_
    exact kk _ _ _ hI9
  refine gl_if_ne C 1299 dL_law_1284 (by decide) (fun _ => kend) (fun c2 => ?_)
  refine gl_aloadn C 3 3 dL_law_1287 rfl rfl ?_
  refine gl_iconst C 0 dL_law_1288 (by decide) ?_
  refine gl_out C dL_law_1289 ?_
  refine gl_iload C 0 dL_law_1290 rfl ?_
  refine gl_i2l C dL_law_1292 ?_
  exact gl_lcmpeq C 1299 dL_law_1293 dL_law_1294 (by decide) (fun _ => kend) (fun c3 => absurd (hq2 c2) c3)
theorem lc_14 (C : lx_Cx p l s m b c meth L xs D K E0 mo ao) {o : Nat} {I : Nat → CS → MS → Prop} (Sm : Sim (lB s) o I) {i : Int32} (hin : vp_in (i + 1) L ∧ vp_in (i + 2) L ∧ vp_in (i + 3) L ∧ vp_in (i + 4) L ∧ vp_in (i + 5) L ∧ vp_in (i + 6) L) {n : Nat} {S : CS} {t : MS} {ov : Nat → Int64} (h : I (n + 1) S t) (kk : ∀ (ov1 : Nat → Int64) (S1 : CS) (t1 : MS), I n S1 t1 → GL p l e s m b below meth c D K E0 mo ao Q S1 ov1 t1 3755 [(4, .int i), (3, .ref ao), (2, .ref mo), (1, .ref o), (0, .ref b)] []) : GL p l e s m b below meth c D K E0 mo ao Q S ov t 1302 [(4, .int i), (3, .ref ao), (2, .ref mo), (1, .ref o), (0, .ref b)] [] := by
  refine gl_aloadn C 3 1 dL_law_1302 rfl rfl ?_
  refine gl_aloadn C 4 0 dL_law_1303 rfl rfl ?_
  refine gl_iload C 0 dL_law_1304 rfl ?_
  refine gl_iconst C 1 dL_law_1306 (by decide) ?_
  refine gl_iadd C dL_law_1307 ?_
  refine gl_scr C hin.1 dL_law_1308 ?_
  refine gl_aloadn C 4 0 dL_law_1309 rfl rfl ?_
  refine gl_iload C 0 dL_law_1310 rfl ?_
  refine gl_iconst C 2 dL_law_1312 (by decide) ?_
  refine gl_iadd C dL_law_1313 ?_
  refine gl_scr C hin.2.1 dL_law_1314 ?_
  refine gl_aloadn C 1 3 dL_law_1315 rfl rfl ?_
  obtain ⟨B1, hB, hw⟩ := Sm.left n S t ov (xs (Int32.toNatClampNeg (i + 1))) (xs (Int32.toNatClampNeg (i + 2))) h
  refine gl_wrap C (y := yL_left) (as := [.ref o, .int (xs (Int32.toNatClampNeg (i + 1))), .int (xs (Int32.toNatClampNeg (i + 2))), .ref ao]) B1 hB.1 hB.2 (by decide) (by decide) (k_left l D K E0 B1 _ ao o (xs (Int32.toNatClampNeg (i + 1))) (xs (Int32.toNatClampNeg (i + 2))) S ov _ (Sm.kd _ _ _ h) hw) hl_left rfl vw_233 kl_left dL_law_1316 (Nat.le_of_ble_eq_true rfl) (fun k ov1 S1 hp hz1 hz2 => ?_)
  have hp := hp hz1 hz2
  refine gl_istore C [(5, .int k), (4, .int i), (3, .ref ao), (2, .ref mo), (1, .ref o), (0, .ref b)] dL_law_1319 (by decide) rfl ?_
  refine gl_aloadn C 3 2 dL_law_1321 rfl rfl ?_
  refine gl_aloadn C 5 0 dL_law_1322 rfl rfl ?_
  refine gl_iload C 1 dL_law_1323 rfl ?_
  refine gl_iconst C 1 dL_law_1325 (by decide) ?_
  refine gl_iadd C dL_law_1326 ?_
  refine gl_scr C hin.1 dL_law_1327 ?_
  refine gl_aloadn C 5 0 dL_law_1328 rfl rfl ?_
  refine gl_iload C 1 dL_law_1329 rfl ?_
  refine gl_iconst C 2 dL_law_1331 (by decide) ?_
  refine gl_iadd C dL_law_1332 ?_
  refine gl_scr C hin.2.1 dL_law_1333 ?_
  refine gl_mod C (y := yX12_left) (as := [.int (xs (Int32.toNatClampNeg (i + 1))), .int (xs (Int32.toNatClampNeg (i + 2)))]) (by decide) (by decide) (c_left l D (K 0) (K 3) mo (m_ad mo) (xs (Int32.toNatClampNeg (i + 1))) (xs (Int32.toNatClampNeg (i + 2))) t _ hp) hy_left rfl vq_235 cu_left dL_law_1334 (Nat.le_of_ble_eq_true rfl) (fun v t1 ns1 hq hns1 => ?_)
  obtain ⟨r, rfl, hq1, hq2, hI9⟩ := hq
  have hI9 := Sm.rs _ _ _ ns1 hI9 hns1
  refine gl_istore C [(6, .int r), (5, .int k), (4, .int i), (3, .ref ao), (2, .ref mo), (1, .ref o), (0, .ref b)] dL_law_1337 (by decide) rfl ?_
  refine gl_aloadn C 4 2 dL_law_1339 rfl rfl ?_
  refine gl_mod C (y := yX12_thrown) (as := []) (by decide) (by decide) (c_thrown l D (K 0) (K 3) mo (m_ad mo) t1) hy_thrown rfl vq_184 cu_thrown dL_law_1340 (Nat.le_of_ble_eq_true rfl) (fun v t2 ns2 hq hns2 => ?_)
  obtain ⟨r2, rfl, rfl, rfl⟩ := hq
  have hI9 := Sm.rs _ _ _ ns2 hI9 hns2
  refine gl_iload C 1 dL_law_1343 rfl ?_
  refine gl_icmp_eq C 1350 dL_law_1345 (by decide) (fun c1 => ?_) (fun c1 => absurd hq1 c1)
  refine gl_iload C 1 dL_law_1350 rfl ?_
  have kend : GL p l e s m b below meth c D K E0 mo ao Q (rsz (rsz S1 (szC S1) ns1) (szC (rsz S1 (szC S1) ns1)) ns2) ov1 t1 1367 [(6, .int r), (5, .int k), (4, .int i), (3, .ref ao), (2, .ref mo), (1, .ref o), (0, .ref b)] [] := by
    refine gl_goto C 3755 dL_law_1367 (by decide) ?_
    refine gl_sub [2, 3, 4, 5, 6] rfl ?_
    exact kk _ _ _ hI9
  refine gl_if_ne C 1367 dL_law_1352 (by decide) (fun _ => kend) (fun c2 => ?_)
  refine gl_aloadn C 3 3 dL_law_1355 rfl rfl ?_
  refine gl_iconst C 0 dL_law_1356 (by decide) ?_
  refine gl_out C dL_law_1357 ?_
  refine gl_iload C 0 dL_law_1358 rfl ?_
  refine gl_i2l C dL_law_1360 ?_
  exact gl_lcmpeq C 1367 dL_law_1361 dL_law_1362 (by decide) (fun _ => kend) (fun c3 => absurd (hq2 c2) c3)
theorem lc_15 (C : lx_Cx p l s m b c meth L xs D K E0 mo ao) {o : Nat} {I : Nat → CS → MS → Prop} (Sm : Sim (lB s) o I) {i : Int32} (hin : vp_in (i + 1) L ∧ vp_in (i + 2) L ∧ vp_in (i + 3) L ∧ vp_in (i + 4) L ∧ vp_in (i + 5) L ∧ vp_in (i + 6) L) {n : Nat} {S : CS} {t : MS} {ov : Nat → Int64} (h : I (n + 1) S t) (kk : ∀ (ov1 : Nat → Int64) (S1 : CS) (t1 : MS), I n S1 t1 → GL p l e s m b below meth c D K E0 mo ao Q S1 ov1 t1 3755 [(4, .int i), (3, .ref ao), (2, .ref mo), (1, .ref o), (0, .ref b)] []) : GL p l e s m b below meth c D K E0 mo ao Q S ov t 1370 [(4, .int i), (3, .ref ao), (2, .ref mo), (1, .ref o), (0, .ref b)] [] := by
  refine gl_aloadn C 3 1 dL_law_1370 rfl rfl ?_
  refine gl_aloadn C 4 0 dL_law_1371 rfl rfl ?_
  refine gl_iload C 0 dL_law_1372 rfl ?_
  refine gl_iconst C 1 dL_law_1374 (by decide) ?_
  refine gl_iadd C dL_law_1375 ?_
  refine gl_scr C hin.1 dL_law_1376 ?_
  refine gl_aloadn C 4 0 dL_law_1377 rfl rfl ?_
  refine gl_iload C 0 dL_law_1378 rfl ?_
  refine gl_iconst C 2 dL_law_1380 (by decide) ?_
  refine gl_iadd C dL_law_1381 ?_
  refine gl_scr C hin.2.1 dL_law_1382 ?_
  refine gl_aloadn C 1 3 dL_law_1383 rfl rfl ?_
  obtain ⟨B1, hB, hw⟩ := Sm.isRight n S t ov (xs (Int32.toNatClampNeg (i + 1))) (xs (Int32.toNatClampNeg (i + 2))) h
  refine gl_wrap C (y := yL_isRight) (as := [.ref o, .int (xs (Int32.toNatClampNeg (i + 1))), .int (xs (Int32.toNatClampNeg (i + 2))), .ref ao]) B1 hB.1 hB.2 (by decide) (by decide) (k_isRight l D K E0 B1 _ ao o (xs (Int32.toNatClampNeg (i + 1))) (xs (Int32.toNatClampNeg (i + 2))) S ov _ (Sm.kd _ _ _ h) hw) hl_isRight rfl vw_236 kl_isRight dL_law_1384 (Nat.le_of_ble_eq_true rfl) (fun k ov1 S1 hp hz1 hz2 => ?_)
  have hp := hp hz1 hz2
  refine gl_istore C [(5, .int k), (4, .int i), (3, .ref ao), (2, .ref mo), (1, .ref o), (0, .ref b)] dL_law_1387 (by decide) rfl ?_
  refine gl_aloadn C 3 2 dL_law_1389 rfl rfl ?_
  refine gl_aloadn C 5 0 dL_law_1390 rfl rfl ?_
  refine gl_iload C 1 dL_law_1391 rfl ?_
  refine gl_iconst C 1 dL_law_1393 (by decide) ?_
  refine gl_iadd C dL_law_1394 ?_
  refine gl_scr C hin.1 dL_law_1395 ?_
  refine gl_aloadn C 5 0 dL_law_1396 rfl rfl ?_
  refine gl_iload C 1 dL_law_1397 rfl ?_
  refine gl_iconst C 2 dL_law_1399 (by decide) ?_
  refine gl_iadd C dL_law_1400 ?_
  refine gl_scr C hin.2.1 dL_law_1401 ?_
  refine gl_mod C (y := yX12_isRight) (as := [.int (xs (Int32.toNatClampNeg (i + 1))), .int (xs (Int32.toNatClampNeg (i + 2)))]) (by decide) (by decide) (c_isRight l D (K 0) (K 3) mo (m_ad mo) (xs (Int32.toNatClampNeg (i + 1))) (xs (Int32.toNatClampNeg (i + 2))) t _ hp) hy_isRight rfl vq_238 cu_isRight dL_law_1402 (Nat.le_of_ble_eq_true rfl) (fun v t1 ns1 hq hns1 => ?_)
  obtain ⟨r, rfl, hq1, hq2, hI9⟩ := hq
  have hI9 := Sm.rs _ _ _ ns1 hI9 hns1
  refine gl_istore C [(6, .int r), (5, .int k), (4, .int i), (3, .ref ao), (2, .ref mo), (1, .ref o), (0, .ref b)] dL_law_1405 (by decide) rfl ?_
  refine gl_aloadn C 4 2 dL_law_1407 rfl rfl ?_
  refine gl_mod C (y := yX12_thrown) (as := []) (by decide) (by decide) (c_thrown l D (K 0) (K 3) mo (m_ad mo) t1) hy_thrown rfl vq_184 cu_thrown dL_law_1408 (Nat.le_of_ble_eq_true rfl) (fun v t2 ns2 hq hns2 => ?_)
  obtain ⟨r2, rfl, rfl, rfl⟩ := hq
  have hI9 := Sm.rs _ _ _ ns2 hI9 hns2
  refine gl_iload C 1 dL_law_1411 rfl ?_
  refine gl_icmp_eq C 1418 dL_law_1413 (by decide) (fun c1 => ?_) (fun c1 => absurd hq1 c1)
  refine gl_iload C 1 dL_law_1418 rfl ?_
  have kend : GL p l e s m b below meth c D K E0 mo ao Q (rsz (rsz S1 (szC S1) ns1) (szC (rsz S1 (szC S1) ns1)) ns2) ov1 t1 1442 [(6, .int r), (5, .int k), (4, .int i), (3, .ref ao), (2, .ref mo), (1, .ref o), (0, .ref b)] [] := by
    refine gl_goto C 3755 dL_law_1442 (by decide) ?_
    refine gl_sub [2, 3, 4, 5, 6] rfl ?_
    exact kk _ _ _ hI9
  refine gl_if_ne C 1442 dL_law_1420 (by decide) (fun _ => kend) (fun c2 => ?_)
  refine gl_aloadn C 3 3 dL_law_1423 rfl rfl ?_
  refine gl_iconst C 0 dL_law_1424 (by decide) ?_
  refine gl_out C dL_law_1425 ?_
  refine gl_iload C 0 dL_law_1426 rfl ?_
  refine gl_boolL C dL_law_1428 dL_law_1431 dL_law_1432 dL_law_1435 ?_
  exact gl_lcmpeq C 1442 dL_law_1436 dL_law_1437 (by decide) (fun _ => kend) (fun c3 => absurd (hq2 c2) c3)
theorem lc_16 (C : lx_Cx p l s m b c meth L xs D K E0 mo ao) {o : Nat} {I : Nat → CS → MS → Prop} (Sm : Sim (lB s) o I) {i : Int32} (hin : vp_in (i + 1) L ∧ vp_in (i + 2) L ∧ vp_in (i + 3) L ∧ vp_in (i + 4) L ∧ vp_in (i + 5) L ∧ vp_in (i + 6) L) {n : Nat} {S : CS} {t : MS} {ov : Nat → Int64} (h : I (n + 1) S t) (kk : ∀ (ov1 : Nat → Int64) (S1 : CS) (t1 : MS), I n S1 t1 → GL p l e s m b below meth c D K E0 mo ao Q S1 ov1 t1 3755 [(4, .int i), (3, .ref ao), (2, .ref mo), (1, .ref o), (0, .ref b)] []) : GL p l e s m b below meth c D K E0 mo ao Q S ov t 1445 [(4, .int i), (3, .ref ao), (2, .ref mo), (1, .ref o), (0, .ref b)] [] := by
  refine gl_aloadn C 3 1 dL_law_1445 rfl rfl ?_
  refine gl_aloadn C 4 0 dL_law_1446 rfl rfl ?_
  refine gl_iload C 0 dL_law_1447 rfl ?_
  refine gl_iconst C 1 dL_law_1449 (by decide) ?_
  refine gl_iadd C dL_law_1450 ?_
  refine gl_scr C hin.1 dL_law_1451 ?_
  refine gl_aloadn C 4 0 dL_law_1452 rfl rfl ?_
  refine gl_iload C 0 dL_law_1453 rfl ?_
  refine gl_iconst C 2 dL_law_1455 (by decide) ?_
  refine gl_iadd C dL_law_1456 ?_
  refine gl_scr C hin.2.1 dL_law_1457 ?_
  refine gl_aloadn C 4 0 dL_law_1458 rfl rfl ?_
  refine gl_iload C 0 dL_law_1459 rfl ?_
  refine gl_iconst C 3 dL_law_1461 (by decide) ?_
  refine gl_iadd C dL_law_1462 ?_
  refine gl_scr C hin.2.2.1 dL_law_1463 ?_
  refine gl_aloadn C 1 3 dL_law_1464 rfl rfl ?_
  obtain ⟨B1, hB, hw⟩ := Sm.written n S t ov (xs (Int32.toNatClampNeg (i + 1))) (xs (Int32.toNatClampNeg (i + 2))) (xs (Int32.toNatClampNeg (i + 3))) h
  refine gl_wrap C (y := yL_written) (as := [.ref o, .int (xs (Int32.toNatClampNeg (i + 1))), .int (xs (Int32.toNatClampNeg (i + 2))), .int (xs (Int32.toNatClampNeg (i + 3))), .ref ao]) B1 hB.1 hB.2 (by decide) (by decide) (k_written l D K E0 B1 _ ao o (xs (Int32.toNatClampNeg (i + 1))) (xs (Int32.toNatClampNeg (i + 2))) (xs (Int32.toNatClampNeg (i + 3))) S ov _ (Sm.kd _ _ _ h) hw) hl_written rfl vw_239 kl_written dL_law_1465 (Nat.le_of_ble_eq_true rfl) (fun k ov1 S1 hp hz1 hz2 => ?_)
  have hp := hp hz1 hz2
  refine gl_istore C [(5, .int k), (4, .int i), (3, .ref ao), (2, .ref mo), (1, .ref o), (0, .ref b)] dL_law_1468 (by decide) rfl ?_
  refine gl_aloadn C 3 2 dL_law_1470 rfl rfl ?_
  refine gl_aloadn C 5 0 dL_law_1471 rfl rfl ?_
  refine gl_iload C 1 dL_law_1472 rfl ?_
  refine gl_iconst C 1 dL_law_1474 (by decide) ?_
  refine gl_iadd C dL_law_1475 ?_
  refine gl_scr C hin.1 dL_law_1476 ?_
  refine gl_aloadn C 5 0 dL_law_1477 rfl rfl ?_
  refine gl_iload C 1 dL_law_1478 rfl ?_
  refine gl_iconst C 2 dL_law_1480 (by decide) ?_
  refine gl_iadd C dL_law_1481 ?_
  refine gl_scr C hin.2.1 dL_law_1482 ?_
  refine gl_aloadn C 5 0 dL_law_1483 rfl rfl ?_
  refine gl_iload C 1 dL_law_1484 rfl ?_
  refine gl_iconst C 3 dL_law_1486 (by decide) ?_
  refine gl_iadd C dL_law_1487 ?_
  refine gl_scr C hin.2.2.1 dL_law_1488 ?_
  refine gl_mod C (y := yX12_written) (as := [.int (xs (Int32.toNatClampNeg (i + 1))), .int (xs (Int32.toNatClampNeg (i + 2))), .int (xs (Int32.toNatClampNeg (i + 3)))]) (by decide) (by decide) (c_written l D (K 0) (K 3) mo (m_ad mo) (xs (Int32.toNatClampNeg (i + 1))) (xs (Int32.toNatClampNeg (i + 2))) (xs (Int32.toNatClampNeg (i + 3))) t _ hp) hy_written rfl vq_241 cu_written dL_law_1489 (Nat.le_of_ble_eq_true rfl) (fun v t1 ns1 hq hns1 => ?_)
  obtain ⟨r, rfl, hq1, hq2, hI9⟩ := hq
  have hI9 := Sm.rs _ _ _ ns1 hI9 hns1
  refine gl_istore C [(6, .int r), (5, .int k), (4, .int i), (3, .ref ao), (2, .ref mo), (1, .ref o), (0, .ref b)] dL_law_1492 (by decide) rfl ?_
  refine gl_aloadn C 4 2 dL_law_1494 rfl rfl ?_
  refine gl_mod C (y := yX12_thrown) (as := []) (by decide) (by decide) (c_thrown l D (K 0) (K 3) mo (m_ad mo) t1) hy_thrown rfl vq_184 cu_thrown dL_law_1495 (Nat.le_of_ble_eq_true rfl) (fun v t2 ns2 hq hns2 => ?_)
  obtain ⟨r2, rfl, rfl, rfl⟩ := hq
  have hI9 := Sm.rs _ _ _ ns2 hI9 hns2
  refine gl_iload C 1 dL_law_1498 rfl ?_
  refine gl_icmp_eq C 1505 dL_law_1500 (by decide) (fun c1 => ?_) (fun c1 => absurd hq1 c1)
  refine gl_iload C 1 dL_law_1505 rfl ?_
  have kend : GL p l e s m b below meth c D K E0 mo ao Q (rsz (rsz S1 (szC S1) ns1) (szC (rsz S1 (szC S1) ns1)) ns2) ov1 t1 1522 [(6, .int r), (5, .int k), (4, .int i), (3, .ref ao), (2, .ref mo), (1, .ref o), (0, .ref b)] [] := by
    refine gl_goto C 3755 dL_law_1522 (by decide) ?_
    refine gl_sub [2, 3, 4, 5, 6] rfl ?_
    exact kk _ _ _ hI9
  refine gl_if_ne C 1522 dL_law_1507 (by decide) (fun _ => kend) (fun c2 => ?_)
  refine gl_aloadn C 3 3 dL_law_1510 rfl rfl ?_
  refine gl_iconst C 0 dL_law_1511 (by decide) ?_
  refine gl_out C dL_law_1512 ?_
  refine gl_iload C 0 dL_law_1513 rfl ?_
  refine gl_i2l C dL_law_1515 ?_
  exact gl_lcmpeq C 1522 dL_law_1516 dL_law_1517 (by decide) (fun _ => kend) (fun c3 => absurd (hq2 c2) c3)
theorem lc_17 (C : lx_Cx p l s m b c meth L xs D K E0 mo ao) {o : Nat} {I : Nat → CS → MS → Prop} (Sm : Sim (lB s) o I) {i : Int32} (hin : vp_in (i + 1) L ∧ vp_in (i + 2) L ∧ vp_in (i + 3) L ∧ vp_in (i + 4) L ∧ vp_in (i + 5) L ∧ vp_in (i + 6) L) {n : Nat} {S : CS} {t : MS} {ov : Nat → Int64} (h : I (n + 1) S t) (kk : ∀ (ov1 : Nat → Int64) (S1 : CS) (t1 : MS), I n S1 t1 → GL p l e s m b below meth c D K E0 mo ao Q S1 ov1 t1 3755 [(4, .int i), (3, .ref ao), (2, .ref mo), (1, .ref o), (0, .ref b)] []) : GL p l e s m b below meth c D K E0 mo ao Q S ov t 1525 [(4, .int i), (3, .ref ao), (2, .ref mo), (1, .ref o), (0, .ref b)] [] := by
  refine gl_aloadn C 3 1 dL_law_1525 rfl rfl ?_
  refine gl_aloadn C 4 0 dL_law_1526 rfl rfl ?_
  refine gl_iload C 0 dL_law_1527 rfl ?_
  refine gl_iconst C 1 dL_law_1529 (by decide) ?_
  refine gl_iadd C dL_law_1530 ?_
  refine gl_scr C hin.1 dL_law_1531 ?_
  refine gl_aloadn C 4 0 dL_law_1532 rfl rfl ?_
  refine gl_iload C 0 dL_law_1533 rfl ?_
  refine gl_iconst C 2 dL_law_1535 (by decide) ?_
  refine gl_iadd C dL_law_1536 ?_
  refine gl_scr C hin.2.1 dL_law_1537 ?_
  refine gl_aloadn C 4 0 dL_law_1538 rfl rfl ?_
  refine gl_iload C 0 dL_law_1539 rfl ?_
  refine gl_iconst C 3 dL_law_1541 (by decide) ?_
  refine gl_iadd C dL_law_1542 ?_
  refine gl_scr C hin.2.2.1 dL_law_1543 ?_
  refine gl_aloadn C 4 0 dL_law_1544 rfl rfl ?_
  refine gl_iload C 0 dL_law_1545 rfl ?_
  refine gl_iconst C 4 dL_law_1547 (by decide) ?_
  refine gl_iadd C dL_law_1548 ?_
  refine gl_scr C hin.2.2.2.1 dL_law_1549 ?_
  refine gl_aloadn C 4 0 dL_law_1550 rfl rfl ?_
  refine gl_iload C 0 dL_law_1551 rfl ?_
  refine gl_iconst C 5 dL_law_1553 (by decide) ?_
  refine gl_iadd C dL_law_1554 ?_
  refine gl_scr C hin.2.2.2.2.1 dL_law_1555 ?_
  refine gl_aloadn C 1 3 dL_law_1556 rfl rfl ?_
  obtain ⟨B1, hB, hw⟩ := Sm.addPhrase n S t ov (xs (Int32.toNatClampNeg (i + 1))) (xs (Int32.toNatClampNeg (i + 2))) (xs (Int32.toNatClampNeg (i + 3))) (xs (Int32.toNatClampNeg (i + 4))) (xs (Int32.toNatClampNeg (i + 5))) h
  refine gl_wrap C (y := yL_addPhrase) (as := [.ref o, .int (xs (Int32.toNatClampNeg (i + 1))), .int (xs (Int32.toNatClampNeg (i + 2))), .int (xs (Int32.toNatClampNeg (i + 3))), .int (xs (Int32.toNatClampNeg (i + 4))), .int (xs (Int32.toNatClampNeg (i + 5))), .ref ao]) B1 hB.1 hB.2 (by decide) (by decide) (k_addPhrase l D K E0 B1 _ ao o (xs (Int32.toNatClampNeg (i + 1))) (xs (Int32.toNatClampNeg (i + 2))) (xs (Int32.toNatClampNeg (i + 3))) (xs (Int32.toNatClampNeg (i + 4))) (xs (Int32.toNatClampNeg (i + 5))) S ov _ (Sm.kd _ _ _ h) hw) hl_addPhrase rfl vw_242 kl_addPhrase dL_law_1557 (Nat.le_of_ble_eq_true rfl) (fun k ov1 S1 hp hz1 hz2 => ?_)
  have hp := hp hz1 hz2
  refine gl_istore C [(5, .int k), (4, .int i), (3, .ref ao), (2, .ref mo), (1, .ref o), (0, .ref b)] dL_law_1560 (by decide) rfl ?_
  refine gl_aloadn C 3 2 dL_law_1562 rfl rfl ?_
  refine gl_aloadn C 5 0 dL_law_1563 rfl rfl ?_
  refine gl_iload C 1 dL_law_1564 rfl ?_
  refine gl_iconst C 1 dL_law_1566 (by decide) ?_
  refine gl_iadd C dL_law_1567 ?_
  refine gl_scr C hin.1 dL_law_1568 ?_
  refine gl_aloadn C 5 0 dL_law_1569 rfl rfl ?_
  refine gl_iload C 1 dL_law_1570 rfl ?_
  refine gl_iconst C 2 dL_law_1572 (by decide) ?_
  refine gl_iadd C dL_law_1573 ?_
  refine gl_scr C hin.2.1 dL_law_1574 ?_
  refine gl_aloadn C 5 0 dL_law_1575 rfl rfl ?_
  refine gl_iload C 1 dL_law_1576 rfl ?_
  refine gl_iconst C 3 dL_law_1578 (by decide) ?_
  refine gl_iadd C dL_law_1579 ?_
  refine gl_scr C hin.2.2.1 dL_law_1580 ?_
  refine gl_aloadn C 5 0 dL_law_1581 rfl rfl ?_
  refine gl_iload C 1 dL_law_1582 rfl ?_
  refine gl_iconst C 4 dL_law_1584 (by decide) ?_
  refine gl_iadd C dL_law_1585 ?_
  refine gl_scr C hin.2.2.2.1 dL_law_1586 ?_
  refine gl_aloadn C 5 0 dL_law_1587 rfl rfl ?_
  refine gl_iload C 1 dL_law_1588 rfl ?_
  refine gl_iconst C 5 dL_law_1590 (by decide) ?_
  refine gl_iadd C dL_law_1591 ?_
  refine gl_scr C hin.2.2.2.2.1 dL_law_1592 ?_
  refine gl_mod C (y := yX12_addPhrase) (as := [.int (xs (Int32.toNatClampNeg (i + 1))), .int (xs (Int32.toNatClampNeg (i + 2))), .int (xs (Int32.toNatClampNeg (i + 3))), .int (xs (Int32.toNatClampNeg (i + 4))), .int (xs (Int32.toNatClampNeg (i + 5)))]) (by decide) (by decide) (c_addPhrase l D (K 0) (K 3) mo (m_ad mo) (xs (Int32.toNatClampNeg (i + 1))) (xs (Int32.toNatClampNeg (i + 2))) (xs (Int32.toNatClampNeg (i + 3))) (xs (Int32.toNatClampNeg (i + 4))) (xs (Int32.toNatClampNeg (i + 5))) t _ hp) hy_addPhrase rfl vq_245 cu_addPhrase dL_law_1593 (Nat.le_of_ble_eq_true rfl) (fun v t1 ns1 hq hns1 => ?_)
  obtain ⟨r, rfl, hq1, hq2, hI9⟩ := hq
  have hI9 := Sm.rs _ _ _ ns1 hI9 hns1
  refine gl_istore C [(6, .int r), (5, .int k), (4, .int i), (3, .ref ao), (2, .ref mo), (1, .ref o), (0, .ref b)] dL_law_1596 (by decide) rfl ?_
  refine gl_aloadn C 4 2 dL_law_1598 rfl rfl ?_
  refine gl_mod C (y := yX12_thrown) (as := []) (by decide) (by decide) (c_thrown l D (K 0) (K 3) mo (m_ad mo) t1) hy_thrown rfl vq_184 cu_thrown dL_law_1599 (Nat.le_of_ble_eq_true rfl) (fun v t2 ns2 hq hns2 => ?_)
  obtain ⟨r2, rfl, rfl, rfl⟩ := hq
  have hI9 := Sm.rs _ _ _ ns2 hI9 hns2
  refine gl_iload C 1 dL_law_1602 rfl ?_
  refine gl_icmp_eq C 1609 dL_law_1604 (by decide) (fun c1 => ?_) (fun c1 => absurd hq1 c1)
  refine gl_iload C 1 dL_law_1609 rfl ?_
  have kend : GL p l e s m b below meth c D K E0 mo ao Q (rsz (rsz S1 (szC S1) ns1) (szC (rsz S1 (szC S1) ns1)) ns2) ov1 t1 1626 [(6, .int r), (5, .int k), (4, .int i), (3, .ref ao), (2, .ref mo), (1, .ref o), (0, .ref b)] [] := by
    refine gl_goto C 3755 dL_law_1626 (by decide) ?_
    refine gl_sub [2, 3, 4, 5, 6] rfl ?_
    exact kk _ _ _ hI9
  refine gl_if_ne C 1626 dL_law_1611 (by decide) (fun _ => kend) (fun c2 => ?_)
  refine gl_aloadn C 3 3 dL_law_1614 rfl rfl ?_
  refine gl_iconst C 0 dL_law_1615 (by decide) ?_
  refine gl_out C dL_law_1616 ?_
  refine gl_iload C 0 dL_law_1617 rfl ?_
  refine gl_i2l C dL_law_1619 ?_
  exact gl_lcmpeq C 1626 dL_law_1620 dL_law_1621 (by decide) (fun _ => kend) (fun c3 => absurd (hq2 c2) c3)
theorem lc_18 (C : lx_Cx p l s m b c meth L xs D K E0 mo ao) {o : Nat} {I : Nat → CS → MS → Prop} (Sm : Sim (lB s) o I) {i : Int32} (hin : vp_in (i + 1) L ∧ vp_in (i + 2) L ∧ vp_in (i + 3) L ∧ vp_in (i + 4) L ∧ vp_in (i + 5) L ∧ vp_in (i + 6) L) {n : Nat} {S : CS} {t : MS} {ov : Nat → Int64} (h : I (n + 1) S t) (kk : ∀ (ov1 : Nat → Int64) (S1 : CS) (t1 : MS), I n S1 t1 → GL p l e s m b below meth c D K E0 mo ao Q S1 ov1 t1 3755 [(4, .int i), (3, .ref ao), (2, .ref mo), (1, .ref o), (0, .ref b)] []) : GL p l e s m b below meth c D K E0 mo ao Q S ov t 1629 [(4, .int i), (3, .ref ao), (2, .ref mo), (1, .ref o), (0, .ref b)] [] := by
  refine gl_aloadn C 3 1 dL_law_1629 rfl rfl ?_
  refine gl_aloadn C 4 0 dL_law_1630 rfl rfl ?_
  refine gl_iload C 0 dL_law_1631 rfl ?_
  refine gl_iconst C 1 dL_law_1633 (by decide) ?_
  refine gl_iadd C dL_law_1634 ?_
  refine gl_scr C hin.1 dL_law_1635 ?_
  refine gl_aloadn C 1 3 dL_law_1636 rfl rfl ?_
  obtain ⟨B1, hB, hw⟩ := Sm.dropPhrase n S t ov (xs (Int32.toNatClampNeg (i + 1))) h
  refine gl_wrap C (y := yL_dropPhrase) (as := [.ref o, .int (xs (Int32.toNatClampNeg (i + 1))), .ref ao]) B1 hB.1 hB.2 (by decide) (by decide) (k_dropPhrase l D K E0 B1 _ ao o (xs (Int32.toNatClampNeg (i + 1))) S ov _ (Sm.kd _ _ _ h) hw) hl_dropPhrase rfl vw_246 kl_dropPhrase dL_law_1637 (Nat.le_of_ble_eq_true rfl) (fun k ov1 S1 hp hz1 hz2 => ?_)
  have hp := hp hz1 hz2
  refine gl_istore C [(5, .int k), (4, .int i), (3, .ref ao), (2, .ref mo), (1, .ref o), (0, .ref b)] dL_law_1640 (by decide) rfl ?_
  refine gl_aloadn C 3 2 dL_law_1642 rfl rfl ?_
  refine gl_aloadn C 5 0 dL_law_1643 rfl rfl ?_
  refine gl_iload C 1 dL_law_1644 rfl ?_
  refine gl_iconst C 1 dL_law_1646 (by decide) ?_
  refine gl_iadd C dL_law_1647 ?_
  refine gl_scr C hin.1 dL_law_1648 ?_
  refine gl_mod C (y := yX12_dropPhrase) (as := [.int (xs (Int32.toNatClampNeg (i + 1)))]) (by decide) (by decide) (c_dropPhrase l D (K 0) (K 3) mo (m_ad mo) (xs (Int32.toNatClampNeg (i + 1))) t _ hp) hy_dropPhrase rfl vq_248 cu_dropPhrase dL_law_1649 (Nat.le_of_ble_eq_true rfl) (fun v t1 ns1 hq hns1 => ?_)
  obtain ⟨r, rfl, hq1, hq2, hI9⟩ := hq
  have hI9 := Sm.rs _ _ _ ns1 hI9 hns1
  refine gl_istore C [(6, .int r), (5, .int k), (4, .int i), (3, .ref ao), (2, .ref mo), (1, .ref o), (0, .ref b)] dL_law_1652 (by decide) rfl ?_
  refine gl_aloadn C 4 2 dL_law_1654 rfl rfl ?_
  refine gl_mod C (y := yX12_thrown) (as := []) (by decide) (by decide) (c_thrown l D (K 0) (K 3) mo (m_ad mo) t1) hy_thrown rfl vq_184 cu_thrown dL_law_1655 (Nat.le_of_ble_eq_true rfl) (fun v t2 ns2 hq hns2 => ?_)
  obtain ⟨r2, rfl, rfl, rfl⟩ := hq
  have hI9 := Sm.rs _ _ _ ns2 hI9 hns2
  refine gl_iload C 1 dL_law_1658 rfl ?_
  refine gl_icmp_eq C 1665 dL_law_1660 (by decide) (fun c1 => ?_) (fun c1 => absurd hq1 c1)
  refine gl_iload C 1 dL_law_1665 rfl ?_
  have kend : GL p l e s m b below meth c D K E0 mo ao Q (rsz (rsz S1 (szC S1) ns1) (szC (rsz S1 (szC S1) ns1)) ns2) ov1 t1 1689 [(6, .int r), (5, .int k), (4, .int i), (3, .ref ao), (2, .ref mo), (1, .ref o), (0, .ref b)] [] := by
    refine gl_goto C 3755 dL_law_1689 (by decide) ?_
    refine gl_sub [2, 3, 4, 5, 6] rfl ?_
    exact kk _ _ _ hI9
  refine gl_if_ne C 1689 dL_law_1667 (by decide) (fun _ => kend) (fun c2 => ?_)
  refine gl_aloadn C 3 3 dL_law_1670 rfl rfl ?_
  refine gl_iconst C 0 dL_law_1671 (by decide) ?_
  refine gl_out C dL_law_1672 ?_
  refine gl_iload C 0 dL_law_1673 rfl ?_
  refine gl_boolL C dL_law_1675 dL_law_1678 dL_law_1679 dL_law_1682 ?_
  exact gl_lcmpeq C 1689 dL_law_1683 dL_law_1684 (by decide) (fun _ => kend) (fun c3 => absurd (hq2 c2) c3)
theorem lc_19 (C : lx_Cx p l s m b c meth L xs D K E0 mo ao) {o : Nat} {I : Nat → CS → MS → Prop} (Sm : Sim (lB s) o I) {i : Int32} (hin : vp_in (i + 1) L ∧ vp_in (i + 2) L ∧ vp_in (i + 3) L ∧ vp_in (i + 4) L ∧ vp_in (i + 5) L ∧ vp_in (i + 6) L) {n : Nat} {S : CS} {t : MS} {ov : Nat → Int64} (h : I (n + 1) S t) (kk : ∀ (ov1 : Nat → Int64) (S1 : CS) (t1 : MS), I n S1 t1 → GL p l e s m b below meth c D K E0 mo ao Q S1 ov1 t1 3755 [(4, .int i), (3, .ref ao), (2, .ref mo), (1, .ref o), (0, .ref b)] []) : GL p l e s m b below meth c D K E0 mo ao Q S ov t 1692 [(4, .int i), (3, .ref ao), (2, .ref mo), (1, .ref o), (0, .ref b)] [] := by
  refine gl_aloadn C 3 1 dL_law_1692 rfl rfl ?_
  obtain ⟨B1, hB, hw⟩ := Sm.phrases n S t h
  refine gl_cls C (y := yX11_phrases) (as := []) B1 hB.1 hB.2 (by decide) (by decide) (c_X11_phrases l D K E0 B1 _ o S _ _ hw) hk_X11_phrases rfl vl_L_249 kc_X11_phrases (isC_of (Sm.kd _ _ _ h) (by decide)) dL_law_1693 (Nat.le_of_ble_eq_true rfl) (fun v S1 hp hz1 hz2 => ?_)
  obtain ⟨k, rfl, hp⟩ := hp
  have hp := hp hz1 hz2
  refine gl_aloadn C 2 2 dL_law_1696 rfl rfl ?_
  refine gl_mod C (y := yX12_phrases) (as := []) (by decide) (by decide) (c_phrases l D (K 0) (K 3) mo (m_ad mo) t _ hp) hy_phrases rfl vq_252 cu_phrases dL_law_1697 (Nat.le_of_ble_eq_true rfl) (fun v t1 ns1 hq hns1 => ?_)
  obtain ⟨r, rfl, hq1, hI9⟩ := hq
  have hI9 := Sm.rs _ _ _ ns1 hI9 hns1
  refine gl_icmp_eq C 3755 dL_law_1700 (by decide) (fun c1 => ?_) (fun c1 => absurd hq1 c1)
  exact kk _ _ _ hI9
theorem lc_20 (C : lx_Cx p l s m b c meth L xs D K E0 mo ao) {o : Nat} {I : Nat → CS → MS → Prop} (Sm : Sim (lB s) o I) {i : Int32} (hin : vp_in (i + 1) L ∧ vp_in (i + 2) L ∧ vp_in (i + 3) L ∧ vp_in (i + 4) L ∧ vp_in (i + 5) L ∧ vp_in (i + 6) L) {n : Nat} {S : CS} {t : MS} {ov : Nat → Int64} (h : I (n + 1) S t) (kk : ∀ (ov1 : Nat → Int64) (S1 : CS) (t1 : MS), I n S1 t1 → GL p l e s m b below meth c D K E0 mo ao Q S1 ov1 t1 3755 [(4, .int i), (3, .ref ao), (2, .ref mo), (1, .ref o), (0, .ref b)] []) : GL p l e s m b below meth c D K E0 mo ao Q S ov t 1705 [(4, .int i), (3, .ref ao), (2, .ref mo), (1, .ref o), (0, .ref b)] [] := by
  refine gl_aloadn C 3 1 dL_law_1705 rfl rfl ?_
  refine gl_aloadn C 4 0 dL_law_1706 rfl rfl ?_
  refine gl_iload C 0 dL_law_1707 rfl ?_
  refine gl_iconst C 1 dL_law_1709 (by decide) ?_
  refine gl_iadd C dL_law_1710 ?_
  refine gl_scr C hin.1 dL_law_1711 ?_
  refine gl_aloadn C 4 0 dL_law_1712 rfl rfl ?_
  refine gl_iload C 0 dL_law_1713 rfl ?_
  refine gl_iconst C 2 dL_law_1715 (by decide) ?_
  refine gl_iadd C dL_law_1716 ?_
  refine gl_scr C hin.2.1 dL_law_1717 ?_
  refine gl_aloadn C 4 0 dL_law_1718 rfl rfl ?_
  refine gl_iload C 0 dL_law_1719 rfl ?_
  refine gl_iconst C 3 dL_law_1721 (by decide) ?_
  refine gl_iadd C dL_law_1722 ?_
  refine gl_scr C hin.2.2.1 dL_law_1723 ?_
  refine gl_bool C dL_law_1724 dL_law_1727 dL_law_1728 dL_law_1731 ?_
  refine gl_aloadn C 1 3 dL_law_1732 rfl rfl ?_
  obtain ⟨B1, hB, hw⟩ := Sm.allowTurn n S t ov (xs (Int32.toNatClampNeg (i + 1))) (xs (Int32.toNatClampNeg (i + 2))) (lbo (xs (Int32.toNatClampNeg (i + 3)))) h (lbo_gb _)
  refine gl_wrap C (y := yL_allowTurn) (as := [.ref o, .int (xs (Int32.toNatClampNeg (i + 1))), .int (xs (Int32.toNatClampNeg (i + 2))), .int (lbo (xs (Int32.toNatClampNeg (i + 3)))), .ref ao]) B1 hB.1 hB.2 (by decide) (by decide) (k_allowTurn l D K E0 B1 _ ao o (xs (Int32.toNatClampNeg (i + 1))) (xs (Int32.toNatClampNeg (i + 2))) (lbo (xs (Int32.toNatClampNeg (i + 3)))) S ov _ (Sm.kd _ _ _ h) hw) hl_allowTurn rfl vw_253 kl_allowTurn dL_law_1733 (Nat.le_of_ble_eq_true rfl) (fun k ov1 S1 hp hz1 hz2 => ?_)
  have hp := hp hz1 hz2
  refine gl_istore C [(5, .int k), (4, .int i), (3, .ref ao), (2, .ref mo), (1, .ref o), (0, .ref b)] dL_law_1736 (by decide) rfl ?_
  refine gl_aloadn C 3 2 dL_law_1738 rfl rfl ?_
  refine gl_aloadn C 5 0 dL_law_1739 rfl rfl ?_
  refine gl_iload C 1 dL_law_1740 rfl ?_
  refine gl_iconst C 1 dL_law_1742 (by decide) ?_
  refine gl_iadd C dL_law_1743 ?_
  refine gl_scr C hin.1 dL_law_1744 ?_
  refine gl_aloadn C 5 0 dL_law_1745 rfl rfl ?_
  refine gl_iload C 1 dL_law_1746 rfl ?_
  refine gl_iconst C 2 dL_law_1748 (by decide) ?_
  refine gl_iadd C dL_law_1749 ?_
  refine gl_scr C hin.2.1 dL_law_1750 ?_
  refine gl_aloadn C 5 0 dL_law_1751 rfl rfl ?_
  refine gl_iload C 1 dL_law_1752 rfl ?_
  refine gl_iconst C 3 dL_law_1754 (by decide) ?_
  refine gl_iadd C dL_law_1755 ?_
  refine gl_scr C hin.2.2.1 dL_law_1756 ?_
  refine gl_bool C dL_law_1757 dL_law_1760 dL_law_1761 dL_law_1764 ?_
  refine gl_mod C (y := yX12_allowTurn) (as := [.int (xs (Int32.toNatClampNeg (i + 1))), .int (xs (Int32.toNatClampNeg (i + 2))), .int (lbo (xs (Int32.toNatClampNeg (i + 3))))]) (by decide) (by decide) (c_allowTurn l D (K 0) (K 3) mo (m_ad mo) (xs (Int32.toNatClampNeg (i + 1))) (xs (Int32.toNatClampNeg (i + 2))) (lbo (xs (Int32.toNatClampNeg (i + 3)))) t _ hp) hy_allowTurn rfl vq_256 cu_allowTurn dL_law_1765 (Nat.le_of_ble_eq_true rfl) (fun v t1 ns1 hq hns1 => ?_)
  obtain ⟨r, rfl, hq1, hq2, hI9⟩ := hq
  have hI9 := Sm.rs _ _ _ ns1 hI9 hns1
  refine gl_istore C [(6, .int r), (5, .int k), (4, .int i), (3, .ref ao), (2, .ref mo), (1, .ref o), (0, .ref b)] dL_law_1768 (by decide) rfl ?_
  refine gl_aloadn C 4 2 dL_law_1770 rfl rfl ?_
  refine gl_mod C (y := yX12_thrown) (as := []) (by decide) (by decide) (c_thrown l D (K 0) (K 3) mo (m_ad mo) t1) hy_thrown rfl vq_184 cu_thrown dL_law_1771 (Nat.le_of_ble_eq_true rfl) (fun v t2 ns2 hq hns2 => ?_)
  obtain ⟨r2, rfl, rfl, rfl⟩ := hq
  have hI9 := Sm.rs _ _ _ ns2 hI9 hns2
  refine gl_iload C 1 dL_law_1774 rfl ?_
  refine gl_icmp_eq C 1781 dL_law_1776 (by decide) (fun c1 => ?_) (fun c1 => absurd hq1 c1)
  refine gl_iload C 1 dL_law_1781 rfl ?_
  have kend : GL p l e s m b below meth c D K E0 mo ao Q (rsz (rsz S1 (szC S1) ns1) (szC (rsz S1 (szC S1) ns1)) ns2) ov1 t1 1805 [(6, .int r), (5, .int k), (4, .int i), (3, .ref ao), (2, .ref mo), (1, .ref o), (0, .ref b)] [] := by
    refine gl_goto C 3755 dL_law_1805 (by decide) ?_
    refine gl_sub [2, 3, 4, 5, 6] rfl ?_
    exact kk _ _ _ hI9
  refine gl_if_ne C 1805 dL_law_1783 (by decide) (fun _ => kend) (fun c2 => ?_)
  refine gl_aloadn C 3 3 dL_law_1786 rfl rfl ?_
  refine gl_iconst C 0 dL_law_1787 (by decide) ?_
  refine gl_out C dL_law_1788 ?_
  refine gl_iload C 0 dL_law_1789 rfl ?_
  refine gl_boolL C dL_law_1791 dL_law_1794 dL_law_1795 dL_law_1798 ?_
  exact gl_lcmpeq C 1805 dL_law_1799 dL_law_1800 (by decide) (fun _ => kend) (fun c3 => absurd (hq2 c2) c3)
theorem lc_21 (C : lx_Cx p l s m b c meth L xs D K E0 mo ao) {o : Nat} {I : Nat → CS → MS → Prop} (Sm : Sim (lB s) o I) {i : Int32} (hin : vp_in (i + 1) L ∧ vp_in (i + 2) L ∧ vp_in (i + 3) L ∧ vp_in (i + 4) L ∧ vp_in (i + 5) L ∧ vp_in (i + 6) L) {n : Nat} {S : CS} {t : MS} {ov : Nat → Int64} (h : I (n + 1) S t) (kk : ∀ (ov1 : Nat → Int64) (S1 : CS) (t1 : MS), I n S1 t1 → GL p l e s m b below meth c D K E0 mo ao Q S1 ov1 t1 3755 [(4, .int i), (3, .ref ao), (2, .ref mo), (1, .ref o), (0, .ref b)] []) : GL p l e s m b below meth c D K E0 mo ao Q S ov t 1808 [(4, .int i), (3, .ref ao), (2, .ref mo), (1, .ref o), (0, .ref b)] [] := by
  refine gl_aloadn C 3 1 dL_law_1808 rfl rfl ?_
  refine gl_aloadn C 4 0 dL_law_1809 rfl rfl ?_
  refine gl_iload C 0 dL_law_1810 rfl ?_
  refine gl_iconst C 1 dL_law_1812 (by decide) ?_
  refine gl_iadd C dL_law_1813 ?_
  refine gl_scr C hin.1 dL_law_1814 ?_
  refine gl_aloadn C 4 0 dL_law_1815 rfl rfl ?_
  refine gl_iload C 0 dL_law_1816 rfl ?_
  refine gl_iconst C 2 dL_law_1818 (by decide) ?_
  refine gl_iadd C dL_law_1819 ?_
  refine gl_scr C hin.2.1 dL_law_1820 ?_
  refine gl_aloadn C 4 0 dL_law_1821 rfl rfl ?_
  refine gl_iload C 0 dL_law_1822 rfl ?_
  refine gl_iconst C 3 dL_law_1824 (by decide) ?_
  refine gl_iadd C dL_law_1825 ?_
  refine gl_scr C hin.2.2.1 dL_law_1826 ?_
  refine gl_aloadn C 1 3 dL_law_1827 rfl rfl ?_
  obtain ⟨B1, hB, hw⟩ := Sm.addRepeat n S t ov (xs (Int32.toNatClampNeg (i + 1))) (xs (Int32.toNatClampNeg (i + 2))) (xs (Int32.toNatClampNeg (i + 3))) h
  refine gl_wrap C (y := yL_addRepeat) (as := [.ref o, .int (xs (Int32.toNatClampNeg (i + 1))), .int (xs (Int32.toNatClampNeg (i + 2))), .int (xs (Int32.toNatClampNeg (i + 3))), .ref ao]) B1 hB.1 hB.2 (by decide) (by decide) (k_addRepeat l D K E0 B1 _ ao o (xs (Int32.toNatClampNeg (i + 1))) (xs (Int32.toNatClampNeg (i + 2))) (xs (Int32.toNatClampNeg (i + 3))) S ov _ (Sm.kd _ _ _ h) hw) hl_addRepeat rfl vw_257 kl_addRepeat dL_law_1828 (Nat.le_of_ble_eq_true rfl) (fun k ov1 S1 hp hz1 hz2 => ?_)
  have hp := hp hz1 hz2
  refine gl_istore C [(5, .int k), (4, .int i), (3, .ref ao), (2, .ref mo), (1, .ref o), (0, .ref b)] dL_law_1831 (by decide) rfl ?_
  refine gl_aloadn C 3 2 dL_law_1833 rfl rfl ?_
  refine gl_aloadn C 5 0 dL_law_1834 rfl rfl ?_
  refine gl_iload C 1 dL_law_1835 rfl ?_
  refine gl_iconst C 1 dL_law_1837 (by decide) ?_
  refine gl_iadd C dL_law_1838 ?_
  refine gl_scr C hin.1 dL_law_1839 ?_
  refine gl_aloadn C 5 0 dL_law_1840 rfl rfl ?_
  refine gl_iload C 1 dL_law_1841 rfl ?_
  refine gl_iconst C 2 dL_law_1843 (by decide) ?_
  refine gl_iadd C dL_law_1844 ?_
  refine gl_scr C hin.2.1 dL_law_1845 ?_
  refine gl_aloadn C 5 0 dL_law_1846 rfl rfl ?_
  refine gl_iload C 1 dL_law_1847 rfl ?_
  refine gl_iconst C 3 dL_law_1849 (by decide) ?_
  refine gl_iadd C dL_law_1850 ?_
  refine gl_scr C hin.2.2.1 dL_law_1851 ?_
  refine gl_mod C (y := yX12_addRepeat) (as := [.int (xs (Int32.toNatClampNeg (i + 1))), .int (xs (Int32.toNatClampNeg (i + 2))), .int (xs (Int32.toNatClampNeg (i + 3)))]) (by decide) (by decide) (c_addRepeat l D (K 0) (K 3) mo (m_ad mo) (xs (Int32.toNatClampNeg (i + 1))) (xs (Int32.toNatClampNeg (i + 2))) (xs (Int32.toNatClampNeg (i + 3))) t _ hp) hy_addRepeat rfl vq_259 cu_addRepeat dL_law_1852 (Nat.le_of_ble_eq_true rfl) (fun v t1 ns1 hq hns1 => ?_)
  obtain ⟨r, rfl, hq1, hq2, hI9⟩ := hq
  have hI9 := Sm.rs _ _ _ ns1 hI9 hns1
  refine gl_istore C [(6, .int r), (5, .int k), (4, .int i), (3, .ref ao), (2, .ref mo), (1, .ref o), (0, .ref b)] dL_law_1855 (by decide) rfl ?_
  refine gl_aloadn C 4 2 dL_law_1857 rfl rfl ?_
  refine gl_mod C (y := yX12_thrown) (as := []) (by decide) (by decide) (c_thrown l D (K 0) (K 3) mo (m_ad mo) t1) hy_thrown rfl vq_184 cu_thrown dL_law_1858 (Nat.le_of_ble_eq_true rfl) (fun v t2 ns2 hq hns2 => ?_)
  obtain ⟨r2, rfl, rfl, rfl⟩ := hq
  have hI9 := Sm.rs _ _ _ ns2 hI9 hns2
  refine gl_iload C 1 dL_law_1861 rfl ?_
  refine gl_icmp_eq C 1868 dL_law_1863 (by decide) (fun c1 => ?_) (fun c1 => absurd hq1 c1)
  refine gl_iload C 1 dL_law_1868 rfl ?_
  have kend : GL p l e s m b below meth c D K E0 mo ao Q (rsz (rsz S1 (szC S1) ns1) (szC (rsz S1 (szC S1) ns1)) ns2) ov1 t1 1885 [(6, .int r), (5, .int k), (4, .int i), (3, .ref ao), (2, .ref mo), (1, .ref o), (0, .ref b)] [] := by
    refine gl_goto C 3755 dL_law_1885 (by decide) ?_
    refine gl_sub [2, 3, 4, 5, 6] rfl ?_
    exact kk _ _ _ hI9
  refine gl_if_ne C 1885 dL_law_1870 (by decide) (fun _ => kend) (fun c2 => ?_)
  refine gl_aloadn C 3 3 dL_law_1873 rfl rfl ?_
  refine gl_iconst C 0 dL_law_1874 (by decide) ?_
  refine gl_out C dL_law_1875 ?_
  refine gl_iload C 0 dL_law_1876 rfl ?_
  refine gl_i2l C dL_law_1878 ?_
  exact gl_lcmpeq C 1885 dL_law_1879 dL_law_1880 (by decide) (fun _ => kend) (fun c3 => absurd (hq2 c2) c3)
theorem lc_22 (C : lx_Cx p l s m b c meth L xs D K E0 mo ao) {o : Nat} {I : Nat → CS → MS → Prop} (Sm : Sim (lB s) o I) {i : Int32} (hin : vp_in (i + 1) L ∧ vp_in (i + 2) L ∧ vp_in (i + 3) L ∧ vp_in (i + 4) L ∧ vp_in (i + 5) L ∧ vp_in (i + 6) L) {n : Nat} {S : CS} {t : MS} {ov : Nat → Int64} (h : I (n + 1) S t) (kk : ∀ (ov1 : Nat → Int64) (S1 : CS) (t1 : MS), I n S1 t1 → GL p l e s m b below meth c D K E0 mo ao Q S1 ov1 t1 3755 [(4, .int i), (3, .ref ao), (2, .ref mo), (1, .ref o), (0, .ref b)] []) : GL p l e s m b below meth c D K E0 mo ao Q S ov t 1888 [(4, .int i), (3, .ref ao), (2, .ref mo), (1, .ref o), (0, .ref b)] [] := by
  refine gl_aloadn C 3 1 dL_law_1888 rfl rfl ?_
  refine gl_aloadn C 4 0 dL_law_1889 rfl rfl ?_
  refine gl_iload C 0 dL_law_1890 rfl ?_
  refine gl_iconst C 1 dL_law_1892 (by decide) ?_
  refine gl_iadd C dL_law_1893 ?_
  refine gl_scr C hin.1 dL_law_1894 ?_
  refine gl_aloadn C 1 3 dL_law_1895 rfl rfl ?_
  obtain ⟨B1, hB, hw⟩ := Sm.dropRepeat n S t ov (xs (Int32.toNatClampNeg (i + 1))) h
  refine gl_wrap C (y := yL_dropRepeat) (as := [.ref o, .int (xs (Int32.toNatClampNeg (i + 1))), .ref ao]) B1 hB.1 hB.2 (by decide) (by decide) (k_dropRepeat l D K E0 B1 _ ao o (xs (Int32.toNatClampNeg (i + 1))) S ov _ (Sm.kd _ _ _ h) hw) hl_dropRepeat rfl vw_260 kl_dropRepeat dL_law_1896 (Nat.le_of_ble_eq_true rfl) (fun k ov1 S1 hp hz1 hz2 => ?_)
  have hp := hp hz1 hz2
  refine gl_istore C [(5, .int k), (4, .int i), (3, .ref ao), (2, .ref mo), (1, .ref o), (0, .ref b)] dL_law_1899 (by decide) rfl ?_
  refine gl_aloadn C 3 2 dL_law_1901 rfl rfl ?_
  refine gl_aloadn C 5 0 dL_law_1902 rfl rfl ?_
  refine gl_iload C 1 dL_law_1903 rfl ?_
  refine gl_iconst C 1 dL_law_1905 (by decide) ?_
  refine gl_iadd C dL_law_1906 ?_
  refine gl_scr C hin.1 dL_law_1907 ?_
  refine gl_mod C (y := yX12_dropRepeat) (as := [.int (xs (Int32.toNatClampNeg (i + 1)))]) (by decide) (by decide) (c_dropRepeat l D (K 0) (K 3) mo (m_ad mo) (xs (Int32.toNatClampNeg (i + 1))) t _ hp) hy_dropRepeat rfl vq_262 cu_dropRepeat dL_law_1908 (Nat.le_of_ble_eq_true rfl) (fun v t1 ns1 hq hns1 => ?_)
  obtain ⟨r, rfl, hq1, hq2, hI9⟩ := hq
  have hI9 := Sm.rs _ _ _ ns1 hI9 hns1
  refine gl_istore C [(6, .int r), (5, .int k), (4, .int i), (3, .ref ao), (2, .ref mo), (1, .ref o), (0, .ref b)] dL_law_1911 (by decide) rfl ?_
  refine gl_aloadn C 4 2 dL_law_1913 rfl rfl ?_
  refine gl_mod C (y := yX12_thrown) (as := []) (by decide) (by decide) (c_thrown l D (K 0) (K 3) mo (m_ad mo) t1) hy_thrown rfl vq_184 cu_thrown dL_law_1914 (Nat.le_of_ble_eq_true rfl) (fun v t2 ns2 hq hns2 => ?_)
  obtain ⟨r2, rfl, rfl, rfl⟩ := hq
  have hI9 := Sm.rs _ _ _ ns2 hI9 hns2
  refine gl_iload C 1 dL_law_1917 rfl ?_
  refine gl_icmp_eq C 1924 dL_law_1919 (by decide) (fun c1 => ?_) (fun c1 => absurd hq1 c1)
  refine gl_iload C 1 dL_law_1924 rfl ?_
  have kend : GL p l e s m b below meth c D K E0 mo ao Q (rsz (rsz S1 (szC S1) ns1) (szC (rsz S1 (szC S1) ns1)) ns2) ov1 t1 1941 [(6, .int r), (5, .int k), (4, .int i), (3, .ref ao), (2, .ref mo), (1, .ref o), (0, .ref b)] [] := by
    refine gl_goto C 3755 dL_law_1941 (by decide) ?_
    refine gl_sub [2, 3, 4, 5, 6] rfl ?_
    exact kk _ _ _ hI9
  refine gl_if_ne C 1941 dL_law_1926 (by decide) (fun _ => kend) (fun c2 => ?_)
  refine gl_aloadn C 3 3 dL_law_1929 rfl rfl ?_
  refine gl_iconst C 0 dL_law_1930 (by decide) ?_
  refine gl_out C dL_law_1931 ?_
  refine gl_iload C 0 dL_law_1932 rfl ?_
  refine gl_i2l C dL_law_1934 ?_
  exact gl_lcmpeq C 1941 dL_law_1935 dL_law_1936 (by decide) (fun _ => kend) (fun c3 => absurd (hq2 c2) c3)
theorem lc_23 (C : lx_Cx p l s m b c meth L xs D K E0 mo ao) {o : Nat} {I : Nat → CS → MS → Prop} (Sm : Sim (lB s) o I) {i : Int32} (hin : vp_in (i + 1) L ∧ vp_in (i + 2) L ∧ vp_in (i + 3) L ∧ vp_in (i + 4) L ∧ vp_in (i + 5) L ∧ vp_in (i + 6) L) {n : Nat} {S : CS} {t : MS} {ov : Nat → Int64} (h : I (n + 1) S t) (kk : ∀ (ov1 : Nat → Int64) (S1 : CS) (t1 : MS), I n S1 t1 → GL p l e s m b below meth c D K E0 mo ao Q S1 ov1 t1 3755 [(4, .int i), (3, .ref ao), (2, .ref mo), (1, .ref o), (0, .ref b)] []) : GL p l e s m b below meth c D K E0 mo ao Q S ov t 1944 [(4, .int i), (3, .ref ao), (2, .ref mo), (1, .ref o), (0, .ref b)] [] := by
  refine gl_aloadn C 3 1 dL_law_1944 rfl rfl ?_
  obtain ⟨B1, hB, hw⟩ := Sm.places n S t h
  refine gl_cls C (y := yX11_places) (as := []) B1 hB.1 hB.2 (by decide) (by decide) (c_X11_places l D K E0 B1 _ o S _ _ hw) hk_X11_places rfl vl_L_263 kc_X11_places (isC_of (Sm.kd _ _ _ h) (by decide)) dL_law_1945 (Nat.le_of_ble_eq_true rfl) (fun v S1 hp hz1 hz2 => ?_)
  obtain ⟨k, rfl, hp⟩ := hp
  have hp := hp hz1 hz2
  refine gl_aloadn C 2 2 dL_law_1948 rfl rfl ?_
  refine gl_mod C (y := yX12_places) (as := []) (by decide) (by decide) (c_places l D (K 0) (K 3) mo (m_ad mo) t _ hp) hy_places rfl vq_266 cu_places dL_law_1949 (Nat.le_of_ble_eq_true rfl) (fun v t1 ns1 hq hns1 => ?_)
  obtain ⟨r, rfl, hq1, hI9⟩ := hq
  have hI9 := Sm.rs _ _ _ ns1 hI9 hns1
  refine gl_icmp_eq C 3755 dL_law_1952 (by decide) (fun c1 => ?_) (fun c1 => absurd hq1 c1)
  exact kk _ _ _ hI9
theorem lc_24 (C : lx_Cx p l s m b c meth L xs D K E0 mo ao) {o : Nat} {I : Nat → CS → MS → Prop} (Sm : Sim (lB s) o I) {i : Int32} (hin : vp_in (i + 1) L ∧ vp_in (i + 2) L ∧ vp_in (i + 3) L ∧ vp_in (i + 4) L ∧ vp_in (i + 5) L ∧ vp_in (i + 6) L) {n : Nat} {S : CS} {t : MS} {ov : Nat → Int64} (h : I (n + 1) S t) (kk : ∀ (ov1 : Nat → Int64) (S1 : CS) (t1 : MS), I n S1 t1 → GL p l e s m b below meth c D K E0 mo ao Q S1 ov1 t1 3755 [(4, .int i), (3, .ref ao), (2, .ref mo), (1, .ref o), (0, .ref b)] []) : GL p l e s m b below meth c D K E0 mo ao Q S ov t 1957 [(4, .int i), (3, .ref ao), (2, .ref mo), (1, .ref o), (0, .ref b)] [] := by
  refine gl_aloadn C 3 1 dL_law_1957 rfl rfl ?_
  refine gl_aloadn C 4 0 dL_law_1958 rfl rfl ?_
  refine gl_iload C 0 dL_law_1959 rfl ?_
  refine gl_iconst C 1 dL_law_1961 (by decide) ?_
  refine gl_iadd C dL_law_1962 ?_
  refine gl_scr C hin.1 dL_law_1963 ?_
  refine gl_aloadn C 1 3 dL_law_1964 rfl rfl ?_
  obtain ⟨B1, hB, hw⟩ := Sm.barAt n S t ov (xs (Int32.toNatClampNeg (i + 1))) h
  refine gl_wrap C (y := yL_barAt) (as := [.ref o, .int (xs (Int32.toNatClampNeg (i + 1))), .ref ao]) B1 hB.1 hB.2 (by decide) (by decide) (k_barAt l D K E0 B1 _ ao o (xs (Int32.toNatClampNeg (i + 1))) S ov _ (Sm.kd _ _ _ h) hw) hl_barAt rfl vw_267 kl_barAt dL_law_1965 (Nat.le_of_ble_eq_true rfl) (fun k ov1 S1 hp hz1 hz2 => ?_)
  have hp := hp hz1 hz2
  refine gl_istore C [(5, .int k), (4, .int i), (3, .ref ao), (2, .ref mo), (1, .ref o), (0, .ref b)] dL_law_1968 (by decide) rfl ?_
  refine gl_aloadn C 3 2 dL_law_1970 rfl rfl ?_
  refine gl_aloadn C 5 0 dL_law_1971 rfl rfl ?_
  refine gl_iload C 1 dL_law_1972 rfl ?_
  refine gl_iconst C 1 dL_law_1974 (by decide) ?_
  refine gl_iadd C dL_law_1975 ?_
  refine gl_scr C hin.1 dL_law_1976 ?_
  refine gl_mod C (y := yX12_barAt) (as := [.int (xs (Int32.toNatClampNeg (i + 1)))]) (by decide) (by decide) (c_barAt l D (K 0) (K 3) mo (m_ad mo) (xs (Int32.toNatClampNeg (i + 1))) t _ hp) hy_barAt rfl vq_269 cu_barAt dL_law_1977 (Nat.le_of_ble_eq_true rfl) (fun v t1 ns1 hq hns1 => ?_)
  obtain ⟨r, rfl, hq1, hq2, hI9⟩ := hq
  have hI9 := Sm.rs _ _ _ ns1 hI9 hns1
  refine gl_istore C [(6, .int r), (5, .int k), (4, .int i), (3, .ref ao), (2, .ref mo), (1, .ref o), (0, .ref b)] dL_law_1980 (by decide) rfl ?_
  refine gl_aloadn C 4 2 dL_law_1982 rfl rfl ?_
  refine gl_mod C (y := yX12_thrown) (as := []) (by decide) (by decide) (c_thrown l D (K 0) (K 3) mo (m_ad mo) t1) hy_thrown rfl vq_184 cu_thrown dL_law_1983 (Nat.le_of_ble_eq_true rfl) (fun v t2 ns2 hq hns2 => ?_)
  obtain ⟨r2, rfl, rfl, rfl⟩ := hq
  have hI9 := Sm.rs _ _ _ ns2 hI9 hns2
  refine gl_iload C 1 dL_law_1986 rfl ?_
  refine gl_icmp_eq C 1993 dL_law_1988 (by decide) (fun c1 => ?_) (fun c1 => absurd hq1 c1)
  refine gl_iload C 1 dL_law_1993 rfl ?_
  have kend : GL p l e s m b below meth c D K E0 mo ao Q (rsz (rsz S1 (szC S1) ns1) (szC (rsz S1 (szC S1) ns1)) ns2) ov1 t1 2010 [(6, .int r), (5, .int k), (4, .int i), (3, .ref ao), (2, .ref mo), (1, .ref o), (0, .ref b)] [] := by
    refine gl_goto C 3755 dL_law_2010 (by decide) ?_
    refine gl_sub [2, 3, 4, 5, 6] rfl ?_
    exact kk _ _ _ hI9
  refine gl_if_ne C 2010 dL_law_1995 (by decide) (fun _ => kend) (fun c2 => ?_)
  refine gl_aloadn C 3 3 dL_law_1998 rfl rfl ?_
  refine gl_iconst C 0 dL_law_1999 (by decide) ?_
  refine gl_out C dL_law_2000 ?_
  refine gl_iload C 0 dL_law_2001 rfl ?_
  refine gl_i2l C dL_law_2003 ?_
  exact gl_lcmpeq C 2010 dL_law_2004 dL_law_2005 (by decide) (fun _ => kend) (fun c3 => absurd (hq2 c2) c3)
theorem lc_25 (C : lx_Cx p l s m b c meth L xs D K E0 mo ao) {o : Nat} {I : Nat → CS → MS → Prop} (Sm : Sim (lB s) o I) {i : Int32} (hin : vp_in (i + 1) L ∧ vp_in (i + 2) L ∧ vp_in (i + 3) L ∧ vp_in (i + 4) L ∧ vp_in (i + 5) L ∧ vp_in (i + 6) L) {n : Nat} {S : CS} {t : MS} {ov : Nat → Int64} (h : I (n + 1) S t) (kk : ∀ (ov1 : Nat → Int64) (S1 : CS) (t1 : MS), I n S1 t1 → GL p l e s m b below meth c D K E0 mo ao Q S1 ov1 t1 3755 [(4, .int i), (3, .ref ao), (2, .ref mo), (1, .ref o), (0, .ref b)] []) : GL p l e s m b below meth c D K E0 mo ao Q S ov t 2013 [(4, .int i), (3, .ref ao), (2, .ref mo), (1, .ref o), (0, .ref b)] [] := by
  refine gl_aloadn C 3 1 dL_law_2013 rfl rfl ?_
  refine gl_aloadn C 4 0 dL_law_2014 rfl rfl ?_
  refine gl_iload C 0 dL_law_2015 rfl ?_
  refine gl_iconst C 1 dL_law_2017 (by decide) ?_
  refine gl_iadd C dL_law_2018 ?_
  refine gl_scr C hin.1 dL_law_2019 ?_
  refine gl_aloadn C 1 3 dL_law_2020 rfl rfl ?_
  obtain ⟨B1, hB, hw⟩ := Sm.startOf n S t ov (xs (Int32.toNatClampNeg (i + 1))) h
  refine gl_wrap C (y := yL_startOf) (as := [.ref o, .int (xs (Int32.toNatClampNeg (i + 1))), .ref ao]) B1 hB.1 hB.2 (by decide) (by decide) (k_startOf l D K E0 B1 _ ao o (xs (Int32.toNatClampNeg (i + 1))) S ov _ (Sm.kd _ _ _ h) hw) hl_startOf rfl vw_270 kl_startOf dL_law_2021 (Nat.le_of_ble_eq_true rfl) (fun k ov1 S1 hp hz1 hz2 => ?_)
  have hp := hp hz1 hz2
  refine gl_istore C [(5, .int k), (4, .int i), (3, .ref ao), (2, .ref mo), (1, .ref o), (0, .ref b)] dL_law_2024 (by decide) rfl ?_
  refine gl_aloadn C 3 2 dL_law_2026 rfl rfl ?_
  refine gl_aloadn C 5 0 dL_law_2027 rfl rfl ?_
  refine gl_iload C 1 dL_law_2028 rfl ?_
  refine gl_iconst C 1 dL_law_2030 (by decide) ?_
  refine gl_iadd C dL_law_2031 ?_
  refine gl_scr C hin.1 dL_law_2032 ?_
  refine gl_mod C (y := yX12_startOf) (as := [.int (xs (Int32.toNatClampNeg (i + 1)))]) (by decide) (by decide) (c_startOf l D (K 0) (K 3) mo (m_ad mo) (xs (Int32.toNatClampNeg (i + 1))) t _ hp) hy_startOf rfl vq_272 cu_startOf dL_law_2033 (Nat.le_of_ble_eq_true rfl) (fun v t1 ns1 hq hns1 => ?_)
  obtain ⟨r, rfl, hq1, hq2, hI9⟩ := hq
  have hI9 := Sm.rs _ _ _ ns1 hI9 hns1
  refine gl_istore C [(6, .int r), (5, .int k), (4, .int i), (3, .ref ao), (2, .ref mo), (1, .ref o), (0, .ref b)] dL_law_2036 (by decide) rfl ?_
  refine gl_aloadn C 4 2 dL_law_2038 rfl rfl ?_
  refine gl_mod C (y := yX12_thrown) (as := []) (by decide) (by decide) (c_thrown l D (K 0) (K 3) mo (m_ad mo) t1) hy_thrown rfl vq_184 cu_thrown dL_law_2039 (Nat.le_of_ble_eq_true rfl) (fun v t2 ns2 hq hns2 => ?_)
  obtain ⟨r2, rfl, rfl, rfl⟩ := hq
  have hI9 := Sm.rs _ _ _ ns2 hI9 hns2
  refine gl_iload C 1 dL_law_2042 rfl ?_
  refine gl_icmp_eq C 2049 dL_law_2044 (by decide) (fun c1 => ?_) (fun c1 => absurd hq1 c1)
  refine gl_iload C 1 dL_law_2049 rfl ?_
  have kend : GL p l e s m b below meth c D K E0 mo ao Q (rsz (rsz S1 (szC S1) ns1) (szC (rsz S1 (szC S1) ns1)) ns2) ov1 t1 2066 [(6, .int r), (5, .int k), (4, .int i), (3, .ref ao), (2, .ref mo), (1, .ref o), (0, .ref b)] [] := by
    refine gl_goto C 3755 dL_law_2066 (by decide) ?_
    refine gl_sub [2, 3, 4, 5, 6] rfl ?_
    exact kk _ _ _ hI9
  refine gl_if_ne C 2066 dL_law_2051 (by decide) (fun _ => kend) (fun c2 => ?_)
  refine gl_aloadn C 3 3 dL_law_2054 rfl rfl ?_
  refine gl_iconst C 0 dL_law_2055 (by decide) ?_
  refine gl_out C dL_law_2056 ?_
  refine gl_iload C 0 dL_law_2057 rfl ?_
  refine gl_i2l C dL_law_2059 ?_
  exact gl_lcmpeq C 2066 dL_law_2060 dL_law_2061 (by decide) (fun _ => kend) (fun c3 => absurd (hq2 c2) c3)
theorem lc_26 (C : lx_Cx p l s m b c meth L xs D K E0 mo ao) {o : Nat} {I : Nat → CS → MS → Prop} (Sm : Sim (lB s) o I) {i : Int32} (hin : vp_in (i + 1) L ∧ vp_in (i + 2) L ∧ vp_in (i + 3) L ∧ vp_in (i + 4) L ∧ vp_in (i + 5) L ∧ vp_in (i + 6) L) {n : Nat} {S : CS} {t : MS} {ov : Nat → Int64} (h : I (n + 1) S t) (kk : ∀ (ov1 : Nat → Int64) (S1 : CS) (t1 : MS), I n S1 t1 → GL p l e s m b below meth c D K E0 mo ao Q S1 ov1 t1 3755 [(4, .int i), (3, .ref ao), (2, .ref mo), (1, .ref o), (0, .ref b)] []) : GL p l e s m b below meth c D K E0 mo ao Q S ov t 2069 [(4, .int i), (3, .ref ao), (2, .ref mo), (1, .ref o), (0, .ref b)] [] := by
  refine gl_aloadn C 3 1 dL_law_2069 rfl rfl ?_
  obtain ⟨B1, hB, hw⟩ := Sm.playingTime n S t h
  refine gl_cls C (y := yX11_playingTime) (as := []) B1 hB.1 hB.2 (by decide) (by decide) (c_X11_playingTime l D K E0 B1 _ o S _ _ hw) hk_X11_playingTime rfl vl_L_273 kc_X11_playingTime (isC_of (Sm.kd _ _ _ h) (by decide)) dL_law_2070 (Nat.le_of_ble_eq_true rfl) (fun v S1 hp hz1 hz2 => ?_)
  obtain ⟨k, rfl, hp⟩ := hp
  have hp := hp hz1 hz2
  refine gl_aloadn C 2 2 dL_law_2073 rfl rfl ?_
  refine gl_mod C (y := yX12_playingTime) (as := []) (by decide) (by decide) (c_playingTime l D (K 0) (K 3) mo (m_ad mo) t _ hp) hy_playingTime rfl vq_276 cu_playingTime dL_law_2074 (Nat.le_of_ble_eq_true rfl) (fun v t1 ns1 hq hns1 => ?_)
  obtain ⟨r, rfl, hq1, hI9⟩ := hq
  have hI9 := Sm.rs _ _ _ ns1 hI9 hns1
  refine gl_icmp_eq C 3755 dL_law_2077 (by decide) (fun c1 => ?_) (fun c1 => absurd hq1 c1)
  exact kk _ _ _ hI9
theorem lc_27 (C : lx_Cx p l s m b c meth L xs D K E0 mo ao) {o : Nat} {I : Nat → CS → MS → Prop} (Sm : Sim (lB s) o I) {i : Int32} (hin : vp_in (i + 1) L ∧ vp_in (i + 2) L ∧ vp_in (i + 3) L ∧ vp_in (i + 4) L ∧ vp_in (i + 5) L ∧ vp_in (i + 6) L) {n : Nat} {S : CS} {t : MS} {ov : Nat → Int64} (h : I (n + 1) S t) (kk : ∀ (ov1 : Nat → Int64) (S1 : CS) (t1 : MS), I n S1 t1 → GL p l e s m b below meth c D K E0 mo ao Q S1 ov1 t1 3755 [(4, .int i), (3, .ref ao), (2, .ref mo), (1, .ref o), (0, .ref b)] []) : GL p l e s m b below meth c D K E0 mo ao Q S ov t 2082 [(4, .int i), (3, .ref ao), (2, .ref mo), (1, .ref o), (0, .ref b)] [] := by
  refine gl_aloadn C 3 1 dL_law_2082 rfl rfl ?_
  refine gl_aloadn C 4 0 dL_law_2083 rfl rfl ?_
  refine gl_iload C 0 dL_law_2084 rfl ?_
  refine gl_iconst C 1 dL_law_2086 (by decide) ?_
  refine gl_iadd C dL_law_2087 ?_
  refine gl_scr C hin.1 dL_law_2088 ?_
  refine gl_aloadn C 1 3 dL_law_2089 rfl rfl ?_
  obtain ⟨B1, hB, hw⟩ := Sm.timeByEvents n S t ov (xs (Int32.toNatClampNeg (i + 1))) h
  refine gl_wrap C (y := yL_timeByEvents) (as := [.ref o, .int (xs (Int32.toNatClampNeg (i + 1))), .ref ao]) B1 hB.1 hB.2 (by decide) (by decide) (k_timeByEvents l D K E0 B1 _ ao o (xs (Int32.toNatClampNeg (i + 1))) S ov _ (Sm.kd _ _ _ h) hw) hl_timeByEvents rfl vw_277 kl_timeByEvents dL_law_2090 (Nat.le_of_ble_eq_true rfl) (fun k ov1 S1 hp hz1 hz2 => ?_)
  have hp := hp hz1 hz2
  refine gl_istore C [(5, .int k), (4, .int i), (3, .ref ao), (2, .ref mo), (1, .ref o), (0, .ref b)] dL_law_2093 (by decide) rfl ?_
  refine gl_aloadn C 3 2 dL_law_2095 rfl rfl ?_
  refine gl_aloadn C 5 0 dL_law_2096 rfl rfl ?_
  refine gl_iload C 1 dL_law_2097 rfl ?_
  refine gl_iconst C 1 dL_law_2099 (by decide) ?_
  refine gl_iadd C dL_law_2100 ?_
  refine gl_scr C hin.1 dL_law_2101 ?_
  refine gl_mod C (y := yX12_timeByEvents) (as := [.int (xs (Int32.toNatClampNeg (i + 1)))]) (by decide) (by decide) (c_timeByEvents l D (K 0) (K 3) mo (m_ad mo) (xs (Int32.toNatClampNeg (i + 1))) t _ hp) hy_timeByEvents rfl vq_279 cu_timeByEvents dL_law_2102 (Nat.le_of_ble_eq_true rfl) (fun v t1 ns1 hq hns1 => ?_)
  obtain ⟨r, rfl, hq1, hq2, hI9⟩ := hq
  have hI9 := Sm.rs _ _ _ ns1 hI9 hns1
  refine gl_istore C [(6, .int r), (5, .int k), (4, .int i), (3, .ref ao), (2, .ref mo), (1, .ref o), (0, .ref b)] dL_law_2105 (by decide) rfl ?_
  refine gl_aloadn C 4 2 dL_law_2107 rfl rfl ?_
  refine gl_mod C (y := yX12_thrown) (as := []) (by decide) (by decide) (c_thrown l D (K 0) (K 3) mo (m_ad mo) t1) hy_thrown rfl vq_184 cu_thrown dL_law_2108 (Nat.le_of_ble_eq_true rfl) (fun v t2 ns2 hq hns2 => ?_)
  obtain ⟨r2, rfl, rfl, rfl⟩ := hq
  have hI9 := Sm.rs _ _ _ ns2 hI9 hns2
  refine gl_iload C 1 dL_law_2111 rfl ?_
  refine gl_icmp_eq C 2118 dL_law_2113 (by decide) (fun c1 => ?_) (fun c1 => absurd hq1 c1)
  refine gl_iload C 1 dL_law_2118 rfl ?_
  have kend : GL p l e s m b below meth c D K E0 mo ao Q (rsz (rsz S1 (szC S1) ns1) (szC (rsz S1 (szC S1) ns1)) ns2) ov1 t1 2135 [(6, .int r), (5, .int k), (4, .int i), (3, .ref ao), (2, .ref mo), (1, .ref o), (0, .ref b)] [] := by
    refine gl_goto C 3755 dL_law_2135 (by decide) ?_
    refine gl_sub [2, 3, 4, 5, 6] rfl ?_
    exact kk _ _ _ hI9
  refine gl_if_ne C 2135 dL_law_2120 (by decide) (fun _ => kend) (fun c2 => ?_)
  refine gl_aloadn C 3 3 dL_law_2123 rfl rfl ?_
  refine gl_iconst C 0 dL_law_2124 (by decide) ?_
  refine gl_out C dL_law_2125 ?_
  refine gl_iload C 0 dL_law_2126 rfl ?_
  refine gl_i2l C dL_law_2128 ?_
  exact gl_lcmpeq C 2135 dL_law_2129 dL_law_2130 (by decide) (fun _ => kend) (fun c3 => absurd (hq2 c2) c3)
theorem lc_28 (C : lx_Cx p l s m b c meth L xs D K E0 mo ao) {o : Nat} {I : Nat → CS → MS → Prop} (Sm : Sim (lB s) o I) {i : Int32} (hin : vp_in (i + 1) L ∧ vp_in (i + 2) L ∧ vp_in (i + 3) L ∧ vp_in (i + 4) L ∧ vp_in (i + 5) L ∧ vp_in (i + 6) L) {n : Nat} {S : CS} {t : MS} {ov : Nat → Int64} (h : I (n + 1) S t) (kk : ∀ (ov1 : Nat → Int64) (S1 : CS) (t1 : MS), I n S1 t1 → GL p l e s m b below meth c D K E0 mo ao Q S1 ov1 t1 3755 [(4, .int i), (3, .ref ao), (2, .ref mo), (1, .ref o), (0, .ref b)] []) : GL p l e s m b below meth c D K E0 mo ao Q S ov t 2138 [(4, .int i), (3, .ref ao), (2, .ref mo), (1, .ref o), (0, .ref b)] [] := by
  refine gl_aloadn C 3 1 dL_law_2138 rfl rfl ?_
  obtain ⟨B1, hB, hw⟩ := Sm.sounds n S t h
  refine gl_cls C (y := yX11_sounds) (as := []) B1 hB.1 hB.2 (by decide) (by decide) (c_X11_sounds l D K E0 B1 _ o S _ _ hw) hk_X11_sounds rfl vl_L_280 kc_X11_sounds (isC_of (Sm.kd _ _ _ h) (by decide)) dL_law_2139 (Nat.le_of_ble_eq_true rfl) (fun v S1 hp hz1 hz2 => ?_)
  obtain ⟨k, rfl, hp⟩ := hp
  have hp := hp hz1 hz2
  refine gl_aloadn C 2 2 dL_law_2142 rfl rfl ?_
  refine gl_mod C (y := yX12_sounds) (as := []) (by decide) (by decide) (c_sounds l D (K 0) (K 3) mo (m_ad mo) t _ hp) hy_sounds rfl vq_283 cu_sounds dL_law_2143 (Nat.le_of_ble_eq_true rfl) (fun v t1 ns1 hq hns1 => ?_)
  obtain ⟨r, rfl, hq1, hI9⟩ := hq
  have hI9 := Sm.rs _ _ _ ns1 hI9 hns1
  refine gl_icmp_eq C 3755 dL_law_2146 (by decide) (fun c1 => ?_) (fun c1 => absurd hq1 c1)
  exact kk _ _ _ hI9
theorem lc_29 (C : lx_Cx p l s m b c meth L xs D K E0 mo ao) {o : Nat} {I : Nat → CS → MS → Prop} (Sm : Sim (lB s) o I) {i : Int32} (hin : vp_in (i + 1) L ∧ vp_in (i + 2) L ∧ vp_in (i + 3) L ∧ vp_in (i + 4) L ∧ vp_in (i + 5) L ∧ vp_in (i + 6) L) {n : Nat} {S : CS} {t : MS} {ov : Nat → Int64} (h : I (n + 1) S t) (kk : ∀ (ov1 : Nat → Int64) (S1 : CS) (t1 : MS), I n S1 t1 → GL p l e s m b below meth c D K E0 mo ao Q S1 ov1 t1 3755 [(4, .int i), (3, .ref ao), (2, .ref mo), (1, .ref o), (0, .ref b)] []) : GL p l e s m b below meth c D K E0 mo ao Q S ov t 2151 [(4, .int i), (3, .ref ao), (2, .ref mo), (1, .ref o), (0, .ref b)] [] := by
  refine gl_aloadn C 3 1 dL_law_2151 rfl rfl ?_
  refine gl_aloadn C 4 0 dL_law_2152 rfl rfl ?_
  refine gl_iload C 0 dL_law_2153 rfl ?_
  refine gl_iconst C 1 dL_law_2155 (by decide) ?_
  refine gl_iadd C dL_law_2156 ?_
  refine gl_scr C hin.1 dL_law_2157 ?_
  refine gl_aloadn C 1 3 dL_law_2158 rfl rfl ?_
  obtain ⟨B1, hB, hw⟩ := Sm.soundVoice n S t ov (xs (Int32.toNatClampNeg (i + 1))) h
  refine gl_wrap C (y := yL_soundVoice) (as := [.ref o, .int (xs (Int32.toNatClampNeg (i + 1))), .ref ao]) B1 hB.1 hB.2 (by decide) (by decide) (k_soundVoice l D K E0 B1 _ ao o (xs (Int32.toNatClampNeg (i + 1))) S ov _ (Sm.kd _ _ _ h) hw) hl_soundVoice rfl vw_284 kl_soundVoice dL_law_2159 (Nat.le_of_ble_eq_true rfl) (fun k ov1 S1 hp hz1 hz2 => ?_)
  have hp := hp hz1 hz2
  refine gl_istore C [(5, .int k), (4, .int i), (3, .ref ao), (2, .ref mo), (1, .ref o), (0, .ref b)] dL_law_2162 (by decide) rfl ?_
  refine gl_aloadn C 3 2 dL_law_2164 rfl rfl ?_
  refine gl_aloadn C 5 0 dL_law_2165 rfl rfl ?_
  refine gl_iload C 1 dL_law_2166 rfl ?_
  refine gl_iconst C 1 dL_law_2168 (by decide) ?_
  refine gl_iadd C dL_law_2169 ?_
  refine gl_scr C hin.1 dL_law_2170 ?_
  refine gl_mod C (y := yX12_soundVoice) (as := [.int (xs (Int32.toNatClampNeg (i + 1)))]) (by decide) (by decide) (c_soundVoice l D (K 0) (K 3) mo (m_ad mo) (xs (Int32.toNatClampNeg (i + 1))) t _ hp) hy_soundVoice rfl vq_286 cu_soundVoice dL_law_2171 (Nat.le_of_ble_eq_true rfl) (fun v t1 ns1 hq hns1 => ?_)
  obtain ⟨r, rfl, hq1, hq2, hI9⟩ := hq
  have hI9 := Sm.rs _ _ _ ns1 hI9 hns1
  refine gl_istore C [(6, .int r), (5, .int k), (4, .int i), (3, .ref ao), (2, .ref mo), (1, .ref o), (0, .ref b)] dL_law_2174 (by decide) rfl ?_
  refine gl_aloadn C 4 2 dL_law_2176 rfl rfl ?_
  refine gl_mod C (y := yX12_thrown) (as := []) (by decide) (by decide) (c_thrown l D (K 0) (K 3) mo (m_ad mo) t1) hy_thrown rfl vq_184 cu_thrown dL_law_2177 (Nat.le_of_ble_eq_true rfl) (fun v t2 ns2 hq hns2 => ?_)
  obtain ⟨r2, rfl, rfl, rfl⟩ := hq
  have hI9 := Sm.rs _ _ _ ns2 hI9 hns2
  refine gl_iload C 1 dL_law_2180 rfl ?_
  refine gl_icmp_eq C 2187 dL_law_2182 (by decide) (fun c1 => ?_) (fun c1 => absurd hq1 c1)
  refine gl_iload C 1 dL_law_2187 rfl ?_
  have kend : GL p l e s m b below meth c D K E0 mo ao Q (rsz (rsz S1 (szC S1) ns1) (szC (rsz S1 (szC S1) ns1)) ns2) ov1 t1 2204 [(6, .int r), (5, .int k), (4, .int i), (3, .ref ao), (2, .ref mo), (1, .ref o), (0, .ref b)] [] := by
    refine gl_goto C 3755 dL_law_2204 (by decide) ?_
    refine gl_sub [2, 3, 4, 5, 6] rfl ?_
    exact kk _ _ _ hI9
  refine gl_if_ne C 2204 dL_law_2189 (by decide) (fun _ => kend) (fun c2 => ?_)
  refine gl_aloadn C 3 3 dL_law_2192 rfl rfl ?_
  refine gl_iconst C 0 dL_law_2193 (by decide) ?_
  refine gl_out C dL_law_2194 ?_
  refine gl_iload C 0 dL_law_2195 rfl ?_
  refine gl_i2l C dL_law_2197 ?_
  exact gl_lcmpeq C 2204 dL_law_2198 dL_law_2199 (by decide) (fun _ => kend) (fun c3 => absurd (hq2 c2) c3)
theorem lc_30 (C : lx_Cx p l s m b c meth L xs D K E0 mo ao) {o : Nat} {I : Nat → CS → MS → Prop} (Sm : Sim (lB s) o I) {i : Int32} (hin : vp_in (i + 1) L ∧ vp_in (i + 2) L ∧ vp_in (i + 3) L ∧ vp_in (i + 4) L ∧ vp_in (i + 5) L ∧ vp_in (i + 6) L) {n : Nat} {S : CS} {t : MS} {ov : Nat → Int64} (h : I (n + 1) S t) (kk : ∀ (ov1 : Nat → Int64) (S1 : CS) (t1 : MS), I n S1 t1 → GL p l e s m b below meth c D K E0 mo ao Q S1 ov1 t1 3755 [(4, .int i), (3, .ref ao), (2, .ref mo), (1, .ref o), (0, .ref b)] []) : GL p l e s m b below meth c D K E0 mo ao Q S ov t 2207 [(4, .int i), (3, .ref ao), (2, .ref mo), (1, .ref o), (0, .ref b)] [] := by
  refine gl_aloadn C 3 1 dL_law_2207 rfl rfl ?_
  refine gl_aloadn C 4 0 dL_law_2208 rfl rfl ?_
  refine gl_iload C 0 dL_law_2209 rfl ?_
  refine gl_iconst C 1 dL_law_2211 (by decide) ?_
  refine gl_iadd C dL_law_2212 ?_
  refine gl_scr C hin.1 dL_law_2213 ?_
  refine gl_aloadn C 1 3 dL_law_2214 rfl rfl ?_
  obtain ⟨B1, hB, hw⟩ := Sm.soundStart n S t ov (xs (Int32.toNatClampNeg (i + 1))) h
  refine gl_wrap C (y := yL_soundStart) (as := [.ref o, .int (xs (Int32.toNatClampNeg (i + 1))), .ref ao]) B1 hB.1 hB.2 (by decide) (by decide) (k_soundStart l D K E0 B1 _ ao o (xs (Int32.toNatClampNeg (i + 1))) S ov _ (Sm.kd _ _ _ h) hw) hl_soundStart rfl vw_287 kl_soundStart dL_law_2215 (Nat.le_of_ble_eq_true rfl) (fun k ov1 S1 hp hz1 hz2 => ?_)
  have hp := hp hz1 hz2
  refine gl_istore C [(5, .int k), (4, .int i), (3, .ref ao), (2, .ref mo), (1, .ref o), (0, .ref b)] dL_law_2218 (by decide) rfl ?_
  refine gl_aloadn C 3 2 dL_law_2220 rfl rfl ?_
  refine gl_aloadn C 5 0 dL_law_2221 rfl rfl ?_
  refine gl_iload C 1 dL_law_2222 rfl ?_
  refine gl_iconst C 1 dL_law_2224 (by decide) ?_
  refine gl_iadd C dL_law_2225 ?_
  refine gl_scr C hin.1 dL_law_2226 ?_
  refine gl_mod C (y := yX12_soundStart) (as := [.int (xs (Int32.toNatClampNeg (i + 1)))]) (by decide) (by decide) (c_soundStart l D (K 0) (K 3) mo (m_ad mo) (xs (Int32.toNatClampNeg (i + 1))) t _ hp) hy_soundStart rfl vq_289 cu_soundStart dL_law_2227 (Nat.le_of_ble_eq_true rfl) (fun v t1 ns1 hq hns1 => ?_)
  obtain ⟨r, rfl, hq1, hq2, hI9⟩ := hq
  have hI9 := Sm.rs _ _ _ ns1 hI9 hns1
  refine gl_istore C [(6, .int r), (5, .int k), (4, .int i), (3, .ref ao), (2, .ref mo), (1, .ref o), (0, .ref b)] dL_law_2230 (by decide) rfl ?_
  refine gl_aloadn C 4 2 dL_law_2232 rfl rfl ?_
  refine gl_mod C (y := yX12_thrown) (as := []) (by decide) (by decide) (c_thrown l D (K 0) (K 3) mo (m_ad mo) t1) hy_thrown rfl vq_184 cu_thrown dL_law_2233 (Nat.le_of_ble_eq_true rfl) (fun v t2 ns2 hq hns2 => ?_)
  obtain ⟨r2, rfl, rfl, rfl⟩ := hq
  have hI9 := Sm.rs _ _ _ ns2 hI9 hns2
  refine gl_iload C 1 dL_law_2236 rfl ?_
  refine gl_icmp_eq C 2243 dL_law_2238 (by decide) (fun c1 => ?_) (fun c1 => absurd hq1 c1)
  refine gl_iload C 1 dL_law_2243 rfl ?_
  have kend : GL p l e s m b below meth c D K E0 mo ao Q (rsz (rsz S1 (szC S1) ns1) (szC (rsz S1 (szC S1) ns1)) ns2) ov1 t1 2260 [(6, .int r), (5, .int k), (4, .int i), (3, .ref ao), (2, .ref mo), (1, .ref o), (0, .ref b)] [] := by
    refine gl_goto C 3755 dL_law_2260 (by decide) ?_
    refine gl_sub [2, 3, 4, 5, 6] rfl ?_
    exact kk _ _ _ hI9
  refine gl_if_ne C 2260 dL_law_2245 (by decide) (fun _ => kend) (fun c2 => ?_)
  refine gl_aloadn C 3 3 dL_law_2248 rfl rfl ?_
  refine gl_iconst C 0 dL_law_2249 (by decide) ?_
  refine gl_out C dL_law_2250 ?_
  refine gl_iload C 0 dL_law_2251 rfl ?_
  refine gl_i2l C dL_law_2253 ?_
  exact gl_lcmpeq C 2260 dL_law_2254 dL_law_2255 (by decide) (fun _ => kend) (fun c3 => absurd (hq2 c2) c3)
theorem lc_31 (C : lx_Cx p l s m b c meth L xs D K E0 mo ao) {o : Nat} {I : Nat → CS → MS → Prop} (Sm : Sim (lB s) o I) {i : Int32} (hin : vp_in (i + 1) L ∧ vp_in (i + 2) L ∧ vp_in (i + 3) L ∧ vp_in (i + 4) L ∧ vp_in (i + 5) L ∧ vp_in (i + 6) L) {n : Nat} {S : CS} {t : MS} {ov : Nat → Int64} (h : I (n + 1) S t) (kk : ∀ (ov1 : Nat → Int64) (S1 : CS) (t1 : MS), I n S1 t1 → GL p l e s m b below meth c D K E0 mo ao Q S1 ov1 t1 3755 [(4, .int i), (3, .ref ao), (2, .ref mo), (1, .ref o), (0, .ref b)] []) : GL p l e s m b below meth c D K E0 mo ao Q S ov t 2263 [(4, .int i), (3, .ref ao), (2, .ref mo), (1, .ref o), (0, .ref b)] [] := by
  refine gl_aloadn C 3 1 dL_law_2263 rfl rfl ?_
  refine gl_aloadn C 4 0 dL_law_2264 rfl rfl ?_
  refine gl_iload C 0 dL_law_2265 rfl ?_
  refine gl_iconst C 1 dL_law_2267 (by decide) ?_
  refine gl_iadd C dL_law_2268 ?_
  refine gl_scr C hin.1 dL_law_2269 ?_
  refine gl_aloadn C 1 3 dL_law_2270 rfl rfl ?_
  obtain ⟨B1, hB, hw⟩ := Sm.soundTime n S t ov (xs (Int32.toNatClampNeg (i + 1))) h
  refine gl_wrap C (y := yL_soundTime) (as := [.ref o, .int (xs (Int32.toNatClampNeg (i + 1))), .ref ao]) B1 hB.1 hB.2 (by decide) (by decide) (k_soundTime l D K E0 B1 _ ao o (xs (Int32.toNatClampNeg (i + 1))) S ov _ (Sm.kd _ _ _ h) hw) hl_soundTime rfl vw_290 kl_soundTime dL_law_2271 (Nat.le_of_ble_eq_true rfl) (fun k ov1 S1 hp hz1 hz2 => ?_)
  have hp := hp hz1 hz2
  refine gl_istore C [(5, .int k), (4, .int i), (3, .ref ao), (2, .ref mo), (1, .ref o), (0, .ref b)] dL_law_2274 (by decide) rfl ?_
  refine gl_aloadn C 3 2 dL_law_2276 rfl rfl ?_
  refine gl_aloadn C 5 0 dL_law_2277 rfl rfl ?_
  refine gl_iload C 1 dL_law_2278 rfl ?_
  refine gl_iconst C 1 dL_law_2280 (by decide) ?_
  refine gl_iadd C dL_law_2281 ?_
  refine gl_scr C hin.1 dL_law_2282 ?_
  refine gl_mod C (y := yX12_soundTime) (as := [.int (xs (Int32.toNatClampNeg (i + 1)))]) (by decide) (by decide) (c_soundTime l D (K 0) (K 3) mo (m_ad mo) (xs (Int32.toNatClampNeg (i + 1))) t _ hp) hy_soundTime rfl vq_292 cu_soundTime dL_law_2283 (Nat.le_of_ble_eq_true rfl) (fun v t1 ns1 hq hns1 => ?_)
  obtain ⟨r, rfl, hq1, hq2, hI9⟩ := hq
  have hI9 := Sm.rs _ _ _ ns1 hI9 hns1
  refine gl_istore C [(6, .int r), (5, .int k), (4, .int i), (3, .ref ao), (2, .ref mo), (1, .ref o), (0, .ref b)] dL_law_2286 (by decide) rfl ?_
  refine gl_aloadn C 4 2 dL_law_2288 rfl rfl ?_
  refine gl_mod C (y := yX12_thrown) (as := []) (by decide) (by decide) (c_thrown l D (K 0) (K 3) mo (m_ad mo) t1) hy_thrown rfl vq_184 cu_thrown dL_law_2289 (Nat.le_of_ble_eq_true rfl) (fun v t2 ns2 hq hns2 => ?_)
  obtain ⟨r2, rfl, rfl, rfl⟩ := hq
  have hI9 := Sm.rs _ _ _ ns2 hI9 hns2
  refine gl_iload C 1 dL_law_2292 rfl ?_
  refine gl_icmp_eq C 2299 dL_law_2294 (by decide) (fun c1 => ?_) (fun c1 => absurd hq1 c1)
  refine gl_iload C 1 dL_law_2299 rfl ?_
  have kend : GL p l e s m b below meth c D K E0 mo ao Q (rsz (rsz S1 (szC S1) ns1) (szC (rsz S1 (szC S1) ns1)) ns2) ov1 t1 2316 [(6, .int r), (5, .int k), (4, .int i), (3, .ref ao), (2, .ref mo), (1, .ref o), (0, .ref b)] [] := by
    refine gl_goto C 3755 dL_law_2316 (by decide) ?_
    refine gl_sub [2, 3, 4, 5, 6] rfl ?_
    exact kk _ _ _ hI9
  refine gl_if_ne C 2316 dL_law_2301 (by decide) (fun _ => kend) (fun c2 => ?_)
  refine gl_aloadn C 3 3 dL_law_2304 rfl rfl ?_
  refine gl_iconst C 0 dL_law_2305 (by decide) ?_
  refine gl_out C dL_law_2306 ?_
  refine gl_iload C 0 dL_law_2307 rfl ?_
  refine gl_i2l C dL_law_2309 ?_
  exact gl_lcmpeq C 2316 dL_law_2310 dL_law_2311 (by decide) (fun _ => kend) (fun c3 => absurd (hq2 c2) c3)
theorem lc_32 (C : lx_Cx p l s m b c meth L xs D K E0 mo ao) {o : Nat} {I : Nat → CS → MS → Prop} (Sm : Sim (lB s) o I) {i : Int32} (hin : vp_in (i + 1) L ∧ vp_in (i + 2) L ∧ vp_in (i + 3) L ∧ vp_in (i + 4) L ∧ vp_in (i + 5) L ∧ vp_in (i + 6) L) {n : Nat} {S : CS} {t : MS} {ov : Nat → Int64} (h : I (n + 1) S t) (kk : ∀ (ov1 : Nat → Int64) (S1 : CS) (t1 : MS), I n S1 t1 → GL p l e s m b below meth c D K E0 mo ao Q S1 ov1 t1 3755 [(4, .int i), (3, .ref ao), (2, .ref mo), (1, .ref o), (0, .ref b)] []) : GL p l e s m b below meth c D K E0 mo ao Q S ov t 2319 [(4, .int i), (3, .ref ao), (2, .ref mo), (1, .ref o), (0, .ref b)] [] := by
  refine gl_aloadn C 3 1 dL_law_2319 rfl rfl ?_
  refine gl_aloadn C 4 0 dL_law_2320 rfl rfl ?_
  refine gl_iload C 0 dL_law_2321 rfl ?_
  refine gl_iconst C 1 dL_law_2323 (by decide) ?_
  refine gl_iadd C dL_law_2324 ?_
  refine gl_scr C hin.1 dL_law_2325 ?_
  refine gl_aloadn C 1 3 dL_law_2326 rfl rfl ?_
  obtain ⟨B1, hB, hw⟩ := Sm.soundPitch n S t ov (xs (Int32.toNatClampNeg (i + 1))) h
  refine gl_wrap C (y := yL_soundPitch) (as := [.ref o, .int (xs (Int32.toNatClampNeg (i + 1))), .ref ao]) B1 hB.1 hB.2 (by decide) (by decide) (k_soundPitch l D K E0 B1 _ ao o (xs (Int32.toNatClampNeg (i + 1))) S ov _ (Sm.kd _ _ _ h) hw) hl_soundPitch rfl vw_293 kl_soundPitch dL_law_2327 (Nat.le_of_ble_eq_true rfl) (fun k ov1 S1 hp hz1 hz2 => ?_)
  have hp := hp hz1 hz2
  refine gl_istore C [(5, .int k), (4, .int i), (3, .ref ao), (2, .ref mo), (1, .ref o), (0, .ref b)] dL_law_2330 (by decide) rfl ?_
  refine gl_aloadn C 3 2 dL_law_2332 rfl rfl ?_
  refine gl_aloadn C 5 0 dL_law_2333 rfl rfl ?_
  refine gl_iload C 1 dL_law_2334 rfl ?_
  refine gl_iconst C 1 dL_law_2336 (by decide) ?_
  refine gl_iadd C dL_law_2337 ?_
  refine gl_scr C hin.1 dL_law_2338 ?_
  refine gl_mod C (y := yX12_soundPitch) (as := [.int (xs (Int32.toNatClampNeg (i + 1)))]) (by decide) (by decide) (c_soundPitch l D (K 0) (K 3) mo (m_ad mo) (xs (Int32.toNatClampNeg (i + 1))) t _ hp) hy_soundPitch rfl vq_295 cu_soundPitch dL_law_2339 (Nat.le_of_ble_eq_true rfl) (fun v t1 ns1 hq hns1 => ?_)
  obtain ⟨r, rfl, hq1, hq2, hI9⟩ := hq
  have hI9 := Sm.rs _ _ _ ns1 hI9 hns1
  refine gl_istore C [(6, .int r), (5, .int k), (4, .int i), (3, .ref ao), (2, .ref mo), (1, .ref o), (0, .ref b)] dL_law_2342 (by decide) rfl ?_
  refine gl_aloadn C 4 2 dL_law_2344 rfl rfl ?_
  refine gl_mod C (y := yX12_thrown) (as := []) (by decide) (by decide) (c_thrown l D (K 0) (K 3) mo (m_ad mo) t1) hy_thrown rfl vq_184 cu_thrown dL_law_2345 (Nat.le_of_ble_eq_true rfl) (fun v t2 ns2 hq hns2 => ?_)
  obtain ⟨r2, rfl, rfl, rfl⟩ := hq
  have hI9 := Sm.rs _ _ _ ns2 hI9 hns2
  refine gl_iload C 1 dL_law_2348 rfl ?_
  refine gl_icmp_eq C 2355 dL_law_2350 (by decide) (fun c1 => ?_) (fun c1 => absurd hq1 c1)
  refine gl_iload C 1 dL_law_2355 rfl ?_
  have kend : GL p l e s m b below meth c D K E0 mo ao Q (rsz (rsz S1 (szC S1) ns1) (szC (rsz S1 (szC S1) ns1)) ns2) ov1 t1 2372 [(6, .int r), (5, .int k), (4, .int i), (3, .ref ao), (2, .ref mo), (1, .ref o), (0, .ref b)] [] := by
    refine gl_goto C 3755 dL_law_2372 (by decide) ?_
    refine gl_sub [2, 3, 4, 5, 6] rfl ?_
    exact kk _ _ _ hI9
  refine gl_if_ne C 2372 dL_law_2357 (by decide) (fun _ => kend) (fun c2 => ?_)
  refine gl_aloadn C 3 3 dL_law_2360 rfl rfl ?_
  refine gl_iconst C 0 dL_law_2361 (by decide) ?_
  refine gl_out C dL_law_2362 ?_
  refine gl_iload C 0 dL_law_2363 rfl ?_
  refine gl_i2l C dL_law_2365 ?_
  exact gl_lcmpeq C 2372 dL_law_2366 dL_law_2367 (by decide) (fun _ => kend) (fun c3 => absurd (hq2 c2) c3)
theorem lc_33 (C : lx_Cx p l s m b c meth L xs D K E0 mo ao) {o : Nat} {I : Nat → CS → MS → Prop} (Sm : Sim (lB s) o I) {i : Int32} (hin : vp_in (i + 1) L ∧ vp_in (i + 2) L ∧ vp_in (i + 3) L ∧ vp_in (i + 4) L ∧ vp_in (i + 5) L ∧ vp_in (i + 6) L) {n : Nat} {S : CS} {t : MS} {ov : Nat → Int64} (h : I (n + 1) S t) (kk : ∀ (ov1 : Nat → Int64) (S1 : CS) (t1 : MS), I n S1 t1 → GL p l e s m b below meth c D K E0 mo ao Q S1 ov1 t1 3755 [(4, .int i), (3, .ref ao), (2, .ref mo), (1, .ref o), (0, .ref b)] []) : GL p l e s m b below meth c D K E0 mo ao Q S ov t 2375 [(4, .int i), (3, .ref ao), (2, .ref mo), (1, .ref o), (0, .ref b)] [] := by
  refine gl_aloadn C 3 1 dL_law_2375 rfl rfl ?_
  refine gl_aloadn C 4 0 dL_law_2376 rfl rfl ?_
  refine gl_iload C 0 dL_law_2377 rfl ?_
  refine gl_iconst C 1 dL_law_2379 (by decide) ?_
  refine gl_iadd C dL_law_2380 ?_
  refine gl_scr C hin.1 dL_law_2381 ?_
  refine gl_aloadn C 1 3 dL_law_2382 rfl rfl ?_
  obtain ⟨B1, hB, hw⟩ := Sm.loudness n S t ov (xs (Int32.toNatClampNeg (i + 1))) h
  refine gl_wrap C (y := yL_loudness) (as := [.ref o, .int (xs (Int32.toNatClampNeg (i + 1))), .ref ao]) B1 hB.1 hB.2 (by decide) (by decide) (k_loudness l D K E0 B1 _ ao o (xs (Int32.toNatClampNeg (i + 1))) S ov _ (Sm.kd _ _ _ h) hw) hl_loudness rfl vw_296 kl_loudness dL_law_2383 (Nat.le_of_ble_eq_true rfl) (fun k ov1 S1 hp hz1 hz2 => ?_)
  have hp := hp hz1 hz2
  refine gl_istore C [(5, .int k), (4, .int i), (3, .ref ao), (2, .ref mo), (1, .ref o), (0, .ref b)] dL_law_2386 (by decide) rfl ?_
  refine gl_aloadn C 3 2 dL_law_2388 rfl rfl ?_
  refine gl_aloadn C 5 0 dL_law_2389 rfl rfl ?_
  refine gl_iload C 1 dL_law_2390 rfl ?_
  refine gl_iconst C 1 dL_law_2392 (by decide) ?_
  refine gl_iadd C dL_law_2393 ?_
  refine gl_scr C hin.1 dL_law_2394 ?_
  refine gl_mod C (y := yX12_loudness) (as := [.int (xs (Int32.toNatClampNeg (i + 1)))]) (by decide) (by decide) (c_loudness l D (K 0) (K 3) mo (m_ad mo) (xs (Int32.toNatClampNeg (i + 1))) t _ hp) hy_loudness rfl vq_298 cu_loudness dL_law_2395 (Nat.le_of_ble_eq_true rfl) (fun v t1 ns1 hq hns1 => ?_)
  obtain ⟨r, rfl, hq1, hq2, hI9⟩ := hq
  have hI9 := Sm.rs _ _ _ ns1 hI9 hns1
  refine gl_istore C [(6, .int r), (5, .int k), (4, .int i), (3, .ref ao), (2, .ref mo), (1, .ref o), (0, .ref b)] dL_law_2398 (by decide) rfl ?_
  refine gl_aloadn C 4 2 dL_law_2400 rfl rfl ?_
  refine gl_mod C (y := yX12_thrown) (as := []) (by decide) (by decide) (c_thrown l D (K 0) (K 3) mo (m_ad mo) t1) hy_thrown rfl vq_184 cu_thrown dL_law_2401 (Nat.le_of_ble_eq_true rfl) (fun v t2 ns2 hq hns2 => ?_)
  obtain ⟨r2, rfl, rfl, rfl⟩ := hq
  have hI9 := Sm.rs _ _ _ ns2 hI9 hns2
  refine gl_iload C 1 dL_law_2404 rfl ?_
  refine gl_icmp_eq C 2411 dL_law_2406 (by decide) (fun c1 => ?_) (fun c1 => absurd hq1 c1)
  refine gl_iload C 1 dL_law_2411 rfl ?_
  have kend : GL p l e s m b below meth c D K E0 mo ao Q (rsz (rsz S1 (szC S1) ns1) (szC (rsz S1 (szC S1) ns1)) ns2) ov1 t1 2428 [(6, .int r), (5, .int k), (4, .int i), (3, .ref ao), (2, .ref mo), (1, .ref o), (0, .ref b)] [] := by
    refine gl_goto C 3755 dL_law_2428 (by decide) ?_
    refine gl_sub [2, 3, 4, 5, 6] rfl ?_
    exact kk _ _ _ hI9
  refine gl_if_ne C 2428 dL_law_2413 (by decide) (fun _ => kend) (fun c2 => ?_)
  refine gl_aloadn C 3 3 dL_law_2416 rfl rfl ?_
  refine gl_iconst C 0 dL_law_2417 (by decide) ?_
  refine gl_out C dL_law_2418 ?_
  refine gl_iload C 0 dL_law_2419 rfl ?_
  refine gl_i2l C dL_law_2421 ?_
  exact gl_lcmpeq C 2428 dL_law_2422 dL_law_2423 (by decide) (fun _ => kend) (fun c3 => absurd (hq2 c2) c3)
theorem lc_34 (C : lx_Cx p l s m b c meth L xs D K E0 mo ao) {o : Nat} {I : Nat → CS → MS → Prop} (Sm : Sim (lB s) o I) {i : Int32} (hin : vp_in (i + 1) L ∧ vp_in (i + 2) L ∧ vp_in (i + 3) L ∧ vp_in (i + 4) L ∧ vp_in (i + 5) L ∧ vp_in (i + 6) L) {n : Nat} {S : CS} {t : MS} {ov : Nat → Int64} (h : I (n + 1) S t) (kk : ∀ (ov1 : Nat → Int64) (S1 : CS) (t1 : MS), I n S1 t1 → GL p l e s m b below meth c D K E0 mo ao Q S1 ov1 t1 3755 [(4, .int i), (3, .ref ao), (2, .ref mo), (1, .ref o), (0, .ref b)] []) : GL p l e s m b below meth c D K E0 mo ao Q S ov t 2431 [(4, .int i), (3, .ref ao), (2, .ref mo), (1, .ref o), (0, .ref b)] [] := by
  refine gl_aloadn C 3 1 dL_law_2431 rfl rfl ?_
  refine gl_aloadn C 4 0 dL_law_2432 rfl rfl ?_
  refine gl_iload C 0 dL_law_2433 rfl ?_
  refine gl_iconst C 1 dL_law_2435 (by decide) ?_
  refine gl_iadd C dL_law_2436 ?_
  refine gl_scr C hin.1 dL_law_2437 ?_
  refine gl_aloadn C 4 0 dL_law_2438 rfl rfl ?_
  refine gl_iload C 0 dL_law_2439 rfl ?_
  refine gl_iconst C 2 dL_law_2441 (by decide) ?_
  refine gl_iadd C dL_law_2442 ?_
  refine gl_scr C hin.2.1 dL_law_2443 ?_
  refine gl_aloadn C 4 0 dL_law_2444 rfl rfl ?_
  refine gl_iload C 0 dL_law_2445 rfl ?_
  refine gl_iconst C 3 dL_law_2447 (by decide) ?_
  refine gl_iadd C dL_law_2448 ?_
  refine gl_scr C hin.2.2.1 dL_law_2449 ?_
  obtain ⟨B1, hB, hw⟩ := Sm.setPaper n S t ov (xs (Int32.toNatClampNeg (i + 1))) (xs (Int32.toNatClampNeg (i + 2))) (xs (Int32.toNatClampNeg (i + 3))) h
  refine gl_wrap C (y := yL_setPaper) (as := [.ref o, .int (xs (Int32.toNatClampNeg (i + 1))), .int (xs (Int32.toNatClampNeg (i + 2))), .int (xs (Int32.toNatClampNeg (i + 3)))]) B1 hB.1 hB.2 (by decide) (by decide) (k_setPaper l D K E0 B1 _ ao o (xs (Int32.toNatClampNeg (i + 1))) (xs (Int32.toNatClampNeg (i + 2))) (xs (Int32.toNatClampNeg (i + 3))) S ov _ (Sm.kd _ _ _ h) hw) hl_setPaper rfl vw_299 kl_setPaper dL_law_2450 (Nat.le_of_ble_eq_true rfl) (fun k ov1 S1 hp hz1 hz2 => ?_)
  have hp := hp hz1 hz2
  refine gl_istore C [(5, .int k), (4, .int i), (3, .ref ao), (2, .ref mo), (1, .ref o), (0, .ref b)] dL_law_2453 (by decide) rfl ?_
  refine gl_aloadn C 3 2 dL_law_2455 rfl rfl ?_
  refine gl_aloadn C 5 0 dL_law_2456 rfl rfl ?_
  refine gl_iload C 1 dL_law_2457 rfl ?_
  refine gl_iconst C 1 dL_law_2459 (by decide) ?_
  refine gl_iadd C dL_law_2460 ?_
  refine gl_scr C hin.1 dL_law_2461 ?_
  refine gl_aloadn C 5 0 dL_law_2462 rfl rfl ?_
  refine gl_iload C 1 dL_law_2463 rfl ?_
  refine gl_iconst C 2 dL_law_2465 (by decide) ?_
  refine gl_iadd C dL_law_2466 ?_
  refine gl_scr C hin.2.1 dL_law_2467 ?_
  refine gl_aloadn C 5 0 dL_law_2468 rfl rfl ?_
  refine gl_iload C 1 dL_law_2469 rfl ?_
  refine gl_iconst C 3 dL_law_2471 (by decide) ?_
  refine gl_iadd C dL_law_2472 ?_
  refine gl_scr C hin.2.2.1 dL_law_2473 ?_
  refine gl_mod C (y := yX12_setPaper) (as := [.int (xs (Int32.toNatClampNeg (i + 1))), .int (xs (Int32.toNatClampNeg (i + 2))), .int (xs (Int32.toNatClampNeg (i + 3)))]) (by decide) (by decide) (c_setPaper l D (K 0) (K 3) mo (m_ad mo) (xs (Int32.toNatClampNeg (i + 1))) (xs (Int32.toNatClampNeg (i + 2))) (xs (Int32.toNatClampNeg (i + 3))) t _ hp) hy_setPaper rfl vq_302 cu_setPaper dL_law_2474 (Nat.le_of_ble_eq_true rfl) (fun v t1 ns1 hq hns1 => ?_)
  obtain ⟨rfl, hq1, hI9⟩ := hq
  have hI9 := Sm.rs _ _ _ ns1 hI9 hns1
  refine gl_aloadn C 3 2 dL_law_2477 rfl rfl ?_
  refine gl_mod C (y := yX12_thrown) (as := []) (by decide) (by decide) (c_thrown l D (K 0) (K 3) mo (m_ad mo) t1) hy_thrown rfl vq_184 cu_thrown dL_law_2478 (Nat.le_of_ble_eq_true rfl) (fun v t2 ns2 hq hns2 => ?_)
  obtain ⟨r2, rfl, rfl, rfl⟩ := hq
  have hI9 := Sm.rs _ _ _ ns2 hI9 hns2
  refine gl_iload C 0 dL_law_2481 rfl ?_
  refine gl_icmp_eq C 2488 dL_law_2483 (by decide) (fun c1 => ?_) (fun c1 => absurd hq1 c1)
  refine gl_goto C 3755 dL_law_2488 (by decide) ?_
  refine gl_sub [1, 2, 3, 4, 5] rfl ?_
  exact kk _ _ _ hI9
theorem lc_35 (C : lx_Cx p l s m b c meth L xs D K E0 mo ao) {o : Nat} {I : Nat → CS → MS → Prop} (Sm : Sim (lB s) o I) {i : Int32} (hin : vp_in (i + 1) L ∧ vp_in (i + 2) L ∧ vp_in (i + 3) L ∧ vp_in (i + 4) L ∧ vp_in (i + 5) L ∧ vp_in (i + 6) L) {n : Nat} {S : CS} {t : MS} {ov : Nat → Int64} (h : I (n + 1) S t) (kk : ∀ (ov1 : Nat → Int64) (S1 : CS) (t1 : MS), I n S1 t1 → GL p l e s m b below meth c D K E0 mo ao Q S1 ov1 t1 3755 [(4, .int i), (3, .ref ao), (2, .ref mo), (1, .ref o), (0, .ref b)] []) : GL p l e s m b below meth c D K E0 mo ao Q S ov t 2491 [(4, .int i), (3, .ref ao), (2, .ref mo), (1, .ref o), (0, .ref b)] [] := by
  refine gl_aloadn C 3 1 dL_law_2491 rfl rfl ?_
  refine gl_aloadn C 4 0 dL_law_2492 rfl rfl ?_
  refine gl_iload C 0 dL_law_2493 rfl ?_
  refine gl_iconst C 1 dL_law_2495 (by decide) ?_
  refine gl_iadd C dL_law_2496 ?_
  refine gl_scr C hin.1 dL_law_2497 ?_
  refine gl_aloadn C 1 3 dL_law_2498 rfl rfl ?_
  obtain ⟨B1, hB, hw⟩ := Sm.items n S t ov (xs (Int32.toNatClampNeg (i + 1))) h
  refine gl_wrap C (y := yL_items) (as := [.ref o, .int (xs (Int32.toNatClampNeg (i + 1))), .ref ao]) B1 hB.1 hB.2 (by decide) (by decide) (k_items l D K E0 B1 _ ao o (xs (Int32.toNatClampNeg (i + 1))) S ov _ (Sm.kd _ _ _ h) hw) hl_items rfl vw_303 kl_items dL_law_2499 (Nat.le_of_ble_eq_true rfl) (fun k ov1 S1 hp hz1 hz2 => ?_)
  have hp := hp hz1 hz2
  refine gl_istore C [(5, .int k), (4, .int i), (3, .ref ao), (2, .ref mo), (1, .ref o), (0, .ref b)] dL_law_2502 (by decide) rfl ?_
  refine gl_aloadn C 3 2 dL_law_2504 rfl rfl ?_
  refine gl_aloadn C 5 0 dL_law_2505 rfl rfl ?_
  refine gl_iload C 1 dL_law_2506 rfl ?_
  refine gl_iconst C 1 dL_law_2508 (by decide) ?_
  refine gl_iadd C dL_law_2509 ?_
  refine gl_scr C hin.1 dL_law_2510 ?_
  refine gl_mod C (y := yX12_items) (as := [.int (xs (Int32.toNatClampNeg (i + 1)))]) (by decide) (by decide) (c_items l D (K 0) (K 3) mo (m_ad mo) (xs (Int32.toNatClampNeg (i + 1))) t _ hp) hy_items rfl vq_305 cu_items dL_law_2511 (Nat.le_of_ble_eq_true rfl) (fun v t1 ns1 hq hns1 => ?_)
  obtain ⟨r, rfl, hq1, hq2, hI9⟩ := hq
  have hI9 := Sm.rs _ _ _ ns1 hI9 hns1
  refine gl_istore C [(6, .int r), (5, .int k), (4, .int i), (3, .ref ao), (2, .ref mo), (1, .ref o), (0, .ref b)] dL_law_2514 (by decide) rfl ?_
  refine gl_aloadn C 4 2 dL_law_2516 rfl rfl ?_
  refine gl_mod C (y := yX12_thrown) (as := []) (by decide) (by decide) (c_thrown l D (K 0) (K 3) mo (m_ad mo) t1) hy_thrown rfl vq_184 cu_thrown dL_law_2517 (Nat.le_of_ble_eq_true rfl) (fun v t2 ns2 hq hns2 => ?_)
  obtain ⟨r2, rfl, rfl, rfl⟩ := hq
  have hI9 := Sm.rs _ _ _ ns2 hI9 hns2
  refine gl_iload C 1 dL_law_2520 rfl ?_
  refine gl_icmp_eq C 2527 dL_law_2522 (by decide) (fun c1 => ?_) (fun c1 => absurd hq1 c1)
  refine gl_iload C 1 dL_law_2527 rfl ?_
  have kend : GL p l e s m b below meth c D K E0 mo ao Q (rsz (rsz S1 (szC S1) ns1) (szC (rsz S1 (szC S1) ns1)) ns2) ov1 t1 2544 [(6, .int r), (5, .int k), (4, .int i), (3, .ref ao), (2, .ref mo), (1, .ref o), (0, .ref b)] [] := by
    refine gl_goto C 3755 dL_law_2544 (by decide) ?_
    refine gl_sub [2, 3, 4, 5, 6] rfl ?_
    exact kk _ _ _ hI9
  refine gl_if_ne C 2544 dL_law_2529 (by decide) (fun _ => kend) (fun c2 => ?_)
  refine gl_aloadn C 3 3 dL_law_2532 rfl rfl ?_
  refine gl_iconst C 0 dL_law_2533 (by decide) ?_
  refine gl_out C dL_law_2534 ?_
  refine gl_iload C 0 dL_law_2535 rfl ?_
  refine gl_i2l C dL_law_2537 ?_
  exact gl_lcmpeq C 2544 dL_law_2538 dL_law_2539 (by decide) (fun _ => kend) (fun c3 => absurd (hq2 c2) c3)
theorem lc_36 (C : lx_Cx p l s m b c meth L xs D K E0 mo ao) {o : Nat} {I : Nat → CS → MS → Prop} (Sm : Sim (lB s) o I) {i : Int32} (hin : vp_in (i + 1) L ∧ vp_in (i + 2) L ∧ vp_in (i + 3) L ∧ vp_in (i + 4) L ∧ vp_in (i + 5) L ∧ vp_in (i + 6) L) {n : Nat} {S : CS} {t : MS} {ov : Nat → Int64} (h : I (n + 1) S t) (kk : ∀ (ov1 : Nat → Int64) (S1 : CS) (t1 : MS), I n S1 t1 → GL p l e s m b below meth c D K E0 mo ao Q S1 ov1 t1 3755 [(4, .int i), (3, .ref ao), (2, .ref mo), (1, .ref o), (0, .ref b)] []) : GL p l e s m b below meth c D K E0 mo ao Q S ov t 2547 [(4, .int i), (3, .ref ao), (2, .ref mo), (1, .ref o), (0, .ref b)] [] := by
  refine gl_aloadn C 3 1 dL_law_2547 rfl rfl ?_
  refine gl_aloadn C 4 0 dL_law_2548 rfl rfl ?_
  refine gl_iload C 0 dL_law_2549 rfl ?_
  refine gl_iconst C 1 dL_law_2551 (by decide) ?_
  refine gl_iadd C dL_law_2552 ?_
  refine gl_scr C hin.1 dL_law_2553 ?_
  refine gl_aloadn C 4 0 dL_law_2554 rfl rfl ?_
  refine gl_iload C 0 dL_law_2555 rfl ?_
  refine gl_iconst C 2 dL_law_2557 (by decide) ?_
  refine gl_iadd C dL_law_2558 ?_
  refine gl_scr C hin.2.1 dL_law_2559 ?_
  refine gl_aloadn C 1 3 dL_law_2560 rfl rfl ?_
  obtain ⟨B1, hB, hw⟩ := Sm.itemKind n S t ov (xs (Int32.toNatClampNeg (i + 1))) (xs (Int32.toNatClampNeg (i + 2))) h
  refine gl_wrap C (y := yL_itemKind) (as := [.ref o, .int (xs (Int32.toNatClampNeg (i + 1))), .int (xs (Int32.toNatClampNeg (i + 2))), .ref ao]) B1 hB.1 hB.2 (by decide) (by decide) (k_itemKind l D K E0 B1 _ ao o (xs (Int32.toNatClampNeg (i + 1))) (xs (Int32.toNatClampNeg (i + 2))) S ov _ (Sm.kd _ _ _ h) hw) hl_itemKind rfl vw_306 kl_itemKind dL_law_2561 (Nat.le_of_ble_eq_true rfl) (fun k ov1 S1 hp hz1 hz2 => ?_)
  have hp := hp hz1 hz2
  refine gl_istore C [(5, .int k), (4, .int i), (3, .ref ao), (2, .ref mo), (1, .ref o), (0, .ref b)] dL_law_2564 (by decide) rfl ?_
  refine gl_aloadn C 3 2 dL_law_2566 rfl rfl ?_
  refine gl_aloadn C 5 0 dL_law_2567 rfl rfl ?_
  refine gl_iload C 1 dL_law_2568 rfl ?_
  refine gl_iconst C 1 dL_law_2570 (by decide) ?_
  refine gl_iadd C dL_law_2571 ?_
  refine gl_scr C hin.1 dL_law_2572 ?_
  refine gl_aloadn C 5 0 dL_law_2573 rfl rfl ?_
  refine gl_iload C 1 dL_law_2574 rfl ?_
  refine gl_iconst C 2 dL_law_2576 (by decide) ?_
  refine gl_iadd C dL_law_2577 ?_
  refine gl_scr C hin.2.1 dL_law_2578 ?_
  refine gl_mod C (y := yX12_itemKind) (as := [.int (xs (Int32.toNatClampNeg (i + 1))), .int (xs (Int32.toNatClampNeg (i + 2)))]) (by decide) (by decide) (c_itemKind l D (K 0) (K 3) mo (m_ad mo) (xs (Int32.toNatClampNeg (i + 1))) (xs (Int32.toNatClampNeg (i + 2))) t _ hp) hy_itemKind rfl vq_308 cu_itemKind dL_law_2579 (Nat.le_of_ble_eq_true rfl) (fun v t1 ns1 hq hns1 => ?_)
  obtain ⟨r, rfl, hq1, hq2, hI9⟩ := hq
  have hI9 := Sm.rs _ _ _ ns1 hI9 hns1
  refine gl_istore C [(6, .int r), (5, .int k), (4, .int i), (3, .ref ao), (2, .ref mo), (1, .ref o), (0, .ref b)] dL_law_2582 (by decide) rfl ?_
  refine gl_aloadn C 4 2 dL_law_2584 rfl rfl ?_
  refine gl_mod C (y := yX12_thrown) (as := []) (by decide) (by decide) (c_thrown l D (K 0) (K 3) mo (m_ad mo) t1) hy_thrown rfl vq_184 cu_thrown dL_law_2585 (Nat.le_of_ble_eq_true rfl) (fun v t2 ns2 hq hns2 => ?_)
  obtain ⟨r2, rfl, rfl, rfl⟩ := hq
  have hI9 := Sm.rs _ _ _ ns2 hI9 hns2
  refine gl_iload C 1 dL_law_2588 rfl ?_
  refine gl_icmp_eq C 2595 dL_law_2590 (by decide) (fun c1 => ?_) (fun c1 => absurd hq1 c1)
  refine gl_iload C 1 dL_law_2595 rfl ?_
  have kend : GL p l e s m b below meth c D K E0 mo ao Q (rsz (rsz S1 (szC S1) ns1) (szC (rsz S1 (szC S1) ns1)) ns2) ov1 t1 2612 [(6, .int r), (5, .int k), (4, .int i), (3, .ref ao), (2, .ref mo), (1, .ref o), (0, .ref b)] [] := by
    refine gl_goto C 3755 dL_law_2612 (by decide) ?_
    refine gl_sub [2, 3, 4, 5, 6] rfl ?_
    exact kk _ _ _ hI9
  refine gl_if_ne C 2612 dL_law_2597 (by decide) (fun _ => kend) (fun c2 => ?_)
  refine gl_aloadn C 3 3 dL_law_2600 rfl rfl ?_
  refine gl_iconst C 0 dL_law_2601 (by decide) ?_
  refine gl_out C dL_law_2602 ?_
  refine gl_iload C 0 dL_law_2603 rfl ?_
  refine gl_i2l C dL_law_2605 ?_
  exact gl_lcmpeq C 2612 dL_law_2606 dL_law_2607 (by decide) (fun _ => kend) (fun c3 => absurd (hq2 c2) c3)
theorem lc_37 (C : lx_Cx p l s m b c meth L xs D K E0 mo ao) {o : Nat} {I : Nat → CS → MS → Prop} (Sm : Sim (lB s) o I) {i : Int32} (hin : vp_in (i + 1) L ∧ vp_in (i + 2) L ∧ vp_in (i + 3) L ∧ vp_in (i + 4) L ∧ vp_in (i + 5) L ∧ vp_in (i + 6) L) {n : Nat} {S : CS} {t : MS} {ov : Nat → Int64} (h : I (n + 1) S t) (kk : ∀ (ov1 : Nat → Int64) (S1 : CS) (t1 : MS), I n S1 t1 → GL p l e s m b below meth c D K E0 mo ao Q S1 ov1 t1 3755 [(4, .int i), (3, .ref ao), (2, .ref mo), (1, .ref o), (0, .ref b)] []) : GL p l e s m b below meth c D K E0 mo ao Q S ov t 2615 [(4, .int i), (3, .ref ao), (2, .ref mo), (1, .ref o), (0, .ref b)] [] := by
  refine gl_aloadn C 3 1 dL_law_2615 rfl rfl ?_
  refine gl_aloadn C 4 0 dL_law_2616 rfl rfl ?_
  refine gl_iload C 0 dL_law_2617 rfl ?_
  refine gl_iconst C 1 dL_law_2619 (by decide) ?_
  refine gl_iadd C dL_law_2620 ?_
  refine gl_scr C hin.1 dL_law_2621 ?_
  refine gl_aloadn C 4 0 dL_law_2622 rfl rfl ?_
  refine gl_iload C 0 dL_law_2623 rfl ?_
  refine gl_iconst C 2 dL_law_2625 (by decide) ?_
  refine gl_iadd C dL_law_2626 ?_
  refine gl_scr C hin.2.1 dL_law_2627 ?_
  refine gl_aloadn C 1 3 dL_law_2628 rfl rfl ?_
  obtain ⟨B1, hB, hw⟩ := Sm.itemBar n S t ov (xs (Int32.toNatClampNeg (i + 1))) (xs (Int32.toNatClampNeg (i + 2))) h
  refine gl_wrap C (y := yL_itemBar) (as := [.ref o, .int (xs (Int32.toNatClampNeg (i + 1))), .int (xs (Int32.toNatClampNeg (i + 2))), .ref ao]) B1 hB.1 hB.2 (by decide) (by decide) (k_itemBar l D K E0 B1 _ ao o (xs (Int32.toNatClampNeg (i + 1))) (xs (Int32.toNatClampNeg (i + 2))) S ov _ (Sm.kd _ _ _ h) hw) hl_itemBar rfl vw_309 kl_itemBar dL_law_2629 (Nat.le_of_ble_eq_true rfl) (fun k ov1 S1 hp hz1 hz2 => ?_)
  have hp := hp hz1 hz2
  refine gl_istore C [(5, .int k), (4, .int i), (3, .ref ao), (2, .ref mo), (1, .ref o), (0, .ref b)] dL_law_2632 (by decide) rfl ?_
  refine gl_aloadn C 3 2 dL_law_2634 rfl rfl ?_
  refine gl_aloadn C 5 0 dL_law_2635 rfl rfl ?_
  refine gl_iload C 1 dL_law_2636 rfl ?_
  refine gl_iconst C 1 dL_law_2638 (by decide) ?_
  refine gl_iadd C dL_law_2639 ?_
  refine gl_scr C hin.1 dL_law_2640 ?_
  refine gl_aloadn C 5 0 dL_law_2641 rfl rfl ?_
  refine gl_iload C 1 dL_law_2642 rfl ?_
  refine gl_iconst C 2 dL_law_2644 (by decide) ?_
  refine gl_iadd C dL_law_2645 ?_
  refine gl_scr C hin.2.1 dL_law_2646 ?_
  refine gl_mod C (y := yX12_itemBar) (as := [.int (xs (Int32.toNatClampNeg (i + 1))), .int (xs (Int32.toNatClampNeg (i + 2)))]) (by decide) (by decide) (c_itemBar l D (K 0) (K 3) mo (m_ad mo) (xs (Int32.toNatClampNeg (i + 1))) (xs (Int32.toNatClampNeg (i + 2))) t _ hp) hy_itemBar rfl vq_311 cu_itemBar dL_law_2647 (Nat.le_of_ble_eq_true rfl) (fun v t1 ns1 hq hns1 => ?_)
  obtain ⟨r, rfl, hq1, hq2, hI9⟩ := hq
  have hI9 := Sm.rs _ _ _ ns1 hI9 hns1
  refine gl_istore C [(6, .int r), (5, .int k), (4, .int i), (3, .ref ao), (2, .ref mo), (1, .ref o), (0, .ref b)] dL_law_2650 (by decide) rfl ?_
  refine gl_aloadn C 4 2 dL_law_2652 rfl rfl ?_
  refine gl_mod C (y := yX12_thrown) (as := []) (by decide) (by decide) (c_thrown l D (K 0) (K 3) mo (m_ad mo) t1) hy_thrown rfl vq_184 cu_thrown dL_law_2653 (Nat.le_of_ble_eq_true rfl) (fun v t2 ns2 hq hns2 => ?_)
  obtain ⟨r2, rfl, rfl, rfl⟩ := hq
  have hI9 := Sm.rs _ _ _ ns2 hI9 hns2
  refine gl_iload C 1 dL_law_2656 rfl ?_
  refine gl_icmp_eq C 2663 dL_law_2658 (by decide) (fun c1 => ?_) (fun c1 => absurd hq1 c1)
  refine gl_iload C 1 dL_law_2663 rfl ?_
  have kend : GL p l e s m b below meth c D K E0 mo ao Q (rsz (rsz S1 (szC S1) ns1) (szC (rsz S1 (szC S1) ns1)) ns2) ov1 t1 2680 [(6, .int r), (5, .int k), (4, .int i), (3, .ref ao), (2, .ref mo), (1, .ref o), (0, .ref b)] [] := by
    refine gl_goto C 3755 dL_law_2680 (by decide) ?_
    refine gl_sub [2, 3, 4, 5, 6] rfl ?_
    exact kk _ _ _ hI9
  refine gl_if_ne C 2680 dL_law_2665 (by decide) (fun _ => kend) (fun c2 => ?_)
  refine gl_aloadn C 3 3 dL_law_2668 rfl rfl ?_
  refine gl_iconst C 0 dL_law_2669 (by decide) ?_
  refine gl_out C dL_law_2670 ?_
  refine gl_iload C 0 dL_law_2671 rfl ?_
  refine gl_i2l C dL_law_2673 ?_
  exact gl_lcmpeq C 2680 dL_law_2674 dL_law_2675 (by decide) (fun _ => kend) (fun c3 => absurd (hq2 c2) c3)
theorem lc_38 (C : lx_Cx p l s m b c meth L xs D K E0 mo ao) {o : Nat} {I : Nat → CS → MS → Prop} (Sm : Sim (lB s) o I) {i : Int32} (hin : vp_in (i + 1) L ∧ vp_in (i + 2) L ∧ vp_in (i + 3) L ∧ vp_in (i + 4) L ∧ vp_in (i + 5) L ∧ vp_in (i + 6) L) {n : Nat} {S : CS} {t : MS} {ov : Nat → Int64} (h : I (n + 1) S t) (kk : ∀ (ov1 : Nat → Int64) (S1 : CS) (t1 : MS), I n S1 t1 → GL p l e s m b below meth c D K E0 mo ao Q S1 ov1 t1 3755 [(4, .int i), (3, .ref ao), (2, .ref mo), (1, .ref o), (0, .ref b)] []) : GL p l e s m b below meth c D K E0 mo ao Q S ov t 2683 [(4, .int i), (3, .ref ao), (2, .ref mo), (1, .ref o), (0, .ref b)] [] := by
  refine gl_aloadn C 3 1 dL_law_2683 rfl rfl ?_
  refine gl_aloadn C 4 0 dL_law_2684 rfl rfl ?_
  refine gl_iload C 0 dL_law_2685 rfl ?_
  refine gl_iconst C 1 dL_law_2687 (by decide) ?_
  refine gl_iadd C dL_law_2688 ?_
  refine gl_scr C hin.1 dL_law_2689 ?_
  refine gl_aloadn C 4 0 dL_law_2690 rfl rfl ?_
  refine gl_iload C 0 dL_law_2691 rfl ?_
  refine gl_iconst C 2 dL_law_2693 (by decide) ?_
  refine gl_iadd C dL_law_2694 ?_
  refine gl_scr C hin.2.1 dL_law_2695 ?_
  refine gl_aloadn C 1 3 dL_law_2696 rfl rfl ?_
  obtain ⟨B1, hB, hw⟩ := Sm.itemBars n S t ov (xs (Int32.toNatClampNeg (i + 1))) (xs (Int32.toNatClampNeg (i + 2))) h
  refine gl_wrap C (y := yL_itemBars) (as := [.ref o, .int (xs (Int32.toNatClampNeg (i + 1))), .int (xs (Int32.toNatClampNeg (i + 2))), .ref ao]) B1 hB.1 hB.2 (by decide) (by decide) (k_itemBars l D K E0 B1 _ ao o (xs (Int32.toNatClampNeg (i + 1))) (xs (Int32.toNatClampNeg (i + 2))) S ov _ (Sm.kd _ _ _ h) hw) hl_itemBars rfl vw_312 kl_itemBars dL_law_2697 (Nat.le_of_ble_eq_true rfl) (fun k ov1 S1 hp hz1 hz2 => ?_)
  have hp := hp hz1 hz2
  refine gl_istore C [(5, .int k), (4, .int i), (3, .ref ao), (2, .ref mo), (1, .ref o), (0, .ref b)] dL_law_2700 (by decide) rfl ?_
  refine gl_aloadn C 3 2 dL_law_2702 rfl rfl ?_
  refine gl_aloadn C 5 0 dL_law_2703 rfl rfl ?_
  refine gl_iload C 1 dL_law_2704 rfl ?_
  refine gl_iconst C 1 dL_law_2706 (by decide) ?_
  refine gl_iadd C dL_law_2707 ?_
  refine gl_scr C hin.1 dL_law_2708 ?_
  refine gl_aloadn C 5 0 dL_law_2709 rfl rfl ?_
  refine gl_iload C 1 dL_law_2710 rfl ?_
  refine gl_iconst C 2 dL_law_2712 (by decide) ?_
  refine gl_iadd C dL_law_2713 ?_
  refine gl_scr C hin.2.1 dL_law_2714 ?_
  refine gl_mod C (y := yX12_itemBars) (as := [.int (xs (Int32.toNatClampNeg (i + 1))), .int (xs (Int32.toNatClampNeg (i + 2)))]) (by decide) (by decide) (c_itemBars l D (K 0) (K 3) mo (m_ad mo) (xs (Int32.toNatClampNeg (i + 1))) (xs (Int32.toNatClampNeg (i + 2))) t _ hp) hy_itemBars rfl vq_314 cu_itemBars dL_law_2715 (Nat.le_of_ble_eq_true rfl) (fun v t1 ns1 hq hns1 => ?_)
  obtain ⟨r, rfl, hq1, hq2, hI9⟩ := hq
  have hI9 := Sm.rs _ _ _ ns1 hI9 hns1
  refine gl_istore C [(6, .int r), (5, .int k), (4, .int i), (3, .ref ao), (2, .ref mo), (1, .ref o), (0, .ref b)] dL_law_2718 (by decide) rfl ?_
  refine gl_aloadn C 4 2 dL_law_2720 rfl rfl ?_
  refine gl_mod C (y := yX12_thrown) (as := []) (by decide) (by decide) (c_thrown l D (K 0) (K 3) mo (m_ad mo) t1) hy_thrown rfl vq_184 cu_thrown dL_law_2721 (Nat.le_of_ble_eq_true rfl) (fun v t2 ns2 hq hns2 => ?_)
  obtain ⟨r2, rfl, rfl, rfl⟩ := hq
  have hI9 := Sm.rs _ _ _ ns2 hI9 hns2
  refine gl_iload C 1 dL_law_2724 rfl ?_
  refine gl_icmp_eq C 2731 dL_law_2726 (by decide) (fun c1 => ?_) (fun c1 => absurd hq1 c1)
  refine gl_iload C 1 dL_law_2731 rfl ?_
  have kend : GL p l e s m b below meth c D K E0 mo ao Q (rsz (rsz S1 (szC S1) ns1) (szC (rsz S1 (szC S1) ns1)) ns2) ov1 t1 2748 [(6, .int r), (5, .int k), (4, .int i), (3, .ref ao), (2, .ref mo), (1, .ref o), (0, .ref b)] [] := by
    refine gl_goto C 3755 dL_law_2748 (by decide) ?_
    refine gl_sub [2, 3, 4, 5, 6] rfl ?_
    exact kk _ _ _ hI9
  refine gl_if_ne C 2748 dL_law_2733 (by decide) (fun _ => kend) (fun c2 => ?_)
  refine gl_aloadn C 3 3 dL_law_2736 rfl rfl ?_
  refine gl_iconst C 0 dL_law_2737 (by decide) ?_
  refine gl_out C dL_law_2738 ?_
  refine gl_iload C 0 dL_law_2739 rfl ?_
  refine gl_i2l C dL_law_2741 ?_
  exact gl_lcmpeq C 2748 dL_law_2742 dL_law_2743 (by decide) (fun _ => kend) (fun c3 => absurd (hq2 c2) c3)
theorem lc_39 (C : lx_Cx p l s m b c meth L xs D K E0 mo ao) {o : Nat} {I : Nat → CS → MS → Prop} (Sm : Sim (lB s) o I) {i : Int32} (hin : vp_in (i + 1) L ∧ vp_in (i + 2) L ∧ vp_in (i + 3) L ∧ vp_in (i + 4) L ∧ vp_in (i + 5) L ∧ vp_in (i + 6) L) {n : Nat} {S : CS} {t : MS} {ov : Nat → Int64} (h : I (n + 1) S t) (kk : ∀ (ov1 : Nat → Int64) (S1 : CS) (t1 : MS), I n S1 t1 → GL p l e s m b below meth c D K E0 mo ao Q S1 ov1 t1 3755 [(4, .int i), (3, .ref ao), (2, .ref mo), (1, .ref o), (0, .ref b)] []) : GL p l e s m b below meth c D K E0 mo ao Q S ov t 2751 [(4, .int i), (3, .ref ao), (2, .ref mo), (1, .ref o), (0, .ref b)] [] := by
  refine gl_aloadn C 3 1 dL_law_2751 rfl rfl ?_
  refine gl_aloadn C 4 0 dL_law_2752 rfl rfl ?_
  refine gl_iload C 0 dL_law_2753 rfl ?_
  refine gl_iconst C 1 dL_law_2755 (by decide) ?_
  refine gl_iadd C dL_law_2756 ?_
  refine gl_scr C hin.1 dL_law_2757 ?_
  refine gl_aloadn C 4 0 dL_law_2758 rfl rfl ?_
  refine gl_iload C 0 dL_law_2759 rfl ?_
  refine gl_iconst C 2 dL_law_2761 (by decide) ?_
  refine gl_iadd C dL_law_2762 ?_
  refine gl_scr C hin.2.1 dL_law_2763 ?_
  refine gl_aloadn C 1 3 dL_law_2764 rfl rfl ?_
  obtain ⟨B1, hB, hw⟩ := Sm.cue n S t ov (xs (Int32.toNatClampNeg (i + 1))) (xs (Int32.toNatClampNeg (i + 2))) h
  refine gl_wrap C (y := yL_cue) (as := [.ref o, .int (xs (Int32.toNatClampNeg (i + 1))), .int (xs (Int32.toNatClampNeg (i + 2))), .ref ao]) B1 hB.1 hB.2 (by decide) (by decide) (k_cue l D K E0 B1 _ ao o (xs (Int32.toNatClampNeg (i + 1))) (xs (Int32.toNatClampNeg (i + 2))) S ov _ (Sm.kd _ _ _ h) hw) hl_cue rfl vw_315 kl_cue dL_law_2765 (Nat.le_of_ble_eq_true rfl) (fun k ov1 S1 hp hz1 hz2 => ?_)
  have hp := hp hz1 hz2
  refine gl_istore C [(5, .int k), (4, .int i), (3, .ref ao), (2, .ref mo), (1, .ref o), (0, .ref b)] dL_law_2768 (by decide) rfl ?_
  refine gl_aloadn C 3 2 dL_law_2770 rfl rfl ?_
  refine gl_aloadn C 5 0 dL_law_2771 rfl rfl ?_
  refine gl_iload C 1 dL_law_2772 rfl ?_
  refine gl_iconst C 1 dL_law_2774 (by decide) ?_
  refine gl_iadd C dL_law_2775 ?_
  refine gl_scr C hin.1 dL_law_2776 ?_
  refine gl_aloadn C 5 0 dL_law_2777 rfl rfl ?_
  refine gl_iload C 1 dL_law_2778 rfl ?_
  refine gl_iconst C 2 dL_law_2780 (by decide) ?_
  refine gl_iadd C dL_law_2781 ?_
  refine gl_scr C hin.2.1 dL_law_2782 ?_
  refine gl_mod C (y := yX12_cue) (as := [.int (xs (Int32.toNatClampNeg (i + 1))), .int (xs (Int32.toNatClampNeg (i + 2)))]) (by decide) (by decide) (c_cue l D (K 0) (K 3) mo (m_ad mo) (xs (Int32.toNatClampNeg (i + 1))) (xs (Int32.toNatClampNeg (i + 2))) t _ hp) hy_cue rfl vq_317 cu_cue dL_law_2783 (Nat.le_of_ble_eq_true rfl) (fun v t1 ns1 hq hns1 => ?_)
  obtain ⟨r, rfl, hq1, hq2, hI9⟩ := hq
  have hI9 := Sm.rs _ _ _ ns1 hI9 hns1
  refine gl_istore C [(6, .int r), (5, .int k), (4, .int i), (3, .ref ao), (2, .ref mo), (1, .ref o), (0, .ref b)] dL_law_2786 (by decide) rfl ?_
  refine gl_aloadn C 4 2 dL_law_2788 rfl rfl ?_
  refine gl_mod C (y := yX12_thrown) (as := []) (by decide) (by decide) (c_thrown l D (K 0) (K 3) mo (m_ad mo) t1) hy_thrown rfl vq_184 cu_thrown dL_law_2789 (Nat.le_of_ble_eq_true rfl) (fun v t2 ns2 hq hns2 => ?_)
  obtain ⟨r2, rfl, rfl, rfl⟩ := hq
  have hI9 := Sm.rs _ _ _ ns2 hI9 hns2
  refine gl_iload C 1 dL_law_2792 rfl ?_
  refine gl_icmp_eq C 2799 dL_law_2794 (by decide) (fun c1 => ?_) (fun c1 => absurd hq1 c1)
  refine gl_iload C 1 dL_law_2799 rfl ?_
  have kend : GL p l e s m b below meth c D K E0 mo ao Q (rsz (rsz S1 (szC S1) ns1) (szC (rsz S1 (szC S1) ns1)) ns2) ov1 t1 2816 [(6, .int r), (5, .int k), (4, .int i), (3, .ref ao), (2, .ref mo), (1, .ref o), (0, .ref b)] [] := by
    refine gl_goto C 3755 dL_law_2816 (by decide) ?_
    refine gl_sub [2, 3, 4, 5, 6] rfl ?_
    exact kk _ _ _ hI9
  refine gl_if_ne C 2816 dL_law_2801 (by decide) (fun _ => kend) (fun c2 => ?_)
  refine gl_aloadn C 3 3 dL_law_2804 rfl rfl ?_
  refine gl_iconst C 0 dL_law_2805 (by decide) ?_
  refine gl_out C dL_law_2806 ?_
  refine gl_iload C 0 dL_law_2807 rfl ?_
  refine gl_i2l C dL_law_2809 ?_
  exact gl_lcmpeq C 2816 dL_law_2810 dL_law_2811 (by decide) (fun _ => kend) (fun c3 => absurd (hq2 c2) c3)
theorem lc_40 (C : lx_Cx p l s m b c meth L xs D K E0 mo ao) {o : Nat} {I : Nat → CS → MS → Prop} (Sm : Sim (lB s) o I) {i : Int32} (hin : vp_in (i + 1) L ∧ vp_in (i + 2) L ∧ vp_in (i + 3) L ∧ vp_in (i + 4) L ∧ vp_in (i + 5) L ∧ vp_in (i + 6) L) {n : Nat} {S : CS} {t : MS} {ov : Nat → Int64} (h : I (n + 1) S t) (kk : ∀ (ov1 : Nat → Int64) (S1 : CS) (t1 : MS), I n S1 t1 → GL p l e s m b below meth c D K E0 mo ao Q S1 ov1 t1 3755 [(4, .int i), (3, .ref ao), (2, .ref mo), (1, .ref o), (0, .ref b)] []) : GL p l e s m b below meth c D K E0 mo ao Q S ov t 2819 [(4, .int i), (3, .ref ao), (2, .ref mo), (1, .ref o), (0, .ref b)] [] := by
  refine gl_aloadn C 3 1 dL_law_2819 rfl rfl ?_
  refine gl_aloadn C 4 0 dL_law_2820 rfl rfl ?_
  refine gl_iload C 0 dL_law_2821 rfl ?_
  refine gl_iconst C 1 dL_law_2823 (by decide) ?_
  refine gl_iadd C dL_law_2824 ?_
  refine gl_scr C hin.1 dL_law_2825 ?_
  refine gl_aloadn C 4 0 dL_law_2826 rfl rfl ?_
  refine gl_iload C 0 dL_law_2827 rfl ?_
  refine gl_iconst C 2 dL_law_2829 (by decide) ?_
  refine gl_iadd C dL_law_2830 ?_
  refine gl_scr C hin.2.1 dL_law_2831 ?_
  refine gl_aloadn C 1 3 dL_law_2832 rfl rfl ?_
  obtain ⟨B1, hB, hw⟩ := Sm.itemWidth n S t ov (xs (Int32.toNatClampNeg (i + 1))) (xs (Int32.toNatClampNeg (i + 2))) h
  refine gl_wrap C (y := yL_itemWidth) (as := [.ref o, .int (xs (Int32.toNatClampNeg (i + 1))), .int (xs (Int32.toNatClampNeg (i + 2))), .ref ao]) B1 hB.1 hB.2 (by decide) (by decide) (k_itemWidth l D K E0 B1 _ ao o (xs (Int32.toNatClampNeg (i + 1))) (xs (Int32.toNatClampNeg (i + 2))) S ov _ (Sm.kd _ _ _ h) hw) hl_itemWidth rfl vw_318 kl_itemWidth dL_law_2833 (Nat.le_of_ble_eq_true rfl) (fun k ov1 S1 hp hz1 hz2 => ?_)
  have hp := hp hz1 hz2
  refine gl_istore C [(5, .int k), (4, .int i), (3, .ref ao), (2, .ref mo), (1, .ref o), (0, .ref b)] dL_law_2836 (by decide) rfl ?_
  refine gl_aloadn C 3 2 dL_law_2838 rfl rfl ?_
  refine gl_aloadn C 5 0 dL_law_2839 rfl rfl ?_
  refine gl_iload C 1 dL_law_2840 rfl ?_
  refine gl_iconst C 1 dL_law_2842 (by decide) ?_
  refine gl_iadd C dL_law_2843 ?_
  refine gl_scr C hin.1 dL_law_2844 ?_
  refine gl_aloadn C 5 0 dL_law_2845 rfl rfl ?_
  refine gl_iload C 1 dL_law_2846 rfl ?_
  refine gl_iconst C 2 dL_law_2848 (by decide) ?_
  refine gl_iadd C dL_law_2849 ?_
  refine gl_scr C hin.2.1 dL_law_2850 ?_
  refine gl_mod C (y := yX12_itemWidth) (as := [.int (xs (Int32.toNatClampNeg (i + 1))), .int (xs (Int32.toNatClampNeg (i + 2)))]) (by decide) (by decide) (c_itemWidth l D (K 0) (K 3) mo (m_ad mo) (xs (Int32.toNatClampNeg (i + 1))) (xs (Int32.toNatClampNeg (i + 2))) t _ hp) hy_itemWidth rfl vq_320 cu_itemWidth dL_law_2851 (Nat.le_of_ble_eq_true rfl) (fun v t1 ns1 hq hns1 => ?_)
  obtain ⟨r, rfl, hq1, hq2, hI9⟩ := hq
  have hI9 := Sm.rs _ _ _ ns1 hI9 hns1
  refine gl_istore C [(6, .int r), (5, .int k), (4, .int i), (3, .ref ao), (2, .ref mo), (1, .ref o), (0, .ref b)] dL_law_2854 (by decide) rfl ?_
  refine gl_aloadn C 4 2 dL_law_2856 rfl rfl ?_
  refine gl_mod C (y := yX12_thrown) (as := []) (by decide) (by decide) (c_thrown l D (K 0) (K 3) mo (m_ad mo) t1) hy_thrown rfl vq_184 cu_thrown dL_law_2857 (Nat.le_of_ble_eq_true rfl) (fun v t2 ns2 hq hns2 => ?_)
  obtain ⟨r2, rfl, rfl, rfl⟩ := hq
  have hI9 := Sm.rs _ _ _ ns2 hI9 hns2
  refine gl_iload C 1 dL_law_2860 rfl ?_
  refine gl_icmp_eq C 2867 dL_law_2862 (by decide) (fun c1 => ?_) (fun c1 => absurd hq1 c1)
  refine gl_iload C 1 dL_law_2867 rfl ?_
  have kend : GL p l e s m b below meth c D K E0 mo ao Q (rsz (rsz S1 (szC S1) ns1) (szC (rsz S1 (szC S1) ns1)) ns2) ov1 t1 2884 [(6, .int r), (5, .int k), (4, .int i), (3, .ref ao), (2, .ref mo), (1, .ref o), (0, .ref b)] [] := by
    refine gl_goto C 3755 dL_law_2884 (by decide) ?_
    refine gl_sub [2, 3, 4, 5, 6] rfl ?_
    exact kk _ _ _ hI9
  refine gl_if_ne C 2884 dL_law_2869 (by decide) (fun _ => kend) (fun c2 => ?_)
  refine gl_aloadn C 3 3 dL_law_2872 rfl rfl ?_
  refine gl_iconst C 0 dL_law_2873 (by decide) ?_
  refine gl_out C dL_law_2874 ?_
  refine gl_iload C 0 dL_law_2875 rfl ?_
  refine gl_i2l C dL_law_2877 ?_
  exact gl_lcmpeq C 2884 dL_law_2878 dL_law_2879 (by decide) (fun _ => kend) (fun c3 => absurd (hq2 c2) c3)
theorem lc_41 (C : lx_Cx p l s m b c meth L xs D K E0 mo ao) {o : Nat} {I : Nat → CS → MS → Prop} (Sm : Sim (lB s) o I) {i : Int32} (hin : vp_in (i + 1) L ∧ vp_in (i + 2) L ∧ vp_in (i + 3) L ∧ vp_in (i + 4) L ∧ vp_in (i + 5) L ∧ vp_in (i + 6) L) {n : Nat} {S : CS} {t : MS} {ov : Nat → Int64} (h : I (n + 1) S t) (kk : ∀ (ov1 : Nat → Int64) (S1 : CS) (t1 : MS), I n S1 t1 → GL p l e s m b below meth c D K E0 mo ao Q S1 ov1 t1 3755 [(4, .int i), (3, .ref ao), (2, .ref mo), (1, .ref o), (0, .ref b)] []) : GL p l e s m b below meth c D K E0 mo ao Q S ov t 2887 [(4, .int i), (3, .ref ao), (2, .ref mo), (1, .ref o), (0, .ref b)] [] := by
  refine gl_aloadn C 3 1 dL_law_2887 rfl rfl ?_
  refine gl_aloadn C 4 0 dL_law_2888 rfl rfl ?_
  refine gl_iload C 0 dL_law_2889 rfl ?_
  refine gl_iconst C 1 dL_law_2891 (by decide) ?_
  refine gl_iadd C dL_law_2892 ?_
  refine gl_scr C hin.1 dL_law_2893 ?_
  refine gl_aloadn C 1 3 dL_law_2894 rfl rfl ?_
  obtain ⟨B1, hB, hw⟩ := Sm.lines n S t ov (xs (Int32.toNatClampNeg (i + 1))) h
  refine gl_wrap C (y := yL_lines) (as := [.ref o, .int (xs (Int32.toNatClampNeg (i + 1))), .ref ao]) B1 hB.1 hB.2 (by decide) (by decide) (k_lines l D K E0 B1 _ ao o (xs (Int32.toNatClampNeg (i + 1))) S ov _ (Sm.kd _ _ _ h) hw) hl_lines rfl vw_321 kl_lines dL_law_2895 (Nat.le_of_ble_eq_true rfl) (fun k ov1 S1 hp hz1 hz2 => ?_)
  have hp := hp hz1 hz2
  refine gl_istore C [(5, .int k), (4, .int i), (3, .ref ao), (2, .ref mo), (1, .ref o), (0, .ref b)] dL_law_2898 (by decide) rfl ?_
  refine gl_aloadn C 3 2 dL_law_2900 rfl rfl ?_
  refine gl_aloadn C 5 0 dL_law_2901 rfl rfl ?_
  refine gl_iload C 1 dL_law_2902 rfl ?_
  refine gl_iconst C 1 dL_law_2904 (by decide) ?_
  refine gl_iadd C dL_law_2905 ?_
  refine gl_scr C hin.1 dL_law_2906 ?_
  refine gl_mod C (y := yX12_lines) (as := [.int (xs (Int32.toNatClampNeg (i + 1)))]) (by decide) (by decide) (c_lines l D (K 0) (K 3) mo (m_ad mo) (xs (Int32.toNatClampNeg (i + 1))) t _ hp) hy_lines rfl vq_323 cu_lines dL_law_2907 (Nat.le_of_ble_eq_true rfl) (fun v t1 ns1 hq hns1 => ?_)
  obtain ⟨r, rfl, hq1, hq2, hI9⟩ := hq
  have hI9 := Sm.rs _ _ _ ns1 hI9 hns1
  refine gl_istore C [(6, .int r), (5, .int k), (4, .int i), (3, .ref ao), (2, .ref mo), (1, .ref o), (0, .ref b)] dL_law_2910 (by decide) rfl ?_
  refine gl_aloadn C 4 2 dL_law_2912 rfl rfl ?_
  refine gl_mod C (y := yX12_thrown) (as := []) (by decide) (by decide) (c_thrown l D (K 0) (K 3) mo (m_ad mo) t1) hy_thrown rfl vq_184 cu_thrown dL_law_2913 (Nat.le_of_ble_eq_true rfl) (fun v t2 ns2 hq hns2 => ?_)
  obtain ⟨r2, rfl, rfl, rfl⟩ := hq
  have hI9 := Sm.rs _ _ _ ns2 hI9 hns2
  refine gl_iload C 1 dL_law_2916 rfl ?_
  refine gl_icmp_eq C 2923 dL_law_2918 (by decide) (fun c1 => ?_) (fun c1 => absurd hq1 c1)
  refine gl_iload C 1 dL_law_2923 rfl ?_
  have kend : GL p l e s m b below meth c D K E0 mo ao Q (rsz (rsz S1 (szC S1) ns1) (szC (rsz S1 (szC S1) ns1)) ns2) ov1 t1 2940 [(6, .int r), (5, .int k), (4, .int i), (3, .ref ao), (2, .ref mo), (1, .ref o), (0, .ref b)] [] := by
    refine gl_goto C 3755 dL_law_2940 (by decide) ?_
    refine gl_sub [2, 3, 4, 5, 6] rfl ?_
    exact kk _ _ _ hI9
  refine gl_if_ne C 2940 dL_law_2925 (by decide) (fun _ => kend) (fun c2 => ?_)
  refine gl_aloadn C 3 3 dL_law_2928 rfl rfl ?_
  refine gl_iconst C 0 dL_law_2929 (by decide) ?_
  refine gl_out C dL_law_2930 ?_
  refine gl_iload C 0 dL_law_2931 rfl ?_
  refine gl_i2l C dL_law_2933 ?_
  exact gl_lcmpeq C 2940 dL_law_2934 dL_law_2935 (by decide) (fun _ => kend) (fun c3 => absurd (hq2 c2) c3)
theorem lc_42 (C : lx_Cx p l s m b c meth L xs D K E0 mo ao) {o : Nat} {I : Nat → CS → MS → Prop} (Sm : Sim (lB s) o I) {i : Int32} (hin : vp_in (i + 1) L ∧ vp_in (i + 2) L ∧ vp_in (i + 3) L ∧ vp_in (i + 4) L ∧ vp_in (i + 5) L ∧ vp_in (i + 6) L) {n : Nat} {S : CS} {t : MS} {ov : Nat → Int64} (h : I (n + 1) S t) (kk : ∀ (ov1 : Nat → Int64) (S1 : CS) (t1 : MS), I n S1 t1 → GL p l e s m b below meth c D K E0 mo ao Q S1 ov1 t1 3755 [(4, .int i), (3, .ref ao), (2, .ref mo), (1, .ref o), (0, .ref b)] []) : GL p l e s m b below meth c D K E0 mo ao Q S ov t 2943 [(4, .int i), (3, .ref ao), (2, .ref mo), (1, .ref o), (0, .ref b)] [] := by
  refine gl_aloadn C 3 1 dL_law_2943 rfl rfl ?_
  refine gl_aloadn C 4 0 dL_law_2944 rfl rfl ?_
  refine gl_iload C 0 dL_law_2945 rfl ?_
  refine gl_iconst C 1 dL_law_2947 (by decide) ?_
  refine gl_iadd C dL_law_2948 ?_
  refine gl_scr C hin.1 dL_law_2949 ?_
  refine gl_aloadn C 4 0 dL_law_2950 rfl rfl ?_
  refine gl_iload C 0 dL_law_2951 rfl ?_
  refine gl_iconst C 2 dL_law_2953 (by decide) ?_
  refine gl_iadd C dL_law_2954 ?_
  refine gl_scr C hin.2.1 dL_law_2955 ?_
  refine gl_aloadn C 1 3 dL_law_2956 rfl rfl ?_
  obtain ⟨B1, hB, hw⟩ := Sm.firstItem n S t ov (xs (Int32.toNatClampNeg (i + 1))) (xs (Int32.toNatClampNeg (i + 2))) h
  refine gl_wrap C (y := yL_firstItem) (as := [.ref o, .int (xs (Int32.toNatClampNeg (i + 1))), .int (xs (Int32.toNatClampNeg (i + 2))), .ref ao]) B1 hB.1 hB.2 (by decide) (by decide) (k_firstItem l D K E0 B1 _ ao o (xs (Int32.toNatClampNeg (i + 1))) (xs (Int32.toNatClampNeg (i + 2))) S ov _ (Sm.kd _ _ _ h) hw) hl_firstItem rfl vw_324 kl_firstItem dL_law_2957 (Nat.le_of_ble_eq_true rfl) (fun k ov1 S1 hp hz1 hz2 => ?_)
  have hp := hp hz1 hz2
  refine gl_istore C [(5, .int k), (4, .int i), (3, .ref ao), (2, .ref mo), (1, .ref o), (0, .ref b)] dL_law_2960 (by decide) rfl ?_
  refine gl_aloadn C 3 2 dL_law_2962 rfl rfl ?_
  refine gl_aloadn C 5 0 dL_law_2963 rfl rfl ?_
  refine gl_iload C 1 dL_law_2964 rfl ?_
  refine gl_iconst C 1 dL_law_2966 (by decide) ?_
  refine gl_iadd C dL_law_2967 ?_
  refine gl_scr C hin.1 dL_law_2968 ?_
  refine gl_aloadn C 5 0 dL_law_2969 rfl rfl ?_
  refine gl_iload C 1 dL_law_2970 rfl ?_
  refine gl_iconst C 2 dL_law_2972 (by decide) ?_
  refine gl_iadd C dL_law_2973 ?_
  refine gl_scr C hin.2.1 dL_law_2974 ?_
  refine gl_mod C (y := yX12_firstItem) (as := [.int (xs (Int32.toNatClampNeg (i + 1))), .int (xs (Int32.toNatClampNeg (i + 2)))]) (by decide) (by decide) (c_firstItem l D (K 0) (K 3) mo (m_ad mo) (xs (Int32.toNatClampNeg (i + 1))) (xs (Int32.toNatClampNeg (i + 2))) t _ hp) hy_firstItem rfl vq_326 cu_firstItem dL_law_2975 (Nat.le_of_ble_eq_true rfl) (fun v t1 ns1 hq hns1 => ?_)
  obtain ⟨r, rfl, hq1, hq2, hI9⟩ := hq
  have hI9 := Sm.rs _ _ _ ns1 hI9 hns1
  refine gl_istore C [(6, .int r), (5, .int k), (4, .int i), (3, .ref ao), (2, .ref mo), (1, .ref o), (0, .ref b)] dL_law_2978 (by decide) rfl ?_
  refine gl_aloadn C 4 2 dL_law_2980 rfl rfl ?_
  refine gl_mod C (y := yX12_thrown) (as := []) (by decide) (by decide) (c_thrown l D (K 0) (K 3) mo (m_ad mo) t1) hy_thrown rfl vq_184 cu_thrown dL_law_2981 (Nat.le_of_ble_eq_true rfl) (fun v t2 ns2 hq hns2 => ?_)
  obtain ⟨r2, rfl, rfl, rfl⟩ := hq
  have hI9 := Sm.rs _ _ _ ns2 hI9 hns2
  refine gl_iload C 1 dL_law_2984 rfl ?_
  refine gl_icmp_eq C 2991 dL_law_2986 (by decide) (fun c1 => ?_) (fun c1 => absurd hq1 c1)
  refine gl_iload C 1 dL_law_2991 rfl ?_
  have kend : GL p l e s m b below meth c D K E0 mo ao Q (rsz (rsz S1 (szC S1) ns1) (szC (rsz S1 (szC S1) ns1)) ns2) ov1 t1 3008 [(6, .int r), (5, .int k), (4, .int i), (3, .ref ao), (2, .ref mo), (1, .ref o), (0, .ref b)] [] := by
    refine gl_goto C 3755 dL_law_3008 (by decide) ?_
    refine gl_sub [2, 3, 4, 5, 6] rfl ?_
    exact kk _ _ _ hI9
  refine gl_if_ne C 3008 dL_law_2993 (by decide) (fun _ => kend) (fun c2 => ?_)
  refine gl_aloadn C 3 3 dL_law_2996 rfl rfl ?_
  refine gl_iconst C 0 dL_law_2997 (by decide) ?_
  refine gl_out C dL_law_2998 ?_
  refine gl_iload C 0 dL_law_2999 rfl ?_
  refine gl_i2l C dL_law_3001 ?_
  exact gl_lcmpeq C 3008 dL_law_3002 dL_law_3003 (by decide) (fun _ => kend) (fun c3 => absurd (hq2 c2) c3)
theorem lc_43 (C : lx_Cx p l s m b c meth L xs D K E0 mo ao) {o : Nat} {I : Nat → CS → MS → Prop} (Sm : Sim (lB s) o I) {i : Int32} (hin : vp_in (i + 1) L ∧ vp_in (i + 2) L ∧ vp_in (i + 3) L ∧ vp_in (i + 4) L ∧ vp_in (i + 5) L ∧ vp_in (i + 6) L) {n : Nat} {S : CS} {t : MS} {ov : Nat → Int64} (h : I (n + 1) S t) (kk : ∀ (ov1 : Nat → Int64) (S1 : CS) (t1 : MS), I n S1 t1 → GL p l e s m b below meth c D K E0 mo ao Q S1 ov1 t1 3755 [(4, .int i), (3, .ref ao), (2, .ref mo), (1, .ref o), (0, .ref b)] []) : GL p l e s m b below meth c D K E0 mo ao Q S ov t 3011 [(4, .int i), (3, .ref ao), (2, .ref mo), (1, .ref o), (0, .ref b)] [] := by
  refine gl_aloadn C 3 1 dL_law_3011 rfl rfl ?_
  refine gl_aloadn C 4 0 dL_law_3012 rfl rfl ?_
  refine gl_iload C 0 dL_law_3013 rfl ?_
  refine gl_iconst C 1 dL_law_3015 (by decide) ?_
  refine gl_iadd C dL_law_3016 ?_
  refine gl_scr C hin.1 dL_law_3017 ?_
  refine gl_aloadn C 1 3 dL_law_3018 rfl rfl ?_
  obtain ⟨B1, hB, hw⟩ := Sm.badness n S t ov (xs (Int32.toNatClampNeg (i + 1))) h
  refine gl_wrap C (y := yL_badness) (as := [.ref o, .int (xs (Int32.toNatClampNeg (i + 1))), .ref ao]) B1 hB.1 hB.2 (by decide) (by decide) (k_badness l D K E0 B1 _ ao o (xs (Int32.toNatClampNeg (i + 1))) S ov _ (Sm.kd _ _ _ h) hw) hl_badness rfl vw_327 kl_badness dL_law_3019 (Nat.le_of_ble_eq_true rfl) (fun k ov1 S1 hp hz1 hz2 => ?_)
  have hp := hp hz1 hz2
  refine gl_istore C [(5, .int k), (4, .int i), (3, .ref ao), (2, .ref mo), (1, .ref o), (0, .ref b)] dL_law_3022 (by decide) rfl ?_
  refine gl_aloadn C 3 2 dL_law_3024 rfl rfl ?_
  refine gl_aloadn C 5 0 dL_law_3025 rfl rfl ?_
  refine gl_iload C 1 dL_law_3026 rfl ?_
  refine gl_iconst C 1 dL_law_3028 (by decide) ?_
  refine gl_iadd C dL_law_3029 ?_
  refine gl_scr C hin.1 dL_law_3030 ?_
  refine gl_mod C (y := yX12_badness) (as := [.int (xs (Int32.toNatClampNeg (i + 1)))]) (by decide) (by decide) (c_badness l D (K 0) (K 3) mo (m_ad mo) (xs (Int32.toNatClampNeg (i + 1))) t _ hp) hy_badness rfl vq_329 cu_badness dL_law_3031 (Nat.le_of_ble_eq_true rfl) (fun v t1 ns1 hq hns1 => ?_)
  obtain ⟨r, rfl, hq1, hq2, hI9⟩ := hq
  have hI9 := Sm.rs _ _ _ ns1 hI9 hns1
  refine gl_istore C [(6, .int r), (5, .int k), (4, .int i), (3, .ref ao), (2, .ref mo), (1, .ref o), (0, .ref b)] dL_law_3034 (by decide) rfl ?_
  refine gl_aloadn C 4 2 dL_law_3036 rfl rfl ?_
  refine gl_mod C (y := yX12_thrown) (as := []) (by decide) (by decide) (c_thrown l D (K 0) (K 3) mo (m_ad mo) t1) hy_thrown rfl vq_184 cu_thrown dL_law_3037 (Nat.le_of_ble_eq_true rfl) (fun v t2 ns2 hq hns2 => ?_)
  obtain ⟨r2, rfl, rfl, rfl⟩ := hq
  have hI9 := Sm.rs _ _ _ ns2 hI9 hns2
  refine gl_iload C 1 dL_law_3040 rfl ?_
  refine gl_icmp_eq C 3047 dL_law_3042 (by decide) (fun c1 => ?_) (fun c1 => absurd hq1 c1)
  refine gl_iload C 1 dL_law_3047 rfl ?_
  have kend : GL p l e s m b below meth c D K E0 mo ao Q (rsz (rsz S1 (szC S1) ns1) (szC (rsz S1 (szC S1) ns1)) ns2) ov1 t1 3064 [(6, .int r), (5, .int k), (4, .int i), (3, .ref ao), (2, .ref mo), (1, .ref o), (0, .ref b)] [] := by
    refine gl_goto C 3755 dL_law_3064 (by decide) ?_
    refine gl_sub [2, 3, 4, 5, 6] rfl ?_
    exact kk _ _ _ hI9
  refine gl_if_ne C 3064 dL_law_3049 (by decide) (fun _ => kend) (fun c2 => ?_)
  refine gl_aloadn C 3 3 dL_law_3052 rfl rfl ?_
  refine gl_iconst C 0 dL_law_3053 (by decide) ?_
  refine gl_out C dL_law_3054 ?_
  refine gl_iload C 0 dL_law_3055 rfl ?_
  refine gl_i2l C dL_law_3057 ?_
  exact gl_lcmpeq C 3064 dL_law_3058 dL_law_3059 (by decide) (fun _ => kend) (fun c3 => absurd (hq2 c2) c3)
theorem lc_44 (C : lx_Cx p l s m b c meth L xs D K E0 mo ao) {o : Nat} {I : Nat → CS → MS → Prop} (Sm : Sim (lB s) o I) {i : Int32} (hin : vp_in (i + 1) L ∧ vp_in (i + 2) L ∧ vp_in (i + 3) L ∧ vp_in (i + 4) L ∧ vp_in (i + 5) L ∧ vp_in (i + 6) L) {n : Nat} {S : CS} {t : MS} {ov : Nat → Int64} (h : I (n + 1) S t) (kk : ∀ (ov1 : Nat → Int64) (S1 : CS) (t1 : MS), I n S1 t1 → GL p l e s m b below meth c D K E0 mo ao Q S1 ov1 t1 3755 [(4, .int i), (3, .ref ao), (2, .ref mo), (1, .ref o), (0, .ref b)] []) : GL p l e s m b below meth c D K E0 mo ao Q S ov t 3067 [(4, .int i), (3, .ref ao), (2, .ref mo), (1, .ref o), (0, .ref b)] [] := by
  refine gl_aloadn C 3 1 dL_law_3067 rfl rfl ?_
  refine gl_aloadn C 4 0 dL_law_3068 rfl rfl ?_
  refine gl_iload C 0 dL_law_3069 rfl ?_
  refine gl_iconst C 1 dL_law_3071 (by decide) ?_
  refine gl_iadd C dL_law_3072 ?_
  refine gl_scr C hin.1 dL_law_3073 ?_
  refine gl_aloadn C 1 3 dL_law_3074 rfl rfl ?_
  obtain ⟨B1, hB, hw⟩ := Sm.pages n S t ov (xs (Int32.toNatClampNeg (i + 1))) h
  refine gl_wrap C (y := yL_pages) (as := [.ref o, .int (xs (Int32.toNatClampNeg (i + 1))), .ref ao]) B1 hB.1 hB.2 (by decide) (by decide) (k_pages l D K E0 B1 _ ao o (xs (Int32.toNatClampNeg (i + 1))) S ov _ (Sm.kd _ _ _ h) hw) hl_pages rfl vw_330 kl_pages dL_law_3075 (Nat.le_of_ble_eq_true rfl) (fun k ov1 S1 hp hz1 hz2 => ?_)
  have hp := hp hz1 hz2
  refine gl_istore C [(5, .int k), (4, .int i), (3, .ref ao), (2, .ref mo), (1, .ref o), (0, .ref b)] dL_law_3078 (by decide) rfl ?_
  refine gl_aloadn C 3 2 dL_law_3080 rfl rfl ?_
  refine gl_aloadn C 5 0 dL_law_3081 rfl rfl ?_
  refine gl_iload C 1 dL_law_3082 rfl ?_
  refine gl_iconst C 1 dL_law_3084 (by decide) ?_
  refine gl_iadd C dL_law_3085 ?_
  refine gl_scr C hin.1 dL_law_3086 ?_
  refine gl_mod C (y := yX12_pages) (as := [.int (xs (Int32.toNatClampNeg (i + 1)))]) (by decide) (by decide) (c_pages l D (K 0) (K 3) mo (m_ad mo) (xs (Int32.toNatClampNeg (i + 1))) t _ hp) hy_pages rfl vq_332 cu_pages dL_law_3087 (Nat.le_of_ble_eq_true rfl) (fun v t1 ns1 hq hns1 => ?_)
  obtain ⟨r, rfl, hq1, hq2, hI9⟩ := hq
  have hI9 := Sm.rs _ _ _ ns1 hI9 hns1
  refine gl_istore C [(6, .int r), (5, .int k), (4, .int i), (3, .ref ao), (2, .ref mo), (1, .ref o), (0, .ref b)] dL_law_3090 (by decide) rfl ?_
  refine gl_aloadn C 4 2 dL_law_3092 rfl rfl ?_
  refine gl_mod C (y := yX12_thrown) (as := []) (by decide) (by decide) (c_thrown l D (K 0) (K 3) mo (m_ad mo) t1) hy_thrown rfl vq_184 cu_thrown dL_law_3093 (Nat.le_of_ble_eq_true rfl) (fun v t2 ns2 hq hns2 => ?_)
  obtain ⟨r2, rfl, rfl, rfl⟩ := hq
  have hI9 := Sm.rs _ _ _ ns2 hI9 hns2
  refine gl_iload C 1 dL_law_3096 rfl ?_
  refine gl_icmp_eq C 3103 dL_law_3098 (by decide) (fun c1 => ?_) (fun c1 => absurd hq1 c1)
  refine gl_iload C 1 dL_law_3103 rfl ?_
  have kend : GL p l e s m b below meth c D K E0 mo ao Q (rsz (rsz S1 (szC S1) ns1) (szC (rsz S1 (szC S1) ns1)) ns2) ov1 t1 3120 [(6, .int r), (5, .int k), (4, .int i), (3, .ref ao), (2, .ref mo), (1, .ref o), (0, .ref b)] [] := by
    refine gl_goto C 3755 dL_law_3120 (by decide) ?_
    refine gl_sub [2, 3, 4, 5, 6] rfl ?_
    exact kk _ _ _ hI9
  refine gl_if_ne C 3120 dL_law_3105 (by decide) (fun _ => kend) (fun c2 => ?_)
  refine gl_aloadn C 3 3 dL_law_3108 rfl rfl ?_
  refine gl_iconst C 0 dL_law_3109 (by decide) ?_
  refine gl_out C dL_law_3110 ?_
  refine gl_iload C 0 dL_law_3111 rfl ?_
  refine gl_i2l C dL_law_3113 ?_
  exact gl_lcmpeq C 3120 dL_law_3114 dL_law_3115 (by decide) (fun _ => kend) (fun c3 => absurd (hq2 c2) c3)
theorem lc_45 (C : lx_Cx p l s m b c meth L xs D K E0 mo ao) {o : Nat} {I : Nat → CS → MS → Prop} (Sm : Sim (lB s) o I) {i : Int32} (hin : vp_in (i + 1) L ∧ vp_in (i + 2) L ∧ vp_in (i + 3) L ∧ vp_in (i + 4) L ∧ vp_in (i + 5) L ∧ vp_in (i + 6) L) {n : Nat} {S : CS} {t : MS} {ov : Nat → Int64} (h : I (n + 1) S t) (kk : ∀ (ov1 : Nat → Int64) (S1 : CS) (t1 : MS), I n S1 t1 → GL p l e s m b below meth c D K E0 mo ao Q S1 ov1 t1 3755 [(4, .int i), (3, .ref ao), (2, .ref mo), (1, .ref o), (0, .ref b)] []) : GL p l e s m b below meth c D K E0 mo ao Q S ov t 3123 [(4, .int i), (3, .ref ao), (2, .ref mo), (1, .ref o), (0, .ref b)] [] := by
  refine gl_aloadn C 3 1 dL_law_3123 rfl rfl ?_
  refine gl_aloadn C 4 0 dL_law_3124 rfl rfl ?_
  refine gl_iload C 0 dL_law_3125 rfl ?_
  refine gl_iconst C 1 dL_law_3127 (by decide) ?_
  refine gl_iadd C dL_law_3128 ?_
  refine gl_scr C hin.1 dL_law_3129 ?_
  refine gl_aloadn C 4 0 dL_law_3130 rfl rfl ?_
  refine gl_iload C 0 dL_law_3131 rfl ?_
  refine gl_iconst C 2 dL_law_3133 (by decide) ?_
  refine gl_iadd C dL_law_3134 ?_
  refine gl_scr C hin.2.1 dL_law_3135 ?_
  refine gl_aloadn C 1 3 dL_law_3136 rfl rfl ?_
  obtain ⟨B1, hB, hw⟩ := Sm.pageLines n S t ov (xs (Int32.toNatClampNeg (i + 1))) (xs (Int32.toNatClampNeg (i + 2))) h
  refine gl_wrap C (y := yL_pageLines) (as := [.ref o, .int (xs (Int32.toNatClampNeg (i + 1))), .int (xs (Int32.toNatClampNeg (i + 2))), .ref ao]) B1 hB.1 hB.2 (by decide) (by decide) (k_pageLines l D K E0 B1 _ ao o (xs (Int32.toNatClampNeg (i + 1))) (xs (Int32.toNatClampNeg (i + 2))) S ov _ (Sm.kd _ _ _ h) hw) hl_pageLines rfl vw_333 kl_pageLines dL_law_3137 (Nat.le_of_ble_eq_true rfl) (fun k ov1 S1 hp hz1 hz2 => ?_)
  have hp := hp hz1 hz2
  refine gl_istore C [(5, .int k), (4, .int i), (3, .ref ao), (2, .ref mo), (1, .ref o), (0, .ref b)] dL_law_3140 (by decide) rfl ?_
  refine gl_aloadn C 3 2 dL_law_3142 rfl rfl ?_
  refine gl_aloadn C 5 0 dL_law_3143 rfl rfl ?_
  refine gl_iload C 1 dL_law_3144 rfl ?_
  refine gl_iconst C 1 dL_law_3146 (by decide) ?_
  refine gl_iadd C dL_law_3147 ?_
  refine gl_scr C hin.1 dL_law_3148 ?_
  refine gl_aloadn C 5 0 dL_law_3149 rfl rfl ?_
  refine gl_iload C 1 dL_law_3150 rfl ?_
  refine gl_iconst C 2 dL_law_3152 (by decide) ?_
  refine gl_iadd C dL_law_3153 ?_
  refine gl_scr C hin.2.1 dL_law_3154 ?_
  refine gl_mod C (y := yX12_pageLines) (as := [.int (xs (Int32.toNatClampNeg (i + 1))), .int (xs (Int32.toNatClampNeg (i + 2)))]) (by decide) (by decide) (c_pageLines l D (K 0) (K 3) mo (m_ad mo) (xs (Int32.toNatClampNeg (i + 1))) (xs (Int32.toNatClampNeg (i + 2))) t _ hp) hy_pageLines rfl vq_335 cu_pageLines dL_law_3155 (Nat.le_of_ble_eq_true rfl) (fun v t1 ns1 hq hns1 => ?_)
  obtain ⟨r, rfl, hq1, hq2, hI9⟩ := hq
  have hI9 := Sm.rs _ _ _ ns1 hI9 hns1
  refine gl_istore C [(6, .int r), (5, .int k), (4, .int i), (3, .ref ao), (2, .ref mo), (1, .ref o), (0, .ref b)] dL_law_3158 (by decide) rfl ?_
  refine gl_aloadn C 4 2 dL_law_3160 rfl rfl ?_
  refine gl_mod C (y := yX12_thrown) (as := []) (by decide) (by decide) (c_thrown l D (K 0) (K 3) mo (m_ad mo) t1) hy_thrown rfl vq_184 cu_thrown dL_law_3161 (Nat.le_of_ble_eq_true rfl) (fun v t2 ns2 hq hns2 => ?_)
  obtain ⟨r2, rfl, rfl, rfl⟩ := hq
  have hI9 := Sm.rs _ _ _ ns2 hI9 hns2
  refine gl_iload C 1 dL_law_3164 rfl ?_
  refine gl_icmp_eq C 3171 dL_law_3166 (by decide) (fun c1 => ?_) (fun c1 => absurd hq1 c1)
  refine gl_iload C 1 dL_law_3171 rfl ?_
  have kend : GL p l e s m b below meth c D K E0 mo ao Q (rsz (rsz S1 (szC S1) ns1) (szC (rsz S1 (szC S1) ns1)) ns2) ov1 t1 3188 [(6, .int r), (5, .int k), (4, .int i), (3, .ref ao), (2, .ref mo), (1, .ref o), (0, .ref b)] [] := by
    refine gl_goto C 3755 dL_law_3188 (by decide) ?_
    refine gl_sub [2, 3, 4, 5, 6] rfl ?_
    exact kk _ _ _ hI9
  refine gl_if_ne C 3188 dL_law_3173 (by decide) (fun _ => kend) (fun c2 => ?_)
  refine gl_aloadn C 3 3 dL_law_3176 rfl rfl ?_
  refine gl_iconst C 0 dL_law_3177 (by decide) ?_
  refine gl_out C dL_law_3178 ?_
  refine gl_iload C 0 dL_law_3179 rfl ?_
  refine gl_i2l C dL_law_3181 ?_
  exact gl_lcmpeq C 3188 dL_law_3182 dL_law_3183 (by decide) (fun _ => kend) (fun c3 => absurd (hq2 c2) c3)
theorem lc_46 (C : lx_Cx p l s m b c meth L xs D K E0 mo ao) {o : Nat} {I : Nat → CS → MS → Prop} (Sm : Sim (lB s) o I) {i : Int32} (hin : vp_in (i + 1) L ∧ vp_in (i + 2) L ∧ vp_in (i + 3) L ∧ vp_in (i + 4) L ∧ vp_in (i + 5) L ∧ vp_in (i + 6) L) {n : Nat} {S : CS} {t : MS} {ov : Nat → Int64} (h : I (n + 1) S t) (kk : ∀ (ov1 : Nat → Int64) (S1 : CS) (t1 : MS), I n S1 t1 → GL p l e s m b below meth c D K E0 mo ao Q S1 ov1 t1 3755 [(4, .int i), (3, .ref ao), (2, .ref mo), (1, .ref o), (0, .ref b)] []) : GL p l e s m b below meth c D K E0 mo ao Q S ov t 3191 [(4, .int i), (3, .ref ao), (2, .ref mo), (1, .ref o), (0, .ref b)] [] := by
  refine gl_aloadn C 3 1 dL_law_3191 rfl rfl ?_
  refine gl_aloadn C 4 0 dL_law_3192 rfl rfl ?_
  refine gl_iload C 0 dL_law_3193 rfl ?_
  refine gl_iconst C 1 dL_law_3195 (by decide) ?_
  refine gl_iadd C dL_law_3196 ?_
  refine gl_scr C hin.1 dL_law_3197 ?_
  refine gl_aloadn C 4 0 dL_law_3198 rfl rfl ?_
  refine gl_iload C 0 dL_law_3199 rfl ?_
  refine gl_iconst C 2 dL_law_3201 (by decide) ?_
  refine gl_iadd C dL_law_3202 ?_
  refine gl_scr C hin.2.1 dL_law_3203 ?_
  refine gl_aloadn C 1 3 dL_law_3204 rfl rfl ?_
  obtain ⟨B1, hB, hw⟩ := Sm.pageOf n S t ov (xs (Int32.toNatClampNeg (i + 1))) (xs (Int32.toNatClampNeg (i + 2))) h
  refine gl_wrap C (y := yL_pageOf) (as := [.ref o, .int (xs (Int32.toNatClampNeg (i + 1))), .int (xs (Int32.toNatClampNeg (i + 2))), .ref ao]) B1 hB.1 hB.2 (by decide) (by decide) (k_pageOf l D K E0 B1 _ ao o (xs (Int32.toNatClampNeg (i + 1))) (xs (Int32.toNatClampNeg (i + 2))) S ov _ (Sm.kd _ _ _ h) hw) hl_pageOf rfl vw_336 kl_pageOf dL_law_3205 (Nat.le_of_ble_eq_true rfl) (fun k ov1 S1 hp hz1 hz2 => ?_)
  have hp := hp hz1 hz2
  refine gl_istore C [(5, .int k), (4, .int i), (3, .ref ao), (2, .ref mo), (1, .ref o), (0, .ref b)] dL_law_3208 (by decide) rfl ?_
  refine gl_aloadn C 3 2 dL_law_3210 rfl rfl ?_
  refine gl_aloadn C 5 0 dL_law_3211 rfl rfl ?_
  refine gl_iload C 1 dL_law_3212 rfl ?_
  refine gl_iconst C 1 dL_law_3214 (by decide) ?_
  refine gl_iadd C dL_law_3215 ?_
  refine gl_scr C hin.1 dL_law_3216 ?_
  refine gl_aloadn C 5 0 dL_law_3217 rfl rfl ?_
  refine gl_iload C 1 dL_law_3218 rfl ?_
  refine gl_iconst C 2 dL_law_3220 (by decide) ?_
  refine gl_iadd C dL_law_3221 ?_
  refine gl_scr C hin.2.1 dL_law_3222 ?_
  refine gl_mod C (y := yX12_pageOf) (as := [.int (xs (Int32.toNatClampNeg (i + 1))), .int (xs (Int32.toNatClampNeg (i + 2)))]) (by decide) (by decide) (c_pageOf l D (K 0) (K 3) mo (m_ad mo) (xs (Int32.toNatClampNeg (i + 1))) (xs (Int32.toNatClampNeg (i + 2))) t _ hp) hy_pageOf rfl vq_338 cu_pageOf dL_law_3223 (Nat.le_of_ble_eq_true rfl) (fun v t1 ns1 hq hns1 => ?_)
  obtain ⟨r, rfl, hq1, hq2, hI9⟩ := hq
  have hI9 := Sm.rs _ _ _ ns1 hI9 hns1
  refine gl_istore C [(6, .int r), (5, .int k), (4, .int i), (3, .ref ao), (2, .ref mo), (1, .ref o), (0, .ref b)] dL_law_3226 (by decide) rfl ?_
  refine gl_aloadn C 4 2 dL_law_3228 rfl rfl ?_
  refine gl_mod C (y := yX12_thrown) (as := []) (by decide) (by decide) (c_thrown l D (K 0) (K 3) mo (m_ad mo) t1) hy_thrown rfl vq_184 cu_thrown dL_law_3229 (Nat.le_of_ble_eq_true rfl) (fun v t2 ns2 hq hns2 => ?_)
  obtain ⟨r2, rfl, rfl, rfl⟩ := hq
  have hI9 := Sm.rs _ _ _ ns2 hI9 hns2
  refine gl_iload C 1 dL_law_3232 rfl ?_
  refine gl_icmp_eq C 3239 dL_law_3234 (by decide) (fun c1 => ?_) (fun c1 => absurd hq1 c1)
  refine gl_iload C 1 dL_law_3239 rfl ?_
  have kend : GL p l e s m b below meth c D K E0 mo ao Q (rsz (rsz S1 (szC S1) ns1) (szC (rsz S1 (szC S1) ns1)) ns2) ov1 t1 3256 [(6, .int r), (5, .int k), (4, .int i), (3, .ref ao), (2, .ref mo), (1, .ref o), (0, .ref b)] [] := by
    refine gl_goto C 3755 dL_law_3256 (by decide) ?_
    refine gl_sub [2, 3, 4, 5, 6] rfl ?_
    exact kk _ _ _ hI9
  refine gl_if_ne C 3256 dL_law_3241 (by decide) (fun _ => kend) (fun c2 => ?_)
  refine gl_aloadn C 3 3 dL_law_3244 rfl rfl ?_
  refine gl_iconst C 0 dL_law_3245 (by decide) ?_
  refine gl_out C dL_law_3246 ?_
  refine gl_iload C 0 dL_law_3247 rfl ?_
  refine gl_i2l C dL_law_3249 ?_
  exact gl_lcmpeq C 3256 dL_law_3250 dL_law_3251 (by decide) (fun _ => kend) (fun c3 => absurd (hq2 c2) c3)
theorem lc_47 (C : lx_Cx p l s m b c meth L xs D K E0 mo ao) {o : Nat} {I : Nat → CS → MS → Prop} (Sm : Sim (lB s) o I) {i : Int32} (hin : vp_in (i + 1) L ∧ vp_in (i + 2) L ∧ vp_in (i + 3) L ∧ vp_in (i + 4) L ∧ vp_in (i + 5) L ∧ vp_in (i + 6) L) {n : Nat} {S : CS} {t : MS} {ov : Nat → Int64} (h : I (n + 1) S t) (kk : ∀ (ov1 : Nat → Int64) (S1 : CS) (t1 : MS), I n S1 t1 → GL p l e s m b below meth c D K E0 mo ao Q S1 ov1 t1 3755 [(4, .int i), (3, .ref ao), (2, .ref mo), (1, .ref o), (0, .ref b)] []) : GL p l e s m b below meth c D K E0 mo ao Q S ov t 3259 [(4, .int i), (3, .ref ao), (2, .ref mo), (1, .ref o), (0, .ref b)] [] := by
  refine gl_aloadn C 3 1 dL_law_3259 rfl rfl ?_
  refine gl_aloadn C 4 0 dL_law_3260 rfl rfl ?_
  refine gl_iload C 0 dL_law_3261 rfl ?_
  refine gl_iconst C 1 dL_law_3263 (by decide) ?_
  refine gl_iadd C dL_law_3264 ?_
  refine gl_scr C hin.1 dL_law_3265 ?_
  refine gl_aloadn C 1 3 dL_law_3266 rfl rfl ?_
  obtain ⟨B1, hB, hw⟩ := Sm.pageTurns n S t ov (xs (Int32.toNatClampNeg (i + 1))) h
  refine gl_wrap C (y := yL_pageTurns) (as := [.ref o, .int (xs (Int32.toNatClampNeg (i + 1))), .ref ao]) B1 hB.1 hB.2 (by decide) (by decide) (k_pageTurns l D K E0 B1 _ ao o (xs (Int32.toNatClampNeg (i + 1))) S ov _ (Sm.kd _ _ _ h) hw) hl_pageTurns rfl vw_339 kl_pageTurns dL_law_3267 (Nat.le_of_ble_eq_true rfl) (fun k ov1 S1 hp hz1 hz2 => ?_)
  have hp := hp hz1 hz2
  refine gl_istore C [(5, .int k), (4, .int i), (3, .ref ao), (2, .ref mo), (1, .ref o), (0, .ref b)] dL_law_3270 (by decide) rfl ?_
  refine gl_aloadn C 3 2 dL_law_3272 rfl rfl ?_
  refine gl_aloadn C 5 0 dL_law_3273 rfl rfl ?_
  refine gl_iload C 1 dL_law_3274 rfl ?_
  refine gl_iconst C 1 dL_law_3276 (by decide) ?_
  refine gl_iadd C dL_law_3277 ?_
  refine gl_scr C hin.1 dL_law_3278 ?_
  refine gl_mod C (y := yX12_pageTurns) (as := [.int (xs (Int32.toNatClampNeg (i + 1)))]) (by decide) (by decide) (c_pageTurns l D (K 0) (K 3) mo (m_ad mo) (xs (Int32.toNatClampNeg (i + 1))) t _ hp) hy_pageTurns rfl vq_341 cu_pageTurns dL_law_3279 (Nat.le_of_ble_eq_true rfl) (fun v t1 ns1 hq hns1 => ?_)
  obtain ⟨r, rfl, hq1, hq2, hI9⟩ := hq
  have hI9 := Sm.rs _ _ _ ns1 hI9 hns1
  refine gl_istore C [(6, .int r), (5, .int k), (4, .int i), (3, .ref ao), (2, .ref mo), (1, .ref o), (0, .ref b)] dL_law_3282 (by decide) rfl ?_
  refine gl_aloadn C 4 2 dL_law_3284 rfl rfl ?_
  refine gl_mod C (y := yX12_thrown) (as := []) (by decide) (by decide) (c_thrown l D (K 0) (K 3) mo (m_ad mo) t1) hy_thrown rfl vq_184 cu_thrown dL_law_3285 (Nat.le_of_ble_eq_true rfl) (fun v t2 ns2 hq hns2 => ?_)
  obtain ⟨r2, rfl, rfl, rfl⟩ := hq
  have hI9 := Sm.rs _ _ _ ns2 hI9 hns2
  refine gl_iload C 1 dL_law_3288 rfl ?_
  refine gl_icmp_eq C 3295 dL_law_3290 (by decide) (fun c1 => ?_) (fun c1 => absurd hq1 c1)
  refine gl_iload C 1 dL_law_3295 rfl ?_
  have kend : GL p l e s m b below meth c D K E0 mo ao Q (rsz (rsz S1 (szC S1) ns1) (szC (rsz S1 (szC S1) ns1)) ns2) ov1 t1 3312 [(6, .int r), (5, .int k), (4, .int i), (3, .ref ao), (2, .ref mo), (1, .ref o), (0, .ref b)] [] := by
    refine gl_goto C 3755 dL_law_3312 (by decide) ?_
    refine gl_sub [2, 3, 4, 5, 6] rfl ?_
    exact kk _ _ _ hI9
  refine gl_if_ne C 3312 dL_law_3297 (by decide) (fun _ => kend) (fun c2 => ?_)
  refine gl_aloadn C 3 3 dL_law_3300 rfl rfl ?_
  refine gl_iconst C 0 dL_law_3301 (by decide) ?_
  refine gl_out C dL_law_3302 ?_
  refine gl_iload C 0 dL_law_3303 rfl ?_
  refine gl_i2l C dL_law_3305 ?_
  exact gl_lcmpeq C 3312 dL_law_3306 dL_law_3307 (by decide) (fun _ => kend) (fun c3 => absurd (hq2 c2) c3)
theorem lc_48 (C : lx_Cx p l s m b c meth L xs D K E0 mo ao) {o : Nat} {I : Nat → CS → MS → Prop} (Sm : Sim (lB s) o I) {i : Int32} (hin : vp_in (i + 1) L ∧ vp_in (i + 2) L ∧ vp_in (i + 3) L ∧ vp_in (i + 4) L ∧ vp_in (i + 5) L ∧ vp_in (i + 6) L) {n : Nat} {S : CS} {t : MS} {ov : Nat → Int64} (h : I (n + 1) S t) (kk : ∀ (ov1 : Nat → Int64) (S1 : CS) (t1 : MS), I n S1 t1 → GL p l e s m b below meth c D K E0 mo ao Q S1 ov1 t1 3755 [(4, .int i), (3, .ref ao), (2, .ref mo), (1, .ref o), (0, .ref b)] []) : GL p l e s m b below meth c D K E0 mo ao Q S ov t 3315 [(4, .int i), (3, .ref ao), (2, .ref mo), (1, .ref o), (0, .ref b)] [] := by
  refine gl_aloadn C 3 1 dL_law_3315 rfl rfl ?_
  refine gl_aloadn C 4 0 dL_law_3316 rfl rfl ?_
  refine gl_iload C 0 dL_law_3317 rfl ?_
  refine gl_iconst C 1 dL_law_3319 (by decide) ?_
  refine gl_iadd C dL_law_3320 ?_
  refine gl_scr C hin.1 dL_law_3321 ?_
  refine gl_aloadn C 4 0 dL_law_3322 rfl rfl ?_
  refine gl_iload C 0 dL_law_3323 rfl ?_
  refine gl_iconst C 2 dL_law_3325 (by decide) ?_
  refine gl_iadd C dL_law_3326 ?_
  refine gl_scr C hin.2.1 dL_law_3327 ?_
  refine gl_aloadn C 1 3 dL_law_3328 rfl rfl ?_
  obtain ⟨B1, hB, hw⟩ := Sm.turnBar n S t ov (xs (Int32.toNatClampNeg (i + 1))) (xs (Int32.toNatClampNeg (i + 2))) h
  refine gl_wrap C (y := yL_turnBar) (as := [.ref o, .int (xs (Int32.toNatClampNeg (i + 1))), .int (xs (Int32.toNatClampNeg (i + 2))), .ref ao]) B1 hB.1 hB.2 (by decide) (by decide) (k_turnBar l D K E0 B1 _ ao o (xs (Int32.toNatClampNeg (i + 1))) (xs (Int32.toNatClampNeg (i + 2))) S ov _ (Sm.kd _ _ _ h) hw) hl_turnBar rfl vw_342 kl_turnBar dL_law_3329 (Nat.le_of_ble_eq_true rfl) (fun k ov1 S1 hp hz1 hz2 => ?_)
  have hp := hp hz1 hz2
  refine gl_istore C [(5, .int k), (4, .int i), (3, .ref ao), (2, .ref mo), (1, .ref o), (0, .ref b)] dL_law_3332 (by decide) rfl ?_
  refine gl_aloadn C 3 2 dL_law_3334 rfl rfl ?_
  refine gl_aloadn C 5 0 dL_law_3335 rfl rfl ?_
  refine gl_iload C 1 dL_law_3336 rfl ?_
  refine gl_iconst C 1 dL_law_3338 (by decide) ?_
  refine gl_iadd C dL_law_3339 ?_
  refine gl_scr C hin.1 dL_law_3340 ?_
  refine gl_aloadn C 5 0 dL_law_3341 rfl rfl ?_
  refine gl_iload C 1 dL_law_3342 rfl ?_
  refine gl_iconst C 2 dL_law_3344 (by decide) ?_
  refine gl_iadd C dL_law_3345 ?_
  refine gl_scr C hin.2.1 dL_law_3346 ?_
  refine gl_mod C (y := yX12_turnBar) (as := [.int (xs (Int32.toNatClampNeg (i + 1))), .int (xs (Int32.toNatClampNeg (i + 2)))]) (by decide) (by decide) (c_turnBar l D (K 0) (K 3) mo (m_ad mo) (xs (Int32.toNatClampNeg (i + 1))) (xs (Int32.toNatClampNeg (i + 2))) t _ hp) hy_turnBar rfl vq_344 cu_turnBar dL_law_3347 (Nat.le_of_ble_eq_true rfl) (fun v t1 ns1 hq hns1 => ?_)
  obtain ⟨r, rfl, hq1, hq2, hI9⟩ := hq
  have hI9 := Sm.rs _ _ _ ns1 hI9 hns1
  refine gl_istore C [(6, .int r), (5, .int k), (4, .int i), (3, .ref ao), (2, .ref mo), (1, .ref o), (0, .ref b)] dL_law_3350 (by decide) rfl ?_
  refine gl_aloadn C 4 2 dL_law_3352 rfl rfl ?_
  refine gl_mod C (y := yX12_thrown) (as := []) (by decide) (by decide) (c_thrown l D (K 0) (K 3) mo (m_ad mo) t1) hy_thrown rfl vq_184 cu_thrown dL_law_3353 (Nat.le_of_ble_eq_true rfl) (fun v t2 ns2 hq hns2 => ?_)
  obtain ⟨r2, rfl, rfl, rfl⟩ := hq
  have hI9 := Sm.rs _ _ _ ns2 hI9 hns2
  refine gl_iload C 1 dL_law_3356 rfl ?_
  refine gl_icmp_eq C 3363 dL_law_3358 (by decide) (fun c1 => ?_) (fun c1 => absurd hq1 c1)
  refine gl_iload C 1 dL_law_3363 rfl ?_
  have kend : GL p l e s m b below meth c D K E0 mo ao Q (rsz (rsz S1 (szC S1) ns1) (szC (rsz S1 (szC S1) ns1)) ns2) ov1 t1 3380 [(6, .int r), (5, .int k), (4, .int i), (3, .ref ao), (2, .ref mo), (1, .ref o), (0, .ref b)] [] := by
    refine gl_goto C 3755 dL_law_3380 (by decide) ?_
    refine gl_sub [2, 3, 4, 5, 6] rfl ?_
    exact kk _ _ _ hI9
  refine gl_if_ne C 3380 dL_law_3365 (by decide) (fun _ => kend) (fun c2 => ?_)
  refine gl_aloadn C 3 3 dL_law_3368 rfl rfl ?_
  refine gl_iconst C 0 dL_law_3369 (by decide) ?_
  refine gl_out C dL_law_3370 ?_
  refine gl_iload C 0 dL_law_3371 rfl ?_
  refine gl_i2l C dL_law_3373 ?_
  exact gl_lcmpeq C 3380 dL_law_3374 dL_law_3375 (by decide) (fun _ => kend) (fun c3 => absurd (hq2 c2) c3)
theorem lc_49 (C : lx_Cx p l s m b c meth L xs D K E0 mo ao) {o : Nat} {I : Nat → CS → MS → Prop} (Sm : Sim (lB s) o I) {i : Int32} (hin : vp_in (i + 1) L ∧ vp_in (i + 2) L ∧ vp_in (i + 3) L ∧ vp_in (i + 4) L ∧ vp_in (i + 5) L ∧ vp_in (i + 6) L) {n : Nat} {S : CS} {t : MS} {ov : Nat → Int64} (h : I (n + 1) S t) (kk : ∀ (ov1 : Nat → Int64) (S1 : CS) (t1 : MS), I n S1 t1 → GL p l e s m b below meth c D K E0 mo ao Q S1 ov1 t1 3755 [(4, .int i), (3, .ref ao), (2, .ref mo), (1, .ref o), (0, .ref b)] []) : GL p l e s m b below meth c D K E0 mo ao Q S ov t 3383 [(4, .int i), (3, .ref ao), (2, .ref mo), (1, .ref o), (0, .ref b)] [] := by
  refine gl_aloadn C 3 1 dL_law_3383 rfl rfl ?_
  refine gl_aloadn C 4 0 dL_law_3384 rfl rfl ?_
  refine gl_iload C 0 dL_law_3385 rfl ?_
  refine gl_iconst C 1 dL_law_3387 (by decide) ?_
  refine gl_iadd C dL_law_3388 ?_
  refine gl_scr C hin.1 dL_law_3389 ?_
  refine gl_aloadn C 4 0 dL_law_3390 rfl rfl ?_
  refine gl_iload C 0 dL_law_3391 rfl ?_
  refine gl_iconst C 2 dL_law_3393 (by decide) ?_
  refine gl_iadd C dL_law_3394 ?_
  refine gl_scr C hin.2.1 dL_law_3395 ?_
  refine gl_aloadn C 1 3 dL_law_3396 rfl rfl ?_
  obtain ⟨B1, hB, hw⟩ := Sm.turnTime n S t ov (xs (Int32.toNatClampNeg (i + 1))) (xs (Int32.toNatClampNeg (i + 2))) h
  refine gl_wrap C (y := yL_turnTime) (as := [.ref o, .int (xs (Int32.toNatClampNeg (i + 1))), .int (xs (Int32.toNatClampNeg (i + 2))), .ref ao]) B1 hB.1 hB.2 (by decide) (by decide) (k_turnTime l D K E0 B1 _ ao o (xs (Int32.toNatClampNeg (i + 1))) (xs (Int32.toNatClampNeg (i + 2))) S ov _ (Sm.kd _ _ _ h) hw) hl_turnTime rfl vw_345 kl_turnTime dL_law_3397 (Nat.le_of_ble_eq_true rfl) (fun k ov1 S1 hp hz1 hz2 => ?_)
  have hp := hp hz1 hz2
  refine gl_istore C [(5, .int k), (4, .int i), (3, .ref ao), (2, .ref mo), (1, .ref o), (0, .ref b)] dL_law_3400 (by decide) rfl ?_
  refine gl_aloadn C 3 2 dL_law_3402 rfl rfl ?_
  refine gl_aloadn C 5 0 dL_law_3403 rfl rfl ?_
  refine gl_iload C 1 dL_law_3404 rfl ?_
  refine gl_iconst C 1 dL_law_3406 (by decide) ?_
  refine gl_iadd C dL_law_3407 ?_
  refine gl_scr C hin.1 dL_law_3408 ?_
  refine gl_aloadn C 5 0 dL_law_3409 rfl rfl ?_
  refine gl_iload C 1 dL_law_3410 rfl ?_
  refine gl_iconst C 2 dL_law_3412 (by decide) ?_
  refine gl_iadd C dL_law_3413 ?_
  refine gl_scr C hin.2.1 dL_law_3414 ?_
  refine gl_mod C (y := yX12_turnTime) (as := [.int (xs (Int32.toNatClampNeg (i + 1))), .int (xs (Int32.toNatClampNeg (i + 2)))]) (by decide) (by decide) (c_turnTime l D (K 0) (K 3) mo (m_ad mo) (xs (Int32.toNatClampNeg (i + 1))) (xs (Int32.toNatClampNeg (i + 2))) t _ hp) hy_turnTime rfl vq_347 cu_turnTime dL_law_3415 (Nat.le_of_ble_eq_true rfl) (fun v t1 ns1 hq hns1 => ?_)
  obtain ⟨r, rfl, hq1, hq2, hI9⟩ := hq
  have hI9 := Sm.rs _ _ _ ns1 hI9 hns1
  refine gl_istore C [(6, .int r), (5, .int k), (4, .int i), (3, .ref ao), (2, .ref mo), (1, .ref o), (0, .ref b)] dL_law_3418 (by decide) rfl ?_
  refine gl_aloadn C 4 2 dL_law_3420 rfl rfl ?_
  refine gl_mod C (y := yX12_thrown) (as := []) (by decide) (by decide) (c_thrown l D (K 0) (K 3) mo (m_ad mo) t1) hy_thrown rfl vq_184 cu_thrown dL_law_3421 (Nat.le_of_ble_eq_true rfl) (fun v t2 ns2 hq hns2 => ?_)
  obtain ⟨r2, rfl, rfl, rfl⟩ := hq
  have hI9 := Sm.rs _ _ _ ns2 hI9 hns2
  refine gl_iload C 1 dL_law_3424 rfl ?_
  refine gl_icmp_eq C 3431 dL_law_3426 (by decide) (fun c1 => ?_) (fun c1 => absurd hq1 c1)
  refine gl_iload C 1 dL_law_3431 rfl ?_
  have kend : GL p l e s m b below meth c D K E0 mo ao Q (rsz (rsz S1 (szC S1) ns1) (szC (rsz S1 (szC S1) ns1)) ns2) ov1 t1 3448 [(6, .int r), (5, .int k), (4, .int i), (3, .ref ao), (2, .ref mo), (1, .ref o), (0, .ref b)] [] := by
    refine gl_goto C 3755 dL_law_3448 (by decide) ?_
    refine gl_sub [2, 3, 4, 5, 6] rfl ?_
    exact kk _ _ _ hI9
  refine gl_if_ne C 3448 dL_law_3433 (by decide) (fun _ => kend) (fun c2 => ?_)
  refine gl_aloadn C 3 3 dL_law_3436 rfl rfl ?_
  refine gl_iconst C 0 dL_law_3437 (by decide) ?_
  refine gl_out C dL_law_3438 ?_
  refine gl_iload C 0 dL_law_3439 rfl ?_
  refine gl_i2l C dL_law_3441 ?_
  exact gl_lcmpeq C 3448 dL_law_3442 dL_law_3443 (by decide) (fun _ => kend) (fun c3 => absurd (hq2 c2) c3)
theorem lc_50 (C : lx_Cx p l s m b c meth L xs D K E0 mo ao) {o : Nat} {I : Nat → CS → MS → Prop} (Sm : Sim (lB s) o I) {i : Int32} (hin : vp_in (i + 1) L ∧ vp_in (i + 2) L ∧ vp_in (i + 3) L ∧ vp_in (i + 4) L ∧ vp_in (i + 5) L ∧ vp_in (i + 6) L) {n : Nat} {S : CS} {t : MS} {ov : Nat → Int64} (h : I (n + 1) S t) (kk : ∀ (ov1 : Nat → Int64) (S1 : CS) (t1 : MS), I n S1 t1 → GL p l e s m b below meth c D K E0 mo ao Q S1 ov1 t1 3755 [(4, .int i), (3, .ref ao), (2, .ref mo), (1, .ref o), (0, .ref b)] []) : GL p l e s m b below meth c D K E0 mo ao Q S ov t 3451 [(4, .int i), (3, .ref ao), (2, .ref mo), (1, .ref o), (0, .ref b)] [] := by
  refine gl_aloadn C 3 1 dL_law_3451 rfl rfl ?_
  refine gl_aloadn C 4 0 dL_law_3452 rfl rfl ?_
  refine gl_iload C 0 dL_law_3453 rfl ?_
  refine gl_iconst C 1 dL_law_3455 (by decide) ?_
  refine gl_iadd C dL_law_3456 ?_
  refine gl_scr C hin.1 dL_law_3457 ?_
  refine gl_aloadn C 4 0 dL_law_3458 rfl rfl ?_
  refine gl_iload C 0 dL_law_3459 rfl ?_
  refine gl_iconst C 2 dL_law_3461 (by decide) ?_
  refine gl_iadd C dL_law_3462 ?_
  refine gl_scr C hin.2.1 dL_law_3463 ?_
  refine gl_aloadn C 1 3 dL_law_3464 rfl rfl ?_
  obtain ⟨B1, hB, hw⟩ := Sm.turnRest n S t ov (xs (Int32.toNatClampNeg (i + 1))) (xs (Int32.toNatClampNeg (i + 2))) h
  refine gl_wrap C (y := yL_turnRest) (as := [.ref o, .int (xs (Int32.toNatClampNeg (i + 1))), .int (xs (Int32.toNatClampNeg (i + 2))), .ref ao]) B1 hB.1 hB.2 (by decide) (by decide) (k_turnRest l D K E0 B1 _ ao o (xs (Int32.toNatClampNeg (i + 1))) (xs (Int32.toNatClampNeg (i + 2))) S ov _ (Sm.kd _ _ _ h) hw) hl_turnRest rfl vw_348 kl_turnRest dL_law_3465 (Nat.le_of_ble_eq_true rfl) (fun k ov1 S1 hp hz1 hz2 => ?_)
  have hp := hp hz1 hz2
  refine gl_istore C [(5, .int k), (4, .int i), (3, .ref ao), (2, .ref mo), (1, .ref o), (0, .ref b)] dL_law_3468 (by decide) rfl ?_
  refine gl_aloadn C 3 2 dL_law_3470 rfl rfl ?_
  refine gl_aloadn C 5 0 dL_law_3471 rfl rfl ?_
  refine gl_iload C 1 dL_law_3472 rfl ?_
  refine gl_iconst C 1 dL_law_3474 (by decide) ?_
  refine gl_iadd C dL_law_3475 ?_
  refine gl_scr C hin.1 dL_law_3476 ?_
  refine gl_aloadn C 5 0 dL_law_3477 rfl rfl ?_
  refine gl_iload C 1 dL_law_3478 rfl ?_
  refine gl_iconst C 2 dL_law_3480 (by decide) ?_
  refine gl_iadd C dL_law_3481 ?_
  refine gl_scr C hin.2.1 dL_law_3482 ?_
  refine gl_mod C (y := yX12_turnRest) (as := [.int (xs (Int32.toNatClampNeg (i + 1))), .int (xs (Int32.toNatClampNeg (i + 2)))]) (by decide) (by decide) (c_turnRest l D (K 0) (K 3) mo (m_ad mo) (xs (Int32.toNatClampNeg (i + 1))) (xs (Int32.toNatClampNeg (i + 2))) t _ hp) hy_turnRest rfl vq_350 cu_turnRest dL_law_3483 (Nat.le_of_ble_eq_true rfl) (fun v t1 ns1 hq hns1 => ?_)
  obtain ⟨r, rfl, hq1, hq2, hI9⟩ := hq
  have hI9 := Sm.rs _ _ _ ns1 hI9 hns1
  refine gl_istore C [(6, .int r), (5, .int k), (4, .int i), (3, .ref ao), (2, .ref mo), (1, .ref o), (0, .ref b)] dL_law_3486 (by decide) rfl ?_
  refine gl_aloadn C 4 2 dL_law_3488 rfl rfl ?_
  refine gl_mod C (y := yX12_thrown) (as := []) (by decide) (by decide) (c_thrown l D (K 0) (K 3) mo (m_ad mo) t1) hy_thrown rfl vq_184 cu_thrown dL_law_3489 (Nat.le_of_ble_eq_true rfl) (fun v t2 ns2 hq hns2 => ?_)
  obtain ⟨r2, rfl, rfl, rfl⟩ := hq
  have hI9 := Sm.rs _ _ _ ns2 hI9 hns2
  refine gl_iload C 1 dL_law_3492 rfl ?_
  refine gl_icmp_eq C 3499 dL_law_3494 (by decide) (fun c1 => ?_) (fun c1 => absurd hq1 c1)
  refine gl_iload C 1 dL_law_3499 rfl ?_
  have kend : GL p l e s m b below meth c D K E0 mo ao Q (rsz (rsz S1 (szC S1) ns1) (szC (rsz S1 (szC S1) ns1)) ns2) ov1 t1 3516 [(6, .int r), (5, .int k), (4, .int i), (3, .ref ao), (2, .ref mo), (1, .ref o), (0, .ref b)] [] := by
    refine gl_goto C 3755 dL_law_3516 (by decide) ?_
    refine gl_sub [2, 3, 4, 5, 6] rfl ?_
    exact kk _ _ _ hI9
  refine gl_if_ne C 3516 dL_law_3501 (by decide) (fun _ => kend) (fun c2 => ?_)
  refine gl_aloadn C 3 3 dL_law_3504 rfl rfl ?_
  refine gl_iconst C 0 dL_law_3505 (by decide) ?_
  refine gl_out C dL_law_3506 ?_
  refine gl_iload C 0 dL_law_3507 rfl ?_
  refine gl_i2l C dL_law_3509 ?_
  exact gl_lcmpeq C 3516 dL_law_3510 dL_law_3511 (by decide) (fun _ => kend) (fun c3 => absurd (hq2 c2) c3)
theorem lc_51 (C : lx_Cx p l s m b c meth L xs D K E0 mo ao) {o : Nat} {I : Nat → CS → MS → Prop} (Sm : Sim (lB s) o I) {i : Int32} (hin : vp_in (i + 1) L ∧ vp_in (i + 2) L ∧ vp_in (i + 3) L ∧ vp_in (i + 4) L ∧ vp_in (i + 5) L ∧ vp_in (i + 6) L) {n : Nat} {S : CS} {t : MS} {ov : Nat → Int64} (h : I (n + 1) S t) (kk : ∀ (ov1 : Nat → Int64) (S1 : CS) (t1 : MS), I n S1 t1 → GL p l e s m b below meth c D K E0 mo ao Q S1 ov1 t1 3755 [(4, .int i), (3, .ref ao), (2, .ref mo), (1, .ref o), (0, .ref b)] []) : GL p l e s m b below meth c D K E0 mo ao Q S ov t 3519 [(4, .int i), (3, .ref ao), (2, .ref mo), (1, .ref o), (0, .ref b)] [] := by
  refine gl_aloadn C 3 1 dL_law_3519 rfl rfl ?_
  refine gl_aloadn C 4 0 dL_law_3520 rfl rfl ?_
  refine gl_iload C 0 dL_law_3521 rfl ?_
  refine gl_iconst C 1 dL_law_3523 (by decide) ?_
  refine gl_iadd C dL_law_3524 ?_
  refine gl_scr C hin.1 dL_law_3525 ?_
  refine gl_aloadn C 1 3 dL_law_3526 rfl rfl ?_
  obtain ⟨B1, hB, hw⟩ := Sm.badTurns n S t ov (xs (Int32.toNatClampNeg (i + 1))) h
  refine gl_wrap C (y := yL_badTurns) (as := [.ref o, .int (xs (Int32.toNatClampNeg (i + 1))), .ref ao]) B1 hB.1 hB.2 (by decide) (by decide) (k_badTurns l D K E0 B1 _ ao o (xs (Int32.toNatClampNeg (i + 1))) S ov _ (Sm.kd _ _ _ h) hw) hl_badTurns rfl vw_351 kl_badTurns dL_law_3527 (Nat.le_of_ble_eq_true rfl) (fun k ov1 S1 hp hz1 hz2 => ?_)
  have hp := hp hz1 hz2
  refine gl_istore C [(5, .int k), (4, .int i), (3, .ref ao), (2, .ref mo), (1, .ref o), (0, .ref b)] dL_law_3530 (by decide) rfl ?_
  refine gl_aloadn C 3 2 dL_law_3532 rfl rfl ?_
  refine gl_aloadn C 5 0 dL_law_3533 rfl rfl ?_
  refine gl_iload C 1 dL_law_3534 rfl ?_
  refine gl_iconst C 1 dL_law_3536 (by decide) ?_
  refine gl_iadd C dL_law_3537 ?_
  refine gl_scr C hin.1 dL_law_3538 ?_
  refine gl_mod C (y := yX12_badTurns) (as := [.int (xs (Int32.toNatClampNeg (i + 1)))]) (by decide) (by decide) (c_badTurns l D (K 0) (K 3) mo (m_ad mo) (xs (Int32.toNatClampNeg (i + 1))) t _ hp) hy_badTurns rfl vq_353 cu_badTurns dL_law_3539 (Nat.le_of_ble_eq_true rfl) (fun v t1 ns1 hq hns1 => ?_)
  obtain ⟨r, rfl, hq1, hq2, hI9⟩ := hq
  have hI9 := Sm.rs _ _ _ ns1 hI9 hns1
  refine gl_istore C [(6, .int r), (5, .int k), (4, .int i), (3, .ref ao), (2, .ref mo), (1, .ref o), (0, .ref b)] dL_law_3542 (by decide) rfl ?_
  refine gl_aloadn C 4 2 dL_law_3544 rfl rfl ?_
  refine gl_mod C (y := yX12_thrown) (as := []) (by decide) (by decide) (c_thrown l D (K 0) (K 3) mo (m_ad mo) t1) hy_thrown rfl vq_184 cu_thrown dL_law_3545 (Nat.le_of_ble_eq_true rfl) (fun v t2 ns2 hq hns2 => ?_)
  obtain ⟨r2, rfl, rfl, rfl⟩ := hq
  have hI9 := Sm.rs _ _ _ ns2 hI9 hns2
  refine gl_iload C 1 dL_law_3548 rfl ?_
  refine gl_icmp_eq C 3555 dL_law_3550 (by decide) (fun c1 => ?_) (fun c1 => absurd hq1 c1)
  refine gl_iload C 1 dL_law_3555 rfl ?_
  have kend : GL p l e s m b below meth c D K E0 mo ao Q (rsz (rsz S1 (szC S1) ns1) (szC (rsz S1 (szC S1) ns1)) ns2) ov1 t1 3572 [(6, .int r), (5, .int k), (4, .int i), (3, .ref ao), (2, .ref mo), (1, .ref o), (0, .ref b)] [] := by
    refine gl_goto C 3755 dL_law_3572 (by decide) ?_
    refine gl_sub [2, 3, 4, 5, 6] rfl ?_
    exact kk _ _ _ hI9
  refine gl_if_ne C 3572 dL_law_3557 (by decide) (fun _ => kend) (fun c2 => ?_)
  refine gl_aloadn C 3 3 dL_law_3560 rfl rfl ?_
  refine gl_iconst C 0 dL_law_3561 (by decide) ?_
  refine gl_out C dL_law_3562 ?_
  refine gl_iload C 0 dL_law_3563 rfl ?_
  refine gl_i2l C dL_law_3565 ?_
  exact gl_lcmpeq C 3572 dL_law_3566 dL_law_3567 (by decide) (fun _ => kend) (fun c3 => absurd (hq2 c2) c3)
theorem lc_52 (C : lx_Cx p l s m b c meth L xs D K E0 mo ao) {o : Nat} {I : Nat → CS → MS → Prop} (Sm : Sim (lB s) o I) {i : Int32} (hin : vp_in (i + 1) L ∧ vp_in (i + 2) L ∧ vp_in (i + 3) L ∧ vp_in (i + 4) L ∧ vp_in (i + 5) L ∧ vp_in (i + 6) L) {n : Nat} {S : CS} {t : MS} {ov : Nat → Int64} (h : I (n + 1) S t) (kk : ∀ (ov1 : Nat → Int64) (S1 : CS) (t1 : MS), I n S1 t1 → GL p l e s m b below meth c D K E0 mo ao Q S1 ov1 t1 3755 [(4, .int i), (3, .ref ao), (2, .ref mo), (1, .ref o), (0, .ref b)] []) : GL p l e s m b below meth c D K E0 mo ao Q S ov t 3575 [(4, .int i), (3, .ref ao), (2, .ref mo), (1, .ref o), (0, .ref b)] [] := by
  refine gl_aloadn C 3 1 dL_law_3575 rfl rfl ?_
  refine gl_aloadn C 4 0 dL_law_3576 rfl rfl ?_
  refine gl_iload C 0 dL_law_3577 rfl ?_
  refine gl_iconst C 1 dL_law_3579 (by decide) ?_
  refine gl_iadd C dL_law_3580 ?_
  refine gl_scr C hin.1 dL_law_3581 ?_
  refine gl_aloadn C 1 3 dL_law_3582 rfl rfl ?_
  obtain ⟨B1, hB, hw⟩ := Sm.sheets n S t ov (xs (Int32.toNatClampNeg (i + 1))) h
  refine gl_wrap C (y := yL_sheets) (as := [.ref o, .int (xs (Int32.toNatClampNeg (i + 1))), .ref ao]) B1 hB.1 hB.2 (by decide) (by decide) (k_sheets l D K E0 B1 _ ao o (xs (Int32.toNatClampNeg (i + 1))) S ov _ (Sm.kd _ _ _ h) hw) hl_sheets rfl vw_354 kl_sheets dL_law_3583 (Nat.le_of_ble_eq_true rfl) (fun k ov1 S1 hp hz1 hz2 => ?_)
  have hp := hp hz1 hz2
  refine gl_istore C [(5, .int k), (4, .int i), (3, .ref ao), (2, .ref mo), (1, .ref o), (0, .ref b)] dL_law_3586 (by decide) rfl ?_
  refine gl_aloadn C 3 2 dL_law_3588 rfl rfl ?_
  refine gl_aloadn C 5 0 dL_law_3589 rfl rfl ?_
  refine gl_iload C 1 dL_law_3590 rfl ?_
  refine gl_iconst C 1 dL_law_3592 (by decide) ?_
  refine gl_iadd C dL_law_3593 ?_
  refine gl_scr C hin.1 dL_law_3594 ?_
  refine gl_mod C (y := yX12_sheets) (as := [.int (xs (Int32.toNatClampNeg (i + 1)))]) (by decide) (by decide) (c_sheets l D (K 0) (K 3) mo (m_ad mo) (xs (Int32.toNatClampNeg (i + 1))) t _ hp) hy_sheets rfl vq_356 cu_sheets dL_law_3595 (Nat.le_of_ble_eq_true rfl) (fun v t1 ns1 hq hns1 => ?_)
  obtain ⟨r, rfl, hq1, hq2, hI9⟩ := hq
  have hI9 := Sm.rs _ _ _ ns1 hI9 hns1
  refine gl_istore C [(6, .int r), (5, .int k), (4, .int i), (3, .ref ao), (2, .ref mo), (1, .ref o), (0, .ref b)] dL_law_3598 (by decide) rfl ?_
  refine gl_aloadn C 4 2 dL_law_3600 rfl rfl ?_
  refine gl_mod C (y := yX12_thrown) (as := []) (by decide) (by decide) (c_thrown l D (K 0) (K 3) mo (m_ad mo) t1) hy_thrown rfl vq_184 cu_thrown dL_law_3601 (Nat.le_of_ble_eq_true rfl) (fun v t2 ns2 hq hns2 => ?_)
  obtain ⟨r2, rfl, rfl, rfl⟩ := hq
  have hI9 := Sm.rs _ _ _ ns2 hI9 hns2
  refine gl_iload C 1 dL_law_3604 rfl ?_
  refine gl_icmp_eq C 3611 dL_law_3606 (by decide) (fun c1 => ?_) (fun c1 => absurd hq1 c1)
  refine gl_iload C 1 dL_law_3611 rfl ?_
  have kend : GL p l e s m b below meth c D K E0 mo ao Q (rsz (rsz S1 (szC S1) ns1) (szC (rsz S1 (szC S1) ns1)) ns2) ov1 t1 3628 [(6, .int r), (5, .int k), (4, .int i), (3, .ref ao), (2, .ref mo), (1, .ref o), (0, .ref b)] [] := by
    refine gl_goto C 3755 dL_law_3628 (by decide) ?_
    refine gl_sub [2, 3, 4, 5, 6] rfl ?_
    exact kk _ _ _ hI9
  refine gl_if_ne C 3628 dL_law_3613 (by decide) (fun _ => kend) (fun c2 => ?_)
  refine gl_aloadn C 3 3 dL_law_3616 rfl rfl ?_
  refine gl_iconst C 0 dL_law_3617 (by decide) ?_
  refine gl_out C dL_law_3618 ?_
  refine gl_iload C 0 dL_law_3619 rfl ?_
  refine gl_i2l C dL_law_3621 ?_
  exact gl_lcmpeq C 3628 dL_law_3622 dL_law_3623 (by decide) (fun _ => kend) (fun c3 => absurd (hq2 c2) c3)
theorem lc_53 (C : lx_Cx p l s m b c meth L xs D K E0 mo ao) {o : Nat} {I : Nat → CS → MS → Prop} (Sm : Sim (lB s) o I) {i : Int32} (hin : vp_in (i + 1) L ∧ vp_in (i + 2) L ∧ vp_in (i + 3) L ∧ vp_in (i + 4) L ∧ vp_in (i + 5) L ∧ vp_in (i + 6) L) {n : Nat} {S : CS} {t : MS} {ov : Nat → Int64} (h : I (n + 1) S t) (kk : ∀ (ov1 : Nat → Int64) (S1 : CS) (t1 : MS), I n S1 t1 → GL p l e s m b below meth c D K E0 mo ao Q S1 ov1 t1 3755 [(4, .int i), (3, .ref ao), (2, .ref mo), (1, .ref o), (0, .ref b)] []) : GL p l e s m b below meth c D K E0 mo ao Q S ov t 3631 [(4, .int i), (3, .ref ao), (2, .ref mo), (1, .ref o), (0, .ref b)] [] := by
  refine gl_aloadn C 3 1 dL_law_3631 rfl rfl ?_
  refine gl_aloadn C 4 0 dL_law_3632 rfl rfl ?_
  refine gl_iload C 0 dL_law_3633 rfl ?_
  refine gl_iconst C 1 dL_law_3635 (by decide) ?_
  refine gl_iadd C dL_law_3636 ?_
  refine gl_scr C hin.1 dL_law_3637 ?_
  refine gl_aloadn C 4 0 dL_law_3638 rfl rfl ?_
  refine gl_iload C 0 dL_law_3639 rfl ?_
  refine gl_iconst C 2 dL_law_3641 (by decide) ?_
  refine gl_iadd C dL_law_3642 ?_
  refine gl_scr C hin.2.1 dL_law_3643 ?_
  refine gl_aloadn C 4 0 dL_law_3644 rfl rfl ?_
  refine gl_iload C 0 dL_law_3645 rfl ?_
  refine gl_iconst C 3 dL_law_3647 (by decide) ?_
  refine gl_iadd C dL_law_3648 ?_
  refine gl_scr C hin.2.2.1 dL_law_3649 ?_
  refine gl_bool C dL_law_3650 dL_law_3653 dL_law_3654 dL_law_3657 ?_
  refine gl_aloadn C 4 0 dL_law_3658 rfl rfl ?_
  refine gl_iload C 0 dL_law_3659 rfl ?_
  refine gl_iconst C 4 dL_law_3661 (by decide) ?_
  refine gl_iadd C dL_law_3662 ?_
  refine gl_scr C hin.2.2.2.1 dL_law_3663 ?_
  refine gl_bool C dL_law_3664 dL_law_3667 dL_law_3668 dL_law_3671 ?_
  refine gl_aloadn C 1 3 dL_law_3672 rfl rfl ?_
  obtain ⟨B1, hB, hw⟩ := Sm.sheetPage n S t ov (xs (Int32.toNatClampNeg (i + 1))) (xs (Int32.toNatClampNeg (i + 2))) (lbo (xs (Int32.toNatClampNeg (i + 3)))) (lbo (xs (Int32.toNatClampNeg (i + 4)))) h
  refine gl_wrap C (y := yL_sheetPage) (as := [.ref o, .int (xs (Int32.toNatClampNeg (i + 1))), .int (xs (Int32.toNatClampNeg (i + 2))), .int (lbo (xs (Int32.toNatClampNeg (i + 3)))), .int (lbo (xs (Int32.toNatClampNeg (i + 4)))), .ref ao]) B1 hB.1 hB.2 (by decide) (by decide) (k_sheetPage l D K E0 B1 _ ao o (xs (Int32.toNatClampNeg (i + 1))) (xs (Int32.toNatClampNeg (i + 2))) (lbo (xs (Int32.toNatClampNeg (i + 3)))) (lbo (xs (Int32.toNatClampNeg (i + 4)))) S ov _ (Sm.kd _ _ _ h) hw) hl_sheetPage rfl vw_357 kl_sheetPage dL_law_3673 (Nat.le_of_ble_eq_true rfl) (fun k ov1 S1 hp hz1 hz2 => ?_)
  have hp := hp hz1 hz2
  refine gl_istore C [(5, .int k), (4, .int i), (3, .ref ao), (2, .ref mo), (1, .ref o), (0, .ref b)] dL_law_3676 (by decide) rfl ?_
  refine gl_aloadn C 3 2 dL_law_3678 rfl rfl ?_
  refine gl_aloadn C 5 0 dL_law_3679 rfl rfl ?_
  refine gl_iload C 1 dL_law_3680 rfl ?_
  refine gl_iconst C 1 dL_law_3682 (by decide) ?_
  refine gl_iadd C dL_law_3683 ?_
  refine gl_scr C hin.1 dL_law_3684 ?_
  refine gl_aloadn C 5 0 dL_law_3685 rfl rfl ?_
  refine gl_iload C 1 dL_law_3686 rfl ?_
  refine gl_iconst C 2 dL_law_3688 (by decide) ?_
  refine gl_iadd C dL_law_3689 ?_
  refine gl_scr C hin.2.1 dL_law_3690 ?_
  refine gl_aloadn C 5 0 dL_law_3691 rfl rfl ?_
  refine gl_iload C 1 dL_law_3692 rfl ?_
  refine gl_iconst C 3 dL_law_3694 (by decide) ?_
  refine gl_iadd C dL_law_3695 ?_
  refine gl_scr C hin.2.2.1 dL_law_3696 ?_
  refine gl_bool C dL_law_3697 dL_law_3700 dL_law_3701 dL_law_3704 ?_
  refine gl_aloadn C 5 0 dL_law_3705 rfl rfl ?_
  refine gl_iload C 1 dL_law_3706 rfl ?_
  refine gl_iconst C 4 dL_law_3708 (by decide) ?_
  refine gl_iadd C dL_law_3709 ?_
  refine gl_scr C hin.2.2.2.1 dL_law_3710 ?_
  refine gl_bool C dL_law_3711 dL_law_3714 dL_law_3715 dL_law_3718 ?_
  refine gl_mod C (y := yX12_sheetPage) (as := [.int (xs (Int32.toNatClampNeg (i + 1))), .int (xs (Int32.toNatClampNeg (i + 2))), .int (lbo (xs (Int32.toNatClampNeg (i + 3)))), .int (lbo (xs (Int32.toNatClampNeg (i + 4))))]) (by decide) (by decide) (c_sheetPage l D (K 0) (K 3) mo (m_ad mo) (xs (Int32.toNatClampNeg (i + 1))) (xs (Int32.toNatClampNeg (i + 2))) (lbo (xs (Int32.toNatClampNeg (i + 3)))) (lbo (xs (Int32.toNatClampNeg (i + 4)))) t _ hp) hy_sheetPage rfl vq_360 cu_sheetPage dL_law_3719 (Nat.le_of_ble_eq_true rfl) (fun v t1 ns1 hq hns1 => ?_)
  obtain ⟨r, rfl, hq1, hq2, hI9⟩ := hq
  have hI9 := Sm.rs _ _ _ ns1 hI9 hns1
  refine gl_istore C [(6, .int r), (5, .int k), (4, .int i), (3, .ref ao), (2, .ref mo), (1, .ref o), (0, .ref b)] dL_law_3722 (by decide) rfl ?_
  refine gl_aloadn C 4 2 dL_law_3724 rfl rfl ?_
  refine gl_mod C (y := yX12_thrown) (as := []) (by decide) (by decide) (c_thrown l D (K 0) (K 3) mo (m_ad mo) t1) hy_thrown rfl vq_184 cu_thrown dL_law_3725 (Nat.le_of_ble_eq_true rfl) (fun v t2 ns2 hq hns2 => ?_)
  obtain ⟨r2, rfl, rfl, rfl⟩ := hq
  have hI9 := Sm.rs _ _ _ ns2 hI9 hns2
  refine gl_iload C 1 dL_law_3728 rfl ?_
  refine gl_icmp_eq C 3735 dL_law_3730 (by decide) (fun c1 => ?_) (fun c1 => absurd hq1 c1)
  refine gl_iload C 1 dL_law_3735 rfl ?_
  have kend : GL p l e s m b below meth c D K E0 mo ao Q (rsz (rsz S1 (szC S1) ns1) (szC (rsz S1 (szC S1) ns1)) ns2) ov1 t1 3752 [(6, .int r), (5, .int k), (4, .int i), (3, .ref ao), (2, .ref mo), (1, .ref o), (0, .ref b)] [] := by
    refine gl_goto C 3755 dL_law_3752 (by decide) ?_
    refine gl_sub [2, 3, 4, 5, 6] rfl ?_
    exact kk _ _ _ hI9
  refine gl_if_ne C 3752 dL_law_3737 (by decide) (fun _ => kend) (fun c2 => ?_)
  refine gl_aloadn C 3 3 dL_law_3740 rfl rfl ?_
  refine gl_iconst C 0 dL_law_3741 (by decide) ?_
  refine gl_out C dL_law_3742 ?_
  refine gl_iload C 0 dL_law_3743 rfl ?_
  refine gl_i2l C dL_law_3745 ?_
  exact gl_lcmpeq C 3752 dL_law_3746 dL_law_3747 (by decide) (fun _ => kend) (fun c3 => absurd (hq2 c2) c3)
end LC
