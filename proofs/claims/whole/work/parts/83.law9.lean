/-! the start: classes, rows of ints that the statement gives, nest mates -/
theorem nest_in : ∀ w ∈ nestW, w ∈ lw_tbl := by decide +kernel
theorem gv_JUMPS : ∀ j, j < 25 → Cond.eq (Term.elem (Term.static "AgingMen$Rules" "JUMPS" "[I") (Term.int (Int32.ofNat j))) (Term.int (jumpsF j)) ∈ flatC (Jvm.Cond.and given_1 narrow_1) := by decide +kernel
theorem gl_JUMPS : Cond.eq (Term.length (Term.static "AgingMen$Rules" "JUMPS" "[I")) (Term.int 25) ∈ flatC (Jvm.Cond.and given_1 narrow_1) := by decide +kernel
theorem ga_JUMPS : Cond.arrayOf (Term.static "AgingMen$Rules" "JUMPS" "[I") .int ∈ flatC (Jvm.Cond.and given_1 narrow_1) := by decide +kernel
theorem gw_JUMPS : Cond.laysStatic "AgingMen$Rules" "JUMPS" "[I" ∈ lw_tbl := by decide +kernel
theorem gv_STEPS : ∀ j, j < 25 → Cond.eq (Term.elem (Term.static "AgingMen$Rules" "STEPS" "[I") (Term.int (Int32.ofNat j))) (Term.int (stepsF j)) ∈ flatC (Jvm.Cond.and given_1 narrow_1) := by decide +kernel
theorem gl_STEPS : Cond.eq (Term.length (Term.static "AgingMen$Rules" "STEPS" "[I")) (Term.int 25) ∈ flatC (Jvm.Cond.and given_1 narrow_1) := by decide +kernel
theorem ga_STEPS : Cond.arrayOf (Term.static "AgingMen$Rules" "STEPS" "[I") .int ∈ flatC (Jvm.Cond.and given_1 narrow_1) := by decide +kernel
theorem gw_STEPS : Cond.laysStatic "AgingMen$Rules" "STEPS" "[I" ∈ lw_tbl := by decide +kernel
theorem arr_of {s : State} {args : Array Value} {ty : FieldType} (h : (Cond.arrayClass ty).before args s = true) : ∃ cA, ArrOfT s cA ty ∧ s.vm.findClass ("[" ++ ty.toString) = some cA := by
  obtain ⟨cA, kA, comp, h1, h2, h3⟩ := Cond.arrayClass_spec h
  exact ⟨cA, fun n z => ⟨fun k h => (by cases h), kA, h2, comp, h3⟩, h1⟩
set_option maxHeartbeats 4000000 in
theorem start_E {s : State} {b : Nat} (hts0 : ∀ w ∈ lw_tbl, w.before #[Value.ref b] s = true) (hgv : (Jvm.Cond.and given_1 narrow_1).before #[Value.ref b] s = true) : ∃ G : gT, gE G (fun q : Nat => s.heap.size ≤ q) s s.heap := by
  have hu : ∀ w ∈ UW, w.before #[Value.ref b] s = true := fun w h => hts0 w (List.mem_filter.mp h).1
  have hs := flat_of_before _ hgv
  have hA : ∀ a : Nat, a < s.heap.size → ¬ (fun q : Nat => s.heap.size ≤ q) a := fun a h1 h2 => Nat.not_le.mpr h1 h2
  obtain ⟨c0, i0, k0⟩ := u_known (C := RX0) (T := TX0) (N := 5) (n := 5) hu uin_X0 (hu _ mw_102)
  obtain ⟨c1, i1, k1⟩ := u_known (C := RX1) (T := TX1) (N := 4) (n := 4) hu uin_X1 (hu _ mw_179)
  obtain ⟨c2, i2, k2⟩ := u_known (C := RX2) (T := TX2) (N := 3) (n := 3) hu uin_X2 (hu _ mw_127)
  obtain ⟨c3, i3, k3⟩ := u_known (C := RX3) (T := TX3) (N := 2) (n := 2) hu uin_X3 (hu _ mw_68)
  obtain ⟨c4, i4, k4⟩ := u_known (C := RX4) (T := TX4) (N := 8) (n := 8) hu uin_X4 (hu _ mw_146)
  obtain ⟨c5, i5, k5⟩ := u_known (C := RX5) (T := TX5) (N := 3) (n := 3) hu uin_X5 (hu _ mw_83)
  obtain ⟨c6, i6, k6⟩ := u_known (C := RX7) (T := TX7) (N := 16) (n := 16) hu uin_X7 (hu _ mw_474)
  obtain ⟨c7, i7, k7⟩ := u_known (C := RX9) (T := TX9) (N := 10) (n := 10) hu uin_X9 (hu _ mw_60)
  obtain ⟨c8, i8, k8⟩ := u_known (C := RX10) (T := TX10) (N := 32) (n := 32) hu uin_X10 (hu _ mw_717)
  obtain ⟨dC, dI, hKc⟩ : ∃ (dC : Nat → ClassId) (dI : Nat → Nat → Nat), ∀ (k : Nat) (q : vw_C), vwCl[k]? = some q → u_Kn s q.1 q.2.1 q.2.2 (dC k) (dI k) := by
    refine ⟨fun k => if k = 0 then c0 else if k = 1 then c1 else if k = 2 then c2 else if k = 3 then c3 else if k = 4 then c4 else if k = 5 then c5 else if k = 6 then c6 else if k = 7 then c7 else c8, fun k => if k = 0 then i0 else if k = 1 then i1 else if k = 2 then i2 else if k = 3 then i3 else if k = 4 then i4 else if k = 5 then i5 else if k = 6 then i6 else if k = 7 then i7 else i8, ?_⟩
    intro k q hq
    match k, hq with
    | 0, hq => cases hq; exact k0
    | 1, hq => cases hq; exact k1
    | 2, hq => cases hq; exact k2
    | 3, hq => cases hq; exact k3
    | 4, hq => cases hq; exact k4
    | 5, hq => cases hq; exact k5
    | 6, hq => cases hq; exact k6
    | 7, hq => cases hq; exact k7
    | 8, hq => cases hq; exact k8
    | k + 9, hq => simp [vwCl] at hq
  obtain ⟨cI, aI, mI⟩ := arr_of (hu (.arrayClass .int) mw_125)
  obtain ⟨cJ, aJ, nJ⟩ := arr_of (hu (.arrayClass .long) mw_124)
  obtain ⟨cB, aB, nB⟩ := arr_of (hu (.arrayClass .byte) mw_81)
  obtain ⟨cZ, aZ, nZ⟩ := arr_of (hu (.arrayClass .boolean) mw_826)
  obtain ⟨tU, eU, TU⟩ := va_Tof (f := fun j => .int (jumpsF j)) (A := fun q : Nat => s.heap.size ≤ q) (N := 25) (by omega) (hs _ ga_JUMPS) (va_eqt (hs _ gl_JUMPS)) (fun j hj => va_eqt (hs _ (gv_JUMPS j hj))) hA
  have ZU := va_Zref (A := fun q : Nat => s.heap.size ≤ q) (hts0 _ gw_JUMPS) (hu _ mw_47) eU hA
  obtain ⟨tS, eS, TS⟩ := va_Tof (f := fun j => .int (stepsF j)) (A := fun q : Nat => s.heap.size ≤ q) (N := 25) (by omega) (hs _ ga_STEPS) (va_eqt (hs _ gl_STEPS)) (fun j hj => va_eqt (hs _ (gv_STEPS j hj))) hA
  have ZS := va_Zref (A := fun q : Nat => s.heap.size ≤ q) (hts0 _ gw_STEPS) (hu _ mw_47) eS hA
  refine ⟨((dC, dI), cI, cJ, cB, cZ, tU, tS), ⟨hKc, fun k q h => ?_⟩, fun w hw => va_Nw.of (nest_on w hw) (hts0 w (nest_in w hw)), ZU, ZS, TU, TS⟩
  match k, h with
  | 0, h => cases h; exact ⟨aI, mI⟩
  | 1, h => cases h; exact ⟨aJ, nJ⟩
  | 2, h => cases h; exact ⟨aB, nB⟩
  | 3, h => cases h; exact ⟨aZ, nZ⟩
  | k + 4, h => simp [gTys] at h
theorem start_c : f_X8_put (f_X8_put 1092850007424543 0 0 0) 3 24 0 = enc (updN (updN (fun _ => 31) 0 0) 3 24) 0 := by decide +kernel
theorem start_m : f_X10_put (f_X10_put 1092850007424543 0 0 0) 3 24 0 = enc (updN (updN (fun _ => 31) 0 0) 3 24) 0 := by decide +kernel
theorem start_wf : Wf (updN (updN (fun _ => 31) 0 0) 3 24) 0 := by
  unfold Wf
  decide
