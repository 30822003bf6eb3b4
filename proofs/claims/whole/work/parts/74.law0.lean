/-! the law: its own end (out of the skeleton), small calls, arguments -/
theorem op_wipe {k : Nat} {P : Nat → Nat} {ps pm : Int32} {sg pd : Nat → Int32} (h : PadR k P ps sg pm pd) : ∃ r, PadR 0 P 0 sg 0 pd ∧ f_X9_wipe ps = (r, 0) ∧ f_X10_wipe pm = (r, 0) := by
  obtain ⟨h1, h2, h3, h4⟩ := h
  exact ⟨nI k, ⟨by omega, rfl, rfl, fun i hi => absurd hi (Nat.not_lt_zero _)⟩, by rw [h2]; rfl, by rw [h3]; rfl⟩
theorem in01_no {nn : Int32} (h0 : ¬ nn = 0) (h1 : ¬ nn = 1) : f_X10_in nn.toInt64 0 1 = 0 := by
  rw [in01, decide_eq_false h0, decide_eq_false h1]
  rfl
theorem image_out {nn : Int32} (h0 : ¬ nn = 0) (h1 : ¬ nn = 1) (bd : Int64) (by_ gr ol gs ka iw : Int32) (gb : Nat → Int64) (gm gv rr : Nat → Int32) (kb : Nat → Int64) (kp ik : Nat → Int32) : f_X10_image bd by_ gr ol gs ka iw gb gm gv rr kb kp ik nn = some (-2, bd, by_, gr, ol, gs, ka, iw, gb, gm, gv, rr, kb, kp, ik) := by
  rw [f_X10_image, in01_no h0 h1, if_pos rfl]
theorem restore_out {nn : Int32} (h0 : ¬ nn = 0) (h1 : ¬ nn = 1) (bd : Int64) (by_ gr ol gs ka iw : Int32) (gb : Nat → Int64) (gm gv rr : Nat → Int32) (kb : Nat → Int64) (kp ik : Nat → Int32) : f_X10_restore bd by_ gr ol gs ka iw gb gm gv rr kb kp ik nn = some (-2, bd, by_, gr, ol, gs, ka, iw, gb, gm, gv, rr, kb, kp) := by
  rw [f_X10_restore, in01_no h0 h1, if_pos rfl]
theorem solve_out {wh : Int32} (h : wh < 0 ∨ ¬ wh ≤ 2) (bd : Int64) (b g o my ms : Int32) (xs : Nat → Int64) (pl rs la xb A B : Nat → Int32) : f_X10_solve bd b g o my ms xs pl rs la xb A B wh = some (-2, ms, xs, pl, rs, la, xb, my, A, B) := by
  have hin : f_X10_in wh.toInt64 0 2 = b2i (decide ((0 : Int32) ≤ wh) && decide (wh ≤ 2)) := in3 wh 0 2
  rw [f_X10_solve, hin, and_ff (fun e => by
    rcases h with h | h
    · exact Int32.not_le.mpr h e.1
    · exact h e.2), if_pos (show b2i false = (0 : Int32) from rfl)]
theorem even_out {b g o : Nat} {f : Nat → Nat} {t : Nat} (hL : Lw b g o) (h : Wf f t) {mn : Int32} (hm : mn < 0 ∨ (¬ mn < 0 ∧ 6 ≤ mn) ∨ (¬ mn < 0 ∧ ¬ 6 ≤ mn ∧ f_X8_isUp (enc f t) mn = 0)) (my ms : Int32) (xs : Nat → Int64) (pl rs la xb A B : Nat → Int32) : ∃ q, f_X10_even (enc f t) (nI b) (nI g) (nI o) my ms xs pl rs la xb A B mn = some (-1, q) := by
  obtain ⟨ans, srd', dp, sst', slw', ct, fu, sc, bm, fi', mk', pa', ss', li', tt', be', ro', q, k1, -, k3⟩ := op_even hL h (R := 0) (by omega) (solI_new 0) 0 (fun _ => 0) (fun _ => 0) (fun _ => 0) (fun _ => 0) (fun _ => 0) (fun _ => 0) (fun _ => 0) mn my ms xs pl rs la xb A B
  have e : ans = -1 := by
    rw [f_X9_even] at k1
    rcases hm with h0 | ⟨h0, h1⟩ | ⟨h0, h1, h2⟩
    · rw [if_pos h0] at k1
      exact (congrArg (fun z => z.1) (Option.some.inj k1)).symm
    · rw [if_neg h0, if_pos h1] at k1
      exact (congrArg (fun z => z.1) (Option.some.inj k1)).symm
    · rw [if_neg h0, if_neg h1, if_pos h2] at k1
      exact (congrArg (fun z => z.1) (Option.some.inj k1)).symm
  rw [e] at k3
  exact ⟨q, k3⟩
theorem restore_1 : @f_X9_restore_1 = @f_X9_restore_0 := rfl
theorem image_c (gst : Int64) (b g o : Nat) (bc : Int32) (bs : Nat → Int64) (bl br bp : Nat → Int32) (is : Nat → Int64) (il ir ip : Nat → Int32) : f_X9_image_0 gst (nI b) (nI g) (nI o) bc bs bl br bp is il ir ip = (1, 1, gst, nI (100 * b + 10 * g + o), bc, va_cpy bs is 0 0 8, va_cpy bl il 0 0 8, va_cpy br ir 0 0 8, va_cpy bp ip 0 0 96) := by
  rw [f_X9_image_0, f_X9_image_0_B12, code_c, jle, jle, copy_c]
theorem image_1 : @f_X9_image_1 = @f_X9_image_0 := rfl
def R_law : String := "AgingMenLaw"
def lw_P (b : Addr) (xs : List Int32) (args : Array Value) (s : State) : Prop := args = #[.ref b] ∧ s.IntsAt b xs ∧ xs.length ≤ 256 ∧ (Jvm.Cond.and given_1 narrow_1).before args s = true
def lw_Q (_ : Array Value) (s : State) (o : Outcome) (t : State) : Prop := o = .returned (some (.int 1)) ∧ Framed s o t [] 600000 7302250
def lw_Z (below : List Frame) (a : Array Value) (s : State) : State → Prop := fun t => ∃ o, t.status = .running ∧ Ended t below o ∧ lw_Q a s o t
/-- the law's own end, with 1 on the stack, nothing written that was there before, its room as the claim has it -/
theorem lw_ret {p : Program} {l : Launch} {e : Env} {s : State} {m : MethodId} {below : List Frame} {meth : Method} {c : Code} {b : Nat} (hx : p.tables.exec = Jvm.exec) (hb : c.code = code) (hr : meth.sig.returnType = ret) (hlocks : meth.locks = false) {pc : Nat} {H : Heap} {ls : Array Slot} (hdg : decode code pc = .ok (.ireturn, 1)) : W p l e room_1 s m #[Value.ref b] below meth c H [] 600000 7302250 (lw_Z below #[Value.ref b] s) (F0 m pc ls [.int 1]) := by
  intro T hT X
  obtain ⟨fs, hret, hrun, hended, hW, hframe⟩ := X.leave (v := some (.int 1)) (hlocks := hlocks) (fun h => by rw [hr] at h; cases h)
  have hmeth' : T.vm.method? m = some meth := X.method'
  refine ⟨T.setFrames fs, ?_, .returned (some (.int 1)), hrun, hended, rfl, ⟨_, rfl⟩, hW, hframe⟩
  jvm_step X.here [X.here.top, hx, hb, hdg, hmeth', hr, ret, narrow_b1]
  (try refine ⟨rfl, ?_⟩); (try refine ⟨rfl, ?_⟩)
  first | (intro acts; rw [hret _ acts rfl rfl rfl]) | rw [hret _ _ rfl rfl rfl]
  exact Steps.refl _
/-- what holds at the law's entry: the machine, the code, the tables' words (any of lw_tbl by 'hts w (by decide +kernel)'), the script of L ints xs at the cell b, what the Statement gives of the start (any of its parts by flat_of_before) -/
def lw_At (p : Program) (s : State) (m : MethodId) (meth : Method) (c : Code) (b L : Nat) (xs : Nat → Int32) : Prop :=
  p.tables.exec = Jvm.exec ∧ c.code = code ∧ meth.sig.returnType = ret ∧ c.maxLocals = 4 ∧ s.vm.findClass R_law = some m.cls ∧ (∀ w ∈ lw_tbl, w.before #[Value.ref b] s = true) ∧ va_X b L xs s s.heap ∧ b < s.heap.size ∧ meth.locks = false ∧ (Jvm.Cond.and given_1 narrow_1).before #[Value.ref b] s = true
section
variable {p : Program} {l : Launch} {e : Env} {R : Room} {s : State} {m : MethodId} {args : Array Value} {below : List Frame} {meth : Method} {c : Code} {H : Heap} {locs : List Loc} {cells slots : Nat} {Q : State → Prop} {pc : Nat} {ls : Array Slot} {st : List Value} {A : Nat → Prop}
theorem argL {scb scL ci k ag mo : Nat} {scx : Nat → Int32} {kc : Int} {v : Int32} (hx : p.tables.exec = Jvm.exec) (hb : c.code = cL_law) (hX : va_X scb scL scx s s.heap) (hbl : scb < s.heap.size) (hbA : ¬ A scb) (hS : va_S A s.heap H locs) (hl : lv_has ls 4 [(0, .ref scb), (1, .ref ag), (2, .ref mo), (3, .int (nI ci))]) (hk : Int32.ofInt kc = nI k) (hi : ci + k < scL) (hL : scL < 2 ^ 31) (hv : scx (ci + k) = v) (d0 : decode cL_law pc = .ok (.aload_n 0, 1)) (d1 : decode cL_law (pc + 1) = .ok (.iload_n 3, 1)) (d2 : decode cL_law (pc + 2) = .ok (.iconst kc, 1)) (d3 : decode cL_law (pc + 3) = .ok (.iadd, 1)) (d4 : decode cL_law (pc + 4) = .ok (.iaload, 1)) (kk : W p l e R s m args below meth c H locs cells slots Q (F0 m (pc + 5) ls (.int v :: st))) : W p l e R s m args below meth c H locs cells slots Q (F0 m pc ls st) := by
  refine lv_aload_n hx hb d0 rfl (lv_at hl 0 rfl) ?_
  refine lv_iload_n hx hb d1 rfl (lv_at hl 3 rfl) ?_
  refine lv_iconst (v := nI k) hx hb d2 hk ?_
  refine lv_iadd hx hb d3 ?_
  refine lv_topi (fun y ey => ?_)
  have ey2 : y = nI (ci + k) := by rw [ey, nI_add]
  refine va_sld hx hb hX hbl hbA hS (by rw [ey2]; exact vp_in_nI hi hL) d4 ?_
  rw [ey2, nI_clamp (by omega), hv]
  exact kk
end
