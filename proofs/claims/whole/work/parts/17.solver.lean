def f_X7_isFilled (srd : Int32) (smk : (Nat → Int32)) (sl : Int32) : Option Int32 :=
  if (sl) < 0 ∨ 32768 ≤ (sl).toNatClampNeg then none else if (jushr (smk (sl).toNatClampNeg) 10) = srd then some 1 else some 0
abbrev rm_X7_isFilled : Room := { frames := 0, cells := 0, slots := 0, locals := 0 }
set_option maxHeartbeats 4000000 in
set_option maxRecDepth 100000 in
theorem k_X7_isFilled (G : gT) (l : Launch) (so : Nat) (sF : Nat) (sM : Nat) (sP : Nat) (sS : Nat) (sL : Nat) (sT : Nat) (sB : Nat) (sR : Nat) (srd : Int32) (sdp : Int32) (sst : Int64) (slw : Int32) (sct : Int32) (sfu : Int32) (ssc : Int32) (sbm : Int32) (smk : (Nat → Int32)) (sl : Int32) (r : Int32) (hF : f_X7_isFilled srd smk sl = some r) : HM G l yX7_isFilled (.code yX7_isFilled cX7_isFilled 2 (some .boolean) :: UW) rm_X7_isFilled 0 0 [.ref so, .int sl] [(so, .inr (6, [.ref sF, .ref sM, .int srd, .ref sP, .ref sS, .ref sL, .ref sT, .ref sB, .ref sR, .int sdp, .long sst, .int slw, .int sct, .int sfu, .int ssc, .int sbm])), (sM, .inl (gI G, 32768, .inl smk))] (some (.int r)) [(so, .inr (6, [.ref sF, .ref sM, .int srd, .ref sP, .ref sS, .ref sL, .ref sT, .ref sB, .ref sR, .int sdp, .long sst, .int slw, .int sct, .int sfu, .int ssc, .int sbm])), (sM, .inl (gI G, 32768, .inl smk))] := by
  refine HM.ofW (by decide) (Nat.le_of_ble_eq_true rfl) ?_
  intro p e s m args below meth c A post hpost hC hP hD hS ls hl
  obtain ⟨hx, hb, hr, hml, hown, hts, hlk, hE, hA⟩ := hC
  have hl : lv_has ls 2 [(0, .ref so), (1, .int sl)] := hl
  unfold f_X7_isFilled at hF
  refine lv_aload_n hx hb dX7_isFilled_0 rfl (lv_at hl 0 rfl) ?_
  refine hget hx hb hts hown hE fl_X7_16 hP 0 rfl rfl dX7_isFilled_1 ?_
  refine lv_iload_n hx hb dX7_isFilled_4 rfl (lv_at hl 1 rfl) ?_
  obtain ⟨hi_1, hF⟩ := inb hF
  refine hiald hx hb hE hP 1 rfl hi_1 dX7_isFilled_5 ?_
  refine lv_bipush (v := 10) hx hb dX7_isFilled_6 (by decide) ?_
  refine lv_iushr (v := (jushr (smk (sl).toNatClampNeg) 10)) hx hb dX7_isFilled_8 rfl ?_
  refine lv_aload_n hx hb dX7_isFilled_9 rfl (lv_at hl 0 rfl) ?_
  refine hget hx hb hts hown hE fl_X7_20 hP 0 rfl rfl dX7_isFilled_10 ?_
  refine lv_icmp_ne (tgt := 20) hx hb dX7_isFilled_13 (by decide) (fun c_2 => ?_) (fun c_2 => ?_)
  · have hF := ifn hF c_2
    refine lv_iconst (v := 0) hx hb dX7_isFilled_20 (by decide) ?_
    have hF := Option.some.inj hF
    subst hF
    exact hm_zret hx hb hr hlk hP hD hS (by decide +kernel) hpost dX7_isFilled_21
  · have hF := ifp hF c_2
    refine lv_iconst (v := 1) hx hb dX7_isFilled_16 (by decide) ?_
    refine lv_goto (tgt := 21) hx hb dX7_isFilled_17 (by decide) ?_
    have hF := Option.some.inj hF
    subst hF
    exact hm_zret hx hb hr hlk hP hD hS (by decide +kernel) hpost dX7_isFilled_21
def f_X7_slotOf_L18 (srd : Int32) (sfi : (Nat → Int64)) (smk : (Nat → Int32)) (st : Int64) (v3_1 : Int32) : Nat → Int32 → Option Int32
  | 0, _ => none
  | n+1, x4_2 =>
  if 32768 ≤ x4_2 then some (-1) else jlet ((v3_1 + x4_2) &&& 32767) (fun v5_4 => Option.bind (f_X7_isFilled srd smk v5_4) (fun r38_5 => if r38_5 = 0 then some v5_4 else if (v5_4) < 0 ∨ 32768 ≤ (v5_4).toNatClampNeg then none else if (lg_cmp (sfi (v5_4).toNatClampNeg) st) = 0 then some v5_4 else jlet (x4_2 + 1) (fun v4_9 => (f_X7_slotOf_L18 srd sfi smk st v3_1 n) v4_9)))
def f_X7_slotOf (srd : Int32) (sfi : (Nat → Int64)) (smk : (Nat → Int32)) (st : Int64) : Option Int32 :=
  jlet ((jlushr ((st ^^^ (jlushr st 29)) * (-7046029254386353131)) 49).toInt32) (fun v3_1 => f_X7_slotOf_L18 srd sfi smk st v3_1 32769 0)
abbrev rm_X7_slotOf : Room := { frames := 1, cells := 0, slots := 0, locals := 21 }
set_option maxHeartbeats 4000000 in
set_option maxRecDepth 100000 in
theorem k_X7_slotOf (G : gT) (l : Launch) (so : Nat) (sF : Nat) (sM : Nat) (sP : Nat) (sS : Nat) (sL : Nat) (sT : Nat) (sB : Nat) (sR : Nat) (srd : Int32) (sdp : Int32) (sst : Int64) (slw : Int32) (sct : Int32) (sfu : Int32) (ssc : Int32) (sbm : Int32) (sfi : (Nat → Int64)) (smk : (Nat → Int32)) (st : Int64) (r : Int32) (hF : f_X7_slotOf srd sfi smk st = some r) : HM G l yX7_slotOf (.code yX7_slotOf cX7_slotOf 6 (some .int) :: UW) rm_X7_slotOf 0 0 [.ref so, .long st] [(so, .inr (6, [.ref sF, .ref sM, .int srd, .ref sP, .ref sS, .ref sL, .ref sT, .ref sB, .ref sR, .int sdp, .long sst, .int slw, .int sct, .int sfu, .int ssc, .int sbm])), (sF, .inl (gJ G, 32768, .inr (.inl sfi))), (sM, .inl (gI G, 32768, .inl smk))] (some (.int r)) [(so, .inr (6, [.ref sF, .ref sM, .int srd, .ref sP, .ref sS, .ref sL, .ref sT, .ref sB, .ref sR, .int sdp, .long sst, .int slw, .int sct, .int sfu, .int ssc, .int sbm])), (sF, .inl (gJ G, 32768, .inr (.inl sfi))), (sM, .inl (gI G, 32768, .inl smk))] := by
  refine HM.ofW (by decide) (Nat.le_of_ble_eq_true rfl) ?_
  intro p e s m args below meth c A post hpost hC hP hD hS ls hl
  obtain ⟨hx, hb, hr, hml, hown, hts, hlk, hE, hA⟩ := hC
  have hl : lv_has ls 6 [(0, .ref so), (1, .long st)] := hl
  unfold f_X7_slotOf at hF
  refine lv_lload_n hx hb dX7_slotOf_0 rfl (lv_at hl 1 rfl) ?_
  refine lv_lload_n hx hb dX7_slotOf_1 rfl (lv_at hl 1 rfl) ?_
  refine lv_bipush (v := 29) hx hb dX7_slotOf_2 (by decide) ?_
  refine lv_lushr (v := (jlushr st 29)) hx hb dX7_slotOf_4 rfl ?_
  refine lv_lxor hx hb dX7_slotOf_5 ?_
  refine lv_ldc2 (v := (-7046029254386353131)) hx hb hown (hts _ (List.mem_cons_of_mem _ mw_542)) dX7_slotOf_6 ?_
  refine lv_lmul hx hb dX7_slotOf_9 ?_
  refine lv_bipush (v := 49) hx hb dX7_slotOf_10 (by decide) ?_
  refine lv_lushr (v := (jlushr ((st ^^^ (jlushr st 29)) * (-7046029254386353131)) 49)) hx hb dX7_slotOf_12 rfl ?_
  refine lv_l2i (v := ((jlushr ((st ^^^ (jlushr st 29)) * (-7046029254386353131)) 49).toInt32)) hx hb dX7_slotOf_13 rfl ?_
  refine lv_topi (fun v3_1 ev3_1 => ?_)
  have hF := jl hF ev3_1
  refine lv_istore_n (lv' := [(3, .int v3_1), (0, .ref so), (1, .long st)]) hx hb dX7_slotOf_14 rfl hl (by decide) rfl (fun ls hl => ?_)
  refine lv_iconst (v := 0) hx hb dX7_slotOf_15 (by decide) ?_
  refine lv_istore (lv' := [(4, .int 0), (3, .int v3_1), (0, .ref so), (1, .long st)]) hx hb dX7_slotOf_16 hl (by decide) rfl (fun ls hl => ?_)
  have hL18 : ∀ (n18 : Nat) (x4_2 : Int32) (H : Heap) (locs : List Loc) (ls : Array Slot), f_X7_slotOf_L18 srd sfi smk st v3_1 n18 x4_2 = some r → va_P (gD G) vwCl [(so, .inr (6, [.ref sF, .ref sM, .int srd, .ref sP, .ref sS, .ref sL, .ref sT, .ref sB, .ref sR, .int sdp, .long sst, .int slw, .int sct, .int sfu, .int ssc, .int sbm])), (sF, .inl (gJ G, 32768, .inr (.inl sfi))), (sM, .inl (gI G, 32768, .inl smk))] H → va_D A [(so, .inr (6, [.ref sF, .ref sM, .int srd, .ref sP, .ref sS, .ref sL, .ref sT, .ref sB, .ref sR, .int sdp, .long sst, .int slw, .int sct, .int sfu, .int ssc, .int sbm])), (sF, .inl (gJ G, 32768, .inr (.inl sfi))), (sM, .inl (gI G, 32768, .inl smk))] → va_S A s.heap H locs → lv_has ls 6 [(0, .ref so), (1, .long st), (3, .int v3_1), (4, .int x4_2)] → W p l e rm_X7_slotOf s m args below meth c H locs 0 0 (MQ below (HXq G post A) args s 0 0 A) (F0 m 18 ls []) := by
    intro n18
    induction n18 with
    | zero =>
      intro x4_2 H locs ls hF
      exact absurd hF (fun h => by cases h)
    | succ n18 ih18 =>
      intro x4_2 H locs ls hF hP hD hS hl
      unfold f_X7_slotOf_L18 at hF
      refine lv_iload hx hb dX7_slotOf_18 (lv_at hl 3 rfl) ?_
      refine lv_ldc (v := 32768) hx hb hown (hts _ (List.mem_cons_of_mem _ mw_479)) dX7_slotOf_20 ?_
      refine lv_icmp_ge (tgt := 65) hx hb dX7_slotOf_22 (by decide) (fun c_3 => ?_) (fun c_3 => ?_)
      · have hF := ifp hF c_3
        refine lv_iconst (v := (-1)) hx hb dX7_slotOf_65 (by decide) ?_
        have hF := Option.some.inj hF
        subst hF
        exact hm_iret hx hb hr hlk hP hD hS hpost dX7_slotOf_66
      · have hF := ifn hF c_3
        refine lv_iload_n hx hb dX7_slotOf_25 rfl (lv_at hl 2 rfl) ?_
        refine lv_iload hx hb dX7_slotOf_26 (lv_at hl 3 rfl) ?_
        refine lv_iadd hx hb dX7_slotOf_28 ?_
        refine lv_sipush (v := 32767) hx hb dX7_slotOf_29 (by decide) ?_
        refine lv_iand hx hb dX7_slotOf_32 ?_
        refine lv_topi (fun v5_4 ev5_4 => ?_)
        have hF := jl hF ev5_4
        refine lv_istore (lv' := [(5, .int v5_4), (0, .ref so), (1, .long st), (3, .int v3_1), (4, .int x4_2)]) hx hb dX7_slotOf_33 hl (by decide) rfl (fun ls hl => ?_)
        refine lv_aload_n hx hb dX7_slotOf_35 rfl (lv_at hl 1 rfl) ?_
        refine lv_iload hx hb dX7_slotOf_36 (lv_at hl 0 rfl) ?_
        obtain ⟨r38_5, hr38_5, hF⟩ := bnd hF
        refine hm_V (wn := [(so, .inr (6, [.ref sF, .ref sM, .int srd, .ref sP, .ref sS, .ref sL, .ref sT, .ref sB, .ref sR, .int sdp, .long sst, .int slw, .int sct, .int sfu, .int ssc, .int sbm])), (sF, .inl (gJ G, 32768, .inr (.inl sfi))), (sM, .inl (gI G, 32768, .inl smk))]) (wr := [(sF, .inl (gJ G, 32768, .inr (.inl sfi)))]) (rest := []) (sn := [.int r38_5]) hx hb hml hown hts hE hA (k_X7_isFilled G l so sF sM sP sS sL sT sB sR srd sdp sst slw sct sfu ssc sbm smk v5_4 r38_5 hr38_5) sm_X7_isFilled mw_543 ⟨rfl, rfl, Nat.le_of_ble_eq_true rfl, Nat.le_of_ble_eq_true rfl⟩ hP hD hS 0 rfl rfl [0, 2] [1] [1, 0, 2] rfl rfl rfl (by decide) hl.1 rfl rfl (Nat.le_of_ble_eq_true rfl) dX7_slotOf_38 ⟨Nat.le_of_ble_eq_true rfl, Nat.le_of_ble_eq_true rfl⟩ (fun H locs hP hD hS => ?_)
        refine lv_if_eq (tgt := 56) hx hb dX7_slotOf_41 (by decide) (fun c_6 => ?_) (fun c_6 => ?_)
        · have hF := ifp hF c_6
          refine lv_iload hx hb dX7_slotOf_56 (lv_at hl 0 rfl) ?_
          have hF := Option.some.inj hF
          subst hF
          exact hm_iret hx hb hr hlk hP hD hS hpost dX7_slotOf_58
        · have hF := ifn hF c_6
          refine lv_aload_n hx hb dX7_slotOf_44 rfl (lv_at hl 1 rfl) ?_
          refine hget hx hb hts hown hE fl_X7_12 hP 0 rfl rfl dX7_slotOf_45 ?_
          refine lv_iload hx hb dX7_slotOf_48 (lv_at hl 0 rfl) ?_
          obtain ⟨hi_7, hF⟩ := inb hF
          refine hlald hx hb hE hP 1 rfl hi_7 dX7_slotOf_50 ?_
          refine lv_lload_n hx hb dX7_slotOf_51 rfl (lv_at hl 2 rfl) ?_
          refine W.lcmp hx hb dX7_slotOf_52 ?_
          refine lv_if_ne (tgt := 59) hx hb dX7_slotOf_53 (by decide) (fun c_8 => ?_) (fun c_8 => ?_)
          · have hF := ifn hF c_8
            obtain ⟨v4_9, ev4_9⟩ : ∃ z : Int32, z = x4_2 + 1 := ⟨_, rfl⟩
            have hF := jl hF ev4_9
            refine lv_iinc (v := v4_9) (lv' := [(4, .int v4_9), (5, .int v5_4), (0, .ref so), (1, .long st), (3, .int v3_1)]) hx hb dX7_slotOf_59 hl (k := 4) rfl (by rw [ev4_9]; rfl) (by decide) rfl (fun ls hl => ?_)
            refine lv_goto (tgt := 18) hx hb dX7_slotOf_62 (by decide) ?_
            exact ih18 v4_9 _ _ _ hF hP hD hS (lv_sub hl [2, 3, 4, 0] rfl)
          · have hF := ifp hF c_8
            refine lv_iload hx hb dX7_slotOf_56 (lv_at hl 0 rfl) ?_
            have hF := Option.some.inj hF
            subst hF
            exact hm_iret hx hb hr hlk hP hD hS hpost dX7_slotOf_58
  exact hL18 _ 0 _ _ _ hF hP hD hS (lv_sub hl [2, 3, 1, 0] rfl)
def f_X7_weigh_B55 (tp : Int32) (sbm_3 : Int32) (str_4 : (Nat → Int32)) (sbe_5 : (Nat → Int32)) : Option (Int32 × (Nat → Int32) × (Nat → Int32)) :=
  if (tp) < 0 ∨ 64 ≤ (tp).toNatClampNeg then none else if (tp) < 0 ∨ 64 ≤ (tp).toNatClampNeg then none else jlet (upd str_4 (tp).toNatClampNeg ((str_4 (tp).toNatClampNeg) + 1)) (fun a64_8 => some (sbm_3, a64_8, sbe_5))
def f_X7_weigh (sbm : Int32) (str : (Nat → Int32)) (sbe : (Nat → Int32)) (sro : (Nat → Int32)) (tp : Int32) (cs : Int32) : Option (Int32 × (Nat → Int32) × (Nat → Int32)) :=
  jlet (f_X6_before cs) (fun v3_1 => if (tp) < 0 ∨ 64 ≤ (tp).toNatClampNeg then none else if v3_1 ≤ (sbe (tp).toNatClampNeg) then f_X7_weigh_B55 tp sbm str sbe else if (tp) < 0 ∨ 64 ≤ (tp).toNatClampNeg then none else jlet (upd sbe (tp).toNatClampNeg v3_1) (fun a21_11 => if tp = 0 then if (0 : Int32) < 0 ∨ 64 ≤ (0 : Int32).toNatClampNeg then none else if 1536 ≤ (str (0 : Int32).toNatClampNeg) then f_X7_weigh_B55 tp sbm str a21_11 else if (0 : Int32) < 0 ∨ 64 ≤ (0 : Int32).toNatClampNeg then none else if ((str (0 : Int32).toNatClampNeg)) < 0 ∨ 1536 ≤ ((str (0 : Int32).toNatClampNeg)).toNatClampNeg then none else jlet (sro ((str (0 : Int32).toNatClampNeg)).toNatClampNeg) (fun u52_17 => f_X7_weigh_B55 tp u52_17 str a21_11) else f_X7_weigh_B55 tp sbm str a21_11))
abbrev rm_X7_weigh : Room := { frames := 1, cells := 0, slots := 0, locals := 20 }
set_option maxHeartbeats 4000000 in
set_option maxRecDepth 100000 in
theorem k_X7_weigh (G : gT) (l : Launch) (so : Nat) (sF : Nat) (sM : Nat) (sP : Nat) (sS : Nat) (sL : Nat) (sT : Nat) (sB : Nat) (sR : Nat) (srd : Int32) (sdp : Int32) (sst : Int64) (slw : Int32) (sct : Int32) (sfu : Int32) (ssc : Int32) (sbm : Int32) (str : (Nat → Int32)) (sbe : (Nat → Int32)) (sro : (Nat → Int32)) (tp : Int32) (cs : Int32) (r : Int32 × (Nat → Int32) × (Nat → Int32)) (hF : f_X7_weigh sbm str sbe sro tp cs = some r) : HM G l yX7_weigh (.code yX7_weigh cX7_weigh 4 none :: UW) rm_X7_weigh 0 0 [.ref so, .int tp, .int cs] [(so, .inr (6, [.ref sF, .ref sM, .int srd, .ref sP, .ref sS, .ref sL, .ref sT, .ref sB, .ref sR, .int sdp, .long sst, .int slw, .int sct, .int sfu, .int ssc, .int sbm])), (sT, .inl (gI G, 64, .inl str)), (sB, .inl (gI G, 64, .inl sbe)), (sR, .inl (gI G, 1536, .inl sro))] none [(so, .inr (6, [.ref sF, .ref sM, .int srd, .ref sP, .ref sS, .ref sL, .ref sT, .ref sB, .ref sR, .int sdp, .long sst, .int slw, .int sct, .int sfu, .int ssc, .int r.1])), (sT, .inl (gI G, 64, .inl r.2.1)), (sB, .inl (gI G, 64, .inl r.2.2)), (sR, .inl (gI G, 1536, .inl sro))] := by
  refine HM.ofW (by decide) (Nat.le_of_ble_eq_true rfl) ?_
  intro p e s m args below meth c A post hpost hC hP hD hS ls hl
  obtain ⟨hx, hb, hr, hml, hown, hts, hlk, hE, hA⟩ := hC
  have hl : lv_has ls 4 [(0, .ref so), (1, .int tp), (2, .int cs)] := hl
  unfold f_X7_weigh at hF
  refine lv_iload_n hx hb dX7_weigh_0 rfl (lv_at hl 2 rfl) ?_
  refine hm_S (wn := [(so, .inr (6, [.ref sF, .ref sM, .int srd, .ref sP, .ref sS, .ref sL, .ref sT, .ref sB, .ref sR, .int sdp, .long sst, .int slw, .int sct, .int sfu, .int ssc, .int sbm])), (sT, .inl (gI G, 64, .inl str)), (sB, .inl (gI G, 64, .inl sbe)), (sR, .inl (gI G, 1536, .inl sro))]) (wr := [(so, .inr (6, [.ref sF, .ref sM, .int srd, .ref sP, .ref sS, .ref sL, .ref sT, .ref sB, .ref sR, .int sdp, .long sst, .int slw, .int sct, .int sfu, .int ssc, .int sbm])), (sT, .inl (gI G, 64, .inl str)), (sB, .inl (gI G, 64, .inl sbe)), (sR, .inl (gI G, 1536, .inl sro))]) (rest := []) (sn := [.int (f_X6_before cs)]) hx hb hml hown hts hE hA (k_X6_before G l cs _ rfl) sm_X6_before mw_571 ⟨rfl, rfl, Nat.le_of_ble_eq_true rfl, Nat.le_of_ble_eq_true rfl⟩ hP hD hS [] [0, 1, 2, 3] [0, 1, 2, 3] rfl rfl rfl (by decide) hl.1 rfl rfl (Nat.le_of_ble_eq_true rfl) dX7_weigh_1 ⟨Nat.le_of_ble_eq_true rfl, Nat.le_of_ble_eq_true rfl⟩ (fun H locs hP hD hS => ?_)
  refine lv_topi (fun v3_1 ev3_1 => ?_)
  have hF := jl hF ev3_1
  refine lv_istore_n (lv' := [(3, .int v3_1), (0, .ref so), (1, .int tp), (2, .int cs)]) hx hb dX7_weigh_4 rfl hl (by decide) rfl (fun ls hl => ?_)
  refine lv_iload_n hx hb dX7_weigh_5 rfl (lv_at hl 0 rfl) ?_
  refine lv_aload_n hx hb dX7_weigh_6 rfl (lv_at hl 1 rfl) ?_
  refine hget hx hb hts hown hE fl_X7_36 hP 0 rfl rfl dX7_weigh_7 ?_
  refine lv_iload_n hx hb dX7_weigh_10 rfl (lv_at hl 2 rfl) ?_
  obtain ⟨hi_2, hF⟩ := inb hF
  refine hiald hx hb hE hP 2 rfl hi_2 dX7_weigh_11 ?_
  have hB55 : ∀ (sbm_3 : Int32) (str_4 : (Nat → Int32)) (sbe_5 : (Nat → Int32)) (H : Heap) (locs : List Loc) (ls : Array Slot), f_X7_weigh_B55 tp sbm_3 str_4 sbe_5 = some r → va_P (gD G) vwCl [(so, .inr (6, [.ref sF, .ref sM, .int srd, .ref sP, .ref sS, .ref sL, .ref sT, .ref sB, .ref sR, .int sdp, .long sst, .int slw, .int sct, .int sfu, .int ssc, .int sbm_3])), (sT, .inl (gI G, 64, .inl str_4)), (sB, .inl (gI G, 64, .inl sbe_5)), (sR, .inl (gI G, 1536, .inl sro))] H → va_D A [(so, .inr (6, [.ref sF, .ref sM, .int srd, .ref sP, .ref sS, .ref sL, .ref sT, .ref sB, .ref sR, .int sdp, .long sst, .int slw, .int sct, .int sfu, .int ssc, .int sbm_3])), (sT, .inl (gI G, 64, .inl str_4)), (sB, .inl (gI G, 64, .inl sbe_5)), (sR, .inl (gI G, 1536, .inl sro))] → va_S A s.heap H locs → lv_has ls 4 [(0, .ref so), (1, .int tp)] → W p l e rm_X7_weigh s m args below meth c H locs 0 0 (MQ below (HXq G post A) args s 0 0 A) (F0 m 55 ls []) := by
    intro sbm_3 str_4 sbe_5 H locs ls hF hP hD hS hl
    unfold f_X7_weigh_B55 at hF
    refine lv_aload_n hx hb dX7_weigh_55 rfl (lv_at hl 0 rfl) ?_
    refine hget hx hb hts hown hE fl_X7_33 hP 0 rfl rfl dX7_weigh_56 ?_
    refine lv_iload_n hx hb dX7_weigh_59 rfl (lv_at hl 1 rfl) ?_
    refine lv_dup2_11 hx hb dX7_weigh_60 rfl rfl ?_
    obtain ⟨hi_6, hF⟩ := inb hF
    refine hiald hx hb hE hP 1 rfl hi_6 dX7_weigh_61 ?_
    refine lv_iconst (v := 1) hx hb dX7_weigh_62 (by decide) ?_
    refine lv_iadd hx hb dX7_weigh_63 ?_
    obtain ⟨hi_7, hF⟩ := inb hF
    obtain ⟨a64_8, ea64_8⟩ : ∃ z : (Nat → Int32), z = upd str_4 (tp).toNatClampNeg ((str_4 (tp).toNatClampNeg) + 1) := ⟨_, rfl⟩
    have hF := jl hF ea64_8
    refine hiast hx hb hE hP hD hS 1 rfl hi_7 (wn := [(so, .inr (6, [.ref sF, .ref sM, .int srd, .ref sP, .ref sS, .ref sL, .ref sT, .ref sB, .ref sR, .int sdp, .long sst, .int slw, .int sct, .int sfu, .int ssc, .int sbm_3])), (sT, .inl (gI G, 64, .inl a64_8)), (sB, .inl (gI G, 64, .inl sbe_5)), (sR, .inl (gI G, 1536, .inl sro))]) (by rw [ea64_8]; rfl) dX7_weigh_64 (fun H locs hP hD hS => ?_)
    have hF := Option.some.inj hF
    subst hF
    exact hm_vret hx hb hr hlk hP hD hS hpost dX7_weigh_65
  refine lv_icmp_le (tgt := 55) hx hb dX7_weigh_12 (by decide) (fun c_9 => ?_) (fun c_9 => ?_)
  · have hF := ifp hF c_9
    exact hB55 sbm str sbe _ _ _ hF hP hD hS (lv_sub hl [1, 2] rfl)
  · have hF := ifn hF c_9
    refine lv_aload_n hx hb dX7_weigh_15 rfl (lv_at hl 1 rfl) ?_
    refine hget hx hb hts hown hE fl_X7_36 hP 0 rfl rfl dX7_weigh_16 ?_
    refine lv_iload_n hx hb dX7_weigh_19 rfl (lv_at hl 2 rfl) ?_
    refine lv_iload_n hx hb dX7_weigh_20 rfl (lv_at hl 0 rfl) ?_
    obtain ⟨hi_10, hF⟩ := inb hF
    obtain ⟨a21_11, ea21_11⟩ : ∃ z : (Nat → Int32), z = upd sbe (tp).toNatClampNeg v3_1 := ⟨_, rfl⟩
    have hF := jl hF ea21_11
    refine hiast hx hb hE hP hD hS 2 rfl hi_10 (wn := [(so, .inr (6, [.ref sF, .ref sM, .int srd, .ref sP, .ref sS, .ref sL, .ref sT, .ref sB, .ref sR, .int sdp, .long sst, .int slw, .int sct, .int sfu, .int ssc, .int sbm])), (sT, .inl (gI G, 64, .inl str)), (sB, .inl (gI G, 64, .inl a21_11)), (sR, .inl (gI G, 1536, .inl sro))]) (by rw [ea21_11]; rfl) dX7_weigh_21 (fun H locs hP hD hS => ?_)
    refine lv_iload_n hx hb dX7_weigh_22 rfl (lv_at hl 2 rfl) ?_
    refine lv_if_ne (tgt := 55) hx hb dX7_weigh_23 (by decide) (fun c_12 => ?_) (fun c_12 => ?_)
    · have hF := ifn hF c_12
      exact hB55 sbm str a21_11 _ _ _ hF hP hD hS (lv_sub hl [1, 2] rfl)
    · have hF := ifp hF c_12
      refine lv_aload_n hx hb dX7_weigh_26 rfl (lv_at hl 1 rfl) ?_
      refine hget hx hb hts hown hE fl_X7_33 hP 0 rfl rfl dX7_weigh_27 ?_
      refine lv_iconst (v := 0) hx hb dX7_weigh_30 (by decide) ?_
      obtain ⟨hi_13, hF⟩ := inb hF
      refine hiald hx hb hE hP 1 rfl hi_13 dX7_weigh_31 ?_
      refine lv_aload_n hx hb dX7_weigh_32 rfl (lv_at hl 1 rfl) ?_
      refine hget hx hb hts hown hE fl_X7_39 hP 0 rfl rfl dX7_weigh_33 ?_
      refine halen 0 (v := 1536) hx hb hE hP 3 rfl rfl rfl dX7_weigh_36 ?_
      refine lv_icmp_ge (tgt := 55) hx hb dX7_weigh_37 (by decide) (fun c_14 => ?_) (fun c_14 => ?_)
      · have hF := ifp hF c_14
        exact hB55 sbm str a21_11 _ _ _ hF hP hD hS (lv_sub hl [1, 2] rfl)
      · have hF := ifn hF c_14
        refine lv_aload_n hx hb dX7_weigh_40 rfl (lv_at hl 1 rfl) ?_
        refine lv_aload_n hx hb dX7_weigh_41 rfl (lv_at hl 1 rfl) ?_
        refine hget hx hb hts hown hE fl_X7_39 hP 0 rfl rfl dX7_weigh_42 ?_
        refine lv_aload_n hx hb dX7_weigh_45 rfl (lv_at hl 1 rfl) ?_
        refine hget hx hb hts hown hE fl_X7_33 hP 0 rfl rfl dX7_weigh_46 ?_
        refine lv_iconst (v := 0) hx hb dX7_weigh_49 (by decide) ?_
        obtain ⟨hi_15, hF⟩ := inb hF
        refine hiald hx hb hE hP 1 rfl hi_15 dX7_weigh_50 ?_
        obtain ⟨hi_16, hF⟩ := inb hF
        refine hiald hx hb hE hP 3 rfl hi_16 dX7_weigh_51 ?_
        refine lv_topi (fun u52_17 eu52_17 => ?_)
        have hF := jl hF eu52_17
        refine hput hx hb hts hown hE fl_X7_62 ft_X7_15 hP hD hS 0 rfl rfl rfl rfl (Nat.le_of_ble_eq_true rfl) (wn := [(so, .inr (6, [.ref sF, .ref sM, .int srd, .ref sP, .ref sS, .ref sL, .ref sT, .ref sB, .ref sR, .int sdp, .long sst, .int slw, .int sct, .int sfu, .int ssc, .int u52_17])), (sT, .inl (gI G, 64, .inl str)), (sB, .inl (gI G, 64, .inl a21_11)), (sR, .inl (gI G, 1536, .inl sro))]) rfl dX7_weigh_52 (fun H locs hP hD hS => ?_)
        exact hB55 u52_17 str a21_11 _ _ _ hF hP hD hS (lv_sub hl [1, 2] rfl)
def f_X7_close_B37 (sro : (Nat → Int32)) (tp : Int32) (sdp_3 : Int32) (ssc_4 : Int32) (sbm_5 : Int32) (smk_6 : (Nat → Int32)) (str_7 : (Nat → Int32)) (sbe_8 : (Nat → Int32)) : Option (Int32 × Int32 × Int32 × (Nat → Int32) × (Nat → Int32) × (Nat → Int32)) :=
  if tp ≤ 0 then if (tp) < 0 ∨ 64 ≤ (tp).toNatClampNeg then none else jlet (sbe_8 (tp).toNatClampNeg) (fun u69_11 => some (tp, u69_11, sbm_5, smk_6, str_7, sbe_8)) else if (tp) < 0 ∨ 64 ≤ (tp).toNatClampNeg then none else Option.bind (f_X7_weigh sbm_5 str_7 sbe_8 sro (tp - 1) (sbe_8 (tp).toNatClampNeg)) (fun r56_13 => some (tp, ssc_4, r56_13.1, smk_6, r56_13.2.1, r56_13.2.2))
def f_X7_close (srd : Int32) (sdp : Int32) (ssc : Int32) (sbm : Int32) (smk : (Nat → Int32)) (ssl : (Nat → Int32)) (str : (Nat → Int32)) (sbe : (Nat → Int32)) (sro : (Nat → Int32)) (tp : Int32) : Option (Int32 × Int32 × Int32 × (Nat → Int32) × (Nat → Int32) × (Nat → Int32)) :=
  if (tp) < 0 ∨ 64 ≤ (tp).toNatClampNeg then none else jlet (ssl (tp).toNatClampNeg) (fun v2_2 => if v2_2 < 0 then f_X7_close_B37 sro tp sdp ssc sbm smk str sbe else if 32768 ≤ v2_2 then f_X7_close_B37 sro tp sdp ssc sbm smk str sbe else if (tp) < 0 ∨ 64 ≤ (tp).toNatClampNeg then none else if (v2_2) < 0 ∨ 32768 ≤ (v2_2).toNatClampNeg then none else jlet (upd smk (v2_2).toNatClampNeg ((jshl srd 10) ||| (sbe (tp).toNatClampNeg))) (fun a36_18 => f_X7_close_B37 sro tp sdp ssc sbm a36_18 str sbe))
abbrev rm_X7_close : Room := { frames := 2, cells := 0, slots := 0, locals := 43 }
set_option maxHeartbeats 4000000 in
set_option maxRecDepth 100000 in
theorem k_X7_close (G : gT) (l : Launch) (so : Nat) (sF : Nat) (sM : Nat) (sP : Nat) (sS : Nat) (sL : Nat) (sT : Nat) (sB : Nat) (sR : Nat) (srd : Int32) (sdp : Int32) (sst : Int64) (slw : Int32) (sct : Int32) (sfu : Int32) (ssc : Int32) (sbm : Int32) (smk : (Nat → Int32)) (ssl : (Nat → Int32)) (str : (Nat → Int32)) (sbe : (Nat → Int32)) (sro : (Nat → Int32)) (tp : Int32) (r : Int32 × Int32 × Int32 × (Nat → Int32) × (Nat → Int32) × (Nat → Int32)) (hF : f_X7_close srd sdp ssc sbm smk ssl str sbe sro tp = some r) : HM G l yX7_close (.code yX7_close cX7_close 3 none :: UW) rm_X7_close 0 0 [.ref so, .int tp] [(so, .inr (6, [.ref sF, .ref sM, .int srd, .ref sP, .ref sS, .ref sL, .ref sT, .ref sB, .ref sR, .int sdp, .long sst, .int slw, .int sct, .int sfu, .int ssc, .int sbm])), (sM, .inl (gI G, 32768, .inl smk)), (sS, .inl (gI G, 64, .inl ssl)), (sT, .inl (gI G, 64, .inl str)), (sB, .inl (gI G, 64, .inl sbe)), (sR, .inl (gI G, 1536, .inl sro))] none [(so, .inr (6, [.ref sF, .ref sM, .int srd, .ref sP, .ref sS, .ref sL, .ref sT, .ref sB, .ref sR, .int r.1, .long sst, .int slw, .int sct, .int sfu, .int r.2.1, .int r.2.2.1])), (sM, .inl (gI G, 32768, .inl r.2.2.2.1)), (sS, .inl (gI G, 64, .inl ssl)), (sT, .inl (gI G, 64, .inl r.2.2.2.2.1)), (sB, .inl (gI G, 64, .inl r.2.2.2.2.2)), (sR, .inl (gI G, 1536, .inl sro))] := by
  refine HM.ofW (by decide) (Nat.le_of_ble_eq_true rfl) ?_
  intro p e s m args below meth c A post hpost hC hP hD hS ls hl
  obtain ⟨hx, hb, hr, hml, hown, hts, hlk, hE, hA⟩ := hC
  have hl : lv_has ls 3 [(0, .ref so), (1, .int tp)] := hl
  unfold f_X7_close at hF
  refine lv_aload_n hx hb dX7_close_0 rfl (lv_at hl 0 rfl) ?_
  refine hget hx hb hts hown hE fl_X7_27 hP 0 rfl rfl dX7_close_1 ?_
  refine lv_iload_n hx hb dX7_close_4 rfl (lv_at hl 1 rfl) ?_
  obtain ⟨hi_1, hF⟩ := inb hF
  refine hiald hx hb hE hP 2 rfl hi_1 dX7_close_5 ?_
  refine lv_topi (fun v2_2 ev2_2 => ?_)
  have hF := jl hF ev2_2
  refine lv_istore_n (lv' := [(2, .int v2_2), (0, .ref so), (1, .int tp)]) hx hb dX7_close_6 rfl hl (by decide) rfl (fun ls hl => ?_)
  refine lv_iload_n hx hb dX7_close_7 rfl (lv_at hl 0 rfl) ?_
  have hB37 : ∀ (sdp_3 : Int32) (ssc_4 : Int32) (sbm_5 : Int32) (smk_6 : (Nat → Int32)) (str_7 : (Nat → Int32)) (sbe_8 : (Nat → Int32)) (H : Heap) (locs : List Loc) (ls : Array Slot), f_X7_close_B37 sro tp sdp_3 ssc_4 sbm_5 smk_6 str_7 sbe_8 = some r → va_P (gD G) vwCl [(so, .inr (6, [.ref sF, .ref sM, .int srd, .ref sP, .ref sS, .ref sL, .ref sT, .ref sB, .ref sR, .int sdp_3, .long sst, .int slw, .int sct, .int sfu, .int ssc_4, .int sbm_5])), (sM, .inl (gI G, 32768, .inl smk_6)), (sS, .inl (gI G, 64, .inl ssl)), (sT, .inl (gI G, 64, .inl str_7)), (sB, .inl (gI G, 64, .inl sbe_8)), (sR, .inl (gI G, 1536, .inl sro))] H → va_D A [(so, .inr (6, [.ref sF, .ref sM, .int srd, .ref sP, .ref sS, .ref sL, .ref sT, .ref sB, .ref sR, .int sdp_3, .long sst, .int slw, .int sct, .int sfu, .int ssc_4, .int sbm_5])), (sM, .inl (gI G, 32768, .inl smk_6)), (sS, .inl (gI G, 64, .inl ssl)), (sT, .inl (gI G, 64, .inl str_7)), (sB, .inl (gI G, 64, .inl sbe_8)), (sR, .inl (gI G, 1536, .inl sro))] → va_S A s.heap H locs → lv_has ls 3 [(0, .ref so), (1, .int tp)] → W p l e rm_X7_close s m args below meth c H locs 0 0 (MQ below (HXq G post A) args s 0 0 A) (F0 m 37 ls []) := by
    intro sdp_3 ssc_4 sbm_5 smk_6 str_7 sbe_8 H locs ls hF hP hD hS hl
    unfold f_X7_close_B37 at hF
    refine lv_aload_n hx hb dX7_close_37 rfl (lv_at hl 0 rfl) ?_
    refine lv_iload_n hx hb dX7_close_38 rfl (lv_at hl 1 rfl) ?_
    refine hput hx hb hts hown hE fl_X7_42 ft_X7_9 hP hD hS 0 rfl rfl rfl rfl (Nat.le_of_ble_eq_true rfl) (wn := [(so, .inr (6, [.ref sF, .ref sM, .int srd, .ref sP, .ref sS, .ref sL, .ref sT, .ref sB, .ref sR, .int tp, .long sst, .int slw, .int sct, .int sfu, .int ssc_4, .int sbm_5])), (sM, .inl (gI G, 32768, .inl smk_6)), (sS, .inl (gI G, 64, .inl ssl)), (sT, .inl (gI G, 64, .inl str_7)), (sB, .inl (gI G, 64, .inl sbe_8)), (sR, .inl (gI G, 1536, .inl sro))]) rfl dX7_close_39 (fun H locs hP hD hS => ?_)
    refine lv_iload_n hx hb dX7_close_42 rfl (lv_at hl 1 rfl) ?_
    refine lv_if_le (tgt := 62) hx hb dX7_close_43 (by decide) (fun c_9 => ?_) (fun c_9 => ?_)
    · have hF := ifp hF c_9
      refine lv_aload_n hx hb dX7_close_62 rfl (lv_at hl 0 rfl) ?_
      refine lv_aload_n hx hb dX7_close_63 rfl (lv_at hl 0 rfl) ?_
      refine hget hx hb hts hown hE fl_X7_36 hP 0 rfl rfl dX7_close_64 ?_
      refine lv_iload_n hx hb dX7_close_67 rfl (lv_at hl 1 rfl) ?_
      obtain ⟨hi_10, hF⟩ := inb hF
      refine hiald hx hb hE hP 4 rfl hi_10 dX7_close_68 ?_
      refine lv_topi (fun u69_11 eu69_11 => ?_)
      have hF := jl hF eu69_11
      refine hput hx hb hts hown hE fl_X7_59 ft_X7_14 hP hD hS 0 rfl rfl rfl rfl (Nat.le_of_ble_eq_true rfl) (wn := [(so, .inr (6, [.ref sF, .ref sM, .int srd, .ref sP, .ref sS, .ref sL, .ref sT, .ref sB, .ref sR, .int tp, .long sst, .int slw, .int sct, .int sfu, .int u69_11, .int sbm_5])), (sM, .inl (gI G, 32768, .inl smk_6)), (sS, .inl (gI G, 64, .inl ssl)), (sT, .inl (gI G, 64, .inl str_7)), (sB, .inl (gI G, 64, .inl sbe_8)), (sR, .inl (gI G, 1536, .inl sro))]) rfl dX7_close_69 (fun H locs hP hD hS => ?_)
      have hF := Option.some.inj hF
      subst hF
      exact hm_vret hx hb hr hlk hP hD hS hpost dX7_close_72
    · have hF := ifn hF c_9
      refine lv_aload_n hx hb dX7_close_46 rfl (lv_at hl 0 rfl) ?_
      refine lv_iload_n hx hb dX7_close_47 rfl (lv_at hl 1 rfl) ?_
      refine lv_iconst (v := 1) hx hb dX7_close_48 (by decide) ?_
      refine lv_isub hx hb dX7_close_49 ?_
      refine lv_aload_n hx hb dX7_close_50 rfl (lv_at hl 0 rfl) ?_
      refine hget hx hb hts hown hE fl_X7_36 hP 0 rfl rfl dX7_close_51 ?_
      refine lv_iload_n hx hb dX7_close_54 rfl (lv_at hl 1 rfl) ?_
      obtain ⟨hi_12, hF⟩ := inb hF
      refine hiald hx hb hE hP 4 rfl hi_12 dX7_close_55 ?_
      obtain ⟨r56_13, hr56_13, hF⟩ := bnd hF
      refine hm_V (wn := [(so, .inr (6, [.ref sF, .ref sM, .int srd, .ref sP, .ref sS, .ref sL, .ref sT, .ref sB, .ref sR, .int tp, .long sst, .int slw, .int sct, .int sfu, .int ssc_4, .int r56_13.1])), (sM, .inl (gI G, 32768, .inl smk_6)), (sS, .inl (gI G, 64, .inl ssl)), (sT, .inl (gI G, 64, .inl r56_13.2.1)), (sB, .inl (gI G, 64, .inl r56_13.2.2)), (sR, .inl (gI G, 1536, .inl sro))]) (wr := [(sM, .inl (gI G, 32768, .inl smk_6)), (sS, .inl (gI G, 64, .inl ssl))]) (rest := []) (sn := []) hx hb hml hown hts hE hA (k_X7_weigh G l so sF sM sP sS sL sT sB sR srd tp sst slw sct sfu ssc_4 sbm_5 str_7 sbe_8 sro (tp - 1) (sbe_8 (tp).toNatClampNeg) r56_13 hr56_13) sm_X7_weigh mw_567 ⟨rfl, rfl, Nat.le_of_ble_eq_true rfl, Nat.le_of_ble_eq_true rfl⟩ hP hD hS 0 rfl rfl [0, 3, 4, 5] [1, 2] [2, 0, 1, 3, 4, 5] rfl rfl rfl (by decide) hl.1 rfl rfl (Nat.le_of_ble_eq_true rfl) dX7_close_56 ⟨Nat.le_of_ble_eq_true rfl, Nat.le_of_ble_eq_true rfl⟩ (fun H locs hP hD hS => ?_)
      refine lv_goto (tgt := 72) hx hb dX7_close_59 (by decide) ?_
      have hF := Option.some.inj hF
      subst hF
      exact hm_vret hx hb hr hlk hP hD hS hpost dX7_close_72
  refine lv_if_lt (tgt := 37) hx hb dX7_close_8 (by decide) (fun c_14 => ?_) (fun c_14 => ?_)
  · have hF := ifp hF c_14
    exact hB37 sdp ssc sbm smk str sbe _ _ _ hF hP hD hS (lv_sub hl [1, 2] rfl)
  · have hF := ifn hF c_14
    refine lv_iload_n hx hb dX7_close_11 rfl (lv_at hl 0 rfl) ?_
    refine lv_ldc (v := 32768) hx hb hown (hts _ (List.mem_cons_of_mem _ mw_479)) dX7_close_12 ?_
    refine lv_icmp_ge (tgt := 37) hx hb dX7_close_14 (by decide) (fun c_15 => ?_) (fun c_15 => ?_)
    · have hF := ifp hF c_15
      exact hB37 sdp ssc sbm smk str sbe _ _ _ hF hP hD hS (lv_sub hl [1, 2] rfl)
    · have hF := ifn hF c_15
      refine lv_aload_n hx hb dX7_close_17 rfl (lv_at hl 1 rfl) ?_
      refine hget hx hb hts hown hE fl_X7_16 hP 0 rfl rfl dX7_close_18 ?_
      refine lv_iload_n hx hb dX7_close_21 rfl (lv_at hl 0 rfl) ?_
      refine lv_aload_n hx hb dX7_close_22 rfl (lv_at hl 1 rfl) ?_
      refine hget hx hb hts hown hE fl_X7_20 hP 0 rfl rfl dX7_close_23 ?_
      refine lv_bipush (v := 10) hx hb dX7_close_26 (by decide) ?_
      refine lv_ishl hx hb dX7_close_28 ?_
      refine lv_aload_n hx hb dX7_close_29 rfl (lv_at hl 1 rfl) ?_
      refine hget hx hb hts hown hE fl_X7_36 hP 0 rfl rfl dX7_close_30 ?_
      refine lv_iload_n hx hb dX7_close_33 rfl (lv_at hl 2 rfl) ?_
      obtain ⟨hi_16, hF⟩ := inb hF
      refine hiald hx hb hE hP 4 rfl hi_16 dX7_close_34 ?_
      refine lv_ior hx hb dX7_close_35 ?_
      obtain ⟨hi_17, hF⟩ := inb hF
      obtain ⟨a36_18, ea36_18⟩ : ∃ z : (Nat → Int32), z = upd smk (v2_2).toNatClampNeg ((jshl srd 10) ||| (sbe (tp).toNatClampNeg)) := ⟨_, rfl⟩
      have hF := jl hF ea36_18
      refine hiast hx hb hE hP hD hS 1 rfl hi_17 (wn := [(so, .inr (6, [.ref sF, .ref sM, .int srd, .ref sP, .ref sS, .ref sL, .ref sT, .ref sB, .ref sR, .int sdp, .long sst, .int slw, .int sct, .int sfu, .int ssc, .int sbm])), (sM, .inl (gI G, 32768, .inl a36_18)), (sS, .inl (gI G, 64, .inl ssl)), (sT, .inl (gI G, 64, .inl str)), (sB, .inl (gI G, 64, .inl sbe)), (sR, .inl (gI G, 1536, .inl sro))]) (by rw [ea36_18]; rfl) dX7_close_36 (fun H locs hP hD hS => ?_)
      exact hB37 sdp ssc sbm a36_18 str sbe _ _ _ hF hP hD hS (lv_sub hl [1, 2] rfl)
def f_X7_open_B38 (sdp : Int32) (sct : Int32) (sfi : (Nat → Int64)) (smk : (Nat → Int32)) (spa : (Nat → Int64)) (ssl : (Nat → Int32)) (sli : (Nat → Int32)) (str : (Nat → Int32)) (sbe : (Nat → Int32)) (sro : (Nat → Int32)) : Option (Int32 × Int32 × Int32 × (Nat → Int64) × (Nat → Int32) × (Nat → Int64) × (Nat → Int32) × (Nat → Int32) × (Nat → Int32) × (Nat → Int32) × (Nat → Int32)) :=
  some (sdp, sct, 1, sfi, smk, spa, ssl, sli, str, sbe, sro)
def f_X7_open_B168 (sdp : Int32) (sfu : Int32) (sbe : (Nat → Int32)) (u51_6 : Int32) (a61_8 : (Nat → Int64)) (a75_10 : (Nat → Int32)) (a85_12 : (Nat → Int64)) (a96_14 : (Nat → Int32)) (a106_16 : (Nat → Int32)) (r128_17 : Int32 × (Nat → Int32)) (a131_19 : (Nat → Int32)) (t2_21 : Int32) : Option (Int32 × Int32 × Int32 × (Nat → Int64) × (Nat → Int32) × (Nat → Int64) × (Nat → Int32) × (Nat → Int32) × (Nat → Int32) × (Nat → Int32) × (Nat → Int32)) :=
  if (sdp) < 0 ∨ 64 ≤ (sdp).toNatClampNeg then none else jlet (upd sbe (sdp).toNatClampNeg t2_21) (fun a168_23 => jlet (sdp + 1) (fun u176_24 => some (u176_24, u51_6, sfu, a61_8, a75_10, a85_12, a96_14, a131_19, a106_16, a168_23, r128_17.2)))
def f_X7_open (srd : Int32) (sdp : Int32) (sct : Int32) (sfu : Int32) (sfi : (Nat → Int64)) (smk : (Nat → Int32)) (spa : (Nat → Int64)) (ssl : (Nat → Int32)) (sli : (Nat → Int32)) (str : (Nat → Int32)) (sbe : (Nat → Int32)) (sro : (Nat → Int32)) (rb : Int32) (rg : Int32) (ro : Int32) (st : Int64) (sl : Int32) : Option (Int32 × Int32 × Int32 × (Nat → Int64) × (Nat → Int32) × (Nat → Int64) × (Nat → Int32) × (Nat → Int32) × (Nat → Int32) × (Nat → Int32) × (Nat → Int32)) :=
  if 20000 ≤ sct then f_X7_open_B38 sdp sct sfi smk spa ssl sli str sbe sro else if sl < 0 then f_X7_open_B38 sdp sct sfi smk spa ssl sli str sbe sro else if 32768 ≤ sl then f_X7_open_B38 sdp sct sfi smk spa ssl sli str sbe sro else if sdp < 0 then f_X7_open_B38 sdp sct sfi smk spa ssl sli str sbe sro else if sdp < 64 then jlet (sct + 1) (fun u51_6 => if (sl) < 0 ∨ 32768 ≤ (sl).toNatClampNeg then none else jlet (vp_updL sfi (sl).toNatClampNeg st) (fun a61_8 => if (sl) < 0 ∨ 32768 ≤ (sl).toNatClampNeg then none else jlet (upd smk (sl).toNatClampNeg (jshl srd 10)) (fun a75_10 => if (sdp) < 0 ∨ 64 ≤ (sdp).toNatClampNeg then none else jlet (vp_updL spa (sdp).toNatClampNeg st) (fun a85_12 => if (sdp) < 0 ∨ 64 ≤ (sdp).toNatClampNeg then none else jlet (upd ssl (sdp).toNatClampNeg sl) (fun a96_14 => if (sdp) < 0 ∨ 64 ≤ (sdp).toNatClampNeg then none else jlet (upd str (sdp).toNatClampNeg 0) (fun a106_16 => Option.bind (f_X5_list rb rg ro sro 1536 st (sdp * 24)) (fun r128_17 => if (sdp) < 0 ∨ 64 ≤ (sdp).toNatClampNeg then none else jlet (upd sli (sdp).toNatClampNeg r128_17.1) (fun a131_19 => if (sdp) < 0 ∨ 64 ≤ (sdp).toNatClampNeg then none else if (a131_19 (sdp).toNatClampNeg) ≤ 0 then Option.bind (f_X5_ending rb rg ro st) (fun r158_26 => f_X7_open_B168 sdp sfu sbe u51_6 a61_8 a75_10 a85_12 a96_14 a106_16 r128_17 a131_19 (f_X6_atEnd r158_26 (f_X8_turnOf st))) else f_X7_open_B168 sdp sfu sbe u51_6 a61_8 a75_10 a85_12 a96_14 a106_16 r128_17 a131_19 0)))))))) else f_X7_open_B38 sdp sct sfi smk spa ssl sli str sbe sro
abbrev rm_X7_open : Room := { frames := 4, cells := 0, slots := 0, locals := 105 }
set_option maxHeartbeats 4000000 in
set_option maxRecDepth 100000 in
theorem k_X7_open (G : gT) (l : Launch) (so : Nat) (ru : Nat) (sF : Nat) (sM : Nat) (sP : Nat) (sS : Nat) (sL : Nat) (sT : Nat) (sB : Nat) (sR : Nat) (srd : Int32) (sdp : Int32) (sst : Int64) (slw : Int32) (sct : Int32) (sfu : Int32) (ssc : Int32) (sbm : Int32) (sfi : (Nat → Int64)) (smk : (Nat → Int32)) (spa : (Nat → Int64)) (ssl : (Nat → Int32)) (sli : (Nat → Int32)) (str : (Nat → Int32)) (sbe : (Nat → Int32)) (sro : (Nat → Int32)) (rb : Int32) (rg : Int32) (ro : Int32) (st : Int64) (sl : Int32) (r : Int32 × Int32 × Int32 × (Nat → Int64) × (Nat → Int32) × (Nat → Int64) × (Nat → Int32) × (Nat → Int32) × (Nat → Int32) × (Nat → Int32) × (Nat → Int32)) (hF : f_X7_open srd sdp sct sfu sfi smk spa ssl sli str sbe sro rb rg ro st sl = some r) : HM G l yX7_open (.code yX7_open cX7_open 5 none :: UW) rm_X7_open 0 0 [.ref so, .ref ru, .long st, .int sl] [(so, .inr (6, [.ref sF, .ref sM, .int srd, .ref sP, .ref sS, .ref sL, .ref sT, .ref sB, .ref sR, .int sdp, .long sst, .int slw, .int sct, .int sfu, .int ssc, .int sbm])), (sF, .inl (gJ G, 32768, .inr (.inl sfi))), (sM, .inl (gI G, 32768, .inl smk)), (sP, .inl (gJ G, 64, .inr (.inl spa))), (sS, .inl (gI G, 64, .inl ssl)), (sL, .inl (gI G, 64, .inl sli)), (sT, .inl (gI G, 64, .inl str)), (sB, .inl (gI G, 64, .inl sbe)), (sR, .inl (gI G, 1536, .inl sro)), (ru, .inr (5, [.int rb, .int rg, .int ro]))] none [(so, .inr (6, [.ref sF, .ref sM, .int srd, .ref sP, .ref sS, .ref sL, .ref sT, .ref sB, .ref sR, .int r.1, .long sst, .int slw, .int r.2.1, .int r.2.2.1, .int ssc, .int sbm])), (sF, .inl (gJ G, 32768, .inr (.inl r.2.2.2.1))), (sM, .inl (gI G, 32768, .inl r.2.2.2.2.1)), (sP, .inl (gJ G, 64, .inr (.inl r.2.2.2.2.2.1))), (sS, .inl (gI G, 64, .inl r.2.2.2.2.2.2.1)), (sL, .inl (gI G, 64, .inl r.2.2.2.2.2.2.2.1)), (sT, .inl (gI G, 64, .inl r.2.2.2.2.2.2.2.2.1)), (sB, .inl (gI G, 64, .inl r.2.2.2.2.2.2.2.2.2.1)), (sR, .inl (gI G, 1536, .inl r.2.2.2.2.2.2.2.2.2.2)), (ru, .inr (5, [.int rb, .int rg, .int ro]))] := by
  refine HM.ofW (by decide) (Nat.le_of_ble_eq_true rfl) ?_
  intro p e s m args below meth c A post hpost hC hP hD hS ls hl
  obtain ⟨hx, hb, hr, hml, hown, hts, hlk, hE, hA⟩ := hC
  have hl : lv_has ls 5 [(0, .ref so), (1, .ref ru), (2, .long st), (4, .int sl)] := hl
  unfold f_X7_open at hF
  refine lv_aload_n hx hb dX7_open_0 rfl (lv_at hl 0 rfl) ?_
  refine hget hx hb hts hown hE fl_X7_52 hP 0 rfl rfl dX7_open_1 ?_
  refine lv_sipush (v := 20000) hx hb dX7_open_4 (by decide) ?_
  have hB38 : ∀ (H : Heap) (locs : List Loc) (ls : Array Slot), f_X7_open_B38 sdp sct sfi smk spa ssl sli str sbe sro = some r → va_P (gD G) vwCl [(so, .inr (6, [.ref sF, .ref sM, .int srd, .ref sP, .ref sS, .ref sL, .ref sT, .ref sB, .ref sR, .int sdp, .long sst, .int slw, .int sct, .int sfu, .int ssc, .int sbm])), (sF, .inl (gJ G, 32768, .inr (.inl sfi))), (sM, .inl (gI G, 32768, .inl smk)), (sP, .inl (gJ G, 64, .inr (.inl spa))), (sS, .inl (gI G, 64, .inl ssl)), (sL, .inl (gI G, 64, .inl sli)), (sT, .inl (gI G, 64, .inl str)), (sB, .inl (gI G, 64, .inl sbe)), (sR, .inl (gI G, 1536, .inl sro)), (ru, .inr (5, [.int rb, .int rg, .int ro]))] H → va_D A [(so, .inr (6, [.ref sF, .ref sM, .int srd, .ref sP, .ref sS, .ref sL, .ref sT, .ref sB, .ref sR, .int sdp, .long sst, .int slw, .int sct, .int sfu, .int ssc, .int sbm])), (sF, .inl (gJ G, 32768, .inr (.inl sfi))), (sM, .inl (gI G, 32768, .inl smk)), (sP, .inl (gJ G, 64, .inr (.inl spa))), (sS, .inl (gI G, 64, .inl ssl)), (sL, .inl (gI G, 64, .inl sli)), (sT, .inl (gI G, 64, .inl str)), (sB, .inl (gI G, 64, .inl sbe)), (sR, .inl (gI G, 1536, .inl sro)), (ru, .inr (5, [.int rb, .int rg, .int ro]))] → va_S A s.heap H locs → lv_has ls 5 [(0, .ref so)] → W p l e rm_X7_open s m args below meth c H locs 0 0 (MQ below (HXq G post A) args s 0 0 A) (F0 m 38 ls []) := by
    intro H locs ls hF hP hD hS hl
    unfold f_X7_open_B38 at hF
    refine lv_aload_n hx hb dX7_open_38 rfl (lv_at hl 0 rfl) ?_
    refine lv_iconst (v := 1) hx hb dX7_open_39 (by decide) ?_
    refine hput hx hb hts hown hE fl_X7_55 ft_X7_13 hP hD hS 0 rfl rfl (by decide +kernel) (by decide +kernel) (Nat.le_of_ble_eq_true rfl) (wn := [(so, .inr (6, [.ref sF, .ref sM, .int srd, .ref sP, .ref sS, .ref sL, .ref sT, .ref sB, .ref sR, .int sdp, .long sst, .int slw, .int sct, .int 1, .int ssc, .int sbm])), (sF, .inl (gJ G, 32768, .inr (.inl sfi))), (sM, .inl (gI G, 32768, .inl smk)), (sP, .inl (gJ G, 64, .inr (.inl spa))), (sS, .inl (gI G, 64, .inl ssl)), (sL, .inl (gI G, 64, .inl sli)), (sT, .inl (gI G, 64, .inl str)), (sB, .inl (gI G, 64, .inl sbe)), (sR, .inl (gI G, 1536, .inl sro)), (ru, .inr (5, [.int rb, .int rg, .int ro]))]) rfl dX7_open_40 (fun H locs hP hD hS => ?_)
    have hF := Option.some.inj hF
    subst hF
    exact hm_vret hx hb hr hlk hP hD hS hpost dX7_open_43
  refine lv_icmp_ge (tgt := 38) hx hb dX7_open_7 (by decide) (fun c_1 => ?_) (fun c_1 => ?_)
  · have hF := ifp hF c_1
    exact hB38 _ _ _ hF hP hD hS (lv_sub hl [0] rfl)
  · have hF := ifn hF c_1
    refine lv_iload hx hb dX7_open_10 (lv_at hl 3 rfl) ?_
    refine lv_if_lt (tgt := 38) hx hb dX7_open_12 (by decide) (fun c_2 => ?_) (fun c_2 => ?_)
    · have hF := ifp hF c_2
      exact hB38 _ _ _ hF hP hD hS (lv_sub hl [0] rfl)
    · have hF := ifn hF c_2
      refine lv_iload hx hb dX7_open_15 (lv_at hl 3 rfl) ?_
      refine lv_ldc (v := 32768) hx hb hown (hts _ (List.mem_cons_of_mem _ mw_479)) dX7_open_17 ?_
      refine lv_icmp_ge (tgt := 38) hx hb dX7_open_19 (by decide) (fun c_3 => ?_) (fun c_3 => ?_)
      · have hF := ifp hF c_3
        exact hB38 _ _ _ hF hP hD hS (lv_sub hl [0] rfl)
      · have hF := ifn hF c_3
        refine lv_aload_n hx hb dX7_open_22 rfl (lv_at hl 0 rfl) ?_
        refine hget hx hb hts hown hE fl_X7_42 hP 0 rfl rfl dX7_open_23 ?_
        refine lv_if_lt (tgt := 38) hx hb dX7_open_26 (by decide) (fun c_4 => ?_) (fun c_4 => ?_)
        · have hF := ifp hF c_4
          exact hB38 _ _ _ hF hP hD hS (lv_sub hl [0] rfl)
        · have hF := ifn hF c_4
          refine lv_aload_n hx hb dX7_open_29 rfl (lv_at hl 0 rfl) ?_
          refine hget hx hb hts hown hE fl_X7_42 hP 0 rfl rfl dX7_open_30 ?_
          refine lv_bipush (v := 64) hx hb dX7_open_33 (by decide) ?_
          refine lv_icmp_lt (tgt := 44) hx hb dX7_open_35 (by decide) (fun c_5 => ?_) (fun c_5 => ?_)
          · have hF := ifp hF c_5
            refine lv_aload_n hx hb dX7_open_44 rfl (lv_at hl 0 rfl) ?_
            refine lv_dup hx hb dX7_open_45 rfl ?_
            refine hget hx hb hts hown hE fl_X7_52 hP 0 rfl rfl dX7_open_46 ?_
            refine lv_iconst (v := 1) hx hb dX7_open_49 (by decide) ?_
            refine lv_iadd hx hb dX7_open_50 ?_
            refine lv_topi (fun u51_6 eu51_6 => ?_)
            have hF := jl hF eu51_6
            refine hput hx hb hts hown hE fl_X7_52 ft_X7_12 hP hD hS 0 rfl rfl rfl rfl (Nat.le_of_ble_eq_true rfl) (wn := [(so, .inr (6, [.ref sF, .ref sM, .int srd, .ref sP, .ref sS, .ref sL, .ref sT, .ref sB, .ref sR, .int sdp, .long sst, .int slw, .int u51_6, .int sfu, .int ssc, .int sbm])), (sF, .inl (gJ G, 32768, .inr (.inl sfi))), (sM, .inl (gI G, 32768, .inl smk)), (sP, .inl (gJ G, 64, .inr (.inl spa))), (sS, .inl (gI G, 64, .inl ssl)), (sL, .inl (gI G, 64, .inl sli)), (sT, .inl (gI G, 64, .inl str)), (sB, .inl (gI G, 64, .inl sbe)), (sR, .inl (gI G, 1536, .inl sro)), (ru, .inr (5, [.int rb, .int rg, .int ro]))]) rfl dX7_open_51 (fun H locs hP hD hS => ?_)
            refine lv_aload_n hx hb dX7_open_54 rfl (lv_at hl 0 rfl) ?_
            refine hget hx hb hts hown hE fl_X7_12 hP 0 rfl rfl dX7_open_55 ?_
            refine lv_iload hx hb dX7_open_58 (lv_at hl 3 rfl) ?_
            refine lv_lload_n hx hb dX7_open_60 rfl (lv_at hl 2 rfl) ?_
            obtain ⟨hi_7, hF⟩ := inb hF
            obtain ⟨a61_8, ea61_8⟩ : ∃ z : (Nat → Int64), z = vp_updL sfi (sl).toNatClampNeg st := ⟨_, rfl⟩
            have hF := jl hF ea61_8
            refine hlast hx hb hE hP hD hS 1 rfl hi_7 (wn := [(so, .inr (6, [.ref sF, .ref sM, .int srd, .ref sP, .ref sS, .ref sL, .ref sT, .ref sB, .ref sR, .int sdp, .long sst, .int slw, .int u51_6, .int sfu, .int ssc, .int sbm])), (sF, .inl (gJ G, 32768, .inr (.inl a61_8))), (sM, .inl (gI G, 32768, .inl smk)), (sP, .inl (gJ G, 64, .inr (.inl spa))), (sS, .inl (gI G, 64, .inl ssl)), (sL, .inl (gI G, 64, .inl sli)), (sT, .inl (gI G, 64, .inl str)), (sB, .inl (gI G, 64, .inl sbe)), (sR, .inl (gI G, 1536, .inl sro)), (ru, .inr (5, [.int rb, .int rg, .int ro]))]) (by rw [ea61_8]; rfl) dX7_open_61 (fun H locs hP hD hS => ?_)
            refine lv_aload_n hx hb dX7_open_62 rfl (lv_at hl 0 rfl) ?_
            refine hget hx hb hts hown hE fl_X7_16 hP 0 rfl rfl dX7_open_63 ?_
            refine lv_iload hx hb dX7_open_66 (lv_at hl 3 rfl) ?_
            refine lv_aload_n hx hb dX7_open_68 rfl (lv_at hl 0 rfl) ?_
            refine hget hx hb hts hown hE fl_X7_20 hP 0 rfl rfl dX7_open_69 ?_
            refine lv_bipush (v := 10) hx hb dX7_open_72 (by decide) ?_
            refine lv_ishl hx hb dX7_open_74 ?_
            obtain ⟨hi_9, hF⟩ := inb hF
            obtain ⟨a75_10, ea75_10⟩ : ∃ z : (Nat → Int32), z = upd smk (sl).toNatClampNeg (jshl srd 10) := ⟨_, rfl⟩
            have hF := jl hF ea75_10
            refine hiast hx hb hE hP hD hS 2 rfl hi_9 (wn := [(so, .inr (6, [.ref sF, .ref sM, .int srd, .ref sP, .ref sS, .ref sL, .ref sT, .ref sB, .ref sR, .int sdp, .long sst, .int slw, .int u51_6, .int sfu, .int ssc, .int sbm])), (sF, .inl (gJ G, 32768, .inr (.inl a61_8))), (sM, .inl (gI G, 32768, .inl a75_10)), (sP, .inl (gJ G, 64, .inr (.inl spa))), (sS, .inl (gI G, 64, .inl ssl)), (sL, .inl (gI G, 64, .inl sli)), (sT, .inl (gI G, 64, .inl str)), (sB, .inl (gI G, 64, .inl sbe)), (sR, .inl (gI G, 1536, .inl sro)), (ru, .inr (5, [.int rb, .int rg, .int ro]))]) (by rw [ea75_10]; rfl) dX7_open_75 (fun H locs hP hD hS => ?_)
            refine lv_aload_n hx hb dX7_open_76 rfl (lv_at hl 0 rfl) ?_
            refine hget hx hb hts hown hE fl_X7_24 hP 0 rfl rfl dX7_open_77 ?_
            refine lv_aload_n hx hb dX7_open_80 rfl (lv_at hl 0 rfl) ?_
            refine hget hx hb hts hown hE fl_X7_42 hP 0 rfl rfl dX7_open_81 ?_
            refine lv_lload_n hx hb dX7_open_84 rfl (lv_at hl 2 rfl) ?_
            obtain ⟨hi_11, hF⟩ := inb hF
            obtain ⟨a85_12, ea85_12⟩ : ∃ z : (Nat → Int64), z = vp_updL spa (sdp).toNatClampNeg st := ⟨_, rfl⟩
            have hF := jl hF ea85_12
            refine hlast hx hb hE hP hD hS 3 rfl hi_11 (wn := [(so, .inr (6, [.ref sF, .ref sM, .int srd, .ref sP, .ref sS, .ref sL, .ref sT, .ref sB, .ref sR, .int sdp, .long sst, .int slw, .int u51_6, .int sfu, .int ssc, .int sbm])), (sF, .inl (gJ G, 32768, .inr (.inl a61_8))), (sM, .inl (gI G, 32768, .inl a75_10)), (sP, .inl (gJ G, 64, .inr (.inl a85_12))), (sS, .inl (gI G, 64, .inl ssl)), (sL, .inl (gI G, 64, .inl sli)), (sT, .inl (gI G, 64, .inl str)), (sB, .inl (gI G, 64, .inl sbe)), (sR, .inl (gI G, 1536, .inl sro)), (ru, .inr (5, [.int rb, .int rg, .int ro]))]) (by rw [ea85_12]; rfl) dX7_open_85 (fun H locs hP hD hS => ?_)
            refine lv_aload_n hx hb dX7_open_86 rfl (lv_at hl 0 rfl) ?_
            refine hget hx hb hts hown hE fl_X7_27 hP 0 rfl rfl dX7_open_87 ?_
            refine lv_aload_n hx hb dX7_open_90 rfl (lv_at hl 0 rfl) ?_
            refine hget hx hb hts hown hE fl_X7_42 hP 0 rfl rfl dX7_open_91 ?_
            refine lv_iload hx hb dX7_open_94 (lv_at hl 3 rfl) ?_
            obtain ⟨hi_13, hF⟩ := inb hF
            obtain ⟨a96_14, ea96_14⟩ : ∃ z : (Nat → Int32), z = upd ssl (sdp).toNatClampNeg sl := ⟨_, rfl⟩
            have hF := jl hF ea96_14
            refine hiast hx hb hE hP hD hS 4 rfl hi_13 (wn := [(so, .inr (6, [.ref sF, .ref sM, .int srd, .ref sP, .ref sS, .ref sL, .ref sT, .ref sB, .ref sR, .int sdp, .long sst, .int slw, .int u51_6, .int sfu, .int ssc, .int sbm])), (sF, .inl (gJ G, 32768, .inr (.inl a61_8))), (sM, .inl (gI G, 32768, .inl a75_10)), (sP, .inl (gJ G, 64, .inr (.inl a85_12))), (sS, .inl (gI G, 64, .inl a96_14)), (sL, .inl (gI G, 64, .inl sli)), (sT, .inl (gI G, 64, .inl str)), (sB, .inl (gI G, 64, .inl sbe)), (sR, .inl (gI G, 1536, .inl sro)), (ru, .inr (5, [.int rb, .int rg, .int ro]))]) (by rw [ea96_14]; rfl) dX7_open_96 (fun H locs hP hD hS => ?_)
            refine lv_aload_n hx hb dX7_open_97 rfl (lv_at hl 0 rfl) ?_
            refine hget hx hb hts hown hE fl_X7_33 hP 0 rfl rfl dX7_open_98 ?_
            refine lv_aload_n hx hb dX7_open_101 rfl (lv_at hl 0 rfl) ?_
            refine hget hx hb hts hown hE fl_X7_42 hP 0 rfl rfl dX7_open_102 ?_
            refine lv_iconst (v := 0) hx hb dX7_open_105 (by decide) ?_
            obtain ⟨hi_15, hF⟩ := inb hF
            obtain ⟨a106_16, ea106_16⟩ : ∃ z : (Nat → Int32), z = upd str (sdp).toNatClampNeg 0 := ⟨_, rfl⟩
            have hF := jl hF ea106_16
            refine hiast hx hb hE hP hD hS 6 rfl hi_15 (wn := [(so, .inr (6, [.ref sF, .ref sM, .int srd, .ref sP, .ref sS, .ref sL, .ref sT, .ref sB, .ref sR, .int sdp, .long sst, .int slw, .int u51_6, .int sfu, .int ssc, .int sbm])), (sF, .inl (gJ G, 32768, .inr (.inl a61_8))), (sM, .inl (gI G, 32768, .inl a75_10)), (sP, .inl (gJ G, 64, .inr (.inl a85_12))), (sS, .inl (gI G, 64, .inl a96_14)), (sL, .inl (gI G, 64, .inl sli)), (sT, .inl (gI G, 64, .inl a106_16)), (sB, .inl (gI G, 64, .inl sbe)), (sR, .inl (gI G, 1536, .inl sro)), (ru, .inr (5, [.int rb, .int rg, .int ro]))]) (by rw [ea106_16]; rfl) dX7_open_106 (fun H locs hP hD hS => ?_)
            refine lv_aload_n hx hb dX7_open_107 rfl (lv_at hl 0 rfl) ?_
            refine hget hx hb hts hown hE fl_X7_30 hP 0 rfl rfl dX7_open_108 ?_
            refine lv_aload_n hx hb dX7_open_111 rfl (lv_at hl 0 rfl) ?_
            refine hget hx hb hts hown hE fl_X7_42 hP 0 rfl rfl dX7_open_112 ?_
            refine lv_aload_n hx hb dX7_open_115 rfl (lv_at hl 1 rfl) ?_
            refine lv_lload_n hx hb dX7_open_116 rfl (lv_at hl 2 rfl) ?_
            refine lv_aload_n hx hb dX7_open_117 rfl (lv_at hl 0 rfl) ?_
            refine hget hx hb hts hown hE fl_X7_39 hP 0 rfl rfl dX7_open_118 ?_
            refine lv_aload_n hx hb dX7_open_121 rfl (lv_at hl 0 rfl) ?_
            refine hget hx hb hts hown hE fl_X7_42 hP 0 rfl rfl dX7_open_122 ?_
            refine lv_bipush (v := 24) hx hb dX7_open_125 (by decide) ?_
            refine lv_imul hx hb dX7_open_127 ?_
            obtain ⟨r128_17, hr128_17, hF⟩ := bnd hF
            refine hm_V (wn := [(so, .inr (6, [.ref sF, .ref sM, .int srd, .ref sP, .ref sS, .ref sL, .ref sT, .ref sB, .ref sR, .int sdp, .long sst, .int slw, .int u51_6, .int sfu, .int ssc, .int sbm])), (sF, .inl (gJ G, 32768, .inr (.inl a61_8))), (sM, .inl (gI G, 32768, .inl a75_10)), (sP, .inl (gJ G, 64, .inr (.inl a85_12))), (sS, .inl (gI G, 64, .inl a96_14)), (sL, .inl (gI G, 64, .inl sli)), (sT, .inl (gI G, 64, .inl a106_16)), (sB, .inl (gI G, 64, .inl sbe)), (sR, .inl (gI G, 1536, .inl r128_17.2)), (ru, .inr (5, [.int rb, .int rg, .int ro]))]) (wr := [(so, .inr (6, [.ref sF, .ref sM, .int srd, .ref sP, .ref sS, .ref sL, .ref sT, .ref sB, .ref sR, .int sdp, .long sst, .int slw, .int u51_6, .int sfu, .int ssc, .int sbm])), (sF, .inl (gJ G, 32768, .inr (.inl a61_8))), (sM, .inl (gI G, 32768, .inl a75_10)), (sP, .inl (gJ G, 64, .inr (.inl a85_12))), (sS, .inl (gI G, 64, .inl a96_14)), (sL, .inl (gI G, 64, .inl sli)), (sT, .inl (gI G, 64, .inl a106_16)), (sB, .inl (gI G, 64, .inl sbe))]) (rest := [.int sdp, .ref sL]) (sn := [.int r128_17.1, .int sdp, .ref sL]) hx hb hml hown hts hE hA (k_X5_list G l ru sR rb rg ro sro 1536 st (sdp * 24) r128_17 hr128_17) sm_X5_list mw_551 ⟨rfl, rfl, Nat.le_of_ble_eq_true rfl, Nat.le_of_ble_eq_true rfl⟩ hP hD hS 9 rfl rfl [9, 8] [0, 1, 2, 3, 4, 5, 6, 7] [0, 1, 2, 3, 4, 5, 6, 7, 9, 8] rfl rfl rfl (by decide) hl.1 rfl rfl (Nat.le_of_ble_eq_true rfl) dX7_open_128 ⟨Nat.le_of_ble_eq_true rfl, Nat.le_of_ble_eq_true rfl⟩ (fun H locs hP hD hS => ?_)
            obtain ⟨hi_18, hF⟩ := inb hF
            obtain ⟨a131_19, ea131_19⟩ : ∃ z : (Nat → Int32), z = upd sli (sdp).toNatClampNeg r128_17.1 := ⟨_, rfl⟩
            have hF := jl hF ea131_19
            refine hiast hx hb hE hP hD hS 5 rfl hi_18 (wn := [(so, .inr (6, [.ref sF, .ref sM, .int srd, .ref sP, .ref sS, .ref sL, .ref sT, .ref sB, .ref sR, .int sdp, .long sst, .int slw, .int u51_6, .int sfu, .int ssc, .int sbm])), (sF, .inl (gJ G, 32768, .inr (.inl a61_8))), (sM, .inl (gI G, 32768, .inl a75_10)), (sP, .inl (gJ G, 64, .inr (.inl a85_12))), (sS, .inl (gI G, 64, .inl a96_14)), (sL, .inl (gI G, 64, .inl a131_19)), (sT, .inl (gI G, 64, .inl a106_16)), (sB, .inl (gI G, 64, .inl sbe)), (sR, .inl (gI G, 1536, .inl r128_17.2)), (ru, .inr (5, [.int rb, .int rg, .int ro]))]) (by rw [ea131_19]; rfl) dX7_open_131 (fun H locs hP hD hS => ?_)
            refine lv_aload_n hx hb dX7_open_132 rfl (lv_at hl 0 rfl) ?_
            refine hget hx hb hts hown hE fl_X7_36 hP 0 rfl rfl dX7_open_133 ?_
            refine lv_aload_n hx hb dX7_open_136 rfl (lv_at hl 0 rfl) ?_
            refine hget hx hb hts hown hE fl_X7_42 hP 0 rfl rfl dX7_open_137 ?_
            refine lv_aload_n hx hb dX7_open_140 rfl (lv_at hl 0 rfl) ?_
            refine hget hx hb hts hown hE fl_X7_30 hP 0 rfl rfl dX7_open_141 ?_
            refine lv_aload_n hx hb dX7_open_144 rfl (lv_at hl 0 rfl) ?_
            refine hget hx hb hts hown hE fl_X7_42 hP 0 rfl rfl dX7_open_145 ?_
            obtain ⟨hi_20, hF⟩ := inb hF
            refine hiald hx hb hE hP 5 rfl hi_20 dX7_open_148 ?_
            have hB168 : ∀ (t2_21 : Int32) (H : Heap) (locs : List Loc) (ls : Array Slot), f_X7_open_B168 sdp sfu sbe u51_6 a61_8 a75_10 a85_12 a96_14 a106_16 r128_17 a131_19 t2_21 = some r → va_P (gD G) vwCl [(so, .inr (6, [.ref sF, .ref sM, .int srd, .ref sP, .ref sS, .ref sL, .ref sT, .ref sB, .ref sR, .int sdp, .long sst, .int slw, .int u51_6, .int sfu, .int ssc, .int sbm])), (sF, .inl (gJ G, 32768, .inr (.inl a61_8))), (sM, .inl (gI G, 32768, .inl a75_10)), (sP, .inl (gJ G, 64, .inr (.inl a85_12))), (sS, .inl (gI G, 64, .inl a96_14)), (sL, .inl (gI G, 64, .inl a131_19)), (sT, .inl (gI G, 64, .inl a106_16)), (sB, .inl (gI G, 64, .inl sbe)), (sR, .inl (gI G, 1536, .inl r128_17.2)), (ru, .inr (5, [.int rb, .int rg, .int ro]))] H → va_D A [(so, .inr (6, [.ref sF, .ref sM, .int srd, .ref sP, .ref sS, .ref sL, .ref sT, .ref sB, .ref sR, .int sdp, .long sst, .int slw, .int u51_6, .int sfu, .int ssc, .int sbm])), (sF, .inl (gJ G, 32768, .inr (.inl a61_8))), (sM, .inl (gI G, 32768, .inl a75_10)), (sP, .inl (gJ G, 64, .inr (.inl a85_12))), (sS, .inl (gI G, 64, .inl a96_14)), (sL, .inl (gI G, 64, .inl a131_19)), (sT, .inl (gI G, 64, .inl a106_16)), (sB, .inl (gI G, 64, .inl sbe)), (sR, .inl (gI G, 1536, .inl r128_17.2)), (ru, .inr (5, [.int rb, .int rg, .int ro]))] → va_S A s.heap H locs → lv_has ls 5 [(0, .ref so)] → W p l e rm_X7_open s m args below meth c H locs 0 0 (MQ below (HXq G post A) args s 0 0 A) (F0 m 168 ls [.int t2_21, .int sdp, .ref sB]) := by
              intro t2_21 H locs ls hF hP hD hS hl
              unfold f_X7_open_B168 at hF
              obtain ⟨hi_22, hF⟩ := inb hF
              obtain ⟨a168_23, ea168_23⟩ : ∃ z : (Nat → Int32), z = upd sbe (sdp).toNatClampNeg t2_21 := ⟨_, rfl⟩
              have hF := jl hF ea168_23
              refine hiast hx hb hE hP hD hS 7 rfl hi_22 (wn := [(so, .inr (6, [.ref sF, .ref sM, .int srd, .ref sP, .ref sS, .ref sL, .ref sT, .ref sB, .ref sR, .int sdp, .long sst, .int slw, .int u51_6, .int sfu, .int ssc, .int sbm])), (sF, .inl (gJ G, 32768, .inr (.inl a61_8))), (sM, .inl (gI G, 32768, .inl a75_10)), (sP, .inl (gJ G, 64, .inr (.inl a85_12))), (sS, .inl (gI G, 64, .inl a96_14)), (sL, .inl (gI G, 64, .inl a131_19)), (sT, .inl (gI G, 64, .inl a106_16)), (sB, .inl (gI G, 64, .inl a168_23)), (sR, .inl (gI G, 1536, .inl r128_17.2)), (ru, .inr (5, [.int rb, .int rg, .int ro]))]) (by rw [ea168_23]; rfl) dX7_open_168 (fun H locs hP hD hS => ?_)
              refine lv_aload_n hx hb dX7_open_169 rfl (lv_at hl 0 rfl) ?_
              refine lv_dup hx hb dX7_open_170 rfl ?_
              refine hget hx hb hts hown hE fl_X7_42 hP 0 rfl rfl dX7_open_171 ?_
              refine lv_iconst (v := 1) hx hb dX7_open_174 (by decide) ?_
              refine lv_iadd hx hb dX7_open_175 ?_
              refine lv_topi (fun u176_24 eu176_24 => ?_)
              have hF := jl hF eu176_24
              refine hput hx hb hts hown hE fl_X7_42 ft_X7_9 hP hD hS 0 rfl rfl rfl rfl (Nat.le_of_ble_eq_true rfl) (wn := [(so, .inr (6, [.ref sF, .ref sM, .int srd, .ref sP, .ref sS, .ref sL, .ref sT, .ref sB, .ref sR, .int u176_24, .long sst, .int slw, .int u51_6, .int sfu, .int ssc, .int sbm])), (sF, .inl (gJ G, 32768, .inr (.inl a61_8))), (sM, .inl (gI G, 32768, .inl a75_10)), (sP, .inl (gJ G, 64, .inr (.inl a85_12))), (sS, .inl (gI G, 64, .inl a96_14)), (sL, .inl (gI G, 64, .inl a131_19)), (sT, .inl (gI G, 64, .inl a106_16)), (sB, .inl (gI G, 64, .inl a168_23)), (sR, .inl (gI G, 1536, .inl r128_17.2)), (ru, .inr (5, [.int rb, .int rg, .int ro]))]) rfl dX7_open_176 (fun H locs hP hD hS => ?_)
              have hF := Option.some.inj hF
              subst hF
              exact hm_vret hx hb hr hlk hP hD hS hpost dX7_open_179
            refine lv_if_le (tgt := 156) hx hb dX7_open_149 (by decide) (fun c_25 => ?_) (fun c_25 => ?_)
            · have hF := ifp hF c_25
              refine lv_aload_n hx hb dX7_open_156 rfl (lv_at hl 1 rfl) ?_
              refine lv_lload_n hx hb dX7_open_157 rfl (lv_at hl 2 rfl) ?_
              obtain ⟨r158_26, hr158_26, hF⟩ := bnd hF
              refine hm_V (wn := [(so, .inr (6, [.ref sF, .ref sM, .int srd, .ref sP, .ref sS, .ref sL, .ref sT, .ref sB, .ref sR, .int sdp, .long sst, .int slw, .int u51_6, .int sfu, .int ssc, .int sbm])), (sF, .inl (gJ G, 32768, .inr (.inl a61_8))), (sM, .inl (gI G, 32768, .inl a75_10)), (sP, .inl (gJ G, 64, .inr (.inl a85_12))), (sS, .inl (gI G, 64, .inl a96_14)), (sL, .inl (gI G, 64, .inl a131_19)), (sT, .inl (gI G, 64, .inl a106_16)), (sB, .inl (gI G, 64, .inl sbe)), (sR, .inl (gI G, 1536, .inl r128_17.2)), (ru, .inr (5, [.int rb, .int rg, .int ro]))]) (wr := [(so, .inr (6, [.ref sF, .ref sM, .int srd, .ref sP, .ref sS, .ref sL, .ref sT, .ref sB, .ref sR, .int sdp, .long sst, .int slw, .int u51_6, .int sfu, .int ssc, .int sbm])), (sF, .inl (gJ G, 32768, .inr (.inl a61_8))), (sM, .inl (gI G, 32768, .inl a75_10)), (sP, .inl (gJ G, 64, .inr (.inl a85_12))), (sS, .inl (gI G, 64, .inl a96_14)), (sL, .inl (gI G, 64, .inl a131_19)), (sT, .inl (gI G, 64, .inl a106_16)), (sB, .inl (gI G, 64, .inl sbe)), (sR, .inl (gI G, 1536, .inl r128_17.2))]) (rest := [.int sdp, .ref sB]) (sn := [.int r158_26, .int sdp, .ref sB]) hx hb hml hown hts hE hA (k_X5_ending G l ru rb rg ro st r158_26 hr158_26) sm_X5_ending mw_552 ⟨rfl, rfl, Nat.le_of_ble_eq_true rfl, Nat.le_of_ble_eq_true rfl⟩ hP hD hS 9 rfl rfl [9] [0, 1, 2, 3, 4, 5, 6, 7, 8] [0, 1, 2, 3, 4, 5, 6, 7, 8, 9] rfl rfl rfl (by decide) hl.1 rfl rfl (Nat.le_of_ble_eq_true rfl) dX7_open_158 ⟨Nat.le_of_ble_eq_true rfl, Nat.le_of_ble_eq_true rfl⟩ (fun H locs hP hD hS => ?_)
              refine lv_lload_n hx hb dX7_open_161 rfl (lv_at hl 2 rfl) ?_
              refine hm_S (wn := [(so, .inr (6, [.ref sF, .ref sM, .int srd, .ref sP, .ref sS, .ref sL, .ref sT, .ref sB, .ref sR, .int sdp, .long sst, .int slw, .int u51_6, .int sfu, .int ssc, .int sbm])), (sF, .inl (gJ G, 32768, .inr (.inl a61_8))), (sM, .inl (gI G, 32768, .inl a75_10)), (sP, .inl (gJ G, 64, .inr (.inl a85_12))), (sS, .inl (gI G, 64, .inl a96_14)), (sL, .inl (gI G, 64, .inl a131_19)), (sT, .inl (gI G, 64, .inl a106_16)), (sB, .inl (gI G, 64, .inl sbe)), (sR, .inl (gI G, 1536, .inl r128_17.2)), (ru, .inr (5, [.int rb, .int rg, .int ro]))]) (wr := [(so, .inr (6, [.ref sF, .ref sM, .int srd, .ref sP, .ref sS, .ref sL, .ref sT, .ref sB, .ref sR, .int sdp, .long sst, .int slw, .int u51_6, .int sfu, .int ssc, .int sbm])), (sF, .inl (gJ G, 32768, .inr (.inl a61_8))), (sM, .inl (gI G, 32768, .inl a75_10)), (sP, .inl (gJ G, 64, .inr (.inl a85_12))), (sS, .inl (gI G, 64, .inl a96_14)), (sL, .inl (gI G, 64, .inl a131_19)), (sT, .inl (gI G, 64, .inl a106_16)), (sB, .inl (gI G, 64, .inl sbe)), (sR, .inl (gI G, 1536, .inl r128_17.2)), (ru, .inr (5, [.int rb, .int rg, .int ro]))]) (rest := [.int r158_26, .int sdp, .ref sB]) (sn := [.int (f_X8_turnOf st), .int r158_26, .int sdp, .ref sB]) hx hb hml hown hts hE hA (k_X8_turnOf G l st _ rfl) sm_X8_turnOf mw_553 ⟨rfl, rfl, Nat.le_of_ble_eq_true rfl, Nat.le_of_ble_eq_true rfl⟩ hP hD hS [] [0, 1, 2, 3, 4, 5, 6, 7, 8, 9] [0, 1, 2, 3, 4, 5, 6, 7, 8, 9] rfl rfl rfl (by decide) hl.1 rfl rfl (Nat.le_of_ble_eq_true rfl) dX7_open_162 ⟨Nat.le_of_ble_eq_true rfl, Nat.le_of_ble_eq_true rfl⟩ (fun H locs hP hD hS => ?_)
              refine hm_S (wn := [(so, .inr (6, [.ref sF, .ref sM, .int srd, .ref sP, .ref sS, .ref sL, .ref sT, .ref sB, .ref sR, .int sdp, .long sst, .int slw, .int u51_6, .int sfu, .int ssc, .int sbm])), (sF, .inl (gJ G, 32768, .inr (.inl a61_8))), (sM, .inl (gI G, 32768, .inl a75_10)), (sP, .inl (gJ G, 64, .inr (.inl a85_12))), (sS, .inl (gI G, 64, .inl a96_14)), (sL, .inl (gI G, 64, .inl a131_19)), (sT, .inl (gI G, 64, .inl a106_16)), (sB, .inl (gI G, 64, .inl sbe)), (sR, .inl (gI G, 1536, .inl r128_17.2)), (ru, .inr (5, [.int rb, .int rg, .int ro]))]) (wr := [(so, .inr (6, [.ref sF, .ref sM, .int srd, .ref sP, .ref sS, .ref sL, .ref sT, .ref sB, .ref sR, .int sdp, .long sst, .int slw, .int u51_6, .int sfu, .int ssc, .int sbm])), (sF, .inl (gJ G, 32768, .inr (.inl a61_8))), (sM, .inl (gI G, 32768, .inl a75_10)), (sP, .inl (gJ G, 64, .inr (.inl a85_12))), (sS, .inl (gI G, 64, .inl a96_14)), (sL, .inl (gI G, 64, .inl a131_19)), (sT, .inl (gI G, 64, .inl a106_16)), (sB, .inl (gI G, 64, .inl sbe)), (sR, .inl (gI G, 1536, .inl r128_17.2)), (ru, .inr (5, [.int rb, .int rg, .int ro]))]) (rest := [.int sdp, .ref sB]) (sn := [.int (f_X6_atEnd r158_26 (f_X8_turnOf st)), .int sdp, .ref sB]) hx hb hml hown hts hE hA (k_X6_atEnd G l r158_26 (f_X8_turnOf st) _ rfl) sm_X6_atEnd mw_554 ⟨rfl, rfl, Nat.le_of_ble_eq_true rfl, Nat.le_of_ble_eq_true rfl⟩ hP hD hS [] [0, 1, 2, 3, 4, 5, 6, 7, 8, 9] [0, 1, 2, 3, 4, 5, 6, 7, 8, 9] rfl rfl rfl (by decide) hl.1 rfl rfl (Nat.le_of_ble_eq_true rfl) dX7_open_165 ⟨Nat.le_of_ble_eq_true rfl, Nat.le_of_ble_eq_true rfl⟩ (fun H locs hP hD hS => ?_)
              exact hB168 (f_X6_atEnd r158_26 (f_X8_turnOf st)) _ _ _ hF hP hD hS (lv_sub hl [0] rfl)
            · have hF := ifn hF c_25
              refine lv_iconst (v := 0) hx hb dX7_open_152 (by decide) ?_
              refine lv_goto (tgt := 168) hx hb dX7_open_153 (by decide) ?_
              exact hB168 0 _ _ _ hF hP hD hS (lv_sub hl [0] rfl)
          · have hF := ifn hF c_5
            exact hB38 _ _ _ hF hP hD hS (lv_sub hl [0] rfl)
def f_X7_goOn_B17 (sdp : Int32) (sct : Int32) (ssc : Int32) (sbm : Int32) (sfi : (Nat → Int64)) (smk : (Nat → Int32)) (spa : (Nat → Int64)) (ssl : (Nat → Int32)) (sli : (Nat → Int32)) (str : (Nat → Int32)) (sbe : (Nat → Int32)) (sro : (Nat → Int32)) : Option (Int32 × Int32 × Int32 × Int32 × Int32 × (Nat → Int64) × (Nat → Int32) × (Nat → Int64) × (Nat → Int32) × (Nat → Int32) × (Nat → Int32) × (Nat → Int32) × (Nat → Int32)) :=
  some (sdp, sct, 1, ssc, sbm, sfi, smk, spa, ssl, sli, str, sbe, sro)
def f_X7_goOn_B63 (srd : Int32) (sdp : Int32) (sct : Int32) (sfu : Int32) (ssc : Int32) (sbm : Int32) (sfi : (Nat → Int64)) (smk : (Nat → Int32)) (spa : (Nat → Int64)) (ssl : (Nat → Int32)) (sli : (Nat → Int32)) (str : (Nat → Int32)) (sbe : (Nat → Int32)) (sro : (Nat → Int32)) (v2_1 : Int32) : Option (Int32 × Int32 × Int32 × Int32 × Int32 × (Nat → Int64) × (Nat → Int32) × (Nat → Int64) × (Nat → Int32) × (Nat → Int32) × (Nat → Int32) × (Nat → Int32) × (Nat → Int32)) :=
  Option.bind (f_X7_close srd sdp ssc sbm smk ssl str sbe sro v2_1) (fun r65_8 => some (r65_8.1, sct, sfu, r65_8.2.1, r65_8.2.2.1, sfi, r65_8.2.2.2.1, spa, ssl, sli, r65_8.2.2.2.2.1, r65_8.2.2.2.2.2, sro))
def f_X7_goOn_B134 (srd : Int32) (sdp : Int32) (sct : Int32) (sfu : Int32) (ssc : Int32) (sbm : Int32) (sfi : (Nat → Int64)) (smk : (Nat → Int32)) (spa : (Nat → Int64)) (ssl : (Nat → Int32)) (sli : (Nat → Int32)) (str : (Nat → Int32)) (sbe : (Nat → Int32)) (sro : (Nat → Int32)) (rb : Int32) (rg : Int32) (ro : Int32) (r81_14 : Int64) (r89_15 : Int32) : Option (Int32 × Int32 × Int32 × Int32 × Int32 × (Nat → Int64) × (Nat → Int32) × (Nat → Int64) × (Nat → Int32) × (Nat → Int32) × (Nat → Int32) × (Nat → Int32) × (Nat → Int32)) :=
  Option.bind (f_X7_open srd sdp sct sfu sfi smk spa ssl sli str sbe sro rb rg ro r81_14 r89_15) (fun r140_16 => some (r140_16.1, r140_16.2.1, r140_16.2.2.1, ssc, sbm, r140_16.2.2.2.1, r140_16.2.2.2.2.1, r140_16.2.2.2.2.2.1, r140_16.2.2.2.2.2.2.1, r140_16.2.2.2.2.2.2.2.1, r140_16.2.2.2.2.2.2.2.2.1, r140_16.2.2.2.2.2.2.2.2.2.1, r140_16.2.2.2.2.2.2.2.2.2.2))
def f_X7_goOn (srd : Int32) (sdp : Int32) (sct : Int32) (sfu : Int32) (ssc : Int32) (sbm : Int32) (sfi : (Nat → Int64)) (smk : (Nat → Int32)) (spa : (Nat → Int64)) (ssl : (Nat → Int32)) (sli : (Nat → Int32)) (str : (Nat → Int32)) (sbe : (Nat → Int32)) (sro : (Nat → Int32)) (rb : Int32) (rg : Int32) (ro : Int32) : Option (Int32 × Int32 × Int32 × Int32 × Int32 × (Nat → Int64) × (Nat → Int32) × (Nat → Int64) × (Nat → Int32) × (Nat → Int32) × (Nat → Int32) × (Nat → Int32) × (Nat → Int32)) :=
  jlet (sdp - 1) (fun v2_1 => if v2_1 < 0 then f_X7_goOn_B17 sdp sct ssc sbm sfi smk spa ssl sli str sbe sro else if v2_1 < 64 then if (v2_1) < 0 ∨ 64 ≤ (v2_1).toNatClampNeg then none else jlet ((v2_1 * 24) + (str (v2_1).toNatClampNeg)) (fun v3_5 => if (v2_1) < 0 ∨ 64 ≤ (v2_1).toNatClampNeg then none else if (v2_1) < 0 ∨ 64 ≤ (v2_1).toNatClampNeg then none else if (sli (v2_1).toNatClampNeg) ≤ (str (v2_1).toNatClampNeg) then f_X7_goOn_B63 srd sdp sct sfu ssc sbm sfi smk spa ssl sli str sbe sro v2_1 else if v3_5 < 0 then f_X7_goOn_B63 srd sdp sct sfu ssc sbm sfi smk spa ssl sli str sbe sro v2_1 else if v3_5 < 1536 then if (v2_1) < 0 ∨ 64 ≤ (v2_1).toNatClampNeg then none else if (v3_5) < 0 ∨ 1536 ≤ (v3_5).toNatClampNeg then none else Option.bind (f_X8_after (spa (v2_1).toNatClampNeg) (sro (v3_5).toNatClampNeg)) (fun r81_14 => Option.bind (f_X7_slotOf srd sfi smk r81_14) (fun r89_15 => if r89_15 < 0 then f_X7_goOn_B134 srd sdp sct sfu ssc sbm sfi smk spa ssl sli str sbe sro rb rg ro r81_14 r89_15 else if 32768 ≤ r89_15 then f_X7_goOn_B134 srd sdp sct sfu ssc sbm sfi smk spa ssl sli str sbe sro rb rg ro r81_14 r89_15 else Option.bind (f_X7_isFilled srd smk r89_15) (fun r109_19 => if r109_19 = 0 then f_X7_goOn_B134 srd sdp sct sfu ssc sbm sfi smk spa ssl sli str sbe sro rb rg ro r81_14 r89_15 else if (r89_15) < 0 ∨ 32768 ≤ (r89_15).toNatClampNeg then none else Option.bind (f_X7_weigh sbm str sbe sro v2_1 ((smk (r89_15).toNatClampNeg) &&& 1023)) (fun r128_22 => some (sdp, sct, sfu, ssc, r128_22.1, sfi, smk, spa, ssl, sli, r128_22.2.1, r128_22.2.2, sro))))) else f_X7_goOn_B63 srd sdp sct sfu ssc sbm sfi smk spa ssl sli str sbe sro v2_1) else f_X7_goOn_B17 sdp sct ssc sbm sfi smk spa ssl sli str sbe sro)
abbrev rm_X7_goOn : Room := { frames := 5, cells := 0, slots := 0, locals := 129 }
set_option maxHeartbeats 4000000 in
set_option maxRecDepth 100000 in
theorem k_X7_goOn (G : gT) (l : Launch) (so : Nat) (ru : Nat) (sF : Nat) (sM : Nat) (sP : Nat) (sS : Nat) (sL : Nat) (sT : Nat) (sB : Nat) (sR : Nat) (srd : Int32) (sdp : Int32) (sst : Int64) (slw : Int32) (sct : Int32) (sfu : Int32) (ssc : Int32) (sbm : Int32) (sfi : (Nat → Int64)) (smk : (Nat → Int32)) (spa : (Nat → Int64)) (ssl : (Nat → Int32)) (sli : (Nat → Int32)) (str : (Nat → Int32)) (sbe : (Nat → Int32)) (sro : (Nat → Int32)) (rb : Int32) (rg : Int32) (ro : Int32) (r : Int32 × Int32 × Int32 × Int32 × Int32 × (Nat → Int64) × (Nat → Int32) × (Nat → Int64) × (Nat → Int32) × (Nat → Int32) × (Nat → Int32) × (Nat → Int32) × (Nat → Int32)) (hF : f_X7_goOn srd sdp sct sfu ssc sbm sfi smk spa ssl sli str sbe sro rb rg ro = some r) : HM G l yX7_goOn (.code yX7_goOn cX7_goOn 7 none :: UW) rm_X7_goOn 0 0 [.ref so, .ref ru] [(so, .inr (6, [.ref sF, .ref sM, .int srd, .ref sP, .ref sS, .ref sL, .ref sT, .ref sB, .ref sR, .int sdp, .long sst, .int slw, .int sct, .int sfu, .int ssc, .int sbm])), (sF, .inl (gJ G, 32768, .inr (.inl sfi))), (sM, .inl (gI G, 32768, .inl smk)), (sP, .inl (gJ G, 64, .inr (.inl spa))), (sS, .inl (gI G, 64, .inl ssl)), (sL, .inl (gI G, 64, .inl sli)), (sT, .inl (gI G, 64, .inl str)), (sB, .inl (gI G, 64, .inl sbe)), (sR, .inl (gI G, 1536, .inl sro)), (ru, .inr (5, [.int rb, .int rg, .int ro]))] none [(so, .inr (6, [.ref sF, .ref sM, .int srd, .ref sP, .ref sS, .ref sL, .ref sT, .ref sB, .ref sR, .int r.1, .long sst, .int slw, .int r.2.1, .int r.2.2.1, .int r.2.2.2.1, .int r.2.2.2.2.1])), (sF, .inl (gJ G, 32768, .inr (.inl r.2.2.2.2.2.1))), (sM, .inl (gI G, 32768, .inl r.2.2.2.2.2.2.1)), (sP, .inl (gJ G, 64, .inr (.inl r.2.2.2.2.2.2.2.1))), (sS, .inl (gI G, 64, .inl r.2.2.2.2.2.2.2.2.1)), (sL, .inl (gI G, 64, .inl r.2.2.2.2.2.2.2.2.2.1)), (sT, .inl (gI G, 64, .inl r.2.2.2.2.2.2.2.2.2.2.1)), (sB, .inl (gI G, 64, .inl r.2.2.2.2.2.2.2.2.2.2.2.1)), (sR, .inl (gI G, 1536, .inl r.2.2.2.2.2.2.2.2.2.2.2.2)), (ru, .inr (5, [.int rb, .int rg, .int ro]))] := by
  refine HM.ofW (by decide) (Nat.le_of_ble_eq_true rfl) ?_
  intro p e s m args below meth c A post hpost hC hP hD hS ls hl
  obtain ⟨hx, hb, hr, hml, hown, hts, hlk, hE, hA⟩ := hC
  have hl : lv_has ls 7 [(0, .ref so), (1, .ref ru)] := hl
  unfold f_X7_goOn at hF
  refine lv_aload_n hx hb dX7_goOn_0 rfl (lv_at hl 0 rfl) ?_
  refine hget hx hb hts hown hE fl_X7_42 hP 0 rfl rfl dX7_goOn_1 ?_
  refine lv_iconst (v := 1) hx hb dX7_goOn_4 (by decide) ?_
  refine lv_isub hx hb dX7_goOn_5 ?_
  refine lv_topi (fun v2_1 ev2_1 => ?_)
  have hF := jl hF ev2_1
  refine lv_istore_n (lv' := [(2, .int v2_1), (0, .ref so), (1, .ref ru)]) hx hb dX7_goOn_6 rfl hl (by decide) rfl (fun ls hl => ?_)
  refine lv_iload_n hx hb dX7_goOn_7 rfl (lv_at hl 0 rfl) ?_
  have hB17 : ∀ (H : Heap) (locs : List Loc) (ls : Array Slot), f_X7_goOn_B17 sdp sct ssc sbm sfi smk spa ssl sli str sbe sro = some r → va_P (gD G) vwCl [(so, .inr (6, [.ref sF, .ref sM, .int srd, .ref sP, .ref sS, .ref sL, .ref sT, .ref sB, .ref sR, .int sdp, .long sst, .int slw, .int sct, .int sfu, .int ssc, .int sbm])), (sF, .inl (gJ G, 32768, .inr (.inl sfi))), (sM, .inl (gI G, 32768, .inl smk)), (sP, .inl (gJ G, 64, .inr (.inl spa))), (sS, .inl (gI G, 64, .inl ssl)), (sL, .inl (gI G, 64, .inl sli)), (sT, .inl (gI G, 64, .inl str)), (sB, .inl (gI G, 64, .inl sbe)), (sR, .inl (gI G, 1536, .inl sro)), (ru, .inr (5, [.int rb, .int rg, .int ro]))] H → va_D A [(so, .inr (6, [.ref sF, .ref sM, .int srd, .ref sP, .ref sS, .ref sL, .ref sT, .ref sB, .ref sR, .int sdp, .long sst, .int slw, .int sct, .int sfu, .int ssc, .int sbm])), (sF, .inl (gJ G, 32768, .inr (.inl sfi))), (sM, .inl (gI G, 32768, .inl smk)), (sP, .inl (gJ G, 64, .inr (.inl spa))), (sS, .inl (gI G, 64, .inl ssl)), (sL, .inl (gI G, 64, .inl sli)), (sT, .inl (gI G, 64, .inl str)), (sB, .inl (gI G, 64, .inl sbe)), (sR, .inl (gI G, 1536, .inl sro)), (ru, .inr (5, [.int rb, .int rg, .int ro]))] → va_S A s.heap H locs → lv_has ls 7 [(0, .ref so)] → W p l e rm_X7_goOn s m args below meth c H locs 0 0 (MQ below (HXq G post A) args s 0 0 A) (F0 m 17 ls []) := by
    intro H locs ls hF hP hD hS hl
    unfold f_X7_goOn_B17 at hF
    refine lv_aload_n hx hb dX7_goOn_17 rfl (lv_at hl 0 rfl) ?_
    refine lv_iconst (v := 1) hx hb dX7_goOn_18 (by decide) ?_
    refine hput hx hb hts hown hE fl_X7_55 ft_X7_13 hP hD hS 0 rfl rfl (by decide +kernel) (by decide +kernel) (Nat.le_of_ble_eq_true rfl) (wn := [(so, .inr (6, [.ref sF, .ref sM, .int srd, .ref sP, .ref sS, .ref sL, .ref sT, .ref sB, .ref sR, .int sdp, .long sst, .int slw, .int sct, .int 1, .int ssc, .int sbm])), (sF, .inl (gJ G, 32768, .inr (.inl sfi))), (sM, .inl (gI G, 32768, .inl smk)), (sP, .inl (gJ G, 64, .inr (.inl spa))), (sS, .inl (gI G, 64, .inl ssl)), (sL, .inl (gI G, 64, .inl sli)), (sT, .inl (gI G, 64, .inl str)), (sB, .inl (gI G, 64, .inl sbe)), (sR, .inl (gI G, 1536, .inl sro)), (ru, .inr (5, [.int rb, .int rg, .int ro]))]) rfl dX7_goOn_19 (fun H locs hP hD hS => ?_)
    have hF := Option.some.inj hF
    subst hF
    exact hm_vret hx hb hr hlk hP hD hS hpost dX7_goOn_22
  refine lv_if_lt (tgt := 17) hx hb dX7_goOn_8 (by decide) (fun c_2 => ?_) (fun c_2 => ?_)
  · have hF := ifp hF c_2
    exact hB17 _ _ _ hF hP hD hS (lv_sub hl [1] rfl)
  · have hF := ifn hF c_2
    refine lv_iload_n hx hb dX7_goOn_11 rfl (lv_at hl 0 rfl) ?_
    refine lv_bipush (v := 64) hx hb dX7_goOn_12 (by decide) ?_
    refine lv_icmp_lt (tgt := 23) hx hb dX7_goOn_14 (by decide) (fun c_3 => ?_) (fun c_3 => ?_)
    · have hF := ifp hF c_3
      refine lv_iload_n hx hb dX7_goOn_23 rfl (lv_at hl 0 rfl) ?_
      refine lv_bipush (v := 24) hx hb dX7_goOn_24 (by decide) ?_
      refine lv_imul hx hb dX7_goOn_26 ?_
      refine lv_aload_n hx hb dX7_goOn_27 rfl (lv_at hl 1 rfl) ?_
      refine hget hx hb hts hown hE fl_X7_33 hP 0 rfl rfl dX7_goOn_28 ?_
      refine lv_iload_n hx hb dX7_goOn_31 rfl (lv_at hl 0 rfl) ?_
      obtain ⟨hi_4, hF⟩ := inb hF
      refine hiald hx hb hE hP 6 rfl hi_4 dX7_goOn_32 ?_
      refine lv_iadd hx hb dX7_goOn_33 ?_
      refine lv_topi (fun v3_5 ev3_5 => ?_)
      have hF := jl hF ev3_5
      refine lv_istore_n (lv' := [(3, .int v3_5), (2, .int v2_1), (0, .ref so), (1, .ref ru)]) hx hb dX7_goOn_34 rfl hl (by decide) rfl (fun ls hl => ?_)
      refine lv_aload_n hx hb dX7_goOn_35 rfl (lv_at hl 2 rfl) ?_
      refine hget hx hb hts hown hE fl_X7_33 hP 0 rfl rfl dX7_goOn_36 ?_
      refine lv_iload_n hx hb dX7_goOn_39 rfl (lv_at hl 1 rfl) ?_
      obtain ⟨hi_6, hF⟩ := inb hF
      refine hiald hx hb hE hP 6 rfl hi_6 dX7_goOn_40 ?_
      refine lv_aload_n hx hb dX7_goOn_41 rfl (lv_at hl 2 rfl) ?_
      refine hget hx hb hts hown hE fl_X7_30 hP 0 rfl rfl dX7_goOn_42 ?_
      refine lv_iload_n hx hb dX7_goOn_45 rfl (lv_at hl 1 rfl) ?_
      obtain ⟨hi_7, hF⟩ := inb hF
      refine hiald hx hb hE hP 5 rfl hi_7 dX7_goOn_46 ?_
      have hB63 : ∀ (H : Heap) (locs : List Loc) (ls : Array Slot), f_X7_goOn_B63 srd sdp sct sfu ssc sbm sfi smk spa ssl sli str sbe sro v2_1 = some r → va_P (gD G) vwCl [(so, .inr (6, [.ref sF, .ref sM, .int srd, .ref sP, .ref sS, .ref sL, .ref sT, .ref sB, .ref sR, .int sdp, .long sst, .int slw, .int sct, .int sfu, .int ssc, .int sbm])), (sF, .inl (gJ G, 32768, .inr (.inl sfi))), (sM, .inl (gI G, 32768, .inl smk)), (sP, .inl (gJ G, 64, .inr (.inl spa))), (sS, .inl (gI G, 64, .inl ssl)), (sL, .inl (gI G, 64, .inl sli)), (sT, .inl (gI G, 64, .inl str)), (sB, .inl (gI G, 64, .inl sbe)), (sR, .inl (gI G, 1536, .inl sro)), (ru, .inr (5, [.int rb, .int rg, .int ro]))] H → va_D A [(so, .inr (6, [.ref sF, .ref sM, .int srd, .ref sP, .ref sS, .ref sL, .ref sT, .ref sB, .ref sR, .int sdp, .long sst, .int slw, .int sct, .int sfu, .int ssc, .int sbm])), (sF, .inl (gJ G, 32768, .inr (.inl sfi))), (sM, .inl (gI G, 32768, .inl smk)), (sP, .inl (gJ G, 64, .inr (.inl spa))), (sS, .inl (gI G, 64, .inl ssl)), (sL, .inl (gI G, 64, .inl sli)), (sT, .inl (gI G, 64, .inl str)), (sB, .inl (gI G, 64, .inl sbe)), (sR, .inl (gI G, 1536, .inl sro)), (ru, .inr (5, [.int rb, .int rg, .int ro]))] → va_S A s.heap H locs → lv_has ls 7 [(0, .ref so), (2, .int v2_1)] → W p l e rm_X7_goOn s m args below meth c H locs 0 0 (MQ below (HXq G post A) args s 0 0 A) (F0 m 63 ls []) := by
        intro H locs ls hF hP hD hS hl
        unfold f_X7_goOn_B63 at hF
        refine lv_aload_n hx hb dX7_goOn_63 rfl (lv_at hl 0 rfl) ?_
        refine lv_iload_n hx hb dX7_goOn_64 rfl (lv_at hl 1 rfl) ?_
        obtain ⟨r65_8, hr65_8, hF⟩ := bnd hF
        refine hm_V (wn := [(so, .inr (6, [.ref sF, .ref sM, .int srd, .ref sP, .ref sS, .ref sL, .ref sT, .ref sB, .ref sR, .int r65_8.1, .long sst, .int slw, .int sct, .int sfu, .int r65_8.2.1, .int r65_8.2.2.1])), (sF, .inl (gJ G, 32768, .inr (.inl sfi))), (sM, .inl (gI G, 32768, .inl r65_8.2.2.2.1)), (sP, .inl (gJ G, 64, .inr (.inl spa))), (sS, .inl (gI G, 64, .inl ssl)), (sL, .inl (gI G, 64, .inl sli)), (sT, .inl (gI G, 64, .inl r65_8.2.2.2.2.1)), (sB, .inl (gI G, 64, .inl r65_8.2.2.2.2.2)), (sR, .inl (gI G, 1536, .inl sro)), (ru, .inr (5, [.int rb, .int rg, .int ro]))]) (wr := [(sF, .inl (gJ G, 32768, .inr (.inl sfi))), (sP, .inl (gJ G, 64, .inr (.inl spa))), (sL, .inl (gI G, 64, .inl sli)), (ru, .inr (5, [.int rb, .int rg, .int ro]))]) (rest := []) (sn := []) hx hb hml hown hts hE hA (k_X7_close G l so sF sM sP sS sL sT sB sR srd sdp sst slw sct sfu ssc sbm smk ssl str sbe sro v2_1 r65_8 hr65_8) sm_X7_close mw_563 ⟨rfl, rfl, Nat.le_of_ble_eq_true rfl, Nat.le_of_ble_eq_true rfl⟩ hP hD hS 0 rfl rfl [0, 2, 4, 6, 7, 8] [1, 3, 5, 9] [4, 0, 5, 1, 6, 2, 7, 8, 9, 3] rfl rfl rfl (by decide) hl.1 rfl rfl (Nat.le_of_ble_eq_true rfl) dX7_goOn_65 ⟨Nat.le_of_ble_eq_true rfl, Nat.le_of_ble_eq_true rfl⟩ (fun H locs hP hD hS => ?_)
        have hF := Option.some.inj hF
        subst hF
        exact hm_vret hx hb hr hlk hP hD hS hpost dX7_goOn_68
      refine lv_icmp_ge (tgt := 63) hx hb dX7_goOn_47 (by decide) (fun c_9 => ?_) (fun c_9 => ?_)
      · have hF := ifp hF c_9
        exact hB63 _ _ _ hF hP hD hS (lv_sub hl [2, 1] rfl)
      · have hF := ifn hF c_9
        refine lv_iload_n hx hb dX7_goOn_50 rfl (lv_at hl 0 rfl) ?_
        refine lv_if_lt (tgt := 63) hx hb dX7_goOn_51 (by decide) (fun c_10 => ?_) (fun c_10 => ?_)
        · have hF := ifp hF c_10
          exact hB63 _ _ _ hF hP hD hS (lv_sub hl [2, 1] rfl)
        · have hF := ifn hF c_10
          refine lv_iload_n hx hb dX7_goOn_54 rfl (lv_at hl 0 rfl) ?_
          refine lv_aload_n hx hb dX7_goOn_55 rfl (lv_at hl 2 rfl) ?_
          refine hget hx hb hts hown hE fl_X7_39 hP 0 rfl rfl dX7_goOn_56 ?_
          refine halen 0 (v := 1536) hx hb hE hP 8 rfl rfl rfl dX7_goOn_59 ?_
          refine lv_icmp_lt (tgt := 69) hx hb dX7_goOn_60 (by decide) (fun c_11 => ?_) (fun c_11 => ?_)
          · have hF := ifp hF c_11
            refine lv_aload_n hx hb dX7_goOn_69 rfl (lv_at hl 2 rfl) ?_
            refine hget hx hb hts hown hE fl_X7_24 hP 0 rfl rfl dX7_goOn_70 ?_
            refine lv_iload_n hx hb dX7_goOn_73 rfl (lv_at hl 1 rfl) ?_
            obtain ⟨hi_12, hF⟩ := inb hF
            refine hlald hx hb hE hP 3 rfl hi_12 dX7_goOn_74 ?_
            refine lv_aload_n hx hb dX7_goOn_75 rfl (lv_at hl 2 rfl) ?_
            refine hget hx hb hts hown hE fl_X7_39 hP 0 rfl rfl dX7_goOn_76 ?_
            refine lv_iload_n hx hb dX7_goOn_79 rfl (lv_at hl 0 rfl) ?_
            obtain ⟨hi_13, hF⟩ := inb hF
            refine hiald hx hb hE hP 8 rfl hi_13 dX7_goOn_80 ?_
            obtain ⟨r81_14, hr81_14, hF⟩ := bnd hF
            refine hm_S (wn := [(so, .inr (6, [.ref sF, .ref sM, .int srd, .ref sP, .ref sS, .ref sL, .ref sT, .ref sB, .ref sR, .int sdp, .long sst, .int slw, .int sct, .int sfu, .int ssc, .int sbm])), (sF, .inl (gJ G, 32768, .inr (.inl sfi))), (sM, .inl (gI G, 32768, .inl smk)), (sP, .inl (gJ G, 64, .inr (.inl spa))), (sS, .inl (gI G, 64, .inl ssl)), (sL, .inl (gI G, 64, .inl sli)), (sT, .inl (gI G, 64, .inl str)), (sB, .inl (gI G, 64, .inl sbe)), (sR, .inl (gI G, 1536, .inl sro)), (ru, .inr (5, [.int rb, .int rg, .int ro]))]) (wr := [(so, .inr (6, [.ref sF, .ref sM, .int srd, .ref sP, .ref sS, .ref sL, .ref sT, .ref sB, .ref sR, .int sdp, .long sst, .int slw, .int sct, .int sfu, .int ssc, .int sbm])), (sF, .inl (gJ G, 32768, .inr (.inl sfi))), (sM, .inl (gI G, 32768, .inl smk)), (sP, .inl (gJ G, 64, .inr (.inl spa))), (sS, .inl (gI G, 64, .inl ssl)), (sL, .inl (gI G, 64, .inl sli)), (sT, .inl (gI G, 64, .inl str)), (sB, .inl (gI G, 64, .inl sbe)), (sR, .inl (gI G, 1536, .inl sro)), (ru, .inr (5, [.int rb, .int rg, .int ro]))]) (rest := []) (sn := [.long r81_14]) hx hb hml hown hts hE hA (k_X8_after G l (spa (v2_1).toNatClampNeg) (sro (v3_5).toNatClampNeg) r81_14 hr81_14) sm_X8_after mw_574 ⟨rfl, rfl, Nat.le_of_ble_eq_true rfl, Nat.le_of_ble_eq_true rfl⟩ hP hD hS [] [0, 1, 2, 3, 4, 5, 6, 7, 8, 9] [0, 1, 2, 3, 4, 5, 6, 7, 8, 9] rfl rfl rfl (by decide) hl.1 rfl rfl (Nat.le_of_ble_eq_true rfl) dX7_goOn_81 ⟨Nat.le_of_ble_eq_true rfl, Nat.le_of_ble_eq_true rfl⟩ (fun H locs hP hD hS => ?_)
            refine lv_lstore (lv' := [(4, .long r81_14), (3, .int v3_5), (2, .int v2_1), (0, .ref so), (1, .ref ru)]) hx hb dX7_goOn_84 hl (by decide) rfl (fun ls hl => ?_)
            refine lv_aload_n hx hb dX7_goOn_86 rfl (lv_at hl 3 rfl) ?_
            refine lv_lload hx hb dX7_goOn_87 (lv_at hl 0 rfl) ?_
            obtain ⟨r89_15, hr89_15, hF⟩ := bnd hF
            refine hm_V (wn := [(so, .inr (6, [.ref sF, .ref sM, .int srd, .ref sP, .ref sS, .ref sL, .ref sT, .ref sB, .ref sR, .int sdp, .long sst, .int slw, .int sct, .int sfu, .int ssc, .int sbm])), (sF, .inl (gJ G, 32768, .inr (.inl sfi))), (sM, .inl (gI G, 32768, .inl smk)), (sP, .inl (gJ G, 64, .inr (.inl spa))), (sS, .inl (gI G, 64, .inl ssl)), (sL, .inl (gI G, 64, .inl sli)), (sT, .inl (gI G, 64, .inl str)), (sB, .inl (gI G, 64, .inl sbe)), (sR, .inl (gI G, 1536, .inl sro)), (ru, .inr (5, [.int rb, .int rg, .int ro]))]) (wr := [(sP, .inl (gJ G, 64, .inr (.inl spa))), (sS, .inl (gI G, 64, .inl ssl)), (sL, .inl (gI G, 64, .inl sli)), (sT, .inl (gI G, 64, .inl str)), (sB, .inl (gI G, 64, .inl sbe)), (sR, .inl (gI G, 1536, .inl sro)), (ru, .inr (5, [.int rb, .int rg, .int ro]))]) (rest := []) (sn := [.int r89_15]) hx hb hml hown hts hE hA (k_X7_slotOf G l so sF sM sP sS sL sT sB sR srd sdp sst slw sct sfu ssc sbm sfi smk r81_14 r89_15 hr89_15) sm_X7_slotOf mw_538 ⟨rfl, rfl, Nat.le_of_ble_eq_true rfl, Nat.le_of_ble_eq_true rfl⟩ hP hD hS 0 rfl rfl [0, 1, 2] [3, 4, 5, 6, 7, 8, 9] [7, 8, 9, 0, 1, 2, 3, 4, 5, 6] rfl rfl rfl (by decide) hl.1 rfl rfl (Nat.le_of_ble_eq_true rfl) dX7_goOn_89 ⟨Nat.le_of_ble_eq_true rfl, Nat.le_of_ble_eq_true rfl⟩ (fun H locs hP hD hS => ?_)
            refine lv_istore (lv' := [(6, .int r89_15), (4, .long r81_14), (3, .int v3_5), (2, .int v2_1), (0, .ref so), (1, .ref ru)]) hx hb dX7_goOn_92 hl (by decide) rfl (fun ls hl => ?_)
            refine lv_iload hx hb dX7_goOn_94 (lv_at hl 0 rfl) ?_
            have hB134 : ∀ (H : Heap) (locs : List Loc) (ls : Array Slot), f_X7_goOn_B134 srd sdp sct sfu ssc sbm sfi smk spa ssl sli str sbe sro rb rg ro r81_14 r89_15 = some r → va_P (gD G) vwCl [(so, .inr (6, [.ref sF, .ref sM, .int srd, .ref sP, .ref sS, .ref sL, .ref sT, .ref sB, .ref sR, .int sdp, .long sst, .int slw, .int sct, .int sfu, .int ssc, .int sbm])), (sF, .inl (gJ G, 32768, .inr (.inl sfi))), (sM, .inl (gI G, 32768, .inl smk)), (sP, .inl (gJ G, 64, .inr (.inl spa))), (sS, .inl (gI G, 64, .inl ssl)), (sL, .inl (gI G, 64, .inl sli)), (sT, .inl (gI G, 64, .inl str)), (sB, .inl (gI G, 64, .inl sbe)), (sR, .inl (gI G, 1536, .inl sro)), (ru, .inr (5, [.int rb, .int rg, .int ro]))] H → va_D A [(so, .inr (6, [.ref sF, .ref sM, .int srd, .ref sP, .ref sS, .ref sL, .ref sT, .ref sB, .ref sR, .int sdp, .long sst, .int slw, .int sct, .int sfu, .int ssc, .int sbm])), (sF, .inl (gJ G, 32768, .inr (.inl sfi))), (sM, .inl (gI G, 32768, .inl smk)), (sP, .inl (gJ G, 64, .inr (.inl spa))), (sS, .inl (gI G, 64, .inl ssl)), (sL, .inl (gI G, 64, .inl sli)), (sT, .inl (gI G, 64, .inl str)), (sB, .inl (gI G, 64, .inl sbe)), (sR, .inl (gI G, 1536, .inl sro)), (ru, .inr (5, [.int rb, .int rg, .int ro]))] → va_S A s.heap H locs → lv_has ls 7 [(0, .ref so), (1, .ref ru), (4, .long r81_14), (6, .int r89_15)] → W p l e rm_X7_goOn s m args below meth c H locs 0 0 (MQ below (HXq G post A) args s 0 0 A) (F0 m 134 ls []) := by
              intro H locs ls hF hP hD hS hl
              unfold f_X7_goOn_B134 at hF
              refine lv_aload_n hx hb dX7_goOn_134 rfl (lv_at hl 0 rfl) ?_
              refine lv_aload_n hx hb dX7_goOn_135 rfl (lv_at hl 1 rfl) ?_
              refine lv_lload hx hb dX7_goOn_136 (lv_at hl 2 rfl) ?_
              refine lv_iload hx hb dX7_goOn_138 (lv_at hl 3 rfl) ?_
              obtain ⟨r140_16, hr140_16, hF⟩ := bnd hF
              refine hm_V (wn := [(so, .inr (6, [.ref sF, .ref sM, .int srd, .ref sP, .ref sS, .ref sL, .ref sT, .ref sB, .ref sR, .int r140_16.1, .long sst, .int slw, .int r140_16.2.1, .int r140_16.2.2.1, .int ssc, .int sbm])), (sF, .inl (gJ G, 32768, .inr (.inl r140_16.2.2.2.1))), (sM, .inl (gI G, 32768, .inl r140_16.2.2.2.2.1)), (sP, .inl (gJ G, 64, .inr (.inl r140_16.2.2.2.2.2.1))), (sS, .inl (gI G, 64, .inl r140_16.2.2.2.2.2.2.1)), (sL, .inl (gI G, 64, .inl r140_16.2.2.2.2.2.2.2.1)), (sT, .inl (gI G, 64, .inl r140_16.2.2.2.2.2.2.2.2.1)), (sB, .inl (gI G, 64, .inl r140_16.2.2.2.2.2.2.2.2.2.1)), (sR, .inl (gI G, 1536, .inl r140_16.2.2.2.2.2.2.2.2.2.2)), (ru, .inr (5, [.int rb, .int rg, .int ro]))]) (wr := []) (rest := []) (sn := []) hx hb hml hown hts hE hA (k_X7_open G l so ru sF sM sP sS sL sT sB sR srd sdp sst slw sct sfu ssc sbm sfi smk spa ssl sli str sbe sro rb rg ro r81_14 r89_15 r140_16 hr140_16) sm_X7_open mw_547 ⟨rfl, rfl, Nat.le_of_ble_eq_true rfl, Nat.le_of_ble_eq_true rfl⟩ hP hD hS 0 rfl rfl [0, 1, 2, 3, 4, 5, 6, 7, 8, 9] [] [0, 1, 2, 3, 4, 5, 6, 7, 8, 9] rfl rfl rfl (by decide) hl.1 rfl rfl (Nat.le_of_ble_eq_true rfl) dX7_goOn_140 ⟨Nat.le_of_ble_eq_true rfl, Nat.le_of_ble_eq_true rfl⟩ (fun H locs hP hD hS => ?_)
              have hF := Option.some.inj hF
              subst hF
              exact hm_vret hx hb hr hlk hP hD hS hpost dX7_goOn_143
            refine lv_if_lt (tgt := 134) hx hb dX7_goOn_96 (by decide) (fun c_17 => ?_) (fun c_17 => ?_)
            · have hF := ifp hF c_17
              exact hB134 _ _ _ hF hP hD hS (lv_sub hl [4, 5, 1, 0] rfl)
            · have hF := ifn hF c_17
              refine lv_iload hx hb dX7_goOn_99 (lv_at hl 0 rfl) ?_
              refine lv_ldc (v := 32768) hx hb hown (hts _ (List.mem_cons_of_mem _ mw_479)) dX7_goOn_101 ?_
              refine lv_icmp_ge (tgt := 134) hx hb dX7_goOn_103 (by decide) (fun c_18 => ?_) (fun c_18 => ?_)
              · have hF := ifp hF c_18
                exact hB134 _ _ _ hF hP hD hS (lv_sub hl [4, 5, 1, 0] rfl)
              · have hF := ifn hF c_18
                refine lv_aload_n hx hb dX7_goOn_106 rfl (lv_at hl 4 rfl) ?_
                refine lv_iload hx hb dX7_goOn_107 (lv_at hl 0 rfl) ?_
                obtain ⟨r109_19, hr109_19, hF⟩ := bnd hF
                refine hm_V (wn := [(so, .inr (6, [.ref sF, .ref sM, .int srd, .ref sP, .ref sS, .ref sL, .ref sT, .ref sB, .ref sR, .int sdp, .long sst, .int slw, .int sct, .int sfu, .int ssc, .int sbm])), (sF, .inl (gJ G, 32768, .inr (.inl sfi))), (sM, .inl (gI G, 32768, .inl smk)), (sP, .inl (gJ G, 64, .inr (.inl spa))), (sS, .inl (gI G, 64, .inl ssl)), (sL, .inl (gI G, 64, .inl sli)), (sT, .inl (gI G, 64, .inl str)), (sB, .inl (gI G, 64, .inl sbe)), (sR, .inl (gI G, 1536, .inl sro)), (ru, .inr (5, [.int rb, .int rg, .int ro]))]) (wr := [(sF, .inl (gJ G, 32768, .inr (.inl sfi))), (sP, .inl (gJ G, 64, .inr (.inl spa))), (sS, .inl (gI G, 64, .inl ssl)), (sL, .inl (gI G, 64, .inl sli)), (sT, .inl (gI G, 64, .inl str)), (sB, .inl (gI G, 64, .inl sbe)), (sR, .inl (gI G, 1536, .inl sro)), (ru, .inr (5, [.int rb, .int rg, .int ro]))]) (rest := []) (sn := [.int r109_19]) hx hb hml hown hts hE hA (k_X7_isFilled G l so sF sM sP sS sL sT sB sR srd sdp sst slw sct sfu ssc sbm smk r89_15 r109_19 hr109_19) sm_X7_isFilled mw_543 ⟨rfl, rfl, Nat.le_of_ble_eq_true rfl, Nat.le_of_ble_eq_true rfl⟩ hP hD hS 0 rfl rfl [0, 2] [1, 3, 4, 5, 6, 7, 8, 9] [8, 0, 9, 1, 2, 3, 4, 5, 6, 7] rfl rfl rfl (by decide) hl.1 rfl rfl (Nat.le_of_ble_eq_true rfl) dX7_goOn_109 ⟨Nat.le_of_ble_eq_true rfl, Nat.le_of_ble_eq_true rfl⟩ (fun H locs hP hD hS => ?_)
                refine lv_if_eq (tgt := 134) hx hb dX7_goOn_112 (by decide) (fun c_20 => ?_) (fun c_20 => ?_)
                · have hF := ifp hF c_20
                  exact hB134 _ _ _ hF hP hD hS (lv_sub hl [4, 5, 1, 0] rfl)
                · have hF := ifn hF c_20
                  refine lv_aload_n hx hb dX7_goOn_115 rfl (lv_at hl 4 rfl) ?_
                  refine lv_iload_n hx hb dX7_goOn_116 rfl (lv_at hl 3 rfl) ?_
                  refine lv_aload_n hx hb dX7_goOn_117 rfl (lv_at hl 4 rfl) ?_
                  refine hget hx hb hts hown hE fl_X7_16 hP 0 rfl rfl dX7_goOn_118 ?_
                  refine lv_iload hx hb dX7_goOn_121 (lv_at hl 0 rfl) ?_
                  obtain ⟨hi_21, hF⟩ := inb hF
                  refine hiald hx hb hE hP 2 rfl hi_21 dX7_goOn_123 ?_
                  refine lv_sipush (v := 1023) hx hb dX7_goOn_124 (by decide) ?_
                  refine lv_iand hx hb dX7_goOn_127 ?_
                  obtain ⟨r128_22, hr128_22, hF⟩ := bnd hF
                  refine hm_V (wn := [(so, .inr (6, [.ref sF, .ref sM, .int srd, .ref sP, .ref sS, .ref sL, .ref sT, .ref sB, .ref sR, .int sdp, .long sst, .int slw, .int sct, .int sfu, .int ssc, .int r128_22.1])), (sF, .inl (gJ G, 32768, .inr (.inl sfi))), (sM, .inl (gI G, 32768, .inl smk)), (sP, .inl (gJ G, 64, .inr (.inl spa))), (sS, .inl (gI G, 64, .inl ssl)), (sL, .inl (gI G, 64, .inl sli)), (sT, .inl (gI G, 64, .inl r128_22.2.1)), (sB, .inl (gI G, 64, .inl r128_22.2.2)), (sR, .inl (gI G, 1536, .inl sro)), (ru, .inr (5, [.int rb, .int rg, .int ro]))]) (wr := [(sF, .inl (gJ G, 32768, .inr (.inl sfi))), (sM, .inl (gI G, 32768, .inl smk)), (sP, .inl (gJ G, 64, .inr (.inl spa))), (sS, .inl (gI G, 64, .inl ssl)), (sL, .inl (gI G, 64, .inl sli)), (ru, .inr (5, [.int rb, .int rg, .int ro]))]) (rest := []) (sn := []) hx hb hml hown hts hE hA (k_X7_weigh G l so sF sM sP sS sL sT sB sR srd sdp sst slw sct sfu ssc sbm str sbe sro v2_1 ((smk (r89_15).toNatClampNeg) &&& 1023) r128_22 hr128_22) sm_X7_weigh mw_567 ⟨rfl, rfl, Nat.le_of_ble_eq_true rfl, Nat.le_of_ble_eq_true rfl⟩ hP hD hS 0 rfl rfl [0, 6, 7, 8] [1, 2, 3, 4, 5, 9] [6, 0, 1, 2, 3, 4, 7, 8, 9, 5] rfl rfl rfl (by decide) hl.1 rfl rfl (Nat.le_of_ble_eq_true rfl) dX7_goOn_128 ⟨Nat.le_of_ble_eq_true rfl, Nat.le_of_ble_eq_true rfl⟩ (fun H locs hP hD hS => ?_)
                  refine lv_goto (tgt := 143) hx hb dX7_goOn_131 (by decide) ?_
                  have hF := Option.some.inj hF
                  subst hF
                  exact hm_vret hx hb hr hlk hP hD hS hpost dX7_goOn_143
          · have hF := ifn hF c_11
            exact hB63 _ _ _ hF hP hD hS (lv_sub hl [2, 1] rfl)
    · have hF := ifn hF c_3
      exact hB17 _ _ _ hF hP hD hS (lv_sub hl [1] rfl)
def f_X7_goThrough_L84 (rb : Int32) (rg : Int32) (ro : Int32) : Nat → Int32 → Int32 → Int32 → Int64 → Int32 → Int32 → Int32 → Int32 → Int32 → (Nat → Int64) → (Nat → Int32) → (Nat → Int64) → (Nat → Int32) → (Nat → Int32) → (Nat → Int32) → (Nat → Int32) → (Nat → Int32) → Option (Int32 × Int32 × Int64 × Int32 × Int32 × Int32 × Int32 × Int32 × (Nat → Int64) × (Nat → Int32) × (Nat → Int64) × (Nat → Int32) × (Nat → Int32) × (Nat → Int32) × (Nat → Int32) × (Nat → Int32))
  | 0, _, _, _, _, _, _, _, _, _, _, _, _, _, _, _, _, _ => none
  | n+1, x4_5, srd_6, sdp_7, sst_8, slw_9, sct_10, sfu_11, ssc_12, sbm_13, sfi_14, smk_15, spa_16, ssl_17, sli_18, str_19, sbe_20, sro_21 =>
  if 1000000 ≤ x4_5 then some (srd_6, sdp_7, sst_8, slw_9, sct_10, sfu_11, ssc_12, sbm_13, sfi_14, smk_15, spa_16, ssl_17, sli_18, str_19, sbe_20, sro_21) else if sdp_7 ≤ 0 then some (srd_6, sdp_7, sst_8, slw_9, sct_10, sfu_11, ssc_12, sbm_13, sfi_14, smk_15, spa_16, ssl_17, sli_18, str_19, sbe_20, sro_21) else if sfu_11 = 0 then Option.bind (f_X7_goOn srd_6 sdp_7 sct_10 sfu_11 ssc_12 sbm_13 sfi_14 smk_15 spa_16 ssl_17 sli_18 str_19 sbe_20 sro_21 rb rg ro) (fun r107_25 => jlet (x4_5 + 1) (fun v4_26 => (f_X7_goThrough_L84 rb rg ro n) v4_26 srd_6 r107_25.1 sst_8 slw_9 r107_25.2.1 r107_25.2.2.1 r107_25.2.2.2.1 r107_25.2.2.2.2.1 r107_25.2.2.2.2.2.1 r107_25.2.2.2.2.2.2.1 r107_25.2.2.2.2.2.2.2.1 r107_25.2.2.2.2.2.2.2.2.1 r107_25.2.2.2.2.2.2.2.2.2.1 r107_25.2.2.2.2.2.2.2.2.2.2.1 r107_25.2.2.2.2.2.2.2.2.2.2.2.1 r107_25.2.2.2.2.2.2.2.2.2.2.2.2)) else some (srd_6, sdp_7, sst_8, slw_9, sct_10, sfu_11, ssc_12, sbm_13, sfi_14, smk_15, spa_16, ssl_17, sli_18, str_19, sbe_20, sro_21)
def f_X7_goThrough_B21 (srd : Int32) (sfi : (Nat → Int64)) (smk : (Nat → Int32)) (spa : (Nat → Int64)) (ssl : (Nat → Int32)) (sli : (Nat → Int32)) (str : (Nat → Int32)) (sbe : (Nat → Int32)) (sro : (Nat → Int32)) (rb : Int32) (rg : Int32) (ro : Int32) (st : Int64) : Option (Int32 × Int32 × Int64 × Int32 × Int32 × Int32 × Int32 × Int32 × (Nat → Int64) × (Nat → Int32) × (Nat → Int64) × (Nat → Int32) × (Nat → Int32) × (Nat → Int32) × (Nat → Int32) × (Nat → Int32)) :=
  jlet (f_X5_code rb rg ro) (fun u26_1 => jlet (srd + 1) (fun u41_2 => Option.bind (f_X7_slotOf u41_2 sfi smk st) (fun r75_3 => Option.bind (f_X7_open u41_2 0 0 0 sfi smk spa ssl sli str sbe sro rb rg ro st r75_3) (fun r78_4 => f_X7_goThrough_L84 rb rg ro 1000001 0 u41_2 r78_4.1 st u26_1 r78_4.2.1 r78_4.2.2.1 0 (-6) r78_4.2.2.2.1 r78_4.2.2.2.2.1 r78_4.2.2.2.2.2.1 r78_4.2.2.2.2.2.2.1 r78_4.2.2.2.2.2.2.2.1 r78_4.2.2.2.2.2.2.2.2.1 r78_4.2.2.2.2.2.2.2.2.2.1 r78_4.2.2.2.2.2.2.2.2.2.2))))
def f_X7_goThrough (srd : Int32) (sdp : Int32) (sst : Int64) (slw : Int32) (sct : Int32) (sfu : Int32) (ssc : Int32) (sbm : Int32) (sfi : (Nat → Int64)) (smk : (Nat → Int32)) (spa : (Nat → Int64)) (ssl : (Nat → Int32)) (sli : (Nat → Int32)) (str : (Nat → Int32)) (sbe : (Nat → Int32)) (sro : (Nat → Int32)) (rb : Int32) (rg : Int32) (ro : Int32) (st : Int64) : Option (Int32 × Int32 × Int64 × Int32 × Int32 × Int32 × Int32 × Int32 × (Nat → Int64) × (Nat → Int32) × (Nat → Int64) × (Nat → Int32) × (Nat → Int32) × (Nat → Int32) × (Nat → Int32) × (Nat → Int32)) :=
  if slw = (f_X5_code rb rg ro) then if (lg_cmp sst st) = 0 then some (srd, sdp, sst, slw, sct, sfu, ssc, sbm, sfi, smk, spa, ssl, sli, str, sbe, sro) else f_X7_goThrough_B21 srd sfi smk spa ssl sli str sbe sro rb rg ro st else f_X7_goThrough_B21 srd sfi smk spa ssl sli str sbe sro rb rg ro st
abbrev rm_X7_goThrough : Room := { frames := 6, cells := 0, slots := 0, locals := 155 }
set_option maxHeartbeats 4000000 in
set_option maxRecDepth 100000 in
theorem k_X7_goThrough (G : gT) (l : Launch) (so : Nat) (ru : Nat) (sF : Nat) (sM : Nat) (sP : Nat) (sS : Nat) (sL : Nat) (sT : Nat) (sB : Nat) (sR : Nat) (srd : Int32) (sdp : Int32) (sst : Int64) (slw : Int32) (sct : Int32) (sfu : Int32) (ssc : Int32) (sbm : Int32) (sfi : (Nat → Int64)) (smk : (Nat → Int32)) (spa : (Nat → Int64)) (ssl : (Nat → Int32)) (sli : (Nat → Int32)) (str : (Nat → Int32)) (sbe : (Nat → Int32)) (sro : (Nat → Int32)) (rb : Int32) (rg : Int32) (ro : Int32) (st : Int64) (r : Int32 × Int32 × Int64 × Int32 × Int32 × Int32 × Int32 × Int32 × (Nat → Int64) × (Nat → Int32) × (Nat → Int64) × (Nat → Int32) × (Nat → Int32) × (Nat → Int32) × (Nat → Int32) × (Nat → Int32)) (hF : f_X7_goThrough srd sdp sst slw sct sfu ssc sbm sfi smk spa ssl sli str sbe sro rb rg ro st = some r) : HM G l yX7_goThrough (.code yX7_goThrough cX7_goThrough 5 none :: UW) rm_X7_goThrough 0 0 [.ref so, .ref ru, .long st] [(so, .inr (6, [.ref sF, .ref sM, .int srd, .ref sP, .ref sS, .ref sL, .ref sT, .ref sB, .ref sR, .int sdp, .long sst, .int slw, .int sct, .int sfu, .int ssc, .int sbm])), (sF, .inl (gJ G, 32768, .inr (.inl sfi))), (sM, .inl (gI G, 32768, .inl smk)), (sP, .inl (gJ G, 64, .inr (.inl spa))), (sS, .inl (gI G, 64, .inl ssl)), (sL, .inl (gI G, 64, .inl sli)), (sT, .inl (gI G, 64, .inl str)), (sB, .inl (gI G, 64, .inl sbe)), (sR, .inl (gI G, 1536, .inl sro)), (ru, .inr (5, [.int rb, .int rg, .int ro]))] none [(so, .inr (6, [.ref sF, .ref sM, .int r.1, .ref sP, .ref sS, .ref sL, .ref sT, .ref sB, .ref sR, .int r.2.1, .long r.2.2.1, .int r.2.2.2.1, .int r.2.2.2.2.1, .int r.2.2.2.2.2.1, .int r.2.2.2.2.2.2.1, .int r.2.2.2.2.2.2.2.1])), (sF, .inl (gJ G, 32768, .inr (.inl r.2.2.2.2.2.2.2.2.1))), (sM, .inl (gI G, 32768, .inl r.2.2.2.2.2.2.2.2.2.1)), (sP, .inl (gJ G, 64, .inr (.inl r.2.2.2.2.2.2.2.2.2.2.1))), (sS, .inl (gI G, 64, .inl r.2.2.2.2.2.2.2.2.2.2.2.1)), (sL, .inl (gI G, 64, .inl r.2.2.2.2.2.2.2.2.2.2.2.2.1)), (sT, .inl (gI G, 64, .inl r.2.2.2.2.2.2.2.2.2.2.2.2.2.1)), (sB, .inl (gI G, 64, .inl r.2.2.2.2.2.2.2.2.2.2.2.2.2.2.1)), (sR, .inl (gI G, 1536, .inl r.2.2.2.2.2.2.2.2.2.2.2.2.2.2.2)), (ru, .inr (5, [.int rb, .int rg, .int ro]))] := by
  refine HM.ofW (by decide) (Nat.le_of_ble_eq_true rfl) ?_
  intro p e s m args below meth c A post hpost hC hP hD hS ls hl
  obtain ⟨hx, hb, hr, hml, hown, hts, hlk, hE, hA⟩ := hC
  have hl : lv_has ls 5 [(0, .ref so), (1, .ref ru), (2, .long st)] := hl
  unfold f_X7_goThrough at hF
  refine lv_aload_n hx hb dX7_goThrough_0 rfl (lv_at hl 0 rfl) ?_
  refine hget hx hb hts hown hE fl_X7_49 hP 0 rfl rfl dX7_goThrough_1 ?_
  refine lv_aload_n hx hb dX7_goThrough_4 rfl (lv_at hl 1 rfl) ?_
  refine hm_V (wn := [(so, .inr (6, [.ref sF, .ref sM, .int srd, .ref sP, .ref sS, .ref sL, .ref sT, .ref sB, .ref sR, .int sdp, .long sst, .int slw, .int sct, .int sfu, .int ssc, .int sbm])), (sF, .inl (gJ G, 32768, .inr (.inl sfi))), (sM, .inl (gI G, 32768, .inl smk)), (sP, .inl (gJ G, 64, .inr (.inl spa))), (sS, .inl (gI G, 64, .inl ssl)), (sL, .inl (gI G, 64, .inl sli)), (sT, .inl (gI G, 64, .inl str)), (sB, .inl (gI G, 64, .inl sbe)), (sR, .inl (gI G, 1536, .inl sro)), (ru, .inr (5, [.int rb, .int rg, .int ro]))]) (wr := [(so, .inr (6, [.ref sF, .ref sM, .int srd, .ref sP, .ref sS, .ref sL, .ref sT, .ref sB, .ref sR, .int sdp, .long sst, .int slw, .int sct, .int sfu, .int ssc, .int sbm])), (sF, .inl (gJ G, 32768, .inr (.inl sfi))), (sM, .inl (gI G, 32768, .inl smk)), (sP, .inl (gJ G, 64, .inr (.inl spa))), (sS, .inl (gI G, 64, .inl ssl)), (sL, .inl (gI G, 64, .inl sli)), (sT, .inl (gI G, 64, .inl str)), (sB, .inl (gI G, 64, .inl sbe)), (sR, .inl (gI G, 1536, .inl sro))]) (rest := [.int slw]) (sn := [.int (f_X5_code rb rg ro), .int slw]) hx hb hml hown hts hE hA (k_X5_code G l ru rb rg ro _ rfl) sm_X5_code mw_537 ⟨rfl, rfl, Nat.le_of_ble_eq_true rfl, Nat.le_of_ble_eq_true rfl⟩ hP hD hS 9 rfl rfl [9] [0, 1, 2, 3, 4, 5, 6, 7, 8] [0, 1, 2, 3, 4, 5, 6, 7, 8, 9] rfl rfl rfl (by decide) hl.1 rfl rfl (Nat.le_of_ble_eq_true rfl) dX7_goThrough_5 ⟨Nat.le_of_ble_eq_true rfl, Nat.le_of_ble_eq_true rfl⟩ (fun H locs hP hD hS => ?_)
  have hB21 : ∀ (H : Heap) (locs : List Loc) (ls : Array Slot), f_X7_goThrough_B21 srd sfi smk spa ssl sli str sbe sro rb rg ro st = some r → va_P (gD G) vwCl [(so, .inr (6, [.ref sF, .ref sM, .int srd, .ref sP, .ref sS, .ref sL, .ref sT, .ref sB, .ref sR, .int sdp, .long sst, .int slw, .int sct, .int sfu, .int ssc, .int sbm])), (sF, .inl (gJ G, 32768, .inr (.inl sfi))), (sM, .inl (gI G, 32768, .inl smk)), (sP, .inl (gJ G, 64, .inr (.inl spa))), (sS, .inl (gI G, 64, .inl ssl)), (sL, .inl (gI G, 64, .inl sli)), (sT, .inl (gI G, 64, .inl str)), (sB, .inl (gI G, 64, .inl sbe)), (sR, .inl (gI G, 1536, .inl sro)), (ru, .inr (5, [.int rb, .int rg, .int ro]))] H → va_D A [(so, .inr (6, [.ref sF, .ref sM, .int srd, .ref sP, .ref sS, .ref sL, .ref sT, .ref sB, .ref sR, .int sdp, .long sst, .int slw, .int sct, .int sfu, .int ssc, .int sbm])), (sF, .inl (gJ G, 32768, .inr (.inl sfi))), (sM, .inl (gI G, 32768, .inl smk)), (sP, .inl (gJ G, 64, .inr (.inl spa))), (sS, .inl (gI G, 64, .inl ssl)), (sL, .inl (gI G, 64, .inl sli)), (sT, .inl (gI G, 64, .inl str)), (sB, .inl (gI G, 64, .inl sbe)), (sR, .inl (gI G, 1536, .inl sro)), (ru, .inr (5, [.int rb, .int rg, .int ro]))] → va_S A s.heap H locs → lv_has ls 5 [(0, .ref so), (1, .ref ru), (2, .long st)] → W p l e rm_X7_goThrough s m args below meth c H locs 0 0 (MQ below (HXq G post A) args s 0 0 A) (F0 m 21 ls []) := by
    intro H locs ls hF hP hD hS hl
    unfold f_X7_goThrough_B21 at hF
    refine lv_aload_n hx hb dX7_goThrough_21 rfl (lv_at hl 0 rfl) ?_
    refine lv_aload_n hx hb dX7_goThrough_22 rfl (lv_at hl 1 rfl) ?_
    refine hm_V (wn := [(so, .inr (6, [.ref sF, .ref sM, .int srd, .ref sP, .ref sS, .ref sL, .ref sT, .ref sB, .ref sR, .int sdp, .long sst, .int slw, .int sct, .int sfu, .int ssc, .int sbm])), (sF, .inl (gJ G, 32768, .inr (.inl sfi))), (sM, .inl (gI G, 32768, .inl smk)), (sP, .inl (gJ G, 64, .inr (.inl spa))), (sS, .inl (gI G, 64, .inl ssl)), (sL, .inl (gI G, 64, .inl sli)), (sT, .inl (gI G, 64, .inl str)), (sB, .inl (gI G, 64, .inl sbe)), (sR, .inl (gI G, 1536, .inl sro)), (ru, .inr (5, [.int rb, .int rg, .int ro]))]) (wr := [(so, .inr (6, [.ref sF, .ref sM, .int srd, .ref sP, .ref sS, .ref sL, .ref sT, .ref sB, .ref sR, .int sdp, .long sst, .int slw, .int sct, .int sfu, .int ssc, .int sbm])), (sF, .inl (gJ G, 32768, .inr (.inl sfi))), (sM, .inl (gI G, 32768, .inl smk)), (sP, .inl (gJ G, 64, .inr (.inl spa))), (sS, .inl (gI G, 64, .inl ssl)), (sL, .inl (gI G, 64, .inl sli)), (sT, .inl (gI G, 64, .inl str)), (sB, .inl (gI G, 64, .inl sbe)), (sR, .inl (gI G, 1536, .inl sro))]) (rest := [.ref so]) (sn := [.int (f_X5_code rb rg ro), .ref so]) hx hb hml hown hts hE hA (k_X5_code G l ru rb rg ro _ rfl) sm_X5_code mw_537 ⟨rfl, rfl, Nat.le_of_ble_eq_true rfl, Nat.le_of_ble_eq_true rfl⟩ hP hD hS 9 rfl rfl [9] [0, 1, 2, 3, 4, 5, 6, 7, 8] [0, 1, 2, 3, 4, 5, 6, 7, 8, 9] rfl rfl rfl (by decide) hl.1 rfl rfl (Nat.le_of_ble_eq_true rfl) dX7_goThrough_23 ⟨Nat.le_of_ble_eq_true rfl, Nat.le_of_ble_eq_true rfl⟩ (fun H locs hP hD hS => ?_)
    refine lv_topi (fun u26_1 eu26_1 => ?_)
    have hF := jl hF eu26_1
    refine hput hx hb hts hown hE fl_X7_49 ft_X7_11 hP hD hS 0 rfl rfl rfl rfl (Nat.le_of_ble_eq_true rfl) (wn := [(so, .inr (6, [.ref sF, .ref sM, .int srd, .ref sP, .ref sS, .ref sL, .ref sT, .ref sB, .ref sR, .int sdp, .long sst, .int u26_1, .int sct, .int sfu, .int ssc, .int sbm])), (sF, .inl (gJ G, 32768, .inr (.inl sfi))), (sM, .inl (gI G, 32768, .inl smk)), (sP, .inl (gJ G, 64, .inr (.inl spa))), (sS, .inl (gI G, 64, .inl ssl)), (sL, .inl (gI G, 64, .inl sli)), (sT, .inl (gI G, 64, .inl str)), (sB, .inl (gI G, 64, .inl sbe)), (sR, .inl (gI G, 1536, .inl sro)), (ru, .inr (5, [.int rb, .int rg, .int ro]))]) rfl dX7_goThrough_26 (fun H locs hP hD hS => ?_)
    refine lv_aload_n hx hb dX7_goThrough_29 rfl (lv_at hl 0 rfl) ?_
    refine lv_lload_n hx hb dX7_goThrough_30 rfl (lv_at hl 2 rfl) ?_
    refine hput hx hb hts hown hE fl_X7_45 ft_X7_10 hP hD hS 0 rfl rfl rfl rfl (Nat.le_of_ble_eq_true rfl) (wn := [(so, .inr (6, [.ref sF, .ref sM, .int srd, .ref sP, .ref sS, .ref sL, .ref sT, .ref sB, .ref sR, .int sdp, .long st, .int u26_1, .int sct, .int sfu, .int ssc, .int sbm])), (sF, .inl (gJ G, 32768, .inr (.inl sfi))), (sM, .inl (gI G, 32768, .inl smk)), (sP, .inl (gJ G, 64, .inr (.inl spa))), (sS, .inl (gI G, 64, .inl ssl)), (sL, .inl (gI G, 64, .inl sli)), (sT, .inl (gI G, 64, .inl str)), (sB, .inl (gI G, 64, .inl sbe)), (sR, .inl (gI G, 1536, .inl sro)), (ru, .inr (5, [.int rb, .int rg, .int ro]))]) rfl dX7_goThrough_31 (fun H locs hP hD hS => ?_)
    refine lv_aload_n hx hb dX7_goThrough_34 rfl (lv_at hl 0 rfl) ?_
    refine lv_dup hx hb dX7_goThrough_35 rfl ?_
    refine hget hx hb hts hown hE fl_X7_20 hP 0 rfl rfl dX7_goThrough_36 ?_
    refine lv_iconst (v := 1) hx hb dX7_goThrough_39 (by decide) ?_
    refine lv_iadd hx hb dX7_goThrough_40 ?_
    refine lv_topi (fun u41_2 eu41_2 => ?_)
    have hF := jl hF eu41_2
    refine hput hx hb hts hown hE fl_X7_20 ft_X7_2 hP hD hS 0 rfl rfl rfl rfl (Nat.le_of_ble_eq_true rfl) (wn := [(so, .inr (6, [.ref sF, .ref sM, .int u41_2, .ref sP, .ref sS, .ref sL, .ref sT, .ref sB, .ref sR, .int sdp, .long st, .int u26_1, .int sct, .int sfu, .int ssc, .int sbm])), (sF, .inl (gJ G, 32768, .inr (.inl sfi))), (sM, .inl (gI G, 32768, .inl smk)), (sP, .inl (gJ G, 64, .inr (.inl spa))), (sS, .inl (gI G, 64, .inl ssl)), (sL, .inl (gI G, 64, .inl sli)), (sT, .inl (gI G, 64, .inl str)), (sB, .inl (gI G, 64, .inl sbe)), (sR, .inl (gI G, 1536, .inl sro)), (ru, .inr (5, [.int rb, .int rg, .int ro]))]) rfl dX7_goThrough_41 (fun H locs hP hD hS => ?_)
    refine lv_aload_n hx hb dX7_goThrough_44 rfl (lv_at hl 0 rfl) ?_
    refine lv_iconst (v := 0) hx hb dX7_goThrough_45 (by decide) ?_
    refine hput hx hb hts hown hE fl_X7_42 ft_X7_9 hP hD hS 0 rfl rfl rfl rfl (Nat.le_of_ble_eq_true rfl) (wn := [(so, .inr (6, [.ref sF, .ref sM, .int u41_2, .ref sP, .ref sS, .ref sL, .ref sT, .ref sB, .ref sR, .int 0, .long st, .int u26_1, .int sct, .int sfu, .int ssc, .int sbm])), (sF, .inl (gJ G, 32768, .inr (.inl sfi))), (sM, .inl (gI G, 32768, .inl smk)), (sP, .inl (gJ G, 64, .inr (.inl spa))), (sS, .inl (gI G, 64, .inl ssl)), (sL, .inl (gI G, 64, .inl sli)), (sT, .inl (gI G, 64, .inl str)), (sB, .inl (gI G, 64, .inl sbe)), (sR, .inl (gI G, 1536, .inl sro)), (ru, .inr (5, [.int rb, .int rg, .int ro]))]) rfl dX7_goThrough_46 (fun H locs hP hD hS => ?_)
    refine lv_aload_n hx hb dX7_goThrough_49 rfl (lv_at hl 0 rfl) ?_
    refine lv_iconst (v := 0) hx hb dX7_goThrough_50 (by decide) ?_
    refine hput hx hb hts hown hE fl_X7_52 ft_X7_12 hP hD hS 0 rfl rfl rfl rfl (Nat.le_of_ble_eq_true rfl) (wn := [(so, .inr (6, [.ref sF, .ref sM, .int u41_2, .ref sP, .ref sS, .ref sL, .ref sT, .ref sB, .ref sR, .int 0, .long st, .int u26_1, .int 0, .int sfu, .int ssc, .int sbm])), (sF, .inl (gJ G, 32768, .inr (.inl sfi))), (sM, .inl (gI G, 32768, .inl smk)), (sP, .inl (gJ G, 64, .inr (.inl spa))), (sS, .inl (gI G, 64, .inl ssl)), (sL, .inl (gI G, 64, .inl sli)), (sT, .inl (gI G, 64, .inl str)), (sB, .inl (gI G, 64, .inl sbe)), (sR, .inl (gI G, 1536, .inl sro)), (ru, .inr (5, [.int rb, .int rg, .int ro]))]) rfl dX7_goThrough_51 (fun H locs hP hD hS => ?_)
    refine lv_aload_n hx hb dX7_goThrough_54 rfl (lv_at hl 0 rfl) ?_
    refine lv_iconst (v := 0) hx hb dX7_goThrough_55 (by decide) ?_
    refine hput hx hb hts hown hE fl_X7_55 ft_X7_13 hP hD hS 0 rfl rfl (by decide +kernel) (by decide +kernel) (Nat.le_of_ble_eq_true rfl) (wn := [(so, .inr (6, [.ref sF, .ref sM, .int u41_2, .ref sP, .ref sS, .ref sL, .ref sT, .ref sB, .ref sR, .int 0, .long st, .int u26_1, .int 0, .int 0, .int ssc, .int sbm])), (sF, .inl (gJ G, 32768, .inr (.inl sfi))), (sM, .inl (gI G, 32768, .inl smk)), (sP, .inl (gJ G, 64, .inr (.inl spa))), (sS, .inl (gI G, 64, .inl ssl)), (sL, .inl (gI G, 64, .inl sli)), (sT, .inl (gI G, 64, .inl str)), (sB, .inl (gI G, 64, .inl sbe)), (sR, .inl (gI G, 1536, .inl sro)), (ru, .inr (5, [.int rb, .int rg, .int ro]))]) rfl dX7_goThrough_56 (fun H locs hP hD hS => ?_)
    refine lv_aload_n hx hb dX7_goThrough_59 rfl (lv_at hl 0 rfl) ?_
    refine lv_iconst (v := 0) hx hb dX7_goThrough_60 (by decide) ?_
    refine hput hx hb hts hown hE fl_X7_59 ft_X7_14 hP hD hS 0 rfl rfl rfl rfl (Nat.le_of_ble_eq_true rfl) (wn := [(so, .inr (6, [.ref sF, .ref sM, .int u41_2, .ref sP, .ref sS, .ref sL, .ref sT, .ref sB, .ref sR, .int 0, .long st, .int u26_1, .int 0, .int 0, .int 0, .int sbm])), (sF, .inl (gJ G, 32768, .inr (.inl sfi))), (sM, .inl (gI G, 32768, .inl smk)), (sP, .inl (gJ G, 64, .inr (.inl spa))), (sS, .inl (gI G, 64, .inl ssl)), (sL, .inl (gI G, 64, .inl sli)), (sT, .inl (gI G, 64, .inl str)), (sB, .inl (gI G, 64, .inl sbe)), (sR, .inl (gI G, 1536, .inl sro)), (ru, .inr (5, [.int rb, .int rg, .int ro]))]) rfl dX7_goThrough_61 (fun H locs hP hD hS => ?_)
    refine lv_aload_n hx hb dX7_goThrough_64 rfl (lv_at hl 0 rfl) ?_
    refine lv_bipush (v := (-6)) hx hb dX7_goThrough_65 (by decide) ?_
    refine hput hx hb hts hown hE fl_X7_62 ft_X7_15 hP hD hS 0 rfl rfl rfl rfl (Nat.le_of_ble_eq_true rfl) (wn := [(so, .inr (6, [.ref sF, .ref sM, .int u41_2, .ref sP, .ref sS, .ref sL, .ref sT, .ref sB, .ref sR, .int 0, .long st, .int u26_1, .int 0, .int 0, .int 0, .int (-6)])), (sF, .inl (gJ G, 32768, .inr (.inl sfi))), (sM, .inl (gI G, 32768, .inl smk)), (sP, .inl (gJ G, 64, .inr (.inl spa))), (sS, .inl (gI G, 64, .inl ssl)), (sL, .inl (gI G, 64, .inl sli)), (sT, .inl (gI G, 64, .inl str)), (sB, .inl (gI G, 64, .inl sbe)), (sR, .inl (gI G, 1536, .inl sro)), (ru, .inr (5, [.int rb, .int rg, .int ro]))]) rfl dX7_goThrough_67 (fun H locs hP hD hS => ?_)
    refine lv_aload_n hx hb dX7_goThrough_70 rfl (lv_at hl 0 rfl) ?_
    refine lv_aload_n hx hb dX7_goThrough_71 rfl (lv_at hl 1 rfl) ?_
    refine lv_lload_n hx hb dX7_goThrough_72 rfl (lv_at hl 2 rfl) ?_
    refine lv_aload_n hx hb dX7_goThrough_73 rfl (lv_at hl 0 rfl) ?_
    refine lv_lload_n hx hb dX7_goThrough_74 rfl (lv_at hl 2 rfl) ?_
    obtain ⟨r75_3, hr75_3, hF⟩ := bnd hF
    refine hm_V (wn := [(so, .inr (6, [.ref sF, .ref sM, .int u41_2, .ref sP, .ref sS, .ref sL, .ref sT, .ref sB, .ref sR, .int 0, .long st, .int u26_1, .int 0, .int 0, .int 0, .int (-6)])), (sF, .inl (gJ G, 32768, .inr (.inl sfi))), (sM, .inl (gI G, 32768, .inl smk)), (sP, .inl (gJ G, 64, .inr (.inl spa))), (sS, .inl (gI G, 64, .inl ssl)), (sL, .inl (gI G, 64, .inl sli)), (sT, .inl (gI G, 64, .inl str)), (sB, .inl (gI G, 64, .inl sbe)), (sR, .inl (gI G, 1536, .inl sro)), (ru, .inr (5, [.int rb, .int rg, .int ro]))]) (wr := [(sP, .inl (gJ G, 64, .inr (.inl spa))), (sS, .inl (gI G, 64, .inl ssl)), (sL, .inl (gI G, 64, .inl sli)), (sT, .inl (gI G, 64, .inl str)), (sB, .inl (gI G, 64, .inl sbe)), (sR, .inl (gI G, 1536, .inl sro)), (ru, .inr (5, [.int rb, .int rg, .int ro]))]) (rest := [.long st, .ref ru, .ref so]) (sn := [.int r75_3, .long st, .ref ru, .ref so]) hx hb hml hown hts hE hA (k_X7_slotOf G l so sF sM sP sS sL sT sB sR u41_2 0 st u26_1 0 0 0 (-6) sfi smk st r75_3 hr75_3) sm_X7_slotOf mw_538 ⟨rfl, rfl, Nat.le_of_ble_eq_true rfl, Nat.le_of_ble_eq_true rfl⟩ hP hD hS 0 rfl rfl [0, 1, 2] [3, 4, 5, 6, 7, 8, 9] [7, 8, 9, 0, 1, 2, 3, 4, 5, 6] rfl rfl rfl (by decide) hl.1 rfl rfl (Nat.le_of_ble_eq_true rfl) dX7_goThrough_75 ⟨Nat.le_of_ble_eq_true rfl, Nat.le_of_ble_eq_true rfl⟩ (fun H locs hP hD hS => ?_)
    obtain ⟨r78_4, hr78_4, hF⟩ := bnd hF
    refine hm_V (wn := [(so, .inr (6, [.ref sF, .ref sM, .int u41_2, .ref sP, .ref sS, .ref sL, .ref sT, .ref sB, .ref sR, .int r78_4.1, .long st, .int u26_1, .int r78_4.2.1, .int r78_4.2.2.1, .int 0, .int (-6)])), (sF, .inl (gJ G, 32768, .inr (.inl r78_4.2.2.2.1))), (sM, .inl (gI G, 32768, .inl r78_4.2.2.2.2.1)), (sP, .inl (gJ G, 64, .inr (.inl r78_4.2.2.2.2.2.1))), (sS, .inl (gI G, 64, .inl r78_4.2.2.2.2.2.2.1)), (sL, .inl (gI G, 64, .inl r78_4.2.2.2.2.2.2.2.1)), (sT, .inl (gI G, 64, .inl r78_4.2.2.2.2.2.2.2.2.1)), (sB, .inl (gI G, 64, .inl r78_4.2.2.2.2.2.2.2.2.2.1)), (sR, .inl (gI G, 1536, .inl r78_4.2.2.2.2.2.2.2.2.2.2)), (ru, .inr (5, [.int rb, .int rg, .int ro]))]) (wr := []) (rest := []) (sn := []) hx hb hml hown hts hE hA (k_X7_open G l so ru sF sM sP sS sL sT sB sR u41_2 0 st u26_1 0 0 0 (-6) sfi smk spa ssl sli str sbe sro rb rg ro st r75_3 r78_4 hr78_4) sm_X7_open mw_547 ⟨rfl, rfl, Nat.le_of_ble_eq_true rfl, Nat.le_of_ble_eq_true rfl⟩ hP hD hS 0 rfl rfl [0, 1, 2, 3, 4, 5, 6, 7, 8, 9] [] [0, 1, 2, 3, 4, 5, 6, 7, 8, 9] rfl rfl rfl (by decide) hl.1 rfl rfl (Nat.le_of_ble_eq_true rfl) dX7_goThrough_78 ⟨Nat.le_of_ble_eq_true rfl, Nat.le_of_ble_eq_true rfl⟩ (fun H locs hP hD hS => ?_)
    refine lv_iconst (v := 0) hx hb dX7_goThrough_81 (by decide) ?_
    refine lv_istore (lv' := [(4, .int 0), (0, .ref so), (1, .ref ru), (2, .long st)]) hx hb dX7_goThrough_82 hl (by decide) rfl (fun ls hl => ?_)
    have hL84 : ∀ (n84 : Nat) (x4_5 : Int32) (srd_6 : Int32) (sdp_7 : Int32) (sst_8 : Int64) (slw_9 : Int32) (sct_10 : Int32) (sfu_11 : Int32) (ssc_12 : Int32) (sbm_13 : Int32) (sfi_14 : (Nat → Int64)) (smk_15 : (Nat → Int32)) (spa_16 : (Nat → Int64)) (ssl_17 : (Nat → Int32)) (sli_18 : (Nat → Int32)) (str_19 : (Nat → Int32)) (sbe_20 : (Nat → Int32)) (sro_21 : (Nat → Int32)) (H : Heap) (locs : List Loc) (ls : Array Slot), f_X7_goThrough_L84 rb rg ro n84 x4_5 srd_6 sdp_7 sst_8 slw_9 sct_10 sfu_11 ssc_12 sbm_13 sfi_14 smk_15 spa_16 ssl_17 sli_18 str_19 sbe_20 sro_21 = some r → va_P (gD G) vwCl [(so, .inr (6, [.ref sF, .ref sM, .int srd_6, .ref sP, .ref sS, .ref sL, .ref sT, .ref sB, .ref sR, .int sdp_7, .long sst_8, .int slw_9, .int sct_10, .int sfu_11, .int ssc_12, .int sbm_13])), (sF, .inl (gJ G, 32768, .inr (.inl sfi_14))), (sM, .inl (gI G, 32768, .inl smk_15)), (sP, .inl (gJ G, 64, .inr (.inl spa_16))), (sS, .inl (gI G, 64, .inl ssl_17)), (sL, .inl (gI G, 64, .inl sli_18)), (sT, .inl (gI G, 64, .inl str_19)), (sB, .inl (gI G, 64, .inl sbe_20)), (sR, .inl (gI G, 1536, .inl sro_21)), (ru, .inr (5, [.int rb, .int rg, .int ro]))] H → va_D A [(so, .inr (6, [.ref sF, .ref sM, .int srd_6, .ref sP, .ref sS, .ref sL, .ref sT, .ref sB, .ref sR, .int sdp_7, .long sst_8, .int slw_9, .int sct_10, .int sfu_11, .int ssc_12, .int sbm_13])), (sF, .inl (gJ G, 32768, .inr (.inl sfi_14))), (sM, .inl (gI G, 32768, .inl smk_15)), (sP, .inl (gJ G, 64, .inr (.inl spa_16))), (sS, .inl (gI G, 64, .inl ssl_17)), (sL, .inl (gI G, 64, .inl sli_18)), (sT, .inl (gI G, 64, .inl str_19)), (sB, .inl (gI G, 64, .inl sbe_20)), (sR, .inl (gI G, 1536, .inl sro_21)), (ru, .inr (5, [.int rb, .int rg, .int ro]))] → va_S A s.heap H locs → lv_has ls 5 [(0, .ref so), (1, .ref ru), (4, .int x4_5)] → W p l e rm_X7_goThrough s m args below meth c H locs 0 0 (MQ below (HXq G post A) args s 0 0 A) (F0 m 84 ls []) := by
      intro n84
      induction n84 with
      | zero =>
        intro x4_5 srd_6 sdp_7 sst_8 slw_9 sct_10 sfu_11 ssc_12 sbm_13 sfi_14 smk_15 spa_16 ssl_17 sli_18 str_19 sbe_20 sro_21 H locs ls hF
        exact absurd hF (fun h => by cases h)
      | succ n84 ih84 =>
        intro x4_5 srd_6 sdp_7 sst_8 slw_9 sct_10 sfu_11 ssc_12 sbm_13 sfi_14 smk_15 spa_16 ssl_17 sli_18 str_19 sbe_20 sro_21 H locs ls hF hP hD hS hl
        unfold f_X7_goThrough_L84 at hF
        refine lv_iload hx hb dX7_goThrough_84 (lv_at hl 2 rfl) ?_
        refine lv_ldc (v := 1000000) hx hb hown (hts _ (List.mem_cons_of_mem _ mw_558)) dX7_goThrough_86 ?_
        refine lv_icmp_ge (tgt := 116) hx hb dX7_goThrough_88 (by decide) (fun c_22 => ?_) (fun c_22 => ?_)
        · have hF := ifp hF c_22
          have hF := Option.some.inj hF
          subst hF
          exact hm_vret hx hb hr hlk hP hD hS hpost dX7_goThrough_116
        · have hF := ifn hF c_22
          refine lv_aload_n hx hb dX7_goThrough_91 rfl (lv_at hl 0 rfl) ?_
          refine hget hx hb hts hown hE fl_X7_42 hP 0 rfl rfl dX7_goThrough_92 ?_
          refine lv_if_le (tgt := 116) hx hb dX7_goThrough_95 (by decide) (fun c_23 => ?_) (fun c_23 => ?_)
          · have hF := ifp hF c_23
            have hF := Option.some.inj hF
            subst hF
            exact hm_vret hx hb hr hlk hP hD hS hpost dX7_goThrough_116
          · have hF := ifn hF c_23
            refine lv_aload_n hx hb dX7_goThrough_98 rfl (lv_at hl 0 rfl) ?_
            refine hget hx hb hts hown hE fl_X7_55 hP 0 rfl rfl dX7_goThrough_99 ?_
            refine lv_if_ne (tgt := 116) hx hb dX7_goThrough_102 (by decide) (fun c_24 => ?_) (fun c_24 => ?_)
            · have hF := ifn hF c_24
              have hF := Option.some.inj hF
              subst hF
              exact hm_vret hx hb hr hlk hP hD hS hpost dX7_goThrough_116
            · have hF := ifp hF c_24
              refine lv_aload_n hx hb dX7_goThrough_105 rfl (lv_at hl 0 rfl) ?_
              refine lv_aload_n hx hb dX7_goThrough_106 rfl (lv_at hl 1 rfl) ?_
              obtain ⟨r107_25, hr107_25, hF⟩ := bnd hF
              refine hm_V (wn := [(so, .inr (6, [.ref sF, .ref sM, .int srd_6, .ref sP, .ref sS, .ref sL, .ref sT, .ref sB, .ref sR, .int r107_25.1, .long sst_8, .int slw_9, .int r107_25.2.1, .int r107_25.2.2.1, .int r107_25.2.2.2.1, .int r107_25.2.2.2.2.1])), (sF, .inl (gJ G, 32768, .inr (.inl r107_25.2.2.2.2.2.1))), (sM, .inl (gI G, 32768, .inl r107_25.2.2.2.2.2.2.1)), (sP, .inl (gJ G, 64, .inr (.inl r107_25.2.2.2.2.2.2.2.1))), (sS, .inl (gI G, 64, .inl r107_25.2.2.2.2.2.2.2.2.1)), (sL, .inl (gI G, 64, .inl r107_25.2.2.2.2.2.2.2.2.2.1)), (sT, .inl (gI G, 64, .inl r107_25.2.2.2.2.2.2.2.2.2.2.1)), (sB, .inl (gI G, 64, .inl r107_25.2.2.2.2.2.2.2.2.2.2.2.1)), (sR, .inl (gI G, 1536, .inl r107_25.2.2.2.2.2.2.2.2.2.2.2.2)), (ru, .inr (5, [.int rb, .int rg, .int ro]))]) (wr := []) (rest := []) (sn := []) hx hb hml hown hts hE hA (k_X7_goOn G l so ru sF sM sP sS sL sT sB sR srd_6 sdp_7 sst_8 slw_9 sct_10 sfu_11 ssc_12 sbm_13 sfi_14 smk_15 spa_16 ssl_17 sli_18 str_19 sbe_20 sro_21 rb rg ro r107_25 hr107_25) sm_X7_goOn mw_559 ⟨rfl, rfl, Nat.le_of_ble_eq_true rfl, Nat.le_of_ble_eq_true rfl⟩ hP hD hS 0 rfl rfl [0, 1, 2, 3, 4, 5, 6, 7, 8, 9] [] [0, 1, 2, 3, 4, 5, 6, 7, 8, 9] rfl rfl rfl (by decide) hl.1 rfl rfl (Nat.le_of_ble_eq_true rfl) dX7_goThrough_107 ⟨Nat.le_of_ble_eq_true rfl, Nat.le_of_ble_eq_true rfl⟩ (fun H locs hP hD hS => ?_)
              obtain ⟨v4_26, ev4_26⟩ : ∃ z : Int32, z = x4_5 + 1 := ⟨_, rfl⟩
              have hF := jl hF ev4_26
              refine lv_iinc (v := v4_26) (lv' := [(4, .int v4_26), (0, .ref so), (1, .ref ru)]) hx hb dX7_goThrough_110 hl (k := 2) rfl (by rw [ev4_26]; rfl) (by decide) rfl (fun ls hl => ?_)
              refine lv_goto (tgt := 84) hx hb dX7_goThrough_113 (by decide) ?_
              exact ih84 v4_26 srd_6 r107_25.1 sst_8 slw_9 r107_25.2.1 r107_25.2.2.1 r107_25.2.2.2.1 r107_25.2.2.2.2.1 r107_25.2.2.2.2.2.1 r107_25.2.2.2.2.2.2.1 r107_25.2.2.2.2.2.2.2.1 r107_25.2.2.2.2.2.2.2.2.1 r107_25.2.2.2.2.2.2.2.2.2.1 r107_25.2.2.2.2.2.2.2.2.2.2.1 r107_25.2.2.2.2.2.2.2.2.2.2.2.1 r107_25.2.2.2.2.2.2.2.2.2.2.2.2 _ _ _ hF hP hD hS (lv_sub hl [1, 2, 0] rfl)
    exact hL84 _ 0 u41_2 r78_4.1 st u26_1 r78_4.2.1 r78_4.2.2.1 0 (-6) r78_4.2.2.2.1 r78_4.2.2.2.2.1 r78_4.2.2.2.2.2.1 r78_4.2.2.2.2.2.2.1 r78_4.2.2.2.2.2.2.2.1 r78_4.2.2.2.2.2.2.2.2.1 r78_4.2.2.2.2.2.2.2.2.2.1 r78_4.2.2.2.2.2.2.2.2.2.2 _ _ _ hF hP hD hS (lv_sub hl [1, 2, 0] rfl)
  refine lv_icmp_ne (tgt := 21) hx hb dX7_goThrough_8 (by decide) (fun c_27 => ?_) (fun c_27 => ?_)
  · have hF := ifn hF c_27
    exact hB21 _ _ _ hF hP hD hS (lv_sub hl [0, 1, 2] rfl)
  · have hF := ifp hF c_27
    refine lv_aload_n hx hb dX7_goThrough_11 rfl (lv_at hl 0 rfl) ?_
    refine hget hx hb hts hown hE fl_X7_45 hP 0 rfl rfl dX7_goThrough_12 ?_
    refine lv_lload_n hx hb dX7_goThrough_15 rfl (lv_at hl 2 rfl) ?_
    refine W.lcmp hx hb dX7_goThrough_16 ?_
    refine lv_if_ne (tgt := 21) hx hb dX7_goThrough_17 (by decide) (fun c_28 => ?_) (fun c_28 => ?_)
    · have hF := ifn hF c_28
      exact hB21 _ _ _ hF hP hD hS (lv_sub hl [0, 1, 2] rfl)
    · have hF := ifp hF c_28
      have hF := Option.some.inj hF
      subst hF
      exact hm_vret hx hb hr hlk hP hD hS hpost dX7_goThrough_20
