def f_X10_in (va : Int64) (lo : Int64) (hi : Int64) : Int32 :=
  if (lg_cmp va lo) < 0 then 0 else if 0 < (lg_cmp va hi) then 0 else 1
abbrev rm_X10_in : Room := { frames := 0, cells := 0, slots := 0, locals := 0 }
set_option maxHeartbeats 4000000 in
set_option maxRecDepth 100000 in
theorem k_X10_in (G : gT) (l : Launch) (va : Int64) (lo : Int64) (hi : Int64) (r : Int32) (hF : f_X10_in va lo hi = r) : HM G l yX10_in (.code yX10_in cX10_in 6 (some .boolean) :: UW) rm_X10_in 0 0 [.long va, .long lo, .long hi] [] (some (.int r)) [] := by
  refine HM.ofW (by decide) (Nat.le_of_ble_eq_true rfl) ?_
  intro p e s m args below meth c A post hpost hC hP hD hS ls hl
  obtain ⟨hx, hb, hr, hml, hown, hts, hlk, hE, hA⟩ := hC
  have hl : lv_has ls 6 [(0, .long va), (2, .long lo), (4, .long hi)] := hl
  unfold f_X10_in at hF
  refine lv_lload_n hx hb dX10_in_0 rfl (lv_at hl 0 rfl) ?_
  refine lv_lload_n hx hb dX10_in_1 rfl (lv_at hl 1 rfl) ?_
  refine W.lcmp hx hb dX10_in_2 ?_
  refine lv_if_lt (tgt := 17) hx hb dX10_in_3 (by decide) (fun c_1 => ?_) (fun c_1 => ?_)
  · have hF := ifp hF c_1
    refine lv_iconst (v := 0) hx hb dX10_in_17 (by decide) ?_
    subst hF
    exact hm_zret hx hb hr hlk hP hD hS (by decide +kernel) hpost dX10_in_18
  · have hF := ifn hF c_1
    refine lv_lload_n hx hb dX10_in_6 rfl (lv_at hl 0 rfl) ?_
    refine lv_lload hx hb dX10_in_7 (lv_at hl 2 rfl) ?_
    refine W.lcmp hx hb dX10_in_9 ?_
    refine lv_if_gt (tgt := 17) hx hb dX10_in_10 (by decide) (fun c_2 => ?_) (fun c_2 => ?_)
    · have hF := ifp hF c_2
      refine lv_iconst (v := 0) hx hb dX10_in_17 (by decide) ?_
      subst hF
      exact hm_zret hx hb hr hlk hP hD hS (by decide +kernel) hpost dX10_in_18
    · have hF := ifn hF c_2
      refine lv_iconst (v := 1) hx hb dX10_in_13 (by decide) ?_
      refine lv_goto (tgt := 18) hx hb dX10_in_14 (by decide) ?_
      subst hF
      exact hm_zret hx hb hr hlk hP hD hS (by decide +kernel) hpost dX10_in_18
theorem z_X10_in (va : Int64) (lo : Int64) (hi : Int64) : narrow .boolean (.int (f_X10_in va lo hi)) = .int (f_X10_in va lo hi) := by unfold f_X10_in; repeat' (first | rfl | split)
def f_X10_size (va : Int32) : Int32 :=
  if 0 ≤ va then va else (-va)
abbrev rm_X10_size : Room := { frames := 0, cells := 0, slots := 0, locals := 0 }
set_option maxHeartbeats 4000000 in
set_option maxRecDepth 100000 in
theorem k_X10_size (G : gT) (l : Launch) (va : Int32) (r : Int32) (hF : f_X10_size va = r) : HM G l yX10_size (.code yX10_size cX10_size 1 (some .int) :: UW) rm_X10_size 0 0 [.int va] [] (some (.int r)) [] := by
  refine HM.ofW (by decide) (Nat.le_of_ble_eq_true rfl) ?_
  intro p e s m args below meth c A post hpost hC hP hD hS ls hl
  obtain ⟨hx, hb, hr, hml, hown, hts, hlk, hE, hA⟩ := hC
  have hl : lv_has ls 1 [(0, .int va)] := hl
  unfold f_X10_size at hF
  refine lv_iload_n hx hb dX10_size_0 rfl (lv_at hl 0 rfl) ?_
  refine lv_if_ge (tgt := 9) hx hb dX10_size_1 (by decide) (fun c_1 => ?_) (fun c_1 => ?_)
  · have hF := ifp hF c_1
    refine lv_iload_n hx hb dX10_size_9 rfl (lv_at hl 0 rfl) ?_
    subst hF
    exact hm_iret hx hb hr hlk hP hD hS hpost dX10_size_10
  · have hF := ifn hF c_1
    refine lv_iload_n hx hb dX10_size_4 rfl (lv_at hl 0 rfl) ?_
    refine lv_ineg hx hb dX10_size_5 ?_
    refine lv_goto (tgt := 10) hx hb dX10_size_6 (by decide) ?_
    subst hF
    exact hm_iret hx hb hr hlk hP hD hS hpost dX10_size_10
def f_X10_cellOf (st : Int64) (mn : Int32) : Int32 :=
  (((jlshr st (9 * mn)).toInt32) &&& 31)
abbrev rm_X10_cellOf : Room := { frames := 0, cells := 0, slots := 0, locals := 0 }
set_option maxHeartbeats 4000000 in
set_option maxRecDepth 100000 in
theorem k_X10_cellOf (G : gT) (l : Launch) (st : Int64) (mn : Int32) (r : Int32) (hF : f_X10_cellOf st mn = r) : HM G l yX10_cellOf (.code yX10_cellOf cX10_cellOf 3 (some .int) :: UW) rm_X10_cellOf 0 0 [.long st, .int mn] [] (some (.int r)) [] := by
  refine HM.ofW (by decide) (Nat.le_of_ble_eq_true rfl) ?_
  intro p e s m args below meth c A post hpost hC hP hD hS ls hl
  obtain ⟨hx, hb, hr, hml, hown, hts, hlk, hE, hA⟩ := hC
  have hl : lv_has ls 3 [(0, .long st), (2, .int mn)] := hl
  unfold f_X10_cellOf at hF
  refine lv_lload_n hx hb dX10_cellOf_0 rfl (lv_at hl 0 rfl) ?_
  refine lv_bipush (v := 9) hx hb dX10_cellOf_1 (by decide) ?_
  refine lv_iload_n hx hb dX10_cellOf_3 rfl (lv_at hl 1 rfl) ?_
  refine lv_imul hx hb dX10_cellOf_4 ?_
  refine lv_lshr (v := (jlshr st (9 * mn))) hx hb dX10_cellOf_5 rfl ?_
  refine lv_l2i (v := ((jlshr st (9 * mn)).toInt32)) hx hb dX10_cellOf_6 rfl ?_
  refine lv_bipush (v := 31) hx hb dX10_cellOf_7 (by decide) ?_
  refine lv_iand hx hb dX10_cellOf_9 ?_
  subst hF
  exact hm_iret hx hb hr hlk hP hD hS hpost dX10_cellOf_10
def f_X10_ageOf (st : Int64) (mn : Int32) : Int32 :=
  (((jlshr st ((9 * mn) + 5)).toInt32) &&& 15)
abbrev rm_X10_ageOf : Room := { frames := 0, cells := 0, slots := 0, locals := 0 }
set_option maxHeartbeats 4000000 in
set_option maxRecDepth 100000 in
theorem k_X10_ageOf (G : gT) (l : Launch) (st : Int64) (mn : Int32) (r : Int32) (hF : f_X10_ageOf st mn = r) : HM G l yX10_ageOf (.code yX10_ageOf cX10_ageOf 3 (some .int) :: UW) rm_X10_ageOf 0 0 [.long st, .int mn] [] (some (.int r)) [] := by
  refine HM.ofW (by decide) (Nat.le_of_ble_eq_true rfl) ?_
  intro p e s m args below meth c A post hpost hC hP hD hS ls hl
  obtain ⟨hx, hb, hr, hml, hown, hts, hlk, hE, hA⟩ := hC
  have hl : lv_has ls 3 [(0, .long st), (2, .int mn)] := hl
  unfold f_X10_ageOf at hF
  refine lv_lload_n hx hb dX10_ageOf_0 rfl (lv_at hl 0 rfl) ?_
  refine lv_bipush (v := 9) hx hb dX10_ageOf_1 (by decide) ?_
  refine lv_iload_n hx hb dX10_ageOf_3 rfl (lv_at hl 1 rfl) ?_
  refine lv_imul hx hb dX10_ageOf_4 ?_
  refine lv_iconst (v := 5) hx hb dX10_ageOf_5 (by decide) ?_
  refine lv_iadd hx hb dX10_ageOf_6 ?_
  refine lv_lshr (v := (jlshr st ((9 * mn) + 5))) hx hb dX10_ageOf_7 rfl ?_
  refine lv_l2i (v := ((jlshr st ((9 * mn) + 5)).toInt32)) hx hb dX10_ageOf_8 rfl ?_
  refine lv_bipush (v := 15) hx hb dX10_ageOf_9 (by decide) ?_
  refine lv_iand hx hb dX10_ageOf_11 ?_
  subst hF
  exact hm_iret hx hb hr hlk hP hD hS hpost dX10_ageOf_12
def f_X10_turnOf (st : Int64) : Int32 :=
  (((jlshr st 54).toInt32) &&& 1)
abbrev rm_X10_turnOf : Room := { frames := 0, cells := 0, slots := 0, locals := 0 }
set_option maxHeartbeats 4000000 in
set_option maxRecDepth 100000 in
theorem k_X10_turnOf (G : gT) (l : Launch) (st : Int64) (r : Int32) (hF : f_X10_turnOf st = r) : HM G l yX10_turnOf (.code yX10_turnOf cX10_turnOf 2 (some .int) :: UW) rm_X10_turnOf 0 0 [.long st] [] (some (.int r)) [] := by
  refine HM.ofW (by decide) (Nat.le_of_ble_eq_true rfl) ?_
  intro p e s m args below meth c A post hpost hC hP hD hS ls hl
  obtain ⟨hx, hb, hr, hml, hown, hts, hlk, hE, hA⟩ := hC
  have hl : lv_has ls 2 [(0, .long st)] := hl
  unfold f_X10_turnOf at hF
  refine lv_lload_n hx hb dX10_turnOf_0 rfl (lv_at hl 0 rfl) ?_
  refine lv_bipush (v := 54) hx hb dX10_turnOf_1 (by decide) ?_
  refine lv_lshr (v := (jlshr st 54)) hx hb dX10_turnOf_3 rfl ?_
  refine lv_l2i (v := ((jlshr st 54).toInt32)) hx hb dX10_turnOf_4 rfl ?_
  refine lv_iconst (v := 1) hx hb dX10_turnOf_5 (by decide) ?_
  refine lv_iand hx hb dX10_turnOf_6 ?_
  subst hF
  exact hm_iret hx hb hr hlk hP hD hS hpost dX10_turnOf_7
def f_X10_put (st : Int64) (mn : Int32) (cl : Int32) (ag : Int32) : Int64 :=
  ((st &&& ((jlshl 511 (9 * mn)) ^^^ (-1))) ||| (jlshl ((cl ||| (jshl ag 5)).toInt64) (9 * mn)))
abbrev rm_X10_put : Room := { frames := 0, cells := 0, slots := 0, locals := 0 }
set_option maxHeartbeats 4000000 in
set_option maxRecDepth 100000 in
theorem k_X10_put (G : gT) (l : Launch) (st : Int64) (mn : Int32) (cl : Int32) (ag : Int32) (r : Int64) (hF : f_X10_put st mn cl ag = r) : HM G l yX10_put (.code yX10_put cX10_put 5 (some .long) :: UW) rm_X10_put 0 0 [.long st, .int mn, .int cl, .int ag] [] (some (.long r)) [] := by
  refine HM.ofW (by decide) (Nat.le_of_ble_eq_true rfl) ?_
  intro p e s m args below meth c A post hpost hC hP hD hS ls hl
  obtain ⟨hx, hb, hr, hml, hown, hts, hlk, hE, hA⟩ := hC
  have hl : lv_has ls 5 [(0, .long st), (2, .int mn), (3, .int cl), (4, .int ag)] := hl
  unfold f_X10_put at hF
  refine lv_lload_n hx hb dX10_put_0 rfl (lv_at hl 0 rfl) ?_
  refine lv_ldc2 (v := 511) hx hb hown (hts _ (List.mem_cons_of_mem _ mw_727)) dX10_put_1 ?_
  refine lv_bipush (v := 9) hx hb dX10_put_4 (by decide) ?_
  refine lv_iload_n hx hb dX10_put_6 rfl (lv_at hl 1 rfl) ?_
  refine lv_imul hx hb dX10_put_7 ?_
  refine lv_lshl (v := (jlshl 511 (9 * mn))) hx hb dX10_put_8 rfl ?_
  refine lv_ldc2 (v := (-1)) hx hb hown (hts _ (List.mem_cons_of_mem _ mw_728)) dX10_put_9 ?_
  refine lv_lxor hx hb dX10_put_12 ?_
  refine lv_land hx hb dX10_put_13 ?_
  refine lv_iload_n hx hb dX10_put_14 rfl (lv_at hl 2 rfl) ?_
  refine lv_iload hx hb dX10_put_15 (lv_at hl 3 rfl) ?_
  refine lv_iconst (v := 5) hx hb dX10_put_17 (by decide) ?_
  refine lv_ishl hx hb dX10_put_18 ?_
  refine lv_ior hx hb dX10_put_19 ?_
  refine lv_i2l (v := ((cl ||| (jshl ag 5)).toInt64)) hx hb dX10_put_20 rfl ?_
  refine lv_bipush (v := 9) hx hb dX10_put_21 (by decide) ?_
  refine lv_iload_n hx hb dX10_put_23 rfl (lv_at hl 1 rfl) ?_
  refine lv_imul hx hb dX10_put_24 ?_
  refine lv_lshl (v := (jlshl ((cl ||| (jshl ag 5)).toInt64) (9 * mn))) hx hb dX10_put_25 rfl ?_
  refine lv_lor hx hb dX10_put_26 ?_
  subst hF
  exact hm_lret hx hb hr hlk hP hD hS hpost dX10_put_27
def f_X10_manOn_L2 (st : Int64) (cl : Int32) : Nat → Int32 → Option Int32
  | 0, _ => none
  | n+1, x3_1 =>
  if 6 ≤ x3_1 then some (-6) else if (f_X10_cellOf st x3_1) = cl then some x3_1 else jlet (x3_1 + 1) (fun v3_4 => (f_X10_manOn_L2 st cl n) v3_4)
def f_X10_manOn (st : Int64) (cl : Int32) : Option Int32 :=
  f_X10_manOn_L2 st cl 7 0
abbrev rm_X10_manOn : Room := { frames := 1, cells := 0, slots := 0, locals := 22 }
set_option maxHeartbeats 4000000 in
set_option maxRecDepth 100000 in
theorem k_X10_manOn (G : gT) (l : Launch) (st : Int64) (cl : Int32) (r : Int32) (hF : f_X10_manOn st cl = some r) : HM G l yX10_manOn (.code yX10_manOn cX10_manOn 4 (some .int) :: UW) rm_X10_manOn 0 0 [.long st, .int cl] [] (some (.int r)) [] := by
  refine HM.ofW (by decide) (Nat.le_of_ble_eq_true rfl) ?_
  intro p e s m args below meth c A post hpost hC hP hD hS ls hl
  obtain ⟨hx, hb, hr, hml, hown, hts, hlk, hE, hA⟩ := hC
  have hl : lv_has ls 4 [(0, .long st), (2, .int cl)] := hl
  unfold f_X10_manOn at hF
  refine lv_iconst (v := 0) hx hb dX10_manOn_0 (by decide) ?_
  refine lv_istore_n (lv' := [(3, .int 0), (0, .long st), (2, .int cl)]) hx hb dX10_manOn_1 rfl hl (by decide) rfl (fun ls hl => ?_)
  have hL2 : ∀ (n2 : Nat) (x3_1 : Int32) (H : Heap) (locs : List Loc) (ls : Array Slot), f_X10_manOn_L2 st cl n2 x3_1 = some r → va_P (gD G) vwCl [] H → va_D A [] → va_S A s.heap H locs → lv_has ls 4 [(0, .long st), (2, .int cl), (3, .int x3_1)] → W p l e rm_X10_manOn s m args below meth c H locs 0 0 (MQ below (HXq G post A) args s 0 0 A) (F0 m 2 ls []) := by
    intro n2
    induction n2 with
    | zero =>
      intro x3_1 H locs ls hF
      exact absurd hF (fun h => by cases h)
    | succ n2 ih2 =>
      intro x3_1 H locs ls hF hP hD hS hl
      unfold f_X10_manOn_L2 at hF
      refine lv_iload_n hx hb dX10_manOn_2 rfl (lv_at hl 2 rfl) ?_
      refine lv_bipush (v := 6) hx hb dX10_manOn_3 (by decide) ?_
      refine lv_icmp_ge (tgt := 25) hx hb dX10_manOn_5 (by decide) (fun c_2 => ?_) (fun c_2 => ?_)
      · have hF := ifp hF c_2
        refine lv_bipush (v := (-6)) hx hb dX10_manOn_25 (by decide) ?_
        have hF := Option.some.inj hF
        subst hF
        exact hm_iret hx hb hr hlk hP hD hS hpost dX10_manOn_27
      · have hF := ifn hF c_2
        refine lv_lload_n hx hb dX10_manOn_8 rfl (lv_at hl 0 rfl) ?_
        refine lv_iload_n hx hb dX10_manOn_9 rfl (lv_at hl 2 rfl) ?_
        refine hm_S (wn := []) (wr := []) (rest := []) (sn := [.int (f_X10_cellOf st x3_1)]) hx hb hml hown hts hE hA (k_X10_cellOf G l st x3_1 _ rfl) sm_X10_cellOf mw_852 ⟨rfl, rfl, Nat.le_of_ble_eq_true rfl, Nat.le_of_ble_eq_true rfl⟩ hP hD hS [] [] [] rfl rfl rfl (by decide) hl.1 rfl rfl (Nat.le_of_ble_eq_true rfl) dX10_manOn_10 ⟨Nat.le_of_ble_eq_true rfl, Nat.le_of_ble_eq_true rfl⟩ (fun H locs hP hD hS => ?_)
        refine lv_iload_n hx hb dX10_manOn_13 rfl (lv_at hl 1 rfl) ?_
        refine lv_icmp_ne (tgt := 19) hx hb dX10_manOn_14 (by decide) (fun c_3 => ?_) (fun c_3 => ?_)
        · have hF := ifn hF c_3
          obtain ⟨v3_4, ev3_4⟩ : ∃ z : Int32, z = x3_1 + 1 := ⟨_, rfl⟩
          have hF := jl hF ev3_4
          refine lv_iinc (v := v3_4) (lv' := [(3, .int v3_4), (0, .long st), (2, .int cl)]) hx hb dX10_manOn_19 hl (k := 2) rfl (by rw [ev3_4]; rfl) (by decide) rfl (fun ls hl => ?_)
          refine lv_goto (tgt := 2) hx hb dX10_manOn_22 (by decide) ?_
          exact ih2 v3_4 _ _ _ hF hP hD hS (lv_sub hl [1, 2, 0] rfl)
        · have hF := ifp hF c_3
          refine lv_iload_n hx hb dX10_manOn_17 rfl (lv_at hl 2 rfl) ?_
          have hF := Option.some.inj hF
          subst hF
          exact hm_iret hx hb hr hlk hP hD hS hpost dX10_manOn_18
  exact hL2 _ 0 _ _ _ hF hP hD hS (lv_sub hl [1, 2, 0] rfl)
def f_X10_kindOf (mby : Int32) (mgr : Int32) (mol : Int32) (ag : Int32) : Int32 :=
  if mby ≤ ag then if mgr ≤ ag then if mol ≤ ag then 3 else 2 else 1 else 0
abbrev rm_X10_kindOf : Room := { frames := 0, cells := 0, slots := 0, locals := 0 }
set_option maxHeartbeats 4000000 in
set_option maxRecDepth 100000 in
theorem k_X10_kindOf (G : gT) (l : Launch) (mo : Nat) (aMM : Nat) (aMT : Nat) (aPD : Nat) (aST : Nat) (aPL : Nat) (aRS : Nat) (aLA : Nat) (aBM : Nat) (aRP : Nat) (aFI : Nat) (aFM : Nat) (aGB : Nat) (aGM : Nat) (aGV : Nat) (aGR : Nat) (aKB : Nat) (aKP : Nat) (aIK : Nat) (mbd : Int64) (mby : Int32) (mgr : Int32) (mol : Int32) (mmy : Int32) (mpm : Int32) (mrd : Int64) (mbm : Int32) (mbw : Int32) (mpl : Int64) (msm : Int32) (mgs : Int32) (mka : Int32) (miw : Int32) (ag : Int32) (r : Int32) (hF : f_X10_kindOf mby mgr mol ag = r) : HM G l yX10_kindOf (.code yX10_kindOf cX10_kindOf 2 (some .int) :: UW) rm_X10_kindOf 0 0 [.ref mo, .int ag] [(mo, .inr (8, [.long mbd, .int mby, .int mgr, .int mol, .ref aMM, .ref aMT, .int mmy, .ref aPD, .int mpm, .long mrd, .int mbm, .int mbw, .long mpl, .ref aST, .ref aPL, .ref aRS, .ref aLA, .ref aBM, .int msm, .ref aRP, .ref aFI, .ref aFM, .ref aGB, .ref aGM, .ref aGV, .ref aGR, .int mgs, .ref aKB, .ref aKP, .ref aIK, .int mka, .int miw]))] (some (.int r)) [(mo, .inr (8, [.long mbd, .int mby, .int mgr, .int mol, .ref aMM, .ref aMT, .int mmy, .ref aPD, .int mpm, .long mrd, .int mbm, .int mbw, .long mpl, .ref aST, .ref aPL, .ref aRS, .ref aLA, .ref aBM, .int msm, .ref aRP, .ref aFI, .ref aFM, .ref aGB, .ref aGM, .ref aGV, .ref aGR, .int mgs, .ref aKB, .ref aKP, .ref aIK, .int mka, .int miw]))] := by
  refine HM.ofW (by decide) (Nat.le_of_ble_eq_true rfl) ?_
  intro p e s m args below meth c A post hpost hC hP hD hS ls hl
  obtain ⟨hx, hb, hr, hml, hown, hts, hlk, hE, hA⟩ := hC
  have hl : lv_has ls 2 [(0, .ref mo), (1, .int ag)] := hl
  unfold f_X10_kindOf at hF
  refine lv_iload_n hx hb dX10_kindOf_0 rfl (lv_at hl 1 rfl) ?_
  refine lv_aload_n hx hb dX10_kindOf_1 rfl (lv_at hl 0 rfl) ?_
  refine hget hx hb hts hown hE fl_X10_77 hP 0 rfl rfl dX10_kindOf_2 ?_
  refine lv_icmp_ge (tgt := 12) hx hb dX10_kindOf_5 (by decide) (fun c_1 => ?_) (fun c_1 => ?_)
  · have hF := ifp hF c_1
    refine lv_iload_n hx hb dX10_kindOf_12 rfl (lv_at hl 1 rfl) ?_
    refine lv_aload_n hx hb dX10_kindOf_13 rfl (lv_at hl 0 rfl) ?_
    refine hget hx hb hts hown hE fl_X10_81 hP 0 rfl rfl dX10_kindOf_14 ?_
    refine lv_icmp_ge (tgt := 24) hx hb dX10_kindOf_17 (by decide) (fun c_2 => ?_) (fun c_2 => ?_)
    · have hF := ifp hF c_2
      refine lv_iload_n hx hb dX10_kindOf_24 rfl (lv_at hl 1 rfl) ?_
      refine lv_aload_n hx hb dX10_kindOf_25 rfl (lv_at hl 0 rfl) ?_
      refine hget hx hb hts hown hE fl_X10_84 hP 0 rfl rfl dX10_kindOf_26 ?_
      refine lv_icmp_ge (tgt := 36) hx hb dX10_kindOf_29 (by decide) (fun c_3 => ?_) (fun c_3 => ?_)
      · have hF := ifp hF c_3
        refine lv_iconst (v := 3) hx hb dX10_kindOf_36 (by decide) ?_
        subst hF
        exact hm_iret hx hb hr hlk hP hD hS hpost dX10_kindOf_37
      · have hF := ifn hF c_3
        refine lv_iconst (v := 2) hx hb dX10_kindOf_32 (by decide) ?_
        refine lv_goto (tgt := 37) hx hb dX10_kindOf_33 (by decide) ?_
        subst hF
        exact hm_iret hx hb hr hlk hP hD hS hpost dX10_kindOf_37
    · have hF := ifn hF c_2
      refine lv_iconst (v := 1) hx hb dX10_kindOf_20 (by decide) ?_
      refine lv_goto (tgt := 37) hx hb dX10_kindOf_21 (by decide) ?_
      subst hF
      exact hm_iret hx hb hr hlk hP hD hS hpost dX10_kindOf_37
  · have hF := ifn hF c_1
    refine lv_iconst (v := 0) hx hb dX10_kindOf_8 (by decide) ?_
    refine lv_goto (tgt := 37) hx hb dX10_kindOf_9 (by decide) ?_
    subst hF
    exact hm_iret hx hb hr hlk hP hD hS hpost dX10_kindOf_37
def f_X10_isBetween_L47 (st : Int64) (t0_1 : Int32) (t0_3 : Int32) : Nat → Int32 → Option Int32
  | 0, _ => none
  | n+1, x7_5 =>
  if t0_3 ≤ x7_5 then some 0 else Option.bind (f_X10_manOn st x7_5) (fun r57_7 => if r57_7 < 0 then jlet (x7_5 + t0_1) (fun v7_9 => (f_X10_isBetween_L47 st t0_1 t0_3 n) v7_9) else some 1)
def f_X10_isBetween_B38 (st : Int64) (t0_1 : Int32) (t0_2 : Int32) (t0_3 : Int32) : Option Int32 :=
  jlet (t0_2 + t0_1) (fun v7_4 => f_X10_isBetween_L47 st t0_1 t0_3 100 v7_4)
def f_X10_isBetween_B26 (st : Int64) (fr : Int32) (to : Int32) (t0_1 : Int32) (t0_2 : Int32) : Option Int32 :=
  if to ≤ fr then f_X10_isBetween_B38 st t0_1 t0_2 fr else f_X10_isBetween_B38 st t0_1 t0_2 to
def f_X10_isBetween_B14 (st : Int64) (fr : Int32) (to : Int32) (t0_1 : Int32) : Option Int32 :=
  if to ≤ fr then f_X10_isBetween_B26 st fr to t0_1 to else f_X10_isBetween_B26 st fr to t0_1 fr
def f_X10_isBetween (st : Int64) (fr : Int32) (to : Int32) : Option Int32 :=
  if (jrem fr 5) = (jrem to 5) then f_X10_isBetween_B14 st fr to 5 else f_X10_isBetween_B14 st fr to 1
abbrev rm_X10_isBetween : Room := { frames := 2, cells := 0, slots := 0, locals := 45 }
set_option maxHeartbeats 4000000 in
set_option maxRecDepth 100000 in
theorem k_X10_isBetween (G : gT) (l : Launch) (st : Int64) (fr : Int32) (to : Int32) (r : Int32) (hF : f_X10_isBetween st fr to = some r) : HM G l yX10_isBetween (.code yX10_isBetween cX10_isBetween 8 (some .boolean) :: UW) rm_X10_isBetween 0 0 [.long st, .int fr, .int to] [] (some (.int r)) [] := by
  refine HM.ofW (by decide) (Nat.le_of_ble_eq_true rfl) ?_
  intro p e s m args below meth c A post hpost hC hP hD hS ls hl
  obtain ⟨hx, hb, hr, hml, hown, hts, hlk, hE, hA⟩ := hC
  have hl : lv_has ls 8 [(0, .long st), (2, .int fr), (3, .int to)] := hl
  unfold f_X10_isBetween at hF
  refine lv_iload_n hx hb dX10_isBetween_0 rfl (lv_at hl 1 rfl) ?_
  refine lv_iconst (v := 5) hx hb dX10_isBetween_1 (by decide) ?_
  refine lv_irem hx hb dX10_isBetween_2 (by decide) ?_
  refine lv_iload_n hx hb dX10_isBetween_3 rfl (lv_at hl 2 rfl) ?_
  refine lv_iconst (v := 5) hx hb dX10_isBetween_4 (by decide) ?_
  refine lv_irem hx hb dX10_isBetween_5 (by decide) ?_
  have hB14 : ∀ (t0_1 : Int32) (H : Heap) (locs : List Loc) (ls : Array Slot), f_X10_isBetween_B14 st fr to t0_1 = some r → va_P (gD G) vwCl [] H → va_D A [] → va_S A s.heap H locs → lv_has ls 8 [(0, .long st), (2, .int fr), (3, .int to)] → W p l e rm_X10_isBetween s m args below meth c H locs 0 0 (MQ below (HXq G post A) args s 0 0 A) (F0 m 14 ls [.int t0_1]) := by
    intro t0_1 H locs ls hF hP hD hS hl
    unfold f_X10_isBetween_B14 at hF
    refine lv_istore (lv' := [(4, .int t0_1), (0, .long st), (2, .int fr), (3, .int to)]) hx hb dX10_isBetween_14 hl (by decide) rfl (fun ls hl => ?_)
    refine lv_iload_n hx hb dX10_isBetween_16 rfl (lv_at hl 2 rfl) ?_
    refine lv_iload_n hx hb dX10_isBetween_17 rfl (lv_at hl 3 rfl) ?_
    have hB26 : ∀ (t0_2 : Int32) (H : Heap) (locs : List Loc) (ls : Array Slot), f_X10_isBetween_B26 st fr to t0_1 t0_2 = some r → va_P (gD G) vwCl [] H → va_D A [] → va_S A s.heap H locs → lv_has ls 8 [(0, .long st), (2, .int fr), (3, .int to), (4, .int t0_1)] → W p l e rm_X10_isBetween s m args below meth c H locs 0 0 (MQ below (HXq G post A) args s 0 0 A) (F0 m 26 ls [.int t0_2]) := by
      intro t0_2 H locs ls hF hP hD hS hl
      unfold f_X10_isBetween_B26 at hF
      refine lv_istore (lv' := [(5, .int t0_2), (0, .long st), (2, .int fr), (3, .int to), (4, .int t0_1)]) hx hb dX10_isBetween_26 hl (by decide) rfl (fun ls hl => ?_)
      refine lv_iload_n hx hb dX10_isBetween_28 rfl (lv_at hl 2 rfl) ?_
      refine lv_iload_n hx hb dX10_isBetween_29 rfl (lv_at hl 3 rfl) ?_
      have hB38 : ∀ (t0_3 : Int32) (H : Heap) (locs : List Loc) (ls : Array Slot), f_X10_isBetween_B38 st t0_1 t0_2 t0_3 = some r → va_P (gD G) vwCl [] H → va_D A [] → va_S A s.heap H locs → lv_has ls 8 [(0, .long st), (4, .int t0_1), (5, .int t0_2)] → W p l e rm_X10_isBetween s m args below meth c H locs 0 0 (MQ below (HXq G post A) args s 0 0 A) (F0 m 38 ls [.int t0_3]) := by
        intro t0_3 H locs ls hF hP hD hS hl
        unfold f_X10_isBetween_B38 at hF
        refine lv_istore (lv' := [(6, .int t0_3), (0, .long st), (4, .int t0_1), (5, .int t0_2)]) hx hb dX10_isBetween_38 hl (by decide) rfl (fun ls hl => ?_)
        refine lv_iload hx hb dX10_isBetween_40 (lv_at hl 3 rfl) ?_
        refine lv_iload hx hb dX10_isBetween_42 (lv_at hl 2 rfl) ?_
        refine lv_iadd hx hb dX10_isBetween_44 ?_
        refine lv_topi (fun v7_4 ev7_4 => ?_)
        have hF := jl hF ev7_4
        refine lv_istore (lv' := [(7, .int v7_4), (6, .int t0_3), (0, .long st), (4, .int t0_1), (5, .int t0_2)]) hx hb dX10_isBetween_45 hl (by decide) rfl (fun ls hl => ?_)
        have hL47 : ∀ (n47 : Nat) (x7_5 : Int32) (H : Heap) (locs : List Loc) (ls : Array Slot), f_X10_isBetween_L47 st t0_1 t0_3 n47 x7_5 = some r → va_P (gD G) vwCl [] H → va_D A [] → va_S A s.heap H locs → lv_has ls 8 [(0, .long st), (4, .int t0_1), (6, .int t0_3), (7, .int x7_5)] → W p l e rm_X10_isBetween s m args below meth c H locs 0 0 (MQ below (HXq G post A) args s 0 0 A) (F0 m 47 ls []) := by
          intro n47
          induction n47 with
          | zero =>
            intro x7_5 H locs ls hF
            exact absurd hF (fun h => by cases h)
          | succ n47 ih47 =>
            intro x7_5 H locs ls hF hP hD hS hl
            unfold f_X10_isBetween_L47 at hF
            refine lv_iload hx hb dX10_isBetween_47 (lv_at hl 3 rfl) ?_
            refine lv_iload hx hb dX10_isBetween_49 (lv_at hl 2 rfl) ?_
            refine lv_icmp_ge (tgt := 75) hx hb dX10_isBetween_51 (by decide) (fun c_6 => ?_) (fun c_6 => ?_)
            · have hF := ifp hF c_6
              refine lv_iconst (v := 0) hx hb dX10_isBetween_75 (by decide) ?_
              have hF := Option.some.inj hF
              subst hF
              exact hm_zret hx hb hr hlk hP hD hS (by decide +kernel) hpost dX10_isBetween_76
            · have hF := ifn hF c_6
              refine lv_lload_n hx hb dX10_isBetween_54 rfl (lv_at hl 0 rfl) ?_
              refine lv_iload hx hb dX10_isBetween_55 (lv_at hl 3 rfl) ?_
              obtain ⟨r57_7, hr57_7, hF⟩ := bnd hF
              refine hm_S (wn := []) (wr := []) (rest := []) (sn := [.int r57_7]) hx hb hml hown hts hE hA (k_X10_manOn G l st x7_5 r57_7 hr57_7) sm_X10_manOn mw_860 ⟨rfl, rfl, Nat.le_of_ble_eq_true rfl, Nat.le_of_ble_eq_true rfl⟩ hP hD hS [] [] [] rfl rfl rfl (by decide) hl.1 rfl rfl (Nat.le_of_ble_eq_true rfl) dX10_isBetween_57 ⟨Nat.le_of_ble_eq_true rfl, Nat.le_of_ble_eq_true rfl⟩ (fun H locs hP hD hS => ?_)
              refine lv_if_lt (tgt := 65) hx hb dX10_isBetween_60 (by decide) (fun c_8 => ?_) (fun c_8 => ?_)
              · have hF := ifp hF c_8
                refine lv_iload hx hb dX10_isBetween_65 (lv_at hl 3 rfl) ?_
                refine lv_iload hx hb dX10_isBetween_67 (lv_at hl 1 rfl) ?_
                refine lv_iadd hx hb dX10_isBetween_69 ?_
                refine lv_topi (fun v7_9 ev7_9 => ?_)
                have hF := jl hF ev7_9
                refine lv_istore (lv' := [(7, .int v7_9), (0, .long st), (4, .int t0_1), (6, .int t0_3)]) hx hb dX10_isBetween_70 hl (by decide) rfl (fun ls hl => ?_)
                refine lv_goto (tgt := 47) hx hb dX10_isBetween_72 (by decide) ?_
                exact ih47 v7_9 _ _ _ hF hP hD hS (lv_sub hl [1, 2, 3, 0] rfl)
              · have hF := ifn hF c_8
                refine lv_iconst (v := 1) hx hb dX10_isBetween_63 (by decide) ?_
                have hF := Option.some.inj hF
                subst hF
                exact hm_zret hx hb hr hlk hP hD hS (by decide +kernel) hpost dX10_isBetween_64
        exact hL47 _ v7_4 _ _ _ hF hP hD hS (lv_sub hl [2, 3, 1, 0] rfl)
      refine lv_icmp_ge (tgt := 37) hx hb dX10_isBetween_30 (by decide) (fun c_10 => ?_) (fun c_10 => ?_)
      · have hF := ifp hF c_10
        refine lv_iload_n hx hb dX10_isBetween_37 rfl (lv_at hl 2 rfl) ?_
        exact hB38 fr _ _ _ hF hP hD hS (lv_sub hl [1, 4, 0] rfl)
      · have hF := ifn hF c_10
        refine lv_iload_n hx hb dX10_isBetween_33 rfl (lv_at hl 3 rfl) ?_
        refine lv_goto (tgt := 38) hx hb dX10_isBetween_34 (by decide) ?_
        exact hB38 to _ _ _ hF hP hD hS (lv_sub hl [1, 4, 0] rfl)
    refine lv_icmp_ge (tgt := 25) hx hb dX10_isBetween_18 (by decide) (fun c_11 => ?_) (fun c_11 => ?_)
    · have hF := ifp hF c_11
      refine lv_iload_n hx hb dX10_isBetween_25 rfl (lv_at hl 3 rfl) ?_
      exact hB26 to _ _ _ hF hP hD hS (lv_sub hl [1, 2, 3, 0] rfl)
    · have hF := ifn hF c_11
      refine lv_iload_n hx hb dX10_isBetween_21 rfl (lv_at hl 2 rfl) ?_
      refine lv_goto (tgt := 26) hx hb dX10_isBetween_22 (by decide) ?_
      exact hB26 fr _ _ _ hF hP hD hS (lv_sub hl [1, 2, 3, 0] rfl)
  refine lv_icmp_ne (tgt := 13) hx hb dX10_isBetween_6 (by decide) (fun c_12 => ?_) (fun c_12 => ?_)
  · have hF := ifn hF c_12
    refine lv_iconst (v := 1) hx hb dX10_isBetween_13 (by decide) ?_
    exact hB14 1 _ _ _ hF hP hD hS (lv_sub hl [0, 1, 2] rfl)
  · have hF := ifp hF c_12
    refine lv_iconst (v := 5) hx hb dX10_isBetween_9 (by decide) ?_
    refine lv_goto (tgt := 14) hx hb dX10_isBetween_10 (by decide) ?_
    exact hB14 5 _ _ _ hF hP hD hS (lv_sub hl [0, 1, 2] rfl)
def f_X10_whyNot_B166 (st : Int64) (mn : Int32) (to : Int32) : Option Int32 :=
  Option.bind (f_X10_manOn st to) (fun r169_8 => if r169_8 < 0 then some (-6) else if (r169_8 / 3) = (mn / 3) then some 6 else some (-6))
def f_X10_whyNot_B138 (st : Int64) (mn : Int32) (to : Int32) (v5_1 : Int32) (v6_2 : Int32) (t0_6 : Int32) : Option Int32 :=
  if t0_6 = 0 then some 4 else if v6_2 = 1 then Option.bind (f_X10_isBetween st v5_1 to) (fun r158_12 => if r158_12 = 0 then f_X10_whyNot_B166 st mn to else some 5) else f_X10_whyNot_B166 st mn to
def f_X10_whyNot_B102 (st : Int64) (mn : Int32) (to : Int32) (v5_1 : Int32) (v6_2 : Int32) (t0_19 : Int32) (t1_20 : Int32) : Option Int32 :=
  if t0_19 = t1_20 then f_X10_whyNot_B138 st mn to v5_1 v6_2 0 else f_X10_whyNot_B138 st mn to v5_1 v6_2 1
def f_X10_whyNot_B92 (st : Int64) (mn : Int32) (to : Int32) (v5_1 : Int32) (v6_2 : Int32) (v8_4 : Int32) (t0_19 : Int32) : Option Int32 :=
  if v8_4 = 0 then f_X10_whyNot_B102 st mn to v5_1 v6_2 t0_19 1 else f_X10_whyNot_B102 st mn to v5_1 v6_2 t0_19 0
def f_X10_whyNot (mby : Int32) (mgr : Int32) (mol : Int32) (st : Int64) (mn : Int32) (to : Int32) : Option Int32 :=
  jlet (f_X10_cellOf st mn) (fun v5_1 => jlet (f_X10_kindOf mby mgr mol (f_X10_ageOf st mn)) (fun v6_2 => jlet (f_X10_size ((jrem to 5) - (jrem v5_1 5))) (fun v7_3 => jlet (f_X10_size ((to / 5) - (v5_1 / 5))) (fun v8_4 => if v6_2 = 3 then some 3 else if v6_2 = 0 then if (v7_3 * v8_4) = 2 then f_X10_whyNot_B138 st mn to v5_1 v6_2 1 else f_X10_whyNot_B138 st mn to v5_1 v6_2 0 else if v6_2 = 1 then if v7_3 = 0 then f_X10_whyNot_B92 st mn to v5_1 v6_2 v8_4 1 else f_X10_whyNot_B92 st mn to v5_1 v6_2 v8_4 0 else if 2 ≤ v7_3 then f_X10_whyNot_B138 st mn to v5_1 v6_2 0 else if 2 ≤ v8_4 then f_X10_whyNot_B138 st mn to v5_1 v6_2 0 else if (v7_3 + v8_4) ≤ 0 then f_X10_whyNot_B138 st mn to v5_1 v6_2 0 else f_X10_whyNot_B138 st mn to v5_1 v6_2 1))))
abbrev rm_X10_whyNot : Room := { frames := 3, cells := 0, slots := 0, locals := 72 }
set_option maxHeartbeats 4000000 in
set_option maxRecDepth 100000 in
theorem k_X10_whyNot (G : gT) (l : Launch) (mo : Nat) (aMM : Nat) (aMT : Nat) (aPD : Nat) (aST : Nat) (aPL : Nat) (aRS : Nat) (aLA : Nat) (aBM : Nat) (aRP : Nat) (aFI : Nat) (aFM : Nat) (aGB : Nat) (aGM : Nat) (aGV : Nat) (aGR : Nat) (aKB : Nat) (aKP : Nat) (aIK : Nat) (mbd : Int64) (mby : Int32) (mgr : Int32) (mol : Int32) (mmy : Int32) (mpm : Int32) (mrd : Int64) (mbm : Int32) (mbw : Int32) (mpl : Int64) (msm : Int32) (mgs : Int32) (mka : Int32) (miw : Int32) (st : Int64) (mn : Int32) (to : Int32) (r : Int32) (hF : f_X10_whyNot mby mgr mol st mn to = some r) : HM G l yX10_whyNot (.code yX10_whyNot cX10_whyNot 11 (some .int) :: UW) rm_X10_whyNot 0 0 [.ref mo, .long st, .int mn, .int to] [(mo, .inr (8, [.long mbd, .int mby, .int mgr, .int mol, .ref aMM, .ref aMT, .int mmy, .ref aPD, .int mpm, .long mrd, .int mbm, .int mbw, .long mpl, .ref aST, .ref aPL, .ref aRS, .ref aLA, .ref aBM, .int msm, .ref aRP, .ref aFI, .ref aFM, .ref aGB, .ref aGM, .ref aGV, .ref aGR, .int mgs, .ref aKB, .ref aKP, .ref aIK, .int mka, .int miw]))] (some (.int r)) [(mo, .inr (8, [.long mbd, .int mby, .int mgr, .int mol, .ref aMM, .ref aMT, .int mmy, .ref aPD, .int mpm, .long mrd, .int mbm, .int mbw, .long mpl, .ref aST, .ref aPL, .ref aRS, .ref aLA, .ref aBM, .int msm, .ref aRP, .ref aFI, .ref aFM, .ref aGB, .ref aGM, .ref aGV, .ref aGR, .int mgs, .ref aKB, .ref aKP, .ref aIK, .int mka, .int miw]))] := by
  refine HM.ofW (by decide) (Nat.le_of_ble_eq_true rfl) ?_
  intro p e s m args below meth c A post hpost hC hP hD hS ls hl
  obtain ⟨hx, hb, hr, hml, hown, hts, hlk, hE, hA⟩ := hC
  have hl : lv_has ls 11 [(0, .ref mo), (1, .long st), (3, .int mn), (4, .int to)] := hl
  unfold f_X10_whyNot at hF
  refine lv_lload_n hx hb dX10_whyNot_0 rfl (lv_at hl 1 rfl) ?_
  refine lv_iload_n hx hb dX10_whyNot_1 rfl (lv_at hl 2 rfl) ?_
  refine hm_S (wn := [(mo, .inr (8, [.long mbd, .int mby, .int mgr, .int mol, .ref aMM, .ref aMT, .int mmy, .ref aPD, .int mpm, .long mrd, .int mbm, .int mbw, .long mpl, .ref aST, .ref aPL, .ref aRS, .ref aLA, .ref aBM, .int msm, .ref aRP, .ref aFI, .ref aFM, .ref aGB, .ref aGM, .ref aGV, .ref aGR, .int mgs, .ref aKB, .ref aKP, .ref aIK, .int mka, .int miw]))]) (wr := [(mo, .inr (8, [.long mbd, .int mby, .int mgr, .int mol, .ref aMM, .ref aMT, .int mmy, .ref aPD, .int mpm, .long mrd, .int mbm, .int mbw, .long mpl, .ref aST, .ref aPL, .ref aRS, .ref aLA, .ref aBM, .int msm, .ref aRP, .ref aFI, .ref aFM, .ref aGB, .ref aGM, .ref aGV, .ref aGR, .int mgs, .ref aKB, .ref aKP, .ref aIK, .int mka, .int miw]))]) (rest := []) (sn := [.int (f_X10_cellOf st mn)]) hx hb hml hown hts hE hA (k_X10_cellOf G l st mn _ rfl) sm_X10_cellOf mw_852 ⟨rfl, rfl, Nat.le_of_ble_eq_true rfl, Nat.le_of_ble_eq_true rfl⟩ hP hD hS [] [0] [0] rfl rfl rfl (by decide) hl.1 rfl rfl (Nat.le_of_ble_eq_true rfl) dX10_whyNot_2 ⟨Nat.le_of_ble_eq_true rfl, Nat.le_of_ble_eq_true rfl⟩ (fun H locs hP hD hS => ?_)
  refine lv_topi (fun v5_1 ev5_1 => ?_)
  have hF := jl hF ev5_1
  refine lv_istore (lv' := [(5, .int v5_1), (0, .ref mo), (1, .long st), (3, .int mn), (4, .int to)]) hx hb dX10_whyNot_5 hl (by decide) rfl (fun ls hl => ?_)
  refine lv_aload_n hx hb dX10_whyNot_7 rfl (lv_at hl 1 rfl) ?_
  refine lv_lload_n hx hb dX10_whyNot_8 rfl (lv_at hl 2 rfl) ?_
  refine lv_iload_n hx hb dX10_whyNot_9 rfl (lv_at hl 3 rfl) ?_
  refine hm_S (wn := [(mo, .inr (8, [.long mbd, .int mby, .int mgr, .int mol, .ref aMM, .ref aMT, .int mmy, .ref aPD, .int mpm, .long mrd, .int mbm, .int mbw, .long mpl, .ref aST, .ref aPL, .ref aRS, .ref aLA, .ref aBM, .int msm, .ref aRP, .ref aFI, .ref aFM, .ref aGB, .ref aGM, .ref aGV, .ref aGR, .int mgs, .ref aKB, .ref aKP, .ref aIK, .int mka, .int miw]))]) (wr := [(mo, .inr (8, [.long mbd, .int mby, .int mgr, .int mol, .ref aMM, .ref aMT, .int mmy, .ref aPD, .int mpm, .long mrd, .int mbm, .int mbw, .long mpl, .ref aST, .ref aPL, .ref aRS, .ref aLA, .ref aBM, .int msm, .ref aRP, .ref aFI, .ref aFM, .ref aGB, .ref aGM, .ref aGV, .ref aGR, .int mgs, .ref aKB, .ref aKP, .ref aIK, .int mka, .int miw]))]) (rest := [.ref mo]) (sn := [.int (f_X10_ageOf st mn), .ref mo]) hx hb hml hown hts hE hA (k_X10_ageOf G l st mn _ rfl) sm_X10_ageOf mw_892 ⟨rfl, rfl, Nat.le_of_ble_eq_true rfl, Nat.le_of_ble_eq_true rfl⟩ hP hD hS [] [0] [0] rfl rfl rfl (by decide) hl.1 rfl rfl (Nat.le_of_ble_eq_true rfl) dX10_whyNot_10 ⟨Nat.le_of_ble_eq_true rfl, Nat.le_of_ble_eq_true rfl⟩ (fun H locs hP hD hS => ?_)
  refine hm_V (wn := [(mo, .inr (8, [.long mbd, .int mby, .int mgr, .int mol, .ref aMM, .ref aMT, .int mmy, .ref aPD, .int mpm, .long mrd, .int mbm, .int mbw, .long mpl, .ref aST, .ref aPL, .ref aRS, .ref aLA, .ref aBM, .int msm, .ref aRP, .ref aFI, .ref aFM, .ref aGB, .ref aGM, .ref aGV, .ref aGR, .int mgs, .ref aKB, .ref aKP, .ref aIK, .int mka, .int miw]))]) (wr := []) (rest := []) (sn := [.int (f_X10_kindOf mby mgr mol (f_X10_ageOf st mn))]) hx hb hml hown hts hE hA (k_X10_kindOf G l mo aMM aMT aPD aST aPL aRS aLA aBM aRP aFI aFM aGB aGM aGV aGR aKB aKP aIK mbd mby mgr mol mmy mpm mrd mbm mbw mpl msm mgs mka miw (f_X10_ageOf st mn) _ rfl) sm_X10_kindOf mw_895 ⟨rfl, rfl, Nat.le_of_ble_eq_true rfl, Nat.le_of_ble_eq_true rfl⟩ hP hD hS 0 rfl rfl [0] [] [0] rfl rfl rfl (by decide) hl.1 rfl rfl (Nat.le_of_ble_eq_true rfl) dX10_whyNot_13 ⟨Nat.le_of_ble_eq_true rfl, Nat.le_of_ble_eq_true rfl⟩ (fun H locs hP hD hS => ?_)
  refine lv_topi (fun v6_2 ev6_2 => ?_)
  have hF := jl hF ev6_2
  refine lv_istore (lv' := [(6, .int v6_2), (5, .int v5_1), (0, .ref mo), (1, .long st), (3, .int mn), (4, .int to)]) hx hb dX10_whyNot_16 hl (by decide) rfl (fun ls hl => ?_)
  refine lv_iload hx hb dX10_whyNot_18 (lv_at hl 5 rfl) ?_
  refine lv_iconst (v := 5) hx hb dX10_whyNot_20 (by decide) ?_
  refine lv_irem hx hb dX10_whyNot_21 (by decide) ?_
  refine lv_iload hx hb dX10_whyNot_22 (lv_at hl 1 rfl) ?_
  refine lv_iconst (v := 5) hx hb dX10_whyNot_24 (by decide) ?_
  refine lv_irem hx hb dX10_whyNot_25 (by decide) ?_
  refine lv_isub hx hb dX10_whyNot_26 ?_
  refine hm_S (wn := [(mo, .inr (8, [.long mbd, .int mby, .int mgr, .int mol, .ref aMM, .ref aMT, .int mmy, .ref aPD, .int mpm, .long mrd, .int mbm, .int mbw, .long mpl, .ref aST, .ref aPL, .ref aRS, .ref aLA, .ref aBM, .int msm, .ref aRP, .ref aFI, .ref aFM, .ref aGB, .ref aGM, .ref aGV, .ref aGR, .int mgs, .ref aKB, .ref aKP, .ref aIK, .int mka, .int miw]))]) (wr := [(mo, .inr (8, [.long mbd, .int mby, .int mgr, .int mol, .ref aMM, .ref aMT, .int mmy, .ref aPD, .int mpm, .long mrd, .int mbm, .int mbw, .long mpl, .ref aST, .ref aPL, .ref aRS, .ref aLA, .ref aBM, .int msm, .ref aRP, .ref aFI, .ref aFM, .ref aGB, .ref aGM, .ref aGV, .ref aGR, .int mgs, .ref aKB, .ref aKP, .ref aIK, .int mka, .int miw]))]) (rest := []) (sn := [.int (f_X10_size ((jrem to 5) - (jrem v5_1 5)))]) hx hb hml hown hts hE hA (k_X10_size G l ((jrem to 5) - (jrem v5_1 5)) _ rfl) sm_X10_size mw_928 ⟨rfl, rfl, Nat.le_of_ble_eq_true rfl, Nat.le_of_ble_eq_true rfl⟩ hP hD hS [] [0] [0] rfl rfl rfl (by decide) hl.1 rfl rfl (Nat.le_of_ble_eq_true rfl) dX10_whyNot_27 ⟨Nat.le_of_ble_eq_true rfl, Nat.le_of_ble_eq_true rfl⟩ (fun H locs hP hD hS => ?_)
  refine lv_topi (fun v7_3 ev7_3 => ?_)
  have hF := jl hF ev7_3
  refine lv_istore (lv' := [(7, .int v7_3), (6, .int v6_2), (5, .int v5_1), (0, .ref mo), (1, .long st), (3, .int mn), (4, .int to)]) hx hb dX10_whyNot_30 hl (by decide) rfl (fun ls hl => ?_)
  refine lv_iload hx hb dX10_whyNot_32 (lv_at hl 6 rfl) ?_
  refine lv_iconst (v := 5) hx hb dX10_whyNot_34 (by decide) ?_
  refine lv_idiv hx hb dX10_whyNot_35 (by decide) ?_
  refine lv_iload hx hb dX10_whyNot_36 (lv_at hl 2 rfl) ?_
  refine lv_iconst (v := 5) hx hb dX10_whyNot_38 (by decide) ?_
  refine lv_idiv hx hb dX10_whyNot_39 (by decide) ?_
  refine lv_isub hx hb dX10_whyNot_40 ?_
  refine hm_S (wn := [(mo, .inr (8, [.long mbd, .int mby, .int mgr, .int mol, .ref aMM, .ref aMT, .int mmy, .ref aPD, .int mpm, .long mrd, .int mbm, .int mbw, .long mpl, .ref aST, .ref aPL, .ref aRS, .ref aLA, .ref aBM, .int msm, .ref aRP, .ref aFI, .ref aFM, .ref aGB, .ref aGM, .ref aGV, .ref aGR, .int mgs, .ref aKB, .ref aKP, .ref aIK, .int mka, .int miw]))]) (wr := [(mo, .inr (8, [.long mbd, .int mby, .int mgr, .int mol, .ref aMM, .ref aMT, .int mmy, .ref aPD, .int mpm, .long mrd, .int mbm, .int mbw, .long mpl, .ref aST, .ref aPL, .ref aRS, .ref aLA, .ref aBM, .int msm, .ref aRP, .ref aFI, .ref aFM, .ref aGB, .ref aGM, .ref aGV, .ref aGR, .int mgs, .ref aKB, .ref aKP, .ref aIK, .int mka, .int miw]))]) (rest := []) (sn := [.int (f_X10_size ((to / 5) - (v5_1 / 5)))]) hx hb hml hown hts hE hA (k_X10_size G l ((to / 5) - (v5_1 / 5)) _ rfl) sm_X10_size mw_928 ⟨rfl, rfl, Nat.le_of_ble_eq_true rfl, Nat.le_of_ble_eq_true rfl⟩ hP hD hS [] [0] [0] rfl rfl rfl (by decide) hl.1 rfl rfl (Nat.le_of_ble_eq_true rfl) dX10_whyNot_41 ⟨Nat.le_of_ble_eq_true rfl, Nat.le_of_ble_eq_true rfl⟩ (fun H locs hP hD hS => ?_)
  refine lv_topi (fun v8_4 ev8_4 => ?_)
  have hF := jl hF ev8_4
  refine lv_istore (lv' := [(8, .int v8_4), (7, .int v7_3), (6, .int v6_2), (5, .int v5_1), (0, .ref mo), (1, .long st), (3, .int mn), (4, .int to)]) hx hb dX10_whyNot_44 hl (by decide) rfl (fun ls hl => ?_)
  refine lv_iload hx hb dX10_whyNot_46 (lv_at hl 2 rfl) ?_
  refine lv_iconst (v := 3) hx hb dX10_whyNot_48 (by decide) ?_
  refine lv_icmp_ne (tgt := 54) hx hb dX10_whyNot_49 (by decide) (fun c_5 => ?_) (fun c_5 => ?_)
  · have hF := ifn hF c_5
    refine lv_iload hx hb dX10_whyNot_54 (lv_at hl 2 rfl) ?_
    have hB138 : ∀ (t0_6 : Int32) (H : Heap) (locs : List Loc) (ls : Array Slot), f_X10_whyNot_B138 st mn to v5_1 v6_2 t0_6 = some r → va_P (gD G) vwCl [(mo, .inr (8, [.long mbd, .int mby, .int mgr, .int mol, .ref aMM, .ref aMT, .int mmy, .ref aPD, .int mpm, .long mrd, .int mbm, .int mbw, .long mpl, .ref aST, .ref aPL, .ref aRS, .ref aLA, .ref aBM, .int msm, .ref aRP, .ref aFI, .ref aFM, .ref aGB, .ref aGM, .ref aGV, .ref aGR, .int mgs, .ref aKB, .ref aKP, .ref aIK, .int mka, .int miw]))] H → va_D A [(mo, .inr (8, [.long mbd, .int mby, .int mgr, .int mol, .ref aMM, .ref aMT, .int mmy, .ref aPD, .int mpm, .long mrd, .int mbm, .int mbw, .long mpl, .ref aST, .ref aPL, .ref aRS, .ref aLA, .ref aBM, .int msm, .ref aRP, .ref aFI, .ref aFM, .ref aGB, .ref aGM, .ref aGV, .ref aGR, .int mgs, .ref aKB, .ref aKP, .ref aIK, .int mka, .int miw]))] → va_S A s.heap H locs → lv_has ls 11 [(1, .long st), (3, .int mn), (4, .int to), (5, .int v5_1), (6, .int v6_2)] → W p l e rm_X10_whyNot s m args below meth c H locs 0 0 (MQ below (HXq G post A) args s 0 0 A) (F0 m 138 ls [.int t0_6]) := by
      intro t0_6 H locs ls hF hP hD hS hl
      unfold f_X10_whyNot_B138 at hF
      refine lv_istore (lv' := [(9, .int t0_6), (1, .long st), (3, .int mn), (4, .int to), (5, .int v5_1), (6, .int v6_2)]) hx hb dX10_whyNot_138 hl (by decide) rfl (fun ls hl => ?_)
      refine lv_iload hx hb dX10_whyNot_140 (lv_at hl 0 rfl) ?_
      refine lv_if_ne (tgt := 147) hx hb dX10_whyNot_142 (by decide) (fun c_7 => ?_) (fun c_7 => ?_)
      · have hF := ifn hF c_7
        refine lv_iload hx hb dX10_whyNot_147 (lv_at hl 5 rfl) ?_
        refine lv_iconst (v := 1) hx hb dX10_whyNot_149 (by decide) ?_
        have hB166 : ∀ (H : Heap) (locs : List Loc) (ls : Array Slot), f_X10_whyNot_B166 st mn to = some r → va_P (gD G) vwCl [(mo, .inr (8, [.long mbd, .int mby, .int mgr, .int mol, .ref aMM, .ref aMT, .int mmy, .ref aPD, .int mpm, .long mrd, .int mbm, .int mbw, .long mpl, .ref aST, .ref aPL, .ref aRS, .ref aLA, .ref aBM, .int msm, .ref aRP, .ref aFI, .ref aFM, .ref aGB, .ref aGM, .ref aGV, .ref aGR, .int mgs, .ref aKB, .ref aKP, .ref aIK, .int mka, .int miw]))] H → va_D A [(mo, .inr (8, [.long mbd, .int mby, .int mgr, .int mol, .ref aMM, .ref aMT, .int mmy, .ref aPD, .int mpm, .long mrd, .int mbm, .int mbw, .long mpl, .ref aST, .ref aPL, .ref aRS, .ref aLA, .ref aBM, .int msm, .ref aRP, .ref aFI, .ref aFM, .ref aGB, .ref aGM, .ref aGV, .ref aGR, .int mgs, .ref aKB, .ref aKP, .ref aIK, .int mka, .int miw]))] → va_S A s.heap H locs → lv_has ls 11 [(1, .long st), (3, .int mn), (4, .int to)] → W p l e rm_X10_whyNot s m args below meth c H locs 0 0 (MQ below (HXq G post A) args s 0 0 A) (F0 m 166 ls []) := by
          intro H locs ls hF hP hD hS hl
          unfold f_X10_whyNot_B166 at hF
          refine lv_lload_n hx hb dX10_whyNot_166 rfl (lv_at hl 0 rfl) ?_
          refine lv_iload hx hb dX10_whyNot_167 (lv_at hl 2 rfl) ?_
          obtain ⟨r169_8, hr169_8, hF⟩ := bnd hF
          refine hm_S (wn := [(mo, .inr (8, [.long mbd, .int mby, .int mgr, .int mol, .ref aMM, .ref aMT, .int mmy, .ref aPD, .int mpm, .long mrd, .int mbm, .int mbw, .long mpl, .ref aST, .ref aPL, .ref aRS, .ref aLA, .ref aBM, .int msm, .ref aRP, .ref aFI, .ref aFM, .ref aGB, .ref aGM, .ref aGV, .ref aGR, .int mgs, .ref aKB, .ref aKP, .ref aIK, .int mka, .int miw]))]) (wr := [(mo, .inr (8, [.long mbd, .int mby, .int mgr, .int mol, .ref aMM, .ref aMT, .int mmy, .ref aPD, .int mpm, .long mrd, .int mbm, .int mbw, .long mpl, .ref aST, .ref aPL, .ref aRS, .ref aLA, .ref aBM, .int msm, .ref aRP, .ref aFI, .ref aFM, .ref aGB, .ref aGM, .ref aGV, .ref aGR, .int mgs, .ref aKB, .ref aKP, .ref aIK, .int mka, .int miw]))]) (rest := []) (sn := [.int r169_8]) hx hb hml hown hts hE hA (k_X10_manOn G l st to r169_8 hr169_8) sm_X10_manOn mw_860 ⟨rfl, rfl, Nat.le_of_ble_eq_true rfl, Nat.le_of_ble_eq_true rfl⟩ hP hD hS [] [0] [0] rfl rfl rfl (by decide) hl.1 rfl rfl (Nat.le_of_ble_eq_true rfl) dX10_whyNot_169 ⟨Nat.le_of_ble_eq_true rfl, Nat.le_of_ble_eq_true rfl⟩ (fun H locs hP hD hS => ?_)
          refine lv_istore (lv' := [(10, .int r169_8), (1, .long st), (3, .int mn), (4, .int to)]) hx hb dX10_whyNot_172 hl (by decide) rfl (fun ls hl => ?_)
          refine lv_iload hx hb dX10_whyNot_174 (lv_at hl 0 rfl) ?_
          refine lv_if_lt (tgt := 194) hx hb dX10_whyNot_176 (by decide) (fun c_9 => ?_) (fun c_9 => ?_)
          · have hF := ifp hF c_9
            refine lv_bipush (v := (-6)) hx hb dX10_whyNot_194 (by decide) ?_
            have hF := Option.some.inj hF
            subst hF
            exact hm_iret hx hb hr hlk hP hD hS hpost dX10_whyNot_196
          · have hF := ifn hF c_9
            refine lv_iload hx hb dX10_whyNot_179 (lv_at hl 0 rfl) ?_
            refine lv_iconst (v := 3) hx hb dX10_whyNot_181 (by decide) ?_
            refine lv_idiv hx hb dX10_whyNot_182 (by decide) ?_
            refine lv_iload_n hx hb dX10_whyNot_183 rfl (lv_at hl 2 rfl) ?_
            refine lv_iconst (v := 3) hx hb dX10_whyNot_184 (by decide) ?_
            refine lv_idiv hx hb dX10_whyNot_185 (by decide) ?_
            refine lv_icmp_ne (tgt := 194) hx hb dX10_whyNot_186 (by decide) (fun c_10 => ?_) (fun c_10 => ?_)
            · have hF := ifn hF c_10
              refine lv_bipush (v := (-6)) hx hb dX10_whyNot_194 (by decide) ?_
              have hF := Option.some.inj hF
              subst hF
              exact hm_iret hx hb hr hlk hP hD hS hpost dX10_whyNot_196
            · have hF := ifp hF c_10
              refine lv_bipush (v := 6) hx hb dX10_whyNot_189 (by decide) ?_
              refine lv_goto (tgt := 196) hx hb dX10_whyNot_191 (by decide) ?_
              have hF := Option.some.inj hF
              subst hF
              exact hm_iret hx hb hr hlk hP hD hS hpost dX10_whyNot_196
        refine lv_icmp_ne (tgt := 166) hx hb dX10_whyNot_150 (by decide) (fun c_11 => ?_) (fun c_11 => ?_)
        · have hF := ifn hF c_11
          exact hB166 _ _ _ hF hP hD hS (lv_sub hl [1, 2, 3] rfl)
        · have hF := ifp hF c_11
          refine lv_lload_n hx hb dX10_whyNot_153 rfl (lv_at hl 1 rfl) ?_
          refine lv_iload hx hb dX10_whyNot_154 (lv_at hl 4 rfl) ?_
          refine lv_iload hx hb dX10_whyNot_156 (lv_at hl 3 rfl) ?_
          obtain ⟨r158_12, hr158_12, hF⟩ := bnd hF
          refine hm_S (wn := [(mo, .inr (8, [.long mbd, .int mby, .int mgr, .int mol, .ref aMM, .ref aMT, .int mmy, .ref aPD, .int mpm, .long mrd, .int mbm, .int mbw, .long mpl, .ref aST, .ref aPL, .ref aRS, .ref aLA, .ref aBM, .int msm, .ref aRP, .ref aFI, .ref aFM, .ref aGB, .ref aGM, .ref aGV, .ref aGR, .int mgs, .ref aKB, .ref aKP, .ref aIK, .int mka, .int miw]))]) (wr := [(mo, .inr (8, [.long mbd, .int mby, .int mgr, .int mol, .ref aMM, .ref aMT, .int mmy, .ref aPD, .int mpm, .long mrd, .int mbm, .int mbw, .long mpl, .ref aST, .ref aPL, .ref aRS, .ref aLA, .ref aBM, .int msm, .ref aRP, .ref aFI, .ref aFM, .ref aGB, .ref aGM, .ref aGV, .ref aGR, .int mgs, .ref aKB, .ref aKP, .ref aIK, .int mka, .int miw]))]) (rest := []) (sn := [.int r158_12]) hx hb hml hown hts hE hA (k_X10_isBetween G l st v5_1 to r158_12 hr158_12) sm_X10_isBetween mw_931 ⟨rfl, rfl, Nat.le_of_ble_eq_true rfl, Nat.le_of_ble_eq_true rfl⟩ hP hD hS [] [0] [0] rfl rfl rfl (by decide) hl.1 rfl rfl (Nat.le_of_ble_eq_true rfl) dX10_whyNot_158 ⟨Nat.le_of_ble_eq_true rfl, Nat.le_of_ble_eq_true rfl⟩ (fun H locs hP hD hS => ?_)
          refine lv_if_eq (tgt := 166) hx hb dX10_whyNot_161 (by decide) (fun c_13 => ?_) (fun c_13 => ?_)
          · have hF := ifp hF c_13
            exact hB166 _ _ _ hF hP hD hS (lv_sub hl [1, 2, 3] rfl)
          · have hF := ifn hF c_13
            refine lv_iconst (v := 5) hx hb dX10_whyNot_164 (by decide) ?_
            have hF := Option.some.inj hF
            subst hF
            exact hm_iret hx hb hr hlk hP hD hS hpost dX10_whyNot_165
      · have hF := ifp hF c_7
        refine lv_iconst (v := 4) hx hb dX10_whyNot_145 (by decide) ?_
        have hF := Option.some.inj hF
        subst hF
        exact hm_iret hx hb hr hlk hP hD hS hpost dX10_whyNot_146
    refine lv_if_ne (tgt := 76) hx hb dX10_whyNot_56 (by decide) (fun c_14 => ?_) (fun c_14 => ?_)
    · have hF := ifn hF c_14
      refine lv_iload hx hb dX10_whyNot_76 (lv_at hl 2 rfl) ?_
      refine lv_iconst (v := 1) hx hb dX10_whyNot_78 (by decide) ?_
      refine lv_icmp_ne (tgt := 113) hx hb dX10_whyNot_79 (by decide) (fun c_15 => ?_) (fun c_15 => ?_)
      · have hF := ifn hF c_15
        refine lv_iload hx hb dX10_whyNot_113 (lv_at hl 1 rfl) ?_
        refine lv_iconst (v := 2) hx hb dX10_whyNot_115 (by decide) ?_
        refine lv_icmp_ge (tgt := 137) hx hb dX10_whyNot_116 (by decide) (fun c_16 => ?_) (fun c_16 => ?_)
        · have hF := ifp hF c_16
          refine lv_iconst (v := 0) hx hb dX10_whyNot_137 (by decide) ?_
          exact hB138 0 _ _ _ hF hP hD hS (lv_sub hl [5, 6, 7, 3, 2] rfl)
        · have hF := ifn hF c_16
          refine lv_iload hx hb dX10_whyNot_119 (lv_at hl 0 rfl) ?_
          refine lv_iconst (v := 2) hx hb dX10_whyNot_121 (by decide) ?_
          refine lv_icmp_ge (tgt := 137) hx hb dX10_whyNot_122 (by decide) (fun c_17 => ?_) (fun c_17 => ?_)
          · have hF := ifp hF c_17
            refine lv_iconst (v := 0) hx hb dX10_whyNot_137 (by decide) ?_
            exact hB138 0 _ _ _ hF hP hD hS (lv_sub hl [5, 6, 7, 3, 2] rfl)
          · have hF := ifn hF c_17
            refine lv_iload hx hb dX10_whyNot_125 (lv_at hl 1 rfl) ?_
            refine lv_iload hx hb dX10_whyNot_127 (lv_at hl 0 rfl) ?_
            refine lv_iadd hx hb dX10_whyNot_129 ?_
            refine lv_if_le (tgt := 137) hx hb dX10_whyNot_130 (by decide) (fun c_18 => ?_) (fun c_18 => ?_)
            · have hF := ifp hF c_18
              refine lv_iconst (v := 0) hx hb dX10_whyNot_137 (by decide) ?_
              exact hB138 0 _ _ _ hF hP hD hS (lv_sub hl [5, 6, 7, 3, 2] rfl)
            · have hF := ifn hF c_18
              refine lv_iconst (v := 1) hx hb dX10_whyNot_133 (by decide) ?_
              refine lv_goto (tgt := 138) hx hb dX10_whyNot_134 (by decide) ?_
              exact hB138 1 _ _ _ hF hP hD hS (lv_sub hl [5, 6, 7, 3, 2] rfl)
      · have hF := ifp hF c_15
        refine lv_iload hx hb dX10_whyNot_82 (lv_at hl 1 rfl) ?_
        have hB92 : ∀ (t0_19 : Int32) (H : Heap) (locs : List Loc) (ls : Array Slot), f_X10_whyNot_B92 st mn to v5_1 v6_2 v8_4 t0_19 = some r → va_P (gD G) vwCl [(mo, .inr (8, [.long mbd, .int mby, .int mgr, .int mol, .ref aMM, .ref aMT, .int mmy, .ref aPD, .int mpm, .long mrd, .int mbm, .int mbw, .long mpl, .ref aST, .ref aPL, .ref aRS, .ref aLA, .ref aBM, .int msm, .ref aRP, .ref aFI, .ref aFM, .ref aGB, .ref aGM, .ref aGV, .ref aGR, .int mgs, .ref aKB, .ref aKP, .ref aIK, .int mka, .int miw]))] H → va_D A [(mo, .inr (8, [.long mbd, .int mby, .int mgr, .int mol, .ref aMM, .ref aMT, .int mmy, .ref aPD, .int mpm, .long mrd, .int mbm, .int mbw, .long mpl, .ref aST, .ref aPL, .ref aRS, .ref aLA, .ref aBM, .int msm, .ref aRP, .ref aFI, .ref aFM, .ref aGB, .ref aGM, .ref aGV, .ref aGR, .int mgs, .ref aKB, .ref aKP, .ref aIK, .int mka, .int miw]))] → va_S A s.heap H locs → lv_has ls 11 [(1, .long st), (3, .int mn), (4, .int to), (5, .int v5_1), (6, .int v6_2), (8, .int v8_4)] → W p l e rm_X10_whyNot s m args below meth c H locs 0 0 (MQ below (HXq G post A) args s 0 0 A) (F0 m 92 ls [.int t0_19]) := by
          intro t0_19 H locs ls hF hP hD hS hl
          unfold f_X10_whyNot_B92 at hF
          refine lv_iload hx hb dX10_whyNot_92 (lv_at hl 5 rfl) ?_
          have hB102 : ∀ (t1_20 : Int32) (H : Heap) (locs : List Loc) (ls : Array Slot), f_X10_whyNot_B102 st mn to v5_1 v6_2 t0_19 t1_20 = some r → va_P (gD G) vwCl [(mo, .inr (8, [.long mbd, .int mby, .int mgr, .int mol, .ref aMM, .ref aMT, .int mmy, .ref aPD, .int mpm, .long mrd, .int mbm, .int mbw, .long mpl, .ref aST, .ref aPL, .ref aRS, .ref aLA, .ref aBM, .int msm, .ref aRP, .ref aFI, .ref aFM, .ref aGB, .ref aGM, .ref aGV, .ref aGR, .int mgs, .ref aKB, .ref aKP, .ref aIK, .int mka, .int miw]))] H → va_D A [(mo, .inr (8, [.long mbd, .int mby, .int mgr, .int mol, .ref aMM, .ref aMT, .int mmy, .ref aPD, .int mpm, .long mrd, .int mbm, .int mbw, .long mpl, .ref aST, .ref aPL, .ref aRS, .ref aLA, .ref aBM, .int msm, .ref aRP, .ref aFI, .ref aFM, .ref aGB, .ref aGM, .ref aGV, .ref aGR, .int mgs, .ref aKB, .ref aKP, .ref aIK, .int mka, .int miw]))] → va_S A s.heap H locs → lv_has ls 11 [(1, .long st), (3, .int mn), (4, .int to), (5, .int v5_1), (6, .int v6_2)] → W p l e rm_X10_whyNot s m args below meth c H locs 0 0 (MQ below (HXq G post A) args s 0 0 A) (F0 m 102 ls [.int t1_20, .int t0_19]) := by
            intro t1_20 H locs ls hF hP hD hS hl
            unfold f_X10_whyNot_B102 at hF
            refine lv_icmp_eq (tgt := 109) hx hb dX10_whyNot_102 (by decide) (fun c_21 => ?_) (fun c_21 => ?_)
            · have hF := ifp hF c_21
              refine lv_iconst (v := 0) hx hb dX10_whyNot_109 (by decide) ?_
              refine lv_goto (tgt := 138) hx hb dX10_whyNot_110 (by decide) ?_
              exact hB138 0 _ _ _ hF hP hD hS (lv_sub hl [0, 1, 2, 3, 4] rfl)
            · have hF := ifn hF c_21
              refine lv_iconst (v := 1) hx hb dX10_whyNot_105 (by decide) ?_
              refine lv_goto (tgt := 138) hx hb dX10_whyNot_106 (by decide) ?_
              exact hB138 1 _ _ _ hF hP hD hS (lv_sub hl [0, 1, 2, 3, 4] rfl)
          refine lv_if_ne (tgt := 101) hx hb dX10_whyNot_94 (by decide) (fun c_22 => ?_) (fun c_22 => ?_)
          · have hF := ifn hF c_22
            refine lv_iconst (v := 0) hx hb dX10_whyNot_101 (by decide) ?_
            exact hB102 0 _ _ _ hF hP hD hS (lv_sub hl [0, 1, 2, 3, 4] rfl)
          · have hF := ifp hF c_22
            refine lv_iconst (v := 1) hx hb dX10_whyNot_97 (by decide) ?_
            refine lv_goto (tgt := 102) hx hb dX10_whyNot_98 (by decide) ?_
            exact hB102 1 _ _ _ hF hP hD hS (lv_sub hl [0, 1, 2, 3, 4] rfl)
        refine lv_if_ne (tgt := 91) hx hb dX10_whyNot_84 (by decide) (fun c_23 => ?_) (fun c_23 => ?_)
        · have hF := ifn hF c_23
          refine lv_iconst (v := 0) hx hb dX10_whyNot_91 (by decide) ?_
          exact hB92 0 _ _ _ hF hP hD hS (lv_sub hl [5, 6, 7, 3, 2, 0] rfl)
        · have hF := ifp hF c_23
          refine lv_iconst (v := 1) hx hb dX10_whyNot_87 (by decide) ?_
          refine lv_goto (tgt := 92) hx hb dX10_whyNot_88 (by decide) ?_
          exact hB92 1 _ _ _ hF hP hD hS (lv_sub hl [5, 6, 7, 3, 2, 0] rfl)
    · have hF := ifp hF c_14
      refine lv_iload hx hb dX10_whyNot_59 (lv_at hl 1 rfl) ?_
      refine lv_iload hx hb dX10_whyNot_61 (lv_at hl 0 rfl) ?_
      refine lv_imul hx hb dX10_whyNot_63 ?_
      refine lv_iconst (v := 2) hx hb dX10_whyNot_64 (by decide) ?_
      refine lv_icmp_ne (tgt := 72) hx hb dX10_whyNot_65 (by decide) (fun c_24 => ?_) (fun c_24 => ?_)
      · have hF := ifn hF c_24
        refine lv_iconst (v := 0) hx hb dX10_whyNot_72 (by decide) ?_
        refine lv_goto (tgt := 138) hx hb dX10_whyNot_73 (by decide) ?_
        exact hB138 0 _ _ _ hF hP hD hS (lv_sub hl [5, 6, 7, 3, 2] rfl)
      · have hF := ifp hF c_24
        refine lv_iconst (v := 1) hx hb dX10_whyNot_68 (by decide) ?_
        refine lv_goto (tgt := 138) hx hb dX10_whyNot_69 (by decide) ?_
        exact hB138 1 _ _ _ hF hP hD hS (lv_sub hl [5, 6, 7, 3, 2] rfl)
  · have hF := ifp hF c_5
    refine lv_iconst (v := 3) hx hb dX10_whyNot_52 (by decide) ?_
    have hF := Option.some.inj hF
    subst hF
    exact hm_iret hx hb hr hlk hP hD hS hpost dX10_whyNot_53
def f_X10_canGo (mby : Int32) (mgr : Int32) (mol : Int32) (st : Int64) (mn : Int32) (to : Int32) : Option Int32 :=
  if (f_X10_cellOf st mn) = 31 then some 0 else Option.bind (f_X10_whyNot mby mgr mol st mn to) (fun r15_2 => if r15_2 = (-6) then some 1 else some 0)
abbrev rm_X10_canGo : Room := { frames := 4, cells := 0, slots := 0, locals := 102 }
set_option maxHeartbeats 4000000 in
set_option maxRecDepth 100000 in
theorem k_X10_canGo (G : gT) (l : Launch) (mo : Nat) (aMM : Nat) (aMT : Nat) (aPD : Nat) (aST : Nat) (aPL : Nat) (aRS : Nat) (aLA : Nat) (aBM : Nat) (aRP : Nat) (aFI : Nat) (aFM : Nat) (aGB : Nat) (aGM : Nat) (aGV : Nat) (aGR : Nat) (aKB : Nat) (aKP : Nat) (aIK : Nat) (mbd : Int64) (mby : Int32) (mgr : Int32) (mol : Int32) (mmy : Int32) (mpm : Int32) (mrd : Int64) (mbm : Int32) (mbw : Int32) (mpl : Int64) (msm : Int32) (mgs : Int32) (mka : Int32) (miw : Int32) (st : Int64) (mn : Int32) (to : Int32) (r : Int32) (hF : f_X10_canGo mby mgr mol st mn to = some r) : HM G l yX10_canGo (.code yX10_canGo cX10_canGo 5 (some .boolean) :: UW) rm_X10_canGo 0 0 [.ref mo, .long st, .int mn, .int to] [(mo, .inr (8, [.long mbd, .int mby, .int mgr, .int mol, .ref aMM, .ref aMT, .int mmy, .ref aPD, .int mpm, .long mrd, .int mbm, .int mbw, .long mpl, .ref aST, .ref aPL, .ref aRS, .ref aLA, .ref aBM, .int msm, .ref aRP, .ref aFI, .ref aFM, .ref aGB, .ref aGM, .ref aGV, .ref aGR, .int mgs, .ref aKB, .ref aKP, .ref aIK, .int mka, .int miw]))] (some (.int r)) [(mo, .inr (8, [.long mbd, .int mby, .int mgr, .int mol, .ref aMM, .ref aMT, .int mmy, .ref aPD, .int mpm, .long mrd, .int mbm, .int mbw, .long mpl, .ref aST, .ref aPL, .ref aRS, .ref aLA, .ref aBM, .int msm, .ref aRP, .ref aFI, .ref aFM, .ref aGB, .ref aGM, .ref aGV, .ref aGR, .int mgs, .ref aKB, .ref aKP, .ref aIK, .int mka, .int miw]))] := by
  refine HM.ofW (by decide) (Nat.le_of_ble_eq_true rfl) ?_
  intro p e s m args below meth c A post hpost hC hP hD hS ls hl
  obtain ⟨hx, hb, hr, hml, hown, hts, hlk, hE, hA⟩ := hC
  have hl : lv_has ls 5 [(0, .ref mo), (1, .long st), (3, .int mn), (4, .int to)] := hl
  unfold f_X10_canGo at hF
  refine lv_lload_n hx hb dX10_canGo_0 rfl (lv_at hl 1 rfl) ?_
  refine lv_iload_n hx hb dX10_canGo_1 rfl (lv_at hl 2 rfl) ?_
  refine hm_S (wn := [(mo, .inr (8, [.long mbd, .int mby, .int mgr, .int mol, .ref aMM, .ref aMT, .int mmy, .ref aPD, .int mpm, .long mrd, .int mbm, .int mbw, .long mpl, .ref aST, .ref aPL, .ref aRS, .ref aLA, .ref aBM, .int msm, .ref aRP, .ref aFI, .ref aFM, .ref aGB, .ref aGM, .ref aGV, .ref aGR, .int mgs, .ref aKB, .ref aKP, .ref aIK, .int mka, .int miw]))]) (wr := [(mo, .inr (8, [.long mbd, .int mby, .int mgr, .int mol, .ref aMM, .ref aMT, .int mmy, .ref aPD, .int mpm, .long mrd, .int mbm, .int mbw, .long mpl, .ref aST, .ref aPL, .ref aRS, .ref aLA, .ref aBM, .int msm, .ref aRP, .ref aFI, .ref aFM, .ref aGB, .ref aGM, .ref aGV, .ref aGR, .int mgs, .ref aKB, .ref aKP, .ref aIK, .int mka, .int miw]))]) (rest := []) (sn := [.int (f_X10_cellOf st mn)]) hx hb hml hown hts hE hA (k_X10_cellOf G l st mn _ rfl) sm_X10_cellOf mw_852 ⟨rfl, rfl, Nat.le_of_ble_eq_true rfl, Nat.le_of_ble_eq_true rfl⟩ hP hD hS [] [0] [0] rfl rfl rfl (by decide) hl.1 rfl rfl (Nat.le_of_ble_eq_true rfl) dX10_canGo_2 ⟨Nat.le_of_ble_eq_true rfl, Nat.le_of_ble_eq_true rfl⟩ (fun H locs hP hD hS => ?_)
  refine lv_bipush (v := 31) hx hb dX10_canGo_5 (by decide) ?_
  refine lv_icmp_eq (tgt := 27) hx hb dX10_canGo_7 (by decide) (fun c_1 => ?_) (fun c_1 => ?_)
  · have hF := ifp hF c_1
    refine lv_iconst (v := 0) hx hb dX10_canGo_27 (by decide) ?_
    have hF := Option.some.inj hF
    subst hF
    exact hm_zret hx hb hr hlk hP hD hS (by decide +kernel) hpost dX10_canGo_28
  · have hF := ifn hF c_1
    refine lv_aload_n hx hb dX10_canGo_10 rfl (lv_at hl 0 rfl) ?_
    refine lv_lload_n hx hb dX10_canGo_11 rfl (lv_at hl 1 rfl) ?_
    refine lv_iload_n hx hb dX10_canGo_12 rfl (lv_at hl 2 rfl) ?_
    refine lv_iload hx hb dX10_canGo_13 (lv_at hl 3 rfl) ?_
    obtain ⟨r15_2, hr15_2, hF⟩ := bnd hF
    refine hm_V (wn := [(mo, .inr (8, [.long mbd, .int mby, .int mgr, .int mol, .ref aMM, .ref aMT, .int mmy, .ref aPD, .int mpm, .long mrd, .int mbm, .int mbw, .long mpl, .ref aST, .ref aPL, .ref aRS, .ref aLA, .ref aBM, .int msm, .ref aRP, .ref aFI, .ref aFM, .ref aGB, .ref aGM, .ref aGV, .ref aGR, .int mgs, .ref aKB, .ref aKP, .ref aIK, .int mka, .int miw]))]) (wr := []) (rest := []) (sn := [.int r15_2]) hx hb hml hown hts hE hA (k_X10_whyNot G l mo aMM aMT aPD aST aPL aRS aLA aBM aRP aFI aFM aGB aGM aGV aGR aKB aKP aIK mbd mby mgr mol mmy mpm mrd mbm mbw mpl msm mgs mka miw st mn to r15_2 hr15_2) sm_X10_whyNot mw_924 ⟨rfl, rfl, Nat.le_of_ble_eq_true rfl, Nat.le_of_ble_eq_true rfl⟩ hP hD hS 0 rfl rfl [0] [] [0] rfl rfl rfl (by decide) hl.1 rfl rfl (Nat.le_of_ble_eq_true rfl) dX10_canGo_15 ⟨Nat.le_of_ble_eq_true rfl, Nat.le_of_ble_eq_true rfl⟩ (fun H locs hP hD hS => ?_)
    refine lv_bipush (v := (-6)) hx hb dX10_canGo_18 (by decide) ?_
    refine lv_icmp_ne (tgt := 27) hx hb dX10_canGo_20 (by decide) (fun c_3 => ?_) (fun c_3 => ?_)
    · have hF := ifn hF c_3
      refine lv_iconst (v := 0) hx hb dX10_canGo_27 (by decide) ?_
      have hF := Option.some.inj hF
      subst hF
      exact hm_zret hx hb hr hlk hP hD hS (by decide +kernel) hpost dX10_canGo_28
    · have hF := ifp hF c_3
      refine lv_iconst (v := 1) hx hb dX10_canGo_23 (by decide) ?_
      refine lv_goto (tgt := 28) hx hb dX10_canGo_24 (by decide) ?_
      have hF := Option.some.inj hF
      subst hF
      exact hm_zret hx hb hr hlk hP hD hS (by decide +kernel) hpost dX10_canGo_28
def f_X10_manMoves_L3 (mby : Int32) (mgr : Int32) (mol : Int32) (st : Int64) (mn : Int32) : Nat → Int32 → Option Int32
  | 0, _ => none
  | n+1, x4_1 =>
  if 25 ≤ x4_1 then some 0 else Option.bind (f_X10_canGo mby mgr mol st mn x4_1) (fun r15_3 => if r15_3 = 0 then jlet (x4_1 + 1) (fun v4_5 => (f_X10_manMoves_L3 mby mgr mol st mn n) v4_5) else some 1)
def f_X10_manMoves (mby : Int32) (mgr : Int32) (mol : Int32) (st : Int64) (mn : Int32) : Option Int32 :=
  f_X10_manMoves_L3 mby mgr mol st mn 100 0
abbrev rm_X10_manMoves : Room := { frames := 5, cells := 0, slots := 0, locals := 126 }
set_option maxHeartbeats 4000000 in
set_option maxRecDepth 100000 in
theorem k_X10_manMoves (G : gT) (l : Launch) (mo : Nat) (aMM : Nat) (aMT : Nat) (aPD : Nat) (aST : Nat) (aPL : Nat) (aRS : Nat) (aLA : Nat) (aBM : Nat) (aRP : Nat) (aFI : Nat) (aFM : Nat) (aGB : Nat) (aGM : Nat) (aGV : Nat) (aGR : Nat) (aKB : Nat) (aKP : Nat) (aIK : Nat) (mbd : Int64) (mby : Int32) (mgr : Int32) (mol : Int32) (mmy : Int32) (mpm : Int32) (mrd : Int64) (mbm : Int32) (mbw : Int32) (mpl : Int64) (msm : Int32) (mgs : Int32) (mka : Int32) (miw : Int32) (st : Int64) (mn : Int32) (r : Int32) (hF : f_X10_manMoves mby mgr mol st mn = some r) : HM G l yX10_manMoves (.code yX10_manMoves cX10_manMoves 5 (some .boolean) :: UW) rm_X10_manMoves 0 0 [.ref mo, .long st, .int mn] [(mo, .inr (8, [.long mbd, .int mby, .int mgr, .int mol, .ref aMM, .ref aMT, .int mmy, .ref aPD, .int mpm, .long mrd, .int mbm, .int mbw, .long mpl, .ref aST, .ref aPL, .ref aRS, .ref aLA, .ref aBM, .int msm, .ref aRP, .ref aFI, .ref aFM, .ref aGB, .ref aGM, .ref aGV, .ref aGR, .int mgs, .ref aKB, .ref aKP, .ref aIK, .int mka, .int miw]))] (some (.int r)) [(mo, .inr (8, [.long mbd, .int mby, .int mgr, .int mol, .ref aMM, .ref aMT, .int mmy, .ref aPD, .int mpm, .long mrd, .int mbm, .int mbw, .long mpl, .ref aST, .ref aPL, .ref aRS, .ref aLA, .ref aBM, .int msm, .ref aRP, .ref aFI, .ref aFM, .ref aGB, .ref aGM, .ref aGV, .ref aGR, .int mgs, .ref aKB, .ref aKP, .ref aIK, .int mka, .int miw]))] := by
  refine HM.ofW (by decide) (Nat.le_of_ble_eq_true rfl) ?_
  intro p e s m args below meth c A post hpost hC hP hD hS ls hl
  obtain ⟨hx, hb, hr, hml, hown, hts, hlk, hE, hA⟩ := hC
  have hl : lv_has ls 5 [(0, .ref mo), (1, .long st), (3, .int mn)] := hl
  unfold f_X10_manMoves at hF
  refine lv_iconst (v := 0) hx hb dX10_manMoves_0 (by decide) ?_
  refine lv_istore (lv' := [(4, .int 0), (0, .ref mo), (1, .long st), (3, .int mn)]) hx hb dX10_manMoves_1 hl (by decide) rfl (fun ls hl => ?_)
  have hL3 : ∀ (n3 : Nat) (x4_1 : Int32) (H : Heap) (locs : List Loc) (ls : Array Slot), f_X10_manMoves_L3 mby mgr mol st mn n3 x4_1 = some r → va_P (gD G) vwCl [(mo, .inr (8, [.long mbd, .int mby, .int mgr, .int mol, .ref aMM, .ref aMT, .int mmy, .ref aPD, .int mpm, .long mrd, .int mbm, .int mbw, .long mpl, .ref aST, .ref aPL, .ref aRS, .ref aLA, .ref aBM, .int msm, .ref aRP, .ref aFI, .ref aFM, .ref aGB, .ref aGM, .ref aGV, .ref aGR, .int mgs, .ref aKB, .ref aKP, .ref aIK, .int mka, .int miw]))] H → va_D A [(mo, .inr (8, [.long mbd, .int mby, .int mgr, .int mol, .ref aMM, .ref aMT, .int mmy, .ref aPD, .int mpm, .long mrd, .int mbm, .int mbw, .long mpl, .ref aST, .ref aPL, .ref aRS, .ref aLA, .ref aBM, .int msm, .ref aRP, .ref aFI, .ref aFM, .ref aGB, .ref aGM, .ref aGV, .ref aGR, .int mgs, .ref aKB, .ref aKP, .ref aIK, .int mka, .int miw]))] → va_S A s.heap H locs → lv_has ls 5 [(0, .ref mo), (1, .long st), (3, .int mn), (4, .int x4_1)] → W p l e rm_X10_manMoves s m args below meth c H locs 0 0 (MQ below (HXq G post A) args s 0 0 A) (F0 m 3 ls []) := by
    intro n3
    induction n3 with
    | zero =>
      intro x4_1 H locs ls hF
      exact absurd hF (fun h => by cases h)
    | succ n3 ih3 =>
      intro x4_1 H locs ls hF hP hD hS hl
      unfold f_X10_manMoves_L3 at hF
      refine lv_iload hx hb dX10_manMoves_3 (lv_at hl 3 rfl) ?_
      refine lv_bipush (v := 25) hx hb dX10_manMoves_5 (by decide) ?_
      refine lv_icmp_ge (tgt := 29) hx hb dX10_manMoves_7 (by decide) (fun c_2 => ?_) (fun c_2 => ?_)
      · have hF := ifp hF c_2
        refine lv_iconst (v := 0) hx hb dX10_manMoves_29 (by decide) ?_
        have hF := Option.some.inj hF
        subst hF
        exact hm_zret hx hb hr hlk hP hD hS (by decide +kernel) hpost dX10_manMoves_30
      · have hF := ifn hF c_2
        refine lv_aload_n hx hb dX10_manMoves_10 rfl (lv_at hl 0 rfl) ?_
        refine lv_lload_n hx hb dX10_manMoves_11 rfl (lv_at hl 1 rfl) ?_
        refine lv_iload_n hx hb dX10_manMoves_12 rfl (lv_at hl 2 rfl) ?_
        refine lv_iload hx hb dX10_manMoves_13 (lv_at hl 3 rfl) ?_
        obtain ⟨r15_3, hr15_3, hF⟩ := bnd hF
        refine hm_V (wn := [(mo, .inr (8, [.long mbd, .int mby, .int mgr, .int mol, .ref aMM, .ref aMT, .int mmy, .ref aPD, .int mpm, .long mrd, .int mbm, .int mbw, .long mpl, .ref aST, .ref aPL, .ref aRS, .ref aLA, .ref aBM, .int msm, .ref aRP, .ref aFI, .ref aFM, .ref aGB, .ref aGM, .ref aGV, .ref aGR, .int mgs, .ref aKB, .ref aKP, .ref aIK, .int mka, .int miw]))]) (wr := []) (rest := []) (sn := [.int r15_3]) hx hb hml hown hts hE hA (k_X10_canGo G l mo aMM aMT aPD aST aPL aRS aLA aBM aRP aFI aFM aGB aGM aGV aGR aKB aKP aIK mbd mby mgr mol mmy mpm mrd mbm mbw mpl msm mgs mka miw st mn x4_1 r15_3 hr15_3) sm_X10_canGo mw_920 ⟨rfl, rfl, Nat.le_of_ble_eq_true rfl, Nat.le_of_ble_eq_true rfl⟩ hP hD hS 0 rfl rfl [0] [] [0] rfl rfl rfl (by decide) hl.1 rfl rfl (Nat.le_of_ble_eq_true rfl) dX10_manMoves_15 ⟨Nat.le_of_ble_eq_true rfl, Nat.le_of_ble_eq_true rfl⟩ (fun H locs hP hD hS => ?_)
        refine lv_if_eq (tgt := 23) hx hb dX10_manMoves_18 (by decide) (fun c_4 => ?_) (fun c_4 => ?_)
        · have hF := ifp hF c_4
          obtain ⟨v4_5, ev4_5⟩ : ∃ z : Int32, z = x4_1 + 1 := ⟨_, rfl⟩
          have hF := jl hF ev4_5
          refine lv_iinc (v := v4_5) (lv' := [(4, .int v4_5), (0, .ref mo), (1, .long st), (3, .int mn)]) hx hb dX10_manMoves_23 hl (k := 3) rfl (by rw [ev4_5]; rfl) (by decide) rfl (fun ls hl => ?_)
          refine lv_goto (tgt := 3) hx hb dX10_manMoves_26 (by decide) ?_
          exact ih3 v4_5 _ _ _ hF hP hD hS (lv_sub hl [1, 2, 3, 0] rfl)
        · have hF := ifn hF c_4
          refine lv_iconst (v := 1) hx hb dX10_manMoves_21 (by decide) ?_
          have hF := Option.some.inj hF
          subst hF
          exact hm_zret hx hb hr hlk hP hD hS (by decide +kernel) hpost dX10_manMoves_22
  exact hL3 _ 0 _ _ _ hF hP hD hS (lv_sub hl [1, 2, 3, 0] rfl)
def f_X10_sideMoves (mby : Int32) (mgr : Int32) (mol : Int32) (st : Int64) (sd : Int32) : Option Int32 :=
  Option.bind (f_X10_manMoves mby mgr mol st (3 * sd)) (fun r5_1 => if r5_1 = 0 then Option.bind (f_X10_manMoves mby mgr mol st ((3 * sd) + 1)) (fun r18_3 => if r18_3 = 0 then Option.bind (f_X10_manMoves mby mgr mol st ((3 * sd) + 2)) (fun r31_5 => if r31_5 = 0 then some 0 else some 1) else some 1) else some 1)
abbrev rm_X10_sideMoves : Room := { frames := 6, cells := 0, slots := 0, locals := 150 }
set_option maxHeartbeats 4000000 in
set_option maxRecDepth 100000 in
theorem k_X10_sideMoves (G : gT) (l : Launch) (mo : Nat) (aMM : Nat) (aMT : Nat) (aPD : Nat) (aST : Nat) (aPL : Nat) (aRS : Nat) (aLA : Nat) (aBM : Nat) (aRP : Nat) (aFI : Nat) (aFM : Nat) (aGB : Nat) (aGM : Nat) (aGV : Nat) (aGR : Nat) (aKB : Nat) (aKP : Nat) (aIK : Nat) (mbd : Int64) (mby : Int32) (mgr : Int32) (mol : Int32) (mmy : Int32) (mpm : Int32) (mrd : Int64) (mbm : Int32) (mbw : Int32) (mpl : Int64) (msm : Int32) (mgs : Int32) (mka : Int32) (miw : Int32) (st : Int64) (sd : Int32) (r : Int32) (hF : f_X10_sideMoves mby mgr mol st sd = some r) : HM G l yX10_sideMoves (.code yX10_sideMoves cX10_sideMoves 4 (some .boolean) :: UW) rm_X10_sideMoves 0 0 [.ref mo, .long st, .int sd] [(mo, .inr (8, [.long mbd, .int mby, .int mgr, .int mol, .ref aMM, .ref aMT, .int mmy, .ref aPD, .int mpm, .long mrd, .int mbm, .int mbw, .long mpl, .ref aST, .ref aPL, .ref aRS, .ref aLA, .ref aBM, .int msm, .ref aRP, .ref aFI, .ref aFM, .ref aGB, .ref aGM, .ref aGV, .ref aGR, .int mgs, .ref aKB, .ref aKP, .ref aIK, .int mka, .int miw]))] (some (.int r)) [(mo, .inr (8, [.long mbd, .int mby, .int mgr, .int mol, .ref aMM, .ref aMT, .int mmy, .ref aPD, .int mpm, .long mrd, .int mbm, .int mbw, .long mpl, .ref aST, .ref aPL, .ref aRS, .ref aLA, .ref aBM, .int msm, .ref aRP, .ref aFI, .ref aFM, .ref aGB, .ref aGM, .ref aGV, .ref aGR, .int mgs, .ref aKB, .ref aKP, .ref aIK, .int mka, .int miw]))] := by
  refine HM.ofW (by decide) (Nat.le_of_ble_eq_true rfl) ?_
  intro p e s m args below meth c A post hpost hC hP hD hS ls hl
  obtain ⟨hx, hb, hr, hml, hown, hts, hlk, hE, hA⟩ := hC
  have hl : lv_has ls 4 [(0, .ref mo), (1, .long st), (3, .int sd)] := hl
  unfold f_X10_sideMoves at hF
  refine lv_aload_n hx hb dX10_sideMoves_0 rfl (lv_at hl 0 rfl) ?_
  refine lv_lload_n hx hb dX10_sideMoves_1 rfl (lv_at hl 1 rfl) ?_
  refine lv_iconst (v := 3) hx hb dX10_sideMoves_2 (by decide) ?_
  refine lv_iload_n hx hb dX10_sideMoves_3 rfl (lv_at hl 2 rfl) ?_
  refine lv_imul hx hb dX10_sideMoves_4 ?_
  obtain ⟨r5_1, hr5_1, hF⟩ := bnd hF
  refine hm_V (wn := [(mo, .inr (8, [.long mbd, .int mby, .int mgr, .int mol, .ref aMM, .ref aMT, .int mmy, .ref aPD, .int mpm, .long mrd, .int mbm, .int mbw, .long mpl, .ref aST, .ref aPL, .ref aRS, .ref aLA, .ref aBM, .int msm, .ref aRP, .ref aFI, .ref aFM, .ref aGB, .ref aGM, .ref aGV, .ref aGR, .int mgs, .ref aKB, .ref aKP, .ref aIK, .int mka, .int miw]))]) (wr := []) (rest := []) (sn := [.int r5_1]) hx hb hml hown hts hE hA (k_X10_manMoves G l mo aMM aMT aPD aST aPL aRS aLA aBM aRP aFI aFM aGB aGM aGV aGR aKB aKP aIK mbd mby mgr mol mmy mpm mrd mbm mbw mpl msm mgs mka miw st (3 * sd) r5_1 hr5_1) sm_X10_manMoves mw_916 ⟨rfl, rfl, Nat.le_of_ble_eq_true rfl, Nat.le_of_ble_eq_true rfl⟩ hP hD hS 0 rfl rfl [0] [] [0] rfl rfl rfl (by decide) hl.1 rfl rfl (Nat.le_of_ble_eq_true rfl) dX10_sideMoves_5 ⟨Nat.le_of_ble_eq_true rfl, Nat.le_of_ble_eq_true rfl⟩ (fun H locs hP hD hS => ?_)
  refine lv_if_ne (tgt := 37) hx hb dX10_sideMoves_8 (by decide) (fun c_2 => ?_) (fun c_2 => ?_)
  · have hF := ifn hF c_2
    refine lv_iconst (v := 1) hx hb dX10_sideMoves_37 (by decide) ?_
    refine lv_goto (tgt := 42) hx hb dX10_sideMoves_38 (by decide) ?_
    have hF := Option.some.inj hF
    subst hF
    exact hm_zret hx hb hr hlk hP hD hS (by decide +kernel) hpost dX10_sideMoves_42
  · have hF := ifp hF c_2
    refine lv_aload_n hx hb dX10_sideMoves_11 rfl (lv_at hl 0 rfl) ?_
    refine lv_lload_n hx hb dX10_sideMoves_12 rfl (lv_at hl 1 rfl) ?_
    refine lv_iconst (v := 3) hx hb dX10_sideMoves_13 (by decide) ?_
    refine lv_iload_n hx hb dX10_sideMoves_14 rfl (lv_at hl 2 rfl) ?_
    refine lv_imul hx hb dX10_sideMoves_15 ?_
    refine lv_iconst (v := 1) hx hb dX10_sideMoves_16 (by decide) ?_
    refine lv_iadd hx hb dX10_sideMoves_17 ?_
    obtain ⟨r18_3, hr18_3, hF⟩ := bnd hF
    refine hm_V (wn := [(mo, .inr (8, [.long mbd, .int mby, .int mgr, .int mol, .ref aMM, .ref aMT, .int mmy, .ref aPD, .int mpm, .long mrd, .int mbm, .int mbw, .long mpl, .ref aST, .ref aPL, .ref aRS, .ref aLA, .ref aBM, .int msm, .ref aRP, .ref aFI, .ref aFM, .ref aGB, .ref aGM, .ref aGV, .ref aGR, .int mgs, .ref aKB, .ref aKP, .ref aIK, .int mka, .int miw]))]) (wr := []) (rest := []) (sn := [.int r18_3]) hx hb hml hown hts hE hA (k_X10_manMoves G l mo aMM aMT aPD aST aPL aRS aLA aBM aRP aFI aFM aGB aGM aGV aGR aKB aKP aIK mbd mby mgr mol mmy mpm mrd mbm mbw mpl msm mgs mka miw st ((3 * sd) + 1) r18_3 hr18_3) sm_X10_manMoves mw_916 ⟨rfl, rfl, Nat.le_of_ble_eq_true rfl, Nat.le_of_ble_eq_true rfl⟩ hP hD hS 0 rfl rfl [0] [] [0] rfl rfl rfl (by decide) hl.1 rfl rfl (Nat.le_of_ble_eq_true rfl) dX10_sideMoves_18 ⟨Nat.le_of_ble_eq_true rfl, Nat.le_of_ble_eq_true rfl⟩ (fun H locs hP hD hS => ?_)
    refine lv_if_ne (tgt := 37) hx hb dX10_sideMoves_21 (by decide) (fun c_4 => ?_) (fun c_4 => ?_)
    · have hF := ifn hF c_4
      refine lv_iconst (v := 1) hx hb dX10_sideMoves_37 (by decide) ?_
      refine lv_goto (tgt := 42) hx hb dX10_sideMoves_38 (by decide) ?_
      have hF := Option.some.inj hF
      subst hF
      exact hm_zret hx hb hr hlk hP hD hS (by decide +kernel) hpost dX10_sideMoves_42
    · have hF := ifp hF c_4
      refine lv_aload_n hx hb dX10_sideMoves_24 rfl (lv_at hl 0 rfl) ?_
      refine lv_lload_n hx hb dX10_sideMoves_25 rfl (lv_at hl 1 rfl) ?_
      refine lv_iconst (v := 3) hx hb dX10_sideMoves_26 (by decide) ?_
      refine lv_iload_n hx hb dX10_sideMoves_27 rfl (lv_at hl 2 rfl) ?_
      refine lv_imul hx hb dX10_sideMoves_28 ?_
      refine lv_iconst (v := 2) hx hb dX10_sideMoves_29 (by decide) ?_
      refine lv_iadd hx hb dX10_sideMoves_30 ?_
      obtain ⟨r31_5, hr31_5, hF⟩ := bnd hF
      refine hm_V (wn := [(mo, .inr (8, [.long mbd, .int mby, .int mgr, .int mol, .ref aMM, .ref aMT, .int mmy, .ref aPD, .int mpm, .long mrd, .int mbm, .int mbw, .long mpl, .ref aST, .ref aPL, .ref aRS, .ref aLA, .ref aBM, .int msm, .ref aRP, .ref aFI, .ref aFM, .ref aGB, .ref aGM, .ref aGV, .ref aGR, .int mgs, .ref aKB, .ref aKP, .ref aIK, .int mka, .int miw]))]) (wr := []) (rest := []) (sn := [.int r31_5]) hx hb hml hown hts hE hA (k_X10_manMoves G l mo aMM aMT aPD aST aPL aRS aLA aBM aRP aFI aFM aGB aGM aGV aGR aKB aKP aIK mbd mby mgr mol mmy mpm mrd mbm mbw mpl msm mgs mka miw st ((3 * sd) + 2) r31_5 hr31_5) sm_X10_manMoves mw_916 ⟨rfl, rfl, Nat.le_of_ble_eq_true rfl, Nat.le_of_ble_eq_true rfl⟩ hP hD hS 0 rfl rfl [0] [] [0] rfl rfl rfl (by decide) hl.1 rfl rfl (Nat.le_of_ble_eq_true rfl) dX10_sideMoves_31 ⟨Nat.le_of_ble_eq_true rfl, Nat.le_of_ble_eq_true rfl⟩ (fun H locs hP hD hS => ?_)
      refine lv_if_eq (tgt := 41) hx hb dX10_sideMoves_34 (by decide) (fun c_6 => ?_) (fun c_6 => ?_)
      · have hF := ifp hF c_6
        refine lv_iconst (v := 0) hx hb dX10_sideMoves_41 (by decide) ?_
        have hF := Option.some.inj hF
        subst hF
        exact hm_zret hx hb hr hlk hP hD hS (by decide +kernel) hpost dX10_sideMoves_42
      · have hF := ifn hF c_6
        refine lv_iconst (v := 1) hx hb dX10_sideMoves_37 (by decide) ?_
        refine lv_goto (tgt := 42) hx hb dX10_sideMoves_38 (by decide) ?_
        have hF := Option.some.inj hF
        subst hF
        exact hm_zret hx hb hr hlk hP hD hS (by decide +kernel) hpost dX10_sideMoves_42
def f_X10_broughtBy (mby : Int32) (mgr : Int32) (mol : Int32) (st : Int64) : Option Int32 :=
  if (f_X10_cellOf st 0) = 31 then some 2 else if (f_X10_cellOf st 3) = 31 then some 1 else jlet (f_X10_turnOf st) (fun v3_3 => Option.bind (f_X10_sideMoves mby mgr mol st v3_3) (fun r32_4 => if r32_4 = 0 then Option.bind (f_X10_sideMoves mby mgr mol st (1 - v3_3)) (fun r45_6 => if r45_6 = 0 then some 3 else if v3_3 = 0 then some 2 else some 1) else some 0))
abbrev rm_X10_broughtBy : Room := { frames := 7, cells := 0, slots := 0, locals := 173 }
set_option maxHeartbeats 4000000 in
set_option maxRecDepth 100000 in
theorem k_X10_broughtBy (G : gT) (l : Launch) (mo : Nat) (aMM : Nat) (aMT : Nat) (aPD : Nat) (aST : Nat) (aPL : Nat) (aRS : Nat) (aLA : Nat) (aBM : Nat) (aRP : Nat) (aFI : Nat) (aFM : Nat) (aGB : Nat) (aGM : Nat) (aGV : Nat) (aGR : Nat) (aKB : Nat) (aKP : Nat) (aIK : Nat) (mbd : Int64) (mby : Int32) (mgr : Int32) (mol : Int32) (mmy : Int32) (mpm : Int32) (mrd : Int64) (mbm : Int32) (mbw : Int32) (mpl : Int64) (msm : Int32) (mgs : Int32) (mka : Int32) (miw : Int32) (st : Int64) (r : Int32) (hF : f_X10_broughtBy mby mgr mol st = some r) : HM G l yX10_broughtBy (.code yX10_broughtBy cX10_broughtBy 4 (some .int) :: UW) rm_X10_broughtBy 0 0 [.ref mo, .long st] [(mo, .inr (8, [.long mbd, .int mby, .int mgr, .int mol, .ref aMM, .ref aMT, .int mmy, .ref aPD, .int mpm, .long mrd, .int mbm, .int mbw, .long mpl, .ref aST, .ref aPL, .ref aRS, .ref aLA, .ref aBM, .int msm, .ref aRP, .ref aFI, .ref aFM, .ref aGB, .ref aGM, .ref aGV, .ref aGR, .int mgs, .ref aKB, .ref aKP, .ref aIK, .int mka, .int miw]))] (some (.int r)) [(mo, .inr (8, [.long mbd, .int mby, .int mgr, .int mol, .ref aMM, .ref aMT, .int mmy, .ref aPD, .int mpm, .long mrd, .int mbm, .int mbw, .long mpl, .ref aST, .ref aPL, .ref aRS, .ref aLA, .ref aBM, .int msm, .ref aRP, .ref aFI, .ref aFM, .ref aGB, .ref aGM, .ref aGV, .ref aGR, .int mgs, .ref aKB, .ref aKP, .ref aIK, .int mka, .int miw]))] := by
  refine HM.ofW (by decide) (Nat.le_of_ble_eq_true rfl) ?_
  intro p e s m args below meth c A post hpost hC hP hD hS ls hl
  obtain ⟨hx, hb, hr, hml, hown, hts, hlk, hE, hA⟩ := hC
  have hl : lv_has ls 4 [(0, .ref mo), (1, .long st)] := hl
  unfold f_X10_broughtBy at hF
  refine lv_lload_n hx hb dX10_broughtBy_0 rfl (lv_at hl 1 rfl) ?_
  refine lv_iconst (v := 0) hx hb dX10_broughtBy_1 (by decide) ?_
  refine hm_S (wn := [(mo, .inr (8, [.long mbd, .int mby, .int mgr, .int mol, .ref aMM, .ref aMT, .int mmy, .ref aPD, .int mpm, .long mrd, .int mbm, .int mbw, .long mpl, .ref aST, .ref aPL, .ref aRS, .ref aLA, .ref aBM, .int msm, .ref aRP, .ref aFI, .ref aFM, .ref aGB, .ref aGM, .ref aGV, .ref aGR, .int mgs, .ref aKB, .ref aKP, .ref aIK, .int mka, .int miw]))]) (wr := [(mo, .inr (8, [.long mbd, .int mby, .int mgr, .int mol, .ref aMM, .ref aMT, .int mmy, .ref aPD, .int mpm, .long mrd, .int mbm, .int mbw, .long mpl, .ref aST, .ref aPL, .ref aRS, .ref aLA, .ref aBM, .int msm, .ref aRP, .ref aFI, .ref aFM, .ref aGB, .ref aGM, .ref aGV, .ref aGR, .int mgs, .ref aKB, .ref aKP, .ref aIK, .int mka, .int miw]))]) (rest := []) (sn := [.int (f_X10_cellOf st 0)]) hx hb hml hown hts hE hA (k_X10_cellOf G l st 0 _ rfl) sm_X10_cellOf mw_852 ⟨rfl, rfl, Nat.le_of_ble_eq_true rfl, Nat.le_of_ble_eq_true rfl⟩ hP hD hS [] [0] [0] rfl rfl rfl (by decide) hl.1 rfl rfl (Nat.le_of_ble_eq_true rfl) dX10_broughtBy_2 ⟨Nat.le_of_ble_eq_true rfl, Nat.le_of_ble_eq_true rfl⟩ (fun H locs hP hD hS => ?_)
  refine lv_bipush (v := 31) hx hb dX10_broughtBy_5 (by decide) ?_
  refine lv_icmp_ne (tgt := 12) hx hb dX10_broughtBy_7 (by decide) (fun c_1 => ?_) (fun c_1 => ?_)
  · have hF := ifn hF c_1
    refine lv_lload_n hx hb dX10_broughtBy_12 rfl (lv_at hl 1 rfl) ?_
    refine lv_iconst (v := 3) hx hb dX10_broughtBy_13 (by decide) ?_
    refine hm_S (wn := [(mo, .inr (8, [.long mbd, .int mby, .int mgr, .int mol, .ref aMM, .ref aMT, .int mmy, .ref aPD, .int mpm, .long mrd, .int mbm, .int mbw, .long mpl, .ref aST, .ref aPL, .ref aRS, .ref aLA, .ref aBM, .int msm, .ref aRP, .ref aFI, .ref aFM, .ref aGB, .ref aGM, .ref aGV, .ref aGR, .int mgs, .ref aKB, .ref aKP, .ref aIK, .int mka, .int miw]))]) (wr := [(mo, .inr (8, [.long mbd, .int mby, .int mgr, .int mol, .ref aMM, .ref aMT, .int mmy, .ref aPD, .int mpm, .long mrd, .int mbm, .int mbw, .long mpl, .ref aST, .ref aPL, .ref aRS, .ref aLA, .ref aBM, .int msm, .ref aRP, .ref aFI, .ref aFM, .ref aGB, .ref aGM, .ref aGV, .ref aGR, .int mgs, .ref aKB, .ref aKP, .ref aIK, .int mka, .int miw]))]) (rest := []) (sn := [.int (f_X10_cellOf st 3)]) hx hb hml hown hts hE hA (k_X10_cellOf G l st 3 _ rfl) sm_X10_cellOf mw_852 ⟨rfl, rfl, Nat.le_of_ble_eq_true rfl, Nat.le_of_ble_eq_true rfl⟩ hP hD hS [] [0] [0] rfl rfl rfl (by decide) hl.1 rfl rfl (Nat.le_of_ble_eq_true rfl) dX10_broughtBy_14 ⟨Nat.le_of_ble_eq_true rfl, Nat.le_of_ble_eq_true rfl⟩ (fun H locs hP hD hS => ?_)
    refine lv_bipush (v := 31) hx hb dX10_broughtBy_17 (by decide) ?_
    refine lv_icmp_ne (tgt := 24) hx hb dX10_broughtBy_19 (by decide) (fun c_2 => ?_) (fun c_2 => ?_)
    · have hF := ifn hF c_2
      refine lv_lload_n hx hb dX10_broughtBy_24 rfl (lv_at hl 1 rfl) ?_
      refine hm_S (wn := [(mo, .inr (8, [.long mbd, .int mby, .int mgr, .int mol, .ref aMM, .ref aMT, .int mmy, .ref aPD, .int mpm, .long mrd, .int mbm, .int mbw, .long mpl, .ref aST, .ref aPL, .ref aRS, .ref aLA, .ref aBM, .int msm, .ref aRP, .ref aFI, .ref aFM, .ref aGB, .ref aGM, .ref aGV, .ref aGR, .int mgs, .ref aKB, .ref aKP, .ref aIK, .int mka, .int miw]))]) (wr := [(mo, .inr (8, [.long mbd, .int mby, .int mgr, .int mol, .ref aMM, .ref aMT, .int mmy, .ref aPD, .int mpm, .long mrd, .int mbm, .int mbw, .long mpl, .ref aST, .ref aPL, .ref aRS, .ref aLA, .ref aBM, .int msm, .ref aRP, .ref aFI, .ref aFM, .ref aGB, .ref aGM, .ref aGV, .ref aGR, .int mgs, .ref aKB, .ref aKP, .ref aIK, .int mka, .int miw]))]) (rest := []) (sn := [.int (f_X10_turnOf st)]) hx hb hml hown hts hE hA (k_X10_turnOf G l st _ rfl) sm_X10_turnOf mw_848 ⟨rfl, rfl, Nat.le_of_ble_eq_true rfl, Nat.le_of_ble_eq_true rfl⟩ hP hD hS [] [0] [0] rfl rfl rfl (by decide) hl.1 rfl rfl (Nat.le_of_ble_eq_true rfl) dX10_broughtBy_25 ⟨Nat.le_of_ble_eq_true rfl, Nat.le_of_ble_eq_true rfl⟩ (fun H locs hP hD hS => ?_)
      refine lv_topi (fun v3_3 ev3_3 => ?_)
      have hF := jl hF ev3_3
      refine lv_istore_n (lv' := [(3, .int v3_3), (0, .ref mo), (1, .long st)]) hx hb dX10_broughtBy_28 rfl hl (by decide) rfl (fun ls hl => ?_)
      refine lv_aload_n hx hb dX10_broughtBy_29 rfl (lv_at hl 1 rfl) ?_
      refine lv_lload_n hx hb dX10_broughtBy_30 rfl (lv_at hl 2 rfl) ?_
      refine lv_iload_n hx hb dX10_broughtBy_31 rfl (lv_at hl 0 rfl) ?_
      obtain ⟨r32_4, hr32_4, hF⟩ := bnd hF
      refine hm_V (wn := [(mo, .inr (8, [.long mbd, .int mby, .int mgr, .int mol, .ref aMM, .ref aMT, .int mmy, .ref aPD, .int mpm, .long mrd, .int mbm, .int mbw, .long mpl, .ref aST, .ref aPL, .ref aRS, .ref aLA, .ref aBM, .int msm, .ref aRP, .ref aFI, .ref aFM, .ref aGB, .ref aGM, .ref aGV, .ref aGR, .int mgs, .ref aKB, .ref aKP, .ref aIK, .int mka, .int miw]))]) (wr := []) (rest := []) (sn := [.int r32_4]) hx hb hml hown hts hE hA (k_X10_sideMoves G l mo aMM aMT aPD aST aPL aRS aLA aBM aRP aFI aFM aGB aGM aGV aGR aKB aKP aIK mbd mby mgr mol mmy mpm mrd mbm mbw mpl msm mgs mka miw st v3_3 r32_4 hr32_4) sm_X10_sideMoves mw_912 ⟨rfl, rfl, Nat.le_of_ble_eq_true rfl, Nat.le_of_ble_eq_true rfl⟩ hP hD hS 0 rfl rfl [0] [] [0] rfl rfl rfl (by decide) hl.1 rfl rfl (Nat.le_of_ble_eq_true rfl) dX10_broughtBy_32 ⟨Nat.le_of_ble_eq_true rfl, Nat.le_of_ble_eq_true rfl⟩ (fun H locs hP hD hS => ?_)
      refine lv_if_eq (tgt := 40) hx hb dX10_broughtBy_35 (by decide) (fun c_5 => ?_) (fun c_5 => ?_)
      · have hF := ifp hF c_5
        refine lv_aload_n hx hb dX10_broughtBy_40 rfl (lv_at hl 1 rfl) ?_
        refine lv_lload_n hx hb dX10_broughtBy_41 rfl (lv_at hl 2 rfl) ?_
        refine lv_iconst (v := 1) hx hb dX10_broughtBy_42 (by decide) ?_
        refine lv_iload_n hx hb dX10_broughtBy_43 rfl (lv_at hl 0 rfl) ?_
        refine lv_isub hx hb dX10_broughtBy_44 ?_
        obtain ⟨r45_6, hr45_6, hF⟩ := bnd hF
        refine hm_V (wn := [(mo, .inr (8, [.long mbd, .int mby, .int mgr, .int mol, .ref aMM, .ref aMT, .int mmy, .ref aPD, .int mpm, .long mrd, .int mbm, .int mbw, .long mpl, .ref aST, .ref aPL, .ref aRS, .ref aLA, .ref aBM, .int msm, .ref aRP, .ref aFI, .ref aFM, .ref aGB, .ref aGM, .ref aGV, .ref aGR, .int mgs, .ref aKB, .ref aKP, .ref aIK, .int mka, .int miw]))]) (wr := []) (rest := []) (sn := [.int r45_6]) hx hb hml hown hts hE hA (k_X10_sideMoves G l mo aMM aMT aPD aST aPL aRS aLA aBM aRP aFI aFM aGB aGM aGV aGR aKB aKP aIK mbd mby mgr mol mmy mpm mrd mbm mbw mpl msm mgs mka miw st (1 - v3_3) r45_6 hr45_6) sm_X10_sideMoves mw_912 ⟨rfl, rfl, Nat.le_of_ble_eq_true rfl, Nat.le_of_ble_eq_true rfl⟩ hP hD hS 0 rfl rfl [0] [] [0] rfl rfl rfl (by decide) hl.1 rfl rfl (Nat.le_of_ble_eq_true rfl) dX10_broughtBy_45 ⟨Nat.le_of_ble_eq_true rfl, Nat.le_of_ble_eq_true rfl⟩ (fun H locs hP hD hS => ?_)
        refine lv_if_ne (tgt := 55) hx hb dX10_broughtBy_48 (by decide) (fun c_7 => ?_) (fun c_7 => ?_)
        · have hF := ifn hF c_7
          refine lv_iload_n hx hb dX10_broughtBy_55 rfl (lv_at hl 0 rfl) ?_
          refine lv_if_ne (tgt := 63) hx hb dX10_broughtBy_56 (by decide) (fun c_8 => ?_) (fun c_8 => ?_)
          · have hF := ifn hF c_8
            refine lv_iconst (v := 1) hx hb dX10_broughtBy_63 (by decide) ?_
            have hF := Option.some.inj hF
            subst hF
            exact hm_iret hx hb hr hlk hP hD hS hpost dX10_broughtBy_64
          · have hF := ifp hF c_8
            refine lv_iconst (v := 2) hx hb dX10_broughtBy_59 (by decide) ?_
            refine lv_goto (tgt := 64) hx hb dX10_broughtBy_60 (by decide) ?_
            have hF := Option.some.inj hF
            subst hF
            exact hm_iret hx hb hr hlk hP hD hS hpost dX10_broughtBy_64
        · have hF := ifp hF c_7
          refine lv_iconst (v := 3) hx hb dX10_broughtBy_51 (by decide) ?_
          refine lv_goto (tgt := 64) hx hb dX10_broughtBy_52 (by decide) ?_
          have hF := Option.some.inj hF
          subst hF
          exact hm_iret hx hb hr hlk hP hD hS hpost dX10_broughtBy_64
      · have hF := ifn hF c_5
        refine lv_iconst (v := 0) hx hb dX10_broughtBy_38 (by decide) ?_
        have hF := Option.some.inj hF
        subst hF
        exact hm_iret hx hb hr hlk hP hD hS hpost dX10_broughtBy_39
    · have hF := ifp hF c_2
      refine lv_iconst (v := 1) hx hb dX10_broughtBy_22 (by decide) ?_
      have hF := Option.some.inj hF
      subst hF
      exact hm_iret hx hb hr hlk hP hD hS hpost dX10_broughtBy_23
  · have hF := ifp hF c_1
    refine lv_iconst (v := 2) hx hb dX10_broughtBy_10 (by decide) ?_
    have hF := Option.some.inj hF
    subst hF
    exact hm_iret hx hb hr hlk hP hD hS hpost dX10_broughtBy_11
def f_X10_gone_B54 (mn : Int32) (to : Int32) (t0_2 : Int64) (t3_4 : Int32) : Option Int64 :=
  some ((f_X10_put t0_2 mn to t3_4) ^^^ 18014398509481984)
def f_X10_gone_B25 (st : Int64) (mn : Int32) (to : Int32) (t0_2 : Int64) : Option Int64 :=
  jlet (f_X10_ageOf st mn) (fun v7_3 => if 9 ≤ v7_3 then f_X10_gone_B54 mn to t0_2 9 else f_X10_gone_B54 mn to t0_2 (v7_3 + 1))
def f_X10_gone (st : Int64) (mn : Int32) (to : Int32) : Option Int64 :=
  Option.bind (f_X10_manOn st to) (fun r2_1 => if r2_1 < 0 then f_X10_gone_B25 st mn to st else f_X10_gone_B25 st mn to (f_X10_put st r2_1 31 0))
abbrev rm_X10_gone : Room := { frames := 2, cells := 0, slots := 0, locals := 45 }
set_option maxHeartbeats 4000000 in
set_option maxRecDepth 100000 in
theorem k_X10_gone (G : gT) (l : Launch) (st : Int64) (mn : Int32) (to : Int32) (r : Int64) (hF : f_X10_gone st mn to = some r) : HM G l yX10_gone (.code yX10_gone cX10_gone 8 (some .long) :: UW) rm_X10_gone 0 0 [.long st, .int mn, .int to] [] (some (.long r)) [] := by
  refine HM.ofW (by decide) (Nat.le_of_ble_eq_true rfl) ?_
  intro p e s m args below meth c A post hpost hC hP hD hS ls hl
  obtain ⟨hx, hb, hr, hml, hown, hts, hlk, hE, hA⟩ := hC
  have hl : lv_has ls 8 [(0, .long st), (2, .int mn), (3, .int to)] := hl
  unfold f_X10_gone at hF
  refine lv_lload_n hx hb dX10_gone_0 rfl (lv_at hl 0 rfl) ?_
  refine lv_iload_n hx hb dX10_gone_1 rfl (lv_at hl 2 rfl) ?_
  obtain ⟨r2_1, hr2_1, hF⟩ := bnd hF
  refine hm_S (wn := []) (wr := []) (rest := []) (sn := [.int r2_1]) hx hb hml hown hts hE hA (k_X10_manOn G l st to r2_1 hr2_1) sm_X10_manOn mw_860 ⟨rfl, rfl, Nat.le_of_ble_eq_true rfl, Nat.le_of_ble_eq_true rfl⟩ hP hD hS [] [] [] rfl rfl rfl (by decide) hl.1 rfl rfl (Nat.le_of_ble_eq_true rfl) dX10_gone_2 ⟨Nat.le_of_ble_eq_true rfl, Nat.le_of_ble_eq_true rfl⟩ (fun H locs hP hD hS => ?_)
  refine lv_istore (lv' := [(4, .int r2_1), (0, .long st), (2, .int mn), (3, .int to)]) hx hb dX10_gone_5 hl (by decide) rfl (fun ls hl => ?_)
  refine lv_iload hx hb dX10_gone_7 (lv_at hl 0 rfl) ?_
  have hB25 : ∀ (t0_2 : Int64) (H : Heap) (locs : List Loc) (ls : Array Slot), f_X10_gone_B25 st mn to t0_2 = some r → va_P (gD G) vwCl [] H → va_D A [] → va_S A s.heap H locs → lv_has ls 8 [(0, .long st), (2, .int mn), (3, .int to)] → W p l e rm_X10_gone s m args below meth c H locs 0 0 (MQ below (HXq G post A) args s 0 0 A) (F0 m 25 ls [.long t0_2]) := by
    intro t0_2 H locs ls hF hP hD hS hl
    unfold f_X10_gone_B25 at hF
    refine lv_lstore (lv' := [(5, .long t0_2), (0, .long st), (2, .int mn), (3, .int to)]) hx hb dX10_gone_25 hl (by decide) rfl (fun ls hl => ?_)
    refine lv_lload_n hx hb dX10_gone_27 rfl (lv_at hl 1 rfl) ?_
    refine lv_iload_n hx hb dX10_gone_28 rfl (lv_at hl 2 rfl) ?_
    refine hm_S (wn := []) (wr := []) (rest := []) (sn := [.int (f_X10_ageOf st mn)]) hx hb hml hown hts hE hA (k_X10_ageOf G l st mn _ rfl) sm_X10_ageOf mw_892 ⟨rfl, rfl, Nat.le_of_ble_eq_true rfl, Nat.le_of_ble_eq_true rfl⟩ hP hD hS [] [] [] rfl rfl rfl (by decide) hl.1 rfl rfl (Nat.le_of_ble_eq_true rfl) dX10_gone_29 ⟨Nat.le_of_ble_eq_true rfl, Nat.le_of_ble_eq_true rfl⟩ (fun H locs hP hD hS => ?_)
    refine lv_topi (fun v7_3 ev7_3 => ?_)
    have hF := jl hF ev7_3
    refine lv_istore (lv' := [(7, .int v7_3), (5, .long t0_2), (0, .long st), (2, .int mn), (3, .int to)]) hx hb dX10_gone_32 hl (by decide) rfl (fun ls hl => ?_)
    refine lv_lload hx hb dX10_gone_34 (lv_at hl 1 rfl) ?_
    refine lv_iload_n hx hb dX10_gone_36 rfl (lv_at hl 3 rfl) ?_
    refine lv_iload_n hx hb dX10_gone_37 rfl (lv_at hl 4 rfl) ?_
    refine lv_iload hx hb dX10_gone_38 (lv_at hl 0 rfl) ?_
    refine lv_bipush (v := 9) hx hb dX10_gone_40 (by decide) ?_
    have hB54 : ∀ (t3_4 : Int32) (H : Heap) (locs : List Loc) (ls : Array Slot), f_X10_gone_B54 mn to t0_2 t3_4 = some r → va_P (gD G) vwCl [] H → va_D A [] → va_S A s.heap H locs → lv_has ls 8 [] → W p l e rm_X10_gone s m args below meth c H locs 0 0 (MQ below (HXq G post A) args s 0 0 A) (F0 m 54 ls [.int t3_4, .int to, .int mn, .long t0_2]) := by
      intro t3_4 H locs ls hF hP hD hS hl
      unfold f_X10_gone_B54 at hF
      refine hm_S (wn := []) (wr := []) (rest := []) (sn := [.long (f_X10_put t0_2 mn to t3_4)]) hx hb hml hown hts hE hA (k_X10_put G l t0_2 mn to t3_4 _ rfl) sm_X10_put mw_724 ⟨rfl, rfl, Nat.le_of_ble_eq_true rfl, Nat.le_of_ble_eq_true rfl⟩ hP hD hS [] [] [] rfl rfl rfl (by decide) hl.1 rfl rfl (Nat.le_of_ble_eq_true rfl) dX10_gone_54 ⟨Nat.le_of_ble_eq_true rfl, Nat.le_of_ble_eq_true rfl⟩ (fun H locs hP hD hS => ?_)
      refine lv_ldc2 (v := 18014398509481984) hx hb hown (hts _ (List.mem_cons_of_mem _ mw_855)) dX10_gone_57 ?_
      refine lv_lxor hx hb dX10_gone_60 ?_
      have hF := Option.some.inj hF
      subst hF
      exact hm_lret hx hb hr hlk hP hD hS hpost dX10_gone_61
    refine lv_icmp_ge (tgt := 52) hx hb dX10_gone_42 (by decide) (fun c_5 => ?_) (fun c_5 => ?_)
    · have hF := ifp hF c_5
      refine lv_bipush (v := 9) hx hb dX10_gone_52 (by decide) ?_
      exact hB54 9 _ _ _ hF hP hD hS (lv_sub hl [] rfl)
    · have hF := ifn hF c_5
      refine lv_iload hx hb dX10_gone_45 (lv_at hl 0 rfl) ?_
      refine lv_iconst (v := 1) hx hb dX10_gone_47 (by decide) ?_
      refine lv_iadd hx hb dX10_gone_48 ?_
      refine lv_goto (tgt := 54) hx hb dX10_gone_49 (by decide) ?_
      exact hB54 (v7_3 + 1) _ _ _ hF hP hD hS (lv_sub hl [] rfl)
  refine lv_if_lt (tgt := 24) hx hb dX10_gone_9 (by decide) (fun c_6 => ?_) (fun c_6 => ?_)
  · have hF := ifp hF c_6
    refine lv_lload_n hx hb dX10_gone_24 rfl (lv_at hl 1 rfl) ?_
    exact hB25 st _ _ _ hF hP hD hS (lv_sub hl [1, 2, 3] rfl)
  · have hF := ifn hF c_6
    refine lv_lload_n hx hb dX10_gone_12 rfl (lv_at hl 1 rfl) ?_
    refine lv_iload hx hb dX10_gone_13 (lv_at hl 0 rfl) ?_
    refine lv_bipush (v := 31) hx hb dX10_gone_15 (by decide) ?_
    refine lv_iconst (v := 0) hx hb dX10_gone_17 (by decide) ?_
    refine hm_S (wn := []) (wr := []) (rest := []) (sn := [.long (f_X10_put st r2_1 31 0)]) hx hb hml hown hts hE hA (k_X10_put G l st r2_1 31 0 _ rfl) sm_X10_put mw_724 ⟨rfl, rfl, Nat.le_of_ble_eq_true rfl, Nat.le_of_ble_eq_true rfl⟩ hP hD hS [] [] [] rfl rfl rfl (by decide) hl.1 rfl rfl (Nat.le_of_ble_eq_true rfl) dX10_gone_18 ⟨Nat.le_of_ble_eq_true rfl, Nat.le_of_ble_eq_true rfl⟩ (fun H locs hP hD hS => ?_)
    refine lv_goto (tgt := 25) hx hb dX10_gone_21 (by decide) ?_
    exact hB25 (f_X10_put st r2_1 31 0) _ _ _ hF hP hD hS (lv_sub hl [1, 2, 3] rfl)
def f_X10_findMoves_B86 (k_35 : Int32 → Int32 → (Nat → Int32) → (Nat → Int32) → Option (Int32 × (Nat → Int32) × (Nat → Int32))) (x5_9 : Int32) (mmy_16 : Int32) (xmm_17 : (Nat → Int32)) (xmt_18 : (Nat → Int32)) : Option (Int32 × (Nat → Int32) × (Nat → Int32)) :=
  jlet (x5_9 + 1) (fun v5_19 => k_35 v5_19 mmy_16 xmm_17 xmt_18)
def f_X10_findMoves_L35 (k_24 : Int32 → Int32 → (Nat → Int32) → (Nat → Int32) → Option (Int32 × (Nat → Int32) × (Nat → Int32))) (mby : Int32) (mgr : Int32) (mol : Int32) (st : Int64) (x4_4 : Int32) : Nat → Int32 → Int32 → (Nat → Int32) → (Nat → Int32) → Option (Int32 × (Nat → Int32) × (Nat → Int32))
  | 0, _, _, _, _ => none
  | n+1, x5_9, mmy_10, xmm_11, xmt_12 =>
  if 25 ≤ x5_9 then jlet (x4_4 + 1) (fun v4_14 => k_24 v4_14 mmy_10 xmm_11 xmt_12) else Option.bind (f_X10_canGo mby mgr mol st x4_4 x5_9) (fun r48_15 => if r48_15 = 0 then f_X10_findMoves_B86 (f_X10_findMoves_L35 k_24 mby mgr mol st x4_4 n) x5_9 mmy_10 xmm_11 xmt_12 else if (mmy_10) < 0 ∨ 75 ≤ (mmy_10).toNatClampNeg then none else jlet (upd xmm_11 (mmy_10).toNatClampNeg x4_4) (fun a64_22 => if (mmy_10) < 0 ∨ 75 ≤ (mmy_10).toNatClampNeg then none else jlet (upd xmt_12 (mmy_10).toNatClampNeg x5_9) (fun a75_24 => jlet (mmy_10 + 1) (fun u83_25 => f_X10_findMoves_B86 (f_X10_findMoves_L35 k_24 mby mgr mol st x4_4 n) x5_9 u83_25 a64_22 a75_24))))
def f_X10_findMoves_L24 (mby : Int32) (mgr : Int32) (mol : Int32) (st : Int64) (v3_3 : Int32) : Nat → Int32 → Int32 → (Nat → Int32) → (Nat → Int32) → Option (Int32 × (Nat → Int32) × (Nat → Int32))
  | 0, _, _, _, _ => none
  | n+1, x4_4, mmy_5, xmm_6, xmt_7 =>
  if (v3_3 + 3) ≤ x4_4 then some (mmy_5, xmm_6, xmt_7) else f_X10_findMoves_L35 (f_X10_findMoves_L24 mby mgr mol st v3_3 n) mby mgr mol st x4_4 100 0 mmy_5 xmm_6 xmt_7
def f_X10_findMoves (mby : Int32) (mgr : Int32) (mol : Int32) (xmm : (Nat → Int32)) (xmt : (Nat → Int32)) (st : Int64) : Option (Int32 × (Nat → Int32) × (Nat → Int32)) :=
  Option.bind (f_X10_broughtBy mby mgr mol st) (fun r7_1 => if r7_1 = 0 then jlet (3 * (f_X10_turnOf st)) (fun v3_3 => f_X10_findMoves_L24 mby mgr mol st v3_3 100 v3_3 0 xmm xmt) else some (0, xmm, xmt))
abbrev rm_X10_findMoves : Room := { frames := 8, cells := 0, slots := 0, locals := 196 }
set_option maxHeartbeats 4000000 in
set_option maxRecDepth 100000 in
theorem k_X10_findMoves (G : gT) (l : Launch) (mo : Nat) (aMM : Nat) (aMT : Nat) (aPD : Nat) (aST : Nat) (aPL : Nat) (aRS : Nat) (aLA : Nat) (aBM : Nat) (aRP : Nat) (aFI : Nat) (aFM : Nat) (aGB : Nat) (aGM : Nat) (aGV : Nat) (aGR : Nat) (aKB : Nat) (aKP : Nat) (aIK : Nat) (mbd : Int64) (mby : Int32) (mgr : Int32) (mol : Int32) (mmy : Int32) (mpm : Int32) (mrd : Int64) (mbm : Int32) (mbw : Int32) (mpl : Int64) (msm : Int32) (mgs : Int32) (mka : Int32) (miw : Int32) (xmm : (Nat → Int32)) (xmt : (Nat → Int32)) (st : Int64) (r : Int32 × (Nat → Int32) × (Nat → Int32)) (hF : f_X10_findMoves mby mgr mol xmm xmt st = some r) : HM G l yX10_findMoves (.code yX10_findMoves cX10_findMoves 6 none :: UW) rm_X10_findMoves 0 0 [.ref mo, .long st] [(mo, .inr (8, [.long mbd, .int mby, .int mgr, .int mol, .ref aMM, .ref aMT, .int mmy, .ref aPD, .int mpm, .long mrd, .int mbm, .int mbw, .long mpl, .ref aST, .ref aPL, .ref aRS, .ref aLA, .ref aBM, .int msm, .ref aRP, .ref aFI, .ref aFM, .ref aGB, .ref aGM, .ref aGV, .ref aGR, .int mgs, .ref aKB, .ref aKP, .ref aIK, .int mka, .int miw])), (aMM, .inl (gI G, 75, .inl xmm)), (aMT, .inl (gI G, 75, .inl xmt))] none [(mo, .inr (8, [.long mbd, .int mby, .int mgr, .int mol, .ref aMM, .ref aMT, .int r.1, .ref aPD, .int mpm, .long mrd, .int mbm, .int mbw, .long mpl, .ref aST, .ref aPL, .ref aRS, .ref aLA, .ref aBM, .int msm, .ref aRP, .ref aFI, .ref aFM, .ref aGB, .ref aGM, .ref aGV, .ref aGR, .int mgs, .ref aKB, .ref aKP, .ref aIK, .int mka, .int miw])), (aMM, .inl (gI G, 75, .inl r.2.1)), (aMT, .inl (gI G, 75, .inl r.2.2))] := by
  refine HM.ofW (by decide) (Nat.le_of_ble_eq_true rfl) ?_
  intro p e s m args below meth c A post hpost hC hP hD hS ls hl
  obtain ⟨hx, hb, hr, hml, hown, hts, hlk, hE, hA⟩ := hC
  have hl : lv_has ls 6 [(0, .ref mo), (1, .long st)] := hl
  unfold f_X10_findMoves at hF
  refine lv_aload_n hx hb dX10_findMoves_0 rfl (lv_at hl 0 rfl) ?_
  refine lv_iconst (v := 0) hx hb dX10_findMoves_1 (by decide) ?_
  refine hput hx hb hts hown hE fl_X10_132 ft_X10_6 hP hD hS 0 rfl rfl rfl rfl (Nat.le_of_ble_eq_true rfl) (wn := [(mo, .inr (8, [.long mbd, .int mby, .int mgr, .int mol, .ref aMM, .ref aMT, .int 0, .ref aPD, .int mpm, .long mrd, .int mbm, .int mbw, .long mpl, .ref aST, .ref aPL, .ref aRS, .ref aLA, .ref aBM, .int msm, .ref aRP, .ref aFI, .ref aFM, .ref aGB, .ref aGM, .ref aGV, .ref aGR, .int mgs, .ref aKB, .ref aKP, .ref aIK, .int mka, .int miw])), (aMM, .inl (gI G, 75, .inl xmm)), (aMT, .inl (gI G, 75, .inl xmt))]) rfl dX10_findMoves_2 (fun H locs hP hD hS => ?_)
  refine lv_aload_n hx hb dX10_findMoves_5 rfl (lv_at hl 0 rfl) ?_
  refine lv_lload_n hx hb dX10_findMoves_6 rfl (lv_at hl 1 rfl) ?_
  obtain ⟨r7_1, hr7_1, hF⟩ := bnd hF
  refine hm_V (wn := [(mo, .inr (8, [.long mbd, .int mby, .int mgr, .int mol, .ref aMM, .ref aMT, .int 0, .ref aPD, .int mpm, .long mrd, .int mbm, .int mbw, .long mpl, .ref aST, .ref aPL, .ref aRS, .ref aLA, .ref aBM, .int msm, .ref aRP, .ref aFI, .ref aFM, .ref aGB, .ref aGM, .ref aGV, .ref aGR, .int mgs, .ref aKB, .ref aKP, .ref aIK, .int mka, .int miw])), (aMM, .inl (gI G, 75, .inl xmm)), (aMT, .inl (gI G, 75, .inl xmt))]) (wr := [(aMM, .inl (gI G, 75, .inl xmm)), (aMT, .inl (gI G, 75, .inl xmt))]) (rest := []) (sn := [.int r7_1]) hx hb hml hown hts hE hA (k_X10_broughtBy G l mo aMM aMT aPD aST aPL aRS aLA aBM aRP aFI aFM aGB aGM aGV aGR aKB aKP aIK mbd mby mgr mol 0 mpm mrd mbm mbw mpl msm mgs mka miw st r7_1 hr7_1) sm_X10_broughtBy mw_908 ⟨rfl, rfl, Nat.le_of_ble_eq_true rfl, Nat.le_of_ble_eq_true rfl⟩ hP hD hS 0 rfl rfl [0] [1, 2] [2, 0, 1] rfl rfl rfl (by decide) hl.1 rfl rfl (Nat.le_of_ble_eq_true rfl) dX10_findMoves_7 ⟨Nat.le_of_ble_eq_true rfl, Nat.le_of_ble_eq_true rfl⟩ (fun H locs hP hD hS => ?_)
  refine lv_if_eq (tgt := 14) hx hb dX10_findMoves_10 (by decide) (fun c_2 => ?_) (fun c_2 => ?_)
  · have hF := ifp hF c_2
    refine lv_iconst (v := 3) hx hb dX10_findMoves_14 (by decide) ?_
    refine lv_lload_n hx hb dX10_findMoves_15 rfl (lv_at hl 1 rfl) ?_
    refine hm_S (wn := [(mo, .inr (8, [.long mbd, .int mby, .int mgr, .int mol, .ref aMM, .ref aMT, .int 0, .ref aPD, .int mpm, .long mrd, .int mbm, .int mbw, .long mpl, .ref aST, .ref aPL, .ref aRS, .ref aLA, .ref aBM, .int msm, .ref aRP, .ref aFI, .ref aFM, .ref aGB, .ref aGM, .ref aGV, .ref aGR, .int mgs, .ref aKB, .ref aKP, .ref aIK, .int mka, .int miw])), (aMM, .inl (gI G, 75, .inl xmm)), (aMT, .inl (gI G, 75, .inl xmt))]) (wr := [(mo, .inr (8, [.long mbd, .int mby, .int mgr, .int mol, .ref aMM, .ref aMT, .int 0, .ref aPD, .int mpm, .long mrd, .int mbm, .int mbw, .long mpl, .ref aST, .ref aPL, .ref aRS, .ref aLA, .ref aBM, .int msm, .ref aRP, .ref aFI, .ref aFM, .ref aGB, .ref aGM, .ref aGV, .ref aGR, .int mgs, .ref aKB, .ref aKP, .ref aIK, .int mka, .int miw])), (aMM, .inl (gI G, 75, .inl xmm)), (aMT, .inl (gI G, 75, .inl xmt))]) (rest := [.int 3]) (sn := [.int (f_X10_turnOf st), .int 3]) hx hb hml hown hts hE hA (k_X10_turnOf G l st _ rfl) sm_X10_turnOf mw_848 ⟨rfl, rfl, Nat.le_of_ble_eq_true rfl, Nat.le_of_ble_eq_true rfl⟩ hP hD hS [] [0, 1, 2] [0, 1, 2] rfl rfl rfl (by decide) hl.1 rfl rfl (Nat.le_of_ble_eq_true rfl) dX10_findMoves_16 ⟨Nat.le_of_ble_eq_true rfl, Nat.le_of_ble_eq_true rfl⟩ (fun H locs hP hD hS => ?_)
    refine lv_imul hx hb dX10_findMoves_19 ?_
    refine lv_topi (fun v3_3 ev3_3 => ?_)
    have hF := jl hF ev3_3
    refine lv_istore_n (lv' := [(3, .int v3_3), (0, .ref mo), (1, .long st)]) hx hb dX10_findMoves_20 rfl hl (by decide) rfl (fun ls hl => ?_)
    refine lv_iload_n hx hb dX10_findMoves_21 rfl (lv_at hl 0 rfl) ?_
    refine lv_istore (lv' := [(4, .int v3_3), (3, .int v3_3), (0, .ref mo), (1, .long st)]) hx hb dX10_findMoves_22 hl (by decide) rfl (fun ls hl => ?_)
    have hL24 : ∀ (n24 : Nat) (x4_4 : Int32) (mmy_5 : Int32) (xmm_6 : (Nat → Int32)) (xmt_7 : (Nat → Int32)) (H : Heap) (locs : List Loc) (ls : Array Slot), f_X10_findMoves_L24 mby mgr mol st v3_3 n24 x4_4 mmy_5 xmm_6 xmt_7 = some r → va_P (gD G) vwCl [(mo, .inr (8, [.long mbd, .int mby, .int mgr, .int mol, .ref aMM, .ref aMT, .int mmy_5, .ref aPD, .int mpm, .long mrd, .int mbm, .int mbw, .long mpl, .ref aST, .ref aPL, .ref aRS, .ref aLA, .ref aBM, .int msm, .ref aRP, .ref aFI, .ref aFM, .ref aGB, .ref aGM, .ref aGV, .ref aGR, .int mgs, .ref aKB, .ref aKP, .ref aIK, .int mka, .int miw])), (aMM, .inl (gI G, 75, .inl xmm_6)), (aMT, .inl (gI G, 75, .inl xmt_7))] H → va_D A [(mo, .inr (8, [.long mbd, .int mby, .int mgr, .int mol, .ref aMM, .ref aMT, .int mmy_5, .ref aPD, .int mpm, .long mrd, .int mbm, .int mbw, .long mpl, .ref aST, .ref aPL, .ref aRS, .ref aLA, .ref aBM, .int msm, .ref aRP, .ref aFI, .ref aFM, .ref aGB, .ref aGM, .ref aGV, .ref aGR, .int mgs, .ref aKB, .ref aKP, .ref aIK, .int mka, .int miw])), (aMM, .inl (gI G, 75, .inl xmm_6)), (aMT, .inl (gI G, 75, .inl xmt_7))] → va_S A s.heap H locs → lv_has ls 6 [(0, .ref mo), (1, .long st), (3, .int v3_3), (4, .int x4_4)] → W p l e rm_X10_findMoves s m args below meth c H locs 0 0 (MQ below (HXq G post A) args s 0 0 A) (F0 m 24 ls []) := by
      intro n24
      induction n24 with
      | zero =>
        intro x4_4 mmy_5 xmm_6 xmt_7 H locs ls hF
        exact absurd hF (fun h => by cases h)
      | succ n24 ih24 =>
        intro x4_4 mmy_5 xmm_6 xmt_7 H locs ls hF hP hD hS hl
        unfold f_X10_findMoves_L24 at hF
        refine lv_iload hx hb dX10_findMoves_24 (lv_at hl 3 rfl) ?_
        refine lv_iload_n hx hb dX10_findMoves_26 rfl (lv_at hl 2 rfl) ?_
        refine lv_iconst (v := 3) hx hb dX10_findMoves_27 (by decide) ?_
        refine lv_iadd hx hb dX10_findMoves_28 ?_
        refine lv_icmp_ge (tgt := 98) hx hb dX10_findMoves_29 (by decide) (fun c_8 => ?_) (fun c_8 => ?_)
        · have hF := ifp hF c_8
          have hF := Option.some.inj hF
          subst hF
          exact hm_vret hx hb hr hlk hP hD hS hpost dX10_findMoves_98
        · have hF := ifn hF c_8
          refine lv_iconst (v := 0) hx hb dX10_findMoves_32 (by decide) ?_
          refine lv_istore (lv' := [(5, .int 0), (0, .ref mo), (1, .long st), (3, .int v3_3), (4, .int x4_4)]) hx hb dX10_findMoves_33 hl (by decide) rfl (fun ls hl => ?_)
          have hL35 : ∀ (n35 : Nat) (x5_9 : Int32) (mmy_10 : Int32) (xmm_11 : (Nat → Int32)) (xmt_12 : (Nat → Int32)) (H : Heap) (locs : List Loc) (ls : Array Slot), f_X10_findMoves_L35 (f_X10_findMoves_L24 mby mgr mol st v3_3 n24) mby mgr mol st x4_4 n35 x5_9 mmy_10 xmm_11 xmt_12 = some r → va_P (gD G) vwCl [(mo, .inr (8, [.long mbd, .int mby, .int mgr, .int mol, .ref aMM, .ref aMT, .int mmy_10, .ref aPD, .int mpm, .long mrd, .int mbm, .int mbw, .long mpl, .ref aST, .ref aPL, .ref aRS, .ref aLA, .ref aBM, .int msm, .ref aRP, .ref aFI, .ref aFM, .ref aGB, .ref aGM, .ref aGV, .ref aGR, .int mgs, .ref aKB, .ref aKP, .ref aIK, .int mka, .int miw])), (aMM, .inl (gI G, 75, .inl xmm_11)), (aMT, .inl (gI G, 75, .inl xmt_12))] H → va_D A [(mo, .inr (8, [.long mbd, .int mby, .int mgr, .int mol, .ref aMM, .ref aMT, .int mmy_10, .ref aPD, .int mpm, .long mrd, .int mbm, .int mbw, .long mpl, .ref aST, .ref aPL, .ref aRS, .ref aLA, .ref aBM, .int msm, .ref aRP, .ref aFI, .ref aFM, .ref aGB, .ref aGM, .ref aGV, .ref aGR, .int mgs, .ref aKB, .ref aKP, .ref aIK, .int mka, .int miw])), (aMM, .inl (gI G, 75, .inl xmm_11)), (aMT, .inl (gI G, 75, .inl xmt_12))] → va_S A s.heap H locs → lv_has ls 6 [(0, .ref mo), (1, .long st), (3, .int v3_3), (4, .int x4_4), (5, .int x5_9)] → W p l e rm_X10_findMoves s m args below meth c H locs 0 0 (MQ below (HXq G post A) args s 0 0 A) (F0 m 35 ls []) := by
            intro n35
            induction n35 with
            | zero =>
              intro x5_9 mmy_10 xmm_11 xmt_12 H locs ls hF
              exact absurd hF (fun h => by cases h)
            | succ n35 ih35 =>
              intro x5_9 mmy_10 xmm_11 xmt_12 H locs ls hF hP hD hS hl
              unfold f_X10_findMoves_L35 at hF
              refine lv_iload hx hb dX10_findMoves_35 (lv_at hl 4 rfl) ?_
              refine lv_bipush (v := 25) hx hb dX10_findMoves_37 (by decide) ?_
              refine lv_icmp_ge (tgt := 92) hx hb dX10_findMoves_39 (by decide) (fun c_13 => ?_) (fun c_13 => ?_)
              · have hF := ifp hF c_13
                obtain ⟨v4_14, ev4_14⟩ : ∃ z : Int32, z = x4_4 + 1 := ⟨_, rfl⟩
                have hF := jl hF ev4_14
                refine lv_iinc (v := v4_14) (lv' := [(4, .int v4_14), (0, .ref mo), (1, .long st), (3, .int v3_3), (5, .int x5_9)]) hx hb dX10_findMoves_92 hl (k := 3) rfl (by rw [ev4_14]; rfl) (by decide) rfl (fun ls hl => ?_)
                refine lv_goto (tgt := 24) hx hb dX10_findMoves_95 (by decide) ?_
                exact ih24 v4_14 mmy_10 xmm_11 xmt_12 _ _ _ hF hP hD hS (lv_sub hl [1, 2, 3, 0] rfl)
              · have hF := ifn hF c_13
                refine lv_aload_n hx hb dX10_findMoves_42 rfl (lv_at hl 0 rfl) ?_
                refine lv_lload_n hx hb dX10_findMoves_43 rfl (lv_at hl 1 rfl) ?_
                refine lv_iload hx hb dX10_findMoves_44 (lv_at hl 3 rfl) ?_
                refine lv_iload hx hb dX10_findMoves_46 (lv_at hl 4 rfl) ?_
                obtain ⟨r48_15, hr48_15, hF⟩ := bnd hF
                refine hm_V (wn := [(mo, .inr (8, [.long mbd, .int mby, .int mgr, .int mol, .ref aMM, .ref aMT, .int mmy_10, .ref aPD, .int mpm, .long mrd, .int mbm, .int mbw, .long mpl, .ref aST, .ref aPL, .ref aRS, .ref aLA, .ref aBM, .int msm, .ref aRP, .ref aFI, .ref aFM, .ref aGB, .ref aGM, .ref aGV, .ref aGR, .int mgs, .ref aKB, .ref aKP, .ref aIK, .int mka, .int miw])), (aMM, .inl (gI G, 75, .inl xmm_11)), (aMT, .inl (gI G, 75, .inl xmt_12))]) (wr := [(aMM, .inl (gI G, 75, .inl xmm_11)), (aMT, .inl (gI G, 75, .inl xmt_12))]) (rest := []) (sn := [.int r48_15]) hx hb hml hown hts hE hA (k_X10_canGo G l mo aMM aMT aPD aST aPL aRS aLA aBM aRP aFI aFM aGB aGM aGV aGR aKB aKP aIK mbd mby mgr mol mmy_10 mpm mrd mbm mbw mpl msm mgs mka miw st x4_4 x5_9 r48_15 hr48_15) sm_X10_canGo mw_920 ⟨rfl, rfl, Nat.le_of_ble_eq_true rfl, Nat.le_of_ble_eq_true rfl⟩ hP hD hS 0 rfl rfl [0] [1, 2] [2, 0, 1] rfl rfl rfl (by decide) hl.1 rfl rfl (Nat.le_of_ble_eq_true rfl) dX10_findMoves_48 ⟨Nat.le_of_ble_eq_true rfl, Nat.le_of_ble_eq_true rfl⟩ (fun H locs hP hD hS => ?_)
                have hB86 : ∀ (mmy_16 : Int32) (xmm_17 : (Nat → Int32)) (xmt_18 : (Nat → Int32)) (H : Heap) (locs : List Loc) (ls : Array Slot), f_X10_findMoves_B86 (f_X10_findMoves_L35 (f_X10_findMoves_L24 mby mgr mol st v3_3 n24) mby mgr mol st x4_4 n35) x5_9 mmy_16 xmm_17 xmt_18 = some r → va_P (gD G) vwCl [(mo, .inr (8, [.long mbd, .int mby, .int mgr, .int mol, .ref aMM, .ref aMT, .int mmy_16, .ref aPD, .int mpm, .long mrd, .int mbm, .int mbw, .long mpl, .ref aST, .ref aPL, .ref aRS, .ref aLA, .ref aBM, .int msm, .ref aRP, .ref aFI, .ref aFM, .ref aGB, .ref aGM, .ref aGV, .ref aGR, .int mgs, .ref aKB, .ref aKP, .ref aIK, .int mka, .int miw])), (aMM, .inl (gI G, 75, .inl xmm_17)), (aMT, .inl (gI G, 75, .inl xmt_18))] H → va_D A [(mo, .inr (8, [.long mbd, .int mby, .int mgr, .int mol, .ref aMM, .ref aMT, .int mmy_16, .ref aPD, .int mpm, .long mrd, .int mbm, .int mbw, .long mpl, .ref aST, .ref aPL, .ref aRS, .ref aLA, .ref aBM, .int msm, .ref aRP, .ref aFI, .ref aFM, .ref aGB, .ref aGM, .ref aGV, .ref aGR, .int mgs, .ref aKB, .ref aKP, .ref aIK, .int mka, .int miw])), (aMM, .inl (gI G, 75, .inl xmm_17)), (aMT, .inl (gI G, 75, .inl xmt_18))] → va_S A s.heap H locs → lv_has ls 6 [(0, .ref mo), (1, .long st), (3, .int v3_3), (4, .int x4_4), (5, .int x5_9)] → W p l e rm_X10_findMoves s m args below meth c H locs 0 0 (MQ below (HXq G post A) args s 0 0 A) (F0 m 86 ls []) := by
                  intro mmy_16 xmm_17 xmt_18 H locs ls hF hP hD hS hl
                  unfold f_X10_findMoves_B86 at hF
                  obtain ⟨v5_19, ev5_19⟩ : ∃ z : Int32, z = x5_9 + 1 := ⟨_, rfl⟩
                  have hF := jl hF ev5_19
                  refine lv_iinc (v := v5_19) (lv' := [(5, .int v5_19), (0, .ref mo), (1, .long st), (3, .int v3_3), (4, .int x4_4)]) hx hb dX10_findMoves_86 hl (k := 4) rfl (by rw [ev5_19]; rfl) (by decide) rfl (fun ls hl => ?_)
                  refine lv_goto (tgt := 35) hx hb dX10_findMoves_89 (by decide) ?_
                  exact ih35 v5_19 mmy_16 xmm_17 xmt_18 _ _ _ hF hP hD hS (lv_sub hl [1, 2, 3, 4, 0] rfl)
                refine lv_if_eq (tgt := 86) hx hb dX10_findMoves_51 (by decide) (fun c_20 => ?_) (fun c_20 => ?_)
                · have hF := ifp hF c_20
                  exact hB86 mmy_10 xmm_11 xmt_12 _ _ _ hF hP hD hS (lv_sub hl [0, 1, 2, 3, 4] rfl)
                · have hF := ifn hF c_20
                  refine lv_aload_n hx hb dX10_findMoves_54 rfl (lv_at hl 0 rfl) ?_
                  refine hget hx hb hts hown hE fl_X10_7 hP 0 rfl rfl dX10_findMoves_55 ?_
                  refine lv_aload_n hx hb dX10_findMoves_58 rfl (lv_at hl 0 rfl) ?_
                  refine hget hx hb hts hown hE fl_X10_132 hP 0 rfl rfl dX10_findMoves_59 ?_
                  refine lv_iload hx hb dX10_findMoves_62 (lv_at hl 3 rfl) ?_
                  obtain ⟨hi_21, hF⟩ := inb hF
                  obtain ⟨a64_22, ea64_22⟩ : ∃ z : (Nat → Int32), z = upd xmm_11 (mmy_10).toNatClampNeg x4_4 := ⟨_, rfl⟩
                  have hF := jl hF ea64_22
                  refine hiast hx hb hE hP hD hS 1 rfl hi_21 (wn := [(mo, .inr (8, [.long mbd, .int mby, .int mgr, .int mol, .ref aMM, .ref aMT, .int mmy_10, .ref aPD, .int mpm, .long mrd, .int mbm, .int mbw, .long mpl, .ref aST, .ref aPL, .ref aRS, .ref aLA, .ref aBM, .int msm, .ref aRP, .ref aFI, .ref aFM, .ref aGB, .ref aGM, .ref aGV, .ref aGR, .int mgs, .ref aKB, .ref aKP, .ref aIK, .int mka, .int miw])), (aMM, .inl (gI G, 75, .inl a64_22)), (aMT, .inl (gI G, 75, .inl xmt_12))]) (by rw [ea64_22]; rfl) dX10_findMoves_64 (fun H locs hP hD hS => ?_)
                  refine lv_aload_n hx hb dX10_findMoves_65 rfl (lv_at hl 0 rfl) ?_
                  refine hget hx hb hts hown hE fl_X10_13 hP 0 rfl rfl dX10_findMoves_66 ?_
                  refine lv_aload_n hx hb dX10_findMoves_69 rfl (lv_at hl 0 rfl) ?_
                  refine hget hx hb hts hown hE fl_X10_132 hP 0 rfl rfl dX10_findMoves_70 ?_
                  refine lv_iload hx hb dX10_findMoves_73 (lv_at hl 4 rfl) ?_
                  obtain ⟨hi_23, hF⟩ := inb hF
                  obtain ⟨a75_24, ea75_24⟩ : ∃ z : (Nat → Int32), z = upd xmt_12 (mmy_10).toNatClampNeg x5_9 := ⟨_, rfl⟩
                  have hF := jl hF ea75_24
                  refine hiast hx hb hE hP hD hS 2 rfl hi_23 (wn := [(mo, .inr (8, [.long mbd, .int mby, .int mgr, .int mol, .ref aMM, .ref aMT, .int mmy_10, .ref aPD, .int mpm, .long mrd, .int mbm, .int mbw, .long mpl, .ref aST, .ref aPL, .ref aRS, .ref aLA, .ref aBM, .int msm, .ref aRP, .ref aFI, .ref aFM, .ref aGB, .ref aGM, .ref aGV, .ref aGR, .int mgs, .ref aKB, .ref aKP, .ref aIK, .int mka, .int miw])), (aMM, .inl (gI G, 75, .inl a64_22)), (aMT, .inl (gI G, 75, .inl a75_24))]) (by rw [ea75_24]; rfl) dX10_findMoves_75 (fun H locs hP hD hS => ?_)
                  refine lv_aload_n hx hb dX10_findMoves_76 rfl (lv_at hl 0 rfl) ?_
                  refine lv_dup hx hb dX10_findMoves_77 rfl ?_
                  refine hget hx hb hts hown hE fl_X10_132 hP 0 rfl rfl dX10_findMoves_78 ?_
                  refine lv_iconst (v := 1) hx hb dX10_findMoves_81 (by decide) ?_
                  refine lv_iadd hx hb dX10_findMoves_82 ?_
                  refine lv_topi (fun u83_25 eu83_25 => ?_)
                  have hF := jl hF eu83_25
                  refine hput hx hb hts hown hE fl_X10_132 ft_X10_6 hP hD hS 0 rfl rfl rfl rfl (Nat.le_of_ble_eq_true rfl) (wn := [(mo, .inr (8, [.long mbd, .int mby, .int mgr, .int mol, .ref aMM, .ref aMT, .int u83_25, .ref aPD, .int mpm, .long mrd, .int mbm, .int mbw, .long mpl, .ref aST, .ref aPL, .ref aRS, .ref aLA, .ref aBM, .int msm, .ref aRP, .ref aFI, .ref aFM, .ref aGB, .ref aGM, .ref aGV, .ref aGR, .int mgs, .ref aKB, .ref aKP, .ref aIK, .int mka, .int miw])), (aMM, .inl (gI G, 75, .inl a64_22)), (aMT, .inl (gI G, 75, .inl a75_24))]) rfl dX10_findMoves_83 (fun H locs hP hD hS => ?_)
                  exact hB86 u83_25 a64_22 a75_24 _ _ _ hF hP hD hS (lv_sub hl [0, 1, 2, 3, 4] rfl)
          exact hL35 _ 0 mmy_5 xmm_6 xmt_7 _ _ _ hF hP hD hS (lv_sub hl [1, 2, 3, 4, 0] rfl)
    exact hL24 _ v3_3 0 xmm xmt _ _ _ hF hP hD hS (lv_sub hl [2, 3, 1, 0] rfl)
  · have hF := ifn hF c_2
    have hF := Option.some.inj hF
    subst hF
    exact hm_vret hx hb hr hlk hP hD hS hpost dX10_findMoves_13
def f_X10_say (mpm : Int32) (xpd : (Nat → Int32)) (sg : Int32) : Option (Int32 × Int32 × (Nat → Int32)) :=
  if (f_X10_in (sg.toInt64) 33 126) = 0 then some ((-2), mpm, xpd) else if mpm = 48 then some ((-4), mpm, xpd) else if (mpm) < 0 ∨ 48 ≤ (mpm).toNatClampNeg then none else jlet (upd xpd (mpm).toNatClampNeg sg) (fun a38_4 => jlet (mpm + 1) (fun u46_5 => some (u46_5, u46_5, a38_4)))
abbrev rm_X10_say : Room := { frames := 1, cells := 0, slots := 0, locals := 25 }
set_option maxHeartbeats 4000000 in
set_option maxRecDepth 100000 in
theorem k_X10_say (G : gT) (l : Launch) (mo : Nat) (aMM : Nat) (aMT : Nat) (aPD : Nat) (aST : Nat) (aPL : Nat) (aRS : Nat) (aLA : Nat) (aBM : Nat) (aRP : Nat) (aFI : Nat) (aFM : Nat) (aGB : Nat) (aGM : Nat) (aGV : Nat) (aGR : Nat) (aKB : Nat) (aKP : Nat) (aIK : Nat) (mbd : Int64) (mby : Int32) (mgr : Int32) (mol : Int32) (mmy : Int32) (mpm : Int32) (mrd : Int64) (mbm : Int32) (mbw : Int32) (mpl : Int64) (msm : Int32) (mgs : Int32) (mka : Int32) (miw : Int32) (xpd : (Nat → Int32)) (sg : Int32) (r : Int32 × Int32 × (Nat → Int32)) (hF : f_X10_say mpm xpd sg = some r) : HM G l yX10_say (.code yX10_say cX10_say 2 (some .int) :: UW) rm_X10_say 0 0 [.ref mo, .int sg] [(mo, .inr (8, [.long mbd, .int mby, .int mgr, .int mol, .ref aMM, .ref aMT, .int mmy, .ref aPD, .int mpm, .long mrd, .int mbm, .int mbw, .long mpl, .ref aST, .ref aPL, .ref aRS, .ref aLA, .ref aBM, .int msm, .ref aRP, .ref aFI, .ref aFM, .ref aGB, .ref aGM, .ref aGV, .ref aGR, .int mgs, .ref aKB, .ref aKP, .ref aIK, .int mka, .int miw])), (aPD, .inl (gI G, 48, .inl xpd))] (some (.int r.1)) [(mo, .inr (8, [.long mbd, .int mby, .int mgr, .int mol, .ref aMM, .ref aMT, .int mmy, .ref aPD, .int r.2.1, .long mrd, .int mbm, .int mbw, .long mpl, .ref aST, .ref aPL, .ref aRS, .ref aLA, .ref aBM, .int msm, .ref aRP, .ref aFI, .ref aFM, .ref aGB, .ref aGM, .ref aGV, .ref aGR, .int mgs, .ref aKB, .ref aKP, .ref aIK, .int mka, .int miw])), (aPD, .inl (gI G, 48, .inl r.2.2))] := by
  refine HM.ofW (by decide) (Nat.le_of_ble_eq_true rfl) ?_
  intro p e s m args below meth c A post hpost hC hP hD hS ls hl
  obtain ⟨hx, hb, hr, hml, hown, hts, hlk, hE, hA⟩ := hC
  have hl : lv_has ls 2 [(0, .ref mo), (1, .int sg)] := hl
  unfold f_X10_say at hF
  refine lv_iload_n hx hb dX10_say_0 rfl (lv_at hl 1 rfl) ?_
  refine lv_i2l (v := (sg.toInt64)) hx hb dX10_say_1 rfl ?_
  refine lv_ldc2 (v := 33) hx hb hown (hts _ (List.mem_cons_of_mem _ mw_831)) dX10_say_2 ?_
  refine lv_ldc2 (v := 126) hx hb hown (hts _ (List.mem_cons_of_mem _ mw_832)) dX10_say_5 ?_
  refine hm_S (wn := [(mo, .inr (8, [.long mbd, .int mby, .int mgr, .int mol, .ref aMM, .ref aMT, .int mmy, .ref aPD, .int mpm, .long mrd, .int mbm, .int mbw, .long mpl, .ref aST, .ref aPL, .ref aRS, .ref aLA, .ref aBM, .int msm, .ref aRP, .ref aFI, .ref aFM, .ref aGB, .ref aGM, .ref aGV, .ref aGR, .int mgs, .ref aKB, .ref aKP, .ref aIK, .int mka, .int miw])), (aPD, .inl (gI G, 48, .inl xpd))]) (wr := [(mo, .inr (8, [.long mbd, .int mby, .int mgr, .int mol, .ref aMM, .ref aMT, .int mmy, .ref aPD, .int mpm, .long mrd, .int mbm, .int mbw, .long mpl, .ref aST, .ref aPL, .ref aRS, .ref aLA, .ref aBM, .int msm, .ref aRP, .ref aFI, .ref aFM, .ref aGB, .ref aGM, .ref aGV, .ref aGR, .int mgs, .ref aKB, .ref aKP, .ref aIK, .int mka, .int miw])), (aPD, .inl (gI G, 48, .inl xpd))]) (rest := []) (sn := [.int (f_X10_in (sg.toInt64) 33 126)]) hx hb hml hown hts hE hA (k_X10_in G l (sg.toInt64) 33 126 _ rfl) sm_X10_in mw_833 ⟨rfl, rfl, Nat.le_of_ble_eq_true rfl, Nat.le_of_ble_eq_true rfl⟩ hP hD hS [] [0, 1] [0, 1] rfl rfl rfl (by decide) hl.1 rfl rfl (Nat.le_of_ble_eq_true rfl) dX10_say_8 ⟨Nat.le_of_ble_eq_true rfl, Nat.le_of_ble_eq_true rfl⟩ (fun H locs hP hD hS => ?_)
  refine lv_if_ne (tgt := 17) hx hb dX10_say_11 (by decide) (fun c_1 => ?_) (fun c_1 => ?_)
  · have hF := ifn hF c_1
    refine lv_aload_n hx hb dX10_say_17 rfl (lv_at hl 0 rfl) ?_
    refine hget hx hb hts hown hE fl_X10_146 hP 0 rfl rfl dX10_say_18 ?_
    refine lv_bipush (v := 48) hx hb dX10_say_21 (by decide) ?_
    refine lv_icmp_ne (tgt := 29) hx hb dX10_say_23 (by decide) (fun c_2 => ?_) (fun c_2 => ?_)
    · have hF := ifn hF c_2
      refine lv_aload_n hx hb dX10_say_29 rfl (lv_at hl 0 rfl) ?_
      refine hget hx hb hts hown hE fl_X10_16 hP 0 rfl rfl dX10_say_30 ?_
      refine lv_aload_n hx hb dX10_say_33 rfl (lv_at hl 0 rfl) ?_
      refine hget hx hb hts hown hE fl_X10_146 hP 0 rfl rfl dX10_say_34 ?_
      refine lv_iload_n hx hb dX10_say_37 rfl (lv_at hl 1 rfl) ?_
      obtain ⟨hi_3, hF⟩ := inb hF
      obtain ⟨a38_4, ea38_4⟩ : ∃ z : (Nat → Int32), z = upd xpd (mpm).toNatClampNeg sg := ⟨_, rfl⟩
      have hF := jl hF ea38_4
      refine hiast hx hb hE hP hD hS 1 rfl hi_3 (wn := [(mo, .inr (8, [.long mbd, .int mby, .int mgr, .int mol, .ref aMM, .ref aMT, .int mmy, .ref aPD, .int mpm, .long mrd, .int mbm, .int mbw, .long mpl, .ref aST, .ref aPL, .ref aRS, .ref aLA, .ref aBM, .int msm, .ref aRP, .ref aFI, .ref aFM, .ref aGB, .ref aGM, .ref aGV, .ref aGR, .int mgs, .ref aKB, .ref aKP, .ref aIK, .int mka, .int miw])), (aPD, .inl (gI G, 48, .inl a38_4))]) (by rw [ea38_4]; rfl) dX10_say_38 (fun H locs hP hD hS => ?_)
      refine lv_aload_n hx hb dX10_say_39 rfl (lv_at hl 0 rfl) ?_
      refine lv_dup hx hb dX10_say_40 rfl ?_
      refine hget hx hb hts hown hE fl_X10_146 hP 0 rfl rfl dX10_say_41 ?_
      refine lv_iconst (v := 1) hx hb dX10_say_44 (by decide) ?_
      refine lv_iadd hx hb dX10_say_45 ?_
      refine lv_topi (fun u46_5 eu46_5 => ?_)
      have hF := jl hF eu46_5
      refine hput hx hb hts hown hE fl_X10_146 ft_X10_8 hP hD hS 0 rfl rfl rfl rfl (Nat.le_of_ble_eq_true rfl) (wn := [(mo, .inr (8, [.long mbd, .int mby, .int mgr, .int mol, .ref aMM, .ref aMT, .int mmy, .ref aPD, .int u46_5, .long mrd, .int mbm, .int mbw, .long mpl, .ref aST, .ref aPL, .ref aRS, .ref aLA, .ref aBM, .int msm, .ref aRP, .ref aFI, .ref aFM, .ref aGB, .ref aGM, .ref aGV, .ref aGR, .int mgs, .ref aKB, .ref aKP, .ref aIK, .int mka, .int miw])), (aPD, .inl (gI G, 48, .inl a38_4))]) rfl dX10_say_46 (fun H locs hP hD hS => ?_)
      refine lv_aload_n hx hb dX10_say_49 rfl (lv_at hl 0 rfl) ?_
      refine hget hx hb hts hown hE fl_X10_146 hP 0 rfl rfl dX10_say_50 ?_
      have hF := Option.some.inj hF
      subst hF
      exact hm_iret hx hb hr hlk hP hD hS hpost dX10_say_53
    · have hF := ifp hF c_2
      refine lv_bipush (v := (-4)) hx hb dX10_say_26 (by decide) ?_
      have hF := Option.some.inj hF
      subst hF
      exact hm_iret hx hb hr hlk hP hD hS hpost dX10_say_28
  · have hF := ifp hF c_1
    refine lv_bipush (v := (-2)) hx hb dX10_say_14 (by decide) ?_
    have hF := Option.some.inj hF
    subst hF
    exact hm_iret hx hb hr hlk hP hD hS hpost dX10_say_16
def f_X10_wipe (mpm : Int32) : Int32 × Int32 :=
  (mpm, 0)
abbrev rm_X10_wipe : Room := { frames := 0, cells := 0, slots := 0, locals := 0 }
set_option maxHeartbeats 4000000 in
set_option maxRecDepth 100000 in
theorem k_X10_wipe (G : gT) (l : Launch) (mo : Nat) (aMM : Nat) (aMT : Nat) (aPD : Nat) (aST : Nat) (aPL : Nat) (aRS : Nat) (aLA : Nat) (aBM : Nat) (aRP : Nat) (aFI : Nat) (aFM : Nat) (aGB : Nat) (aGM : Nat) (aGV : Nat) (aGR : Nat) (aKB : Nat) (aKP : Nat) (aIK : Nat) (mbd : Int64) (mby : Int32) (mgr : Int32) (mol : Int32) (mmy : Int32) (mpm : Int32) (mrd : Int64) (mbm : Int32) (mbw : Int32) (mpl : Int64) (msm : Int32) (mgs : Int32) (mka : Int32) (miw : Int32) (r : Int32 × Int32) (hF : f_X10_wipe mpm = r) : HM G l yX10_wipe (.code yX10_wipe cX10_wipe 2 (some .int) :: UW) rm_X10_wipe 0 0 [.ref mo] [(mo, .inr (8, [.long mbd, .int mby, .int mgr, .int mol, .ref aMM, .ref aMT, .int mmy, .ref aPD, .int mpm, .long mrd, .int mbm, .int mbw, .long mpl, .ref aST, .ref aPL, .ref aRS, .ref aLA, .ref aBM, .int msm, .ref aRP, .ref aFI, .ref aFM, .ref aGB, .ref aGM, .ref aGV, .ref aGR, .int mgs, .ref aKB, .ref aKP, .ref aIK, .int mka, .int miw]))] (some (.int r.1)) [(mo, .inr (8, [.long mbd, .int mby, .int mgr, .int mol, .ref aMM, .ref aMT, .int mmy, .ref aPD, .int r.2, .long mrd, .int mbm, .int mbw, .long mpl, .ref aST, .ref aPL, .ref aRS, .ref aLA, .ref aBM, .int msm, .ref aRP, .ref aFI, .ref aFM, .ref aGB, .ref aGM, .ref aGV, .ref aGR, .int mgs, .ref aKB, .ref aKP, .ref aIK, .int mka, .int miw]))] := by
  refine HM.ofW (by decide) (Nat.le_of_ble_eq_true rfl) ?_
  intro p e s m args below meth c A post hpost hC hP hD hS ls hl
  obtain ⟨hx, hb, hr, hml, hown, hts, hlk, hE, hA⟩ := hC
  have hl : lv_has ls 2 [(0, .ref mo)] := hl
  unfold f_X10_wipe at hF
  refine lv_aload_n hx hb dX10_wipe_0 rfl (lv_at hl 0 rfl) ?_
  refine hget hx hb hts hown hE fl_X10_146 hP 0 rfl rfl dX10_wipe_1 ?_
  refine lv_istore_n (lv' := [(1, .int mpm), (0, .ref mo)]) hx hb dX10_wipe_4 rfl hl (by decide) rfl (fun ls hl => ?_)
  refine lv_aload_n hx hb dX10_wipe_5 rfl (lv_at hl 1 rfl) ?_
  refine lv_iconst (v := 0) hx hb dX10_wipe_6 (by decide) ?_
  refine hput hx hb hts hown hE fl_X10_146 ft_X10_8 hP hD hS 0 rfl rfl rfl rfl (Nat.le_of_ble_eq_true rfl) (wn := [(mo, .inr (8, [.long mbd, .int mby, .int mgr, .int mol, .ref aMM, .ref aMT, .int mmy, .ref aPD, .int 0, .long mrd, .int mbm, .int mbw, .long mpl, .ref aST, .ref aPL, .ref aRS, .ref aLA, .ref aBM, .int msm, .ref aRP, .ref aFI, .ref aFM, .ref aGB, .ref aGM, .ref aGV, .ref aGR, .int mgs, .ref aKB, .ref aKP, .ref aIK, .int mka, .int miw]))]) rfl dX10_wipe_7 (fun H locs hP hD hS => ?_)
  refine lv_iload_n hx hb dX10_wipe_10 rfl (lv_at hl 0 rfl) ?_
  subst hF
  exact hm_iret hx hb hr hlk hP hD hS hpost dX10_wipe_11
def f_X10_faultOfBoard_B293 (mpm : Int32) (mrd_5 : Int64) : Option (Int32 × Int64) :=
  some (mpm, mrd_5)
def f_X10_faultOfBoard_B243 (k_16 : Int32 → Int32 → Int32 → Int32 → Int64 → Option (Int32 × Int64)) (x4_4 : Int32) (x1_13 : Int32) (x2_14 : Int32) (x3_15 : Int32) (x6_16 : Int32) (mrd_17 : Int64) : Option (Int32 × Int64) :=
  if x6_16 = 0 then some (x4_4, mrd_17) else jlet (jrem (x1_13 + 1) 4) (fun v1_19 => jlet (x4_4 + 1) (fun v4_20 => k_16 v1_19 x2_14 x3_15 v4_20 mrd_17))
def f_X10_faultOfBoard_B240 (k_16 : Int32 → Int32 → Int32 → Int32 → Int64 → Option (Int32 × Int64)) (x1_1 : Int32) (x2_2 : Int32) (x3_3 : Int32) (x4_4 : Int32) (v6_24 : Int32) (t1_25 : Int64) : Option (Int32 × Int64) :=
  f_X10_faultOfBoard_B243 k_16 x4_4 x1_1 x2_2 x3_3 v6_24 t1_25
def f_X10_faultOfBoard_B91 (k_16 : Int32 → Int32 → Int32 → Int32 → Int64 → Option (Int32 × Int64)) (x1_1 : Int32) (x3_3 : Int32) (x4_4 : Int32) (mrd_5 : Int64) (v5_11 : Int32) (v2_33 : Int32) (t0_34 : Int32) : Option (Int32 × Int64) :=
  if v5_11 = 33 then jlet (mrd_5 ||| 18014398509481984) (fun u109_36 => f_X10_faultOfBoard_B243 k_16 x4_4 3 v2_33 x3_3 1 u109_36) else f_X10_faultOfBoard_B243 k_16 x4_4 x1_1 v2_33 x3_3 t0_34 mrd_5
def f_X10_faultOfBoard_L16 (mpm : Int32) (xpd : (Nat → Int32)) : Nat → Int32 → Int32 → Int32 → Int32 → Int64 → Option (Int32 × Int64)
  | 0, _, _, _, _, _ => none
  | n+1, x1_1, x2_2, x3_3, x4_4, mrd_5 =>
  if mpm ≤ x4_4 then if x1_1 = 0 then if (f_X10_cellOf mrd_5 0) = 31 then f_X10_faultOfBoard_B293 mpm mrd_5 else if (f_X10_cellOf mrd_5 3) = 31 then f_X10_faultOfBoard_B293 mpm mrd_5 else some ((-6), mrd_5) else f_X10_faultOfBoard_B293 mpm mrd_5 else if (x4_4) < 0 ∨ 48 ≤ (x4_4).toNatClampNeg then none else jlet (xpd (x4_4).toNatClampNeg) (fun v5_11 => if (f_X10_turnOf mrd_5) = 1 then some (x4_4, mrd_5) else if x1_1 = 0 then jlet (v5_11 - 48) (fun v2_33 => if (f_X10_in (v2_33.toInt64) 0 5) = 0 then f_X10_faultOfBoard_B91 (f_X10_faultOfBoard_L16 mpm xpd n) x1_1 x3_3 x4_4 mrd_5 v5_11 v2_33 0 else if (f_X10_cellOf mrd_5 v2_33) = 31 then f_X10_faultOfBoard_B91 (f_X10_faultOfBoard_L16 mpm xpd n) x1_1 x3_3 x4_4 mrd_5 v5_11 v2_33 1 else f_X10_faultOfBoard_B91 (f_X10_faultOfBoard_L16 mpm xpd n) x1_1 x3_3 x4_4 mrd_5 v5_11 v2_33 0) else if x1_1 = 1 then jlet (v5_11 - 97) (fun v3_31 => jlet (f_X10_in (v5_11.toInt64) 97 101) (fun v6_32 => f_X10_faultOfBoard_B243 (f_X10_faultOfBoard_L16 mpm xpd n) x4_4 x1_1 x2_2 v3_31 v6_32 mrd_5)) else if x1_1 = 2 then jlet (x3_3 + (5 * (v5_11 - 49))) (fun v3_27 => if (f_X10_in (v5_11.toInt64) 49 53) = 0 then f_X10_faultOfBoard_B243 (f_X10_faultOfBoard_L16 mpm xpd n) x4_4 x1_1 x2_2 v3_27 0 mrd_5 else Option.bind (f_X10_manOn mrd_5 v3_27) (fun r183_29 => if 0 ≤ r183_29 then f_X10_faultOfBoard_B243 (f_X10_faultOfBoard_L16 mpm xpd n) x4_4 x1_1 x2_2 v3_27 0 mrd_5 else f_X10_faultOfBoard_B243 (f_X10_faultOfBoard_L16 mpm xpd n) x4_4 x1_1 x2_2 v3_27 1 mrd_5)) else jlet (f_X10_in (v5_11.toInt64) 48 57) (fun v6_24 => if v6_24 = 0 then f_X10_faultOfBoard_B240 (f_X10_faultOfBoard_L16 mpm xpd n) x1_1 x2_2 x3_3 x4_4 v6_24 mrd_5 else f_X10_faultOfBoard_B240 (f_X10_faultOfBoard_L16 mpm xpd n) x1_1 x2_2 x3_3 x4_4 v6_24 (f_X10_put mrd_5 x2_2 x3_3 (v5_11 - 48))))
def f_X10_faultOfBoard (mpm : Int32) (xpd : (Nat → Int32)) : Option (Int32 × Int64) :=
  f_X10_faultOfBoard_L16 mpm xpd 100 0 0 0 0 1092850007424543
abbrev rm_X10_faultOfBoard : Room := { frames := 2, cells := 0, slots := 0, locals := 45 }
set_option maxHeartbeats 4000000 in
set_option maxRecDepth 100000 in
theorem k_X10_faultOfBoard (G : gT) (l : Launch) (mo : Nat) (aMM : Nat) (aMT : Nat) (aPD : Nat) (aST : Nat) (aPL : Nat) (aRS : Nat) (aLA : Nat) (aBM : Nat) (aRP : Nat) (aFI : Nat) (aFM : Nat) (aGB : Nat) (aGM : Nat) (aGV : Nat) (aGR : Nat) (aKB : Nat) (aKP : Nat) (aIK : Nat) (mbd : Int64) (mby : Int32) (mgr : Int32) (mol : Int32) (mmy : Int32) (mpm : Int32) (mrd : Int64) (mbm : Int32) (mbw : Int32) (mpl : Int64) (msm : Int32) (mgs : Int32) (mka : Int32) (miw : Int32) (xpd : (Nat → Int32)) (r : Int32 × Int64) (hF : f_X10_faultOfBoard mpm xpd = some r) : HM G l yX10_faultOfBoard (.code yX10_faultOfBoard cX10_faultOfBoard 7 (some .int) :: UW) rm_X10_faultOfBoard 0 0 [.ref mo] [(mo, .inr (8, [.long mbd, .int mby, .int mgr, .int mol, .ref aMM, .ref aMT, .int mmy, .ref aPD, .int mpm, .long mrd, .int mbm, .int mbw, .long mpl, .ref aST, .ref aPL, .ref aRS, .ref aLA, .ref aBM, .int msm, .ref aRP, .ref aFI, .ref aFM, .ref aGB, .ref aGM, .ref aGV, .ref aGR, .int mgs, .ref aKB, .ref aKP, .ref aIK, .int mka, .int miw])), (aPD, .inl (gI G, 48, .inl xpd))] (some (.int r.1)) [(mo, .inr (8, [.long mbd, .int mby, .int mgr, .int mol, .ref aMM, .ref aMT, .int mmy, .ref aPD, .int mpm, .long r.2, .int mbm, .int mbw, .long mpl, .ref aST, .ref aPL, .ref aRS, .ref aLA, .ref aBM, .int msm, .ref aRP, .ref aFI, .ref aFM, .ref aGB, .ref aGM, .ref aGV, .ref aGR, .int mgs, .ref aKB, .ref aKP, .ref aIK, .int mka, .int miw])), (aPD, .inl (gI G, 48, .inl xpd))] := by
  refine HM.ofW (by decide) (Nat.le_of_ble_eq_true rfl) ?_
  intro p e s m args below meth c A post hpost hC hP hD hS ls hl
  obtain ⟨hx, hb, hr, hml, hown, hts, hlk, hE, hA⟩ := hC
  have hl : lv_has ls 7 [(0, .ref mo)] := hl
  unfold f_X10_faultOfBoard at hF
  refine lv_aload_n hx hb dX10_faultOfBoard_0 rfl (lv_at hl 0 rfl) ?_
  refine lv_ldc2 (v := 1092850007424543) hx hb hown (hts _ (List.mem_cons_of_mem _ mw_723)) dX10_faultOfBoard_1 ?_
  refine hput hx hb hts hown hE fl_X10_149 ft_X10_9 hP hD hS 0 rfl rfl rfl rfl (Nat.le_of_ble_eq_true rfl) (wn := [(mo, .inr (8, [.long mbd, .int mby, .int mgr, .int mol, .ref aMM, .ref aMT, .int mmy, .ref aPD, .int mpm, .long 1092850007424543, .int mbm, .int mbw, .long mpl, .ref aST, .ref aPL, .ref aRS, .ref aLA, .ref aBM, .int msm, .ref aRP, .ref aFI, .ref aFM, .ref aGB, .ref aGM, .ref aGV, .ref aGR, .int mgs, .ref aKB, .ref aKP, .ref aIK, .int mka, .int miw])), (aPD, .inl (gI G, 48, .inl xpd))]) rfl dX10_faultOfBoard_4 (fun H locs hP hD hS => ?_)
  refine lv_iconst (v := 0) hx hb dX10_faultOfBoard_7 (by decide) ?_
  refine lv_istore_n (lv' := [(1, .int 0), (0, .ref mo)]) hx hb dX10_faultOfBoard_8 rfl hl (by decide) rfl (fun ls hl => ?_)
  refine lv_iconst (v := 0) hx hb dX10_faultOfBoard_9 (by decide) ?_
  refine lv_istore_n (lv' := [(2, .int 0), (1, .int 0), (0, .ref mo)]) hx hb dX10_faultOfBoard_10 rfl hl (by decide) rfl (fun ls hl => ?_)
  refine lv_iconst (v := 0) hx hb dX10_faultOfBoard_11 (by decide) ?_
  refine lv_istore_n (lv' := [(3, .int 0), (2, .int 0), (1, .int 0), (0, .ref mo)]) hx hb dX10_faultOfBoard_12 rfl hl (by decide) rfl (fun ls hl => ?_)
  refine lv_iconst (v := 0) hx hb dX10_faultOfBoard_13 (by decide) ?_
  refine lv_istore (lv' := [(4, .int 0), (3, .int 0), (2, .int 0), (1, .int 0), (0, .ref mo)]) hx hb dX10_faultOfBoard_14 hl (by decide) rfl (fun ls hl => ?_)
  have hL16 : ∀ (n16 : Nat) (x1_1 : Int32) (x2_2 : Int32) (x3_3 : Int32) (x4_4 : Int32) (mrd_5 : Int64) (H : Heap) (locs : List Loc) (ls : Array Slot), f_X10_faultOfBoard_L16 mpm xpd n16 x1_1 x2_2 x3_3 x4_4 mrd_5 = some r → va_P (gD G) vwCl [(mo, .inr (8, [.long mbd, .int mby, .int mgr, .int mol, .ref aMM, .ref aMT, .int mmy, .ref aPD, .int mpm, .long mrd_5, .int mbm, .int mbw, .long mpl, .ref aST, .ref aPL, .ref aRS, .ref aLA, .ref aBM, .int msm, .ref aRP, .ref aFI, .ref aFM, .ref aGB, .ref aGM, .ref aGV, .ref aGR, .int mgs, .ref aKB, .ref aKP, .ref aIK, .int mka, .int miw])), (aPD, .inl (gI G, 48, .inl xpd))] H → va_D A [(mo, .inr (8, [.long mbd, .int mby, .int mgr, .int mol, .ref aMM, .ref aMT, .int mmy, .ref aPD, .int mpm, .long mrd_5, .int mbm, .int mbw, .long mpl, .ref aST, .ref aPL, .ref aRS, .ref aLA, .ref aBM, .int msm, .ref aRP, .ref aFI, .ref aFM, .ref aGB, .ref aGM, .ref aGV, .ref aGR, .int mgs, .ref aKB, .ref aKP, .ref aIK, .int mka, .int miw])), (aPD, .inl (gI G, 48, .inl xpd))] → va_S A s.heap H locs → lv_has ls 7 [(0, .ref mo), (1, .int x1_1), (2, .int x2_2), (3, .int x3_3), (4, .int x4_4)] → W p l e rm_X10_faultOfBoard s m args below meth c H locs 0 0 (MQ below (HXq G post A) args s 0 0 A) (F0 m 16 ls []) := by
    intro n16
    induction n16 with
    | zero =>
      intro x1_1 x2_2 x3_3 x4_4 mrd_5 H locs ls hF
      exact absurd hF (fun h => by cases h)
    | succ n16 ih16 =>
      intro x1_1 x2_2 x3_3 x4_4 mrd_5 H locs ls hF hP hD hS hl
      unfold f_X10_faultOfBoard_L16 at hF
      refine lv_iload hx hb dX10_faultOfBoard_16 (lv_at hl 4 rfl) ?_
      refine lv_aload_n hx hb dX10_faultOfBoard_18 rfl (lv_at hl 0 rfl) ?_
      refine hget hx hb hts hown hE fl_X10_146 hP 0 rfl rfl dX10_faultOfBoard_19 ?_
      refine lv_icmp_ge (tgt := 263) hx hb dX10_faultOfBoard_22 (by decide) (fun c_6 => ?_) (fun c_6 => ?_)
      · have hF := ifp hF c_6
        refine lv_iload_n hx hb dX10_faultOfBoard_263 rfl (lv_at hl 1 rfl) ?_
        have hB293 : ∀ (H : Heap) (locs : List Loc) (ls : Array Slot), f_X10_faultOfBoard_B293 mpm mrd_5 = some r → va_P (gD G) vwCl [(mo, .inr (8, [.long mbd, .int mby, .int mgr, .int mol, .ref aMM, .ref aMT, .int mmy, .ref aPD, .int mpm, .long mrd_5, .int mbm, .int mbw, .long mpl, .ref aST, .ref aPL, .ref aRS, .ref aLA, .ref aBM, .int msm, .ref aRP, .ref aFI, .ref aFM, .ref aGB, .ref aGM, .ref aGV, .ref aGR, .int mgs, .ref aKB, .ref aKP, .ref aIK, .int mka, .int miw])), (aPD, .inl (gI G, 48, .inl xpd))] H → va_D A [(mo, .inr (8, [.long mbd, .int mby, .int mgr, .int mol, .ref aMM, .ref aMT, .int mmy, .ref aPD, .int mpm, .long mrd_5, .int mbm, .int mbw, .long mpl, .ref aST, .ref aPL, .ref aRS, .ref aLA, .ref aBM, .int msm, .ref aRP, .ref aFI, .ref aFM, .ref aGB, .ref aGM, .ref aGV, .ref aGR, .int mgs, .ref aKB, .ref aKP, .ref aIK, .int mka, .int miw])), (aPD, .inl (gI G, 48, .inl xpd))] → va_S A s.heap H locs → lv_has ls 7 [(0, .ref mo)] → W p l e rm_X10_faultOfBoard s m args below meth c H locs 0 0 (MQ below (HXq G post A) args s 0 0 A) (F0 m 293 ls []) := by
          intro H locs ls hF hP hD hS hl
          unfold f_X10_faultOfBoard_B293 at hF
          refine lv_aload_n hx hb dX10_faultOfBoard_293 rfl (lv_at hl 0 rfl) ?_
          refine hget hx hb hts hown hE fl_X10_146 hP 0 rfl rfl dX10_faultOfBoard_294 ?_
          refine lv_goto (tgt := 302) hx hb dX10_faultOfBoard_297 (by decide) ?_
          have hF := Option.some.inj hF
          subst hF
          exact hm_iret hx hb hr hlk hP hD hS hpost dX10_faultOfBoard_302
        refine lv_if_ne (tgt := 293) hx hb dX10_faultOfBoard_264 (by decide) (fun c_7 => ?_) (fun c_7 => ?_)
        · have hF := ifn hF c_7
          exact hB293 _ _ _ hF hP hD hS (lv_sub hl [0] rfl)
        · have hF := ifp hF c_7
          refine lv_aload_n hx hb dX10_faultOfBoard_267 rfl (lv_at hl 0 rfl) ?_
          refine hget hx hb hts hown hE fl_X10_149 hP 0 rfl rfl dX10_faultOfBoard_268 ?_
          refine lv_iconst (v := 0) hx hb dX10_faultOfBoard_271 (by decide) ?_
          refine hm_S (wn := [(mo, .inr (8, [.long mbd, .int mby, .int mgr, .int mol, .ref aMM, .ref aMT, .int mmy, .ref aPD, .int mpm, .long mrd_5, .int mbm, .int mbw, .long mpl, .ref aST, .ref aPL, .ref aRS, .ref aLA, .ref aBM, .int msm, .ref aRP, .ref aFI, .ref aFM, .ref aGB, .ref aGM, .ref aGV, .ref aGR, .int mgs, .ref aKB, .ref aKP, .ref aIK, .int mka, .int miw])), (aPD, .inl (gI G, 48, .inl xpd))]) (wr := [(mo, .inr (8, [.long mbd, .int mby, .int mgr, .int mol, .ref aMM, .ref aMT, .int mmy, .ref aPD, .int mpm, .long mrd_5, .int mbm, .int mbw, .long mpl, .ref aST, .ref aPL, .ref aRS, .ref aLA, .ref aBM, .int msm, .ref aRP, .ref aFI, .ref aFM, .ref aGB, .ref aGM, .ref aGV, .ref aGR, .int mgs, .ref aKB, .ref aKP, .ref aIK, .int mka, .int miw])), (aPD, .inl (gI G, 48, .inl xpd))]) (rest := []) (sn := [.int (f_X10_cellOf mrd_5 0)]) hx hb hml hown hts hE hA (k_X10_cellOf G l mrd_5 0 _ rfl) sm_X10_cellOf mw_852 ⟨rfl, rfl, Nat.le_of_ble_eq_true rfl, Nat.le_of_ble_eq_true rfl⟩ hP hD hS [] [0, 1] [0, 1] rfl rfl rfl (by decide) hl.1 rfl rfl (Nat.le_of_ble_eq_true rfl) dX10_faultOfBoard_272 ⟨Nat.le_of_ble_eq_true rfl, Nat.le_of_ble_eq_true rfl⟩ (fun H locs hP hD hS => ?_)
          refine lv_bipush (v := 31) hx hb dX10_faultOfBoard_275 (by decide) ?_
          refine lv_icmp_eq (tgt := 293) hx hb dX10_faultOfBoard_277 (by decide) (fun c_8 => ?_) (fun c_8 => ?_)
          · have hF := ifp hF c_8
            exact hB293 _ _ _ hF hP hD hS (lv_sub hl [0] rfl)
          · have hF := ifn hF c_8
            refine lv_aload_n hx hb dX10_faultOfBoard_280 rfl (lv_at hl 0 rfl) ?_
            refine hget hx hb hts hown hE fl_X10_149 hP 0 rfl rfl dX10_faultOfBoard_281 ?_
            refine lv_iconst (v := 3) hx hb dX10_faultOfBoard_284 (by decide) ?_
            refine hm_S (wn := [(mo, .inr (8, [.long mbd, .int mby, .int mgr, .int mol, .ref aMM, .ref aMT, .int mmy, .ref aPD, .int mpm, .long mrd_5, .int mbm, .int mbw, .long mpl, .ref aST, .ref aPL, .ref aRS, .ref aLA, .ref aBM, .int msm, .ref aRP, .ref aFI, .ref aFM, .ref aGB, .ref aGM, .ref aGV, .ref aGR, .int mgs, .ref aKB, .ref aKP, .ref aIK, .int mka, .int miw])), (aPD, .inl (gI G, 48, .inl xpd))]) (wr := [(mo, .inr (8, [.long mbd, .int mby, .int mgr, .int mol, .ref aMM, .ref aMT, .int mmy, .ref aPD, .int mpm, .long mrd_5, .int mbm, .int mbw, .long mpl, .ref aST, .ref aPL, .ref aRS, .ref aLA, .ref aBM, .int msm, .ref aRP, .ref aFI, .ref aFM, .ref aGB, .ref aGM, .ref aGV, .ref aGR, .int mgs, .ref aKB, .ref aKP, .ref aIK, .int mka, .int miw])), (aPD, .inl (gI G, 48, .inl xpd))]) (rest := []) (sn := [.int (f_X10_cellOf mrd_5 3)]) hx hb hml hown hts hE hA (k_X10_cellOf G l mrd_5 3 _ rfl) sm_X10_cellOf mw_852 ⟨rfl, rfl, Nat.le_of_ble_eq_true rfl, Nat.le_of_ble_eq_true rfl⟩ hP hD hS [] [0, 1] [0, 1] rfl rfl rfl (by decide) hl.1 rfl rfl (Nat.le_of_ble_eq_true rfl) dX10_faultOfBoard_285 ⟨Nat.le_of_ble_eq_true rfl, Nat.le_of_ble_eq_true rfl⟩ (fun H locs hP hD hS => ?_)
            refine lv_bipush (v := 31) hx hb dX10_faultOfBoard_288 (by decide) ?_
            refine lv_icmp_ne (tgt := 300) hx hb dX10_faultOfBoard_290 (by decide) (fun c_9 => ?_) (fun c_9 => ?_)
            · have hF := ifn hF c_9
              refine lv_bipush (v := (-6)) hx hb dX10_faultOfBoard_300 (by decide) ?_
              have hF := Option.some.inj hF
              subst hF
              exact hm_iret hx hb hr hlk hP hD hS hpost dX10_faultOfBoard_302
            · have hF := ifp hF c_9
              exact hB293 _ _ _ hF hP hD hS (lv_sub hl [0] rfl)
      · have hF := ifn hF c_6
        refine lv_aload_n hx hb dX10_faultOfBoard_25 rfl (lv_at hl 0 rfl) ?_
        refine hget hx hb hts hown hE fl_X10_16 hP 0 rfl rfl dX10_faultOfBoard_26 ?_
        refine lv_iload hx hb dX10_faultOfBoard_29 (lv_at hl 4 rfl) ?_
        obtain ⟨hi_10, hF⟩ := inb hF
        refine hiald hx hb hE hP 1 rfl hi_10 dX10_faultOfBoard_31 ?_
        refine lv_topi (fun v5_11 ev5_11 => ?_)
        have hF := jl hF ev5_11
        refine lv_istore (lv' := [(5, .int v5_11), (0, .ref mo), (1, .int x1_1), (2, .int x2_2), (3, .int x3_3), (4, .int x4_4)]) hx hb dX10_faultOfBoard_32 hl (by decide) rfl (fun ls hl => ?_)
        refine lv_iconst (v := 0) hx hb dX10_faultOfBoard_34 (by decide) ?_
        refine lv_istore (lv' := [(6, .int 0), (5, .int v5_11), (0, .ref mo), (1, .int x1_1), (2, .int x2_2), (3, .int x3_3), (4, .int x4_4)]) hx hb dX10_faultOfBoard_35 hl (by decide) rfl (fun ls hl => ?_)
        refine lv_aload_n hx hb dX10_faultOfBoard_37 rfl (lv_at hl 2 rfl) ?_
        refine hget hx hb hts hown hE fl_X10_149 hP 0 rfl rfl dX10_faultOfBoard_38 ?_
        refine hm_S (wn := [(mo, .inr (8, [.long mbd, .int mby, .int mgr, .int mol, .ref aMM, .ref aMT, .int mmy, .ref aPD, .int mpm, .long mrd_5, .int mbm, .int mbw, .long mpl, .ref aST, .ref aPL, .ref aRS, .ref aLA, .ref aBM, .int msm, .ref aRP, .ref aFI, .ref aFM, .ref aGB, .ref aGM, .ref aGV, .ref aGR, .int mgs, .ref aKB, .ref aKP, .ref aIK, .int mka, .int miw])), (aPD, .inl (gI G, 48, .inl xpd))]) (wr := [(mo, .inr (8, [.long mbd, .int mby, .int mgr, .int mol, .ref aMM, .ref aMT, .int mmy, .ref aPD, .int mpm, .long mrd_5, .int mbm, .int mbw, .long mpl, .ref aST, .ref aPL, .ref aRS, .ref aLA, .ref aBM, .int msm, .ref aRP, .ref aFI, .ref aFM, .ref aGB, .ref aGM, .ref aGV, .ref aGR, .int mgs, .ref aKB, .ref aKP, .ref aIK, .int mka, .int miw])), (aPD, .inl (gI G, 48, .inl xpd))]) (rest := []) (sn := [.int (f_X10_turnOf mrd_5)]) hx hb hml hown hts hE hA (k_X10_turnOf G l mrd_5 _ rfl) sm_X10_turnOf mw_848 ⟨rfl, rfl, Nat.le_of_ble_eq_true rfl, Nat.le_of_ble_eq_true rfl⟩ hP hD hS [] [0, 1] [0, 1] rfl rfl rfl (by decide) hl.1 rfl rfl (Nat.le_of_ble_eq_true rfl) dX10_faultOfBoard_41 ⟨Nat.le_of_ble_eq_true rfl, Nat.le_of_ble_eq_true rfl⟩ (fun H locs hP hD hS => ?_)
        refine lv_iconst (v := 1) hx hb dX10_faultOfBoard_44 (by decide) ?_
        refine lv_icmp_ne (tgt := 51) hx hb dX10_faultOfBoard_45 (by decide) (fun c_12 => ?_) (fun c_12 => ?_)
        · have hF := ifn hF c_12
          refine lv_iload_n hx hb dX10_faultOfBoard_51 rfl (lv_at hl 3 rfl) ?_
          have hB243 : ∀ (x1_13 : Int32) (x2_14 : Int32) (x3_15 : Int32) (x6_16 : Int32) (mrd_17 : Int64) (H : Heap) (locs : List Loc) (ls : Array Slot), f_X10_faultOfBoard_B243 (f_X10_faultOfBoard_L16 mpm xpd n16) x4_4 x1_13 x2_14 x3_15 x6_16 mrd_17 = some r → va_P (gD G) vwCl [(mo, .inr (8, [.long mbd, .int mby, .int mgr, .int mol, .ref aMM, .ref aMT, .int mmy, .ref aPD, .int mpm, .long mrd_17, .int mbm, .int mbw, .long mpl, .ref aST, .ref aPL, .ref aRS, .ref aLA, .ref aBM, .int msm, .ref aRP, .ref aFI, .ref aFM, .ref aGB, .ref aGM, .ref aGV, .ref aGR, .int mgs, .ref aKB, .ref aKP, .ref aIK, .int mka, .int miw])), (aPD, .inl (gI G, 48, .inl xpd))] H → va_D A [(mo, .inr (8, [.long mbd, .int mby, .int mgr, .int mol, .ref aMM, .ref aMT, .int mmy, .ref aPD, .int mpm, .long mrd_17, .int mbm, .int mbw, .long mpl, .ref aST, .ref aPL, .ref aRS, .ref aLA, .ref aBM, .int msm, .ref aRP, .ref aFI, .ref aFM, .ref aGB, .ref aGM, .ref aGV, .ref aGR, .int mgs, .ref aKB, .ref aKP, .ref aIK, .int mka, .int miw])), (aPD, .inl (gI G, 48, .inl xpd))] → va_S A s.heap H locs → lv_has ls 7 [(0, .ref mo), (1, .int x1_13), (2, .int x2_14), (3, .int x3_15), (4, .int x4_4), (6, .int x6_16)] → W p l e rm_X10_faultOfBoard s m args below meth c H locs 0 0 (MQ below (HXq G post A) args s 0 0 A) (F0 m 243 ls []) := by
            intro x1_13 x2_14 x3_15 x6_16 mrd_17 H locs ls hF hP hD hS hl
            unfold f_X10_faultOfBoard_B243 at hF
            refine lv_iload hx hb dX10_faultOfBoard_243 (lv_at hl 5 rfl) ?_
            refine lv_if_ne (tgt := 251) hx hb dX10_faultOfBoard_245 (by decide) (fun c_18 => ?_) (fun c_18 => ?_)
            · have hF := ifn hF c_18
              refine lv_iload_n hx hb dX10_faultOfBoard_251 rfl (lv_at hl 1 rfl) ?_
              refine lv_iconst (v := 1) hx hb dX10_faultOfBoard_252 (by decide) ?_
              refine lv_iadd hx hb dX10_faultOfBoard_253 ?_
              refine lv_iconst (v := 4) hx hb dX10_faultOfBoard_254 (by decide) ?_
              refine lv_irem hx hb dX10_faultOfBoard_255 (by decide) ?_
              refine lv_topi (fun v1_19 ev1_19 => ?_)
              have hF := jl hF ev1_19
              refine lv_istore_n (lv' := [(1, .int v1_19), (0, .ref mo), (2, .int x2_14), (3, .int x3_15), (4, .int x4_4), (6, .int x6_16)]) hx hb dX10_faultOfBoard_256 rfl hl (by decide) rfl (fun ls hl => ?_)
              obtain ⟨v4_20, ev4_20⟩ : ∃ z : Int32, z = x4_4 + 1 := ⟨_, rfl⟩
              have hF := jl hF ev4_20
              refine lv_iinc (v := v4_20) (lv' := [(4, .int v4_20), (1, .int v1_19), (0, .ref mo), (2, .int x2_14), (3, .int x3_15), (6, .int x6_16)]) hx hb dX10_faultOfBoard_257 hl (k := 4) rfl (by rw [ev4_20]; rfl) (by decide) rfl (fun ls hl => ?_)
              refine lv_goto (tgt := 16) hx hb dX10_faultOfBoard_260 (by decide) ?_
              exact ih16 v1_19 x2_14 x3_15 v4_20 mrd_17 _ _ _ hF hP hD hS (lv_sub hl [2, 1, 3, 4, 0] rfl)
            · have hF := ifp hF c_18
              refine lv_iload hx hb dX10_faultOfBoard_248 (lv_at hl 4 rfl) ?_
              have hF := Option.some.inj hF
              subst hF
              exact hm_iret hx hb hr hlk hP hD hS hpost dX10_faultOfBoard_250
          refine lv_if_ne (tgt := 120) hx hb dX10_faultOfBoard_52 (by decide) (fun c_21 => ?_) (fun c_21 => ?_)
          · have hF := ifn hF c_21
            refine lv_iload_n hx hb dX10_faultOfBoard_120 rfl (lv_at hl 3 rfl) ?_
            refine lv_iconst (v := 1) hx hb dX10_faultOfBoard_121 (by decide) ?_
            refine lv_icmp_ne (tgt := 148) hx hb dX10_faultOfBoard_122 (by decide) (fun c_22 => ?_) (fun c_22 => ?_)
            · have hF := ifn hF c_22
              refine lv_iload_n hx hb dX10_faultOfBoard_148 rfl (lv_at hl 3 rfl) ?_
              refine lv_iconst (v := 2) hx hb dX10_faultOfBoard_149 (by decide) ?_
              refine lv_icmp_ne (tgt := 199) hx hb dX10_faultOfBoard_150 (by decide) (fun c_23 => ?_) (fun c_23 => ?_)
              · have hF := ifn hF c_23
                refine lv_iload hx hb dX10_faultOfBoard_199 (lv_at hl 1 rfl) ?_
                refine lv_i2l (v := (v5_11.toInt64)) hx hb dX10_faultOfBoard_201 rfl ?_
                refine lv_ldc2 (v := 48) hx hb hown (hts _ (List.mem_cons_of_mem _ mw_863)) dX10_faultOfBoard_202 ?_
                refine lv_ldc2 (v := 57) hx hb hown (hts _ (List.mem_cons_of_mem _ mw_864)) dX10_faultOfBoard_205 ?_
                refine hm_S (wn := [(mo, .inr (8, [.long mbd, .int mby, .int mgr, .int mol, .ref aMM, .ref aMT, .int mmy, .ref aPD, .int mpm, .long mrd_5, .int mbm, .int mbw, .long mpl, .ref aST, .ref aPL, .ref aRS, .ref aLA, .ref aBM, .int msm, .ref aRP, .ref aFI, .ref aFM, .ref aGB, .ref aGM, .ref aGV, .ref aGR, .int mgs, .ref aKB, .ref aKP, .ref aIK, .int mka, .int miw])), (aPD, .inl (gI G, 48, .inl xpd))]) (wr := [(mo, .inr (8, [.long mbd, .int mby, .int mgr, .int mol, .ref aMM, .ref aMT, .int mmy, .ref aPD, .int mpm, .long mrd_5, .int mbm, .int mbw, .long mpl, .ref aST, .ref aPL, .ref aRS, .ref aLA, .ref aBM, .int msm, .ref aRP, .ref aFI, .ref aFM, .ref aGB, .ref aGM, .ref aGV, .ref aGR, .int mgs, .ref aKB, .ref aKP, .ref aIK, .int mka, .int miw])), (aPD, .inl (gI G, 48, .inl xpd))]) (rest := []) (sn := [.int (f_X10_in (v5_11.toInt64) 48 57)]) hx hb hml hown hts hE hA (k_X10_in G l (v5_11.toInt64) 48 57 _ rfl) sm_X10_in mw_833 ⟨rfl, rfl, Nat.le_of_ble_eq_true rfl, Nat.le_of_ble_eq_true rfl⟩ hP hD hS [] [0, 1] [0, 1] rfl rfl rfl (by decide) hl.1 rfl rfl (Nat.le_of_ble_eq_true rfl) dX10_faultOfBoard_208 ⟨Nat.le_of_ble_eq_true rfl, Nat.le_of_ble_eq_true rfl⟩ (fun H locs hP hD hS => ?_)
                refine lv_topi (fun v6_24 ev6_24 => ?_)
                have hF := jl hF ev6_24
                refine lv_istore (lv' := [(6, .int v6_24), (5, .int v5_11), (0, .ref mo), (1, .int x1_1), (2, .int x2_2), (3, .int x3_3), (4, .int x4_4)]) hx hb dX10_faultOfBoard_211 hl (by decide) rfl (fun ls hl => ?_)
                refine lv_aload_n hx hb dX10_faultOfBoard_213 rfl (lv_at hl 2 rfl) ?_
                refine lv_iload hx hb dX10_faultOfBoard_214 (lv_at hl 0 rfl) ?_
                have hB240 : ∀ (t1_25 : Int64) (H : Heap) (locs : List Loc) (ls : Array Slot), f_X10_faultOfBoard_B240 (f_X10_faultOfBoard_L16 mpm xpd n16) x1_1 x2_2 x3_3 x4_4 v6_24 t1_25 = some r → va_P (gD G) vwCl [(mo, .inr (8, [.long mbd, .int mby, .int mgr, .int mol, .ref aMM, .ref aMT, .int mmy, .ref aPD, .int mpm, .long mrd_5, .int mbm, .int mbw, .long mpl, .ref aST, .ref aPL, .ref aRS, .ref aLA, .ref aBM, .int msm, .ref aRP, .ref aFI, .ref aFM, .ref aGB, .ref aGM, .ref aGV, .ref aGR, .int mgs, .ref aKB, .ref aKP, .ref aIK, .int mka, .int miw])), (aPD, .inl (gI G, 48, .inl xpd))] H → va_D A [(mo, .inr (8, [.long mbd, .int mby, .int mgr, .int mol, .ref aMM, .ref aMT, .int mmy, .ref aPD, .int mpm, .long mrd_5, .int mbm, .int mbw, .long mpl, .ref aST, .ref aPL, .ref aRS, .ref aLA, .ref aBM, .int msm, .ref aRP, .ref aFI, .ref aFM, .ref aGB, .ref aGM, .ref aGV, .ref aGR, .int mgs, .ref aKB, .ref aKP, .ref aIK, .int mka, .int miw])), (aPD, .inl (gI G, 48, .inl xpd))] → va_S A s.heap H locs → lv_has ls 7 [(0, .ref mo), (1, .int x1_1), (2, .int x2_2), (3, .int x3_3), (4, .int x4_4), (6, .int v6_24)] → W p l e rm_X10_faultOfBoard s m args below meth c H locs 0 0 (MQ below (HXq G post A) args s 0 0 A) (F0 m 240 ls [.long t1_25, .ref mo]) := by
                  intro t1_25 H locs ls hF hP hD hS hl
                  unfold f_X10_faultOfBoard_B240 at hF
                  refine hput hx hb hts hown hE fl_X10_149 ft_X10_9 hP hD hS 0 rfl rfl rfl rfl (Nat.le_of_ble_eq_true rfl) (wn := [(mo, .inr (8, [.long mbd, .int mby, .int mgr, .int mol, .ref aMM, .ref aMT, .int mmy, .ref aPD, .int mpm, .long t1_25, .int mbm, .int mbw, .long mpl, .ref aST, .ref aPL, .ref aRS, .ref aLA, .ref aBM, .int msm, .ref aRP, .ref aFI, .ref aFM, .ref aGB, .ref aGM, .ref aGV, .ref aGR, .int mgs, .ref aKB, .ref aKP, .ref aIK, .int mka, .int miw])), (aPD, .inl (gI G, 48, .inl xpd))]) rfl dX10_faultOfBoard_240 (fun H locs hP hD hS => ?_)
                  exact hB243 x1_1 x2_2 x3_3 v6_24 t1_25 _ _ _ hF hP hD hS (lv_sub hl [0, 1, 2, 3, 4, 5] rfl)
                refine lv_if_eq (tgt := 236) hx hb dX10_faultOfBoard_216 (by decide) (fun c_26 => ?_) (fun c_26 => ?_)
                · have hF := ifp hF c_26
                  refine lv_aload_n hx hb dX10_faultOfBoard_236 rfl (lv_at hl 2 rfl) ?_
                  refine hget hx hb hts hown hE fl_X10_149 hP 0 rfl rfl dX10_faultOfBoard_237 ?_
                  exact hB240 mrd_5 _ _ _ hF hP hD hS (lv_sub hl [2, 3, 4, 5, 6, 0] rfl)
                · have hF := ifn hF c_26
                  refine lv_aload_n hx hb dX10_faultOfBoard_219 rfl (lv_at hl 2 rfl) ?_
                  refine hget hx hb hts hown hE fl_X10_149 hP 0 rfl rfl dX10_faultOfBoard_220 ?_
                  refine lv_iload_n hx hb dX10_faultOfBoard_223 rfl (lv_at hl 4 rfl) ?_
                  refine lv_iload_n hx hb dX10_faultOfBoard_224 rfl (lv_at hl 5 rfl) ?_
                  refine lv_iload hx hb dX10_faultOfBoard_225 (lv_at hl 1 rfl) ?_
                  refine lv_bipush (v := 48) hx hb dX10_faultOfBoard_227 (by decide) ?_
                  refine lv_isub hx hb dX10_faultOfBoard_229 ?_
                  refine hm_S (wn := [(mo, .inr (8, [.long mbd, .int mby, .int mgr, .int mol, .ref aMM, .ref aMT, .int mmy, .ref aPD, .int mpm, .long mrd_5, .int mbm, .int mbw, .long mpl, .ref aST, .ref aPL, .ref aRS, .ref aLA, .ref aBM, .int msm, .ref aRP, .ref aFI, .ref aFM, .ref aGB, .ref aGM, .ref aGV, .ref aGR, .int mgs, .ref aKB, .ref aKP, .ref aIK, .int mka, .int miw])), (aPD, .inl (gI G, 48, .inl xpd))]) (wr := [(mo, .inr (8, [.long mbd, .int mby, .int mgr, .int mol, .ref aMM, .ref aMT, .int mmy, .ref aPD, .int mpm, .long mrd_5, .int mbm, .int mbw, .long mpl, .ref aST, .ref aPL, .ref aRS, .ref aLA, .ref aBM, .int msm, .ref aRP, .ref aFI, .ref aFM, .ref aGB, .ref aGM, .ref aGV, .ref aGR, .int mgs, .ref aKB, .ref aKP, .ref aIK, .int mka, .int miw])), (aPD, .inl (gI G, 48, .inl xpd))]) (rest := [.ref mo]) (sn := [.long (f_X10_put mrd_5 x2_2 x3_3 (v5_11 - 48)), .ref mo]) hx hb hml hown hts hE hA (k_X10_put G l mrd_5 x2_2 x3_3 (v5_11 - 48) _ rfl) sm_X10_put mw_724 ⟨rfl, rfl, Nat.le_of_ble_eq_true rfl, Nat.le_of_ble_eq_true rfl⟩ hP hD hS [] [0, 1] [0, 1] rfl rfl rfl (by decide) hl.1 rfl rfl (Nat.le_of_ble_eq_true rfl) dX10_faultOfBoard_230 ⟨Nat.le_of_ble_eq_true rfl, Nat.le_of_ble_eq_true rfl⟩ (fun H locs hP hD hS => ?_)
                  refine lv_goto (tgt := 240) hx hb dX10_faultOfBoard_233 (by decide) ?_
                  exact hB240 (f_X10_put mrd_5 x2_2 x3_3 (v5_11 - 48)) _ _ _ hF hP hD hS (lv_sub hl [2, 3, 4, 5, 6, 0] rfl)
              · have hF := ifp hF c_23
                refine lv_iload_n hx hb dX10_faultOfBoard_153 rfl (lv_at hl 5 rfl) ?_
                refine lv_iconst (v := 5) hx hb dX10_faultOfBoard_154 (by decide) ?_
                refine lv_iload hx hb dX10_faultOfBoard_155 (lv_at hl 1 rfl) ?_
                refine lv_bipush (v := 49) hx hb dX10_faultOfBoard_157 (by decide) ?_
                refine lv_isub hx hb dX10_faultOfBoard_159 ?_
                refine lv_imul hx hb dX10_faultOfBoard_160 ?_
                refine lv_iadd hx hb dX10_faultOfBoard_161 ?_
                refine lv_topi (fun v3_27 ev3_27 => ?_)
                have hF := jl hF ev3_27
                refine lv_istore_n (lv' := [(3, .int v3_27), (6, .int 0), (5, .int v5_11), (0, .ref mo), (1, .int x1_1), (2, .int x2_2), (4, .int x4_4)]) hx hb dX10_faultOfBoard_162 rfl hl (by decide) rfl (fun ls hl => ?_)
                refine lv_iload hx hb dX10_faultOfBoard_163 (lv_at hl 2 rfl) ?_
                refine lv_i2l (v := (v5_11.toInt64)) hx hb dX10_faultOfBoard_165 rfl ?_
                refine lv_ldc2 (v := 49) hx hb hown (hts _ (List.mem_cons_of_mem _ mw_858)) dX10_faultOfBoard_166 ?_
                refine lv_ldc2 (v := 53) hx hb hown (hts _ (List.mem_cons_of_mem _ mw_859)) dX10_faultOfBoard_169 ?_
                refine hm_S (wn := [(mo, .inr (8, [.long mbd, .int mby, .int mgr, .int mol, .ref aMM, .ref aMT, .int mmy, .ref aPD, .int mpm, .long mrd_5, .int mbm, .int mbw, .long mpl, .ref aST, .ref aPL, .ref aRS, .ref aLA, .ref aBM, .int msm, .ref aRP, .ref aFI, .ref aFM, .ref aGB, .ref aGM, .ref aGV, .ref aGR, .int mgs, .ref aKB, .ref aKP, .ref aIK, .int mka, .int miw])), (aPD, .inl (gI G, 48, .inl xpd))]) (wr := [(mo, .inr (8, [.long mbd, .int mby, .int mgr, .int mol, .ref aMM, .ref aMT, .int mmy, .ref aPD, .int mpm, .long mrd_5, .int mbm, .int mbw, .long mpl, .ref aST, .ref aPL, .ref aRS, .ref aLA, .ref aBM, .int msm, .ref aRP, .ref aFI, .ref aFM, .ref aGB, .ref aGM, .ref aGV, .ref aGR, .int mgs, .ref aKB, .ref aKP, .ref aIK, .int mka, .int miw])), (aPD, .inl (gI G, 48, .inl xpd))]) (rest := []) (sn := [.int (f_X10_in (v5_11.toInt64) 49 53)]) hx hb hml hown hts hE hA (k_X10_in G l (v5_11.toInt64) 49 53 _ rfl) sm_X10_in mw_833 ⟨rfl, rfl, Nat.le_of_ble_eq_true rfl, Nat.le_of_ble_eq_true rfl⟩ hP hD hS [] [0, 1] [0, 1] rfl rfl rfl (by decide) hl.1 rfl rfl (Nat.le_of_ble_eq_true rfl) dX10_faultOfBoard_172 ⟨Nat.le_of_ble_eq_true rfl, Nat.le_of_ble_eq_true rfl⟩ (fun H locs hP hD hS => ?_)
                refine lv_if_eq (tgt := 193) hx hb dX10_faultOfBoard_175 (by decide) (fun c_28 => ?_) (fun c_28 => ?_)
                · have hF := ifp hF c_28
                  refine lv_iconst (v := 0) hx hb dX10_faultOfBoard_193 (by decide) ?_
                  refine lv_istore (lv' := [(6, .int 0), (3, .int v3_27), (5, .int v5_11), (0, .ref mo), (1, .int x1_1), (2, .int x2_2), (4, .int x4_4)]) hx hb dX10_faultOfBoard_194 hl (by decide) rfl (fun ls hl => ?_)
                  refine lv_goto (tgt := 243) hx hb dX10_faultOfBoard_196 (by decide) ?_
                  exact hB243 x1_1 x2_2 v3_27 0 mrd_5 _ _ _ hF hP hD hS (lv_sub hl [3, 4, 5, 1, 6, 0] rfl)
                · have hF := ifn hF c_28
                  refine lv_aload_n hx hb dX10_faultOfBoard_178 rfl (lv_at hl 3 rfl) ?_
                  refine hget hx hb hts hown hE fl_X10_149 hP 0 rfl rfl dX10_faultOfBoard_179 ?_
                  refine lv_iload_n hx hb dX10_faultOfBoard_182 rfl (lv_at hl 0 rfl) ?_
                  obtain ⟨r183_29, hr183_29, hF⟩ := bnd hF
                  refine hm_S (wn := [(mo, .inr (8, [.long mbd, .int mby, .int mgr, .int mol, .ref aMM, .ref aMT, .int mmy, .ref aPD, .int mpm, .long mrd_5, .int mbm, .int mbw, .long mpl, .ref aST, .ref aPL, .ref aRS, .ref aLA, .ref aBM, .int msm, .ref aRP, .ref aFI, .ref aFM, .ref aGB, .ref aGM, .ref aGV, .ref aGR, .int mgs, .ref aKB, .ref aKP, .ref aIK, .int mka, .int miw])), (aPD, .inl (gI G, 48, .inl xpd))]) (wr := [(mo, .inr (8, [.long mbd, .int mby, .int mgr, .int mol, .ref aMM, .ref aMT, .int mmy, .ref aPD, .int mpm, .long mrd_5, .int mbm, .int mbw, .long mpl, .ref aST, .ref aPL, .ref aRS, .ref aLA, .ref aBM, .int msm, .ref aRP, .ref aFI, .ref aFM, .ref aGB, .ref aGM, .ref aGV, .ref aGR, .int mgs, .ref aKB, .ref aKP, .ref aIK, .int mka, .int miw])), (aPD, .inl (gI G, 48, .inl xpd))]) (rest := []) (sn := [.int r183_29]) hx hb hml hown hts hE hA (k_X10_manOn G l mrd_5 v3_27 r183_29 hr183_29) sm_X10_manOn mw_860 ⟨rfl, rfl, Nat.le_of_ble_eq_true rfl, Nat.le_of_ble_eq_true rfl⟩ hP hD hS [] [0, 1] [0, 1] rfl rfl rfl (by decide) hl.1 rfl rfl (Nat.le_of_ble_eq_true rfl) dX10_faultOfBoard_183 ⟨Nat.le_of_ble_eq_true rfl, Nat.le_of_ble_eq_true rfl⟩ (fun H locs hP hD hS => ?_)
                  refine lv_if_ge (tgt := 193) hx hb dX10_faultOfBoard_186 (by decide) (fun c_30 => ?_) (fun c_30 => ?_)
                  · have hF := ifp hF c_30
                    refine lv_iconst (v := 0) hx hb dX10_faultOfBoard_193 (by decide) ?_
                    refine lv_istore (lv' := [(6, .int 0), (3, .int v3_27), (5, .int v5_11), (0, .ref mo), (1, .int x1_1), (2, .int x2_2), (4, .int x4_4)]) hx hb dX10_faultOfBoard_194 hl (by decide) rfl (fun ls hl => ?_)
                    refine lv_goto (tgt := 243) hx hb dX10_faultOfBoard_196 (by decide) ?_
                    exact hB243 x1_1 x2_2 v3_27 0 mrd_5 _ _ _ hF hP hD hS (lv_sub hl [3, 4, 5, 1, 6, 0] rfl)
                  · have hF := ifn hF c_30
                    refine lv_iconst (v := 1) hx hb dX10_faultOfBoard_189 (by decide) ?_
                    refine lv_goto (tgt := 194) hx hb dX10_faultOfBoard_190 (by decide) ?_
                    refine lv_istore (lv' := [(6, .int 1), (3, .int v3_27), (5, .int v5_11), (0, .ref mo), (1, .int x1_1), (2, .int x2_2), (4, .int x4_4)]) hx hb dX10_faultOfBoard_194 hl (by decide) rfl (fun ls hl => ?_)
                    refine lv_goto (tgt := 243) hx hb dX10_faultOfBoard_196 (by decide) ?_
                    exact hB243 x1_1 x2_2 v3_27 1 mrd_5 _ _ _ hF hP hD hS (lv_sub hl [3, 4, 5, 1, 6, 0] rfl)
            · have hF := ifp hF c_22
              refine lv_iload hx hb dX10_faultOfBoard_125 (lv_at hl 1 rfl) ?_
              refine lv_bipush (v := 97) hx hb dX10_faultOfBoard_127 (by decide) ?_
              refine lv_isub hx hb dX10_faultOfBoard_129 ?_
              refine lv_topi (fun v3_31 ev3_31 => ?_)
              have hF := jl hF ev3_31
              refine lv_istore_n (lv' := [(3, .int v3_31), (6, .int 0), (5, .int v5_11), (0, .ref mo), (1, .int x1_1), (2, .int x2_2), (4, .int x4_4)]) hx hb dX10_faultOfBoard_130 rfl hl (by decide) rfl (fun ls hl => ?_)
              refine lv_iload hx hb dX10_faultOfBoard_131 (lv_at hl 2 rfl) ?_
              refine lv_i2l (v := (v5_11.toInt64)) hx hb dX10_faultOfBoard_133 rfl ?_
              refine lv_ldc2 (v := 97) hx hb hown (hts _ (List.mem_cons_of_mem _ mw_856)) dX10_faultOfBoard_134 ?_
              refine lv_ldc2 (v := 101) hx hb hown (hts _ (List.mem_cons_of_mem _ mw_857)) dX10_faultOfBoard_137 ?_
              refine hm_S (wn := [(mo, .inr (8, [.long mbd, .int mby, .int mgr, .int mol, .ref aMM, .ref aMT, .int mmy, .ref aPD, .int mpm, .long mrd_5, .int mbm, .int mbw, .long mpl, .ref aST, .ref aPL, .ref aRS, .ref aLA, .ref aBM, .int msm, .ref aRP, .ref aFI, .ref aFM, .ref aGB, .ref aGM, .ref aGV, .ref aGR, .int mgs, .ref aKB, .ref aKP, .ref aIK, .int mka, .int miw])), (aPD, .inl (gI G, 48, .inl xpd))]) (wr := [(mo, .inr (8, [.long mbd, .int mby, .int mgr, .int mol, .ref aMM, .ref aMT, .int mmy, .ref aPD, .int mpm, .long mrd_5, .int mbm, .int mbw, .long mpl, .ref aST, .ref aPL, .ref aRS, .ref aLA, .ref aBM, .int msm, .ref aRP, .ref aFI, .ref aFM, .ref aGB, .ref aGM, .ref aGV, .ref aGR, .int mgs, .ref aKB, .ref aKP, .ref aIK, .int mka, .int miw])), (aPD, .inl (gI G, 48, .inl xpd))]) (rest := []) (sn := [.int (f_X10_in (v5_11.toInt64) 97 101)]) hx hb hml hown hts hE hA (k_X10_in G l (v5_11.toInt64) 97 101 _ rfl) sm_X10_in mw_833 ⟨rfl, rfl, Nat.le_of_ble_eq_true rfl, Nat.le_of_ble_eq_true rfl⟩ hP hD hS [] [0, 1] [0, 1] rfl rfl rfl (by decide) hl.1 rfl rfl (Nat.le_of_ble_eq_true rfl) dX10_faultOfBoard_140 ⟨Nat.le_of_ble_eq_true rfl, Nat.le_of_ble_eq_true rfl⟩ (fun H locs hP hD hS => ?_)
              refine lv_topi (fun v6_32 ev6_32 => ?_)
              have hF := jl hF ev6_32
              refine lv_istore (lv' := [(6, .int v6_32), (3, .int v3_31), (5, .int v5_11), (0, .ref mo), (1, .int x1_1), (2, .int x2_2), (4, .int x4_4)]) hx hb dX10_faultOfBoard_143 hl (by decide) rfl (fun ls hl => ?_)
              refine lv_goto (tgt := 243) hx hb dX10_faultOfBoard_145 (by decide) ?_
              exact hB243 x1_1 x2_2 v3_31 v6_32 mrd_5 _ _ _ hF hP hD hS (lv_sub hl [3, 4, 5, 1, 6, 0] rfl)
          · have hF := ifp hF c_21
            refine lv_iload hx hb dX10_faultOfBoard_55 (lv_at hl 1 rfl) ?_
            refine lv_bipush (v := 48) hx hb dX10_faultOfBoard_57 (by decide) ?_
            refine lv_isub hx hb dX10_faultOfBoard_59 ?_
            refine lv_topi (fun v2_33 ev2_33 => ?_)
            have hF := jl hF ev2_33
            refine lv_istore_n (lv' := [(2, .int v2_33), (6, .int 0), (5, .int v5_11), (0, .ref mo), (1, .int x1_1), (3, .int x3_3), (4, .int x4_4)]) hx hb dX10_faultOfBoard_60 rfl hl (by decide) rfl (fun ls hl => ?_)
            refine lv_iload_n hx hb dX10_faultOfBoard_61 rfl (lv_at hl 0 rfl) ?_
            refine lv_i2l (v := (v2_33.toInt64)) hx hb dX10_faultOfBoard_62 rfl ?_
            refine lv_lconst (v := 0) hx hb dX10_faultOfBoard_63 (by decide) ?_
            refine lv_ldc2 (v := 5) hx hb hown (hts _ (List.mem_cons_of_mem _ mw_851)) dX10_faultOfBoard_64 ?_
            refine hm_S (wn := [(mo, .inr (8, [.long mbd, .int mby, .int mgr, .int mol, .ref aMM, .ref aMT, .int mmy, .ref aPD, .int mpm, .long mrd_5, .int mbm, .int mbw, .long mpl, .ref aST, .ref aPL, .ref aRS, .ref aLA, .ref aBM, .int msm, .ref aRP, .ref aFI, .ref aFM, .ref aGB, .ref aGM, .ref aGV, .ref aGR, .int mgs, .ref aKB, .ref aKP, .ref aIK, .int mka, .int miw])), (aPD, .inl (gI G, 48, .inl xpd))]) (wr := [(mo, .inr (8, [.long mbd, .int mby, .int mgr, .int mol, .ref aMM, .ref aMT, .int mmy, .ref aPD, .int mpm, .long mrd_5, .int mbm, .int mbw, .long mpl, .ref aST, .ref aPL, .ref aRS, .ref aLA, .ref aBM, .int msm, .ref aRP, .ref aFI, .ref aFM, .ref aGB, .ref aGM, .ref aGV, .ref aGR, .int mgs, .ref aKB, .ref aKP, .ref aIK, .int mka, .int miw])), (aPD, .inl (gI G, 48, .inl xpd))]) (rest := []) (sn := [.int (f_X10_in (v2_33.toInt64) 0 5)]) hx hb hml hown hts hE hA (k_X10_in G l (v2_33.toInt64) 0 5 _ rfl) sm_X10_in mw_833 ⟨rfl, rfl, Nat.le_of_ble_eq_true rfl, Nat.le_of_ble_eq_true rfl⟩ hP hD hS [] [0, 1] [0, 1] rfl rfl rfl (by decide) hl.1 rfl rfl (Nat.le_of_ble_eq_true rfl) dX10_faultOfBoard_67 ⟨Nat.le_of_ble_eq_true rfl, Nat.le_of_ble_eq_true rfl⟩ (fun H locs hP hD hS => ?_)
            have hB91 : ∀ (t0_34 : Int32) (H : Heap) (locs : List Loc) (ls : Array Slot), f_X10_faultOfBoard_B91 (f_X10_faultOfBoard_L16 mpm xpd n16) x1_1 x3_3 x4_4 mrd_5 v5_11 v2_33 t0_34 = some r → va_P (gD G) vwCl [(mo, .inr (8, [.long mbd, .int mby, .int mgr, .int mol, .ref aMM, .ref aMT, .int mmy, .ref aPD, .int mpm, .long mrd_5, .int mbm, .int mbw, .long mpl, .ref aST, .ref aPL, .ref aRS, .ref aLA, .ref aBM, .int msm, .ref aRP, .ref aFI, .ref aFM, .ref aGB, .ref aGM, .ref aGV, .ref aGR, .int mgs, .ref aKB, .ref aKP, .ref aIK, .int mka, .int miw])), (aPD, .inl (gI G, 48, .inl xpd))] H → va_D A [(mo, .inr (8, [.long mbd, .int mby, .int mgr, .int mol, .ref aMM, .ref aMT, .int mmy, .ref aPD, .int mpm, .long mrd_5, .int mbm, .int mbw, .long mpl, .ref aST, .ref aPL, .ref aRS, .ref aLA, .ref aBM, .int msm, .ref aRP, .ref aFI, .ref aFM, .ref aGB, .ref aGM, .ref aGV, .ref aGR, .int mgs, .ref aKB, .ref aKP, .ref aIK, .int mka, .int miw])), (aPD, .inl (gI G, 48, .inl xpd))] → va_S A s.heap H locs → lv_has ls 7 [(0, .ref mo), (1, .int x1_1), (2, .int v2_33), (3, .int x3_3), (4, .int x4_4), (5, .int v5_11)] → W p l e rm_X10_faultOfBoard s m args below meth c H locs 0 0 (MQ below (HXq G post A) args s 0 0 A) (F0 m 91 ls [.int t0_34]) := by
              intro t0_34 H locs ls hF hP hD hS hl
              unfold f_X10_faultOfBoard_B91 at hF
              refine lv_istore (lv' := [(6, .int t0_34), (0, .ref mo), (1, .int x1_1), (2, .int v2_33), (3, .int x3_3), (4, .int x4_4), (5, .int v5_11)]) hx hb dX10_faultOfBoard_91 hl (by decide) rfl (fun ls hl => ?_)
              refine lv_iload hx hb dX10_faultOfBoard_93 (lv_at hl 6 rfl) ?_
              refine lv_bipush (v := 33) hx hb dX10_faultOfBoard_95 (by decide) ?_
              refine lv_icmp_ne (tgt := 243) hx hb dX10_faultOfBoard_97 (by decide) (fun c_35 => ?_) (fun c_35 => ?_)
              · have hF := ifn hF c_35
                exact hB243 x1_1 v2_33 x3_3 t0_34 mrd_5 _ _ _ hF hP hD hS (lv_sub hl [1, 2, 3, 4, 5, 0] rfl)
              · have hF := ifp hF c_35
                refine lv_aload_n hx hb dX10_faultOfBoard_100 rfl (lv_at hl 1 rfl) ?_
                refine lv_dup hx hb dX10_faultOfBoard_101 rfl ?_
                refine hget hx hb hts hown hE fl_X10_149 hP 0 rfl rfl dX10_faultOfBoard_102 ?_
                refine lv_ldc2 (v := 18014398509481984) hx hb hown (hts _ (List.mem_cons_of_mem _ mw_855)) dX10_faultOfBoard_105 ?_
                refine lv_lor hx hb dX10_faultOfBoard_108 ?_
                refine lv_topl (fun u109_36 eu109_36 => ?_)
                have hF := jl hF eu109_36
                refine hput hx hb hts hown hE fl_X10_149 ft_X10_9 hP hD hS 0 rfl rfl rfl rfl (Nat.le_of_ble_eq_true rfl) (wn := [(mo, .inr (8, [.long mbd, .int mby, .int mgr, .int mol, .ref aMM, .ref aMT, .int mmy, .ref aPD, .int mpm, .long u109_36, .int mbm, .int mbw, .long mpl, .ref aST, .ref aPL, .ref aRS, .ref aLA, .ref aBM, .int msm, .ref aRP, .ref aFI, .ref aFM, .ref aGB, .ref aGM, .ref aGV, .ref aGR, .int mgs, .ref aKB, .ref aKP, .ref aIK, .int mka, .int miw])), (aPD, .inl (gI G, 48, .inl xpd))]) rfl dX10_faultOfBoard_109 (fun H locs hP hD hS => ?_)
                refine lv_iconst (v := 1) hx hb dX10_faultOfBoard_112 (by decide) ?_
                refine lv_istore (lv' := [(6, .int 1), (0, .ref mo), (1, .int x1_1), (2, .int v2_33), (3, .int x3_3), (4, .int x4_4), (5, .int v5_11)]) hx hb dX10_faultOfBoard_113 hl (by decide) rfl (fun ls hl => ?_)
                refine lv_iconst (v := 3) hx hb dX10_faultOfBoard_115 (by decide) ?_
                refine lv_istore_n (lv' := [(1, .int 3), (6, .int 1), (0, .ref mo), (2, .int v2_33), (3, .int x3_3), (4, .int x4_4), (5, .int v5_11)]) hx hb dX10_faultOfBoard_116 rfl hl (by decide) rfl (fun ls hl => ?_)
                refine lv_goto (tgt := 243) hx hb dX10_faultOfBoard_117 (by decide) ?_
                exact hB243 3 v2_33 x3_3 1 u109_36 _ _ _ hF hP hD hS (lv_sub hl [2, 0, 3, 4, 5, 1] rfl)
            refine lv_if_eq (tgt := 90) hx hb dX10_faultOfBoard_70 (by decide) (fun c_37 => ?_) (fun c_37 => ?_)
            · have hF := ifp hF c_37
              refine lv_iconst (v := 0) hx hb dX10_faultOfBoard_90 (by decide) ?_
              exact hB91 0 _ _ _ hF hP hD hS (lv_sub hl [3, 4, 0, 5, 6, 2] rfl)
            · have hF := ifn hF c_37
              refine lv_aload_n hx hb dX10_faultOfBoard_73 rfl (lv_at hl 3 rfl) ?_
              refine hget hx hb hts hown hE fl_X10_149 hP 0 rfl rfl dX10_faultOfBoard_74 ?_
              refine lv_iload_n hx hb dX10_faultOfBoard_77 rfl (lv_at hl 0 rfl) ?_
              refine hm_S (wn := [(mo, .inr (8, [.long mbd, .int mby, .int mgr, .int mol, .ref aMM, .ref aMT, .int mmy, .ref aPD, .int mpm, .long mrd_5, .int mbm, .int mbw, .long mpl, .ref aST, .ref aPL, .ref aRS, .ref aLA, .ref aBM, .int msm, .ref aRP, .ref aFI, .ref aFM, .ref aGB, .ref aGM, .ref aGV, .ref aGR, .int mgs, .ref aKB, .ref aKP, .ref aIK, .int mka, .int miw])), (aPD, .inl (gI G, 48, .inl xpd))]) (wr := [(mo, .inr (8, [.long mbd, .int mby, .int mgr, .int mol, .ref aMM, .ref aMT, .int mmy, .ref aPD, .int mpm, .long mrd_5, .int mbm, .int mbw, .long mpl, .ref aST, .ref aPL, .ref aRS, .ref aLA, .ref aBM, .int msm, .ref aRP, .ref aFI, .ref aFM, .ref aGB, .ref aGM, .ref aGV, .ref aGR, .int mgs, .ref aKB, .ref aKP, .ref aIK, .int mka, .int miw])), (aPD, .inl (gI G, 48, .inl xpd))]) (rest := []) (sn := [.int (f_X10_cellOf mrd_5 v2_33)]) hx hb hml hown hts hE hA (k_X10_cellOf G l mrd_5 v2_33 _ rfl) sm_X10_cellOf mw_852 ⟨rfl, rfl, Nat.le_of_ble_eq_true rfl, Nat.le_of_ble_eq_true rfl⟩ hP hD hS [] [0, 1] [0, 1] rfl rfl rfl (by decide) hl.1 rfl rfl (Nat.le_of_ble_eq_true rfl) dX10_faultOfBoard_78 ⟨Nat.le_of_ble_eq_true rfl, Nat.le_of_ble_eq_true rfl⟩ (fun H locs hP hD hS => ?_)
              refine lv_bipush (v := 31) hx hb dX10_faultOfBoard_81 (by decide) ?_
              refine lv_icmp_ne (tgt := 90) hx hb dX10_faultOfBoard_83 (by decide) (fun c_38 => ?_) (fun c_38 => ?_)
              · have hF := ifn hF c_38
                refine lv_iconst (v := 0) hx hb dX10_faultOfBoard_90 (by decide) ?_
                exact hB91 0 _ _ _ hF hP hD hS (lv_sub hl [3, 4, 0, 5, 6, 2] rfl)
              · have hF := ifp hF c_38
                refine lv_iconst (v := 1) hx hb dX10_faultOfBoard_86 (by decide) ?_
                refine lv_goto (tgt := 91) hx hb dX10_faultOfBoard_87 (by decide) ?_
                exact hB91 1 _ _ _ hF hP hD hS (lv_sub hl [3, 4, 0, 5, 6, 2] rfl)
        · have hF := ifp hF c_12
          refine lv_iload hx hb dX10_faultOfBoard_48 (lv_at hl 6 rfl) ?_
          have hF := Option.some.inj hF
          subst hF
          exact hm_iret hx hb hr hlk hP hD hS hpost dX10_faultOfBoard_50
  exact hL16 _ 0 0 0 0 1092850007424543 _ _ _ hF hP hD hS (lv_sub hl [4, 3, 2, 1, 0] rfl)
def f_X10_faultOfGame_B68 (k_2 : Int32 → Option Int32) (x1_1 : Int32) (t0_4 : Int32) : Option Int32 :=
  if t0_4 = 0 then some x1_1 else jlet (x1_1 + 1) (fun v1_6 => k_2 v1_6)
def f_X10_faultOfGame_L2 (mpm : Int32) (xpd : (Nat → Int32)) : Nat → Int32 → Option Int32
  | 0, _ => none
  | n+1, x1_1 =>
  if mpm ≤ x1_1 then if (jrem mpm 4) = 0 then some (-6) else some mpm else if 48 ≤ x1_1 then f_X10_faultOfGame_B68 (f_X10_faultOfGame_L2 mpm xpd n) x1_1 0 else if (jrem x1_1 2) = 0 then if (x1_1) < 0 ∨ 48 ≤ (x1_1).toNatClampNeg then none else if (f_X10_in ((xpd (x1_1).toNatClampNeg).toInt64) 97 101) = 0 then f_X10_faultOfGame_B68 (f_X10_faultOfGame_L2 mpm xpd n) x1_1 0 else f_X10_faultOfGame_B68 (f_X10_faultOfGame_L2 mpm xpd n) x1_1 1 else if (x1_1) < 0 ∨ 48 ≤ (x1_1).toNatClampNeg then none else if (f_X10_in ((xpd (x1_1).toNatClampNeg).toInt64) 49 53) = 0 then f_X10_faultOfGame_B68 (f_X10_faultOfGame_L2 mpm xpd n) x1_1 0 else f_X10_faultOfGame_B68 (f_X10_faultOfGame_L2 mpm xpd n) x1_1 1
def f_X10_faultOfGame (mpm : Int32) (xpd : (Nat → Int32)) : Option Int32 :=
  f_X10_faultOfGame_L2 mpm xpd 100 0
abbrev rm_X10_faultOfGame : Room := { frames := 1, cells := 0, slots := 0, locals := 25 }
set_option maxHeartbeats 4000000 in
set_option maxRecDepth 100000 in
theorem k_X10_faultOfGame (G : gT) (l : Launch) (mo : Nat) (aMM : Nat) (aMT : Nat) (aPD : Nat) (aST : Nat) (aPL : Nat) (aRS : Nat) (aLA : Nat) (aBM : Nat) (aRP : Nat) (aFI : Nat) (aFM : Nat) (aGB : Nat) (aGM : Nat) (aGV : Nat) (aGR : Nat) (aKB : Nat) (aKP : Nat) (aIK : Nat) (mbd : Int64) (mby : Int32) (mgr : Int32) (mol : Int32) (mmy : Int32) (mpm : Int32) (mrd : Int64) (mbm : Int32) (mbw : Int32) (mpl : Int64) (msm : Int32) (mgs : Int32) (mka : Int32) (miw : Int32) (xpd : (Nat → Int32)) (r : Int32) (hF : f_X10_faultOfGame mpm xpd = some r) : HM G l yX10_faultOfGame (.code yX10_faultOfGame cX10_faultOfGame 3 (some .int) :: UW) rm_X10_faultOfGame 0 0 [.ref mo] [(mo, .inr (8, [.long mbd, .int mby, .int mgr, .int mol, .ref aMM, .ref aMT, .int mmy, .ref aPD, .int mpm, .long mrd, .int mbm, .int mbw, .long mpl, .ref aST, .ref aPL, .ref aRS, .ref aLA, .ref aBM, .int msm, .ref aRP, .ref aFI, .ref aFM, .ref aGB, .ref aGM, .ref aGV, .ref aGR, .int mgs, .ref aKB, .ref aKP, .ref aIK, .int mka, .int miw])), (aPD, .inl (gI G, 48, .inl xpd))] (some (.int r)) [(mo, .inr (8, [.long mbd, .int mby, .int mgr, .int mol, .ref aMM, .ref aMT, .int mmy, .ref aPD, .int mpm, .long mrd, .int mbm, .int mbw, .long mpl, .ref aST, .ref aPL, .ref aRS, .ref aLA, .ref aBM, .int msm, .ref aRP, .ref aFI, .ref aFM, .ref aGB, .ref aGM, .ref aGV, .ref aGR, .int mgs, .ref aKB, .ref aKP, .ref aIK, .int mka, .int miw])), (aPD, .inl (gI G, 48, .inl xpd))] := by
  refine HM.ofW (by decide) (Nat.le_of_ble_eq_true rfl) ?_
  intro p e s m args below meth c A post hpost hC hP hD hS ls hl
  obtain ⟨hx, hb, hr, hml, hown, hts, hlk, hE, hA⟩ := hC
  have hl : lv_has ls 3 [(0, .ref mo)] := hl
  unfold f_X10_faultOfGame at hF
  refine lv_iconst (v := 0) hx hb dX10_faultOfGame_0 (by decide) ?_
  refine lv_istore_n (lv' := [(1, .int 0), (0, .ref mo)]) hx hb dX10_faultOfGame_1 rfl hl (by decide) rfl (fun ls hl => ?_)
  have hL2 : ∀ (n2 : Nat) (x1_1 : Int32) (H : Heap) (locs : List Loc) (ls : Array Slot), f_X10_faultOfGame_L2 mpm xpd n2 x1_1 = some r → va_P (gD G) vwCl [(mo, .inr (8, [.long mbd, .int mby, .int mgr, .int mol, .ref aMM, .ref aMT, .int mmy, .ref aPD, .int mpm, .long mrd, .int mbm, .int mbw, .long mpl, .ref aST, .ref aPL, .ref aRS, .ref aLA, .ref aBM, .int msm, .ref aRP, .ref aFI, .ref aFM, .ref aGB, .ref aGM, .ref aGV, .ref aGR, .int mgs, .ref aKB, .ref aKP, .ref aIK, .int mka, .int miw])), (aPD, .inl (gI G, 48, .inl xpd))] H → va_D A [(mo, .inr (8, [.long mbd, .int mby, .int mgr, .int mol, .ref aMM, .ref aMT, .int mmy, .ref aPD, .int mpm, .long mrd, .int mbm, .int mbw, .long mpl, .ref aST, .ref aPL, .ref aRS, .ref aLA, .ref aBM, .int msm, .ref aRP, .ref aFI, .ref aFM, .ref aGB, .ref aGM, .ref aGV, .ref aGR, .int mgs, .ref aKB, .ref aKP, .ref aIK, .int mka, .int miw])), (aPD, .inl (gI G, 48, .inl xpd))] → va_S A s.heap H locs → lv_has ls 3 [(0, .ref mo), (1, .int x1_1)] → W p l e rm_X10_faultOfGame s m args below meth c H locs 0 0 (MQ below (HXq G post A) args s 0 0 A) (F0 m 2 ls []) := by
    intro n2
    induction n2 with
    | zero =>
      intro x1_1 H locs ls hF
      exact absurd hF (fun h => by cases h)
    | succ n2 ih2 =>
      intro x1_1 H locs ls hF hP hD hS hl
      unfold f_X10_faultOfGame_L2 at hF
      refine lv_iload_n hx hb dX10_faultOfGame_2 rfl (lv_at hl 1 rfl) ?_
      refine lv_aload_n hx hb dX10_faultOfGame_3 rfl (lv_at hl 0 rfl) ?_
      refine hget hx hb hts hown hE fl_X10_146 hP 0 rfl rfl dX10_faultOfGame_4 ?_
      refine lv_icmp_ge (tgt := 81) hx hb dX10_faultOfGame_7 (by decide) (fun c_2 => ?_) (fun c_2 => ?_)
      · have hF := ifp hF c_2
        refine lv_aload_n hx hb dX10_faultOfGame_81 rfl (lv_at hl 0 rfl) ?_
        refine hget hx hb hts hown hE fl_X10_146 hP 0 rfl rfl dX10_faultOfGame_82 ?_
        refine lv_iconst (v := 4) hx hb dX10_faultOfGame_85 (by decide) ?_
        refine lv_irem hx hb dX10_faultOfGame_86 (by decide) ?_
        refine lv_if_ne (tgt := 95) hx hb dX10_faultOfGame_87 (by decide) (fun c_3 => ?_) (fun c_3 => ?_)
        · have hF := ifn hF c_3
          refine lv_aload_n hx hb dX10_faultOfGame_95 rfl (lv_at hl 0 rfl) ?_
          refine hget hx hb hts hown hE fl_X10_146 hP 0 rfl rfl dX10_faultOfGame_96 ?_
          have hF := Option.some.inj hF
          subst hF
          exact hm_iret hx hb hr hlk hP hD hS hpost dX10_faultOfGame_99
        · have hF := ifp hF c_3
          refine lv_bipush (v := (-6)) hx hb dX10_faultOfGame_90 (by decide) ?_
          refine lv_goto (tgt := 99) hx hb dX10_faultOfGame_92 (by decide) ?_
          have hF := Option.some.inj hF
          subst hF
          exact hm_iret hx hb hr hlk hP hD hS hpost dX10_faultOfGame_99
      · have hF := ifn hF c_2
        refine lv_iload_n hx hb dX10_faultOfGame_10 rfl (lv_at hl 1 rfl) ?_
        refine lv_bipush (v := 48) hx hb dX10_faultOfGame_11 (by decide) ?_
        have hB68 : ∀ (t0_4 : Int32) (H : Heap) (locs : List Loc) (ls : Array Slot), f_X10_faultOfGame_B68 (f_X10_faultOfGame_L2 mpm xpd n2) x1_1 t0_4 = some r → va_P (gD G) vwCl [(mo, .inr (8, [.long mbd, .int mby, .int mgr, .int mol, .ref aMM, .ref aMT, .int mmy, .ref aPD, .int mpm, .long mrd, .int mbm, .int mbw, .long mpl, .ref aST, .ref aPL, .ref aRS, .ref aLA, .ref aBM, .int msm, .ref aRP, .ref aFI, .ref aFM, .ref aGB, .ref aGM, .ref aGV, .ref aGR, .int mgs, .ref aKB, .ref aKP, .ref aIK, .int mka, .int miw])), (aPD, .inl (gI G, 48, .inl xpd))] H → va_D A [(mo, .inr (8, [.long mbd, .int mby, .int mgr, .int mol, .ref aMM, .ref aMT, .int mmy, .ref aPD, .int mpm, .long mrd, .int mbm, .int mbw, .long mpl, .ref aST, .ref aPL, .ref aRS, .ref aLA, .ref aBM, .int msm, .ref aRP, .ref aFI, .ref aFM, .ref aGB, .ref aGM, .ref aGV, .ref aGR, .int mgs, .ref aKB, .ref aKP, .ref aIK, .int mka, .int miw])), (aPD, .inl (gI G, 48, .inl xpd))] → va_S A s.heap H locs → lv_has ls 3 [(0, .ref mo), (1, .int x1_1)] → W p l e rm_X10_faultOfGame s m args below meth c H locs 0 0 (MQ below (HXq G post A) args s 0 0 A) (F0 m 68 ls [.int t0_4]) := by
          intro t0_4 H locs ls hF hP hD hS hl
          unfold f_X10_faultOfGame_B68 at hF
          refine lv_istore_n (lv' := [(2, .int t0_4), (0, .ref mo), (1, .int x1_1)]) hx hb dX10_faultOfGame_68 rfl hl (by decide) rfl (fun ls hl => ?_)
          refine lv_iload_n hx hb dX10_faultOfGame_69 rfl (lv_at hl 0 rfl) ?_
          refine lv_if_ne (tgt := 75) hx hb dX10_faultOfGame_70 (by decide) (fun c_5 => ?_) (fun c_5 => ?_)
          · have hF := ifn hF c_5
            obtain ⟨v1_6, ev1_6⟩ : ∃ z : Int32, z = x1_1 + 1 := ⟨_, rfl⟩
            have hF := jl hF ev1_6
            refine lv_iinc (v := v1_6) (lv' := [(1, .int v1_6), (2, .int t0_4), (0, .ref mo)]) hx hb dX10_faultOfGame_75 hl (k := 2) rfl (by rw [ev1_6]; rfl) (by decide) rfl (fun ls hl => ?_)
            refine lv_goto (tgt := 2) hx hb dX10_faultOfGame_78 (by decide) ?_
            exact ih2 v1_6 _ _ _ hF hP hD hS (lv_sub hl [2, 0] rfl)
          · have hF := ifp hF c_5
            refine lv_iload_n hx hb dX10_faultOfGame_73 rfl (lv_at hl 2 rfl) ?_
            have hF := Option.some.inj hF
            subst hF
            exact hm_iret hx hb hr hlk hP hD hS hpost dX10_faultOfGame_74
        refine lv_icmp_ge (tgt := 67) hx hb dX10_faultOfGame_13 (by decide) (fun c_7 => ?_) (fun c_7 => ?_)
        · have hF := ifp hF c_7
          refine lv_iconst (v := 0) hx hb dX10_faultOfGame_67 (by decide) ?_
          exact hB68 0 _ _ _ hF hP hD hS (lv_sub hl [0, 1] rfl)
        · have hF := ifn hF c_7
          refine lv_iload_n hx hb dX10_faultOfGame_16 rfl (lv_at hl 1 rfl) ?_
          refine lv_iconst (v := 2) hx hb dX10_faultOfGame_17 (by decide) ?_
          refine lv_irem hx hb dX10_faultOfGame_18 (by decide) ?_
          refine lv_if_ne (tgt := 44) hx hb dX10_faultOfGame_19 (by decide) (fun c_8 => ?_) (fun c_8 => ?_)
          · have hF := ifn hF c_8
            refine lv_aload_n hx hb dX10_faultOfGame_44 rfl (lv_at hl 0 rfl) ?_
            refine hget hx hb hts hown hE fl_X10_16 hP 0 rfl rfl dX10_faultOfGame_45 ?_
            refine lv_iload_n hx hb dX10_faultOfGame_48 rfl (lv_at hl 1 rfl) ?_
            obtain ⟨hi_9, hF⟩ := inb hF
            refine hiald hx hb hE hP 1 rfl hi_9 dX10_faultOfGame_49 ?_
            refine lv_i2l (v := ((xpd (x1_1).toNatClampNeg).toInt64)) hx hb dX10_faultOfGame_50 rfl ?_
            refine lv_ldc2 (v := 49) hx hb hown (hts _ (List.mem_cons_of_mem _ mw_858)) dX10_faultOfGame_51 ?_
            refine lv_ldc2 (v := 53) hx hb hown (hts _ (List.mem_cons_of_mem _ mw_859)) dX10_faultOfGame_54 ?_
            refine hm_S (wn := [(mo, .inr (8, [.long mbd, .int mby, .int mgr, .int mol, .ref aMM, .ref aMT, .int mmy, .ref aPD, .int mpm, .long mrd, .int mbm, .int mbw, .long mpl, .ref aST, .ref aPL, .ref aRS, .ref aLA, .ref aBM, .int msm, .ref aRP, .ref aFI, .ref aFM, .ref aGB, .ref aGM, .ref aGV, .ref aGR, .int mgs, .ref aKB, .ref aKP, .ref aIK, .int mka, .int miw])), (aPD, .inl (gI G, 48, .inl xpd))]) (wr := [(mo, .inr (8, [.long mbd, .int mby, .int mgr, .int mol, .ref aMM, .ref aMT, .int mmy, .ref aPD, .int mpm, .long mrd, .int mbm, .int mbw, .long mpl, .ref aST, .ref aPL, .ref aRS, .ref aLA, .ref aBM, .int msm, .ref aRP, .ref aFI, .ref aFM, .ref aGB, .ref aGM, .ref aGV, .ref aGR, .int mgs, .ref aKB, .ref aKP, .ref aIK, .int mka, .int miw])), (aPD, .inl (gI G, 48, .inl xpd))]) (rest := []) (sn := [.int (f_X10_in ((xpd (x1_1).toNatClampNeg).toInt64) 49 53)]) hx hb hml hown hts hE hA (k_X10_in G l ((xpd (x1_1).toNatClampNeg).toInt64) 49 53 _ rfl) sm_X10_in mw_833 ⟨rfl, rfl, Nat.le_of_ble_eq_true rfl, Nat.le_of_ble_eq_true rfl⟩ hP hD hS [] [0, 1] [0, 1] rfl rfl rfl (by decide) hl.1 rfl rfl (Nat.le_of_ble_eq_true rfl) dX10_faultOfGame_57 ⟨Nat.le_of_ble_eq_true rfl, Nat.le_of_ble_eq_true rfl⟩ (fun H locs hP hD hS => ?_)
            refine lv_if_eq (tgt := 67) hx hb dX10_faultOfGame_60 (by decide) (fun c_10 => ?_) (fun c_10 => ?_)
            · have hF := ifp hF c_10
              refine lv_iconst (v := 0) hx hb dX10_faultOfGame_67 (by decide) ?_
              exact hB68 0 _ _ _ hF hP hD hS (lv_sub hl [0, 1] rfl)
            · have hF := ifn hF c_10
              refine lv_iconst (v := 1) hx hb dX10_faultOfGame_63 (by decide) ?_
              refine lv_goto (tgt := 68) hx hb dX10_faultOfGame_64 (by decide) ?_
              exact hB68 1 _ _ _ hF hP hD hS (lv_sub hl [0, 1] rfl)
          · have hF := ifp hF c_8
            refine lv_aload_n hx hb dX10_faultOfGame_22 rfl (lv_at hl 0 rfl) ?_
            refine hget hx hb hts hown hE fl_X10_16 hP 0 rfl rfl dX10_faultOfGame_23 ?_
            refine lv_iload_n hx hb dX10_faultOfGame_26 rfl (lv_at hl 1 rfl) ?_
            obtain ⟨hi_11, hF⟩ := inb hF
            refine hiald hx hb hE hP 1 rfl hi_11 dX10_faultOfGame_27 ?_
            refine lv_i2l (v := ((xpd (x1_1).toNatClampNeg).toInt64)) hx hb dX10_faultOfGame_28 rfl ?_
            refine lv_ldc2 (v := 97) hx hb hown (hts _ (List.mem_cons_of_mem _ mw_856)) dX10_faultOfGame_29 ?_
            refine lv_ldc2 (v := 101) hx hb hown (hts _ (List.mem_cons_of_mem _ mw_857)) dX10_faultOfGame_32 ?_
            refine hm_S (wn := [(mo, .inr (8, [.long mbd, .int mby, .int mgr, .int mol, .ref aMM, .ref aMT, .int mmy, .ref aPD, .int mpm, .long mrd, .int mbm, .int mbw, .long mpl, .ref aST, .ref aPL, .ref aRS, .ref aLA, .ref aBM, .int msm, .ref aRP, .ref aFI, .ref aFM, .ref aGB, .ref aGM, .ref aGV, .ref aGR, .int mgs, .ref aKB, .ref aKP, .ref aIK, .int mka, .int miw])), (aPD, .inl (gI G, 48, .inl xpd))]) (wr := [(mo, .inr (8, [.long mbd, .int mby, .int mgr, .int mol, .ref aMM, .ref aMT, .int mmy, .ref aPD, .int mpm, .long mrd, .int mbm, .int mbw, .long mpl, .ref aST, .ref aPL, .ref aRS, .ref aLA, .ref aBM, .int msm, .ref aRP, .ref aFI, .ref aFM, .ref aGB, .ref aGM, .ref aGV, .ref aGR, .int mgs, .ref aKB, .ref aKP, .ref aIK, .int mka, .int miw])), (aPD, .inl (gI G, 48, .inl xpd))]) (rest := []) (sn := [.int (f_X10_in ((xpd (x1_1).toNatClampNeg).toInt64) 97 101)]) hx hb hml hown hts hE hA (k_X10_in G l ((xpd (x1_1).toNatClampNeg).toInt64) 97 101 _ rfl) sm_X10_in mw_833 ⟨rfl, rfl, Nat.le_of_ble_eq_true rfl, Nat.le_of_ble_eq_true rfl⟩ hP hD hS [] [0, 1] [0, 1] rfl rfl rfl (by decide) hl.1 rfl rfl (Nat.le_of_ble_eq_true rfl) dX10_faultOfGame_35 ⟨Nat.le_of_ble_eq_true rfl, Nat.le_of_ble_eq_true rfl⟩ (fun H locs hP hD hS => ?_)
            refine lv_if_eq (tgt := 67) hx hb dX10_faultOfGame_38 (by decide) (fun c_12 => ?_) (fun c_12 => ?_)
            · have hF := ifp hF c_12
              refine lv_iconst (v := 0) hx hb dX10_faultOfGame_67 (by decide) ?_
              exact hB68 0 _ _ _ hF hP hD hS (lv_sub hl [0, 1] rfl)
            · have hF := ifn hF c_12
              refine lv_goto (tgt := 63) hx hb dX10_faultOfGame_41 (by decide) ?_
              refine lv_iconst (v := 1) hx hb dX10_faultOfGame_63 (by decide) ?_
              refine lv_goto (tgt := 68) hx hb dX10_faultOfGame_64 (by decide) ?_
              exact hB68 1 _ _ _ hF hP hD hS (lv_sub hl [0, 1] rfl)
  exact hL2 _ 0 _ _ _ hF hP hD hS (lv_sub hl [1, 0] rfl)
def f_X10_fault (mpm : Int32) (mrd : Int64) (xpd : (Nat → Int32)) (hw : Int32) : Option (Int32 × Int64) :=
  if hw = 0 then Option.bind (f_X10_faultOfBoard mpm xpd) (fun r5_4 => some (r5_4.1, r5_4.2)) else if hw = 1 then Option.bind (f_X10_faultOfGame mpm xpd) (fun r17_3 => some (r17_3, mrd)) else some ((-2), mrd)
abbrev rm_X10_fault : Room := { frames := 3, cells := 0, slots := 0, locals := 71 }
set_option maxHeartbeats 4000000 in
set_option maxRecDepth 100000 in
theorem k_X10_fault (G : gT) (l : Launch) (mo : Nat) (aMM : Nat) (aMT : Nat) (aPD : Nat) (aST : Nat) (aPL : Nat) (aRS : Nat) (aLA : Nat) (aBM : Nat) (aRP : Nat) (aFI : Nat) (aFM : Nat) (aGB : Nat) (aGM : Nat) (aGV : Nat) (aGR : Nat) (aKB : Nat) (aKP : Nat) (aIK : Nat) (mbd : Int64) (mby : Int32) (mgr : Int32) (mol : Int32) (mmy : Int32) (mpm : Int32) (mrd : Int64) (mbm : Int32) (mbw : Int32) (mpl : Int64) (msm : Int32) (mgs : Int32) (mka : Int32) (miw : Int32) (xpd : (Nat → Int32)) (hw : Int32) (r : Int32 × Int64) (hF : f_X10_fault mpm mrd xpd hw = some r) : HM G l yX10_fault (.code yX10_fault cX10_fault 2 (some .int) :: UW) rm_X10_fault 0 0 [.ref mo, .int hw] [(mo, .inr (8, [.long mbd, .int mby, .int mgr, .int mol, .ref aMM, .ref aMT, .int mmy, .ref aPD, .int mpm, .long mrd, .int mbm, .int mbw, .long mpl, .ref aST, .ref aPL, .ref aRS, .ref aLA, .ref aBM, .int msm, .ref aRP, .ref aFI, .ref aFM, .ref aGB, .ref aGM, .ref aGV, .ref aGR, .int mgs, .ref aKB, .ref aKP, .ref aIK, .int mka, .int miw])), (aPD, .inl (gI G, 48, .inl xpd))] (some (.int r.1)) [(mo, .inr (8, [.long mbd, .int mby, .int mgr, .int mol, .ref aMM, .ref aMT, .int mmy, .ref aPD, .int mpm, .long r.2, .int mbm, .int mbw, .long mpl, .ref aST, .ref aPL, .ref aRS, .ref aLA, .ref aBM, .int msm, .ref aRP, .ref aFI, .ref aFM, .ref aGB, .ref aGM, .ref aGV, .ref aGR, .int mgs, .ref aKB, .ref aKP, .ref aIK, .int mka, .int miw])), (aPD, .inl (gI G, 48, .inl xpd))] := by
  refine HM.ofW (by decide) (Nat.le_of_ble_eq_true rfl) ?_
  intro p e s m args below meth c A post hpost hC hP hD hS ls hl
  obtain ⟨hx, hb, hr, hml, hown, hts, hlk, hE, hA⟩ := hC
  have hl : lv_has ls 2 [(0, .ref mo), (1, .int hw)] := hl
  unfold f_X10_fault at hF
  refine lv_iload_n hx hb dX10_fault_0 rfl (lv_at hl 1 rfl) ?_
  refine lv_if_ne (tgt := 11) hx hb dX10_fault_1 (by decide) (fun c_1 => ?_) (fun c_1 => ?_)
  · have hF := ifn hF c_1
    refine lv_iload_n hx hb dX10_fault_11 rfl (lv_at hl 1 rfl) ?_
    refine lv_iconst (v := 1) hx hb dX10_fault_12 (by decide) ?_
    refine lv_icmp_ne (tgt := 23) hx hb dX10_fault_13 (by decide) (fun c_2 => ?_) (fun c_2 => ?_)
    · have hF := ifn hF c_2
      refine lv_bipush (v := (-2)) hx hb dX10_fault_23 (by decide) ?_
      have hF := Option.some.inj hF
      subst hF
      exact hm_iret hx hb hr hlk hP hD hS hpost dX10_fault_25
    · have hF := ifp hF c_2
      refine lv_aload_n hx hb dX10_fault_16 rfl (lv_at hl 0 rfl) ?_
      obtain ⟨r17_3, hr17_3, hF⟩ := bnd hF
      refine hm_V (wn := [(mo, .inr (8, [.long mbd, .int mby, .int mgr, .int mol, .ref aMM, .ref aMT, .int mmy, .ref aPD, .int mpm, .long mrd, .int mbm, .int mbw, .long mpl, .ref aST, .ref aPL, .ref aRS, .ref aLA, .ref aBM, .int msm, .ref aRP, .ref aFI, .ref aFM, .ref aGB, .ref aGM, .ref aGV, .ref aGR, .int mgs, .ref aKB, .ref aKP, .ref aIK, .int mka, .int miw])), (aPD, .inl (gI G, 48, .inl xpd))]) (wr := []) (rest := []) (sn := [.int r17_3]) hx hb hml hown hts hE hA (k_X10_faultOfGame G l mo aMM aMT aPD aST aPL aRS aLA aBM aRP aFI aFM aGB aGM aGV aGR aKB aKP aIK mbd mby mgr mol mmy mpm mrd mbm mbw mpl msm mgs mka miw xpd r17_3 hr17_3) sm_X10_faultOfGame mw_865 ⟨rfl, rfl, Nat.le_of_ble_eq_true rfl, Nat.le_of_ble_eq_true rfl⟩ hP hD hS 0 rfl rfl [0, 1] [] [0, 1] rfl rfl rfl (by decide) hl.1 rfl rfl (Nat.le_of_ble_eq_true rfl) dX10_fault_17 ⟨Nat.le_of_ble_eq_true rfl, Nat.le_of_ble_eq_true rfl⟩ (fun H locs hP hD hS => ?_)
      refine lv_goto (tgt := 25) hx hb dX10_fault_20 (by decide) ?_
      have hF := Option.some.inj hF
      subst hF
      exact hm_iret hx hb hr hlk hP hD hS hpost dX10_fault_25
  · have hF := ifp hF c_1
    refine lv_aload_n hx hb dX10_fault_4 rfl (lv_at hl 0 rfl) ?_
    obtain ⟨r5_4, hr5_4, hF⟩ := bnd hF
    refine hm_V (wn := [(mo, .inr (8, [.long mbd, .int mby, .int mgr, .int mol, .ref aMM, .ref aMT, .int mmy, .ref aPD, .int mpm, .long r5_4.2, .int mbm, .int mbw, .long mpl, .ref aST, .ref aPL, .ref aRS, .ref aLA, .ref aBM, .int msm, .ref aRP, .ref aFI, .ref aFM, .ref aGB, .ref aGM, .ref aGV, .ref aGR, .int mgs, .ref aKB, .ref aKP, .ref aIK, .int mka, .int miw])), (aPD, .inl (gI G, 48, .inl xpd))]) (wr := []) (rest := []) (sn := [.int r5_4.1]) hx hb hml hown hts hE hA (k_X10_faultOfBoard G l mo aMM aMT aPD aST aPL aRS aLA aBM aRP aFI aFM aGB aGM aGV aGR aKB aKP aIK mbd mby mgr mol mmy mpm mrd mbm mbw mpl msm mgs mka miw xpd r5_4 hr5_4) sm_X10_faultOfBoard mw_844 ⟨rfl, rfl, Nat.le_of_ble_eq_true rfl, Nat.le_of_ble_eq_true rfl⟩ hP hD hS 0 rfl rfl [0, 1] [] [0, 1] rfl rfl rfl (by decide) hl.1 rfl rfl (Nat.le_of_ble_eq_true rfl) dX10_fault_5 ⟨Nat.le_of_ble_eq_true rfl, Nat.le_of_ble_eq_true rfl⟩ (fun H locs hP hD hS => ?_)
    refine lv_goto (tgt := 25) hx hb dX10_fault_8 (by decide) ?_
    have hF := Option.some.inj hF
    subst hF
    exact hm_iret hx hb hr hlk hP hD hS hpost dX10_fault_25
def f_X10_standing_B26 (k_4 : Int32 → Int32 → Option Int32) (x2_1 : Int32) (x3_2 : Int32) (t1_4 : Int32) : Option Int32 :=
  jlet (x2_1 + t1_4) (fun v2_5 => jlet (x3_2 + 1) (fun v3_6 => k_4 v2_5 v3_6))
def f_X10_standing_L4 (st : Int64) : Nat → Int32 → Int32 → Option Int32
  | 0, _, _ => none
  | n+1, x2_1, x3_2 =>
  if 6 ≤ x3_2 then some x2_1 else if (f_X10_cellOf st x3_2) = 31 then f_X10_standing_B26 (f_X10_standing_L4 st n) x2_1 x3_2 0 else f_X10_standing_B26 (f_X10_standing_L4 st n) x2_1 x3_2 1
def f_X10_standing (st : Int64) : Option Int32 :=
  f_X10_standing_L4 st 100 0 0
abbrev rm_X10_standing : Room := { frames := 1, cells := 0, slots := 0, locals := 22 }
set_option maxHeartbeats 4000000 in
set_option maxRecDepth 100000 in
theorem k_X10_standing (G : gT) (l : Launch) (st : Int64) (r : Int32) (hF : f_X10_standing st = some r) : HM G l yX10_standing (.code yX10_standing cX10_standing 4 (some .int) :: UW) rm_X10_standing 0 0 [.long st] [] (some (.int r)) [] := by
  refine HM.ofW (by decide) (Nat.le_of_ble_eq_true rfl) ?_
  intro p e s m args below meth c A post hpost hC hP hD hS ls hl
  obtain ⟨hx, hb, hr, hml, hown, hts, hlk, hE, hA⟩ := hC
  have hl : lv_has ls 4 [(0, .long st)] := hl
  unfold f_X10_standing at hF
  refine lv_iconst (v := 0) hx hb dX10_standing_0 (by decide) ?_
  refine lv_istore_n (lv' := [(2, .int 0), (0, .long st)]) hx hb dX10_standing_1 rfl hl (by decide) rfl (fun ls hl => ?_)
  refine lv_iconst (v := 0) hx hb dX10_standing_2 (by decide) ?_
  refine lv_istore_n (lv' := [(3, .int 0), (2, .int 0), (0, .long st)]) hx hb dX10_standing_3 rfl hl (by decide) rfl (fun ls hl => ?_)
  have hL4 : ∀ (n4 : Nat) (x2_1 : Int32) (x3_2 : Int32) (H : Heap) (locs : List Loc) (ls : Array Slot), f_X10_standing_L4 st n4 x2_1 x3_2 = some r → va_P (gD G) vwCl [] H → va_D A [] → va_S A s.heap H locs → lv_has ls 4 [(0, .long st), (2, .int x2_1), (3, .int x3_2)] → W p l e rm_X10_standing s m args below meth c H locs 0 0 (MQ below (HXq G post A) args s 0 0 A) (F0 m 4 ls []) := by
    intro n4
    induction n4 with
    | zero =>
      intro x2_1 x3_2 H locs ls hF
      exact absurd hF (fun h => by cases h)
    | succ n4 ih4 =>
      intro x2_1 x3_2 H locs ls hF hP hD hS hl
      unfold f_X10_standing_L4 at hF
      refine lv_iload_n hx hb dX10_standing_4 rfl (lv_at hl 2 rfl) ?_
      refine lv_bipush (v := 6) hx hb dX10_standing_5 (by decide) ?_
      refine lv_icmp_ge (tgt := 34) hx hb dX10_standing_7 (by decide) (fun c_3 => ?_) (fun c_3 => ?_)
      · have hF := ifp hF c_3
        refine lv_iload_n hx hb dX10_standing_34 rfl (lv_at hl 1 rfl) ?_
        have hF := Option.some.inj hF
        subst hF
        exact hm_iret hx hb hr hlk hP hD hS hpost dX10_standing_35
      · have hF := ifn hF c_3
        refine lv_iload_n hx hb dX10_standing_10 rfl (lv_at hl 1 rfl) ?_
        refine lv_lload_n hx hb dX10_standing_11 rfl (lv_at hl 0 rfl) ?_
        refine lv_iload_n hx hb dX10_standing_12 rfl (lv_at hl 2 rfl) ?_
        refine hm_S (wn := []) (wr := []) (rest := [.int x2_1]) (sn := [.int (f_X10_cellOf st x3_2), .int x2_1]) hx hb hml hown hts hE hA (k_X10_cellOf G l st x3_2 _ rfl) sm_X10_cellOf mw_852 ⟨rfl, rfl, Nat.le_of_ble_eq_true rfl, Nat.le_of_ble_eq_true rfl⟩ hP hD hS [] [] [] rfl rfl rfl (by decide) hl.1 rfl rfl (Nat.le_of_ble_eq_true rfl) dX10_standing_13 ⟨Nat.le_of_ble_eq_true rfl, Nat.le_of_ble_eq_true rfl⟩ (fun H locs hP hD hS => ?_)
        refine lv_bipush (v := 31) hx hb dX10_standing_16 (by decide) ?_
        have hB26 : ∀ (t1_4 : Int32) (H : Heap) (locs : List Loc) (ls : Array Slot), f_X10_standing_B26 (f_X10_standing_L4 st n4) x2_1 x3_2 t1_4 = some r → va_P (gD G) vwCl [] H → va_D A [] → va_S A s.heap H locs → lv_has ls 4 [(0, .long st), (3, .int x3_2)] → W p l e rm_X10_standing s m args below meth c H locs 0 0 (MQ below (HXq G post A) args s 0 0 A) (F0 m 26 ls [.int t1_4, .int x2_1]) := by
          intro t1_4 H locs ls hF hP hD hS hl
          unfold f_X10_standing_B26 at hF
          refine lv_iadd hx hb dX10_standing_26 ?_
          refine lv_topi (fun v2_5 ev2_5 => ?_)
          have hF := jl hF ev2_5
          refine lv_istore_n (lv' := [(2, .int v2_5), (0, .long st), (3, .int x3_2)]) hx hb dX10_standing_27 rfl hl (by decide) rfl (fun ls hl => ?_)
          obtain ⟨v3_6, ev3_6⟩ : ∃ z : Int32, z = x3_2 + 1 := ⟨_, rfl⟩
          have hF := jl hF ev3_6
          refine lv_iinc (v := v3_6) (lv' := [(3, .int v3_6), (2, .int v2_5), (0, .long st)]) hx hb dX10_standing_28 hl (k := 2) rfl (by rw [ev3_6]; rfl) (by decide) rfl (fun ls hl => ?_)
          refine lv_goto (tgt := 4) hx hb dX10_standing_31 (by decide) ?_
          exact ih4 v2_5 v3_6 _ _ _ hF hP hD hS (lv_sub hl [2, 1, 0] rfl)
        refine lv_icmp_ne (tgt := 25) hx hb dX10_standing_18 (by decide) (fun c_7 => ?_) (fun c_7 => ?_)
        · have hF := ifn hF c_7
          refine lv_iconst (v := 1) hx hb dX10_standing_25 (by decide) ?_
          exact hB26 1 _ _ _ hF hP hD hS (lv_sub hl [0, 2] rfl)
        · have hF := ifp hF c_7
          refine lv_iconst (v := 0) hx hb dX10_standing_21 (by decide) ?_
          refine lv_goto (tgt := 26) hx hb dX10_standing_22 (by decide) ?_
          exact hB26 0 _ _ _ hF hP hD hS (lv_sub hl [0, 2] rfl)
  exact hL4 _ 0 0 _ _ _ hF hP hD hS (lv_sub hl [2, 1, 0] rfl)
def f_X10_lay (mbd : Int64) (mpm : Int32) (xpd : (Nat → Int32)) : Option (Int32 × Int64 × Int32 × Int64) :=
  Option.bind (f_X10_faultOfBoard mpm xpd) (fun r1_1 => if r1_1.1 < 0 then jlet r1_1.2 (fun u15_3 => Option.bind (f_X10_standing u15_3) (fun r27_4 => some (r27_4, u15_3, 0, r1_1.2))) else some ((-5), mbd, mpm, r1_1.2))
abbrev rm_X10_lay : Room := { frames := 3, cells := 0, slots := 0, locals := 71 }
set_option maxHeartbeats 4000000 in
set_option maxRecDepth 100000 in
theorem k_X10_lay (G : gT) (l : Launch) (mo : Nat) (aMM : Nat) (aMT : Nat) (aPD : Nat) (aST : Nat) (aPL : Nat) (aRS : Nat) (aLA : Nat) (aBM : Nat) (aRP : Nat) (aFI : Nat) (aFM : Nat) (aGB : Nat) (aGM : Nat) (aGV : Nat) (aGR : Nat) (aKB : Nat) (aKP : Nat) (aIK : Nat) (mbd : Int64) (mby : Int32) (mgr : Int32) (mol : Int32) (mmy : Int32) (mpm : Int32) (mrd : Int64) (mbm : Int32) (mbw : Int32) (mpl : Int64) (msm : Int32) (mgs : Int32) (mka : Int32) (miw : Int32) (xpd : (Nat → Int32)) (r : Int32 × Int64 × Int32 × Int64) (hF : f_X10_lay mbd mpm xpd = some r) : HM G l yX10_lay (.code yX10_lay cX10_lay 1 (some .int) :: UW) rm_X10_lay 0 0 [.ref mo] [(mo, .inr (8, [.long mbd, .int mby, .int mgr, .int mol, .ref aMM, .ref aMT, .int mmy, .ref aPD, .int mpm, .long mrd, .int mbm, .int mbw, .long mpl, .ref aST, .ref aPL, .ref aRS, .ref aLA, .ref aBM, .int msm, .ref aRP, .ref aFI, .ref aFM, .ref aGB, .ref aGM, .ref aGV, .ref aGR, .int mgs, .ref aKB, .ref aKP, .ref aIK, .int mka, .int miw])), (aPD, .inl (gI G, 48, .inl xpd))] (some (.int r.1)) [(mo, .inr (8, [.long r.2.1, .int mby, .int mgr, .int mol, .ref aMM, .ref aMT, .int mmy, .ref aPD, .int r.2.2.1, .long r.2.2.2, .int mbm, .int mbw, .long mpl, .ref aST, .ref aPL, .ref aRS, .ref aLA, .ref aBM, .int msm, .ref aRP, .ref aFI, .ref aFM, .ref aGB, .ref aGM, .ref aGV, .ref aGR, .int mgs, .ref aKB, .ref aKP, .ref aIK, .int mka, .int miw])), (aPD, .inl (gI G, 48, .inl xpd))] := by
  refine HM.ofW (by decide) (Nat.le_of_ble_eq_true rfl) ?_
  intro p e s m args below meth c A post hpost hC hP hD hS ls hl
  obtain ⟨hx, hb, hr, hml, hown, hts, hlk, hE, hA⟩ := hC
  have hl : lv_has ls 1 [(0, .ref mo)] := hl
  unfold f_X10_lay at hF
  refine lv_aload_n hx hb dX10_lay_0 rfl (lv_at hl 0 rfl) ?_
  obtain ⟨r1_1, hr1_1, hF⟩ := bnd hF
  refine hm_V (wn := [(mo, .inr (8, [.long mbd, .int mby, .int mgr, .int mol, .ref aMM, .ref aMT, .int mmy, .ref aPD, .int mpm, .long r1_1.2, .int mbm, .int mbw, .long mpl, .ref aST, .ref aPL, .ref aRS, .ref aLA, .ref aBM, .int msm, .ref aRP, .ref aFI, .ref aFM, .ref aGB, .ref aGM, .ref aGV, .ref aGR, .int mgs, .ref aKB, .ref aKP, .ref aIK, .int mka, .int miw])), (aPD, .inl (gI G, 48, .inl xpd))]) (wr := []) (rest := []) (sn := [.int r1_1.1]) hx hb hml hown hts hE hA (k_X10_faultOfBoard G l mo aMM aMT aPD aST aPL aRS aLA aBM aRP aFI aFM aGB aGM aGV aGR aKB aKP aIK mbd mby mgr mol mmy mpm mrd mbm mbw mpl msm mgs mka miw xpd r1_1 hr1_1) sm_X10_faultOfBoard mw_844 ⟨rfl, rfl, Nat.le_of_ble_eq_true rfl, Nat.le_of_ble_eq_true rfl⟩ hP hD hS 0 rfl rfl [0, 1] [] [0, 1] rfl rfl rfl (by decide) hl.1 rfl rfl (Nat.le_of_ble_eq_true rfl) dX10_lay_1 ⟨Nat.le_of_ble_eq_true rfl, Nat.le_of_ble_eq_true rfl⟩ (fun H locs hP hD hS => ?_)
  refine lv_if_lt (tgt := 10) hx hb dX10_lay_4 (by decide) (fun c_2 => ?_) (fun c_2 => ?_)
  · have hF := ifp hF c_2
    refine lv_aload_n hx hb dX10_lay_10 rfl (lv_at hl 0 rfl) ?_
    refine lv_aload_n hx hb dX10_lay_11 rfl (lv_at hl 0 rfl) ?_
    refine hget hx hb hts hown hE fl_X10_149 hP 0 rfl rfl dX10_lay_12 ?_
    refine lv_topl (fun u15_3 eu15_3 => ?_)
    have hF := jl hF eu15_3
    refine hput hx hb hts hown hE fl_X10_69 ft_X10_0 hP hD hS 0 rfl rfl rfl rfl (Nat.le_of_ble_eq_true rfl) (wn := [(mo, .inr (8, [.long u15_3, .int mby, .int mgr, .int mol, .ref aMM, .ref aMT, .int mmy, .ref aPD, .int mpm, .long r1_1.2, .int mbm, .int mbw, .long mpl, .ref aST, .ref aPL, .ref aRS, .ref aLA, .ref aBM, .int msm, .ref aRP, .ref aFI, .ref aFM, .ref aGB, .ref aGM, .ref aGV, .ref aGR, .int mgs, .ref aKB, .ref aKP, .ref aIK, .int mka, .int miw])), (aPD, .inl (gI G, 48, .inl xpd))]) rfl dX10_lay_15 (fun H locs hP hD hS => ?_)
    refine lv_aload_n hx hb dX10_lay_18 rfl (lv_at hl 0 rfl) ?_
    refine lv_iconst (v := 0) hx hb dX10_lay_19 (by decide) ?_
    refine hput hx hb hts hown hE fl_X10_146 ft_X10_8 hP hD hS 0 rfl rfl rfl rfl (Nat.le_of_ble_eq_true rfl) (wn := [(mo, .inr (8, [.long u15_3, .int mby, .int mgr, .int mol, .ref aMM, .ref aMT, .int mmy, .ref aPD, .int 0, .long r1_1.2, .int mbm, .int mbw, .long mpl, .ref aST, .ref aPL, .ref aRS, .ref aLA, .ref aBM, .int msm, .ref aRP, .ref aFI, .ref aFM, .ref aGB, .ref aGM, .ref aGV, .ref aGR, .int mgs, .ref aKB, .ref aKP, .ref aIK, .int mka, .int miw])), (aPD, .inl (gI G, 48, .inl xpd))]) rfl dX10_lay_20 (fun H locs hP hD hS => ?_)
    refine lv_aload_n hx hb dX10_lay_23 rfl (lv_at hl 0 rfl) ?_
    refine hget hx hb hts hown hE fl_X10_69 hP 0 rfl rfl dX10_lay_24 ?_
    obtain ⟨r27_4, hr27_4, hF⟩ := bnd hF
    refine hm_S (wn := [(mo, .inr (8, [.long u15_3, .int mby, .int mgr, .int mol, .ref aMM, .ref aMT, .int mmy, .ref aPD, .int 0, .long r1_1.2, .int mbm, .int mbw, .long mpl, .ref aST, .ref aPL, .ref aRS, .ref aLA, .ref aBM, .int msm, .ref aRP, .ref aFI, .ref aFM, .ref aGB, .ref aGM, .ref aGV, .ref aGR, .int mgs, .ref aKB, .ref aKP, .ref aIK, .int mka, .int miw])), (aPD, .inl (gI G, 48, .inl xpd))]) (wr := [(mo, .inr (8, [.long u15_3, .int mby, .int mgr, .int mol, .ref aMM, .ref aMT, .int mmy, .ref aPD, .int 0, .long r1_1.2, .int mbm, .int mbw, .long mpl, .ref aST, .ref aPL, .ref aRS, .ref aLA, .ref aBM, .int msm, .ref aRP, .ref aFI, .ref aFM, .ref aGB, .ref aGM, .ref aGV, .ref aGR, .int mgs, .ref aKB, .ref aKP, .ref aIK, .int mka, .int miw])), (aPD, .inl (gI G, 48, .inl xpd))]) (rest := []) (sn := [.int r27_4]) hx hb hml hown hts hE hA (k_X10_standing G l u15_3 r27_4 hr27_4) sm_X10_standing mw_873 ⟨rfl, rfl, Nat.le_of_ble_eq_true rfl, Nat.le_of_ble_eq_true rfl⟩ hP hD hS [] [0, 1] [0, 1] rfl rfl rfl (by decide) hl.1 rfl rfl (Nat.le_of_ble_eq_true rfl) dX10_lay_27 ⟨Nat.le_of_ble_eq_true rfl, Nat.le_of_ble_eq_true rfl⟩ (fun H locs hP hD hS => ?_)
    have hF := Option.some.inj hF
    subst hF
    exact hm_iret hx hb hr hlk hP hD hS hpost dX10_lay_30
  · have hF := ifn hF c_2
    refine lv_bipush (v := (-5)) hx hb dX10_lay_7 (by decide) ?_
    have hF := Option.some.inj hF
    subst hF
    exact hm_iret hx hb hr hlk hP hD hS hpost dX10_lay_9
def f_X10_law (mby : Int32) (mgr : Int32) (mol : Int32) (nb : Int32) (ng : Int32) (no : Int32) : Int32 × Int32 × Int32 × Int32 :=
  if (f_X10_in (nb.toInt64) 0 9) = 0 then ((-2), mby, mgr, mol) else if (f_X10_in (ng.toInt64) (nb.toInt64) 9) = 0 then ((-2), mby, mgr, mol) else if (f_X10_in (no.toInt64) (ng.toInt64) 9) = 0 then ((-2), mby, mgr, mol) else jlet (((100 * mby) + (10 * mgr)) + mol) (fun v4_4 => (v4_4, nb, ng, no))
abbrev rm_X10_law : Room := { frames := 1, cells := 0, slots := 0, locals := 25 }
set_option maxHeartbeats 4000000 in
set_option maxRecDepth 100000 in
theorem k_X10_law (G : gT) (l : Launch) (mo : Nat) (aMM : Nat) (aMT : Nat) (aPD : Nat) (aST : Nat) (aPL : Nat) (aRS : Nat) (aLA : Nat) (aBM : Nat) (aRP : Nat) (aFI : Nat) (aFM : Nat) (aGB : Nat) (aGM : Nat) (aGV : Nat) (aGR : Nat) (aKB : Nat) (aKP : Nat) (aIK : Nat) (mbd : Int64) (mby : Int32) (mgr : Int32) (mol : Int32) (mmy : Int32) (mpm : Int32) (mrd : Int64) (mbm : Int32) (mbw : Int32) (mpl : Int64) (msm : Int32) (mgs : Int32) (mka : Int32) (miw : Int32) (nb : Int32) (ng : Int32) (no : Int32) (r : Int32 × Int32 × Int32 × Int32) (hF : f_X10_law mby mgr mol nb ng no = r) : HM G l yX10_law (.code yX10_law cX10_law 5 (some .int) :: UW) rm_X10_law 0 0 [.ref mo, .int nb, .int ng, .int no] [(mo, .inr (8, [.long mbd, .int mby, .int mgr, .int mol, .ref aMM, .ref aMT, .int mmy, .ref aPD, .int mpm, .long mrd, .int mbm, .int mbw, .long mpl, .ref aST, .ref aPL, .ref aRS, .ref aLA, .ref aBM, .int msm, .ref aRP, .ref aFI, .ref aFM, .ref aGB, .ref aGM, .ref aGV, .ref aGR, .int mgs, .ref aKB, .ref aKP, .ref aIK, .int mka, .int miw]))] (some (.int r.1)) [(mo, .inr (8, [.long mbd, .int r.2.1, .int r.2.2.1, .int r.2.2.2, .ref aMM, .ref aMT, .int mmy, .ref aPD, .int mpm, .long mrd, .int mbm, .int mbw, .long mpl, .ref aST, .ref aPL, .ref aRS, .ref aLA, .ref aBM, .int msm, .ref aRP, .ref aFI, .ref aFM, .ref aGB, .ref aGM, .ref aGV, .ref aGR, .int mgs, .ref aKB, .ref aKP, .ref aIK, .int mka, .int miw]))] := by
  refine HM.ofW (by decide) (Nat.le_of_ble_eq_true rfl) ?_
  intro p e s m args below meth c A post hpost hC hP hD hS ls hl
  obtain ⟨hx, hb, hr, hml, hown, hts, hlk, hE, hA⟩ := hC
  have hl : lv_has ls 5 [(0, .ref mo), (1, .int nb), (2, .int ng), (3, .int no)] := hl
  unfold f_X10_law at hF
  refine lv_iload_n hx hb dX10_law_0 rfl (lv_at hl 1 rfl) ?_
  refine lv_i2l (v := (nb.toInt64)) hx hb dX10_law_1 rfl ?_
  refine lv_lconst (v := 0) hx hb dX10_law_2 (by decide) ?_
  refine lv_ldc2 (v := 9) hx hb hown (hts _ (List.mem_cons_of_mem _ mw_880)) dX10_law_3 ?_
  refine hm_S (wn := [(mo, .inr (8, [.long mbd, .int mby, .int mgr, .int mol, .ref aMM, .ref aMT, .int mmy, .ref aPD, .int mpm, .long mrd, .int mbm, .int mbw, .long mpl, .ref aST, .ref aPL, .ref aRS, .ref aLA, .ref aBM, .int msm, .ref aRP, .ref aFI, .ref aFM, .ref aGB, .ref aGM, .ref aGV, .ref aGR, .int mgs, .ref aKB, .ref aKP, .ref aIK, .int mka, .int miw]))]) (wr := [(mo, .inr (8, [.long mbd, .int mby, .int mgr, .int mol, .ref aMM, .ref aMT, .int mmy, .ref aPD, .int mpm, .long mrd, .int mbm, .int mbw, .long mpl, .ref aST, .ref aPL, .ref aRS, .ref aLA, .ref aBM, .int msm, .ref aRP, .ref aFI, .ref aFM, .ref aGB, .ref aGM, .ref aGV, .ref aGR, .int mgs, .ref aKB, .ref aKP, .ref aIK, .int mka, .int miw]))]) (rest := []) (sn := [.int (f_X10_in (nb.toInt64) 0 9)]) hx hb hml hown hts hE hA (k_X10_in G l (nb.toInt64) 0 9 _ rfl) sm_X10_in mw_833 ⟨rfl, rfl, Nat.le_of_ble_eq_true rfl, Nat.le_of_ble_eq_true rfl⟩ hP hD hS [] [0] [0] rfl rfl rfl (by decide) hl.1 rfl rfl (Nat.le_of_ble_eq_true rfl) dX10_law_6 ⟨Nat.le_of_ble_eq_true rfl, Nat.le_of_ble_eq_true rfl⟩ (fun H locs hP hD hS => ?_)
  refine lv_if_eq (tgt := 38) hx hb dX10_law_9 (by decide) (fun c_1 => ?_) (fun c_1 => ?_)
  · have hF := ifp hF c_1
    refine lv_bipush (v := (-2)) hx hb dX10_law_38 (by decide) ?_
    subst hF
    exact hm_iret hx hb hr hlk hP hD hS hpost dX10_law_40
  · have hF := ifn hF c_1
    refine lv_iload_n hx hb dX10_law_12 rfl (lv_at hl 2 rfl) ?_
    refine lv_i2l (v := (ng.toInt64)) hx hb dX10_law_13 rfl ?_
    refine lv_iload_n hx hb dX10_law_14 rfl (lv_at hl 1 rfl) ?_
    refine lv_i2l (v := (nb.toInt64)) hx hb dX10_law_15 rfl ?_
    refine lv_ldc2 (v := 9) hx hb hown (hts _ (List.mem_cons_of_mem _ mw_880)) dX10_law_16 ?_
    refine hm_S (wn := [(mo, .inr (8, [.long mbd, .int mby, .int mgr, .int mol, .ref aMM, .ref aMT, .int mmy, .ref aPD, .int mpm, .long mrd, .int mbm, .int mbw, .long mpl, .ref aST, .ref aPL, .ref aRS, .ref aLA, .ref aBM, .int msm, .ref aRP, .ref aFI, .ref aFM, .ref aGB, .ref aGM, .ref aGV, .ref aGR, .int mgs, .ref aKB, .ref aKP, .ref aIK, .int mka, .int miw]))]) (wr := [(mo, .inr (8, [.long mbd, .int mby, .int mgr, .int mol, .ref aMM, .ref aMT, .int mmy, .ref aPD, .int mpm, .long mrd, .int mbm, .int mbw, .long mpl, .ref aST, .ref aPL, .ref aRS, .ref aLA, .ref aBM, .int msm, .ref aRP, .ref aFI, .ref aFM, .ref aGB, .ref aGM, .ref aGV, .ref aGR, .int mgs, .ref aKB, .ref aKP, .ref aIK, .int mka, .int miw]))]) (rest := []) (sn := [.int (f_X10_in (ng.toInt64) (nb.toInt64) 9)]) hx hb hml hown hts hE hA (k_X10_in G l (ng.toInt64) (nb.toInt64) 9 _ rfl) sm_X10_in mw_833 ⟨rfl, rfl, Nat.le_of_ble_eq_true rfl, Nat.le_of_ble_eq_true rfl⟩ hP hD hS [] [0] [0] rfl rfl rfl (by decide) hl.1 rfl rfl (Nat.le_of_ble_eq_true rfl) dX10_law_19 ⟨Nat.le_of_ble_eq_true rfl, Nat.le_of_ble_eq_true rfl⟩ (fun H locs hP hD hS => ?_)
    refine lv_if_eq (tgt := 38) hx hb dX10_law_22 (by decide) (fun c_2 => ?_) (fun c_2 => ?_)
    · have hF := ifp hF c_2
      refine lv_bipush (v := (-2)) hx hb dX10_law_38 (by decide) ?_
      subst hF
      exact hm_iret hx hb hr hlk hP hD hS hpost dX10_law_40
    · have hF := ifn hF c_2
      refine lv_iload_n hx hb dX10_law_25 rfl (lv_at hl 3 rfl) ?_
      refine lv_i2l (v := (no.toInt64)) hx hb dX10_law_26 rfl ?_
      refine lv_iload_n hx hb dX10_law_27 rfl (lv_at hl 2 rfl) ?_
      refine lv_i2l (v := (ng.toInt64)) hx hb dX10_law_28 rfl ?_
      refine lv_ldc2 (v := 9) hx hb hown (hts _ (List.mem_cons_of_mem _ mw_880)) dX10_law_29 ?_
      refine hm_S (wn := [(mo, .inr (8, [.long mbd, .int mby, .int mgr, .int mol, .ref aMM, .ref aMT, .int mmy, .ref aPD, .int mpm, .long mrd, .int mbm, .int mbw, .long mpl, .ref aST, .ref aPL, .ref aRS, .ref aLA, .ref aBM, .int msm, .ref aRP, .ref aFI, .ref aFM, .ref aGB, .ref aGM, .ref aGV, .ref aGR, .int mgs, .ref aKB, .ref aKP, .ref aIK, .int mka, .int miw]))]) (wr := [(mo, .inr (8, [.long mbd, .int mby, .int mgr, .int mol, .ref aMM, .ref aMT, .int mmy, .ref aPD, .int mpm, .long mrd, .int mbm, .int mbw, .long mpl, .ref aST, .ref aPL, .ref aRS, .ref aLA, .ref aBM, .int msm, .ref aRP, .ref aFI, .ref aFM, .ref aGB, .ref aGM, .ref aGV, .ref aGR, .int mgs, .ref aKB, .ref aKP, .ref aIK, .int mka, .int miw]))]) (rest := []) (sn := [.int (f_X10_in (no.toInt64) (ng.toInt64) 9)]) hx hb hml hown hts hE hA (k_X10_in G l (no.toInt64) (ng.toInt64) 9 _ rfl) sm_X10_in mw_833 ⟨rfl, rfl, Nat.le_of_ble_eq_true rfl, Nat.le_of_ble_eq_true rfl⟩ hP hD hS [] [0] [0] rfl rfl rfl (by decide) hl.1 rfl rfl (Nat.le_of_ble_eq_true rfl) dX10_law_32 ⟨Nat.le_of_ble_eq_true rfl, Nat.le_of_ble_eq_true rfl⟩ (fun H locs hP hD hS => ?_)
      refine lv_if_ne (tgt := 41) hx hb dX10_law_35 (by decide) (fun c_3 => ?_) (fun c_3 => ?_)
      · have hF := ifn hF c_3
        refine lv_bipush (v := 100) hx hb dX10_law_41 (by decide) ?_
        refine lv_aload_n hx hb dX10_law_43 rfl (lv_at hl 0 rfl) ?_
        refine hget hx hb hts hown hE fl_X10_77 hP 0 rfl rfl dX10_law_44 ?_
        refine lv_imul hx hb dX10_law_47 ?_
        refine lv_bipush (v := 10) hx hb dX10_law_48 (by decide) ?_
        refine lv_aload_n hx hb dX10_law_50 rfl (lv_at hl 0 rfl) ?_
        refine hget hx hb hts hown hE fl_X10_81 hP 0 rfl rfl dX10_law_51 ?_
        refine lv_imul hx hb dX10_law_54 ?_
        refine lv_iadd hx hb dX10_law_55 ?_
        refine lv_aload_n hx hb dX10_law_56 rfl (lv_at hl 0 rfl) ?_
        refine hget hx hb hts hown hE fl_X10_84 hP 0 rfl rfl dX10_law_57 ?_
        refine lv_iadd hx hb dX10_law_60 ?_
        refine lv_topi (fun v4_4 ev4_4 => ?_)
        have hF := jl hF ev4_4
        refine lv_istore (lv' := [(4, .int v4_4), (0, .ref mo), (1, .int nb), (2, .int ng), (3, .int no)]) hx hb dX10_law_61 hl (by decide) rfl (fun ls hl => ?_)
        refine lv_aload_n hx hb dX10_law_63 rfl (lv_at hl 1 rfl) ?_
        refine lv_iload_n hx hb dX10_law_64 rfl (lv_at hl 2 rfl) ?_
        refine hput hx hb hts hown hE fl_X10_77 ft_X10_1 hP hD hS 0 rfl rfl rfl rfl (Nat.le_of_ble_eq_true rfl) (wn := [(mo, .inr (8, [.long mbd, .int nb, .int mgr, .int mol, .ref aMM, .ref aMT, .int mmy, .ref aPD, .int mpm, .long mrd, .int mbm, .int mbw, .long mpl, .ref aST, .ref aPL, .ref aRS, .ref aLA, .ref aBM, .int msm, .ref aRP, .ref aFI, .ref aFM, .ref aGB, .ref aGM, .ref aGV, .ref aGR, .int mgs, .ref aKB, .ref aKP, .ref aIK, .int mka, .int miw]))]) rfl dX10_law_65 (fun H locs hP hD hS => ?_)
        refine lv_aload_n hx hb dX10_law_68 rfl (lv_at hl 1 rfl) ?_
        refine lv_iload_n hx hb dX10_law_69 rfl (lv_at hl 3 rfl) ?_
        refine hput hx hb hts hown hE fl_X10_81 ft_X10_2 hP hD hS 0 rfl rfl rfl rfl (Nat.le_of_ble_eq_true rfl) (wn := [(mo, .inr (8, [.long mbd, .int nb, .int ng, .int mol, .ref aMM, .ref aMT, .int mmy, .ref aPD, .int mpm, .long mrd, .int mbm, .int mbw, .long mpl, .ref aST, .ref aPL, .ref aRS, .ref aLA, .ref aBM, .int msm, .ref aRP, .ref aFI, .ref aFM, .ref aGB, .ref aGM, .ref aGV, .ref aGR, .int mgs, .ref aKB, .ref aKP, .ref aIK, .int mka, .int miw]))]) rfl dX10_law_70 (fun H locs hP hD hS => ?_)
        refine lv_aload_n hx hb dX10_law_73 rfl (lv_at hl 1 rfl) ?_
        refine lv_iload_n hx hb dX10_law_74 rfl (lv_at hl 4 rfl) ?_
        refine hput hx hb hts hown hE fl_X10_84 ft_X10_3 hP hD hS 0 rfl rfl rfl rfl (Nat.le_of_ble_eq_true rfl) (wn := [(mo, .inr (8, [.long mbd, .int nb, .int ng, .int no, .ref aMM, .ref aMT, .int mmy, .ref aPD, .int mpm, .long mrd, .int mbm, .int mbw, .long mpl, .ref aST, .ref aPL, .ref aRS, .ref aLA, .ref aBM, .int msm, .ref aRP, .ref aFI, .ref aFM, .ref aGB, .ref aGM, .ref aGV, .ref aGR, .int mgs, .ref aKB, .ref aKP, .ref aIK, .int mka, .int miw]))]) rfl dX10_law_75 (fun H locs hP hD hS => ?_)
        refine lv_iload hx hb dX10_law_78 (lv_at hl 0 rfl) ?_
        subst hF
        exact hm_iret hx hb hr hlk hP hD hS hpost dX10_law_80
      · have hF := ifp hF c_3
        refine lv_bipush (v := (-2)) hx hb dX10_law_38 (by decide) ?_
        subst hF
        exact hm_iret hx hb hr hlk hP hD hS hpost dX10_law_40
def f_X10_isMan (mn : Int32) : Int32 :=
  (f_X10_in (mn.toInt64) 0 5)
abbrev rm_X10_isMan : Room := { frames := 1, cells := 0, slots := 0, locals := 25 }
set_option maxHeartbeats 4000000 in
set_option maxRecDepth 100000 in
theorem k_X10_isMan (G : gT) (l : Launch) (mn : Int32) (r : Int32) (hF : f_X10_isMan mn = r) : HM G l yX10_isMan (.code yX10_isMan cX10_isMan 1 (some .boolean) :: UW) rm_X10_isMan 0 0 [.int mn] [] (some (.int r)) [] := by
  refine HM.ofW (by decide) (Nat.le_of_ble_eq_true rfl) ?_
  intro p e s m args below meth c A post hpost hC hP hD hS ls hl
  obtain ⟨hx, hb, hr, hml, hown, hts, hlk, hE, hA⟩ := hC
  have hl : lv_has ls 1 [(0, .int mn)] := hl
  unfold f_X10_isMan at hF
  refine lv_iload_n hx hb dX10_isMan_0 rfl (lv_at hl 0 rfl) ?_
  refine lv_i2l (v := (mn.toInt64)) hx hb dX10_isMan_1 rfl ?_
  refine lv_lconst (v := 0) hx hb dX10_isMan_2 (by decide) ?_
  refine lv_ldc2 (v := 5) hx hb hown (hts _ (List.mem_cons_of_mem _ mw_851)) dX10_isMan_3 ?_
  refine hm_S (wn := []) (wr := []) (rest := []) (sn := [.int (f_X10_in (mn.toInt64) 0 5)]) hx hb hml hown hts hE hA (k_X10_in G l (mn.toInt64) 0 5 _ rfl) sm_X10_in mw_833 ⟨rfl, rfl, Nat.le_of_ble_eq_true rfl, Nat.le_of_ble_eq_true rfl⟩ hP hD hS [] [] [] rfl rfl rfl (by decide) hl.1 rfl rfl (Nat.le_of_ble_eq_true rfl) dX10_isMan_6 ⟨Nat.le_of_ble_eq_true rfl, Nat.le_of_ble_eq_true rfl⟩ (fun H locs hP hD hS => ?_)
  subst hF
  exact hm_zret hx hb hr hlk hP hD hS (z_X10_in _ _ _) hpost dX10_isMan_9
theorem z_X10_isMan (mn : Int32) : narrow .boolean (.int (f_X10_isMan mn)) = .int (f_X10_isMan mn) := by unfold f_X10_isMan; repeat' (first | rfl | exact (z_X10_in _ _ _) | split)
def f_X10_cellNow (mbd : Int64) (mn : Int32) : Int32 :=
  jlet (f_X10_cellOf mbd mn) (fun v2_1 => if v2_1 = 31 then (-6) else v2_1)
abbrev rm_X10_cellNow : Room := { frames := 1, cells := 0, slots := 0, locals := 22 }
set_option maxHeartbeats 4000000 in
set_option maxRecDepth 100000 in
theorem k_X10_cellNow (G : gT) (l : Launch) (mo : Nat) (aMM : Nat) (aMT : Nat) (aPD : Nat) (aST : Nat) (aPL : Nat) (aRS : Nat) (aLA : Nat) (aBM : Nat) (aRP : Nat) (aFI : Nat) (aFM : Nat) (aGB : Nat) (aGM : Nat) (aGV : Nat) (aGR : Nat) (aKB : Nat) (aKP : Nat) (aIK : Nat) (mbd : Int64) (mby : Int32) (mgr : Int32) (mol : Int32) (mmy : Int32) (mpm : Int32) (mrd : Int64) (mbm : Int32) (mbw : Int32) (mpl : Int64) (msm : Int32) (mgs : Int32) (mka : Int32) (miw : Int32) (mn : Int32) (r : Int32) (hF : f_X10_cellNow mbd mn = r) : HM G l yX10_cellNow (.code yX10_cellNow cX10_cellNow 3 (some .int) :: UW) rm_X10_cellNow 0 0 [.ref mo, .int mn] [(mo, .inr (8, [.long mbd, .int mby, .int mgr, .int mol, .ref aMM, .ref aMT, .int mmy, .ref aPD, .int mpm, .long mrd, .int mbm, .int mbw, .long mpl, .ref aST, .ref aPL, .ref aRS, .ref aLA, .ref aBM, .int msm, .ref aRP, .ref aFI, .ref aFM, .ref aGB, .ref aGM, .ref aGV, .ref aGR, .int mgs, .ref aKB, .ref aKP, .ref aIK, .int mka, .int miw]))] (some (.int r)) [(mo, .inr (8, [.long mbd, .int mby, .int mgr, .int mol, .ref aMM, .ref aMT, .int mmy, .ref aPD, .int mpm, .long mrd, .int mbm, .int mbw, .long mpl, .ref aST, .ref aPL, .ref aRS, .ref aLA, .ref aBM, .int msm, .ref aRP, .ref aFI, .ref aFM, .ref aGB, .ref aGM, .ref aGV, .ref aGR, .int mgs, .ref aKB, .ref aKP, .ref aIK, .int mka, .int miw]))] := by
  refine HM.ofW (by decide) (Nat.le_of_ble_eq_true rfl) ?_
  intro p e s m args below meth c A post hpost hC hP hD hS ls hl
  obtain ⟨hx, hb, hr, hml, hown, hts, hlk, hE, hA⟩ := hC
  have hl : lv_has ls 3 [(0, .ref mo), (1, .int mn)] := hl
  unfold f_X10_cellNow at hF
  refine lv_aload_n hx hb dX10_cellNow_0 rfl (lv_at hl 0 rfl) ?_
  refine hget hx hb hts hown hE fl_X10_69 hP 0 rfl rfl dX10_cellNow_1 ?_
  refine lv_iload_n hx hb dX10_cellNow_4 rfl (lv_at hl 1 rfl) ?_
  refine hm_S (wn := [(mo, .inr (8, [.long mbd, .int mby, .int mgr, .int mol, .ref aMM, .ref aMT, .int mmy, .ref aPD, .int mpm, .long mrd, .int mbm, .int mbw, .long mpl, .ref aST, .ref aPL, .ref aRS, .ref aLA, .ref aBM, .int msm, .ref aRP, .ref aFI, .ref aFM, .ref aGB, .ref aGM, .ref aGV, .ref aGR, .int mgs, .ref aKB, .ref aKP, .ref aIK, .int mka, .int miw]))]) (wr := [(mo, .inr (8, [.long mbd, .int mby, .int mgr, .int mol, .ref aMM, .ref aMT, .int mmy, .ref aPD, .int mpm, .long mrd, .int mbm, .int mbw, .long mpl, .ref aST, .ref aPL, .ref aRS, .ref aLA, .ref aBM, .int msm, .ref aRP, .ref aFI, .ref aFM, .ref aGB, .ref aGM, .ref aGV, .ref aGR, .int mgs, .ref aKB, .ref aKP, .ref aIK, .int mka, .int miw]))]) (rest := []) (sn := [.int (f_X10_cellOf mbd mn)]) hx hb hml hown hts hE hA (k_X10_cellOf G l mbd mn _ rfl) sm_X10_cellOf mw_852 ⟨rfl, rfl, Nat.le_of_ble_eq_true rfl, Nat.le_of_ble_eq_true rfl⟩ hP hD hS [] [0] [0] rfl rfl rfl (by decide) hl.1 rfl rfl (Nat.le_of_ble_eq_true rfl) dX10_cellNow_5 ⟨Nat.le_of_ble_eq_true rfl, Nat.le_of_ble_eq_true rfl⟩ (fun H locs hP hD hS => ?_)
  refine lv_topi (fun v2_1 ev2_1 => ?_)
  have hF := jl hF ev2_1
  refine lv_istore_n (lv' := [(2, .int v2_1), (0, .ref mo), (1, .int mn)]) hx hb dX10_cellNow_8 rfl hl (by decide) rfl (fun ls hl => ?_)
  refine lv_iload_n hx hb dX10_cellNow_9 rfl (lv_at hl 0 rfl) ?_
  refine lv_bipush (v := 31) hx hb dX10_cellNow_10 (by decide) ?_
  refine lv_icmp_ne (tgt := 20) hx hb dX10_cellNow_12 (by decide) (fun c_2 => ?_) (fun c_2 => ?_)
  · have hF := ifn hF c_2
    refine lv_iload_n hx hb dX10_cellNow_20 rfl (lv_at hl 0 rfl) ?_
    subst hF
    exact hm_iret hx hb hr hlk hP hD hS hpost dX10_cellNow_21
  · have hF := ifp hF c_2
    refine lv_bipush (v := (-6)) hx hb dX10_cellNow_15 (by decide) ?_
    refine lv_goto (tgt := 21) hx hb dX10_cellNow_17 (by decide) ?_
    subst hF
    exact hm_iret hx hb hr hlk hP hD hS hpost dX10_cellNow_21
def f_X10_man (mbd : Int64) (mby : Int32) (mgr : Int32) (mol : Int32) (mn : Int32) (wh : Int32) : Int32 :=
  if (f_X10_isMan mn) = 0 then (-1) else if wh = 0 then (f_X10_cellNow mbd mn) else if wh = 1 then (f_X10_ageOf mbd mn) else if wh = 2 then (f_X10_kindOf mby mgr mol (f_X10_ageOf mbd mn)) else (-2)
abbrev rm_X10_man : Room := { frames := 2, cells := 0, slots := 0, locals := 45 }
set_option maxHeartbeats 4000000 in
set_option maxRecDepth 100000 in
theorem k_X10_man (G : gT) (l : Launch) (mo : Nat) (aMM : Nat) (aMT : Nat) (aPD : Nat) (aST : Nat) (aPL : Nat) (aRS : Nat) (aLA : Nat) (aBM : Nat) (aRP : Nat) (aFI : Nat) (aFM : Nat) (aGB : Nat) (aGM : Nat) (aGV : Nat) (aGR : Nat) (aKB : Nat) (aKP : Nat) (aIK : Nat) (mbd : Int64) (mby : Int32) (mgr : Int32) (mol : Int32) (mmy : Int32) (mpm : Int32) (mrd : Int64) (mbm : Int32) (mbw : Int32) (mpl : Int64) (msm : Int32) (mgs : Int32) (mka : Int32) (miw : Int32) (mn : Int32) (wh : Int32) (r : Int32) (hF : f_X10_man mbd mby mgr mol mn wh = r) : HM G l yX10_man (.code yX10_man cX10_man 3 (some .int) :: UW) rm_X10_man 0 0 [.ref mo, .int mn, .int wh] [(mo, .inr (8, [.long mbd, .int mby, .int mgr, .int mol, .ref aMM, .ref aMT, .int mmy, .ref aPD, .int mpm, .long mrd, .int mbm, .int mbw, .long mpl, .ref aST, .ref aPL, .ref aRS, .ref aLA, .ref aBM, .int msm, .ref aRP, .ref aFI, .ref aFM, .ref aGB, .ref aGM, .ref aGV, .ref aGR, .int mgs, .ref aKB, .ref aKP, .ref aIK, .int mka, .int miw]))] (some (.int r)) [(mo, .inr (8, [.long mbd, .int mby, .int mgr, .int mol, .ref aMM, .ref aMT, .int mmy, .ref aPD, .int mpm, .long mrd, .int mbm, .int mbw, .long mpl, .ref aST, .ref aPL, .ref aRS, .ref aLA, .ref aBM, .int msm, .ref aRP, .ref aFI, .ref aFM, .ref aGB, .ref aGM, .ref aGV, .ref aGR, .int mgs, .ref aKB, .ref aKP, .ref aIK, .int mka, .int miw]))] := by
  refine HM.ofW (by decide) (Nat.le_of_ble_eq_true rfl) ?_
  intro p e s m args below meth c A post hpost hC hP hD hS ls hl
  obtain ⟨hx, hb, hr, hml, hown, hts, hlk, hE, hA⟩ := hC
  have hl : lv_has ls 3 [(0, .ref mo), (1, .int mn), (2, .int wh)] := hl
  unfold f_X10_man at hF
  refine lv_iload_n hx hb dX10_man_0 rfl (lv_at hl 1 rfl) ?_
  refine hm_S (wn := [(mo, .inr (8, [.long mbd, .int mby, .int mgr, .int mol, .ref aMM, .ref aMT, .int mmy, .ref aPD, .int mpm, .long mrd, .int mbm, .int mbw, .long mpl, .ref aST, .ref aPL, .ref aRS, .ref aLA, .ref aBM, .int msm, .ref aRP, .ref aFI, .ref aFM, .ref aGB, .ref aGM, .ref aGV, .ref aGR, .int mgs, .ref aKB, .ref aKP, .ref aIK, .int mka, .int miw]))]) (wr := [(mo, .inr (8, [.long mbd, .int mby, .int mgr, .int mol, .ref aMM, .ref aMT, .int mmy, .ref aPD, .int mpm, .long mrd, .int mbm, .int mbw, .long mpl, .ref aST, .ref aPL, .ref aRS, .ref aLA, .ref aBM, .int msm, .ref aRP, .ref aFI, .ref aFM, .ref aGB, .ref aGM, .ref aGV, .ref aGR, .int mgs, .ref aKB, .ref aKP, .ref aIK, .int mka, .int miw]))]) (rest := []) (sn := [.int (f_X10_isMan mn)]) hx hb hml hown hts hE hA (k_X10_isMan G l mn _ rfl) sm_X10_isMan mw_885 ⟨rfl, rfl, Nat.le_of_ble_eq_true rfl, Nat.le_of_ble_eq_true rfl⟩ hP hD hS [] [0] [0] rfl rfl rfl (by decide) hl.1 rfl rfl (Nat.le_of_ble_eq_true rfl) dX10_man_1 ⟨Nat.le_of_ble_eq_true rfl, Nat.le_of_ble_eq_true rfl⟩ (fun H locs hP hD hS => ?_)
  refine lv_if_ne (tgt := 9) hx hb dX10_man_4 (by decide) (fun c_1 => ?_) (fun c_1 => ?_)
  · have hF := ifn hF c_1
    refine lv_iload_n hx hb dX10_man_9 rfl (lv_at hl 2 rfl) ?_
    by_cases hk0 : wh = 0
    · have hF := ifp hF hk0
      refine lv_tableIn (off := 26) (tgt := 36) hx hb dX10_man_10 (by rw [hk0]; first | done | decide) (by rw [hk0]; first | done | decide) (by rw [hk0]; first | done | rfl) (by decide) ?_
      refine lv_aload_n hx hb dX10_man_36 rfl (lv_at hl 0 rfl) ?_
      refine lv_iload_n hx hb dX10_man_37 rfl (lv_at hl 1 rfl) ?_
      refine hm_V (wn := [(mo, .inr (8, [.long mbd, .int mby, .int mgr, .int mol, .ref aMM, .ref aMT, .int mmy, .ref aPD, .int mpm, .long mrd, .int mbm, .int mbw, .long mpl, .ref aST, .ref aPL, .ref aRS, .ref aLA, .ref aBM, .int msm, .ref aRP, .ref aFI, .ref aFM, .ref aGB, .ref aGM, .ref aGV, .ref aGR, .int mgs, .ref aKB, .ref aKP, .ref aIK, .int mka, .int miw]))]) (wr := []) (rest := []) (sn := [.int (f_X10_cellNow mbd mn)]) hx hb hml hown hts hE hA (k_X10_cellNow G l mo aMM aMT aPD aST aPL aRS aLA aBM aRP aFI aFM aGB aGM aGV aGR aKB aKP aIK mbd mby mgr mol mmy mpm mrd mbm mbw mpl msm mgs mka miw mn _ rfl) sm_X10_cellNow mw_888 ⟨rfl, rfl, Nat.le_of_ble_eq_true rfl, Nat.le_of_ble_eq_true rfl⟩ hP hD hS 0 rfl rfl [0] [] [0] rfl rfl rfl (by decide) hl.1 rfl rfl (Nat.le_of_ble_eq_true rfl) dX10_man_38 ⟨Nat.le_of_ble_eq_true rfl, Nat.le_of_ble_eq_true rfl⟩ (fun H locs hP hD hS => ?_)
      subst hF
      exact hm_iret hx hb hr hlk hP hD hS hpost dX10_man_41
    · have hF := ifn hF hk0
      by_cases hk1 : wh = 1
      · have hF := ifp hF hk1
        refine lv_tableIn (off := 32) (tgt := 42) hx hb dX10_man_10 (by rw [hk1]; first | done | decide) (by rw [hk1]; first | done | decide) (by rw [hk1]; first | done | rfl) (by decide) ?_
        refine lv_aload_n hx hb dX10_man_42 rfl (lv_at hl 0 rfl) ?_
        refine hget hx hb hts hown hE fl_X10_69 hP 0 rfl rfl dX10_man_43 ?_
        refine lv_iload_n hx hb dX10_man_46 rfl (lv_at hl 1 rfl) ?_
        refine hm_S (wn := [(mo, .inr (8, [.long mbd, .int mby, .int mgr, .int mol, .ref aMM, .ref aMT, .int mmy, .ref aPD, .int mpm, .long mrd, .int mbm, .int mbw, .long mpl, .ref aST, .ref aPL, .ref aRS, .ref aLA, .ref aBM, .int msm, .ref aRP, .ref aFI, .ref aFM, .ref aGB, .ref aGM, .ref aGV, .ref aGR, .int mgs, .ref aKB, .ref aKP, .ref aIK, .int mka, .int miw]))]) (wr := [(mo, .inr (8, [.long mbd, .int mby, .int mgr, .int mol, .ref aMM, .ref aMT, .int mmy, .ref aPD, .int mpm, .long mrd, .int mbm, .int mbw, .long mpl, .ref aST, .ref aPL, .ref aRS, .ref aLA, .ref aBM, .int msm, .ref aRP, .ref aFI, .ref aFM, .ref aGB, .ref aGM, .ref aGV, .ref aGR, .int mgs, .ref aKB, .ref aKP, .ref aIK, .int mka, .int miw]))]) (rest := []) (sn := [.int (f_X10_ageOf mbd mn)]) hx hb hml hown hts hE hA (k_X10_ageOf G l mbd mn _ rfl) sm_X10_ageOf mw_892 ⟨rfl, rfl, Nat.le_of_ble_eq_true rfl, Nat.le_of_ble_eq_true rfl⟩ hP hD hS [] [0] [0] rfl rfl rfl (by decide) hl.1 rfl rfl (Nat.le_of_ble_eq_true rfl) dX10_man_47 ⟨Nat.le_of_ble_eq_true rfl, Nat.le_of_ble_eq_true rfl⟩ (fun H locs hP hD hS => ?_)
        subst hF
        exact hm_iret hx hb hr hlk hP hD hS hpost dX10_man_50
      · have hF := ifn hF hk1
        by_cases hk2 : wh = 2
        · have hF := ifp hF hk2
          refine lv_tableIn (off := 41) (tgt := 51) hx hb dX10_man_10 (by rw [hk2]; first | done | decide) (by rw [hk2]; first | done | decide) (by rw [hk2]; first | done | rfl) (by decide) ?_
          refine lv_aload_n hx hb dX10_man_51 rfl (lv_at hl 0 rfl) ?_
          refine lv_aload_n hx hb dX10_man_52 rfl (lv_at hl 0 rfl) ?_
          refine hget hx hb hts hown hE fl_X10_69 hP 0 rfl rfl dX10_man_53 ?_
          refine lv_iload_n hx hb dX10_man_56 rfl (lv_at hl 1 rfl) ?_
          refine hm_S (wn := [(mo, .inr (8, [.long mbd, .int mby, .int mgr, .int mol, .ref aMM, .ref aMT, .int mmy, .ref aPD, .int mpm, .long mrd, .int mbm, .int mbw, .long mpl, .ref aST, .ref aPL, .ref aRS, .ref aLA, .ref aBM, .int msm, .ref aRP, .ref aFI, .ref aFM, .ref aGB, .ref aGM, .ref aGV, .ref aGR, .int mgs, .ref aKB, .ref aKP, .ref aIK, .int mka, .int miw]))]) (wr := [(mo, .inr (8, [.long mbd, .int mby, .int mgr, .int mol, .ref aMM, .ref aMT, .int mmy, .ref aPD, .int mpm, .long mrd, .int mbm, .int mbw, .long mpl, .ref aST, .ref aPL, .ref aRS, .ref aLA, .ref aBM, .int msm, .ref aRP, .ref aFI, .ref aFM, .ref aGB, .ref aGM, .ref aGV, .ref aGR, .int mgs, .ref aKB, .ref aKP, .ref aIK, .int mka, .int miw]))]) (rest := [.ref mo]) (sn := [.int (f_X10_ageOf mbd mn), .ref mo]) hx hb hml hown hts hE hA (k_X10_ageOf G l mbd mn _ rfl) sm_X10_ageOf mw_892 ⟨rfl, rfl, Nat.le_of_ble_eq_true rfl, Nat.le_of_ble_eq_true rfl⟩ hP hD hS [] [0] [0] rfl rfl rfl (by decide) hl.1 rfl rfl (Nat.le_of_ble_eq_true rfl) dX10_man_57 ⟨Nat.le_of_ble_eq_true rfl, Nat.le_of_ble_eq_true rfl⟩ (fun H locs hP hD hS => ?_)
          refine hm_V (wn := [(mo, .inr (8, [.long mbd, .int mby, .int mgr, .int mol, .ref aMM, .ref aMT, .int mmy, .ref aPD, .int mpm, .long mrd, .int mbm, .int mbw, .long mpl, .ref aST, .ref aPL, .ref aRS, .ref aLA, .ref aBM, .int msm, .ref aRP, .ref aFI, .ref aFM, .ref aGB, .ref aGM, .ref aGV, .ref aGR, .int mgs, .ref aKB, .ref aKP, .ref aIK, .int mka, .int miw]))]) (wr := []) (rest := []) (sn := [.int (f_X10_kindOf mby mgr mol (f_X10_ageOf mbd mn))]) hx hb hml hown hts hE hA (k_X10_kindOf G l mo aMM aMT aPD aST aPL aRS aLA aBM aRP aFI aFM aGB aGM aGV aGR aKB aKP aIK mbd mby mgr mol mmy mpm mrd mbm mbw mpl msm mgs mka miw (f_X10_ageOf mbd mn) _ rfl) sm_X10_kindOf mw_895 ⟨rfl, rfl, Nat.le_of_ble_eq_true rfl, Nat.le_of_ble_eq_true rfl⟩ hP hD hS 0 rfl rfl [0] [] [0] rfl rfl rfl (by decide) hl.1 rfl rfl (Nat.le_of_ble_eq_true rfl) dX10_man_60 ⟨Nat.le_of_ble_eq_true rfl, Nat.le_of_ble_eq_true rfl⟩ (fun H locs hP hD hS => ?_)
          subst hF
          exact hm_iret hx hb hr hlk hP hD hS hpost dX10_man_63
        · have hF := ifn hF hk2
          have ehk0 : (wh).toInt ≠ 0 := fun h => hk0 (Int32.toInt_inj.mp h)
          have ehk1 : (wh).toInt ≠ 1 := fun h => hk1 (Int32.toInt_inj.mp h)
          have ehk2 : (wh).toInt ≠ 2 := fun h => hk2 (Int32.toInt_inj.mp h)
          refine lv_tableOut (tgt := 64) hx hb dX10_man_10 (by omega) (by decide) ?_
          refine lv_bipush (v := (-2)) hx hb dX10_man_64 (by decide) ?_
          subst hF
          exact hm_iret hx hb hr hlk hP hD hS hpost dX10_man_66
  · have hF := ifp hF c_1
    refine lv_iconst (v := (-1)) hx hb dX10_man_7 (by decide) ?_
    subst hF
    exact hm_iret hx hb hr hlk hP hD hS hpost dX10_man_8
def f_X10_on (mbd : Int64) (cl : Int32) : Option Int32 :=
  if (f_X10_in (cl.toInt64) 0 24) = 0 then some (-1) else Option.bind (f_X10_manOn mbd cl) (fun r17_2 => some r17_2)
abbrev rm_X10_on : Room := { frames := 2, cells := 0, slots := 0, locals := 45 }
set_option maxHeartbeats 4000000 in
set_option maxRecDepth 100000 in
theorem k_X10_on (G : gT) (l : Launch) (mo : Nat) (aMM : Nat) (aMT : Nat) (aPD : Nat) (aST : Nat) (aPL : Nat) (aRS : Nat) (aLA : Nat) (aBM : Nat) (aRP : Nat) (aFI : Nat) (aFM : Nat) (aGB : Nat) (aGM : Nat) (aGV : Nat) (aGR : Nat) (aKB : Nat) (aKP : Nat) (aIK : Nat) (mbd : Int64) (mby : Int32) (mgr : Int32) (mol : Int32) (mmy : Int32) (mpm : Int32) (mrd : Int64) (mbm : Int32) (mbw : Int32) (mpl : Int64) (msm : Int32) (mgs : Int32) (mka : Int32) (miw : Int32) (cl : Int32) (r : Int32) (hF : f_X10_on mbd cl = some r) : HM G l yX10_on (.code yX10_on cX10_on 2 (some .int) :: UW) rm_X10_on 0 0 [.ref mo, .int cl] [(mo, .inr (8, [.long mbd, .int mby, .int mgr, .int mol, .ref aMM, .ref aMT, .int mmy, .ref aPD, .int mpm, .long mrd, .int mbm, .int mbw, .long mpl, .ref aST, .ref aPL, .ref aRS, .ref aLA, .ref aBM, .int msm, .ref aRP, .ref aFI, .ref aFM, .ref aGB, .ref aGM, .ref aGV, .ref aGR, .int mgs, .ref aKB, .ref aKP, .ref aIK, .int mka, .int miw]))] (some (.int r)) [(mo, .inr (8, [.long mbd, .int mby, .int mgr, .int mol, .ref aMM, .ref aMT, .int mmy, .ref aPD, .int mpm, .long mrd, .int mbm, .int mbw, .long mpl, .ref aST, .ref aPL, .ref aRS, .ref aLA, .ref aBM, .int msm, .ref aRP, .ref aFI, .ref aFM, .ref aGB, .ref aGM, .ref aGV, .ref aGR, .int mgs, .ref aKB, .ref aKP, .ref aIK, .int mka, .int miw]))] := by
  refine HM.ofW (by decide) (Nat.le_of_ble_eq_true rfl) ?_
  intro p e s m args below meth c A post hpost hC hP hD hS ls hl
  obtain ⟨hx, hb, hr, hml, hown, hts, hlk, hE, hA⟩ := hC
  have hl : lv_has ls 2 [(0, .ref mo), (1, .int cl)] := hl
  unfold f_X10_on at hF
  refine lv_iload_n hx hb dX10_on_0 rfl (lv_at hl 1 rfl) ?_
  refine lv_i2l (v := (cl.toInt64)) hx hb dX10_on_1 rfl ?_
  refine lv_lconst (v := 0) hx hb dX10_on_2 (by decide) ?_
  refine lv_ldc2 (v := 24) hx hb hown (hts _ (List.mem_cons_of_mem _ mw_903)) dX10_on_3 ?_
  refine hm_S (wn := [(mo, .inr (8, [.long mbd, .int mby, .int mgr, .int mol, .ref aMM, .ref aMT, .int mmy, .ref aPD, .int mpm, .long mrd, .int mbm, .int mbw, .long mpl, .ref aST, .ref aPL, .ref aRS, .ref aLA, .ref aBM, .int msm, .ref aRP, .ref aFI, .ref aFM, .ref aGB, .ref aGM, .ref aGV, .ref aGR, .int mgs, .ref aKB, .ref aKP, .ref aIK, .int mka, .int miw]))]) (wr := [(mo, .inr (8, [.long mbd, .int mby, .int mgr, .int mol, .ref aMM, .ref aMT, .int mmy, .ref aPD, .int mpm, .long mrd, .int mbm, .int mbw, .long mpl, .ref aST, .ref aPL, .ref aRS, .ref aLA, .ref aBM, .int msm, .ref aRP, .ref aFI, .ref aFM, .ref aGB, .ref aGM, .ref aGV, .ref aGR, .int mgs, .ref aKB, .ref aKP, .ref aIK, .int mka, .int miw]))]) (rest := []) (sn := [.int (f_X10_in (cl.toInt64) 0 24)]) hx hb hml hown hts hE hA (k_X10_in G l (cl.toInt64) 0 24 _ rfl) sm_X10_in mw_833 ⟨rfl, rfl, Nat.le_of_ble_eq_true rfl, Nat.le_of_ble_eq_true rfl⟩ hP hD hS [] [0] [0] rfl rfl rfl (by decide) hl.1 rfl rfl (Nat.le_of_ble_eq_true rfl) dX10_on_6 ⟨Nat.le_of_ble_eq_true rfl, Nat.le_of_ble_eq_true rfl⟩ (fun H locs hP hD hS => ?_)
  refine lv_if_eq (tgt := 23) hx hb dX10_on_9 (by decide) (fun c_1 => ?_) (fun c_1 => ?_)
  · have hF := ifp hF c_1
    refine lv_iconst (v := (-1)) hx hb dX10_on_23 (by decide) ?_
    have hF := Option.some.inj hF
    subst hF
    exact hm_iret hx hb hr hlk hP hD hS hpost dX10_on_24
  · have hF := ifn hF c_1
    refine lv_aload_n hx hb dX10_on_12 rfl (lv_at hl 0 rfl) ?_
    refine hget hx hb hts hown hE fl_X10_69 hP 0 rfl rfl dX10_on_13 ?_
    refine lv_iload_n hx hb dX10_on_16 rfl (lv_at hl 1 rfl) ?_
    obtain ⟨r17_2, hr17_2, hF⟩ := bnd hF
    refine hm_S (wn := [(mo, .inr (8, [.long mbd, .int mby, .int mgr, .int mol, .ref aMM, .ref aMT, .int mmy, .ref aPD, .int mpm, .long mrd, .int mbm, .int mbw, .long mpl, .ref aST, .ref aPL, .ref aRS, .ref aLA, .ref aBM, .int msm, .ref aRP, .ref aFI, .ref aFM, .ref aGB, .ref aGM, .ref aGV, .ref aGR, .int mgs, .ref aKB, .ref aKP, .ref aIK, .int mka, .int miw]))]) (wr := [(mo, .inr (8, [.long mbd, .int mby, .int mgr, .int mol, .ref aMM, .ref aMT, .int mmy, .ref aPD, .int mpm, .long mrd, .int mbm, .int mbw, .long mpl, .ref aST, .ref aPL, .ref aRS, .ref aLA, .ref aBM, .int msm, .ref aRP, .ref aFI, .ref aFM, .ref aGB, .ref aGM, .ref aGV, .ref aGR, .int mgs, .ref aKB, .ref aKP, .ref aIK, .int mka, .int miw]))]) (rest := []) (sn := [.int r17_2]) hx hb hml hown hts hE hA (k_X10_manOn G l mbd cl r17_2 hr17_2) sm_X10_manOn mw_860 ⟨rfl, rfl, Nat.le_of_ble_eq_true rfl, Nat.le_of_ble_eq_true rfl⟩ hP hD hS [] [0] [0] rfl rfl rfl (by decide) hl.1 rfl rfl (Nat.le_of_ble_eq_true rfl) dX10_on_17 ⟨Nat.le_of_ble_eq_true rfl, Nat.le_of_ble_eq_true rfl⟩ (fun H locs hP hD hS => ?_)
    refine lv_goto (tgt := 24) hx hb dX10_on_20 (by decide) ?_
    have hF := Option.some.inj hF
    subst hF
    exact hm_iret hx hb hr hlk hP hD hS hpost dX10_on_24
def f_X10_state (mbd : Int64) (mby : Int32) (mgr : Int32) (mol : Int32) (wh : Int32) : Option Int32 :=
  if wh = 0 then some (f_X10_turnOf mbd) else if wh = 1 then Option.bind (f_X10_broughtBy mby mgr mol mbd) (fun r24_3 => some r24_3) else some (-2)
abbrev rm_X10_state : Room := { frames := 8, cells := 0, slots := 0, locals := 196 }
set_option maxHeartbeats 4000000 in
set_option maxRecDepth 100000 in
theorem k_X10_state (G : gT) (l : Launch) (mo : Nat) (aMM : Nat) (aMT : Nat) (aPD : Nat) (aST : Nat) (aPL : Nat) (aRS : Nat) (aLA : Nat) (aBM : Nat) (aRP : Nat) (aFI : Nat) (aFM : Nat) (aGB : Nat) (aGM : Nat) (aGV : Nat) (aGR : Nat) (aKB : Nat) (aKP : Nat) (aIK : Nat) (mbd : Int64) (mby : Int32) (mgr : Int32) (mol : Int32) (mmy : Int32) (mpm : Int32) (mrd : Int64) (mbm : Int32) (mbw : Int32) (mpl : Int64) (msm : Int32) (mgs : Int32) (mka : Int32) (miw : Int32) (wh : Int32) (r : Int32) (hF : f_X10_state mbd mby mgr mol wh = some r) : HM G l yX10_state (.code yX10_state cX10_state 2 (some .int) :: UW) rm_X10_state 0 0 [.ref mo, .int wh] [(mo, .inr (8, [.long mbd, .int mby, .int mgr, .int mol, .ref aMM, .ref aMT, .int mmy, .ref aPD, .int mpm, .long mrd, .int mbm, .int mbw, .long mpl, .ref aST, .ref aPL, .ref aRS, .ref aLA, .ref aBM, .int msm, .ref aRP, .ref aFI, .ref aFM, .ref aGB, .ref aGM, .ref aGV, .ref aGR, .int mgs, .ref aKB, .ref aKP, .ref aIK, .int mka, .int miw]))] (some (.int r)) [(mo, .inr (8, [.long mbd, .int mby, .int mgr, .int mol, .ref aMM, .ref aMT, .int mmy, .ref aPD, .int mpm, .long mrd, .int mbm, .int mbw, .long mpl, .ref aST, .ref aPL, .ref aRS, .ref aLA, .ref aBM, .int msm, .ref aRP, .ref aFI, .ref aFM, .ref aGB, .ref aGM, .ref aGV, .ref aGR, .int mgs, .ref aKB, .ref aKP, .ref aIK, .int mka, .int miw]))] := by
  refine HM.ofW (by decide) (Nat.le_of_ble_eq_true rfl) ?_
  intro p e s m args below meth c A post hpost hC hP hD hS ls hl
  obtain ⟨hx, hb, hr, hml, hown, hts, hlk, hE, hA⟩ := hC
  have hl : lv_has ls 2 [(0, .ref mo), (1, .int wh)] := hl
  unfold f_X10_state at hF
  refine lv_iload_n hx hb dX10_state_0 rfl (lv_at hl 1 rfl) ?_
  refine lv_if_ne (tgt := 14) hx hb dX10_state_1 (by decide) (fun c_1 => ?_) (fun c_1 => ?_)
  · have hF := ifn hF c_1
    refine lv_iload_n hx hb dX10_state_14 rfl (lv_at hl 1 rfl) ?_
    refine lv_iconst (v := 1) hx hb dX10_state_15 (by decide) ?_
    refine lv_icmp_ne (tgt := 30) hx hb dX10_state_16 (by decide) (fun c_2 => ?_) (fun c_2 => ?_)
    · have hF := ifn hF c_2
      refine lv_bipush (v := (-2)) hx hb dX10_state_30 (by decide) ?_
      have hF := Option.some.inj hF
      subst hF
      exact hm_iret hx hb hr hlk hP hD hS hpost dX10_state_32
    · have hF := ifp hF c_2
      refine lv_aload_n hx hb dX10_state_19 rfl (lv_at hl 0 rfl) ?_
      refine lv_aload_n hx hb dX10_state_20 rfl (lv_at hl 0 rfl) ?_
      refine hget hx hb hts hown hE fl_X10_69 hP 0 rfl rfl dX10_state_21 ?_
      obtain ⟨r24_3, hr24_3, hF⟩ := bnd hF
      refine hm_V (wn := [(mo, .inr (8, [.long mbd, .int mby, .int mgr, .int mol, .ref aMM, .ref aMT, .int mmy, .ref aPD, .int mpm, .long mrd, .int mbm, .int mbw, .long mpl, .ref aST, .ref aPL, .ref aRS, .ref aLA, .ref aBM, .int msm, .ref aRP, .ref aFI, .ref aFM, .ref aGB, .ref aGM, .ref aGV, .ref aGR, .int mgs, .ref aKB, .ref aKP, .ref aIK, .int mka, .int miw]))]) (wr := []) (rest := []) (sn := [.int r24_3]) hx hb hml hown hts hE hA (k_X10_broughtBy G l mo aMM aMT aPD aST aPL aRS aLA aBM aRP aFI aFM aGB aGM aGV aGR aKB aKP aIK mbd mby mgr mol mmy mpm mrd mbm mbw mpl msm mgs mka miw mbd r24_3 hr24_3) sm_X10_broughtBy mw_908 ⟨rfl, rfl, Nat.le_of_ble_eq_true rfl, Nat.le_of_ble_eq_true rfl⟩ hP hD hS 0 rfl rfl [0] [] [0] rfl rfl rfl (by decide) hl.1 rfl rfl (Nat.le_of_ble_eq_true rfl) dX10_state_24 ⟨Nat.le_of_ble_eq_true rfl, Nat.le_of_ble_eq_true rfl⟩ (fun H locs hP hD hS => ?_)
      refine lv_goto (tgt := 32) hx hb dX10_state_27 (by decide) ?_
      have hF := Option.some.inj hF
      subst hF
      exact hm_iret hx hb hr hlk hP hD hS hpost dX10_state_32
  · have hF := ifp hF c_1
    refine lv_aload_n hx hb dX10_state_4 rfl (lv_at hl 0 rfl) ?_
    refine hget hx hb hts hown hE fl_X10_69 hP 0 rfl rfl dX10_state_5 ?_
    refine hm_S (wn := [(mo, .inr (8, [.long mbd, .int mby, .int mgr, .int mol, .ref aMM, .ref aMT, .int mmy, .ref aPD, .int mpm, .long mrd, .int mbm, .int mbw, .long mpl, .ref aST, .ref aPL, .ref aRS, .ref aLA, .ref aBM, .int msm, .ref aRP, .ref aFI, .ref aFM, .ref aGB, .ref aGM, .ref aGV, .ref aGR, .int mgs, .ref aKB, .ref aKP, .ref aIK, .int mka, .int miw]))]) (wr := [(mo, .inr (8, [.long mbd, .int mby, .int mgr, .int mol, .ref aMM, .ref aMT, .int mmy, .ref aPD, .int mpm, .long mrd, .int mbm, .int mbw, .long mpl, .ref aST, .ref aPL, .ref aRS, .ref aLA, .ref aBM, .int msm, .ref aRP, .ref aFI, .ref aFM, .ref aGB, .ref aGM, .ref aGV, .ref aGR, .int mgs, .ref aKB, .ref aKP, .ref aIK, .int mka, .int miw]))]) (rest := []) (sn := [.int (f_X10_turnOf mbd)]) hx hb hml hown hts hE hA (k_X10_turnOf G l mbd _ rfl) sm_X10_turnOf mw_848 ⟨rfl, rfl, Nat.le_of_ble_eq_true rfl, Nat.le_of_ble_eq_true rfl⟩ hP hD hS [] [0] [0] rfl rfl rfl (by decide) hl.1 rfl rfl (Nat.le_of_ble_eq_true rfl) dX10_state_8 ⟨Nat.le_of_ble_eq_true rfl, Nat.le_of_ble_eq_true rfl⟩ (fun H locs hP hD hS => ?_)
    refine lv_goto (tgt := 32) hx hb dX10_state_11 (by decide) ?_
    have hF := Option.some.inj hF
    subst hF
    exact hm_iret hx hb hr hlk hP hD hS hpost dX10_state_32
