def f_X8_cellOf (st : Int64) (mn : Int32) : Int32 :=
  (((jlushr st (9 * mn)).toInt32) &&& 31)
abbrev rm_X8_cellOf : Room := { frames := 0, cells := 0, slots := 0, locals := 0 }
set_option maxHeartbeats 4000000 in
set_option maxRecDepth 100000 in
theorem k_X8_cellOf (G : gT) (l : Launch) (st : Int64) (mn : Int32) (r : Int32) (hF : f_X8_cellOf st mn = r) : HM G l yX8_cellOf (.code yX8_cellOf cX8_cellOf 3 (some .int) :: UW) rm_X8_cellOf 0 0 [.long st, .int mn] [] (some (.int r)) [] := by
  refine HM.ofW (by decide) (Nat.le_of_ble_eq_true rfl) ?_
  intro p e s m args below meth c A post hpost hC hP hD hS ls hl
  obtain ⟨hx, hb, hr, hml, hown, hts, hlk, hE, hA⟩ := hC
  have hl : lv_has ls 3 [(0, .long st), (2, .int mn)] := hl
  unfold f_X8_cellOf at hF
  refine lv_lload_n hx hb dX8_cellOf_0 rfl (lv_at hl 0 rfl) ?_
  refine lv_bipush (v := 9) hx hb dX8_cellOf_1 (by decide) ?_
  refine lv_iload_n hx hb dX8_cellOf_3 rfl (lv_at hl 1 rfl) ?_
  refine lv_imul hx hb dX8_cellOf_4 ?_
  refine lv_lushr (v := (jlushr st (9 * mn))) hx hb dX8_cellOf_5 rfl ?_
  refine lv_l2i (v := ((jlushr st (9 * mn)).toInt32)) hx hb dX8_cellOf_6 rfl ?_
  refine lv_bipush (v := 31) hx hb dX8_cellOf_7 (by decide) ?_
  refine lv_iand hx hb dX8_cellOf_9 ?_
  subst hF
  exact hm_iret hx hb hr hlk hP hD hS hpost dX8_cellOf_10
def f_X8_ageOf (st : Int64) (mn : Int32) : Int32 :=
  (((jlushr st ((9 * mn) + 5)).toInt32) &&& 15)
abbrev rm_X8_ageOf : Room := { frames := 0, cells := 0, slots := 0, locals := 0 }
set_option maxHeartbeats 4000000 in
set_option maxRecDepth 100000 in
theorem k_X8_ageOf (G : gT) (l : Launch) (st : Int64) (mn : Int32) (r : Int32) (hF : f_X8_ageOf st mn = r) : HM G l yX8_ageOf (.code yX8_ageOf cX8_ageOf 3 (some .int) :: UW) rm_X8_ageOf 0 0 [.long st, .int mn] [] (some (.int r)) [] := by
  refine HM.ofW (by decide) (Nat.le_of_ble_eq_true rfl) ?_
  intro p e s m args below meth c A post hpost hC hP hD hS ls hl
  obtain ⟨hx, hb, hr, hml, hown, hts, hlk, hE, hA⟩ := hC
  have hl : lv_has ls 3 [(0, .long st), (2, .int mn)] := hl
  unfold f_X8_ageOf at hF
  refine lv_lload_n hx hb dX8_ageOf_0 rfl (lv_at hl 0 rfl) ?_
  refine lv_bipush (v := 9) hx hb dX8_ageOf_1 (by decide) ?_
  refine lv_iload_n hx hb dX8_ageOf_3 rfl (lv_at hl 1 rfl) ?_
  refine lv_imul hx hb dX8_ageOf_4 ?_
  refine lv_iconst (v := 5) hx hb dX8_ageOf_5 (by decide) ?_
  refine lv_iadd hx hb dX8_ageOf_6 ?_
  refine lv_lushr (v := (jlushr st ((9 * mn) + 5))) hx hb dX8_ageOf_7 rfl ?_
  refine lv_l2i (v := ((jlushr st ((9 * mn) + 5)).toInt32)) hx hb dX8_ageOf_8 rfl ?_
  refine lv_bipush (v := 15) hx hb dX8_ageOf_9 (by decide) ?_
  refine lv_iand hx hb dX8_ageOf_11 ?_
  subst hF
  exact hm_iret hx hb hr hlk hP hD hS hpost dX8_ageOf_12
def f_X8_turnOf (st : Int64) : Int32 :=
  (((jlushr st 54).toInt32) &&& 1)
abbrev rm_X8_turnOf : Room := { frames := 0, cells := 0, slots := 0, locals := 0 }
set_option maxHeartbeats 4000000 in
set_option maxRecDepth 100000 in
theorem k_X8_turnOf (G : gT) (l : Launch) (st : Int64) (r : Int32) (hF : f_X8_turnOf st = r) : HM G l yX8_turnOf (.code yX8_turnOf cX8_turnOf 2 (some .int) :: UW) rm_X8_turnOf 0 0 [.long st] [] (some (.int r)) [] := by
  refine HM.ofW (by decide) (Nat.le_of_ble_eq_true rfl) ?_
  intro p e s m args below meth c A post hpost hC hP hD hS ls hl
  obtain ⟨hx, hb, hr, hml, hown, hts, hlk, hE, hA⟩ := hC
  have hl : lv_has ls 2 [(0, .long st)] := hl
  unfold f_X8_turnOf at hF
  refine lv_lload_n hx hb dX8_turnOf_0 rfl (lv_at hl 0 rfl) ?_
  refine lv_bipush (v := 54) hx hb dX8_turnOf_1 (by decide) ?_
  refine lv_lushr (v := (jlushr st 54)) hx hb dX8_turnOf_3 rfl ?_
  refine lv_l2i (v := ((jlushr st 54).toInt32)) hx hb dX8_turnOf_4 rfl ?_
  refine lv_iconst (v := 1) hx hb dX8_turnOf_5 (by decide) ?_
  refine lv_iand hx hb dX8_turnOf_6 ?_
  subst hF
  exact hm_iret hx hb hr hlk hP hD hS hpost dX8_turnOf_7
def f_X8_isUp (st : Int64) (mn : Int32) : Int32 :=
  if (f_X8_cellOf st mn) = 31 then 0 else 1
abbrev rm_X8_isUp : Room := { frames := 1, cells := 0, slots := 0, locals := 22 }
set_option maxHeartbeats 4000000 in
set_option maxRecDepth 100000 in
theorem k_X8_isUp (G : gT) (l : Launch) (st : Int64) (mn : Int32) (r : Int32) (hF : f_X8_isUp st mn = r) : HM G l yX8_isUp (.code yX8_isUp cX8_isUp 3 (some .boolean) :: UW) rm_X8_isUp 0 0 [.long st, .int mn] [] (some (.int r)) [] := by
  refine HM.ofW (by decide) (Nat.le_of_ble_eq_true rfl) ?_
  intro p e s m args below meth c A post hpost hC hP hD hS ls hl
  obtain ⟨hx, hb, hr, hml, hown, hts, hlk, hE, hA⟩ := hC
  have hl : lv_has ls 3 [(0, .long st), (2, .int mn)] := hl
  unfold f_X8_isUp at hF
  refine lv_lload_n hx hb dX8_isUp_0 rfl (lv_at hl 0 rfl) ?_
  refine lv_iload_n hx hb dX8_isUp_1 rfl (lv_at hl 1 rfl) ?_
  refine hm_S (wn := []) (wr := []) (rest := []) (sn := [.int (f_X8_cellOf st mn)]) hx hb hml hown hts hE hA (k_X8_cellOf G l st mn _ rfl) sm_X8_cellOf mw_306 ⟨rfl, rfl, Nat.le_of_ble_eq_true rfl, Nat.le_of_ble_eq_true rfl⟩ hP hD hS [] [] [] rfl rfl rfl (by decide) hl.1 rfl rfl (Nat.le_of_ble_eq_true rfl) dX8_isUp_2 ⟨Nat.le_of_ble_eq_true rfl, Nat.le_of_ble_eq_true rfl⟩ (fun H locs hP hD hS => ?_)
  refine lv_bipush (v := 31) hx hb dX8_isUp_5 (by decide) ?_
  refine lv_icmp_eq (tgt := 14) hx hb dX8_isUp_7 (by decide) (fun c_1 => ?_) (fun c_1 => ?_)
  · have hF := ifp hF c_1
    refine lv_iconst (v := 0) hx hb dX8_isUp_14 (by decide) ?_
    subst hF
    exact hm_zret hx hb hr hlk hP hD hS (by decide +kernel) hpost dX8_isUp_15
  · have hF := ifn hF c_1
    refine lv_iconst (v := 1) hx hb dX8_isUp_10 (by decide) ?_
    refine lv_goto (tgt := 15) hx hb dX8_isUp_11 (by decide) ?_
    subst hF
    exact hm_zret hx hb hr hlk hP hD hS (by decide +kernel) hpost dX8_isUp_15
theorem z_X8_isUp (st : Int64) (mn : Int32) : narrow .boolean (.int (f_X8_isUp st mn)) = .int (f_X8_isUp st mn) := by unfold f_X8_isUp; repeat' (first | rfl | split)
def f_X8_put (st : Int64) (mn : Int32) (cl : Int32) (ag : Int32) : Int64 :=
  jlet (9 * mn) (fun v5_1 => ((st &&& ((jlshl 511 v5_1) ^^^ (-1))) ||| (jlshl ((cl ||| (jshl ag 5)).toInt64) v5_1)))
abbrev rm_X8_put : Room := { frames := 0, cells := 0, slots := 0, locals := 0 }
set_option maxHeartbeats 4000000 in
set_option maxRecDepth 100000 in
theorem k_X8_put (G : gT) (l : Launch) (st : Int64) (mn : Int32) (cl : Int32) (ag : Int32) (r : Int64) (hF : f_X8_put st mn cl ag = r) : HM G l yX8_put (.code yX8_put cX8_put 6 (some .long) :: UW) rm_X8_put 0 0 [.long st, .int mn, .int cl, .int ag] [] (some (.long r)) [] := by
  refine HM.ofW (by decide) (Nat.le_of_ble_eq_true rfl) ?_
  intro p e s m args below meth c A post hpost hC hP hD hS ls hl
  obtain ⟨hx, hb, hr, hml, hown, hts, hlk, hE, hA⟩ := hC
  have hl : lv_has ls 6 [(0, .long st), (2, .int mn), (3, .int cl), (4, .int ag)] := hl
  unfold f_X8_put at hF
  refine lv_bipush (v := 9) hx hb dX8_put_0 (by decide) ?_
  refine lv_iload_n hx hb dX8_put_2 rfl (lv_at hl 1 rfl) ?_
  refine lv_imul hx hb dX8_put_3 ?_
  refine lv_topi (fun v5_1 ev5_1 => ?_)
  have hF := jl hF ev5_1
  refine lv_istore (lv' := [(5, .int v5_1), (0, .long st), (2, .int mn), (3, .int cl), (4, .int ag)]) hx hb dX8_put_4 hl (by decide) rfl (fun ls hl => ?_)
  refine lv_lload_n hx hb dX8_put_6 rfl (lv_at hl 1 rfl) ?_
  refine lv_ldc2 (v := 511) hx hb hown (hts _ (List.mem_cons_of_mem _ mw_207)) dX8_put_7 ?_
  refine lv_iload hx hb dX8_put_10 (lv_at hl 0 rfl) ?_
  refine lv_lshl (v := (jlshl 511 v5_1)) hx hb dX8_put_12 rfl ?_
  refine lv_ldc2 (v := (-1)) hx hb hown (hts _ (List.mem_cons_of_mem _ mw_208)) dX8_put_13 ?_
  refine lv_lxor hx hb dX8_put_16 ?_
  refine lv_land hx hb dX8_put_17 ?_
  refine lv_iload_n hx hb dX8_put_18 rfl (lv_at hl 3 rfl) ?_
  refine lv_iload hx hb dX8_put_19 (lv_at hl 4 rfl) ?_
  refine lv_iconst (v := 5) hx hb dX8_put_21 (by decide) ?_
  refine lv_ishl hx hb dX8_put_22 ?_
  refine lv_ior hx hb dX8_put_23 ?_
  refine lv_i2l (v := ((cl ||| (jshl ag 5)).toInt64)) hx hb dX8_put_24 rfl ?_
  refine lv_iload hx hb dX8_put_25 (lv_at hl 0 rfl) ?_
  refine lv_lshl (v := (jlshl ((cl ||| (jshl ag 5)).toInt64) v5_1)) hx hb dX8_put_27 rfl ?_
  refine lv_lor hx hb dX8_put_28 ?_
  subst hF
  exact hm_lret hx hb hr hlk hP hD hS hpost dX8_put_29
def f_X8_withTurn (st : Int64) (tn : Int32) : Int64 :=
  ((st &&& (-18014398509481985)) ||| (jlshl (tn.toInt64) 54))
abbrev rm_X8_withTurn : Room := { frames := 0, cells := 0, slots := 0, locals := 0 }
set_option maxHeartbeats 4000000 in
set_option maxRecDepth 100000 in
theorem k_X8_withTurn (G : gT) (l : Launch) (st : Int64) (tn : Int32) (r : Int64) (hF : f_X8_withTurn st tn = r) : HM G l yX8_withTurn (.code yX8_withTurn cX8_withTurn 3 (some .long) :: UW) rm_X8_withTurn 0 0 [.long st, .int tn] [] (some (.long r)) [] := by
  refine HM.ofW (by decide) (Nat.le_of_ble_eq_true rfl) ?_
  intro p e s m args below meth c A post hpost hC hP hD hS ls hl
  obtain ⟨hx, hb, hr, hml, hown, hts, hlk, hE, hA⟩ := hC
  have hl : lv_has ls 3 [(0, .long st), (2, .int tn)] := hl
  unfold f_X8_withTurn at hF
  refine lv_lload_n hx hb dX8_withTurn_0 rfl (lv_at hl 0 rfl) ?_
  refine lv_ldc2 (v := (-18014398509481985)) hx hb hown (hts _ (List.mem_cons_of_mem _ mw_299)) dX8_withTurn_1 ?_
  refine lv_land hx hb dX8_withTurn_4 ?_
  refine lv_iload_n hx hb dX8_withTurn_5 rfl (lv_at hl 1 rfl) ?_
  refine lv_i2l (v := (tn.toInt64)) hx hb dX8_withTurn_6 rfl ?_
  refine lv_bipush (v := 54) hx hb dX8_withTurn_7 (by decide) ?_
  refine lv_lshl (v := (jlshl (tn.toInt64) 54)) hx hb dX8_withTurn_9 rfl ?_
  refine lv_lor hx hb dX8_withTurn_10 ?_
  subst hF
  exact hm_lret hx hb hr hlk hP hD hS hpost dX8_withTurn_11
def f_J6_bitCount_0f7a4 (bx : Int32) : Int32 :=
  jlet (bx - ((jushr bx 1) &&& 1431655765)) (fun v0_1 => jlet ((v0_1 &&& 858993459) + ((jushr v0_1 2) &&& 858993459)) (fun v0_2 => jlet ((v0_2 + (jushr v0_2 4)) &&& 252645135) (fun v0_3 => jlet (v0_3 + (jushr v0_3 8)) (fun v0_4 => jlet (v0_4 + (jushr v0_4 16)) (fun v0_5 => (v0_5 &&& 63))))))
abbrev rm_J6_bitCount_0f7a4 : Room := { frames := 0, cells := 0, slots := 0, locals := 0 }
set_option maxHeartbeats 4000000 in
set_option maxRecDepth 100000 in
theorem k_J6_bitCount_0f7a4 (G : gT) (l : Launch) (bx : Int32) (r : Int32) (hF : f_J6_bitCount_0f7a4 bx = r) : HM G l yJ6_bitCount_0f7a4 (.code yJ6_bitCount_0f7a4 cJ6_bitCount_0f7a4 1 (some .int) :: UW) rm_J6_bitCount_0f7a4 0 0 [.int bx] [] (some (.int r)) [] := by
  refine HM.ofW (by decide) (Nat.le_of_ble_eq_true rfl) ?_
  intro p e s m args below meth c A post hpost hC hP hD hS ls hl
  obtain ⟨hx, hb, hr, hml, hown, hts, hlk, hE, hA⟩ := hC
  have hl : lv_has ls 1 [(0, .int bx)] := hl
  unfold f_J6_bitCount_0f7a4 at hF
  refine lv_iload_n hx hb dJ6_bitCount_0f7a4_0 rfl (lv_at hl 0 rfl) ?_
  refine lv_iload_n hx hb dJ6_bitCount_0f7a4_1 rfl (lv_at hl 0 rfl) ?_
  refine lv_iconst (v := 1) hx hb dJ6_bitCount_0f7a4_2 (by decide) ?_
  refine lv_iushr (v := (jushr bx 1)) hx hb dJ6_bitCount_0f7a4_3 rfl ?_
  refine lv_ldcw (v := 1431655765) hx hb hown (hts _ (List.mem_cons_of_mem _ mw_312)) dJ6_bitCount_0f7a4_4 ?_
  refine lv_iand hx hb dJ6_bitCount_0f7a4_7 ?_
  refine lv_isub hx hb dJ6_bitCount_0f7a4_8 ?_
  refine lv_topi (fun v0_1 ev0_1 => ?_)
  have hF := jl hF ev0_1
  refine lv_istore_n (lv' := [(0, .int v0_1)]) hx hb dJ6_bitCount_0f7a4_9 rfl hl (by decide) rfl (fun ls hl => ?_)
  refine lv_iload_n hx hb dJ6_bitCount_0f7a4_10 rfl (lv_at hl 0 rfl) ?_
  refine lv_ldcw (v := 858993459) hx hb hown (hts _ (List.mem_cons_of_mem _ mw_313)) dJ6_bitCount_0f7a4_11 ?_
  refine lv_iand hx hb dJ6_bitCount_0f7a4_14 ?_
  refine lv_iload_n hx hb dJ6_bitCount_0f7a4_15 rfl (lv_at hl 0 rfl) ?_
  refine lv_iconst (v := 2) hx hb dJ6_bitCount_0f7a4_16 (by decide) ?_
  refine lv_iushr (v := (jushr v0_1 2)) hx hb dJ6_bitCount_0f7a4_17 rfl ?_
  refine lv_ldcw (v := 858993459) hx hb hown (hts _ (List.mem_cons_of_mem _ mw_313)) dJ6_bitCount_0f7a4_18 ?_
  refine lv_iand hx hb dJ6_bitCount_0f7a4_21 ?_
  refine lv_iadd hx hb dJ6_bitCount_0f7a4_22 ?_
  refine lv_topi (fun v0_2 ev0_2 => ?_)
  have hF := jl hF ev0_2
  refine lv_istore_n (lv' := [(0, .int v0_2)]) hx hb dJ6_bitCount_0f7a4_23 rfl hl (by decide) rfl (fun ls hl => ?_)
  refine lv_iload_n hx hb dJ6_bitCount_0f7a4_24 rfl (lv_at hl 0 rfl) ?_
  refine lv_iload_n hx hb dJ6_bitCount_0f7a4_25 rfl (lv_at hl 0 rfl) ?_
  refine lv_iconst (v := 4) hx hb dJ6_bitCount_0f7a4_26 (by decide) ?_
  refine lv_iushr (v := (jushr v0_2 4)) hx hb dJ6_bitCount_0f7a4_27 rfl ?_
  refine lv_iadd hx hb dJ6_bitCount_0f7a4_28 ?_
  refine lv_ldcw (v := 252645135) hx hb hown (hts _ (List.mem_cons_of_mem _ mw_314)) dJ6_bitCount_0f7a4_29 ?_
  refine lv_iand hx hb dJ6_bitCount_0f7a4_32 ?_
  refine lv_topi (fun v0_3 ev0_3 => ?_)
  have hF := jl hF ev0_3
  refine lv_istore_n (lv' := [(0, .int v0_3)]) hx hb dJ6_bitCount_0f7a4_33 rfl hl (by decide) rfl (fun ls hl => ?_)
  refine lv_iload_n hx hb dJ6_bitCount_0f7a4_34 rfl (lv_at hl 0 rfl) ?_
  refine lv_iload_n hx hb dJ6_bitCount_0f7a4_35 rfl (lv_at hl 0 rfl) ?_
  refine lv_bipush (v := 8) hx hb dJ6_bitCount_0f7a4_36 (by decide) ?_
  refine lv_iushr (v := (jushr v0_3 8)) hx hb dJ6_bitCount_0f7a4_38 rfl ?_
  refine lv_iadd hx hb dJ6_bitCount_0f7a4_39 ?_
  refine lv_topi (fun v0_4 ev0_4 => ?_)
  have hF := jl hF ev0_4
  refine lv_istore_n (lv' := [(0, .int v0_4)]) hx hb dJ6_bitCount_0f7a4_40 rfl hl (by decide) rfl (fun ls hl => ?_)
  refine lv_iload_n hx hb dJ6_bitCount_0f7a4_41 rfl (lv_at hl 0 rfl) ?_
  refine lv_iload_n hx hb dJ6_bitCount_0f7a4_42 rfl (lv_at hl 0 rfl) ?_
  refine lv_bipush (v := 16) hx hb dJ6_bitCount_0f7a4_43 (by decide) ?_
  refine lv_iushr (v := (jushr v0_4 16)) hx hb dJ6_bitCount_0f7a4_45 rfl ?_
  refine lv_iadd hx hb dJ6_bitCount_0f7a4_46 ?_
  refine lv_topi (fun v0_5 ev0_5 => ?_)
  have hF := jl hF ev0_5
  refine lv_istore_n (lv' := [(0, .int v0_5)]) hx hb dJ6_bitCount_0f7a4_47 rfl hl (by decide) rfl (fun ls hl => ?_)
  refine lv_iload_n hx hb dJ6_bitCount_0f7a4_48 rfl (lv_at hl 0 rfl) ?_
  refine lv_bipush (v := 63) hx hb dJ6_bitCount_0f7a4_49 (by decide) ?_
  refine lv_iand hx hb dJ6_bitCount_0f7a4_51 ?_
  subst hF
  exact hm_iret hx hb hr hlk hP hD hS hpost dJ6_bitCount_0f7a4_52
def f_X5_wonBy (sd : Int32) : Int32 :=
  (sd + 1)
abbrev rm_X5_wonBy : Room := { frames := 0, cells := 0, slots := 0, locals := 0 }
set_option maxHeartbeats 4000000 in
set_option maxRecDepth 100000 in
theorem k_X5_wonBy (G : gT) (l : Launch) (sd : Int32) (r : Int32) (hF : f_X5_wonBy sd = r) : HM G l yX5_wonBy (.code yX5_wonBy cX5_wonBy 1 (some .int) :: UW) rm_X5_wonBy 0 0 [.int sd] [] (some (.int r)) [] := by
  refine HM.ofW (by decide) (Nat.le_of_ble_eq_true rfl) ?_
  intro p e s m args below meth c A post hpost hC hP hD hS ls hl
  obtain ⟨hx, hb, hr, hml, hown, hts, hlk, hE, hA⟩ := hC
  have hl : lv_has ls 1 [(0, .int sd)] := hl
  unfold f_X5_wonBy at hF
  refine lv_iload_n hx hb dX5_wonBy_0 rfl (lv_at hl 0 rfl) ?_
  refine lv_iconst (v := 1) hx hb dX5_wonBy_1 (by decide) ?_
  refine lv_iadd hx hb dX5_wonBy_2 ?_
  subst hF
  exact hm_iret hx hb hr hlk hP hD hS hpost dX5_wonBy_3
def f_X6_atEnd (en : Int32) (tn : Int32) : Int32 :=
  if en = 3 then 128 else if en = (f_X5_wonBy tn) then 512 else 1
abbrev rm_X6_atEnd : Room := { frames := 1, cells := 0, slots := 0, locals := 20 }
set_option maxHeartbeats 4000000 in
set_option maxRecDepth 100000 in
theorem k_X6_atEnd (G : gT) (l : Launch) (en : Int32) (tn : Int32) (r : Int32) (hF : f_X6_atEnd en tn = r) : HM G l yX6_atEnd (.code yX6_atEnd cX6_atEnd 2 (some .int) :: UW) rm_X6_atEnd 0 0 [.int en, .int tn] [] (some (.int r)) [] := by
  refine HM.ofW (by decide) (Nat.le_of_ble_eq_true rfl) ?_
  intro p e s m args below meth c A post hpost hC hP hD hS ls hl
  obtain ⟨hx, hb, hr, hml, hown, hts, hlk, hE, hA⟩ := hC
  have hl : lv_has ls 2 [(0, .int en), (1, .int tn)] := hl
  unfold f_X6_atEnd at hF
  refine lv_iload_n hx hb dX6_atEnd_0 rfl (lv_at hl 0 rfl) ?_
  refine lv_iconst (v := 3) hx hb dX6_atEnd_1 (by decide) ?_
  refine lv_icmp_ne (tgt := 9) hx hb dX6_atEnd_2 (by decide) (fun c_1 => ?_) (fun c_1 => ?_)
  · have hF := ifn hF c_1
    refine lv_iload_n hx hb dX6_atEnd_9 rfl (lv_at hl 0 rfl) ?_
    refine lv_iload_n hx hb dX6_atEnd_10 rfl (lv_at hl 1 rfl) ?_
    refine hm_S (wn := []) (wr := []) (rest := [.int en]) (sn := [.int (f_X5_wonBy tn), .int en]) hx hb hml hown hts hE hA (k_X5_wonBy G l tn _ rfl) sm_X5_wonBy mw_557 ⟨rfl, rfl, Nat.le_of_ble_eq_true rfl, Nat.le_of_ble_eq_true rfl⟩ hP hD hS [] [] [] rfl rfl rfl (by decide) hl.1 rfl rfl (Nat.le_of_ble_eq_true rfl) dX6_atEnd_11 ⟨Nat.le_of_ble_eq_true rfl, Nat.le_of_ble_eq_true rfl⟩ (fun H locs hP hD hS => ?_)
    refine lv_icmp_ne (tgt := 23) hx hb dX6_atEnd_14 (by decide) (fun c_2 => ?_) (fun c_2 => ?_)
    · have hF := ifn hF c_2
      refine lv_iconst (v := 1) hx hb dX6_atEnd_23 (by decide) ?_
      subst hF
      exact hm_iret hx hb hr hlk hP hD hS hpost dX6_atEnd_24
    · have hF := ifp hF c_2
      refine lv_sipush (v := 512) hx hb dX6_atEnd_17 (by decide) ?_
      refine lv_goto (tgt := 24) hx hb dX6_atEnd_20 (by decide) ?_
      subst hF
      exact hm_iret hx hb hr hlk hP hD hS hpost dX6_atEnd_24
  · have hF := ifp hF c_1
    refine lv_sipush (v := 128) hx hb dX6_atEnd_5 (by decide) ?_
    subst hF
    exact hm_iret hx hb hr hlk hP hD hS hpost dX6_atEnd_8
def f_X6_before (sc : Int32) : Int32 :=
  if 128 ≤ sc then if 256 ≤ sc then ((513 - sc) + 1) else (sc + 1) else (512 - ((sc - 1) + 1))
abbrev rm_X6_before : Room := { frames := 0, cells := 0, slots := 0, locals := 0 }
set_option maxHeartbeats 4000000 in
set_option maxRecDepth 100000 in
theorem k_X6_before (G : gT) (l : Launch) (sc : Int32) (r : Int32) (hF : f_X6_before sc = r) : HM G l yX6_before (.code yX6_before cX6_before 1 (some .int) :: UW) rm_X6_before 0 0 [.int sc] [] (some (.int r)) [] := by
  refine HM.ofW (by decide) (Nat.le_of_ble_eq_true rfl) ?_
  intro p e s m args below meth c A post hpost hC hP hD hS ls hl
  obtain ⟨hx, hb, hr, hml, hown, hts, hlk, hE, hA⟩ := hC
  have hl : lv_has ls 1 [(0, .int sc)] := hl
  unfold f_X6_before at hF
  refine lv_iload_n hx hb dX6_before_0 rfl (lv_at hl 0 rfl) ?_
  refine lv_sipush (v := 128) hx hb dX6_before_1 (by decide) ?_
  refine lv_icmp_ge (tgt := 17) hx hb dX6_before_4 (by decide) (fun c_1 => ?_) (fun c_1 => ?_)
  · have hF := ifp hF c_1
    refine lv_iload_n hx hb dX6_before_17 rfl (lv_at hl 0 rfl) ?_
    refine lv_sipush (v := 256) hx hb dX6_before_18 (by decide) ?_
    refine lv_icmp_ge (tgt := 30) hx hb dX6_before_21 (by decide) (fun c_2 => ?_) (fun c_2 => ?_)
    · have hF := ifp hF c_2
      refine lv_sipush (v := 513) hx hb dX6_before_30 (by decide) ?_
      refine lv_iload_n hx hb dX6_before_33 rfl (lv_at hl 0 rfl) ?_
      refine lv_isub hx hb dX6_before_34 ?_
      refine lv_iconst (v := 1) hx hb dX6_before_35 (by decide) ?_
      refine lv_iadd hx hb dX6_before_36 ?_
      subst hF
      exact hm_iret hx hb hr hlk hP hD hS hpost dX6_before_37
    · have hF := ifn hF c_2
      refine lv_iload_n hx hb dX6_before_24 rfl (lv_at hl 0 rfl) ?_
      refine lv_iconst (v := 1) hx hb dX6_before_25 (by decide) ?_
      refine lv_iadd hx hb dX6_before_26 ?_
      refine lv_goto (tgt := 37) hx hb dX6_before_27 (by decide) ?_
      subst hF
      exact hm_iret hx hb hr hlk hP hD hS hpost dX6_before_37
  · have hF := ifn hF c_1
    refine lv_sipush (v := 512) hx hb dX6_before_7 (by decide) ?_
    refine lv_iload_n hx hb dX6_before_10 rfl (lv_at hl 0 rfl) ?_
    refine lv_iconst (v := 1) hx hb dX6_before_11 (by decide) ?_
    refine lv_isub hx hb dX6_before_12 ?_
    refine lv_iconst (v := 1) hx hb dX6_before_13 (by decide) ?_
    refine lv_iadd hx hb dX6_before_14 ?_
    refine lv_isub hx hb dX6_before_15 ?_
    subst hF
    exact hm_iret hx hb hr hlk hP hD hS hpost dX6_before_16
def f_X6_bringing (sc : Int32) : Int32 :=
  if 128 ≤ sc then if 256 ≤ sc then 1 else 0 else 2
abbrev rm_X6_bringing : Room := { frames := 0, cells := 0, slots := 0, locals := 0 }
set_option maxHeartbeats 4000000 in
set_option maxRecDepth 100000 in
theorem k_X6_bringing (G : gT) (l : Launch) (sc : Int32) (r : Int32) (hF : f_X6_bringing sc = r) : HM G l yX6_bringing (.code yX6_bringing cX6_bringing 1 (some .int) :: UW) rm_X6_bringing 0 0 [.int sc] [] (some (.int r)) [] := by
  refine HM.ofW (by decide) (Nat.le_of_ble_eq_true rfl) ?_
  intro p e s m args below meth c A post hpost hC hP hD hS ls hl
  obtain ⟨hx, hb, hr, hml, hown, hts, hlk, hE, hA⟩ := hC
  have hl : lv_has ls 1 [(0, .int sc)] := hl
  unfold f_X6_bringing at hF
  refine lv_iload_n hx hb dX6_bringing_0 rfl (lv_at hl 0 rfl) ?_
  refine lv_sipush (v := 128) hx hb dX6_bringing_1 (by decide) ?_
  refine lv_icmp_ge (tgt := 9) hx hb dX6_bringing_4 (by decide) (fun c_1 => ?_) (fun c_1 => ?_)
  · have hF := ifp hF c_1
    refine lv_iload_n hx hb dX6_bringing_9 rfl (lv_at hl 0 rfl) ?_
    refine lv_sipush (v := 256) hx hb dX6_bringing_10 (by decide) ?_
    refine lv_icmp_ge (tgt := 20) hx hb dX6_bringing_13 (by decide) (fun c_2 => ?_) (fun c_2 => ?_)
    · have hF := ifp hF c_2
      refine lv_iconst (v := 1) hx hb dX6_bringing_20 (by decide) ?_
      subst hF
      exact hm_iret hx hb hr hlk hP hD hS hpost dX6_bringing_21
    · have hF := ifn hF c_2
      refine lv_iconst (v := 0) hx hb dX6_bringing_16 (by decide) ?_
      refine lv_goto (tgt := 21) hx hb dX6_bringing_17 (by decide) ?_
      subst hF
      exact hm_iret hx hb hr hlk hP hD hS hpost dX6_bringing_21
  · have hF := ifn hF c_1
    refine lv_iconst (v := 2) hx hb dX6_bringing_7 (by decide) ?_
    subst hF
    exact hm_iret hx hb hr hlk hP hD hS hpost dX6_bringing_8
def f_X6_length (sc : Int32) : Int32 :=
  if 128 ≤ sc then if 256 ≤ sc then (512 - sc) else (sc - 128) else (sc - 1)
abbrev rm_X6_length : Room := { frames := 0, cells := 0, slots := 0, locals := 0 }
set_option maxHeartbeats 4000000 in
set_option maxRecDepth 100000 in
theorem k_X6_length (G : gT) (l : Launch) (sc : Int32) (r : Int32) (hF : f_X6_length sc = r) : HM G l yX6_length (.code yX6_length cX6_length 1 (some .int) :: UW) rm_X6_length 0 0 [.int sc] [] (some (.int r)) [] := by
  refine HM.ofW (by decide) (Nat.le_of_ble_eq_true rfl) ?_
  intro p e s m args below meth c A post hpost hC hP hD hS ls hl
  obtain ⟨hx, hb, hr, hml, hown, hts, hlk, hE, hA⟩ := hC
  have hl : lv_has ls 1 [(0, .int sc)] := hl
  unfold f_X6_length at hF
  refine lv_iload_n hx hb dX6_length_0 rfl (lv_at hl 0 rfl) ?_
  refine lv_sipush (v := 128) hx hb dX6_length_1 (by decide) ?_
  refine lv_icmp_ge (tgt := 11) hx hb dX6_length_4 (by decide) (fun c_1 => ?_) (fun c_1 => ?_)
  · have hF := ifp hF c_1
    refine lv_iload_n hx hb dX6_length_11 rfl (lv_at hl 0 rfl) ?_
    refine lv_sipush (v := 256) hx hb dX6_length_12 (by decide) ?_
    refine lv_icmp_ge (tgt := 26) hx hb dX6_length_15 (by decide) (fun c_2 => ?_) (fun c_2 => ?_)
    · have hF := ifp hF c_2
      refine lv_sipush (v := 512) hx hb dX6_length_26 (by decide) ?_
      refine lv_iload_n hx hb dX6_length_29 rfl (lv_at hl 0 rfl) ?_
      refine lv_isub hx hb dX6_length_30 ?_
      subst hF
      exact hm_iret hx hb hr hlk hP hD hS hpost dX6_length_31
    · have hF := ifn hF c_2
      refine lv_iload_n hx hb dX6_length_18 rfl (lv_at hl 0 rfl) ?_
      refine lv_sipush (v := 128) hx hb dX6_length_19 (by decide) ?_
      refine lv_isub hx hb dX6_length_22 ?_
      refine lv_goto (tgt := 31) hx hb dX6_length_23 (by decide) ?_
      subst hF
      exact hm_iret hx hb hr hlk hP hD hS hpost dX6_length_31
  · have hF := ifn hF c_1
    refine lv_iload_n hx hb dX6_length_7 rfl (lv_at hl 0 rfl) ?_
    refine lv_iconst (v := 1) hx hb dX6_length_8 (by decide) ?_
    refine lv_isub hx hb dX6_length_9 ?_
    subst hF
    exact hm_iret hx hb hr hlk hP hD hS hpost dX6_length_10
def f_X8_manOn_L2 (st : Int64) (cl : Int32) : Nat → Int32 → Option Int32
  | 0, _ => none
  | n+1, x3_1 =>
  if 6 ≤ x3_1 then some (-6) else if (f_X8_cellOf st x3_1) = cl then some x3_1 else jlet (x3_1 + 1) (fun v3_4 => (f_X8_manOn_L2 st cl n) v3_4)
def f_X8_manOn (st : Int64) (cl : Int32) : Option Int32 :=
  f_X8_manOn_L2 st cl 7 0
abbrev rm_X8_manOn : Room := { frames := 1, cells := 0, slots := 0, locals := 22 }
set_option maxHeartbeats 4000000 in
set_option maxRecDepth 100000 in
theorem k_X8_manOn (G : gT) (l : Launch) (st : Int64) (cl : Int32) (r : Int32) (hF : f_X8_manOn st cl = some r) : HM G l yX8_manOn (.code yX8_manOn cX8_manOn 4 (some .int) :: UW) rm_X8_manOn 0 0 [.long st, .int cl] [] (some (.int r)) [] := by
  refine HM.ofW (by decide) (Nat.le_of_ble_eq_true rfl) ?_
  intro p e s m args below meth c A post hpost hC hP hD hS ls hl
  obtain ⟨hx, hb, hr, hml, hown, hts, hlk, hE, hA⟩ := hC
  have hl : lv_has ls 4 [(0, .long st), (2, .int cl)] := hl
  unfold f_X8_manOn at hF
  refine lv_iconst (v := 0) hx hb dX8_manOn_0 (by decide) ?_
  refine lv_istore_n (lv' := [(3, .int 0), (0, .long st), (2, .int cl)]) hx hb dX8_manOn_1 rfl hl (by decide) rfl (fun ls hl => ?_)
  have hL2 : ∀ (n2 : Nat) (x3_1 : Int32) (H : Heap) (locs : List Loc) (ls : Array Slot), f_X8_manOn_L2 st cl n2 x3_1 = some r → va_P (gD G) vwCl [] H → va_D A [] → va_S A s.heap H locs → lv_has ls 4 [(0, .long st), (2, .int cl), (3, .int x3_1)] → W p l e rm_X8_manOn s m args below meth c H locs 0 0 (MQ below (HXq G post A) args s 0 0 A) (F0 m 2 ls []) := by
    intro n2
    induction n2 with
    | zero =>
      intro x3_1 H locs ls hF
      exact absurd hF (fun h => by cases h)
    | succ n2 ih2 =>
      intro x3_1 H locs ls hF hP hD hS hl
      unfold f_X8_manOn_L2 at hF
      refine lv_iload_n hx hb dX8_manOn_2 rfl (lv_at hl 2 rfl) ?_
      refine lv_bipush (v := 6) hx hb dX8_manOn_3 (by decide) ?_
      refine lv_icmp_ge (tgt := 25) hx hb dX8_manOn_5 (by decide) (fun c_2 => ?_) (fun c_2 => ?_)
      · have hF := ifp hF c_2
        refine lv_bipush (v := (-6)) hx hb dX8_manOn_25 (by decide) ?_
        have hF := Option.some.inj hF
        subst hF
        exact hm_iret hx hb hr hlk hP hD hS hpost dX8_manOn_27
      · have hF := ifn hF c_2
        refine lv_lload_n hx hb dX8_manOn_8 rfl (lv_at hl 0 rfl) ?_
        refine lv_iload_n hx hb dX8_manOn_9 rfl (lv_at hl 2 rfl) ?_
        refine hm_S (wn := []) (wr := []) (rest := []) (sn := [.int (f_X8_cellOf st x3_1)]) hx hb hml hown hts hE hA (k_X8_cellOf G l st x3_1 _ rfl) sm_X8_cellOf mw_306 ⟨rfl, rfl, Nat.le_of_ble_eq_true rfl, Nat.le_of_ble_eq_true rfl⟩ hP hD hS [] [] [] rfl rfl rfl (by decide) hl.1 rfl rfl (Nat.le_of_ble_eq_true rfl) dX8_manOn_10 ⟨Nat.le_of_ble_eq_true rfl, Nat.le_of_ble_eq_true rfl⟩ (fun H locs hP hD hS => ?_)
        refine lv_iload_n hx hb dX8_manOn_13 rfl (lv_at hl 1 rfl) ?_
        refine lv_icmp_ne (tgt := 19) hx hb dX8_manOn_14 (by decide) (fun c_3 => ?_) (fun c_3 => ?_)
        · have hF := ifn hF c_3
          obtain ⟨v3_4, ev3_4⟩ : ∃ z : Int32, z = x3_1 + 1 := ⟨_, rfl⟩
          have hF := jl hF ev3_4
          refine lv_iinc (v := v3_4) (lv' := [(3, .int v3_4), (0, .long st), (2, .int cl)]) hx hb dX8_manOn_19 hl (k := 2) rfl (by rw [ev3_4]; rfl) (by decide) rfl (fun ls hl => ?_)
          refine lv_goto (tgt := 2) hx hb dX8_manOn_22 (by decide) ?_
          exact ih2 v3_4 _ _ _ hF hP hD hS (lv_sub hl [1, 2, 0] rfl)
        · have hF := ifp hF c_3
          refine lv_iload_n hx hb dX8_manOn_17 rfl (lv_at hl 2 rfl) ?_
          have hF := Option.some.inj hF
          subst hF
          exact hm_iret hx hb hr hlk hP hD hS hpost dX8_manOn_18
  exact hL2 _ 0 _ _ _ hF hP hD hS (lv_sub hl [1, 2, 0] rfl)
def f_X8_cellsOf_B37 (k_5 : Int32 → Int32 → Option Int32) (x4_2 : Int32) (x3_5 : Int32) : Option Int32 :=
  jlet (x4_2 + 1) (fun v4_6 => k_5 x3_5 v4_6)
def f_X8_cellsOf_L5 (st : Int64) (sd : Int32) : Nat → Int32 → Int32 → Option Int32
  | 0, _, _ => none
  | n+1, x3_1, x4_2 =>
  if 3 ≤ x4_2 then some x3_1 else jlet (f_X8_cellOf st ((3 * sd) + x4_2)) (fun v5_4 => if v5_4 = 31 then f_X8_cellsOf_B37 (f_X8_cellsOf_L5 st sd n) x4_2 x3_1 else jlet (x3_1 ||| (jshl 1 v5_4)) (fun v3_8 => f_X8_cellsOf_B37 (f_X8_cellsOf_L5 st sd n) x4_2 v3_8))
def f_X8_cellsOf (st : Int64) (sd : Int32) : Option Int32 :=
  f_X8_cellsOf_L5 st sd 100 0 0
abbrev rm_X8_cellsOf : Room := { frames := 1, cells := 0, slots := 0, locals := 22 }
set_option maxHeartbeats 4000000 in
set_option maxRecDepth 100000 in
theorem k_X8_cellsOf (G : gT) (l : Launch) (st : Int64) (sd : Int32) (r : Int32) (hF : f_X8_cellsOf st sd = some r) : HM G l yX8_cellsOf (.code yX8_cellsOf cX8_cellsOf 6 (some .int) :: UW) rm_X8_cellsOf 0 0 [.long st, .int sd] [] (some (.int r)) [] := by
  refine HM.ofW (by decide) (Nat.le_of_ble_eq_true rfl) ?_
  intro p e s m args below meth c A post hpost hC hP hD hS ls hl
  obtain ⟨hx, hb, hr, hml, hown, hts, hlk, hE, hA⟩ := hC
  have hl : lv_has ls 6 [(0, .long st), (2, .int sd)] := hl
  unfold f_X8_cellsOf at hF
  refine lv_iconst (v := 0) hx hb dX8_cellsOf_0 (by decide) ?_
  refine lv_istore_n (lv' := [(3, .int 0), (0, .long st), (2, .int sd)]) hx hb dX8_cellsOf_1 rfl hl (by decide) rfl (fun ls hl => ?_)
  refine lv_iconst (v := 0) hx hb dX8_cellsOf_2 (by decide) ?_
  refine lv_istore (lv' := [(4, .int 0), (3, .int 0), (0, .long st), (2, .int sd)]) hx hb dX8_cellsOf_3 hl (by decide) rfl (fun ls hl => ?_)
  have hL5 : ∀ (n5 : Nat) (x3_1 : Int32) (x4_2 : Int32) (H : Heap) (locs : List Loc) (ls : Array Slot), f_X8_cellsOf_L5 st sd n5 x3_1 x4_2 = some r → va_P (gD G) vwCl [] H → va_D A [] → va_S A s.heap H locs → lv_has ls 6 [(0, .long st), (2, .int sd), (3, .int x3_1), (4, .int x4_2)] → W p l e rm_X8_cellsOf s m args below meth c H locs 0 0 (MQ below (HXq G post A) args s 0 0 A) (F0 m 5 ls []) := by
    intro n5
    induction n5 with
    | zero =>
      intro x3_1 x4_2 H locs ls hF
      exact absurd hF (fun h => by cases h)
    | succ n5 ih5 =>
      intro x3_1 x4_2 H locs ls hF hP hD hS hl
      unfold f_X8_cellsOf_L5 at hF
      refine lv_iload hx hb dX8_cellsOf_5 (lv_at hl 3 rfl) ?_
      refine lv_iconst (v := 3) hx hb dX8_cellsOf_7 (by decide) ?_
      refine lv_icmp_ge (tgt := 43) hx hb dX8_cellsOf_8 (by decide) (fun c_3 => ?_) (fun c_3 => ?_)
      · have hF := ifp hF c_3
        refine lv_iload_n hx hb dX8_cellsOf_43 rfl (lv_at hl 2 rfl) ?_
        have hF := Option.some.inj hF
        subst hF
        exact hm_iret hx hb hr hlk hP hD hS hpost dX8_cellsOf_44
      · have hF := ifn hF c_3
        refine lv_lload_n hx hb dX8_cellsOf_11 rfl (lv_at hl 0 rfl) ?_
        refine lv_iconst (v := 3) hx hb dX8_cellsOf_12 (by decide) ?_
        refine lv_iload_n hx hb dX8_cellsOf_13 rfl (lv_at hl 1 rfl) ?_
        refine lv_imul hx hb dX8_cellsOf_14 ?_
        refine lv_iload hx hb dX8_cellsOf_15 (lv_at hl 3 rfl) ?_
        refine lv_iadd hx hb dX8_cellsOf_17 ?_
        refine hm_S (wn := []) (wr := []) (rest := []) (sn := [.int (f_X8_cellOf st ((3 * sd) + x4_2))]) hx hb hml hown hts hE hA (k_X8_cellOf G l st ((3 * sd) + x4_2) _ rfl) sm_X8_cellOf mw_306 ⟨rfl, rfl, Nat.le_of_ble_eq_true rfl, Nat.le_of_ble_eq_true rfl⟩ hP hD hS [] [] [] rfl rfl rfl (by decide) hl.1 rfl rfl (Nat.le_of_ble_eq_true rfl) dX8_cellsOf_18 ⟨Nat.le_of_ble_eq_true rfl, Nat.le_of_ble_eq_true rfl⟩ (fun H locs hP hD hS => ?_)
        refine lv_topi (fun v5_4 ev5_4 => ?_)
        have hF := jl hF ev5_4
        refine lv_istore (lv' := [(5, .int v5_4), (0, .long st), (2, .int sd), (3, .int x3_1), (4, .int x4_2)]) hx hb dX8_cellsOf_21 hl (by decide) rfl (fun ls hl => ?_)
        refine lv_iload hx hb dX8_cellsOf_23 (lv_at hl 0 rfl) ?_
        refine lv_bipush (v := 31) hx hb dX8_cellsOf_25 (by decide) ?_
        have hB37 : ∀ (x3_5 : Int32) (H : Heap) (locs : List Loc) (ls : Array Slot), f_X8_cellsOf_B37 (f_X8_cellsOf_L5 st sd n5) x4_2 x3_5 = some r → va_P (gD G) vwCl [] H → va_D A [] → va_S A s.heap H locs → lv_has ls 6 [(0, .long st), (2, .int sd), (3, .int x3_5), (4, .int x4_2)] → W p l e rm_X8_cellsOf s m args below meth c H locs 0 0 (MQ below (HXq G post A) args s 0 0 A) (F0 m 37 ls []) := by
          intro x3_5 H locs ls hF hP hD hS hl
          unfold f_X8_cellsOf_B37 at hF
          obtain ⟨v4_6, ev4_6⟩ : ∃ z : Int32, z = x4_2 + 1 := ⟨_, rfl⟩
          have hF := jl hF ev4_6
          refine lv_iinc (v := v4_6) (lv' := [(4, .int v4_6), (0, .long st), (2, .int sd), (3, .int x3_5)]) hx hb dX8_cellsOf_37 hl (k := 3) rfl (by rw [ev4_6]; rfl) (by decide) rfl (fun ls hl => ?_)
          refine lv_goto (tgt := 5) hx hb dX8_cellsOf_40 (by decide) ?_
          exact ih5 x3_5 v4_6 _ _ _ hF hP hD hS (lv_sub hl [1, 2, 3, 0] rfl)
        refine lv_icmp_eq (tgt := 37) hx hb dX8_cellsOf_27 (by decide) (fun c_7 => ?_) (fun c_7 => ?_)
        · have hF := ifp hF c_7
          exact hB37 x3_1 _ _ _ hF hP hD hS (lv_sub hl [1, 2, 3, 4] rfl)
        · have hF := ifn hF c_7
          refine lv_iload_n hx hb dX8_cellsOf_30 rfl (lv_at hl 3 rfl) ?_
          refine lv_iconst (v := 1) hx hb dX8_cellsOf_31 (by decide) ?_
          refine lv_iload hx hb dX8_cellsOf_32 (lv_at hl 0 rfl) ?_
          refine lv_ishl hx hb dX8_cellsOf_34 ?_
          refine lv_ior hx hb dX8_cellsOf_35 ?_
          refine lv_topi (fun v3_8 ev3_8 => ?_)
          have hF := jl hF ev3_8
          refine lv_istore_n (lv' := [(3, .int v3_8), (5, .int v5_4), (0, .long st), (2, .int sd), (4, .int x4_2)]) hx hb dX8_cellsOf_36 rfl hl (by decide) rfl (fun ls hl => ?_)
          exact hB37 v3_8 _ _ _ hF hP hD hS (lv_sub hl [2, 3, 0, 4] rfl)
  exact hL5 _ 0 0 _ _ _ hF hP hD hS (lv_sub hl [2, 3, 1, 0] rfl)
def f_X8_countMen (st : Int64) : Option Int32 :=
  Option.bind (f_X8_cellsOf st 0) (fun r2_1 => Option.bind (f_X8_cellsOf st 1) (fun r10_2 => some ((f_J6_bitCount_0f7a4 r2_1) + (f_J6_bitCount_0f7a4 r10_2))))
abbrev rm_X8_countMen : Room := { frames := 2, cells := 0, slots := 0, locals := 47 }
set_option maxHeartbeats 4000000 in
set_option maxRecDepth 100000 in
theorem k_X8_countMen (G : gT) (l : Launch) (st : Int64) (r : Int32) (hF : f_X8_countMen st = some r) : HM G l yX8_countMen (.code yX8_countMen cX8_countMen 2 (some .int) :: UW) rm_X8_countMen 0 0 [.long st] [] (some (.int r)) [] := by
  refine HM.ofW (by decide) (Nat.le_of_ble_eq_true rfl) ?_
  intro p e s m args below meth c A post hpost hC hP hD hS ls hl
  obtain ⟨hx, hb, hr, hml, hown, hts, hlk, hE, hA⟩ := hC
  have hl : lv_has ls 2 [(0, .long st)] := hl
  unfold f_X8_countMen at hF
  refine lv_lload_n hx hb dX8_countMen_0 rfl (lv_at hl 0 rfl) ?_
  refine lv_iconst (v := 0) hx hb dX8_countMen_1 (by decide) ?_
  obtain ⟨r2_1, hr2_1, hF⟩ := bnd hF
  refine hm_S (wn := []) (wr := []) (rest := []) (sn := [.int r2_1]) hx hb hml hown hts hE hA (k_X8_cellsOf G l st 0 r2_1 hr2_1) sm_X8_cellsOf mw_303 ⟨rfl, rfl, Nat.le_of_ble_eq_true rfl, Nat.le_of_ble_eq_true rfl⟩ hP hD hS [] [] [] rfl rfl rfl (by decide) hl.1 rfl rfl (Nat.le_of_ble_eq_true rfl) dX8_countMen_2 ⟨Nat.le_of_ble_eq_true rfl, Nat.le_of_ble_eq_true rfl⟩ (fun H locs hP hD hS => ?_)
  refine hm_S (wn := []) (wr := []) (rest := []) (sn := [.int (f_J6_bitCount_0f7a4 r2_1)]) hx hb hml hown hts hE hA (k_J6_bitCount_0f7a4 G l r2_1 _ rfl) sm_J6_bitCount_0f7a4 mw_309 ⟨rfl, rfl, Nat.le_of_ble_eq_true rfl, Nat.le_of_ble_eq_true rfl⟩ hP hD hS [] [] [] rfl rfl rfl (by decide) hl.1 rfl rfl (Nat.le_of_ble_eq_true rfl) dX8_countMen_5 ⟨Nat.le_of_ble_eq_true rfl, Nat.le_of_ble_eq_true rfl⟩ (fun H locs hP hD hS => ?_)
  refine lv_lload_n hx hb dX8_countMen_8 rfl (lv_at hl 0 rfl) ?_
  refine lv_iconst (v := 1) hx hb dX8_countMen_9 (by decide) ?_
  obtain ⟨r10_2, hr10_2, hF⟩ := bnd hF
  refine hm_S (wn := []) (wr := []) (rest := [.int (f_J6_bitCount_0f7a4 r2_1)]) (sn := [.int r10_2, .int (f_J6_bitCount_0f7a4 r2_1)]) hx hb hml hown hts hE hA (k_X8_cellsOf G l st 1 r10_2 hr10_2) sm_X8_cellsOf mw_303 ⟨rfl, rfl, Nat.le_of_ble_eq_true rfl, Nat.le_of_ble_eq_true rfl⟩ hP hD hS [] [] [] rfl rfl rfl (by decide) hl.1 rfl rfl (Nat.le_of_ble_eq_true rfl) dX8_countMen_10 ⟨Nat.le_of_ble_eq_true rfl, Nat.le_of_ble_eq_true rfl⟩ (fun H locs hP hD hS => ?_)
  refine hm_S (wn := []) (wr := []) (rest := [.int (f_J6_bitCount_0f7a4 r2_1)]) (sn := [.int (f_J6_bitCount_0f7a4 r10_2), .int (f_J6_bitCount_0f7a4 r2_1)]) hx hb hml hown hts hE hA (k_J6_bitCount_0f7a4 G l r10_2 _ rfl) sm_J6_bitCount_0f7a4 mw_309 ⟨rfl, rfl, Nat.le_of_ble_eq_true rfl, Nat.le_of_ble_eq_true rfl⟩ hP hD hS [] [] [] rfl rfl rfl (by decide) hl.1 rfl rfl (Nat.le_of_ble_eq_true rfl) dX8_countMen_13 ⟨Nat.le_of_ble_eq_true rfl, Nat.le_of_ble_eq_true rfl⟩ (fun H locs hP hD hS => ?_)
  refine lv_iadd hx hb dX8_countMen_16 ?_
  have hF := Option.some.inj hF
  subst hF
  exact hm_iret hx hb hr hlk hP hD hS hpost dX8_countMen_17
def f_X8_asTold (st : Int64) (mv : Int32) : Int32 :=
  ((100 * (f_X8_cellOf st (jshr mv 5))) + (mv &&& 31))
abbrev rm_X8_asTold : Room := { frames := 1, cells := 0, slots := 0, locals := 22 }
set_option maxHeartbeats 4000000 in
set_option maxRecDepth 100000 in
theorem k_X8_asTold (G : gT) (l : Launch) (st : Int64) (mv : Int32) (r : Int32) (hF : f_X8_asTold st mv = r) : HM G l yX8_asTold (.code yX8_asTold cX8_asTold 3 (some .int) :: UW) rm_X8_asTold 0 0 [.long st, .int mv] [] (some (.int r)) [] := by
  refine HM.ofW (by decide) (Nat.le_of_ble_eq_true rfl) ?_
  intro p e s m args below meth c A post hpost hC hP hD hS ls hl
  obtain ⟨hx, hb, hr, hml, hown, hts, hlk, hE, hA⟩ := hC
  have hl : lv_has ls 3 [(0, .long st), (2, .int mv)] := hl
  unfold f_X8_asTold at hF
  refine lv_bipush (v := 100) hx hb dX8_asTold_0 (by decide) ?_
  refine lv_lload_n hx hb dX8_asTold_2 rfl (lv_at hl 0 rfl) ?_
  refine lv_iload_n hx hb dX8_asTold_3 rfl (lv_at hl 1 rfl) ?_
  refine lv_iconst (v := 5) hx hb dX8_asTold_4 (by decide) ?_
  refine lv_ishr hx hb dX8_asTold_5 ?_
  refine hm_S (wn := []) (wr := []) (rest := [.int 100]) (sn := [.int (f_X8_cellOf st (jshr mv 5)), .int 100]) hx hb hml hown hts hE hA (k_X8_cellOf G l st (jshr mv 5) _ rfl) sm_X8_cellOf mw_306 ⟨rfl, rfl, Nat.le_of_ble_eq_true rfl, Nat.le_of_ble_eq_true rfl⟩ hP hD hS [] [] [] rfl rfl rfl (by decide) hl.1 rfl rfl (Nat.le_of_ble_eq_true rfl) dX8_asTold_6 ⟨Nat.le_of_ble_eq_true rfl, Nat.le_of_ble_eq_true rfl⟩ (fun H locs hP hD hS => ?_)
  refine lv_imul hx hb dX8_asTold_9 ?_
  refine lv_iload_n hx hb dX8_asTold_10 rfl (lv_at hl 1 rfl) ?_
  refine lv_bipush (v := 31) hx hb dX8_asTold_11 (by decide) ?_
  refine lv_iand hx hb dX8_asTold_13 ?_
  refine lv_iadd hx hb dX8_asTold_14 ?_
  subst hF
  exact hm_iret hx hb hr hlk hP hD hS hpost dX8_asTold_15
def f_X8_after_B95 (k_62 : Int64 → Int32 → Option Int64) (x9_8 : Int32) (x7_10 : Int64) : Option Int64 :=
  jlet (x9_8 + 1) (fun v9_11 => k_62 x7_10 v9_11)
def f_X8_after_L62 (v4_2 : Int32) (t0_4 : Int32) : Nat → Int64 → Int32 → Option Int64
  | 0, _, _ => none
  | n+1, x7_7, x9_8 =>
  if (t0_4 + 3) ≤ x9_8 then some x7_7 else if (f_X8_cellOf x7_7 x9_8) = v4_2 then jlet (f_X8_put x7_7 x9_8 31 0) (fun v7_13 => f_X8_after_B95 (f_X8_after_L62 v4_2 t0_4 n) x9_8 v7_13) else f_X8_after_B95 (f_X8_after_L62 v4_2 t0_4 n) x9_8 x7_7
def f_X8_after_B49 (st : Int64) (v3_1 : Int32) (v4_2 : Int32) (t0_4 : Int32) (t3_5 : Int32) : Option Int64 :=
  jlet ((f_X8_put st v3_1 v4_2 t3_5) ^^^ 18014398509481984) (fun v7_6 => f_X8_after_L62 v4_2 t0_4 100 v7_6 t0_4)
def f_X8_after_B27 (st : Int64) (v3_1 : Int32) (v4_2 : Int32) (v5_3 : Int32) (t0_4 : Int32) : Option Int64 :=
  if 9 ≤ v5_3 then f_X8_after_B49 st v3_1 v4_2 t0_4 9 else f_X8_after_B49 st v3_1 v4_2 t0_4 (v5_3 + 1)
def f_X8_after (st : Int64) (mv : Int32) : Option Int64 :=
  jlet (jshr mv 5) (fun v3_1 => jlet (mv &&& 31) (fun v4_2 => jlet (f_X8_ageOf st v3_1) (fun v5_3 => if 3 ≤ v3_1 then f_X8_after_B27 st v3_1 v4_2 v5_3 0 else f_X8_after_B27 st v3_1 v4_2 v5_3 3)))
abbrev rm_X8_after : Room := { frames := 1, cells := 0, slots := 0, locals := 25 }
set_option maxHeartbeats 4000000 in
set_option maxRecDepth 100000 in
theorem k_X8_after (G : gT) (l : Launch) (st : Int64) (mv : Int32) (r : Int64) (hF : f_X8_after st mv = some r) : HM G l yX8_after (.code yX8_after cX8_after 10 (some .long) :: UW) rm_X8_after 0 0 [.long st, .int mv] [] (some (.long r)) [] := by
  refine HM.ofW (by decide) (Nat.le_of_ble_eq_true rfl) ?_
  intro p e s m args below meth c A post hpost hC hP hD hS ls hl
  obtain ⟨hx, hb, hr, hml, hown, hts, hlk, hE, hA⟩ := hC
  have hl : lv_has ls 10 [(0, .long st), (2, .int mv)] := hl
  unfold f_X8_after at hF
  refine lv_iload_n hx hb dX8_after_0 rfl (lv_at hl 1 rfl) ?_
  refine lv_iconst (v := 5) hx hb dX8_after_1 (by decide) ?_
  refine lv_ishr hx hb dX8_after_2 ?_
  refine lv_topi (fun v3_1 ev3_1 => ?_)
  have hF := jl hF ev3_1
  refine lv_istore_n (lv' := [(3, .int v3_1), (0, .long st), (2, .int mv)]) hx hb dX8_after_3 rfl hl (by decide) rfl (fun ls hl => ?_)
  refine lv_iload_n hx hb dX8_after_4 rfl (lv_at hl 2 rfl) ?_
  refine lv_bipush (v := 31) hx hb dX8_after_5 (by decide) ?_
  refine lv_iand hx hb dX8_after_7 ?_
  refine lv_topi (fun v4_2 ev4_2 => ?_)
  have hF := jl hF ev4_2
  refine lv_istore (lv' := [(4, .int v4_2), (3, .int v3_1), (0, .long st), (2, .int mv)]) hx hb dX8_after_8 hl (by decide) rfl (fun ls hl => ?_)
  refine lv_lload_n hx hb dX8_after_10 rfl (lv_at hl 2 rfl) ?_
  refine lv_iload_n hx hb dX8_after_11 rfl (lv_at hl 1 rfl) ?_
  refine hm_S (wn := []) (wr := []) (rest := []) (sn := [.int (f_X8_ageOf st v3_1)]) hx hb hml hown hts hE hA (k_X8_ageOf G l st v3_1 _ rfl) sm_X8_ageOf mw_421 ⟨rfl, rfl, Nat.le_of_ble_eq_true rfl, Nat.le_of_ble_eq_true rfl⟩ hP hD hS [] [] [] rfl rfl rfl (by decide) hl.1 rfl rfl (Nat.le_of_ble_eq_true rfl) dX8_after_12 ⟨Nat.le_of_ble_eq_true rfl, Nat.le_of_ble_eq_true rfl⟩ (fun H locs hP hD hS => ?_)
  refine lv_topi (fun v5_3 ev5_3 => ?_)
  have hF := jl hF ev5_3
  refine lv_istore (lv' := [(5, .int v5_3), (4, .int v4_2), (3, .int v3_1), (0, .long st), (2, .int mv)]) hx hb dX8_after_15 hl (by decide) rfl (fun ls hl => ?_)
  refine lv_iload_n hx hb dX8_after_17 rfl (lv_at hl 2 rfl) ?_
  refine lv_iconst (v := 3) hx hb dX8_after_18 (by decide) ?_
  have hB27 : ∀ (t0_4 : Int32) (H : Heap) (locs : List Loc) (ls : Array Slot), f_X8_after_B27 st v3_1 v4_2 v5_3 t0_4 = some r → va_P (gD G) vwCl [] H → va_D A [] → va_S A s.heap H locs → lv_has ls 10 [(0, .long st), (3, .int v3_1), (4, .int v4_2), (5, .int v5_3)] → W p l e rm_X8_after s m args below meth c H locs 0 0 (MQ below (HXq G post A) args s 0 0 A) (F0 m 27 ls [.int t0_4]) := by
    intro t0_4 H locs ls hF hP hD hS hl
    unfold f_X8_after_B27 at hF
    refine lv_istore (lv' := [(6, .int t0_4), (0, .long st), (3, .int v3_1), (4, .int v4_2), (5, .int v5_3)]) hx hb dX8_after_27 hl (by decide) rfl (fun ls hl => ?_)
    refine lv_lload_n hx hb dX8_after_29 rfl (lv_at hl 1 rfl) ?_
    refine lv_iload_n hx hb dX8_after_30 rfl (lv_at hl 2 rfl) ?_
    refine lv_iload hx hb dX8_after_31 (lv_at hl 3 rfl) ?_
    refine lv_iload hx hb dX8_after_33 (lv_at hl 4 rfl) ?_
    refine lv_bipush (v := 9) hx hb dX8_after_35 (by decide) ?_
    have hB49 : ∀ (t3_5 : Int32) (H : Heap) (locs : List Loc) (ls : Array Slot), f_X8_after_B49 st v3_1 v4_2 t0_4 t3_5 = some r → va_P (gD G) vwCl [] H → va_D A [] → va_S A s.heap H locs → lv_has ls 10 [(4, .int v4_2), (6, .int t0_4)] → W p l e rm_X8_after s m args below meth c H locs 0 0 (MQ below (HXq G post A) args s 0 0 A) (F0 m 49 ls [.int t3_5, .int v4_2, .int v3_1, .long st]) := by
      intro t3_5 H locs ls hF hP hD hS hl
      unfold f_X8_after_B49 at hF
      refine hm_S (wn := []) (wr := []) (rest := []) (sn := [.long (f_X8_put st v3_1 v4_2 t3_5)]) hx hb hml hown hts hE hA (k_X8_put G l st v3_1 v4_2 t3_5 _ rfl) sm_X8_put mw_422 ⟨rfl, rfl, Nat.le_of_ble_eq_true rfl, Nat.le_of_ble_eq_true rfl⟩ hP hD hS [] [] [] rfl rfl rfl (by decide) hl.1 rfl rfl (Nat.le_of_ble_eq_true rfl) dX8_after_49 ⟨Nat.le_of_ble_eq_true rfl, Nat.le_of_ble_eq_true rfl⟩ (fun H locs hP hD hS => ?_)
      refine lv_ldc2 (v := 18014398509481984) hx hb hown (hts _ (List.mem_cons_of_mem _ mw_423)) dX8_after_52 ?_
      refine lv_lxor hx hb dX8_after_55 ?_
      refine lv_topl (fun v7_6 ev7_6 => ?_)
      have hF := jl hF ev7_6
      refine lv_lstore (lv' := [(7, .long v7_6), (4, .int v4_2), (6, .int t0_4)]) hx hb dX8_after_56 hl (by decide) rfl (fun ls hl => ?_)
      refine lv_iload hx hb dX8_after_58 (lv_at hl 2 rfl) ?_
      refine lv_istore (lv' := [(9, .int t0_4), (7, .long v7_6), (4, .int v4_2), (6, .int t0_4)]) hx hb dX8_after_60 hl (by decide) rfl (fun ls hl => ?_)
      have hL62 : ∀ (n62 : Nat) (x7_7 : Int64) (x9_8 : Int32) (H : Heap) (locs : List Loc) (ls : Array Slot), f_X8_after_L62 v4_2 t0_4 n62 x7_7 x9_8 = some r → va_P (gD G) vwCl [] H → va_D A [] → va_S A s.heap H locs → lv_has ls 10 [(4, .int v4_2), (6, .int t0_4), (7, .long x7_7), (9, .int x9_8)] → W p l e rm_X8_after s m args below meth c H locs 0 0 (MQ below (HXq G post A) args s 0 0 A) (F0 m 62 ls []) := by
        intro n62
        induction n62 with
        | zero =>
          intro x7_7 x9_8 H locs ls hF
          exact absurd hF (fun h => by cases h)
        | succ n62 ih62 =>
          intro x7_7 x9_8 H locs ls hF hP hD hS hl
          unfold f_X8_after_L62 at hF
          refine lv_iload hx hb dX8_after_62 (lv_at hl 3 rfl) ?_
          refine lv_iload hx hb dX8_after_64 (lv_at hl 1 rfl) ?_
          refine lv_iconst (v := 3) hx hb dX8_after_66 (by decide) ?_
          refine lv_iadd hx hb dX8_after_67 ?_
          refine lv_icmp_ge (tgt := 101) hx hb dX8_after_68 (by decide) (fun c_9 => ?_) (fun c_9 => ?_)
          · have hF := ifp hF c_9
            refine lv_lload hx hb dX8_after_101 (lv_at hl 2 rfl) ?_
            have hF := Option.some.inj hF
            subst hF
            exact hm_lret hx hb hr hlk hP hD hS hpost dX8_after_103
          · have hF := ifn hF c_9
            refine lv_lload hx hb dX8_after_71 (lv_at hl 2 rfl) ?_
            refine lv_iload hx hb dX8_after_73 (lv_at hl 3 rfl) ?_
            refine hm_S (wn := []) (wr := []) (rest := []) (sn := [.int (f_X8_cellOf x7_7 x9_8)]) hx hb hml hown hts hE hA (k_X8_cellOf G l x7_7 x9_8 _ rfl) sm_X8_cellOf mw_306 ⟨rfl, rfl, Nat.le_of_ble_eq_true rfl, Nat.le_of_ble_eq_true rfl⟩ hP hD hS [] [] [] rfl rfl rfl (by decide) hl.1 rfl rfl (Nat.le_of_ble_eq_true rfl) dX8_after_75 ⟨Nat.le_of_ble_eq_true rfl, Nat.le_of_ble_eq_true rfl⟩ (fun H locs hP hD hS => ?_)
            refine lv_iload hx hb dX8_after_78 (lv_at hl 0 rfl) ?_
            have hB95 : ∀ (x7_10 : Int64) (H : Heap) (locs : List Loc) (ls : Array Slot), f_X8_after_B95 (f_X8_after_L62 v4_2 t0_4 n62) x9_8 x7_10 = some r → va_P (gD G) vwCl [] H → va_D A [] → va_S A s.heap H locs → lv_has ls 10 [(4, .int v4_2), (6, .int t0_4), (7, .long x7_10), (9, .int x9_8)] → W p l e rm_X8_after s m args below meth c H locs 0 0 (MQ below (HXq G post A) args s 0 0 A) (F0 m 95 ls []) := by
              intro x7_10 H locs ls hF hP hD hS hl
              unfold f_X8_after_B95 at hF
              obtain ⟨v9_11, ev9_11⟩ : ∃ z : Int32, z = x9_8 + 1 := ⟨_, rfl⟩
              have hF := jl hF ev9_11
              refine lv_iinc (v := v9_11) (lv' := [(9, .int v9_11), (4, .int v4_2), (6, .int t0_4), (7, .long x7_10)]) hx hb dX8_after_95 hl (k := 3) rfl (by rw [ev9_11]; rfl) (by decide) rfl (fun ls hl => ?_)
              refine lv_goto (tgt := 62) hx hb dX8_after_98 (by decide) ?_
              exact ih62 x7_10 v9_11 _ _ _ hF hP hD hS (lv_sub hl [1, 2, 3, 0] rfl)
            refine lv_icmp_ne (tgt := 95) hx hb dX8_after_80 (by decide) (fun c_12 => ?_) (fun c_12 => ?_)
            · have hF := ifn hF c_12
              exact hB95 x7_7 _ _ _ hF hP hD hS (lv_sub hl [0, 1, 2, 3] rfl)
            · have hF := ifp hF c_12
              refine lv_lload hx hb dX8_after_83 (lv_at hl 2 rfl) ?_
              refine lv_iload hx hb dX8_after_85 (lv_at hl 3 rfl) ?_
              refine lv_bipush (v := 31) hx hb dX8_after_87 (by decide) ?_
              refine lv_iconst (v := 0) hx hb dX8_after_89 (by decide) ?_
              refine hm_S (wn := []) (wr := []) (rest := []) (sn := [.long (f_X8_put x7_7 x9_8 31 0)]) hx hb hml hown hts hE hA (k_X8_put G l x7_7 x9_8 31 0 _ rfl) sm_X8_put mw_422 ⟨rfl, rfl, Nat.le_of_ble_eq_true rfl, Nat.le_of_ble_eq_true rfl⟩ hP hD hS [] [] [] rfl rfl rfl (by decide) hl.1 rfl rfl (Nat.le_of_ble_eq_true rfl) dX8_after_90 ⟨Nat.le_of_ble_eq_true rfl, Nat.le_of_ble_eq_true rfl⟩ (fun H locs hP hD hS => ?_)
              refine lv_topl (fun v7_13 ev7_13 => ?_)
              have hF := jl hF ev7_13
              refine lv_lstore (lv' := [(7, .long v7_13), (4, .int v4_2), (6, .int t0_4), (9, .int x9_8)]) hx hb dX8_after_93 hl (by decide) rfl (fun ls hl => ?_)
              exact hB95 v7_13 _ _ _ hF hP hD hS (lv_sub hl [1, 2, 0, 3] rfl)
      exact hL62 _ v7_6 t0_4 _ _ _ hF hP hD hS (lv_sub hl [2, 3, 1, 0] rfl)
    refine lv_icmp_ge (tgt := 47) hx hb dX8_after_37 (by decide) (fun c_14 => ?_) (fun c_14 => ?_)
    · have hF := ifp hF c_14
      refine lv_bipush (v := 9) hx hb dX8_after_47 (by decide) ?_
      exact hB49 9 _ _ _ hF hP hD hS (lv_sub hl [3, 0] rfl)
    · have hF := ifn hF c_14
      refine lv_iload hx hb dX8_after_40 (lv_at hl 4 rfl) ?_
      refine lv_iconst (v := 1) hx hb dX8_after_42 (by decide) ?_
      refine lv_iadd hx hb dX8_after_43 ?_
      refine lv_goto (tgt := 49) hx hb dX8_after_44 (by decide) ?_
      exact hB49 (v5_3 + 1) _ _ _ hF hP hD hS (lv_sub hl [3, 0] rfl)
  refine lv_icmp_ge (tgt := 26) hx hb dX8_after_19 (by decide) (fun c_15 => ?_) (fun c_15 => ?_)
  · have hF := ifp hF c_15
    refine lv_iconst (v := 0) hx hb dX8_after_26 (by decide) ?_
    exact hB27 0 _ _ _ hF hP hD hS (lv_sub hl [3, 2, 1, 0] rfl)
  · have hF := ifn hF c_15
    refine lv_iconst (v := 3) hx hb dX8_after_22 (by decide) ?_
    refine lv_goto (tgt := 27) hx hb dX8_after_23 (by decide) ?_
    exact hB27 3 _ _ _ hF hP hD hS (lv_sub hl [3, 2, 1, 0] rfl)
def f_X8_mirroredCell_B36 (t0_3 : Int32) (t0_4 : Int32) : Int32 :=
  (t0_3 + (5 * t0_4))
def f_X8_mirroredCell_B21 (wy : Int32) (v3_2 : Int32) (t0_3 : Int32) : Int32 :=
  if (wy &&& 2) = 0 then f_X8_mirroredCell_B36 t0_3 v3_2 else f_X8_mirroredCell_B36 t0_3 (4 - v3_2)
def f_X8_mirroredCell (cl : Int32) (wy : Int32) : Int32 :=
  jlet (jrem cl 5) (fun v2_1 => jlet (cl / 5) (fun v3_2 => if (wy &&& 1) = 0 then f_X8_mirroredCell_B21 wy v3_2 v2_1 else f_X8_mirroredCell_B21 wy v3_2 (4 - v2_1)))
abbrev rm_X8_mirroredCell : Room := { frames := 0, cells := 0, slots := 0, locals := 0 }
set_option maxHeartbeats 4000000 in
set_option maxRecDepth 100000 in
theorem k_X8_mirroredCell (G : gT) (l : Launch) (cl : Int32) (wy : Int32) (r : Int32) (hF : f_X8_mirroredCell cl wy = r) : HM G l yX8_mirroredCell (.code yX8_mirroredCell cX8_mirroredCell 6 (some .int) :: UW) rm_X8_mirroredCell 0 0 [.int cl, .int wy] [] (some (.int r)) [] := by
  refine HM.ofW (by decide) (Nat.le_of_ble_eq_true rfl) ?_
  intro p e s m args below meth c A post hpost hC hP hD hS ls hl
  obtain ⟨hx, hb, hr, hml, hown, hts, hlk, hE, hA⟩ := hC
  have hl : lv_has ls 6 [(0, .int cl), (1, .int wy)] := hl
  unfold f_X8_mirroredCell at hF
  refine lv_iload_n hx hb dX8_mirroredCell_0 rfl (lv_at hl 0 rfl) ?_
  refine lv_iconst (v := 5) hx hb dX8_mirroredCell_1 (by decide) ?_
  refine lv_irem hx hb dX8_mirroredCell_2 (by decide) ?_
  refine lv_topi (fun v2_1 ev2_1 => ?_)
  have hF := jl hF ev2_1
  refine lv_istore_n (lv' := [(2, .int v2_1), (0, .int cl), (1, .int wy)]) hx hb dX8_mirroredCell_3 rfl hl (by decide) rfl (fun ls hl => ?_)
  refine lv_iload_n hx hb dX8_mirroredCell_4 rfl (lv_at hl 1 rfl) ?_
  refine lv_iconst (v := 5) hx hb dX8_mirroredCell_5 (by decide) ?_
  refine lv_idiv hx hb dX8_mirroredCell_6 (by decide) ?_
  refine lv_topi (fun v3_2 ev3_2 => ?_)
  have hF := jl hF ev3_2
  refine lv_istore_n (lv' := [(3, .int v3_2), (2, .int v2_1), (0, .int cl), (1, .int wy)]) hx hb dX8_mirroredCell_7 rfl hl (by decide) rfl (fun ls hl => ?_)
  refine lv_iload_n hx hb dX8_mirroredCell_8 rfl (lv_at hl 3 rfl) ?_
  refine lv_iconst (v := 1) hx hb dX8_mirroredCell_9 (by decide) ?_
  refine lv_iand hx hb dX8_mirroredCell_10 ?_
  have hB21 : ∀ (t0_3 : Int32) (H : Heap) (locs : List Loc) (ls : Array Slot), f_X8_mirroredCell_B21 wy v3_2 t0_3 = r → va_P (gD G) vwCl [] H → va_D A [] → va_S A s.heap H locs → lv_has ls 6 [(1, .int wy), (3, .int v3_2)] → W p l e rm_X8_mirroredCell s m args below meth c H locs 0 0 (MQ below (HXq G post A) args s 0 0 A) (F0 m 21 ls [.int t0_3]) := by
    intro t0_3 H locs ls hF hP hD hS hl
    unfold f_X8_mirroredCell_B21 at hF
    refine lv_istore (lv' := [(4, .int t0_3), (1, .int wy), (3, .int v3_2)]) hx hb dX8_mirroredCell_21 hl (by decide) rfl (fun ls hl => ?_)
    refine lv_iload_n hx hb dX8_mirroredCell_23 rfl (lv_at hl 1 rfl) ?_
    refine lv_iconst (v := 2) hx hb dX8_mirroredCell_24 (by decide) ?_
    refine lv_iand hx hb dX8_mirroredCell_25 ?_
    have hB36 : ∀ (t0_4 : Int32) (H : Heap) (locs : List Loc) (ls : Array Slot), f_X8_mirroredCell_B36 t0_3 t0_4 = r → va_P (gD G) vwCl [] H → va_D A [] → va_S A s.heap H locs → lv_has ls 6 [(4, .int t0_3)] → W p l e rm_X8_mirroredCell s m args below meth c H locs 0 0 (MQ below (HXq G post A) args s 0 0 A) (F0 m 36 ls [.int t0_4]) := by
      intro t0_4 H locs ls hF hP hD hS hl
      unfold f_X8_mirroredCell_B36 at hF
      refine lv_istore (lv' := [(5, .int t0_4), (4, .int t0_3)]) hx hb dX8_mirroredCell_36 hl (by decide) rfl (fun ls hl => ?_)
      refine lv_iload hx hb dX8_mirroredCell_38 (lv_at hl 1 rfl) ?_
      refine lv_iconst (v := 5) hx hb dX8_mirroredCell_40 (by decide) ?_
      refine lv_iload hx hb dX8_mirroredCell_41 (lv_at hl 0 rfl) ?_
      refine lv_imul hx hb dX8_mirroredCell_43 ?_
      refine lv_iadd hx hb dX8_mirroredCell_44 ?_
      subst hF
      exact hm_iret hx hb hr hlk hP hD hS hpost dX8_mirroredCell_45
    refine lv_if_eq (tgt := 35) hx hb dX8_mirroredCell_26 (by decide) (fun c_5 => ?_) (fun c_5 => ?_)
    · have hF := ifp hF c_5
      refine lv_iload_n hx hb dX8_mirroredCell_35 rfl (lv_at hl 2 rfl) ?_
      exact hB36 v3_2 _ _ _ hF hP hD hS (lv_sub hl [0] rfl)
    · have hF := ifn hF c_5
      refine lv_iconst (v := 4) hx hb dX8_mirroredCell_29 (by decide) ?_
      refine lv_iload_n hx hb dX8_mirroredCell_30 rfl (lv_at hl 2 rfl) ?_
      refine lv_isub hx hb dX8_mirroredCell_31 ?_
      refine lv_goto (tgt := 36) hx hb dX8_mirroredCell_32 (by decide) ?_
      exact hB36 (4 - v3_2) _ _ _ hF hP hD hS (lv_sub hl [0] rfl)
  refine lv_if_eq (tgt := 20) hx hb dX8_mirroredCell_11 (by decide) (fun c_6 => ?_) (fun c_6 => ?_)
  · have hF := ifp hF c_6
    refine lv_iload_n hx hb dX8_mirroredCell_20 rfl (lv_at hl 1 rfl) ?_
    exact hB21 v2_1 _ _ _ hF hP hD hS (lv_sub hl [3, 0] rfl)
  · have hF := ifn hF c_6
    refine lv_iconst (v := 4) hx hb dX8_mirroredCell_14 (by decide) ?_
    refine lv_iload_n hx hb dX8_mirroredCell_15 rfl (lv_at hl 1 rfl) ?_
    refine lv_isub hx hb dX8_mirroredCell_16 ?_
    refine lv_goto (tgt := 21) hx hb dX8_mirroredCell_17 (by decide) ?_
    exact hB21 (4 - v2_1) _ _ _ hF hP hD hS (lv_sub hl [3, 0] rfl)
def f_X8_mirrored_B46 (k_5 : Int64 → Int32 → Option Int64) (x5_2 : Int32) (x3_5 : Int64) : Option Int64 :=
  jlet (x5_2 + 1) (fun v5_6 => k_5 x3_5 v5_6)
def f_X8_mirrored_L5 (st : Int64) (wy : Int32) : Nat → Int64 → Int32 → Option Int64
  | 0, _, _ => none
  | n+1, x3_1, x5_2 =>
  if 6 ≤ x5_2 then some x3_1 else jlet (f_X8_cellOf st x5_2) (fun v6_4 => if v6_4 = 31 then f_X8_mirrored_B46 (f_X8_mirrored_L5 st wy n) x5_2 x3_1 else jlet (f_X8_put x3_1 x5_2 (f_X8_mirroredCell v6_4 wy) (f_X8_ageOf st x5_2)) (fun v3_8 => f_X8_mirrored_B46 (f_X8_mirrored_L5 st wy n) x5_2 v3_8))
def f_X8_mirrored (st : Int64) (wy : Int32) : Option Int64 :=
  f_X8_mirrored_L5 st wy 100 st 0
abbrev rm_X8_mirrored : Room := { frames := 1, cells := 0, slots := 0, locals := 25 }
set_option maxHeartbeats 4000000 in
set_option maxRecDepth 100000 in
theorem k_X8_mirrored (G : gT) (l : Launch) (st : Int64) (wy : Int32) (r : Int64) (hF : f_X8_mirrored st wy = some r) : HM G l yX8_mirrored (.code yX8_mirrored cX8_mirrored 7 (some .long) :: UW) rm_X8_mirrored 0 0 [.long st, .int wy] [] (some (.long r)) [] := by
  refine HM.ofW (by decide) (Nat.le_of_ble_eq_true rfl) ?_
  intro p e s m args below meth c A post hpost hC hP hD hS ls hl
  obtain ⟨hx, hb, hr, hml, hown, hts, hlk, hE, hA⟩ := hC
  have hl : lv_has ls 7 [(0, .long st), (2, .int wy)] := hl
  unfold f_X8_mirrored at hF
  refine lv_lload_n hx hb dX8_mirrored_0 rfl (lv_at hl 0 rfl) ?_
  refine lv_lstore_n (lv' := [(3, .long st), (0, .long st), (2, .int wy)]) hx hb dX8_mirrored_1 rfl hl (by decide) rfl (fun ls hl => ?_)
  refine lv_iconst (v := 0) hx hb dX8_mirrored_2 (by decide) ?_
  refine lv_istore (lv' := [(5, .int 0), (3, .long st), (0, .long st), (2, .int wy)]) hx hb dX8_mirrored_3 hl (by decide) rfl (fun ls hl => ?_)
  have hL5 : ∀ (n5 : Nat) (x3_1 : Int64) (x5_2 : Int32) (H : Heap) (locs : List Loc) (ls : Array Slot), f_X8_mirrored_L5 st wy n5 x3_1 x5_2 = some r → va_P (gD G) vwCl [] H → va_D A [] → va_S A s.heap H locs → lv_has ls 7 [(0, .long st), (2, .int wy), (3, .long x3_1), (5, .int x5_2)] → W p l e rm_X8_mirrored s m args below meth c H locs 0 0 (MQ below (HXq G post A) args s 0 0 A) (F0 m 5 ls []) := by
    intro n5
    induction n5 with
    | zero =>
      intro x3_1 x5_2 H locs ls hF
      exact absurd hF (fun h => by cases h)
    | succ n5 ih5 =>
      intro x3_1 x5_2 H locs ls hF hP hD hS hl
      unfold f_X8_mirrored_L5 at hF
      refine lv_iload hx hb dX8_mirrored_5 (lv_at hl 3 rfl) ?_
      refine lv_bipush (v := 6) hx hb dX8_mirrored_7 (by decide) ?_
      refine lv_icmp_ge (tgt := 52) hx hb dX8_mirrored_9 (by decide) (fun c_3 => ?_) (fun c_3 => ?_)
      · have hF := ifp hF c_3
        refine lv_lload_n hx hb dX8_mirrored_52 rfl (lv_at hl 2 rfl) ?_
        have hF := Option.some.inj hF
        subst hF
        exact hm_lret hx hb hr hlk hP hD hS hpost dX8_mirrored_53
      · have hF := ifn hF c_3
        refine lv_lload_n hx hb dX8_mirrored_12 rfl (lv_at hl 0 rfl) ?_
        refine lv_iload hx hb dX8_mirrored_13 (lv_at hl 3 rfl) ?_
        refine hm_S (wn := []) (wr := []) (rest := []) (sn := [.int (f_X8_cellOf st x5_2)]) hx hb hml hown hts hE hA (k_X8_cellOf G l st x5_2 _ rfl) sm_X8_cellOf mw_306 ⟨rfl, rfl, Nat.le_of_ble_eq_true rfl, Nat.le_of_ble_eq_true rfl⟩ hP hD hS [] [] [] rfl rfl rfl (by decide) hl.1 rfl rfl (Nat.le_of_ble_eq_true rfl) dX8_mirrored_15 ⟨Nat.le_of_ble_eq_true rfl, Nat.le_of_ble_eq_true rfl⟩ (fun H locs hP hD hS => ?_)
        refine lv_topi (fun v6_4 ev6_4 => ?_)
        have hF := jl hF ev6_4
        refine lv_istore (lv' := [(6, .int v6_4), (0, .long st), (2, .int wy), (3, .long x3_1), (5, .int x5_2)]) hx hb dX8_mirrored_18 hl (by decide) rfl (fun ls hl => ?_)
        refine lv_iload hx hb dX8_mirrored_20 (lv_at hl 0 rfl) ?_
        refine lv_bipush (v := 31) hx hb dX8_mirrored_22 (by decide) ?_
        have hB46 : ∀ (x3_5 : Int64) (H : Heap) (locs : List Loc) (ls : Array Slot), f_X8_mirrored_B46 (f_X8_mirrored_L5 st wy n5) x5_2 x3_5 = some r → va_P (gD G) vwCl [] H → va_D A [] → va_S A s.heap H locs → lv_has ls 7 [(0, .long st), (2, .int wy), (3, .long x3_5), (5, .int x5_2)] → W p l e rm_X8_mirrored s m args below meth c H locs 0 0 (MQ below (HXq G post A) args s 0 0 A) (F0 m 46 ls []) := by
          intro x3_5 H locs ls hF hP hD hS hl
          unfold f_X8_mirrored_B46 at hF
          obtain ⟨v5_6, ev5_6⟩ : ∃ z : Int32, z = x5_2 + 1 := ⟨_, rfl⟩
          have hF := jl hF ev5_6
          refine lv_iinc (v := v5_6) (lv' := [(5, .int v5_6), (0, .long st), (2, .int wy), (3, .long x3_5)]) hx hb dX8_mirrored_46 hl (k := 3) rfl (by rw [ev5_6]; rfl) (by decide) rfl (fun ls hl => ?_)
          refine lv_goto (tgt := 5) hx hb dX8_mirrored_49 (by decide) ?_
          exact ih5 x3_5 v5_6 _ _ _ hF hP hD hS (lv_sub hl [1, 2, 3, 0] rfl)
        refine lv_icmp_eq (tgt := 46) hx hb dX8_mirrored_24 (by decide) (fun c_7 => ?_) (fun c_7 => ?_)
        · have hF := ifp hF c_7
          exact hB46 x3_1 _ _ _ hF hP hD hS (lv_sub hl [1, 2, 3, 4] rfl)
        · have hF := ifn hF c_7
          refine lv_lload_n hx hb dX8_mirrored_27 rfl (lv_at hl 3 rfl) ?_
          refine lv_iload hx hb dX8_mirrored_28 (lv_at hl 4 rfl) ?_
          refine lv_iload hx hb dX8_mirrored_30 (lv_at hl 0 rfl) ?_
          refine lv_iload_n hx hb dX8_mirrored_32 rfl (lv_at hl 2 rfl) ?_
          refine hm_S (wn := []) (wr := []) (rest := [.int x5_2, .long x3_1]) (sn := [.int (f_X8_mirroredCell v6_4 wy), .int x5_2, .long x3_1]) hx hb hml hown hts hE hA (k_X8_mirroredCell G l v6_4 wy _ rfl) sm_X8_mirroredCell mw_686 ⟨rfl, rfl, Nat.le_of_ble_eq_true rfl, Nat.le_of_ble_eq_true rfl⟩ hP hD hS [] [] [] rfl rfl rfl (by decide) hl.1 rfl rfl (Nat.le_of_ble_eq_true rfl) dX8_mirrored_33 ⟨Nat.le_of_ble_eq_true rfl, Nat.le_of_ble_eq_true rfl⟩ (fun H locs hP hD hS => ?_)
          refine lv_lload_n hx hb dX8_mirrored_36 rfl (lv_at hl 1 rfl) ?_
          refine lv_iload hx hb dX8_mirrored_37 (lv_at hl 4 rfl) ?_
          refine hm_S (wn := []) (wr := []) (rest := [.int (f_X8_mirroredCell v6_4 wy), .int x5_2, .long x3_1]) (sn := [.int (f_X8_ageOf st x5_2), .int (f_X8_mirroredCell v6_4 wy), .int x5_2, .long x3_1]) hx hb hml hown hts hE hA (k_X8_ageOf G l st x5_2 _ rfl) sm_X8_ageOf mw_421 ⟨rfl, rfl, Nat.le_of_ble_eq_true rfl, Nat.le_of_ble_eq_true rfl⟩ hP hD hS [] [] [] rfl rfl rfl (by decide) hl.1 rfl rfl (Nat.le_of_ble_eq_true rfl) dX8_mirrored_39 ⟨Nat.le_of_ble_eq_true rfl, Nat.le_of_ble_eq_true rfl⟩ (fun H locs hP hD hS => ?_)
          refine hm_S (wn := []) (wr := []) (rest := []) (sn := [.long (f_X8_put x3_1 x5_2 (f_X8_mirroredCell v6_4 wy) (f_X8_ageOf st x5_2))]) hx hb hml hown hts hE hA (k_X8_put G l x3_1 x5_2 (f_X8_mirroredCell v6_4 wy) (f_X8_ageOf st x5_2) _ rfl) sm_X8_put mw_422 ⟨rfl, rfl, Nat.le_of_ble_eq_true rfl, Nat.le_of_ble_eq_true rfl⟩ hP hD hS [] [] [] rfl rfl rfl (by decide) hl.1 rfl rfl (Nat.le_of_ble_eq_true rfl) dX8_mirrored_42 ⟨Nat.le_of_ble_eq_true rfl, Nat.le_of_ble_eq_true rfl⟩ (fun H locs hP hD hS => ?_)
          refine lv_topl (fun v3_8 ev3_8 => ?_)
          have hF := jl hF ev3_8
          refine lv_lstore_n (lv' := [(3, .long v3_8), (6, .int v6_4), (0, .long st), (2, .int wy), (5, .int x5_2)]) hx hb dX8_mirrored_45 rfl hl (by decide) rfl (fun ls hl => ?_)
          exact hB46 v3_8 _ _ _ hF hP hD hS (lv_sub hl [2, 3, 0, 4] rfl)
  exact hL5 _ st 0 _ _ _ hF hP hD hS (lv_sub hl [2, 3, 1, 0] rfl)
