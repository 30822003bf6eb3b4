def f_X10_fromAt (xpd : (Nat → Int32)) (kk1 : Int32) : Option Int32 :=
  if ((4 * kk1)) < 0 ∨ 48 ≤ ((4 * kk1)).toNatClampNeg then none else if (((4 * kk1) + 1)) < 0 ∨ 48 ≤ (((4 * kk1) + 1)).toNatClampNeg then none else some (((xpd ((4 * kk1)).toNatClampNeg) - 97) + (5 * ((xpd (((4 * kk1) + 1)).toNatClampNeg) - 49)))
abbrev rm_X10_fromAt : Room := { frames := 0, cells := 0, slots := 0, locals := 0 }
set_option maxHeartbeats 4000000 in
set_option maxRecDepth 100000 in
theorem k_X10_fromAt (G : gT) (l : Launch) (mo : Nat) (aMM : Nat) (aMT : Nat) (aPD : Nat) (aST : Nat) (aPL : Nat) (aRS : Nat) (aLA : Nat) (aBM : Nat) (aRP : Nat) (aFI : Nat) (aFM : Nat) (aGB : Nat) (aGM : Nat) (aGV : Nat) (aGR : Nat) (aKB : Nat) (aKP : Nat) (aIK : Nat) (mbd : Int64) (mby : Int32) (mgr : Int32) (mol : Int32) (mmy : Int32) (mpm : Int32) (mrd : Int64) (mbm : Int32) (mbw : Int32) (mpl : Int64) (msm : Int32) (mgs : Int32) (mka : Int32) (miw : Int32) (xpd : (Nat → Int32)) (kk1 : Int32) (r : Int32) (hF : f_X10_fromAt xpd kk1 = some r) : HM G l yX10_fromAt (.code yX10_fromAt cX10_fromAt 2 (some .int) :: UW) rm_X10_fromAt 0 0 [.ref mo, .int kk1] [(mo, .inr (8, [.long mbd, .int mby, .int mgr, .int mol, .ref aMM, .ref aMT, .int mmy, .ref aPD, .int mpm, .long mrd, .int mbm, .int mbw, .long mpl, .ref aST, .ref aPL, .ref aRS, .ref aLA, .ref aBM, .int msm, .ref aRP, .ref aFI, .ref aFM, .ref aGB, .ref aGM, .ref aGV, .ref aGR, .int mgs, .ref aKB, .ref aKP, .ref aIK, .int mka, .int miw])), (aPD, .inl (gI G, 48, .inl xpd))] (some (.int r)) [(mo, .inr (8, [.long mbd, .int mby, .int mgr, .int mol, .ref aMM, .ref aMT, .int mmy, .ref aPD, .int mpm, .long mrd, .int mbm, .int mbw, .long mpl, .ref aST, .ref aPL, .ref aRS, .ref aLA, .ref aBM, .int msm, .ref aRP, .ref aFI, .ref aFM, .ref aGB, .ref aGM, .ref aGV, .ref aGR, .int mgs, .ref aKB, .ref aKP, .ref aIK, .int mka, .int miw])), (aPD, .inl (gI G, 48, .inl xpd))] := by
  refine HM.ofW (by decide) (Nat.le_of_ble_eq_true rfl) ?_
  intro p e s m args below meth c A post hpost hC hP hD hS ls hl
  obtain ⟨hx, hb, hr, hml, hown, hts, hlk, hE, hA⟩ := hC
  have hl : lv_has ls 2 [(0, .ref mo), (1, .int kk1)] := hl
  unfold f_X10_fromAt at hF
  refine lv_aload_n hx hb dX10_fromAt_0 rfl (lv_at hl 0 rfl) ?_
  refine hget hx hb hts hown hE fl_X10_16 hP 0 rfl rfl dX10_fromAt_1 ?_
  refine lv_iconst (v := 4) hx hb dX10_fromAt_4 (by decide) ?_
  refine lv_iload_n hx hb dX10_fromAt_5 rfl (lv_at hl 1 rfl) ?_
  refine lv_imul hx hb dX10_fromAt_6 ?_
  obtain ⟨hi_1, hF⟩ := inb hF
  refine hiald hx hb hE hP 1 rfl hi_1 dX10_fromAt_7 ?_
  refine lv_bipush (v := 97) hx hb dX10_fromAt_8 (by decide) ?_
  refine lv_isub hx hb dX10_fromAt_10 ?_
  refine lv_iconst (v := 5) hx hb dX10_fromAt_11 (by decide) ?_
  refine lv_aload_n hx hb dX10_fromAt_12 rfl (lv_at hl 0 rfl) ?_
  refine hget hx hb hts hown hE fl_X10_16 hP 0 rfl rfl dX10_fromAt_13 ?_
  refine lv_iconst (v := 4) hx hb dX10_fromAt_16 (by decide) ?_
  refine lv_iload_n hx hb dX10_fromAt_17 rfl (lv_at hl 1 rfl) ?_
  refine lv_imul hx hb dX10_fromAt_18 ?_
  refine lv_iconst (v := 1) hx hb dX10_fromAt_19 (by decide) ?_
  refine lv_iadd hx hb dX10_fromAt_20 ?_
  obtain ⟨hi_2, hF⟩ := inb hF
  refine hiald hx hb hE hP 1 rfl hi_2 dX10_fromAt_21 ?_
  refine lv_bipush (v := 49) hx hb dX10_fromAt_22 (by decide) ?_
  refine lv_isub hx hb dX10_fromAt_24 ?_
  refine lv_imul hx hb dX10_fromAt_25 ?_
  refine lv_iadd hx hb dX10_fromAt_26 ?_
  have hF := Option.some.inj hF
  subst hF
  exact hm_iret hx hb hr hlk hP hD hS hpost dX10_fromAt_27
def f_X10_toAt (xpd : (Nat → Int32)) (kk1 : Int32) : Option Int32 :=
  if (((4 * kk1) + 2)) < 0 ∨ 48 ≤ (((4 * kk1) + 2)).toNatClampNeg then none else if (((4 * kk1) + 3)) < 0 ∨ 48 ≤ (((4 * kk1) + 3)).toNatClampNeg then none else some (((xpd (((4 * kk1) + 2)).toNatClampNeg) - 97) + (5 * ((xpd (((4 * kk1) + 3)).toNatClampNeg) - 49)))
abbrev rm_X10_toAt : Room := { frames := 0, cells := 0, slots := 0, locals := 0 }
set_option maxHeartbeats 4000000 in
set_option maxRecDepth 100000 in
theorem k_X10_toAt (G : gT) (l : Launch) (mo : Nat) (aMM : Nat) (aMT : Nat) (aPD : Nat) (aST : Nat) (aPL : Nat) (aRS : Nat) (aLA : Nat) (aBM : Nat) (aRP : Nat) (aFI : Nat) (aFM : Nat) (aGB : Nat) (aGM : Nat) (aGV : Nat) (aGR : Nat) (aKB : Nat) (aKP : Nat) (aIK : Nat) (mbd : Int64) (mby : Int32) (mgr : Int32) (mol : Int32) (mmy : Int32) (mpm : Int32) (mrd : Int64) (mbm : Int32) (mbw : Int32) (mpl : Int64) (msm : Int32) (mgs : Int32) (mka : Int32) (miw : Int32) (xpd : (Nat → Int32)) (kk1 : Int32) (r : Int32) (hF : f_X10_toAt xpd kk1 = some r) : HM G l yX10_toAt (.code yX10_toAt cX10_toAt 2 (some .int) :: UW) rm_X10_toAt 0 0 [.ref mo, .int kk1] [(mo, .inr (8, [.long mbd, .int mby, .int mgr, .int mol, .ref aMM, .ref aMT, .int mmy, .ref aPD, .int mpm, .long mrd, .int mbm, .int mbw, .long mpl, .ref aST, .ref aPL, .ref aRS, .ref aLA, .ref aBM, .int msm, .ref aRP, .ref aFI, .ref aFM, .ref aGB, .ref aGM, .ref aGV, .ref aGR, .int mgs, .ref aKB, .ref aKP, .ref aIK, .int mka, .int miw])), (aPD, .inl (gI G, 48, .inl xpd))] (some (.int r)) [(mo, .inr (8, [.long mbd, .int mby, .int mgr, .int mol, .ref aMM, .ref aMT, .int mmy, .ref aPD, .int mpm, .long mrd, .int mbm, .int mbw, .long mpl, .ref aST, .ref aPL, .ref aRS, .ref aLA, .ref aBM, .int msm, .ref aRP, .ref aFI, .ref aFM, .ref aGB, .ref aGM, .ref aGV, .ref aGR, .int mgs, .ref aKB, .ref aKP, .ref aIK, .int mka, .int miw])), (aPD, .inl (gI G, 48, .inl xpd))] := by
  refine HM.ofW (by decide) (Nat.le_of_ble_eq_true rfl) ?_
  intro p e s m args below meth c A post hpost hC hP hD hS ls hl
  obtain ⟨hx, hb, hr, hml, hown, hts, hlk, hE, hA⟩ := hC
  have hl : lv_has ls 2 [(0, .ref mo), (1, .int kk1)] := hl
  unfold f_X10_toAt at hF
  refine lv_aload_n hx hb dX10_toAt_0 rfl (lv_at hl 0 rfl) ?_
  refine hget hx hb hts hown hE fl_X10_16 hP 0 rfl rfl dX10_toAt_1 ?_
  refine lv_iconst (v := 4) hx hb dX10_toAt_4 (by decide) ?_
  refine lv_iload_n hx hb dX10_toAt_5 rfl (lv_at hl 1 rfl) ?_
  refine lv_imul hx hb dX10_toAt_6 ?_
  refine lv_iconst (v := 2) hx hb dX10_toAt_7 (by decide) ?_
  refine lv_iadd hx hb dX10_toAt_8 ?_
  obtain ⟨hi_1, hF⟩ := inb hF
  refine hiald hx hb hE hP 1 rfl hi_1 dX10_toAt_9 ?_
  refine lv_bipush (v := 97) hx hb dX10_toAt_10 (by decide) ?_
  refine lv_isub hx hb dX10_toAt_12 ?_
  refine lv_iconst (v := 5) hx hb dX10_toAt_13 (by decide) ?_
  refine lv_aload_n hx hb dX10_toAt_14 rfl (lv_at hl 0 rfl) ?_
  refine hget hx hb hts hown hE fl_X10_16 hP 0 rfl rfl dX10_toAt_15 ?_
  refine lv_iconst (v := 4) hx hb dX10_toAt_18 (by decide) ?_
  refine lv_iload_n hx hb dX10_toAt_19 rfl (lv_at hl 1 rfl) ?_
  refine lv_imul hx hb dX10_toAt_20 ?_
  refine lv_iconst (v := 3) hx hb dX10_toAt_21 (by decide) ?_
  refine lv_iadd hx hb dX10_toAt_22 ?_
  obtain ⟨hi_2, hF⟩ := inb hF
  refine hiald hx hb hE hP 1 rfl hi_2 dX10_toAt_23 ?_
  refine lv_bipush (v := 49) hx hb dX10_toAt_24 (by decide) ?_
  refine lv_isub hx hb dX10_toAt_26 ?_
  refine lv_imul hx hb dX10_toAt_27 ?_
  refine lv_iadd hx hb dX10_toAt_28 ?_
  have hF := Option.some.inj hF
  subst hF
  exact hm_iret hx hb hr hlk hP hD hS hpost dX10_toAt_29
def f_X10_whyAt (mby : Int32) (mgr : Int32) (mol : Int32) (mpl : Int64) (xpd : (Nat → Int32)) (kk1 : Int32) : Option Int32 :=
  Option.bind (f_X10_broughtBy mby mgr mol mpl) (fun r5_1 => if r5_1 = 0 then Option.bind (f_X10_fromAt xpd kk1) (fun r19_3 => Option.bind (f_X10_manOn mpl r19_3) (fun r22_4 => if r22_4 < 0 then some 2 else if (r22_4 / 3) = (f_X10_turnOf mpl) then Option.bind (f_X10_toAt xpd kk1) (fun r55_7 => Option.bind (f_X10_whyNot mby mgr mol mpl r22_4 r55_7) (fun r58_8 => some r58_8)) else some 2)) else some 1)
abbrev rm_X10_whyAt : Room := { frames := 8, cells := 0, slots := 0, locals := 196 }
set_option maxHeartbeats 4000000 in
set_option maxRecDepth 100000 in
theorem k_X10_whyAt (G : gT) (l : Launch) (mo : Nat) (aMM : Nat) (aMT : Nat) (aPD : Nat) (aST : Nat) (aPL : Nat) (aRS : Nat) (aLA : Nat) (aBM : Nat) (aRP : Nat) (aFI : Nat) (aFM : Nat) (aGB : Nat) (aGM : Nat) (aGV : Nat) (aGR : Nat) (aKB : Nat) (aKP : Nat) (aIK : Nat) (mbd : Int64) (mby : Int32) (mgr : Int32) (mol : Int32) (mmy : Int32) (mpm : Int32) (mrd : Int64) (mbm : Int32) (mbw : Int32) (mpl : Int64) (msm : Int32) (mgs : Int32) (mka : Int32) (miw : Int32) (xpd : (Nat → Int32)) (kk1 : Int32) (r : Int32) (hF : f_X10_whyAt mby mgr mol mpl xpd kk1 = some r) : HM G l yX10_whyAt (.code yX10_whyAt cX10_whyAt 3 (some .int) :: UW) rm_X10_whyAt 0 0 [.ref mo, .int kk1] [(mo, .inr (8, [.long mbd, .int mby, .int mgr, .int mol, .ref aMM, .ref aMT, .int mmy, .ref aPD, .int mpm, .long mrd, .int mbm, .int mbw, .long mpl, .ref aST, .ref aPL, .ref aRS, .ref aLA, .ref aBM, .int msm, .ref aRP, .ref aFI, .ref aFM, .ref aGB, .ref aGM, .ref aGV, .ref aGR, .int mgs, .ref aKB, .ref aKP, .ref aIK, .int mka, .int miw])), (aPD, .inl (gI G, 48, .inl xpd))] (some (.int r)) [(mo, .inr (8, [.long mbd, .int mby, .int mgr, .int mol, .ref aMM, .ref aMT, .int mmy, .ref aPD, .int mpm, .long mrd, .int mbm, .int mbw, .long mpl, .ref aST, .ref aPL, .ref aRS, .ref aLA, .ref aBM, .int msm, .ref aRP, .ref aFI, .ref aFM, .ref aGB, .ref aGM, .ref aGV, .ref aGR, .int mgs, .ref aKB, .ref aKP, .ref aIK, .int mka, .int miw])), (aPD, .inl (gI G, 48, .inl xpd))] := by
  refine HM.ofW (by decide) (Nat.le_of_ble_eq_true rfl) ?_
  intro p e s m args below meth c A post hpost hC hP hD hS ls hl
  obtain ⟨hx, hb, hr, hml, hown, hts, hlk, hE, hA⟩ := hC
  have hl : lv_has ls 3 [(0, .ref mo), (1, .int kk1)] := hl
  unfold f_X10_whyAt at hF
  refine lv_aload_n hx hb dX10_whyAt_0 rfl (lv_at hl 0 rfl) ?_
  refine lv_aload_n hx hb dX10_whyAt_1 rfl (lv_at hl 0 rfl) ?_
  refine hget hx hb hts hown hE fl_X10_187 hP 0 rfl rfl dX10_whyAt_2 ?_
  obtain ⟨r5_1, hr5_1, hF⟩ := bnd hF
  refine hm_V (wn := [(mo, .inr (8, [.long mbd, .int mby, .int mgr, .int mol, .ref aMM, .ref aMT, .int mmy, .ref aPD, .int mpm, .long mrd, .int mbm, .int mbw, .long mpl, .ref aST, .ref aPL, .ref aRS, .ref aLA, .ref aBM, .int msm, .ref aRP, .ref aFI, .ref aFM, .ref aGB, .ref aGM, .ref aGV, .ref aGR, .int mgs, .ref aKB, .ref aKP, .ref aIK, .int mka, .int miw])), (aPD, .inl (gI G, 48, .inl xpd))]) (wr := [(aPD, .inl (gI G, 48, .inl xpd))]) (rest := []) (sn := [.int r5_1]) hx hb hml hown hts hE hA (k_X10_broughtBy G l mo aMM aMT aPD aST aPL aRS aLA aBM aRP aFI aFM aGB aGM aGV aGR aKB aKP aIK mbd mby mgr mol mmy mpm mrd mbm mbw mpl msm mgs mka miw mpl r5_1 hr5_1) sm_X10_broughtBy mw_908 ⟨rfl, rfl, Nat.le_of_ble_eq_true rfl, Nat.le_of_ble_eq_true rfl⟩ hP hD hS 0 rfl rfl [0] [1] [1, 0] rfl rfl rfl (by decide) hl.1 rfl rfl (Nat.le_of_ble_eq_true rfl) dX10_whyAt_5 ⟨Nat.le_of_ble_eq_true rfl, Nat.le_of_ble_eq_true rfl⟩ (fun H locs hP hD hS => ?_)
  refine lv_if_eq (tgt := 13) hx hb dX10_whyAt_8 (by decide) (fun c_2 => ?_) (fun c_2 => ?_)
  · have hF := ifp hF c_2
    refine lv_aload_n hx hb dX10_whyAt_13 rfl (lv_at hl 0 rfl) ?_
    refine hget hx hb hts hown hE fl_X10_187 hP 0 rfl rfl dX10_whyAt_14 ?_
    refine lv_aload_n hx hb dX10_whyAt_17 rfl (lv_at hl 0 rfl) ?_
    refine lv_iload_n hx hb dX10_whyAt_18 rfl (lv_at hl 1 rfl) ?_
    obtain ⟨r19_3, hr19_3, hF⟩ := bnd hF
    refine hm_V (wn := [(mo, .inr (8, [.long mbd, .int mby, .int mgr, .int mol, .ref aMM, .ref aMT, .int mmy, .ref aPD, .int mpm, .long mrd, .int mbm, .int mbw, .long mpl, .ref aST, .ref aPL, .ref aRS, .ref aLA, .ref aBM, .int msm, .ref aRP, .ref aFI, .ref aFM, .ref aGB, .ref aGM, .ref aGV, .ref aGR, .int mgs, .ref aKB, .ref aKP, .ref aIK, .int mka, .int miw])), (aPD, .inl (gI G, 48, .inl xpd))]) (wr := []) (rest := [.long mpl]) (sn := [.int r19_3, .long mpl]) hx hb hml hown hts hE hA (k_X10_fromAt G l mo aMM aMT aPD aST aPL aRS aLA aBM aRP aFI aFM aGB aGM aGV aGR aKB aKP aIK mbd mby mgr mol mmy mpm mrd mbm mbw mpl msm mgs mka miw xpd kk1 r19_3 hr19_3) sm_X10_fromAt mw_946 ⟨rfl, rfl, Nat.le_of_ble_eq_true rfl, Nat.le_of_ble_eq_true rfl⟩ hP hD hS 0 rfl rfl [0, 1] [] [0, 1] rfl rfl rfl (by decide) hl.1 rfl rfl (Nat.le_of_ble_eq_true rfl) dX10_whyAt_19 ⟨Nat.le_of_ble_eq_true rfl, Nat.le_of_ble_eq_true rfl⟩ (fun H locs hP hD hS => ?_)
    obtain ⟨r22_4, hr22_4, hF⟩ := bnd hF
    refine hm_S (wn := [(mo, .inr (8, [.long mbd, .int mby, .int mgr, .int mol, .ref aMM, .ref aMT, .int mmy, .ref aPD, .int mpm, .long mrd, .int mbm, .int mbw, .long mpl, .ref aST, .ref aPL, .ref aRS, .ref aLA, .ref aBM, .int msm, .ref aRP, .ref aFI, .ref aFM, .ref aGB, .ref aGM, .ref aGV, .ref aGR, .int mgs, .ref aKB, .ref aKP, .ref aIK, .int mka, .int miw])), (aPD, .inl (gI G, 48, .inl xpd))]) (wr := [(mo, .inr (8, [.long mbd, .int mby, .int mgr, .int mol, .ref aMM, .ref aMT, .int mmy, .ref aPD, .int mpm, .long mrd, .int mbm, .int mbw, .long mpl, .ref aST, .ref aPL, .ref aRS, .ref aLA, .ref aBM, .int msm, .ref aRP, .ref aFI, .ref aFM, .ref aGB, .ref aGM, .ref aGV, .ref aGR, .int mgs, .ref aKB, .ref aKP, .ref aIK, .int mka, .int miw])), (aPD, .inl (gI G, 48, .inl xpd))]) (rest := []) (sn := [.int r22_4]) hx hb hml hown hts hE hA (k_X10_manOn G l mpl r19_3 r22_4 hr22_4) sm_X10_manOn mw_860 ⟨rfl, rfl, Nat.le_of_ble_eq_true rfl, Nat.le_of_ble_eq_true rfl⟩ hP hD hS [] [0, 1] [0, 1] rfl rfl rfl (by decide) hl.1 rfl rfl (Nat.le_of_ble_eq_true rfl) dX10_whyAt_22 ⟨Nat.le_of_ble_eq_true rfl, Nat.le_of_ble_eq_true rfl⟩ (fun H locs hP hD hS => ?_)
    refine lv_istore_n (lv' := [(2, .int r22_4), (0, .ref mo), (1, .int kk1)]) hx hb dX10_whyAt_25 rfl hl (by decide) rfl (fun ls hl => ?_)
    refine lv_iload_n hx hb dX10_whyAt_26 rfl (lv_at hl 0 rfl) ?_
    refine lv_if_lt (tgt := 43) hx hb dX10_whyAt_27 (by decide) (fun c_5 => ?_) (fun c_5 => ?_)
    · have hF := ifp hF c_5
      refine lv_iconst (v := 2) hx hb dX10_whyAt_43 (by decide) ?_
      refine lv_goto (tgt := 61) hx hb dX10_whyAt_44 (by decide) ?_
      have hF := Option.some.inj hF
      subst hF
      exact hm_iret hx hb hr hlk hP hD hS hpost dX10_whyAt_61
    · have hF := ifn hF c_5
      refine lv_iload_n hx hb dX10_whyAt_30 rfl (lv_at hl 0 rfl) ?_
      refine lv_iconst (v := 3) hx hb dX10_whyAt_31 (by decide) ?_
      refine lv_idiv hx hb dX10_whyAt_32 (by decide) ?_
      refine lv_aload_n hx hb dX10_whyAt_33 rfl (lv_at hl 1 rfl) ?_
      refine hget hx hb hts hown hE fl_X10_187 hP 0 rfl rfl dX10_whyAt_34 ?_
      refine hm_S (wn := [(mo, .inr (8, [.long mbd, .int mby, .int mgr, .int mol, .ref aMM, .ref aMT, .int mmy, .ref aPD, .int mpm, .long mrd, .int mbm, .int mbw, .long mpl, .ref aST, .ref aPL, .ref aRS, .ref aLA, .ref aBM, .int msm, .ref aRP, .ref aFI, .ref aFM, .ref aGB, .ref aGM, .ref aGV, .ref aGR, .int mgs, .ref aKB, .ref aKP, .ref aIK, .int mka, .int miw])), (aPD, .inl (gI G, 48, .inl xpd))]) (wr := [(mo, .inr (8, [.long mbd, .int mby, .int mgr, .int mol, .ref aMM, .ref aMT, .int mmy, .ref aPD, .int mpm, .long mrd, .int mbm, .int mbw, .long mpl, .ref aST, .ref aPL, .ref aRS, .ref aLA, .ref aBM, .int msm, .ref aRP, .ref aFI, .ref aFM, .ref aGB, .ref aGM, .ref aGV, .ref aGR, .int mgs, .ref aKB, .ref aKP, .ref aIK, .int mka, .int miw])), (aPD, .inl (gI G, 48, .inl xpd))]) (rest := [.int (r22_4 / 3)]) (sn := [.int (f_X10_turnOf mpl), .int (r22_4 / 3)]) hx hb hml hown hts hE hA (k_X10_turnOf G l mpl _ rfl) sm_X10_turnOf mw_848 ⟨rfl, rfl, Nat.le_of_ble_eq_true rfl, Nat.le_of_ble_eq_true rfl⟩ hP hD hS [] [0, 1] [0, 1] rfl rfl rfl (by decide) hl.1 rfl rfl (Nat.le_of_ble_eq_true rfl) dX10_whyAt_37 ⟨Nat.le_of_ble_eq_true rfl, Nat.le_of_ble_eq_true rfl⟩ (fun H locs hP hD hS => ?_)
      refine lv_icmp_eq (tgt := 47) hx hb dX10_whyAt_40 (by decide) (fun c_6 => ?_) (fun c_6 => ?_)
      · have hF := ifp hF c_6
        refine lv_aload_n hx hb dX10_whyAt_47 rfl (lv_at hl 1 rfl) ?_
        refine lv_aload_n hx hb dX10_whyAt_48 rfl (lv_at hl 1 rfl) ?_
        refine hget hx hb hts hown hE fl_X10_187 hP 0 rfl rfl dX10_whyAt_49 ?_
        refine lv_iload_n hx hb dX10_whyAt_52 rfl (lv_at hl 0 rfl) ?_
        refine lv_aload_n hx hb dX10_whyAt_53 rfl (lv_at hl 1 rfl) ?_
        refine lv_iload_n hx hb dX10_whyAt_54 rfl (lv_at hl 2 rfl) ?_
        obtain ⟨r55_7, hr55_7, hF⟩ := bnd hF
        refine hm_V (wn := [(mo, .inr (8, [.long mbd, .int mby, .int mgr, .int mol, .ref aMM, .ref aMT, .int mmy, .ref aPD, .int mpm, .long mrd, .int mbm, .int mbw, .long mpl, .ref aST, .ref aPL, .ref aRS, .ref aLA, .ref aBM, .int msm, .ref aRP, .ref aFI, .ref aFM, .ref aGB, .ref aGM, .ref aGV, .ref aGR, .int mgs, .ref aKB, .ref aKP, .ref aIK, .int mka, .int miw])), (aPD, .inl (gI G, 48, .inl xpd))]) (wr := []) (rest := [.int r22_4, .long mpl, .ref mo]) (sn := [.int r55_7, .int r22_4, .long mpl, .ref mo]) hx hb hml hown hts hE hA (k_X10_toAt G l mo aMM aMT aPD aST aPL aRS aLA aBM aRP aFI aFM aGB aGM aGV aGR aKB aKP aIK mbd mby mgr mol mmy mpm mrd mbm mbw mpl msm mgs mka miw xpd kk1 r55_7 hr55_7) sm_X10_toAt mw_950 ⟨rfl, rfl, Nat.le_of_ble_eq_true rfl, Nat.le_of_ble_eq_true rfl⟩ hP hD hS 0 rfl rfl [0, 1] [] [0, 1] rfl rfl rfl (by decide) hl.1 rfl rfl (Nat.le_of_ble_eq_true rfl) dX10_whyAt_55 ⟨Nat.le_of_ble_eq_true rfl, Nat.le_of_ble_eq_true rfl⟩ (fun H locs hP hD hS => ?_)
        obtain ⟨r58_8, hr58_8, hF⟩ := bnd hF
        refine hm_V (wn := [(mo, .inr (8, [.long mbd, .int mby, .int mgr, .int mol, .ref aMM, .ref aMT, .int mmy, .ref aPD, .int mpm, .long mrd, .int mbm, .int mbw, .long mpl, .ref aST, .ref aPL, .ref aRS, .ref aLA, .ref aBM, .int msm, .ref aRP, .ref aFI, .ref aFM, .ref aGB, .ref aGM, .ref aGV, .ref aGR, .int mgs, .ref aKB, .ref aKP, .ref aIK, .int mka, .int miw])), (aPD, .inl (gI G, 48, .inl xpd))]) (wr := [(aPD, .inl (gI G, 48, .inl xpd))]) (rest := []) (sn := [.int r58_8]) hx hb hml hown hts hE hA (k_X10_whyNot G l mo aMM aMT aPD aST aPL aRS aLA aBM aRP aFI aFM aGB aGM aGV aGR aKB aKP aIK mbd mby mgr mol mmy mpm mrd mbm mbw mpl msm mgs mka miw mpl r22_4 r55_7 r58_8 hr58_8) sm_X10_whyNot mw_924 ⟨rfl, rfl, Nat.le_of_ble_eq_true rfl, Nat.le_of_ble_eq_true rfl⟩ hP hD hS 0 rfl rfl [0] [1] [1, 0] rfl rfl rfl (by decide) hl.1 rfl rfl (Nat.le_of_ble_eq_true rfl) dX10_whyAt_58 ⟨Nat.le_of_ble_eq_true rfl, Nat.le_of_ble_eq_true rfl⟩ (fun H locs hP hD hS => ?_)
        have hF := Option.some.inj hF
        subst hF
        exact hm_iret hx hb hr hlk hP hD hS hpost dX10_whyAt_61
      · have hF := ifn hF c_6
        refine lv_iconst (v := 2) hx hb dX10_whyAt_43 (by decide) ?_
        refine lv_goto (tgt := 61) hx hb dX10_whyAt_44 (by decide) ?_
        have hF := Option.some.inj hF
        subst hF
        exact hm_iret hx hb hr hlk hP hD hS hpost dX10_whyAt_61
  · have hF := ifn hF c_2
    refine lv_iconst (v := 1) hx hb dX10_whyAt_11 (by decide) ?_
    have hF := Option.some.inj hF
    subst hF
    exact hm_iret hx hb hr hlk hP hD hS hpost dX10_whyAt_12
def f_X10_goGame_L22 (mby : Int32) (mgr : Int32) (mol : Int32) (mpm : Int32) (xpd : (Nat → Int32)) : Nat → Int32 → Int32 → Int32 → Int64 → Option (Int32 × Int64 × Int32 × Int32)
  | 0, _, _, _, _ => none
  | n+1, x1_1, mbm_2, mbw_3, mpl_4 =>
  if mpm ≤ (4 * x1_1) then some (1, mpl_4, mbm_2, mbw_3) else Option.bind (f_X10_whyAt mby mgr mol mpl_4 xpd x1_1) (fun r34_6 => if r34_6 < 0 then Option.bind (f_X10_fromAt xpd x1_1) (fun r65_8 => Option.bind (f_X10_manOn mpl_4 r65_8) (fun r68_9 => Option.bind (f_X10_toAt xpd x1_1) (fun r73_10 => Option.bind (f_X10_gone mpl_4 r68_9 r73_10) (fun r76_11 => jlet (x1_1 + 1) (fun v1_12 => (f_X10_goGame_L22 mby mgr mol mpm xpd n) v1_12 mbm_2 mbw_3 r76_11))))) else some (0, mpl_4, x1_1, r34_6))
def f_X10_goGame (mbd : Int64) (mby : Int32) (mgr : Int32) (mol : Int32) (mpm : Int32) (xpd : (Nat → Int32)) : Option (Int32 × Int64 × Int32 × Int32) :=
  f_X10_goGame_L22 mby mgr mol mpm xpd 100 0 (-6) (-6) mbd
abbrev rm_X10_goGame : Room := { frames := 9, cells := 0, slots := 0, locals := 218 }
set_option maxHeartbeats 4000000 in
set_option maxRecDepth 100000 in
theorem k_X10_goGame (G : gT) (l : Launch) (mo : Nat) (aMM : Nat) (aMT : Nat) (aPD : Nat) (aST : Nat) (aPL : Nat) (aRS : Nat) (aLA : Nat) (aBM : Nat) (aRP : Nat) (aFI : Nat) (aFM : Nat) (aGB : Nat) (aGM : Nat) (aGV : Nat) (aGR : Nat) (aKB : Nat) (aKP : Nat) (aIK : Nat) (mbd : Int64) (mby : Int32) (mgr : Int32) (mol : Int32) (mmy : Int32) (mpm : Int32) (mrd : Int64) (mbm : Int32) (mbw : Int32) (mpl : Int64) (msm : Int32) (mgs : Int32) (mka : Int32) (miw : Int32) (xpd : (Nat → Int32)) (r : Int32 × Int64 × Int32 × Int32) (hF : f_X10_goGame mbd mby mgr mol mpm xpd = some r) : HM G l yX10_goGame (.code yX10_goGame cX10_goGame 3 (some .boolean) :: UW) rm_X10_goGame 0 0 [.ref mo] [(mo, .inr (8, [.long mbd, .int mby, .int mgr, .int mol, .ref aMM, .ref aMT, .int mmy, .ref aPD, .int mpm, .long mrd, .int mbm, .int mbw, .long mpl, .ref aST, .ref aPL, .ref aRS, .ref aLA, .ref aBM, .int msm, .ref aRP, .ref aFI, .ref aFM, .ref aGB, .ref aGM, .ref aGV, .ref aGR, .int mgs, .ref aKB, .ref aKP, .ref aIK, .int mka, .int miw])), (aPD, .inl (gI G, 48, .inl xpd))] (some (.int r.1)) [(mo, .inr (8, [.long mbd, .int mby, .int mgr, .int mol, .ref aMM, .ref aMT, .int mmy, .ref aPD, .int mpm, .long mrd, .int r.2.2.1, .int r.2.2.2, .long r.2.1, .ref aST, .ref aPL, .ref aRS, .ref aLA, .ref aBM, .int msm, .ref aRP, .ref aFI, .ref aFM, .ref aGB, .ref aGM, .ref aGV, .ref aGR, .int mgs, .ref aKB, .ref aKP, .ref aIK, .int mka, .int miw])), (aPD, .inl (gI G, 48, .inl xpd))] := by
  refine HM.ofW (by decide) (Nat.le_of_ble_eq_true rfl) ?_
  intro p e s m args below meth c A post hpost hC hP hD hS ls hl
  obtain ⟨hx, hb, hr, hml, hown, hts, hlk, hE, hA⟩ := hC
  have hl : lv_has ls 3 [(0, .ref mo)] := hl
  unfold f_X10_goGame at hF
  refine lv_aload_n hx hb dX10_goGame_0 rfl (lv_at hl 0 rfl) ?_
  refine lv_aload_n hx hb dX10_goGame_1 rfl (lv_at hl 0 rfl) ?_
  refine hget hx hb hts hown hE fl_X10_69 hP 0 rfl rfl dX10_goGame_2 ?_
  refine hput hx hb hts hown hE fl_X10_187 ft_X10_12 hP hD hS 0 rfl rfl rfl rfl (Nat.le_of_ble_eq_true rfl) (wn := [(mo, .inr (8, [.long mbd, .int mby, .int mgr, .int mol, .ref aMM, .ref aMT, .int mmy, .ref aPD, .int mpm, .long mrd, .int mbm, .int mbw, .long mbd, .ref aST, .ref aPL, .ref aRS, .ref aLA, .ref aBM, .int msm, .ref aRP, .ref aFI, .ref aFM, .ref aGB, .ref aGM, .ref aGV, .ref aGR, .int mgs, .ref aKB, .ref aKP, .ref aIK, .int mka, .int miw])), (aPD, .inl (gI G, 48, .inl xpd))]) rfl dX10_goGame_5 (fun H locs hP hD hS => ?_)
  refine lv_aload_n hx hb dX10_goGame_8 rfl (lv_at hl 0 rfl) ?_
  refine lv_bipush (v := (-6)) hx hb dX10_goGame_9 (by decide) ?_
  refine hput hx hb hts hown hE fl_X10_196 ft_X10_10 hP hD hS 0 rfl rfl rfl rfl (Nat.le_of_ble_eq_true rfl) (wn := [(mo, .inr (8, [.long mbd, .int mby, .int mgr, .int mol, .ref aMM, .ref aMT, .int mmy, .ref aPD, .int mpm, .long mrd, .int (-6), .int mbw, .long mbd, .ref aST, .ref aPL, .ref aRS, .ref aLA, .ref aBM, .int msm, .ref aRP, .ref aFI, .ref aFM, .ref aGB, .ref aGM, .ref aGV, .ref aGR, .int mgs, .ref aKB, .ref aKP, .ref aIK, .int mka, .int miw])), (aPD, .inl (gI G, 48, .inl xpd))]) rfl dX10_goGame_11 (fun H locs hP hD hS => ?_)
  refine lv_aload_n hx hb dX10_goGame_14 rfl (lv_at hl 0 rfl) ?_
  refine lv_bipush (v := (-6)) hx hb dX10_goGame_15 (by decide) ?_
  refine hput hx hb hts hown hE fl_X10_199 ft_X10_11 hP hD hS 0 rfl rfl rfl rfl (Nat.le_of_ble_eq_true rfl) (wn := [(mo, .inr (8, [.long mbd, .int mby, .int mgr, .int mol, .ref aMM, .ref aMT, .int mmy, .ref aPD, .int mpm, .long mrd, .int (-6), .int (-6), .long mbd, .ref aST, .ref aPL, .ref aRS, .ref aLA, .ref aBM, .int msm, .ref aRP, .ref aFI, .ref aFM, .ref aGB, .ref aGM, .ref aGV, .ref aGR, .int mgs, .ref aKB, .ref aKP, .ref aIK, .int mka, .int miw])), (aPD, .inl (gI G, 48, .inl xpd))]) rfl dX10_goGame_17 (fun H locs hP hD hS => ?_)
  refine lv_iconst (v := 0) hx hb dX10_goGame_20 (by decide) ?_
  refine lv_istore_n (lv' := [(1, .int 0), (0, .ref mo)]) hx hb dX10_goGame_21 rfl hl (by decide) rfl (fun ls hl => ?_)
  have hL22 : ∀ (n22 : Nat) (x1_1 : Int32) (mbm_2 : Int32) (mbw_3 : Int32) (mpl_4 : Int64) (H : Heap) (locs : List Loc) (ls : Array Slot), f_X10_goGame_L22 mby mgr mol mpm xpd n22 x1_1 mbm_2 mbw_3 mpl_4 = some r → va_P (gD G) vwCl [(mo, .inr (8, [.long mbd, .int mby, .int mgr, .int mol, .ref aMM, .ref aMT, .int mmy, .ref aPD, .int mpm, .long mrd, .int mbm_2, .int mbw_3, .long mpl_4, .ref aST, .ref aPL, .ref aRS, .ref aLA, .ref aBM, .int msm, .ref aRP, .ref aFI, .ref aFM, .ref aGB, .ref aGM, .ref aGV, .ref aGR, .int mgs, .ref aKB, .ref aKP, .ref aIK, .int mka, .int miw])), (aPD, .inl (gI G, 48, .inl xpd))] H → va_D A [(mo, .inr (8, [.long mbd, .int mby, .int mgr, .int mol, .ref aMM, .ref aMT, .int mmy, .ref aPD, .int mpm, .long mrd, .int mbm_2, .int mbw_3, .long mpl_4, .ref aST, .ref aPL, .ref aRS, .ref aLA, .ref aBM, .int msm, .ref aRP, .ref aFI, .ref aFM, .ref aGB, .ref aGM, .ref aGV, .ref aGR, .int mgs, .ref aKB, .ref aKP, .ref aIK, .int mka, .int miw])), (aPD, .inl (gI G, 48, .inl xpd))] → va_S A s.heap H locs → lv_has ls 3 [(0, .ref mo), (1, .int x1_1)] → W p l e rm_X10_goGame s m args below meth c H locs 0 0 (MQ below (HXq G post A) args s 0 0 A) (F0 m 22 ls []) := by
    intro n22
    induction n22 with
    | zero =>
      intro x1_1 mbm_2 mbw_3 mpl_4 H locs ls hF
      exact absurd hF (fun h => by cases h)
    | succ n22 ih22 =>
      intro x1_1 mbm_2 mbw_3 mpl_4 H locs ls hF hP hD hS hl
      unfold f_X10_goGame_L22 at hF
      refine lv_iconst (v := 4) hx hb dX10_goGame_22 (by decide) ?_
      refine lv_iload_n hx hb dX10_goGame_23 rfl (lv_at hl 1 rfl) ?_
      refine lv_imul hx hb dX10_goGame_24 ?_
      refine lv_aload_n hx hb dX10_goGame_25 rfl (lv_at hl 0 rfl) ?_
      refine hget hx hb hts hown hE fl_X10_146 hP 0 rfl rfl dX10_goGame_26 ?_
      refine lv_icmp_ge (tgt := 88) hx hb dX10_goGame_29 (by decide) (fun c_5 => ?_) (fun c_5 => ?_)
      · have hF := ifp hF c_5
        refine lv_iconst (v := 1) hx hb dX10_goGame_88 (by decide) ?_
        have hF := Option.some.inj hF
        subst hF
        exact hm_zret hx hb hr hlk hP hD hS (by decide +kernel) hpost dX10_goGame_89
      · have hF := ifn hF c_5
        refine lv_aload_n hx hb dX10_goGame_32 rfl (lv_at hl 0 rfl) ?_
        refine lv_iload_n hx hb dX10_goGame_33 rfl (lv_at hl 1 rfl) ?_
        obtain ⟨r34_6, hr34_6, hF⟩ := bnd hF
        refine hm_V (wn := [(mo, .inr (8, [.long mbd, .int mby, .int mgr, .int mol, .ref aMM, .ref aMT, .int mmy, .ref aPD, .int mpm, .long mrd, .int mbm_2, .int mbw_3, .long mpl_4, .ref aST, .ref aPL, .ref aRS, .ref aLA, .ref aBM, .int msm, .ref aRP, .ref aFI, .ref aFM, .ref aGB, .ref aGM, .ref aGV, .ref aGR, .int mgs, .ref aKB, .ref aKP, .ref aIK, .int mka, .int miw])), (aPD, .inl (gI G, 48, .inl xpd))]) (wr := []) (rest := []) (sn := [.int r34_6]) hx hb hml hown hts hE hA (k_X10_whyAt G l mo aMM aMT aPD aST aPL aRS aLA aBM aRP aFI aFM aGB aGM aGV aGR aKB aKP aIK mbd mby mgr mol mmy mpm mrd mbm_2 mbw_3 mpl_4 msm mgs mka miw xpd x1_1 r34_6 hr34_6) sm_X10_whyAt mw_942 ⟨rfl, rfl, Nat.le_of_ble_eq_true rfl, Nat.le_of_ble_eq_true rfl⟩ hP hD hS 0 rfl rfl [0, 1] [] [0, 1] rfl rfl rfl (by decide) hl.1 rfl rfl (Nat.le_of_ble_eq_true rfl) dX10_goGame_34 ⟨Nat.le_of_ble_eq_true rfl, Nat.le_of_ble_eq_true rfl⟩ (fun H locs hP hD hS => ?_)
        refine lv_istore_n (lv' := [(2, .int r34_6), (0, .ref mo), (1, .int x1_1)]) hx hb dX10_goGame_37 rfl hl (by decide) rfl (fun ls hl => ?_)
        refine lv_iload_n hx hb dX10_goGame_38 rfl (lv_at hl 0 rfl) ?_
        refine lv_if_lt (tgt := 54) hx hb dX10_goGame_39 (by decide) (fun c_7 => ?_) (fun c_7 => ?_)
        · have hF := ifp hF c_7
          refine lv_aload_n hx hb dX10_goGame_54 rfl (lv_at hl 1 rfl) ?_
          refine lv_aload_n hx hb dX10_goGame_55 rfl (lv_at hl 1 rfl) ?_
          refine hget hx hb hts hown hE fl_X10_187 hP 0 rfl rfl dX10_goGame_56 ?_
          refine lv_aload_n hx hb dX10_goGame_59 rfl (lv_at hl 1 rfl) ?_
          refine hget hx hb hts hown hE fl_X10_187 hP 0 rfl rfl dX10_goGame_60 ?_
          refine lv_aload_n hx hb dX10_goGame_63 rfl (lv_at hl 1 rfl) ?_
          refine lv_iload_n hx hb dX10_goGame_64 rfl (lv_at hl 2 rfl) ?_
          obtain ⟨r65_8, hr65_8, hF⟩ := bnd hF
          refine hm_V (wn := [(mo, .inr (8, [.long mbd, .int mby, .int mgr, .int mol, .ref aMM, .ref aMT, .int mmy, .ref aPD, .int mpm, .long mrd, .int mbm_2, .int mbw_3, .long mpl_4, .ref aST, .ref aPL, .ref aRS, .ref aLA, .ref aBM, .int msm, .ref aRP, .ref aFI, .ref aFM, .ref aGB, .ref aGM, .ref aGV, .ref aGR, .int mgs, .ref aKB, .ref aKP, .ref aIK, .int mka, .int miw])), (aPD, .inl (gI G, 48, .inl xpd))]) (wr := []) (rest := [.long mpl_4, .long mpl_4, .ref mo]) (sn := [.int r65_8, .long mpl_4, .long mpl_4, .ref mo]) hx hb hml hown hts hE hA (k_X10_fromAt G l mo aMM aMT aPD aST aPL aRS aLA aBM aRP aFI aFM aGB aGM aGV aGR aKB aKP aIK mbd mby mgr mol mmy mpm mrd mbm_2 mbw_3 mpl_4 msm mgs mka miw xpd x1_1 r65_8 hr65_8) sm_X10_fromAt mw_946 ⟨rfl, rfl, Nat.le_of_ble_eq_true rfl, Nat.le_of_ble_eq_true rfl⟩ hP hD hS 0 rfl rfl [0, 1] [] [0, 1] rfl rfl rfl (by decide) hl.1 rfl rfl (Nat.le_of_ble_eq_true rfl) dX10_goGame_65 ⟨Nat.le_of_ble_eq_true rfl, Nat.le_of_ble_eq_true rfl⟩ (fun H locs hP hD hS => ?_)
          obtain ⟨r68_9, hr68_9, hF⟩ := bnd hF
          refine hm_S (wn := [(mo, .inr (8, [.long mbd, .int mby, .int mgr, .int mol, .ref aMM, .ref aMT, .int mmy, .ref aPD, .int mpm, .long mrd, .int mbm_2, .int mbw_3, .long mpl_4, .ref aST, .ref aPL, .ref aRS, .ref aLA, .ref aBM, .int msm, .ref aRP, .ref aFI, .ref aFM, .ref aGB, .ref aGM, .ref aGV, .ref aGR, .int mgs, .ref aKB, .ref aKP, .ref aIK, .int mka, .int miw])), (aPD, .inl (gI G, 48, .inl xpd))]) (wr := [(mo, .inr (8, [.long mbd, .int mby, .int mgr, .int mol, .ref aMM, .ref aMT, .int mmy, .ref aPD, .int mpm, .long mrd, .int mbm_2, .int mbw_3, .long mpl_4, .ref aST, .ref aPL, .ref aRS, .ref aLA, .ref aBM, .int msm, .ref aRP, .ref aFI, .ref aFM, .ref aGB, .ref aGM, .ref aGV, .ref aGR, .int mgs, .ref aKB, .ref aKP, .ref aIK, .int mka, .int miw])), (aPD, .inl (gI G, 48, .inl xpd))]) (rest := [.long mpl_4, .ref mo]) (sn := [.int r68_9, .long mpl_4, .ref mo]) hx hb hml hown hts hE hA (k_X10_manOn G l mpl_4 r65_8 r68_9 hr68_9) sm_X10_manOn mw_860 ⟨rfl, rfl, Nat.le_of_ble_eq_true rfl, Nat.le_of_ble_eq_true rfl⟩ hP hD hS [] [0, 1] [0, 1] rfl rfl rfl (by decide) hl.1 rfl rfl (Nat.le_of_ble_eq_true rfl) dX10_goGame_68 ⟨Nat.le_of_ble_eq_true rfl, Nat.le_of_ble_eq_true rfl⟩ (fun H locs hP hD hS => ?_)
          refine lv_aload_n hx hb dX10_goGame_71 rfl (lv_at hl 1 rfl) ?_
          refine lv_iload_n hx hb dX10_goGame_72 rfl (lv_at hl 2 rfl) ?_
          obtain ⟨r73_10, hr73_10, hF⟩ := bnd hF
          refine hm_V (wn := [(mo, .inr (8, [.long mbd, .int mby, .int mgr, .int mol, .ref aMM, .ref aMT, .int mmy, .ref aPD, .int mpm, .long mrd, .int mbm_2, .int mbw_3, .long mpl_4, .ref aST, .ref aPL, .ref aRS, .ref aLA, .ref aBM, .int msm, .ref aRP, .ref aFI, .ref aFM, .ref aGB, .ref aGM, .ref aGV, .ref aGR, .int mgs, .ref aKB, .ref aKP, .ref aIK, .int mka, .int miw])), (aPD, .inl (gI G, 48, .inl xpd))]) (wr := []) (rest := [.int r68_9, .long mpl_4, .ref mo]) (sn := [.int r73_10, .int r68_9, .long mpl_4, .ref mo]) hx hb hml hown hts hE hA (k_X10_toAt G l mo aMM aMT aPD aST aPL aRS aLA aBM aRP aFI aFM aGB aGM aGV aGR aKB aKP aIK mbd mby mgr mol mmy mpm mrd mbm_2 mbw_3 mpl_4 msm mgs mka miw xpd x1_1 r73_10 hr73_10) sm_X10_toAt mw_950 ⟨rfl, rfl, Nat.le_of_ble_eq_true rfl, Nat.le_of_ble_eq_true rfl⟩ hP hD hS 0 rfl rfl [0, 1] [] [0, 1] rfl rfl rfl (by decide) hl.1 rfl rfl (Nat.le_of_ble_eq_true rfl) dX10_goGame_73 ⟨Nat.le_of_ble_eq_true rfl, Nat.le_of_ble_eq_true rfl⟩ (fun H locs hP hD hS => ?_)
          obtain ⟨r76_11, hr76_11, hF⟩ := bnd hF
          refine hm_S (wn := [(mo, .inr (8, [.long mbd, .int mby, .int mgr, .int mol, .ref aMM, .ref aMT, .int mmy, .ref aPD, .int mpm, .long mrd, .int mbm_2, .int mbw_3, .long mpl_4, .ref aST, .ref aPL, .ref aRS, .ref aLA, .ref aBM, .int msm, .ref aRP, .ref aFI, .ref aFM, .ref aGB, .ref aGM, .ref aGV, .ref aGR, .int mgs, .ref aKB, .ref aKP, .ref aIK, .int mka, .int miw])), (aPD, .inl (gI G, 48, .inl xpd))]) (wr := [(mo, .inr (8, [.long mbd, .int mby, .int mgr, .int mol, .ref aMM, .ref aMT, .int mmy, .ref aPD, .int mpm, .long mrd, .int mbm_2, .int mbw_3, .long mpl_4, .ref aST, .ref aPL, .ref aRS, .ref aLA, .ref aBM, .int msm, .ref aRP, .ref aFI, .ref aFM, .ref aGB, .ref aGM, .ref aGV, .ref aGR, .int mgs, .ref aKB, .ref aKP, .ref aIK, .int mka, .int miw])), (aPD, .inl (gI G, 48, .inl xpd))]) (rest := [.ref mo]) (sn := [.long r76_11, .ref mo]) hx hb hml hown hts hE hA (k_X10_gone G l mpl_4 r68_9 r73_10 r76_11 hr76_11) sm_X10_gone mw_954 ⟨rfl, rfl, Nat.le_of_ble_eq_true rfl, Nat.le_of_ble_eq_true rfl⟩ hP hD hS [] [0, 1] [0, 1] rfl rfl rfl (by decide) hl.1 rfl rfl (Nat.le_of_ble_eq_true rfl) dX10_goGame_76 ⟨Nat.le_of_ble_eq_true rfl, Nat.le_of_ble_eq_true rfl⟩ (fun H locs hP hD hS => ?_)
          refine hput hx hb hts hown hE fl_X10_187 ft_X10_12 hP hD hS 0 rfl rfl rfl rfl (Nat.le_of_ble_eq_true rfl) (wn := [(mo, .inr (8, [.long mbd, .int mby, .int mgr, .int mol, .ref aMM, .ref aMT, .int mmy, .ref aPD, .int mpm, .long mrd, .int mbm_2, .int mbw_3, .long r76_11, .ref aST, .ref aPL, .ref aRS, .ref aLA, .ref aBM, .int msm, .ref aRP, .ref aFI, .ref aFM, .ref aGB, .ref aGM, .ref aGV, .ref aGR, .int mgs, .ref aKB, .ref aKP, .ref aIK, .int mka, .int miw])), (aPD, .inl (gI G, 48, .inl xpd))]) rfl dX10_goGame_79 (fun H locs hP hD hS => ?_)
          obtain ⟨v1_12, ev1_12⟩ : ∃ z : Int32, z = x1_1 + 1 := ⟨_, rfl⟩
          have hF := jl hF ev1_12
          refine lv_iinc (v := v1_12) (lv' := [(1, .int v1_12), (2, .int r34_6), (0, .ref mo)]) hx hb dX10_goGame_82 hl (k := 2) rfl (by rw [ev1_12]; rfl) (by decide) rfl (fun ls hl => ?_)
          refine lv_goto (tgt := 22) hx hb dX10_goGame_85 (by decide) ?_
          exact ih22 v1_12 mbm_2 mbw_3 r76_11 _ _ _ hF hP hD hS (lv_sub hl [2, 0] rfl)
        · have hF := ifn hF c_7
          refine lv_aload_n hx hb dX10_goGame_42 rfl (lv_at hl 1 rfl) ?_
          refine lv_iload_n hx hb dX10_goGame_43 rfl (lv_at hl 2 rfl) ?_
          refine hput hx hb hts hown hE fl_X10_196 ft_X10_10 hP hD hS 0 rfl rfl rfl rfl (Nat.le_of_ble_eq_true rfl) (wn := [(mo, .inr (8, [.long mbd, .int mby, .int mgr, .int mol, .ref aMM, .ref aMT, .int mmy, .ref aPD, .int mpm, .long mrd, .int x1_1, .int mbw_3, .long mpl_4, .ref aST, .ref aPL, .ref aRS, .ref aLA, .ref aBM, .int msm, .ref aRP, .ref aFI, .ref aFM, .ref aGB, .ref aGM, .ref aGV, .ref aGR, .int mgs, .ref aKB, .ref aKP, .ref aIK, .int mka, .int miw])), (aPD, .inl (gI G, 48, .inl xpd))]) rfl dX10_goGame_44 (fun H locs hP hD hS => ?_)
          refine lv_aload_n hx hb dX10_goGame_47 rfl (lv_at hl 1 rfl) ?_
          refine lv_iload_n hx hb dX10_goGame_48 rfl (lv_at hl 0 rfl) ?_
          refine hput hx hb hts hown hE fl_X10_199 ft_X10_11 hP hD hS 0 rfl rfl rfl rfl (Nat.le_of_ble_eq_true rfl) (wn := [(mo, .inr (8, [.long mbd, .int mby, .int mgr, .int mol, .ref aMM, .ref aMT, .int mmy, .ref aPD, .int mpm, .long mrd, .int x1_1, .int r34_6, .long mpl_4, .ref aST, .ref aPL, .ref aRS, .ref aLA, .ref aBM, .int msm, .ref aRP, .ref aFI, .ref aFM, .ref aGB, .ref aGM, .ref aGV, .ref aGR, .int mgs, .ref aKB, .ref aKP, .ref aIK, .int mka, .int miw])), (aPD, .inl (gI G, 48, .inl xpd))]) rfl dX10_goGame_49 (fun H locs hP hD hS => ?_)
          refine lv_iconst (v := 0) hx hb dX10_goGame_52 (by decide) ?_
          have hF := Option.some.inj hF
          subst hF
          exact hm_zret hx hb hr hlk hP hD hS (by decide +kernel) hpost dX10_goGame_53
  exact hL22 _ 0 (-6) (-6) mbd _ _ _ hF hP hD hS (lv_sub hl [1, 0] rfl)
def f_X10_judge (mbd : Int64) (mby : Int32) (mgr : Int32) (mol : Int32) (mpm : Int32) (mbm : Int32) (mbw : Int32) (mpl : Int64) (xpd : (Nat → Int32)) (wh : Int32) : Option (Int32 × Int64 × Int32 × Int32) :=
  if (f_X10_in (wh.toInt64) 0 1) = 0 then some ((-2), mpl, mbm, mbw) else Option.bind (f_X10_faultOfGame mpm xpd) (fun r14_2 => if r14_2 < 0 then Option.bind (f_X10_goGame mbd mby mgr mol mpm xpd) (fun r24_4 => if wh = 0 then some (r24_4.2.2.1, r24_4.2.1, r24_4.2.2.1, r24_4.2.2.2) else some (r24_4.2.2.2, r24_4.2.1, r24_4.2.2.1, r24_4.2.2.2)) else some ((-5), mpl, mbm, mbw))
abbrev rm_X10_judge : Room := { frames := 10, cells := 0, slots := 0, locals := 240 }
set_option maxHeartbeats 4000000 in
set_option maxRecDepth 100000 in
theorem k_X10_judge (G : gT) (l : Launch) (mo : Nat) (aMM : Nat) (aMT : Nat) (aPD : Nat) (aST : Nat) (aPL : Nat) (aRS : Nat) (aLA : Nat) (aBM : Nat) (aRP : Nat) (aFI : Nat) (aFM : Nat) (aGB : Nat) (aGM : Nat) (aGV : Nat) (aGR : Nat) (aKB : Nat) (aKP : Nat) (aIK : Nat) (mbd : Int64) (mby : Int32) (mgr : Int32) (mol : Int32) (mmy : Int32) (mpm : Int32) (mrd : Int64) (mbm : Int32) (mbw : Int32) (mpl : Int64) (msm : Int32) (mgs : Int32) (mka : Int32) (miw : Int32) (xpd : (Nat → Int32)) (wh : Int32) (r : Int32 × Int64 × Int32 × Int32) (hF : f_X10_judge mbd mby mgr mol mpm mbm mbw mpl xpd wh = some r) : HM G l yX10_judge (.code yX10_judge cX10_judge 2 (some .int) :: UW) rm_X10_judge 0 0 [.ref mo, .int wh] [(mo, .inr (8, [.long mbd, .int mby, .int mgr, .int mol, .ref aMM, .ref aMT, .int mmy, .ref aPD, .int mpm, .long mrd, .int mbm, .int mbw, .long mpl, .ref aST, .ref aPL, .ref aRS, .ref aLA, .ref aBM, .int msm, .ref aRP, .ref aFI, .ref aFM, .ref aGB, .ref aGM, .ref aGV, .ref aGR, .int mgs, .ref aKB, .ref aKP, .ref aIK, .int mka, .int miw])), (aPD, .inl (gI G, 48, .inl xpd))] (some (.int r.1)) [(mo, .inr (8, [.long mbd, .int mby, .int mgr, .int mol, .ref aMM, .ref aMT, .int mmy, .ref aPD, .int mpm, .long mrd, .int r.2.2.1, .int r.2.2.2, .long r.2.1, .ref aST, .ref aPL, .ref aRS, .ref aLA, .ref aBM, .int msm, .ref aRP, .ref aFI, .ref aFM, .ref aGB, .ref aGM, .ref aGV, .ref aGR, .int mgs, .ref aKB, .ref aKP, .ref aIK, .int mka, .int miw])), (aPD, .inl (gI G, 48, .inl xpd))] := by
  refine HM.ofW (by decide) (Nat.le_of_ble_eq_true rfl) ?_
  intro p e s m args below meth c A post hpost hC hP hD hS ls hl
  obtain ⟨hx, hb, hr, hml, hown, hts, hlk, hE, hA⟩ := hC
  have hl : lv_has ls 2 [(0, .ref mo), (1, .int wh)] := hl
  unfold f_X10_judge at hF
  refine lv_iload_n hx hb dX10_judge_0 rfl (lv_at hl 1 rfl) ?_
  refine lv_i2l (v := (wh.toInt64)) hx hb dX10_judge_1 rfl ?_
  refine lv_lconst (v := 0) hx hb dX10_judge_2 (by decide) ?_
  refine lv_lconst (v := 1) hx hb dX10_judge_3 (by decide) ?_
  refine hm_S (wn := [(mo, .inr (8, [.long mbd, .int mby, .int mgr, .int mol, .ref aMM, .ref aMT, .int mmy, .ref aPD, .int mpm, .long mrd, .int mbm, .int mbw, .long mpl, .ref aST, .ref aPL, .ref aRS, .ref aLA, .ref aBM, .int msm, .ref aRP, .ref aFI, .ref aFM, .ref aGB, .ref aGM, .ref aGV, .ref aGR, .int mgs, .ref aKB, .ref aKP, .ref aIK, .int mka, .int miw])), (aPD, .inl (gI G, 48, .inl xpd))]) (wr := [(mo, .inr (8, [.long mbd, .int mby, .int mgr, .int mol, .ref aMM, .ref aMT, .int mmy, .ref aPD, .int mpm, .long mrd, .int mbm, .int mbw, .long mpl, .ref aST, .ref aPL, .ref aRS, .ref aLA, .ref aBM, .int msm, .ref aRP, .ref aFI, .ref aFM, .ref aGB, .ref aGM, .ref aGV, .ref aGR, .int mgs, .ref aKB, .ref aKP, .ref aIK, .int mka, .int miw])), (aPD, .inl (gI G, 48, .inl xpd))]) (rest := []) (sn := [.int (f_X10_in (wh.toInt64) 0 1)]) hx hb hml hown hts hE hA (k_X10_in G l (wh.toInt64) 0 1 _ rfl) sm_X10_in mw_833 ⟨rfl, rfl, Nat.le_of_ble_eq_true rfl, Nat.le_of_ble_eq_true rfl⟩ hP hD hS [] [0, 1] [0, 1] rfl rfl rfl (by decide) hl.1 rfl rfl (Nat.le_of_ble_eq_true rfl) dX10_judge_4 ⟨Nat.le_of_ble_eq_true rfl, Nat.le_of_ble_eq_true rfl⟩ (fun H locs hP hD hS => ?_)
  refine lv_if_ne (tgt := 13) hx hb dX10_judge_7 (by decide) (fun c_1 => ?_) (fun c_1 => ?_)
  · have hF := ifn hF c_1
    refine lv_aload_n hx hb dX10_judge_13 rfl (lv_at hl 0 rfl) ?_
    obtain ⟨r14_2, hr14_2, hF⟩ := bnd hF
    refine hm_V (wn := [(mo, .inr (8, [.long mbd, .int mby, .int mgr, .int mol, .ref aMM, .ref aMT, .int mmy, .ref aPD, .int mpm, .long mrd, .int mbm, .int mbw, .long mpl, .ref aST, .ref aPL, .ref aRS, .ref aLA, .ref aBM, .int msm, .ref aRP, .ref aFI, .ref aFM, .ref aGB, .ref aGM, .ref aGV, .ref aGR, .int mgs, .ref aKB, .ref aKP, .ref aIK, .int mka, .int miw])), (aPD, .inl (gI G, 48, .inl xpd))]) (wr := []) (rest := []) (sn := [.int r14_2]) hx hb hml hown hts hE hA (k_X10_faultOfGame G l mo aMM aMT aPD aST aPL aRS aLA aBM aRP aFI aFM aGB aGM aGV aGR aKB aKP aIK mbd mby mgr mol mmy mpm mrd mbm mbw mpl msm mgs mka miw xpd r14_2 hr14_2) sm_X10_faultOfGame mw_865 ⟨rfl, rfl, Nat.le_of_ble_eq_true rfl, Nat.le_of_ble_eq_true rfl⟩ hP hD hS 0 rfl rfl [0, 1] [] [0, 1] rfl rfl rfl (by decide) hl.1 rfl rfl (Nat.le_of_ble_eq_true rfl) dX10_judge_14 ⟨Nat.le_of_ble_eq_true rfl, Nat.le_of_ble_eq_true rfl⟩ (fun H locs hP hD hS => ?_)
    refine lv_if_lt (tgt := 23) hx hb dX10_judge_17 (by decide) (fun c_3 => ?_) (fun c_3 => ?_)
    · have hF := ifp hF c_3
      refine lv_aload_n hx hb dX10_judge_23 rfl (lv_at hl 0 rfl) ?_
      obtain ⟨r24_4, hr24_4, hF⟩ := bnd hF
      refine hm_V (wn := [(mo, .inr (8, [.long mbd, .int mby, .int mgr, .int mol, .ref aMM, .ref aMT, .int mmy, .ref aPD, .int mpm, .long mrd, .int r24_4.2.2.1, .int r24_4.2.2.2, .long r24_4.2.1, .ref aST, .ref aPL, .ref aRS, .ref aLA, .ref aBM, .int msm, .ref aRP, .ref aFI, .ref aFM, .ref aGB, .ref aGM, .ref aGV, .ref aGR, .int mgs, .ref aKB, .ref aKP, .ref aIK, .int mka, .int miw])), (aPD, .inl (gI G, 48, .inl xpd))]) (wr := []) (rest := []) (sn := [.int r24_4.1]) hx hb hml hown hts hE hA (k_X10_goGame G l mo aMM aMT aPD aST aPL aRS aLA aBM aRP aFI aFM aGB aGM aGV aGR aKB aKP aIK mbd mby mgr mol mmy mpm mrd mbm mbw mpl msm mgs mka miw xpd r24_4 hr24_4) sm_X10_goGame mw_938 ⟨rfl, rfl, Nat.le_of_ble_eq_true rfl, Nat.le_of_ble_eq_true rfl⟩ hP hD hS 0 rfl rfl [0, 1] [] [0, 1] rfl rfl rfl (by decide) hl.1 rfl rfl (Nat.le_of_ble_eq_true rfl) dX10_judge_24 ⟨Nat.le_of_ble_eq_true rfl, Nat.le_of_ble_eq_true rfl⟩ (fun H locs hP hD hS => ?_)
      refine lv_pop hx hb dX10_judge_27 rfl ?_
      refine lv_iload_n hx hb dX10_judge_28 rfl (lv_at hl 1 rfl) ?_
      refine lv_if_ne (tgt := 39) hx hb dX10_judge_29 (by decide) (fun c_5 => ?_) (fun c_5 => ?_)
      · have hF := ifn hF c_5
        refine lv_aload_n hx hb dX10_judge_39 rfl (lv_at hl 0 rfl) ?_
        refine hget hx hb hts hown hE fl_X10_199 hP 0 rfl rfl dX10_judge_40 ?_
        have hF := Option.some.inj hF
        subst hF
        exact hm_iret hx hb hr hlk hP hD hS hpost dX10_judge_43
      · have hF := ifp hF c_5
        refine lv_aload_n hx hb dX10_judge_32 rfl (lv_at hl 0 rfl) ?_
        refine hget hx hb hts hown hE fl_X10_196 hP 0 rfl rfl dX10_judge_33 ?_
        refine lv_goto (tgt := 43) hx hb dX10_judge_36 (by decide) ?_
        have hF := Option.some.inj hF
        subst hF
        exact hm_iret hx hb hr hlk hP hD hS hpost dX10_judge_43
    · have hF := ifn hF c_3
      refine lv_bipush (v := (-5)) hx hb dX10_judge_20 (by decide) ?_
      have hF := Option.some.inj hF
      subst hF
      exact hm_iret hx hb hr hlk hP hD hS hpost dX10_judge_22
  · have hF := ifp hF c_1
    refine lv_bipush (v := (-2)) hx hb dX10_judge_10 (by decide) ?_
    have hF := Option.some.inj hF
    subst hF
    exact hm_iret hx hb hr hlk hP hD hS hpost dX10_judge_12
def f_X10_play (mbd : Int64) (mby : Int32) (mgr : Int32) (mol : Int32) (mpm : Int32) (mbm : Int32) (mbw : Int32) (mpl : Int64) (xpd : (Nat → Int32)) : Option (Int32 × Int64 × Int32 × Int64 × Int32 × Int32) :=
  Option.bind (f_X10_faultOfGame mpm xpd) (fun r1_1 => if 0 ≤ r1_1 then some ((-5), mbd, mpm, mpl, mbm, mbw) else Option.bind (f_X10_goGame mbd mby mgr mol mpm xpd) (fun r8_3 => if r8_3.1 = 0 then some ((-5), mbd, mpm, r8_3.2.1, r8_3.2.2.1, r8_3.2.2.2) else jlet (mpm / 4) (fun v1_5 => jlet r8_3.2.1 (fun u29_6 => some (v1_5, u29_6, 0, r8_3.2.1, r8_3.2.2.1, r8_3.2.2.2)))))
abbrev rm_X10_play : Room := { frames := 10, cells := 0, slots := 0, locals := 240 }
set_option maxHeartbeats 4000000 in
set_option maxRecDepth 100000 in
theorem k_X10_play (G : gT) (l : Launch) (mo : Nat) (aMM : Nat) (aMT : Nat) (aPD : Nat) (aST : Nat) (aPL : Nat) (aRS : Nat) (aLA : Nat) (aBM : Nat) (aRP : Nat) (aFI : Nat) (aFM : Nat) (aGB : Nat) (aGM : Nat) (aGV : Nat) (aGR : Nat) (aKB : Nat) (aKP : Nat) (aIK : Nat) (mbd : Int64) (mby : Int32) (mgr : Int32) (mol : Int32) (mmy : Int32) (mpm : Int32) (mrd : Int64) (mbm : Int32) (mbw : Int32) (mpl : Int64) (msm : Int32) (mgs : Int32) (mka : Int32) (miw : Int32) (xpd : (Nat → Int32)) (r : Int32 × Int64 × Int32 × Int64 × Int32 × Int32) (hF : f_X10_play mbd mby mgr mol mpm mbm mbw mpl xpd = some r) : HM G l yX10_play (.code yX10_play cX10_play 2 (some .int) :: UW) rm_X10_play 0 0 [.ref mo] [(mo, .inr (8, [.long mbd, .int mby, .int mgr, .int mol, .ref aMM, .ref aMT, .int mmy, .ref aPD, .int mpm, .long mrd, .int mbm, .int mbw, .long mpl, .ref aST, .ref aPL, .ref aRS, .ref aLA, .ref aBM, .int msm, .ref aRP, .ref aFI, .ref aFM, .ref aGB, .ref aGM, .ref aGV, .ref aGR, .int mgs, .ref aKB, .ref aKP, .ref aIK, .int mka, .int miw])), (aPD, .inl (gI G, 48, .inl xpd))] (some (.int r.1)) [(mo, .inr (8, [.long r.2.1, .int mby, .int mgr, .int mol, .ref aMM, .ref aMT, .int mmy, .ref aPD, .int r.2.2.1, .long mrd, .int r.2.2.2.2.1, .int r.2.2.2.2.2, .long r.2.2.2.1, .ref aST, .ref aPL, .ref aRS, .ref aLA, .ref aBM, .int msm, .ref aRP, .ref aFI, .ref aFM, .ref aGB, .ref aGM, .ref aGV, .ref aGR, .int mgs, .ref aKB, .ref aKP, .ref aIK, .int mka, .int miw])), (aPD, .inl (gI G, 48, .inl xpd))] := by
  refine HM.ofW (by decide) (Nat.le_of_ble_eq_true rfl) ?_
  intro p e s m args below meth c A post hpost hC hP hD hS ls hl
  obtain ⟨hx, hb, hr, hml, hown, hts, hlk, hE, hA⟩ := hC
  have hl : lv_has ls 2 [(0, .ref mo)] := hl
  unfold f_X10_play at hF
  refine lv_aload_n hx hb dX10_play_0 rfl (lv_at hl 0 rfl) ?_
  obtain ⟨r1_1, hr1_1, hF⟩ := bnd hF
  refine hm_V (wn := [(mo, .inr (8, [.long mbd, .int mby, .int mgr, .int mol, .ref aMM, .ref aMT, .int mmy, .ref aPD, .int mpm, .long mrd, .int mbm, .int mbw, .long mpl, .ref aST, .ref aPL, .ref aRS, .ref aLA, .ref aBM, .int msm, .ref aRP, .ref aFI, .ref aFM, .ref aGB, .ref aGM, .ref aGV, .ref aGR, .int mgs, .ref aKB, .ref aKP, .ref aIK, .int mka, .int miw])), (aPD, .inl (gI G, 48, .inl xpd))]) (wr := []) (rest := []) (sn := [.int r1_1]) hx hb hml hown hts hE hA (k_X10_faultOfGame G l mo aMM aMT aPD aST aPL aRS aLA aBM aRP aFI aFM aGB aGM aGV aGR aKB aKP aIK mbd mby mgr mol mmy mpm mrd mbm mbw mpl msm mgs mka miw xpd r1_1 hr1_1) sm_X10_faultOfGame mw_865 ⟨rfl, rfl, Nat.le_of_ble_eq_true rfl, Nat.le_of_ble_eq_true rfl⟩ hP hD hS 0 rfl rfl [0, 1] [] [0, 1] rfl rfl rfl (by decide) hl.1 rfl rfl (Nat.le_of_ble_eq_true rfl) dX10_play_1 ⟨Nat.le_of_ble_eq_true rfl, Nat.le_of_ble_eq_true rfl⟩ (fun H locs hP hD hS => ?_)
  refine lv_if_ge (tgt := 14) hx hb dX10_play_4 (by decide) (fun c_2 => ?_) (fun c_2 => ?_)
  · have hF := ifp hF c_2
    refine lv_bipush (v := (-5)) hx hb dX10_play_14 (by decide) ?_
    have hF := Option.some.inj hF
    subst hF
    exact hm_iret hx hb hr hlk hP hD hS hpost dX10_play_16
  · have hF := ifn hF c_2
    refine lv_aload_n hx hb dX10_play_7 rfl (lv_at hl 0 rfl) ?_
    obtain ⟨r8_3, hr8_3, hF⟩ := bnd hF
    refine hm_V (wn := [(mo, .inr (8, [.long mbd, .int mby, .int mgr, .int mol, .ref aMM, .ref aMT, .int mmy, .ref aPD, .int mpm, .long mrd, .int r8_3.2.2.1, .int r8_3.2.2.2, .long r8_3.2.1, .ref aST, .ref aPL, .ref aRS, .ref aLA, .ref aBM, .int msm, .ref aRP, .ref aFI, .ref aFM, .ref aGB, .ref aGM, .ref aGV, .ref aGR, .int mgs, .ref aKB, .ref aKP, .ref aIK, .int mka, .int miw])), (aPD, .inl (gI G, 48, .inl xpd))]) (wr := []) (rest := []) (sn := [.int r8_3.1]) hx hb hml hown hts hE hA (k_X10_goGame G l mo aMM aMT aPD aST aPL aRS aLA aBM aRP aFI aFM aGB aGM aGV aGR aKB aKP aIK mbd mby mgr mol mmy mpm mrd mbm mbw mpl msm mgs mka miw xpd r8_3 hr8_3) sm_X10_goGame mw_938 ⟨rfl, rfl, Nat.le_of_ble_eq_true rfl, Nat.le_of_ble_eq_true rfl⟩ hP hD hS 0 rfl rfl [0, 1] [] [0, 1] rfl rfl rfl (by decide) hl.1 rfl rfl (Nat.le_of_ble_eq_true rfl) dX10_play_8 ⟨Nat.le_of_ble_eq_true rfl, Nat.le_of_ble_eq_true rfl⟩ (fun H locs hP hD hS => ?_)
    refine lv_if_ne (tgt := 17) hx hb dX10_play_11 (by decide) (fun c_4 => ?_) (fun c_4 => ?_)
    · have hF := ifn hF c_4
      refine lv_aload_n hx hb dX10_play_17 rfl (lv_at hl 0 rfl) ?_
      refine hget hx hb hts hown hE fl_X10_146 hP 0 rfl rfl dX10_play_18 ?_
      refine lv_iconst (v := 4) hx hb dX10_play_21 (by decide) ?_
      refine lv_idiv hx hb dX10_play_22 (by decide) ?_
      refine lv_topi (fun v1_5 ev1_5 => ?_)
      have hF := jl hF ev1_5
      refine lv_istore_n (lv' := [(1, .int v1_5), (0, .ref mo)]) hx hb dX10_play_23 rfl hl (by decide) rfl (fun ls hl => ?_)
      refine lv_aload_n hx hb dX10_play_24 rfl (lv_at hl 1 rfl) ?_
      refine lv_aload_n hx hb dX10_play_25 rfl (lv_at hl 1 rfl) ?_
      refine hget hx hb hts hown hE fl_X10_187 hP 0 rfl rfl dX10_play_26 ?_
      refine lv_topl (fun u29_6 eu29_6 => ?_)
      have hF := jl hF eu29_6
      refine hput hx hb hts hown hE fl_X10_69 ft_X10_0 hP hD hS 0 rfl rfl rfl rfl (Nat.le_of_ble_eq_true rfl) (wn := [(mo, .inr (8, [.long u29_6, .int mby, .int mgr, .int mol, .ref aMM, .ref aMT, .int mmy, .ref aPD, .int mpm, .long mrd, .int r8_3.2.2.1, .int r8_3.2.2.2, .long r8_3.2.1, .ref aST, .ref aPL, .ref aRS, .ref aLA, .ref aBM, .int msm, .ref aRP, .ref aFI, .ref aFM, .ref aGB, .ref aGM, .ref aGV, .ref aGR, .int mgs, .ref aKB, .ref aKP, .ref aIK, .int mka, .int miw])), (aPD, .inl (gI G, 48, .inl xpd))]) rfl dX10_play_29 (fun H locs hP hD hS => ?_)
      refine lv_aload_n hx hb dX10_play_32 rfl (lv_at hl 1 rfl) ?_
      refine lv_iconst (v := 0) hx hb dX10_play_33 (by decide) ?_
      refine hput hx hb hts hown hE fl_X10_146 ft_X10_8 hP hD hS 0 rfl rfl rfl rfl (Nat.le_of_ble_eq_true rfl) (wn := [(mo, .inr (8, [.long u29_6, .int mby, .int mgr, .int mol, .ref aMM, .ref aMT, .int mmy, .ref aPD, .int 0, .long mrd, .int r8_3.2.2.1, .int r8_3.2.2.2, .long r8_3.2.1, .ref aST, .ref aPL, .ref aRS, .ref aLA, .ref aBM, .int msm, .ref aRP, .ref aFI, .ref aFM, .ref aGB, .ref aGM, .ref aGV, .ref aGR, .int mgs, .ref aKB, .ref aKP, .ref aIK, .int mka, .int miw])), (aPD, .inl (gI G, 48, .inl xpd))]) rfl dX10_play_34 (fun H locs hP hD hS => ?_)
      refine lv_iload_n hx hb dX10_play_37 rfl (lv_at hl 0 rfl) ?_
      have hF := Option.some.inj hF
      subst hF
      exact hm_iret hx hb hr hlk hP hD hS hpost dX10_play_38
    · have hF := ifp hF c_4
      refine lv_bipush (v := (-5)) hx hb dX10_play_14 (by decide) ?_
      have hF := Option.some.inj hF
      subst hF
      exact hm_iret hx hb hr hlk hP hD hS hpost dX10_play_16
def f_X10_moveNumber (xmm : (Nat → Int32)) (xmt : (Nat → Int32)) (st : Int64) (ii : Int32) : Option Int32 :=
  if (ii) < 0 ∨ 75 ≤ (ii).toNatClampNeg then none else if (ii) < 0 ∨ 75 ≤ (ii).toNatClampNeg then none else some ((100 * (f_X10_cellOf st (xmm (ii).toNatClampNeg))) + (xmt (ii).toNatClampNeg))
abbrev rm_X10_moveNumber : Room := { frames := 1, cells := 0, slots := 0, locals := 22 }
set_option maxHeartbeats 4000000 in
set_option maxRecDepth 100000 in
theorem k_X10_moveNumber (G : gT) (l : Launch) (mo : Nat) (aMM : Nat) (aMT : Nat) (aPD : Nat) (aST : Nat) (aPL : Nat) (aRS : Nat) (aLA : Nat) (aBM : Nat) (aRP : Nat) (aFI : Nat) (aFM : Nat) (aGB : Nat) (aGM : Nat) (aGV : Nat) (aGR : Nat) (aKB : Nat) (aKP : Nat) (aIK : Nat) (mbd : Int64) (mby : Int32) (mgr : Int32) (mol : Int32) (mmy : Int32) (mpm : Int32) (mrd : Int64) (mbm : Int32) (mbw : Int32) (mpl : Int64) (msm : Int32) (mgs : Int32) (mka : Int32) (miw : Int32) (xmm : (Nat → Int32)) (xmt : (Nat → Int32)) (st : Int64) (ii : Int32) (r : Int32) (hF : f_X10_moveNumber xmm xmt st ii = some r) : HM G l yX10_moveNumber (.code yX10_moveNumber cX10_moveNumber 4 (some .int) :: UW) rm_X10_moveNumber 0 0 [.ref mo, .long st, .int ii] [(mo, .inr (8, [.long mbd, .int mby, .int mgr, .int mol, .ref aMM, .ref aMT, .int mmy, .ref aPD, .int mpm, .long mrd, .int mbm, .int mbw, .long mpl, .ref aST, .ref aPL, .ref aRS, .ref aLA, .ref aBM, .int msm, .ref aRP, .ref aFI, .ref aFM, .ref aGB, .ref aGM, .ref aGV, .ref aGR, .int mgs, .ref aKB, .ref aKP, .ref aIK, .int mka, .int miw])), (aMM, .inl (gI G, 75, .inl xmm)), (aMT, .inl (gI G, 75, .inl xmt))] (some (.int r)) [(mo, .inr (8, [.long mbd, .int mby, .int mgr, .int mol, .ref aMM, .ref aMT, .int mmy, .ref aPD, .int mpm, .long mrd, .int mbm, .int mbw, .long mpl, .ref aST, .ref aPL, .ref aRS, .ref aLA, .ref aBM, .int msm, .ref aRP, .ref aFI, .ref aFM, .ref aGB, .ref aGM, .ref aGV, .ref aGR, .int mgs, .ref aKB, .ref aKP, .ref aIK, .int mka, .int miw])), (aMM, .inl (gI G, 75, .inl xmm)), (aMT, .inl (gI G, 75, .inl xmt))] := by
  refine HM.ofW (by decide) (Nat.le_of_ble_eq_true rfl) ?_
  intro p e s m args below meth c A post hpost hC hP hD hS ls hl
  obtain ⟨hx, hb, hr, hml, hown, hts, hlk, hE, hA⟩ := hC
  have hl : lv_has ls 4 [(0, .ref mo), (1, .long st), (3, .int ii)] := hl
  unfold f_X10_moveNumber at hF
  refine lv_bipush (v := 100) hx hb dX10_moveNumber_0 (by decide) ?_
  refine lv_lload_n hx hb dX10_moveNumber_2 rfl (lv_at hl 1 rfl) ?_
  refine lv_aload_n hx hb dX10_moveNumber_3 rfl (lv_at hl 0 rfl) ?_
  refine hget hx hb hts hown hE fl_X10_7 hP 0 rfl rfl dX10_moveNumber_4 ?_
  refine lv_iload_n hx hb dX10_moveNumber_7 rfl (lv_at hl 2 rfl) ?_
  obtain ⟨hi_1, hF⟩ := inb hF
  refine hiald hx hb hE hP 1 rfl hi_1 dX10_moveNumber_8 ?_
  refine hm_S (wn := [(mo, .inr (8, [.long mbd, .int mby, .int mgr, .int mol, .ref aMM, .ref aMT, .int mmy, .ref aPD, .int mpm, .long mrd, .int mbm, .int mbw, .long mpl, .ref aST, .ref aPL, .ref aRS, .ref aLA, .ref aBM, .int msm, .ref aRP, .ref aFI, .ref aFM, .ref aGB, .ref aGM, .ref aGV, .ref aGR, .int mgs, .ref aKB, .ref aKP, .ref aIK, .int mka, .int miw])), (aMM, .inl (gI G, 75, .inl xmm)), (aMT, .inl (gI G, 75, .inl xmt))]) (wr := [(mo, .inr (8, [.long mbd, .int mby, .int mgr, .int mol, .ref aMM, .ref aMT, .int mmy, .ref aPD, .int mpm, .long mrd, .int mbm, .int mbw, .long mpl, .ref aST, .ref aPL, .ref aRS, .ref aLA, .ref aBM, .int msm, .ref aRP, .ref aFI, .ref aFM, .ref aGB, .ref aGM, .ref aGV, .ref aGR, .int mgs, .ref aKB, .ref aKP, .ref aIK, .int mka, .int miw])), (aMM, .inl (gI G, 75, .inl xmm)), (aMT, .inl (gI G, 75, .inl xmt))]) (rest := [.int 100]) (sn := [.int (f_X10_cellOf st (xmm (ii).toNatClampNeg)), .int 100]) hx hb hml hown hts hE hA (k_X10_cellOf G l st (xmm (ii).toNatClampNeg) _ rfl) sm_X10_cellOf mw_852 ⟨rfl, rfl, Nat.le_of_ble_eq_true rfl, Nat.le_of_ble_eq_true rfl⟩ hP hD hS [] [0, 1, 2] [0, 1, 2] rfl rfl rfl (by decide) hl.1 rfl rfl (Nat.le_of_ble_eq_true rfl) dX10_moveNumber_9 ⟨Nat.le_of_ble_eq_true rfl, Nat.le_of_ble_eq_true rfl⟩ (fun H locs hP hD hS => ?_)
  refine lv_imul hx hb dX10_moveNumber_12 ?_
  refine lv_aload_n hx hb dX10_moveNumber_13 rfl (lv_at hl 0 rfl) ?_
  refine hget hx hb hts hown hE fl_X10_13 hP 0 rfl rfl dX10_moveNumber_14 ?_
  refine lv_iload_n hx hb dX10_moveNumber_17 rfl (lv_at hl 2 rfl) ?_
  obtain ⟨hi_2, hF⟩ := inb hF
  refine hiald hx hb hE hP 2 rfl hi_2 dX10_moveNumber_18 ?_
  refine lv_iadd hx hb dX10_moveNumber_19 ?_
  have hF := Option.some.inj hF
  subst hF
  exact hm_iret hx hb hr hlk hP hD hS hpost dX10_moveNumber_20
def f_X10_moves (mbd : Int64) (mby : Int32) (mgr : Int32) (mol : Int32) (xmm : (Nat → Int32)) (xmt : (Nat → Int32)) (ii : Int32) : Option (Int32 × Int32 × (Nat → Int32) × (Nat → Int32)) :=
  Option.bind (f_X10_findMoves mby mgr mol xmm xmt mbd) (fun r5_1 => if ii = (-1) then some (r5_1.1, r5_1.1, r5_1.2.1, r5_1.2.2) else if (f_X10_in (ii.toInt64) 0 ((r5_1.1 - 1).toInt64)) = 0 then some ((-6), r5_1.1, r5_1.2.1, r5_1.2.2) else Option.bind (f_X10_moveNumber r5_1.2.1 r5_1.2.2 mbd ii) (fun r42_4 => some (r42_4, r5_1.1, r5_1.2.1, r5_1.2.2)))
abbrev rm_X10_moves : Room := { frames := 9, cells := 0, slots := 0, locals := 221 }
set_option maxHeartbeats 4000000 in
set_option maxRecDepth 100000 in
theorem k_X10_moves (G : gT) (l : Launch) (mo : Nat) (aMM : Nat) (aMT : Nat) (aPD : Nat) (aST : Nat) (aPL : Nat) (aRS : Nat) (aLA : Nat) (aBM : Nat) (aRP : Nat) (aFI : Nat) (aFM : Nat) (aGB : Nat) (aGM : Nat) (aGV : Nat) (aGR : Nat) (aKB : Nat) (aKP : Nat) (aIK : Nat) (mbd : Int64) (mby : Int32) (mgr : Int32) (mol : Int32) (mmy : Int32) (mpm : Int32) (mrd : Int64) (mbm : Int32) (mbw : Int32) (mpl : Int64) (msm : Int32) (mgs : Int32) (mka : Int32) (miw : Int32) (xmm : (Nat → Int32)) (xmt : (Nat → Int32)) (ii : Int32) (r : Int32 × Int32 × (Nat → Int32) × (Nat → Int32)) (hF : f_X10_moves mbd mby mgr mol xmm xmt ii = some r) : HM G l yX10_moves (.code yX10_moves cX10_moves 2 (some .int) :: UW) rm_X10_moves 0 0 [.ref mo, .int ii] [(mo, .inr (8, [.long mbd, .int mby, .int mgr, .int mol, .ref aMM, .ref aMT, .int mmy, .ref aPD, .int mpm, .long mrd, .int mbm, .int mbw, .long mpl, .ref aST, .ref aPL, .ref aRS, .ref aLA, .ref aBM, .int msm, .ref aRP, .ref aFI, .ref aFM, .ref aGB, .ref aGM, .ref aGV, .ref aGR, .int mgs, .ref aKB, .ref aKP, .ref aIK, .int mka, .int miw])), (aMM, .inl (gI G, 75, .inl xmm)), (aMT, .inl (gI G, 75, .inl xmt))] (some (.int r.1)) [(mo, .inr (8, [.long mbd, .int mby, .int mgr, .int mol, .ref aMM, .ref aMT, .int r.2.1, .ref aPD, .int mpm, .long mrd, .int mbm, .int mbw, .long mpl, .ref aST, .ref aPL, .ref aRS, .ref aLA, .ref aBM, .int msm, .ref aRP, .ref aFI, .ref aFM, .ref aGB, .ref aGM, .ref aGV, .ref aGR, .int mgs, .ref aKB, .ref aKP, .ref aIK, .int mka, .int miw])), (aMM, .inl (gI G, 75, .inl r.2.2.1)), (aMT, .inl (gI G, 75, .inl r.2.2.2))] := by
  refine HM.ofW (by decide) (Nat.le_of_ble_eq_true rfl) ?_
  intro p e s m args below meth c A post hpost hC hP hD hS ls hl
  obtain ⟨hx, hb, hr, hml, hown, hts, hlk, hE, hA⟩ := hC
  have hl : lv_has ls 2 [(0, .ref mo), (1, .int ii)] := hl
  unfold f_X10_moves at hF
  refine lv_aload_n hx hb dX10_moves_0 rfl (lv_at hl 0 rfl) ?_
  refine lv_aload_n hx hb dX10_moves_1 rfl (lv_at hl 0 rfl) ?_
  refine hget hx hb hts hown hE fl_X10_69 hP 0 rfl rfl dX10_moves_2 ?_
  obtain ⟨r5_1, hr5_1, hF⟩ := bnd hF
  refine hm_V (wn := [(mo, .inr (8, [.long mbd, .int mby, .int mgr, .int mol, .ref aMM, .ref aMT, .int r5_1.1, .ref aPD, .int mpm, .long mrd, .int mbm, .int mbw, .long mpl, .ref aST, .ref aPL, .ref aRS, .ref aLA, .ref aBM, .int msm, .ref aRP, .ref aFI, .ref aFM, .ref aGB, .ref aGM, .ref aGV, .ref aGR, .int mgs, .ref aKB, .ref aKP, .ref aIK, .int mka, .int miw])), (aMM, .inl (gI G, 75, .inl r5_1.2.1)), (aMT, .inl (gI G, 75, .inl r5_1.2.2))]) (wr := []) (rest := []) (sn := []) hx hb hml hown hts hE hA (k_X10_findMoves G l mo aMM aMT aPD aST aPL aRS aLA aBM aRP aFI aFM aGB aGM aGV aGR aKB aKP aIK mbd mby mgr mol mmy mpm mrd mbm mbw mpl msm mgs mka miw xmm xmt mbd r5_1 hr5_1) sm_X10_findMoves mw_965 ⟨rfl, rfl, Nat.le_of_ble_eq_true rfl, Nat.le_of_ble_eq_true rfl⟩ hP hD hS 0 rfl rfl [0, 1, 2] [] [0, 1, 2] rfl rfl rfl (by decide) hl.1 rfl rfl (Nat.le_of_ble_eq_true rfl) dX10_moves_5 ⟨Nat.le_of_ble_eq_true rfl, Nat.le_of_ble_eq_true rfl⟩ (fun H locs hP hD hS => ?_)
  refine lv_iload_n hx hb dX10_moves_8 rfl (lv_at hl 1 rfl) ?_
  refine lv_iconst (v := (-1)) hx hb dX10_moves_9 (by decide) ?_
  refine lv_icmp_ne (tgt := 20) hx hb dX10_moves_10 (by decide) (fun c_2 => ?_) (fun c_2 => ?_)
  · have hF := ifn hF c_2
    refine lv_iload_n hx hb dX10_moves_20 rfl (lv_at hl 1 rfl) ?_
    refine lv_i2l (v := (ii.toInt64)) hx hb dX10_moves_21 rfl ?_
    refine lv_lconst (v := 0) hx hb dX10_moves_22 (by decide) ?_
    refine lv_aload_n hx hb dX10_moves_23 rfl (lv_at hl 0 rfl) ?_
    refine hget hx hb hts hown hE fl_X10_132 hP 0 rfl rfl dX10_moves_24 ?_
    refine lv_iconst (v := 1) hx hb dX10_moves_27 (by decide) ?_
    refine lv_isub hx hb dX10_moves_28 ?_
    refine lv_i2l (v := ((r5_1.1 - 1).toInt64)) hx hb dX10_moves_29 rfl ?_
    refine hm_S (wn := [(mo, .inr (8, [.long mbd, .int mby, .int mgr, .int mol, .ref aMM, .ref aMT, .int r5_1.1, .ref aPD, .int mpm, .long mrd, .int mbm, .int mbw, .long mpl, .ref aST, .ref aPL, .ref aRS, .ref aLA, .ref aBM, .int msm, .ref aRP, .ref aFI, .ref aFM, .ref aGB, .ref aGM, .ref aGV, .ref aGR, .int mgs, .ref aKB, .ref aKP, .ref aIK, .int mka, .int miw])), (aMM, .inl (gI G, 75, .inl r5_1.2.1)), (aMT, .inl (gI G, 75, .inl r5_1.2.2))]) (wr := [(mo, .inr (8, [.long mbd, .int mby, .int mgr, .int mol, .ref aMM, .ref aMT, .int r5_1.1, .ref aPD, .int mpm, .long mrd, .int mbm, .int mbw, .long mpl, .ref aST, .ref aPL, .ref aRS, .ref aLA, .ref aBM, .int msm, .ref aRP, .ref aFI, .ref aFM, .ref aGB, .ref aGM, .ref aGV, .ref aGR, .int mgs, .ref aKB, .ref aKP, .ref aIK, .int mka, .int miw])), (aMM, .inl (gI G, 75, .inl r5_1.2.1)), (aMT, .inl (gI G, 75, .inl r5_1.2.2))]) (rest := []) (sn := [.int (f_X10_in (ii.toInt64) 0 ((r5_1.1 - 1).toInt64))]) hx hb hml hown hts hE hA (k_X10_in G l (ii.toInt64) 0 ((r5_1.1 - 1).toInt64) _ rfl) sm_X10_in mw_833 ⟨rfl, rfl, Nat.le_of_ble_eq_true rfl, Nat.le_of_ble_eq_true rfl⟩ hP hD hS [] [0, 1, 2] [0, 1, 2] rfl rfl rfl (by decide) hl.1 rfl rfl (Nat.le_of_ble_eq_true rfl) dX10_moves_30 ⟨Nat.le_of_ble_eq_true rfl, Nat.le_of_ble_eq_true rfl⟩ (fun H locs hP hD hS => ?_)
    refine lv_if_eq (tgt := 48) hx hb dX10_moves_33 (by decide) (fun c_3 => ?_) (fun c_3 => ?_)
    · have hF := ifp hF c_3
      refine lv_bipush (v := (-6)) hx hb dX10_moves_48 (by decide) ?_
      have hF := Option.some.inj hF
      subst hF
      exact hm_iret hx hb hr hlk hP hD hS hpost dX10_moves_50
    · have hF := ifn hF c_3
      refine lv_aload_n hx hb dX10_moves_36 rfl (lv_at hl 0 rfl) ?_
      refine lv_aload_n hx hb dX10_moves_37 rfl (lv_at hl 0 rfl) ?_
      refine hget hx hb hts hown hE fl_X10_69 hP 0 rfl rfl dX10_moves_38 ?_
      refine lv_iload_n hx hb dX10_moves_41 rfl (lv_at hl 1 rfl) ?_
      obtain ⟨r42_4, hr42_4, hF⟩ := bnd hF
      refine hm_V (wn := [(mo, .inr (8, [.long mbd, .int mby, .int mgr, .int mol, .ref aMM, .ref aMT, .int r5_1.1, .ref aPD, .int mpm, .long mrd, .int mbm, .int mbw, .long mpl, .ref aST, .ref aPL, .ref aRS, .ref aLA, .ref aBM, .int msm, .ref aRP, .ref aFI, .ref aFM, .ref aGB, .ref aGM, .ref aGV, .ref aGR, .int mgs, .ref aKB, .ref aKP, .ref aIK, .int mka, .int miw])), (aMM, .inl (gI G, 75, .inl r5_1.2.1)), (aMT, .inl (gI G, 75, .inl r5_1.2.2))]) (wr := []) (rest := []) (sn := [.int r42_4]) hx hb hml hown hts hE hA (k_X10_moveNumber G l mo aMM aMT aPD aST aPL aRS aLA aBM aRP aFI aFM aGB aGM aGV aGR aKB aKP aIK mbd mby mgr mol r5_1.1 mpm mrd mbm mbw mpl msm mgs mka miw r5_1.2.1 r5_1.2.2 mbd ii r42_4 hr42_4) sm_X10_moveNumber mw_969 ⟨rfl, rfl, Nat.le_of_ble_eq_true rfl, Nat.le_of_ble_eq_true rfl⟩ hP hD hS 0 rfl rfl [0, 1, 2] [] [0, 1, 2] rfl rfl rfl (by decide) hl.1 rfl rfl (Nat.le_of_ble_eq_true rfl) dX10_moves_42 ⟨Nat.le_of_ble_eq_true rfl, Nat.le_of_ble_eq_true rfl⟩ (fun H locs hP hD hS => ?_)
      refine lv_goto (tgt := 50) hx hb dX10_moves_45 (by decide) ?_
      have hF := Option.some.inj hF
      subst hF
      exact hm_iret hx hb hr hlk hP hD hS hpost dX10_moves_50
  · have hF := ifp hF c_2
    refine lv_aload_n hx hb dX10_moves_13 rfl (lv_at hl 0 rfl) ?_
    refine hget hx hb hts hown hE fl_X10_132 hP 0 rfl rfl dX10_moves_14 ?_
    refine lv_goto (tgt := 50) hx hb dX10_moves_17 (by decide) ?_
    have hF := Option.some.inj hF
    subst hF
    exact hm_iret hx hb hr hlk hP hD hS hpost dX10_moves_50
def f_X10_reach_B61 (k_31 : Int32 → Int32 → Option Int32) (x2_6 : Int32) (x4_7 : Int32) (t1_11 : Int32) : Option Int32 :=
  jlet (x2_6 ||| t1_11) (fun v2_12 => jlet (x4_7 + 1) (fun v4_13 => k_31 v2_12 v4_13))
def f_X10_reach_L31 (k_19 : Int32 → Int32 → Option Int32) (mbd : Int64) (mby : Int32) (mgr : Int32) (mol : Int32) (x3_4 : Int32) : Nat → Int32 → Int32 → Option Int32
  | 0, _, _ => none
  | n+1, x2_6, x4_7 =>
  if 25 ≤ x4_7 then jlet (x3_4 + 1) (fun v3_9 => k_19 x2_6 v3_9) else Option.bind (f_X10_canGo mby mgr mol mbd x3_4 x4_7) (fun r47_10 => if r47_10 = 0 then f_X10_reach_B61 (f_X10_reach_L31 k_19 mbd mby mgr mol x3_4 n) x2_6 x4_7 0 else f_X10_reach_B61 (f_X10_reach_L31 k_19 mbd mby mgr mol x3_4 n) x2_6 x4_7 (jshl 1 x4_7))
def f_X10_reach_L19 (mbd : Int64) (mby : Int32) (mgr : Int32) (mol : Int32) (sd : Int32) : Nat → Int32 → Int32 → Option Int32
  | 0, _, _ => none
  | n+1, x2_3, x3_4 =>
  if ((3 * sd) + 3) ≤ x3_4 then some x2_3 else f_X10_reach_L31 (f_X10_reach_L19 mbd mby mgr mol sd n) mbd mby mgr mol x3_4 100 x2_3 0
def f_X10_reach (mbd : Int64) (mby : Int32) (mgr : Int32) (mol : Int32) (sd : Int32) : Option Int32 :=
  if (f_X10_in (sd.toInt64) 0 1) = 0 then some (-2) else jlet (3 * sd) (fun v3_2 => f_X10_reach_L19 mbd mby mgr mol sd 100 0 v3_2)
abbrev rm_X10_reach : Room := { frames := 5, cells := 0, slots := 0, locals := 126 }
set_option maxHeartbeats 4000000 in
set_option maxRecDepth 100000 in
theorem k_X10_reach (G : gT) (l : Launch) (mo : Nat) (aMM : Nat) (aMT : Nat) (aPD : Nat) (aST : Nat) (aPL : Nat) (aRS : Nat) (aLA : Nat) (aBM : Nat) (aRP : Nat) (aFI : Nat) (aFM : Nat) (aGB : Nat) (aGM : Nat) (aGV : Nat) (aGR : Nat) (aKB : Nat) (aKP : Nat) (aIK : Nat) (mbd : Int64) (mby : Int32) (mgr : Int32) (mol : Int32) (mmy : Int32) (mpm : Int32) (mrd : Int64) (mbm : Int32) (mbw : Int32) (mpl : Int64) (msm : Int32) (mgs : Int32) (mka : Int32) (miw : Int32) (sd : Int32) (r : Int32) (hF : f_X10_reach mbd mby mgr mol sd = some r) : HM G l yX10_reach (.code yX10_reach cX10_reach 5 (some .int) :: UW) rm_X10_reach 0 0 [.ref mo, .int sd] [(mo, .inr (8, [.long mbd, .int mby, .int mgr, .int mol, .ref aMM, .ref aMT, .int mmy, .ref aPD, .int mpm, .long mrd, .int mbm, .int mbw, .long mpl, .ref aST, .ref aPL, .ref aRS, .ref aLA, .ref aBM, .int msm, .ref aRP, .ref aFI, .ref aFM, .ref aGB, .ref aGM, .ref aGV, .ref aGR, .int mgs, .ref aKB, .ref aKP, .ref aIK, .int mka, .int miw]))] (some (.int r)) [(mo, .inr (8, [.long mbd, .int mby, .int mgr, .int mol, .ref aMM, .ref aMT, .int mmy, .ref aPD, .int mpm, .long mrd, .int mbm, .int mbw, .long mpl, .ref aST, .ref aPL, .ref aRS, .ref aLA, .ref aBM, .int msm, .ref aRP, .ref aFI, .ref aFM, .ref aGB, .ref aGM, .ref aGV, .ref aGR, .int mgs, .ref aKB, .ref aKP, .ref aIK, .int mka, .int miw]))] := by
  refine HM.ofW (by decide) (Nat.le_of_ble_eq_true rfl) ?_
  intro p e s m args below meth c A post hpost hC hP hD hS ls hl
  obtain ⟨hx, hb, hr, hml, hown, hts, hlk, hE, hA⟩ := hC
  have hl : lv_has ls 5 [(0, .ref mo), (1, .int sd)] := hl
  unfold f_X10_reach at hF
  refine lv_iload_n hx hb dX10_reach_0 rfl (lv_at hl 1 rfl) ?_
  refine lv_i2l (v := (sd.toInt64)) hx hb dX10_reach_1 rfl ?_
  refine lv_lconst (v := 0) hx hb dX10_reach_2 (by decide) ?_
  refine lv_lconst (v := 1) hx hb dX10_reach_3 (by decide) ?_
  refine hm_S (wn := [(mo, .inr (8, [.long mbd, .int mby, .int mgr, .int mol, .ref aMM, .ref aMT, .int mmy, .ref aPD, .int mpm, .long mrd, .int mbm, .int mbw, .long mpl, .ref aST, .ref aPL, .ref aRS, .ref aLA, .ref aBM, .int msm, .ref aRP, .ref aFI, .ref aFM, .ref aGB, .ref aGM, .ref aGV, .ref aGR, .int mgs, .ref aKB, .ref aKP, .ref aIK, .int mka, .int miw]))]) (wr := [(mo, .inr (8, [.long mbd, .int mby, .int mgr, .int mol, .ref aMM, .ref aMT, .int mmy, .ref aPD, .int mpm, .long mrd, .int mbm, .int mbw, .long mpl, .ref aST, .ref aPL, .ref aRS, .ref aLA, .ref aBM, .int msm, .ref aRP, .ref aFI, .ref aFM, .ref aGB, .ref aGM, .ref aGV, .ref aGR, .int mgs, .ref aKB, .ref aKP, .ref aIK, .int mka, .int miw]))]) (rest := []) (sn := [.int (f_X10_in (sd.toInt64) 0 1)]) hx hb hml hown hts hE hA (k_X10_in G l (sd.toInt64) 0 1 _ rfl) sm_X10_in mw_833 ⟨rfl, rfl, Nat.le_of_ble_eq_true rfl, Nat.le_of_ble_eq_true rfl⟩ hP hD hS [] [0] [0] rfl rfl rfl (by decide) hl.1 rfl rfl (Nat.le_of_ble_eq_true rfl) dX10_reach_4 ⟨Nat.le_of_ble_eq_true rfl, Nat.le_of_ble_eq_true rfl⟩ (fun H locs hP hD hS => ?_)
  refine lv_if_ne (tgt := 13) hx hb dX10_reach_7 (by decide) (fun c_1 => ?_) (fun c_1 => ?_)
  · have hF := ifn hF c_1
    refine lv_iconst (v := 0) hx hb dX10_reach_13 (by decide) ?_
    refine lv_istore_n (lv' := [(2, .int 0), (0, .ref mo), (1, .int sd)]) hx hb dX10_reach_14 rfl hl (by decide) rfl (fun ls hl => ?_)
    refine lv_iconst (v := 3) hx hb dX10_reach_15 (by decide) ?_
    refine lv_iload_n hx hb dX10_reach_16 rfl (lv_at hl 2 rfl) ?_
    refine lv_imul hx hb dX10_reach_17 ?_
    refine lv_topi (fun v3_2 ev3_2 => ?_)
    have hF := jl hF ev3_2
    refine lv_istore_n (lv' := [(3, .int v3_2), (2, .int 0), (0, .ref mo), (1, .int sd)]) hx hb dX10_reach_18 rfl hl (by decide) rfl (fun ls hl => ?_)
    have hL19 : ∀ (n19 : Nat) (x2_3 : Int32) (x3_4 : Int32) (H : Heap) (locs : List Loc) (ls : Array Slot), f_X10_reach_L19 mbd mby mgr mol sd n19 x2_3 x3_4 = some r → va_P (gD G) vwCl [(mo, .inr (8, [.long mbd, .int mby, .int mgr, .int mol, .ref aMM, .ref aMT, .int mmy, .ref aPD, .int mpm, .long mrd, .int mbm, .int mbw, .long mpl, .ref aST, .ref aPL, .ref aRS, .ref aLA, .ref aBM, .int msm, .ref aRP, .ref aFI, .ref aFM, .ref aGB, .ref aGM, .ref aGV, .ref aGR, .int mgs, .ref aKB, .ref aKP, .ref aIK, .int mka, .int miw]))] H → va_D A [(mo, .inr (8, [.long mbd, .int mby, .int mgr, .int mol, .ref aMM, .ref aMT, .int mmy, .ref aPD, .int mpm, .long mrd, .int mbm, .int mbw, .long mpl, .ref aST, .ref aPL, .ref aRS, .ref aLA, .ref aBM, .int msm, .ref aRP, .ref aFI, .ref aFM, .ref aGB, .ref aGM, .ref aGV, .ref aGR, .int mgs, .ref aKB, .ref aKP, .ref aIK, .int mka, .int miw]))] → va_S A s.heap H locs → lv_has ls 5 [(0, .ref mo), (1, .int sd), (2, .int x2_3), (3, .int x3_4)] → W p l e rm_X10_reach s m args below meth c H locs 0 0 (MQ below (HXq G post A) args s 0 0 A) (F0 m 19 ls []) := by
      intro n19
      induction n19 with
      | zero =>
        intro x2_3 x3_4 H locs ls hF
        exact absurd hF (fun h => by cases h)
      | succ n19 ih19 =>
        intro x2_3 x3_4 H locs ls hF hP hD hS hl
        unfold f_X10_reach_L19 at hF
        refine lv_iload_n hx hb dX10_reach_19 rfl (lv_at hl 3 rfl) ?_
        refine lv_iconst (v := 3) hx hb dX10_reach_20 (by decide) ?_
        refine lv_iload_n hx hb dX10_reach_21 rfl (lv_at hl 1 rfl) ?_
        refine lv_imul hx hb dX10_reach_22 ?_
        refine lv_iconst (v := 3) hx hb dX10_reach_23 (by decide) ?_
        refine lv_iadd hx hb dX10_reach_24 ?_
        refine lv_icmp_ge (tgt := 75) hx hb dX10_reach_25 (by decide) (fun c_5 => ?_) (fun c_5 => ?_)
        · have hF := ifp hF c_5
          refine lv_iload_n hx hb dX10_reach_75 rfl (lv_at hl 2 rfl) ?_
          have hF := Option.some.inj hF
          subst hF
          exact hm_iret hx hb hr hlk hP hD hS hpost dX10_reach_76
        · have hF := ifn hF c_5
          refine lv_iconst (v := 0) hx hb dX10_reach_28 (by decide) ?_
          refine lv_istore (lv' := [(4, .int 0), (0, .ref mo), (1, .int sd), (2, .int x2_3), (3, .int x3_4)]) hx hb dX10_reach_29 hl (by decide) rfl (fun ls hl => ?_)
          have hL31 : ∀ (n31 : Nat) (x2_6 : Int32) (x4_7 : Int32) (H : Heap) (locs : List Loc) (ls : Array Slot), f_X10_reach_L31 (f_X10_reach_L19 mbd mby mgr mol sd n19) mbd mby mgr mol x3_4 n31 x2_6 x4_7 = some r → va_P (gD G) vwCl [(mo, .inr (8, [.long mbd, .int mby, .int mgr, .int mol, .ref aMM, .ref aMT, .int mmy, .ref aPD, .int mpm, .long mrd, .int mbm, .int mbw, .long mpl, .ref aST, .ref aPL, .ref aRS, .ref aLA, .ref aBM, .int msm, .ref aRP, .ref aFI, .ref aFM, .ref aGB, .ref aGM, .ref aGV, .ref aGR, .int mgs, .ref aKB, .ref aKP, .ref aIK, .int mka, .int miw]))] H → va_D A [(mo, .inr (8, [.long mbd, .int mby, .int mgr, .int mol, .ref aMM, .ref aMT, .int mmy, .ref aPD, .int mpm, .long mrd, .int mbm, .int mbw, .long mpl, .ref aST, .ref aPL, .ref aRS, .ref aLA, .ref aBM, .int msm, .ref aRP, .ref aFI, .ref aFM, .ref aGB, .ref aGM, .ref aGV, .ref aGR, .int mgs, .ref aKB, .ref aKP, .ref aIK, .int mka, .int miw]))] → va_S A s.heap H locs → lv_has ls 5 [(0, .ref mo), (1, .int sd), (2, .int x2_6), (3, .int x3_4), (4, .int x4_7)] → W p l e rm_X10_reach s m args below meth c H locs 0 0 (MQ below (HXq G post A) args s 0 0 A) (F0 m 31 ls []) := by
            intro n31
            induction n31 with
            | zero =>
              intro x2_6 x4_7 H locs ls hF
              exact absurd hF (fun h => by cases h)
            | succ n31 ih31 =>
              intro x2_6 x4_7 H locs ls hF hP hD hS hl
              unfold f_X10_reach_L31 at hF
              refine lv_iload hx hb dX10_reach_31 (lv_at hl 4 rfl) ?_
              refine lv_bipush (v := 25) hx hb dX10_reach_33 (by decide) ?_
              refine lv_icmp_ge (tgt := 69) hx hb dX10_reach_35 (by decide) (fun c_8 => ?_) (fun c_8 => ?_)
              · have hF := ifp hF c_8
                obtain ⟨v3_9, ev3_9⟩ : ∃ z : Int32, z = x3_4 + 1 := ⟨_, rfl⟩
                have hF := jl hF ev3_9
                refine lv_iinc (v := v3_9) (lv' := [(3, .int v3_9), (0, .ref mo), (1, .int sd), (2, .int x2_6), (4, .int x4_7)]) hx hb dX10_reach_69 hl (k := 3) rfl (by rw [ev3_9]; rfl) (by decide) rfl (fun ls hl => ?_)
                refine lv_goto (tgt := 19) hx hb dX10_reach_72 (by decide) ?_
                exact ih19 x2_6 v3_9 _ _ _ hF hP hD hS (lv_sub hl [1, 2, 3, 0] rfl)
              · have hF := ifn hF c_8
                refine lv_iload_n hx hb dX10_reach_38 rfl (lv_at hl 2 rfl) ?_
                refine lv_aload_n hx hb dX10_reach_39 rfl (lv_at hl 0 rfl) ?_
                refine lv_aload_n hx hb dX10_reach_40 rfl (lv_at hl 0 rfl) ?_
                refine hget hx hb hts hown hE fl_X10_69 hP 0 rfl rfl dX10_reach_41 ?_
                refine lv_iload_n hx hb dX10_reach_44 rfl (lv_at hl 3 rfl) ?_
                refine lv_iload hx hb dX10_reach_45 (lv_at hl 4 rfl) ?_
                obtain ⟨r47_10, hr47_10, hF⟩ := bnd hF
                refine hm_V (wn := [(mo, .inr (8, [.long mbd, .int mby, .int mgr, .int mol, .ref aMM, .ref aMT, .int mmy, .ref aPD, .int mpm, .long mrd, .int mbm, .int mbw, .long mpl, .ref aST, .ref aPL, .ref aRS, .ref aLA, .ref aBM, .int msm, .ref aRP, .ref aFI, .ref aFM, .ref aGB, .ref aGM, .ref aGV, .ref aGR, .int mgs, .ref aKB, .ref aKP, .ref aIK, .int mka, .int miw]))]) (wr := []) (rest := [.int x2_6]) (sn := [.int r47_10, .int x2_6]) hx hb hml hown hts hE hA (k_X10_canGo G l mo aMM aMT aPD aST aPL aRS aLA aBM aRP aFI aFM aGB aGM aGV aGR aKB aKP aIK mbd mby mgr mol mmy mpm mrd mbm mbw mpl msm mgs mka miw mbd x3_4 x4_7 r47_10 hr47_10) sm_X10_canGo mw_920 ⟨rfl, rfl, Nat.le_of_ble_eq_true rfl, Nat.le_of_ble_eq_true rfl⟩ hP hD hS 0 rfl rfl [0] [] [0] rfl rfl rfl (by decide) hl.1 rfl rfl (Nat.le_of_ble_eq_true rfl) dX10_reach_47 ⟨Nat.le_of_ble_eq_true rfl, Nat.le_of_ble_eq_true rfl⟩ (fun H locs hP hD hS => ?_)
                have hB61 : ∀ (t1_11 : Int32) (H : Heap) (locs : List Loc) (ls : Array Slot), f_X10_reach_B61 (f_X10_reach_L31 (f_X10_reach_L19 mbd mby mgr mol sd n19) mbd mby mgr mol x3_4 n31) x2_6 x4_7 t1_11 = some r → va_P (gD G) vwCl [(mo, .inr (8, [.long mbd, .int mby, .int mgr, .int mol, .ref aMM, .ref aMT, .int mmy, .ref aPD, .int mpm, .long mrd, .int mbm, .int mbw, .long mpl, .ref aST, .ref aPL, .ref aRS, .ref aLA, .ref aBM, .int msm, .ref aRP, .ref aFI, .ref aFM, .ref aGB, .ref aGM, .ref aGV, .ref aGR, .int mgs, .ref aKB, .ref aKP, .ref aIK, .int mka, .int miw]))] H → va_D A [(mo, .inr (8, [.long mbd, .int mby, .int mgr, .int mol, .ref aMM, .ref aMT, .int mmy, .ref aPD, .int mpm, .long mrd, .int mbm, .int mbw, .long mpl, .ref aST, .ref aPL, .ref aRS, .ref aLA, .ref aBM, .int msm, .ref aRP, .ref aFI, .ref aFM, .ref aGB, .ref aGM, .ref aGV, .ref aGR, .int mgs, .ref aKB, .ref aKP, .ref aIK, .int mka, .int miw]))] → va_S A s.heap H locs → lv_has ls 5 [(0, .ref mo), (1, .int sd), (3, .int x3_4), (4, .int x4_7)] → W p l e rm_X10_reach s m args below meth c H locs 0 0 (MQ below (HXq G post A) args s 0 0 A) (F0 m 61 ls [.int t1_11, .int x2_6]) := by
                  intro t1_11 H locs ls hF hP hD hS hl
                  unfold f_X10_reach_B61 at hF
                  refine lv_ior hx hb dX10_reach_61 ?_
                  refine lv_topi (fun v2_12 ev2_12 => ?_)
                  have hF := jl hF ev2_12
                  refine lv_istore_n (lv' := [(2, .int v2_12), (0, .ref mo), (1, .int sd), (3, .int x3_4), (4, .int x4_7)]) hx hb dX10_reach_62 rfl hl (by decide) rfl (fun ls hl => ?_)
                  obtain ⟨v4_13, ev4_13⟩ : ∃ z : Int32, z = x4_7 + 1 := ⟨_, rfl⟩
                  have hF := jl hF ev4_13
                  refine lv_iinc (v := v4_13) (lv' := [(4, .int v4_13), (2, .int v2_12), (0, .ref mo), (1, .int sd), (3, .int x3_4)]) hx hb dX10_reach_63 hl (k := 4) rfl (by rw [ev4_13]; rfl) (by decide) rfl (fun ls hl => ?_)
                  refine lv_goto (tgt := 31) hx hb dX10_reach_66 (by decide) ?_
                  exact ih31 v2_12 v4_13 _ _ _ hF hP hD hS (lv_sub hl [2, 3, 1, 4, 0] rfl)
                refine lv_if_eq (tgt := 60) hx hb dX10_reach_50 (by decide) (fun c_14 => ?_) (fun c_14 => ?_)
                · have hF := ifp hF c_14
                  refine lv_iconst (v := 0) hx hb dX10_reach_60 (by decide) ?_
                  exact hB61 0 _ _ _ hF hP hD hS (lv_sub hl [0, 1, 3, 4] rfl)
                · have hF := ifn hF c_14
                  refine lv_iconst (v := 1) hx hb dX10_reach_53 (by decide) ?_
                  refine lv_iload hx hb dX10_reach_54 (lv_at hl 4 rfl) ?_
                  refine lv_ishl hx hb dX10_reach_56 ?_
                  refine lv_goto (tgt := 61) hx hb dX10_reach_57 (by decide) ?_
                  exact hB61 (jshl 1 x4_7) _ _ _ hF hP hD hS (lv_sub hl [0, 1, 3, 4] rfl)
          exact hL31 _ x2_3 0 _ _ _ hF hP hD hS (lv_sub hl [1, 2, 3, 4, 0] rfl)
    exact hL19 _ 0 v3_2 _ _ _ hF hP hD hS (lv_sub hl [2, 3, 1, 0] rfl)
  · have hF := ifp hF c_1
    refine lv_bipush (v := (-2)) hx hb dX10_reach_10 (by decide) ?_
    have hF := Option.some.inj hF
    subst hF
    exact hm_iret hx hb hr hlk hP hD hS hpost dX10_reach_12
def f_X10_youth_B114 (k_33 : Int32 → Int32 → Int32 → Option Int32) (x5_6 : Int32) (x3_9 : Int32) (x4_10 : Int32) : Option Int32 :=
  jlet (x5_6 + 1) (fun v5_11 => k_33 x3_9 x4_10 v5_11)
def f_X10_youth_B89 (k_33 : Int32 → Int32 → Int32 → Option Int32) (mbd : Int64) (mby : Int32) (mgr : Int32) (mol : Int32) (x3_4 : Int32) (x4_5 : Int32) (x5_6 : Int32) (t1_14 : Int32) : Option Int32 :=
  jlet (x3_4 + t1_14) (fun v3_15 => Option.bind (f_X10_manMoves mby mgr mol mbd x5_6) (fun r100_16 => if r100_16 = 0 then jlet (x4_5 + 1) (fun v4_18 => f_X10_youth_B114 k_33 x5_6 v3_15 v4_18) else jlet (x4_5 + 0) (fun v4_19 => f_X10_youth_B114 k_33 x5_6 v3_15 v4_19)))
def f_X10_youth_L33 (mbd : Int64) (mby : Int32) (mgr : Int32) (mol : Int32) (sd : Int32) (wh : Int32) : Nat → Int32 → Int32 → Int32 → Option Int32
  | 0, _, _, _ => none
  | n+1, x3_4, x4_5, x5_6 =>
  if ((3 * sd) + 3) ≤ x5_6 then if wh = 0 then some x3_4 else some x4_5 else if (f_X10_cellOf mbd x5_6) = 31 then f_X10_youth_B114 (f_X10_youth_L33 mbd mby mgr mol sd wh n) x5_6 x3_4 x4_5 else jlet (f_X10_ageOf mbd x5_6) (fun v6_13 => if mol ≤ v6_13 then f_X10_youth_B89 (f_X10_youth_L33 mbd mby mgr mol sd wh n) mbd mby mgr mol x3_4 x4_5 x5_6 0 else f_X10_youth_B89 (f_X10_youth_L33 mbd mby mgr mol sd wh n) mbd mby mgr mol x3_4 x4_5 x5_6 (mol - v6_13))
def f_X10_youth (mbd : Int64) (mby : Int32) (mgr : Int32) (mol : Int32) (sd : Int32) (wh : Int32) : Option Int32 :=
  if (f_X10_in (sd.toInt64) 0 1) = 0 then some (-2) else if (f_X10_in (wh.toInt64) 0 1) = 0 then some (-2) else jlet (3 * sd) (fun v5_3 => f_X10_youth_L33 mbd mby mgr mol sd wh 100 0 0 v5_3)
abbrev rm_X10_youth : Room := { frames := 6, cells := 0, slots := 0, locals := 150 }
set_option maxHeartbeats 4000000 in
set_option maxRecDepth 100000 in
theorem k_X10_youth (G : gT) (l : Launch) (mo : Nat) (aMM : Nat) (aMT : Nat) (aPD : Nat) (aST : Nat) (aPL : Nat) (aRS : Nat) (aLA : Nat) (aBM : Nat) (aRP : Nat) (aFI : Nat) (aFM : Nat) (aGB : Nat) (aGM : Nat) (aGV : Nat) (aGR : Nat) (aKB : Nat) (aKP : Nat) (aIK : Nat) (mbd : Int64) (mby : Int32) (mgr : Int32) (mol : Int32) (mmy : Int32) (mpm : Int32) (mrd : Int64) (mbm : Int32) (mbw : Int32) (mpl : Int64) (msm : Int32) (mgs : Int32) (mka : Int32) (miw : Int32) (sd : Int32) (wh : Int32) (r : Int32) (hF : f_X10_youth mbd mby mgr mol sd wh = some r) : HM G l yX10_youth (.code yX10_youth cX10_youth 7 (some .int) :: UW) rm_X10_youth 0 0 [.ref mo, .int sd, .int wh] [(mo, .inr (8, [.long mbd, .int mby, .int mgr, .int mol, .ref aMM, .ref aMT, .int mmy, .ref aPD, .int mpm, .long mrd, .int mbm, .int mbw, .long mpl, .ref aST, .ref aPL, .ref aRS, .ref aLA, .ref aBM, .int msm, .ref aRP, .ref aFI, .ref aFM, .ref aGB, .ref aGM, .ref aGV, .ref aGR, .int mgs, .ref aKB, .ref aKP, .ref aIK, .int mka, .int miw]))] (some (.int r)) [(mo, .inr (8, [.long mbd, .int mby, .int mgr, .int mol, .ref aMM, .ref aMT, .int mmy, .ref aPD, .int mpm, .long mrd, .int mbm, .int mbw, .long mpl, .ref aST, .ref aPL, .ref aRS, .ref aLA, .ref aBM, .int msm, .ref aRP, .ref aFI, .ref aFM, .ref aGB, .ref aGM, .ref aGV, .ref aGR, .int mgs, .ref aKB, .ref aKP, .ref aIK, .int mka, .int miw]))] := by
  refine HM.ofW (by decide) (Nat.le_of_ble_eq_true rfl) ?_
  intro p e s m args below meth c A post hpost hC hP hD hS ls hl
  obtain ⟨hx, hb, hr, hml, hown, hts, hlk, hE, hA⟩ := hC
  have hl : lv_has ls 7 [(0, .ref mo), (1, .int sd), (2, .int wh)] := hl
  unfold f_X10_youth at hF
  refine lv_iload_n hx hb dX10_youth_0 rfl (lv_at hl 1 rfl) ?_
  refine lv_i2l (v := (sd.toInt64)) hx hb dX10_youth_1 rfl ?_
  refine lv_lconst (v := 0) hx hb dX10_youth_2 (by decide) ?_
  refine lv_lconst (v := 1) hx hb dX10_youth_3 (by decide) ?_
  refine hm_S (wn := [(mo, .inr (8, [.long mbd, .int mby, .int mgr, .int mol, .ref aMM, .ref aMT, .int mmy, .ref aPD, .int mpm, .long mrd, .int mbm, .int mbw, .long mpl, .ref aST, .ref aPL, .ref aRS, .ref aLA, .ref aBM, .int msm, .ref aRP, .ref aFI, .ref aFM, .ref aGB, .ref aGM, .ref aGV, .ref aGR, .int mgs, .ref aKB, .ref aKP, .ref aIK, .int mka, .int miw]))]) (wr := [(mo, .inr (8, [.long mbd, .int mby, .int mgr, .int mol, .ref aMM, .ref aMT, .int mmy, .ref aPD, .int mpm, .long mrd, .int mbm, .int mbw, .long mpl, .ref aST, .ref aPL, .ref aRS, .ref aLA, .ref aBM, .int msm, .ref aRP, .ref aFI, .ref aFM, .ref aGB, .ref aGM, .ref aGV, .ref aGR, .int mgs, .ref aKB, .ref aKP, .ref aIK, .int mka, .int miw]))]) (rest := []) (sn := [.int (f_X10_in (sd.toInt64) 0 1)]) hx hb hml hown hts hE hA (k_X10_in G l (sd.toInt64) 0 1 _ rfl) sm_X10_in mw_833 ⟨rfl, rfl, Nat.le_of_ble_eq_true rfl, Nat.le_of_ble_eq_true rfl⟩ hP hD hS [] [0] [0] rfl rfl rfl (by decide) hl.1 rfl rfl (Nat.le_of_ble_eq_true rfl) dX10_youth_4 ⟨Nat.le_of_ble_eq_true rfl, Nat.le_of_ble_eq_true rfl⟩ (fun H locs hP hD hS => ?_)
  refine lv_if_eq (tgt := 20) hx hb dX10_youth_7 (by decide) (fun c_1 => ?_) (fun c_1 => ?_)
  · have hF := ifp hF c_1
    refine lv_bipush (v := (-2)) hx hb dX10_youth_20 (by decide) ?_
    have hF := Option.some.inj hF
    subst hF
    exact hm_iret hx hb hr hlk hP hD hS hpost dX10_youth_22
  · have hF := ifn hF c_1
    refine lv_iload_n hx hb dX10_youth_10 rfl (lv_at hl 2 rfl) ?_
    refine lv_i2l (v := (wh.toInt64)) hx hb dX10_youth_11 rfl ?_
    refine lv_lconst (v := 0) hx hb dX10_youth_12 (by decide) ?_
    refine lv_lconst (v := 1) hx hb dX10_youth_13 (by decide) ?_
    refine hm_S (wn := [(mo, .inr (8, [.long mbd, .int mby, .int mgr, .int mol, .ref aMM, .ref aMT, .int mmy, .ref aPD, .int mpm, .long mrd, .int mbm, .int mbw, .long mpl, .ref aST, .ref aPL, .ref aRS, .ref aLA, .ref aBM, .int msm, .ref aRP, .ref aFI, .ref aFM, .ref aGB, .ref aGM, .ref aGV, .ref aGR, .int mgs, .ref aKB, .ref aKP, .ref aIK, .int mka, .int miw]))]) (wr := [(mo, .inr (8, [.long mbd, .int mby, .int mgr, .int mol, .ref aMM, .ref aMT, .int mmy, .ref aPD, .int mpm, .long mrd, .int mbm, .int mbw, .long mpl, .ref aST, .ref aPL, .ref aRS, .ref aLA, .ref aBM, .int msm, .ref aRP, .ref aFI, .ref aFM, .ref aGB, .ref aGM, .ref aGV, .ref aGR, .int mgs, .ref aKB, .ref aKP, .ref aIK, .int mka, .int miw]))]) (rest := []) (sn := [.int (f_X10_in (wh.toInt64) 0 1)]) hx hb hml hown hts hE hA (k_X10_in G l (wh.toInt64) 0 1 _ rfl) sm_X10_in mw_833 ⟨rfl, rfl, Nat.le_of_ble_eq_true rfl, Nat.le_of_ble_eq_true rfl⟩ hP hD hS [] [0] [0] rfl rfl rfl (by decide) hl.1 rfl rfl (Nat.le_of_ble_eq_true rfl) dX10_youth_14 ⟨Nat.le_of_ble_eq_true rfl, Nat.le_of_ble_eq_true rfl⟩ (fun H locs hP hD hS => ?_)
    refine lv_if_ne (tgt := 23) hx hb dX10_youth_17 (by decide) (fun c_2 => ?_) (fun c_2 => ?_)
    · have hF := ifn hF c_2
      refine lv_iconst (v := 0) hx hb dX10_youth_23 (by decide) ?_
      refine lv_istore_n (lv' := [(3, .int 0), (0, .ref mo), (1, .int sd), (2, .int wh)]) hx hb dX10_youth_24 rfl hl (by decide) rfl (fun ls hl => ?_)
      refine lv_iconst (v := 0) hx hb dX10_youth_25 (by decide) ?_
      refine lv_istore (lv' := [(4, .int 0), (3, .int 0), (0, .ref mo), (1, .int sd), (2, .int wh)]) hx hb dX10_youth_26 hl (by decide) rfl (fun ls hl => ?_)
      refine lv_iconst (v := 3) hx hb dX10_youth_28 (by decide) ?_
      refine lv_iload_n hx hb dX10_youth_29 rfl (lv_at hl 3 rfl) ?_
      refine lv_imul hx hb dX10_youth_30 ?_
      refine lv_topi (fun v5_3 ev5_3 => ?_)
      have hF := jl hF ev5_3
      refine lv_istore (lv' := [(5, .int v5_3), (4, .int 0), (3, .int 0), (0, .ref mo), (1, .int sd), (2, .int wh)]) hx hb dX10_youth_31 hl (by decide) rfl (fun ls hl => ?_)
      have hL33 : ∀ (n33 : Nat) (x3_4 : Int32) (x4_5 : Int32) (x5_6 : Int32) (H : Heap) (locs : List Loc) (ls : Array Slot), f_X10_youth_L33 mbd mby mgr mol sd wh n33 x3_4 x4_5 x5_6 = some r → va_P (gD G) vwCl [(mo, .inr (8, [.long mbd, .int mby, .int mgr, .int mol, .ref aMM, .ref aMT, .int mmy, .ref aPD, .int mpm, .long mrd, .int mbm, .int mbw, .long mpl, .ref aST, .ref aPL, .ref aRS, .ref aLA, .ref aBM, .int msm, .ref aRP, .ref aFI, .ref aFM, .ref aGB, .ref aGM, .ref aGV, .ref aGR, .int mgs, .ref aKB, .ref aKP, .ref aIK, .int mka, .int miw]))] H → va_D A [(mo, .inr (8, [.long mbd, .int mby, .int mgr, .int mol, .ref aMM, .ref aMT, .int mmy, .ref aPD, .int mpm, .long mrd, .int mbm, .int mbw, .long mpl, .ref aST, .ref aPL, .ref aRS, .ref aLA, .ref aBM, .int msm, .ref aRP, .ref aFI, .ref aFM, .ref aGB, .ref aGM, .ref aGV, .ref aGR, .int mgs, .ref aKB, .ref aKP, .ref aIK, .int mka, .int miw]))] → va_S A s.heap H locs → lv_has ls 7 [(0, .ref mo), (1, .int sd), (2, .int wh), (3, .int x3_4), (4, .int x4_5), (5, .int x5_6)] → W p l e rm_X10_youth s m args below meth c H locs 0 0 (MQ below (HXq G post A) args s 0 0 A) (F0 m 33 ls []) := by
        intro n33
        induction n33 with
        | zero =>
          intro x3_4 x4_5 x5_6 H locs ls hF
          exact absurd hF (fun h => by cases h)
        | succ n33 ih33 =>
          intro x3_4 x4_5 x5_6 H locs ls hF hP hD hS hl
          unfold f_X10_youth_L33 at hF
          refine lv_iload hx hb dX10_youth_33 (lv_at hl 5 rfl) ?_
          refine lv_iconst (v := 3) hx hb dX10_youth_35 (by decide) ?_
          refine lv_iload_n hx hb dX10_youth_36 rfl (lv_at hl 1 rfl) ?_
          refine lv_imul hx hb dX10_youth_37 ?_
          refine lv_iconst (v := 3) hx hb dX10_youth_38 (by decide) ?_
          refine lv_iadd hx hb dX10_youth_39 ?_
          refine lv_icmp_ge (tgt := 120) hx hb dX10_youth_40 (by decide) (fun c_7 => ?_) (fun c_7 => ?_)
          · have hF := ifp hF c_7
            refine lv_iload_n hx hb dX10_youth_120 rfl (lv_at hl 2 rfl) ?_
            refine lv_if_ne (tgt := 128) hx hb dX10_youth_121 (by decide) (fun c_8 => ?_) (fun c_8 => ?_)
            · have hF := ifn hF c_8
              refine lv_iload hx hb dX10_youth_128 (lv_at hl 4 rfl) ?_
              have hF := Option.some.inj hF
              subst hF
              exact hm_iret hx hb hr hlk hP hD hS hpost dX10_youth_130
            · have hF := ifp hF c_8
              refine lv_iload_n hx hb dX10_youth_124 rfl (lv_at hl 3 rfl) ?_
              refine lv_goto (tgt := 130) hx hb dX10_youth_125 (by decide) ?_
              have hF := Option.some.inj hF
              subst hF
              exact hm_iret hx hb hr hlk hP hD hS hpost dX10_youth_130
          · have hF := ifn hF c_7
            refine lv_aload_n hx hb dX10_youth_43 rfl (lv_at hl 0 rfl) ?_
            refine hget hx hb hts hown hE fl_X10_69 hP 0 rfl rfl dX10_youth_44 ?_
            refine lv_iload hx hb dX10_youth_47 (lv_at hl 5 rfl) ?_
            refine hm_S (wn := [(mo, .inr (8, [.long mbd, .int mby, .int mgr, .int mol, .ref aMM, .ref aMT, .int mmy, .ref aPD, .int mpm, .long mrd, .int mbm, .int mbw, .long mpl, .ref aST, .ref aPL, .ref aRS, .ref aLA, .ref aBM, .int msm, .ref aRP, .ref aFI, .ref aFM, .ref aGB, .ref aGM, .ref aGV, .ref aGR, .int mgs, .ref aKB, .ref aKP, .ref aIK, .int mka, .int miw]))]) (wr := [(mo, .inr (8, [.long mbd, .int mby, .int mgr, .int mol, .ref aMM, .ref aMT, .int mmy, .ref aPD, .int mpm, .long mrd, .int mbm, .int mbw, .long mpl, .ref aST, .ref aPL, .ref aRS, .ref aLA, .ref aBM, .int msm, .ref aRP, .ref aFI, .ref aFM, .ref aGB, .ref aGM, .ref aGV, .ref aGR, .int mgs, .ref aKB, .ref aKP, .ref aIK, .int mka, .int miw]))]) (rest := []) (sn := [.int (f_X10_cellOf mbd x5_6)]) hx hb hml hown hts hE hA (k_X10_cellOf G l mbd x5_6 _ rfl) sm_X10_cellOf mw_852 ⟨rfl, rfl, Nat.le_of_ble_eq_true rfl, Nat.le_of_ble_eq_true rfl⟩ hP hD hS [] [0] [0] rfl rfl rfl (by decide) hl.1 rfl rfl (Nat.le_of_ble_eq_true rfl) dX10_youth_49 ⟨Nat.le_of_ble_eq_true rfl, Nat.le_of_ble_eq_true rfl⟩ (fun H locs hP hD hS => ?_)
            refine lv_bipush (v := 31) hx hb dX10_youth_52 (by decide) ?_
            have hB114 : ∀ (x3_9 : Int32) (x4_10 : Int32) (H : Heap) (locs : List Loc) (ls : Array Slot), f_X10_youth_B114 (f_X10_youth_L33 mbd mby mgr mol sd wh n33) x5_6 x3_9 x4_10 = some r → va_P (gD G) vwCl [(mo, .inr (8, [.long mbd, .int mby, .int mgr, .int mol, .ref aMM, .ref aMT, .int mmy, .ref aPD, .int mpm, .long mrd, .int mbm, .int mbw, .long mpl, .ref aST, .ref aPL, .ref aRS, .ref aLA, .ref aBM, .int msm, .ref aRP, .ref aFI, .ref aFM, .ref aGB, .ref aGM, .ref aGV, .ref aGR, .int mgs, .ref aKB, .ref aKP, .ref aIK, .int mka, .int miw]))] H → va_D A [(mo, .inr (8, [.long mbd, .int mby, .int mgr, .int mol, .ref aMM, .ref aMT, .int mmy, .ref aPD, .int mpm, .long mrd, .int mbm, .int mbw, .long mpl, .ref aST, .ref aPL, .ref aRS, .ref aLA, .ref aBM, .int msm, .ref aRP, .ref aFI, .ref aFM, .ref aGB, .ref aGM, .ref aGV, .ref aGR, .int mgs, .ref aKB, .ref aKP, .ref aIK, .int mka, .int miw]))] → va_S A s.heap H locs → lv_has ls 7 [(0, .ref mo), (1, .int sd), (2, .int wh), (3, .int x3_9), (4, .int x4_10), (5, .int x5_6)] → W p l e rm_X10_youth s m args below meth c H locs 0 0 (MQ below (HXq G post A) args s 0 0 A) (F0 m 114 ls []) := by
              intro x3_9 x4_10 H locs ls hF hP hD hS hl
              unfold f_X10_youth_B114 at hF
              obtain ⟨v5_11, ev5_11⟩ : ∃ z : Int32, z = x5_6 + 1 := ⟨_, rfl⟩
              have hF := jl hF ev5_11
              refine lv_iinc (v := v5_11) (lv' := [(5, .int v5_11), (0, .ref mo), (1, .int sd), (2, .int wh), (3, .int x3_9), (4, .int x4_10)]) hx hb dX10_youth_114 hl (k := 5) rfl (by rw [ev5_11]; rfl) (by decide) rfl (fun ls hl => ?_)
              refine lv_goto (tgt := 33) hx hb dX10_youth_117 (by decide) ?_
              exact ih33 x3_9 x4_10 v5_11 _ _ _ hF hP hD hS (lv_sub hl [1, 2, 3, 4, 5, 0] rfl)
            refine lv_icmp_eq (tgt := 114) hx hb dX10_youth_54 (by decide) (fun c_12 => ?_) (fun c_12 => ?_)
            · have hF := ifp hF c_12
              exact hB114 x3_4 x4_5 _ _ _ hF hP hD hS (lv_sub hl [0, 1, 2, 3, 4, 5] rfl)
            · have hF := ifn hF c_12
              refine lv_aload_n hx hb dX10_youth_57 rfl (lv_at hl 0 rfl) ?_
              refine hget hx hb hts hown hE fl_X10_69 hP 0 rfl rfl dX10_youth_58 ?_
              refine lv_iload hx hb dX10_youth_61 (lv_at hl 5 rfl) ?_
              refine hm_S (wn := [(mo, .inr (8, [.long mbd, .int mby, .int mgr, .int mol, .ref aMM, .ref aMT, .int mmy, .ref aPD, .int mpm, .long mrd, .int mbm, .int mbw, .long mpl, .ref aST, .ref aPL, .ref aRS, .ref aLA, .ref aBM, .int msm, .ref aRP, .ref aFI, .ref aFM, .ref aGB, .ref aGM, .ref aGV, .ref aGR, .int mgs, .ref aKB, .ref aKP, .ref aIK, .int mka, .int miw]))]) (wr := [(mo, .inr (8, [.long mbd, .int mby, .int mgr, .int mol, .ref aMM, .ref aMT, .int mmy, .ref aPD, .int mpm, .long mrd, .int mbm, .int mbw, .long mpl, .ref aST, .ref aPL, .ref aRS, .ref aLA, .ref aBM, .int msm, .ref aRP, .ref aFI, .ref aFM, .ref aGB, .ref aGM, .ref aGV, .ref aGR, .int mgs, .ref aKB, .ref aKP, .ref aIK, .int mka, .int miw]))]) (rest := []) (sn := [.int (f_X10_ageOf mbd x5_6)]) hx hb hml hown hts hE hA (k_X10_ageOf G l mbd x5_6 _ rfl) sm_X10_ageOf mw_892 ⟨rfl, rfl, Nat.le_of_ble_eq_true rfl, Nat.le_of_ble_eq_true rfl⟩ hP hD hS [] [0] [0] rfl rfl rfl (by decide) hl.1 rfl rfl (Nat.le_of_ble_eq_true rfl) dX10_youth_63 ⟨Nat.le_of_ble_eq_true rfl, Nat.le_of_ble_eq_true rfl⟩ (fun H locs hP hD hS => ?_)
              refine lv_topi (fun v6_13 ev6_13 => ?_)
              have hF := jl hF ev6_13
              refine lv_istore (lv' := [(6, .int v6_13), (0, .ref mo), (1, .int sd), (2, .int wh), (3, .int x3_4), (4, .int x4_5), (5, .int x5_6)]) hx hb dX10_youth_66 hl (by decide) rfl (fun ls hl => ?_)
              refine lv_iload_n hx hb dX10_youth_68 rfl (lv_at hl 4 rfl) ?_
              refine lv_iload hx hb dX10_youth_69 (lv_at hl 0 rfl) ?_
              refine lv_aload_n hx hb dX10_youth_71 rfl (lv_at hl 1 rfl) ?_
              refine hget hx hb hts hown hE fl_X10_84 hP 0 rfl rfl dX10_youth_72 ?_
              have hB89 : ∀ (t1_14 : Int32) (H : Heap) (locs : List Loc) (ls : Array Slot), f_X10_youth_B89 (f_X10_youth_L33 mbd mby mgr mol sd wh n33) mbd mby mgr mol x3_4 x4_5 x5_6 t1_14 = some r → va_P (gD G) vwCl [(mo, .inr (8, [.long mbd, .int mby, .int mgr, .int mol, .ref aMM, .ref aMT, .int mmy, .ref aPD, .int mpm, .long mrd, .int mbm, .int mbw, .long mpl, .ref aST, .ref aPL, .ref aRS, .ref aLA, .ref aBM, .int msm, .ref aRP, .ref aFI, .ref aFM, .ref aGB, .ref aGM, .ref aGV, .ref aGR, .int mgs, .ref aKB, .ref aKP, .ref aIK, .int mka, .int miw]))] H → va_D A [(mo, .inr (8, [.long mbd, .int mby, .int mgr, .int mol, .ref aMM, .ref aMT, .int mmy, .ref aPD, .int mpm, .long mrd, .int mbm, .int mbw, .long mpl, .ref aST, .ref aPL, .ref aRS, .ref aLA, .ref aBM, .int msm, .ref aRP, .ref aFI, .ref aFM, .ref aGB, .ref aGM, .ref aGV, .ref aGR, .int mgs, .ref aKB, .ref aKP, .ref aIK, .int mka, .int miw]))] → va_S A s.heap H locs → lv_has ls 7 [(0, .ref mo), (1, .int sd), (2, .int wh), (4, .int x4_5), (5, .int x5_6)] → W p l e rm_X10_youth s m args below meth c H locs 0 0 (MQ below (HXq G post A) args s 0 0 A) (F0 m 89 ls [.int t1_14, .int x3_4]) := by
                intro t1_14 H locs ls hF hP hD hS hl
                unfold f_X10_youth_B89 at hF
                refine lv_iadd hx hb dX10_youth_89 ?_
                refine lv_topi (fun v3_15 ev3_15 => ?_)
                have hF := jl hF ev3_15
                refine lv_istore_n (lv' := [(3, .int v3_15), (0, .ref mo), (1, .int sd), (2, .int wh), (4, .int x4_5), (5, .int x5_6)]) hx hb dX10_youth_90 rfl hl (by decide) rfl (fun ls hl => ?_)
                refine lv_iload hx hb dX10_youth_91 (lv_at hl 4 rfl) ?_
                refine lv_aload_n hx hb dX10_youth_93 rfl (lv_at hl 1 rfl) ?_
                refine lv_aload_n hx hb dX10_youth_94 rfl (lv_at hl 1 rfl) ?_
                refine hget hx hb hts hown hE fl_X10_69 hP 0 rfl rfl dX10_youth_95 ?_
                refine lv_iload hx hb dX10_youth_98 (lv_at hl 5 rfl) ?_
                obtain ⟨r100_16, hr100_16, hF⟩ := bnd hF
                refine hm_V (wn := [(mo, .inr (8, [.long mbd, .int mby, .int mgr, .int mol, .ref aMM, .ref aMT, .int mmy, .ref aPD, .int mpm, .long mrd, .int mbm, .int mbw, .long mpl, .ref aST, .ref aPL, .ref aRS, .ref aLA, .ref aBM, .int msm, .ref aRP, .ref aFI, .ref aFM, .ref aGB, .ref aGM, .ref aGV, .ref aGR, .int mgs, .ref aKB, .ref aKP, .ref aIK, .int mka, .int miw]))]) (wr := []) (rest := [.int x4_5]) (sn := [.int r100_16, .int x4_5]) hx hb hml hown hts hE hA (k_X10_manMoves G l mo aMM aMT aPD aST aPL aRS aLA aBM aRP aFI aFM aGB aGM aGV aGR aKB aKP aIK mbd mby mgr mol mmy mpm mrd mbm mbw mpl msm mgs mka miw mbd x5_6 r100_16 hr100_16) sm_X10_manMoves mw_916 ⟨rfl, rfl, Nat.le_of_ble_eq_true rfl, Nat.le_of_ble_eq_true rfl⟩ hP hD hS 0 rfl rfl [0] [] [0] rfl rfl rfl (by decide) hl.1 rfl rfl (Nat.le_of_ble_eq_true rfl) dX10_youth_100 ⟨Nat.le_of_ble_eq_true rfl, Nat.le_of_ble_eq_true rfl⟩ (fun H locs hP hD hS => ?_)
                refine lv_if_eq (tgt := 110) hx hb dX10_youth_103 (by decide) (fun c_17 => ?_) (fun c_17 => ?_)
                · have hF := ifp hF c_17
                  refine lv_iconst (v := 1) hx hb dX10_youth_110 (by decide) ?_
                  refine lv_iadd hx hb dX10_youth_111 ?_
                  refine lv_topi (fun v4_18 ev4_18 => ?_)
                  have hF := jl hF ev4_18
                  refine lv_istore (lv' := [(4, .int v4_18), (3, .int v3_15), (0, .ref mo), (1, .int sd), (2, .int wh), (5, .int x5_6)]) hx hb dX10_youth_112 hl (by decide) rfl (fun ls hl => ?_)
                  exact hB114 v3_15 v4_18 _ _ _ hF hP hD hS (lv_sub hl [2, 3, 4, 1, 0, 5] rfl)
                · have hF := ifn hF c_17
                  refine lv_iconst (v := 0) hx hb dX10_youth_106 (by decide) ?_
                  refine lv_goto (tgt := 111) hx hb dX10_youth_107 (by decide) ?_
                  refine lv_iadd hx hb dX10_youth_111 ?_
                  refine lv_topi (fun v4_19 ev4_19 => ?_)
                  have hF := jl hF ev4_19
                  refine lv_istore (lv' := [(4, .int v4_19), (3, .int v3_15), (0, .ref mo), (1, .int sd), (2, .int wh), (5, .int x5_6)]) hx hb dX10_youth_112 hl (by decide) rfl (fun ls hl => ?_)
                  exact hB114 v3_15 v4_19 _ _ _ hF hP hD hS (lv_sub hl [2, 3, 4, 1, 0, 5] rfl)
              refine lv_icmp_ge (tgt := 88) hx hb dX10_youth_75 (by decide) (fun c_20 => ?_) (fun c_20 => ?_)
              · have hF := ifp hF c_20
                refine lv_iconst (v := 0) hx hb dX10_youth_88 (by decide) ?_
                exact hB89 0 _ _ _ hF hP hD hS (lv_sub hl [1, 2, 3, 5, 6] rfl)
              · have hF := ifn hF c_20
                refine lv_aload_n hx hb dX10_youth_78 rfl (lv_at hl 1 rfl) ?_
                refine hget hx hb hts hown hE fl_X10_84 hP 0 rfl rfl dX10_youth_79 ?_
                refine lv_iload hx hb dX10_youth_82 (lv_at hl 0 rfl) ?_
                refine lv_isub hx hb dX10_youth_84 ?_
                refine lv_goto (tgt := 89) hx hb dX10_youth_85 (by decide) ?_
                exact hB89 (mol - v6_13) _ _ _ hF hP hD hS (lv_sub hl [1, 2, 3, 5, 6] rfl)
      exact hL33 _ 0 0 v5_3 _ _ _ hF hP hD hS (lv_sub hl [3, 4, 5, 2, 1, 0] rfl)
    · have hF := ifp hF c_2
      refine lv_bipush (v := (-2)) hx hb dX10_youth_20 (by decide) ?_
      have hF := Option.some.inj hF
      subst hF
      exact hm_iret hx hb hr hlk hP hD hS hpost dX10_youth_22
def f_X10_placeOf_L13 (xst : (Nat → Int64)) (xpl : (Nat → Int32)) (st : Int64) : Nat → Int32 → Option Int32
  | 0, _ => none
  | n+1, x3_2 =>
  if (x3_2) < 0 ∨ 65536 ≤ (x3_2).toNatClampNeg then none else if (xpl (x3_2).toNatClampNeg) = 0 then some x3_2 else if (x3_2) < 0 ∨ 65536 ≤ (x3_2).toNatClampNeg then none else if (((xpl (x3_2).toNatClampNeg) - 1)) < 0 ∨ 20001 ≤ (((xpl (x3_2).toNatClampNeg) - 1)).toNatClampNeg then none else if (lg_cmp (xst (((xpl (x3_2).toNatClampNeg) - 1)).toNatClampNeg) st) = 0 then some x3_2 else jlet (jrem (x3_2 + 1) 65536) (fun v3_8 => (f_X10_placeOf_L13 xst xpl st n) v3_8)
def f_X10_placeOf (xst : (Nat → Int64)) (xpl : (Nat → Int32)) (st : Int64) : Option Int32 :=
  jlet (((jlshr (st * (-7046029254386353131)) 40).toInt32) &&& 65535) (fun v3_1 => f_X10_placeOf_L13 xst xpl st 65537 v3_1)
abbrev rm_X10_placeOf : Room := { frames := 0, cells := 0, slots := 0, locals := 0 }
set_option maxHeartbeats 4000000 in
set_option maxRecDepth 100000 in
theorem k_X10_placeOf (G : gT) (l : Launch) (mo : Nat) (aMM : Nat) (aMT : Nat) (aPD : Nat) (aST : Nat) (aPL : Nat) (aRS : Nat) (aLA : Nat) (aBM : Nat) (aRP : Nat) (aFI : Nat) (aFM : Nat) (aGB : Nat) (aGM : Nat) (aGV : Nat) (aGR : Nat) (aKB : Nat) (aKP : Nat) (aIK : Nat) (mbd : Int64) (mby : Int32) (mgr : Int32) (mol : Int32) (mmy : Int32) (mpm : Int32) (mrd : Int64) (mbm : Int32) (mbw : Int32) (mpl : Int64) (msm : Int32) (mgs : Int32) (mka : Int32) (miw : Int32) (xst : (Nat → Int64)) (xpl : (Nat → Int32)) (st : Int64) (r : Int32) (hF : f_X10_placeOf xst xpl st = some r) : HM G l yX10_placeOf (.code yX10_placeOf cX10_placeOf 4 (some .int) :: UW) rm_X10_placeOf 0 0 [.ref mo, .long st] [(mo, .inr (8, [.long mbd, .int mby, .int mgr, .int mol, .ref aMM, .ref aMT, .int mmy, .ref aPD, .int mpm, .long mrd, .int mbm, .int mbw, .long mpl, .ref aST, .ref aPL, .ref aRS, .ref aLA, .ref aBM, .int msm, .ref aRP, .ref aFI, .ref aFM, .ref aGB, .ref aGM, .ref aGV, .ref aGR, .int mgs, .ref aKB, .ref aKP, .ref aIK, .int mka, .int miw])), (aST, .inl (gJ G, 20001, .inr (.inl xst))), (aPL, .inl (gI G, 65536, .inl xpl))] (some (.int r)) [(mo, .inr (8, [.long mbd, .int mby, .int mgr, .int mol, .ref aMM, .ref aMT, .int mmy, .ref aPD, .int mpm, .long mrd, .int mbm, .int mbw, .long mpl, .ref aST, .ref aPL, .ref aRS, .ref aLA, .ref aBM, .int msm, .ref aRP, .ref aFI, .ref aFM, .ref aGB, .ref aGM, .ref aGV, .ref aGR, .int mgs, .ref aKB, .ref aKP, .ref aIK, .int mka, .int miw])), (aST, .inl (gJ G, 20001, .inr (.inl xst))), (aPL, .inl (gI G, 65536, .inl xpl))] := by
  refine HM.ofW (by decide) (Nat.le_of_ble_eq_true rfl) ?_
  intro p e s m args below meth c A post hpost hC hP hD hS ls hl
  obtain ⟨hx, hb, hr, hml, hown, hts, hlk, hE, hA⟩ := hC
  have hl : lv_has ls 4 [(0, .ref mo), (1, .long st)] := hl
  unfold f_X10_placeOf at hF
  refine lv_lload_n hx hb dX10_placeOf_0 rfl (lv_at hl 1 rfl) ?_
  refine lv_ldc2 (v := (-7046029254386353131)) hx hb hown (hts _ (List.mem_cons_of_mem _ mw_997)) dX10_placeOf_1 ?_
  refine lv_lmul hx hb dX10_placeOf_4 ?_
  refine lv_bipush (v := 40) hx hb dX10_placeOf_5 (by decide) ?_
  refine lv_lshr (v := (jlshr (st * (-7046029254386353131)) 40)) hx hb dX10_placeOf_7 rfl ?_
  refine lv_l2i (v := ((jlshr (st * (-7046029254386353131)) 40).toInt32)) hx hb dX10_placeOf_8 rfl ?_
  refine lv_ldc (v := 65535) hx hb hown (hts _ (List.mem_cons_of_mem _ mw_998)) dX10_placeOf_9 ?_
  refine lv_iand hx hb dX10_placeOf_11 ?_
  refine lv_topi (fun v3_1 ev3_1 => ?_)
  have hF := jl hF ev3_1
  refine lv_istore_n (lv' := [(3, .int v3_1), (0, .ref mo), (1, .long st)]) hx hb dX10_placeOf_12 rfl hl (by decide) rfl (fun ls hl => ?_)
  have hL13 : ∀ (n13 : Nat) (x3_2 : Int32) (H : Heap) (locs : List Loc) (ls : Array Slot), f_X10_placeOf_L13 xst xpl st n13 x3_2 = some r → va_P (gD G) vwCl [(mo, .inr (8, [.long mbd, .int mby, .int mgr, .int mol, .ref aMM, .ref aMT, .int mmy, .ref aPD, .int mpm, .long mrd, .int mbm, .int mbw, .long mpl, .ref aST, .ref aPL, .ref aRS, .ref aLA, .ref aBM, .int msm, .ref aRP, .ref aFI, .ref aFM, .ref aGB, .ref aGM, .ref aGV, .ref aGR, .int mgs, .ref aKB, .ref aKP, .ref aIK, .int mka, .int miw])), (aST, .inl (gJ G, 20001, .inr (.inl xst))), (aPL, .inl (gI G, 65536, .inl xpl))] H → va_D A [(mo, .inr (8, [.long mbd, .int mby, .int mgr, .int mol, .ref aMM, .ref aMT, .int mmy, .ref aPD, .int mpm, .long mrd, .int mbm, .int mbw, .long mpl, .ref aST, .ref aPL, .ref aRS, .ref aLA, .ref aBM, .int msm, .ref aRP, .ref aFI, .ref aFM, .ref aGB, .ref aGM, .ref aGV, .ref aGR, .int mgs, .ref aKB, .ref aKP, .ref aIK, .int mka, .int miw])), (aST, .inl (gJ G, 20001, .inr (.inl xst))), (aPL, .inl (gI G, 65536, .inl xpl))] → va_S A s.heap H locs → lv_has ls 4 [(0, .ref mo), (1, .long st), (3, .int x3_2)] → W p l e rm_X10_placeOf s m args below meth c H locs 0 0 (MQ below (HXq G post A) args s 0 0 A) (F0 m 13 ls []) := by
    intro n13
    induction n13 with
    | zero =>
      intro x3_2 H locs ls hF
      exact absurd hF (fun h => by cases h)
    | succ n13 ih13 =>
      intro x3_2 H locs ls hF hP hD hS hl
      unfold f_X10_placeOf_L13 at hF
      refine lv_aload_n hx hb dX10_placeOf_13 rfl (lv_at hl 0 rfl) ?_
      refine hget hx hb hts hown hE fl_X10_24 hP 0 rfl rfl dX10_placeOf_14 ?_
      refine lv_iload_n hx hb dX10_placeOf_17 rfl (lv_at hl 2 rfl) ?_
      obtain ⟨hi_3, hF⟩ := inb hF
      refine hiald hx hb hE hP 2 rfl hi_3 dX10_placeOf_18 ?_
      refine lv_if_eq (tgt := 50) hx hb dX10_placeOf_19 (by decide) (fun c_4 => ?_) (fun c_4 => ?_)
      · have hF := ifp hF c_4
        refine lv_iload_n hx hb dX10_placeOf_50 rfl (lv_at hl 2 rfl) ?_
        have hF := Option.some.inj hF
        subst hF
        exact hm_iret hx hb hr hlk hP hD hS hpost dX10_placeOf_51
      · have hF := ifn hF c_4
        refine lv_aload_n hx hb dX10_placeOf_22 rfl (lv_at hl 0 rfl) ?_
        refine hget hx hb hts hown hE fl_X10_19 hP 0 rfl rfl dX10_placeOf_23 ?_
        refine lv_aload_n hx hb dX10_placeOf_26 rfl (lv_at hl 0 rfl) ?_
        refine hget hx hb hts hown hE fl_X10_24 hP 0 rfl rfl dX10_placeOf_27 ?_
        refine lv_iload_n hx hb dX10_placeOf_30 rfl (lv_at hl 2 rfl) ?_
        obtain ⟨hi_5, hF⟩ := inb hF
        refine hiald hx hb hE hP 2 rfl hi_5 dX10_placeOf_31 ?_
        refine lv_iconst (v := 1) hx hb dX10_placeOf_32 (by decide) ?_
        refine lv_isub hx hb dX10_placeOf_33 ?_
        obtain ⟨hi_6, hF⟩ := inb hF
        refine hlald hx hb hE hP 1 rfl hi_6 dX10_placeOf_34 ?_
        refine lv_lload_n hx hb dX10_placeOf_35 rfl (lv_at hl 1 rfl) ?_
        refine W.lcmp hx hb dX10_placeOf_36 ?_
        refine lv_if_eq (tgt := 50) hx hb dX10_placeOf_37 (by decide) (fun c_7 => ?_) (fun c_7 => ?_)
        · have hF := ifp hF c_7
          refine lv_iload_n hx hb dX10_placeOf_50 rfl (lv_at hl 2 rfl) ?_
          have hF := Option.some.inj hF
          subst hF
          exact hm_iret hx hb hr hlk hP hD hS hpost dX10_placeOf_51
        · have hF := ifn hF c_7
          refine lv_iload_n hx hb dX10_placeOf_40 rfl (lv_at hl 2 rfl) ?_
          refine lv_iconst (v := 1) hx hb dX10_placeOf_41 (by decide) ?_
          refine lv_iadd hx hb dX10_placeOf_42 ?_
          refine lv_ldc (v := 65536) hx hb hown (hts _ (List.mem_cons_of_mem _ mw_722)) dX10_placeOf_43 ?_
          refine lv_irem hx hb dX10_placeOf_45 (by decide) ?_
          refine lv_topi (fun v3_8 ev3_8 => ?_)
          have hF := jl hF ev3_8
          refine lv_istore_n (lv' := [(3, .int v3_8), (0, .ref mo), (1, .long st)]) hx hb dX10_placeOf_46 rfl hl (by decide) rfl (fun ls hl => ?_)
          refine lv_goto (tgt := 13) hx hb dX10_placeOf_47 (by decide) ?_
          exact ih13 v3_8 _ _ _ hF hP hD hS (lv_sub hl [1, 2, 0] rfl)
  exact hL13 _ v3_1 _ _ _ hF hP hD hS (lv_sub hl [1, 2, 0] rfl)
def f_X10_addStand (msm : Int32) (xst : (Nat → Int64)) (xpl : (Nat → Int32)) (st : Int64) : Option (Int32 × (Nat → Int64) × (Nat → Int32)) :=
  Option.bind (f_X10_placeOf xst xpl st) (fun r2_1 => if (r2_1) < 0 ∨ 65536 ≤ (r2_1).toNatClampNeg then none else if (xpl (r2_1).toNatClampNeg) = 0 then if 20000 < msm then some (msm, xst, xpl) else if (msm) < 0 ∨ 20001 ≤ (msm).toNatClampNeg then none else jlet (vp_updL xst (msm).toNatClampNeg st) (fun a34_6 => jlet (msm + 1) (fun u42_7 => if (r2_1) < 0 ∨ 65536 ≤ (r2_1).toNatClampNeg then none else jlet (upd xpl (r2_1).toNatClampNeg u42_7) (fun a54_9 => some (u42_7, a34_6, a54_9)))) else some (msm, xst, xpl))
abbrev rm_X10_addStand : Room := { frames := 1, cells := 0, slots := 0, locals := 23 }
set_option maxHeartbeats 4000000 in
set_option maxRecDepth 100000 in
theorem k_X10_addStand (G : gT) (l : Launch) (mo : Nat) (aMM : Nat) (aMT : Nat) (aPD : Nat) (aST : Nat) (aPL : Nat) (aRS : Nat) (aLA : Nat) (aBM : Nat) (aRP : Nat) (aFI : Nat) (aFM : Nat) (aGB : Nat) (aGM : Nat) (aGV : Nat) (aGR : Nat) (aKB : Nat) (aKP : Nat) (aIK : Nat) (mbd : Int64) (mby : Int32) (mgr : Int32) (mol : Int32) (mmy : Int32) (mpm : Int32) (mrd : Int64) (mbm : Int32) (mbw : Int32) (mpl : Int64) (msm : Int32) (mgs : Int32) (mka : Int32) (miw : Int32) (xst : (Nat → Int64)) (xpl : (Nat → Int32)) (st : Int64) (r : Int32 × (Nat → Int64) × (Nat → Int32)) (hF : f_X10_addStand msm xst xpl st = some r) : HM G l yX10_addStand (.code yX10_addStand cX10_addStand 4 none :: UW) rm_X10_addStand 0 0 [.ref mo, .long st] [(mo, .inr (8, [.long mbd, .int mby, .int mgr, .int mol, .ref aMM, .ref aMT, .int mmy, .ref aPD, .int mpm, .long mrd, .int mbm, .int mbw, .long mpl, .ref aST, .ref aPL, .ref aRS, .ref aLA, .ref aBM, .int msm, .ref aRP, .ref aFI, .ref aFM, .ref aGB, .ref aGM, .ref aGV, .ref aGR, .int mgs, .ref aKB, .ref aKP, .ref aIK, .int mka, .int miw])), (aST, .inl (gJ G, 20001, .inr (.inl xst))), (aPL, .inl (gI G, 65536, .inl xpl))] none [(mo, .inr (8, [.long mbd, .int mby, .int mgr, .int mol, .ref aMM, .ref aMT, .int mmy, .ref aPD, .int mpm, .long mrd, .int mbm, .int mbw, .long mpl, .ref aST, .ref aPL, .ref aRS, .ref aLA, .ref aBM, .int r.1, .ref aRP, .ref aFI, .ref aFM, .ref aGB, .ref aGM, .ref aGV, .ref aGR, .int mgs, .ref aKB, .ref aKP, .ref aIK, .int mka, .int miw])), (aST, .inl (gJ G, 20001, .inr (.inl r.2.1))), (aPL, .inl (gI G, 65536, .inl r.2.2))] := by
  refine HM.ofW (by decide) (Nat.le_of_ble_eq_true rfl) ?_
  intro p e s m args below meth c A post hpost hC hP hD hS ls hl
  obtain ⟨hx, hb, hr, hml, hown, hts, hlk, hE, hA⟩ := hC
  have hl : lv_has ls 4 [(0, .ref mo), (1, .long st)] := hl
  unfold f_X10_addStand at hF
  refine lv_aload_n hx hb dX10_addStand_0 rfl (lv_at hl 0 rfl) ?_
  refine lv_lload_n hx hb dX10_addStand_1 rfl (lv_at hl 1 rfl) ?_
  obtain ⟨r2_1, hr2_1, hF⟩ := bnd hF
  refine hm_V (wn := [(mo, .inr (8, [.long mbd, .int mby, .int mgr, .int mol, .ref aMM, .ref aMT, .int mmy, .ref aPD, .int mpm, .long mrd, .int mbm, .int mbw, .long mpl, .ref aST, .ref aPL, .ref aRS, .ref aLA, .ref aBM, .int msm, .ref aRP, .ref aFI, .ref aFM, .ref aGB, .ref aGM, .ref aGV, .ref aGR, .int mgs, .ref aKB, .ref aKP, .ref aIK, .int mka, .int miw])), (aST, .inl (gJ G, 20001, .inr (.inl xst))), (aPL, .inl (gI G, 65536, .inl xpl))]) (wr := []) (rest := []) (sn := [.int r2_1]) hx hb hml hown hts hE hA (k_X10_placeOf G l mo aMM aMT aPD aST aPL aRS aLA aBM aRP aFI aFM aGB aGM aGV aGR aKB aKP aIK mbd mby mgr mol mmy mpm mrd mbm mbw mpl msm mgs mka miw xst xpl st r2_1 hr2_1) sm_X10_placeOf mw_993 ⟨rfl, rfl, Nat.le_of_ble_eq_true rfl, Nat.le_of_ble_eq_true rfl⟩ hP hD hS 0 rfl rfl [0, 1, 2] [] [0, 1, 2] rfl rfl rfl (by decide) hl.1 rfl rfl (Nat.le_of_ble_eq_true rfl) dX10_addStand_2 ⟨Nat.le_of_ble_eq_true rfl, Nat.le_of_ble_eq_true rfl⟩ (fun H locs hP hD hS => ?_)
  refine lv_istore_n (lv' := [(3, .int r2_1), (0, .ref mo), (1, .long st)]) hx hb dX10_addStand_5 rfl hl (by decide) rfl (fun ls hl => ?_)
  refine lv_aload_n hx hb dX10_addStand_6 rfl (lv_at hl 1 rfl) ?_
  refine hget hx hb hts hown hE fl_X10_24 hP 0 rfl rfl dX10_addStand_7 ?_
  refine lv_iload_n hx hb dX10_addStand_10 rfl (lv_at hl 0 rfl) ?_
  obtain ⟨hi_2, hF⟩ := inb hF
  refine hiald hx hb hE hP 2 rfl hi_2 dX10_addStand_11 ?_
  refine lv_if_ne (tgt := 55) hx hb dX10_addStand_12 (by decide) (fun c_3 => ?_) (fun c_3 => ?_)
  · have hF := ifn hF c_3
    have hF := Option.some.inj hF
    subst hF
    exact hm_vret hx hb hr hlk hP hD hS hpost dX10_addStand_55
  · have hF := ifp hF c_3
    refine lv_aload_n hx hb dX10_addStand_15 rfl (lv_at hl 1 rfl) ?_
    refine hget hx hb hts hown hE fl_X10_226 hP 0 rfl rfl dX10_addStand_16 ?_
    refine lv_sipush (v := 20000) hx hb dX10_addStand_19 (by decide) ?_
    refine lv_icmp_gt (tgt := 55) hx hb dX10_addStand_22 (by decide) (fun c_4 => ?_) (fun c_4 => ?_)
    · have hF := ifp hF c_4
      have hF := Option.some.inj hF
      subst hF
      exact hm_vret hx hb hr hlk hP hD hS hpost dX10_addStand_55
    · have hF := ifn hF c_4
      refine lv_aload_n hx hb dX10_addStand_25 rfl (lv_at hl 1 rfl) ?_
      refine hget hx hb hts hown hE fl_X10_19 hP 0 rfl rfl dX10_addStand_26 ?_
      refine lv_aload_n hx hb dX10_addStand_29 rfl (lv_at hl 1 rfl) ?_
      refine hget hx hb hts hown hE fl_X10_226 hP 0 rfl rfl dX10_addStand_30 ?_
      refine lv_lload_n hx hb dX10_addStand_33 rfl (lv_at hl 2 rfl) ?_
      obtain ⟨hi_5, hF⟩ := inb hF
      obtain ⟨a34_6, ea34_6⟩ : ∃ z : (Nat → Int64), z = vp_updL xst (msm).toNatClampNeg st := ⟨_, rfl⟩
      have hF := jl hF ea34_6
      refine hlast hx hb hE hP hD hS 1 rfl hi_5 (wn := [(mo, .inr (8, [.long mbd, .int mby, .int mgr, .int mol, .ref aMM, .ref aMT, .int mmy, .ref aPD, .int mpm, .long mrd, .int mbm, .int mbw, .long mpl, .ref aST, .ref aPL, .ref aRS, .ref aLA, .ref aBM, .int msm, .ref aRP, .ref aFI, .ref aFM, .ref aGB, .ref aGM, .ref aGV, .ref aGR, .int mgs, .ref aKB, .ref aKP, .ref aIK, .int mka, .int miw])), (aST, .inl (gJ G, 20001, .inr (.inl a34_6))), (aPL, .inl (gI G, 65536, .inl xpl))]) (by rw [ea34_6]; rfl) dX10_addStand_34 (fun H locs hP hD hS => ?_)
      refine lv_aload_n hx hb dX10_addStand_35 rfl (lv_at hl 1 rfl) ?_
      refine lv_dup hx hb dX10_addStand_36 rfl ?_
      refine hget hx hb hts hown hE fl_X10_226 hP 0 rfl rfl dX10_addStand_37 ?_
      refine lv_iconst (v := 1) hx hb dX10_addStand_40 (by decide) ?_
      refine lv_iadd hx hb dX10_addStand_41 ?_
      refine lv_topi (fun u42_7 eu42_7 => ?_)
      have hF := jl hF eu42_7
      refine hput hx hb hts hown hE fl_X10_226 ft_X10_18 hP hD hS 0 rfl rfl rfl rfl (Nat.le_of_ble_eq_true rfl) (wn := [(mo, .inr (8, [.long mbd, .int mby, .int mgr, .int mol, .ref aMM, .ref aMT, .int mmy, .ref aPD, .int mpm, .long mrd, .int mbm, .int mbw, .long mpl, .ref aST, .ref aPL, .ref aRS, .ref aLA, .ref aBM, .int u42_7, .ref aRP, .ref aFI, .ref aFM, .ref aGB, .ref aGM, .ref aGV, .ref aGR, .int mgs, .ref aKB, .ref aKP, .ref aIK, .int mka, .int miw])), (aST, .inl (gJ G, 20001, .inr (.inl a34_6))), (aPL, .inl (gI G, 65536, .inl xpl))]) rfl dX10_addStand_42 (fun H locs hP hD hS => ?_)
      refine lv_aload_n hx hb dX10_addStand_45 rfl (lv_at hl 1 rfl) ?_
      refine hget hx hb hts hown hE fl_X10_24 hP 0 rfl rfl dX10_addStand_46 ?_
      refine lv_iload_n hx hb dX10_addStand_49 rfl (lv_at hl 0 rfl) ?_
      refine lv_aload_n hx hb dX10_addStand_50 rfl (lv_at hl 1 rfl) ?_
      refine hget hx hb hts hown hE fl_X10_226 hP 0 rfl rfl dX10_addStand_51 ?_
      obtain ⟨hi_8, hF⟩ := inb hF
      obtain ⟨a54_9, ea54_9⟩ : ∃ z : (Nat → Int32), z = upd xpl (r2_1).toNatClampNeg u42_7 := ⟨_, rfl⟩
      have hF := jl hF ea54_9
      refine hiast hx hb hE hP hD hS 2 rfl hi_8 (wn := [(mo, .inr (8, [.long mbd, .int mby, .int mgr, .int mol, .ref aMM, .ref aMT, .int mmy, .ref aPD, .int mpm, .long mrd, .int mbm, .int mbw, .long mpl, .ref aST, .ref aPL, .ref aRS, .ref aLA, .ref aBM, .int u42_7, .ref aRP, .ref aFI, .ref aFM, .ref aGB, .ref aGM, .ref aGV, .ref aGR, .int mgs, .ref aKB, .ref aKP, .ref aIK, .int mka, .int miw])), (aST, .inl (gJ G, 20001, .inr (.inl a34_6))), (aPL, .inl (gI G, 65536, .inl a54_9))]) (by rw [ea54_9]; rfl) dX10_addStand_54 (fun H locs hP hD hS => ?_)
      have hF := Option.some.inj hF
      subst hF
      exact hm_vret hx hb hr hlk hP hD hS hpost dX10_addStand_55
def f_X10_findStands_B112 (mmy_11 : Int32) (msm_12 : Int32) (xst_13 : (Nat → Int64)) (xpl_14 : (Nat → Int32)) (xmm_15 : (Nat → Int32)) (xmt_16 : (Nat → Int32)) : Option (Int32 × Int32 × (Nat → Int64) × (Nat → Int32) × Int32 × (Nat → Int32) × (Nat → Int32)) :=
  if 20000 < msm_12 then some (0, msm_12, xst_13, xpl_14, mmy_11, xmm_15, xmt_16) else some (1, msm_12, xst_13, xpl_14, mmy_11, xmm_15, xmt_16)
def f_X10_findStands_L64 (k_33 : Int32 → Int32 → Int32 → (Nat → Int64) → (Nat → Int32) → (Nat → Int32) → (Nat → Int32) → Option (Int32 × Int32 × (Nat → Int64) × (Nat → Int32) × Int32 × (Nat → Int32) × (Nat → Int32))) (x3_10 : Int32) : Nat → Int32 → Int32 → Int32 → (Nat → Int64) → (Nat → Int32) → (Nat → Int32) → (Nat → Int32) → Option (Int32 × Int32 × (Nat → Int64) × (Nat → Int32) × Int32 × (Nat → Int32) × (Nat → Int32))
  | 0, _, _, _, _, _, _, _ => none
  | n+1, x4_22, mmy_23, msm_24, xst_25, xpl_26, xmm_27, xmt_28 =>
  if mmy_23 ≤ x4_22 then jlet (x3_10 + 1) (fun v3_30 => k_33 v3_30 mmy_23 msm_24 xst_25 xpl_26 xmm_27 xmt_28) else if (x3_10) < 0 ∨ 20001 ≤ (x3_10).toNatClampNeg then none else if (x4_22) < 0 ∨ 75 ≤ (x4_22).toNatClampNeg then none else if (x4_22) < 0 ∨ 75 ≤ (x4_22).toNatClampNeg then none else Option.bind (f_X10_gone (xst_25 (x3_10).toNatClampNeg) (xmm_27 (x4_22).toNatClampNeg) (xmt_28 (x4_22).toNatClampNeg)) (fun r94_34 => Option.bind (f_X10_addStand msm_24 xst_25 xpl_26 r94_34) (fun r97_35 => jlet (x4_22 + 1) (fun v4_36 => (f_X10_findStands_L64 k_33 x3_10 n) v4_36 mmy_23 r97_35.1 r97_35.2.1 r97_35.2.2 xmm_27 xmt_28)))
def f_X10_findStands_L33 (mby : Int32) (mgr : Int32) (mol : Int32) : Nat → Int32 → Int32 → Int32 → (Nat → Int64) → (Nat → Int32) → (Nat → Int32) → (Nat → Int32) → Option (Int32 × Int32 × (Nat → Int64) × (Nat → Int32) × Int32 × (Nat → Int32) × (Nat → Int32))
  | 0, _, _, _, _, _, _, _ => none
  | n+1, x3_10, mmy_11, msm_12, xst_13, xpl_14, xmm_15, xmt_16 =>
  if msm_12 ≤ x3_10 then f_X10_findStands_B112 mmy_11 msm_12 xst_13 xpl_14 xmm_15 xmt_16 else if 20000 < msm_12 then f_X10_findStands_B112 mmy_11 msm_12 xst_13 xpl_14 xmm_15 xmt_16 else if (x3_10) < 0 ∨ 20001 ≤ (x3_10).toNatClampNeg then none else Option.bind (f_X10_findMoves mby mgr mol xmm_15 xmt_16 (xst_13 (x3_10).toNatClampNeg)) (fun r58_21 => f_X10_findStands_L64 (f_X10_findStands_L33 mby mgr mol n) x3_10 65537 0 r58_21.1 msm_12 xst_13 xpl_14 r58_21.2.1 r58_21.2.2)
def f_X10_findStands_L2 (mby : Int32) (mgr : Int32) (mol : Int32) (st : Int64) : Nat → Int32 → Int32 → Int32 → (Nat → Int64) → (Nat → Int32) → (Nat → Int32) → (Nat → Int32) → Option (Int32 × Int32 × (Nat → Int64) × (Nat → Int32) × Int32 × (Nat → Int32) × (Nat → Int32))
  | 0, _, _, _, _, _, _, _ => none
  | n+1, x3_1, mmy_2, msm_3, xst_4, xpl_5, xmm_6, xmt_7 =>
  if 65536 ≤ x3_1 then Option.bind (f_X10_addStand 0 xst_4 xpl_5 st) (fun r28_9 => f_X10_findStands_L33 mby mgr mol 65537 0 mmy_2 r28_9.1 r28_9.2.1 r28_9.2.2 xmm_6 xmt_7) else if (x3_1) < 0 ∨ 65536 ≤ (x3_1).toNatClampNeg then none else jlet (upd xpl_5 (x3_1).toNatClampNeg 0) (fun a14_38 => jlet (x3_1 + 1) (fun v3_39 => (f_X10_findStands_L2 mby mgr mol st n) v3_39 mmy_2 msm_3 xst_4 a14_38 xmm_6 xmt_7))
def f_X10_findStands (mby : Int32) (mgr : Int32) (mol : Int32) (mmy : Int32) (msm : Int32) (xst : (Nat → Int64)) (xpl : (Nat → Int32)) (xmm : (Nat → Int32)) (xmt : (Nat → Int32)) (st : Int64) : Option (Int32 × Int32 × (Nat → Int64) × (Nat → Int32) × Int32 × (Nat → Int32) × (Nat → Int32)) :=
  f_X10_findStands_L2 mby mgr mol st 65537 0 mmy msm xst xpl xmm xmt
abbrev rm_X10_findStands : Room := { frames := 9, cells := 0, slots := 0, locals := 221 }
set_option maxHeartbeats 4000000 in
set_option maxRecDepth 100000 in
theorem k_X10_findStands (G : gT) (l : Launch) (mo : Nat) (aMM : Nat) (aMT : Nat) (aPD : Nat) (aST : Nat) (aPL : Nat) (aRS : Nat) (aLA : Nat) (aBM : Nat) (aRP : Nat) (aFI : Nat) (aFM : Nat) (aGB : Nat) (aGM : Nat) (aGV : Nat) (aGR : Nat) (aKB : Nat) (aKP : Nat) (aIK : Nat) (mbd : Int64) (mby : Int32) (mgr : Int32) (mol : Int32) (mmy : Int32) (mpm : Int32) (mrd : Int64) (mbm : Int32) (mbw : Int32) (mpl : Int64) (msm : Int32) (mgs : Int32) (mka : Int32) (miw : Int32) (xst : (Nat → Int64)) (xpl : (Nat → Int32)) (xmm : (Nat → Int32)) (xmt : (Nat → Int32)) (st : Int64) (r : Int32 × Int32 × (Nat → Int64) × (Nat → Int32) × Int32 × (Nat → Int32) × (Nat → Int32)) (hF : f_X10_findStands mby mgr mol mmy msm xst xpl xmm xmt st = some r) : HM G l yX10_findStands (.code yX10_findStands cX10_findStands 5 (some .boolean) :: UW) rm_X10_findStands 0 0 [.ref mo, .long st] [(mo, .inr (8, [.long mbd, .int mby, .int mgr, .int mol, .ref aMM, .ref aMT, .int mmy, .ref aPD, .int mpm, .long mrd, .int mbm, .int mbw, .long mpl, .ref aST, .ref aPL, .ref aRS, .ref aLA, .ref aBM, .int msm, .ref aRP, .ref aFI, .ref aFM, .ref aGB, .ref aGM, .ref aGV, .ref aGR, .int mgs, .ref aKB, .ref aKP, .ref aIK, .int mka, .int miw])), (aST, .inl (gJ G, 20001, .inr (.inl xst))), (aPL, .inl (gI G, 65536, .inl xpl)), (aMM, .inl (gI G, 75, .inl xmm)), (aMT, .inl (gI G, 75, .inl xmt))] (some (.int r.1)) [(mo, .inr (8, [.long mbd, .int mby, .int mgr, .int mol, .ref aMM, .ref aMT, .int r.2.2.2.2.1, .ref aPD, .int mpm, .long mrd, .int mbm, .int mbw, .long mpl, .ref aST, .ref aPL, .ref aRS, .ref aLA, .ref aBM, .int r.2.1, .ref aRP, .ref aFI, .ref aFM, .ref aGB, .ref aGM, .ref aGV, .ref aGR, .int mgs, .ref aKB, .ref aKP, .ref aIK, .int mka, .int miw])), (aST, .inl (gJ G, 20001, .inr (.inl r.2.2.1))), (aPL, .inl (gI G, 65536, .inl r.2.2.2.1)), (aMM, .inl (gI G, 75, .inl r.2.2.2.2.2.1)), (aMT, .inl (gI G, 75, .inl r.2.2.2.2.2.2))] := by
  refine HM.ofW (by decide) (Nat.le_of_ble_eq_true rfl) ?_
  intro p e s m args below meth c A post hpost hC hP hD hS ls hl
  obtain ⟨hx, hb, hr, hml, hown, hts, hlk, hE, hA⟩ := hC
  have hl : lv_has ls 5 [(0, .ref mo), (1, .long st)] := hl
  unfold f_X10_findStands at hF
  refine lv_iconst (v := 0) hx hb dX10_findStands_0 (by decide) ?_
  refine lv_istore_n (lv' := [(3, .int 0), (0, .ref mo), (1, .long st)]) hx hb dX10_findStands_1 rfl hl (by decide) rfl (fun ls hl => ?_)
  have hL2 : ∀ (n2 : Nat) (x3_1 : Int32) (mmy_2 : Int32) (msm_3 : Int32) (xst_4 : (Nat → Int64)) (xpl_5 : (Nat → Int32)) (xmm_6 : (Nat → Int32)) (xmt_7 : (Nat → Int32)) (H : Heap) (locs : List Loc) (ls : Array Slot), f_X10_findStands_L2 mby mgr mol st n2 x3_1 mmy_2 msm_3 xst_4 xpl_5 xmm_6 xmt_7 = some r → va_P (gD G) vwCl [(mo, .inr (8, [.long mbd, .int mby, .int mgr, .int mol, .ref aMM, .ref aMT, .int mmy_2, .ref aPD, .int mpm, .long mrd, .int mbm, .int mbw, .long mpl, .ref aST, .ref aPL, .ref aRS, .ref aLA, .ref aBM, .int msm_3, .ref aRP, .ref aFI, .ref aFM, .ref aGB, .ref aGM, .ref aGV, .ref aGR, .int mgs, .ref aKB, .ref aKP, .ref aIK, .int mka, .int miw])), (aST, .inl (gJ G, 20001, .inr (.inl xst_4))), (aPL, .inl (gI G, 65536, .inl xpl_5)), (aMM, .inl (gI G, 75, .inl xmm_6)), (aMT, .inl (gI G, 75, .inl xmt_7))] H → va_D A [(mo, .inr (8, [.long mbd, .int mby, .int mgr, .int mol, .ref aMM, .ref aMT, .int mmy_2, .ref aPD, .int mpm, .long mrd, .int mbm, .int mbw, .long mpl, .ref aST, .ref aPL, .ref aRS, .ref aLA, .ref aBM, .int msm_3, .ref aRP, .ref aFI, .ref aFM, .ref aGB, .ref aGM, .ref aGV, .ref aGR, .int mgs, .ref aKB, .ref aKP, .ref aIK, .int mka, .int miw])), (aST, .inl (gJ G, 20001, .inr (.inl xst_4))), (aPL, .inl (gI G, 65536, .inl xpl_5)), (aMM, .inl (gI G, 75, .inl xmm_6)), (aMT, .inl (gI G, 75, .inl xmt_7))] → va_S A s.heap H locs → lv_has ls 5 [(0, .ref mo), (1, .long st), (3, .int x3_1)] → W p l e rm_X10_findStands s m args below meth c H locs 0 0 (MQ below (HXq G post A) args s 0 0 A) (F0 m 2 ls []) := by
    intro n2
    induction n2 with
    | zero =>
      intro x3_1 mmy_2 msm_3 xst_4 xpl_5 xmm_6 xmt_7 H locs ls hF
      exact absurd hF (fun h => by cases h)
    | succ n2 ih2 =>
      intro x3_1 mmy_2 msm_3 xst_4 xpl_5 xmm_6 xmt_7 H locs ls hF hP hD hS hl
      unfold f_X10_findStands_L2 at hF
      refine lv_iload_n hx hb dX10_findStands_2 rfl (lv_at hl 2 rfl) ?_
      refine lv_ldc (v := 65536) hx hb hown (hts _ (List.mem_cons_of_mem _ mw_722)) dX10_findStands_3 ?_
      refine lv_icmp_ge (tgt := 21) hx hb dX10_findStands_5 (by decide) (fun c_8 => ?_) (fun c_8 => ?_)
      · have hF := ifp hF c_8
        refine lv_aload_n hx hb dX10_findStands_21 rfl (lv_at hl 0 rfl) ?_
        refine lv_iconst (v := 0) hx hb dX10_findStands_22 (by decide) ?_
        refine hput hx hb hts hown hE fl_X10_226 ft_X10_18 hP hD hS 0 rfl rfl rfl rfl (Nat.le_of_ble_eq_true rfl) (wn := [(mo, .inr (8, [.long mbd, .int mby, .int mgr, .int mol, .ref aMM, .ref aMT, .int mmy_2, .ref aPD, .int mpm, .long mrd, .int mbm, .int mbw, .long mpl, .ref aST, .ref aPL, .ref aRS, .ref aLA, .ref aBM, .int 0, .ref aRP, .ref aFI, .ref aFM, .ref aGB, .ref aGM, .ref aGV, .ref aGR, .int mgs, .ref aKB, .ref aKP, .ref aIK, .int mka, .int miw])), (aST, .inl (gJ G, 20001, .inr (.inl xst_4))), (aPL, .inl (gI G, 65536, .inl xpl_5)), (aMM, .inl (gI G, 75, .inl xmm_6)), (aMT, .inl (gI G, 75, .inl xmt_7))]) rfl dX10_findStands_23 (fun H locs hP hD hS => ?_)
        refine lv_aload_n hx hb dX10_findStands_26 rfl (lv_at hl 0 rfl) ?_
        refine lv_lload_n hx hb dX10_findStands_27 rfl (lv_at hl 1 rfl) ?_
        obtain ⟨r28_9, hr28_9, hF⟩ := bnd hF
        refine hm_V (wn := [(mo, .inr (8, [.long mbd, .int mby, .int mgr, .int mol, .ref aMM, .ref aMT, .int mmy_2, .ref aPD, .int mpm, .long mrd, .int mbm, .int mbw, .long mpl, .ref aST, .ref aPL, .ref aRS, .ref aLA, .ref aBM, .int r28_9.1, .ref aRP, .ref aFI, .ref aFM, .ref aGB, .ref aGM, .ref aGV, .ref aGR, .int mgs, .ref aKB, .ref aKP, .ref aIK, .int mka, .int miw])), (aST, .inl (gJ G, 20001, .inr (.inl r28_9.2.1))), (aPL, .inl (gI G, 65536, .inl r28_9.2.2)), (aMM, .inl (gI G, 75, .inl xmm_6)), (aMT, .inl (gI G, 75, .inl xmt_7))]) (wr := [(aMM, .inl (gI G, 75, .inl xmm_6)), (aMT, .inl (gI G, 75, .inl xmt_7))]) (rest := []) (sn := []) hx hb hml hown hts hE hA (k_X10_addStand G l mo aMM aMT aPD aST aPL aRS aLA aBM aRP aFI aFM aGB aGM aGV aGR aKB aKP aIK mbd mby mgr mol mmy_2 mpm mrd mbm mbw mpl 0 mgs mka miw xst_4 xpl_5 st r28_9 hr28_9) sm_X10_addStand mw_989 ⟨rfl, rfl, Nat.le_of_ble_eq_true rfl, Nat.le_of_ble_eq_true rfl⟩ hP hD hS 0 rfl rfl [0, 1, 2] [3, 4] [2, 3, 4, 0, 1] rfl rfl rfl (by decide) hl.1 rfl rfl (Nat.le_of_ble_eq_true rfl) dX10_findStands_28 ⟨Nat.le_of_ble_eq_true rfl, Nat.le_of_ble_eq_true rfl⟩ (fun H locs hP hD hS => ?_)
        refine lv_iconst (v := 0) hx hb dX10_findStands_31 (by decide) ?_
        refine lv_istore_n (lv' := [(3, .int 0), (0, .ref mo), (1, .long st)]) hx hb dX10_findStands_32 rfl hl (by decide) rfl (fun ls hl => ?_)
        have hL33 : ∀ (n33 : Nat) (x3_10 : Int32) (mmy_11 : Int32) (msm_12 : Int32) (xst_13 : (Nat → Int64)) (xpl_14 : (Nat → Int32)) (xmm_15 : (Nat → Int32)) (xmt_16 : (Nat → Int32)) (H : Heap) (locs : List Loc) (ls : Array Slot), f_X10_findStands_L33 mby mgr mol n33 x3_10 mmy_11 msm_12 xst_13 xpl_14 xmm_15 xmt_16 = some r → va_P (gD G) vwCl [(mo, .inr (8, [.long mbd, .int mby, .int mgr, .int mol, .ref aMM, .ref aMT, .int mmy_11, .ref aPD, .int mpm, .long mrd, .int mbm, .int mbw, .long mpl, .ref aST, .ref aPL, .ref aRS, .ref aLA, .ref aBM, .int msm_12, .ref aRP, .ref aFI, .ref aFM, .ref aGB, .ref aGM, .ref aGV, .ref aGR, .int mgs, .ref aKB, .ref aKP, .ref aIK, .int mka, .int miw])), (aST, .inl (gJ G, 20001, .inr (.inl xst_13))), (aPL, .inl (gI G, 65536, .inl xpl_14)), (aMM, .inl (gI G, 75, .inl xmm_15)), (aMT, .inl (gI G, 75, .inl xmt_16))] H → va_D A [(mo, .inr (8, [.long mbd, .int mby, .int mgr, .int mol, .ref aMM, .ref aMT, .int mmy_11, .ref aPD, .int mpm, .long mrd, .int mbm, .int mbw, .long mpl, .ref aST, .ref aPL, .ref aRS, .ref aLA, .ref aBM, .int msm_12, .ref aRP, .ref aFI, .ref aFM, .ref aGB, .ref aGM, .ref aGV, .ref aGR, .int mgs, .ref aKB, .ref aKP, .ref aIK, .int mka, .int miw])), (aST, .inl (gJ G, 20001, .inr (.inl xst_13))), (aPL, .inl (gI G, 65536, .inl xpl_14)), (aMM, .inl (gI G, 75, .inl xmm_15)), (aMT, .inl (gI G, 75, .inl xmt_16))] → va_S A s.heap H locs → lv_has ls 5 [(0, .ref mo), (3, .int x3_10)] → W p l e rm_X10_findStands s m args below meth c H locs 0 0 (MQ below (HXq G post A) args s 0 0 A) (F0 m 33 ls []) := by
          intro n33
          induction n33 with
          | zero =>
            intro x3_10 mmy_11 msm_12 xst_13 xpl_14 xmm_15 xmt_16 H locs ls hF
            exact absurd hF (fun h => by cases h)
          | succ n33 ih33 =>
            intro x3_10 mmy_11 msm_12 xst_13 xpl_14 xmm_15 xmt_16 H locs ls hF hP hD hS hl
            unfold f_X10_findStands_L33 at hF
            refine lv_iload_n hx hb dX10_findStands_33 rfl (lv_at hl 1 rfl) ?_
            refine lv_aload_n hx hb dX10_findStands_34 rfl (lv_at hl 0 rfl) ?_
            refine hget hx hb hts hown hE fl_X10_226 hP 0 rfl rfl dX10_findStands_35 ?_
            have hB112 : ∀ (H : Heap) (locs : List Loc) (ls : Array Slot), f_X10_findStands_B112 mmy_11 msm_12 xst_13 xpl_14 xmm_15 xmt_16 = some r → va_P (gD G) vwCl [(mo, .inr (8, [.long mbd, .int mby, .int mgr, .int mol, .ref aMM, .ref aMT, .int mmy_11, .ref aPD, .int mpm, .long mrd, .int mbm, .int mbw, .long mpl, .ref aST, .ref aPL, .ref aRS, .ref aLA, .ref aBM, .int msm_12, .ref aRP, .ref aFI, .ref aFM, .ref aGB, .ref aGM, .ref aGV, .ref aGR, .int mgs, .ref aKB, .ref aKP, .ref aIK, .int mka, .int miw])), (aST, .inl (gJ G, 20001, .inr (.inl xst_13))), (aPL, .inl (gI G, 65536, .inl xpl_14)), (aMM, .inl (gI G, 75, .inl xmm_15)), (aMT, .inl (gI G, 75, .inl xmt_16))] H → va_D A [(mo, .inr (8, [.long mbd, .int mby, .int mgr, .int mol, .ref aMM, .ref aMT, .int mmy_11, .ref aPD, .int mpm, .long mrd, .int mbm, .int mbw, .long mpl, .ref aST, .ref aPL, .ref aRS, .ref aLA, .ref aBM, .int msm_12, .ref aRP, .ref aFI, .ref aFM, .ref aGB, .ref aGM, .ref aGV, .ref aGR, .int mgs, .ref aKB, .ref aKP, .ref aIK, .int mka, .int miw])), (aST, .inl (gJ G, 20001, .inr (.inl xst_13))), (aPL, .inl (gI G, 65536, .inl xpl_14)), (aMM, .inl (gI G, 75, .inl xmm_15)), (aMT, .inl (gI G, 75, .inl xmt_16))] → va_S A s.heap H locs → lv_has ls 5 [(0, .ref mo)] → W p l e rm_X10_findStands s m args below meth c H locs 0 0 (MQ below (HXq G post A) args s 0 0 A) (F0 m 112 ls []) := by
              intro H locs ls hF hP hD hS hl
              unfold f_X10_findStands_B112 at hF
              refine lv_aload_n hx hb dX10_findStands_112 rfl (lv_at hl 0 rfl) ?_
              refine hget hx hb hts hown hE fl_X10_226 hP 0 rfl rfl dX10_findStands_113 ?_
              refine lv_sipush (v := 20000) hx hb dX10_findStands_116 (by decide) ?_
              refine lv_icmp_gt (tgt := 126) hx hb dX10_findStands_119 (by decide) (fun c_17 => ?_) (fun c_17 => ?_)
              · have hF := ifp hF c_17
                refine lv_iconst (v := 0) hx hb dX10_findStands_126 (by decide) ?_
                have hF := Option.some.inj hF
                subst hF
                exact hm_zret hx hb hr hlk hP hD hS (by decide +kernel) hpost dX10_findStands_127
              · have hF := ifn hF c_17
                refine lv_iconst (v := 1) hx hb dX10_findStands_122 (by decide) ?_
                refine lv_goto (tgt := 127) hx hb dX10_findStands_123 (by decide) ?_
                have hF := Option.some.inj hF
                subst hF
                exact hm_zret hx hb hr hlk hP hD hS (by decide +kernel) hpost dX10_findStands_127
            refine lv_icmp_ge (tgt := 112) hx hb dX10_findStands_38 (by decide) (fun c_18 => ?_) (fun c_18 => ?_)
            · have hF := ifp hF c_18
              exact hB112 _ _ _ hF hP hD hS (lv_sub hl [0] rfl)
            · have hF := ifn hF c_18
              refine lv_aload_n hx hb dX10_findStands_41 rfl (lv_at hl 0 rfl) ?_
              refine hget hx hb hts hown hE fl_X10_226 hP 0 rfl rfl dX10_findStands_42 ?_
              refine lv_sipush (v := 20000) hx hb dX10_findStands_45 (by decide) ?_
              refine lv_icmp_gt (tgt := 112) hx hb dX10_findStands_48 (by decide) (fun c_19 => ?_) (fun c_19 => ?_)
              · have hF := ifp hF c_19
                exact hB112 _ _ _ hF hP hD hS (lv_sub hl [0] rfl)
              · have hF := ifn hF c_19
                refine lv_aload_n hx hb dX10_findStands_51 rfl (lv_at hl 0 rfl) ?_
                refine lv_aload_n hx hb dX10_findStands_52 rfl (lv_at hl 0 rfl) ?_
                refine hget hx hb hts hown hE fl_X10_19 hP 0 rfl rfl dX10_findStands_53 ?_
                refine lv_iload_n hx hb dX10_findStands_56 rfl (lv_at hl 1 rfl) ?_
                obtain ⟨hi_20, hF⟩ := inb hF
                refine hlald hx hb hE hP 1 rfl hi_20 dX10_findStands_57 ?_
                obtain ⟨r58_21, hr58_21, hF⟩ := bnd hF
                refine hm_V (wn := [(mo, .inr (8, [.long mbd, .int mby, .int mgr, .int mol, .ref aMM, .ref aMT, .int r58_21.1, .ref aPD, .int mpm, .long mrd, .int mbm, .int mbw, .long mpl, .ref aST, .ref aPL, .ref aRS, .ref aLA, .ref aBM, .int msm_12, .ref aRP, .ref aFI, .ref aFM, .ref aGB, .ref aGM, .ref aGV, .ref aGR, .int mgs, .ref aKB, .ref aKP, .ref aIK, .int mka, .int miw])), (aST, .inl (gJ G, 20001, .inr (.inl xst_13))), (aPL, .inl (gI G, 65536, .inl xpl_14)), (aMM, .inl (gI G, 75, .inl r58_21.2.1)), (aMT, .inl (gI G, 75, .inl r58_21.2.2))]) (wr := [(aST, .inl (gJ G, 20001, .inr (.inl xst_13))), (aPL, .inl (gI G, 65536, .inl xpl_14))]) (rest := []) (sn := []) hx hb hml hown hts hE hA (k_X10_findMoves G l mo aMM aMT aPD aST aPL aRS aLA aBM aRP aFI aFM aGB aGM aGV aGR aKB aKP aIK mbd mby mgr mol mmy_11 mpm mrd mbm mbw mpl msm_12 mgs mka miw xmm_15 xmt_16 (xst_13 (x3_10).toNatClampNeg) r58_21 hr58_21) sm_X10_findMoves mw_965 ⟨rfl, rfl, Nat.le_of_ble_eq_true rfl, Nat.le_of_ble_eq_true rfl⟩ hP hD hS 0 rfl rfl [0, 3, 4] [1, 2] [2, 0, 1, 3, 4] rfl rfl rfl (by decide) hl.1 rfl rfl (Nat.le_of_ble_eq_true rfl) dX10_findStands_58 ⟨Nat.le_of_ble_eq_true rfl, Nat.le_of_ble_eq_true rfl⟩ (fun H locs hP hD hS => ?_)
                refine lv_iconst (v := 0) hx hb dX10_findStands_61 (by decide) ?_
                refine lv_istore (lv' := [(4, .int 0), (0, .ref mo), (3, .int x3_10)]) hx hb dX10_findStands_62 hl (by decide) rfl (fun ls hl => ?_)
                have hL64 : ∀ (n64 : Nat) (x4_22 : Int32) (mmy_23 : Int32) (msm_24 : Int32) (xst_25 : (Nat → Int64)) (xpl_26 : (Nat → Int32)) (xmm_27 : (Nat → Int32)) (xmt_28 : (Nat → Int32)) (H : Heap) (locs : List Loc) (ls : Array Slot), f_X10_findStands_L64 (f_X10_findStands_L33 mby mgr mol n33) x3_10 n64 x4_22 mmy_23 msm_24 xst_25 xpl_26 xmm_27 xmt_28 = some r → va_P (gD G) vwCl [(mo, .inr (8, [.long mbd, .int mby, .int mgr, .int mol, .ref aMM, .ref aMT, .int mmy_23, .ref aPD, .int mpm, .long mrd, .int mbm, .int mbw, .long mpl, .ref aST, .ref aPL, .ref aRS, .ref aLA, .ref aBM, .int msm_24, .ref aRP, .ref aFI, .ref aFM, .ref aGB, .ref aGM, .ref aGV, .ref aGR, .int mgs, .ref aKB, .ref aKP, .ref aIK, .int mka, .int miw])), (aST, .inl (gJ G, 20001, .inr (.inl xst_25))), (aPL, .inl (gI G, 65536, .inl xpl_26)), (aMM, .inl (gI G, 75, .inl xmm_27)), (aMT, .inl (gI G, 75, .inl xmt_28))] H → va_D A [(mo, .inr (8, [.long mbd, .int mby, .int mgr, .int mol, .ref aMM, .ref aMT, .int mmy_23, .ref aPD, .int mpm, .long mrd, .int mbm, .int mbw, .long mpl, .ref aST, .ref aPL, .ref aRS, .ref aLA, .ref aBM, .int msm_24, .ref aRP, .ref aFI, .ref aFM, .ref aGB, .ref aGM, .ref aGV, .ref aGR, .int mgs, .ref aKB, .ref aKP, .ref aIK, .int mka, .int miw])), (aST, .inl (gJ G, 20001, .inr (.inl xst_25))), (aPL, .inl (gI G, 65536, .inl xpl_26)), (aMM, .inl (gI G, 75, .inl xmm_27)), (aMT, .inl (gI G, 75, .inl xmt_28))] → va_S A s.heap H locs → lv_has ls 5 [(0, .ref mo), (3, .int x3_10), (4, .int x4_22)] → W p l e rm_X10_findStands s m args below meth c H locs 0 0 (MQ below (HXq G post A) args s 0 0 A) (F0 m 64 ls []) := by
                  intro n64
                  induction n64 with
                  | zero =>
                    intro x4_22 mmy_23 msm_24 xst_25 xpl_26 xmm_27 xmt_28 H locs ls hF
                    exact absurd hF (fun h => by cases h)
                  | succ n64 ih64 =>
                    intro x4_22 mmy_23 msm_24 xst_25 xpl_26 xmm_27 xmt_28 H locs ls hF hP hD hS hl
                    unfold f_X10_findStands_L64 at hF
                    refine lv_iload hx hb dX10_findStands_64 (lv_at hl 2 rfl) ?_
                    refine lv_aload_n hx hb dX10_findStands_66 rfl (lv_at hl 0 rfl) ?_
                    refine hget hx hb hts hown hE fl_X10_132 hP 0 rfl rfl dX10_findStands_67 ?_
                    refine lv_icmp_ge (tgt := 106) hx hb dX10_findStands_70 (by decide) (fun c_29 => ?_) (fun c_29 => ?_)
                    · have hF := ifp hF c_29
                      obtain ⟨v3_30, ev3_30⟩ : ∃ z : Int32, z = x3_10 + 1 := ⟨_, rfl⟩
                      have hF := jl hF ev3_30
                      refine lv_iinc (v := v3_30) (lv' := [(3, .int v3_30), (0, .ref mo), (4, .int x4_22)]) hx hb dX10_findStands_106 hl (k := 1) rfl (by rw [ev3_30]; rfl) (by decide) rfl (fun ls hl => ?_)
                      refine lv_goto (tgt := 33) hx hb dX10_findStands_109 (by decide) ?_
                      exact ih33 v3_30 mmy_23 msm_24 xst_25 xpl_26 xmm_27 xmt_28 _ _ _ hF hP hD hS (lv_sub hl [1, 0] rfl)
                    · have hF := ifn hF c_29
                      refine lv_aload_n hx hb dX10_findStands_73 rfl (lv_at hl 0 rfl) ?_
                      refine lv_aload_n hx hb dX10_findStands_74 rfl (lv_at hl 0 rfl) ?_
                      refine hget hx hb hts hown hE fl_X10_19 hP 0 rfl rfl dX10_findStands_75 ?_
                      refine lv_iload_n hx hb dX10_findStands_78 rfl (lv_at hl 1 rfl) ?_
                      obtain ⟨hi_31, hF⟩ := inb hF
                      refine hlald hx hb hE hP 1 rfl hi_31 dX10_findStands_79 ?_
                      refine lv_aload_n hx hb dX10_findStands_80 rfl (lv_at hl 0 rfl) ?_
                      refine hget hx hb hts hown hE fl_X10_7 hP 0 rfl rfl dX10_findStands_81 ?_
                      refine lv_iload hx hb dX10_findStands_84 (lv_at hl 2 rfl) ?_
                      obtain ⟨hi_32, hF⟩ := inb hF
                      refine hiald hx hb hE hP 3 rfl hi_32 dX10_findStands_86 ?_
                      refine lv_aload_n hx hb dX10_findStands_87 rfl (lv_at hl 0 rfl) ?_
                      refine hget hx hb hts hown hE fl_X10_13 hP 0 rfl rfl dX10_findStands_88 ?_
                      refine lv_iload hx hb dX10_findStands_91 (lv_at hl 2 rfl) ?_
                      obtain ⟨hi_33, hF⟩ := inb hF
                      refine hiald hx hb hE hP 4 rfl hi_33 dX10_findStands_93 ?_
                      obtain ⟨r94_34, hr94_34, hF⟩ := bnd hF
                      refine hm_S (wn := [(mo, .inr (8, [.long mbd, .int mby, .int mgr, .int mol, .ref aMM, .ref aMT, .int mmy_23, .ref aPD, .int mpm, .long mrd, .int mbm, .int mbw, .long mpl, .ref aST, .ref aPL, .ref aRS, .ref aLA, .ref aBM, .int msm_24, .ref aRP, .ref aFI, .ref aFM, .ref aGB, .ref aGM, .ref aGV, .ref aGR, .int mgs, .ref aKB, .ref aKP, .ref aIK, .int mka, .int miw])), (aST, .inl (gJ G, 20001, .inr (.inl xst_25))), (aPL, .inl (gI G, 65536, .inl xpl_26)), (aMM, .inl (gI G, 75, .inl xmm_27)), (aMT, .inl (gI G, 75, .inl xmt_28))]) (wr := [(mo, .inr (8, [.long mbd, .int mby, .int mgr, .int mol, .ref aMM, .ref aMT, .int mmy_23, .ref aPD, .int mpm, .long mrd, .int mbm, .int mbw, .long mpl, .ref aST, .ref aPL, .ref aRS, .ref aLA, .ref aBM, .int msm_24, .ref aRP, .ref aFI, .ref aFM, .ref aGB, .ref aGM, .ref aGV, .ref aGR, .int mgs, .ref aKB, .ref aKP, .ref aIK, .int mka, .int miw])), (aST, .inl (gJ G, 20001, .inr (.inl xst_25))), (aPL, .inl (gI G, 65536, .inl xpl_26)), (aMM, .inl (gI G, 75, .inl xmm_27)), (aMT, .inl (gI G, 75, .inl xmt_28))]) (rest := [.ref mo]) (sn := [.long r94_34, .ref mo]) hx hb hml hown hts hE hA (k_X10_gone G l (xst_25 (x3_10).toNatClampNeg) (xmm_27 (x4_22).toNatClampNeg) (xmt_28 (x4_22).toNatClampNeg) r94_34 hr94_34) sm_X10_gone mw_954 ⟨rfl, rfl, Nat.le_of_ble_eq_true rfl, Nat.le_of_ble_eq_true rfl⟩ hP hD hS [] [0, 1, 2, 3, 4] [0, 1, 2, 3, 4] rfl rfl rfl (by decide) hl.1 rfl rfl (Nat.le_of_ble_eq_true rfl) dX10_findStands_94 ⟨Nat.le_of_ble_eq_true rfl, Nat.le_of_ble_eq_true rfl⟩ (fun H locs hP hD hS => ?_)
                      obtain ⟨r97_35, hr97_35, hF⟩ := bnd hF
                      refine hm_V (wn := [(mo, .inr (8, [.long mbd, .int mby, .int mgr, .int mol, .ref aMM, .ref aMT, .int mmy_23, .ref aPD, .int mpm, .long mrd, .int mbm, .int mbw, .long mpl, .ref aST, .ref aPL, .ref aRS, .ref aLA, .ref aBM, .int r97_35.1, .ref aRP, .ref aFI, .ref aFM, .ref aGB, .ref aGM, .ref aGV, .ref aGR, .int mgs, .ref aKB, .ref aKP, .ref aIK, .int mka, .int miw])), (aST, .inl (gJ G, 20001, .inr (.inl r97_35.2.1))), (aPL, .inl (gI G, 65536, .inl r97_35.2.2)), (aMM, .inl (gI G, 75, .inl xmm_27)), (aMT, .inl (gI G, 75, .inl xmt_28))]) (wr := [(aMM, .inl (gI G, 75, .inl xmm_27)), (aMT, .inl (gI G, 75, .inl xmt_28))]) (rest := []) (sn := []) hx hb hml hown hts hE hA (k_X10_addStand G l mo aMM aMT aPD aST aPL aRS aLA aBM aRP aFI aFM aGB aGM aGV aGR aKB aKP aIK mbd mby mgr mol mmy_23 mpm mrd mbm mbw mpl msm_24 mgs mka miw xst_25 xpl_26 r94_34 r97_35 hr97_35) sm_X10_addStand mw_989 ⟨rfl, rfl, Nat.le_of_ble_eq_true rfl, Nat.le_of_ble_eq_true rfl⟩ hP hD hS 0 rfl rfl [0, 1, 2] [3, 4] [2, 3, 4, 0, 1] rfl rfl rfl (by decide) hl.1 rfl rfl (Nat.le_of_ble_eq_true rfl) dX10_findStands_97 ⟨Nat.le_of_ble_eq_true rfl, Nat.le_of_ble_eq_true rfl⟩ (fun H locs hP hD hS => ?_)
                      obtain ⟨v4_36, ev4_36⟩ : ∃ z : Int32, z = x4_22 + 1 := ⟨_, rfl⟩
                      have hF := jl hF ev4_36
                      refine lv_iinc (v := v4_36) (lv' := [(4, .int v4_36), (0, .ref mo), (3, .int x3_10)]) hx hb dX10_findStands_100 hl (k := 2) rfl (by rw [ev4_36]; rfl) (by decide) rfl (fun ls hl => ?_)
                      refine lv_goto (tgt := 64) hx hb dX10_findStands_103 (by decide) ?_
                      exact ih64 v4_36 mmy_23 r97_35.1 r97_35.2.1 r97_35.2.2 xmm_27 xmt_28 _ _ _ hF hP hD hS (lv_sub hl [1, 2, 0] rfl)
                exact hL64 _ 0 r58_21.1 msm_12 xst_13 xpl_14 r58_21.2.1 r58_21.2.2 _ _ _ hF hP hD hS (lv_sub hl [1, 2, 0] rfl)
        exact hL33 _ 0 mmy_2 r28_9.1 r28_9.2.1 r28_9.2.2 xmm_6 xmt_7 _ _ _ hF hP hD hS (lv_sub hl [1, 0] rfl)
      · have hF := ifn hF c_8
        refine lv_aload_n hx hb dX10_findStands_8 rfl (lv_at hl 0 rfl) ?_
        refine hget hx hb hts hown hE fl_X10_24 hP 0 rfl rfl dX10_findStands_9 ?_
        refine lv_iload_n hx hb dX10_findStands_12 rfl (lv_at hl 2 rfl) ?_
        refine lv_iconst (v := 0) hx hb dX10_findStands_13 (by decide) ?_
        obtain ⟨hi_37, hF⟩ := inb hF
        obtain ⟨a14_38, ea14_38⟩ : ∃ z : (Nat → Int32), z = upd xpl_5 (x3_1).toNatClampNeg 0 := ⟨_, rfl⟩
        have hF := jl hF ea14_38
        refine hiast hx hb hE hP hD hS 2 rfl hi_37 (wn := [(mo, .inr (8, [.long mbd, .int mby, .int mgr, .int mol, .ref aMM, .ref aMT, .int mmy_2, .ref aPD, .int mpm, .long mrd, .int mbm, .int mbw, .long mpl, .ref aST, .ref aPL, .ref aRS, .ref aLA, .ref aBM, .int msm_3, .ref aRP, .ref aFI, .ref aFM, .ref aGB, .ref aGM, .ref aGV, .ref aGR, .int mgs, .ref aKB, .ref aKP, .ref aIK, .int mka, .int miw])), (aST, .inl (gJ G, 20001, .inr (.inl xst_4))), (aPL, .inl (gI G, 65536, .inl a14_38)), (aMM, .inl (gI G, 75, .inl xmm_6)), (aMT, .inl (gI G, 75, .inl xmt_7))]) (by rw [ea14_38]; rfl) dX10_findStands_14 (fun H locs hP hD hS => ?_)
        obtain ⟨v3_39, ev3_39⟩ : ∃ z : Int32, z = x3_1 + 1 := ⟨_, rfl⟩
        have hF := jl hF ev3_39
        refine lv_iinc (v := v3_39) (lv' := [(3, .int v3_39), (0, .ref mo), (1, .long st)]) hx hb dX10_findStands_15 hl (k := 2) rfl (by rw [ev3_39]; rfl) (by decide) rfl (fun ls hl => ?_)
        refine lv_goto (tgt := 2) hx hb dX10_findStands_18 (by decide) ?_
        exact ih2 v3_39 mmy_2 msm_3 xst_4 a14_38 xmm_6 xmt_7 _ _ _ hF hP hD hS (lv_sub hl [1, 2, 0] rfl)
  exact hL2 _ 0 mmy msm xst xpl xmm xmt _ _ _ hF hP hD hS (lv_sub hl [1, 2, 0] rfl)
def f_X10_stands (mbd : Int64) (mby : Int32) (mgr : Int32) (mol : Int32) (mmy : Int32) (msm : Int32) (xst : (Nat → Int64)) (xpl : (Nat → Int32)) (xmm : (Nat → Int32)) (xmt : (Nat → Int32)) : Option (Int32 × Int32 × (Nat → Int64) × (Nat → Int32) × Int32 × (Nat → Int32) × (Nat → Int32)) :=
  Option.bind (f_X10_findStands mby mgr mol mmy msm xst xpl xmm xmt mbd) (fun r5_1 => if r5_1.1 = 0 then some ((-4), r5_1.2.1, r5_1.2.2.1, r5_1.2.2.2.1, r5_1.2.2.2.2.1, r5_1.2.2.2.2.2.1, r5_1.2.2.2.2.2.2) else some (r5_1.2.1, r5_1.2.1, r5_1.2.2.1, r5_1.2.2.2.1, r5_1.2.2.2.2.1, r5_1.2.2.2.2.2.1, r5_1.2.2.2.2.2.2))
abbrev rm_X10_stands : Room := { frames := 10, cells := 0, slots := 0, locals := 245 }
set_option maxHeartbeats 4000000 in
set_option maxRecDepth 100000 in
theorem k_X10_stands (G : gT) (l : Launch) (mo : Nat) (aMM : Nat) (aMT : Nat) (aPD : Nat) (aST : Nat) (aPL : Nat) (aRS : Nat) (aLA : Nat) (aBM : Nat) (aRP : Nat) (aFI : Nat) (aFM : Nat) (aGB : Nat) (aGM : Nat) (aGV : Nat) (aGR : Nat) (aKB : Nat) (aKP : Nat) (aIK : Nat) (mbd : Int64) (mby : Int32) (mgr : Int32) (mol : Int32) (mmy : Int32) (mpm : Int32) (mrd : Int64) (mbm : Int32) (mbw : Int32) (mpl : Int64) (msm : Int32) (mgs : Int32) (mka : Int32) (miw : Int32) (xst : (Nat → Int64)) (xpl : (Nat → Int32)) (xmm : (Nat → Int32)) (xmt : (Nat → Int32)) (r : Int32 × Int32 × (Nat → Int64) × (Nat → Int32) × Int32 × (Nat → Int32) × (Nat → Int32)) (hF : f_X10_stands mbd mby mgr mol mmy msm xst xpl xmm xmt = some r) : HM G l yX10_stands (.code yX10_stands cX10_stands 1 (some .int) :: UW) rm_X10_stands 0 0 [.ref mo] [(mo, .inr (8, [.long mbd, .int mby, .int mgr, .int mol, .ref aMM, .ref aMT, .int mmy, .ref aPD, .int mpm, .long mrd, .int mbm, .int mbw, .long mpl, .ref aST, .ref aPL, .ref aRS, .ref aLA, .ref aBM, .int msm, .ref aRP, .ref aFI, .ref aFM, .ref aGB, .ref aGM, .ref aGV, .ref aGR, .int mgs, .ref aKB, .ref aKP, .ref aIK, .int mka, .int miw])), (aST, .inl (gJ G, 20001, .inr (.inl xst))), (aPL, .inl (gI G, 65536, .inl xpl)), (aMM, .inl (gI G, 75, .inl xmm)), (aMT, .inl (gI G, 75, .inl xmt))] (some (.int r.1)) [(mo, .inr (8, [.long mbd, .int mby, .int mgr, .int mol, .ref aMM, .ref aMT, .int r.2.2.2.2.1, .ref aPD, .int mpm, .long mrd, .int mbm, .int mbw, .long mpl, .ref aST, .ref aPL, .ref aRS, .ref aLA, .ref aBM, .int r.2.1, .ref aRP, .ref aFI, .ref aFM, .ref aGB, .ref aGM, .ref aGV, .ref aGR, .int mgs, .ref aKB, .ref aKP, .ref aIK, .int mka, .int miw])), (aST, .inl (gJ G, 20001, .inr (.inl r.2.2.1))), (aPL, .inl (gI G, 65536, .inl r.2.2.2.1)), (aMM, .inl (gI G, 75, .inl r.2.2.2.2.2.1)), (aMT, .inl (gI G, 75, .inl r.2.2.2.2.2.2))] := by
  refine HM.ofW (by decide) (Nat.le_of_ble_eq_true rfl) ?_
  intro p e s m args below meth c A post hpost hC hP hD hS ls hl
  obtain ⟨hx, hb, hr, hml, hown, hts, hlk, hE, hA⟩ := hC
  have hl : lv_has ls 1 [(0, .ref mo)] := hl
  unfold f_X10_stands at hF
  refine lv_aload_n hx hb dX10_stands_0 rfl (lv_at hl 0 rfl) ?_
  refine lv_aload_n hx hb dX10_stands_1 rfl (lv_at hl 0 rfl) ?_
  refine hget hx hb hts hown hE fl_X10_69 hP 0 rfl rfl dX10_stands_2 ?_
  obtain ⟨r5_1, hr5_1, hF⟩ := bnd hF
  refine hm_V (wn := [(mo, .inr (8, [.long mbd, .int mby, .int mgr, .int mol, .ref aMM, .ref aMT, .int r5_1.2.2.2.2.1, .ref aPD, .int mpm, .long mrd, .int mbm, .int mbw, .long mpl, .ref aST, .ref aPL, .ref aRS, .ref aLA, .ref aBM, .int r5_1.2.1, .ref aRP, .ref aFI, .ref aFM, .ref aGB, .ref aGM, .ref aGV, .ref aGR, .int mgs, .ref aKB, .ref aKP, .ref aIK, .int mka, .int miw])), (aST, .inl (gJ G, 20001, .inr (.inl r5_1.2.2.1))), (aPL, .inl (gI G, 65536, .inl r5_1.2.2.2.1)), (aMM, .inl (gI G, 75, .inl r5_1.2.2.2.2.2.1)), (aMT, .inl (gI G, 75, .inl r5_1.2.2.2.2.2.2))]) (wr := []) (rest := []) (sn := [.int r5_1.1]) hx hb hml hown hts hE hA (k_X10_findStands G l mo aMM aMT aPD aST aPL aRS aLA aBM aRP aFI aFM aGB aGM aGV aGR aKB aKP aIK mbd mby mgr mol mmy mpm mrd mbm mbw mpl msm mgs mka miw xst xpl xmm xmt mbd r5_1 hr5_1) sm_X10_findStands mw_985 ⟨rfl, rfl, Nat.le_of_ble_eq_true rfl, Nat.le_of_ble_eq_true rfl⟩ hP hD hS 0 rfl rfl [0, 1, 2, 3, 4] [] [0, 1, 2, 3, 4] rfl rfl rfl (by decide) hl.1 rfl rfl (Nat.le_of_ble_eq_true rfl) dX10_stands_5 ⟨Nat.le_of_ble_eq_true rfl, Nat.le_of_ble_eq_true rfl⟩ (fun H locs hP hD hS => ?_)
  refine lv_if_eq (tgt := 18) hx hb dX10_stands_8 (by decide) (fun c_2 => ?_) (fun c_2 => ?_)
  · have hF := ifp hF c_2
    refine lv_bipush (v := (-4)) hx hb dX10_stands_18 (by decide) ?_
    have hF := Option.some.inj hF
    subst hF
    exact hm_iret hx hb hr hlk hP hD hS hpost dX10_stands_20
  · have hF := ifn hF c_2
    refine lv_aload_n hx hb dX10_stands_11 rfl (lv_at hl 0 rfl) ?_
    refine hget hx hb hts hown hE fl_X10_226 hP 0 rfl rfl dX10_stands_12 ?_
    refine lv_goto (tgt := 20) hx hb dX10_stands_15 (by decide) ?_
    have hF := Option.some.inj hF
    subst hF
    exact hm_iret hx hb hr hlk hP hD hS hpost dX10_stands_20
def f_X10_oldness_B31 (k_4 : Int32 → Int32 → Option Int32) (x2_1 : Int32) (x3_2 : Int32) (t1_4 : Int32) : Option Int32 :=
  jlet (x2_1 + t1_4) (fun v2_5 => jlet (x3_2 + 1) (fun v3_6 => k_4 v2_5 v3_6))
def f_X10_oldness_L4 (st : Int64) : Nat → Int32 → Int32 → Option Int32
  | 0, _, _ => none
  | n+1, x2_1, x3_2 =>
  if 6 ≤ x3_2 then some x2_1 else if (f_X10_cellOf st x3_2) = 31 then f_X10_oldness_B31 (f_X10_oldness_L4 st n) x2_1 x3_2 10 else f_X10_oldness_B31 (f_X10_oldness_L4 st n) x2_1 x3_2 (f_X10_ageOf st x3_2)
def f_X10_oldness (st : Int64) : Option Int32 :=
  f_X10_oldness_L4 st 100 0 0
abbrev rm_X10_oldness : Room := { frames := 1, cells := 0, slots := 0, locals := 22 }
set_option maxHeartbeats 4000000 in
set_option maxRecDepth 100000 in
theorem k_X10_oldness (G : gT) (l : Launch) (st : Int64) (r : Int32) (hF : f_X10_oldness st = some r) : HM G l yX10_oldness (.code yX10_oldness cX10_oldness 4 (some .int) :: UW) rm_X10_oldness 0 0 [.long st] [] (some (.int r)) [] := by
  refine HM.ofW (by decide) (Nat.le_of_ble_eq_true rfl) ?_
  intro p e s m args below meth c A post hpost hC hP hD hS ls hl
  obtain ⟨hx, hb, hr, hml, hown, hts, hlk, hE, hA⟩ := hC
  have hl : lv_has ls 4 [(0, .long st)] := hl
  unfold f_X10_oldness at hF
  refine lv_iconst (v := 0) hx hb dX10_oldness_0 (by decide) ?_
  refine lv_istore_n (lv' := [(2, .int 0), (0, .long st)]) hx hb dX10_oldness_1 rfl hl (by decide) rfl (fun ls hl => ?_)
  refine lv_iconst (v := 0) hx hb dX10_oldness_2 (by decide) ?_
  refine lv_istore_n (lv' := [(3, .int 0), (2, .int 0), (0, .long st)]) hx hb dX10_oldness_3 rfl hl (by decide) rfl (fun ls hl => ?_)
  have hL4 : ∀ (n4 : Nat) (x2_1 : Int32) (x3_2 : Int32) (H : Heap) (locs : List Loc) (ls : Array Slot), f_X10_oldness_L4 st n4 x2_1 x3_2 = some r → va_P (gD G) vwCl [] H → va_D A [] → va_S A s.heap H locs → lv_has ls 4 [(0, .long st), (2, .int x2_1), (3, .int x3_2)] → W p l e rm_X10_oldness s m args below meth c H locs 0 0 (MQ below (HXq G post A) args s 0 0 A) (F0 m 4 ls []) := by
    intro n4
    induction n4 with
    | zero =>
      intro x2_1 x3_2 H locs ls hF
      exact absurd hF (fun h => by cases h)
    | succ n4 ih4 =>
      intro x2_1 x3_2 H locs ls hF hP hD hS hl
      unfold f_X10_oldness_L4 at hF
      refine lv_iload_n hx hb dX10_oldness_4 rfl (lv_at hl 2 rfl) ?_
      refine lv_bipush (v := 6) hx hb dX10_oldness_5 (by decide) ?_
      refine lv_icmp_ge (tgt := 39) hx hb dX10_oldness_7 (by decide) (fun c_3 => ?_) (fun c_3 => ?_)
      · have hF := ifp hF c_3
        refine lv_iload_n hx hb dX10_oldness_39 rfl (lv_at hl 1 rfl) ?_
        have hF := Option.some.inj hF
        subst hF
        exact hm_iret hx hb hr hlk hP hD hS hpost dX10_oldness_40
      · have hF := ifn hF c_3
        refine lv_iload_n hx hb dX10_oldness_10 rfl (lv_at hl 1 rfl) ?_
        refine lv_lload_n hx hb dX10_oldness_11 rfl (lv_at hl 0 rfl) ?_
        refine lv_iload_n hx hb dX10_oldness_12 rfl (lv_at hl 2 rfl) ?_
        refine hm_S (wn := []) (wr := []) (rest := [.int x2_1]) (sn := [.int (f_X10_cellOf st x3_2), .int x2_1]) hx hb hml hown hts hE hA (k_X10_cellOf G l st x3_2 _ rfl) sm_X10_cellOf mw_852 ⟨rfl, rfl, Nat.le_of_ble_eq_true rfl, Nat.le_of_ble_eq_true rfl⟩ hP hD hS [] [] [] rfl rfl rfl (by decide) hl.1 rfl rfl (Nat.le_of_ble_eq_true rfl) dX10_oldness_13 ⟨Nat.le_of_ble_eq_true rfl, Nat.le_of_ble_eq_true rfl⟩ (fun H locs hP hD hS => ?_)
        refine lv_bipush (v := 31) hx hb dX10_oldness_16 (by decide) ?_
        have hB31 : ∀ (t1_4 : Int32) (H : Heap) (locs : List Loc) (ls : Array Slot), f_X10_oldness_B31 (f_X10_oldness_L4 st n4) x2_1 x3_2 t1_4 = some r → va_P (gD G) vwCl [] H → va_D A [] → va_S A s.heap H locs → lv_has ls 4 [(0, .long st), (3, .int x3_2)] → W p l e rm_X10_oldness s m args below meth c H locs 0 0 (MQ below (HXq G post A) args s 0 0 A) (F0 m 31 ls [.int t1_4, .int x2_1]) := by
          intro t1_4 H locs ls hF hP hD hS hl
          unfold f_X10_oldness_B31 at hF
          refine lv_iadd hx hb dX10_oldness_31 ?_
          refine lv_topi (fun v2_5 ev2_5 => ?_)
          have hF := jl hF ev2_5
          refine lv_istore_n (lv' := [(2, .int v2_5), (0, .long st), (3, .int x3_2)]) hx hb dX10_oldness_32 rfl hl (by decide) rfl (fun ls hl => ?_)
          obtain ⟨v3_6, ev3_6⟩ : ∃ z : Int32, z = x3_2 + 1 := ⟨_, rfl⟩
          have hF := jl hF ev3_6
          refine lv_iinc (v := v3_6) (lv' := [(3, .int v3_6), (2, .int v2_5), (0, .long st)]) hx hb dX10_oldness_33 hl (k := 2) rfl (by rw [ev3_6]; rfl) (by decide) rfl (fun ls hl => ?_)
          refine lv_goto (tgt := 4) hx hb dX10_oldness_36 (by decide) ?_
          exact ih4 v2_5 v3_6 _ _ _ hF hP hD hS (lv_sub hl [2, 1, 0] rfl)
        refine lv_icmp_ne (tgt := 26) hx hb dX10_oldness_18 (by decide) (fun c_7 => ?_) (fun c_7 => ?_)
        · have hF := ifn hF c_7
          refine lv_lload_n hx hb dX10_oldness_26 rfl (lv_at hl 0 rfl) ?_
          refine lv_iload_n hx hb dX10_oldness_27 rfl (lv_at hl 2 rfl) ?_
          refine hm_S (wn := []) (wr := []) (rest := [.int x2_1]) (sn := [.int (f_X10_ageOf st x3_2), .int x2_1]) hx hb hml hown hts hE hA (k_X10_ageOf G l st x3_2 _ rfl) sm_X10_ageOf mw_892 ⟨rfl, rfl, Nat.le_of_ble_eq_true rfl, Nat.le_of_ble_eq_true rfl⟩ hP hD hS [] [] [] rfl rfl rfl (by decide) hl.1 rfl rfl (Nat.le_of_ble_eq_true rfl) dX10_oldness_28 ⟨Nat.le_of_ble_eq_true rfl, Nat.le_of_ble_eq_true rfl⟩ (fun H locs hP hD hS => ?_)
          exact hB31 (f_X10_ageOf st x3_2) _ _ _ hF hP hD hS (lv_sub hl [0, 2] rfl)
        · have hF := ifp hF c_7
          refine lv_bipush (v := 10) hx hb dX10_oldness_21 (by decide) ?_
          refine lv_goto (tgt := 31) hx hb dX10_oldness_23 (by decide) ?_
          exact hB31 10 _ _ _ hF hP hD hS (lv_sub hl [0, 2] rfl)
  exact hL4 _ 0 0 _ _ _ hF hP hD hS (lv_sub hl [2, 1, 0] rfl)
def f_X10_isBetter (is : Int32) (my : Int32) (th : Int32) (tm : Int32) : Int32 :=
  if is = th then if is = 1 then if tm ≤ my then 0 else 1 else if my ≤ tm then 0 else 1 else if is = 1 then 1 else if is = 0 then if th = 2 then 1 else 0 else 0
abbrev rm_X10_isBetter : Room := { frames := 0, cells := 0, slots := 0, locals := 0 }
set_option maxHeartbeats 4000000 in
set_option maxRecDepth 100000 in
theorem k_X10_isBetter (G : gT) (l : Launch) (is : Int32) (my : Int32) (th : Int32) (tm : Int32) (r : Int32) (hF : f_X10_isBetter is my th tm = r) : HM G l yX10_isBetter (.code yX10_isBetter cX10_isBetter 4 (some .boolean) :: UW) rm_X10_isBetter 0 0 [.int is, .int my, .int th, .int tm] [] (some (.int r)) [] := by
  refine HM.ofW (by decide) (Nat.le_of_ble_eq_true rfl) ?_
  intro p e s m args below meth c A post hpost hC hP hD hS ls hl
  obtain ⟨hx, hb, hr, hml, hown, hts, hlk, hE, hA⟩ := hC
  have hl : lv_has ls 4 [(0, .int is), (1, .int my), (2, .int th), (3, .int tm)] := hl
  unfold f_X10_isBetter at hF
  refine lv_iload_n hx hb dX10_isBetter_0 rfl (lv_at hl 0 rfl) ?_
  refine lv_iload_n hx hb dX10_isBetter_1 rfl (lv_at hl 2 rfl) ?_
  refine lv_icmp_eq (tgt := 25) hx hb dX10_isBetter_2 (by decide) (fun c_1 => ?_) (fun c_1 => ?_)
  · have hF := ifp hF c_1
    refine lv_iload_n hx hb dX10_isBetter_25 rfl (lv_at hl 0 rfl) ?_
    refine lv_iconst (v := 1) hx hb dX10_isBetter_26 (by decide) ?_
    refine lv_icmp_ne (tgt := 43) hx hb dX10_isBetter_27 (by decide) (fun c_2 => ?_) (fun c_2 => ?_)
    · have hF := ifn hF c_2
      refine lv_iload_n hx hb dX10_isBetter_43 rfl (lv_at hl 1 rfl) ?_
      refine lv_iload_n hx hb dX10_isBetter_44 rfl (lv_at hl 3 rfl) ?_
      refine lv_icmp_le (tgt := 52) hx hb dX10_isBetter_45 (by decide) (fun c_3 => ?_) (fun c_3 => ?_)
      · have hF := ifp hF c_3
        refine lv_iconst (v := 0) hx hb dX10_isBetter_52 (by decide) ?_
        subst hF
        exact hm_zret hx hb hr hlk hP hD hS (by decide +kernel) hpost dX10_isBetter_53
      · have hF := ifn hF c_3
        refine lv_iconst (v := 1) hx hb dX10_isBetter_48 (by decide) ?_
        refine lv_goto (tgt := 53) hx hb dX10_isBetter_49 (by decide) ?_
        subst hF
        exact hm_zret hx hb hr hlk hP hD hS (by decide +kernel) hpost dX10_isBetter_53
    · have hF := ifp hF c_2
      refine lv_iload_n hx hb dX10_isBetter_30 rfl (lv_at hl 1 rfl) ?_
      refine lv_iload_n hx hb dX10_isBetter_31 rfl (lv_at hl 3 rfl) ?_
      refine lv_icmp_ge (tgt := 39) hx hb dX10_isBetter_32 (by decide) (fun c_4 => ?_) (fun c_4 => ?_)
      · have hF := ifp hF c_4
        refine lv_iconst (v := 0) hx hb dX10_isBetter_39 (by decide) ?_
        refine lv_goto (tgt := 53) hx hb dX10_isBetter_40 (by decide) ?_
        subst hF
        exact hm_zret hx hb hr hlk hP hD hS (by decide +kernel) hpost dX10_isBetter_53
      · have hF := ifn hF c_4
        refine lv_iconst (v := 1) hx hb dX10_isBetter_35 (by decide) ?_
        refine lv_goto (tgt := 53) hx hb dX10_isBetter_36 (by decide) ?_
        subst hF
        exact hm_zret hx hb hr hlk hP hD hS (by decide +kernel) hpost dX10_isBetter_53
  · have hF := ifn hF c_1
    refine lv_iload_n hx hb dX10_isBetter_5 rfl (lv_at hl 0 rfl) ?_
    refine lv_iconst (v := 1) hx hb dX10_isBetter_6 (by decide) ?_
    refine lv_icmp_eq (tgt := 19) hx hb dX10_isBetter_7 (by decide) (fun c_5 => ?_) (fun c_5 => ?_)
    · have hF := ifp hF c_5
      refine lv_iconst (v := 1) hx hb dX10_isBetter_19 (by decide) ?_
      refine lv_goto (tgt := 24) hx hb dX10_isBetter_20 (by decide) ?_
      subst hF
      exact hm_zret hx hb hr hlk hP hD hS (by decide +kernel) hpost dX10_isBetter_24
    · have hF := ifn hF c_5
      refine lv_iload_n hx hb dX10_isBetter_10 rfl (lv_at hl 0 rfl) ?_
      refine lv_if_ne (tgt := 23) hx hb dX10_isBetter_11 (by decide) (fun c_6 => ?_) (fun c_6 => ?_)
      · have hF := ifn hF c_6
        refine lv_iconst (v := 0) hx hb dX10_isBetter_23 (by decide) ?_
        subst hF
        exact hm_zret hx hb hr hlk hP hD hS (by decide +kernel) hpost dX10_isBetter_24
      · have hF := ifp hF c_6
        refine lv_iload_n hx hb dX10_isBetter_14 rfl (lv_at hl 2 rfl) ?_
        refine lv_iconst (v := 2) hx hb dX10_isBetter_15 (by decide) ?_
        refine lv_icmp_ne (tgt := 23) hx hb dX10_isBetter_16 (by decide) (fun c_7 => ?_) (fun c_7 => ?_)
        · have hF := ifn hF c_7
          refine lv_iconst (v := 0) hx hb dX10_isBetter_23 (by decide) ?_
          subst hF
          exact hm_zret hx hb hr hlk hP hD hS (by decide +kernel) hpost dX10_isBetter_24
        · have hF := ifp hF c_7
          refine lv_iconst (v := 1) hx hb dX10_isBetter_19 (by decide) ?_
          refine lv_goto (tgt := 24) hx hb dX10_isBetter_20 (by decide) ?_
          subst hF
          exact hm_zret hx hb hr hlk hP hD hS (by decide +kernel) hpost dX10_isBetter_24
theorem z_X10_isBetter (is : Int32) (my : Int32) (th : Int32) (tm : Int32) : narrow .boolean (.int (f_X10_isBetter is my th tm)) = .int (f_X10_isBetter is my th tm) := by unfold f_X10_isBetter; repeat' (first | rfl | split)
def f_X10_solveOne_B228 (k_86 : Int32 → Int32 → (Nat → Int32) → (Nat → Int32) → (Nat → Int32) → (Nat → Int32) → (Nat → Int32) → Option ((Nat → Int32) × (Nat → Int32) × (Nat → Int32) × Int32 × (Nat → Int32) × (Nat → Int32))) (x3_8 : Int32) (mmy_28 : Int32) (xrs_29 : (Nat → Int32)) (xla_30 : (Nat → Int32)) (xbm_31 : (Nat → Int32)) (xmm_32 : (Nat → Int32)) (xmt_33 : (Nat → Int32)) : Option ((Nat → Int32) × (Nat → Int32) × (Nat → Int32) × Int32 × (Nat → Int32) × (Nat → Int32)) :=
  jlet (x3_8 + 1) (fun v3_34 => k_86 v3_34 mmy_28 xrs_29 xla_30 xbm_31 xmm_32 xmt_33)
def f_X10_solveOne_B195 (k_86 : Int32 → Int32 → (Nat → Int32) → (Nat → Int32) → (Nat → Int32) → (Nat → Int32) → (Nat → Int32) → Option ((Nat → Int32) × (Nat → Int32) × (Nat → Int32) × Int32 × (Nat → Int32) × (Nat → Int32))) (xst : (Nat → Int64)) (kk1 : Int32) (x3_8 : Int32) (mmy_9 : Int32) (xrs_10 : (Nat → Int32)) (xla_11 : (Nat → Int32)) (xbm_12 : (Nat → Int32)) (xmm_13 : (Nat → Int32)) (xmt_14 : (Nat → Int32)) (t0_24 : Int32) (v6_26 : Int32) : Option ((Nat → Int32) × (Nat → Int32) × (Nat → Int32) × Int32 × (Nat → Int32) × (Nat → Int32)) :=
  if (kk1) < 0 ∨ 20001 ≤ (kk1).toNatClampNeg then none else jlet (upd xrs_10 (kk1).toNatClampNeg t0_24) (fun a202_36 => if (kk1) < 0 ∨ 20001 ≤ (kk1).toNatClampNeg then none else jlet (upd xla_11 (kk1).toNatClampNeg v6_26) (fun a210_38 => if (kk1) < 0 ∨ 20001 ≤ (kk1).toNatClampNeg then none else Option.bind (f_X10_moveNumber xmm_13 xmt_14 (xst (kk1).toNatClampNeg) x3_8) (fun r224_40 => if (kk1) < 0 ∨ 20001 ≤ (kk1).toNatClampNeg then none else jlet (upd xbm_12 (kk1).toNatClampNeg r224_40) (fun a227_42 => f_X10_solveOne_B228 k_86 x3_8 mmy_9 a202_36 a210_38 a227_42 xmm_13 xmt_14))))
def f_X10_solveOne_B151 (k_86 : Int32 → Int32 → (Nat → Int32) → (Nat → Int32) → (Nat → Int32) → (Nat → Int32) → (Nat → Int32) → Option ((Nat → Int32) × (Nat → Int32) × (Nat → Int32) × Int32 × (Nat → Int32) × (Nat → Int32))) (xst : (Nat → Int64)) (kk1 : Int32) (x3_8 : Int32) (mmy_9 : Int32) (xrs_10 : (Nat → Int32)) (xla_11 : (Nat → Int32)) (xbm_12 : (Nat → Int32)) (xmm_13 : (Nat → Int32)) (xmt_14 : (Nat → Int32)) (v4_22 : Int32) (t0_24 : Int32) : Option ((Nat → Int32) × (Nat → Int32) × (Nat → Int32) × Int32 × (Nat → Int32) × (Nat → Int32)) :=
  if (v4_22) < 0 ∨ 20001 ≤ (v4_22).toNatClampNeg then none else jlet ((xla_11 (v4_22).toNatClampNeg) + 1) (fun v6_26 => if (kk1) < 0 ∨ 20001 ≤ (kk1).toNatClampNeg then none else if (xbm_12 (kk1).toNatClampNeg) < 0 then f_X10_solveOne_B195 k_86 xst kk1 x3_8 mmy_9 xrs_10 xla_11 xbm_12 xmm_13 xmt_14 t0_24 v6_26 else if (kk1) < 0 ∨ 20001 ≤ (kk1).toNatClampNeg then none else if (kk1) < 0 ∨ 20001 ≤ (kk1).toNatClampNeg then none else if (f_X10_isBetter t0_24 v6_26 (xrs_10 (kk1).toNatClampNeg) (xla_11 (kk1).toNatClampNeg)) = 0 then f_X10_solveOne_B228 k_86 x3_8 mmy_9 xrs_10 xla_11 xbm_12 xmm_13 xmt_14 else f_X10_solveOne_B195 k_86 xst kk1 x3_8 mmy_9 xrs_10 xla_11 xbm_12 xmm_13 xmt_14 t0_24 v6_26)
def f_X10_solveOne_L86 (xst : (Nat → Int64)) (xpl : (Nat → Int32)) (kk1 : Int32) : Nat → Int32 → Int32 → (Nat → Int32) → (Nat → Int32) → (Nat → Int32) → (Nat → Int32) → (Nat → Int32) → Option ((Nat → Int32) × (Nat → Int32) × (Nat → Int32) × Int32 × (Nat → Int32) × (Nat → Int32))
  | 0, _, _, _, _, _, _, _ => none
  | n+1, x3_8, mmy_9, xrs_10, xla_11, xbm_12, xmm_13, xmt_14 =>
  if mmy_9 ≤ x3_8 then some (xrs_10, xla_11, xbm_12, mmy_9, xmm_13, xmt_14) else if (kk1) < 0 ∨ 20001 ≤ (kk1).toNatClampNeg then none else if (x3_8) < 0 ∨ 75 ≤ (x3_8).toNatClampNeg then none else if (x3_8) < 0 ∨ 75 ≤ (x3_8).toNatClampNeg then none else Option.bind (f_X10_gone (xst (kk1).toNatClampNeg) (xmm_13 (x3_8).toNatClampNeg) (xmt_14 (x3_8).toNatClampNeg)) (fun r117_19 => Option.bind (f_X10_placeOf xst xpl r117_19) (fun r120_20 => if (r120_20) < 0 ∨ 65536 ≤ (r120_20).toNatClampNeg then none else jlet ((xpl (r120_20).toNatClampNeg) - 1) (fun v4_22 => if (v4_22) < 0 ∨ 20001 ≤ (v4_22).toNatClampNeg then none else if (xrs_10 (v4_22).toNatClampNeg) = 0 then f_X10_solveOne_B151 (f_X10_solveOne_L86 xst xpl kk1 n) xst kk1 x3_8 mmy_9 xrs_10 xla_11 xbm_12 xmm_13 xmt_14 v4_22 0 else if (v4_22) < 0 ∨ 20001 ≤ (v4_22).toNatClampNeg then none else f_X10_solveOne_B151 (f_X10_solveOne_L86 xst xpl kk1 n) xst kk1 x3_8 mmy_9 xrs_10 xla_11 xbm_12 xmm_13 xmt_14 v4_22 (3 - (xrs_10 (v4_22).toNatClampNeg)))))
def f_X10_solveOne_B49 (mmy : Int32) (xrs : (Nat → Int32)) (xla : (Nat → Int32)) (xbm : (Nat → Int32)) (xmm : (Nat → Int32)) (xmt : (Nat → Int32)) (kk1 : Int32) (t2_49 : Int32) : Option ((Nat → Int32) × (Nat → Int32) × (Nat → Int32) × Int32 × (Nat → Int32) × (Nat → Int32)) :=
  if (kk1) < 0 ∨ 20001 ≤ (kk1).toNatClampNeg then none else jlet (upd xrs (kk1).toNatClampNeg t2_49) (fun a49_51 => if (kk1) < 0 ∨ 20001 ≤ (kk1).toNatClampNeg then none else jlet (upd xla (kk1).toNatClampNeg 0) (fun a56_53 => if (kk1) < 0 ∨ 20001 ≤ (kk1).toNatClampNeg then none else jlet (upd xbm (kk1).toNatClampNeg (-6)) (fun a64_55 => some (a49_51, a56_53, a64_55, mmy, xmm, xmt))))
def f_X10_solveOne (mby : Int32) (mgr : Int32) (mol : Int32) (mmy : Int32) (xst : (Nat → Int64)) (xpl : (Nat → Int32)) (xrs : (Nat → Int32)) (xla : (Nat → Int32)) (xbm : (Nat → Int32)) (xmm : (Nat → Int32)) (xmt : (Nat → Int32)) (kk1 : Int32) : Option ((Nat → Int32) × (Nat → Int32) × (Nat → Int32) × Int32 × (Nat → Int32) × (Nat → Int32)) :=
  if (kk1) < 0 ∨ 20001 ≤ (kk1).toNatClampNeg then none else Option.bind (f_X10_broughtBy mby mgr mol (xst (kk1).toNatClampNeg)) (fun r7_2 => if r7_2 = 0 then if (kk1) < 0 ∨ 20001 ≤ (kk1).toNatClampNeg then none else Option.bind (f_X10_findMoves mby mgr mol xmm xmt (xst (kk1).toNatClampNeg)) (fun r73_5 => if (kk1) < 0 ∨ 20001 ≤ (kk1).toNatClampNeg then none else jlet (upd xbm (kk1).toNatClampNeg (-6)) (fun a83_7 => f_X10_solveOne_L86 xst xpl kk1 100 0 r73_5.1 xrs xla a83_7 r73_5.2.1 r73_5.2.2)) else if r7_2 = 3 then f_X10_solveOne_B49 mmy xrs xla xbm xmm xmt kk1 0 else if (kk1) < 0 ∨ 20001 ≤ (kk1).toNatClampNeg then none else if r7_2 = (1 + (f_X10_turnOf (xst (kk1).toNatClampNeg))) then f_X10_solveOne_B49 mmy xrs xla xbm xmm xmt kk1 1 else f_X10_solveOne_B49 mmy xrs xla xbm xmm xmt kk1 2)
abbrev rm_X10_solveOne : Room := { frames := 9, cells := 0, slots := 0, locals := 221 }
set_option maxHeartbeats 4000000 in
set_option maxRecDepth 100000 in
theorem k_X10_solveOne (G : gT) (l : Launch) (mo : Nat) (aMM : Nat) (aMT : Nat) (aPD : Nat) (aST : Nat) (aPL : Nat) (aRS : Nat) (aLA : Nat) (aBM : Nat) (aRP : Nat) (aFI : Nat) (aFM : Nat) (aGB : Nat) (aGM : Nat) (aGV : Nat) (aGR : Nat) (aKB : Nat) (aKP : Nat) (aIK : Nat) (mbd : Int64) (mby : Int32) (mgr : Int32) (mol : Int32) (mmy : Int32) (mpm : Int32) (mrd : Int64) (mbm : Int32) (mbw : Int32) (mpl : Int64) (msm : Int32) (mgs : Int32) (mka : Int32) (miw : Int32) (xst : (Nat → Int64)) (xpl : (Nat → Int32)) (xrs : (Nat → Int32)) (xla : (Nat → Int32)) (xbm : (Nat → Int32)) (xmm : (Nat → Int32)) (xmt : (Nat → Int32)) (kk1 : Int32) (r : (Nat → Int32) × (Nat → Int32) × (Nat → Int32) × Int32 × (Nat → Int32) × (Nat → Int32)) (hF : f_X10_solveOne mby mgr mol mmy xst xpl xrs xla xbm xmm xmt kk1 = some r) : HM G l yX10_solveOne (.code yX10_solveOne cX10_solveOne 7 none :: UW) rm_X10_solveOne 0 0 [.ref mo, .int kk1] [(mo, .inr (8, [.long mbd, .int mby, .int mgr, .int mol, .ref aMM, .ref aMT, .int mmy, .ref aPD, .int mpm, .long mrd, .int mbm, .int mbw, .long mpl, .ref aST, .ref aPL, .ref aRS, .ref aLA, .ref aBM, .int msm, .ref aRP, .ref aFI, .ref aFM, .ref aGB, .ref aGM, .ref aGV, .ref aGR, .int mgs, .ref aKB, .ref aKP, .ref aIK, .int mka, .int miw])), (aST, .inl (gJ G, 20001, .inr (.inl xst))), (aPL, .inl (gI G, 65536, .inl xpl)), (aRS, .inl (gI G, 20001, .inl xrs)), (aLA, .inl (gI G, 20001, .inl xla)), (aBM, .inl (gI G, 20001, .inl xbm)), (aMM, .inl (gI G, 75, .inl xmm)), (aMT, .inl (gI G, 75, .inl xmt))] none [(mo, .inr (8, [.long mbd, .int mby, .int mgr, .int mol, .ref aMM, .ref aMT, .int r.2.2.2.1, .ref aPD, .int mpm, .long mrd, .int mbm, .int mbw, .long mpl, .ref aST, .ref aPL, .ref aRS, .ref aLA, .ref aBM, .int msm, .ref aRP, .ref aFI, .ref aFM, .ref aGB, .ref aGM, .ref aGV, .ref aGR, .int mgs, .ref aKB, .ref aKP, .ref aIK, .int mka, .int miw])), (aST, .inl (gJ G, 20001, .inr (.inl xst))), (aPL, .inl (gI G, 65536, .inl xpl)), (aRS, .inl (gI G, 20001, .inl r.1)), (aLA, .inl (gI G, 20001, .inl r.2.1)), (aBM, .inl (gI G, 20001, .inl r.2.2.1)), (aMM, .inl (gI G, 75, .inl r.2.2.2.2.1)), (aMT, .inl (gI G, 75, .inl r.2.2.2.2.2))] := by
  refine HM.ofW (by decide) (Nat.le_of_ble_eq_true rfl) ?_
  intro p e s m args below meth c A post hpost hC hP hD hS ls hl
  obtain ⟨hx, hb, hr, hml, hown, hts, hlk, hE, hA⟩ := hC
  have hl : lv_has ls 7 [(0, .ref mo), (1, .int kk1)] := hl
  unfold f_X10_solveOne at hF
  refine lv_aload_n hx hb dX10_solveOne_0 rfl (lv_at hl 0 rfl) ?_
  refine lv_aload_n hx hb dX10_solveOne_1 rfl (lv_at hl 0 rfl) ?_
  refine hget hx hb hts hown hE fl_X10_19 hP 0 rfl rfl dX10_solveOne_2 ?_
  refine lv_iload_n hx hb dX10_solveOne_5 rfl (lv_at hl 1 rfl) ?_
  obtain ⟨hi_1, hF⟩ := inb hF
  refine hlald hx hb hE hP 1 rfl hi_1 dX10_solveOne_6 ?_
  obtain ⟨r7_2, hr7_2, hF⟩ := bnd hF
  refine hm_V (wn := [(mo, .inr (8, [.long mbd, .int mby, .int mgr, .int mol, .ref aMM, .ref aMT, .int mmy, .ref aPD, .int mpm, .long mrd, .int mbm, .int mbw, .long mpl, .ref aST, .ref aPL, .ref aRS, .ref aLA, .ref aBM, .int msm, .ref aRP, .ref aFI, .ref aFM, .ref aGB, .ref aGM, .ref aGV, .ref aGR, .int mgs, .ref aKB, .ref aKP, .ref aIK, .int mka, .int miw])), (aST, .inl (gJ G, 20001, .inr (.inl xst))), (aPL, .inl (gI G, 65536, .inl xpl)), (aRS, .inl (gI G, 20001, .inl xrs)), (aLA, .inl (gI G, 20001, .inl xla)), (aBM, .inl (gI G, 20001, .inl xbm)), (aMM, .inl (gI G, 75, .inl xmm)), (aMT, .inl (gI G, 75, .inl xmt))]) (wr := [(aST, .inl (gJ G, 20001, .inr (.inl xst))), (aPL, .inl (gI G, 65536, .inl xpl)), (aRS, .inl (gI G, 20001, .inl xrs)), (aLA, .inl (gI G, 20001, .inl xla)), (aBM, .inl (gI G, 20001, .inl xbm)), (aMM, .inl (gI G, 75, .inl xmm)), (aMT, .inl (gI G, 75, .inl xmt))]) (rest := []) (sn := [.int r7_2]) hx hb hml hown hts hE hA (k_X10_broughtBy G l mo aMM aMT aPD aST aPL aRS aLA aBM aRP aFI aFM aGB aGM aGV aGR aKB aKP aIK mbd mby mgr mol mmy mpm mrd mbm mbw mpl msm mgs mka miw (xst (kk1).toNatClampNeg) r7_2 hr7_2) sm_X10_broughtBy mw_908 ⟨rfl, rfl, Nat.le_of_ble_eq_true rfl, Nat.le_of_ble_eq_true rfl⟩ hP hD hS 0 rfl rfl [0] [1, 2, 3, 4, 5, 6, 7] [7, 0, 1, 2, 3, 4, 5, 6] rfl rfl rfl (by decide) hl.1 rfl rfl (Nat.le_of_ble_eq_true rfl) dX10_solveOne_7 ⟨Nat.le_of_ble_eq_true rfl, Nat.le_of_ble_eq_true rfl⟩ (fun H locs hP hD hS => ?_)
  refine lv_istore_n (lv' := [(2, .int r7_2), (0, .ref mo), (1, .int kk1)]) hx hb dX10_solveOne_10 rfl hl (by decide) rfl (fun ls hl => ?_)
  refine lv_iload_n hx hb dX10_solveOne_11 rfl (lv_at hl 0 rfl) ?_
  refine lv_if_eq (tgt := 66) hx hb dX10_solveOne_12 (by decide) (fun c_3 => ?_) (fun c_3 => ?_)
  · have hF := ifp hF c_3
    refine lv_aload_n hx hb dX10_solveOne_66 rfl (lv_at hl 1 rfl) ?_
    refine lv_aload_n hx hb dX10_solveOne_67 rfl (lv_at hl 1 rfl) ?_
    refine hget hx hb hts hown hE fl_X10_19 hP 0 rfl rfl dX10_solveOne_68 ?_
    refine lv_iload_n hx hb dX10_solveOne_71 rfl (lv_at hl 2 rfl) ?_
    obtain ⟨hi_4, hF⟩ := inb hF
    refine hlald hx hb hE hP 1 rfl hi_4 dX10_solveOne_72 ?_
    obtain ⟨r73_5, hr73_5, hF⟩ := bnd hF
    refine hm_V (wn := [(mo, .inr (8, [.long mbd, .int mby, .int mgr, .int mol, .ref aMM, .ref aMT, .int r73_5.1, .ref aPD, .int mpm, .long mrd, .int mbm, .int mbw, .long mpl, .ref aST, .ref aPL, .ref aRS, .ref aLA, .ref aBM, .int msm, .ref aRP, .ref aFI, .ref aFM, .ref aGB, .ref aGM, .ref aGV, .ref aGR, .int mgs, .ref aKB, .ref aKP, .ref aIK, .int mka, .int miw])), (aST, .inl (gJ G, 20001, .inr (.inl xst))), (aPL, .inl (gI G, 65536, .inl xpl)), (aRS, .inl (gI G, 20001, .inl xrs)), (aLA, .inl (gI G, 20001, .inl xla)), (aBM, .inl (gI G, 20001, .inl xbm)), (aMM, .inl (gI G, 75, .inl r73_5.2.1)), (aMT, .inl (gI G, 75, .inl r73_5.2.2))]) (wr := [(aST, .inl (gJ G, 20001, .inr (.inl xst))), (aPL, .inl (gI G, 65536, .inl xpl)), (aRS, .inl (gI G, 20001, .inl xrs)), (aLA, .inl (gI G, 20001, .inl xla)), (aBM, .inl (gI G, 20001, .inl xbm))]) (rest := []) (sn := []) hx hb hml hown hts hE hA (k_X10_findMoves G l mo aMM aMT aPD aST aPL aRS aLA aBM aRP aFI aFM aGB aGM aGV aGR aKB aKP aIK mbd mby mgr mol mmy mpm mrd mbm mbw mpl msm mgs mka miw xmm xmt (xst (kk1).toNatClampNeg) r73_5 hr73_5) sm_X10_findMoves mw_965 ⟨rfl, rfl, Nat.le_of_ble_eq_true rfl, Nat.le_of_ble_eq_true rfl⟩ hP hD hS 0 rfl rfl [0, 6, 7] [1, 2, 3, 4, 5] [5, 0, 1, 2, 3, 4, 6, 7] rfl rfl rfl (by decide) hl.1 rfl rfl (Nat.le_of_ble_eq_true rfl) dX10_solveOne_73 ⟨Nat.le_of_ble_eq_true rfl, Nat.le_of_ble_eq_true rfl⟩ (fun H locs hP hD hS => ?_)
    refine lv_aload_n hx hb dX10_solveOne_76 rfl (lv_at hl 1 rfl) ?_
    refine hget hx hb hts hown hE fl_X10_33 hP 0 rfl rfl dX10_solveOne_77 ?_
    refine lv_iload_n hx hb dX10_solveOne_80 rfl (lv_at hl 2 rfl) ?_
    refine lv_bipush (v := (-6)) hx hb dX10_solveOne_81 (by decide) ?_
    obtain ⟨hi_6, hF⟩ := inb hF
    obtain ⟨a83_7, ea83_7⟩ : ∃ z : (Nat → Int32), z = upd xbm (kk1).toNatClampNeg (-6) := ⟨_, rfl⟩
    have hF := jl hF ea83_7
    refine hiast hx hb hE hP hD hS 5 rfl hi_6 (wn := [(mo, .inr (8, [.long mbd, .int mby, .int mgr, .int mol, .ref aMM, .ref aMT, .int r73_5.1, .ref aPD, .int mpm, .long mrd, .int mbm, .int mbw, .long mpl, .ref aST, .ref aPL, .ref aRS, .ref aLA, .ref aBM, .int msm, .ref aRP, .ref aFI, .ref aFM, .ref aGB, .ref aGM, .ref aGV, .ref aGR, .int mgs, .ref aKB, .ref aKP, .ref aIK, .int mka, .int miw])), (aST, .inl (gJ G, 20001, .inr (.inl xst))), (aPL, .inl (gI G, 65536, .inl xpl)), (aRS, .inl (gI G, 20001, .inl xrs)), (aLA, .inl (gI G, 20001, .inl xla)), (aBM, .inl (gI G, 20001, .inl a83_7)), (aMM, .inl (gI G, 75, .inl r73_5.2.1)), (aMT, .inl (gI G, 75, .inl r73_5.2.2))]) (by rw [ea83_7]; rfl) dX10_solveOne_83 (fun H locs hP hD hS => ?_)
    refine lv_iconst (v := 0) hx hb dX10_solveOne_84 (by decide) ?_
    refine lv_istore_n (lv' := [(3, .int 0), (2, .int r7_2), (0, .ref mo), (1, .int kk1)]) hx hb dX10_solveOne_85 rfl hl (by decide) rfl (fun ls hl => ?_)
    have hL86 : ∀ (n86 : Nat) (x3_8 : Int32) (mmy_9 : Int32) (xrs_10 : (Nat → Int32)) (xla_11 : (Nat → Int32)) (xbm_12 : (Nat → Int32)) (xmm_13 : (Nat → Int32)) (xmt_14 : (Nat → Int32)) (H : Heap) (locs : List Loc) (ls : Array Slot), f_X10_solveOne_L86 xst xpl kk1 n86 x3_8 mmy_9 xrs_10 xla_11 xbm_12 xmm_13 xmt_14 = some r → va_P (gD G) vwCl [(mo, .inr (8, [.long mbd, .int mby, .int mgr, .int mol, .ref aMM, .ref aMT, .int mmy_9, .ref aPD, .int mpm, .long mrd, .int mbm, .int mbw, .long mpl, .ref aST, .ref aPL, .ref aRS, .ref aLA, .ref aBM, .int msm, .ref aRP, .ref aFI, .ref aFM, .ref aGB, .ref aGM, .ref aGV, .ref aGR, .int mgs, .ref aKB, .ref aKP, .ref aIK, .int mka, .int miw])), (aST, .inl (gJ G, 20001, .inr (.inl xst))), (aPL, .inl (gI G, 65536, .inl xpl)), (aRS, .inl (gI G, 20001, .inl xrs_10)), (aLA, .inl (gI G, 20001, .inl xla_11)), (aBM, .inl (gI G, 20001, .inl xbm_12)), (aMM, .inl (gI G, 75, .inl xmm_13)), (aMT, .inl (gI G, 75, .inl xmt_14))] H → va_D A [(mo, .inr (8, [.long mbd, .int mby, .int mgr, .int mol, .ref aMM, .ref aMT, .int mmy_9, .ref aPD, .int mpm, .long mrd, .int mbm, .int mbw, .long mpl, .ref aST, .ref aPL, .ref aRS, .ref aLA, .ref aBM, .int msm, .ref aRP, .ref aFI, .ref aFM, .ref aGB, .ref aGM, .ref aGV, .ref aGR, .int mgs, .ref aKB, .ref aKP, .ref aIK, .int mka, .int miw])), (aST, .inl (gJ G, 20001, .inr (.inl xst))), (aPL, .inl (gI G, 65536, .inl xpl)), (aRS, .inl (gI G, 20001, .inl xrs_10)), (aLA, .inl (gI G, 20001, .inl xla_11)), (aBM, .inl (gI G, 20001, .inl xbm_12)), (aMM, .inl (gI G, 75, .inl xmm_13)), (aMT, .inl (gI G, 75, .inl xmt_14))] → va_S A s.heap H locs → lv_has ls 7 [(0, .ref mo), (1, .int kk1), (3, .int x3_8)] → W p l e rm_X10_solveOne s m args below meth c H locs 0 0 (MQ below (HXq G post A) args s 0 0 A) (F0 m 86 ls []) := by
      intro n86
      induction n86 with
      | zero =>
        intro x3_8 mmy_9 xrs_10 xla_11 xbm_12 xmm_13 xmt_14 H locs ls hF
        exact absurd hF (fun h => by cases h)
      | succ n86 ih86 =>
        intro x3_8 mmy_9 xrs_10 xla_11 xbm_12 xmm_13 xmt_14 H locs ls hF hP hD hS hl
        unfold f_X10_solveOne_L86 at hF
        refine lv_iload_n hx hb dX10_solveOne_86 rfl (lv_at hl 2 rfl) ?_
        refine lv_aload_n hx hb dX10_solveOne_87 rfl (lv_at hl 0 rfl) ?_
        refine hget hx hb hts hown hE fl_X10_132 hP 0 rfl rfl dX10_solveOne_88 ?_
        refine lv_icmp_ge (tgt := 234) hx hb dX10_solveOne_91 (by decide) (fun c_15 => ?_) (fun c_15 => ?_)
        · have hF := ifp hF c_15
          have hF := Option.some.inj hF
          subst hF
          exact hm_vret hx hb hr hlk hP hD hS hpost dX10_solveOne_234
        · have hF := ifn hF c_15
          refine lv_aload_n hx hb dX10_solveOne_94 rfl (lv_at hl 0 rfl) ?_
          refine hget hx hb hts hown hE fl_X10_24 hP 0 rfl rfl dX10_solveOne_95 ?_
          refine lv_aload_n hx hb dX10_solveOne_98 rfl (lv_at hl 0 rfl) ?_
          refine lv_aload_n hx hb dX10_solveOne_99 rfl (lv_at hl 0 rfl) ?_
          refine hget hx hb hts hown hE fl_X10_19 hP 0 rfl rfl dX10_solveOne_100 ?_
          refine lv_iload_n hx hb dX10_solveOne_103 rfl (lv_at hl 1 rfl) ?_
          obtain ⟨hi_16, hF⟩ := inb hF
          refine hlald hx hb hE hP 1 rfl hi_16 dX10_solveOne_104 ?_
          refine lv_aload_n hx hb dX10_solveOne_105 rfl (lv_at hl 0 rfl) ?_
          refine hget hx hb hts hown hE fl_X10_7 hP 0 rfl rfl dX10_solveOne_106 ?_
          refine lv_iload_n hx hb dX10_solveOne_109 rfl (lv_at hl 2 rfl) ?_
          obtain ⟨hi_17, hF⟩ := inb hF
          refine hiald hx hb hE hP 6 rfl hi_17 dX10_solveOne_110 ?_
          refine lv_aload_n hx hb dX10_solveOne_111 rfl (lv_at hl 0 rfl) ?_
          refine hget hx hb hts hown hE fl_X10_13 hP 0 rfl rfl dX10_solveOne_112 ?_
          refine lv_iload_n hx hb dX10_solveOne_115 rfl (lv_at hl 2 rfl) ?_
          obtain ⟨hi_18, hF⟩ := inb hF
          refine hiald hx hb hE hP 7 rfl hi_18 dX10_solveOne_116 ?_
          obtain ⟨r117_19, hr117_19, hF⟩ := bnd hF
          refine hm_S (wn := [(mo, .inr (8, [.long mbd, .int mby, .int mgr, .int mol, .ref aMM, .ref aMT, .int mmy_9, .ref aPD, .int mpm, .long mrd, .int mbm, .int mbw, .long mpl, .ref aST, .ref aPL, .ref aRS, .ref aLA, .ref aBM, .int msm, .ref aRP, .ref aFI, .ref aFM, .ref aGB, .ref aGM, .ref aGV, .ref aGR, .int mgs, .ref aKB, .ref aKP, .ref aIK, .int mka, .int miw])), (aST, .inl (gJ G, 20001, .inr (.inl xst))), (aPL, .inl (gI G, 65536, .inl xpl)), (aRS, .inl (gI G, 20001, .inl xrs_10)), (aLA, .inl (gI G, 20001, .inl xla_11)), (aBM, .inl (gI G, 20001, .inl xbm_12)), (aMM, .inl (gI G, 75, .inl xmm_13)), (aMT, .inl (gI G, 75, .inl xmt_14))]) (wr := [(mo, .inr (8, [.long mbd, .int mby, .int mgr, .int mol, .ref aMM, .ref aMT, .int mmy_9, .ref aPD, .int mpm, .long mrd, .int mbm, .int mbw, .long mpl, .ref aST, .ref aPL, .ref aRS, .ref aLA, .ref aBM, .int msm, .ref aRP, .ref aFI, .ref aFM, .ref aGB, .ref aGM, .ref aGV, .ref aGR, .int mgs, .ref aKB, .ref aKP, .ref aIK, .int mka, .int miw])), (aST, .inl (gJ G, 20001, .inr (.inl xst))), (aPL, .inl (gI G, 65536, .inl xpl)), (aRS, .inl (gI G, 20001, .inl xrs_10)), (aLA, .inl (gI G, 20001, .inl xla_11)), (aBM, .inl (gI G, 20001, .inl xbm_12)), (aMM, .inl (gI G, 75, .inl xmm_13)), (aMT, .inl (gI G, 75, .inl xmt_14))]) (rest := [.ref mo, .ref aPL]) (sn := [.long r117_19, .ref mo, .ref aPL]) hx hb hml hown hts hE hA (k_X10_gone G l (xst (kk1).toNatClampNeg) (xmm_13 (x3_8).toNatClampNeg) (xmt_14 (x3_8).toNatClampNeg) r117_19 hr117_19) sm_X10_gone mw_954 ⟨rfl, rfl, Nat.le_of_ble_eq_true rfl, Nat.le_of_ble_eq_true rfl⟩ hP hD hS [] [0, 1, 2, 3, 4, 5, 6, 7] [0, 1, 2, 3, 4, 5, 6, 7] rfl rfl rfl (by decide) hl.1 rfl rfl (Nat.le_of_ble_eq_true rfl) dX10_solveOne_117 ⟨Nat.le_of_ble_eq_true rfl, Nat.le_of_ble_eq_true rfl⟩ (fun H locs hP hD hS => ?_)
          obtain ⟨r120_20, hr120_20, hF⟩ := bnd hF
          refine hm_V (wn := [(mo, .inr (8, [.long mbd, .int mby, .int mgr, .int mol, .ref aMM, .ref aMT, .int mmy_9, .ref aPD, .int mpm, .long mrd, .int mbm, .int mbw, .long mpl, .ref aST, .ref aPL, .ref aRS, .ref aLA, .ref aBM, .int msm, .ref aRP, .ref aFI, .ref aFM, .ref aGB, .ref aGM, .ref aGV, .ref aGR, .int mgs, .ref aKB, .ref aKP, .ref aIK, .int mka, .int miw])), (aST, .inl (gJ G, 20001, .inr (.inl xst))), (aPL, .inl (gI G, 65536, .inl xpl)), (aRS, .inl (gI G, 20001, .inl xrs_10)), (aLA, .inl (gI G, 20001, .inl xla_11)), (aBM, .inl (gI G, 20001, .inl xbm_12)), (aMM, .inl (gI G, 75, .inl xmm_13)), (aMT, .inl (gI G, 75, .inl xmt_14))]) (wr := [(aRS, .inl (gI G, 20001, .inl xrs_10)), (aLA, .inl (gI G, 20001, .inl xla_11)), (aBM, .inl (gI G, 20001, .inl xbm_12)), (aMM, .inl (gI G, 75, .inl xmm_13)), (aMT, .inl (gI G, 75, .inl xmt_14))]) (rest := [.ref aPL]) (sn := [.int r120_20, .ref aPL]) hx hb hml hown hts hE hA (k_X10_placeOf G l mo aMM aMT aPD aST aPL aRS aLA aBM aRP aFI aFM aGB aGM aGV aGR aKB aKP aIK mbd mby mgr mol mmy_9 mpm mrd mbm mbw mpl msm mgs mka miw xst xpl r117_19 r120_20 hr120_20) sm_X10_placeOf mw_993 ⟨rfl, rfl, Nat.le_of_ble_eq_true rfl, Nat.le_of_ble_eq_true rfl⟩ hP hD hS 0 rfl rfl [0, 1, 2] [3, 4, 5, 6, 7] [5, 6, 7, 0, 1, 2, 3, 4] rfl rfl rfl (by decide) hl.1 rfl rfl (Nat.le_of_ble_eq_true rfl) dX10_solveOne_120 ⟨Nat.le_of_ble_eq_true rfl, Nat.le_of_ble_eq_true rfl⟩ (fun H locs hP hD hS => ?_)
          obtain ⟨hi_21, hF⟩ := inb hF
          refine hiald hx hb hE hP 2 rfl hi_21 dX10_solveOne_123 ?_
          refine lv_iconst (v := 1) hx hb dX10_solveOne_124 (by decide) ?_
          refine lv_isub hx hb dX10_solveOne_125 ?_
          refine lv_topi (fun v4_22 ev4_22 => ?_)
          have hF := jl hF ev4_22
          refine lv_istore (lv' := [(4, .int v4_22), (0, .ref mo), (1, .int kk1), (3, .int x3_8)]) hx hb dX10_solveOne_126 hl (by decide) rfl (fun ls hl => ?_)
          refine lv_aload_n hx hb dX10_solveOne_128 rfl (lv_at hl 1 rfl) ?_
          refine hget hx hb hts hown hE fl_X10_27 hP 0 rfl rfl dX10_solveOne_129 ?_
          refine lv_iload hx hb dX10_solveOne_132 (lv_at hl 0 rfl) ?_
          obtain ⟨hi_23, hF⟩ := inb hF
          refine hiald hx hb hE hP 3 rfl hi_23 dX10_solveOne_134 ?_
          have hB151 : ∀ (t0_24 : Int32) (H : Heap) (locs : List Loc) (ls : Array Slot), f_X10_solveOne_B151 (f_X10_solveOne_L86 xst xpl kk1 n86) xst kk1 x3_8 mmy_9 xrs_10 xla_11 xbm_12 xmm_13 xmt_14 v4_22 t0_24 = some r → va_P (gD G) vwCl [(mo, .inr (8, [.long mbd, .int mby, .int mgr, .int mol, .ref aMM, .ref aMT, .int mmy_9, .ref aPD, .int mpm, .long mrd, .int mbm, .int mbw, .long mpl, .ref aST, .ref aPL, .ref aRS, .ref aLA, .ref aBM, .int msm, .ref aRP, .ref aFI, .ref aFM, .ref aGB, .ref aGM, .ref aGV, .ref aGR, .int mgs, .ref aKB, .ref aKP, .ref aIK, .int mka, .int miw])), (aST, .inl (gJ G, 20001, .inr (.inl xst))), (aPL, .inl (gI G, 65536, .inl xpl)), (aRS, .inl (gI G, 20001, .inl xrs_10)), (aLA, .inl (gI G, 20001, .inl xla_11)), (aBM, .inl (gI G, 20001, .inl xbm_12)), (aMM, .inl (gI G, 75, .inl xmm_13)), (aMT, .inl (gI G, 75, .inl xmt_14))] H → va_D A [(mo, .inr (8, [.long mbd, .int mby, .int mgr, .int mol, .ref aMM, .ref aMT, .int mmy_9, .ref aPD, .int mpm, .long mrd, .int mbm, .int mbw, .long mpl, .ref aST, .ref aPL, .ref aRS, .ref aLA, .ref aBM, .int msm, .ref aRP, .ref aFI, .ref aFM, .ref aGB, .ref aGM, .ref aGV, .ref aGR, .int mgs, .ref aKB, .ref aKP, .ref aIK, .int mka, .int miw])), (aST, .inl (gJ G, 20001, .inr (.inl xst))), (aPL, .inl (gI G, 65536, .inl xpl)), (aRS, .inl (gI G, 20001, .inl xrs_10)), (aLA, .inl (gI G, 20001, .inl xla_11)), (aBM, .inl (gI G, 20001, .inl xbm_12)), (aMM, .inl (gI G, 75, .inl xmm_13)), (aMT, .inl (gI G, 75, .inl xmt_14))] → va_S A s.heap H locs → lv_has ls 7 [(0, .ref mo), (1, .int kk1), (3, .int x3_8), (4, .int v4_22)] → W p l e rm_X10_solveOne s m args below meth c H locs 0 0 (MQ below (HXq G post A) args s 0 0 A) (F0 m 151 ls [.int t0_24]) := by
            intro t0_24 H locs ls hF hP hD hS hl
            unfold f_X10_solveOne_B151 at hF
            refine lv_istore (lv' := [(5, .int t0_24), (0, .ref mo), (1, .int kk1), (3, .int x3_8), (4, .int v4_22)]) hx hb dX10_solveOne_151 hl (by decide) rfl (fun ls hl => ?_)
            refine lv_aload_n hx hb dX10_solveOne_153 rfl (lv_at hl 1 rfl) ?_
            refine hget hx hb hts hown hE fl_X10_30 hP 0 rfl rfl dX10_solveOne_154 ?_
            refine lv_iload hx hb dX10_solveOne_157 (lv_at hl 4 rfl) ?_
            obtain ⟨hi_25, hF⟩ := inb hF
            refine hiald hx hb hE hP 4 rfl hi_25 dX10_solveOne_159 ?_
            refine lv_iconst (v := 1) hx hb dX10_solveOne_160 (by decide) ?_
            refine lv_iadd hx hb dX10_solveOne_161 ?_
            refine lv_topi (fun v6_26 ev6_26 => ?_)
            have hF := jl hF ev6_26
            refine lv_istore (lv' := [(6, .int v6_26), (5, .int t0_24), (0, .ref mo), (1, .int kk1), (3, .int x3_8), (4, .int v4_22)]) hx hb dX10_solveOne_162 hl (by decide) rfl (fun ls hl => ?_)
            refine lv_aload_n hx hb dX10_solveOne_164 rfl (lv_at hl 2 rfl) ?_
            refine hget hx hb hts hown hE fl_X10_33 hP 0 rfl rfl dX10_solveOne_165 ?_
            refine lv_iload_n hx hb dX10_solveOne_168 rfl (lv_at hl 3 rfl) ?_
            obtain ⟨hi_27, hF⟩ := inb hF
            refine hiald hx hb hE hP 5 rfl hi_27 dX10_solveOne_169 ?_
            have hB228 : ∀ (mmy_28 : Int32) (xrs_29 : (Nat → Int32)) (xla_30 : (Nat → Int32)) (xbm_31 : (Nat → Int32)) (xmm_32 : (Nat → Int32)) (xmt_33 : (Nat → Int32)) (H : Heap) (locs : List Loc) (ls : Array Slot), f_X10_solveOne_B228 (f_X10_solveOne_L86 xst xpl kk1 n86) x3_8 mmy_28 xrs_29 xla_30 xbm_31 xmm_32 xmt_33 = some r → va_P (gD G) vwCl [(mo, .inr (8, [.long mbd, .int mby, .int mgr, .int mol, .ref aMM, .ref aMT, .int mmy_28, .ref aPD, .int mpm, .long mrd, .int mbm, .int mbw, .long mpl, .ref aST, .ref aPL, .ref aRS, .ref aLA, .ref aBM, .int msm, .ref aRP, .ref aFI, .ref aFM, .ref aGB, .ref aGM, .ref aGV, .ref aGR, .int mgs, .ref aKB, .ref aKP, .ref aIK, .int mka, .int miw])), (aST, .inl (gJ G, 20001, .inr (.inl xst))), (aPL, .inl (gI G, 65536, .inl xpl)), (aRS, .inl (gI G, 20001, .inl xrs_29)), (aLA, .inl (gI G, 20001, .inl xla_30)), (aBM, .inl (gI G, 20001, .inl xbm_31)), (aMM, .inl (gI G, 75, .inl xmm_32)), (aMT, .inl (gI G, 75, .inl xmt_33))] H → va_D A [(mo, .inr (8, [.long mbd, .int mby, .int mgr, .int mol, .ref aMM, .ref aMT, .int mmy_28, .ref aPD, .int mpm, .long mrd, .int mbm, .int mbw, .long mpl, .ref aST, .ref aPL, .ref aRS, .ref aLA, .ref aBM, .int msm, .ref aRP, .ref aFI, .ref aFM, .ref aGB, .ref aGM, .ref aGV, .ref aGR, .int mgs, .ref aKB, .ref aKP, .ref aIK, .int mka, .int miw])), (aST, .inl (gJ G, 20001, .inr (.inl xst))), (aPL, .inl (gI G, 65536, .inl xpl)), (aRS, .inl (gI G, 20001, .inl xrs_29)), (aLA, .inl (gI G, 20001, .inl xla_30)), (aBM, .inl (gI G, 20001, .inl xbm_31)), (aMM, .inl (gI G, 75, .inl xmm_32)), (aMT, .inl (gI G, 75, .inl xmt_33))] → va_S A s.heap H locs → lv_has ls 7 [(0, .ref mo), (1, .int kk1), (3, .int x3_8)] → W p l e rm_X10_solveOne s m args below meth c H locs 0 0 (MQ below (HXq G post A) args s 0 0 A) (F0 m 228 ls []) := by
              intro mmy_28 xrs_29 xla_30 xbm_31 xmm_32 xmt_33 H locs ls hF hP hD hS hl
              unfold f_X10_solveOne_B228 at hF
              obtain ⟨v3_34, ev3_34⟩ : ∃ z : Int32, z = x3_8 + 1 := ⟨_, rfl⟩
              have hF := jl hF ev3_34
              refine lv_iinc (v := v3_34) (lv' := [(3, .int v3_34), (0, .ref mo), (1, .int kk1)]) hx hb dX10_solveOne_228 hl (k := 2) rfl (by rw [ev3_34]; rfl) (by decide) rfl (fun ls hl => ?_)
              refine lv_goto (tgt := 86) hx hb dX10_solveOne_231 (by decide) ?_
              exact ih86 v3_34 mmy_28 xrs_29 xla_30 xbm_31 xmm_32 xmt_33 _ _ _ hF hP hD hS (lv_sub hl [1, 2, 0] rfl)
            have hB195 : ∀ (H : Heap) (locs : List Loc) (ls : Array Slot), f_X10_solveOne_B195 (f_X10_solveOne_L86 xst xpl kk1 n86) xst kk1 x3_8 mmy_9 xrs_10 xla_11 xbm_12 xmm_13 xmt_14 t0_24 v6_26 = some r → va_P (gD G) vwCl [(mo, .inr (8, [.long mbd, .int mby, .int mgr, .int mol, .ref aMM, .ref aMT, .int mmy_9, .ref aPD, .int mpm, .long mrd, .int mbm, .int mbw, .long mpl, .ref aST, .ref aPL, .ref aRS, .ref aLA, .ref aBM, .int msm, .ref aRP, .ref aFI, .ref aFM, .ref aGB, .ref aGM, .ref aGV, .ref aGR, .int mgs, .ref aKB, .ref aKP, .ref aIK, .int mka, .int miw])), (aST, .inl (gJ G, 20001, .inr (.inl xst))), (aPL, .inl (gI G, 65536, .inl xpl)), (aRS, .inl (gI G, 20001, .inl xrs_10)), (aLA, .inl (gI G, 20001, .inl xla_11)), (aBM, .inl (gI G, 20001, .inl xbm_12)), (aMM, .inl (gI G, 75, .inl xmm_13)), (aMT, .inl (gI G, 75, .inl xmt_14))] H → va_D A [(mo, .inr (8, [.long mbd, .int mby, .int mgr, .int mol, .ref aMM, .ref aMT, .int mmy_9, .ref aPD, .int mpm, .long mrd, .int mbm, .int mbw, .long mpl, .ref aST, .ref aPL, .ref aRS, .ref aLA, .ref aBM, .int msm, .ref aRP, .ref aFI, .ref aFM, .ref aGB, .ref aGM, .ref aGV, .ref aGR, .int mgs, .ref aKB, .ref aKP, .ref aIK, .int mka, .int miw])), (aST, .inl (gJ G, 20001, .inr (.inl xst))), (aPL, .inl (gI G, 65536, .inl xpl)), (aRS, .inl (gI G, 20001, .inl xrs_10)), (aLA, .inl (gI G, 20001, .inl xla_11)), (aBM, .inl (gI G, 20001, .inl xbm_12)), (aMM, .inl (gI G, 75, .inl xmm_13)), (aMT, .inl (gI G, 75, .inl xmt_14))] → va_S A s.heap H locs → lv_has ls 7 [(0, .ref mo), (1, .int kk1), (3, .int x3_8), (5, .int t0_24), (6, .int v6_26)] → W p l e rm_X10_solveOne s m args below meth c H locs 0 0 (MQ below (HXq G post A) args s 0 0 A) (F0 m 195 ls []) := by
              intro H locs ls hF hP hD hS hl
              unfold f_X10_solveOne_B195 at hF
              refine lv_aload_n hx hb dX10_solveOne_195 rfl (lv_at hl 0 rfl) ?_
              refine hget hx hb hts hown hE fl_X10_27 hP 0 rfl rfl dX10_solveOne_196 ?_
              refine lv_iload_n hx hb dX10_solveOne_199 rfl (lv_at hl 1 rfl) ?_
              refine lv_iload hx hb dX10_solveOne_200 (lv_at hl 3 rfl) ?_
              obtain ⟨hi_35, hF⟩ := inb hF
              obtain ⟨a202_36, ea202_36⟩ : ∃ z : (Nat → Int32), z = upd xrs_10 (kk1).toNatClampNeg t0_24 := ⟨_, rfl⟩
              have hF := jl hF ea202_36
              refine hiast hx hb hE hP hD hS 3 rfl hi_35 (wn := [(mo, .inr (8, [.long mbd, .int mby, .int mgr, .int mol, .ref aMM, .ref aMT, .int mmy_9, .ref aPD, .int mpm, .long mrd, .int mbm, .int mbw, .long mpl, .ref aST, .ref aPL, .ref aRS, .ref aLA, .ref aBM, .int msm, .ref aRP, .ref aFI, .ref aFM, .ref aGB, .ref aGM, .ref aGV, .ref aGR, .int mgs, .ref aKB, .ref aKP, .ref aIK, .int mka, .int miw])), (aST, .inl (gJ G, 20001, .inr (.inl xst))), (aPL, .inl (gI G, 65536, .inl xpl)), (aRS, .inl (gI G, 20001, .inl a202_36)), (aLA, .inl (gI G, 20001, .inl xla_11)), (aBM, .inl (gI G, 20001, .inl xbm_12)), (aMM, .inl (gI G, 75, .inl xmm_13)), (aMT, .inl (gI G, 75, .inl xmt_14))]) (by rw [ea202_36]; rfl) dX10_solveOne_202 (fun H locs hP hD hS => ?_)
              refine lv_aload_n hx hb dX10_solveOne_203 rfl (lv_at hl 0 rfl) ?_
              refine hget hx hb hts hown hE fl_X10_30 hP 0 rfl rfl dX10_solveOne_204 ?_
              refine lv_iload_n hx hb dX10_solveOne_207 rfl (lv_at hl 1 rfl) ?_
              refine lv_iload hx hb dX10_solveOne_208 (lv_at hl 4 rfl) ?_
              obtain ⟨hi_37, hF⟩ := inb hF
              obtain ⟨a210_38, ea210_38⟩ : ∃ z : (Nat → Int32), z = upd xla_11 (kk1).toNatClampNeg v6_26 := ⟨_, rfl⟩
              have hF := jl hF ea210_38
              refine hiast hx hb hE hP hD hS 4 rfl hi_37 (wn := [(mo, .inr (8, [.long mbd, .int mby, .int mgr, .int mol, .ref aMM, .ref aMT, .int mmy_9, .ref aPD, .int mpm, .long mrd, .int mbm, .int mbw, .long mpl, .ref aST, .ref aPL, .ref aRS, .ref aLA, .ref aBM, .int msm, .ref aRP, .ref aFI, .ref aFM, .ref aGB, .ref aGM, .ref aGV, .ref aGR, .int mgs, .ref aKB, .ref aKP, .ref aIK, .int mka, .int miw])), (aST, .inl (gJ G, 20001, .inr (.inl xst))), (aPL, .inl (gI G, 65536, .inl xpl)), (aRS, .inl (gI G, 20001, .inl a202_36)), (aLA, .inl (gI G, 20001, .inl a210_38)), (aBM, .inl (gI G, 20001, .inl xbm_12)), (aMM, .inl (gI G, 75, .inl xmm_13)), (aMT, .inl (gI G, 75, .inl xmt_14))]) (by rw [ea210_38]; rfl) dX10_solveOne_210 (fun H locs hP hD hS => ?_)
              refine lv_aload_n hx hb dX10_solveOne_211 rfl (lv_at hl 0 rfl) ?_
              refine hget hx hb hts hown hE fl_X10_33 hP 0 rfl rfl dX10_solveOne_212 ?_
              refine lv_iload_n hx hb dX10_solveOne_215 rfl (lv_at hl 1 rfl) ?_
              refine lv_aload_n hx hb dX10_solveOne_216 rfl (lv_at hl 0 rfl) ?_
              refine lv_aload_n hx hb dX10_solveOne_217 rfl (lv_at hl 0 rfl) ?_
              refine hget hx hb hts hown hE fl_X10_19 hP 0 rfl rfl dX10_solveOne_218 ?_
              refine lv_iload_n hx hb dX10_solveOne_221 rfl (lv_at hl 1 rfl) ?_
              obtain ⟨hi_39, hF⟩ := inb hF
              refine hlald hx hb hE hP 1 rfl hi_39 dX10_solveOne_222 ?_
              refine lv_iload_n hx hb dX10_solveOne_223 rfl (lv_at hl 2 rfl) ?_
              obtain ⟨r224_40, hr224_40, hF⟩ := bnd hF
              refine hm_V (wn := [(mo, .inr (8, [.long mbd, .int mby, .int mgr, .int mol, .ref aMM, .ref aMT, .int mmy_9, .ref aPD, .int mpm, .long mrd, .int mbm, .int mbw, .long mpl, .ref aST, .ref aPL, .ref aRS, .ref aLA, .ref aBM, .int msm, .ref aRP, .ref aFI, .ref aFM, .ref aGB, .ref aGM, .ref aGV, .ref aGR, .int mgs, .ref aKB, .ref aKP, .ref aIK, .int mka, .int miw])), (aST, .inl (gJ G, 20001, .inr (.inl xst))), (aPL, .inl (gI G, 65536, .inl xpl)), (aRS, .inl (gI G, 20001, .inl a202_36)), (aLA, .inl (gI G, 20001, .inl a210_38)), (aBM, .inl (gI G, 20001, .inl xbm_12)), (aMM, .inl (gI G, 75, .inl xmm_13)), (aMT, .inl (gI G, 75, .inl xmt_14))]) (wr := [(aST, .inl (gJ G, 20001, .inr (.inl xst))), (aPL, .inl (gI G, 65536, .inl xpl)), (aRS, .inl (gI G, 20001, .inl a202_36)), (aLA, .inl (gI G, 20001, .inl a210_38)), (aBM, .inl (gI G, 20001, .inl xbm_12))]) (rest := [.int kk1, .ref aBM]) (sn := [.int r224_40, .int kk1, .ref aBM]) hx hb hml hown hts hE hA (k_X10_moveNumber G l mo aMM aMT aPD aST aPL aRS aLA aBM aRP aFI aFM aGB aGM aGV aGR aKB aKP aIK mbd mby mgr mol mmy_9 mpm mrd mbm mbw mpl msm mgs mka miw xmm_13 xmt_14 (xst (kk1).toNatClampNeg) x3_8 r224_40 hr224_40) sm_X10_moveNumber mw_969 ⟨rfl, rfl, Nat.le_of_ble_eq_true rfl, Nat.le_of_ble_eq_true rfl⟩ hP hD hS 0 rfl rfl [0, 6, 7] [1, 2, 3, 4, 5] [5, 0, 1, 2, 3, 4, 6, 7] rfl rfl rfl (by decide) hl.1 rfl rfl (Nat.le_of_ble_eq_true rfl) dX10_solveOne_224 ⟨Nat.le_of_ble_eq_true rfl, Nat.le_of_ble_eq_true rfl⟩ (fun H locs hP hD hS => ?_)
              obtain ⟨hi_41, hF⟩ := inb hF
              obtain ⟨a227_42, ea227_42⟩ : ∃ z : (Nat → Int32), z = upd xbm_12 (kk1).toNatClampNeg r224_40 := ⟨_, rfl⟩
              have hF := jl hF ea227_42
              refine hiast hx hb hE hP hD hS 5 rfl hi_41 (wn := [(mo, .inr (8, [.long mbd, .int mby, .int mgr, .int mol, .ref aMM, .ref aMT, .int mmy_9, .ref aPD, .int mpm, .long mrd, .int mbm, .int mbw, .long mpl, .ref aST, .ref aPL, .ref aRS, .ref aLA, .ref aBM, .int msm, .ref aRP, .ref aFI, .ref aFM, .ref aGB, .ref aGM, .ref aGV, .ref aGR, .int mgs, .ref aKB, .ref aKP, .ref aIK, .int mka, .int miw])), (aST, .inl (gJ G, 20001, .inr (.inl xst))), (aPL, .inl (gI G, 65536, .inl xpl)), (aRS, .inl (gI G, 20001, .inl a202_36)), (aLA, .inl (gI G, 20001, .inl a210_38)), (aBM, .inl (gI G, 20001, .inl a227_42)), (aMM, .inl (gI G, 75, .inl xmm_13)), (aMT, .inl (gI G, 75, .inl xmt_14))]) (by rw [ea227_42]; rfl) dX10_solveOne_227 (fun H locs hP hD hS => ?_)
              exact hB228 mmy_9 a202_36 a210_38 a227_42 xmm_13 xmt_14 _ _ _ hF hP hD hS (lv_sub hl [0, 1, 2] rfl)
            refine lv_if_lt (tgt := 195) hx hb dX10_solveOne_170 (by decide) (fun c_43 => ?_) (fun c_43 => ?_)
            · have hF := ifp hF c_43
              exact hB195 _ _ _ hF hP hD hS (lv_sub hl [2, 3, 4, 1, 0] rfl)
            · have hF := ifn hF c_43
              refine lv_iload hx hb dX10_solveOne_173 (lv_at hl 1 rfl) ?_
              refine lv_iload hx hb dX10_solveOne_175 (lv_at hl 0 rfl) ?_
              refine lv_aload_n hx hb dX10_solveOne_177 rfl (lv_at hl 2 rfl) ?_
              refine hget hx hb hts hown hE fl_X10_27 hP 0 rfl rfl dX10_solveOne_178 ?_
              refine lv_iload_n hx hb dX10_solveOne_181 rfl (lv_at hl 3 rfl) ?_
              obtain ⟨hi_44, hF⟩ := inb hF
              refine hiald hx hb hE hP 3 rfl hi_44 dX10_solveOne_182 ?_
              refine lv_aload_n hx hb dX10_solveOne_183 rfl (lv_at hl 2 rfl) ?_
              refine hget hx hb hts hown hE fl_X10_30 hP 0 rfl rfl dX10_solveOne_184 ?_
              refine lv_iload_n hx hb dX10_solveOne_187 rfl (lv_at hl 3 rfl) ?_
              obtain ⟨hi_45, hF⟩ := inb hF
              refine hiald hx hb hE hP 4 rfl hi_45 dX10_solveOne_188 ?_
              refine hm_S (wn := [(mo, .inr (8, [.long mbd, .int mby, .int mgr, .int mol, .ref aMM, .ref aMT, .int mmy_9, .ref aPD, .int mpm, .long mrd, .int mbm, .int mbw, .long mpl, .ref aST, .ref aPL, .ref aRS, .ref aLA, .ref aBM, .int msm, .ref aRP, .ref aFI, .ref aFM, .ref aGB, .ref aGM, .ref aGV, .ref aGR, .int mgs, .ref aKB, .ref aKP, .ref aIK, .int mka, .int miw])), (aST, .inl (gJ G, 20001, .inr (.inl xst))), (aPL, .inl (gI G, 65536, .inl xpl)), (aRS, .inl (gI G, 20001, .inl xrs_10)), (aLA, .inl (gI G, 20001, .inl xla_11)), (aBM, .inl (gI G, 20001, .inl xbm_12)), (aMM, .inl (gI G, 75, .inl xmm_13)), (aMT, .inl (gI G, 75, .inl xmt_14))]) (wr := [(mo, .inr (8, [.long mbd, .int mby, .int mgr, .int mol, .ref aMM, .ref aMT, .int mmy_9, .ref aPD, .int mpm, .long mrd, .int mbm, .int mbw, .long mpl, .ref aST, .ref aPL, .ref aRS, .ref aLA, .ref aBM, .int msm, .ref aRP, .ref aFI, .ref aFM, .ref aGB, .ref aGM, .ref aGV, .ref aGR, .int mgs, .ref aKB, .ref aKP, .ref aIK, .int mka, .int miw])), (aST, .inl (gJ G, 20001, .inr (.inl xst))), (aPL, .inl (gI G, 65536, .inl xpl)), (aRS, .inl (gI G, 20001, .inl xrs_10)), (aLA, .inl (gI G, 20001, .inl xla_11)), (aBM, .inl (gI G, 20001, .inl xbm_12)), (aMM, .inl (gI G, 75, .inl xmm_13)), (aMT, .inl (gI G, 75, .inl xmt_14))]) (rest := []) (sn := [.int (f_X10_isBetter t0_24 v6_26 (xrs_10 (kk1).toNatClampNeg) (xla_11 (kk1).toNatClampNeg))]) hx hb hml hown hts hE hA (k_X10_isBetter G l t0_24 v6_26 (xrs_10 (kk1).toNatClampNeg) (xla_11 (kk1).toNatClampNeg) _ rfl) sm_X10_isBetter mw_1015 ⟨rfl, rfl, Nat.le_of_ble_eq_true rfl, Nat.le_of_ble_eq_true rfl⟩ hP hD hS [] [0, 1, 2, 3, 4, 5, 6, 7] [0, 1, 2, 3, 4, 5, 6, 7] rfl rfl rfl (by decide) hl.1 rfl rfl (Nat.le_of_ble_eq_true rfl) dX10_solveOne_189 ⟨Nat.le_of_ble_eq_true rfl, Nat.le_of_ble_eq_true rfl⟩ (fun H locs hP hD hS => ?_)
              refine lv_if_eq (tgt := 228) hx hb dX10_solveOne_192 (by decide) (fun c_46 => ?_) (fun c_46 => ?_)
              · have hF := ifp hF c_46
                exact hB228 mmy_9 xrs_10 xla_11 xbm_12 xmm_13 xmt_14 _ _ _ hF hP hD hS (lv_sub hl [2, 3, 4] rfl)
              · have hF := ifn hF c_46
                exact hB195 _ _ _ hF hP hD hS (lv_sub hl [2, 3, 4, 1, 0] rfl)
          refine lv_if_ne (tgt := 142) hx hb dX10_solveOne_135 (by decide) (fun c_47 => ?_) (fun c_47 => ?_)
          · have hF := ifn hF c_47
            refine lv_iconst (v := 3) hx hb dX10_solveOne_142 (by decide) ?_
            refine lv_aload_n hx hb dX10_solveOne_143 rfl (lv_at hl 1 rfl) ?_
            refine hget hx hb hts hown hE fl_X10_27 hP 0 rfl rfl dX10_solveOne_144 ?_
            refine lv_iload hx hb dX10_solveOne_147 (lv_at hl 0 rfl) ?_
            obtain ⟨hi_48, hF⟩ := inb hF
            refine hiald hx hb hE hP 3 rfl hi_48 dX10_solveOne_149 ?_
            refine lv_isub hx hb dX10_solveOne_150 ?_
            exact hB151 (3 - (xrs_10 (v4_22).toNatClampNeg)) _ _ _ hF hP hD hS (lv_sub hl [1, 2, 3, 0] rfl)
          · have hF := ifp hF c_47
            refine lv_iconst (v := 0) hx hb dX10_solveOne_138 (by decide) ?_
            refine lv_goto (tgt := 151) hx hb dX10_solveOne_139 (by decide) ?_
            exact hB151 0 _ _ _ hF hP hD hS (lv_sub hl [1, 2, 3, 0] rfl)
    exact hL86 _ 0 r73_5.1 xrs xla a83_7 r73_5.2.1 r73_5.2.2 _ _ _ hF hP hD hS (lv_sub hl [2, 3, 0] rfl)
  · have hF := ifn hF c_3
    refine lv_aload_n hx hb dX10_solveOne_15 rfl (lv_at hl 1 rfl) ?_
    refine hget hx hb hts hown hE fl_X10_27 hP 0 rfl rfl dX10_solveOne_16 ?_
    refine lv_iload_n hx hb dX10_solveOne_19 rfl (lv_at hl 2 rfl) ?_
    refine lv_iload_n hx hb dX10_solveOne_20 rfl (lv_at hl 0 rfl) ?_
    refine lv_iconst (v := 3) hx hb dX10_solveOne_21 (by decide) ?_
    have hB49 : ∀ (t2_49 : Int32) (H : Heap) (locs : List Loc) (ls : Array Slot), f_X10_solveOne_B49 mmy xrs xla xbm xmm xmt kk1 t2_49 = some r → va_P (gD G) vwCl [(mo, .inr (8, [.long mbd, .int mby, .int mgr, .int mol, .ref aMM, .ref aMT, .int mmy, .ref aPD, .int mpm, .long mrd, .int mbm, .int mbw, .long mpl, .ref aST, .ref aPL, .ref aRS, .ref aLA, .ref aBM, .int msm, .ref aRP, .ref aFI, .ref aFM, .ref aGB, .ref aGM, .ref aGV, .ref aGR, .int mgs, .ref aKB, .ref aKP, .ref aIK, .int mka, .int miw])), (aST, .inl (gJ G, 20001, .inr (.inl xst))), (aPL, .inl (gI G, 65536, .inl xpl)), (aRS, .inl (gI G, 20001, .inl xrs)), (aLA, .inl (gI G, 20001, .inl xla)), (aBM, .inl (gI G, 20001, .inl xbm)), (aMM, .inl (gI G, 75, .inl xmm)), (aMT, .inl (gI G, 75, .inl xmt))] H → va_D A [(mo, .inr (8, [.long mbd, .int mby, .int mgr, .int mol, .ref aMM, .ref aMT, .int mmy, .ref aPD, .int mpm, .long mrd, .int mbm, .int mbw, .long mpl, .ref aST, .ref aPL, .ref aRS, .ref aLA, .ref aBM, .int msm, .ref aRP, .ref aFI, .ref aFM, .ref aGB, .ref aGM, .ref aGV, .ref aGR, .int mgs, .ref aKB, .ref aKP, .ref aIK, .int mka, .int miw])), (aST, .inl (gJ G, 20001, .inr (.inl xst))), (aPL, .inl (gI G, 65536, .inl xpl)), (aRS, .inl (gI G, 20001, .inl xrs)), (aLA, .inl (gI G, 20001, .inl xla)), (aBM, .inl (gI G, 20001, .inl xbm)), (aMM, .inl (gI G, 75, .inl xmm)), (aMT, .inl (gI G, 75, .inl xmt))] → va_S A s.heap H locs → lv_has ls 7 [(0, .ref mo), (1, .int kk1)] → W p l e rm_X10_solveOne s m args below meth c H locs 0 0 (MQ below (HXq G post A) args s 0 0 A) (F0 m 49 ls [.int t2_49, .int kk1, .ref aRS]) := by
      intro t2_49 H locs ls hF hP hD hS hl
      unfold f_X10_solveOne_B49 at hF
      obtain ⟨hi_50, hF⟩ := inb hF
      obtain ⟨a49_51, ea49_51⟩ : ∃ z : (Nat → Int32), z = upd xrs (kk1).toNatClampNeg t2_49 := ⟨_, rfl⟩
      have hF := jl hF ea49_51
      refine hiast hx hb hE hP hD hS 3 rfl hi_50 (wn := [(mo, .inr (8, [.long mbd, .int mby, .int mgr, .int mol, .ref aMM, .ref aMT, .int mmy, .ref aPD, .int mpm, .long mrd, .int mbm, .int mbw, .long mpl, .ref aST, .ref aPL, .ref aRS, .ref aLA, .ref aBM, .int msm, .ref aRP, .ref aFI, .ref aFM, .ref aGB, .ref aGM, .ref aGV, .ref aGR, .int mgs, .ref aKB, .ref aKP, .ref aIK, .int mka, .int miw])), (aST, .inl (gJ G, 20001, .inr (.inl xst))), (aPL, .inl (gI G, 65536, .inl xpl)), (aRS, .inl (gI G, 20001, .inl a49_51)), (aLA, .inl (gI G, 20001, .inl xla)), (aBM, .inl (gI G, 20001, .inl xbm)), (aMM, .inl (gI G, 75, .inl xmm)), (aMT, .inl (gI G, 75, .inl xmt))]) (by rw [ea49_51]; rfl) dX10_solveOne_49 (fun H locs hP hD hS => ?_)
      refine lv_aload_n hx hb dX10_solveOne_50 rfl (lv_at hl 0 rfl) ?_
      refine hget hx hb hts hown hE fl_X10_30 hP 0 rfl rfl dX10_solveOne_51 ?_
      refine lv_iload_n hx hb dX10_solveOne_54 rfl (lv_at hl 1 rfl) ?_
      refine lv_iconst (v := 0) hx hb dX10_solveOne_55 (by decide) ?_
      obtain ⟨hi_52, hF⟩ := inb hF
      obtain ⟨a56_53, ea56_53⟩ : ∃ z : (Nat → Int32), z = upd xla (kk1).toNatClampNeg 0 := ⟨_, rfl⟩
      have hF := jl hF ea56_53
      refine hiast hx hb hE hP hD hS 4 rfl hi_52 (wn := [(mo, .inr (8, [.long mbd, .int mby, .int mgr, .int mol, .ref aMM, .ref aMT, .int mmy, .ref aPD, .int mpm, .long mrd, .int mbm, .int mbw, .long mpl, .ref aST, .ref aPL, .ref aRS, .ref aLA, .ref aBM, .int msm, .ref aRP, .ref aFI, .ref aFM, .ref aGB, .ref aGM, .ref aGV, .ref aGR, .int mgs, .ref aKB, .ref aKP, .ref aIK, .int mka, .int miw])), (aST, .inl (gJ G, 20001, .inr (.inl xst))), (aPL, .inl (gI G, 65536, .inl xpl)), (aRS, .inl (gI G, 20001, .inl a49_51)), (aLA, .inl (gI G, 20001, .inl a56_53)), (aBM, .inl (gI G, 20001, .inl xbm)), (aMM, .inl (gI G, 75, .inl xmm)), (aMT, .inl (gI G, 75, .inl xmt))]) (by rw [ea56_53]; rfl) dX10_solveOne_56 (fun H locs hP hD hS => ?_)
      refine lv_aload_n hx hb dX10_solveOne_57 rfl (lv_at hl 0 rfl) ?_
      refine hget hx hb hts hown hE fl_X10_33 hP 0 rfl rfl dX10_solveOne_58 ?_
      refine lv_iload_n hx hb dX10_solveOne_61 rfl (lv_at hl 1 rfl) ?_
      refine lv_bipush (v := (-6)) hx hb dX10_solveOne_62 (by decide) ?_
      obtain ⟨hi_54, hF⟩ := inb hF
      obtain ⟨a64_55, ea64_55⟩ : ∃ z : (Nat → Int32), z = upd xbm (kk1).toNatClampNeg (-6) := ⟨_, rfl⟩
      have hF := jl hF ea64_55
      refine hiast hx hb hE hP hD hS 5 rfl hi_54 (wn := [(mo, .inr (8, [.long mbd, .int mby, .int mgr, .int mol, .ref aMM, .ref aMT, .int mmy, .ref aPD, .int mpm, .long mrd, .int mbm, .int mbw, .long mpl, .ref aST, .ref aPL, .ref aRS, .ref aLA, .ref aBM, .int msm, .ref aRP, .ref aFI, .ref aFM, .ref aGB, .ref aGM, .ref aGV, .ref aGR, .int mgs, .ref aKB, .ref aKP, .ref aIK, .int mka, .int miw])), (aST, .inl (gJ G, 20001, .inr (.inl xst))), (aPL, .inl (gI G, 65536, .inl xpl)), (aRS, .inl (gI G, 20001, .inl a49_51)), (aLA, .inl (gI G, 20001, .inl a56_53)), (aBM, .inl (gI G, 20001, .inl a64_55)), (aMM, .inl (gI G, 75, .inl xmm)), (aMT, .inl (gI G, 75, .inl xmt))]) (by rw [ea64_55]; rfl) dX10_solveOne_64 (fun H locs hP hD hS => ?_)
      have hF := Option.some.inj hF
      subst hF
      exact hm_vret hx hb hr hlk hP hD hS hpost dX10_solveOne_65
    refine lv_icmp_ne (tgt := 29) hx hb dX10_solveOne_22 (by decide) (fun c_56 => ?_) (fun c_56 => ?_)
    · have hF := ifn hF c_56
      refine lv_iload_n hx hb dX10_solveOne_29 rfl (lv_at hl 0 rfl) ?_
      refine lv_iconst (v := 1) hx hb dX10_solveOne_30 (by decide) ?_
      refine lv_aload_n hx hb dX10_solveOne_31 rfl (lv_at hl 1 rfl) ?_
      refine hget hx hb hts hown hE fl_X10_19 hP 0 rfl rfl dX10_solveOne_32 ?_
      refine lv_iload_n hx hb dX10_solveOne_35 rfl (lv_at hl 2 rfl) ?_
      obtain ⟨hi_57, hF⟩ := inb hF
      refine hlald hx hb hE hP 1 rfl hi_57 dX10_solveOne_36 ?_
      refine hm_S (wn := [(mo, .inr (8, [.long mbd, .int mby, .int mgr, .int mol, .ref aMM, .ref aMT, .int mmy, .ref aPD, .int mpm, .long mrd, .int mbm, .int mbw, .long mpl, .ref aST, .ref aPL, .ref aRS, .ref aLA, .ref aBM, .int msm, .ref aRP, .ref aFI, .ref aFM, .ref aGB, .ref aGM, .ref aGV, .ref aGR, .int mgs, .ref aKB, .ref aKP, .ref aIK, .int mka, .int miw])), (aST, .inl (gJ G, 20001, .inr (.inl xst))), (aPL, .inl (gI G, 65536, .inl xpl)), (aRS, .inl (gI G, 20001, .inl xrs)), (aLA, .inl (gI G, 20001, .inl xla)), (aBM, .inl (gI G, 20001, .inl xbm)), (aMM, .inl (gI G, 75, .inl xmm)), (aMT, .inl (gI G, 75, .inl xmt))]) (wr := [(mo, .inr (8, [.long mbd, .int mby, .int mgr, .int mol, .ref aMM, .ref aMT, .int mmy, .ref aPD, .int mpm, .long mrd, .int mbm, .int mbw, .long mpl, .ref aST, .ref aPL, .ref aRS, .ref aLA, .ref aBM, .int msm, .ref aRP, .ref aFI, .ref aFM, .ref aGB, .ref aGM, .ref aGV, .ref aGR, .int mgs, .ref aKB, .ref aKP, .ref aIK, .int mka, .int miw])), (aST, .inl (gJ G, 20001, .inr (.inl xst))), (aPL, .inl (gI G, 65536, .inl xpl)), (aRS, .inl (gI G, 20001, .inl xrs)), (aLA, .inl (gI G, 20001, .inl xla)), (aBM, .inl (gI G, 20001, .inl xbm)), (aMM, .inl (gI G, 75, .inl xmm)), (aMT, .inl (gI G, 75, .inl xmt))]) (rest := [.int 1, .int r7_2, .int kk1, .ref aRS]) (sn := [.int (f_X10_turnOf (xst (kk1).toNatClampNeg)), .int 1, .int r7_2, .int kk1, .ref aRS]) hx hb hml hown hts hE hA (k_X10_turnOf G l (xst (kk1).toNatClampNeg) _ rfl) sm_X10_turnOf mw_848 ⟨rfl, rfl, Nat.le_of_ble_eq_true rfl, Nat.le_of_ble_eq_true rfl⟩ hP hD hS [] [0, 1, 2, 3, 4, 5, 6, 7] [0, 1, 2, 3, 4, 5, 6, 7] rfl rfl rfl (by decide) hl.1 rfl rfl (Nat.le_of_ble_eq_true rfl) dX10_solveOne_37 ⟨Nat.le_of_ble_eq_true rfl, Nat.le_of_ble_eq_true rfl⟩ (fun H locs hP hD hS => ?_)
      refine lv_iadd hx hb dX10_solveOne_40 ?_
      refine lv_icmp_ne (tgt := 48) hx hb dX10_solveOne_41 (by decide) (fun c_58 => ?_) (fun c_58 => ?_)
      · have hF := ifn hF c_58
        refine lv_iconst (v := 2) hx hb dX10_solveOne_48 (by decide) ?_
        exact hB49 2 _ _ _ hF hP hD hS (lv_sub hl [1, 2] rfl)
      · have hF := ifp hF c_58
        refine lv_iconst (v := 1) hx hb dX10_solveOne_44 (by decide) ?_
        refine lv_goto (tgt := 49) hx hb dX10_solveOne_45 (by decide) ?_
        exact hB49 1 _ _ _ hF hP hD hS (lv_sub hl [1, 2] rfl)
    · have hF := ifp hF c_56
      refine lv_iconst (v := 0) hx hb dX10_solveOne_25 (by decide) ?_
      refine lv_goto (tgt := 49) hx hb dX10_solveOne_26 (by decide) ?_
      exact hB49 0 _ _ _ hF hP hD hS (lv_sub hl [1, 2] rfl)
def f_X10_solveAll_B49 (k_20 : Int32 → Int32 → Int32 → (Nat → Int64) → (Nat → Int32) → (Nat → Int32) → (Nat → Int32) → (Nat → Int32) → (Nat → Int32) → (Nat → Int32) → Option (Int32 × Int32 × (Nat → Int64) × (Nat → Int32) × (Nat → Int32) × (Nat → Int32) × (Nat → Int32) × Int32 × (Nat → Int32) × (Nat → Int32))) (x4_14 : Int32) (mmy_28 : Int32) (msm_29 : Int32) (xst_30 : (Nat → Int64)) (xpl_31 : (Nat → Int32)) (xrs_32 : (Nat → Int32)) (xla_33 : (Nat → Int32)) (xbm_34 : (Nat → Int32)) (xmm_35 : (Nat → Int32)) (xmt_36 : (Nat → Int32)) : Option (Int32 × Int32 × (Nat → Int64) × (Nat → Int32) × (Nat → Int32) × (Nat → Int32) × (Nat → Int32) × Int32 × (Nat → Int32) × (Nat → Int32)) :=
  jlet (x4_14 + 1) (fun v4_37 => k_20 v4_37 mmy_28 msm_29 xst_30 xpl_31 xrs_32 xla_33 xbm_34 xmm_35 xmt_36)
def f_X10_solveAll_L20 (k_13 : Int32 → Int32 → Int32 → (Nat → Int64) → (Nat → Int32) → (Nat → Int32) → (Nat → Int32) → (Nat → Int32) → (Nat → Int32) → (Nat → Int32) → Option (Int32 × Int32 × (Nat → Int64) × (Nat → Int32) × (Nat → Int32) × (Nat → Int32) × (Nat → Int32) × Int32 × (Nat → Int32) × (Nat → Int32))) (mby : Int32) (mgr : Int32) (mol : Int32) (x3_3 : Int32) : Nat → Int32 → Int32 → Int32 → (Nat → Int64) → (Nat → Int32) → (Nat → Int32) → (Nat → Int32) → (Nat → Int32) → (Nat → Int32) → (Nat → Int32) → Option (Int32 × Int32 × (Nat → Int64) × (Nat → Int32) × (Nat → Int32) × (Nat → Int32) × (Nat → Int32) × Int32 × (Nat → Int32) × (Nat → Int32))
  | 0, _, _, _, _, _, _, _, _, _, _ => none
  | n+1, x4_14, mmy_15, msm_16, xst_17, xpl_18, xrs_19, xla_20, xbm_21, xmm_22, xmt_23 =>
  if msm_16 ≤ x4_14 then jlet (x3_3 + (-1)) (fun v3_25 => k_13 v3_25 mmy_15 msm_16 xst_17 xpl_18 xrs_19 xla_20 xbm_21 xmm_22 xmt_23) else if (x4_14) < 0 ∨ 20001 ≤ (x4_14).toNatClampNeg then none else Option.bind (f_X10_oldness (xst_17 (x4_14).toNatClampNeg)) (fun r36_27 => if r36_27 = x3_3 then Option.bind (f_X10_solveOne mby mgr mol mmy_15 xst_17 xpl_18 xrs_19 xla_20 xbm_21 xmm_22 xmt_23 x4_14) (fun r46_39 => f_X10_solveAll_B49 (f_X10_solveAll_L20 k_13 mby mgr mol x3_3 n) x4_14 r46_39.2.2.2.1 msm_16 xst_17 xpl_18 r46_39.1 r46_39.2.1 r46_39.2.2.1 r46_39.2.2.2.2.1 r46_39.2.2.2.2.2) else f_X10_solveAll_B49 (f_X10_solveAll_L20 k_13 mby mgr mol x3_3 n) x4_14 mmy_15 msm_16 xst_17 xpl_18 xrs_19 xla_20 xbm_21 xmm_22 xmt_23)
def f_X10_solveAll_L13 (mby : Int32) (mgr : Int32) (mol : Int32) : Nat → Int32 → Int32 → Int32 → (Nat → Int64) → (Nat → Int32) → (Nat → Int32) → (Nat → Int32) → (Nat → Int32) → (Nat → Int32) → (Nat → Int32) → Option (Int32 × Int32 × (Nat → Int64) × (Nat → Int32) × (Nat → Int32) × (Nat → Int32) × (Nat → Int32) × Int32 × (Nat → Int32) × (Nat → Int32))
  | 0, _, _, _, _, _, _, _, _, _, _ => none
  | n+1, x3_3, mmy_4, msm_5, xst_6, xpl_7, xrs_8, xla_9, xbm_10, xmm_11, xmt_12 =>
  if x3_3 < 0 then some (1, msm_5, xst_6, xpl_7, xrs_8, xla_9, xbm_10, mmy_4, xmm_11, xmt_12) else f_X10_solveAll_L20 (f_X10_solveAll_L13 mby mgr mol n) mby mgr mol x3_3 20003 0 mmy_4 msm_5 xst_6 xpl_7 xrs_8 xla_9 xbm_10 xmm_11 xmt_12
def f_X10_solveAll (mby : Int32) (mgr : Int32) (mol : Int32) (mmy : Int32) (msm : Int32) (xst : (Nat → Int64)) (xpl : (Nat → Int32)) (xrs : (Nat → Int32)) (xla : (Nat → Int32)) (xbm : (Nat → Int32)) (xmm : (Nat → Int32)) (xmt : (Nat → Int32)) (st : Int64) : Option (Int32 × Int32 × (Nat → Int64) × (Nat → Int32) × (Nat → Int32) × (Nat → Int32) × (Nat → Int32) × Int32 × (Nat → Int32) × (Nat → Int32)) :=
  Option.bind (f_X10_findStands mby mgr mol mmy msm xst xpl xmm xmt st) (fun r2_1 => if r2_1.1 = 0 then some (0, r2_1.2.1, r2_1.2.2.1, r2_1.2.2.2.1, xrs, xla, xbm, r2_1.2.2.2.2.1, r2_1.2.2.2.2.2.1, r2_1.2.2.2.2.2.2) else f_X10_solveAll_L13 mby mgr mol 20003 60 r2_1.2.2.2.2.1 r2_1.2.1 r2_1.2.2.1 r2_1.2.2.2.1 xrs xla xbm r2_1.2.2.2.2.2.1 r2_1.2.2.2.2.2.2)
abbrev rm_X10_solveAll : Room := { frames := 10, cells := 0, slots := 0, locals := 247 }
set_option maxHeartbeats 4000000 in
set_option maxRecDepth 100000 in
theorem k_X10_solveAll (G : gT) (l : Launch) (mo : Nat) (aMM : Nat) (aMT : Nat) (aPD : Nat) (aST : Nat) (aPL : Nat) (aRS : Nat) (aLA : Nat) (aBM : Nat) (aRP : Nat) (aFI : Nat) (aFM : Nat) (aGB : Nat) (aGM : Nat) (aGV : Nat) (aGR : Nat) (aKB : Nat) (aKP : Nat) (aIK : Nat) (mbd : Int64) (mby : Int32) (mgr : Int32) (mol : Int32) (mmy : Int32) (mpm : Int32) (mrd : Int64) (mbm : Int32) (mbw : Int32) (mpl : Int64) (msm : Int32) (mgs : Int32) (mka : Int32) (miw : Int32) (xst : (Nat → Int64)) (xpl : (Nat → Int32)) (xrs : (Nat → Int32)) (xla : (Nat → Int32)) (xbm : (Nat → Int32)) (xmm : (Nat → Int32)) (xmt : (Nat → Int32)) (st : Int64) (r : Int32 × Int32 × (Nat → Int64) × (Nat → Int32) × (Nat → Int32) × (Nat → Int32) × (Nat → Int32) × Int32 × (Nat → Int32) × (Nat → Int32)) (hF : f_X10_solveAll mby mgr mol mmy msm xst xpl xrs xla xbm xmm xmt st = some r) : HM G l yX10_solveAll (.code yX10_solveAll cX10_solveAll 5 (some .boolean) :: UW) rm_X10_solveAll 0 0 [.ref mo, .long st] [(mo, .inr (8, [.long mbd, .int mby, .int mgr, .int mol, .ref aMM, .ref aMT, .int mmy, .ref aPD, .int mpm, .long mrd, .int mbm, .int mbw, .long mpl, .ref aST, .ref aPL, .ref aRS, .ref aLA, .ref aBM, .int msm, .ref aRP, .ref aFI, .ref aFM, .ref aGB, .ref aGM, .ref aGV, .ref aGR, .int mgs, .ref aKB, .ref aKP, .ref aIK, .int mka, .int miw])), (aST, .inl (gJ G, 20001, .inr (.inl xst))), (aPL, .inl (gI G, 65536, .inl xpl)), (aRS, .inl (gI G, 20001, .inl xrs)), (aLA, .inl (gI G, 20001, .inl xla)), (aBM, .inl (gI G, 20001, .inl xbm)), (aMM, .inl (gI G, 75, .inl xmm)), (aMT, .inl (gI G, 75, .inl xmt))] (some (.int r.1)) [(mo, .inr (8, [.long mbd, .int mby, .int mgr, .int mol, .ref aMM, .ref aMT, .int r.2.2.2.2.2.2.2.1, .ref aPD, .int mpm, .long mrd, .int mbm, .int mbw, .long mpl, .ref aST, .ref aPL, .ref aRS, .ref aLA, .ref aBM, .int r.2.1, .ref aRP, .ref aFI, .ref aFM, .ref aGB, .ref aGM, .ref aGV, .ref aGR, .int mgs, .ref aKB, .ref aKP, .ref aIK, .int mka, .int miw])), (aST, .inl (gJ G, 20001, .inr (.inl r.2.2.1))), (aPL, .inl (gI G, 65536, .inl r.2.2.2.1)), (aRS, .inl (gI G, 20001, .inl r.2.2.2.2.1)), (aLA, .inl (gI G, 20001, .inl r.2.2.2.2.2.1)), (aBM, .inl (gI G, 20001, .inl r.2.2.2.2.2.2.1)), (aMM, .inl (gI G, 75, .inl r.2.2.2.2.2.2.2.2.1)), (aMT, .inl (gI G, 75, .inl r.2.2.2.2.2.2.2.2.2))] := by
  refine HM.ofW (by decide) (Nat.le_of_ble_eq_true rfl) ?_
  intro p e s m args below meth c A post hpost hC hP hD hS ls hl
  obtain ⟨hx, hb, hr, hml, hown, hts, hlk, hE, hA⟩ := hC
  have hl : lv_has ls 5 [(0, .ref mo), (1, .long st)] := hl
  unfold f_X10_solveAll at hF
  refine lv_aload_n hx hb dX10_solveAll_0 rfl (lv_at hl 0 rfl) ?_
  refine lv_lload_n hx hb dX10_solveAll_1 rfl (lv_at hl 1 rfl) ?_
  obtain ⟨r2_1, hr2_1, hF⟩ := bnd hF
  refine hm_V (wn := [(mo, .inr (8, [.long mbd, .int mby, .int mgr, .int mol, .ref aMM, .ref aMT, .int r2_1.2.2.2.2.1, .ref aPD, .int mpm, .long mrd, .int mbm, .int mbw, .long mpl, .ref aST, .ref aPL, .ref aRS, .ref aLA, .ref aBM, .int r2_1.2.1, .ref aRP, .ref aFI, .ref aFM, .ref aGB, .ref aGM, .ref aGV, .ref aGR, .int mgs, .ref aKB, .ref aKP, .ref aIK, .int mka, .int miw])), (aST, .inl (gJ G, 20001, .inr (.inl r2_1.2.2.1))), (aPL, .inl (gI G, 65536, .inl r2_1.2.2.2.1)), (aRS, .inl (gI G, 20001, .inl xrs)), (aLA, .inl (gI G, 20001, .inl xla)), (aBM, .inl (gI G, 20001, .inl xbm)), (aMM, .inl (gI G, 75, .inl r2_1.2.2.2.2.2.1)), (aMT, .inl (gI G, 75, .inl r2_1.2.2.2.2.2.2))]) (wr := [(aRS, .inl (gI G, 20001, .inl xrs)), (aLA, .inl (gI G, 20001, .inl xla)), (aBM, .inl (gI G, 20001, .inl xbm))]) (rest := []) (sn := [.int r2_1.1]) hx hb hml hown hts hE hA (k_X10_findStands G l mo aMM aMT aPD aST aPL aRS aLA aBM aRP aFI aFM aGB aGM aGV aGR aKB aKP aIK mbd mby mgr mol mmy mpm mrd mbm mbw mpl msm mgs mka miw xst xpl xmm xmt st r2_1 hr2_1) sm_X10_findStands mw_985 ⟨rfl, rfl, Nat.le_of_ble_eq_true rfl, Nat.le_of_ble_eq_true rfl⟩ hP hD hS 0 rfl rfl [0, 1, 2, 6, 7] [3, 4, 5] [3, 4, 5, 0, 1, 2, 6, 7] rfl rfl rfl (by decide) hl.1 rfl rfl (Nat.le_of_ble_eq_true rfl) dX10_solveAll_2 ⟨Nat.le_of_ble_eq_true rfl, Nat.le_of_ble_eq_true rfl⟩ (fun H locs hP hD hS => ?_)
  refine lv_if_ne (tgt := 10) hx hb dX10_solveAll_5 (by decide) (fun c_2 => ?_) (fun c_2 => ?_)
  · have hF := ifn hF c_2
    refine lv_bipush (v := 60) hx hb dX10_solveAll_10 (by decide) ?_
    refine lv_istore_n (lv' := [(3, .int 60), (0, .ref mo), (1, .long st)]) hx hb dX10_solveAll_12 rfl hl (by decide) rfl (fun ls hl => ?_)
    have hL13 : ∀ (n13 : Nat) (x3_3 : Int32) (mmy_4 : Int32) (msm_5 : Int32) (xst_6 : (Nat → Int64)) (xpl_7 : (Nat → Int32)) (xrs_8 : (Nat → Int32)) (xla_9 : (Nat → Int32)) (xbm_10 : (Nat → Int32)) (xmm_11 : (Nat → Int32)) (xmt_12 : (Nat → Int32)) (H : Heap) (locs : List Loc) (ls : Array Slot), f_X10_solveAll_L13 mby mgr mol n13 x3_3 mmy_4 msm_5 xst_6 xpl_7 xrs_8 xla_9 xbm_10 xmm_11 xmt_12 = some r → va_P (gD G) vwCl [(mo, .inr (8, [.long mbd, .int mby, .int mgr, .int mol, .ref aMM, .ref aMT, .int mmy_4, .ref aPD, .int mpm, .long mrd, .int mbm, .int mbw, .long mpl, .ref aST, .ref aPL, .ref aRS, .ref aLA, .ref aBM, .int msm_5, .ref aRP, .ref aFI, .ref aFM, .ref aGB, .ref aGM, .ref aGV, .ref aGR, .int mgs, .ref aKB, .ref aKP, .ref aIK, .int mka, .int miw])), (aST, .inl (gJ G, 20001, .inr (.inl xst_6))), (aPL, .inl (gI G, 65536, .inl xpl_7)), (aRS, .inl (gI G, 20001, .inl xrs_8)), (aLA, .inl (gI G, 20001, .inl xla_9)), (aBM, .inl (gI G, 20001, .inl xbm_10)), (aMM, .inl (gI G, 75, .inl xmm_11)), (aMT, .inl (gI G, 75, .inl xmt_12))] H → va_D A [(mo, .inr (8, [.long mbd, .int mby, .int mgr, .int mol, .ref aMM, .ref aMT, .int mmy_4, .ref aPD, .int mpm, .long mrd, .int mbm, .int mbw, .long mpl, .ref aST, .ref aPL, .ref aRS, .ref aLA, .ref aBM, .int msm_5, .ref aRP, .ref aFI, .ref aFM, .ref aGB, .ref aGM, .ref aGV, .ref aGR, .int mgs, .ref aKB, .ref aKP, .ref aIK, .int mka, .int miw])), (aST, .inl (gJ G, 20001, .inr (.inl xst_6))), (aPL, .inl (gI G, 65536, .inl xpl_7)), (aRS, .inl (gI G, 20001, .inl xrs_8)), (aLA, .inl (gI G, 20001, .inl xla_9)), (aBM, .inl (gI G, 20001, .inl xbm_10)), (aMM, .inl (gI G, 75, .inl xmm_11)), (aMT, .inl (gI G, 75, .inl xmt_12))] → va_S A s.heap H locs → lv_has ls 5 [(0, .ref mo), (3, .int x3_3)] → W p l e rm_X10_solveAll s m args below meth c H locs 0 0 (MQ below (HXq G post A) args s 0 0 A) (F0 m 13 ls []) := by
      intro n13
      induction n13 with
      | zero =>
        intro x3_3 mmy_4 msm_5 xst_6 xpl_7 xrs_8 xla_9 xbm_10 xmm_11 xmt_12 H locs ls hF
        exact absurd hF (fun h => by cases h)
      | succ n13 ih13 =>
        intro x3_3 mmy_4 msm_5 xst_6 xpl_7 xrs_8 xla_9 xbm_10 xmm_11 xmt_12 H locs ls hF hP hD hS hl
        unfold f_X10_solveAll_L13 at hF
        refine lv_iload_n hx hb dX10_solveAll_13 rfl (lv_at hl 1 rfl) ?_
        refine lv_if_lt (tgt := 61) hx hb dX10_solveAll_14 (by decide) (fun c_13 => ?_) (fun c_13 => ?_)
        · have hF := ifp hF c_13
          refine lv_iconst (v := 1) hx hb dX10_solveAll_61 (by decide) ?_
          have hF := Option.some.inj hF
          subst hF
          exact hm_zret hx hb hr hlk hP hD hS (by decide +kernel) hpost dX10_solveAll_62
        · have hF := ifn hF c_13
          refine lv_iconst (v := 0) hx hb dX10_solveAll_17 (by decide) ?_
          refine lv_istore (lv' := [(4, .int 0), (0, .ref mo), (3, .int x3_3)]) hx hb dX10_solveAll_18 hl (by decide) rfl (fun ls hl => ?_)
          have hL20 : ∀ (n20 : Nat) (x4_14 : Int32) (mmy_15 : Int32) (msm_16 : Int32) (xst_17 : (Nat → Int64)) (xpl_18 : (Nat → Int32)) (xrs_19 : (Nat → Int32)) (xla_20 : (Nat → Int32)) (xbm_21 : (Nat → Int32)) (xmm_22 : (Nat → Int32)) (xmt_23 : (Nat → Int32)) (H : Heap) (locs : List Loc) (ls : Array Slot), f_X10_solveAll_L20 (f_X10_solveAll_L13 mby mgr mol n13) mby mgr mol x3_3 n20 x4_14 mmy_15 msm_16 xst_17 xpl_18 xrs_19 xla_20 xbm_21 xmm_22 xmt_23 = some r → va_P (gD G) vwCl [(mo, .inr (8, [.long mbd, .int mby, .int mgr, .int mol, .ref aMM, .ref aMT, .int mmy_15, .ref aPD, .int mpm, .long mrd, .int mbm, .int mbw, .long mpl, .ref aST, .ref aPL, .ref aRS, .ref aLA, .ref aBM, .int msm_16, .ref aRP, .ref aFI, .ref aFM, .ref aGB, .ref aGM, .ref aGV, .ref aGR, .int mgs, .ref aKB, .ref aKP, .ref aIK, .int mka, .int miw])), (aST, .inl (gJ G, 20001, .inr (.inl xst_17))), (aPL, .inl (gI G, 65536, .inl xpl_18)), (aRS, .inl (gI G, 20001, .inl xrs_19)), (aLA, .inl (gI G, 20001, .inl xla_20)), (aBM, .inl (gI G, 20001, .inl xbm_21)), (aMM, .inl (gI G, 75, .inl xmm_22)), (aMT, .inl (gI G, 75, .inl xmt_23))] H → va_D A [(mo, .inr (8, [.long mbd, .int mby, .int mgr, .int mol, .ref aMM, .ref aMT, .int mmy_15, .ref aPD, .int mpm, .long mrd, .int mbm, .int mbw, .long mpl, .ref aST, .ref aPL, .ref aRS, .ref aLA, .ref aBM, .int msm_16, .ref aRP, .ref aFI, .ref aFM, .ref aGB, .ref aGM, .ref aGV, .ref aGR, .int mgs, .ref aKB, .ref aKP, .ref aIK, .int mka, .int miw])), (aST, .inl (gJ G, 20001, .inr (.inl xst_17))), (aPL, .inl (gI G, 65536, .inl xpl_18)), (aRS, .inl (gI G, 20001, .inl xrs_19)), (aLA, .inl (gI G, 20001, .inl xla_20)), (aBM, .inl (gI G, 20001, .inl xbm_21)), (aMM, .inl (gI G, 75, .inl xmm_22)), (aMT, .inl (gI G, 75, .inl xmt_23))] → va_S A s.heap H locs → lv_has ls 5 [(0, .ref mo), (3, .int x3_3), (4, .int x4_14)] → W p l e rm_X10_solveAll s m args below meth c H locs 0 0 (MQ below (HXq G post A) args s 0 0 A) (F0 m 20 ls []) := by
            intro n20
            induction n20 with
            | zero =>
              intro x4_14 mmy_15 msm_16 xst_17 xpl_18 xrs_19 xla_20 xbm_21 xmm_22 xmt_23 H locs ls hF
              exact absurd hF (fun h => by cases h)
            | succ n20 ih20 =>
              intro x4_14 mmy_15 msm_16 xst_17 xpl_18 xrs_19 xla_20 xbm_21 xmm_22 xmt_23 H locs ls hF hP hD hS hl
              unfold f_X10_solveAll_L20 at hF
              refine lv_iload hx hb dX10_solveAll_20 (lv_at hl 2 rfl) ?_
              refine lv_aload_n hx hb dX10_solveAll_22 rfl (lv_at hl 0 rfl) ?_
              refine hget hx hb hts hown hE fl_X10_226 hP 0 rfl rfl dX10_solveAll_23 ?_
              refine lv_icmp_ge (tgt := 55) hx hb dX10_solveAll_26 (by decide) (fun c_24 => ?_) (fun c_24 => ?_)
              · have hF := ifp hF c_24
                obtain ⟨v3_25, ev3_25⟩ : ∃ z : Int32, z = x3_3 + (-1) := ⟨_, rfl⟩
                have hF := jl hF ev3_25
                refine lv_iinc (v := v3_25) (lv' := [(3, .int v3_25), (0, .ref mo), (4, .int x4_14)]) hx hb dX10_solveAll_55 hl (k := 1) rfl (by rw [ev3_25]; rfl) (by decide) rfl (fun ls hl => ?_)
                refine lv_goto (tgt := 13) hx hb dX10_solveAll_58 (by decide) ?_
                exact ih13 v3_25 mmy_15 msm_16 xst_17 xpl_18 xrs_19 xla_20 xbm_21 xmm_22 xmt_23 _ _ _ hF hP hD hS (lv_sub hl [1, 0] rfl)
              · have hF := ifn hF c_24
                refine lv_aload_n hx hb dX10_solveAll_29 rfl (lv_at hl 0 rfl) ?_
                refine hget hx hb hts hown hE fl_X10_19 hP 0 rfl rfl dX10_solveAll_30 ?_
                refine lv_iload hx hb dX10_solveAll_33 (lv_at hl 2 rfl) ?_
                obtain ⟨hi_26, hF⟩ := inb hF
                refine hlald hx hb hE hP 1 rfl hi_26 dX10_solveAll_35 ?_
                obtain ⟨r36_27, hr36_27, hF⟩ := bnd hF
                refine hm_S (wn := [(mo, .inr (8, [.long mbd, .int mby, .int mgr, .int mol, .ref aMM, .ref aMT, .int mmy_15, .ref aPD, .int mpm, .long mrd, .int mbm, .int mbw, .long mpl, .ref aST, .ref aPL, .ref aRS, .ref aLA, .ref aBM, .int msm_16, .ref aRP, .ref aFI, .ref aFM, .ref aGB, .ref aGM, .ref aGV, .ref aGR, .int mgs, .ref aKB, .ref aKP, .ref aIK, .int mka, .int miw])), (aST, .inl (gJ G, 20001, .inr (.inl xst_17))), (aPL, .inl (gI G, 65536, .inl xpl_18)), (aRS, .inl (gI G, 20001, .inl xrs_19)), (aLA, .inl (gI G, 20001, .inl xla_20)), (aBM, .inl (gI G, 20001, .inl xbm_21)), (aMM, .inl (gI G, 75, .inl xmm_22)), (aMT, .inl (gI G, 75, .inl xmt_23))]) (wr := [(mo, .inr (8, [.long mbd, .int mby, .int mgr, .int mol, .ref aMM, .ref aMT, .int mmy_15, .ref aPD, .int mpm, .long mrd, .int mbm, .int mbw, .long mpl, .ref aST, .ref aPL, .ref aRS, .ref aLA, .ref aBM, .int msm_16, .ref aRP, .ref aFI, .ref aFM, .ref aGB, .ref aGM, .ref aGV, .ref aGR, .int mgs, .ref aKB, .ref aKP, .ref aIK, .int mka, .int miw])), (aST, .inl (gJ G, 20001, .inr (.inl xst_17))), (aPL, .inl (gI G, 65536, .inl xpl_18)), (aRS, .inl (gI G, 20001, .inl xrs_19)), (aLA, .inl (gI G, 20001, .inl xla_20)), (aBM, .inl (gI G, 20001, .inl xbm_21)), (aMM, .inl (gI G, 75, .inl xmm_22)), (aMT, .inl (gI G, 75, .inl xmt_23))]) (rest := []) (sn := [.int r36_27]) hx hb hml hown hts hE hA (k_X10_oldness G l (xst_17 (x4_14).toNatClampNeg) r36_27 hr36_27) sm_X10_oldness mw_1008 ⟨rfl, rfl, Nat.le_of_ble_eq_true rfl, Nat.le_of_ble_eq_true rfl⟩ hP hD hS [] [0, 1, 2, 3, 4, 5, 6, 7] [0, 1, 2, 3, 4, 5, 6, 7] rfl rfl rfl (by decide) hl.1 rfl rfl (Nat.le_of_ble_eq_true rfl) dX10_solveAll_36 ⟨Nat.le_of_ble_eq_true rfl, Nat.le_of_ble_eq_true rfl⟩ (fun H locs hP hD hS => ?_)
                refine lv_iload_n hx hb dX10_solveAll_39 rfl (lv_at hl 1 rfl) ?_
                have hB49 : ∀ (mmy_28 : Int32) (msm_29 : Int32) (xst_30 : (Nat → Int64)) (xpl_31 : (Nat → Int32)) (xrs_32 : (Nat → Int32)) (xla_33 : (Nat → Int32)) (xbm_34 : (Nat → Int32)) (xmm_35 : (Nat → Int32)) (xmt_36 : (Nat → Int32)) (H : Heap) (locs : List Loc) (ls : Array Slot), f_X10_solveAll_B49 (f_X10_solveAll_L20 (f_X10_solveAll_L13 mby mgr mol n13) mby mgr mol x3_3 n20) x4_14 mmy_28 msm_29 xst_30 xpl_31 xrs_32 xla_33 xbm_34 xmm_35 xmt_36 = some r → va_P (gD G) vwCl [(mo, .inr (8, [.long mbd, .int mby, .int mgr, .int mol, .ref aMM, .ref aMT, .int mmy_28, .ref aPD, .int mpm, .long mrd, .int mbm, .int mbw, .long mpl, .ref aST, .ref aPL, .ref aRS, .ref aLA, .ref aBM, .int msm_29, .ref aRP, .ref aFI, .ref aFM, .ref aGB, .ref aGM, .ref aGV, .ref aGR, .int mgs, .ref aKB, .ref aKP, .ref aIK, .int mka, .int miw])), (aST, .inl (gJ G, 20001, .inr (.inl xst_30))), (aPL, .inl (gI G, 65536, .inl xpl_31)), (aRS, .inl (gI G, 20001, .inl xrs_32)), (aLA, .inl (gI G, 20001, .inl xla_33)), (aBM, .inl (gI G, 20001, .inl xbm_34)), (aMM, .inl (gI G, 75, .inl xmm_35)), (aMT, .inl (gI G, 75, .inl xmt_36))] H → va_D A [(mo, .inr (8, [.long mbd, .int mby, .int mgr, .int mol, .ref aMM, .ref aMT, .int mmy_28, .ref aPD, .int mpm, .long mrd, .int mbm, .int mbw, .long mpl, .ref aST, .ref aPL, .ref aRS, .ref aLA, .ref aBM, .int msm_29, .ref aRP, .ref aFI, .ref aFM, .ref aGB, .ref aGM, .ref aGV, .ref aGR, .int mgs, .ref aKB, .ref aKP, .ref aIK, .int mka, .int miw])), (aST, .inl (gJ G, 20001, .inr (.inl xst_30))), (aPL, .inl (gI G, 65536, .inl xpl_31)), (aRS, .inl (gI G, 20001, .inl xrs_32)), (aLA, .inl (gI G, 20001, .inl xla_33)), (aBM, .inl (gI G, 20001, .inl xbm_34)), (aMM, .inl (gI G, 75, .inl xmm_35)), (aMT, .inl (gI G, 75, .inl xmt_36))] → va_S A s.heap H locs → lv_has ls 5 [(0, .ref mo), (3, .int x3_3), (4, .int x4_14)] → W p l e rm_X10_solveAll s m args below meth c H locs 0 0 (MQ below (HXq G post A) args s 0 0 A) (F0 m 49 ls []) := by
                  intro mmy_28 msm_29 xst_30 xpl_31 xrs_32 xla_33 xbm_34 xmm_35 xmt_36 H locs ls hF hP hD hS hl
                  unfold f_X10_solveAll_B49 at hF
                  obtain ⟨v4_37, ev4_37⟩ : ∃ z : Int32, z = x4_14 + 1 := ⟨_, rfl⟩
                  have hF := jl hF ev4_37
                  refine lv_iinc (v := v4_37) (lv' := [(4, .int v4_37), (0, .ref mo), (3, .int x3_3)]) hx hb dX10_solveAll_49 hl (k := 2) rfl (by rw [ev4_37]; rfl) (by decide) rfl (fun ls hl => ?_)
                  refine lv_goto (tgt := 20) hx hb dX10_solveAll_52 (by decide) ?_
                  exact ih20 v4_37 mmy_28 msm_29 xst_30 xpl_31 xrs_32 xla_33 xbm_34 xmm_35 xmt_36 _ _ _ hF hP hD hS (lv_sub hl [1, 2, 0] rfl)
                refine lv_icmp_ne (tgt := 49) hx hb dX10_solveAll_40 (by decide) (fun c_38 => ?_) (fun c_38 => ?_)
                · have hF := ifn hF c_38
                  exact hB49 mmy_15 msm_16 xst_17 xpl_18 xrs_19 xla_20 xbm_21 xmm_22 xmt_23 _ _ _ hF hP hD hS (lv_sub hl [0, 1, 2] rfl)
                · have hF := ifp hF c_38
                  refine lv_aload_n hx hb dX10_solveAll_43 rfl (lv_at hl 0 rfl) ?_
                  refine lv_iload hx hb dX10_solveAll_44 (lv_at hl 2 rfl) ?_
                  obtain ⟨r46_39, hr46_39, hF⟩ := bnd hF
                  refine hm_V (wn := [(mo, .inr (8, [.long mbd, .int mby, .int mgr, .int mol, .ref aMM, .ref aMT, .int r46_39.2.2.2.1, .ref aPD, .int mpm, .long mrd, .int mbm, .int mbw, .long mpl, .ref aST, .ref aPL, .ref aRS, .ref aLA, .ref aBM, .int msm_16, .ref aRP, .ref aFI, .ref aFM, .ref aGB, .ref aGM, .ref aGV, .ref aGR, .int mgs, .ref aKB, .ref aKP, .ref aIK, .int mka, .int miw])), (aST, .inl (gJ G, 20001, .inr (.inl xst_17))), (aPL, .inl (gI G, 65536, .inl xpl_18)), (aRS, .inl (gI G, 20001, .inl r46_39.1)), (aLA, .inl (gI G, 20001, .inl r46_39.2.1)), (aBM, .inl (gI G, 20001, .inl r46_39.2.2.1)), (aMM, .inl (gI G, 75, .inl r46_39.2.2.2.2.1)), (aMT, .inl (gI G, 75, .inl r46_39.2.2.2.2.2))]) (wr := []) (rest := []) (sn := []) hx hb hml hown hts hE hA (k_X10_solveOne G l mo aMM aMT aPD aST aPL aRS aLA aBM aRP aFI aFM aGB aGM aGV aGR aKB aKP aIK mbd mby mgr mol mmy_15 mpm mrd mbm mbw mpl msm_16 mgs mka miw xst_17 xpl_18 xrs_19 xla_20 xbm_21 xmm_22 xmt_23 x4_14 r46_39 hr46_39) sm_X10_solveOne mw_1011 ⟨rfl, rfl, Nat.le_of_ble_eq_true rfl, Nat.le_of_ble_eq_true rfl⟩ hP hD hS 0 rfl rfl [0, 1, 2, 3, 4, 5, 6, 7] [] [0, 1, 2, 3, 4, 5, 6, 7] rfl rfl rfl (by decide) hl.1 rfl rfl (Nat.le_of_ble_eq_true rfl) dX10_solveAll_46 ⟨Nat.le_of_ble_eq_true rfl, Nat.le_of_ble_eq_true rfl⟩ (fun H locs hP hD hS => ?_)
                  exact hB49 r46_39.2.2.2.1 msm_16 xst_17 xpl_18 r46_39.1 r46_39.2.1 r46_39.2.2.1 r46_39.2.2.2.2.1 r46_39.2.2.2.2.2 _ _ _ hF hP hD hS (lv_sub hl [0, 1, 2] rfl)
          exact hL20 _ 0 mmy_4 msm_5 xst_6 xpl_7 xrs_8 xla_9 xbm_10 xmm_11 xmt_12 _ _ _ hF hP hD hS (lv_sub hl [1, 2, 0] rfl)
    exact hL13 _ 60 r2_1.2.2.2.2.1 r2_1.2.1 r2_1.2.2.1 r2_1.2.2.2.1 xrs xla xbm r2_1.2.2.2.2.2.1 r2_1.2.2.2.2.2.2 _ _ _ hF hP hD hS (lv_sub hl [1, 0] rfl)
  · have hF := ifp hF c_2
    refine lv_iconst (v := 0) hx hb dX10_solveAll_8 (by decide) ?_
    have hF := Option.some.inj hF
    subst hF
    exact hm_zret hx hb hr hlk hP hD hS (by decide +kernel) hpost dX10_solveAll_9
def f_X10_solve (mbd : Int64) (mby : Int32) (mgr : Int32) (mol : Int32) (mmy : Int32) (msm : Int32) (xst : (Nat → Int64)) (xpl : (Nat → Int32)) (xrs : (Nat → Int32)) (xla : (Nat → Int32)) (xbm : (Nat → Int32)) (xmm : (Nat → Int32)) (xmt : (Nat → Int32)) (wh : Int32) : Option (Int32 × Int32 × (Nat → Int64) × (Nat → Int32) × (Nat → Int32) × (Nat → Int32) × (Nat → Int32) × Int32 × (Nat → Int32) × (Nat → Int32)) :=
  if (f_X10_in (wh.toInt64) 0 2) = 0 then some ((-2), msm, xst, xpl, xrs, xla, xbm, mmy, xmm, xmt) else Option.bind (f_X10_solveAll mby mgr mol mmy msm xst xpl xrs xla xbm xmm xmt mbd) (fun r20_2 => if r20_2.1 = 0 then some ((-4), r20_2.2.1, r20_2.2.2.1, r20_2.2.2.2.1, r20_2.2.2.2.2.1, r20_2.2.2.2.2.2.1, r20_2.2.2.2.2.2.2.1, r20_2.2.2.2.2.2.2.2.1, r20_2.2.2.2.2.2.2.2.2.1, r20_2.2.2.2.2.2.2.2.2.2) else if wh = 0 then if (0 : Int32) < 0 ∨ 20001 ≤ (0 : Int32).toNatClampNeg then none else some ((r20_2.2.2.2.2.1 (0 : Int32).toNatClampNeg), r20_2.2.1, r20_2.2.2.1, r20_2.2.2.2.1, r20_2.2.2.2.2.1, r20_2.2.2.2.2.2.1, r20_2.2.2.2.2.2.2.1, r20_2.2.2.2.2.2.2.2.1, r20_2.2.2.2.2.2.2.2.2.1, r20_2.2.2.2.2.2.2.2.2.2) else if wh = 1 then if (0 : Int32) < 0 ∨ 20001 ≤ (0 : Int32).toNatClampNeg then none else some ((r20_2.2.2.2.2.2.1 (0 : Int32).toNatClampNeg), r20_2.2.1, r20_2.2.2.1, r20_2.2.2.2.1, r20_2.2.2.2.2.1, r20_2.2.2.2.2.2.1, r20_2.2.2.2.2.2.2.1, r20_2.2.2.2.2.2.2.2.1, r20_2.2.2.2.2.2.2.2.2.1, r20_2.2.2.2.2.2.2.2.2.2) else if (0 : Int32) < 0 ∨ 20001 ≤ (0 : Int32).toNatClampNeg then none else some ((r20_2.2.2.2.2.2.2.1 (0 : Int32).toNatClampNeg), r20_2.2.1, r20_2.2.2.1, r20_2.2.2.2.1, r20_2.2.2.2.2.1, r20_2.2.2.2.2.2.1, r20_2.2.2.2.2.2.2.1, r20_2.2.2.2.2.2.2.2.1, r20_2.2.2.2.2.2.2.2.2.1, r20_2.2.2.2.2.2.2.2.2.2))
abbrev rm_X10_solve : Room := { frames := 11, cells := 0, slots := 0, locals := 271 }
set_option maxHeartbeats 4000000 in
set_option maxRecDepth 100000 in
theorem k_X10_solve (G : gT) (l : Launch) (mo : Nat) (aMM : Nat) (aMT : Nat) (aPD : Nat) (aST : Nat) (aPL : Nat) (aRS : Nat) (aLA : Nat) (aBM : Nat) (aRP : Nat) (aFI : Nat) (aFM : Nat) (aGB : Nat) (aGM : Nat) (aGV : Nat) (aGR : Nat) (aKB : Nat) (aKP : Nat) (aIK : Nat) (mbd : Int64) (mby : Int32) (mgr : Int32) (mol : Int32) (mmy : Int32) (mpm : Int32) (mrd : Int64) (mbm : Int32) (mbw : Int32) (mpl : Int64) (msm : Int32) (mgs : Int32) (mka : Int32) (miw : Int32) (xst : (Nat → Int64)) (xpl : (Nat → Int32)) (xrs : (Nat → Int32)) (xla : (Nat → Int32)) (xbm : (Nat → Int32)) (xmm : (Nat → Int32)) (xmt : (Nat → Int32)) (wh : Int32) (r : Int32 × Int32 × (Nat → Int64) × (Nat → Int32) × (Nat → Int32) × (Nat → Int32) × (Nat → Int32) × Int32 × (Nat → Int32) × (Nat → Int32)) (hF : f_X10_solve mbd mby mgr mol mmy msm xst xpl xrs xla xbm xmm xmt wh = some r) : HM G l yX10_solve (.code yX10_solve cX10_solve 2 (some .int) :: UW) rm_X10_solve 0 0 [.ref mo, .int wh] [(mo, .inr (8, [.long mbd, .int mby, .int mgr, .int mol, .ref aMM, .ref aMT, .int mmy, .ref aPD, .int mpm, .long mrd, .int mbm, .int mbw, .long mpl, .ref aST, .ref aPL, .ref aRS, .ref aLA, .ref aBM, .int msm, .ref aRP, .ref aFI, .ref aFM, .ref aGB, .ref aGM, .ref aGV, .ref aGR, .int mgs, .ref aKB, .ref aKP, .ref aIK, .int mka, .int miw])), (aST, .inl (gJ G, 20001, .inr (.inl xst))), (aPL, .inl (gI G, 65536, .inl xpl)), (aRS, .inl (gI G, 20001, .inl xrs)), (aLA, .inl (gI G, 20001, .inl xla)), (aBM, .inl (gI G, 20001, .inl xbm)), (aMM, .inl (gI G, 75, .inl xmm)), (aMT, .inl (gI G, 75, .inl xmt))] (some (.int r.1)) [(mo, .inr (8, [.long mbd, .int mby, .int mgr, .int mol, .ref aMM, .ref aMT, .int r.2.2.2.2.2.2.2.1, .ref aPD, .int mpm, .long mrd, .int mbm, .int mbw, .long mpl, .ref aST, .ref aPL, .ref aRS, .ref aLA, .ref aBM, .int r.2.1, .ref aRP, .ref aFI, .ref aFM, .ref aGB, .ref aGM, .ref aGV, .ref aGR, .int mgs, .ref aKB, .ref aKP, .ref aIK, .int mka, .int miw])), (aST, .inl (gJ G, 20001, .inr (.inl r.2.2.1))), (aPL, .inl (gI G, 65536, .inl r.2.2.2.1)), (aRS, .inl (gI G, 20001, .inl r.2.2.2.2.1)), (aLA, .inl (gI G, 20001, .inl r.2.2.2.2.2.1)), (aBM, .inl (gI G, 20001, .inl r.2.2.2.2.2.2.1)), (aMM, .inl (gI G, 75, .inl r.2.2.2.2.2.2.2.2.1)), (aMT, .inl (gI G, 75, .inl r.2.2.2.2.2.2.2.2.2))] := by
  refine HM.ofW (by decide) (Nat.le_of_ble_eq_true rfl) ?_
  intro p e s m args below meth c A post hpost hC hP hD hS ls hl
  obtain ⟨hx, hb, hr, hml, hown, hts, hlk, hE, hA⟩ := hC
  have hl : lv_has ls 2 [(0, .ref mo), (1, .int wh)] := hl
  unfold f_X10_solve at hF
  refine lv_iload_n hx hb dX10_solve_0 rfl (lv_at hl 1 rfl) ?_
  refine lv_i2l (v := (wh.toInt64)) hx hb dX10_solve_1 rfl ?_
  refine lv_lconst (v := 0) hx hb dX10_solve_2 (by decide) ?_
  refine lv_ldc2 (v := 2) hx hb hown (hts _ (List.mem_cons_of_mem _ mw_1003)) dX10_solve_3 ?_
  refine hm_S (wn := [(mo, .inr (8, [.long mbd, .int mby, .int mgr, .int mol, .ref aMM, .ref aMT, .int mmy, .ref aPD, .int mpm, .long mrd, .int mbm, .int mbw, .long mpl, .ref aST, .ref aPL, .ref aRS, .ref aLA, .ref aBM, .int msm, .ref aRP, .ref aFI, .ref aFM, .ref aGB, .ref aGM, .ref aGV, .ref aGR, .int mgs, .ref aKB, .ref aKP, .ref aIK, .int mka, .int miw])), (aST, .inl (gJ G, 20001, .inr (.inl xst))), (aPL, .inl (gI G, 65536, .inl xpl)), (aRS, .inl (gI G, 20001, .inl xrs)), (aLA, .inl (gI G, 20001, .inl xla)), (aBM, .inl (gI G, 20001, .inl xbm)), (aMM, .inl (gI G, 75, .inl xmm)), (aMT, .inl (gI G, 75, .inl xmt))]) (wr := [(mo, .inr (8, [.long mbd, .int mby, .int mgr, .int mol, .ref aMM, .ref aMT, .int mmy, .ref aPD, .int mpm, .long mrd, .int mbm, .int mbw, .long mpl, .ref aST, .ref aPL, .ref aRS, .ref aLA, .ref aBM, .int msm, .ref aRP, .ref aFI, .ref aFM, .ref aGB, .ref aGM, .ref aGV, .ref aGR, .int mgs, .ref aKB, .ref aKP, .ref aIK, .int mka, .int miw])), (aST, .inl (gJ G, 20001, .inr (.inl xst))), (aPL, .inl (gI G, 65536, .inl xpl)), (aRS, .inl (gI G, 20001, .inl xrs)), (aLA, .inl (gI G, 20001, .inl xla)), (aBM, .inl (gI G, 20001, .inl xbm)), (aMM, .inl (gI G, 75, .inl xmm)), (aMT, .inl (gI G, 75, .inl xmt))]) (rest := []) (sn := [.int (f_X10_in (wh.toInt64) 0 2)]) hx hb hml hown hts hE hA (k_X10_in G l (wh.toInt64) 0 2 _ rfl) sm_X10_in mw_833 ⟨rfl, rfl, Nat.le_of_ble_eq_true rfl, Nat.le_of_ble_eq_true rfl⟩ hP hD hS [] [0, 1, 2, 3, 4, 5, 6, 7] [0, 1, 2, 3, 4, 5, 6, 7] rfl rfl rfl (by decide) hl.1 rfl rfl (Nat.le_of_ble_eq_true rfl) dX10_solve_6 ⟨Nat.le_of_ble_eq_true rfl, Nat.le_of_ble_eq_true rfl⟩ (fun H locs hP hD hS => ?_)
  refine lv_if_ne (tgt := 15) hx hb dX10_solve_9 (by decide) (fun c_1 => ?_) (fun c_1 => ?_)
  · have hF := ifn hF c_1
    refine lv_aload_n hx hb dX10_solve_15 rfl (lv_at hl 0 rfl) ?_
    refine lv_aload_n hx hb dX10_solve_16 rfl (lv_at hl 0 rfl) ?_
    refine hget hx hb hts hown hE fl_X10_69 hP 0 rfl rfl dX10_solve_17 ?_
    obtain ⟨r20_2, hr20_2, hF⟩ := bnd hF
    refine hm_V (wn := [(mo, .inr (8, [.long mbd, .int mby, .int mgr, .int mol, .ref aMM, .ref aMT, .int r20_2.2.2.2.2.2.2.2.1, .ref aPD, .int mpm, .long mrd, .int mbm, .int mbw, .long mpl, .ref aST, .ref aPL, .ref aRS, .ref aLA, .ref aBM, .int r20_2.2.1, .ref aRP, .ref aFI, .ref aFM, .ref aGB, .ref aGM, .ref aGV, .ref aGR, .int mgs, .ref aKB, .ref aKP, .ref aIK, .int mka, .int miw])), (aST, .inl (gJ G, 20001, .inr (.inl r20_2.2.2.1))), (aPL, .inl (gI G, 65536, .inl r20_2.2.2.2.1)), (aRS, .inl (gI G, 20001, .inl r20_2.2.2.2.2.1)), (aLA, .inl (gI G, 20001, .inl r20_2.2.2.2.2.2.1)), (aBM, .inl (gI G, 20001, .inl r20_2.2.2.2.2.2.2.1)), (aMM, .inl (gI G, 75, .inl r20_2.2.2.2.2.2.2.2.2.1)), (aMT, .inl (gI G, 75, .inl r20_2.2.2.2.2.2.2.2.2.2))]) (wr := []) (rest := []) (sn := [.int r20_2.1]) hx hb hml hown hts hE hA (k_X10_solveAll G l mo aMM aMT aPD aST aPL aRS aLA aBM aRP aFI aFM aGB aGM aGV aGR aKB aKP aIK mbd mby mgr mol mmy mpm mrd mbm mbw mpl msm mgs mka miw xst xpl xrs xla xbm xmm xmt mbd r20_2 hr20_2) sm_X10_solveAll mw_1004 ⟨rfl, rfl, Nat.le_of_ble_eq_true rfl, Nat.le_of_ble_eq_true rfl⟩ hP hD hS 0 rfl rfl [0, 1, 2, 3, 4, 5, 6, 7] [] [0, 1, 2, 3, 4, 5, 6, 7] rfl rfl rfl (by decide) hl.1 rfl rfl (Nat.le_of_ble_eq_true rfl) dX10_solve_20 ⟨Nat.le_of_ble_eq_true rfl, Nat.le_of_ble_eq_true rfl⟩ (fun H locs hP hD hS => ?_)
    refine lv_if_ne (tgt := 29) hx hb dX10_solve_23 (by decide) (fun c_3 => ?_) (fun c_3 => ?_)
    · have hF := ifn hF c_3
      refine lv_iload_n hx hb dX10_solve_29 rfl (lv_at hl 1 rfl) ?_
      refine lv_if_ne (tgt := 42) hx hb dX10_solve_30 (by decide) (fun c_4 => ?_) (fun c_4 => ?_)
      · have hF := ifn hF c_4
        refine lv_iload_n hx hb dX10_solve_42 rfl (lv_at hl 1 rfl) ?_
        refine lv_iconst (v := 1) hx hb dX10_solve_43 (by decide) ?_
        refine lv_icmp_ne (tgt := 56) hx hb dX10_solve_44 (by decide) (fun c_5 => ?_) (fun c_5 => ?_)
        · have hF := ifn hF c_5
          refine lv_aload_n hx hb dX10_solve_56 rfl (lv_at hl 0 rfl) ?_
          refine hget hx hb hts hown hE fl_X10_33 hP 0 rfl rfl dX10_solve_57 ?_
          refine lv_iconst (v := 0) hx hb dX10_solve_60 (by decide) ?_
          obtain ⟨hi_6, hF⟩ := inb hF
          refine hiald hx hb hE hP 5 rfl hi_6 dX10_solve_61 ?_
          have hF := Option.some.inj hF
          subst hF
          exact hm_iret hx hb hr hlk hP hD hS hpost dX10_solve_62
        · have hF := ifp hF c_5
          refine lv_aload_n hx hb dX10_solve_47 rfl (lv_at hl 0 rfl) ?_
          refine hget hx hb hts hown hE fl_X10_30 hP 0 rfl rfl dX10_solve_48 ?_
          refine lv_iconst (v := 0) hx hb dX10_solve_51 (by decide) ?_
          obtain ⟨hi_7, hF⟩ := inb hF
          refine hiald hx hb hE hP 4 rfl hi_7 dX10_solve_52 ?_
          refine lv_goto (tgt := 62) hx hb dX10_solve_53 (by decide) ?_
          have hF := Option.some.inj hF
          subst hF
          exact hm_iret hx hb hr hlk hP hD hS hpost dX10_solve_62
      · have hF := ifp hF c_4
        refine lv_aload_n hx hb dX10_solve_33 rfl (lv_at hl 0 rfl) ?_
        refine hget hx hb hts hown hE fl_X10_27 hP 0 rfl rfl dX10_solve_34 ?_
        refine lv_iconst (v := 0) hx hb dX10_solve_37 (by decide) ?_
        obtain ⟨hi_8, hF⟩ := inb hF
        refine hiald hx hb hE hP 3 rfl hi_8 dX10_solve_38 ?_
        refine lv_goto (tgt := 62) hx hb dX10_solve_39 (by decide) ?_
        have hF := Option.some.inj hF
        subst hF
        exact hm_iret hx hb hr hlk hP hD hS hpost dX10_solve_62
    · have hF := ifp hF c_3
      refine lv_bipush (v := (-4)) hx hb dX10_solve_26 (by decide) ?_
      have hF := Option.some.inj hF
      subst hF
      exact hm_iret hx hb hr hlk hP hD hS hpost dX10_solve_28
  · have hF := ifp hF c_1
    refine lv_bipush (v := (-2)) hx hb dX10_solve_12 (by decide) ?_
    have hF := Option.some.inj hF
    subst hF
    exact hm_iret hx hb hr hlk hP hD hS hpost dX10_solve_14
def f_X10_winsAtOnce_L13 (mby : Int32) (mgr : Int32) (mol : Int32) (st : Int64) (r2_1 : Int32 × (Nat → Int32) × (Nat → Int32)) (v3_2 : Int32) : Nat → Int32 → Option (Int32 × Int32 × (Nat → Int32) × (Nat → Int32))
  | 0, _ => none
  | n+1, x4_3 =>
  if v3_2 ≤ x4_3 then some (0, r2_1.1, r2_1.2.1, r2_1.2.2) else if (x4_3) < 0 ∨ 75 ≤ (x4_3).toNatClampNeg then none else if (x4_3) < 0 ∨ 75 ≤ (x4_3).toNatClampNeg then none else Option.bind (f_X10_gone st (r2_1.2.1 (x4_3).toNatClampNeg) (r2_1.2.2 (x4_3).toNatClampNeg)) (fun r35_7 => Option.bind (f_X10_broughtBy mby mgr mol r35_7) (fun r38_8 => if r38_8 = (1 + (f_X10_turnOf st)) then some (1, r2_1.1, r2_1.2.1, r2_1.2.2) else jlet (x4_3 + 1) (fun v4_10 => (f_X10_winsAtOnce_L13 mby mgr mol st r2_1 v3_2 n) v4_10)))
def f_X10_winsAtOnce (mby : Int32) (mgr : Int32) (mol : Int32) (xmm : (Nat → Int32)) (xmt : (Nat → Int32)) (st : Int64) : Option (Int32 × Int32 × (Nat → Int32) × (Nat → Int32)) :=
  Option.bind (f_X10_findMoves mby mgr mol xmm xmt st) (fun r2_1 => jlet r2_1.1 (fun v3_2 => f_X10_winsAtOnce_L13 mby mgr mol st r2_1 v3_2 100 0))
abbrev rm_X10_winsAtOnce : Room := { frames := 9, cells := 0, slots := 0, locals := 221 }
set_option maxHeartbeats 4000000 in
set_option maxRecDepth 100000 in
theorem k_X10_winsAtOnce (G : gT) (l : Launch) (mo : Nat) (aMM : Nat) (aMT : Nat) (aPD : Nat) (aST : Nat) (aPL : Nat) (aRS : Nat) (aLA : Nat) (aBM : Nat) (aRP : Nat) (aFI : Nat) (aFM : Nat) (aGB : Nat) (aGM : Nat) (aGV : Nat) (aGR : Nat) (aKB : Nat) (aKP : Nat) (aIK : Nat) (mbd : Int64) (mby : Int32) (mgr : Int32) (mol : Int32) (mmy : Int32) (mpm : Int32) (mrd : Int64) (mbm : Int32) (mbw : Int32) (mpl : Int64) (msm : Int32) (mgs : Int32) (mka : Int32) (miw : Int32) (xmm : (Nat → Int32)) (xmt : (Nat → Int32)) (st : Int64) (r : Int32 × Int32 × (Nat → Int32) × (Nat → Int32)) (hF : f_X10_winsAtOnce mby mgr mol xmm xmt st = some r) : HM G l yX10_winsAtOnce (.code yX10_winsAtOnce cX10_winsAtOnce 5 (some .boolean) :: UW) rm_X10_winsAtOnce 0 0 [.ref mo, .long st] [(mo, .inr (8, [.long mbd, .int mby, .int mgr, .int mol, .ref aMM, .ref aMT, .int mmy, .ref aPD, .int mpm, .long mrd, .int mbm, .int mbw, .long mpl, .ref aST, .ref aPL, .ref aRS, .ref aLA, .ref aBM, .int msm, .ref aRP, .ref aFI, .ref aFM, .ref aGB, .ref aGM, .ref aGV, .ref aGR, .int mgs, .ref aKB, .ref aKP, .ref aIK, .int mka, .int miw])), (aMM, .inl (gI G, 75, .inl xmm)), (aMT, .inl (gI G, 75, .inl xmt))] (some (.int r.1)) [(mo, .inr (8, [.long mbd, .int mby, .int mgr, .int mol, .ref aMM, .ref aMT, .int r.2.1, .ref aPD, .int mpm, .long mrd, .int mbm, .int mbw, .long mpl, .ref aST, .ref aPL, .ref aRS, .ref aLA, .ref aBM, .int msm, .ref aRP, .ref aFI, .ref aFM, .ref aGB, .ref aGM, .ref aGV, .ref aGR, .int mgs, .ref aKB, .ref aKP, .ref aIK, .int mka, .int miw])), (aMM, .inl (gI G, 75, .inl r.2.2.1)), (aMT, .inl (gI G, 75, .inl r.2.2.2))] := by
  refine HM.ofW (by decide) (Nat.le_of_ble_eq_true rfl) ?_
  intro p e s m args below meth c A post hpost hC hP hD hS ls hl
  obtain ⟨hx, hb, hr, hml, hown, hts, hlk, hE, hA⟩ := hC
  have hl : lv_has ls 5 [(0, .ref mo), (1, .long st)] := hl
  unfold f_X10_winsAtOnce at hF
  refine lv_aload_n hx hb dX10_winsAtOnce_0 rfl (lv_at hl 0 rfl) ?_
  refine lv_lload_n hx hb dX10_winsAtOnce_1 rfl (lv_at hl 1 rfl) ?_
  obtain ⟨r2_1, hr2_1, hF⟩ := bnd hF
  refine hm_V (wn := [(mo, .inr (8, [.long mbd, .int mby, .int mgr, .int mol, .ref aMM, .ref aMT, .int r2_1.1, .ref aPD, .int mpm, .long mrd, .int mbm, .int mbw, .long mpl, .ref aST, .ref aPL, .ref aRS, .ref aLA, .ref aBM, .int msm, .ref aRP, .ref aFI, .ref aFM, .ref aGB, .ref aGM, .ref aGV, .ref aGR, .int mgs, .ref aKB, .ref aKP, .ref aIK, .int mka, .int miw])), (aMM, .inl (gI G, 75, .inl r2_1.2.1)), (aMT, .inl (gI G, 75, .inl r2_1.2.2))]) (wr := []) (rest := []) (sn := []) hx hb hml hown hts hE hA (k_X10_findMoves G l mo aMM aMT aPD aST aPL aRS aLA aBM aRP aFI aFM aGB aGM aGV aGR aKB aKP aIK mbd mby mgr mol mmy mpm mrd mbm mbw mpl msm mgs mka miw xmm xmt st r2_1 hr2_1) sm_X10_findMoves mw_965 ⟨rfl, rfl, Nat.le_of_ble_eq_true rfl, Nat.le_of_ble_eq_true rfl⟩ hP hD hS 0 rfl rfl [0, 1, 2] [] [0, 1, 2] rfl rfl rfl (by decide) hl.1 rfl rfl (Nat.le_of_ble_eq_true rfl) dX10_winsAtOnce_2 ⟨Nat.le_of_ble_eq_true rfl, Nat.le_of_ble_eq_true rfl⟩ (fun H locs hP hD hS => ?_)
  refine lv_aload_n hx hb dX10_winsAtOnce_5 rfl (lv_at hl 0 rfl) ?_
  refine hget hx hb hts hown hE fl_X10_132 hP 0 rfl rfl dX10_winsAtOnce_6 ?_
  refine lv_topi (fun v3_2 ev3_2 => ?_)
  have hF := jl hF ev3_2
  refine lv_istore_n (lv' := [(3, .int v3_2), (0, .ref mo), (1, .long st)]) hx hb dX10_winsAtOnce_9 rfl hl (by decide) rfl (fun ls hl => ?_)
  refine lv_iconst (v := 0) hx hb dX10_winsAtOnce_10 (by decide) ?_
  refine lv_istore (lv' := [(4, .int 0), (3, .int v3_2), (0, .ref mo), (1, .long st)]) hx hb dX10_winsAtOnce_11 hl (by decide) rfl (fun ls hl => ?_)
  have hL13 : ∀ (n13 : Nat) (x4_3 : Int32) (H : Heap) (locs : List Loc) (ls : Array Slot), f_X10_winsAtOnce_L13 mby mgr mol st r2_1 v3_2 n13 x4_3 = some r → va_P (gD G) vwCl [(mo, .inr (8, [.long mbd, .int mby, .int mgr, .int mol, .ref aMM, .ref aMT, .int r2_1.1, .ref aPD, .int mpm, .long mrd, .int mbm, .int mbw, .long mpl, .ref aST, .ref aPL, .ref aRS, .ref aLA, .ref aBM, .int msm, .ref aRP, .ref aFI, .ref aFM, .ref aGB, .ref aGM, .ref aGV, .ref aGR, .int mgs, .ref aKB, .ref aKP, .ref aIK, .int mka, .int miw])), (aMM, .inl (gI G, 75, .inl r2_1.2.1)), (aMT, .inl (gI G, 75, .inl r2_1.2.2))] H → va_D A [(mo, .inr (8, [.long mbd, .int mby, .int mgr, .int mol, .ref aMM, .ref aMT, .int r2_1.1, .ref aPD, .int mpm, .long mrd, .int mbm, .int mbw, .long mpl, .ref aST, .ref aPL, .ref aRS, .ref aLA, .ref aBM, .int msm, .ref aRP, .ref aFI, .ref aFM, .ref aGB, .ref aGM, .ref aGV, .ref aGR, .int mgs, .ref aKB, .ref aKP, .ref aIK, .int mka, .int miw])), (aMM, .inl (gI G, 75, .inl r2_1.2.1)), (aMT, .inl (gI G, 75, .inl r2_1.2.2))] → va_S A s.heap H locs → lv_has ls 5 [(0, .ref mo), (1, .long st), (3, .int v3_2), (4, .int x4_3)] → W p l e rm_X10_winsAtOnce s m args below meth c H locs 0 0 (MQ below (HXq G post A) args s 0 0 A) (F0 m 13 ls []) := by
    intro n13
    induction n13 with
    | zero =>
      intro x4_3 H locs ls hF
      exact absurd hF (fun h => by cases h)
    | succ n13 ih13 =>
      intro x4_3 H locs ls hF hP hD hS hl
      unfold f_X10_winsAtOnce_L13 at hF
      refine lv_iload hx hb dX10_winsAtOnce_13 (lv_at hl 3 rfl) ?_
      refine lv_iload_n hx hb dX10_winsAtOnce_15 rfl (lv_at hl 2 rfl) ?_
      refine lv_icmp_ge (tgt := 58) hx hb dX10_winsAtOnce_16 (by decide) (fun c_4 => ?_) (fun c_4 => ?_)
      · have hF := ifp hF c_4
        refine lv_iconst (v := 0) hx hb dX10_winsAtOnce_58 (by decide) ?_
        have hF := Option.some.inj hF
        subst hF
        exact hm_zret hx hb hr hlk hP hD hS (by decide +kernel) hpost dX10_winsAtOnce_59
      · have hF := ifn hF c_4
        refine lv_aload_n hx hb dX10_winsAtOnce_19 rfl (lv_at hl 0 rfl) ?_
        refine lv_lload_n hx hb dX10_winsAtOnce_20 rfl (lv_at hl 1 rfl) ?_
        refine lv_aload_n hx hb dX10_winsAtOnce_21 rfl (lv_at hl 0 rfl) ?_
        refine hget hx hb hts hown hE fl_X10_7 hP 0 rfl rfl dX10_winsAtOnce_22 ?_
        refine lv_iload hx hb dX10_winsAtOnce_25 (lv_at hl 3 rfl) ?_
        obtain ⟨hi_5, hF⟩ := inb hF
        refine hiald hx hb hE hP 1 rfl hi_5 dX10_winsAtOnce_27 ?_
        refine lv_aload_n hx hb dX10_winsAtOnce_28 rfl (lv_at hl 0 rfl) ?_
        refine hget hx hb hts hown hE fl_X10_13 hP 0 rfl rfl dX10_winsAtOnce_29 ?_
        refine lv_iload hx hb dX10_winsAtOnce_32 (lv_at hl 3 rfl) ?_
        obtain ⟨hi_6, hF⟩ := inb hF
        refine hiald hx hb hE hP 2 rfl hi_6 dX10_winsAtOnce_34 ?_
        obtain ⟨r35_7, hr35_7, hF⟩ := bnd hF
        refine hm_S (wn := [(mo, .inr (8, [.long mbd, .int mby, .int mgr, .int mol, .ref aMM, .ref aMT, .int r2_1.1, .ref aPD, .int mpm, .long mrd, .int mbm, .int mbw, .long mpl, .ref aST, .ref aPL, .ref aRS, .ref aLA, .ref aBM, .int msm, .ref aRP, .ref aFI, .ref aFM, .ref aGB, .ref aGM, .ref aGV, .ref aGR, .int mgs, .ref aKB, .ref aKP, .ref aIK, .int mka, .int miw])), (aMM, .inl (gI G, 75, .inl r2_1.2.1)), (aMT, .inl (gI G, 75, .inl r2_1.2.2))]) (wr := [(mo, .inr (8, [.long mbd, .int mby, .int mgr, .int mol, .ref aMM, .ref aMT, .int r2_1.1, .ref aPD, .int mpm, .long mrd, .int mbm, .int mbw, .long mpl, .ref aST, .ref aPL, .ref aRS, .ref aLA, .ref aBM, .int msm, .ref aRP, .ref aFI, .ref aFM, .ref aGB, .ref aGM, .ref aGV, .ref aGR, .int mgs, .ref aKB, .ref aKP, .ref aIK, .int mka, .int miw])), (aMM, .inl (gI G, 75, .inl r2_1.2.1)), (aMT, .inl (gI G, 75, .inl r2_1.2.2))]) (rest := [.ref mo]) (sn := [.long r35_7, .ref mo]) hx hb hml hown hts hE hA (k_X10_gone G l st (r2_1.2.1 (x4_3).toNatClampNeg) (r2_1.2.2 (x4_3).toNatClampNeg) r35_7 hr35_7) sm_X10_gone mw_954 ⟨rfl, rfl, Nat.le_of_ble_eq_true rfl, Nat.le_of_ble_eq_true rfl⟩ hP hD hS [] [0, 1, 2] [0, 1, 2] rfl rfl rfl (by decide) hl.1 rfl rfl (Nat.le_of_ble_eq_true rfl) dX10_winsAtOnce_35 ⟨Nat.le_of_ble_eq_true rfl, Nat.le_of_ble_eq_true rfl⟩ (fun H locs hP hD hS => ?_)
        obtain ⟨r38_8, hr38_8, hF⟩ := bnd hF
        refine hm_V (wn := [(mo, .inr (8, [.long mbd, .int mby, .int mgr, .int mol, .ref aMM, .ref aMT, .int r2_1.1, .ref aPD, .int mpm, .long mrd, .int mbm, .int mbw, .long mpl, .ref aST, .ref aPL, .ref aRS, .ref aLA, .ref aBM, .int msm, .ref aRP, .ref aFI, .ref aFM, .ref aGB, .ref aGM, .ref aGV, .ref aGR, .int mgs, .ref aKB, .ref aKP, .ref aIK, .int mka, .int miw])), (aMM, .inl (gI G, 75, .inl r2_1.2.1)), (aMT, .inl (gI G, 75, .inl r2_1.2.2))]) (wr := [(aMM, .inl (gI G, 75, .inl r2_1.2.1)), (aMT, .inl (gI G, 75, .inl r2_1.2.2))]) (rest := []) (sn := [.int r38_8]) hx hb hml hown hts hE hA (k_X10_broughtBy G l mo aMM aMT aPD aST aPL aRS aLA aBM aRP aFI aFM aGB aGM aGV aGR aKB aKP aIK mbd mby mgr mol r2_1.1 mpm mrd mbm mbw mpl msm mgs mka miw r35_7 r38_8 hr38_8) sm_X10_broughtBy mw_908 ⟨rfl, rfl, Nat.le_of_ble_eq_true rfl, Nat.le_of_ble_eq_true rfl⟩ hP hD hS 0 rfl rfl [0] [1, 2] [2, 0, 1] rfl rfl rfl (by decide) hl.1 rfl rfl (Nat.le_of_ble_eq_true rfl) dX10_winsAtOnce_38 ⟨Nat.le_of_ble_eq_true rfl, Nat.le_of_ble_eq_true rfl⟩ (fun H locs hP hD hS => ?_)
        refine lv_iconst (v := 1) hx hb dX10_winsAtOnce_41 (by decide) ?_
        refine lv_lload_n hx hb dX10_winsAtOnce_42 rfl (lv_at hl 1 rfl) ?_
        refine hm_S (wn := [(mo, .inr (8, [.long mbd, .int mby, .int mgr, .int mol, .ref aMM, .ref aMT, .int r2_1.1, .ref aPD, .int mpm, .long mrd, .int mbm, .int mbw, .long mpl, .ref aST, .ref aPL, .ref aRS, .ref aLA, .ref aBM, .int msm, .ref aRP, .ref aFI, .ref aFM, .ref aGB, .ref aGM, .ref aGV, .ref aGR, .int mgs, .ref aKB, .ref aKP, .ref aIK, .int mka, .int miw])), (aMM, .inl (gI G, 75, .inl r2_1.2.1)), (aMT, .inl (gI G, 75, .inl r2_1.2.2))]) (wr := [(mo, .inr (8, [.long mbd, .int mby, .int mgr, .int mol, .ref aMM, .ref aMT, .int r2_1.1, .ref aPD, .int mpm, .long mrd, .int mbm, .int mbw, .long mpl, .ref aST, .ref aPL, .ref aRS, .ref aLA, .ref aBM, .int msm, .ref aRP, .ref aFI, .ref aFM, .ref aGB, .ref aGM, .ref aGV, .ref aGR, .int mgs, .ref aKB, .ref aKP, .ref aIK, .int mka, .int miw])), (aMM, .inl (gI G, 75, .inl r2_1.2.1)), (aMT, .inl (gI G, 75, .inl r2_1.2.2))]) (rest := [.int 1, .int r38_8]) (sn := [.int (f_X10_turnOf st), .int 1, .int r38_8]) hx hb hml hown hts hE hA (k_X10_turnOf G l st _ rfl) sm_X10_turnOf mw_848 ⟨rfl, rfl, Nat.le_of_ble_eq_true rfl, Nat.le_of_ble_eq_true rfl⟩ hP hD hS [] [0, 1, 2] [0, 1, 2] rfl rfl rfl (by decide) hl.1 rfl rfl (Nat.le_of_ble_eq_true rfl) dX10_winsAtOnce_43 ⟨Nat.le_of_ble_eq_true rfl, Nat.le_of_ble_eq_true rfl⟩ (fun H locs hP hD hS => ?_)
        refine lv_iadd hx hb dX10_winsAtOnce_46 ?_
        refine lv_icmp_ne (tgt := 52) hx hb dX10_winsAtOnce_47 (by decide) (fun c_9 => ?_) (fun c_9 => ?_)
        · have hF := ifn hF c_9
          obtain ⟨v4_10, ev4_10⟩ : ∃ z : Int32, z = x4_3 + 1 := ⟨_, rfl⟩
          have hF := jl hF ev4_10
          refine lv_iinc (v := v4_10) (lv' := [(4, .int v4_10), (0, .ref mo), (1, .long st), (3, .int v3_2)]) hx hb dX10_winsAtOnce_52 hl (k := 3) rfl (by rw [ev4_10]; rfl) (by decide) rfl (fun ls hl => ?_)
          refine lv_goto (tgt := 13) hx hb dX10_winsAtOnce_55 (by decide) ?_
          exact ih13 v4_10 _ _ _ hF hP hD hS (lv_sub hl [1, 2, 3, 0] rfl)
        · have hF := ifp hF c_9
          refine lv_iconst (v := 1) hx hb dX10_winsAtOnce_50 (by decide) ?_
          have hF := Option.some.inj hF
          subst hF
          exact hm_zret hx hb hr hlk hP hD hS (by decide +kernel) hpost dX10_winsAtOnce_51
  exact hL13 _ 0 _ _ _ hF hP hD hS (lv_sub hl [2, 3, 1, 0] rfl)
def f_X10_isKey_B146 (k_89 : Int32 → Int32 → (Nat → Int32) → (Nat → Int32) → (Nat → Int64) → Option (Int32 × Int32 × (Nat → Int32) × (Nat → Int32) × (Nat → Int64))) (x7_12 : Int32) (mmy_20 : Int32) (xmm_21 : (Nat → Int32)) (xmt_22 : (Nat → Int32)) (xrp_23 : (Nat → Int64)) : Option (Int32 × Int32 × (Nat → Int32) × (Nat → Int32) × (Nat → Int64)) :=
  jlet (x7_12 + 1) (fun v7_24 => k_89 v7_24 mmy_20 xmm_21 xmt_22 xrp_23)
def f_X10_isKey_L89 (mby : Int32) (mgr : Int32) (mol : Int32) (sd : Int32) (v6_5 : Int32) : Nat → Int32 → Int32 → (Nat → Int32) → (Nat → Int32) → (Nat → Int64) → Option (Int32 × Int32 × (Nat → Int32) × (Nat → Int32) × (Nat → Int64))
  | 0, _, _, _, _, _ => none
  | n+1, x7_12, mmy_13, xmm_14, xmt_15, xrp_16 =>
  if v6_5 ≤ x7_12 then some (1, mmy_13, xmm_14, xmt_15, xrp_16) else if (x7_12) < 0 ∨ 75 ≤ (x7_12).toNatClampNeg then none else Option.bind (f_X10_broughtBy mby mgr mol (xrp_16 (x7_12).toNatClampNeg)) (fun r104_19 => if r104_19 = 0 then if (x7_12) < 0 ∨ 75 ≤ (x7_12).toNatClampNeg then none else Option.bind (f_X10_winsAtOnce mby mgr mol xmm_14 xmt_15 (xrp_16 (x7_12).toNatClampNeg)) (fun r138_27 => if r138_27.1 = 0 then some (0, r138_27.2.1, r138_27.2.2.1, r138_27.2.2.2, xrp_16) else f_X10_isKey_B146 (f_X10_isKey_L89 mby mgr mol sd v6_5 n) x7_12 r138_27.2.1 r138_27.2.2.1 r138_27.2.2.2 xrp_16) else if (x7_12) < 0 ∨ 75 ≤ (x7_12).toNatClampNeg then none else Option.bind (f_X10_broughtBy mby mgr mol (xrp_16 (x7_12).toNatClampNeg)) (fun r118_30 => if r118_30 = (1 + sd) then f_X10_isKey_B146 (f_X10_isKey_L89 mby mgr mol sd v6_5 n) x7_12 mmy_13 xmm_14 xmt_15 xrp_16 else some (0, mmy_13, xmm_14, xmt_15, xrp_16)))
def f_X10_isKey_L48 (mby : Int32) (mgr : Int32) (mol : Int32) (st : Int64) (sd : Int32) (v6_5 : Int32) : Nat → Int32 → Int32 → (Nat → Int32) → (Nat → Int32) → (Nat → Int64) → Option (Int32 × Int32 × (Nat → Int32) × (Nat → Int32) × (Nat → Int64))
  | 0, _, _, _, _, _ => none
  | n+1, x7_6, mmy_7, xmm_8, xmt_9, xrp_10 =>
  if v6_5 ≤ x7_6 then f_X10_isKey_L89 mby mgr mol sd v6_5 100 0 mmy_7 xmm_8 xmt_9 xrp_10 else if (x7_6) < 0 ∨ 75 ≤ (x7_6).toNatClampNeg then none else if (x7_6) < 0 ∨ 75 ≤ (x7_6).toNatClampNeg then none else Option.bind (f_X10_gone st (xmm_8 (x7_6).toNatClampNeg) (xmt_9 (x7_6).toNatClampNeg)) (fun r76_34 => if (x7_6) < 0 ∨ 75 ≤ (x7_6).toNatClampNeg then none else jlet (vp_updL xrp_10 (x7_6).toNatClampNeg r76_34) (fun a79_36 => jlet (x7_6 + 1) (fun v7_37 => (f_X10_isKey_L48 mby mgr mol st sd v6_5 n) v7_37 mmy_7 xmm_8 xmt_9 a79_36)))
def f_X10_isKey (mby : Int32) (mgr : Int32) (mol : Int32) (mmy : Int32) (xmm : (Nat → Int32)) (xmt : (Nat → Int32)) (xrp : (Nat → Int64)) (st : Int64) (sd : Int32) (nn : Int32) : Option (Int32 × Int32 × (Nat → Int32) × (Nat → Int32) × (Nat → Int64)) :=
  Option.bind (f_X10_broughtBy mby mgr mol st) (fun r2_1 => if r2_1 = 0 then if nn = 1 then some (0, mmy, xmm, xmt, xrp) else Option.bind (f_X10_findMoves mby mgr mol xmm xmt st) (fun r36_4 => jlet r36_4.1 (fun v6_5 => f_X10_isKey_L48 mby mgr mol st sd v6_5 100 0 r36_4.1 r36_4.2.1 r36_4.2.2 xrp)) else if r2_1 = (1 + sd) then some (1, mmy, xmm, xmt, xrp) else some (0, mmy, xmm, xmt, xrp))
abbrev rm_X10_isKey : Room := { frames := 10, cells := 0, slots := 0, locals := 245 }
set_option maxHeartbeats 4000000 in
set_option maxRecDepth 100000 in
theorem k_X10_isKey (G : gT) (l : Launch) (mo : Nat) (aMM : Nat) (aMT : Nat) (aPD : Nat) (aST : Nat) (aPL : Nat) (aRS : Nat) (aLA : Nat) (aBM : Nat) (aRP : Nat) (aFI : Nat) (aFM : Nat) (aGB : Nat) (aGM : Nat) (aGV : Nat) (aGR : Nat) (aKB : Nat) (aKP : Nat) (aIK : Nat) (mbd : Int64) (mby : Int32) (mgr : Int32) (mol : Int32) (mmy : Int32) (mpm : Int32) (mrd : Int64) (mbm : Int32) (mbw : Int32) (mpl : Int64) (msm : Int32) (mgs : Int32) (mka : Int32) (miw : Int32) (xmm : (Nat → Int32)) (xmt : (Nat → Int32)) (xrp : (Nat → Int64)) (st : Int64) (sd : Int32) (nn : Int32) (r : Int32 × Int32 × (Nat → Int32) × (Nat → Int32) × (Nat → Int64)) (hF : f_X10_isKey mby mgr mol mmy xmm xmt xrp st sd nn = some r) : HM G l yX10_isKey (.code yX10_isKey cX10_isKey 8 (some .boolean) :: UW) rm_X10_isKey 0 0 [.ref mo, .long st, .int sd, .int nn] [(mo, .inr (8, [.long mbd, .int mby, .int mgr, .int mol, .ref aMM, .ref aMT, .int mmy, .ref aPD, .int mpm, .long mrd, .int mbm, .int mbw, .long mpl, .ref aST, .ref aPL, .ref aRS, .ref aLA, .ref aBM, .int msm, .ref aRP, .ref aFI, .ref aFM, .ref aGB, .ref aGM, .ref aGV, .ref aGR, .int mgs, .ref aKB, .ref aKP, .ref aIK, .int mka, .int miw])), (aMM, .inl (gI G, 75, .inl xmm)), (aMT, .inl (gI G, 75, .inl xmt)), (aRP, .inl (gJ G, 75, .inr (.inl xrp)))] (some (.int r.1)) [(mo, .inr (8, [.long mbd, .int mby, .int mgr, .int mol, .ref aMM, .ref aMT, .int r.2.1, .ref aPD, .int mpm, .long mrd, .int mbm, .int mbw, .long mpl, .ref aST, .ref aPL, .ref aRS, .ref aLA, .ref aBM, .int msm, .ref aRP, .ref aFI, .ref aFM, .ref aGB, .ref aGM, .ref aGV, .ref aGR, .int mgs, .ref aKB, .ref aKP, .ref aIK, .int mka, .int miw])), (aMM, .inl (gI G, 75, .inl r.2.2.1)), (aMT, .inl (gI G, 75, .inl r.2.2.2.1)), (aRP, .inl (gJ G, 75, .inr (.inl r.2.2.2.2)))] := by
  refine HM.ofW (by decide) (Nat.le_of_ble_eq_true rfl) ?_
  intro p e s m args below meth c A post hpost hC hP hD hS ls hl
  obtain ⟨hx, hb, hr, hml, hown, hts, hlk, hE, hA⟩ := hC
  have hl : lv_has ls 8 [(0, .ref mo), (1, .long st), (3, .int sd), (4, .int nn)] := hl
  unfold f_X10_isKey at hF
  refine lv_aload_n hx hb dX10_isKey_0 rfl (lv_at hl 0 rfl) ?_
  refine lv_lload_n hx hb dX10_isKey_1 rfl (lv_at hl 1 rfl) ?_
  obtain ⟨r2_1, hr2_1, hF⟩ := bnd hF
  refine hm_V (wn := [(mo, .inr (8, [.long mbd, .int mby, .int mgr, .int mol, .ref aMM, .ref aMT, .int mmy, .ref aPD, .int mpm, .long mrd, .int mbm, .int mbw, .long mpl, .ref aST, .ref aPL, .ref aRS, .ref aLA, .ref aBM, .int msm, .ref aRP, .ref aFI, .ref aFM, .ref aGB, .ref aGM, .ref aGV, .ref aGR, .int mgs, .ref aKB, .ref aKP, .ref aIK, .int mka, .int miw])), (aMM, .inl (gI G, 75, .inl xmm)), (aMT, .inl (gI G, 75, .inl xmt)), (aRP, .inl (gJ G, 75, .inr (.inl xrp)))]) (wr := [(aMM, .inl (gI G, 75, .inl xmm)), (aMT, .inl (gI G, 75, .inl xmt)), (aRP, .inl (gJ G, 75, .inr (.inl xrp)))]) (rest := []) (sn := [.int r2_1]) hx hb hml hown hts hE hA (k_X10_broughtBy G l mo aMM aMT aPD aST aPL aRS aLA aBM aRP aFI aFM aGB aGM aGV aGR aKB aKP aIK mbd mby mgr mol mmy mpm mrd mbm mbw mpl msm mgs mka miw st r2_1 hr2_1) sm_X10_broughtBy mw_908 ⟨rfl, rfl, Nat.le_of_ble_eq_true rfl, Nat.le_of_ble_eq_true rfl⟩ hP hD hS 0 rfl rfl [0] [1, 2, 3] [3, 0, 1, 2] rfl rfl rfl (by decide) hl.1 rfl rfl (Nat.le_of_ble_eq_true rfl) dX10_isKey_2 ⟨Nat.le_of_ble_eq_true rfl, Nat.le_of_ble_eq_true rfl⟩ (fun H locs hP hD hS => ?_)
  refine lv_istore (lv' := [(5, .int r2_1), (0, .ref mo), (1, .long st), (3, .int sd), (4, .int nn)]) hx hb dX10_isKey_5 hl (by decide) rfl (fun ls hl => ?_)
  refine lv_iload hx hb dX10_isKey_7 (lv_at hl 0 rfl) ?_
  refine lv_if_eq (tgt := 26) hx hb dX10_isKey_9 (by decide) (fun c_2 => ?_) (fun c_2 => ?_)
  · have hF := ifp hF c_2
    refine lv_iload hx hb dX10_isKey_26 (lv_at hl 4 rfl) ?_
    refine lv_iconst (v := 1) hx hb dX10_isKey_28 (by decide) ?_
    refine lv_icmp_ne (tgt := 34) hx hb dX10_isKey_29 (by decide) (fun c_3 => ?_) (fun c_3 => ?_)
    · have hF := ifn hF c_3
      refine lv_aload_n hx hb dX10_isKey_34 rfl (lv_at hl 1 rfl) ?_
      refine lv_lload_n hx hb dX10_isKey_35 rfl (lv_at hl 2 rfl) ?_
      obtain ⟨r36_4, hr36_4, hF⟩ := bnd hF
      refine hm_V (wn := [(mo, .inr (8, [.long mbd, .int mby, .int mgr, .int mol, .ref aMM, .ref aMT, .int r36_4.1, .ref aPD, .int mpm, .long mrd, .int mbm, .int mbw, .long mpl, .ref aST, .ref aPL, .ref aRS, .ref aLA, .ref aBM, .int msm, .ref aRP, .ref aFI, .ref aFM, .ref aGB, .ref aGM, .ref aGV, .ref aGR, .int mgs, .ref aKB, .ref aKP, .ref aIK, .int mka, .int miw])), (aMM, .inl (gI G, 75, .inl r36_4.2.1)), (aMT, .inl (gI G, 75, .inl r36_4.2.2)), (aRP, .inl (gJ G, 75, .inr (.inl xrp)))]) (wr := [(aRP, .inl (gJ G, 75, .inr (.inl xrp)))]) (rest := []) (sn := []) hx hb hml hown hts hE hA (k_X10_findMoves G l mo aMM aMT aPD aST aPL aRS aLA aBM aRP aFI aFM aGB aGM aGV aGR aKB aKP aIK mbd mby mgr mol mmy mpm mrd mbm mbw mpl msm mgs mka miw xmm xmt st r36_4 hr36_4) sm_X10_findMoves mw_965 ⟨rfl, rfl, Nat.le_of_ble_eq_true rfl, Nat.le_of_ble_eq_true rfl⟩ hP hD hS 0 rfl rfl [0, 1, 2] [3] [1, 2, 3, 0] rfl rfl rfl (by decide) hl.1 rfl rfl (Nat.le_of_ble_eq_true rfl) dX10_isKey_36 ⟨Nat.le_of_ble_eq_true rfl, Nat.le_of_ble_eq_true rfl⟩ (fun H locs hP hD hS => ?_)
      refine lv_aload_n hx hb dX10_isKey_39 rfl (lv_at hl 1 rfl) ?_
      refine hget hx hb hts hown hE fl_X10_132 hP 0 rfl rfl dX10_isKey_40 ?_
      refine lv_topi (fun v6_5 ev6_5 => ?_)
      have hF := jl hF ev6_5
      refine lv_istore (lv' := [(6, .int v6_5), (5, .int r2_1), (0, .ref mo), (1, .long st), (3, .int sd), (4, .int nn)]) hx hb dX10_isKey_43 hl (by decide) rfl (fun ls hl => ?_)
      refine lv_iconst (v := 0) hx hb dX10_isKey_45 (by decide) ?_
      refine lv_istore (lv' := [(7, .int 0), (6, .int v6_5), (5, .int r2_1), (0, .ref mo), (1, .long st), (3, .int sd), (4, .int nn)]) hx hb dX10_isKey_46 hl (by decide) rfl (fun ls hl => ?_)
      have hL48 : ∀ (n48 : Nat) (x7_6 : Int32) (mmy_7 : Int32) (xmm_8 : (Nat → Int32)) (xmt_9 : (Nat → Int32)) (xrp_10 : (Nat → Int64)) (H : Heap) (locs : List Loc) (ls : Array Slot), f_X10_isKey_L48 mby mgr mol st sd v6_5 n48 x7_6 mmy_7 xmm_8 xmt_9 xrp_10 = some r → va_P (gD G) vwCl [(mo, .inr (8, [.long mbd, .int mby, .int mgr, .int mol, .ref aMM, .ref aMT, .int mmy_7, .ref aPD, .int mpm, .long mrd, .int mbm, .int mbw, .long mpl, .ref aST, .ref aPL, .ref aRS, .ref aLA, .ref aBM, .int msm, .ref aRP, .ref aFI, .ref aFM, .ref aGB, .ref aGM, .ref aGV, .ref aGR, .int mgs, .ref aKB, .ref aKP, .ref aIK, .int mka, .int miw])), (aMM, .inl (gI G, 75, .inl xmm_8)), (aMT, .inl (gI G, 75, .inl xmt_9)), (aRP, .inl (gJ G, 75, .inr (.inl xrp_10)))] H → va_D A [(mo, .inr (8, [.long mbd, .int mby, .int mgr, .int mol, .ref aMM, .ref aMT, .int mmy_7, .ref aPD, .int mpm, .long mrd, .int mbm, .int mbw, .long mpl, .ref aST, .ref aPL, .ref aRS, .ref aLA, .ref aBM, .int msm, .ref aRP, .ref aFI, .ref aFM, .ref aGB, .ref aGM, .ref aGV, .ref aGR, .int mgs, .ref aKB, .ref aKP, .ref aIK, .int mka, .int miw])), (aMM, .inl (gI G, 75, .inl xmm_8)), (aMT, .inl (gI G, 75, .inl xmt_9)), (aRP, .inl (gJ G, 75, .inr (.inl xrp_10)))] → va_S A s.heap H locs → lv_has ls 8 [(0, .ref mo), (1, .long st), (3, .int sd), (6, .int v6_5), (7, .int x7_6)] → W p l e rm_X10_isKey s m args below meth c H locs 0 0 (MQ below (HXq G post A) args s 0 0 A) (F0 m 48 ls []) := by
        intro n48
        induction n48 with
        | zero =>
          intro x7_6 mmy_7 xmm_8 xmt_9 xrp_10 H locs ls hF
          exact absurd hF (fun h => by cases h)
        | succ n48 ih48 =>
          intro x7_6 mmy_7 xmm_8 xmt_9 xrp_10 H locs ls hF hP hD hS hl
          unfold f_X10_isKey_L48 at hF
          refine lv_iload hx hb dX10_isKey_48 (lv_at hl 4 rfl) ?_
          refine lv_iload hx hb dX10_isKey_50 (lv_at hl 3 rfl) ?_
          refine lv_icmp_ge (tgt := 86) hx hb dX10_isKey_52 (by decide) (fun c_11 => ?_) (fun c_11 => ?_)
          · have hF := ifp hF c_11
            refine lv_iconst (v := 0) hx hb dX10_isKey_86 (by decide) ?_
            refine lv_istore (lv' := [(7, .int 0), (0, .ref mo), (1, .long st), (3, .int sd), (6, .int v6_5)]) hx hb dX10_isKey_87 hl (by decide) rfl (fun ls hl => ?_)
            have hL89 : ∀ (n89 : Nat) (x7_12 : Int32) (mmy_13 : Int32) (xmm_14 : (Nat → Int32)) (xmt_15 : (Nat → Int32)) (xrp_16 : (Nat → Int64)) (H : Heap) (locs : List Loc) (ls : Array Slot), f_X10_isKey_L89 mby mgr mol sd v6_5 n89 x7_12 mmy_13 xmm_14 xmt_15 xrp_16 = some r → va_P (gD G) vwCl [(mo, .inr (8, [.long mbd, .int mby, .int mgr, .int mol, .ref aMM, .ref aMT, .int mmy_13, .ref aPD, .int mpm, .long mrd, .int mbm, .int mbw, .long mpl, .ref aST, .ref aPL, .ref aRS, .ref aLA, .ref aBM, .int msm, .ref aRP, .ref aFI, .ref aFM, .ref aGB, .ref aGM, .ref aGV, .ref aGR, .int mgs, .ref aKB, .ref aKP, .ref aIK, .int mka, .int miw])), (aMM, .inl (gI G, 75, .inl xmm_14)), (aMT, .inl (gI G, 75, .inl xmt_15)), (aRP, .inl (gJ G, 75, .inr (.inl xrp_16)))] H → va_D A [(mo, .inr (8, [.long mbd, .int mby, .int mgr, .int mol, .ref aMM, .ref aMT, .int mmy_13, .ref aPD, .int mpm, .long mrd, .int mbm, .int mbw, .long mpl, .ref aST, .ref aPL, .ref aRS, .ref aLA, .ref aBM, .int msm, .ref aRP, .ref aFI, .ref aFM, .ref aGB, .ref aGM, .ref aGV, .ref aGR, .int mgs, .ref aKB, .ref aKP, .ref aIK, .int mka, .int miw])), (aMM, .inl (gI G, 75, .inl xmm_14)), (aMT, .inl (gI G, 75, .inl xmt_15)), (aRP, .inl (gJ G, 75, .inr (.inl xrp_16)))] → va_S A s.heap H locs → lv_has ls 8 [(0, .ref mo), (3, .int sd), (6, .int v6_5), (7, .int x7_12)] → W p l e rm_X10_isKey s m args below meth c H locs 0 0 (MQ below (HXq G post A) args s 0 0 A) (F0 m 89 ls []) := by
              intro n89
              induction n89 with
              | zero =>
                intro x7_12 mmy_13 xmm_14 xmt_15 xrp_16 H locs ls hF
                exact absurd hF (fun h => by cases h)
              | succ n89 ih89 =>
                intro x7_12 mmy_13 xmm_14 xmt_15 xrp_16 H locs ls hF hP hD hS hl
                unfold f_X10_isKey_L89 at hF
                refine lv_iload hx hb dX10_isKey_89 (lv_at hl 3 rfl) ?_
                refine lv_iload hx hb dX10_isKey_91 (lv_at hl 2 rfl) ?_
                refine lv_icmp_ge (tgt := 152) hx hb dX10_isKey_93 (by decide) (fun c_17 => ?_) (fun c_17 => ?_)
                · have hF := ifp hF c_17
                  refine lv_iconst (v := 1) hx hb dX10_isKey_152 (by decide) ?_
                  have hF := Option.some.inj hF
                  subst hF
                  exact hm_zret hx hb hr hlk hP hD hS (by decide +kernel) hpost dX10_isKey_153
                · have hF := ifn hF c_17
                  refine lv_aload_n hx hb dX10_isKey_96 rfl (lv_at hl 0 rfl) ?_
                  refine lv_aload_n hx hb dX10_isKey_97 rfl (lv_at hl 0 rfl) ?_
                  refine hget hx hb hts hown hE fl_X10_36 hP 0 rfl rfl dX10_isKey_98 ?_
                  refine lv_iload hx hb dX10_isKey_101 (lv_at hl 3 rfl) ?_
                  obtain ⟨hi_18, hF⟩ := inb hF
                  refine hlald hx hb hE hP 3 rfl hi_18 dX10_isKey_103 ?_
                  obtain ⟨r104_19, hr104_19, hF⟩ := bnd hF
                  refine hm_V (wn := [(mo, .inr (8, [.long mbd, .int mby, .int mgr, .int mol, .ref aMM, .ref aMT, .int mmy_13, .ref aPD, .int mpm, .long mrd, .int mbm, .int mbw, .long mpl, .ref aST, .ref aPL, .ref aRS, .ref aLA, .ref aBM, .int msm, .ref aRP, .ref aFI, .ref aFM, .ref aGB, .ref aGM, .ref aGV, .ref aGR, .int mgs, .ref aKB, .ref aKP, .ref aIK, .int mka, .int miw])), (aMM, .inl (gI G, 75, .inl xmm_14)), (aMT, .inl (gI G, 75, .inl xmt_15)), (aRP, .inl (gJ G, 75, .inr (.inl xrp_16)))]) (wr := [(aMM, .inl (gI G, 75, .inl xmm_14)), (aMT, .inl (gI G, 75, .inl xmt_15)), (aRP, .inl (gJ G, 75, .inr (.inl xrp_16)))]) (rest := []) (sn := [.int r104_19]) hx hb hml hown hts hE hA (k_X10_broughtBy G l mo aMM aMT aPD aST aPL aRS aLA aBM aRP aFI aFM aGB aGM aGV aGR aKB aKP aIK mbd mby mgr mol mmy_13 mpm mrd mbm mbw mpl msm mgs mka miw (xrp_16 (x7_12).toNatClampNeg) r104_19 hr104_19) sm_X10_broughtBy mw_908 ⟨rfl, rfl, Nat.le_of_ble_eq_true rfl, Nat.le_of_ble_eq_true rfl⟩ hP hD hS 0 rfl rfl [0] [1, 2, 3] [3, 0, 1, 2] rfl rfl rfl (by decide) hl.1 rfl rfl (Nat.le_of_ble_eq_true rfl) dX10_isKey_104 ⟨Nat.le_of_ble_eq_true rfl, Nat.le_of_ble_eq_true rfl⟩ (fun H locs hP hD hS => ?_)
                  have hB146 : ∀ (mmy_20 : Int32) (xmm_21 : (Nat → Int32)) (xmt_22 : (Nat → Int32)) (xrp_23 : (Nat → Int64)) (H : Heap) (locs : List Loc) (ls : Array Slot), f_X10_isKey_B146 (f_X10_isKey_L89 mby mgr mol sd v6_5 n89) x7_12 mmy_20 xmm_21 xmt_22 xrp_23 = some r → va_P (gD G) vwCl [(mo, .inr (8, [.long mbd, .int mby, .int mgr, .int mol, .ref aMM, .ref aMT, .int mmy_20, .ref aPD, .int mpm, .long mrd, .int mbm, .int mbw, .long mpl, .ref aST, .ref aPL, .ref aRS, .ref aLA, .ref aBM, .int msm, .ref aRP, .ref aFI, .ref aFM, .ref aGB, .ref aGM, .ref aGV, .ref aGR, .int mgs, .ref aKB, .ref aKP, .ref aIK, .int mka, .int miw])), (aMM, .inl (gI G, 75, .inl xmm_21)), (aMT, .inl (gI G, 75, .inl xmt_22)), (aRP, .inl (gJ G, 75, .inr (.inl xrp_23)))] H → va_D A [(mo, .inr (8, [.long mbd, .int mby, .int mgr, .int mol, .ref aMM, .ref aMT, .int mmy_20, .ref aPD, .int mpm, .long mrd, .int mbm, .int mbw, .long mpl, .ref aST, .ref aPL, .ref aRS, .ref aLA, .ref aBM, .int msm, .ref aRP, .ref aFI, .ref aFM, .ref aGB, .ref aGM, .ref aGV, .ref aGR, .int mgs, .ref aKB, .ref aKP, .ref aIK, .int mka, .int miw])), (aMM, .inl (gI G, 75, .inl xmm_21)), (aMT, .inl (gI G, 75, .inl xmt_22)), (aRP, .inl (gJ G, 75, .inr (.inl xrp_23)))] → va_S A s.heap H locs → lv_has ls 8 [(0, .ref mo), (3, .int sd), (6, .int v6_5), (7, .int x7_12)] → W p l e rm_X10_isKey s m args below meth c H locs 0 0 (MQ below (HXq G post A) args s 0 0 A) (F0 m 146 ls []) := by
                    intro mmy_20 xmm_21 xmt_22 xrp_23 H locs ls hF hP hD hS hl
                    unfold f_X10_isKey_B146 at hF
                    obtain ⟨v7_24, ev7_24⟩ : ∃ z : Int32, z = x7_12 + 1 := ⟨_, rfl⟩
                    have hF := jl hF ev7_24
                    refine lv_iinc (v := v7_24) (lv' := [(7, .int v7_24), (0, .ref mo), (3, .int sd), (6, .int v6_5)]) hx hb dX10_isKey_146 hl (k := 3) rfl (by rw [ev7_24]; rfl) (by decide) rfl (fun ls hl => ?_)
                    refine lv_goto (tgt := 89) hx hb dX10_isKey_149 (by decide) ?_
                    exact ih89 v7_24 mmy_20 xmm_21 xmt_22 xrp_23 _ _ _ hF hP hD hS (lv_sub hl [1, 2, 3, 0] rfl)
                  refine lv_if_eq (tgt := 130) hx hb dX10_isKey_107 (by decide) (fun c_25 => ?_) (fun c_25 => ?_)
                  · have hF := ifp hF c_25
                    refine lv_aload_n hx hb dX10_isKey_130 rfl (lv_at hl 0 rfl) ?_
                    refine lv_aload_n hx hb dX10_isKey_131 rfl (lv_at hl 0 rfl) ?_
                    refine hget hx hb hts hown hE fl_X10_36 hP 0 rfl rfl dX10_isKey_132 ?_
                    refine lv_iload hx hb dX10_isKey_135 (lv_at hl 3 rfl) ?_
                    obtain ⟨hi_26, hF⟩ := inb hF
                    refine hlald hx hb hE hP 3 rfl hi_26 dX10_isKey_137 ?_
                    obtain ⟨r138_27, hr138_27, hF⟩ := bnd hF
                    refine hm_V (wn := [(mo, .inr (8, [.long mbd, .int mby, .int mgr, .int mol, .ref aMM, .ref aMT, .int r138_27.2.1, .ref aPD, .int mpm, .long mrd, .int mbm, .int mbw, .long mpl, .ref aST, .ref aPL, .ref aRS, .ref aLA, .ref aBM, .int msm, .ref aRP, .ref aFI, .ref aFM, .ref aGB, .ref aGM, .ref aGV, .ref aGR, .int mgs, .ref aKB, .ref aKP, .ref aIK, .int mka, .int miw])), (aMM, .inl (gI G, 75, .inl r138_27.2.2.1)), (aMT, .inl (gI G, 75, .inl r138_27.2.2.2)), (aRP, .inl (gJ G, 75, .inr (.inl xrp_16)))]) (wr := [(aRP, .inl (gJ G, 75, .inr (.inl xrp_16)))]) (rest := []) (sn := [.int r138_27.1]) hx hb hml hown hts hE hA (k_X10_winsAtOnce G l mo aMM aMT aPD aST aPL aRS aLA aBM aRP aFI aFM aGB aGM aGV aGR aKB aKP aIK mbd mby mgr mol mmy_13 mpm mrd mbm mbw mpl msm mgs mka miw xmm_14 xmt_15 (xrp_16 (x7_12).toNatClampNeg) r138_27 hr138_27) sm_X10_winsAtOnce mw_1026 ⟨rfl, rfl, Nat.le_of_ble_eq_true rfl, Nat.le_of_ble_eq_true rfl⟩ hP hD hS 0 rfl rfl [0, 1, 2] [3] [1, 2, 3, 0] rfl rfl rfl (by decide) hl.1 rfl rfl (Nat.le_of_ble_eq_true rfl) dX10_isKey_138 ⟨Nat.le_of_ble_eq_true rfl, Nat.le_of_ble_eq_true rfl⟩ (fun H locs hP hD hS => ?_)
                    refine lv_if_ne (tgt := 146) hx hb dX10_isKey_141 (by decide) (fun c_28 => ?_) (fun c_28 => ?_)
                    · have hF := ifn hF c_28
                      exact hB146 r138_27.2.1 r138_27.2.2.1 r138_27.2.2.2 xrp_16 _ _ _ hF hP hD hS (lv_sub hl [0, 1, 2, 3] rfl)
                    · have hF := ifp hF c_28
                      refine lv_iconst (v := 0) hx hb dX10_isKey_144 (by decide) ?_
                      have hF := Option.some.inj hF
                      subst hF
                      exact hm_zret hx hb hr hlk hP hD hS (by decide +kernel) hpost dX10_isKey_145
                  · have hF := ifn hF c_25
                    refine lv_aload_n hx hb dX10_isKey_110 rfl (lv_at hl 0 rfl) ?_
                    refine lv_aload_n hx hb dX10_isKey_111 rfl (lv_at hl 0 rfl) ?_
                    refine hget hx hb hts hown hE fl_X10_36 hP 0 rfl rfl dX10_isKey_112 ?_
                    refine lv_iload hx hb dX10_isKey_115 (lv_at hl 3 rfl) ?_
                    obtain ⟨hi_29, hF⟩ := inb hF
                    refine hlald hx hb hE hP 3 rfl hi_29 dX10_isKey_117 ?_
                    obtain ⟨r118_30, hr118_30, hF⟩ := bnd hF
                    refine hm_V (wn := [(mo, .inr (8, [.long mbd, .int mby, .int mgr, .int mol, .ref aMM, .ref aMT, .int mmy_13, .ref aPD, .int mpm, .long mrd, .int mbm, .int mbw, .long mpl, .ref aST, .ref aPL, .ref aRS, .ref aLA, .ref aBM, .int msm, .ref aRP, .ref aFI, .ref aFM, .ref aGB, .ref aGM, .ref aGV, .ref aGR, .int mgs, .ref aKB, .ref aKP, .ref aIK, .int mka, .int miw])), (aMM, .inl (gI G, 75, .inl xmm_14)), (aMT, .inl (gI G, 75, .inl xmt_15)), (aRP, .inl (gJ G, 75, .inr (.inl xrp_16)))]) (wr := [(aMM, .inl (gI G, 75, .inl xmm_14)), (aMT, .inl (gI G, 75, .inl xmt_15)), (aRP, .inl (gJ G, 75, .inr (.inl xrp_16)))]) (rest := []) (sn := [.int r118_30]) hx hb hml hown hts hE hA (k_X10_broughtBy G l mo aMM aMT aPD aST aPL aRS aLA aBM aRP aFI aFM aGB aGM aGV aGR aKB aKP aIK mbd mby mgr mol mmy_13 mpm mrd mbm mbw mpl msm mgs mka miw (xrp_16 (x7_12).toNatClampNeg) r118_30 hr118_30) sm_X10_broughtBy mw_908 ⟨rfl, rfl, Nat.le_of_ble_eq_true rfl, Nat.le_of_ble_eq_true rfl⟩ hP hD hS 0 rfl rfl [0] [1, 2, 3] [3, 0, 1, 2] rfl rfl rfl (by decide) hl.1 rfl rfl (Nat.le_of_ble_eq_true rfl) dX10_isKey_118 ⟨Nat.le_of_ble_eq_true rfl, Nat.le_of_ble_eq_true rfl⟩ (fun H locs hP hD hS => ?_)
                    refine lv_iconst (v := 1) hx hb dX10_isKey_121 (by decide) ?_
                    refine lv_iload_n hx hb dX10_isKey_122 rfl (lv_at hl 1 rfl) ?_
                    refine lv_iadd hx hb dX10_isKey_123 ?_
                    refine lv_icmp_eq (tgt := 146) hx hb dX10_isKey_124 (by decide) (fun c_31 => ?_) (fun c_31 => ?_)
                    · have hF := ifp hF c_31
                      exact hB146 mmy_13 xmm_14 xmt_15 xrp_16 _ _ _ hF hP hD hS (lv_sub hl [0, 1, 2, 3] rfl)
                    · have hF := ifn hF c_31
                      refine lv_goto (tgt := 144) hx hb dX10_isKey_127 (by decide) ?_
                      refine lv_iconst (v := 0) hx hb dX10_isKey_144 (by decide) ?_
                      have hF := Option.some.inj hF
                      subst hF
                      exact hm_zret hx hb hr hlk hP hD hS (by decide +kernel) hpost dX10_isKey_145
            exact hL89 _ 0 mmy_7 xmm_8 xmt_9 xrp_10 _ _ _ hF hP hD hS (lv_sub hl [1, 3, 4, 0] rfl)
          · have hF := ifn hF c_11
            refine lv_aload_n hx hb dX10_isKey_55 rfl (lv_at hl 0 rfl) ?_
            refine hget hx hb hts hown hE fl_X10_36 hP 0 rfl rfl dX10_isKey_56 ?_
            refine lv_iload hx hb dX10_isKey_59 (lv_at hl 4 rfl) ?_
            refine lv_lload_n hx hb dX10_isKey_61 rfl (lv_at hl 1 rfl) ?_
            refine lv_aload_n hx hb dX10_isKey_62 rfl (lv_at hl 0 rfl) ?_
            refine hget hx hb hts hown hE fl_X10_7 hP 0 rfl rfl dX10_isKey_63 ?_
            refine lv_iload hx hb dX10_isKey_66 (lv_at hl 4 rfl) ?_
            obtain ⟨hi_32, hF⟩ := inb hF
            refine hiald hx hb hE hP 1 rfl hi_32 dX10_isKey_68 ?_
            refine lv_aload_n hx hb dX10_isKey_69 rfl (lv_at hl 0 rfl) ?_
            refine hget hx hb hts hown hE fl_X10_13 hP 0 rfl rfl dX10_isKey_70 ?_
            refine lv_iload hx hb dX10_isKey_73 (lv_at hl 4 rfl) ?_
            obtain ⟨hi_33, hF⟩ := inb hF
            refine hiald hx hb hE hP 2 rfl hi_33 dX10_isKey_75 ?_
            obtain ⟨r76_34, hr76_34, hF⟩ := bnd hF
            refine hm_S (wn := [(mo, .inr (8, [.long mbd, .int mby, .int mgr, .int mol, .ref aMM, .ref aMT, .int mmy_7, .ref aPD, .int mpm, .long mrd, .int mbm, .int mbw, .long mpl, .ref aST, .ref aPL, .ref aRS, .ref aLA, .ref aBM, .int msm, .ref aRP, .ref aFI, .ref aFM, .ref aGB, .ref aGM, .ref aGV, .ref aGR, .int mgs, .ref aKB, .ref aKP, .ref aIK, .int mka, .int miw])), (aMM, .inl (gI G, 75, .inl xmm_8)), (aMT, .inl (gI G, 75, .inl xmt_9)), (aRP, .inl (gJ G, 75, .inr (.inl xrp_10)))]) (wr := [(mo, .inr (8, [.long mbd, .int mby, .int mgr, .int mol, .ref aMM, .ref aMT, .int mmy_7, .ref aPD, .int mpm, .long mrd, .int mbm, .int mbw, .long mpl, .ref aST, .ref aPL, .ref aRS, .ref aLA, .ref aBM, .int msm, .ref aRP, .ref aFI, .ref aFM, .ref aGB, .ref aGM, .ref aGV, .ref aGR, .int mgs, .ref aKB, .ref aKP, .ref aIK, .int mka, .int miw])), (aMM, .inl (gI G, 75, .inl xmm_8)), (aMT, .inl (gI G, 75, .inl xmt_9)), (aRP, .inl (gJ G, 75, .inr (.inl xrp_10)))]) (rest := [.int x7_6, .ref aRP]) (sn := [.long r76_34, .int x7_6, .ref aRP]) hx hb hml hown hts hE hA (k_X10_gone G l st (xmm_8 (x7_6).toNatClampNeg) (xmt_9 (x7_6).toNatClampNeg) r76_34 hr76_34) sm_X10_gone mw_954 ⟨rfl, rfl, Nat.le_of_ble_eq_true rfl, Nat.le_of_ble_eq_true rfl⟩ hP hD hS [] [0, 1, 2, 3] [0, 1, 2, 3] rfl rfl rfl (by decide) hl.1 rfl rfl (Nat.le_of_ble_eq_true rfl) dX10_isKey_76 ⟨Nat.le_of_ble_eq_true rfl, Nat.le_of_ble_eq_true rfl⟩ (fun H locs hP hD hS => ?_)
            obtain ⟨hi_35, hF⟩ := inb hF
            obtain ⟨a79_36, ea79_36⟩ : ∃ z : (Nat → Int64), z = vp_updL xrp_10 (x7_6).toNatClampNeg r76_34 := ⟨_, rfl⟩
            have hF := jl hF ea79_36
            refine hlast hx hb hE hP hD hS 3 rfl hi_35 (wn := [(mo, .inr (8, [.long mbd, .int mby, .int mgr, .int mol, .ref aMM, .ref aMT, .int mmy_7, .ref aPD, .int mpm, .long mrd, .int mbm, .int mbw, .long mpl, .ref aST, .ref aPL, .ref aRS, .ref aLA, .ref aBM, .int msm, .ref aRP, .ref aFI, .ref aFM, .ref aGB, .ref aGM, .ref aGV, .ref aGR, .int mgs, .ref aKB, .ref aKP, .ref aIK, .int mka, .int miw])), (aMM, .inl (gI G, 75, .inl xmm_8)), (aMT, .inl (gI G, 75, .inl xmt_9)), (aRP, .inl (gJ G, 75, .inr (.inl a79_36)))]) (by rw [ea79_36]; rfl) dX10_isKey_79 (fun H locs hP hD hS => ?_)
            obtain ⟨v7_37, ev7_37⟩ : ∃ z : Int32, z = x7_6 + 1 := ⟨_, rfl⟩
            have hF := jl hF ev7_37
            refine lv_iinc (v := v7_37) (lv' := [(7, .int v7_37), (0, .ref mo), (1, .long st), (3, .int sd), (6, .int v6_5)]) hx hb dX10_isKey_80 hl (k := 4) rfl (by rw [ev7_37]; rfl) (by decide) rfl (fun ls hl => ?_)
            refine lv_goto (tgt := 48) hx hb dX10_isKey_83 (by decide) ?_
            exact ih48 v7_37 mmy_7 xmm_8 xmt_9 a79_36 _ _ _ hF hP hD hS (lv_sub hl [1, 2, 3, 4, 0] rfl)
      exact hL48 _ 0 r36_4.1 r36_4.2.1 r36_4.2.2 xrp _ _ _ hF hP hD hS (lv_sub hl [3, 4, 5, 1, 0] rfl)
    · have hF := ifp hF c_3
      refine lv_iconst (v := 0) hx hb dX10_isKey_32 (by decide) ?_
      have hF := Option.some.inj hF
      subst hF
      exact hm_zret hx hb hr hlk hP hD hS (by decide +kernel) hpost dX10_isKey_33
  · have hF := ifn hF c_2
    refine lv_iload hx hb dX10_isKey_12 (lv_at hl 0 rfl) ?_
    refine lv_iconst (v := 1) hx hb dX10_isKey_14 (by decide) ?_
    refine lv_iload_n hx hb dX10_isKey_15 rfl (lv_at hl 3 rfl) ?_
    refine lv_iadd hx hb dX10_isKey_16 ?_
    refine lv_icmp_ne (tgt := 24) hx hb dX10_isKey_17 (by decide) (fun c_38 => ?_) (fun c_38 => ?_)
    · have hF := ifn hF c_38
      refine lv_iconst (v := 0) hx hb dX10_isKey_24 (by decide) ?_
      have hF := Option.some.inj hF
      subst hF
      exact hm_zret hx hb hr hlk hP hD hS (by decide +kernel) hpost dX10_isKey_25
    · have hF := ifp hF c_38
      refine lv_iconst (v := 1) hx hb dX10_isKey_20 (by decide) ?_
      refine lv_goto (tgt := 25) hx hb dX10_isKey_21 (by decide) ?_
      have hF := Option.some.inj hF
      subst hF
      exact hm_zret hx hb hr hlk hP hD hS (by decide +kernel) hpost dX10_isKey_25
def f_X10_keys_B139 (k_94 : Int32 → Int32 → Int32 → (Nat → Int32) → (Nat → Int32) → (Nat → Int64) → (Nat → Int64) → (Nat → Int32) → Option (Int32 × Int32 × (Nat → Int32) × (Nat → Int32) × (Nat → Int64) × (Nat → Int64) × (Nat → Int32))) (x5_13 : Int32) (xfi_18 : (Nat → Int64)) (xfm_19 : (Nat → Int32)) (r116_23 : Int32 × Int32 × (Nat → Int32) × (Nat → Int32) × (Nat → Int64)) (x4_24 : Int32) : Option (Int32 × Int32 × (Nat → Int32) × (Nat → Int32) × (Nat → Int64) × (Nat → Int64) × (Nat → Int32)) :=
  jlet (x5_13 + 1) (fun v5_25 => k_94 x4_24 v5_25 r116_23.2.1 r116_23.2.2.1 r116_23.2.2.2.1 r116_23.2.2.2.2 xfi_18 xfm_19)
def f_X10_keys_L94 (mbd : Int64) (mby : Int32) (mgr : Int32) (mol : Int32) (nn : Int32) (ii : Int32) (v3_3 : Int32) : Nat → Int32 → Int32 → Int32 → (Nat → Int32) → (Nat → Int32) → (Nat → Int64) → (Nat → Int64) → (Nat → Int32) → Option (Int32 × Int32 × (Nat → Int32) × (Nat → Int32) × (Nat → Int64) × (Nat → Int64) × (Nat → Int32))
  | 0, _, _, _, _, _, _, _, _ => none
  | n+1, x4_12, x5_13, mmy_14, xmm_15, xmt_16, xrp_17, xfi_18, xfm_19 =>
  if v3_3 ≤ x5_13 then if ii = (-1) then some (x4_12, mmy_14, xmm_15, xmt_16, xrp_17, xfi_18, xfm_19) else some ((-6), mmy_14, xmm_15, xmt_16, xrp_17, xfi_18, xfm_19) else if (x5_13) < 0 ∨ 75 ≤ (x5_13).toNatClampNeg then none else Option.bind (f_X10_isKey mby mgr mol mmy_14 xmm_15 xmt_16 xrp_17 (xfi_18 (x5_13).toNatClampNeg) (f_X10_turnOf mbd) nn) (fun r116_23 => if r116_23.1 = 0 then f_X10_keys_B139 (f_X10_keys_L94 mbd mby mgr mol nn ii v3_3 n) x5_13 xfi_18 xfm_19 r116_23 x4_12 else if x4_12 = ii then if (x5_13) < 0 ∨ 75 ≤ (x5_13).toNatClampNeg then none else some ((xfm_19 (x5_13).toNatClampNeg), r116_23.2.1, r116_23.2.2.1, r116_23.2.2.2.1, r116_23.2.2.2.2, xfi_18, xfm_19) else jlet (x4_12 + 1) (fun v4_28 => f_X10_keys_B139 (f_X10_keys_L94 mbd mby mgr mol nn ii v3_3 n) x5_13 xfi_18 xfm_19 r116_23 v4_28))
def f_X10_keys_L31 (mbd : Int64) (mby : Int32) (mgr : Int32) (mol : Int32) (nn : Int32) (ii : Int32) (v3_3 : Int32) : Nat → Int32 → Int32 → (Nat → Int32) → (Nat → Int32) → (Nat → Int64) → (Nat → Int64) → (Nat → Int32) → Option (Int32 × Int32 × (Nat → Int32) × (Nat → Int32) × (Nat → Int64) × (Nat → Int64) × (Nat → Int32))
  | 0, _, _, _, _, _, _, _ => none
  | n+1, x4_4, mmy_5, xmm_6, xmt_7, xrp_8, xfi_9, xfm_10 =>
  if v3_3 ≤ x4_4 then f_X10_keys_L94 mbd mby mgr mol nn ii v3_3 100 0 0 mmy_5 xmm_6 xmt_7 xrp_8 xfi_9 xfm_10 else if (x4_4) < 0 ∨ 75 ≤ (x4_4).toNatClampNeg then none else if (x4_4) < 0 ∨ 75 ≤ (x4_4).toNatClampNeg then none else Option.bind (f_X10_gone mbd (xmm_6 (x4_4).toNatClampNeg) (xmt_7 (x4_4).toNatClampNeg)) (fun r61_32 => if (x4_4) < 0 ∨ 75 ≤ (x4_4).toNatClampNeg then none else jlet (vp_updL xfi_9 (x4_4).toNatClampNeg r61_32) (fun a64_34 => Option.bind (f_X10_moveNumber xmm_6 xmt_7 mbd x4_4) (fun r78_35 => if (x4_4) < 0 ∨ 75 ≤ (x4_4).toNatClampNeg then none else jlet (upd xfm_10 (x4_4).toNatClampNeg r78_35) (fun a81_37 => jlet (x4_4 + 1) (fun v4_38 => (f_X10_keys_L31 mbd mby mgr mol nn ii v3_3 n) v4_38 mmy_5 xmm_6 xmt_7 xrp_8 a64_34 a81_37)))))
def f_X10_keys (mbd : Int64) (mby : Int32) (mgr : Int32) (mol : Int32) (mmy : Int32) (xmm : (Nat → Int32)) (xmt : (Nat → Int32)) (xrp : (Nat → Int64)) (xfi : (Nat → Int64)) (xfm : (Nat → Int32)) (nn : Int32) (ii : Int32) : Option (Int32 × Int32 × (Nat → Int32) × (Nat → Int32) × (Nat → Int64) × (Nat → Int64) × (Nat → Int32)) :=
  if (f_X10_in (nn.toInt64) 1 2) = 0 then some ((-2), mmy, xmm, xmt, xrp, xfi, xfm) else Option.bind (f_X10_findMoves mby mgr mol xmm xmt mbd) (fun r20_2 => jlet r20_2.1 (fun v3_3 => f_X10_keys_L31 mbd mby mgr mol nn ii v3_3 100 0 r20_2.1 r20_2.2.1 r20_2.2.2 xrp xfi xfm))
abbrev rm_X10_keys : Room := { frames := 11, cells := 0, slots := 0, locals := 272 }
set_option maxHeartbeats 4000000 in
set_option maxRecDepth 100000 in
theorem k_X10_keys (G : gT) (l : Launch) (mo : Nat) (aMM : Nat) (aMT : Nat) (aPD : Nat) (aST : Nat) (aPL : Nat) (aRS : Nat) (aLA : Nat) (aBM : Nat) (aRP : Nat) (aFI : Nat) (aFM : Nat) (aGB : Nat) (aGM : Nat) (aGV : Nat) (aGR : Nat) (aKB : Nat) (aKP : Nat) (aIK : Nat) (mbd : Int64) (mby : Int32) (mgr : Int32) (mol : Int32) (mmy : Int32) (mpm : Int32) (mrd : Int64) (mbm : Int32) (mbw : Int32) (mpl : Int64) (msm : Int32) (mgs : Int32) (mka : Int32) (miw : Int32) (xmm : (Nat → Int32)) (xmt : (Nat → Int32)) (xrp : (Nat → Int64)) (xfi : (Nat → Int64)) (xfm : (Nat → Int32)) (nn : Int32) (ii : Int32) (r : Int32 × Int32 × (Nat → Int32) × (Nat → Int32) × (Nat → Int64) × (Nat → Int64) × (Nat → Int32)) (hF : f_X10_keys mbd mby mgr mol mmy xmm xmt xrp xfi xfm nn ii = some r) : HM G l yX10_keys (.code yX10_keys cX10_keys 6 (some .int) :: UW) rm_X10_keys 0 0 [.ref mo, .int nn, .int ii] [(mo, .inr (8, [.long mbd, .int mby, .int mgr, .int mol, .ref aMM, .ref aMT, .int mmy, .ref aPD, .int mpm, .long mrd, .int mbm, .int mbw, .long mpl, .ref aST, .ref aPL, .ref aRS, .ref aLA, .ref aBM, .int msm, .ref aRP, .ref aFI, .ref aFM, .ref aGB, .ref aGM, .ref aGV, .ref aGR, .int mgs, .ref aKB, .ref aKP, .ref aIK, .int mka, .int miw])), (aMM, .inl (gI G, 75, .inl xmm)), (aMT, .inl (gI G, 75, .inl xmt)), (aRP, .inl (gJ G, 75, .inr (.inl xrp))), (aFI, .inl (gJ G, 75, .inr (.inl xfi))), (aFM, .inl (gI G, 75, .inl xfm))] (some (.int r.1)) [(mo, .inr (8, [.long mbd, .int mby, .int mgr, .int mol, .ref aMM, .ref aMT, .int r.2.1, .ref aPD, .int mpm, .long mrd, .int mbm, .int mbw, .long mpl, .ref aST, .ref aPL, .ref aRS, .ref aLA, .ref aBM, .int msm, .ref aRP, .ref aFI, .ref aFM, .ref aGB, .ref aGM, .ref aGV, .ref aGR, .int mgs, .ref aKB, .ref aKP, .ref aIK, .int mka, .int miw])), (aMM, .inl (gI G, 75, .inl r.2.2.1)), (aMT, .inl (gI G, 75, .inl r.2.2.2.1)), (aRP, .inl (gJ G, 75, .inr (.inl r.2.2.2.2.1))), (aFI, .inl (gJ G, 75, .inr (.inl r.2.2.2.2.2.1))), (aFM, .inl (gI G, 75, .inl r.2.2.2.2.2.2))] := by
  refine HM.ofW (by decide) (Nat.le_of_ble_eq_true rfl) ?_
  intro p e s m args below meth c A post hpost hC hP hD hS ls hl
  obtain ⟨hx, hb, hr, hml, hown, hts, hlk, hE, hA⟩ := hC
  have hl : lv_has ls 6 [(0, .ref mo), (1, .int nn), (2, .int ii)] := hl
  unfold f_X10_keys at hF
  refine lv_iload_n hx hb dX10_keys_0 rfl (lv_at hl 1 rfl) ?_
  refine lv_i2l (v := (nn.toInt64)) hx hb dX10_keys_1 rfl ?_
  refine lv_lconst (v := 1) hx hb dX10_keys_2 (by decide) ?_
  refine lv_ldc2 (v := 2) hx hb hown (hts _ (List.mem_cons_of_mem _ mw_1003)) dX10_keys_3 ?_
  refine hm_S (wn := [(mo, .inr (8, [.long mbd, .int mby, .int mgr, .int mol, .ref aMM, .ref aMT, .int mmy, .ref aPD, .int mpm, .long mrd, .int mbm, .int mbw, .long mpl, .ref aST, .ref aPL, .ref aRS, .ref aLA, .ref aBM, .int msm, .ref aRP, .ref aFI, .ref aFM, .ref aGB, .ref aGM, .ref aGV, .ref aGR, .int mgs, .ref aKB, .ref aKP, .ref aIK, .int mka, .int miw])), (aMM, .inl (gI G, 75, .inl xmm)), (aMT, .inl (gI G, 75, .inl xmt)), (aRP, .inl (gJ G, 75, .inr (.inl xrp))), (aFI, .inl (gJ G, 75, .inr (.inl xfi))), (aFM, .inl (gI G, 75, .inl xfm))]) (wr := [(mo, .inr (8, [.long mbd, .int mby, .int mgr, .int mol, .ref aMM, .ref aMT, .int mmy, .ref aPD, .int mpm, .long mrd, .int mbm, .int mbw, .long mpl, .ref aST, .ref aPL, .ref aRS, .ref aLA, .ref aBM, .int msm, .ref aRP, .ref aFI, .ref aFM, .ref aGB, .ref aGM, .ref aGV, .ref aGR, .int mgs, .ref aKB, .ref aKP, .ref aIK, .int mka, .int miw])), (aMM, .inl (gI G, 75, .inl xmm)), (aMT, .inl (gI G, 75, .inl xmt)), (aRP, .inl (gJ G, 75, .inr (.inl xrp))), (aFI, .inl (gJ G, 75, .inr (.inl xfi))), (aFM, .inl (gI G, 75, .inl xfm))]) (rest := []) (sn := [.int (f_X10_in (nn.toInt64) 1 2)]) hx hb hml hown hts hE hA (k_X10_in G l (nn.toInt64) 1 2 _ rfl) sm_X10_in mw_833 ⟨rfl, rfl, Nat.le_of_ble_eq_true rfl, Nat.le_of_ble_eq_true rfl⟩ hP hD hS [] [0, 1, 2, 3, 4, 5] [0, 1, 2, 3, 4, 5] rfl rfl rfl (by decide) hl.1 rfl rfl (Nat.le_of_ble_eq_true rfl) dX10_keys_6 ⟨Nat.le_of_ble_eq_true rfl, Nat.le_of_ble_eq_true rfl⟩ (fun H locs hP hD hS => ?_)
  refine lv_if_ne (tgt := 15) hx hb dX10_keys_9 (by decide) (fun c_1 => ?_) (fun c_1 => ?_)
  · have hF := ifn hF c_1
    refine lv_aload_n hx hb dX10_keys_15 rfl (lv_at hl 0 rfl) ?_
    refine lv_aload_n hx hb dX10_keys_16 rfl (lv_at hl 0 rfl) ?_
    refine hget hx hb hts hown hE fl_X10_69 hP 0 rfl rfl dX10_keys_17 ?_
    obtain ⟨r20_2, hr20_2, hF⟩ := bnd hF
    refine hm_V (wn := [(mo, .inr (8, [.long mbd, .int mby, .int mgr, .int mol, .ref aMM, .ref aMT, .int r20_2.1, .ref aPD, .int mpm, .long mrd, .int mbm, .int mbw, .long mpl, .ref aST, .ref aPL, .ref aRS, .ref aLA, .ref aBM, .int msm, .ref aRP, .ref aFI, .ref aFM, .ref aGB, .ref aGM, .ref aGV, .ref aGR, .int mgs, .ref aKB, .ref aKP, .ref aIK, .int mka, .int miw])), (aMM, .inl (gI G, 75, .inl r20_2.2.1)), (aMT, .inl (gI G, 75, .inl r20_2.2.2)), (aRP, .inl (gJ G, 75, .inr (.inl xrp))), (aFI, .inl (gJ G, 75, .inr (.inl xfi))), (aFM, .inl (gI G, 75, .inl xfm))]) (wr := [(aRP, .inl (gJ G, 75, .inr (.inl xrp))), (aFI, .inl (gJ G, 75, .inr (.inl xfi))), (aFM, .inl (gI G, 75, .inl xfm))]) (rest := []) (sn := []) hx hb hml hown hts hE hA (k_X10_findMoves G l mo aMM aMT aPD aST aPL aRS aLA aBM aRP aFI aFM aGB aGM aGV aGR aKB aKP aIK mbd mby mgr mol mmy mpm mrd mbm mbw mpl msm mgs mka miw xmm xmt mbd r20_2 hr20_2) sm_X10_findMoves mw_965 ⟨rfl, rfl, Nat.le_of_ble_eq_true rfl, Nat.le_of_ble_eq_true rfl⟩ hP hD hS 0 rfl rfl [0, 1, 2] [3, 4, 5] [3, 4, 5, 0, 1, 2] rfl rfl rfl (by decide) hl.1 rfl rfl (Nat.le_of_ble_eq_true rfl) dX10_keys_20 ⟨Nat.le_of_ble_eq_true rfl, Nat.le_of_ble_eq_true rfl⟩ (fun H locs hP hD hS => ?_)
    refine lv_aload_n hx hb dX10_keys_23 rfl (lv_at hl 0 rfl) ?_
    refine hget hx hb hts hown hE fl_X10_132 hP 0 rfl rfl dX10_keys_24 ?_
    refine lv_topi (fun v3_3 ev3_3 => ?_)
    have hF := jl hF ev3_3
    refine lv_istore_n (lv' := [(3, .int v3_3), (0, .ref mo), (1, .int nn), (2, .int ii)]) hx hb dX10_keys_27 rfl hl (by decide) rfl (fun ls hl => ?_)
    refine lv_iconst (v := 0) hx hb dX10_keys_28 (by decide) ?_
    refine lv_istore (lv' := [(4, .int 0), (3, .int v3_3), (0, .ref mo), (1, .int nn), (2, .int ii)]) hx hb dX10_keys_29 hl (by decide) rfl (fun ls hl => ?_)
    have hL31 : ∀ (n31 : Nat) (x4_4 : Int32) (mmy_5 : Int32) (xmm_6 : (Nat → Int32)) (xmt_7 : (Nat → Int32)) (xrp_8 : (Nat → Int64)) (xfi_9 : (Nat → Int64)) (xfm_10 : (Nat → Int32)) (H : Heap) (locs : List Loc) (ls : Array Slot), f_X10_keys_L31 mbd mby mgr mol nn ii v3_3 n31 x4_4 mmy_5 xmm_6 xmt_7 xrp_8 xfi_9 xfm_10 = some r → va_P (gD G) vwCl [(mo, .inr (8, [.long mbd, .int mby, .int mgr, .int mol, .ref aMM, .ref aMT, .int mmy_5, .ref aPD, .int mpm, .long mrd, .int mbm, .int mbw, .long mpl, .ref aST, .ref aPL, .ref aRS, .ref aLA, .ref aBM, .int msm, .ref aRP, .ref aFI, .ref aFM, .ref aGB, .ref aGM, .ref aGV, .ref aGR, .int mgs, .ref aKB, .ref aKP, .ref aIK, .int mka, .int miw])), (aMM, .inl (gI G, 75, .inl xmm_6)), (aMT, .inl (gI G, 75, .inl xmt_7)), (aRP, .inl (gJ G, 75, .inr (.inl xrp_8))), (aFI, .inl (gJ G, 75, .inr (.inl xfi_9))), (aFM, .inl (gI G, 75, .inl xfm_10))] H → va_D A [(mo, .inr (8, [.long mbd, .int mby, .int mgr, .int mol, .ref aMM, .ref aMT, .int mmy_5, .ref aPD, .int mpm, .long mrd, .int mbm, .int mbw, .long mpl, .ref aST, .ref aPL, .ref aRS, .ref aLA, .ref aBM, .int msm, .ref aRP, .ref aFI, .ref aFM, .ref aGB, .ref aGM, .ref aGV, .ref aGR, .int mgs, .ref aKB, .ref aKP, .ref aIK, .int mka, .int miw])), (aMM, .inl (gI G, 75, .inl xmm_6)), (aMT, .inl (gI G, 75, .inl xmt_7)), (aRP, .inl (gJ G, 75, .inr (.inl xrp_8))), (aFI, .inl (gJ G, 75, .inr (.inl xfi_9))), (aFM, .inl (gI G, 75, .inl xfm_10))] → va_S A s.heap H locs → lv_has ls 6 [(0, .ref mo), (1, .int nn), (2, .int ii), (3, .int v3_3), (4, .int x4_4)] → W p l e rm_X10_keys s m args below meth c H locs 0 0 (MQ below (HXq G post A) args s 0 0 A) (F0 m 31 ls []) := by
      intro n31
      induction n31 with
      | zero =>
        intro x4_4 mmy_5 xmm_6 xmt_7 xrp_8 xfi_9 xfm_10 H locs ls hF
        exact absurd hF (fun h => by cases h)
      | succ n31 ih31 =>
        intro x4_4 mmy_5 xmm_6 xmt_7 xrp_8 xfi_9 xfm_10 H locs ls hF hP hD hS hl
        unfold f_X10_keys_L31 at hF
        refine lv_iload hx hb dX10_keys_31 (lv_at hl 4 rfl) ?_
        refine lv_iload_n hx hb dX10_keys_33 rfl (lv_at hl 3 rfl) ?_
        refine lv_icmp_ge (tgt := 88) hx hb dX10_keys_34 (by decide) (fun c_11 => ?_) (fun c_11 => ?_)
        · have hF := ifp hF c_11
          refine lv_iconst (v := 0) hx hb dX10_keys_88 (by decide) ?_
          refine lv_istore (lv' := [(4, .int 0), (0, .ref mo), (1, .int nn), (2, .int ii), (3, .int v3_3)]) hx hb dX10_keys_89 hl (by decide) rfl (fun ls hl => ?_)
          refine lv_iconst (v := 0) hx hb dX10_keys_91 (by decide) ?_
          refine lv_istore (lv' := [(5, .int 0), (4, .int 0), (0, .ref mo), (1, .int nn), (2, .int ii), (3, .int v3_3)]) hx hb dX10_keys_92 hl (by decide) rfl (fun ls hl => ?_)
          have hL94 : ∀ (n94 : Nat) (x4_12 : Int32) (x5_13 : Int32) (mmy_14 : Int32) (xmm_15 : (Nat → Int32)) (xmt_16 : (Nat → Int32)) (xrp_17 : (Nat → Int64)) (xfi_18 : (Nat → Int64)) (xfm_19 : (Nat → Int32)) (H : Heap) (locs : List Loc) (ls : Array Slot), f_X10_keys_L94 mbd mby mgr mol nn ii v3_3 n94 x4_12 x5_13 mmy_14 xmm_15 xmt_16 xrp_17 xfi_18 xfm_19 = some r → va_P (gD G) vwCl [(mo, .inr (8, [.long mbd, .int mby, .int mgr, .int mol, .ref aMM, .ref aMT, .int mmy_14, .ref aPD, .int mpm, .long mrd, .int mbm, .int mbw, .long mpl, .ref aST, .ref aPL, .ref aRS, .ref aLA, .ref aBM, .int msm, .ref aRP, .ref aFI, .ref aFM, .ref aGB, .ref aGM, .ref aGV, .ref aGR, .int mgs, .ref aKB, .ref aKP, .ref aIK, .int mka, .int miw])), (aMM, .inl (gI G, 75, .inl xmm_15)), (aMT, .inl (gI G, 75, .inl xmt_16)), (aRP, .inl (gJ G, 75, .inr (.inl xrp_17))), (aFI, .inl (gJ G, 75, .inr (.inl xfi_18))), (aFM, .inl (gI G, 75, .inl xfm_19))] H → va_D A [(mo, .inr (8, [.long mbd, .int mby, .int mgr, .int mol, .ref aMM, .ref aMT, .int mmy_14, .ref aPD, .int mpm, .long mrd, .int mbm, .int mbw, .long mpl, .ref aST, .ref aPL, .ref aRS, .ref aLA, .ref aBM, .int msm, .ref aRP, .ref aFI, .ref aFM, .ref aGB, .ref aGM, .ref aGV, .ref aGR, .int mgs, .ref aKB, .ref aKP, .ref aIK, .int mka, .int miw])), (aMM, .inl (gI G, 75, .inl xmm_15)), (aMT, .inl (gI G, 75, .inl xmt_16)), (aRP, .inl (gJ G, 75, .inr (.inl xrp_17))), (aFI, .inl (gJ G, 75, .inr (.inl xfi_18))), (aFM, .inl (gI G, 75, .inl xfm_19))] → va_S A s.heap H locs → lv_has ls 6 [(0, .ref mo), (1, .int nn), (2, .int ii), (3, .int v3_3), (4, .int x4_12), (5, .int x5_13)] → W p l e rm_X10_keys s m args below meth c H locs 0 0 (MQ below (HXq G post A) args s 0 0 A) (F0 m 94 ls []) := by
            intro n94
            induction n94 with
            | zero =>
              intro x4_12 x5_13 mmy_14 xmm_15 xmt_16 xrp_17 xfi_18 xfm_19 H locs ls hF
              exact absurd hF (fun h => by cases h)
            | succ n94 ih94 =>
              intro x4_12 x5_13 mmy_14 xmm_15 xmt_16 xrp_17 xfi_18 xfm_19 H locs ls hF hP hD hS hl
              unfold f_X10_keys_L94 at hF
              refine lv_iload hx hb dX10_keys_94 (lv_at hl 5 rfl) ?_
              refine lv_iload_n hx hb dX10_keys_96 rfl (lv_at hl 3 rfl) ?_
              refine lv_icmp_ge (tgt := 145) hx hb dX10_keys_97 (by decide) (fun c_20 => ?_) (fun c_20 => ?_)
              · have hF := ifp hF c_20
                refine lv_iload_n hx hb dX10_keys_145 rfl (lv_at hl 2 rfl) ?_
                refine lv_iconst (v := (-1)) hx hb dX10_keys_146 (by decide) ?_
                refine lv_icmp_ne (tgt := 155) hx hb dX10_keys_147 (by decide) (fun c_21 => ?_) (fun c_21 => ?_)
                · have hF := ifn hF c_21
                  refine lv_bipush (v := (-6)) hx hb dX10_keys_155 (by decide) ?_
                  have hF := Option.some.inj hF
                  subst hF
                  exact hm_iret hx hb hr hlk hP hD hS hpost dX10_keys_157
                · have hF := ifp hF c_21
                  refine lv_iload hx hb dX10_keys_150 (lv_at hl 4 rfl) ?_
                  refine lv_goto (tgt := 157) hx hb dX10_keys_152 (by decide) ?_
                  have hF := Option.some.inj hF
                  subst hF
                  exact hm_iret hx hb hr hlk hP hD hS hpost dX10_keys_157
              · have hF := ifn hF c_20
                refine lv_aload_n hx hb dX10_keys_100 rfl (lv_at hl 0 rfl) ?_
                refine lv_aload_n hx hb dX10_keys_101 rfl (lv_at hl 0 rfl) ?_
                refine hget hx hb hts hown hE fl_X10_39 hP 0 rfl rfl dX10_keys_102 ?_
                refine lv_iload hx hb dX10_keys_105 (lv_at hl 5 rfl) ?_
                obtain ⟨hi_22, hF⟩ := inb hF
                refine hlald hx hb hE hP 4 rfl hi_22 dX10_keys_107 ?_
                refine lv_aload_n hx hb dX10_keys_108 rfl (lv_at hl 0 rfl) ?_
                refine hget hx hb hts hown hE fl_X10_69 hP 0 rfl rfl dX10_keys_109 ?_
                refine hm_S (wn := [(mo, .inr (8, [.long mbd, .int mby, .int mgr, .int mol, .ref aMM, .ref aMT, .int mmy_14, .ref aPD, .int mpm, .long mrd, .int mbm, .int mbw, .long mpl, .ref aST, .ref aPL, .ref aRS, .ref aLA, .ref aBM, .int msm, .ref aRP, .ref aFI, .ref aFM, .ref aGB, .ref aGM, .ref aGV, .ref aGR, .int mgs, .ref aKB, .ref aKP, .ref aIK, .int mka, .int miw])), (aMM, .inl (gI G, 75, .inl xmm_15)), (aMT, .inl (gI G, 75, .inl xmt_16)), (aRP, .inl (gJ G, 75, .inr (.inl xrp_17))), (aFI, .inl (gJ G, 75, .inr (.inl xfi_18))), (aFM, .inl (gI G, 75, .inl xfm_19))]) (wr := [(mo, .inr (8, [.long mbd, .int mby, .int mgr, .int mol, .ref aMM, .ref aMT, .int mmy_14, .ref aPD, .int mpm, .long mrd, .int mbm, .int mbw, .long mpl, .ref aST, .ref aPL, .ref aRS, .ref aLA, .ref aBM, .int msm, .ref aRP, .ref aFI, .ref aFM, .ref aGB, .ref aGM, .ref aGV, .ref aGR, .int mgs, .ref aKB, .ref aKP, .ref aIK, .int mka, .int miw])), (aMM, .inl (gI G, 75, .inl xmm_15)), (aMT, .inl (gI G, 75, .inl xmt_16)), (aRP, .inl (gJ G, 75, .inr (.inl xrp_17))), (aFI, .inl (gJ G, 75, .inr (.inl xfi_18))), (aFM, .inl (gI G, 75, .inl xfm_19))]) (rest := [.long (xfi_18 (x5_13).toNatClampNeg), .ref mo]) (sn := [.int (f_X10_turnOf mbd), .long (xfi_18 (x5_13).toNatClampNeg), .ref mo]) hx hb hml hown hts hE hA (k_X10_turnOf G l mbd _ rfl) sm_X10_turnOf mw_848 ⟨rfl, rfl, Nat.le_of_ble_eq_true rfl, Nat.le_of_ble_eq_true rfl⟩ hP hD hS [] [0, 1, 2, 3, 4, 5] [0, 1, 2, 3, 4, 5] rfl rfl rfl (by decide) hl.1 rfl rfl (Nat.le_of_ble_eq_true rfl) dX10_keys_112 ⟨Nat.le_of_ble_eq_true rfl, Nat.le_of_ble_eq_true rfl⟩ (fun H locs hP hD hS => ?_)
                refine lv_iload_n hx hb dX10_keys_115 rfl (lv_at hl 1 rfl) ?_
                obtain ⟨r116_23, hr116_23, hF⟩ := bnd hF
                refine hm_V (wn := [(mo, .inr (8, [.long mbd, .int mby, .int mgr, .int mol, .ref aMM, .ref aMT, .int r116_23.2.1, .ref aPD, .int mpm, .long mrd, .int mbm, .int mbw, .long mpl, .ref aST, .ref aPL, .ref aRS, .ref aLA, .ref aBM, .int msm, .ref aRP, .ref aFI, .ref aFM, .ref aGB, .ref aGM, .ref aGV, .ref aGR, .int mgs, .ref aKB, .ref aKP, .ref aIK, .int mka, .int miw])), (aMM, .inl (gI G, 75, .inl r116_23.2.2.1)), (aMT, .inl (gI G, 75, .inl r116_23.2.2.2.1)), (aRP, .inl (gJ G, 75, .inr (.inl r116_23.2.2.2.2))), (aFI, .inl (gJ G, 75, .inr (.inl xfi_18))), (aFM, .inl (gI G, 75, .inl xfm_19))]) (wr := [(aFI, .inl (gJ G, 75, .inr (.inl xfi_18))), (aFM, .inl (gI G, 75, .inl xfm_19))]) (rest := []) (sn := [.int r116_23.1]) hx hb hml hown hts hE hA (k_X10_isKey G l mo aMM aMT aPD aST aPL aRS aLA aBM aRP aFI aFM aGB aGM aGV aGR aKB aKP aIK mbd mby mgr mol mmy_14 mpm mrd mbm mbw mpl msm mgs mka miw xmm_15 xmt_16 xrp_17 (xfi_18 (x5_13).toNatClampNeg) (f_X10_turnOf mbd) nn r116_23 hr116_23) sm_X10_isKey mw_1022 ⟨rfl, rfl, Nat.le_of_ble_eq_true rfl, Nat.le_of_ble_eq_true rfl⟩ hP hD hS 0 rfl rfl [0, 1, 2, 3] [4, 5] [2, 3, 4, 5, 0, 1] rfl rfl rfl (by decide) hl.1 rfl rfl (Nat.le_of_ble_eq_true rfl) dX10_keys_116 ⟨Nat.le_of_ble_eq_true rfl, Nat.le_of_ble_eq_true rfl⟩ (fun H locs hP hD hS => ?_)
                have hB139 : ∀ (x4_24 : Int32) (H : Heap) (locs : List Loc) (ls : Array Slot), f_X10_keys_B139 (f_X10_keys_L94 mbd mby mgr mol nn ii v3_3 n94) x5_13 xfi_18 xfm_19 r116_23 x4_24 = some r → va_P (gD G) vwCl [(mo, .inr (8, [.long mbd, .int mby, .int mgr, .int mol, .ref aMM, .ref aMT, .int r116_23.2.1, .ref aPD, .int mpm, .long mrd, .int mbm, .int mbw, .long mpl, .ref aST, .ref aPL, .ref aRS, .ref aLA, .ref aBM, .int msm, .ref aRP, .ref aFI, .ref aFM, .ref aGB, .ref aGM, .ref aGV, .ref aGR, .int mgs, .ref aKB, .ref aKP, .ref aIK, .int mka, .int miw])), (aMM, .inl (gI G, 75, .inl r116_23.2.2.1)), (aMT, .inl (gI G, 75, .inl r116_23.2.2.2.1)), (aRP, .inl (gJ G, 75, .inr (.inl r116_23.2.2.2.2))), (aFI, .inl (gJ G, 75, .inr (.inl xfi_18))), (aFM, .inl (gI G, 75, .inl xfm_19))] H → va_D A [(mo, .inr (8, [.long mbd, .int mby, .int mgr, .int mol, .ref aMM, .ref aMT, .int r116_23.2.1, .ref aPD, .int mpm, .long mrd, .int mbm, .int mbw, .long mpl, .ref aST, .ref aPL, .ref aRS, .ref aLA, .ref aBM, .int msm, .ref aRP, .ref aFI, .ref aFM, .ref aGB, .ref aGM, .ref aGV, .ref aGR, .int mgs, .ref aKB, .ref aKP, .ref aIK, .int mka, .int miw])), (aMM, .inl (gI G, 75, .inl r116_23.2.2.1)), (aMT, .inl (gI G, 75, .inl r116_23.2.2.2.1)), (aRP, .inl (gJ G, 75, .inr (.inl r116_23.2.2.2.2))), (aFI, .inl (gJ G, 75, .inr (.inl xfi_18))), (aFM, .inl (gI G, 75, .inl xfm_19))] → va_S A s.heap H locs → lv_has ls 6 [(0, .ref mo), (1, .int nn), (2, .int ii), (3, .int v3_3), (4, .int x4_24), (5, .int x5_13)] → W p l e rm_X10_keys s m args below meth c H locs 0 0 (MQ below (HXq G post A) args s 0 0 A) (F0 m 139 ls []) := by
                  intro x4_24 H locs ls hF hP hD hS hl
                  unfold f_X10_keys_B139 at hF
                  obtain ⟨v5_25, ev5_25⟩ : ∃ z : Int32, z = x5_13 + 1 := ⟨_, rfl⟩
                  have hF := jl hF ev5_25
                  refine lv_iinc (v := v5_25) (lv' := [(5, .int v5_25), (0, .ref mo), (1, .int nn), (2, .int ii), (3, .int v3_3), (4, .int x4_24)]) hx hb dX10_keys_139 hl (k := 5) rfl (by rw [ev5_25]; rfl) (by decide) rfl (fun ls hl => ?_)
                  refine lv_goto (tgt := 94) hx hb dX10_keys_142 (by decide) ?_
                  exact ih94 x4_24 v5_25 r116_23.2.1 r116_23.2.2.1 r116_23.2.2.2.1 r116_23.2.2.2.2 xfi_18 xfm_19 _ _ _ hF hP hD hS (lv_sub hl [1, 2, 3, 4, 5, 0] rfl)
                refine lv_if_eq (tgt := 139) hx hb dX10_keys_119 (by decide) (fun c_26 => ?_) (fun c_26 => ?_)
                · have hF := ifp hF c_26
                  exact hB139 x4_12 _ _ _ hF hP hD hS (lv_sub hl [0, 1, 2, 3, 4, 5] rfl)
                · have hF := ifn hF c_26
                  refine lv_iload hx hb dX10_keys_122 (lv_at hl 4 rfl) ?_
                  refine lv_iload_n hx hb dX10_keys_124 rfl (lv_at hl 2 rfl) ?_
                  refine lv_icmp_ne (tgt := 136) hx hb dX10_keys_125 (by decide) (fun c_27 => ?_) (fun c_27 => ?_)
                  · have hF := ifn hF c_27
                    obtain ⟨v4_28, ev4_28⟩ : ∃ z : Int32, z = x4_12 + 1 := ⟨_, rfl⟩
                    have hF := jl hF ev4_28
                    refine lv_iinc (v := v4_28) (lv' := [(4, .int v4_28), (0, .ref mo), (1, .int nn), (2, .int ii), (3, .int v3_3), (5, .int x5_13)]) hx hb dX10_keys_136 hl (k := 4) rfl (by rw [ev4_28]; rfl) (by decide) rfl (fun ls hl => ?_)
                    exact hB139 v4_28 _ _ _ hF hP hD hS (lv_sub hl [1, 2, 3, 4, 0, 5] rfl)
                  · have hF := ifp hF c_27
                    refine lv_aload_n hx hb dX10_keys_128 rfl (lv_at hl 0 rfl) ?_
                    refine hget hx hb hts hown hE fl_X10_42 hP 0 rfl rfl dX10_keys_129 ?_
                    refine lv_iload hx hb dX10_keys_132 (lv_at hl 5 rfl) ?_
                    obtain ⟨hi_29, hF⟩ := inb hF
                    refine hiald hx hb hE hP 5 rfl hi_29 dX10_keys_134 ?_
                    have hF := Option.some.inj hF
                    subst hF
                    exact hm_iret hx hb hr hlk hP hD hS hpost dX10_keys_135
          exact hL94 _ 0 0 mmy_5 xmm_6 xmt_7 xrp_8 xfi_9 xfm_10 _ _ _ hF hP hD hS (lv_sub hl [2, 3, 4, 5, 1, 0] rfl)
        · have hF := ifn hF c_11
          refine lv_aload_n hx hb dX10_keys_37 rfl (lv_at hl 0 rfl) ?_
          refine hget hx hb hts hown hE fl_X10_39 hP 0 rfl rfl dX10_keys_38 ?_
          refine lv_iload hx hb dX10_keys_41 (lv_at hl 4 rfl) ?_
          refine lv_aload_n hx hb dX10_keys_43 rfl (lv_at hl 0 rfl) ?_
          refine hget hx hb hts hown hE fl_X10_69 hP 0 rfl rfl dX10_keys_44 ?_
          refine lv_aload_n hx hb dX10_keys_47 rfl (lv_at hl 0 rfl) ?_
          refine hget hx hb hts hown hE fl_X10_7 hP 0 rfl rfl dX10_keys_48 ?_
          refine lv_iload hx hb dX10_keys_51 (lv_at hl 4 rfl) ?_
          obtain ⟨hi_30, hF⟩ := inb hF
          refine hiald hx hb hE hP 1 rfl hi_30 dX10_keys_53 ?_
          refine lv_aload_n hx hb dX10_keys_54 rfl (lv_at hl 0 rfl) ?_
          refine hget hx hb hts hown hE fl_X10_13 hP 0 rfl rfl dX10_keys_55 ?_
          refine lv_iload hx hb dX10_keys_58 (lv_at hl 4 rfl) ?_
          obtain ⟨hi_31, hF⟩ := inb hF
          refine hiald hx hb hE hP 2 rfl hi_31 dX10_keys_60 ?_
          obtain ⟨r61_32, hr61_32, hF⟩ := bnd hF
          refine hm_S (wn := [(mo, .inr (8, [.long mbd, .int mby, .int mgr, .int mol, .ref aMM, .ref aMT, .int mmy_5, .ref aPD, .int mpm, .long mrd, .int mbm, .int mbw, .long mpl, .ref aST, .ref aPL, .ref aRS, .ref aLA, .ref aBM, .int msm, .ref aRP, .ref aFI, .ref aFM, .ref aGB, .ref aGM, .ref aGV, .ref aGR, .int mgs, .ref aKB, .ref aKP, .ref aIK, .int mka, .int miw])), (aMM, .inl (gI G, 75, .inl xmm_6)), (aMT, .inl (gI G, 75, .inl xmt_7)), (aRP, .inl (gJ G, 75, .inr (.inl xrp_8))), (aFI, .inl (gJ G, 75, .inr (.inl xfi_9))), (aFM, .inl (gI G, 75, .inl xfm_10))]) (wr := [(mo, .inr (8, [.long mbd, .int mby, .int mgr, .int mol, .ref aMM, .ref aMT, .int mmy_5, .ref aPD, .int mpm, .long mrd, .int mbm, .int mbw, .long mpl, .ref aST, .ref aPL, .ref aRS, .ref aLA, .ref aBM, .int msm, .ref aRP, .ref aFI, .ref aFM, .ref aGB, .ref aGM, .ref aGV, .ref aGR, .int mgs, .ref aKB, .ref aKP, .ref aIK, .int mka, .int miw])), (aMM, .inl (gI G, 75, .inl xmm_6)), (aMT, .inl (gI G, 75, .inl xmt_7)), (aRP, .inl (gJ G, 75, .inr (.inl xrp_8))), (aFI, .inl (gJ G, 75, .inr (.inl xfi_9))), (aFM, .inl (gI G, 75, .inl xfm_10))]) (rest := [.int x4_4, .ref aFI]) (sn := [.long r61_32, .int x4_4, .ref aFI]) hx hb hml hown hts hE hA (k_X10_gone G l mbd (xmm_6 (x4_4).toNatClampNeg) (xmt_7 (x4_4).toNatClampNeg) r61_32 hr61_32) sm_X10_gone mw_954 ⟨rfl, rfl, Nat.le_of_ble_eq_true rfl, Nat.le_of_ble_eq_true rfl⟩ hP hD hS [] [0, 1, 2, 3, 4, 5] [0, 1, 2, 3, 4, 5] rfl rfl rfl (by decide) hl.1 rfl rfl (Nat.le_of_ble_eq_true rfl) dX10_keys_61 ⟨Nat.le_of_ble_eq_true rfl, Nat.le_of_ble_eq_true rfl⟩ (fun H locs hP hD hS => ?_)
          obtain ⟨hi_33, hF⟩ := inb hF
          obtain ⟨a64_34, ea64_34⟩ : ∃ z : (Nat → Int64), z = vp_updL xfi_9 (x4_4).toNatClampNeg r61_32 := ⟨_, rfl⟩
          have hF := jl hF ea64_34
          refine hlast hx hb hE hP hD hS 4 rfl hi_33 (wn := [(mo, .inr (8, [.long mbd, .int mby, .int mgr, .int mol, .ref aMM, .ref aMT, .int mmy_5, .ref aPD, .int mpm, .long mrd, .int mbm, .int mbw, .long mpl, .ref aST, .ref aPL, .ref aRS, .ref aLA, .ref aBM, .int msm, .ref aRP, .ref aFI, .ref aFM, .ref aGB, .ref aGM, .ref aGV, .ref aGR, .int mgs, .ref aKB, .ref aKP, .ref aIK, .int mka, .int miw])), (aMM, .inl (gI G, 75, .inl xmm_6)), (aMT, .inl (gI G, 75, .inl xmt_7)), (aRP, .inl (gJ G, 75, .inr (.inl xrp_8))), (aFI, .inl (gJ G, 75, .inr (.inl a64_34))), (aFM, .inl (gI G, 75, .inl xfm_10))]) (by rw [ea64_34]; rfl) dX10_keys_64 (fun H locs hP hD hS => ?_)
          refine lv_aload_n hx hb dX10_keys_65 rfl (lv_at hl 0 rfl) ?_
          refine hget hx hb hts hown hE fl_X10_42 hP 0 rfl rfl dX10_keys_66 ?_
          refine lv_iload hx hb dX10_keys_69 (lv_at hl 4 rfl) ?_
          refine lv_aload_n hx hb dX10_keys_71 rfl (lv_at hl 0 rfl) ?_
          refine lv_aload_n hx hb dX10_keys_72 rfl (lv_at hl 0 rfl) ?_
          refine hget hx hb hts hown hE fl_X10_69 hP 0 rfl rfl dX10_keys_73 ?_
          refine lv_iload hx hb dX10_keys_76 (lv_at hl 4 rfl) ?_
          obtain ⟨r78_35, hr78_35, hF⟩ := bnd hF
          refine hm_V (wn := [(mo, .inr (8, [.long mbd, .int mby, .int mgr, .int mol, .ref aMM, .ref aMT, .int mmy_5, .ref aPD, .int mpm, .long mrd, .int mbm, .int mbw, .long mpl, .ref aST, .ref aPL, .ref aRS, .ref aLA, .ref aBM, .int msm, .ref aRP, .ref aFI, .ref aFM, .ref aGB, .ref aGM, .ref aGV, .ref aGR, .int mgs, .ref aKB, .ref aKP, .ref aIK, .int mka, .int miw])), (aMM, .inl (gI G, 75, .inl xmm_6)), (aMT, .inl (gI G, 75, .inl xmt_7)), (aRP, .inl (gJ G, 75, .inr (.inl xrp_8))), (aFI, .inl (gJ G, 75, .inr (.inl a64_34))), (aFM, .inl (gI G, 75, .inl xfm_10))]) (wr := [(aRP, .inl (gJ G, 75, .inr (.inl xrp_8))), (aFI, .inl (gJ G, 75, .inr (.inl a64_34))), (aFM, .inl (gI G, 75, .inl xfm_10))]) (rest := [.int x4_4, .ref aFM]) (sn := [.int r78_35, .int x4_4, .ref aFM]) hx hb hml hown hts hE hA (k_X10_moveNumber G l mo aMM aMT aPD aST aPL aRS aLA aBM aRP aFI aFM aGB aGM aGV aGR aKB aKP aIK mbd mby mgr mol mmy_5 mpm mrd mbm mbw mpl msm mgs mka miw xmm_6 xmt_7 mbd x4_4 r78_35 hr78_35) sm_X10_moveNumber mw_969 ⟨rfl, rfl, Nat.le_of_ble_eq_true rfl, Nat.le_of_ble_eq_true rfl⟩ hP hD hS 0 rfl rfl [0, 1, 2] [3, 4, 5] [3, 4, 5, 0, 1, 2] rfl rfl rfl (by decide) hl.1 rfl rfl (Nat.le_of_ble_eq_true rfl) dX10_keys_78 ⟨Nat.le_of_ble_eq_true rfl, Nat.le_of_ble_eq_true rfl⟩ (fun H locs hP hD hS => ?_)
          obtain ⟨hi_36, hF⟩ := inb hF
          obtain ⟨a81_37, ea81_37⟩ : ∃ z : (Nat → Int32), z = upd xfm_10 (x4_4).toNatClampNeg r78_35 := ⟨_, rfl⟩
          have hF := jl hF ea81_37
          refine hiast hx hb hE hP hD hS 5 rfl hi_36 (wn := [(mo, .inr (8, [.long mbd, .int mby, .int mgr, .int mol, .ref aMM, .ref aMT, .int mmy_5, .ref aPD, .int mpm, .long mrd, .int mbm, .int mbw, .long mpl, .ref aST, .ref aPL, .ref aRS, .ref aLA, .ref aBM, .int msm, .ref aRP, .ref aFI, .ref aFM, .ref aGB, .ref aGM, .ref aGV, .ref aGR, .int mgs, .ref aKB, .ref aKP, .ref aIK, .int mka, .int miw])), (aMM, .inl (gI G, 75, .inl xmm_6)), (aMT, .inl (gI G, 75, .inl xmt_7)), (aRP, .inl (gJ G, 75, .inr (.inl xrp_8))), (aFI, .inl (gJ G, 75, .inr (.inl a64_34))), (aFM, .inl (gI G, 75, .inl a81_37))]) (by rw [ea81_37]; rfl) dX10_keys_81 (fun H locs hP hD hS => ?_)
          obtain ⟨v4_38, ev4_38⟩ : ∃ z : Int32, z = x4_4 + 1 := ⟨_, rfl⟩
          have hF := jl hF ev4_38
          refine lv_iinc (v := v4_38) (lv' := [(4, .int v4_38), (0, .ref mo), (1, .int nn), (2, .int ii), (3, .int v3_3)]) hx hb dX10_keys_82 hl (k := 4) rfl (by rw [ev4_38]; rfl) (by decide) rfl (fun ls hl => ?_)
          refine lv_goto (tgt := 31) hx hb dX10_keys_85 (by decide) ?_
          exact ih31 v4_38 mmy_5 xmm_6 xmt_7 xrp_8 a64_34 a81_37 _ _ _ hF hP hD hS (lv_sub hl [1, 2, 3, 4, 0] rfl)
    exact hL31 _ 0 r20_2.1 r20_2.2.1 r20_2.2.2 xrp xfi xfm _ _ _ hF hP hD hS (lv_sub hl [2, 3, 4, 1, 0] rfl)
  · have hF := ifp hF c_1
    refine lv_bipush (v := (-2)) hx hb dX10_keys_12 (by decide) ?_
    have hF := Option.some.inj hF
    subst hF
    exact hm_iret hx hb hr hlk hP hD hS hpost dX10_keys_14
def f_X10_even_B85 (k_26 : Int32 → Int32 → Int32 → Int32 → (Nat → Int64) → (Nat → Int32) → (Nat → Int32) → (Nat → Int32) → (Nat → Int32) → (Nat → Int32) → (Nat → Int32) → Option (Int32 × Int32 × (Nat → Int64) × (Nat → Int32) × (Nat → Int32) × (Nat → Int32) × (Nat → Int32) × Int32 × (Nat → Int32) × (Nat → Int32))) (x2_3 : Int32) (x3_4 : Int32) (r50_15 : Int32 × Int32 × (Nat → Int64) × (Nat → Int32) × (Nat → Int32) × (Nat → Int32) × (Nat → Int32) × Int32 × (Nat → Int32) × (Nat → Int32)) (t1_17 : Int32) : Option (Int32 × Int32 × (Nat → Int64) × (Nat → Int32) × (Nat → Int32) × (Nat → Int32) × (Nat → Int32) × Int32 × (Nat → Int32) × (Nat → Int32)) :=
  jlet (x2_3 ||| t1_17) (fun v2_18 => jlet (x3_4 + 1) (fun v3_19 => k_26 v2_18 v3_19 r50_15.2.2.2.2.2.2.2.1 r50_15.2.1 r50_15.2.2.1 r50_15.2.2.2.1 r50_15.2.2.2.2.1 r50_15.2.2.2.2.2.1 r50_15.2.2.2.2.2.2.1 r50_15.2.2.2.2.2.2.2.2.1 r50_15.2.2.2.2.2.2.2.2.2))
def f_X10_even_B70 (k_26 : Int32 → Int32 → Int32 → Int32 → (Nat → Int64) → (Nat → Int32) → (Nat → Int32) → (Nat → Int32) → (Nat → Int32) → (Nat → Int32) → (Nat → Int32) → Option (Int32 × Int32 × (Nat → Int64) × (Nat → Int32) × (Nat → Int32) × (Nat → Int32) × (Nat → Int32) × Int32 × (Nat → Int32) × (Nat → Int32))) (x2_3 : Int32) (x3_4 : Int32) (r50_15 : Int32 × Int32 × (Nat → Int64) × (Nat → Int32) × (Nat → Int32) × (Nat → Int32) × (Nat → Int32) × Int32 × (Nat → Int32) × (Nat → Int32)) (t0_16 : Int32) : Option (Int32 × Int32 × (Nat → Int64) × (Nat → Int32) × (Nat → Int32) × (Nat → Int32) × (Nat → Int32) × Int32 × (Nat → Int32) × (Nat → Int32)) :=
  if t0_16 = 0 then f_X10_even_B85 k_26 x2_3 x3_4 r50_15 0 else f_X10_even_B85 k_26 x2_3 x3_4 r50_15 (jshl 1 x3_4)
def f_X10_even_L26 (mbd : Int64) (mby : Int32) (mgr : Int32) (mol : Int32) (mn : Int32) : Nat → Int32 → Int32 → Int32 → Int32 → (Nat → Int64) → (Nat → Int32) → (Nat → Int32) → (Nat → Int32) → (Nat → Int32) → (Nat → Int32) → (Nat → Int32) → Option (Int32 × Int32 × (Nat → Int64) × (Nat → Int32) × (Nat → Int32) × (Nat → Int32) × (Nat → Int32) × Int32 × (Nat → Int32) × (Nat → Int32))
  | 0, _, _, _, _, _, _, _, _, _, _, _ => none
  | n+1, x2_3, x3_4, mmy_5, msm_6, xst_7, xpl_8, xrs_9, xla_10, xbm_11, xmm_12, xmt_13 =>
  if 10 ≤ x3_4 then some (x2_3, msm_6, xst_7, xpl_8, xrs_9, xla_10, xbm_11, mmy_5, xmm_12, xmt_13) else Option.bind (f_X10_solveAll mby mgr mol mmy_5 msm_6 xst_7 xpl_8 xrs_9 xla_10 xbm_11 xmm_12 xmt_13 (f_X10_put mbd mn (f_X10_cellOf mbd mn) x3_4)) (fun r50_15 => if r50_15.1 = 0 then f_X10_even_B70 (f_X10_even_L26 mbd mby mgr mol mn n) x2_3 x3_4 r50_15 0 else if (0 : Int32) < 0 ∨ 20001 ≤ (0 : Int32).toNatClampNeg then none else if (r50_15.2.2.2.2.1 (0 : Int32).toNatClampNeg) = 0 then f_X10_even_B70 (f_X10_even_L26 mbd mby mgr mol mn n) x2_3 x3_4 r50_15 1 else f_X10_even_B70 (f_X10_even_L26 mbd mby mgr mol mn n) x2_3 x3_4 r50_15 0)
def f_X10_even (mbd : Int64) (mby : Int32) (mgr : Int32) (mol : Int32) (mmy : Int32) (msm : Int32) (xst : (Nat → Int64)) (xpl : (Nat → Int32)) (xrs : (Nat → Int32)) (xla : (Nat → Int32)) (xbm : (Nat → Int32)) (xmm : (Nat → Int32)) (xmt : (Nat → Int32)) (mn : Int32) : Option (Int32 × Int32 × (Nat → Int64) × (Nat → Int32) × (Nat → Int32) × (Nat → Int32) × (Nat → Int32) × Int32 × (Nat → Int32) × (Nat → Int32)) :=
  if (f_X10_isMan mn) = 0 then some ((-1), msm, xst, xpl, xrs, xla, xbm, mmy, xmm, xmt) else if (f_X10_cellOf mbd mn) = 31 then some ((-1), msm, xst, xpl, xrs, xla, xbm, mmy, xmm, xmt) else f_X10_even_L26 mbd mby mgr mol mn 100 0 0 mmy msm xst xpl xrs xla xbm xmm xmt
abbrev rm_X10_even : Room := { frames := 11, cells := 0, slots := 0, locals := 271 }
set_option maxHeartbeats 4000000 in
set_option maxRecDepth 100000 in
theorem k_X10_even (G : gT) (l : Launch) (mo : Nat) (aMM : Nat) (aMT : Nat) (aPD : Nat) (aST : Nat) (aPL : Nat) (aRS : Nat) (aLA : Nat) (aBM : Nat) (aRP : Nat) (aFI : Nat) (aFM : Nat) (aGB : Nat) (aGM : Nat) (aGV : Nat) (aGR : Nat) (aKB : Nat) (aKP : Nat) (aIK : Nat) (mbd : Int64) (mby : Int32) (mgr : Int32) (mol : Int32) (mmy : Int32) (mpm : Int32) (mrd : Int64) (mbm : Int32) (mbw : Int32) (mpl : Int64) (msm : Int32) (mgs : Int32) (mka : Int32) (miw : Int32) (xst : (Nat → Int64)) (xpl : (Nat → Int32)) (xrs : (Nat → Int32)) (xla : (Nat → Int32)) (xbm : (Nat → Int32)) (xmm : (Nat → Int32)) (xmt : (Nat → Int32)) (mn : Int32) (r : Int32 × Int32 × (Nat → Int64) × (Nat → Int32) × (Nat → Int32) × (Nat → Int32) × (Nat → Int32) × Int32 × (Nat → Int32) × (Nat → Int32)) (hF : f_X10_even mbd mby mgr mol mmy msm xst xpl xrs xla xbm xmm xmt mn = some r) : HM G l yX10_even (.code yX10_even cX10_even 5 (some .int) :: UW) rm_X10_even 0 0 [.ref mo, .int mn] [(mo, .inr (8, [.long mbd, .int mby, .int mgr, .int mol, .ref aMM, .ref aMT, .int mmy, .ref aPD, .int mpm, .long mrd, .int mbm, .int mbw, .long mpl, .ref aST, .ref aPL, .ref aRS, .ref aLA, .ref aBM, .int msm, .ref aRP, .ref aFI, .ref aFM, .ref aGB, .ref aGM, .ref aGV, .ref aGR, .int mgs, .ref aKB, .ref aKP, .ref aIK, .int mka, .int miw])), (aST, .inl (gJ G, 20001, .inr (.inl xst))), (aPL, .inl (gI G, 65536, .inl xpl)), (aRS, .inl (gI G, 20001, .inl xrs)), (aLA, .inl (gI G, 20001, .inl xla)), (aBM, .inl (gI G, 20001, .inl xbm)), (aMM, .inl (gI G, 75, .inl xmm)), (aMT, .inl (gI G, 75, .inl xmt))] (some (.int r.1)) [(mo, .inr (8, [.long mbd, .int mby, .int mgr, .int mol, .ref aMM, .ref aMT, .int r.2.2.2.2.2.2.2.1, .ref aPD, .int mpm, .long mrd, .int mbm, .int mbw, .long mpl, .ref aST, .ref aPL, .ref aRS, .ref aLA, .ref aBM, .int r.2.1, .ref aRP, .ref aFI, .ref aFM, .ref aGB, .ref aGM, .ref aGV, .ref aGR, .int mgs, .ref aKB, .ref aKP, .ref aIK, .int mka, .int miw])), (aST, .inl (gJ G, 20001, .inr (.inl r.2.2.1))), (aPL, .inl (gI G, 65536, .inl r.2.2.2.1)), (aRS, .inl (gI G, 20001, .inl r.2.2.2.2.1)), (aLA, .inl (gI G, 20001, .inl r.2.2.2.2.2.1)), (aBM, .inl (gI G, 20001, .inl r.2.2.2.2.2.2.1)), (aMM, .inl (gI G, 75, .inl r.2.2.2.2.2.2.2.2.1)), (aMT, .inl (gI G, 75, .inl r.2.2.2.2.2.2.2.2.2))] := by
  refine HM.ofW (by decide) (Nat.le_of_ble_eq_true rfl) ?_
  intro p e s m args below meth c A post hpost hC hP hD hS ls hl
  obtain ⟨hx, hb, hr, hml, hown, hts, hlk, hE, hA⟩ := hC
  have hl : lv_has ls 5 [(0, .ref mo), (1, .int mn)] := hl
  unfold f_X10_even at hF
  refine lv_iload_n hx hb dX10_even_0 rfl (lv_at hl 1 rfl) ?_
  refine hm_S (wn := [(mo, .inr (8, [.long mbd, .int mby, .int mgr, .int mol, .ref aMM, .ref aMT, .int mmy, .ref aPD, .int mpm, .long mrd, .int mbm, .int mbw, .long mpl, .ref aST, .ref aPL, .ref aRS, .ref aLA, .ref aBM, .int msm, .ref aRP, .ref aFI, .ref aFM, .ref aGB, .ref aGM, .ref aGV, .ref aGR, .int mgs, .ref aKB, .ref aKP, .ref aIK, .int mka, .int miw])), (aST, .inl (gJ G, 20001, .inr (.inl xst))), (aPL, .inl (gI G, 65536, .inl xpl)), (aRS, .inl (gI G, 20001, .inl xrs)), (aLA, .inl (gI G, 20001, .inl xla)), (aBM, .inl (gI G, 20001, .inl xbm)), (aMM, .inl (gI G, 75, .inl xmm)), (aMT, .inl (gI G, 75, .inl xmt))]) (wr := [(mo, .inr (8, [.long mbd, .int mby, .int mgr, .int mol, .ref aMM, .ref aMT, .int mmy, .ref aPD, .int mpm, .long mrd, .int mbm, .int mbw, .long mpl, .ref aST, .ref aPL, .ref aRS, .ref aLA, .ref aBM, .int msm, .ref aRP, .ref aFI, .ref aFM, .ref aGB, .ref aGM, .ref aGV, .ref aGR, .int mgs, .ref aKB, .ref aKP, .ref aIK, .int mka, .int miw])), (aST, .inl (gJ G, 20001, .inr (.inl xst))), (aPL, .inl (gI G, 65536, .inl xpl)), (aRS, .inl (gI G, 20001, .inl xrs)), (aLA, .inl (gI G, 20001, .inl xla)), (aBM, .inl (gI G, 20001, .inl xbm)), (aMM, .inl (gI G, 75, .inl xmm)), (aMT, .inl (gI G, 75, .inl xmt))]) (rest := []) (sn := [.int (f_X10_isMan mn)]) hx hb hml hown hts hE hA (k_X10_isMan G l mn _ rfl) sm_X10_isMan mw_885 ⟨rfl, rfl, Nat.le_of_ble_eq_true rfl, Nat.le_of_ble_eq_true rfl⟩ hP hD hS [] [0, 1, 2, 3, 4, 5, 6, 7] [0, 1, 2, 3, 4, 5, 6, 7] rfl rfl rfl (by decide) hl.1 rfl rfl (Nat.le_of_ble_eq_true rfl) dX10_even_1 ⟨Nat.le_of_ble_eq_true rfl, Nat.le_of_ble_eq_true rfl⟩ (fun H locs hP hD hS => ?_)
  refine lv_if_eq (tgt := 20) hx hb dX10_even_4 (by decide) (fun c_1 => ?_) (fun c_1 => ?_)
  · have hF := ifp hF c_1
    refine lv_iconst (v := (-1)) hx hb dX10_even_20 (by decide) ?_
    have hF := Option.some.inj hF
    subst hF
    exact hm_iret hx hb hr hlk hP hD hS hpost dX10_even_21
  · have hF := ifn hF c_1
    refine lv_aload_n hx hb dX10_even_7 rfl (lv_at hl 0 rfl) ?_
    refine hget hx hb hts hown hE fl_X10_69 hP 0 rfl rfl dX10_even_8 ?_
    refine lv_iload_n hx hb dX10_even_11 rfl (lv_at hl 1 rfl) ?_
    refine hm_S (wn := [(mo, .inr (8, [.long mbd, .int mby, .int mgr, .int mol, .ref aMM, .ref aMT, .int mmy, .ref aPD, .int mpm, .long mrd, .int mbm, .int mbw, .long mpl, .ref aST, .ref aPL, .ref aRS, .ref aLA, .ref aBM, .int msm, .ref aRP, .ref aFI, .ref aFM, .ref aGB, .ref aGM, .ref aGV, .ref aGR, .int mgs, .ref aKB, .ref aKP, .ref aIK, .int mka, .int miw])), (aST, .inl (gJ G, 20001, .inr (.inl xst))), (aPL, .inl (gI G, 65536, .inl xpl)), (aRS, .inl (gI G, 20001, .inl xrs)), (aLA, .inl (gI G, 20001, .inl xla)), (aBM, .inl (gI G, 20001, .inl xbm)), (aMM, .inl (gI G, 75, .inl xmm)), (aMT, .inl (gI G, 75, .inl xmt))]) (wr := [(mo, .inr (8, [.long mbd, .int mby, .int mgr, .int mol, .ref aMM, .ref aMT, .int mmy, .ref aPD, .int mpm, .long mrd, .int mbm, .int mbw, .long mpl, .ref aST, .ref aPL, .ref aRS, .ref aLA, .ref aBM, .int msm, .ref aRP, .ref aFI, .ref aFM, .ref aGB, .ref aGM, .ref aGV, .ref aGR, .int mgs, .ref aKB, .ref aKP, .ref aIK, .int mka, .int miw])), (aST, .inl (gJ G, 20001, .inr (.inl xst))), (aPL, .inl (gI G, 65536, .inl xpl)), (aRS, .inl (gI G, 20001, .inl xrs)), (aLA, .inl (gI G, 20001, .inl xla)), (aBM, .inl (gI G, 20001, .inl xbm)), (aMM, .inl (gI G, 75, .inl xmm)), (aMT, .inl (gI G, 75, .inl xmt))]) (rest := []) (sn := [.int (f_X10_cellOf mbd mn)]) hx hb hml hown hts hE hA (k_X10_cellOf G l mbd mn _ rfl) sm_X10_cellOf mw_852 ⟨rfl, rfl, Nat.le_of_ble_eq_true rfl, Nat.le_of_ble_eq_true rfl⟩ hP hD hS [] [0, 1, 2, 3, 4, 5, 6, 7] [0, 1, 2, 3, 4, 5, 6, 7] rfl rfl rfl (by decide) hl.1 rfl rfl (Nat.le_of_ble_eq_true rfl) dX10_even_12 ⟨Nat.le_of_ble_eq_true rfl, Nat.le_of_ble_eq_true rfl⟩ (fun H locs hP hD hS => ?_)
    refine lv_bipush (v := 31) hx hb dX10_even_15 (by decide) ?_
    refine lv_icmp_ne (tgt := 22) hx hb dX10_even_17 (by decide) (fun c_2 => ?_) (fun c_2 => ?_)
    · have hF := ifn hF c_2
      refine lv_iconst (v := 0) hx hb dX10_even_22 (by decide) ?_
      refine lv_istore_n (lv' := [(2, .int 0), (0, .ref mo), (1, .int mn)]) hx hb dX10_even_23 rfl hl (by decide) rfl (fun ls hl => ?_)
      refine lv_iconst (v := 0) hx hb dX10_even_24 (by decide) ?_
      refine lv_istore_n (lv' := [(3, .int 0), (2, .int 0), (0, .ref mo), (1, .int mn)]) hx hb dX10_even_25 rfl hl (by decide) rfl (fun ls hl => ?_)
      have hL26 : ∀ (n26 : Nat) (x2_3 : Int32) (x3_4 : Int32) (mmy_5 : Int32) (msm_6 : Int32) (xst_7 : (Nat → Int64)) (xpl_8 : (Nat → Int32)) (xrs_9 : (Nat → Int32)) (xla_10 : (Nat → Int32)) (xbm_11 : (Nat → Int32)) (xmm_12 : (Nat → Int32)) (xmt_13 : (Nat → Int32)) (H : Heap) (locs : List Loc) (ls : Array Slot), f_X10_even_L26 mbd mby mgr mol mn n26 x2_3 x3_4 mmy_5 msm_6 xst_7 xpl_8 xrs_9 xla_10 xbm_11 xmm_12 xmt_13 = some r → va_P (gD G) vwCl [(mo, .inr (8, [.long mbd, .int mby, .int mgr, .int mol, .ref aMM, .ref aMT, .int mmy_5, .ref aPD, .int mpm, .long mrd, .int mbm, .int mbw, .long mpl, .ref aST, .ref aPL, .ref aRS, .ref aLA, .ref aBM, .int msm_6, .ref aRP, .ref aFI, .ref aFM, .ref aGB, .ref aGM, .ref aGV, .ref aGR, .int mgs, .ref aKB, .ref aKP, .ref aIK, .int mka, .int miw])), (aST, .inl (gJ G, 20001, .inr (.inl xst_7))), (aPL, .inl (gI G, 65536, .inl xpl_8)), (aRS, .inl (gI G, 20001, .inl xrs_9)), (aLA, .inl (gI G, 20001, .inl xla_10)), (aBM, .inl (gI G, 20001, .inl xbm_11)), (aMM, .inl (gI G, 75, .inl xmm_12)), (aMT, .inl (gI G, 75, .inl xmt_13))] H → va_D A [(mo, .inr (8, [.long mbd, .int mby, .int mgr, .int mol, .ref aMM, .ref aMT, .int mmy_5, .ref aPD, .int mpm, .long mrd, .int mbm, .int mbw, .long mpl, .ref aST, .ref aPL, .ref aRS, .ref aLA, .ref aBM, .int msm_6, .ref aRP, .ref aFI, .ref aFM, .ref aGB, .ref aGM, .ref aGV, .ref aGR, .int mgs, .ref aKB, .ref aKP, .ref aIK, .int mka, .int miw])), (aST, .inl (gJ G, 20001, .inr (.inl xst_7))), (aPL, .inl (gI G, 65536, .inl xpl_8)), (aRS, .inl (gI G, 20001, .inl xrs_9)), (aLA, .inl (gI G, 20001, .inl xla_10)), (aBM, .inl (gI G, 20001, .inl xbm_11)), (aMM, .inl (gI G, 75, .inl xmm_12)), (aMT, .inl (gI G, 75, .inl xmt_13))] → va_S A s.heap H locs → lv_has ls 5 [(0, .ref mo), (1, .int mn), (2, .int x2_3), (3, .int x3_4)] → W p l e rm_X10_even s m args below meth c H locs 0 0 (MQ below (HXq G post A) args s 0 0 A) (F0 m 26 ls []) := by
        intro n26
        induction n26 with
        | zero =>
          intro x2_3 x3_4 mmy_5 msm_6 xst_7 xpl_8 xrs_9 xla_10 xbm_11 xmm_12 xmt_13 H locs ls hF
          exact absurd hF (fun h => by cases h)
        | succ n26 ih26 =>
          intro x2_3 x3_4 mmy_5 msm_6 xst_7 xpl_8 xrs_9 xla_10 xbm_11 xmm_12 xmt_13 H locs ls hF hP hD hS hl
          unfold f_X10_even_L26 at hF
          refine lv_iload_n hx hb dX10_even_26 rfl (lv_at hl 3 rfl) ?_
          refine lv_bipush (v := 10) hx hb dX10_even_27 (by decide) ?_
          refine lv_icmp_ge (tgt := 93) hx hb dX10_even_29 (by decide) (fun c_14 => ?_) (fun c_14 => ?_)
          · have hF := ifp hF c_14
            refine lv_iload_n hx hb dX10_even_93 rfl (lv_at hl 2 rfl) ?_
            have hF := Option.some.inj hF
            subst hF
            exact hm_iret hx hb hr hlk hP hD hS hpost dX10_even_94
          · have hF := ifn hF c_14
            refine lv_aload_n hx hb dX10_even_32 rfl (lv_at hl 0 rfl) ?_
            refine lv_aload_n hx hb dX10_even_33 rfl (lv_at hl 0 rfl) ?_
            refine hget hx hb hts hown hE fl_X10_69 hP 0 rfl rfl dX10_even_34 ?_
            refine lv_iload_n hx hb dX10_even_37 rfl (lv_at hl 1 rfl) ?_
            refine lv_aload_n hx hb dX10_even_38 rfl (lv_at hl 0 rfl) ?_
            refine hget hx hb hts hown hE fl_X10_69 hP 0 rfl rfl dX10_even_39 ?_
            refine lv_iload_n hx hb dX10_even_42 rfl (lv_at hl 1 rfl) ?_
            refine hm_S (wn := [(mo, .inr (8, [.long mbd, .int mby, .int mgr, .int mol, .ref aMM, .ref aMT, .int mmy_5, .ref aPD, .int mpm, .long mrd, .int mbm, .int mbw, .long mpl, .ref aST, .ref aPL, .ref aRS, .ref aLA, .ref aBM, .int msm_6, .ref aRP, .ref aFI, .ref aFM, .ref aGB, .ref aGM, .ref aGV, .ref aGR, .int mgs, .ref aKB, .ref aKP, .ref aIK, .int mka, .int miw])), (aST, .inl (gJ G, 20001, .inr (.inl xst_7))), (aPL, .inl (gI G, 65536, .inl xpl_8)), (aRS, .inl (gI G, 20001, .inl xrs_9)), (aLA, .inl (gI G, 20001, .inl xla_10)), (aBM, .inl (gI G, 20001, .inl xbm_11)), (aMM, .inl (gI G, 75, .inl xmm_12)), (aMT, .inl (gI G, 75, .inl xmt_13))]) (wr := [(mo, .inr (8, [.long mbd, .int mby, .int mgr, .int mol, .ref aMM, .ref aMT, .int mmy_5, .ref aPD, .int mpm, .long mrd, .int mbm, .int mbw, .long mpl, .ref aST, .ref aPL, .ref aRS, .ref aLA, .ref aBM, .int msm_6, .ref aRP, .ref aFI, .ref aFM, .ref aGB, .ref aGM, .ref aGV, .ref aGR, .int mgs, .ref aKB, .ref aKP, .ref aIK, .int mka, .int miw])), (aST, .inl (gJ G, 20001, .inr (.inl xst_7))), (aPL, .inl (gI G, 65536, .inl xpl_8)), (aRS, .inl (gI G, 20001, .inl xrs_9)), (aLA, .inl (gI G, 20001, .inl xla_10)), (aBM, .inl (gI G, 20001, .inl xbm_11)), (aMM, .inl (gI G, 75, .inl xmm_12)), (aMT, .inl (gI G, 75, .inl xmt_13))]) (rest := [.int mn, .long mbd, .ref mo]) (sn := [.int (f_X10_cellOf mbd mn), .int mn, .long mbd, .ref mo]) hx hb hml hown hts hE hA (k_X10_cellOf G l mbd mn _ rfl) sm_X10_cellOf mw_852 ⟨rfl, rfl, Nat.le_of_ble_eq_true rfl, Nat.le_of_ble_eq_true rfl⟩ hP hD hS [] [0, 1, 2, 3, 4, 5, 6, 7] [0, 1, 2, 3, 4, 5, 6, 7] rfl rfl rfl (by decide) hl.1 rfl rfl (Nat.le_of_ble_eq_true rfl) dX10_even_43 ⟨Nat.le_of_ble_eq_true rfl, Nat.le_of_ble_eq_true rfl⟩ (fun H locs hP hD hS => ?_)
            refine lv_iload_n hx hb dX10_even_46 rfl (lv_at hl 3 rfl) ?_
            refine hm_S (wn := [(mo, .inr (8, [.long mbd, .int mby, .int mgr, .int mol, .ref aMM, .ref aMT, .int mmy_5, .ref aPD, .int mpm, .long mrd, .int mbm, .int mbw, .long mpl, .ref aST, .ref aPL, .ref aRS, .ref aLA, .ref aBM, .int msm_6, .ref aRP, .ref aFI, .ref aFM, .ref aGB, .ref aGM, .ref aGV, .ref aGR, .int mgs, .ref aKB, .ref aKP, .ref aIK, .int mka, .int miw])), (aST, .inl (gJ G, 20001, .inr (.inl xst_7))), (aPL, .inl (gI G, 65536, .inl xpl_8)), (aRS, .inl (gI G, 20001, .inl xrs_9)), (aLA, .inl (gI G, 20001, .inl xla_10)), (aBM, .inl (gI G, 20001, .inl xbm_11)), (aMM, .inl (gI G, 75, .inl xmm_12)), (aMT, .inl (gI G, 75, .inl xmt_13))]) (wr := [(mo, .inr (8, [.long mbd, .int mby, .int mgr, .int mol, .ref aMM, .ref aMT, .int mmy_5, .ref aPD, .int mpm, .long mrd, .int mbm, .int mbw, .long mpl, .ref aST, .ref aPL, .ref aRS, .ref aLA, .ref aBM, .int msm_6, .ref aRP, .ref aFI, .ref aFM, .ref aGB, .ref aGM, .ref aGV, .ref aGR, .int mgs, .ref aKB, .ref aKP, .ref aIK, .int mka, .int miw])), (aST, .inl (gJ G, 20001, .inr (.inl xst_7))), (aPL, .inl (gI G, 65536, .inl xpl_8)), (aRS, .inl (gI G, 20001, .inl xrs_9)), (aLA, .inl (gI G, 20001, .inl xla_10)), (aBM, .inl (gI G, 20001, .inl xbm_11)), (aMM, .inl (gI G, 75, .inl xmm_12)), (aMT, .inl (gI G, 75, .inl xmt_13))]) (rest := [.ref mo]) (sn := [.long (f_X10_put mbd mn (f_X10_cellOf mbd mn) x3_4), .ref mo]) hx hb hml hown hts hE hA (k_X10_put G l mbd mn (f_X10_cellOf mbd mn) x3_4 _ rfl) sm_X10_put mw_724 ⟨rfl, rfl, Nat.le_of_ble_eq_true rfl, Nat.le_of_ble_eq_true rfl⟩ hP hD hS [] [0, 1, 2, 3, 4, 5, 6, 7] [0, 1, 2, 3, 4, 5, 6, 7] rfl rfl rfl (by decide) hl.1 rfl rfl (Nat.le_of_ble_eq_true rfl) dX10_even_47 ⟨Nat.le_of_ble_eq_true rfl, Nat.le_of_ble_eq_true rfl⟩ (fun H locs hP hD hS => ?_)
            obtain ⟨r50_15, hr50_15, hF⟩ := bnd hF
            refine hm_V (wn := [(mo, .inr (8, [.long mbd, .int mby, .int mgr, .int mol, .ref aMM, .ref aMT, .int r50_15.2.2.2.2.2.2.2.1, .ref aPD, .int mpm, .long mrd, .int mbm, .int mbw, .long mpl, .ref aST, .ref aPL, .ref aRS, .ref aLA, .ref aBM, .int r50_15.2.1, .ref aRP, .ref aFI, .ref aFM, .ref aGB, .ref aGM, .ref aGV, .ref aGR, .int mgs, .ref aKB, .ref aKP, .ref aIK, .int mka, .int miw])), (aST, .inl (gJ G, 20001, .inr (.inl r50_15.2.2.1))), (aPL, .inl (gI G, 65536, .inl r50_15.2.2.2.1)), (aRS, .inl (gI G, 20001, .inl r50_15.2.2.2.2.1)), (aLA, .inl (gI G, 20001, .inl r50_15.2.2.2.2.2.1)), (aBM, .inl (gI G, 20001, .inl r50_15.2.2.2.2.2.2.1)), (aMM, .inl (gI G, 75, .inl r50_15.2.2.2.2.2.2.2.2.1)), (aMT, .inl (gI G, 75, .inl r50_15.2.2.2.2.2.2.2.2.2))]) (wr := []) (rest := []) (sn := [.int r50_15.1]) hx hb hml hown hts hE hA (k_X10_solveAll G l mo aMM aMT aPD aST aPL aRS aLA aBM aRP aFI aFM aGB aGM aGV aGR aKB aKP aIK mbd mby mgr mol mmy_5 mpm mrd mbm mbw mpl msm_6 mgs mka miw xst_7 xpl_8 xrs_9 xla_10 xbm_11 xmm_12 xmt_13 (f_X10_put mbd mn (f_X10_cellOf mbd mn) x3_4) r50_15 hr50_15) sm_X10_solveAll mw_1004 ⟨rfl, rfl, Nat.le_of_ble_eq_true rfl, Nat.le_of_ble_eq_true rfl⟩ hP hD hS 0 rfl rfl [0, 1, 2, 3, 4, 5, 6, 7] [] [0, 1, 2, 3, 4, 5, 6, 7] rfl rfl rfl (by decide) hl.1 rfl rfl (Nat.le_of_ble_eq_true rfl) dX10_even_50 ⟨Nat.le_of_ble_eq_true rfl, Nat.le_of_ble_eq_true rfl⟩ (fun H locs hP hD hS => ?_)
            have hB70 : ∀ (t0_16 : Int32) (H : Heap) (locs : List Loc) (ls : Array Slot), f_X10_even_B70 (f_X10_even_L26 mbd mby mgr mol mn n26) x2_3 x3_4 r50_15 t0_16 = some r → va_P (gD G) vwCl [(mo, .inr (8, [.long mbd, .int mby, .int mgr, .int mol, .ref aMM, .ref aMT, .int r50_15.2.2.2.2.2.2.2.1, .ref aPD, .int mpm, .long mrd, .int mbm, .int mbw, .long mpl, .ref aST, .ref aPL, .ref aRS, .ref aLA, .ref aBM, .int r50_15.2.1, .ref aRP, .ref aFI, .ref aFM, .ref aGB, .ref aGM, .ref aGV, .ref aGR, .int mgs, .ref aKB, .ref aKP, .ref aIK, .int mka, .int miw])), (aST, .inl (gJ G, 20001, .inr (.inl r50_15.2.2.1))), (aPL, .inl (gI G, 65536, .inl r50_15.2.2.2.1)), (aRS, .inl (gI G, 20001, .inl r50_15.2.2.2.2.1)), (aLA, .inl (gI G, 20001, .inl r50_15.2.2.2.2.2.1)), (aBM, .inl (gI G, 20001, .inl r50_15.2.2.2.2.2.2.1)), (aMM, .inl (gI G, 75, .inl r50_15.2.2.2.2.2.2.2.2.1)), (aMT, .inl (gI G, 75, .inl r50_15.2.2.2.2.2.2.2.2.2))] H → va_D A [(mo, .inr (8, [.long mbd, .int mby, .int mgr, .int mol, .ref aMM, .ref aMT, .int r50_15.2.2.2.2.2.2.2.1, .ref aPD, .int mpm, .long mrd, .int mbm, .int mbw, .long mpl, .ref aST, .ref aPL, .ref aRS, .ref aLA, .ref aBM, .int r50_15.2.1, .ref aRP, .ref aFI, .ref aFM, .ref aGB, .ref aGM, .ref aGV, .ref aGR, .int mgs, .ref aKB, .ref aKP, .ref aIK, .int mka, .int miw])), (aST, .inl (gJ G, 20001, .inr (.inl r50_15.2.2.1))), (aPL, .inl (gI G, 65536, .inl r50_15.2.2.2.1)), (aRS, .inl (gI G, 20001, .inl r50_15.2.2.2.2.1)), (aLA, .inl (gI G, 20001, .inl r50_15.2.2.2.2.2.1)), (aBM, .inl (gI G, 20001, .inl r50_15.2.2.2.2.2.2.1)), (aMM, .inl (gI G, 75, .inl r50_15.2.2.2.2.2.2.2.2.1)), (aMT, .inl (gI G, 75, .inl r50_15.2.2.2.2.2.2.2.2.2))] → va_S A s.heap H locs → lv_has ls 5 [(0, .ref mo), (1, .int mn), (2, .int x2_3), (3, .int x3_4)] → W p l e rm_X10_even s m args below meth c H locs 0 0 (MQ below (HXq G post A) args s 0 0 A) (F0 m 70 ls [.int t0_16]) := by
              intro t0_16 H locs ls hF hP hD hS hl
              unfold f_X10_even_B70 at hF
              refine lv_istore (lv' := [(4, .int t0_16), (0, .ref mo), (1, .int mn), (2, .int x2_3), (3, .int x3_4)]) hx hb dX10_even_70 hl (by decide) rfl (fun ls hl => ?_)
              refine lv_iload_n hx hb dX10_even_72 rfl (lv_at hl 3 rfl) ?_
              refine lv_iload hx hb dX10_even_73 (lv_at hl 0 rfl) ?_
              have hB85 : ∀ (t1_17 : Int32) (H : Heap) (locs : List Loc) (ls : Array Slot), f_X10_even_B85 (f_X10_even_L26 mbd mby mgr mol mn n26) x2_3 x3_4 r50_15 t1_17 = some r → va_P (gD G) vwCl [(mo, .inr (8, [.long mbd, .int mby, .int mgr, .int mol, .ref aMM, .ref aMT, .int r50_15.2.2.2.2.2.2.2.1, .ref aPD, .int mpm, .long mrd, .int mbm, .int mbw, .long mpl, .ref aST, .ref aPL, .ref aRS, .ref aLA, .ref aBM, .int r50_15.2.1, .ref aRP, .ref aFI, .ref aFM, .ref aGB, .ref aGM, .ref aGV, .ref aGR, .int mgs, .ref aKB, .ref aKP, .ref aIK, .int mka, .int miw])), (aST, .inl (gJ G, 20001, .inr (.inl r50_15.2.2.1))), (aPL, .inl (gI G, 65536, .inl r50_15.2.2.2.1)), (aRS, .inl (gI G, 20001, .inl r50_15.2.2.2.2.1)), (aLA, .inl (gI G, 20001, .inl r50_15.2.2.2.2.2.1)), (aBM, .inl (gI G, 20001, .inl r50_15.2.2.2.2.2.2.1)), (aMM, .inl (gI G, 75, .inl r50_15.2.2.2.2.2.2.2.2.1)), (aMT, .inl (gI G, 75, .inl r50_15.2.2.2.2.2.2.2.2.2))] H → va_D A [(mo, .inr (8, [.long mbd, .int mby, .int mgr, .int mol, .ref aMM, .ref aMT, .int r50_15.2.2.2.2.2.2.2.1, .ref aPD, .int mpm, .long mrd, .int mbm, .int mbw, .long mpl, .ref aST, .ref aPL, .ref aRS, .ref aLA, .ref aBM, .int r50_15.2.1, .ref aRP, .ref aFI, .ref aFM, .ref aGB, .ref aGM, .ref aGV, .ref aGR, .int mgs, .ref aKB, .ref aKP, .ref aIK, .int mka, .int miw])), (aST, .inl (gJ G, 20001, .inr (.inl r50_15.2.2.1))), (aPL, .inl (gI G, 65536, .inl r50_15.2.2.2.1)), (aRS, .inl (gI G, 20001, .inl r50_15.2.2.2.2.1)), (aLA, .inl (gI G, 20001, .inl r50_15.2.2.2.2.2.1)), (aBM, .inl (gI G, 20001, .inl r50_15.2.2.2.2.2.2.1)), (aMM, .inl (gI G, 75, .inl r50_15.2.2.2.2.2.2.2.2.1)), (aMT, .inl (gI G, 75, .inl r50_15.2.2.2.2.2.2.2.2.2))] → va_S A s.heap H locs → lv_has ls 5 [(0, .ref mo), (1, .int mn), (3, .int x3_4)] → W p l e rm_X10_even s m args below meth c H locs 0 0 (MQ below (HXq G post A) args s 0 0 A) (F0 m 85 ls [.int t1_17, .int x2_3]) := by
                intro t1_17 H locs ls hF hP hD hS hl
                unfold f_X10_even_B85 at hF
                refine lv_ior hx hb dX10_even_85 ?_
                refine lv_topi (fun v2_18 ev2_18 => ?_)
                have hF := jl hF ev2_18
                refine lv_istore_n (lv' := [(2, .int v2_18), (0, .ref mo), (1, .int mn), (3, .int x3_4)]) hx hb dX10_even_86 rfl hl (by decide) rfl (fun ls hl => ?_)
                obtain ⟨v3_19, ev3_19⟩ : ∃ z : Int32, z = x3_4 + 1 := ⟨_, rfl⟩
                have hF := jl hF ev3_19
                refine lv_iinc (v := v3_19) (lv' := [(3, .int v3_19), (2, .int v2_18), (0, .ref mo), (1, .int mn)]) hx hb dX10_even_87 hl (k := 3) rfl (by rw [ev3_19]; rfl) (by decide) rfl (fun ls hl => ?_)
                refine lv_goto (tgt := 26) hx hb dX10_even_90 (by decide) ?_
                exact ih26 v2_18 v3_19 r50_15.2.2.2.2.2.2.2.1 r50_15.2.1 r50_15.2.2.1 r50_15.2.2.2.1 r50_15.2.2.2.2.1 r50_15.2.2.2.2.2.1 r50_15.2.2.2.2.2.2.1 r50_15.2.2.2.2.2.2.2.2.1 r50_15.2.2.2.2.2.2.2.2.2 _ _ _ hF hP hD hS (lv_sub hl [2, 3, 1, 0] rfl)
              refine lv_if_eq (tgt := 84) hx hb dX10_even_75 (by decide) (fun c_20 => ?_) (fun c_20 => ?_)
              · have hF := ifp hF c_20
                refine lv_iconst (v := 0) hx hb dX10_even_84 (by decide) ?_
                exact hB85 0 _ _ _ hF hP hD hS (lv_sub hl [1, 2, 4] rfl)
              · have hF := ifn hF c_20
                refine lv_iconst (v := 1) hx hb dX10_even_78 (by decide) ?_
                refine lv_iload_n hx hb dX10_even_79 rfl (lv_at hl 4 rfl) ?_
                refine lv_ishl hx hb dX10_even_80 ?_
                refine lv_goto (tgt := 85) hx hb dX10_even_81 (by decide) ?_
                exact hB85 (jshl 1 x3_4) _ _ _ hF hP hD hS (lv_sub hl [1, 2, 4] rfl)
            refine lv_if_eq (tgt := 69) hx hb dX10_even_53 (by decide) (fun c_21 => ?_) (fun c_21 => ?_)
            · have hF := ifp hF c_21
              refine lv_iconst (v := 0) hx hb dX10_even_69 (by decide) ?_
              exact hB70 0 _ _ _ hF hP hD hS (lv_sub hl [0, 1, 2, 3] rfl)
            · have hF := ifn hF c_21
              refine lv_aload_n hx hb dX10_even_56 rfl (lv_at hl 0 rfl) ?_
              refine hget hx hb hts hown hE fl_X10_27 hP 0 rfl rfl dX10_even_57 ?_
              refine lv_iconst (v := 0) hx hb dX10_even_60 (by decide) ?_
              obtain ⟨hi_22, hF⟩ := inb hF
              refine hiald hx hb hE hP 3 rfl hi_22 dX10_even_61 ?_
              refine lv_if_ne (tgt := 69) hx hb dX10_even_62 (by decide) (fun c_23 => ?_) (fun c_23 => ?_)
              · have hF := ifn hF c_23
                refine lv_iconst (v := 0) hx hb dX10_even_69 (by decide) ?_
                exact hB70 0 _ _ _ hF hP hD hS (lv_sub hl [0, 1, 2, 3] rfl)
              · have hF := ifp hF c_23
                refine lv_iconst (v := 1) hx hb dX10_even_65 (by decide) ?_
                refine lv_goto (tgt := 70) hx hb dX10_even_66 (by decide) ?_
                exact hB70 1 _ _ _ hF hP hD hS (lv_sub hl [0, 1, 2, 3] rfl)
      exact hL26 _ 0 0 mmy msm xst xpl xrs xla xbm xmm xmt _ _ _ hF hP hD hS (lv_sub hl [2, 3, 1, 0] rfl)
    · have hF := ifp hF c_2
      refine lv_iconst (v := (-1)) hx hb dX10_even_20 (by decide) ?_
      have hF := Option.some.inj hF
      subst hF
      exact hm_iret hx hb hr hlk hP hD hS hpost dX10_even_21
