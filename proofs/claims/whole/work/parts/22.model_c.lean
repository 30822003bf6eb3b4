def f_X10_numberAt (xpd : (Nat → Int32)) (kk1 : Int32) : Option Int32 :=
  Option.bind (f_X10_fromAt xpd kk1) (fun r4_1 => Option.bind (f_X10_toAt xpd kk1) (fun r10_2 => some ((100 * r4_1) + r10_2)))
abbrev rm_X10_numberAt : Room := { frames := 1, cells := 0, slots := 0, locals := 21 }
set_option maxHeartbeats 4000000 in
set_option maxRecDepth 100000 in
theorem k_X10_numberAt (G : gT) (l : Launch) (mo : Nat) (aMM : Nat) (aMT : Nat) (aPD : Nat) (aST : Nat) (aPL : Nat) (aRS : Nat) (aLA : Nat) (aBM : Nat) (aRP : Nat) (aFI : Nat) (aFM : Nat) (aGB : Nat) (aGM : Nat) (aGV : Nat) (aGR : Nat) (aKB : Nat) (aKP : Nat) (aIK : Nat) (mbd : Int64) (mby : Int32) (mgr : Int32) (mol : Int32) (mmy : Int32) (mpm : Int32) (mrd : Int64) (mbm : Int32) (mbw : Int32) (mpl : Int64) (msm : Int32) (mgs : Int32) (mka : Int32) (miw : Int32) (xpd : (Nat → Int32)) (kk1 : Int32) (r : Int32) (hF : f_X10_numberAt xpd kk1 = some r) : HM G l yX10_numberAt (.code yX10_numberAt cX10_numberAt 2 (some .int) :: UW) rm_X10_numberAt 0 0 [.ref mo, .int kk1] [(mo, .inr (8, [.long mbd, .int mby, .int mgr, .int mol, .ref aMM, .ref aMT, .int mmy, .ref aPD, .int mpm, .long mrd, .int mbm, .int mbw, .long mpl, .ref aST, .ref aPL, .ref aRS, .ref aLA, .ref aBM, .int msm, .ref aRP, .ref aFI, .ref aFM, .ref aGB, .ref aGM, .ref aGV, .ref aGR, .int mgs, .ref aKB, .ref aKP, .ref aIK, .int mka, .int miw])), (aPD, .inl (gI G, 48, .inl xpd))] (some (.int r)) [(mo, .inr (8, [.long mbd, .int mby, .int mgr, .int mol, .ref aMM, .ref aMT, .int mmy, .ref aPD, .int mpm, .long mrd, .int mbm, .int mbw, .long mpl, .ref aST, .ref aPL, .ref aRS, .ref aLA, .ref aBM, .int msm, .ref aRP, .ref aFI, .ref aFM, .ref aGB, .ref aGM, .ref aGV, .ref aGR, .int mgs, .ref aKB, .ref aKP, .ref aIK, .int mka, .int miw])), (aPD, .inl (gI G, 48, .inl xpd))] := by
  refine HM.ofW (by decide) (Nat.le_of_ble_eq_true rfl) ?_
  intro p e s m args below meth c A post hpost hC hP hD hS ls hl
  obtain ⟨hx, hb, hr, hml, hown, hts, hlk, hE, hA⟩ := hC
  have hl : lv_has ls 2 [(0, .ref mo), (1, .int kk1)] := hl
  unfold f_X10_numberAt at hF
  refine lv_bipush (v := 100) hx hb dX10_numberAt_0 (by decide) ?_
  refine lv_aload_n hx hb dX10_numberAt_2 rfl (lv_at hl 0 rfl) ?_
  refine lv_iload_n hx hb dX10_numberAt_3 rfl (lv_at hl 1 rfl) ?_
  obtain ⟨r4_1, hr4_1, hF⟩ := bnd hF
  refine hm_V (wn := [(mo, .inr (8, [.long mbd, .int mby, .int mgr, .int mol, .ref aMM, .ref aMT, .int mmy, .ref aPD, .int mpm, .long mrd, .int mbm, .int mbw, .long mpl, .ref aST, .ref aPL, .ref aRS, .ref aLA, .ref aBM, .int msm, .ref aRP, .ref aFI, .ref aFM, .ref aGB, .ref aGM, .ref aGV, .ref aGR, .int mgs, .ref aKB, .ref aKP, .ref aIK, .int mka, .int miw])), (aPD, .inl (gI G, 48, .inl xpd))]) (wr := []) (rest := [.int 100]) (sn := [.int r4_1, .int 100]) hx hb hml hown hts hE hA (k_X10_fromAt G l mo aMM aMT aPD aST aPL aRS aLA aBM aRP aFI aFM aGB aGM aGV aGR aKB aKP aIK mbd mby mgr mol mmy mpm mrd mbm mbw mpl msm mgs mka miw xpd kk1 r4_1 hr4_1) sm_X10_fromAt mw_946 ⟨rfl, rfl, Nat.le_of_ble_eq_true rfl, Nat.le_of_ble_eq_true rfl⟩ hP hD hS 0 rfl rfl [0, 1] [] [0, 1] rfl rfl rfl (by decide) hl.1 rfl rfl (Nat.le_of_ble_eq_true rfl) dX10_numberAt_4 ⟨Nat.le_of_ble_eq_true rfl, Nat.le_of_ble_eq_true rfl⟩ (fun H locs hP hD hS => ?_)
  refine lv_imul hx hb dX10_numberAt_7 ?_
  refine lv_aload_n hx hb dX10_numberAt_8 rfl (lv_at hl 0 rfl) ?_
  refine lv_iload_n hx hb dX10_numberAt_9 rfl (lv_at hl 1 rfl) ?_
  obtain ⟨r10_2, hr10_2, hF⟩ := bnd hF
  refine hm_V (wn := [(mo, .inr (8, [.long mbd, .int mby, .int mgr, .int mol, .ref aMM, .ref aMT, .int mmy, .ref aPD, .int mpm, .long mrd, .int mbm, .int mbw, .long mpl, .ref aST, .ref aPL, .ref aRS, .ref aLA, .ref aBM, .int msm, .ref aRP, .ref aFI, .ref aFM, .ref aGB, .ref aGM, .ref aGV, .ref aGR, .int mgs, .ref aKB, .ref aKP, .ref aIK, .int mka, .int miw])), (aPD, .inl (gI G, 48, .inl xpd))]) (wr := []) (rest := [.int (100 * r4_1)]) (sn := [.int r10_2, .int (100 * r4_1)]) hx hb hml hown hts hE hA (k_X10_toAt G l mo aMM aMT aPD aST aPL aRS aLA aBM aRP aFI aFM aGB aGM aGV aGR aKB aKP aIK mbd mby mgr mol mmy mpm mrd mbm mbw mpl msm mgs mka miw xpd kk1 r10_2 hr10_2) sm_X10_toAt mw_950 ⟨rfl, rfl, Nat.le_of_ble_eq_true rfl, Nat.le_of_ble_eq_true rfl⟩ hP hD hS 0 rfl rfl [0, 1] [] [0, 1] rfl rfl rfl (by decide) hl.1 rfl rfl (Nat.le_of_ble_eq_true rfl) dX10_numberAt_10 ⟨Nat.le_of_ble_eq_true rfl, Nat.le_of_ble_eq_true rfl⟩ (fun H locs hP hD hS => ?_)
  refine lv_iadd hx hb dX10_numberAt_13 ?_
  have hF := Option.some.inj hF
  subst hF
  exact hm_iret hx hb hr hlk hP hD hS hpost dX10_numberAt_14
def f_X10_book_L76 (xpd : (Nat → Int32)) : Nat → Int32 → Int32 → Int32 → Int32 → Int64 → Int32 → (Nat → Int64) → (Nat → Int32) → (Nat → Int32) → (Nat → Int32) → Option (Int32 × Int32 × Int32 × (Nat → Int64) × (Nat → Int32) × (Nat → Int32) × (Nat → Int32) × Int64 × Int32 × Int32)
  | 0, _, _, _, _, _, _, _, _, _, _ => none
  | n+1, x1_13, mpm_14, mbm_15, mbw_16, mpl_17, mgs_18, xgb_19, xgm_20, xgv_21, xgr_22 =>
  if (mpm_14 / 4) ≤ x1_13 then jlet (mgs_18 + 1) (fun u123_24 => some ((u123_24 - 1), u123_24, 0, xgb_19, xgm_20, xgv_21, xgr_22, mpl_17, mbm_15, mbw_16)) else Option.bind (f_X10_numberAt xpd x1_13) (fun r101_25 => if (((12 * mgs_18) + x1_13)) < 0 ∨ 96 ≤ (((12 * mgs_18) + x1_13)).toNatClampNeg then none else jlet (upd xgv_21 (((12 * mgs_18) + x1_13)).toNatClampNeg r101_25) (fun a104_27 => jlet (x1_13 + 1) (fun v1_28 => (f_X10_book_L76 xpd n) v1_28 mpm_14 mbm_15 mbw_16 mpl_17 mgs_18 xgb_19 xgm_20 a104_27 xgr_22)))
def f_X10_book (mbd : Int64) (mby : Int32) (mgr : Int32) (mol : Int32) (mpm : Int32) (mbm : Int32) (mbw : Int32) (mpl : Int64) (mgs : Int32) (xpd : (Nat → Int32)) (xgb : (Nat → Int64)) (xgm : (Nat → Int32)) (xgv : (Nat → Int32)) (xgr : (Nat → Int32)) : Option (Int32 × Int32 × Int32 × (Nat → Int64) × (Nat → Int32) × (Nat → Int32) × (Nat → Int32) × Int64 × Int32 × Int32) :=
  Option.bind (f_X10_faultOfGame mpm xpd) (fun r1_1 => if 0 ≤ r1_1 then some ((-5), mgs, mpm, xgb, xgm, xgv, xgr, mpl, mbm, mbw) else Option.bind (f_X10_goGame mbd mby mgr mol mpm xpd) (fun r8_3 => if r8_3.1 = 0 then some ((-5), mgs, mpm, xgb, xgm, xgv, xgr, r8_3.2.1, r8_3.2.2.1, r8_3.2.2.2) else if mgs = 8 then some ((-4), mgs, mpm, xgb, xgm, xgv, xgr, r8_3.2.1, r8_3.2.2.1, r8_3.2.2.2) else if (mgs) < 0 ∨ 8 ≤ (mgs).toNatClampNeg then none else jlet (vp_updL xgb (mgs).toNatClampNeg mbd) (fun a41_7 => if (mgs) < 0 ∨ 8 ≤ (mgs).toNatClampNeg then none else jlet (upd xgm (mgs).toNatClampNeg (mpm / 4)) (fun a56_9 => Option.bind (f_X10_broughtBy mby mgr mol r8_3.2.1) (fun r70_10 => if (mgs) < 0 ∨ 8 ≤ (mgs).toNatClampNeg then none else jlet (upd xgr (mgs).toNatClampNeg r70_10) (fun a73_12 => f_X10_book_L76 xpd 100 0 mpm r8_3.2.2.1 r8_3.2.2.2 r8_3.2.1 mgs a41_7 a56_9 xgv a73_12))))))
abbrev rm_X10_book : Room := { frames := 10, cells := 0, slots := 0, locals := 240 }
set_option maxHeartbeats 4000000 in
set_option maxRecDepth 100000 in
theorem k_X10_book (G : gT) (l : Launch) (mo : Nat) (aMM : Nat) (aMT : Nat) (aPD : Nat) (aST : Nat) (aPL : Nat) (aRS : Nat) (aLA : Nat) (aBM : Nat) (aRP : Nat) (aFI : Nat) (aFM : Nat) (aGB : Nat) (aGM : Nat) (aGV : Nat) (aGR : Nat) (aKB : Nat) (aKP : Nat) (aIK : Nat) (mbd : Int64) (mby : Int32) (mgr : Int32) (mol : Int32) (mmy : Int32) (mpm : Int32) (mrd : Int64) (mbm : Int32) (mbw : Int32) (mpl : Int64) (msm : Int32) (mgs : Int32) (mka : Int32) (miw : Int32) (xpd : (Nat → Int32)) (xgb : (Nat → Int64)) (xgm : (Nat → Int32)) (xgv : (Nat → Int32)) (xgr : (Nat → Int32)) (r : Int32 × Int32 × Int32 × (Nat → Int64) × (Nat → Int32) × (Nat → Int32) × (Nat → Int32) × Int64 × Int32 × Int32) (hF : f_X10_book mbd mby mgr mol mpm mbm mbw mpl mgs xpd xgb xgm xgv xgr = some r) : HM G l yX10_book (.code yX10_book cX10_book 2 (some .int) :: UW) rm_X10_book 0 0 [.ref mo] [(mo, .inr (8, [.long mbd, .int mby, .int mgr, .int mol, .ref aMM, .ref aMT, .int mmy, .ref aPD, .int mpm, .long mrd, .int mbm, .int mbw, .long mpl, .ref aST, .ref aPL, .ref aRS, .ref aLA, .ref aBM, .int msm, .ref aRP, .ref aFI, .ref aFM, .ref aGB, .ref aGM, .ref aGV, .ref aGR, .int mgs, .ref aKB, .ref aKP, .ref aIK, .int mka, .int miw])), (aPD, .inl (gI G, 48, .inl xpd)), (aGB, .inl (gJ G, 8, .inr (.inl xgb))), (aGM, .inl (gI G, 8, .inl xgm)), (aGV, .inl (gI G, 96, .inl xgv)), (aGR, .inl (gI G, 8, .inl xgr))] (some (.int r.1)) [(mo, .inr (8, [.long mbd, .int mby, .int mgr, .int mol, .ref aMM, .ref aMT, .int mmy, .ref aPD, .int r.2.2.1, .long mrd, .int r.2.2.2.2.2.2.2.2.1, .int r.2.2.2.2.2.2.2.2.2, .long r.2.2.2.2.2.2.2.1, .ref aST, .ref aPL, .ref aRS, .ref aLA, .ref aBM, .int msm, .ref aRP, .ref aFI, .ref aFM, .ref aGB, .ref aGM, .ref aGV, .ref aGR, .int r.2.1, .ref aKB, .ref aKP, .ref aIK, .int mka, .int miw])), (aPD, .inl (gI G, 48, .inl xpd)), (aGB, .inl (gJ G, 8, .inr (.inl r.2.2.2.1))), (aGM, .inl (gI G, 8, .inl r.2.2.2.2.1)), (aGV, .inl (gI G, 96, .inl r.2.2.2.2.2.1)), (aGR, .inl (gI G, 8, .inl r.2.2.2.2.2.2.1))] := by
  refine HM.ofW (by decide) (Nat.le_of_ble_eq_true rfl) ?_
  intro p e s m args below meth c A post hpost hC hP hD hS ls hl
  obtain ⟨hx, hb, hr, hml, hown, hts, hlk, hE, hA⟩ := hC
  have hl : lv_has ls 2 [(0, .ref mo)] := hl
  unfold f_X10_book at hF
  refine lv_aload_n hx hb dX10_book_0 rfl (lv_at hl 0 rfl) ?_
  obtain ⟨r1_1, hr1_1, hF⟩ := bnd hF
  refine hm_V (wn := [(mo, .inr (8, [.long mbd, .int mby, .int mgr, .int mol, .ref aMM, .ref aMT, .int mmy, .ref aPD, .int mpm, .long mrd, .int mbm, .int mbw, .long mpl, .ref aST, .ref aPL, .ref aRS, .ref aLA, .ref aBM, .int msm, .ref aRP, .ref aFI, .ref aFM, .ref aGB, .ref aGM, .ref aGV, .ref aGR, .int mgs, .ref aKB, .ref aKP, .ref aIK, .int mka, .int miw])), (aPD, .inl (gI G, 48, .inl xpd)), (aGB, .inl (gJ G, 8, .inr (.inl xgb))), (aGM, .inl (gI G, 8, .inl xgm)), (aGV, .inl (gI G, 96, .inl xgv)), (aGR, .inl (gI G, 8, .inl xgr))]) (wr := [(aGB, .inl (gJ G, 8, .inr (.inl xgb))), (aGM, .inl (gI G, 8, .inl xgm)), (aGV, .inl (gI G, 96, .inl xgv)), (aGR, .inl (gI G, 8, .inl xgr))]) (rest := []) (sn := [.int r1_1]) hx hb hml hown hts hE hA (k_X10_faultOfGame G l mo aMM aMT aPD aST aPL aRS aLA aBM aRP aFI aFM aGB aGM aGV aGR aKB aKP aIK mbd mby mgr mol mmy mpm mrd mbm mbw mpl msm mgs mka miw xpd r1_1 hr1_1) sm_X10_faultOfGame mw_865 ⟨rfl, rfl, Nat.le_of_ble_eq_true rfl, Nat.le_of_ble_eq_true rfl⟩ hP hD hS 0 rfl rfl [0, 1] [2, 3, 4, 5] [4, 5, 0, 1, 2, 3] rfl rfl rfl (by decide) hl.1 rfl rfl (Nat.le_of_ble_eq_true rfl) dX10_book_1 ⟨Nat.le_of_ble_eq_true rfl, Nat.le_of_ble_eq_true rfl⟩ (fun H locs hP hD hS => ?_)
  refine lv_if_ge (tgt := 14) hx hb dX10_book_4 (by decide) (fun c_2 => ?_) (fun c_2 => ?_)
  · have hF := ifp hF c_2
    refine lv_bipush (v := (-5)) hx hb dX10_book_14 (by decide) ?_
    have hF := Option.some.inj hF
    subst hF
    exact hm_iret hx hb hr hlk hP hD hS hpost dX10_book_16
  · have hF := ifn hF c_2
    refine lv_aload_n hx hb dX10_book_7 rfl (lv_at hl 0 rfl) ?_
    obtain ⟨r8_3, hr8_3, hF⟩ := bnd hF
    refine hm_V (wn := [(mo, .inr (8, [.long mbd, .int mby, .int mgr, .int mol, .ref aMM, .ref aMT, .int mmy, .ref aPD, .int mpm, .long mrd, .int r8_3.2.2.1, .int r8_3.2.2.2, .long r8_3.2.1, .ref aST, .ref aPL, .ref aRS, .ref aLA, .ref aBM, .int msm, .ref aRP, .ref aFI, .ref aFM, .ref aGB, .ref aGM, .ref aGV, .ref aGR, .int mgs, .ref aKB, .ref aKP, .ref aIK, .int mka, .int miw])), (aPD, .inl (gI G, 48, .inl xpd)), (aGB, .inl (gJ G, 8, .inr (.inl xgb))), (aGM, .inl (gI G, 8, .inl xgm)), (aGV, .inl (gI G, 96, .inl xgv)), (aGR, .inl (gI G, 8, .inl xgr))]) (wr := [(aGB, .inl (gJ G, 8, .inr (.inl xgb))), (aGM, .inl (gI G, 8, .inl xgm)), (aGV, .inl (gI G, 96, .inl xgv)), (aGR, .inl (gI G, 8, .inl xgr))]) (rest := []) (sn := [.int r8_3.1]) hx hb hml hown hts hE hA (k_X10_goGame G l mo aMM aMT aPD aST aPL aRS aLA aBM aRP aFI aFM aGB aGM aGV aGR aKB aKP aIK mbd mby mgr mol mmy mpm mrd mbm mbw mpl msm mgs mka miw xpd r8_3 hr8_3) sm_X10_goGame mw_938 ⟨rfl, rfl, Nat.le_of_ble_eq_true rfl, Nat.le_of_ble_eq_true rfl⟩ hP hD hS 0 rfl rfl [0, 1] [2, 3, 4, 5] [4, 5, 0, 1, 2, 3] rfl rfl rfl (by decide) hl.1 rfl rfl (Nat.le_of_ble_eq_true rfl) dX10_book_8 ⟨Nat.le_of_ble_eq_true rfl, Nat.le_of_ble_eq_true rfl⟩ (fun H locs hP hD hS => ?_)
    refine lv_if_ne (tgt := 17) hx hb dX10_book_11 (by decide) (fun c_4 => ?_) (fun c_4 => ?_)
    · have hF := ifn hF c_4
      refine lv_aload_n hx hb dX10_book_17 rfl (lv_at hl 0 rfl) ?_
      refine hget hx hb hts hown hE fl_X10_258 hP 0 rfl rfl dX10_book_18 ?_
      refine lv_bipush (v := 8) hx hb dX10_book_21 (by decide) ?_
      refine lv_icmp_ne (tgt := 29) hx hb dX10_book_23 (by decide) (fun c_5 => ?_) (fun c_5 => ?_)
      · have hF := ifn hF c_5
        refine lv_aload_n hx hb dX10_book_29 rfl (lv_at hl 0 rfl) ?_
        refine hget hx hb hts hown hE fl_X10_45 hP 0 rfl rfl dX10_book_30 ?_
        refine lv_aload_n hx hb dX10_book_33 rfl (lv_at hl 0 rfl) ?_
        refine hget hx hb hts hown hE fl_X10_258 hP 0 rfl rfl dX10_book_34 ?_
        refine lv_aload_n hx hb dX10_book_37 rfl (lv_at hl 0 rfl) ?_
        refine hget hx hb hts hown hE fl_X10_69 hP 0 rfl rfl dX10_book_38 ?_
        obtain ⟨hi_6, hF⟩ := inb hF
        obtain ⟨a41_7, ea41_7⟩ : ∃ z : (Nat → Int64), z = vp_updL xgb (mgs).toNatClampNeg mbd := ⟨_, rfl⟩
        have hF := jl hF ea41_7
        refine hlast hx hb hE hP hD hS 2 rfl hi_6 (wn := [(mo, .inr (8, [.long mbd, .int mby, .int mgr, .int mol, .ref aMM, .ref aMT, .int mmy, .ref aPD, .int mpm, .long mrd, .int r8_3.2.2.1, .int r8_3.2.2.2, .long r8_3.2.1, .ref aST, .ref aPL, .ref aRS, .ref aLA, .ref aBM, .int msm, .ref aRP, .ref aFI, .ref aFM, .ref aGB, .ref aGM, .ref aGV, .ref aGR, .int mgs, .ref aKB, .ref aKP, .ref aIK, .int mka, .int miw])), (aPD, .inl (gI G, 48, .inl xpd)), (aGB, .inl (gJ G, 8, .inr (.inl a41_7))), (aGM, .inl (gI G, 8, .inl xgm)), (aGV, .inl (gI G, 96, .inl xgv)), (aGR, .inl (gI G, 8, .inl xgr))]) (by rw [ea41_7]; rfl) dX10_book_41 (fun H locs hP hD hS => ?_)
        refine lv_aload_n hx hb dX10_book_42 rfl (lv_at hl 0 rfl) ?_
        refine hget hx hb hts hown hE fl_X10_48 hP 0 rfl rfl dX10_book_43 ?_
        refine lv_aload_n hx hb dX10_book_46 rfl (lv_at hl 0 rfl) ?_
        refine hget hx hb hts hown hE fl_X10_258 hP 0 rfl rfl dX10_book_47 ?_
        refine lv_aload_n hx hb dX10_book_50 rfl (lv_at hl 0 rfl) ?_
        refine hget hx hb hts hown hE fl_X10_146 hP 0 rfl rfl dX10_book_51 ?_
        refine lv_iconst (v := 4) hx hb dX10_book_54 (by decide) ?_
        refine lv_idiv hx hb dX10_book_55 (by decide) ?_
        obtain ⟨hi_8, hF⟩ := inb hF
        obtain ⟨a56_9, ea56_9⟩ : ∃ z : (Nat → Int32), z = upd xgm (mgs).toNatClampNeg (mpm / 4) := ⟨_, rfl⟩
        have hF := jl hF ea56_9
        refine hiast hx hb hE hP hD hS 3 rfl hi_8 (wn := [(mo, .inr (8, [.long mbd, .int mby, .int mgr, .int mol, .ref aMM, .ref aMT, .int mmy, .ref aPD, .int mpm, .long mrd, .int r8_3.2.2.1, .int r8_3.2.2.2, .long r8_3.2.1, .ref aST, .ref aPL, .ref aRS, .ref aLA, .ref aBM, .int msm, .ref aRP, .ref aFI, .ref aFM, .ref aGB, .ref aGM, .ref aGV, .ref aGR, .int mgs, .ref aKB, .ref aKP, .ref aIK, .int mka, .int miw])), (aPD, .inl (gI G, 48, .inl xpd)), (aGB, .inl (gJ G, 8, .inr (.inl a41_7))), (aGM, .inl (gI G, 8, .inl a56_9)), (aGV, .inl (gI G, 96, .inl xgv)), (aGR, .inl (gI G, 8, .inl xgr))]) (by rw [ea56_9]; rfl) dX10_book_56 (fun H locs hP hD hS => ?_)
        refine lv_aload_n hx hb dX10_book_57 rfl (lv_at hl 0 rfl) ?_
        refine hget hx hb hts hown hE fl_X10_54 hP 0 rfl rfl dX10_book_58 ?_
        refine lv_aload_n hx hb dX10_book_61 rfl (lv_at hl 0 rfl) ?_
        refine hget hx hb hts hown hE fl_X10_258 hP 0 rfl rfl dX10_book_62 ?_
        refine lv_aload_n hx hb dX10_book_65 rfl (lv_at hl 0 rfl) ?_
        refine lv_aload_n hx hb dX10_book_66 rfl (lv_at hl 0 rfl) ?_
        refine hget hx hb hts hown hE fl_X10_187 hP 0 rfl rfl dX10_book_67 ?_
        obtain ⟨r70_10, hr70_10, hF⟩ := bnd hF
        refine hm_V (wn := [(mo, .inr (8, [.long mbd, .int mby, .int mgr, .int mol, .ref aMM, .ref aMT, .int mmy, .ref aPD, .int mpm, .long mrd, .int r8_3.2.2.1, .int r8_3.2.2.2, .long r8_3.2.1, .ref aST, .ref aPL, .ref aRS, .ref aLA, .ref aBM, .int msm, .ref aRP, .ref aFI, .ref aFM, .ref aGB, .ref aGM, .ref aGV, .ref aGR, .int mgs, .ref aKB, .ref aKP, .ref aIK, .int mka, .int miw])), (aPD, .inl (gI G, 48, .inl xpd)), (aGB, .inl (gJ G, 8, .inr (.inl a41_7))), (aGM, .inl (gI G, 8, .inl a56_9)), (aGV, .inl (gI G, 96, .inl xgv)), (aGR, .inl (gI G, 8, .inl xgr))]) (wr := [(aPD, .inl (gI G, 48, .inl xpd)), (aGB, .inl (gJ G, 8, .inr (.inl a41_7))), (aGM, .inl (gI G, 8, .inl a56_9)), (aGV, .inl (gI G, 96, .inl xgv)), (aGR, .inl (gI G, 8, .inl xgr))]) (rest := [.int mgs, .ref aGR]) (sn := [.int r70_10, .int mgs, .ref aGR]) hx hb hml hown hts hE hA (k_X10_broughtBy G l mo aMM aMT aPD aST aPL aRS aLA aBM aRP aFI aFM aGB aGM aGV aGR aKB aKP aIK mbd mby mgr mol mmy mpm mrd r8_3.2.2.1 r8_3.2.2.2 r8_3.2.1 msm mgs mka miw r8_3.2.1 r70_10 hr70_10) sm_X10_broughtBy mw_908 ⟨rfl, rfl, Nat.le_of_ble_eq_true rfl, Nat.le_of_ble_eq_true rfl⟩ hP hD hS 0 rfl rfl [0] [1, 2, 3, 4, 5] [5, 0, 1, 2, 3, 4] rfl rfl rfl (by decide) hl.1 rfl rfl (Nat.le_of_ble_eq_true rfl) dX10_book_70 ⟨Nat.le_of_ble_eq_true rfl, Nat.le_of_ble_eq_true rfl⟩ (fun H locs hP hD hS => ?_)
        obtain ⟨hi_11, hF⟩ := inb hF
        obtain ⟨a73_12, ea73_12⟩ : ∃ z : (Nat → Int32), z = upd xgr (mgs).toNatClampNeg r70_10 := ⟨_, rfl⟩
        have hF := jl hF ea73_12
        refine hiast hx hb hE hP hD hS 5 rfl hi_11 (wn := [(mo, .inr (8, [.long mbd, .int mby, .int mgr, .int mol, .ref aMM, .ref aMT, .int mmy, .ref aPD, .int mpm, .long mrd, .int r8_3.2.2.1, .int r8_3.2.2.2, .long r8_3.2.1, .ref aST, .ref aPL, .ref aRS, .ref aLA, .ref aBM, .int msm, .ref aRP, .ref aFI, .ref aFM, .ref aGB, .ref aGM, .ref aGV, .ref aGR, .int mgs, .ref aKB, .ref aKP, .ref aIK, .int mka, .int miw])), (aPD, .inl (gI G, 48, .inl xpd)), (aGB, .inl (gJ G, 8, .inr (.inl a41_7))), (aGM, .inl (gI G, 8, .inl a56_9)), (aGV, .inl (gI G, 96, .inl xgv)), (aGR, .inl (gI G, 8, .inl a73_12))]) (by rw [ea73_12]; rfl) dX10_book_73 (fun H locs hP hD hS => ?_)
        refine lv_iconst (v := 0) hx hb dX10_book_74 (by decide) ?_
        refine lv_istore_n (lv' := [(1, .int 0), (0, .ref mo)]) hx hb dX10_book_75 rfl hl (by decide) rfl (fun ls hl => ?_)
        have hL76 : ∀ (n76 : Nat) (x1_13 : Int32) (mpm_14 : Int32) (mbm_15 : Int32) (mbw_16 : Int32) (mpl_17 : Int64) (mgs_18 : Int32) (xgb_19 : (Nat → Int64)) (xgm_20 : (Nat → Int32)) (xgv_21 : (Nat → Int32)) (xgr_22 : (Nat → Int32)) (H : Heap) (locs : List Loc) (ls : Array Slot), f_X10_book_L76 xpd n76 x1_13 mpm_14 mbm_15 mbw_16 mpl_17 mgs_18 xgb_19 xgm_20 xgv_21 xgr_22 = some r → va_P (gD G) vwCl [(mo, .inr (8, [.long mbd, .int mby, .int mgr, .int mol, .ref aMM, .ref aMT, .int mmy, .ref aPD, .int mpm_14, .long mrd, .int mbm_15, .int mbw_16, .long mpl_17, .ref aST, .ref aPL, .ref aRS, .ref aLA, .ref aBM, .int msm, .ref aRP, .ref aFI, .ref aFM, .ref aGB, .ref aGM, .ref aGV, .ref aGR, .int mgs_18, .ref aKB, .ref aKP, .ref aIK, .int mka, .int miw])), (aPD, .inl (gI G, 48, .inl xpd)), (aGB, .inl (gJ G, 8, .inr (.inl xgb_19))), (aGM, .inl (gI G, 8, .inl xgm_20)), (aGV, .inl (gI G, 96, .inl xgv_21)), (aGR, .inl (gI G, 8, .inl xgr_22))] H → va_D A [(mo, .inr (8, [.long mbd, .int mby, .int mgr, .int mol, .ref aMM, .ref aMT, .int mmy, .ref aPD, .int mpm_14, .long mrd, .int mbm_15, .int mbw_16, .long mpl_17, .ref aST, .ref aPL, .ref aRS, .ref aLA, .ref aBM, .int msm, .ref aRP, .ref aFI, .ref aFM, .ref aGB, .ref aGM, .ref aGV, .ref aGR, .int mgs_18, .ref aKB, .ref aKP, .ref aIK, .int mka, .int miw])), (aPD, .inl (gI G, 48, .inl xpd)), (aGB, .inl (gJ G, 8, .inr (.inl xgb_19))), (aGM, .inl (gI G, 8, .inl xgm_20)), (aGV, .inl (gI G, 96, .inl xgv_21)), (aGR, .inl (gI G, 8, .inl xgr_22))] → va_S A s.heap H locs → lv_has ls 2 [(0, .ref mo), (1, .int x1_13)] → W p l e rm_X10_book s m args below meth c H locs 0 0 (MQ below (HXq G post A) args s 0 0 A) (F0 m 76 ls []) := by
          intro n76
          induction n76 with
          | zero =>
            intro x1_13 mpm_14 mbm_15 mbw_16 mpl_17 mgs_18 xgb_19 xgm_20 xgv_21 xgr_22 H locs ls hF
            exact absurd hF (fun h => by cases h)
          | succ n76 ih76 =>
            intro x1_13 mpm_14 mbm_15 mbw_16 mpl_17 mgs_18 xgb_19 xgm_20 xgv_21 xgr_22 H locs ls hF hP hD hS hl
            unfold f_X10_book_L76 at hF
            refine lv_iload_n hx hb dX10_book_76 rfl (lv_at hl 1 rfl) ?_
            refine lv_aload_n hx hb dX10_book_77 rfl (lv_at hl 0 rfl) ?_
            refine hget hx hb hts hown hE fl_X10_146 hP 0 rfl rfl dX10_book_78 ?_
            refine lv_iconst (v := 4) hx hb dX10_book_81 (by decide) ?_
            refine lv_idiv hx hb dX10_book_82 (by decide) ?_
            refine lv_icmp_ge (tgt := 111) hx hb dX10_book_83 (by decide) (fun c_23 => ?_) (fun c_23 => ?_)
            · have hF := ifp hF c_23
              refine lv_aload_n hx hb dX10_book_111 rfl (lv_at hl 0 rfl) ?_
              refine lv_iconst (v := 0) hx hb dX10_book_112 (by decide) ?_
              refine hput hx hb hts hown hE fl_X10_146 ft_X10_8 hP hD hS 0 rfl rfl rfl rfl (Nat.le_of_ble_eq_true rfl) (wn := [(mo, .inr (8, [.long mbd, .int mby, .int mgr, .int mol, .ref aMM, .ref aMT, .int mmy, .ref aPD, .int 0, .long mrd, .int mbm_15, .int mbw_16, .long mpl_17, .ref aST, .ref aPL, .ref aRS, .ref aLA, .ref aBM, .int msm, .ref aRP, .ref aFI, .ref aFM, .ref aGB, .ref aGM, .ref aGV, .ref aGR, .int mgs_18, .ref aKB, .ref aKP, .ref aIK, .int mka, .int miw])), (aPD, .inl (gI G, 48, .inl xpd)), (aGB, .inl (gJ G, 8, .inr (.inl xgb_19))), (aGM, .inl (gI G, 8, .inl xgm_20)), (aGV, .inl (gI G, 96, .inl xgv_21)), (aGR, .inl (gI G, 8, .inl xgr_22))]) rfl dX10_book_113 (fun H locs hP hD hS => ?_)
              refine lv_aload_n hx hb dX10_book_116 rfl (lv_at hl 0 rfl) ?_
              refine lv_dup hx hb dX10_book_117 rfl ?_
              refine hget hx hb hts hown hE fl_X10_258 hP 0 rfl rfl dX10_book_118 ?_
              refine lv_iconst (v := 1) hx hb dX10_book_121 (by decide) ?_
              refine lv_iadd hx hb dX10_book_122 ?_
              refine lv_topi (fun u123_24 eu123_24 => ?_)
              have hF := jl hF eu123_24
              refine hput hx hb hts hown hE fl_X10_258 ft_X10_26 hP hD hS 0 rfl rfl rfl rfl (Nat.le_of_ble_eq_true rfl) (wn := [(mo, .inr (8, [.long mbd, .int mby, .int mgr, .int mol, .ref aMM, .ref aMT, .int mmy, .ref aPD, .int 0, .long mrd, .int mbm_15, .int mbw_16, .long mpl_17, .ref aST, .ref aPL, .ref aRS, .ref aLA, .ref aBM, .int msm, .ref aRP, .ref aFI, .ref aFM, .ref aGB, .ref aGM, .ref aGV, .ref aGR, .int u123_24, .ref aKB, .ref aKP, .ref aIK, .int mka, .int miw])), (aPD, .inl (gI G, 48, .inl xpd)), (aGB, .inl (gJ G, 8, .inr (.inl xgb_19))), (aGM, .inl (gI G, 8, .inl xgm_20)), (aGV, .inl (gI G, 96, .inl xgv_21)), (aGR, .inl (gI G, 8, .inl xgr_22))]) rfl dX10_book_123 (fun H locs hP hD hS => ?_)
              refine lv_aload_n hx hb dX10_book_126 rfl (lv_at hl 0 rfl) ?_
              refine hget hx hb hts hown hE fl_X10_258 hP 0 rfl rfl dX10_book_127 ?_
              refine lv_iconst (v := 1) hx hb dX10_book_130 (by decide) ?_
              refine lv_isub hx hb dX10_book_131 ?_
              have hF := Option.some.inj hF
              subst hF
              exact hm_iret hx hb hr hlk hP hD hS hpost dX10_book_132
            · have hF := ifn hF c_23
              refine lv_aload_n hx hb dX10_book_86 rfl (lv_at hl 0 rfl) ?_
              refine hget hx hb hts hown hE fl_X10_51 hP 0 rfl rfl dX10_book_87 ?_
              refine lv_bipush (v := 12) hx hb dX10_book_90 (by decide) ?_
              refine lv_aload_n hx hb dX10_book_92 rfl (lv_at hl 0 rfl) ?_
              refine hget hx hb hts hown hE fl_X10_258 hP 0 rfl rfl dX10_book_93 ?_
              refine lv_imul hx hb dX10_book_96 ?_
              refine lv_iload_n hx hb dX10_book_97 rfl (lv_at hl 1 rfl) ?_
              refine lv_iadd hx hb dX10_book_98 ?_
              refine lv_aload_n hx hb dX10_book_99 rfl (lv_at hl 0 rfl) ?_
              refine lv_iload_n hx hb dX10_book_100 rfl (lv_at hl 1 rfl) ?_
              obtain ⟨r101_25, hr101_25, hF⟩ := bnd hF
              refine hm_V (wn := [(mo, .inr (8, [.long mbd, .int mby, .int mgr, .int mol, .ref aMM, .ref aMT, .int mmy, .ref aPD, .int mpm_14, .long mrd, .int mbm_15, .int mbw_16, .long mpl_17, .ref aST, .ref aPL, .ref aRS, .ref aLA, .ref aBM, .int msm, .ref aRP, .ref aFI, .ref aFM, .ref aGB, .ref aGM, .ref aGV, .ref aGR, .int mgs_18, .ref aKB, .ref aKP, .ref aIK, .int mka, .int miw])), (aPD, .inl (gI G, 48, .inl xpd)), (aGB, .inl (gJ G, 8, .inr (.inl xgb_19))), (aGM, .inl (gI G, 8, .inl xgm_20)), (aGV, .inl (gI G, 96, .inl xgv_21)), (aGR, .inl (gI G, 8, .inl xgr_22))]) (wr := [(aGB, .inl (gJ G, 8, .inr (.inl xgb_19))), (aGM, .inl (gI G, 8, .inl xgm_20)), (aGV, .inl (gI G, 96, .inl xgv_21)), (aGR, .inl (gI G, 8, .inl xgr_22))]) (rest := [.int ((12 * mgs_18) + x1_13), .ref aGV]) (sn := [.int r101_25, .int ((12 * mgs_18) + x1_13), .ref aGV]) hx hb hml hown hts hE hA (k_X10_numberAt G l mo aMM aMT aPD aST aPL aRS aLA aBM aRP aFI aFM aGB aGM aGV aGR aKB aKP aIK mbd mby mgr mol mmy mpm_14 mrd mbm_15 mbw_16 mpl_17 msm mgs_18 mka miw xpd x1_13 r101_25 hr101_25) sm_X10_numberAt mw_1038 ⟨rfl, rfl, Nat.le_of_ble_eq_true rfl, Nat.le_of_ble_eq_true rfl⟩ hP hD hS 0 rfl rfl [0, 1] [2, 3, 4, 5] [4, 5, 0, 1, 2, 3] rfl rfl rfl (by decide) hl.1 rfl rfl (Nat.le_of_ble_eq_true rfl) dX10_book_101 ⟨Nat.le_of_ble_eq_true rfl, Nat.le_of_ble_eq_true rfl⟩ (fun H locs hP hD hS => ?_)
              obtain ⟨hi_26, hF⟩ := inb hF
              obtain ⟨a104_27, ea104_27⟩ : ∃ z : (Nat → Int32), z = upd xgv_21 (((12 * mgs_18) + x1_13)).toNatClampNeg r101_25 := ⟨_, rfl⟩
              have hF := jl hF ea104_27
              refine hiast hx hb hE hP hD hS 4 rfl hi_26 (wn := [(mo, .inr (8, [.long mbd, .int mby, .int mgr, .int mol, .ref aMM, .ref aMT, .int mmy, .ref aPD, .int mpm_14, .long mrd, .int mbm_15, .int mbw_16, .long mpl_17, .ref aST, .ref aPL, .ref aRS, .ref aLA, .ref aBM, .int msm, .ref aRP, .ref aFI, .ref aFM, .ref aGB, .ref aGM, .ref aGV, .ref aGR, .int mgs_18, .ref aKB, .ref aKP, .ref aIK, .int mka, .int miw])), (aPD, .inl (gI G, 48, .inl xpd)), (aGB, .inl (gJ G, 8, .inr (.inl xgb_19))), (aGM, .inl (gI G, 8, .inl xgm_20)), (aGV, .inl (gI G, 96, .inl a104_27)), (aGR, .inl (gI G, 8, .inl xgr_22))]) (by rw [ea104_27]; rfl) dX10_book_104 (fun H locs hP hD hS => ?_)
              obtain ⟨v1_28, ev1_28⟩ : ∃ z : Int32, z = x1_13 + 1 := ⟨_, rfl⟩
              have hF := jl hF ev1_28
              refine lv_iinc (v := v1_28) (lv' := [(1, .int v1_28), (0, .ref mo)]) hx hb dX10_book_105 hl (k := 1) rfl (by rw [ev1_28]; rfl) (by decide) rfl (fun ls hl => ?_)
              refine lv_goto (tgt := 76) hx hb dX10_book_108 (by decide) ?_
              exact ih76 v1_28 mpm_14 mbm_15 mbw_16 mpl_17 mgs_18 xgb_19 xgm_20 a104_27 xgr_22 _ _ _ hF hP hD hS (lv_sub hl [1, 0] rfl)
        exact hL76 _ 0 mpm r8_3.2.2.1 r8_3.2.2.2 r8_3.2.1 mgs a41_7 a56_9 xgv a73_12 _ _ _ hF hP hD hS (lv_sub hl [1, 0] rfl)
      · have hF := ifp hF c_5
        refine lv_bipush (v := (-4)) hx hb dX10_book_26 (by decide) ?_
        have hF := Option.some.inj hF
        subst hF
        exact hm_iret hx hb hr hlk hP hD hS hpost dX10_book_28
    · have hF := ifp hF c_4
      refine lv_bipush (v := (-5)) hx hb dX10_book_14 (by decide) ?_
      have hF := Option.some.inj hF
      subst hF
      exact hm_iret hx hb hr hlk hP hD hS hpost dX10_book_16
def f_X10_booked (mgs : Int32) (xgm : (Nat → Int32)) (xgv : (Nat → Int32)) (xgr : (Nat → Int32)) (ga : Int32) (wh : Int32) : Option Int32 :=
  if (f_X10_in (ga.toInt64) 0 ((mgs - 1).toInt64)) = 0 then some (-1) else if (f_X10_in (wh.toInt64) 10 21) = 0 then if wh = 0 then if (ga) < 0 ∨ 8 ≤ (ga).toNatClampNeg then none else some (xgm (ga).toNatClampNeg) else if wh = 1 then if (ga) < 0 ∨ 8 ≤ (ga).toNatClampNeg then none else some (xgr (ga).toNatClampNeg) else some (-2) else if (ga) < 0 ∨ 8 ≤ (ga).toNatClampNeg then none else if (xgm (ga).toNatClampNeg) ≤ (wh - 10) then some (-6) else if ((((12 * ga) + wh) - 10)) < 0 ∨ 96 ≤ ((((12 * ga) + wh) - 10)).toNatClampNeg then none else some (xgv ((((12 * ga) + wh) - 10)).toNatClampNeg)
abbrev rm_X10_booked : Room := { frames := 1, cells := 0, slots := 0, locals := 25 }
set_option maxHeartbeats 4000000 in
set_option maxRecDepth 100000 in
theorem k_X10_booked (G : gT) (l : Launch) (mo : Nat) (aMM : Nat) (aMT : Nat) (aPD : Nat) (aST : Nat) (aPL : Nat) (aRS : Nat) (aLA : Nat) (aBM : Nat) (aRP : Nat) (aFI : Nat) (aFM : Nat) (aGB : Nat) (aGM : Nat) (aGV : Nat) (aGR : Nat) (aKB : Nat) (aKP : Nat) (aIK : Nat) (mbd : Int64) (mby : Int32) (mgr : Int32) (mol : Int32) (mmy : Int32) (mpm : Int32) (mrd : Int64) (mbm : Int32) (mbw : Int32) (mpl : Int64) (msm : Int32) (mgs : Int32) (mka : Int32) (miw : Int32) (xgm : (Nat → Int32)) (xgv : (Nat → Int32)) (xgr : (Nat → Int32)) (ga : Int32) (wh : Int32) (r : Int32) (hF : f_X10_booked mgs xgm xgv xgr ga wh = some r) : HM G l yX10_booked (.code yX10_booked cX10_booked 3 (some .int) :: UW) rm_X10_booked 0 0 [.ref mo, .int ga, .int wh] [(mo, .inr (8, [.long mbd, .int mby, .int mgr, .int mol, .ref aMM, .ref aMT, .int mmy, .ref aPD, .int mpm, .long mrd, .int mbm, .int mbw, .long mpl, .ref aST, .ref aPL, .ref aRS, .ref aLA, .ref aBM, .int msm, .ref aRP, .ref aFI, .ref aFM, .ref aGB, .ref aGM, .ref aGV, .ref aGR, .int mgs, .ref aKB, .ref aKP, .ref aIK, .int mka, .int miw])), (aGM, .inl (gI G, 8, .inl xgm)), (aGV, .inl (gI G, 96, .inl xgv)), (aGR, .inl (gI G, 8, .inl xgr))] (some (.int r)) [(mo, .inr (8, [.long mbd, .int mby, .int mgr, .int mol, .ref aMM, .ref aMT, .int mmy, .ref aPD, .int mpm, .long mrd, .int mbm, .int mbw, .long mpl, .ref aST, .ref aPL, .ref aRS, .ref aLA, .ref aBM, .int msm, .ref aRP, .ref aFI, .ref aFM, .ref aGB, .ref aGM, .ref aGV, .ref aGR, .int mgs, .ref aKB, .ref aKP, .ref aIK, .int mka, .int miw])), (aGM, .inl (gI G, 8, .inl xgm)), (aGV, .inl (gI G, 96, .inl xgv)), (aGR, .inl (gI G, 8, .inl xgr))] := by
  refine HM.ofW (by decide) (Nat.le_of_ble_eq_true rfl) ?_
  intro p e s m args below meth c A post hpost hC hP hD hS ls hl
  obtain ⟨hx, hb, hr, hml, hown, hts, hlk, hE, hA⟩ := hC
  have hl : lv_has ls 3 [(0, .ref mo), (1, .int ga), (2, .int wh)] := hl
  unfold f_X10_booked at hF
  refine lv_iload_n hx hb dX10_booked_0 rfl (lv_at hl 1 rfl) ?_
  refine lv_i2l (v := (ga.toInt64)) hx hb dX10_booked_1 rfl ?_
  refine lv_lconst (v := 0) hx hb dX10_booked_2 (by decide) ?_
  refine lv_aload_n hx hb dX10_booked_3 rfl (lv_at hl 0 rfl) ?_
  refine hget hx hb hts hown hE fl_X10_258 hP 0 rfl rfl dX10_booked_4 ?_
  refine lv_iconst (v := 1) hx hb dX10_booked_7 (by decide) ?_
  refine lv_isub hx hb dX10_booked_8 ?_
  refine lv_i2l (v := ((mgs - 1).toInt64)) hx hb dX10_booked_9 rfl ?_
  refine hm_S (wn := [(mo, .inr (8, [.long mbd, .int mby, .int mgr, .int mol, .ref aMM, .ref aMT, .int mmy, .ref aPD, .int mpm, .long mrd, .int mbm, .int mbw, .long mpl, .ref aST, .ref aPL, .ref aRS, .ref aLA, .ref aBM, .int msm, .ref aRP, .ref aFI, .ref aFM, .ref aGB, .ref aGM, .ref aGV, .ref aGR, .int mgs, .ref aKB, .ref aKP, .ref aIK, .int mka, .int miw])), (aGM, .inl (gI G, 8, .inl xgm)), (aGV, .inl (gI G, 96, .inl xgv)), (aGR, .inl (gI G, 8, .inl xgr))]) (wr := [(mo, .inr (8, [.long mbd, .int mby, .int mgr, .int mol, .ref aMM, .ref aMT, .int mmy, .ref aPD, .int mpm, .long mrd, .int mbm, .int mbw, .long mpl, .ref aST, .ref aPL, .ref aRS, .ref aLA, .ref aBM, .int msm, .ref aRP, .ref aFI, .ref aFM, .ref aGB, .ref aGM, .ref aGV, .ref aGR, .int mgs, .ref aKB, .ref aKP, .ref aIK, .int mka, .int miw])), (aGM, .inl (gI G, 8, .inl xgm)), (aGV, .inl (gI G, 96, .inl xgv)), (aGR, .inl (gI G, 8, .inl xgr))]) (rest := []) (sn := [.int (f_X10_in (ga.toInt64) 0 ((mgs - 1).toInt64))]) hx hb hml hown hts hE hA (k_X10_in G l (ga.toInt64) 0 ((mgs - 1).toInt64) _ rfl) sm_X10_in mw_833 ⟨rfl, rfl, Nat.le_of_ble_eq_true rfl, Nat.le_of_ble_eq_true rfl⟩ hP hD hS [] [0, 1, 2, 3] [0, 1, 2, 3] rfl rfl rfl (by decide) hl.1 rfl rfl (Nat.le_of_ble_eq_true rfl) dX10_booked_10 ⟨Nat.le_of_ble_eq_true rfl, Nat.le_of_ble_eq_true rfl⟩ (fun H locs hP hD hS => ?_)
  refine lv_if_ne (tgt := 18) hx hb dX10_booked_13 (by decide) (fun c_1 => ?_) (fun c_1 => ?_)
  · have hF := ifn hF c_1
    refine lv_iload_n hx hb dX10_booked_18 rfl (lv_at hl 2 rfl) ?_
    refine lv_i2l (v := (wh.toInt64)) hx hb dX10_booked_19 rfl ?_
    refine lv_ldc2 (v := 10) hx hb hown (hts _ (List.mem_cons_of_mem _ mw_1046)) dX10_booked_20 ?_
    refine lv_ldc2 (v := 21) hx hb hown (hts _ (List.mem_cons_of_mem _ mw_1047)) dX10_booked_23 ?_
    refine hm_S (wn := [(mo, .inr (8, [.long mbd, .int mby, .int mgr, .int mol, .ref aMM, .ref aMT, .int mmy, .ref aPD, .int mpm, .long mrd, .int mbm, .int mbw, .long mpl, .ref aST, .ref aPL, .ref aRS, .ref aLA, .ref aBM, .int msm, .ref aRP, .ref aFI, .ref aFM, .ref aGB, .ref aGM, .ref aGV, .ref aGR, .int mgs, .ref aKB, .ref aKP, .ref aIK, .int mka, .int miw])), (aGM, .inl (gI G, 8, .inl xgm)), (aGV, .inl (gI G, 96, .inl xgv)), (aGR, .inl (gI G, 8, .inl xgr))]) (wr := [(mo, .inr (8, [.long mbd, .int mby, .int mgr, .int mol, .ref aMM, .ref aMT, .int mmy, .ref aPD, .int mpm, .long mrd, .int mbm, .int mbw, .long mpl, .ref aST, .ref aPL, .ref aRS, .ref aLA, .ref aBM, .int msm, .ref aRP, .ref aFI, .ref aFM, .ref aGB, .ref aGM, .ref aGV, .ref aGR, .int mgs, .ref aKB, .ref aKP, .ref aIK, .int mka, .int miw])), (aGM, .inl (gI G, 8, .inl xgm)), (aGV, .inl (gI G, 96, .inl xgv)), (aGR, .inl (gI G, 8, .inl xgr))]) (rest := []) (sn := [.int (f_X10_in (wh.toInt64) 10 21)]) hx hb hml hown hts hE hA (k_X10_in G l (wh.toInt64) 10 21 _ rfl) sm_X10_in mw_833 ⟨rfl, rfl, Nat.le_of_ble_eq_true rfl, Nat.le_of_ble_eq_true rfl⟩ hP hD hS [] [0, 1, 2, 3] [0, 1, 2, 3] rfl rfl rfl (by decide) hl.1 rfl rfl (Nat.le_of_ble_eq_true rfl) dX10_booked_26 ⟨Nat.le_of_ble_eq_true rfl, Nat.le_of_ble_eq_true rfl⟩ (fun H locs hP hD hS => ?_)
    refine lv_if_eq (tgt := 65) hx hb dX10_booked_29 (by decide) (fun c_2 => ?_) (fun c_2 => ?_)
    · have hF := ifp hF c_2
      refine lv_iload_n hx hb dX10_booked_65 rfl (lv_at hl 2 rfl) ?_
      refine lv_if_ne (tgt := 78) hx hb dX10_booked_66 (by decide) (fun c_3 => ?_) (fun c_3 => ?_)
      · have hF := ifn hF c_3
        refine lv_iload_n hx hb dX10_booked_78 rfl (lv_at hl 2 rfl) ?_
        refine lv_iconst (v := 1) hx hb dX10_booked_79 (by decide) ?_
        refine lv_icmp_ne (tgt := 92) hx hb dX10_booked_80 (by decide) (fun c_4 => ?_) (fun c_4 => ?_)
        · have hF := ifn hF c_4
          refine lv_bipush (v := (-2)) hx hb dX10_booked_92 (by decide) ?_
          have hF := Option.some.inj hF
          subst hF
          exact hm_iret hx hb hr hlk hP hD hS hpost dX10_booked_94
        · have hF := ifp hF c_4
          refine lv_aload_n hx hb dX10_booked_83 rfl (lv_at hl 0 rfl) ?_
          refine hget hx hb hts hown hE fl_X10_54 hP 0 rfl rfl dX10_booked_84 ?_
          refine lv_iload_n hx hb dX10_booked_87 rfl (lv_at hl 1 rfl) ?_
          obtain ⟨hi_5, hF⟩ := inb hF
          refine hiald hx hb hE hP 3 rfl hi_5 dX10_booked_88 ?_
          refine lv_goto (tgt := 94) hx hb dX10_booked_89 (by decide) ?_
          have hF := Option.some.inj hF
          subst hF
          exact hm_iret hx hb hr hlk hP hD hS hpost dX10_booked_94
      · have hF := ifp hF c_3
        refine lv_aload_n hx hb dX10_booked_69 rfl (lv_at hl 0 rfl) ?_
        refine hget hx hb hts hown hE fl_X10_48 hP 0 rfl rfl dX10_booked_70 ?_
        refine lv_iload_n hx hb dX10_booked_73 rfl (lv_at hl 1 rfl) ?_
        obtain ⟨hi_6, hF⟩ := inb hF
        refine hiald hx hb hE hP 1 rfl hi_6 dX10_booked_74 ?_
        refine lv_goto (tgt := 94) hx hb dX10_booked_75 (by decide) ?_
        have hF := Option.some.inj hF
        subst hF
        exact hm_iret hx hb hr hlk hP hD hS hpost dX10_booked_94
    · have hF := ifn hF c_2
      refine lv_iload_n hx hb dX10_booked_32 rfl (lv_at hl 2 rfl) ?_
      refine lv_bipush (v := 10) hx hb dX10_booked_33 (by decide) ?_
      refine lv_isub hx hb dX10_booked_35 ?_
      refine lv_aload_n hx hb dX10_booked_36 rfl (lv_at hl 0 rfl) ?_
      refine hget hx hb hts hown hE fl_X10_48 hP 0 rfl rfl dX10_booked_37 ?_
      refine lv_iload_n hx hb dX10_booked_40 rfl (lv_at hl 1 rfl) ?_
      obtain ⟨hi_7, hF⟩ := inb hF
      refine hiald hx hb hE hP 1 rfl hi_7 dX10_booked_41 ?_
      refine lv_icmp_ge (tgt := 62) hx hb dX10_booked_42 (by decide) (fun c_8 => ?_) (fun c_8 => ?_)
      · have hF := ifp hF c_8
        refine lv_bipush (v := (-6)) hx hb dX10_booked_62 (by decide) ?_
        have hF := Option.some.inj hF
        subst hF
        exact hm_iret hx hb hr hlk hP hD hS hpost dX10_booked_64
      · have hF := ifn hF c_8
        refine lv_aload_n hx hb dX10_booked_45 rfl (lv_at hl 0 rfl) ?_
        refine hget hx hb hts hown hE fl_X10_51 hP 0 rfl rfl dX10_booked_46 ?_
        refine lv_bipush (v := 12) hx hb dX10_booked_49 (by decide) ?_
        refine lv_iload_n hx hb dX10_booked_51 rfl (lv_at hl 1 rfl) ?_
        refine lv_imul hx hb dX10_booked_52 ?_
        refine lv_iload_n hx hb dX10_booked_53 rfl (lv_at hl 2 rfl) ?_
        refine lv_iadd hx hb dX10_booked_54 ?_
        refine lv_bipush (v := 10) hx hb dX10_booked_55 (by decide) ?_
        refine lv_isub hx hb dX10_booked_57 ?_
        obtain ⟨hi_9, hF⟩ := inb hF
        refine hiald hx hb hE hP 2 rfl hi_9 dX10_booked_58 ?_
        refine lv_goto (tgt := 64) hx hb dX10_booked_59 (by decide) ?_
        have hF := Option.some.inj hF
        subst hF
        exact hm_iret hx hb hr hlk hP hD hS hpost dX10_booked_64
  · have hF := ifp hF c_1
    refine lv_iconst (v := (-1)) hx hb dX10_booked_16 (by decide) ?_
    have hF := Option.some.inj hF
    subst hF
    exact hm_iret hx hb hr hlk hP hD hS hpost dX10_booked_17
def f_X10_beginsSo_B76 (k_40 : Bool → Int32 → Option Int32) (x4_5 : Int32) (t0_10 : Bool) : Option Int32 :=
  jlet (x4_5 + 1) (fun v4_11 => k_40 t0_10 v4_11)
def f_X10_beginsSo_L40 (xpd : (Nat → Int32)) (xgv : (Nat → Int32)) (ga : Int32) (v2_1 : Int32) : Nat → Bool → Int32 → Option Int32
  | 0, _, _ => none
  | n+1, b3_4, x4_5 =>
  if v2_1 ≤ x4_5 then some (b2i b3_4) else if (b2i b3_4) = 0 then some (b2i b3_4) else if (((12 * ga) + x4_5)) < 0 ∨ 96 ≤ (((12 * ga) + x4_5)).toNatClampNeg then none else Option.bind (f_X10_numberAt xpd x4_5) (fun r65_9 => if (xgv (((12 * ga) + x4_5)).toNatClampNeg) = r65_9 then f_X10_beginsSo_B76 (f_X10_beginsSo_L40 xpd xgv ga v2_1 n) x4_5 true else f_X10_beginsSo_B76 (f_X10_beginsSo_L40 xpd xgv ga v2_1 n) x4_5 false)
def f_X10_beginsSo_B36 (xpd : (Nat → Int32)) (xgv : (Nat → Int32)) (ga : Int32) (v2_1 : Int32) (t0_3 : Bool) : Option Int32 :=
  f_X10_beginsSo_L40 xpd xgv ga v2_1 100 t0_3 0
def f_X10_beginsSo (mbd : Int64) (mpm : Int32) (xpd : (Nat → Int32)) (xgb : (Nat → Int64)) (xgm : (Nat → Int32)) (xgv : (Nat → Int32)) (ga : Int32) : Option Int32 :=
  jlet (mpm / 4) (fun v2_1 => if (ga) < 0 ∨ 8 ≤ (ga).toNatClampNeg then none else if (lg_cmp (xgb (ga).toNatClampNeg) mbd) = 0 then if (ga) < 0 ∨ 8 ≤ (ga).toNatClampNeg then none else if (xgm (ga).toNatClampNeg) < v2_1 then f_X10_beginsSo_B36 xpd xgv ga v2_1 false else f_X10_beginsSo_B36 xpd xgv ga v2_1 true else f_X10_beginsSo_B36 xpd xgv ga v2_1 false)
abbrev rm_X10_beginsSo : Room := { frames := 2, cells := 0, slots := 0, locals := 42 }
set_option maxHeartbeats 4000000 in
set_option maxRecDepth 100000 in
theorem k_X10_beginsSo (G : gT) (l : Launch) (mo : Nat) (aMM : Nat) (aMT : Nat) (aPD : Nat) (aST : Nat) (aPL : Nat) (aRS : Nat) (aLA : Nat) (aBM : Nat) (aRP : Nat) (aFI : Nat) (aFM : Nat) (aGB : Nat) (aGM : Nat) (aGV : Nat) (aGR : Nat) (aKB : Nat) (aKP : Nat) (aIK : Nat) (mbd : Int64) (mby : Int32) (mgr : Int32) (mol : Int32) (mmy : Int32) (mpm : Int32) (mrd : Int64) (mbm : Int32) (mbw : Int32) (mpl : Int64) (msm : Int32) (mgs : Int32) (mka : Int32) (miw : Int32) (xpd : (Nat → Int32)) (xgb : (Nat → Int64)) (xgm : (Nat → Int32)) (xgv : (Nat → Int32)) (ga : Int32) (r : Int32) (hF : f_X10_beginsSo mbd mpm xpd xgb xgm xgv ga = some r) : HM G l yX10_beginsSo (.code yX10_beginsSo cX10_beginsSo 5 (some .boolean) :: UW) rm_X10_beginsSo 0 0 [.ref mo, .int ga] [(mo, .inr (8, [.long mbd, .int mby, .int mgr, .int mol, .ref aMM, .ref aMT, .int mmy, .ref aPD, .int mpm, .long mrd, .int mbm, .int mbw, .long mpl, .ref aST, .ref aPL, .ref aRS, .ref aLA, .ref aBM, .int msm, .ref aRP, .ref aFI, .ref aFM, .ref aGB, .ref aGM, .ref aGV, .ref aGR, .int mgs, .ref aKB, .ref aKP, .ref aIK, .int mka, .int miw])), (aPD, .inl (gI G, 48, .inl xpd)), (aGB, .inl (gJ G, 8, .inr (.inl xgb))), (aGM, .inl (gI G, 8, .inl xgm)), (aGV, .inl (gI G, 96, .inl xgv))] (some (.int r)) [(mo, .inr (8, [.long mbd, .int mby, .int mgr, .int mol, .ref aMM, .ref aMT, .int mmy, .ref aPD, .int mpm, .long mrd, .int mbm, .int mbw, .long mpl, .ref aST, .ref aPL, .ref aRS, .ref aLA, .ref aBM, .int msm, .ref aRP, .ref aFI, .ref aFM, .ref aGB, .ref aGM, .ref aGV, .ref aGR, .int mgs, .ref aKB, .ref aKP, .ref aIK, .int mka, .int miw])), (aPD, .inl (gI G, 48, .inl xpd)), (aGB, .inl (gJ G, 8, .inr (.inl xgb))), (aGM, .inl (gI G, 8, .inl xgm)), (aGV, .inl (gI G, 96, .inl xgv))] := by
  refine HM.ofW (by decide) (Nat.le_of_ble_eq_true rfl) ?_
  intro p e s m args below meth c A post hpost hC hP hD hS ls hl
  obtain ⟨hx, hb, hr, hml, hown, hts, hlk, hE, hA⟩ := hC
  have hl : lv_has ls 5 [(0, .ref mo), (1, .int ga)] := hl
  unfold f_X10_beginsSo at hF
  refine lv_aload_n hx hb dX10_beginsSo_0 rfl (lv_at hl 0 rfl) ?_
  refine hget hx hb hts hown hE fl_X10_146 hP 0 rfl rfl dX10_beginsSo_1 ?_
  refine lv_iconst (v := 4) hx hb dX10_beginsSo_4 (by decide) ?_
  refine lv_idiv hx hb dX10_beginsSo_5 (by decide) ?_
  refine lv_topi (fun v2_1 ev2_1 => ?_)
  have hF := jl hF ev2_1
  refine lv_istore_n (lv' := [(2, .int v2_1), (0, .ref mo), (1, .int ga)]) hx hb dX10_beginsSo_6 rfl hl (by decide) rfl (fun ls hl => ?_)
  refine lv_aload_n hx hb dX10_beginsSo_7 rfl (lv_at hl 1 rfl) ?_
  refine hget hx hb hts hown hE fl_X10_45 hP 0 rfl rfl dX10_beginsSo_8 ?_
  refine lv_iload_n hx hb dX10_beginsSo_11 rfl (lv_at hl 2 rfl) ?_
  obtain ⟨hi_2, hF⟩ := inb hF
  refine hlald hx hb hE hP 2 rfl hi_2 dX10_beginsSo_12 ?_
  refine lv_aload_n hx hb dX10_beginsSo_13 rfl (lv_at hl 1 rfl) ?_
  refine hget hx hb hts hown hE fl_X10_69 hP 0 rfl rfl dX10_beginsSo_14 ?_
  refine W.lcmp hx hb dX10_beginsSo_17 ?_
  have hB36 : ∀ (t0_3 : Bool) (H : Heap) (locs : List Loc) (ls : Array Slot), f_X10_beginsSo_B36 xpd xgv ga v2_1 t0_3 = some r → va_P (gD G) vwCl [(mo, .inr (8, [.long mbd, .int mby, .int mgr, .int mol, .ref aMM, .ref aMT, .int mmy, .ref aPD, .int mpm, .long mrd, .int mbm, .int mbw, .long mpl, .ref aST, .ref aPL, .ref aRS, .ref aLA, .ref aBM, .int msm, .ref aRP, .ref aFI, .ref aFM, .ref aGB, .ref aGM, .ref aGV, .ref aGR, .int mgs, .ref aKB, .ref aKP, .ref aIK, .int mka, .int miw])), (aPD, .inl (gI G, 48, .inl xpd)), (aGB, .inl (gJ G, 8, .inr (.inl xgb))), (aGM, .inl (gI G, 8, .inl xgm)), (aGV, .inl (gI G, 96, .inl xgv))] H → va_D A [(mo, .inr (8, [.long mbd, .int mby, .int mgr, .int mol, .ref aMM, .ref aMT, .int mmy, .ref aPD, .int mpm, .long mrd, .int mbm, .int mbw, .long mpl, .ref aST, .ref aPL, .ref aRS, .ref aLA, .ref aBM, .int msm, .ref aRP, .ref aFI, .ref aFM, .ref aGB, .ref aGM, .ref aGV, .ref aGR, .int mgs, .ref aKB, .ref aKP, .ref aIK, .int mka, .int miw])), (aPD, .inl (gI G, 48, .inl xpd)), (aGB, .inl (gJ G, 8, .inr (.inl xgb))), (aGM, .inl (gI G, 8, .inl xgm)), (aGV, .inl (gI G, 96, .inl xgv))] → va_S A s.heap H locs → lv_has ls 5 [(0, .ref mo), (1, .int ga), (2, .int v2_1)] → W p l e rm_X10_beginsSo s m args below meth c H locs 0 0 (MQ below (HXq G post A) args s 0 0 A) (F0 m 36 ls [.int (b2i t0_3)]) := by
    intro t0_3 H locs ls hF hP hD hS hl
    unfold f_X10_beginsSo_B36 at hF
    refine lv_istore_n (lv' := [(3, .int (b2i t0_3)), (0, .ref mo), (1, .int ga), (2, .int v2_1)]) hx hb dX10_beginsSo_36 rfl hl (by decide) rfl (fun ls hl => ?_)
    refine lv_iconst (v := 0) hx hb dX10_beginsSo_37 (by decide) ?_
    refine lv_istore (lv' := [(4, .int 0), (3, .int (b2i t0_3)), (0, .ref mo), (1, .int ga), (2, .int v2_1)]) hx hb dX10_beginsSo_38 hl (by decide) rfl (fun ls hl => ?_)
    have hL40 : ∀ (n40 : Nat) (b3_4 : Bool) (x4_5 : Int32) (H : Heap) (locs : List Loc) (ls : Array Slot), f_X10_beginsSo_L40 xpd xgv ga v2_1 n40 b3_4 x4_5 = some r → va_P (gD G) vwCl [(mo, .inr (8, [.long mbd, .int mby, .int mgr, .int mol, .ref aMM, .ref aMT, .int mmy, .ref aPD, .int mpm, .long mrd, .int mbm, .int mbw, .long mpl, .ref aST, .ref aPL, .ref aRS, .ref aLA, .ref aBM, .int msm, .ref aRP, .ref aFI, .ref aFM, .ref aGB, .ref aGM, .ref aGV, .ref aGR, .int mgs, .ref aKB, .ref aKP, .ref aIK, .int mka, .int miw])), (aPD, .inl (gI G, 48, .inl xpd)), (aGB, .inl (gJ G, 8, .inr (.inl xgb))), (aGM, .inl (gI G, 8, .inl xgm)), (aGV, .inl (gI G, 96, .inl xgv))] H → va_D A [(mo, .inr (8, [.long mbd, .int mby, .int mgr, .int mol, .ref aMM, .ref aMT, .int mmy, .ref aPD, .int mpm, .long mrd, .int mbm, .int mbw, .long mpl, .ref aST, .ref aPL, .ref aRS, .ref aLA, .ref aBM, .int msm, .ref aRP, .ref aFI, .ref aFM, .ref aGB, .ref aGM, .ref aGV, .ref aGR, .int mgs, .ref aKB, .ref aKP, .ref aIK, .int mka, .int miw])), (aPD, .inl (gI G, 48, .inl xpd)), (aGB, .inl (gJ G, 8, .inr (.inl xgb))), (aGM, .inl (gI G, 8, .inl xgm)), (aGV, .inl (gI G, 96, .inl xgv))] → va_S A s.heap H locs → lv_has ls 5 [(0, .ref mo), (1, .int ga), (2, .int v2_1), (3, .int (b2i b3_4)), (4, .int x4_5)] → W p l e rm_X10_beginsSo s m args below meth c H locs 0 0 (MQ below (HXq G post A) args s 0 0 A) (F0 m 40 ls []) := by
      intro n40
      induction n40 with
      | zero =>
        intro b3_4 x4_5 H locs ls hF
        exact absurd hF (fun h => by cases h)
      | succ n40 ih40 =>
        intro b3_4 x4_5 H locs ls hF hP hD hS hl
        unfold f_X10_beginsSo_L40 at hF
        refine lv_iload hx hb dX10_beginsSo_40 (lv_at hl 4 rfl) ?_
        refine lv_iload_n hx hb dX10_beginsSo_42 rfl (lv_at hl 2 rfl) ?_
        refine lv_icmp_ge (tgt := 83) hx hb dX10_beginsSo_43 (by decide) (fun c_6 => ?_) (fun c_6 => ?_)
        · have hF := ifp hF c_6
          refine lv_iload_n hx hb dX10_beginsSo_83 rfl (lv_at hl 3 rfl) ?_
          have hF := Option.some.inj hF
          subst hF
          exact hm_zret hx hb hr hlk hP hD hS (b2i_nar _) hpost dX10_beginsSo_84
        · have hF := ifn hF c_6
          refine lv_iload_n hx hb dX10_beginsSo_46 rfl (lv_at hl 3 rfl) ?_
          refine lv_if_eq (tgt := 83) hx hb dX10_beginsSo_47 (by decide) (fun c_7 => ?_) (fun c_7 => ?_)
          · have hF := ifp hF c_7
            refine lv_iload_n hx hb dX10_beginsSo_83 rfl (lv_at hl 3 rfl) ?_
            have hF := Option.some.inj hF
            subst hF
            exact hm_zret hx hb hr hlk hP hD hS (b2i_nar _) hpost dX10_beginsSo_84
          · have hF := ifn hF c_7
            refine lv_aload_n hx hb dX10_beginsSo_50 rfl (lv_at hl 0 rfl) ?_
            refine hget hx hb hts hown hE fl_X10_51 hP 0 rfl rfl dX10_beginsSo_51 ?_
            refine lv_bipush (v := 12) hx hb dX10_beginsSo_54 (by decide) ?_
            refine lv_iload_n hx hb dX10_beginsSo_56 rfl (lv_at hl 1 rfl) ?_
            refine lv_imul hx hb dX10_beginsSo_57 ?_
            refine lv_iload hx hb dX10_beginsSo_58 (lv_at hl 4 rfl) ?_
            refine lv_iadd hx hb dX10_beginsSo_60 ?_
            obtain ⟨hi_8, hF⟩ := inb hF
            refine hiald hx hb hE hP 4 rfl hi_8 dX10_beginsSo_61 ?_
            refine lv_aload_n hx hb dX10_beginsSo_62 rfl (lv_at hl 0 rfl) ?_
            refine lv_iload hx hb dX10_beginsSo_63 (lv_at hl 4 rfl) ?_
            obtain ⟨r65_9, hr65_9, hF⟩ := bnd hF
            refine hm_V (wn := [(mo, .inr (8, [.long mbd, .int mby, .int mgr, .int mol, .ref aMM, .ref aMT, .int mmy, .ref aPD, .int mpm, .long mrd, .int mbm, .int mbw, .long mpl, .ref aST, .ref aPL, .ref aRS, .ref aLA, .ref aBM, .int msm, .ref aRP, .ref aFI, .ref aFM, .ref aGB, .ref aGM, .ref aGV, .ref aGR, .int mgs, .ref aKB, .ref aKP, .ref aIK, .int mka, .int miw])), (aPD, .inl (gI G, 48, .inl xpd)), (aGB, .inl (gJ G, 8, .inr (.inl xgb))), (aGM, .inl (gI G, 8, .inl xgm)), (aGV, .inl (gI G, 96, .inl xgv))]) (wr := [(aGB, .inl (gJ G, 8, .inr (.inl xgb))), (aGM, .inl (gI G, 8, .inl xgm)), (aGV, .inl (gI G, 96, .inl xgv))]) (rest := [.int (xgv (((12 * ga) + x4_5)).toNatClampNeg)]) (sn := [.int r65_9, .int (xgv (((12 * ga) + x4_5)).toNatClampNeg)]) hx hb hml hown hts hE hA (k_X10_numberAt G l mo aMM aMT aPD aST aPL aRS aLA aBM aRP aFI aFM aGB aGM aGV aGR aKB aKP aIK mbd mby mgr mol mmy mpm mrd mbm mbw mpl msm mgs mka miw xpd x4_5 r65_9 hr65_9) sm_X10_numberAt mw_1038 ⟨rfl, rfl, Nat.le_of_ble_eq_true rfl, Nat.le_of_ble_eq_true rfl⟩ hP hD hS 0 rfl rfl [0, 1] [2, 3, 4] [3, 4, 0, 1, 2] rfl rfl rfl (by decide) hl.1 rfl rfl (Nat.le_of_ble_eq_true rfl) dX10_beginsSo_65 ⟨Nat.le_of_ble_eq_true rfl, Nat.le_of_ble_eq_true rfl⟩ (fun H locs hP hD hS => ?_)
            have hB76 : ∀ (t0_10 : Bool) (H : Heap) (locs : List Loc) (ls : Array Slot), f_X10_beginsSo_B76 (f_X10_beginsSo_L40 xpd xgv ga v2_1 n40) x4_5 t0_10 = some r → va_P (gD G) vwCl [(mo, .inr (8, [.long mbd, .int mby, .int mgr, .int mol, .ref aMM, .ref aMT, .int mmy, .ref aPD, .int mpm, .long mrd, .int mbm, .int mbw, .long mpl, .ref aST, .ref aPL, .ref aRS, .ref aLA, .ref aBM, .int msm, .ref aRP, .ref aFI, .ref aFM, .ref aGB, .ref aGM, .ref aGV, .ref aGR, .int mgs, .ref aKB, .ref aKP, .ref aIK, .int mka, .int miw])), (aPD, .inl (gI G, 48, .inl xpd)), (aGB, .inl (gJ G, 8, .inr (.inl xgb))), (aGM, .inl (gI G, 8, .inl xgm)), (aGV, .inl (gI G, 96, .inl xgv))] H → va_D A [(mo, .inr (8, [.long mbd, .int mby, .int mgr, .int mol, .ref aMM, .ref aMT, .int mmy, .ref aPD, .int mpm, .long mrd, .int mbm, .int mbw, .long mpl, .ref aST, .ref aPL, .ref aRS, .ref aLA, .ref aBM, .int msm, .ref aRP, .ref aFI, .ref aFM, .ref aGB, .ref aGM, .ref aGV, .ref aGR, .int mgs, .ref aKB, .ref aKP, .ref aIK, .int mka, .int miw])), (aPD, .inl (gI G, 48, .inl xpd)), (aGB, .inl (gJ G, 8, .inr (.inl xgb))), (aGM, .inl (gI G, 8, .inl xgm)), (aGV, .inl (gI G, 96, .inl xgv))] → va_S A s.heap H locs → lv_has ls 5 [(0, .ref mo), (1, .int ga), (2, .int v2_1), (4, .int x4_5)] → W p l e rm_X10_beginsSo s m args below meth c H locs 0 0 (MQ below (HXq G post A) args s 0 0 A) (F0 m 76 ls [.int (b2i t0_10)]) := by
              intro t0_10 H locs ls hF hP hD hS hl
              unfold f_X10_beginsSo_B76 at hF
              refine lv_istore_n (lv' := [(3, .int (b2i t0_10)), (0, .ref mo), (1, .int ga), (2, .int v2_1), (4, .int x4_5)]) hx hb dX10_beginsSo_76 rfl hl (by decide) rfl (fun ls hl => ?_)
              obtain ⟨v4_11, ev4_11⟩ : ∃ z : Int32, z = x4_5 + 1 := ⟨_, rfl⟩
              have hF := jl hF ev4_11
              refine lv_iinc (v := v4_11) (lv' := [(4, .int v4_11), (3, .int (b2i t0_10)), (0, .ref mo), (1, .int ga), (2, .int v2_1)]) hx hb dX10_beginsSo_77 hl (k := 4) rfl (by rw [ev4_11]; rfl) (by decide) rfl (fun ls hl => ?_)
              refine lv_goto (tgt := 40) hx hb dX10_beginsSo_80 (by decide) ?_
              exact ih40 t0_10 v4_11 _ _ _ hF hP hD hS (lv_sub hl [2, 3, 4, 1, 0] rfl)
            refine lv_icmp_ne (tgt := 75) hx hb dX10_beginsSo_68 (by decide) (fun c_12 => ?_) (fun c_12 => ?_)
            · have hF := ifn hF c_12
              refine lv_iconst (v := 0) hx hb dX10_beginsSo_75 (by decide) ?_
              exact hB76 false _ _ _ hF hP hD hS (lv_sub hl [0, 1, 2, 4] rfl)
            · have hF := ifp hF c_12
              refine lv_iconst (v := 1) hx hb dX10_beginsSo_71 (by decide) ?_
              refine lv_goto (tgt := 76) hx hb dX10_beginsSo_72 (by decide) ?_
              exact hB76 true _ _ _ hF hP hD hS (lv_sub hl [0, 1, 2, 4] rfl)
    exact hL40 _ t0_3 0 _ _ _ hF hP hD hS (lv_sub hl [2, 3, 4, 1, 0] rfl)
  refine lv_if_ne (tgt := 35) hx hb dX10_beginsSo_18 (by decide) (fun c_13 => ?_) (fun c_13 => ?_)
  · have hF := ifn hF c_13
    refine lv_iconst (v := 0) hx hb dX10_beginsSo_35 (by decide) ?_
    exact hB36 false _ _ _ hF hP hD hS (lv_sub hl [1, 2, 0] rfl)
  · have hF := ifp hF c_13
    refine lv_aload_n hx hb dX10_beginsSo_21 rfl (lv_at hl 1 rfl) ?_
    refine hget hx hb hts hown hE fl_X10_48 hP 0 rfl rfl dX10_beginsSo_22 ?_
    refine lv_iload_n hx hb dX10_beginsSo_25 rfl (lv_at hl 2 rfl) ?_
    obtain ⟨hi_14, hF⟩ := inb hF
    refine hiald hx hb hE hP 3 rfl hi_14 dX10_beginsSo_26 ?_
    refine lv_iload_n hx hb dX10_beginsSo_27 rfl (lv_at hl 0 rfl) ?_
    refine lv_icmp_lt (tgt := 35) hx hb dX10_beginsSo_28 (by decide) (fun c_15 => ?_) (fun c_15 => ?_)
    · have hF := ifp hF c_15
      refine lv_iconst (v := 0) hx hb dX10_beginsSo_35 (by decide) ?_
      exact hB36 false _ _ _ hF hP hD hS (lv_sub hl [1, 2, 0] rfl)
    · have hF := ifn hF c_15
      refine lv_iconst (v := 1) hx hb dX10_beginsSo_31 (by decide) ?_
      refine lv_goto (tgt := 36) hx hb dX10_beginsSo_32 (by decide) ?_
      exact hB36 true _ _ _ hF hP hD hS (lv_sub hl [1, 2, 0] rfl)
def f_X10_goOnWith_B61 (k_4 : Int32 → Int32 → Option Int32) (x2_1 : Int32) (x3_2 : Int32) (t1_5 : Int32) : Option Int32 :=
  jlet (x2_1 + t1_5) (fun v2_6 => jlet (x3_2 + 1) (fun v3_7 => k_4 v2_6 v3_7))
def f_X10_goOnWith_L4 (mbd : Int64) (mpm : Int32) (mgs : Int32) (xpd : (Nat → Int32)) (xgb : (Nat → Int64)) (xgm : (Nat → Int32)) (xgv : (Nat → Int32)) (mv : Int32) : Nat → Int32 → Int32 → Option Int32
  | 0, _, _ => none
  | n+1, x2_1, x3_2 =>
  if mgs ≤ x3_2 then some x2_1 else Option.bind (f_X10_beginsSo mbd mpm xpd xgb xgm xgv x3_2) (fun r15_4 => if r15_4 = 0 then f_X10_goOnWith_B61 (f_X10_goOnWith_L4 mbd mpm mgs xpd xgb xgm xgv mv n) x2_1 x3_2 0 else if (x3_2) < 0 ∨ 8 ≤ (x3_2).toNatClampNeg then none else if (xgm (x3_2).toNatClampNeg) ≤ (mpm / 4) then f_X10_goOnWith_B61 (f_X10_goOnWith_L4 mbd mpm mgs xpd xgb xgm xgv mv n) x2_1 x3_2 0 else if (((12 * x3_2) + (mpm / 4))) < 0 ∨ 96 ≤ (((12 * x3_2) + (mpm / 4))).toNatClampNeg then none else if (xgv (((12 * x3_2) + (mpm / 4))).toNatClampNeg) = mv then f_X10_goOnWith_B61 (f_X10_goOnWith_L4 mbd mpm mgs xpd xgb xgm xgv mv n) x2_1 x3_2 1 else f_X10_goOnWith_B61 (f_X10_goOnWith_L4 mbd mpm mgs xpd xgb xgm xgv mv n) x2_1 x3_2 0)
def f_X10_goOnWith (mbd : Int64) (mpm : Int32) (mgs : Int32) (xpd : (Nat → Int32)) (xgb : (Nat → Int64)) (xgm : (Nat → Int32)) (xgv : (Nat → Int32)) (mv : Int32) : Option Int32 :=
  f_X10_goOnWith_L4 mbd mpm mgs xpd xgb xgm xgv mv 100 0 0
abbrev rm_X10_goOnWith : Room := { frames := 3, cells := 0, slots := 0, locals := 66 }
set_option maxHeartbeats 4000000 in
set_option maxRecDepth 100000 in
theorem k_X10_goOnWith (G : gT) (l : Launch) (mo : Nat) (aMM : Nat) (aMT : Nat) (aPD : Nat) (aST : Nat) (aPL : Nat) (aRS : Nat) (aLA : Nat) (aBM : Nat) (aRP : Nat) (aFI : Nat) (aFM : Nat) (aGB : Nat) (aGM : Nat) (aGV : Nat) (aGR : Nat) (aKB : Nat) (aKP : Nat) (aIK : Nat) (mbd : Int64) (mby : Int32) (mgr : Int32) (mol : Int32) (mmy : Int32) (mpm : Int32) (mrd : Int64) (mbm : Int32) (mbw : Int32) (mpl : Int64) (msm : Int32) (mgs : Int32) (mka : Int32) (miw : Int32) (xpd : (Nat → Int32)) (xgb : (Nat → Int64)) (xgm : (Nat → Int32)) (xgv : (Nat → Int32)) (mv : Int32) (r : Int32) (hF : f_X10_goOnWith mbd mpm mgs xpd xgb xgm xgv mv = some r) : HM G l yX10_goOnWith (.code yX10_goOnWith cX10_goOnWith 4 (some .int) :: UW) rm_X10_goOnWith 0 0 [.ref mo, .int mv] [(mo, .inr (8, [.long mbd, .int mby, .int mgr, .int mol, .ref aMM, .ref aMT, .int mmy, .ref aPD, .int mpm, .long mrd, .int mbm, .int mbw, .long mpl, .ref aST, .ref aPL, .ref aRS, .ref aLA, .ref aBM, .int msm, .ref aRP, .ref aFI, .ref aFM, .ref aGB, .ref aGM, .ref aGV, .ref aGR, .int mgs, .ref aKB, .ref aKP, .ref aIK, .int mka, .int miw])), (aPD, .inl (gI G, 48, .inl xpd)), (aGB, .inl (gJ G, 8, .inr (.inl xgb))), (aGM, .inl (gI G, 8, .inl xgm)), (aGV, .inl (gI G, 96, .inl xgv))] (some (.int r)) [(mo, .inr (8, [.long mbd, .int mby, .int mgr, .int mol, .ref aMM, .ref aMT, .int mmy, .ref aPD, .int mpm, .long mrd, .int mbm, .int mbw, .long mpl, .ref aST, .ref aPL, .ref aRS, .ref aLA, .ref aBM, .int msm, .ref aRP, .ref aFI, .ref aFM, .ref aGB, .ref aGM, .ref aGV, .ref aGR, .int mgs, .ref aKB, .ref aKP, .ref aIK, .int mka, .int miw])), (aPD, .inl (gI G, 48, .inl xpd)), (aGB, .inl (gJ G, 8, .inr (.inl xgb))), (aGM, .inl (gI G, 8, .inl xgm)), (aGV, .inl (gI G, 96, .inl xgv))] := by
  refine HM.ofW (by decide) (Nat.le_of_ble_eq_true rfl) ?_
  intro p e s m args below meth c A post hpost hC hP hD hS ls hl
  obtain ⟨hx, hb, hr, hml, hown, hts, hlk, hE, hA⟩ := hC
  have hl : lv_has ls 4 [(0, .ref mo), (1, .int mv)] := hl
  unfold f_X10_goOnWith at hF
  refine lv_iconst (v := 0) hx hb dX10_goOnWith_0 (by decide) ?_
  refine lv_istore_n (lv' := [(2, .int 0), (0, .ref mo), (1, .int mv)]) hx hb dX10_goOnWith_1 rfl hl (by decide) rfl (fun ls hl => ?_)
  refine lv_iconst (v := 0) hx hb dX10_goOnWith_2 (by decide) ?_
  refine lv_istore_n (lv' := [(3, .int 0), (2, .int 0), (0, .ref mo), (1, .int mv)]) hx hb dX10_goOnWith_3 rfl hl (by decide) rfl (fun ls hl => ?_)
  have hL4 : ∀ (n4 : Nat) (x2_1 : Int32) (x3_2 : Int32) (H : Heap) (locs : List Loc) (ls : Array Slot), f_X10_goOnWith_L4 mbd mpm mgs xpd xgb xgm xgv mv n4 x2_1 x3_2 = some r → va_P (gD G) vwCl [(mo, .inr (8, [.long mbd, .int mby, .int mgr, .int mol, .ref aMM, .ref aMT, .int mmy, .ref aPD, .int mpm, .long mrd, .int mbm, .int mbw, .long mpl, .ref aST, .ref aPL, .ref aRS, .ref aLA, .ref aBM, .int msm, .ref aRP, .ref aFI, .ref aFM, .ref aGB, .ref aGM, .ref aGV, .ref aGR, .int mgs, .ref aKB, .ref aKP, .ref aIK, .int mka, .int miw])), (aPD, .inl (gI G, 48, .inl xpd)), (aGB, .inl (gJ G, 8, .inr (.inl xgb))), (aGM, .inl (gI G, 8, .inl xgm)), (aGV, .inl (gI G, 96, .inl xgv))] H → va_D A [(mo, .inr (8, [.long mbd, .int mby, .int mgr, .int mol, .ref aMM, .ref aMT, .int mmy, .ref aPD, .int mpm, .long mrd, .int mbm, .int mbw, .long mpl, .ref aST, .ref aPL, .ref aRS, .ref aLA, .ref aBM, .int msm, .ref aRP, .ref aFI, .ref aFM, .ref aGB, .ref aGM, .ref aGV, .ref aGR, .int mgs, .ref aKB, .ref aKP, .ref aIK, .int mka, .int miw])), (aPD, .inl (gI G, 48, .inl xpd)), (aGB, .inl (gJ G, 8, .inr (.inl xgb))), (aGM, .inl (gI G, 8, .inl xgm)), (aGV, .inl (gI G, 96, .inl xgv))] → va_S A s.heap H locs → lv_has ls 4 [(0, .ref mo), (1, .int mv), (2, .int x2_1), (3, .int x3_2)] → W p l e rm_X10_goOnWith s m args below meth c H locs 0 0 (MQ below (HXq G post A) args s 0 0 A) (F0 m 4 ls []) := by
    intro n4
    induction n4 with
    | zero =>
      intro x2_1 x3_2 H locs ls hF
      exact absurd hF (fun h => by cases h)
    | succ n4 ih4 =>
      intro x2_1 x3_2 H locs ls hF hP hD hS hl
      unfold f_X10_goOnWith_L4 at hF
      refine lv_iload_n hx hb dX10_goOnWith_4 rfl (lv_at hl 3 rfl) ?_
      refine lv_aload_n hx hb dX10_goOnWith_5 rfl (lv_at hl 0 rfl) ?_
      refine hget hx hb hts hown hE fl_X10_258 hP 0 rfl rfl dX10_goOnWith_6 ?_
      refine lv_icmp_ge (tgt := 69) hx hb dX10_goOnWith_9 (by decide) (fun c_3 => ?_) (fun c_3 => ?_)
      · have hF := ifp hF c_3
        refine lv_iload_n hx hb dX10_goOnWith_69 rfl (lv_at hl 2 rfl) ?_
        have hF := Option.some.inj hF
        subst hF
        exact hm_iret hx hb hr hlk hP hD hS hpost dX10_goOnWith_70
      · have hF := ifn hF c_3
        refine lv_iload_n hx hb dX10_goOnWith_12 rfl (lv_at hl 2 rfl) ?_
        refine lv_aload_n hx hb dX10_goOnWith_13 rfl (lv_at hl 0 rfl) ?_
        refine lv_iload_n hx hb dX10_goOnWith_14 rfl (lv_at hl 3 rfl) ?_
        obtain ⟨r15_4, hr15_4, hF⟩ := bnd hF
        refine hm_V (wn := [(mo, .inr (8, [.long mbd, .int mby, .int mgr, .int mol, .ref aMM, .ref aMT, .int mmy, .ref aPD, .int mpm, .long mrd, .int mbm, .int mbw, .long mpl, .ref aST, .ref aPL, .ref aRS, .ref aLA, .ref aBM, .int msm, .ref aRP, .ref aFI, .ref aFM, .ref aGB, .ref aGM, .ref aGV, .ref aGR, .int mgs, .ref aKB, .ref aKP, .ref aIK, .int mka, .int miw])), (aPD, .inl (gI G, 48, .inl xpd)), (aGB, .inl (gJ G, 8, .inr (.inl xgb))), (aGM, .inl (gI G, 8, .inl xgm)), (aGV, .inl (gI G, 96, .inl xgv))]) (wr := []) (rest := [.int x2_1]) (sn := [.int r15_4, .int x2_1]) hx hb hml hown hts hE hA (k_X10_beginsSo G l mo aMM aMT aPD aST aPL aRS aLA aBM aRP aFI aFM aGB aGM aGV aGR aKB aKP aIK mbd mby mgr mol mmy mpm mrd mbm mbw mpl msm mgs mka miw xpd xgb xgm xgv x3_2 r15_4 hr15_4) sm_X10_beginsSo mw_1053 ⟨rfl, rfl, Nat.le_of_ble_eq_true rfl, Nat.le_of_ble_eq_true rfl⟩ hP hD hS 0 rfl rfl [0, 1, 2, 3, 4] [] [0, 1, 2, 3, 4] rfl rfl rfl (by decide) hl.1 rfl rfl (Nat.le_of_ble_eq_true rfl) dX10_goOnWith_15 ⟨Nat.le_of_ble_eq_true rfl, Nat.le_of_ble_eq_true rfl⟩ (fun H locs hP hD hS => ?_)
        have hB61 : ∀ (t1_5 : Int32) (H : Heap) (locs : List Loc) (ls : Array Slot), f_X10_goOnWith_B61 (f_X10_goOnWith_L4 mbd mpm mgs xpd xgb xgm xgv mv n4) x2_1 x3_2 t1_5 = some r → va_P (gD G) vwCl [(mo, .inr (8, [.long mbd, .int mby, .int mgr, .int mol, .ref aMM, .ref aMT, .int mmy, .ref aPD, .int mpm, .long mrd, .int mbm, .int mbw, .long mpl, .ref aST, .ref aPL, .ref aRS, .ref aLA, .ref aBM, .int msm, .ref aRP, .ref aFI, .ref aFM, .ref aGB, .ref aGM, .ref aGV, .ref aGR, .int mgs, .ref aKB, .ref aKP, .ref aIK, .int mka, .int miw])), (aPD, .inl (gI G, 48, .inl xpd)), (aGB, .inl (gJ G, 8, .inr (.inl xgb))), (aGM, .inl (gI G, 8, .inl xgm)), (aGV, .inl (gI G, 96, .inl xgv))] H → va_D A [(mo, .inr (8, [.long mbd, .int mby, .int mgr, .int mol, .ref aMM, .ref aMT, .int mmy, .ref aPD, .int mpm, .long mrd, .int mbm, .int mbw, .long mpl, .ref aST, .ref aPL, .ref aRS, .ref aLA, .ref aBM, .int msm, .ref aRP, .ref aFI, .ref aFM, .ref aGB, .ref aGM, .ref aGV, .ref aGR, .int mgs, .ref aKB, .ref aKP, .ref aIK, .int mka, .int miw])), (aPD, .inl (gI G, 48, .inl xpd)), (aGB, .inl (gJ G, 8, .inr (.inl xgb))), (aGM, .inl (gI G, 8, .inl xgm)), (aGV, .inl (gI G, 96, .inl xgv))] → va_S A s.heap H locs → lv_has ls 4 [(0, .ref mo), (1, .int mv), (3, .int x3_2)] → W p l e rm_X10_goOnWith s m args below meth c H locs 0 0 (MQ below (HXq G post A) args s 0 0 A) (F0 m 61 ls [.int t1_5, .int x2_1]) := by
          intro t1_5 H locs ls hF hP hD hS hl
          unfold f_X10_goOnWith_B61 at hF
          refine lv_iadd hx hb dX10_goOnWith_61 ?_
          refine lv_topi (fun v2_6 ev2_6 => ?_)
          have hF := jl hF ev2_6
          refine lv_istore_n (lv' := [(2, .int v2_6), (0, .ref mo), (1, .int mv), (3, .int x3_2)]) hx hb dX10_goOnWith_62 rfl hl (by decide) rfl (fun ls hl => ?_)
          obtain ⟨v3_7, ev3_7⟩ : ∃ z : Int32, z = x3_2 + 1 := ⟨_, rfl⟩
          have hF := jl hF ev3_7
          refine lv_iinc (v := v3_7) (lv' := [(3, .int v3_7), (2, .int v2_6), (0, .ref mo), (1, .int mv)]) hx hb dX10_goOnWith_63 hl (k := 3) rfl (by rw [ev3_7]; rfl) (by decide) rfl (fun ls hl => ?_)
          refine lv_goto (tgt := 4) hx hb dX10_goOnWith_66 (by decide) ?_
          exact ih4 v2_6 v3_7 _ _ _ hF hP hD hS (lv_sub hl [2, 3, 1, 0] rfl)
        refine lv_if_eq (tgt := 60) hx hb dX10_goOnWith_18 (by decide) (fun c_8 => ?_) (fun c_8 => ?_)
        · have hF := ifp hF c_8
          refine lv_iconst (v := 0) hx hb dX10_goOnWith_60 (by decide) ?_
          exact hB61 0 _ _ _ hF hP hD hS (lv_sub hl [0, 1, 3] rfl)
        · have hF := ifn hF c_8
          refine lv_aload_n hx hb dX10_goOnWith_21 rfl (lv_at hl 0 rfl) ?_
          refine hget hx hb hts hown hE fl_X10_48 hP 0 rfl rfl dX10_goOnWith_22 ?_
          refine lv_iload_n hx hb dX10_goOnWith_25 rfl (lv_at hl 3 rfl) ?_
          obtain ⟨hi_9, hF⟩ := inb hF
          refine hiald hx hb hE hP 3 rfl hi_9 dX10_goOnWith_26 ?_
          refine lv_aload_n hx hb dX10_goOnWith_27 rfl (lv_at hl 0 rfl) ?_
          refine hget hx hb hts hown hE fl_X10_146 hP 0 rfl rfl dX10_goOnWith_28 ?_
          refine lv_iconst (v := 4) hx hb dX10_goOnWith_31 (by decide) ?_
          refine lv_idiv hx hb dX10_goOnWith_32 (by decide) ?_
          refine lv_icmp_le (tgt := 60) hx hb dX10_goOnWith_33 (by decide) (fun c_10 => ?_) (fun c_10 => ?_)
          · have hF := ifp hF c_10
            refine lv_iconst (v := 0) hx hb dX10_goOnWith_60 (by decide) ?_
            exact hB61 0 _ _ _ hF hP hD hS (lv_sub hl [0, 1, 3] rfl)
          · have hF := ifn hF c_10
            refine lv_aload_n hx hb dX10_goOnWith_36 rfl (lv_at hl 0 rfl) ?_
            refine hget hx hb hts hown hE fl_X10_51 hP 0 rfl rfl dX10_goOnWith_37 ?_
            refine lv_bipush (v := 12) hx hb dX10_goOnWith_40 (by decide) ?_
            refine lv_iload_n hx hb dX10_goOnWith_42 rfl (lv_at hl 3 rfl) ?_
            refine lv_imul hx hb dX10_goOnWith_43 ?_
            refine lv_aload_n hx hb dX10_goOnWith_44 rfl (lv_at hl 0 rfl) ?_
            refine hget hx hb hts hown hE fl_X10_146 hP 0 rfl rfl dX10_goOnWith_45 ?_
            refine lv_iconst (v := 4) hx hb dX10_goOnWith_48 (by decide) ?_
            refine lv_idiv hx hb dX10_goOnWith_49 (by decide) ?_
            refine lv_iadd hx hb dX10_goOnWith_50 ?_
            obtain ⟨hi_11, hF⟩ := inb hF
            refine hiald hx hb hE hP 4 rfl hi_11 dX10_goOnWith_51 ?_
            refine lv_iload_n hx hb dX10_goOnWith_52 rfl (lv_at hl 1 rfl) ?_
            refine lv_icmp_ne (tgt := 60) hx hb dX10_goOnWith_53 (by decide) (fun c_12 => ?_) (fun c_12 => ?_)
            · have hF := ifn hF c_12
              refine lv_iconst (v := 0) hx hb dX10_goOnWith_60 (by decide) ?_
              exact hB61 0 _ _ _ hF hP hD hS (lv_sub hl [0, 1, 3] rfl)
            · have hF := ifp hF c_12
              refine lv_iconst (v := 1) hx hb dX10_goOnWith_56 (by decide) ?_
              refine lv_goto (tgt := 61) hx hb dX10_goOnWith_57 (by decide) ?_
              exact hB61 1 _ _ _ hF hP hD hS (lv_sub hl [0, 1, 3] rfl)
  exact hL4 _ 0 0 _ _ _ hF hP hD hS (lv_sub hl [2, 3, 1, 0] rfl)
def f_X10_next_B162 (k_131 : Int32 → Int32 → Int32 → Option Int32) (x7_11 : Int32) (x5_18 : Int32) (x6_19 : Int32) : Option Int32 :=
  jlet (x7_11 + 1) (fun v7_20 => k_131 x5_18 x6_19 v7_20)
def f_X10_next_L131 (mbd : Int64) (mpm : Int32) (mgs : Int32) (xpd : (Nat → Int32)) (xgb : (Nat → Int64)) (xgm : (Nat → Int32)) (xgv : (Nat → Int32)) (wh : Int32) (x2_4 : Int32) (x3_5 : Int32) (x4_6 : Int32) : Nat → Int32 → Int32 → Int32 → Option Int32
  | 0, _, _, _ => none
  | n+1, x5_9, x6_10, x7_11 =>
  if 2500 ≤ x7_11 then if wh = 0 then some x2_4 else if wh = 1 then some x3_5 else if wh = 2 then some x4_6 else if wh = 3 then some x5_9 else some x6_10 else Option.bind (f_X10_goOnWith mbd mpm mgs xpd xgb xgm xgv x7_11) (fun r142_17 => if r142_17 ≤ x6_10 then f_X10_next_B162 (f_X10_next_L131 mbd mpm mgs xpd xgb xgm xgv wh x2_4 x3_5 x4_6 n) x7_11 x5_9 x6_10 else f_X10_next_B162 (f_X10_next_L131 mbd mpm mgs xpd xgb xgm xgv wh x2_4 x3_5 x4_6 n) x7_11 x7_11 r142_17)
def f_X10_next_B112 (k_35 : Int32 → Int32 → Int32 → Int32 → Option Int32) (x4_6 : Int32) (x5_7 : Int32) (v2_24 : Int32) (v3_26 : Int32) (t1_27 : Int32) : Option Int32 :=
  jlet (x4_6 + t1_27) (fun v4_28 => jlet (x5_7 + 1) (fun v5_29 => k_35 v2_24 v3_26 v4_28 v5_29))
def f_X10_next_B87 (k_35 : Int32 → Int32 → Int32 → Int32 → Option Int32) (xgr : (Nat → Int32)) (x3_5 : Int32) (x4_6 : Int32) (x5_7 : Int32) (r47_22 : Int32) (v2_24 : Int32) (t1_25 : Int32) : Option Int32 :=
  jlet (x3_5 + t1_25) (fun v3_26 => if r47_22 = 0 then f_X10_next_B112 k_35 x4_6 x5_7 v2_24 v3_26 0 else if (x5_7) < 0 ∨ 8 ≤ (x5_7).toNatClampNeg then none else if (xgr (x5_7).toNatClampNeg) = 2 then f_X10_next_B112 k_35 x4_6 x5_7 v2_24 v3_26 1 else f_X10_next_B112 k_35 x4_6 x5_7 v2_24 v3_26 0)
def f_X10_next_B63 (k_35 : Int32 → Int32 → Int32 → Int32 → Option Int32) (xgr : (Nat → Int32)) (x2_4 : Int32) (x3_5 : Int32) (x4_6 : Int32) (x5_7 : Int32) (r47_22 : Int32) (t1_23 : Int32) : Option Int32 :=
  jlet (x2_4 + t1_23) (fun v2_24 => if r47_22 = 0 then f_X10_next_B87 k_35 xgr x3_5 x4_6 x5_7 r47_22 v2_24 0 else if (x5_7) < 0 ∨ 8 ≤ (x5_7).toNatClampNeg then none else if (xgr (x5_7).toNatClampNeg) = 1 then f_X10_next_B87 k_35 xgr x3_5 x4_6 x5_7 r47_22 v2_24 1 else f_X10_next_B87 k_35 xgr x3_5 x4_6 x5_7 r47_22 v2_24 0)
def f_X10_next_L35 (mbd : Int64) (mpm : Int32) (mgs : Int32) (xpd : (Nat → Int32)) (xgb : (Nat → Int64)) (xgm : (Nat → Int32)) (xgv : (Nat → Int32)) (xgr : (Nat → Int32)) (wh : Int32) : Nat → Int32 → Int32 → Int32 → Int32 → Option Int32
  | 0, _, _, _, _ => none
  | n+1, x2_4, x3_5, x4_6, x5_7 =>
  if mgs ≤ x5_7 then f_X10_next_L131 mbd mpm mgs xpd xgb xgm xgv wh x2_4 x3_5 x4_6 2501 (-6) 0 0 else Option.bind (f_X10_beginsSo mbd mpm xpd xgb xgm xgv x5_7) (fun r47_22 => if r47_22 = 0 then f_X10_next_B63 (f_X10_next_L35 mbd mpm mgs xpd xgb xgm xgv xgr wh n) xgr x2_4 x3_5 x4_6 x5_7 r47_22 0 else f_X10_next_B63 (f_X10_next_L35 mbd mpm mgs xpd xgb xgm xgv xgr wh n) xgr x2_4 x3_5 x4_6 x5_7 r47_22 1)
def f_X10_next (mbd : Int64) (mpm : Int32) (mgs : Int32) (xpd : (Nat → Int32)) (xgb : (Nat → Int64)) (xgm : (Nat → Int32)) (xgv : (Nat → Int32)) (xgr : (Nat → Int32)) (wh : Int32) : Option Int32 :=
  if (f_X10_in (wh.toInt64) 0 4) = 0 then some (-2) else Option.bind (f_X10_faultOfGame mpm xpd) (fun r16_2 => if r16_2 < 0 then f_X10_next_L35 mbd mpm mgs xpd xgb xgm xgv xgr wh 2501 0 0 0 0 else some (-5))
abbrev rm_X10_next : Room := { frames := 4, cells := 0, slots := 0, locals := 89 }
set_option maxHeartbeats 4000000 in
set_option maxRecDepth 100000 in
theorem k_X10_next (G : gT) (l : Launch) (mo : Nat) (aMM : Nat) (aMT : Nat) (aPD : Nat) (aST : Nat) (aPL : Nat) (aRS : Nat) (aLA : Nat) (aBM : Nat) (aRP : Nat) (aFI : Nat) (aFM : Nat) (aGB : Nat) (aGM : Nat) (aGV : Nat) (aGR : Nat) (aKB : Nat) (aKP : Nat) (aIK : Nat) (mbd : Int64) (mby : Int32) (mgr : Int32) (mol : Int32) (mmy : Int32) (mpm : Int32) (mrd : Int64) (mbm : Int32) (mbw : Int32) (mpl : Int64) (msm : Int32) (mgs : Int32) (mka : Int32) (miw : Int32) (xpd : (Nat → Int32)) (xgb : (Nat → Int64)) (xgm : (Nat → Int32)) (xgv : (Nat → Int32)) (xgr : (Nat → Int32)) (wh : Int32) (r : Int32) (hF : f_X10_next mbd mpm mgs xpd xgb xgm xgv xgr wh = some r) : HM G l yX10_next (.code yX10_next cX10_next 9 (some .int) :: UW) rm_X10_next 0 0 [.ref mo, .int wh] [(mo, .inr (8, [.long mbd, .int mby, .int mgr, .int mol, .ref aMM, .ref aMT, .int mmy, .ref aPD, .int mpm, .long mrd, .int mbm, .int mbw, .long mpl, .ref aST, .ref aPL, .ref aRS, .ref aLA, .ref aBM, .int msm, .ref aRP, .ref aFI, .ref aFM, .ref aGB, .ref aGM, .ref aGV, .ref aGR, .int mgs, .ref aKB, .ref aKP, .ref aIK, .int mka, .int miw])), (aPD, .inl (gI G, 48, .inl xpd)), (aGB, .inl (gJ G, 8, .inr (.inl xgb))), (aGM, .inl (gI G, 8, .inl xgm)), (aGV, .inl (gI G, 96, .inl xgv)), (aGR, .inl (gI G, 8, .inl xgr))] (some (.int r)) [(mo, .inr (8, [.long mbd, .int mby, .int mgr, .int mol, .ref aMM, .ref aMT, .int mmy, .ref aPD, .int mpm, .long mrd, .int mbm, .int mbw, .long mpl, .ref aST, .ref aPL, .ref aRS, .ref aLA, .ref aBM, .int msm, .ref aRP, .ref aFI, .ref aFM, .ref aGB, .ref aGM, .ref aGV, .ref aGR, .int mgs, .ref aKB, .ref aKP, .ref aIK, .int mka, .int miw])), (aPD, .inl (gI G, 48, .inl xpd)), (aGB, .inl (gJ G, 8, .inr (.inl xgb))), (aGM, .inl (gI G, 8, .inl xgm)), (aGV, .inl (gI G, 96, .inl xgv)), (aGR, .inl (gI G, 8, .inl xgr))] := by
  refine HM.ofW (by decide) (Nat.le_of_ble_eq_true rfl) ?_
  intro p e s m args below meth c A post hpost hC hP hD hS ls hl
  obtain ⟨hx, hb, hr, hml, hown, hts, hlk, hE, hA⟩ := hC
  have hl : lv_has ls 9 [(0, .ref mo), (1, .int wh)] := hl
  unfold f_X10_next at hF
  refine lv_iload_n hx hb dX10_next_0 rfl (lv_at hl 1 rfl) ?_
  refine lv_i2l (v := (wh.toInt64)) hx hb dX10_next_1 rfl ?_
  refine lv_lconst (v := 0) hx hb dX10_next_2 (by decide) ?_
  refine lv_ldc2 (v := 4) hx hb hown (hts _ (List.mem_cons_of_mem _ mw_1052)) dX10_next_3 ?_
  refine hm_S (wn := [(mo, .inr (8, [.long mbd, .int mby, .int mgr, .int mol, .ref aMM, .ref aMT, .int mmy, .ref aPD, .int mpm, .long mrd, .int mbm, .int mbw, .long mpl, .ref aST, .ref aPL, .ref aRS, .ref aLA, .ref aBM, .int msm, .ref aRP, .ref aFI, .ref aFM, .ref aGB, .ref aGM, .ref aGV, .ref aGR, .int mgs, .ref aKB, .ref aKP, .ref aIK, .int mka, .int miw])), (aPD, .inl (gI G, 48, .inl xpd)), (aGB, .inl (gJ G, 8, .inr (.inl xgb))), (aGM, .inl (gI G, 8, .inl xgm)), (aGV, .inl (gI G, 96, .inl xgv)), (aGR, .inl (gI G, 8, .inl xgr))]) (wr := [(mo, .inr (8, [.long mbd, .int mby, .int mgr, .int mol, .ref aMM, .ref aMT, .int mmy, .ref aPD, .int mpm, .long mrd, .int mbm, .int mbw, .long mpl, .ref aST, .ref aPL, .ref aRS, .ref aLA, .ref aBM, .int msm, .ref aRP, .ref aFI, .ref aFM, .ref aGB, .ref aGM, .ref aGV, .ref aGR, .int mgs, .ref aKB, .ref aKP, .ref aIK, .int mka, .int miw])), (aPD, .inl (gI G, 48, .inl xpd)), (aGB, .inl (gJ G, 8, .inr (.inl xgb))), (aGM, .inl (gI G, 8, .inl xgm)), (aGV, .inl (gI G, 96, .inl xgv)), (aGR, .inl (gI G, 8, .inl xgr))]) (rest := []) (sn := [.int (f_X10_in (wh.toInt64) 0 4)]) hx hb hml hown hts hE hA (k_X10_in G l (wh.toInt64) 0 4 _ rfl) sm_X10_in mw_833 ⟨rfl, rfl, Nat.le_of_ble_eq_true rfl, Nat.le_of_ble_eq_true rfl⟩ hP hD hS [] [0, 1, 2, 3, 4, 5] [0, 1, 2, 3, 4, 5] rfl rfl rfl (by decide) hl.1 rfl rfl (Nat.le_of_ble_eq_true rfl) dX10_next_6 ⟨Nat.le_of_ble_eq_true rfl, Nat.le_of_ble_eq_true rfl⟩ (fun H locs hP hD hS => ?_)
  refine lv_if_ne (tgt := 15) hx hb dX10_next_9 (by decide) (fun c_1 => ?_) (fun c_1 => ?_)
  · have hF := ifn hF c_1
    refine lv_aload_n hx hb dX10_next_15 rfl (lv_at hl 0 rfl) ?_
    obtain ⟨r16_2, hr16_2, hF⟩ := bnd hF
    refine hm_V (wn := [(mo, .inr (8, [.long mbd, .int mby, .int mgr, .int mol, .ref aMM, .ref aMT, .int mmy, .ref aPD, .int mpm, .long mrd, .int mbm, .int mbw, .long mpl, .ref aST, .ref aPL, .ref aRS, .ref aLA, .ref aBM, .int msm, .ref aRP, .ref aFI, .ref aFM, .ref aGB, .ref aGM, .ref aGV, .ref aGR, .int mgs, .ref aKB, .ref aKP, .ref aIK, .int mka, .int miw])), (aPD, .inl (gI G, 48, .inl xpd)), (aGB, .inl (gJ G, 8, .inr (.inl xgb))), (aGM, .inl (gI G, 8, .inl xgm)), (aGV, .inl (gI G, 96, .inl xgv)), (aGR, .inl (gI G, 8, .inl xgr))]) (wr := [(aGB, .inl (gJ G, 8, .inr (.inl xgb))), (aGM, .inl (gI G, 8, .inl xgm)), (aGV, .inl (gI G, 96, .inl xgv)), (aGR, .inl (gI G, 8, .inl xgr))]) (rest := []) (sn := [.int r16_2]) hx hb hml hown hts hE hA (k_X10_faultOfGame G l mo aMM aMT aPD aST aPL aRS aLA aBM aRP aFI aFM aGB aGM aGV aGR aKB aKP aIK mbd mby mgr mol mmy mpm mrd mbm mbw mpl msm mgs mka miw xpd r16_2 hr16_2) sm_X10_faultOfGame mw_865 ⟨rfl, rfl, Nat.le_of_ble_eq_true rfl, Nat.le_of_ble_eq_true rfl⟩ hP hD hS 0 rfl rfl [0, 1] [2, 3, 4, 5] [4, 5, 0, 1, 2, 3] rfl rfl rfl (by decide) hl.1 rfl rfl (Nat.le_of_ble_eq_true rfl) dX10_next_16 ⟨Nat.le_of_ble_eq_true rfl, Nat.le_of_ble_eq_true rfl⟩ (fun H locs hP hD hS => ?_)
    refine lv_if_lt (tgt := 25) hx hb dX10_next_19 (by decide) (fun c_3 => ?_) (fun c_3 => ?_)
    · have hF := ifp hF c_3
      refine lv_iconst (v := 0) hx hb dX10_next_25 (by decide) ?_
      refine lv_istore_n (lv' := [(2, .int 0), (0, .ref mo), (1, .int wh)]) hx hb dX10_next_26 rfl hl (by decide) rfl (fun ls hl => ?_)
      refine lv_iconst (v := 0) hx hb dX10_next_27 (by decide) ?_
      refine lv_istore_n (lv' := [(3, .int 0), (2, .int 0), (0, .ref mo), (1, .int wh)]) hx hb dX10_next_28 rfl hl (by decide) rfl (fun ls hl => ?_)
      refine lv_iconst (v := 0) hx hb dX10_next_29 (by decide) ?_
      refine lv_istore (lv' := [(4, .int 0), (3, .int 0), (2, .int 0), (0, .ref mo), (1, .int wh)]) hx hb dX10_next_30 hl (by decide) rfl (fun ls hl => ?_)
      refine lv_iconst (v := 0) hx hb dX10_next_32 (by decide) ?_
      refine lv_istore (lv' := [(5, .int 0), (4, .int 0), (3, .int 0), (2, .int 0), (0, .ref mo), (1, .int wh)]) hx hb dX10_next_33 hl (by decide) rfl (fun ls hl => ?_)
      have hL35 : ∀ (n35 : Nat) (x2_4 : Int32) (x3_5 : Int32) (x4_6 : Int32) (x5_7 : Int32) (H : Heap) (locs : List Loc) (ls : Array Slot), f_X10_next_L35 mbd mpm mgs xpd xgb xgm xgv xgr wh n35 x2_4 x3_5 x4_6 x5_7 = some r → va_P (gD G) vwCl [(mo, .inr (8, [.long mbd, .int mby, .int mgr, .int mol, .ref aMM, .ref aMT, .int mmy, .ref aPD, .int mpm, .long mrd, .int mbm, .int mbw, .long mpl, .ref aST, .ref aPL, .ref aRS, .ref aLA, .ref aBM, .int msm, .ref aRP, .ref aFI, .ref aFM, .ref aGB, .ref aGM, .ref aGV, .ref aGR, .int mgs, .ref aKB, .ref aKP, .ref aIK, .int mka, .int miw])), (aPD, .inl (gI G, 48, .inl xpd)), (aGB, .inl (gJ G, 8, .inr (.inl xgb))), (aGM, .inl (gI G, 8, .inl xgm)), (aGV, .inl (gI G, 96, .inl xgv)), (aGR, .inl (gI G, 8, .inl xgr))] H → va_D A [(mo, .inr (8, [.long mbd, .int mby, .int mgr, .int mol, .ref aMM, .ref aMT, .int mmy, .ref aPD, .int mpm, .long mrd, .int mbm, .int mbw, .long mpl, .ref aST, .ref aPL, .ref aRS, .ref aLA, .ref aBM, .int msm, .ref aRP, .ref aFI, .ref aFM, .ref aGB, .ref aGM, .ref aGV, .ref aGR, .int mgs, .ref aKB, .ref aKP, .ref aIK, .int mka, .int miw])), (aPD, .inl (gI G, 48, .inl xpd)), (aGB, .inl (gJ G, 8, .inr (.inl xgb))), (aGM, .inl (gI G, 8, .inl xgm)), (aGV, .inl (gI G, 96, .inl xgv)), (aGR, .inl (gI G, 8, .inl xgr))] → va_S A s.heap H locs → lv_has ls 9 [(0, .ref mo), (1, .int wh), (2, .int x2_4), (3, .int x3_5), (4, .int x4_6), (5, .int x5_7)] → W p l e rm_X10_next s m args below meth c H locs 0 0 (MQ below (HXq G post A) args s 0 0 A) (F0 m 35 ls []) := by
        intro n35
        induction n35 with
        | zero =>
          intro x2_4 x3_5 x4_6 x5_7 H locs ls hF
          exact absurd hF (fun h => by cases h)
        | succ n35 ih35 =>
          intro x2_4 x3_5 x4_6 x5_7 H locs ls hF hP hD hS hl
          unfold f_X10_next_L35 at hF
          refine lv_iload hx hb dX10_next_35 (lv_at hl 5 rfl) ?_
          refine lv_aload_n hx hb dX10_next_37 rfl (lv_at hl 0 rfl) ?_
          refine hget hx hb hts hown hE fl_X10_258 hP 0 rfl rfl dX10_next_38 ?_
          refine lv_icmp_ge (tgt := 121) hx hb dX10_next_41 (by decide) (fun c_8 => ?_) (fun c_8 => ?_)
          · have hF := ifp hF c_8
            refine lv_bipush (v := (-6)) hx hb dX10_next_121 (by decide) ?_
            refine lv_istore (lv' := [(5, .int (-6)), (0, .ref mo), (1, .int wh), (2, .int x2_4), (3, .int x3_5), (4, .int x4_6)]) hx hb dX10_next_123 hl (by decide) rfl (fun ls hl => ?_)
            refine lv_iconst (v := 0) hx hb dX10_next_125 (by decide) ?_
            refine lv_istore (lv' := [(6, .int 0), (5, .int (-6)), (0, .ref mo), (1, .int wh), (2, .int x2_4), (3, .int x3_5), (4, .int x4_6)]) hx hb dX10_next_126 hl (by decide) rfl (fun ls hl => ?_)
            refine lv_iconst (v := 0) hx hb dX10_next_128 (by decide) ?_
            refine lv_istore (lv' := [(7, .int 0), (6, .int 0), (5, .int (-6)), (0, .ref mo), (1, .int wh), (2, .int x2_4), (3, .int x3_5), (4, .int x4_6)]) hx hb dX10_next_129 hl (by decide) rfl (fun ls hl => ?_)
            have hL131 : ∀ (n131 : Nat) (x5_9 : Int32) (x6_10 : Int32) (x7_11 : Int32) (H : Heap) (locs : List Loc) (ls : Array Slot), f_X10_next_L131 mbd mpm mgs xpd xgb xgm xgv wh x2_4 x3_5 x4_6 n131 x5_9 x6_10 x7_11 = some r → va_P (gD G) vwCl [(mo, .inr (8, [.long mbd, .int mby, .int mgr, .int mol, .ref aMM, .ref aMT, .int mmy, .ref aPD, .int mpm, .long mrd, .int mbm, .int mbw, .long mpl, .ref aST, .ref aPL, .ref aRS, .ref aLA, .ref aBM, .int msm, .ref aRP, .ref aFI, .ref aFM, .ref aGB, .ref aGM, .ref aGV, .ref aGR, .int mgs, .ref aKB, .ref aKP, .ref aIK, .int mka, .int miw])), (aPD, .inl (gI G, 48, .inl xpd)), (aGB, .inl (gJ G, 8, .inr (.inl xgb))), (aGM, .inl (gI G, 8, .inl xgm)), (aGV, .inl (gI G, 96, .inl xgv)), (aGR, .inl (gI G, 8, .inl xgr))] H → va_D A [(mo, .inr (8, [.long mbd, .int mby, .int mgr, .int mol, .ref aMM, .ref aMT, .int mmy, .ref aPD, .int mpm, .long mrd, .int mbm, .int mbw, .long mpl, .ref aST, .ref aPL, .ref aRS, .ref aLA, .ref aBM, .int msm, .ref aRP, .ref aFI, .ref aFM, .ref aGB, .ref aGM, .ref aGV, .ref aGR, .int mgs, .ref aKB, .ref aKP, .ref aIK, .int mka, .int miw])), (aPD, .inl (gI G, 48, .inl xpd)), (aGB, .inl (gJ G, 8, .inr (.inl xgb))), (aGM, .inl (gI G, 8, .inl xgm)), (aGV, .inl (gI G, 96, .inl xgv)), (aGR, .inl (gI G, 8, .inl xgr))] → va_S A s.heap H locs → lv_has ls 9 [(0, .ref mo), (1, .int wh), (2, .int x2_4), (3, .int x3_5), (4, .int x4_6), (5, .int x5_9), (6, .int x6_10), (7, .int x7_11)] → W p l e rm_X10_next s m args below meth c H locs 0 0 (MQ below (HXq G post A) args s 0 0 A) (F0 m 131 ls []) := by
              intro n131
              induction n131 with
              | zero =>
                intro x5_9 x6_10 x7_11 H locs ls hF
                exact absurd hF (fun h => by cases h)
              | succ n131 ih131 =>
                intro x5_9 x6_10 x7_11 H locs ls hF hP hD hS hl
                unfold f_X10_next_L131 at hF
                refine lv_iload hx hb dX10_next_131 (lv_at hl 7 rfl) ?_
                refine lv_sipush (v := 2500) hx hb dX10_next_133 (by decide) ?_
                refine lv_icmp_ge (tgt := 168) hx hb dX10_next_136 (by decide) (fun c_12 => ?_) (fun c_12 => ?_)
                · have hF := ifp hF c_12
                  refine lv_iload_n hx hb dX10_next_168 rfl (lv_at hl 1 rfl) ?_
                  refine lv_if_ne (tgt := 176) hx hb dX10_next_169 (by decide) (fun c_13 => ?_) (fun c_13 => ?_)
                  · have hF := ifn hF c_13
                    refine lv_iload_n hx hb dX10_next_176 rfl (lv_at hl 1 rfl) ?_
                    refine lv_iconst (v := 1) hx hb dX10_next_177 (by decide) ?_
                    refine lv_icmp_ne (tgt := 185) hx hb dX10_next_178 (by decide) (fun c_14 => ?_) (fun c_14 => ?_)
                    · have hF := ifn hF c_14
                      refine lv_iload_n hx hb dX10_next_185 rfl (lv_at hl 1 rfl) ?_
                      refine lv_iconst (v := 2) hx hb dX10_next_186 (by decide) ?_
                      refine lv_icmp_ne (tgt := 195) hx hb dX10_next_187 (by decide) (fun c_15 => ?_) (fun c_15 => ?_)
                      · have hF := ifn hF c_15
                        refine lv_iload_n hx hb dX10_next_195 rfl (lv_at hl 1 rfl) ?_
                        refine lv_iconst (v := 3) hx hb dX10_next_196 (by decide) ?_
                        refine lv_icmp_ne (tgt := 205) hx hb dX10_next_197 (by decide) (fun c_16 => ?_) (fun c_16 => ?_)
                        · have hF := ifn hF c_16
                          refine lv_iload hx hb dX10_next_205 (lv_at hl 6 rfl) ?_
                          have hF := Option.some.inj hF
                          subst hF
                          exact hm_iret hx hb hr hlk hP hD hS hpost dX10_next_207
                        · have hF := ifp hF c_16
                          refine lv_iload hx hb dX10_next_200 (lv_at hl 5 rfl) ?_
                          refine lv_goto (tgt := 207) hx hb dX10_next_202 (by decide) ?_
                          have hF := Option.some.inj hF
                          subst hF
                          exact hm_iret hx hb hr hlk hP hD hS hpost dX10_next_207
                      · have hF := ifp hF c_15
                        refine lv_iload hx hb dX10_next_190 (lv_at hl 4 rfl) ?_
                        refine lv_goto (tgt := 207) hx hb dX10_next_192 (by decide) ?_
                        have hF := Option.some.inj hF
                        subst hF
                        exact hm_iret hx hb hr hlk hP hD hS hpost dX10_next_207
                    · have hF := ifp hF c_14
                      refine lv_iload_n hx hb dX10_next_181 rfl (lv_at hl 3 rfl) ?_
                      refine lv_goto (tgt := 207) hx hb dX10_next_182 (by decide) ?_
                      have hF := Option.some.inj hF
                      subst hF
                      exact hm_iret hx hb hr hlk hP hD hS hpost dX10_next_207
                  · have hF := ifp hF c_13
                    refine lv_iload_n hx hb dX10_next_172 rfl (lv_at hl 2 rfl) ?_
                    refine lv_goto (tgt := 207) hx hb dX10_next_173 (by decide) ?_
                    have hF := Option.some.inj hF
                    subst hF
                    exact hm_iret hx hb hr hlk hP hD hS hpost dX10_next_207
                · have hF := ifn hF c_12
                  refine lv_aload_n hx hb dX10_next_139 rfl (lv_at hl 0 rfl) ?_
                  refine lv_iload hx hb dX10_next_140 (lv_at hl 7 rfl) ?_
                  obtain ⟨r142_17, hr142_17, hF⟩ := bnd hF
                  refine hm_V (wn := [(mo, .inr (8, [.long mbd, .int mby, .int mgr, .int mol, .ref aMM, .ref aMT, .int mmy, .ref aPD, .int mpm, .long mrd, .int mbm, .int mbw, .long mpl, .ref aST, .ref aPL, .ref aRS, .ref aLA, .ref aBM, .int msm, .ref aRP, .ref aFI, .ref aFM, .ref aGB, .ref aGM, .ref aGV, .ref aGR, .int mgs, .ref aKB, .ref aKP, .ref aIK, .int mka, .int miw])), (aPD, .inl (gI G, 48, .inl xpd)), (aGB, .inl (gJ G, 8, .inr (.inl xgb))), (aGM, .inl (gI G, 8, .inl xgm)), (aGV, .inl (gI G, 96, .inl xgv)), (aGR, .inl (gI G, 8, .inl xgr))]) (wr := [(aGR, .inl (gI G, 8, .inl xgr))]) (rest := []) (sn := [.int r142_17]) hx hb hml hown hts hE hA (k_X10_goOnWith G l mo aMM aMT aPD aST aPL aRS aLA aBM aRP aFI aFM aGB aGM aGV aGR aKB aKP aIK mbd mby mgr mol mmy mpm mrd mbm mbw mpl msm mgs mka miw xpd xgb xgm xgv x7_11 r142_17 hr142_17) sm_X10_goOnWith mw_1057 ⟨rfl, rfl, Nat.le_of_ble_eq_true rfl, Nat.le_of_ble_eq_true rfl⟩ hP hD hS 0 rfl rfl [0, 1, 2, 3, 4] [5] [1, 2, 3, 4, 5, 0] rfl rfl rfl (by decide) hl.1 rfl rfl (Nat.le_of_ble_eq_true rfl) dX10_next_142 ⟨Nat.le_of_ble_eq_true rfl, Nat.le_of_ble_eq_true rfl⟩ (fun H locs hP hD hS => ?_)
                  refine lv_istore (lv' := [(8, .int r142_17), (0, .ref mo), (1, .int wh), (2, .int x2_4), (3, .int x3_5), (4, .int x4_6), (5, .int x5_9), (6, .int x6_10), (7, .int x7_11)]) hx hb dX10_next_145 hl (by decide) rfl (fun ls hl => ?_)
                  refine lv_iload hx hb dX10_next_147 (lv_at hl 0 rfl) ?_
                  refine lv_iload hx hb dX10_next_149 (lv_at hl 7 rfl) ?_
                  have hB162 : ∀ (x5_18 : Int32) (x6_19 : Int32) (H : Heap) (locs : List Loc) (ls : Array Slot), f_X10_next_B162 (f_X10_next_L131 mbd mpm mgs xpd xgb xgm xgv wh x2_4 x3_5 x4_6 n131) x7_11 x5_18 x6_19 = some r → va_P (gD G) vwCl [(mo, .inr (8, [.long mbd, .int mby, .int mgr, .int mol, .ref aMM, .ref aMT, .int mmy, .ref aPD, .int mpm, .long mrd, .int mbm, .int mbw, .long mpl, .ref aST, .ref aPL, .ref aRS, .ref aLA, .ref aBM, .int msm, .ref aRP, .ref aFI, .ref aFM, .ref aGB, .ref aGM, .ref aGV, .ref aGR, .int mgs, .ref aKB, .ref aKP, .ref aIK, .int mka, .int miw])), (aPD, .inl (gI G, 48, .inl xpd)), (aGB, .inl (gJ G, 8, .inr (.inl xgb))), (aGM, .inl (gI G, 8, .inl xgm)), (aGV, .inl (gI G, 96, .inl xgv)), (aGR, .inl (gI G, 8, .inl xgr))] H → va_D A [(mo, .inr (8, [.long mbd, .int mby, .int mgr, .int mol, .ref aMM, .ref aMT, .int mmy, .ref aPD, .int mpm, .long mrd, .int mbm, .int mbw, .long mpl, .ref aST, .ref aPL, .ref aRS, .ref aLA, .ref aBM, .int msm, .ref aRP, .ref aFI, .ref aFM, .ref aGB, .ref aGM, .ref aGV, .ref aGR, .int mgs, .ref aKB, .ref aKP, .ref aIK, .int mka, .int miw])), (aPD, .inl (gI G, 48, .inl xpd)), (aGB, .inl (gJ G, 8, .inr (.inl xgb))), (aGM, .inl (gI G, 8, .inl xgm)), (aGV, .inl (gI G, 96, .inl xgv)), (aGR, .inl (gI G, 8, .inl xgr))] → va_S A s.heap H locs → lv_has ls 9 [(0, .ref mo), (1, .int wh), (2, .int x2_4), (3, .int x3_5), (4, .int x4_6), (5, .int x5_18), (6, .int x6_19), (7, .int x7_11)] → W p l e rm_X10_next s m args below meth c H locs 0 0 (MQ below (HXq G post A) args s 0 0 A) (F0 m 162 ls []) := by
                    intro x5_18 x6_19 H locs ls hF hP hD hS hl
                    unfold f_X10_next_B162 at hF
                    obtain ⟨v7_20, ev7_20⟩ : ∃ z : Int32, z = x7_11 + 1 := ⟨_, rfl⟩
                    have hF := jl hF ev7_20
                    refine lv_iinc (v := v7_20) (lv' := [(7, .int v7_20), (0, .ref mo), (1, .int wh), (2, .int x2_4), (3, .int x3_5), (4, .int x4_6), (5, .int x5_18), (6, .int x6_19)]) hx hb dX10_next_162 hl (k := 7) rfl (by rw [ev7_20]; rfl) (by decide) rfl (fun ls hl => ?_)
                    refine lv_goto (tgt := 131) hx hb dX10_next_165 (by decide) ?_
                    exact ih131 x5_18 x6_19 v7_20 _ _ _ hF hP hD hS (lv_sub hl [1, 2, 3, 4, 5, 6, 7, 0] rfl)
                  refine lv_icmp_le (tgt := 162) hx hb dX10_next_151 (by decide) (fun c_21 => ?_) (fun c_21 => ?_)
                  · have hF := ifp hF c_21
                    exact hB162 x5_9 x6_10 _ _ _ hF hP hD hS (lv_sub hl [1, 2, 3, 4, 5, 6, 7, 8] rfl)
                  · have hF := ifn hF c_21
                    refine lv_iload hx hb dX10_next_154 (lv_at hl 8 rfl) ?_
                    refine lv_istore (lv' := [(5, .int x7_11), (8, .int r142_17), (0, .ref mo), (1, .int wh), (2, .int x2_4), (3, .int x3_5), (4, .int x4_6), (6, .int x6_10), (7, .int x7_11)]) hx hb dX10_next_156 hl (by decide) rfl (fun ls hl => ?_)
                    refine lv_iload hx hb dX10_next_158 (lv_at hl 1 rfl) ?_
                    refine lv_istore (lv' := [(6, .int r142_17), (5, .int x7_11), (8, .int r142_17), (0, .ref mo), (1, .int wh), (2, .int x2_4), (3, .int x3_5), (4, .int x4_6), (7, .int x7_11)]) hx hb dX10_next_160 hl (by decide) rfl (fun ls hl => ?_)
                    exact hB162 x7_11 r142_17 _ _ _ hF hP hD hS (lv_sub hl [3, 4, 5, 6, 7, 1, 0, 8] rfl)
            exact hL131 _ (-6) 0 0 _ _ _ hF hP hD hS (lv_sub hl [3, 4, 5, 6, 7, 2, 1, 0] rfl)
          · have hF := ifn hF c_8
            refine lv_aload_n hx hb dX10_next_44 rfl (lv_at hl 0 rfl) ?_
            refine lv_iload hx hb dX10_next_45 (lv_at hl 5 rfl) ?_
            obtain ⟨r47_22, hr47_22, hF⟩ := bnd hF
            refine hm_V (wn := [(mo, .inr (8, [.long mbd, .int mby, .int mgr, .int mol, .ref aMM, .ref aMT, .int mmy, .ref aPD, .int mpm, .long mrd, .int mbm, .int mbw, .long mpl, .ref aST, .ref aPL, .ref aRS, .ref aLA, .ref aBM, .int msm, .ref aRP, .ref aFI, .ref aFM, .ref aGB, .ref aGM, .ref aGV, .ref aGR, .int mgs, .ref aKB, .ref aKP, .ref aIK, .int mka, .int miw])), (aPD, .inl (gI G, 48, .inl xpd)), (aGB, .inl (gJ G, 8, .inr (.inl xgb))), (aGM, .inl (gI G, 8, .inl xgm)), (aGV, .inl (gI G, 96, .inl xgv)), (aGR, .inl (gI G, 8, .inl xgr))]) (wr := [(aGR, .inl (gI G, 8, .inl xgr))]) (rest := []) (sn := [.int r47_22]) hx hb hml hown hts hE hA (k_X10_beginsSo G l mo aMM aMT aPD aST aPL aRS aLA aBM aRP aFI aFM aGB aGM aGV aGR aKB aKP aIK mbd mby mgr mol mmy mpm mrd mbm mbw mpl msm mgs mka miw xpd xgb xgm xgv x5_7 r47_22 hr47_22) sm_X10_beginsSo mw_1053 ⟨rfl, rfl, Nat.le_of_ble_eq_true rfl, Nat.le_of_ble_eq_true rfl⟩ hP hD hS 0 rfl rfl [0, 1, 2, 3, 4] [5] [1, 2, 3, 4, 5, 0] rfl rfl rfl (by decide) hl.1 rfl rfl (Nat.le_of_ble_eq_true rfl) dX10_next_47 ⟨Nat.le_of_ble_eq_true rfl, Nat.le_of_ble_eq_true rfl⟩ (fun H locs hP hD hS => ?_)
            refine lv_istore (lv' := [(6, .int r47_22), (0, .ref mo), (1, .int wh), (2, .int x2_4), (3, .int x3_5), (4, .int x4_6), (5, .int x5_7)]) hx hb dX10_next_50 hl (by decide) rfl (fun ls hl => ?_)
            refine lv_iload_n hx hb dX10_next_52 rfl (lv_at hl 3 rfl) ?_
            refine lv_iload hx hb dX10_next_53 (lv_at hl 0 rfl) ?_
            have hB63 : ∀ (t1_23 : Int32) (H : Heap) (locs : List Loc) (ls : Array Slot), f_X10_next_B63 (f_X10_next_L35 mbd mpm mgs xpd xgb xgm xgv xgr wh n35) xgr x2_4 x3_5 x4_6 x5_7 r47_22 t1_23 = some r → va_P (gD G) vwCl [(mo, .inr (8, [.long mbd, .int mby, .int mgr, .int mol, .ref aMM, .ref aMT, .int mmy, .ref aPD, .int mpm, .long mrd, .int mbm, .int mbw, .long mpl, .ref aST, .ref aPL, .ref aRS, .ref aLA, .ref aBM, .int msm, .ref aRP, .ref aFI, .ref aFM, .ref aGB, .ref aGM, .ref aGV, .ref aGR, .int mgs, .ref aKB, .ref aKP, .ref aIK, .int mka, .int miw])), (aPD, .inl (gI G, 48, .inl xpd)), (aGB, .inl (gJ G, 8, .inr (.inl xgb))), (aGM, .inl (gI G, 8, .inl xgm)), (aGV, .inl (gI G, 96, .inl xgv)), (aGR, .inl (gI G, 8, .inl xgr))] H → va_D A [(mo, .inr (8, [.long mbd, .int mby, .int mgr, .int mol, .ref aMM, .ref aMT, .int mmy, .ref aPD, .int mpm, .long mrd, .int mbm, .int mbw, .long mpl, .ref aST, .ref aPL, .ref aRS, .ref aLA, .ref aBM, .int msm, .ref aRP, .ref aFI, .ref aFM, .ref aGB, .ref aGM, .ref aGV, .ref aGR, .int mgs, .ref aKB, .ref aKP, .ref aIK, .int mka, .int miw])), (aPD, .inl (gI G, 48, .inl xpd)), (aGB, .inl (gJ G, 8, .inr (.inl xgb))), (aGM, .inl (gI G, 8, .inl xgm)), (aGV, .inl (gI G, 96, .inl xgv)), (aGR, .inl (gI G, 8, .inl xgr))] → va_S A s.heap H locs → lv_has ls 9 [(0, .ref mo), (1, .int wh), (3, .int x3_5), (4, .int x4_6), (5, .int x5_7), (6, .int r47_22)] → W p l e rm_X10_next s m args below meth c H locs 0 0 (MQ below (HXq G post A) args s 0 0 A) (F0 m 63 ls [.int t1_23, .int x2_4]) := by
              intro t1_23 H locs ls hF hP hD hS hl
              unfold f_X10_next_B63 at hF
              refine lv_iadd hx hb dX10_next_63 ?_
              refine lv_topi (fun v2_24 ev2_24 => ?_)
              have hF := jl hF ev2_24
              refine lv_istore_n (lv' := [(2, .int v2_24), (0, .ref mo), (1, .int wh), (3, .int x3_5), (4, .int x4_6), (5, .int x5_7), (6, .int r47_22)]) hx hb dX10_next_64 rfl hl (by decide) rfl (fun ls hl => ?_)
              refine lv_iload_n hx hb dX10_next_65 rfl (lv_at hl 3 rfl) ?_
              refine lv_iload hx hb dX10_next_66 (lv_at hl 6 rfl) ?_
              have hB87 : ∀ (t1_25 : Int32) (H : Heap) (locs : List Loc) (ls : Array Slot), f_X10_next_B87 (f_X10_next_L35 mbd mpm mgs xpd xgb xgm xgv xgr wh n35) xgr x3_5 x4_6 x5_7 r47_22 v2_24 t1_25 = some r → va_P (gD G) vwCl [(mo, .inr (8, [.long mbd, .int mby, .int mgr, .int mol, .ref aMM, .ref aMT, .int mmy, .ref aPD, .int mpm, .long mrd, .int mbm, .int mbw, .long mpl, .ref aST, .ref aPL, .ref aRS, .ref aLA, .ref aBM, .int msm, .ref aRP, .ref aFI, .ref aFM, .ref aGB, .ref aGM, .ref aGV, .ref aGR, .int mgs, .ref aKB, .ref aKP, .ref aIK, .int mka, .int miw])), (aPD, .inl (gI G, 48, .inl xpd)), (aGB, .inl (gJ G, 8, .inr (.inl xgb))), (aGM, .inl (gI G, 8, .inl xgm)), (aGV, .inl (gI G, 96, .inl xgv)), (aGR, .inl (gI G, 8, .inl xgr))] H → va_D A [(mo, .inr (8, [.long mbd, .int mby, .int mgr, .int mol, .ref aMM, .ref aMT, .int mmy, .ref aPD, .int mpm, .long mrd, .int mbm, .int mbw, .long mpl, .ref aST, .ref aPL, .ref aRS, .ref aLA, .ref aBM, .int msm, .ref aRP, .ref aFI, .ref aFM, .ref aGB, .ref aGM, .ref aGV, .ref aGR, .int mgs, .ref aKB, .ref aKP, .ref aIK, .int mka, .int miw])), (aPD, .inl (gI G, 48, .inl xpd)), (aGB, .inl (gJ G, 8, .inr (.inl xgb))), (aGM, .inl (gI G, 8, .inl xgm)), (aGV, .inl (gI G, 96, .inl xgv)), (aGR, .inl (gI G, 8, .inl xgr))] → va_S A s.heap H locs → lv_has ls 9 [(0, .ref mo), (1, .int wh), (2, .int v2_24), (4, .int x4_6), (5, .int x5_7), (6, .int r47_22)] → W p l e rm_X10_next s m args below meth c H locs 0 0 (MQ below (HXq G post A) args s 0 0 A) (F0 m 87 ls [.int t1_25, .int x3_5]) := by
                intro t1_25 H locs ls hF hP hD hS hl
                unfold f_X10_next_B87 at hF
                refine lv_iadd hx hb dX10_next_87 ?_
                refine lv_topi (fun v3_26 ev3_26 => ?_)
                have hF := jl hF ev3_26
                refine lv_istore_n (lv' := [(3, .int v3_26), (0, .ref mo), (1, .int wh), (2, .int v2_24), (4, .int x4_6), (5, .int x5_7), (6, .int r47_22)]) hx hb dX10_next_88 rfl hl (by decide) rfl (fun ls hl => ?_)
                refine lv_iload hx hb dX10_next_89 (lv_at hl 4 rfl) ?_
                refine lv_iload hx hb dX10_next_91 (lv_at hl 6 rfl) ?_
                have hB112 : ∀ (t1_27 : Int32) (H : Heap) (locs : List Loc) (ls : Array Slot), f_X10_next_B112 (f_X10_next_L35 mbd mpm mgs xpd xgb xgm xgv xgr wh n35) x4_6 x5_7 v2_24 v3_26 t1_27 = some r → va_P (gD G) vwCl [(mo, .inr (8, [.long mbd, .int mby, .int mgr, .int mol, .ref aMM, .ref aMT, .int mmy, .ref aPD, .int mpm, .long mrd, .int mbm, .int mbw, .long mpl, .ref aST, .ref aPL, .ref aRS, .ref aLA, .ref aBM, .int msm, .ref aRP, .ref aFI, .ref aFM, .ref aGB, .ref aGM, .ref aGV, .ref aGR, .int mgs, .ref aKB, .ref aKP, .ref aIK, .int mka, .int miw])), (aPD, .inl (gI G, 48, .inl xpd)), (aGB, .inl (gJ G, 8, .inr (.inl xgb))), (aGM, .inl (gI G, 8, .inl xgm)), (aGV, .inl (gI G, 96, .inl xgv)), (aGR, .inl (gI G, 8, .inl xgr))] H → va_D A [(mo, .inr (8, [.long mbd, .int mby, .int mgr, .int mol, .ref aMM, .ref aMT, .int mmy, .ref aPD, .int mpm, .long mrd, .int mbm, .int mbw, .long mpl, .ref aST, .ref aPL, .ref aRS, .ref aLA, .ref aBM, .int msm, .ref aRP, .ref aFI, .ref aFM, .ref aGB, .ref aGM, .ref aGV, .ref aGR, .int mgs, .ref aKB, .ref aKP, .ref aIK, .int mka, .int miw])), (aPD, .inl (gI G, 48, .inl xpd)), (aGB, .inl (gJ G, 8, .inr (.inl xgb))), (aGM, .inl (gI G, 8, .inl xgm)), (aGV, .inl (gI G, 96, .inl xgv)), (aGR, .inl (gI G, 8, .inl xgr))] → va_S A s.heap H locs → lv_has ls 9 [(0, .ref mo), (1, .int wh), (2, .int v2_24), (3, .int v3_26), (5, .int x5_7)] → W p l e rm_X10_next s m args below meth c H locs 0 0 (MQ below (HXq G post A) args s 0 0 A) (F0 m 112 ls [.int t1_27, .int x4_6]) := by
                  intro t1_27 H locs ls hF hP hD hS hl
                  unfold f_X10_next_B112 at hF
                  refine lv_iadd hx hb dX10_next_112 ?_
                  refine lv_topi (fun v4_28 ev4_28 => ?_)
                  have hF := jl hF ev4_28
                  refine lv_istore (lv' := [(4, .int v4_28), (0, .ref mo), (1, .int wh), (2, .int v2_24), (3, .int v3_26), (5, .int x5_7)]) hx hb dX10_next_113 hl (by decide) rfl (fun ls hl => ?_)
                  obtain ⟨v5_29, ev5_29⟩ : ∃ z : Int32, z = x5_7 + 1 := ⟨_, rfl⟩
                  have hF := jl hF ev5_29
                  refine lv_iinc (v := v5_29) (lv' := [(5, .int v5_29), (4, .int v4_28), (0, .ref mo), (1, .int wh), (2, .int v2_24), (3, .int v3_26)]) hx hb dX10_next_115 hl (k := 5) rfl (by rw [ev5_29]; rfl) (by decide) rfl (fun ls hl => ?_)
                  refine lv_goto (tgt := 35) hx hb dX10_next_118 (by decide) ?_
                  exact ih35 v2_24 v3_26 v4_28 v5_29 _ _ _ hF hP hD hS (lv_sub hl [2, 3, 4, 5, 1, 0] rfl)
                refine lv_if_eq (tgt := 111) hx hb dX10_next_93 (by decide) (fun c_30 => ?_) (fun c_30 => ?_)
                · have hF := ifp hF c_30
                  refine lv_iconst (v := 0) hx hb dX10_next_111 (by decide) ?_
                  exact hB112 0 _ _ _ hF hP hD hS (lv_sub hl [1, 2, 3, 0, 5] rfl)
                · have hF := ifn hF c_30
                  refine lv_aload_n hx hb dX10_next_96 rfl (lv_at hl 1 rfl) ?_
                  refine hget hx hb hts hown hE fl_X10_54 hP 0 rfl rfl dX10_next_97 ?_
                  refine lv_iload hx hb dX10_next_100 (lv_at hl 5 rfl) ?_
                  obtain ⟨hi_31, hF⟩ := inb hF
                  refine hiald hx hb hE hP 5 rfl hi_31 dX10_next_102 ?_
                  refine lv_iconst (v := 2) hx hb dX10_next_103 (by decide) ?_
                  refine lv_icmp_ne (tgt := 111) hx hb dX10_next_104 (by decide) (fun c_32 => ?_) (fun c_32 => ?_)
                  · have hF := ifn hF c_32
                    refine lv_iconst (v := 0) hx hb dX10_next_111 (by decide) ?_
                    exact hB112 0 _ _ _ hF hP hD hS (lv_sub hl [1, 2, 3, 0, 5] rfl)
                  · have hF := ifp hF c_32
                    refine lv_iconst (v := 1) hx hb dX10_next_107 (by decide) ?_
                    refine lv_goto (tgt := 112) hx hb dX10_next_108 (by decide) ?_
                    exact hB112 1 _ _ _ hF hP hD hS (lv_sub hl [1, 2, 3, 0, 5] rfl)
              refine lv_if_eq (tgt := 86) hx hb dX10_next_68 (by decide) (fun c_33 => ?_) (fun c_33 => ?_)
              · have hF := ifp hF c_33
                refine lv_iconst (v := 0) hx hb dX10_next_86 (by decide) ?_
                exact hB87 0 _ _ _ hF hP hD hS (lv_sub hl [1, 2, 0, 4, 5, 6] rfl)
              · have hF := ifn hF c_33
                refine lv_aload_n hx hb dX10_next_71 rfl (lv_at hl 1 rfl) ?_
                refine hget hx hb hts hown hE fl_X10_54 hP 0 rfl rfl dX10_next_72 ?_
                refine lv_iload hx hb dX10_next_75 (lv_at hl 5 rfl) ?_
                obtain ⟨hi_34, hF⟩ := inb hF
                refine hiald hx hb hE hP 5 rfl hi_34 dX10_next_77 ?_
                refine lv_iconst (v := 1) hx hb dX10_next_78 (by decide) ?_
                refine lv_icmp_ne (tgt := 86) hx hb dX10_next_79 (by decide) (fun c_35 => ?_) (fun c_35 => ?_)
                · have hF := ifn hF c_35
                  refine lv_iconst (v := 0) hx hb dX10_next_86 (by decide) ?_
                  exact hB87 0 _ _ _ hF hP hD hS (lv_sub hl [1, 2, 0, 4, 5, 6] rfl)
                · have hF := ifp hF c_35
                  refine lv_iconst (v := 1) hx hb dX10_next_82 (by decide) ?_
                  refine lv_goto (tgt := 87) hx hb dX10_next_83 (by decide) ?_
                  exact hB87 1 _ _ _ hF hP hD hS (lv_sub hl [1, 2, 0, 4, 5, 6] rfl)
            refine lv_if_eq (tgt := 62) hx hb dX10_next_55 (by decide) (fun c_36 => ?_) (fun c_36 => ?_)
            · have hF := ifp hF c_36
              refine lv_iconst (v := 0) hx hb dX10_next_62 (by decide) ?_
              exact hB63 0 _ _ _ hF hP hD hS (lv_sub hl [1, 2, 4, 5, 6, 0] rfl)
            · have hF := ifn hF c_36
              refine lv_iconst (v := 1) hx hb dX10_next_58 (by decide) ?_
              refine lv_goto (tgt := 63) hx hb dX10_next_59 (by decide) ?_
              exact hB63 1 _ _ _ hF hP hD hS (lv_sub hl [1, 2, 4, 5, 6, 0] rfl)
      exact hL35 _ 0 0 0 0 _ _ _ hF hP hD hS (lv_sub hl [4, 5, 3, 2, 1, 0] rfl)
    · have hF := ifn hF c_3
      refine lv_bipush (v := (-5)) hx hb dX10_next_22 (by decide) ?_
      have hF := Option.some.inj hF
      subst hF
      exact hm_iret hx hb hr hlk hP hD hS hpost dX10_next_24
  · have hF := ifp hF c_1
    refine lv_bipush (v := (-2)) hx hb dX10_next_12 (by decide) ?_
    have hF := Option.some.inj hF
    subst hF
    exact hm_iret hx hb hr hlk hP hD hS hpost dX10_next_14
def f_X10_drawn_B108 (mby : Int32) (mgr : Int32) (mol : Int32) (wh : Int32) (x3_3 : Int64) (x6_5 : Int32) (mmy_6 : Int32) (xmm_7 : (Nat → Int32)) (xmt_8 : (Nat → Int32)) : Option (Int32 × Int32 × (Nat → Int32) × (Nat → Int32)) :=
  if wh = 0 then Option.bind (f_X10_broughtBy mby mgr mol x3_3) (fun r114_10 => some (r114_10, mmy_6, xmm_7, xmt_8)) else some (x6_5, mmy_6, xmm_7, xmt_8)
def f_X10_drawn_L36 (mby : Int32) (mgr : Int32) (mol : Int32) (wh : Int32) : Nat → Int64 → Int32 → Int32 → Int32 → (Nat → Int32) → (Nat → Int32) → Option (Int32 × Int32 × (Nat → Int32) × (Nat → Int32))
  | 0, _, _, _, _, _, _ => none
  | n+1, x3_3, x5_4, x6_5, mmy_6, xmm_7, xmt_8 =>
  if 60 ≤ x6_5 then f_X10_drawn_B108 mby mgr mol wh x3_3 x6_5 mmy_6 xmm_7 xmt_8 else Option.bind (f_X10_broughtBy mby mgr mol x3_3) (fun r45_12 => if r45_12 = 0 then Option.bind (f_X10_findMoves mby mgr mol xmm_7 xmt_8 x3_3) (fun r53_14 => jlet ((jlrem ((75 * (x5_4.toInt64)) + 74) 65537).toInt32) (fun v5_15 => if r53_14.1 = 0 then none else jlet (jrem v5_15 r53_14.1) (fun v7_17 => if (v7_17) < 0 ∨ 75 ≤ (v7_17).toNatClampNeg then none else if (v7_17) < 0 ∨ 75 ≤ (v7_17).toNatClampNeg then none else Option.bind (f_X10_gone x3_3 (r53_14.2.1 (v7_17).toNatClampNeg) (r53_14.2.2 (v7_17).toNatClampNeg)) (fun r98_20 => jlet (x6_5 + 1) (fun v6_21 => (f_X10_drawn_L36 mby mgr mol wh n) r98_20 v5_15 v6_21 r53_14.1 r53_14.2.1 r53_14.2.2))))) else f_X10_drawn_B108 mby mgr mol wh x3_3 x6_5 mmy_6 xmm_7 xmt_8)
def f_X10_drawn (mbd : Int64) (mby : Int32) (mgr : Int32) (mol : Int32) (mmy : Int32) (xmm : (Nat → Int32)) (xmt : (Nat → Int32)) (se : Int32) (wh : Int32) : Option (Int32 × Int32 × (Nat → Int32) × (Nat → Int32)) :=
  if (f_X10_in (se.toInt64) 0 9999) = 0 then some ((-2), mmy, xmm, xmt) else if (f_X10_in (wh.toInt64) 0 1) = 0 then some ((-2), mmy, xmm, xmt) else f_X10_drawn_L36 mby mgr mol wh 100 mbd se 0 mmy xmm xmt
abbrev rm_X10_drawn : Room := { frames := 9, cells := 0, slots := 0, locals := 221 }
set_option maxHeartbeats 4000000 in
set_option maxRecDepth 100000 in
theorem k_X10_drawn (G : gT) (l : Launch) (mo : Nat) (aMM : Nat) (aMT : Nat) (aPD : Nat) (aST : Nat) (aPL : Nat) (aRS : Nat) (aLA : Nat) (aBM : Nat) (aRP : Nat) (aFI : Nat) (aFM : Nat) (aGB : Nat) (aGM : Nat) (aGV : Nat) (aGR : Nat) (aKB : Nat) (aKP : Nat) (aIK : Nat) (mbd : Int64) (mby : Int32) (mgr : Int32) (mol : Int32) (mmy : Int32) (mpm : Int32) (mrd : Int64) (mbm : Int32) (mbw : Int32) (mpl : Int64) (msm : Int32) (mgs : Int32) (mka : Int32) (miw : Int32) (xmm : (Nat → Int32)) (xmt : (Nat → Int32)) (se : Int32) (wh : Int32) (r : Int32 × Int32 × (Nat → Int32) × (Nat → Int32)) (hF : f_X10_drawn mbd mby mgr mol mmy xmm xmt se wh = some r) : HM G l yX10_drawn (.code yX10_drawn cX10_drawn 8 (some .int) :: UW) rm_X10_drawn 0 0 [.ref mo, .int se, .int wh] [(mo, .inr (8, [.long mbd, .int mby, .int mgr, .int mol, .ref aMM, .ref aMT, .int mmy, .ref aPD, .int mpm, .long mrd, .int mbm, .int mbw, .long mpl, .ref aST, .ref aPL, .ref aRS, .ref aLA, .ref aBM, .int msm, .ref aRP, .ref aFI, .ref aFM, .ref aGB, .ref aGM, .ref aGV, .ref aGR, .int mgs, .ref aKB, .ref aKP, .ref aIK, .int mka, .int miw])), (aMM, .inl (gI G, 75, .inl xmm)), (aMT, .inl (gI G, 75, .inl xmt))] (some (.int r.1)) [(mo, .inr (8, [.long mbd, .int mby, .int mgr, .int mol, .ref aMM, .ref aMT, .int r.2.1, .ref aPD, .int mpm, .long mrd, .int mbm, .int mbw, .long mpl, .ref aST, .ref aPL, .ref aRS, .ref aLA, .ref aBM, .int msm, .ref aRP, .ref aFI, .ref aFM, .ref aGB, .ref aGM, .ref aGV, .ref aGR, .int mgs, .ref aKB, .ref aKP, .ref aIK, .int mka, .int miw])), (aMM, .inl (gI G, 75, .inl r.2.2.1)), (aMT, .inl (gI G, 75, .inl r.2.2.2))] := by
  refine HM.ofW (by decide) (Nat.le_of_ble_eq_true rfl) ?_
  intro p e s m args below meth c A post hpost hC hP hD hS ls hl
  obtain ⟨hx, hb, hr, hml, hown, hts, hlk, hE, hA⟩ := hC
  have hl : lv_has ls 8 [(0, .ref mo), (1, .int se), (2, .int wh)] := hl
  unfold f_X10_drawn at hF
  refine lv_iload_n hx hb dX10_drawn_0 rfl (lv_at hl 1 rfl) ?_
  refine lv_i2l (v := (se.toInt64)) hx hb dX10_drawn_1 rfl ?_
  refine lv_lconst (v := 0) hx hb dX10_drawn_2 (by decide) ?_
  refine lv_ldc2 (v := 9999) hx hb hown (hts _ (List.mem_cons_of_mem _ mw_1065)) dX10_drawn_3 ?_
  refine hm_S (wn := [(mo, .inr (8, [.long mbd, .int mby, .int mgr, .int mol, .ref aMM, .ref aMT, .int mmy, .ref aPD, .int mpm, .long mrd, .int mbm, .int mbw, .long mpl, .ref aST, .ref aPL, .ref aRS, .ref aLA, .ref aBM, .int msm, .ref aRP, .ref aFI, .ref aFM, .ref aGB, .ref aGM, .ref aGV, .ref aGR, .int mgs, .ref aKB, .ref aKP, .ref aIK, .int mka, .int miw])), (aMM, .inl (gI G, 75, .inl xmm)), (aMT, .inl (gI G, 75, .inl xmt))]) (wr := [(mo, .inr (8, [.long mbd, .int mby, .int mgr, .int mol, .ref aMM, .ref aMT, .int mmy, .ref aPD, .int mpm, .long mrd, .int mbm, .int mbw, .long mpl, .ref aST, .ref aPL, .ref aRS, .ref aLA, .ref aBM, .int msm, .ref aRP, .ref aFI, .ref aFM, .ref aGB, .ref aGM, .ref aGV, .ref aGR, .int mgs, .ref aKB, .ref aKP, .ref aIK, .int mka, .int miw])), (aMM, .inl (gI G, 75, .inl xmm)), (aMT, .inl (gI G, 75, .inl xmt))]) (rest := []) (sn := [.int (f_X10_in (se.toInt64) 0 9999)]) hx hb hml hown hts hE hA (k_X10_in G l (se.toInt64) 0 9999 _ rfl) sm_X10_in mw_833 ⟨rfl, rfl, Nat.le_of_ble_eq_true rfl, Nat.le_of_ble_eq_true rfl⟩ hP hD hS [] [0, 1, 2] [0, 1, 2] rfl rfl rfl (by decide) hl.1 rfl rfl (Nat.le_of_ble_eq_true rfl) dX10_drawn_6 ⟨Nat.le_of_ble_eq_true rfl, Nat.le_of_ble_eq_true rfl⟩ (fun H locs hP hD hS => ?_)
  refine lv_if_eq (tgt := 22) hx hb dX10_drawn_9 (by decide) (fun c_1 => ?_) (fun c_1 => ?_)
  · have hF := ifp hF c_1
    refine lv_bipush (v := (-2)) hx hb dX10_drawn_22 (by decide) ?_
    have hF := Option.some.inj hF
    subst hF
    exact hm_iret hx hb hr hlk hP hD hS hpost dX10_drawn_24
  · have hF := ifn hF c_1
    refine lv_iload_n hx hb dX10_drawn_12 rfl (lv_at hl 2 rfl) ?_
    refine lv_i2l (v := (wh.toInt64)) hx hb dX10_drawn_13 rfl ?_
    refine lv_lconst (v := 0) hx hb dX10_drawn_14 (by decide) ?_
    refine lv_lconst (v := 1) hx hb dX10_drawn_15 (by decide) ?_
    refine hm_S (wn := [(mo, .inr (8, [.long mbd, .int mby, .int mgr, .int mol, .ref aMM, .ref aMT, .int mmy, .ref aPD, .int mpm, .long mrd, .int mbm, .int mbw, .long mpl, .ref aST, .ref aPL, .ref aRS, .ref aLA, .ref aBM, .int msm, .ref aRP, .ref aFI, .ref aFM, .ref aGB, .ref aGM, .ref aGV, .ref aGR, .int mgs, .ref aKB, .ref aKP, .ref aIK, .int mka, .int miw])), (aMM, .inl (gI G, 75, .inl xmm)), (aMT, .inl (gI G, 75, .inl xmt))]) (wr := [(mo, .inr (8, [.long mbd, .int mby, .int mgr, .int mol, .ref aMM, .ref aMT, .int mmy, .ref aPD, .int mpm, .long mrd, .int mbm, .int mbw, .long mpl, .ref aST, .ref aPL, .ref aRS, .ref aLA, .ref aBM, .int msm, .ref aRP, .ref aFI, .ref aFM, .ref aGB, .ref aGM, .ref aGV, .ref aGR, .int mgs, .ref aKB, .ref aKP, .ref aIK, .int mka, .int miw])), (aMM, .inl (gI G, 75, .inl xmm)), (aMT, .inl (gI G, 75, .inl xmt))]) (rest := []) (sn := [.int (f_X10_in (wh.toInt64) 0 1)]) hx hb hml hown hts hE hA (k_X10_in G l (wh.toInt64) 0 1 _ rfl) sm_X10_in mw_833 ⟨rfl, rfl, Nat.le_of_ble_eq_true rfl, Nat.le_of_ble_eq_true rfl⟩ hP hD hS [] [0, 1, 2] [0, 1, 2] rfl rfl rfl (by decide) hl.1 rfl rfl (Nat.le_of_ble_eq_true rfl) dX10_drawn_16 ⟨Nat.le_of_ble_eq_true rfl, Nat.le_of_ble_eq_true rfl⟩ (fun H locs hP hD hS => ?_)
    refine lv_if_ne (tgt := 25) hx hb dX10_drawn_19 (by decide) (fun c_2 => ?_) (fun c_2 => ?_)
    · have hF := ifn hF c_2
      refine lv_aload_n hx hb dX10_drawn_25 rfl (lv_at hl 0 rfl) ?_
      refine hget hx hb hts hown hE fl_X10_69 hP 0 rfl rfl dX10_drawn_26 ?_
      refine lv_lstore_n (lv' := [(3, .long mbd), (0, .ref mo), (1, .int se), (2, .int wh)]) hx hb dX10_drawn_29 rfl hl (by decide) rfl (fun ls hl => ?_)
      refine lv_iload_n hx hb dX10_drawn_30 rfl (lv_at hl 2 rfl) ?_
      refine lv_istore (lv' := [(5, .int se), (3, .long mbd), (0, .ref mo), (1, .int se), (2, .int wh)]) hx hb dX10_drawn_31 hl (by decide) rfl (fun ls hl => ?_)
      refine lv_iconst (v := 0) hx hb dX10_drawn_33 (by decide) ?_
      refine lv_istore (lv' := [(6, .int 0), (5, .int se), (3, .long mbd), (0, .ref mo), (1, .int se), (2, .int wh)]) hx hb dX10_drawn_34 hl (by decide) rfl (fun ls hl => ?_)
      have hL36 : ∀ (n36 : Nat) (x3_3 : Int64) (x5_4 : Int32) (x6_5 : Int32) (mmy_6 : Int32) (xmm_7 : (Nat → Int32)) (xmt_8 : (Nat → Int32)) (H : Heap) (locs : List Loc) (ls : Array Slot), f_X10_drawn_L36 mby mgr mol wh n36 x3_3 x5_4 x6_5 mmy_6 xmm_7 xmt_8 = some r → va_P (gD G) vwCl [(mo, .inr (8, [.long mbd, .int mby, .int mgr, .int mol, .ref aMM, .ref aMT, .int mmy_6, .ref aPD, .int mpm, .long mrd, .int mbm, .int mbw, .long mpl, .ref aST, .ref aPL, .ref aRS, .ref aLA, .ref aBM, .int msm, .ref aRP, .ref aFI, .ref aFM, .ref aGB, .ref aGM, .ref aGV, .ref aGR, .int mgs, .ref aKB, .ref aKP, .ref aIK, .int mka, .int miw])), (aMM, .inl (gI G, 75, .inl xmm_7)), (aMT, .inl (gI G, 75, .inl xmt_8))] H → va_D A [(mo, .inr (8, [.long mbd, .int mby, .int mgr, .int mol, .ref aMM, .ref aMT, .int mmy_6, .ref aPD, .int mpm, .long mrd, .int mbm, .int mbw, .long mpl, .ref aST, .ref aPL, .ref aRS, .ref aLA, .ref aBM, .int msm, .ref aRP, .ref aFI, .ref aFM, .ref aGB, .ref aGM, .ref aGV, .ref aGR, .int mgs, .ref aKB, .ref aKP, .ref aIK, .int mka, .int miw])), (aMM, .inl (gI G, 75, .inl xmm_7)), (aMT, .inl (gI G, 75, .inl xmt_8))] → va_S A s.heap H locs → lv_has ls 8 [(0, .ref mo), (2, .int wh), (3, .long x3_3), (5, .int x5_4), (6, .int x6_5)] → W p l e rm_X10_drawn s m args below meth c H locs 0 0 (MQ below (HXq G post A) args s 0 0 A) (F0 m 36 ls []) := by
        intro n36
        induction n36 with
        | zero =>
          intro x3_3 x5_4 x6_5 mmy_6 xmm_7 xmt_8 H locs ls hF
          exact absurd hF (fun h => by cases h)
        | succ n36 ih36 =>
          intro x3_3 x5_4 x6_5 mmy_6 xmm_7 xmt_8 H locs ls hF hP hD hS hl
          unfold f_X10_drawn_L36 at hF
          refine lv_iload hx hb dX10_drawn_36 (lv_at hl 4 rfl) ?_
          refine lv_bipush (v := 60) hx hb dX10_drawn_38 (by decide) ?_
          have hB108 : ∀ (H : Heap) (locs : List Loc) (ls : Array Slot), f_X10_drawn_B108 mby mgr mol wh x3_3 x6_5 mmy_6 xmm_7 xmt_8 = some r → va_P (gD G) vwCl [(mo, .inr (8, [.long mbd, .int mby, .int mgr, .int mol, .ref aMM, .ref aMT, .int mmy_6, .ref aPD, .int mpm, .long mrd, .int mbm, .int mbw, .long mpl, .ref aST, .ref aPL, .ref aRS, .ref aLA, .ref aBM, .int msm, .ref aRP, .ref aFI, .ref aFM, .ref aGB, .ref aGM, .ref aGV, .ref aGR, .int mgs, .ref aKB, .ref aKP, .ref aIK, .int mka, .int miw])), (aMM, .inl (gI G, 75, .inl xmm_7)), (aMT, .inl (gI G, 75, .inl xmt_8))] H → va_D A [(mo, .inr (8, [.long mbd, .int mby, .int mgr, .int mol, .ref aMM, .ref aMT, .int mmy_6, .ref aPD, .int mpm, .long mrd, .int mbm, .int mbw, .long mpl, .ref aST, .ref aPL, .ref aRS, .ref aLA, .ref aBM, .int msm, .ref aRP, .ref aFI, .ref aFM, .ref aGB, .ref aGM, .ref aGV, .ref aGR, .int mgs, .ref aKB, .ref aKP, .ref aIK, .int mka, .int miw])), (aMM, .inl (gI G, 75, .inl xmm_7)), (aMT, .inl (gI G, 75, .inl xmt_8))] → va_S A s.heap H locs → lv_has ls 8 [(0, .ref mo), (2, .int wh), (3, .long x3_3), (6, .int x6_5)] → W p l e rm_X10_drawn s m args below meth c H locs 0 0 (MQ below (HXq G post A) args s 0 0 A) (F0 m 108 ls []) := by
            intro H locs ls hF hP hD hS hl
            unfold f_X10_drawn_B108 at hF
            refine lv_iload_n hx hb dX10_drawn_108 rfl (lv_at hl 1 rfl) ?_
            refine lv_if_ne (tgt := 120) hx hb dX10_drawn_109 (by decide) (fun c_9 => ?_) (fun c_9 => ?_)
            · have hF := ifn hF c_9
              refine lv_iload hx hb dX10_drawn_120 (lv_at hl 3 rfl) ?_
              have hF := Option.some.inj hF
              subst hF
              exact hm_iret hx hb hr hlk hP hD hS hpost dX10_drawn_122
            · have hF := ifp hF c_9
              refine lv_aload_n hx hb dX10_drawn_112 rfl (lv_at hl 0 rfl) ?_
              refine lv_lload_n hx hb dX10_drawn_113 rfl (lv_at hl 2 rfl) ?_
              obtain ⟨r114_10, hr114_10, hF⟩ := bnd hF
              refine hm_V (wn := [(mo, .inr (8, [.long mbd, .int mby, .int mgr, .int mol, .ref aMM, .ref aMT, .int mmy_6, .ref aPD, .int mpm, .long mrd, .int mbm, .int mbw, .long mpl, .ref aST, .ref aPL, .ref aRS, .ref aLA, .ref aBM, .int msm, .ref aRP, .ref aFI, .ref aFM, .ref aGB, .ref aGM, .ref aGV, .ref aGR, .int mgs, .ref aKB, .ref aKP, .ref aIK, .int mka, .int miw])), (aMM, .inl (gI G, 75, .inl xmm_7)), (aMT, .inl (gI G, 75, .inl xmt_8))]) (wr := [(aMM, .inl (gI G, 75, .inl xmm_7)), (aMT, .inl (gI G, 75, .inl xmt_8))]) (rest := []) (sn := [.int r114_10]) hx hb hml hown hts hE hA (k_X10_broughtBy G l mo aMM aMT aPD aST aPL aRS aLA aBM aRP aFI aFM aGB aGM aGV aGR aKB aKP aIK mbd mby mgr mol mmy_6 mpm mrd mbm mbw mpl msm mgs mka miw x3_3 r114_10 hr114_10) sm_X10_broughtBy mw_908 ⟨rfl, rfl, Nat.le_of_ble_eq_true rfl, Nat.le_of_ble_eq_true rfl⟩ hP hD hS 0 rfl rfl [0] [1, 2] [2, 0, 1] rfl rfl rfl (by decide) hl.1 rfl rfl (Nat.le_of_ble_eq_true rfl) dX10_drawn_114 ⟨Nat.le_of_ble_eq_true rfl, Nat.le_of_ble_eq_true rfl⟩ (fun H locs hP hD hS => ?_)
              refine lv_goto (tgt := 122) hx hb dX10_drawn_117 (by decide) ?_
              have hF := Option.some.inj hF
              subst hF
              exact hm_iret hx hb hr hlk hP hD hS hpost dX10_drawn_122
          refine lv_icmp_ge (tgt := 108) hx hb dX10_drawn_40 (by decide) (fun c_11 => ?_) (fun c_11 => ?_)
          · have hF := ifp hF c_11
            exact hB108 _ _ _ hF hP hD hS (lv_sub hl [0, 1, 2, 4] rfl)
          · have hF := ifn hF c_11
            refine lv_aload_n hx hb dX10_drawn_43 rfl (lv_at hl 0 rfl) ?_
            refine lv_lload_n hx hb dX10_drawn_44 rfl (lv_at hl 2 rfl) ?_
            obtain ⟨r45_12, hr45_12, hF⟩ := bnd hF
            refine hm_V (wn := [(mo, .inr (8, [.long mbd, .int mby, .int mgr, .int mol, .ref aMM, .ref aMT, .int mmy_6, .ref aPD, .int mpm, .long mrd, .int mbm, .int mbw, .long mpl, .ref aST, .ref aPL, .ref aRS, .ref aLA, .ref aBM, .int msm, .ref aRP, .ref aFI, .ref aFM, .ref aGB, .ref aGM, .ref aGV, .ref aGR, .int mgs, .ref aKB, .ref aKP, .ref aIK, .int mka, .int miw])), (aMM, .inl (gI G, 75, .inl xmm_7)), (aMT, .inl (gI G, 75, .inl xmt_8))]) (wr := [(aMM, .inl (gI G, 75, .inl xmm_7)), (aMT, .inl (gI G, 75, .inl xmt_8))]) (rest := []) (sn := [.int r45_12]) hx hb hml hown hts hE hA (k_X10_broughtBy G l mo aMM aMT aPD aST aPL aRS aLA aBM aRP aFI aFM aGB aGM aGV aGR aKB aKP aIK mbd mby mgr mol mmy_6 mpm mrd mbm mbw mpl msm mgs mka miw x3_3 r45_12 hr45_12) sm_X10_broughtBy mw_908 ⟨rfl, rfl, Nat.le_of_ble_eq_true rfl, Nat.le_of_ble_eq_true rfl⟩ hP hD hS 0 rfl rfl [0] [1, 2] [2, 0, 1] rfl rfl rfl (by decide) hl.1 rfl rfl (Nat.le_of_ble_eq_true rfl) dX10_drawn_45 ⟨Nat.le_of_ble_eq_true rfl, Nat.le_of_ble_eq_true rfl⟩ (fun H locs hP hD hS => ?_)
            refine lv_if_ne (tgt := 108) hx hb dX10_drawn_48 (by decide) (fun c_13 => ?_) (fun c_13 => ?_)
            · have hF := ifn hF c_13
              exact hB108 _ _ _ hF hP hD hS (lv_sub hl [0, 1, 2, 4] rfl)
            · have hF := ifp hF c_13
              refine lv_aload_n hx hb dX10_drawn_51 rfl (lv_at hl 0 rfl) ?_
              refine lv_lload_n hx hb dX10_drawn_52 rfl (lv_at hl 2 rfl) ?_
              obtain ⟨r53_14, hr53_14, hF⟩ := bnd hF
              refine hm_V (wn := [(mo, .inr (8, [.long mbd, .int mby, .int mgr, .int mol, .ref aMM, .ref aMT, .int r53_14.1, .ref aPD, .int mpm, .long mrd, .int mbm, .int mbw, .long mpl, .ref aST, .ref aPL, .ref aRS, .ref aLA, .ref aBM, .int msm, .ref aRP, .ref aFI, .ref aFM, .ref aGB, .ref aGM, .ref aGV, .ref aGR, .int mgs, .ref aKB, .ref aKP, .ref aIK, .int mka, .int miw])), (aMM, .inl (gI G, 75, .inl r53_14.2.1)), (aMT, .inl (gI G, 75, .inl r53_14.2.2))]) (wr := []) (rest := []) (sn := []) hx hb hml hown hts hE hA (k_X10_findMoves G l mo aMM aMT aPD aST aPL aRS aLA aBM aRP aFI aFM aGB aGM aGV aGR aKB aKP aIK mbd mby mgr mol mmy_6 mpm mrd mbm mbw mpl msm mgs mka miw xmm_7 xmt_8 x3_3 r53_14 hr53_14) sm_X10_findMoves mw_965 ⟨rfl, rfl, Nat.le_of_ble_eq_true rfl, Nat.le_of_ble_eq_true rfl⟩ hP hD hS 0 rfl rfl [0, 1, 2] [] [0, 1, 2] rfl rfl rfl (by decide) hl.1 rfl rfl (Nat.le_of_ble_eq_true rfl) dX10_drawn_53 ⟨Nat.le_of_ble_eq_true rfl, Nat.le_of_ble_eq_true rfl⟩ (fun H locs hP hD hS => ?_)
              refine lv_ldc2 (v := 75) hx hb hown (hts _ (List.mem_cons_of_mem _ mw_1066)) dX10_drawn_56 ?_
              refine lv_iload hx hb dX10_drawn_59 (lv_at hl 3 rfl) ?_
              refine lv_i2l (v := (x5_4.toInt64)) hx hb dX10_drawn_61 rfl ?_
              refine lv_lmul hx hb dX10_drawn_62 ?_
              refine lv_ldc2 (v := 74) hx hb hown (hts _ (List.mem_cons_of_mem _ mw_1067)) dX10_drawn_63 ?_
              refine lv_ladd hx hb dX10_drawn_66 ?_
              refine lv_ldc2 (v := 65537) hx hb hown (hts _ (List.mem_cons_of_mem _ mw_1068)) dX10_drawn_67 ?_
              refine lv_lrem hx hb dX10_drawn_70 (by decide) ?_
              refine lv_l2i (v := ((jlrem ((75 * (x5_4.toInt64)) + 74) 65537).toInt32)) hx hb dX10_drawn_71 rfl ?_
              refine lv_topi (fun v5_15 ev5_15 => ?_)
              have hF := jl hF ev5_15
              refine lv_istore (lv' := [(5, .int v5_15), (0, .ref mo), (2, .int wh), (3, .long x3_3), (6, .int x6_5)]) hx hb dX10_drawn_72 hl (by decide) rfl (fun ls hl => ?_)
              refine lv_iload hx hb dX10_drawn_74 (lv_at hl 0 rfl) ?_
              refine lv_aload_n hx hb dX10_drawn_76 rfl (lv_at hl 1 rfl) ?_
              refine hget hx hb hts hown hE fl_X10_132 hP 0 rfl rfl dX10_drawn_77 ?_
              obtain ⟨hz_16, hF⟩ := nz hF
              refine lv_irem hx hb dX10_drawn_80 hz_16 ?_
              refine lv_topi (fun v7_17 ev7_17 => ?_)
              have hF := jl hF ev7_17
              refine lv_istore (lv' := [(7, .int v7_17), (5, .int v5_15), (0, .ref mo), (2, .int wh), (3, .long x3_3), (6, .int x6_5)]) hx hb dX10_drawn_81 hl (by decide) rfl (fun ls hl => ?_)
              refine lv_lload_n hx hb dX10_drawn_83 rfl (lv_at hl 4 rfl) ?_
              refine lv_aload_n hx hb dX10_drawn_84 rfl (lv_at hl 2 rfl) ?_
              refine hget hx hb hts hown hE fl_X10_7 hP 0 rfl rfl dX10_drawn_85 ?_
              refine lv_iload hx hb dX10_drawn_88 (lv_at hl 0 rfl) ?_
              obtain ⟨hi_18, hF⟩ := inb hF
              refine hiald hx hb hE hP 1 rfl hi_18 dX10_drawn_90 ?_
              refine lv_aload_n hx hb dX10_drawn_91 rfl (lv_at hl 2 rfl) ?_
              refine hget hx hb hts hown hE fl_X10_13 hP 0 rfl rfl dX10_drawn_92 ?_
              refine lv_iload hx hb dX10_drawn_95 (lv_at hl 0 rfl) ?_
              obtain ⟨hi_19, hF⟩ := inb hF
              refine hiald hx hb hE hP 2 rfl hi_19 dX10_drawn_97 ?_
              obtain ⟨r98_20, hr98_20, hF⟩ := bnd hF
              refine hm_S (wn := [(mo, .inr (8, [.long mbd, .int mby, .int mgr, .int mol, .ref aMM, .ref aMT, .int r53_14.1, .ref aPD, .int mpm, .long mrd, .int mbm, .int mbw, .long mpl, .ref aST, .ref aPL, .ref aRS, .ref aLA, .ref aBM, .int msm, .ref aRP, .ref aFI, .ref aFM, .ref aGB, .ref aGM, .ref aGV, .ref aGR, .int mgs, .ref aKB, .ref aKP, .ref aIK, .int mka, .int miw])), (aMM, .inl (gI G, 75, .inl r53_14.2.1)), (aMT, .inl (gI G, 75, .inl r53_14.2.2))]) (wr := [(mo, .inr (8, [.long mbd, .int mby, .int mgr, .int mol, .ref aMM, .ref aMT, .int r53_14.1, .ref aPD, .int mpm, .long mrd, .int mbm, .int mbw, .long mpl, .ref aST, .ref aPL, .ref aRS, .ref aLA, .ref aBM, .int msm, .ref aRP, .ref aFI, .ref aFM, .ref aGB, .ref aGM, .ref aGV, .ref aGR, .int mgs, .ref aKB, .ref aKP, .ref aIK, .int mka, .int miw])), (aMM, .inl (gI G, 75, .inl r53_14.2.1)), (aMT, .inl (gI G, 75, .inl r53_14.2.2))]) (rest := []) (sn := [.long r98_20]) hx hb hml hown hts hE hA (k_X10_gone G l x3_3 (r53_14.2.1 (v7_17).toNatClampNeg) (r53_14.2.2 (v7_17).toNatClampNeg) r98_20 hr98_20) sm_X10_gone mw_954 ⟨rfl, rfl, Nat.le_of_ble_eq_true rfl, Nat.le_of_ble_eq_true rfl⟩ hP hD hS [] [0, 1, 2] [0, 1, 2] rfl rfl rfl (by decide) hl.1 rfl rfl (Nat.le_of_ble_eq_true rfl) dX10_drawn_98 ⟨Nat.le_of_ble_eq_true rfl, Nat.le_of_ble_eq_true rfl⟩ (fun H locs hP hD hS => ?_)
              refine lv_lstore_n (lv' := [(3, .long r98_20), (7, .int v7_17), (5, .int v5_15), (0, .ref mo), (2, .int wh), (6, .int x6_5)]) hx hb dX10_drawn_101 rfl hl (by decide) rfl (fun ls hl => ?_)
              obtain ⟨v6_21, ev6_21⟩ : ∃ z : Int32, z = x6_5 + 1 := ⟨_, rfl⟩
              have hF := jl hF ev6_21
              refine lv_iinc (v := v6_21) (lv' := [(6, .int v6_21), (3, .long r98_20), (7, .int v7_17), (5, .int v5_15), (0, .ref mo), (2, .int wh)]) hx hb dX10_drawn_102 hl (k := 5) rfl (by rw [ev6_21]; rfl) (by decide) rfl (fun ls hl => ?_)
              refine lv_goto (tgt := 36) hx hb dX10_drawn_105 (by decide) ?_
              exact ih36 r98_20 v5_15 v6_21 r53_14.1 r53_14.2.1 r53_14.2.2 _ _ _ hF hP hD hS (lv_sub hl [4, 5, 1, 3, 0] rfl)
      exact hL36 _ mbd se 0 mmy xmm xmt _ _ _ hF hP hD hS (lv_sub hl [3, 5, 2, 1, 0] rfl)
    · have hF := ifp hF c_2
      refine lv_bipush (v := (-2)) hx hb dX10_drawn_22 (by decide) ?_
      have hF := Option.some.inj hF
      subst hF
      exact hm_iret hx hb hr hlk hP hD hS hpost dX10_drawn_24
def f_X10_mirrored_B91 (k_5 : Int64 → Int32 → Option Int64) (x5_2 : Int32) (x3_5 : Int64) : Option Int64 :=
  jlet (x5_2 + 1) (fun v5_6 => k_5 x3_5 v5_6)
def f_X10_mirrored_B69 (k_5 : Int64 → Int32 → Option Int64) (st : Int64) (x3_1 : Int64) (x5_2 : Int32) (t0_8 : Int32) (t0_9 : Int32) : Option Int64 :=
  jlet (f_X10_put x3_1 x5_2 (t0_8 + (5 * t0_9)) (f_X10_ageOf st x5_2)) (fun v3_10 => f_X10_mirrored_B91 k_5 x5_2 v3_10)
def f_X10_mirrored_B47 (k_5 : Int64 → Int32 → Option Int64) (st : Int64) (wy : Int32) (x3_1 : Int64) (x5_2 : Int32) (v6_4 : Int32) (t0_8 : Int32) : Option Int64 :=
  if (wy &&& 2) = 2 then f_X10_mirrored_B69 k_5 st x3_1 x5_2 t0_8 (4 - (v6_4 / 5)) else f_X10_mirrored_B69 k_5 st x3_1 x5_2 t0_8 (v6_4 / 5)
def f_X10_mirrored_L5 (st : Int64) (wy : Int32) : Nat → Int64 → Int32 → Option Int64
  | 0, _, _ => none
  | n+1, x3_1, x5_2 =>
  if 6 ≤ x5_2 then some x3_1 else jlet (f_X10_cellOf st x5_2) (fun v6_4 => if v6_4 = 31 then f_X10_mirrored_B91 (f_X10_mirrored_L5 st wy n) x5_2 x3_1 else if (wy &&& 1) = 1 then f_X10_mirrored_B47 (f_X10_mirrored_L5 st wy n) st wy x3_1 x5_2 v6_4 (4 - (jrem v6_4 5)) else f_X10_mirrored_B47 (f_X10_mirrored_L5 st wy n) st wy x3_1 x5_2 v6_4 (jrem v6_4 5))
def f_X10_mirrored (st : Int64) (wy : Int32) : Option Int64 :=
  f_X10_mirrored_L5 st wy 100 st 0
abbrev rm_X10_mirrored : Room := { frames := 1, cells := 0, slots := 0, locals := 24 }
set_option maxHeartbeats 4000000 in
set_option maxRecDepth 100000 in
theorem k_X10_mirrored (G : gT) (l : Launch) (st : Int64) (wy : Int32) (r : Int64) (hF : f_X10_mirrored st wy = some r) : HM G l yX10_mirrored (.code yX10_mirrored cX10_mirrored 9 (some .long) :: UW) rm_X10_mirrored 0 0 [.long st, .int wy] [] (some (.long r)) [] := by
  refine HM.ofW (by decide) (Nat.le_of_ble_eq_true rfl) ?_
  intro p e s m args below meth c A post hpost hC hP hD hS ls hl
  obtain ⟨hx, hb, hr, hml, hown, hts, hlk, hE, hA⟩ := hC
  have hl : lv_has ls 9 [(0, .long st), (2, .int wy)] := hl
  unfold f_X10_mirrored at hF
  refine lv_lload_n hx hb dX10_mirrored_0 rfl (lv_at hl 0 rfl) ?_
  refine lv_lstore_n (lv' := [(3, .long st), (0, .long st), (2, .int wy)]) hx hb dX10_mirrored_1 rfl hl (by decide) rfl (fun ls hl => ?_)
  refine lv_iconst (v := 0) hx hb dX10_mirrored_2 (by decide) ?_
  refine lv_istore (lv' := [(5, .int 0), (3, .long st), (0, .long st), (2, .int wy)]) hx hb dX10_mirrored_3 hl (by decide) rfl (fun ls hl => ?_)
  have hL5 : ∀ (n5 : Nat) (x3_1 : Int64) (x5_2 : Int32) (H : Heap) (locs : List Loc) (ls : Array Slot), f_X10_mirrored_L5 st wy n5 x3_1 x5_2 = some r → va_P (gD G) vwCl [] H → va_D A [] → va_S A s.heap H locs → lv_has ls 9 [(0, .long st), (2, .int wy), (3, .long x3_1), (5, .int x5_2)] → W p l e rm_X10_mirrored s m args below meth c H locs 0 0 (MQ below (HXq G post A) args s 0 0 A) (F0 m 5 ls []) := by
    intro n5
    induction n5 with
    | zero =>
      intro x3_1 x5_2 H locs ls hF
      exact absurd hF (fun h => by cases h)
    | succ n5 ih5 =>
      intro x3_1 x5_2 H locs ls hF hP hD hS hl
      unfold f_X10_mirrored_L5 at hF
      refine lv_iload hx hb dX10_mirrored_5 (lv_at hl 3 rfl) ?_
      refine lv_bipush (v := 6) hx hb dX10_mirrored_7 (by decide) ?_
      refine lv_icmp_ge (tgt := 97) hx hb dX10_mirrored_9 (by decide) (fun c_3 => ?_) (fun c_3 => ?_)
      · have hF := ifp hF c_3
        refine lv_lload_n hx hb dX10_mirrored_97 rfl (lv_at hl 2 rfl) ?_
        have hF := Option.some.inj hF
        subst hF
        exact hm_lret hx hb hr hlk hP hD hS hpost dX10_mirrored_98
      · have hF := ifn hF c_3
        refine lv_lload_n hx hb dX10_mirrored_12 rfl (lv_at hl 0 rfl) ?_
        refine lv_iload hx hb dX10_mirrored_13 (lv_at hl 3 rfl) ?_
        refine hm_S (wn := []) (wr := []) (rest := []) (sn := [.int (f_X10_cellOf st x5_2)]) hx hb hml hown hts hE hA (k_X10_cellOf G l st x5_2 _ rfl) sm_X10_cellOf mw_852 ⟨rfl, rfl, Nat.le_of_ble_eq_true rfl, Nat.le_of_ble_eq_true rfl⟩ hP hD hS [] [] [] rfl rfl rfl (by decide) hl.1 rfl rfl (Nat.le_of_ble_eq_true rfl) dX10_mirrored_15 ⟨Nat.le_of_ble_eq_true rfl, Nat.le_of_ble_eq_true rfl⟩ (fun H locs hP hD hS => ?_)
        refine lv_topi (fun v6_4 ev6_4 => ?_)
        have hF := jl hF ev6_4
        refine lv_istore (lv' := [(6, .int v6_4), (0, .long st), (2, .int wy), (3, .long x3_1), (5, .int x5_2)]) hx hb dX10_mirrored_18 hl (by decide) rfl (fun ls hl => ?_)
        refine lv_iload hx hb dX10_mirrored_20 (lv_at hl 0 rfl) ?_
        refine lv_bipush (v := 31) hx hb dX10_mirrored_22 (by decide) ?_
        have hB91 : ∀ (x3_5 : Int64) (H : Heap) (locs : List Loc) (ls : Array Slot), f_X10_mirrored_B91 (f_X10_mirrored_L5 st wy n5) x5_2 x3_5 = some r → va_P (gD G) vwCl [] H → va_D A [] → va_S A s.heap H locs → lv_has ls 9 [(0, .long st), (2, .int wy), (3, .long x3_5), (5, .int x5_2)] → W p l e rm_X10_mirrored s m args below meth c H locs 0 0 (MQ below (HXq G post A) args s 0 0 A) (F0 m 91 ls []) := by
          intro x3_5 H locs ls hF hP hD hS hl
          unfold f_X10_mirrored_B91 at hF
          obtain ⟨v5_6, ev5_6⟩ : ∃ z : Int32, z = x5_2 + 1 := ⟨_, rfl⟩
          have hF := jl hF ev5_6
          refine lv_iinc (v := v5_6) (lv' := [(5, .int v5_6), (0, .long st), (2, .int wy), (3, .long x3_5)]) hx hb dX10_mirrored_91 hl (k := 3) rfl (by rw [ev5_6]; rfl) (by decide) rfl (fun ls hl => ?_)
          refine lv_goto (tgt := 5) hx hb dX10_mirrored_94 (by decide) ?_
          exact ih5 x3_5 v5_6 _ _ _ hF hP hD hS (lv_sub hl [1, 2, 3, 0] rfl)
        refine lv_icmp_eq (tgt := 91) hx hb dX10_mirrored_24 (by decide) (fun c_7 => ?_) (fun c_7 => ?_)
        · have hF := ifp hF c_7
          exact hB91 x3_1 _ _ _ hF hP hD hS (lv_sub hl [1, 2, 3, 4] rfl)
        · have hF := ifn hF c_7
          refine lv_iload_n hx hb dX10_mirrored_27 rfl (lv_at hl 2 rfl) ?_
          refine lv_iconst (v := 1) hx hb dX10_mirrored_28 (by decide) ?_
          refine lv_iand hx hb dX10_mirrored_29 ?_
          refine lv_iconst (v := 1) hx hb dX10_mirrored_30 (by decide) ?_
          have hB47 : ∀ (t0_8 : Int32) (H : Heap) (locs : List Loc) (ls : Array Slot), f_X10_mirrored_B47 (f_X10_mirrored_L5 st wy n5) st wy x3_1 x5_2 v6_4 t0_8 = some r → va_P (gD G) vwCl [] H → va_D A [] → va_S A s.heap H locs → lv_has ls 9 [(0, .long st), (2, .int wy), (3, .long x3_1), (5, .int x5_2), (6, .int v6_4)] → W p l e rm_X10_mirrored s m args below meth c H locs 0 0 (MQ below (HXq G post A) args s 0 0 A) (F0 m 47 ls [.int t0_8]) := by
            intro t0_8 H locs ls hF hP hD hS hl
            unfold f_X10_mirrored_B47 at hF
            refine lv_istore (lv' := [(7, .int t0_8), (0, .long st), (2, .int wy), (3, .long x3_1), (5, .int x5_2), (6, .int v6_4)]) hx hb dX10_mirrored_47 hl (by decide) rfl (fun ls hl => ?_)
            refine lv_iload_n hx hb dX10_mirrored_49 rfl (lv_at hl 2 rfl) ?_
            refine lv_iconst (v := 2) hx hb dX10_mirrored_50 (by decide) ?_
            refine lv_iand hx hb dX10_mirrored_51 ?_
            refine lv_iconst (v := 2) hx hb dX10_mirrored_52 (by decide) ?_
            have hB69 : ∀ (t0_9 : Int32) (H : Heap) (locs : List Loc) (ls : Array Slot), f_X10_mirrored_B69 (f_X10_mirrored_L5 st wy n5) st x3_1 x5_2 t0_8 t0_9 = some r → va_P (gD G) vwCl [] H → va_D A [] → va_S A s.heap H locs → lv_has ls 9 [(0, .long st), (2, .int wy), (3, .long x3_1), (5, .int x5_2), (7, .int t0_8)] → W p l e rm_X10_mirrored s m args below meth c H locs 0 0 (MQ below (HXq G post A) args s 0 0 A) (F0 m 69 ls [.int t0_9]) := by
              intro t0_9 H locs ls hF hP hD hS hl
              unfold f_X10_mirrored_B69 at hF
              refine lv_istore (lv' := [(8, .int t0_9), (0, .long st), (2, .int wy), (3, .long x3_1), (5, .int x5_2), (7, .int t0_8)]) hx hb dX10_mirrored_69 hl (by decide) rfl (fun ls hl => ?_)
              refine lv_lload_n hx hb dX10_mirrored_71 rfl (lv_at hl 3 rfl) ?_
              refine lv_iload hx hb dX10_mirrored_72 (lv_at hl 4 rfl) ?_
              refine lv_iload hx hb dX10_mirrored_74 (lv_at hl 5 rfl) ?_
              refine lv_iconst (v := 5) hx hb dX10_mirrored_76 (by decide) ?_
              refine lv_iload hx hb dX10_mirrored_77 (lv_at hl 0 rfl) ?_
              refine lv_imul hx hb dX10_mirrored_79 ?_
              refine lv_iadd hx hb dX10_mirrored_80 ?_
              refine lv_lload_n hx hb dX10_mirrored_81 rfl (lv_at hl 1 rfl) ?_
              refine lv_iload hx hb dX10_mirrored_82 (lv_at hl 4 rfl) ?_
              refine hm_S (wn := []) (wr := []) (rest := [.int (t0_8 + (5 * t0_9)), .int x5_2, .long x3_1]) (sn := [.int (f_X10_ageOf st x5_2), .int (t0_8 + (5 * t0_9)), .int x5_2, .long x3_1]) hx hb hml hown hts hE hA (k_X10_ageOf G l st x5_2 _ rfl) sm_X10_ageOf mw_892 ⟨rfl, rfl, Nat.le_of_ble_eq_true rfl, Nat.le_of_ble_eq_true rfl⟩ hP hD hS [] [] [] rfl rfl rfl (by decide) hl.1 rfl rfl (Nat.le_of_ble_eq_true rfl) dX10_mirrored_84 ⟨Nat.le_of_ble_eq_true rfl, Nat.le_of_ble_eq_true rfl⟩ (fun H locs hP hD hS => ?_)
              refine hm_S (wn := []) (wr := []) (rest := []) (sn := [.long (f_X10_put x3_1 x5_2 (t0_8 + (5 * t0_9)) (f_X10_ageOf st x5_2))]) hx hb hml hown hts hE hA (k_X10_put G l x3_1 x5_2 (t0_8 + (5 * t0_9)) (f_X10_ageOf st x5_2) _ rfl) sm_X10_put mw_724 ⟨rfl, rfl, Nat.le_of_ble_eq_true rfl, Nat.le_of_ble_eq_true rfl⟩ hP hD hS [] [] [] rfl rfl rfl (by decide) hl.1 rfl rfl (Nat.le_of_ble_eq_true rfl) dX10_mirrored_87 ⟨Nat.le_of_ble_eq_true rfl, Nat.le_of_ble_eq_true rfl⟩ (fun H locs hP hD hS => ?_)
              refine lv_topl (fun v3_10 ev3_10 => ?_)
              have hF := jl hF ev3_10
              refine lv_lstore_n (lv' := [(3, .long v3_10), (8, .int t0_9), (0, .long st), (2, .int wy), (5, .int x5_2), (7, .int t0_8)]) hx hb dX10_mirrored_90 rfl hl (by decide) rfl (fun ls hl => ?_)
              exact hB91 v3_10 _ _ _ hF hP hD hS (lv_sub hl [2, 3, 0, 4] rfl)
            refine lv_icmp_ne (tgt := 65) hx hb dX10_mirrored_53 (by decide) (fun c_11 => ?_) (fun c_11 => ?_)
            · have hF := ifn hF c_11
              refine lv_iload hx hb dX10_mirrored_65 (lv_at hl 5 rfl) ?_
              refine lv_iconst (v := 5) hx hb dX10_mirrored_67 (by decide) ?_
              refine lv_idiv hx hb dX10_mirrored_68 (by decide) ?_
              exact hB69 (v6_4 / 5) _ _ _ hF hP hD hS (lv_sub hl [1, 2, 3, 4, 0] rfl)
            · have hF := ifp hF c_11
              refine lv_iconst (v := 4) hx hb dX10_mirrored_56 (by decide) ?_
              refine lv_iload hx hb dX10_mirrored_57 (lv_at hl 5 rfl) ?_
              refine lv_iconst (v := 5) hx hb dX10_mirrored_59 (by decide) ?_
              refine lv_idiv hx hb dX10_mirrored_60 (by decide) ?_
              refine lv_isub hx hb dX10_mirrored_61 ?_
              refine lv_goto (tgt := 69) hx hb dX10_mirrored_62 (by decide) ?_
              exact hB69 (4 - (v6_4 / 5)) _ _ _ hF hP hD hS (lv_sub hl [1, 2, 3, 4, 0] rfl)
          refine lv_icmp_ne (tgt := 43) hx hb dX10_mirrored_31 (by decide) (fun c_12 => ?_) (fun c_12 => ?_)
          · have hF := ifn hF c_12
            refine lv_iload hx hb dX10_mirrored_43 (lv_at hl 0 rfl) ?_
            refine lv_iconst (v := 5) hx hb dX10_mirrored_45 (by decide) ?_
            refine lv_irem hx hb dX10_mirrored_46 (by decide) ?_
            exact hB47 (jrem v6_4 5) _ _ _ hF hP hD hS (lv_sub hl [1, 2, 3, 4, 0] rfl)
          · have hF := ifp hF c_12
            refine lv_iconst (v := 4) hx hb dX10_mirrored_34 (by decide) ?_
            refine lv_iload hx hb dX10_mirrored_35 (lv_at hl 0 rfl) ?_
            refine lv_iconst (v := 5) hx hb dX10_mirrored_37 (by decide) ?_
            refine lv_irem hx hb dX10_mirrored_38 (by decide) ?_
            refine lv_isub hx hb dX10_mirrored_39 ?_
            refine lv_goto (tgt := 47) hx hb dX10_mirrored_40 (by decide) ?_
            exact hB47 (4 - (jrem v6_4 5)) _ _ _ hF hP hD hS (lv_sub hl [1, 2, 3, 4, 0] rfl)
  exact hL5 _ st 0 _ _ _ hF hP hD hS (lv_sub hl [2, 3, 1, 0] rfl)
def f_X10_mirror (mbd : Int64) (wy : Int32) : Option (Int32 × Int64) :=
  if (f_X10_in (wy.toInt64) 1 3) = 0 then some ((-2), mbd) else Option.bind (f_X10_mirrored mbd wy) (fun r21_2 => Option.bind (f_X10_standing r21_2) (fun r31_3 => some (r31_3, r21_2)))
abbrev rm_X10_mirror : Room := { frames := 2, cells := 0, slots := 0, locals := 52 }
set_option maxHeartbeats 4000000 in
set_option maxRecDepth 100000 in
theorem k_X10_mirror (G : gT) (l : Launch) (mo : Nat) (aMM : Nat) (aMT : Nat) (aPD : Nat) (aST : Nat) (aPL : Nat) (aRS : Nat) (aLA : Nat) (aBM : Nat) (aRP : Nat) (aFI : Nat) (aFM : Nat) (aGB : Nat) (aGM : Nat) (aGV : Nat) (aGR : Nat) (aKB : Nat) (aKP : Nat) (aIK : Nat) (mbd : Int64) (mby : Int32) (mgr : Int32) (mol : Int32) (mmy : Int32) (mpm : Int32) (mrd : Int64) (mbm : Int32) (mbw : Int32) (mpl : Int64) (msm : Int32) (mgs : Int32) (mka : Int32) (miw : Int32) (wy : Int32) (r : Int32 × Int64) (hF : f_X10_mirror mbd wy = some r) : HM G l yX10_mirror (.code yX10_mirror cX10_mirror 2 (some .int) :: UW) rm_X10_mirror 0 0 [.ref mo, .int wy] [(mo, .inr (8, [.long mbd, .int mby, .int mgr, .int mol, .ref aMM, .ref aMT, .int mmy, .ref aPD, .int mpm, .long mrd, .int mbm, .int mbw, .long mpl, .ref aST, .ref aPL, .ref aRS, .ref aLA, .ref aBM, .int msm, .ref aRP, .ref aFI, .ref aFM, .ref aGB, .ref aGM, .ref aGV, .ref aGR, .int mgs, .ref aKB, .ref aKP, .ref aIK, .int mka, .int miw]))] (some (.int r.1)) [(mo, .inr (8, [.long r.2, .int mby, .int mgr, .int mol, .ref aMM, .ref aMT, .int mmy, .ref aPD, .int mpm, .long mrd, .int mbm, .int mbw, .long mpl, .ref aST, .ref aPL, .ref aRS, .ref aLA, .ref aBM, .int msm, .ref aRP, .ref aFI, .ref aFM, .ref aGB, .ref aGM, .ref aGV, .ref aGR, .int mgs, .ref aKB, .ref aKP, .ref aIK, .int mka, .int miw]))] := by
  refine HM.ofW (by decide) (Nat.le_of_ble_eq_true rfl) ?_
  intro p e s m args below meth c A post hpost hC hP hD hS ls hl
  obtain ⟨hx, hb, hr, hml, hown, hts, hlk, hE, hA⟩ := hC
  have hl : lv_has ls 2 [(0, .ref mo), (1, .int wy)] := hl
  unfold f_X10_mirror at hF
  refine lv_iload_n hx hb dX10_mirror_0 rfl (lv_at hl 1 rfl) ?_
  refine lv_i2l (v := (wy.toInt64)) hx hb dX10_mirror_1 rfl ?_
  refine lv_lconst (v := 1) hx hb dX10_mirror_2 (by decide) ?_
  refine lv_ldc2 (v := 3) hx hb hown (hts _ (List.mem_cons_of_mem _ mw_1073)) dX10_mirror_3 ?_
  refine hm_S (wn := [(mo, .inr (8, [.long mbd, .int mby, .int mgr, .int mol, .ref aMM, .ref aMT, .int mmy, .ref aPD, .int mpm, .long mrd, .int mbm, .int mbw, .long mpl, .ref aST, .ref aPL, .ref aRS, .ref aLA, .ref aBM, .int msm, .ref aRP, .ref aFI, .ref aFM, .ref aGB, .ref aGM, .ref aGV, .ref aGR, .int mgs, .ref aKB, .ref aKP, .ref aIK, .int mka, .int miw]))]) (wr := [(mo, .inr (8, [.long mbd, .int mby, .int mgr, .int mol, .ref aMM, .ref aMT, .int mmy, .ref aPD, .int mpm, .long mrd, .int mbm, .int mbw, .long mpl, .ref aST, .ref aPL, .ref aRS, .ref aLA, .ref aBM, .int msm, .ref aRP, .ref aFI, .ref aFM, .ref aGB, .ref aGM, .ref aGV, .ref aGR, .int mgs, .ref aKB, .ref aKP, .ref aIK, .int mka, .int miw]))]) (rest := []) (sn := [.int (f_X10_in (wy.toInt64) 1 3)]) hx hb hml hown hts hE hA (k_X10_in G l (wy.toInt64) 1 3 _ rfl) sm_X10_in mw_833 ⟨rfl, rfl, Nat.le_of_ble_eq_true rfl, Nat.le_of_ble_eq_true rfl⟩ hP hD hS [] [0] [0] rfl rfl rfl (by decide) hl.1 rfl rfl (Nat.le_of_ble_eq_true rfl) dX10_mirror_6 ⟨Nat.le_of_ble_eq_true rfl, Nat.le_of_ble_eq_true rfl⟩ (fun H locs hP hD hS => ?_)
  refine lv_if_ne (tgt := 15) hx hb dX10_mirror_9 (by decide) (fun c_1 => ?_) (fun c_1 => ?_)
  · have hF := ifn hF c_1
    refine lv_aload_n hx hb dX10_mirror_15 rfl (lv_at hl 0 rfl) ?_
    refine lv_aload_n hx hb dX10_mirror_16 rfl (lv_at hl 0 rfl) ?_
    refine hget hx hb hts hown hE fl_X10_69 hP 0 rfl rfl dX10_mirror_17 ?_
    refine lv_iload_n hx hb dX10_mirror_20 rfl (lv_at hl 1 rfl) ?_
    obtain ⟨r21_2, hr21_2, hF⟩ := bnd hF
    refine hm_S (wn := [(mo, .inr (8, [.long mbd, .int mby, .int mgr, .int mol, .ref aMM, .ref aMT, .int mmy, .ref aPD, .int mpm, .long mrd, .int mbm, .int mbw, .long mpl, .ref aST, .ref aPL, .ref aRS, .ref aLA, .ref aBM, .int msm, .ref aRP, .ref aFI, .ref aFM, .ref aGB, .ref aGM, .ref aGV, .ref aGR, .int mgs, .ref aKB, .ref aKP, .ref aIK, .int mka, .int miw]))]) (wr := [(mo, .inr (8, [.long mbd, .int mby, .int mgr, .int mol, .ref aMM, .ref aMT, .int mmy, .ref aPD, .int mpm, .long mrd, .int mbm, .int mbw, .long mpl, .ref aST, .ref aPL, .ref aRS, .ref aLA, .ref aBM, .int msm, .ref aRP, .ref aFI, .ref aFM, .ref aGB, .ref aGM, .ref aGV, .ref aGR, .int mgs, .ref aKB, .ref aKP, .ref aIK, .int mka, .int miw]))]) (rest := [.ref mo]) (sn := [.long r21_2, .ref mo]) hx hb hml hown hts hE hA (k_X10_mirrored G l mbd wy r21_2 hr21_2) sm_X10_mirrored mw_1074 ⟨rfl, rfl, Nat.le_of_ble_eq_true rfl, Nat.le_of_ble_eq_true rfl⟩ hP hD hS [] [0] [0] rfl rfl rfl (by decide) hl.1 rfl rfl (Nat.le_of_ble_eq_true rfl) dX10_mirror_21 ⟨Nat.le_of_ble_eq_true rfl, Nat.le_of_ble_eq_true rfl⟩ (fun H locs hP hD hS => ?_)
    refine hput hx hb hts hown hE fl_X10_69 ft_X10_0 hP hD hS 0 rfl rfl rfl rfl (Nat.le_of_ble_eq_true rfl) (wn := [(mo, .inr (8, [.long r21_2, .int mby, .int mgr, .int mol, .ref aMM, .ref aMT, .int mmy, .ref aPD, .int mpm, .long mrd, .int mbm, .int mbw, .long mpl, .ref aST, .ref aPL, .ref aRS, .ref aLA, .ref aBM, .int msm, .ref aRP, .ref aFI, .ref aFM, .ref aGB, .ref aGM, .ref aGV, .ref aGR, .int mgs, .ref aKB, .ref aKP, .ref aIK, .int mka, .int miw]))]) rfl dX10_mirror_24 (fun H locs hP hD hS => ?_)
    refine lv_aload_n hx hb dX10_mirror_27 rfl (lv_at hl 0 rfl) ?_
    refine hget hx hb hts hown hE fl_X10_69 hP 0 rfl rfl dX10_mirror_28 ?_
    obtain ⟨r31_3, hr31_3, hF⟩ := bnd hF
    refine hm_S (wn := [(mo, .inr (8, [.long r21_2, .int mby, .int mgr, .int mol, .ref aMM, .ref aMT, .int mmy, .ref aPD, .int mpm, .long mrd, .int mbm, .int mbw, .long mpl, .ref aST, .ref aPL, .ref aRS, .ref aLA, .ref aBM, .int msm, .ref aRP, .ref aFI, .ref aFM, .ref aGB, .ref aGM, .ref aGV, .ref aGR, .int mgs, .ref aKB, .ref aKP, .ref aIK, .int mka, .int miw]))]) (wr := [(mo, .inr (8, [.long r21_2, .int mby, .int mgr, .int mol, .ref aMM, .ref aMT, .int mmy, .ref aPD, .int mpm, .long mrd, .int mbm, .int mbw, .long mpl, .ref aST, .ref aPL, .ref aRS, .ref aLA, .ref aBM, .int msm, .ref aRP, .ref aFI, .ref aFM, .ref aGB, .ref aGM, .ref aGV, .ref aGR, .int mgs, .ref aKB, .ref aKP, .ref aIK, .int mka, .int miw]))]) (rest := []) (sn := [.int r31_3]) hx hb hml hown hts hE hA (k_X10_standing G l r21_2 r31_3 hr31_3) sm_X10_standing mw_873 ⟨rfl, rfl, Nat.le_of_ble_eq_true rfl, Nat.le_of_ble_eq_true rfl⟩ hP hD hS [] [0] [0] rfl rfl rfl (by decide) hl.1 rfl rfl (Nat.le_of_ble_eq_true rfl) dX10_mirror_31 ⟨Nat.le_of_ble_eq_true rfl, Nat.le_of_ble_eq_true rfl⟩ (fun H locs hP hD hS => ?_)
    have hF := Option.some.inj hF
    subst hF
    exact hm_iret hx hb hr hlk hP hD hS hpost dX10_mirror_34
  · have hF := ifp hF c_1
    refine lv_bipush (v := (-2)) hx hb dX10_mirror_12 (by decide) ?_
    have hF := Option.some.inj hF
    subst hF
    exact hm_iret hx hb hr hlk hP hD hS hpost dX10_mirror_14
def f_X10_like_B43 (k_14 : Int32 → Int32 → Option (Int32 × Int64)) (x1_3 : Int32) (x2_4 : Int32) (t1_7 : Int32) : Option (Int32 × Int64) :=
  jlet (x1_3 ||| t1_7) (fun v1_8 => jlet (x2_4 + 1) (fun v2_9 => k_14 v1_8 v2_9))
def f_X10_like_L14 (mbd : Int64) (r1_1 : Int32 × Int64) : Nat → Int32 → Int32 → Option (Int32 × Int64)
  | 0, _, _ => none
  | n+1, x1_3, x2_4 =>
  if 4 ≤ x2_4 then some (x1_3, r1_1.2) else Option.bind (f_X10_mirrored mbd x2_4) (fun r25_6 => if (lg_cmp r25_6 r1_1.2) = 0 then f_X10_like_B43 (f_X10_like_L14 mbd r1_1 n) x1_3 x2_4 (jshl 1 x2_4) else f_X10_like_B43 (f_X10_like_L14 mbd r1_1 n) x1_3 x2_4 0)
def f_X10_like (mbd : Int64) (mpm : Int32) (xpd : (Nat → Int32)) : Option (Int32 × Int64) :=
  Option.bind (f_X10_faultOfBoard mpm xpd) (fun r1_1 => if r1_1.1 < 0 then f_X10_like_L14 mbd r1_1 100 0 0 else some ((-5), r1_1.2))
abbrev rm_X10_like : Room := { frames := 3, cells := 0, slots := 0, locals := 71 }
set_option maxHeartbeats 4000000 in
set_option maxRecDepth 100000 in
theorem k_X10_like (G : gT) (l : Launch) (mo : Nat) (aMM : Nat) (aMT : Nat) (aPD : Nat) (aST : Nat) (aPL : Nat) (aRS : Nat) (aLA : Nat) (aBM : Nat) (aRP : Nat) (aFI : Nat) (aFM : Nat) (aGB : Nat) (aGM : Nat) (aGV : Nat) (aGR : Nat) (aKB : Nat) (aKP : Nat) (aIK : Nat) (mbd : Int64) (mby : Int32) (mgr : Int32) (mol : Int32) (mmy : Int32) (mpm : Int32) (mrd : Int64) (mbm : Int32) (mbw : Int32) (mpl : Int64) (msm : Int32) (mgs : Int32) (mka : Int32) (miw : Int32) (xpd : (Nat → Int32)) (r : Int32 × Int64) (hF : f_X10_like mbd mpm xpd = some r) : HM G l yX10_like (.code yX10_like cX10_like 3 (some .int) :: UW) rm_X10_like 0 0 [.ref mo] [(mo, .inr (8, [.long mbd, .int mby, .int mgr, .int mol, .ref aMM, .ref aMT, .int mmy, .ref aPD, .int mpm, .long mrd, .int mbm, .int mbw, .long mpl, .ref aST, .ref aPL, .ref aRS, .ref aLA, .ref aBM, .int msm, .ref aRP, .ref aFI, .ref aFM, .ref aGB, .ref aGM, .ref aGV, .ref aGR, .int mgs, .ref aKB, .ref aKP, .ref aIK, .int mka, .int miw])), (aPD, .inl (gI G, 48, .inl xpd))] (some (.int r.1)) [(mo, .inr (8, [.long mbd, .int mby, .int mgr, .int mol, .ref aMM, .ref aMT, .int mmy, .ref aPD, .int mpm, .long r.2, .int mbm, .int mbw, .long mpl, .ref aST, .ref aPL, .ref aRS, .ref aLA, .ref aBM, .int msm, .ref aRP, .ref aFI, .ref aFM, .ref aGB, .ref aGM, .ref aGV, .ref aGR, .int mgs, .ref aKB, .ref aKP, .ref aIK, .int mka, .int miw])), (aPD, .inl (gI G, 48, .inl xpd))] := by
  refine HM.ofW (by decide) (Nat.le_of_ble_eq_true rfl) ?_
  intro p e s m args below meth c A post hpost hC hP hD hS ls hl
  obtain ⟨hx, hb, hr, hml, hown, hts, hlk, hE, hA⟩ := hC
  have hl : lv_has ls 3 [(0, .ref mo)] := hl
  unfold f_X10_like at hF
  refine lv_aload_n hx hb dX10_like_0 rfl (lv_at hl 0 rfl) ?_
  obtain ⟨r1_1, hr1_1, hF⟩ := bnd hF
  refine hm_V (wn := [(mo, .inr (8, [.long mbd, .int mby, .int mgr, .int mol, .ref aMM, .ref aMT, .int mmy, .ref aPD, .int mpm, .long r1_1.2, .int mbm, .int mbw, .long mpl, .ref aST, .ref aPL, .ref aRS, .ref aLA, .ref aBM, .int msm, .ref aRP, .ref aFI, .ref aFM, .ref aGB, .ref aGM, .ref aGV, .ref aGR, .int mgs, .ref aKB, .ref aKP, .ref aIK, .int mka, .int miw])), (aPD, .inl (gI G, 48, .inl xpd))]) (wr := []) (rest := []) (sn := [.int r1_1.1]) hx hb hml hown hts hE hA (k_X10_faultOfBoard G l mo aMM aMT aPD aST aPL aRS aLA aBM aRP aFI aFM aGB aGM aGV aGR aKB aKP aIK mbd mby mgr mol mmy mpm mrd mbm mbw mpl msm mgs mka miw xpd r1_1 hr1_1) sm_X10_faultOfBoard mw_844 ⟨rfl, rfl, Nat.le_of_ble_eq_true rfl, Nat.le_of_ble_eq_true rfl⟩ hP hD hS 0 rfl rfl [0, 1] [] [0, 1] rfl rfl rfl (by decide) hl.1 rfl rfl (Nat.le_of_ble_eq_true rfl) dX10_like_1 ⟨Nat.le_of_ble_eq_true rfl, Nat.le_of_ble_eq_true rfl⟩ (fun H locs hP hD hS => ?_)
  refine lv_if_lt (tgt := 10) hx hb dX10_like_4 (by decide) (fun c_2 => ?_) (fun c_2 => ?_)
  · have hF := ifp hF c_2
    refine lv_iconst (v := 0) hx hb dX10_like_10 (by decide) ?_
    refine lv_istore_n (lv' := [(1, .int 0), (0, .ref mo)]) hx hb dX10_like_11 rfl hl (by decide) rfl (fun ls hl => ?_)
    refine lv_iconst (v := 0) hx hb dX10_like_12 (by decide) ?_
    refine lv_istore_n (lv' := [(2, .int 0), (1, .int 0), (0, .ref mo)]) hx hb dX10_like_13 rfl hl (by decide) rfl (fun ls hl => ?_)
    have hL14 : ∀ (n14 : Nat) (x1_3 : Int32) (x2_4 : Int32) (H : Heap) (locs : List Loc) (ls : Array Slot), f_X10_like_L14 mbd r1_1 n14 x1_3 x2_4 = some r → va_P (gD G) vwCl [(mo, .inr (8, [.long mbd, .int mby, .int mgr, .int mol, .ref aMM, .ref aMT, .int mmy, .ref aPD, .int mpm, .long r1_1.2, .int mbm, .int mbw, .long mpl, .ref aST, .ref aPL, .ref aRS, .ref aLA, .ref aBM, .int msm, .ref aRP, .ref aFI, .ref aFM, .ref aGB, .ref aGM, .ref aGV, .ref aGR, .int mgs, .ref aKB, .ref aKP, .ref aIK, .int mka, .int miw])), (aPD, .inl (gI G, 48, .inl xpd))] H → va_D A [(mo, .inr (8, [.long mbd, .int mby, .int mgr, .int mol, .ref aMM, .ref aMT, .int mmy, .ref aPD, .int mpm, .long r1_1.2, .int mbm, .int mbw, .long mpl, .ref aST, .ref aPL, .ref aRS, .ref aLA, .ref aBM, .int msm, .ref aRP, .ref aFI, .ref aFM, .ref aGB, .ref aGM, .ref aGV, .ref aGR, .int mgs, .ref aKB, .ref aKP, .ref aIK, .int mka, .int miw])), (aPD, .inl (gI G, 48, .inl xpd))] → va_S A s.heap H locs → lv_has ls 3 [(0, .ref mo), (1, .int x1_3), (2, .int x2_4)] → W p l e rm_X10_like s m args below meth c H locs 0 0 (MQ below (HXq G post A) args s 0 0 A) (F0 m 14 ls []) := by
      intro n14
      induction n14 with
      | zero =>
        intro x1_3 x2_4 H locs ls hF
        exact absurd hF (fun h => by cases h)
      | succ n14 ih14 =>
        intro x1_3 x2_4 H locs ls hF hP hD hS hl
        unfold f_X10_like_L14 at hF
        refine lv_iload_n hx hb dX10_like_14 rfl (lv_at hl 2 rfl) ?_
        refine lv_iconst (v := 4) hx hb dX10_like_15 (by decide) ?_
        refine lv_icmp_ge (tgt := 51) hx hb dX10_like_16 (by decide) (fun c_5 => ?_) (fun c_5 => ?_)
        · have hF := ifp hF c_5
          refine lv_iload_n hx hb dX10_like_51 rfl (lv_at hl 1 rfl) ?_
          have hF := Option.some.inj hF
          subst hF
          exact hm_iret hx hb hr hlk hP hD hS hpost dX10_like_52
        · have hF := ifn hF c_5
          refine lv_iload_n hx hb dX10_like_19 rfl (lv_at hl 1 rfl) ?_
          refine lv_aload_n hx hb dX10_like_20 rfl (lv_at hl 0 rfl) ?_
          refine hget hx hb hts hown hE fl_X10_69 hP 0 rfl rfl dX10_like_21 ?_
          refine lv_iload_n hx hb dX10_like_24 rfl (lv_at hl 2 rfl) ?_
          obtain ⟨r25_6, hr25_6, hF⟩ := bnd hF
          refine hm_S (wn := [(mo, .inr (8, [.long mbd, .int mby, .int mgr, .int mol, .ref aMM, .ref aMT, .int mmy, .ref aPD, .int mpm, .long r1_1.2, .int mbm, .int mbw, .long mpl, .ref aST, .ref aPL, .ref aRS, .ref aLA, .ref aBM, .int msm, .ref aRP, .ref aFI, .ref aFM, .ref aGB, .ref aGM, .ref aGV, .ref aGR, .int mgs, .ref aKB, .ref aKP, .ref aIK, .int mka, .int miw])), (aPD, .inl (gI G, 48, .inl xpd))]) (wr := [(mo, .inr (8, [.long mbd, .int mby, .int mgr, .int mol, .ref aMM, .ref aMT, .int mmy, .ref aPD, .int mpm, .long r1_1.2, .int mbm, .int mbw, .long mpl, .ref aST, .ref aPL, .ref aRS, .ref aLA, .ref aBM, .int msm, .ref aRP, .ref aFI, .ref aFM, .ref aGB, .ref aGM, .ref aGV, .ref aGR, .int mgs, .ref aKB, .ref aKP, .ref aIK, .int mka, .int miw])), (aPD, .inl (gI G, 48, .inl xpd))]) (rest := [.int x1_3]) (sn := [.long r25_6, .int x1_3]) hx hb hml hown hts hE hA (k_X10_mirrored G l mbd x2_4 r25_6 hr25_6) sm_X10_mirrored mw_1074 ⟨rfl, rfl, Nat.le_of_ble_eq_true rfl, Nat.le_of_ble_eq_true rfl⟩ hP hD hS [] [0, 1] [0, 1] rfl rfl rfl (by decide) hl.1 rfl rfl (Nat.le_of_ble_eq_true rfl) dX10_like_25 ⟨Nat.le_of_ble_eq_true rfl, Nat.le_of_ble_eq_true rfl⟩ (fun H locs hP hD hS => ?_)
          refine lv_aload_n hx hb dX10_like_28 rfl (lv_at hl 0 rfl) ?_
          refine hget hx hb hts hown hE fl_X10_149 hP 0 rfl rfl dX10_like_29 ?_
          refine W.lcmp hx hb dX10_like_32 ?_
          have hB43 : ∀ (t1_7 : Int32) (H : Heap) (locs : List Loc) (ls : Array Slot), f_X10_like_B43 (f_X10_like_L14 mbd r1_1 n14) x1_3 x2_4 t1_7 = some r → va_P (gD G) vwCl [(mo, .inr (8, [.long mbd, .int mby, .int mgr, .int mol, .ref aMM, .ref aMT, .int mmy, .ref aPD, .int mpm, .long r1_1.2, .int mbm, .int mbw, .long mpl, .ref aST, .ref aPL, .ref aRS, .ref aLA, .ref aBM, .int msm, .ref aRP, .ref aFI, .ref aFM, .ref aGB, .ref aGM, .ref aGV, .ref aGR, .int mgs, .ref aKB, .ref aKP, .ref aIK, .int mka, .int miw])), (aPD, .inl (gI G, 48, .inl xpd))] H → va_D A [(mo, .inr (8, [.long mbd, .int mby, .int mgr, .int mol, .ref aMM, .ref aMT, .int mmy, .ref aPD, .int mpm, .long r1_1.2, .int mbm, .int mbw, .long mpl, .ref aST, .ref aPL, .ref aRS, .ref aLA, .ref aBM, .int msm, .ref aRP, .ref aFI, .ref aFM, .ref aGB, .ref aGM, .ref aGV, .ref aGR, .int mgs, .ref aKB, .ref aKP, .ref aIK, .int mka, .int miw])), (aPD, .inl (gI G, 48, .inl xpd))] → va_S A s.heap H locs → lv_has ls 3 [(0, .ref mo), (2, .int x2_4)] → W p l e rm_X10_like s m args below meth c H locs 0 0 (MQ below (HXq G post A) args s 0 0 A) (F0 m 43 ls [.int t1_7, .int x1_3]) := by
            intro t1_7 H locs ls hF hP hD hS hl
            unfold f_X10_like_B43 at hF
            refine lv_ior hx hb dX10_like_43 ?_
            refine lv_topi (fun v1_8 ev1_8 => ?_)
            have hF := jl hF ev1_8
            refine lv_istore_n (lv' := [(1, .int v1_8), (0, .ref mo), (2, .int x2_4)]) hx hb dX10_like_44 rfl hl (by decide) rfl (fun ls hl => ?_)
            obtain ⟨v2_9, ev2_9⟩ : ∃ z : Int32, z = x2_4 + 1 := ⟨_, rfl⟩
            have hF := jl hF ev2_9
            refine lv_iinc (v := v2_9) (lv' := [(2, .int v2_9), (1, .int v1_8), (0, .ref mo)]) hx hb dX10_like_45 hl (k := 2) rfl (by rw [ev2_9]; rfl) (by decide) rfl (fun ls hl => ?_)
            refine lv_goto (tgt := 14) hx hb dX10_like_48 (by decide) ?_
            exact ih14 v1_8 v2_9 _ _ _ hF hP hD hS (lv_sub hl [2, 1, 0] rfl)
          refine lv_if_ne (tgt := 42) hx hb dX10_like_33 (by decide) (fun c_10 => ?_) (fun c_10 => ?_)
          · have hF := ifn hF c_10
            refine lv_iconst (v := 0) hx hb dX10_like_42 (by decide) ?_
            exact hB43 0 _ _ _ hF hP hD hS (lv_sub hl [0, 2] rfl)
          · have hF := ifp hF c_10
            refine lv_iconst (v := 1) hx hb dX10_like_36 (by decide) ?_
            refine lv_iload_n hx hb dX10_like_37 rfl (lv_at hl 2 rfl) ?_
            refine lv_ishl hx hb dX10_like_38 ?_
            refine lv_goto (tgt := 43) hx hb dX10_like_39 (by decide) ?_
            exact hB43 (jshl 1 x2_4) _ _ _ hF hP hD hS (lv_sub hl [0, 2] rfl)
    exact hL14 _ 0 0 _ _ _ hF hP hD hS (lv_sub hl [2, 1, 0] rfl)
  · have hF := ifn hF c_2
    refine lv_bipush (v := (-5)) hx hb dX10_like_7 (by decide) ?_
    have hF := Option.some.inj hF
    subst hF
    exact hm_iret hx hb hr hlk hP hD hS hpost dX10_like_9
def f_X10_pass_B20 (mka : Int32) (xkp : (Nat → Int32)) (t0_1 : Int32) : Option (Int32 × (Nat → Int32) × Int32) :=
  if (mka) < 0 ∨ 240 ≤ (mka).toNatClampNeg then none else jlet (upd xkp (mka).toNatClampNeg t0_1) (fun a30_3 => jlet (mka + 1) (fun u38_4 => some (t0_1, a30_3, u38_4)))
def f_X10_pass (mka : Int32) (miw : Int32) (xkp : (Nat → Int32)) (va : Int32) : Option (Int32 × (Nat → Int32) × Int32) :=
  if miw = 0 then if (mka) < 0 ∨ 240 ≤ (mka).toNatClampNeg then none else f_X10_pass_B20 mka xkp (xkp (mka).toNatClampNeg) else f_X10_pass_B20 mka xkp va
abbrev rm_X10_pass : Room := { frames := 0, cells := 0, slots := 0, locals := 0 }
set_option maxHeartbeats 4000000 in
set_option maxRecDepth 100000 in
theorem k_X10_pass (G : gT) (l : Launch) (mo : Nat) (aMM : Nat) (aMT : Nat) (aPD : Nat) (aST : Nat) (aPL : Nat) (aRS : Nat) (aLA : Nat) (aBM : Nat) (aRP : Nat) (aFI : Nat) (aFM : Nat) (aGB : Nat) (aGM : Nat) (aGV : Nat) (aGR : Nat) (aKB : Nat) (aKP : Nat) (aIK : Nat) (mbd : Int64) (mby : Int32) (mgr : Int32) (mol : Int32) (mmy : Int32) (mpm : Int32) (mrd : Int64) (mbm : Int32) (mbw : Int32) (mpl : Int64) (msm : Int32) (mgs : Int32) (mka : Int32) (miw : Int32) (xkp : (Nat → Int32)) (va : Int32) (r : Int32 × (Nat → Int32) × Int32) (hF : f_X10_pass mka miw xkp va = some r) : HM G l yX10_pass (.code yX10_pass cX10_pass 3 (some .int) :: UW) rm_X10_pass 0 0 [.ref mo, .int va] [(mo, .inr (8, [.long mbd, .int mby, .int mgr, .int mol, .ref aMM, .ref aMT, .int mmy, .ref aPD, .int mpm, .long mrd, .int mbm, .int mbw, .long mpl, .ref aST, .ref aPL, .ref aRS, .ref aLA, .ref aBM, .int msm, .ref aRP, .ref aFI, .ref aFM, .ref aGB, .ref aGM, .ref aGV, .ref aGR, .int mgs, .ref aKB, .ref aKP, .ref aIK, .int mka, .int miw])), (aKP, .inl (gI G, 240, .inl xkp))] (some (.int r.1)) [(mo, .inr (8, [.long mbd, .int mby, .int mgr, .int mol, .ref aMM, .ref aMT, .int mmy, .ref aPD, .int mpm, .long mrd, .int mbm, .int mbw, .long mpl, .ref aST, .ref aPL, .ref aRS, .ref aLA, .ref aBM, .int msm, .ref aRP, .ref aFI, .ref aFM, .ref aGB, .ref aGM, .ref aGV, .ref aGR, .int mgs, .ref aKB, .ref aKP, .ref aIK, .int r.2.2, .int miw])), (aKP, .inl (gI G, 240, .inl r.2.1))] := by
  refine HM.ofW (by decide) (Nat.le_of_ble_eq_true rfl) ?_
  intro p e s m args below meth c A post hpost hC hP hD hS ls hl
  obtain ⟨hx, hb, hr, hml, hown, hts, hlk, hE, hA⟩ := hC
  have hl : lv_has ls 3 [(0, .ref mo), (1, .int va)] := hl
  unfold f_X10_pass at hF
  refine lv_aload_n hx hb dX10_pass_0 rfl (lv_at hl 0 rfl) ?_
  refine hget hx hb hts hown hE fl_X10_290 hP 0 rfl rfl dX10_pass_1 ?_
  have hB20 : ∀ (t0_1 : Int32) (H : Heap) (locs : List Loc) (ls : Array Slot), f_X10_pass_B20 mka xkp t0_1 = some r → va_P (gD G) vwCl [(mo, .inr (8, [.long mbd, .int mby, .int mgr, .int mol, .ref aMM, .ref aMT, .int mmy, .ref aPD, .int mpm, .long mrd, .int mbm, .int mbw, .long mpl, .ref aST, .ref aPL, .ref aRS, .ref aLA, .ref aBM, .int msm, .ref aRP, .ref aFI, .ref aFM, .ref aGB, .ref aGM, .ref aGV, .ref aGR, .int mgs, .ref aKB, .ref aKP, .ref aIK, .int mka, .int miw])), (aKP, .inl (gI G, 240, .inl xkp))] H → va_D A [(mo, .inr (8, [.long mbd, .int mby, .int mgr, .int mol, .ref aMM, .ref aMT, .int mmy, .ref aPD, .int mpm, .long mrd, .int mbm, .int mbw, .long mpl, .ref aST, .ref aPL, .ref aRS, .ref aLA, .ref aBM, .int msm, .ref aRP, .ref aFI, .ref aFM, .ref aGB, .ref aGM, .ref aGV, .ref aGR, .int mgs, .ref aKB, .ref aKP, .ref aIK, .int mka, .int miw])), (aKP, .inl (gI G, 240, .inl xkp))] → va_S A s.heap H locs → lv_has ls 3 [(0, .ref mo)] → W p l e rm_X10_pass s m args below meth c H locs 0 0 (MQ below (HXq G post A) args s 0 0 A) (F0 m 20 ls [.int t0_1]) := by
    intro t0_1 H locs ls hF hP hD hS hl
    unfold f_X10_pass_B20 at hF
    refine lv_istore_n (lv' := [(2, .int t0_1), (0, .ref mo)]) hx hb dX10_pass_20 rfl hl (by decide) rfl (fun ls hl => ?_)
    refine lv_aload_n hx hb dX10_pass_21 rfl (lv_at hl 1 rfl) ?_
    refine hget hx hb hts hown hE fl_X10_60 hP 0 rfl rfl dX10_pass_22 ?_
    refine lv_aload_n hx hb dX10_pass_25 rfl (lv_at hl 1 rfl) ?_
    refine hget hx hb hts hown hE fl_X10_294 hP 0 rfl rfl dX10_pass_26 ?_
    refine lv_iload_n hx hb dX10_pass_29 rfl (lv_at hl 0 rfl) ?_
    obtain ⟨hi_2, hF⟩ := inb hF
    obtain ⟨a30_3, ea30_3⟩ : ∃ z : (Nat → Int32), z = upd xkp (mka).toNatClampNeg t0_1 := ⟨_, rfl⟩
    have hF := jl hF ea30_3
    refine hiast hx hb hE hP hD hS 1 rfl hi_2 (wn := [(mo, .inr (8, [.long mbd, .int mby, .int mgr, .int mol, .ref aMM, .ref aMT, .int mmy, .ref aPD, .int mpm, .long mrd, .int mbm, .int mbw, .long mpl, .ref aST, .ref aPL, .ref aRS, .ref aLA, .ref aBM, .int msm, .ref aRP, .ref aFI, .ref aFM, .ref aGB, .ref aGM, .ref aGV, .ref aGR, .int mgs, .ref aKB, .ref aKP, .ref aIK, .int mka, .int miw])), (aKP, .inl (gI G, 240, .inl a30_3))]) (by rw [ea30_3]; rfl) dX10_pass_30 (fun H locs hP hD hS => ?_)
    refine lv_aload_n hx hb dX10_pass_31 rfl (lv_at hl 1 rfl) ?_
    refine lv_dup hx hb dX10_pass_32 rfl ?_
    refine hget hx hb hts hown hE fl_X10_294 hP 0 rfl rfl dX10_pass_33 ?_
    refine lv_iconst (v := 1) hx hb dX10_pass_36 (by decide) ?_
    refine lv_iadd hx hb dX10_pass_37 ?_
    refine lv_topi (fun u38_4 eu38_4 => ?_)
    have hF := jl hF eu38_4
    refine hput hx hb hts hown hE fl_X10_294 ft_X10_30 hP hD hS 0 rfl rfl rfl rfl (Nat.le_of_ble_eq_true rfl) (wn := [(mo, .inr (8, [.long mbd, .int mby, .int mgr, .int mol, .ref aMM, .ref aMT, .int mmy, .ref aPD, .int mpm, .long mrd, .int mbm, .int mbw, .long mpl, .ref aST, .ref aPL, .ref aRS, .ref aLA, .ref aBM, .int msm, .ref aRP, .ref aFI, .ref aFM, .ref aGB, .ref aGM, .ref aGV, .ref aGR, .int mgs, .ref aKB, .ref aKP, .ref aIK, .int u38_4, .int miw])), (aKP, .inl (gI G, 240, .inl a30_3))]) rfl dX10_pass_38 (fun H locs hP hD hS => ?_)
    refine lv_iload_n hx hb dX10_pass_41 rfl (lv_at hl 0 rfl) ?_
    have hF := Option.some.inj hF
    subst hF
    exact hm_iret hx hb hr hlk hP hD hS hpost dX10_pass_42
  refine lv_if_eq (tgt := 11) hx hb dX10_pass_4 (by decide) (fun c_5 => ?_) (fun c_5 => ?_)
  · have hF := ifp hF c_5
    refine lv_aload_n hx hb dX10_pass_11 rfl (lv_at hl 0 rfl) ?_
    refine hget hx hb hts hown hE fl_X10_60 hP 0 rfl rfl dX10_pass_12 ?_
    refine lv_aload_n hx hb dX10_pass_15 rfl (lv_at hl 0 rfl) ?_
    refine hget hx hb hts hown hE fl_X10_294 hP 0 rfl rfl dX10_pass_16 ?_
    obtain ⟨hi_6, hF⟩ := inb hF
    refine hiald hx hb hE hP 1 rfl hi_6 dX10_pass_19 ?_
    exact hB20 (xkp (mka).toNatClampNeg) _ _ _ hF hP hD hS (lv_sub hl [0] rfl)
  · have hF := ifn hF c_5
    refine lv_iload_n hx hb dX10_pass_7 rfl (lv_at hl 1 rfl) ?_
    refine lv_goto (tgt := 20) hx hb dX10_pass_8 (by decide) ?_
    exact hB20 va _ _ _ hF hP hD hS (lv_sub hl [0] rfl)
def f_X10_passAll_B212 (mby_26 : Int32) (mgr_27 : Int32) (mol_28 : Int32) (mgs_29 : Int32) (mka_30 : Int32) (xgb_31 : (Nat → Int64)) (xgm_32 : (Nat → Int32)) (xgv_33 : (Nat → Int32)) (xgr_34 : (Nat → Int32)) (xkb_35 : (Nat → Int64)) (xkp_36 : (Nat → Int32)) (v2_38 : Int32) (t2_39 : Int64) : Option (Int64 × Int32 × Int32 × Int32 × Int32 × Int32 × (Nat → Int64) × (Nat → Int32) × (Nat → Int32) × (Nat → Int32) × (Nat → Int64) × (Nat → Int32)) :=
  if (v2_38) < 0 ∨ 18 ≤ (v2_38).toNatClampNeg then none else jlet (vp_updL xkb_35 (v2_38).toNatClampNeg t2_39) (fun a212_41 => if (v2_38) < 0 ∨ 18 ≤ (v2_38).toNatClampNeg then none else jlet (a212_41 (v2_38).toNatClampNeg) (fun u220_43 => some (u220_43, mby_26, mgr_27, mol_28, mgs_29, mka_30, xgb_31, xgm_32, xgv_33, xgr_34, a212_41, xkp_36)))
def f_X10_passAll_L151 (miw : Int32) (nn : Int32) : Nat → Int32 → Int64 → Int32 → Int32 → Int32 → Int32 → Int32 → (Nat → Int64) → (Nat → Int32) → (Nat → Int32) → (Nat → Int32) → (Nat → Int64) → (Nat → Int32) → Option (Int64 × Int32 × Int32 × Int32 × Int32 × Int32 × (Nat → Int64) × (Nat → Int32) × (Nat → Int32) × (Nat → Int32) × (Nat → Int64) × (Nat → Int32))
  | 0, _, _, _, _, _, _, _, _, _, _, _, _, _ => none
  | n+1, x2_24, mbd_25, mby_26, mgr_27, mol_28, mgs_29, mka_30, xgb_31, xgm_32, xgv_33, xgr_34, xkb_35, xkp_36 =>
  if 96 ≤ x2_24 then jlet ((9 * nn) + 8) (fun v2_38 => if miw = 0 then if (v2_38) < 0 ∨ 18 ≤ (v2_38).toNatClampNeg then none else f_X10_passAll_B212 mby_26 mgr_27 mol_28 mgs_29 mka_30 xgb_31 xgm_32 xgv_33 xgr_34 xkb_35 xkp_36 v2_38 (xkb_35 (v2_38).toNatClampNeg) else f_X10_passAll_B212 mby_26 mgr_27 mol_28 mgs_29 mka_30 xgb_31 xgm_32 xgv_33 xgr_34 xkb_35 xkp_36 v2_38 mbd_25) else if (x2_24) < 0 ∨ 96 ≤ (x2_24).toNatClampNeg then none else Option.bind (f_X10_pass mka_30 miw xkp_36 (xgv_33 (x2_24).toNatClampNeg)) (fun r169_47 => if (x2_24) < 0 ∨ 96 ≤ (x2_24).toNatClampNeg then none else jlet (upd xgv_33 (x2_24).toNatClampNeg r169_47.1) (fun a172_49 => jlet (x2_24 + 1) (fun v2_50 => (f_X10_passAll_L151 miw nn n) v2_50 mbd_25 mby_26 mgr_27 mol_28 mgs_29 r169_47.2.2 xgb_31 xgm_32 a172_49 xgr_34 xkb_35 r169_47.2.1)))
def f_X10_passAll_B130 (k_58 : Int32 → Int64 → Int32 → Int32 → Int32 → Int32 → Int32 → (Nat → Int64) → (Nat → Int32) → (Nat → Int32) → (Nat → Int32) → (Nat → Int64) → (Nat → Int32) → Option (Int64 × Int32 × Int32 × Int32 × Int32 × Int32 × (Nat → Int64) × (Nat → Int32) × (Nat → Int32) × (Nat → Int32) × (Nat → Int64) × (Nat → Int32))) (x2_10 : Int32) (mbd_11 : Int64) (mby_12 : Int32) (mgr_13 : Int32) (mol_14 : Int32) (mgs_15 : Int32) (xgb_17 : (Nat → Int64)) (xgv_19 : (Nat → Int32)) (xkb_21 : (Nat → Int64)) (a79_54 : (Nat → Int32)) (r92_56 : Int32 × (Nat → Int32) × Int32) (a95_58 : (Nat → Int32)) (v3_59 : Int32) (t2_60 : Int64) : Option (Int64 × Int32 × Int32 × Int32 × Int32 × Int32 × (Nat → Int64) × (Nat → Int32) × (Nat → Int32) × (Nat → Int32) × (Nat → Int64) × (Nat → Int32)) :=
  if (v3_59) < 0 ∨ 18 ≤ (v3_59).toNatClampNeg then none else jlet (vp_updL xkb_21 (v3_59).toNatClampNeg t2_60) (fun a130_62 => if (v3_59) < 0 ∨ 18 ≤ (v3_59).toNatClampNeg then none else if (x2_10) < 0 ∨ 8 ≤ (x2_10).toNatClampNeg then none else jlet (vp_updL xgb_17 (x2_10).toNatClampNeg (a130_62 (v3_59).toNatClampNeg)) (fun a142_65 => jlet (x2_10 + 1) (fun v2_66 => k_58 v2_66 mbd_11 mby_12 mgr_13 mol_14 mgs_15 r92_56.2.2 a142_65 a79_54 xgv_19 a95_58 a130_62 r92_56.2.1)))
def f_X10_passAll_L58 (miw : Int32) (nn : Int32) : Nat → Int32 → Int64 → Int32 → Int32 → Int32 → Int32 → Int32 → (Nat → Int64) → (Nat → Int32) → (Nat → Int32) → (Nat → Int32) → (Nat → Int64) → (Nat → Int32) → Option (Int64 × Int32 × Int32 × Int32 × Int32 × Int32 × (Nat → Int64) × (Nat → Int32) × (Nat → Int32) × (Nat → Int32) × (Nat → Int64) × (Nat → Int32))
  | 0, _, _, _, _, _, _, _, _, _, _, _, _, _ => none
  | n+1, x2_10, mbd_11, mby_12, mgr_13, mol_14, mgs_15, mka_16, xgb_17, xgm_18, xgv_19, xgr_20, xkb_21, xkp_22 =>
  if 8 ≤ x2_10 then f_X10_passAll_L151 miw nn 100 0 mbd_11 mby_12 mgr_13 mol_14 mgs_15 mka_16 xgb_17 xgm_18 xgv_19 xgr_20 xkb_21 xkp_22 else if (x2_10) < 0 ∨ 8 ≤ (x2_10).toNatClampNeg then none else Option.bind (f_X10_pass mka_16 miw xkp_22 (xgm_18 (x2_10).toNatClampNeg)) (fun r76_52 => if (x2_10) < 0 ∨ 8 ≤ (x2_10).toNatClampNeg then none else jlet (upd xgm_18 (x2_10).toNatClampNeg r76_52.1) (fun a79_54 => if (x2_10) < 0 ∨ 8 ≤ (x2_10).toNatClampNeg then none else Option.bind (f_X10_pass r76_52.2.2 miw r76_52.2.1 (xgr_20 (x2_10).toNatClampNeg)) (fun r92_56 => if (x2_10) < 0 ∨ 8 ≤ (x2_10).toNatClampNeg then none else jlet (upd xgr_20 (x2_10).toNatClampNeg r92_56.1) (fun a95_58 => jlet ((9 * nn) + x2_10) (fun v3_59 => if miw = 0 then if (v3_59) < 0 ∨ 18 ≤ (v3_59).toNatClampNeg then none else f_X10_passAll_B130 (f_X10_passAll_L58 miw nn n) x2_10 mbd_11 mby_12 mgr_13 mol_14 mgs_15 xgb_17 xgv_19 xkb_21 a79_54 r92_56 a95_58 v3_59 (xkb_21 (v3_59).toNatClampNeg) else if (x2_10) < 0 ∨ 8 ≤ (x2_10).toNatClampNeg then none else f_X10_passAll_B130 (f_X10_passAll_L58 miw nn n) x2_10 mbd_11 mby_12 mgr_13 mol_14 mgs_15 xgb_17 xgv_19 xkb_21 a79_54 r92_56 a95_58 v3_59 (xgb_17 (x2_10).toNatClampNeg))))))
def f_X10_passAll (mbd : Int64) (mby : Int32) (mgr : Int32) (mol : Int32) (mgs : Int32) (miw : Int32) (xgb : (Nat → Int64)) (xgm : (Nat → Int32)) (xgv : (Nat → Int32)) (xgr : (Nat → Int32)) (xkb : (Nat → Int64)) (xkp : (Nat → Int32)) (nn : Int32) : Option (Int64 × Int32 × Int32 × Int32 × Int32 × Int32 × (Nat → Int64) × (Nat → Int32) × (Nat → Int32) × (Nat → Int32) × (Nat → Int64) × (Nat → Int32)) :=
  jlet (120 * nn) (fun u5_1 => Option.bind (f_X10_pass u5_1 miw xkp mby) (fun r14_2 => jlet r14_2.1 (fun u17_3 => Option.bind (f_X10_pass r14_2.2.2 miw r14_2.2.1 mgr) (fun r26_4 => jlet r26_4.1 (fun u29_5 => Option.bind (f_X10_pass r26_4.2.2 miw r26_4.2.1 mol) (fun r38_6 => jlet r38_6.1 (fun u41_7 => Option.bind (f_X10_pass r38_6.2.2 miw r38_6.2.1 mgs) (fun r50_8 => jlet r50_8.1 (fun u53_9 => f_X10_passAll_L58 miw nn 100 0 mbd u17_3 u29_5 u41_7 u53_9 r50_8.2.2 xgb xgm xgv xgr xkb r50_8.2.1)))))))))
abbrev rm_X10_passAll : Room := { frames := 1, cells := 0, slots := 0, locals := 22 }
set_option maxHeartbeats 4000000 in
set_option maxRecDepth 100000 in
theorem k_X10_passAll (G : gT) (l : Launch) (mo : Nat) (aMM : Nat) (aMT : Nat) (aPD : Nat) (aST : Nat) (aPL : Nat) (aRS : Nat) (aLA : Nat) (aBM : Nat) (aRP : Nat) (aFI : Nat) (aFM : Nat) (aGB : Nat) (aGM : Nat) (aGV : Nat) (aGR : Nat) (aKB : Nat) (aKP : Nat) (aIK : Nat) (mbd : Int64) (mby : Int32) (mgr : Int32) (mol : Int32) (mmy : Int32) (mpm : Int32) (mrd : Int64) (mbm : Int32) (mbw : Int32) (mpl : Int64) (msm : Int32) (mgs : Int32) (mka : Int32) (miw : Int32) (xgb : (Nat → Int64)) (xgm : (Nat → Int32)) (xgv : (Nat → Int32)) (xgr : (Nat → Int32)) (xkb : (Nat → Int64)) (xkp : (Nat → Int32)) (nn : Int32) (r : Int64 × Int32 × Int32 × Int32 × Int32 × Int32 × (Nat → Int64) × (Nat → Int32) × (Nat → Int32) × (Nat → Int32) × (Nat → Int64) × (Nat → Int32)) (hF : f_X10_passAll mbd mby mgr mol mgs miw xgb xgm xgv xgr xkb xkp nn = some r) : HM G l yX10_passAll (.code yX10_passAll cX10_passAll 4 none :: UW) rm_X10_passAll 0 0 [.ref mo, .int nn] [(mo, .inr (8, [.long mbd, .int mby, .int mgr, .int mol, .ref aMM, .ref aMT, .int mmy, .ref aPD, .int mpm, .long mrd, .int mbm, .int mbw, .long mpl, .ref aST, .ref aPL, .ref aRS, .ref aLA, .ref aBM, .int msm, .ref aRP, .ref aFI, .ref aFM, .ref aGB, .ref aGM, .ref aGV, .ref aGR, .int mgs, .ref aKB, .ref aKP, .ref aIK, .int mka, .int miw])), (aGB, .inl (gJ G, 8, .inr (.inl xgb))), (aGM, .inl (gI G, 8, .inl xgm)), (aGV, .inl (gI G, 96, .inl xgv)), (aGR, .inl (gI G, 8, .inl xgr)), (aKB, .inl (gJ G, 18, .inr (.inl xkb))), (aKP, .inl (gI G, 240, .inl xkp))] none [(mo, .inr (8, [.long r.1, .int r.2.1, .int r.2.2.1, .int r.2.2.2.1, .ref aMM, .ref aMT, .int mmy, .ref aPD, .int mpm, .long mrd, .int mbm, .int mbw, .long mpl, .ref aST, .ref aPL, .ref aRS, .ref aLA, .ref aBM, .int msm, .ref aRP, .ref aFI, .ref aFM, .ref aGB, .ref aGM, .ref aGV, .ref aGR, .int r.2.2.2.2.1, .ref aKB, .ref aKP, .ref aIK, .int r.2.2.2.2.2.1, .int miw])), (aGB, .inl (gJ G, 8, .inr (.inl r.2.2.2.2.2.2.1))), (aGM, .inl (gI G, 8, .inl r.2.2.2.2.2.2.2.1)), (aGV, .inl (gI G, 96, .inl r.2.2.2.2.2.2.2.2.1)), (aGR, .inl (gI G, 8, .inl r.2.2.2.2.2.2.2.2.2.1)), (aKB, .inl (gJ G, 18, .inr (.inl r.2.2.2.2.2.2.2.2.2.2.1))), (aKP, .inl (gI G, 240, .inl r.2.2.2.2.2.2.2.2.2.2.2))] := by
  refine HM.ofW (by decide) (Nat.le_of_ble_eq_true rfl) ?_
  intro p e s m args below meth c A post hpost hC hP hD hS ls hl
  obtain ⟨hx, hb, hr, hml, hown, hts, hlk, hE, hA⟩ := hC
  have hl : lv_has ls 4 [(0, .ref mo), (1, .int nn)] := hl
  unfold f_X10_passAll at hF
  refine lv_aload_n hx hb dX10_passAll_0 rfl (lv_at hl 0 rfl) ?_
  refine lv_bipush (v := 120) hx hb dX10_passAll_1 (by decide) ?_
  refine lv_iload_n hx hb dX10_passAll_3 rfl (lv_at hl 1 rfl) ?_
  refine lv_imul hx hb dX10_passAll_4 ?_
  refine lv_topi (fun u5_1 eu5_1 => ?_)
  have hF := jl hF eu5_1
  refine hput hx hb hts hown hE fl_X10_294 ft_X10_30 hP hD hS 0 rfl rfl rfl rfl (Nat.le_of_ble_eq_true rfl) (wn := [(mo, .inr (8, [.long mbd, .int mby, .int mgr, .int mol, .ref aMM, .ref aMT, .int mmy, .ref aPD, .int mpm, .long mrd, .int mbm, .int mbw, .long mpl, .ref aST, .ref aPL, .ref aRS, .ref aLA, .ref aBM, .int msm, .ref aRP, .ref aFI, .ref aFM, .ref aGB, .ref aGM, .ref aGV, .ref aGR, .int mgs, .ref aKB, .ref aKP, .ref aIK, .int u5_1, .int miw])), (aGB, .inl (gJ G, 8, .inr (.inl xgb))), (aGM, .inl (gI G, 8, .inl xgm)), (aGV, .inl (gI G, 96, .inl xgv)), (aGR, .inl (gI G, 8, .inl xgr)), (aKB, .inl (gJ G, 18, .inr (.inl xkb))), (aKP, .inl (gI G, 240, .inl xkp))]) rfl dX10_passAll_5 (fun H locs hP hD hS => ?_)
  refine lv_aload_n hx hb dX10_passAll_8 rfl (lv_at hl 0 rfl) ?_
  refine lv_aload_n hx hb dX10_passAll_9 rfl (lv_at hl 0 rfl) ?_
  refine lv_aload_n hx hb dX10_passAll_10 rfl (lv_at hl 0 rfl) ?_
  refine hget hx hb hts hown hE fl_X10_77 hP 0 rfl rfl dX10_passAll_11 ?_
  obtain ⟨r14_2, hr14_2, hF⟩ := bnd hF
  refine hm_V (wn := [(mo, .inr (8, [.long mbd, .int mby, .int mgr, .int mol, .ref aMM, .ref aMT, .int mmy, .ref aPD, .int mpm, .long mrd, .int mbm, .int mbw, .long mpl, .ref aST, .ref aPL, .ref aRS, .ref aLA, .ref aBM, .int msm, .ref aRP, .ref aFI, .ref aFM, .ref aGB, .ref aGM, .ref aGV, .ref aGR, .int mgs, .ref aKB, .ref aKP, .ref aIK, .int r14_2.2.2, .int miw])), (aGB, .inl (gJ G, 8, .inr (.inl xgb))), (aGM, .inl (gI G, 8, .inl xgm)), (aGV, .inl (gI G, 96, .inl xgv)), (aGR, .inl (gI G, 8, .inl xgr)), (aKB, .inl (gJ G, 18, .inr (.inl xkb))), (aKP, .inl (gI G, 240, .inl r14_2.2.1))]) (wr := [(aGB, .inl (gJ G, 8, .inr (.inl xgb))), (aGM, .inl (gI G, 8, .inl xgm)), (aGV, .inl (gI G, 96, .inl xgv)), (aGR, .inl (gI G, 8, .inl xgr)), (aKB, .inl (gJ G, 18, .inr (.inl xkb)))]) (rest := [.ref mo]) (sn := [.int r14_2.1, .ref mo]) hx hb hml hown hts hE hA (k_X10_pass G l mo aMM aMT aPD aST aPL aRS aLA aBM aRP aFI aFM aGB aGM aGV aGR aKB aKP aIK mbd mby mgr mol mmy mpm mrd mbm mbw mpl msm mgs u5_1 miw xkp mby r14_2 hr14_2) sm_X10_pass mw_1089 ⟨rfl, rfl, Nat.le_of_ble_eq_true rfl, Nat.le_of_ble_eq_true rfl⟩ hP hD hS 0 rfl rfl [0, 6] [1, 2, 3, 4, 5] [5, 0, 1, 2, 3, 4, 6] rfl rfl rfl (by decide) hl.1 rfl rfl (Nat.le_of_ble_eq_true rfl) dX10_passAll_14 ⟨Nat.le_of_ble_eq_true rfl, Nat.le_of_ble_eq_true rfl⟩ (fun H locs hP hD hS => ?_)
  refine lv_topi (fun u17_3 eu17_3 => ?_)
  have hF := jl hF eu17_3
  refine hput hx hb hts hown hE fl_X10_77 ft_X10_1 hP hD hS 0 rfl rfl rfl rfl (Nat.le_of_ble_eq_true rfl) (wn := [(mo, .inr (8, [.long mbd, .int u17_3, .int mgr, .int mol, .ref aMM, .ref aMT, .int mmy, .ref aPD, .int mpm, .long mrd, .int mbm, .int mbw, .long mpl, .ref aST, .ref aPL, .ref aRS, .ref aLA, .ref aBM, .int msm, .ref aRP, .ref aFI, .ref aFM, .ref aGB, .ref aGM, .ref aGV, .ref aGR, .int mgs, .ref aKB, .ref aKP, .ref aIK, .int r14_2.2.2, .int miw])), (aGB, .inl (gJ G, 8, .inr (.inl xgb))), (aGM, .inl (gI G, 8, .inl xgm)), (aGV, .inl (gI G, 96, .inl xgv)), (aGR, .inl (gI G, 8, .inl xgr)), (aKB, .inl (gJ G, 18, .inr (.inl xkb))), (aKP, .inl (gI G, 240, .inl r14_2.2.1))]) rfl dX10_passAll_17 (fun H locs hP hD hS => ?_)
  refine lv_aload_n hx hb dX10_passAll_20 rfl (lv_at hl 0 rfl) ?_
  refine lv_aload_n hx hb dX10_passAll_21 rfl (lv_at hl 0 rfl) ?_
  refine lv_aload_n hx hb dX10_passAll_22 rfl (lv_at hl 0 rfl) ?_
  refine hget hx hb hts hown hE fl_X10_81 hP 0 rfl rfl dX10_passAll_23 ?_
  obtain ⟨r26_4, hr26_4, hF⟩ := bnd hF
  refine hm_V (wn := [(mo, .inr (8, [.long mbd, .int u17_3, .int mgr, .int mol, .ref aMM, .ref aMT, .int mmy, .ref aPD, .int mpm, .long mrd, .int mbm, .int mbw, .long mpl, .ref aST, .ref aPL, .ref aRS, .ref aLA, .ref aBM, .int msm, .ref aRP, .ref aFI, .ref aFM, .ref aGB, .ref aGM, .ref aGV, .ref aGR, .int mgs, .ref aKB, .ref aKP, .ref aIK, .int r26_4.2.2, .int miw])), (aGB, .inl (gJ G, 8, .inr (.inl xgb))), (aGM, .inl (gI G, 8, .inl xgm)), (aGV, .inl (gI G, 96, .inl xgv)), (aGR, .inl (gI G, 8, .inl xgr)), (aKB, .inl (gJ G, 18, .inr (.inl xkb))), (aKP, .inl (gI G, 240, .inl r26_4.2.1))]) (wr := [(aGB, .inl (gJ G, 8, .inr (.inl xgb))), (aGM, .inl (gI G, 8, .inl xgm)), (aGV, .inl (gI G, 96, .inl xgv)), (aGR, .inl (gI G, 8, .inl xgr)), (aKB, .inl (gJ G, 18, .inr (.inl xkb)))]) (rest := [.ref mo]) (sn := [.int r26_4.1, .ref mo]) hx hb hml hown hts hE hA (k_X10_pass G l mo aMM aMT aPD aST aPL aRS aLA aBM aRP aFI aFM aGB aGM aGV aGR aKB aKP aIK mbd u17_3 mgr mol mmy mpm mrd mbm mbw mpl msm mgs r14_2.2.2 miw r14_2.2.1 mgr r26_4 hr26_4) sm_X10_pass mw_1089 ⟨rfl, rfl, Nat.le_of_ble_eq_true rfl, Nat.le_of_ble_eq_true rfl⟩ hP hD hS 0 rfl rfl [0, 6] [1, 2, 3, 4, 5] [5, 0, 1, 2, 3, 4, 6] rfl rfl rfl (by decide) hl.1 rfl rfl (Nat.le_of_ble_eq_true rfl) dX10_passAll_26 ⟨Nat.le_of_ble_eq_true rfl, Nat.le_of_ble_eq_true rfl⟩ (fun H locs hP hD hS => ?_)
  refine lv_topi (fun u29_5 eu29_5 => ?_)
  have hF := jl hF eu29_5
  refine hput hx hb hts hown hE fl_X10_81 ft_X10_2 hP hD hS 0 rfl rfl rfl rfl (Nat.le_of_ble_eq_true rfl) (wn := [(mo, .inr (8, [.long mbd, .int u17_3, .int u29_5, .int mol, .ref aMM, .ref aMT, .int mmy, .ref aPD, .int mpm, .long mrd, .int mbm, .int mbw, .long mpl, .ref aST, .ref aPL, .ref aRS, .ref aLA, .ref aBM, .int msm, .ref aRP, .ref aFI, .ref aFM, .ref aGB, .ref aGM, .ref aGV, .ref aGR, .int mgs, .ref aKB, .ref aKP, .ref aIK, .int r26_4.2.2, .int miw])), (aGB, .inl (gJ G, 8, .inr (.inl xgb))), (aGM, .inl (gI G, 8, .inl xgm)), (aGV, .inl (gI G, 96, .inl xgv)), (aGR, .inl (gI G, 8, .inl xgr)), (aKB, .inl (gJ G, 18, .inr (.inl xkb))), (aKP, .inl (gI G, 240, .inl r26_4.2.1))]) rfl dX10_passAll_29 (fun H locs hP hD hS => ?_)
  refine lv_aload_n hx hb dX10_passAll_32 rfl (lv_at hl 0 rfl) ?_
  refine lv_aload_n hx hb dX10_passAll_33 rfl (lv_at hl 0 rfl) ?_
  refine lv_aload_n hx hb dX10_passAll_34 rfl (lv_at hl 0 rfl) ?_
  refine hget hx hb hts hown hE fl_X10_84 hP 0 rfl rfl dX10_passAll_35 ?_
  obtain ⟨r38_6, hr38_6, hF⟩ := bnd hF
  refine hm_V (wn := [(mo, .inr (8, [.long mbd, .int u17_3, .int u29_5, .int mol, .ref aMM, .ref aMT, .int mmy, .ref aPD, .int mpm, .long mrd, .int mbm, .int mbw, .long mpl, .ref aST, .ref aPL, .ref aRS, .ref aLA, .ref aBM, .int msm, .ref aRP, .ref aFI, .ref aFM, .ref aGB, .ref aGM, .ref aGV, .ref aGR, .int mgs, .ref aKB, .ref aKP, .ref aIK, .int r38_6.2.2, .int miw])), (aGB, .inl (gJ G, 8, .inr (.inl xgb))), (aGM, .inl (gI G, 8, .inl xgm)), (aGV, .inl (gI G, 96, .inl xgv)), (aGR, .inl (gI G, 8, .inl xgr)), (aKB, .inl (gJ G, 18, .inr (.inl xkb))), (aKP, .inl (gI G, 240, .inl r38_6.2.1))]) (wr := [(aGB, .inl (gJ G, 8, .inr (.inl xgb))), (aGM, .inl (gI G, 8, .inl xgm)), (aGV, .inl (gI G, 96, .inl xgv)), (aGR, .inl (gI G, 8, .inl xgr)), (aKB, .inl (gJ G, 18, .inr (.inl xkb)))]) (rest := [.ref mo]) (sn := [.int r38_6.1, .ref mo]) hx hb hml hown hts hE hA (k_X10_pass G l mo aMM aMT aPD aST aPL aRS aLA aBM aRP aFI aFM aGB aGM aGV aGR aKB aKP aIK mbd u17_3 u29_5 mol mmy mpm mrd mbm mbw mpl msm mgs r26_4.2.2 miw r26_4.2.1 mol r38_6 hr38_6) sm_X10_pass mw_1089 ⟨rfl, rfl, Nat.le_of_ble_eq_true rfl, Nat.le_of_ble_eq_true rfl⟩ hP hD hS 0 rfl rfl [0, 6] [1, 2, 3, 4, 5] [5, 0, 1, 2, 3, 4, 6] rfl rfl rfl (by decide) hl.1 rfl rfl (Nat.le_of_ble_eq_true rfl) dX10_passAll_38 ⟨Nat.le_of_ble_eq_true rfl, Nat.le_of_ble_eq_true rfl⟩ (fun H locs hP hD hS => ?_)
  refine lv_topi (fun u41_7 eu41_7 => ?_)
  have hF := jl hF eu41_7
  refine hput hx hb hts hown hE fl_X10_84 ft_X10_3 hP hD hS 0 rfl rfl rfl rfl (Nat.le_of_ble_eq_true rfl) (wn := [(mo, .inr (8, [.long mbd, .int u17_3, .int u29_5, .int u41_7, .ref aMM, .ref aMT, .int mmy, .ref aPD, .int mpm, .long mrd, .int mbm, .int mbw, .long mpl, .ref aST, .ref aPL, .ref aRS, .ref aLA, .ref aBM, .int msm, .ref aRP, .ref aFI, .ref aFM, .ref aGB, .ref aGM, .ref aGV, .ref aGR, .int mgs, .ref aKB, .ref aKP, .ref aIK, .int r38_6.2.2, .int miw])), (aGB, .inl (gJ G, 8, .inr (.inl xgb))), (aGM, .inl (gI G, 8, .inl xgm)), (aGV, .inl (gI G, 96, .inl xgv)), (aGR, .inl (gI G, 8, .inl xgr)), (aKB, .inl (gJ G, 18, .inr (.inl xkb))), (aKP, .inl (gI G, 240, .inl r38_6.2.1))]) rfl dX10_passAll_41 (fun H locs hP hD hS => ?_)
  refine lv_aload_n hx hb dX10_passAll_44 rfl (lv_at hl 0 rfl) ?_
  refine lv_aload_n hx hb dX10_passAll_45 rfl (lv_at hl 0 rfl) ?_
  refine lv_aload_n hx hb dX10_passAll_46 rfl (lv_at hl 0 rfl) ?_
  refine hget hx hb hts hown hE fl_X10_258 hP 0 rfl rfl dX10_passAll_47 ?_
  obtain ⟨r50_8, hr50_8, hF⟩ := bnd hF
  refine hm_V (wn := [(mo, .inr (8, [.long mbd, .int u17_3, .int u29_5, .int u41_7, .ref aMM, .ref aMT, .int mmy, .ref aPD, .int mpm, .long mrd, .int mbm, .int mbw, .long mpl, .ref aST, .ref aPL, .ref aRS, .ref aLA, .ref aBM, .int msm, .ref aRP, .ref aFI, .ref aFM, .ref aGB, .ref aGM, .ref aGV, .ref aGR, .int mgs, .ref aKB, .ref aKP, .ref aIK, .int r50_8.2.2, .int miw])), (aGB, .inl (gJ G, 8, .inr (.inl xgb))), (aGM, .inl (gI G, 8, .inl xgm)), (aGV, .inl (gI G, 96, .inl xgv)), (aGR, .inl (gI G, 8, .inl xgr)), (aKB, .inl (gJ G, 18, .inr (.inl xkb))), (aKP, .inl (gI G, 240, .inl r50_8.2.1))]) (wr := [(aGB, .inl (gJ G, 8, .inr (.inl xgb))), (aGM, .inl (gI G, 8, .inl xgm)), (aGV, .inl (gI G, 96, .inl xgv)), (aGR, .inl (gI G, 8, .inl xgr)), (aKB, .inl (gJ G, 18, .inr (.inl xkb)))]) (rest := [.ref mo]) (sn := [.int r50_8.1, .ref mo]) hx hb hml hown hts hE hA (k_X10_pass G l mo aMM aMT aPD aST aPL aRS aLA aBM aRP aFI aFM aGB aGM aGV aGR aKB aKP aIK mbd u17_3 u29_5 u41_7 mmy mpm mrd mbm mbw mpl msm mgs r38_6.2.2 miw r38_6.2.1 mgs r50_8 hr50_8) sm_X10_pass mw_1089 ⟨rfl, rfl, Nat.le_of_ble_eq_true rfl, Nat.le_of_ble_eq_true rfl⟩ hP hD hS 0 rfl rfl [0, 6] [1, 2, 3, 4, 5] [5, 0, 1, 2, 3, 4, 6] rfl rfl rfl (by decide) hl.1 rfl rfl (Nat.le_of_ble_eq_true rfl) dX10_passAll_50 ⟨Nat.le_of_ble_eq_true rfl, Nat.le_of_ble_eq_true rfl⟩ (fun H locs hP hD hS => ?_)
  refine lv_topi (fun u53_9 eu53_9 => ?_)
  have hF := jl hF eu53_9
  refine hput hx hb hts hown hE fl_X10_258 ft_X10_26 hP hD hS 0 rfl rfl rfl rfl (Nat.le_of_ble_eq_true rfl) (wn := [(mo, .inr (8, [.long mbd, .int u17_3, .int u29_5, .int u41_7, .ref aMM, .ref aMT, .int mmy, .ref aPD, .int mpm, .long mrd, .int mbm, .int mbw, .long mpl, .ref aST, .ref aPL, .ref aRS, .ref aLA, .ref aBM, .int msm, .ref aRP, .ref aFI, .ref aFM, .ref aGB, .ref aGM, .ref aGV, .ref aGR, .int u53_9, .ref aKB, .ref aKP, .ref aIK, .int r50_8.2.2, .int miw])), (aGB, .inl (gJ G, 8, .inr (.inl xgb))), (aGM, .inl (gI G, 8, .inl xgm)), (aGV, .inl (gI G, 96, .inl xgv)), (aGR, .inl (gI G, 8, .inl xgr)), (aKB, .inl (gJ G, 18, .inr (.inl xkb))), (aKP, .inl (gI G, 240, .inl r50_8.2.1))]) rfl dX10_passAll_53 (fun H locs hP hD hS => ?_)
  refine lv_iconst (v := 0) hx hb dX10_passAll_56 (by decide) ?_
  refine lv_istore_n (lv' := [(2, .int 0), (0, .ref mo), (1, .int nn)]) hx hb dX10_passAll_57 rfl hl (by decide) rfl (fun ls hl => ?_)
  have hL58 : ∀ (n58 : Nat) (x2_10 : Int32) (mbd_11 : Int64) (mby_12 : Int32) (mgr_13 : Int32) (mol_14 : Int32) (mgs_15 : Int32) (mka_16 : Int32) (xgb_17 : (Nat → Int64)) (xgm_18 : (Nat → Int32)) (xgv_19 : (Nat → Int32)) (xgr_20 : (Nat → Int32)) (xkb_21 : (Nat → Int64)) (xkp_22 : (Nat → Int32)) (H : Heap) (locs : List Loc) (ls : Array Slot), f_X10_passAll_L58 miw nn n58 x2_10 mbd_11 mby_12 mgr_13 mol_14 mgs_15 mka_16 xgb_17 xgm_18 xgv_19 xgr_20 xkb_21 xkp_22 = some r → va_P (gD G) vwCl [(mo, .inr (8, [.long mbd_11, .int mby_12, .int mgr_13, .int mol_14, .ref aMM, .ref aMT, .int mmy, .ref aPD, .int mpm, .long mrd, .int mbm, .int mbw, .long mpl, .ref aST, .ref aPL, .ref aRS, .ref aLA, .ref aBM, .int msm, .ref aRP, .ref aFI, .ref aFM, .ref aGB, .ref aGM, .ref aGV, .ref aGR, .int mgs_15, .ref aKB, .ref aKP, .ref aIK, .int mka_16, .int miw])), (aGB, .inl (gJ G, 8, .inr (.inl xgb_17))), (aGM, .inl (gI G, 8, .inl xgm_18)), (aGV, .inl (gI G, 96, .inl xgv_19)), (aGR, .inl (gI G, 8, .inl xgr_20)), (aKB, .inl (gJ G, 18, .inr (.inl xkb_21))), (aKP, .inl (gI G, 240, .inl xkp_22))] H → va_D A [(mo, .inr (8, [.long mbd_11, .int mby_12, .int mgr_13, .int mol_14, .ref aMM, .ref aMT, .int mmy, .ref aPD, .int mpm, .long mrd, .int mbm, .int mbw, .long mpl, .ref aST, .ref aPL, .ref aRS, .ref aLA, .ref aBM, .int msm, .ref aRP, .ref aFI, .ref aFM, .ref aGB, .ref aGM, .ref aGV, .ref aGR, .int mgs_15, .ref aKB, .ref aKP, .ref aIK, .int mka_16, .int miw])), (aGB, .inl (gJ G, 8, .inr (.inl xgb_17))), (aGM, .inl (gI G, 8, .inl xgm_18)), (aGV, .inl (gI G, 96, .inl xgv_19)), (aGR, .inl (gI G, 8, .inl xgr_20)), (aKB, .inl (gJ G, 18, .inr (.inl xkb_21))), (aKP, .inl (gI G, 240, .inl xkp_22))] → va_S A s.heap H locs → lv_has ls 4 [(0, .ref mo), (1, .int nn), (2, .int x2_10)] → W p l e rm_X10_passAll s m args below meth c H locs 0 0 (MQ below (HXq G post A) args s 0 0 A) (F0 m 58 ls []) := by
    intro n58
    induction n58 with
    | zero =>
      intro x2_10 mbd_11 mby_12 mgr_13 mol_14 mgs_15 mka_16 xgb_17 xgm_18 xgv_19 xgr_20 xkb_21 xkp_22 H locs ls hF
      exact absurd hF (fun h => by cases h)
    | succ n58 ih58 =>
      intro x2_10 mbd_11 mby_12 mgr_13 mol_14 mgs_15 mka_16 xgb_17 xgm_18 xgv_19 xgr_20 xkb_21 xkp_22 H locs ls hF hP hD hS hl
      unfold f_X10_passAll_L58 at hF
      refine lv_iload_n hx hb dX10_passAll_58 rfl (lv_at hl 2 rfl) ?_
      refine lv_bipush (v := 8) hx hb dX10_passAll_59 (by decide) ?_
      refine lv_icmp_ge (tgt := 149) hx hb dX10_passAll_61 (by decide) (fun c_23 => ?_) (fun c_23 => ?_)
      · have hF := ifp hF c_23
        refine lv_iconst (v := 0) hx hb dX10_passAll_149 (by decide) ?_
        refine lv_istore_n (lv' := [(2, .int 0), (0, .ref mo), (1, .int nn)]) hx hb dX10_passAll_150 rfl hl (by decide) rfl (fun ls hl => ?_)
        have hL151 : ∀ (n151 : Nat) (x2_24 : Int32) (mbd_25 : Int64) (mby_26 : Int32) (mgr_27 : Int32) (mol_28 : Int32) (mgs_29 : Int32) (mka_30 : Int32) (xgb_31 : (Nat → Int64)) (xgm_32 : (Nat → Int32)) (xgv_33 : (Nat → Int32)) (xgr_34 : (Nat → Int32)) (xkb_35 : (Nat → Int64)) (xkp_36 : (Nat → Int32)) (H : Heap) (locs : List Loc) (ls : Array Slot), f_X10_passAll_L151 miw nn n151 x2_24 mbd_25 mby_26 mgr_27 mol_28 mgs_29 mka_30 xgb_31 xgm_32 xgv_33 xgr_34 xkb_35 xkp_36 = some r → va_P (gD G) vwCl [(mo, .inr (8, [.long mbd_25, .int mby_26, .int mgr_27, .int mol_28, .ref aMM, .ref aMT, .int mmy, .ref aPD, .int mpm, .long mrd, .int mbm, .int mbw, .long mpl, .ref aST, .ref aPL, .ref aRS, .ref aLA, .ref aBM, .int msm, .ref aRP, .ref aFI, .ref aFM, .ref aGB, .ref aGM, .ref aGV, .ref aGR, .int mgs_29, .ref aKB, .ref aKP, .ref aIK, .int mka_30, .int miw])), (aGB, .inl (gJ G, 8, .inr (.inl xgb_31))), (aGM, .inl (gI G, 8, .inl xgm_32)), (aGV, .inl (gI G, 96, .inl xgv_33)), (aGR, .inl (gI G, 8, .inl xgr_34)), (aKB, .inl (gJ G, 18, .inr (.inl xkb_35))), (aKP, .inl (gI G, 240, .inl xkp_36))] H → va_D A [(mo, .inr (8, [.long mbd_25, .int mby_26, .int mgr_27, .int mol_28, .ref aMM, .ref aMT, .int mmy, .ref aPD, .int mpm, .long mrd, .int mbm, .int mbw, .long mpl, .ref aST, .ref aPL, .ref aRS, .ref aLA, .ref aBM, .int msm, .ref aRP, .ref aFI, .ref aFM, .ref aGB, .ref aGM, .ref aGV, .ref aGR, .int mgs_29, .ref aKB, .ref aKP, .ref aIK, .int mka_30, .int miw])), (aGB, .inl (gJ G, 8, .inr (.inl xgb_31))), (aGM, .inl (gI G, 8, .inl xgm_32)), (aGV, .inl (gI G, 96, .inl xgv_33)), (aGR, .inl (gI G, 8, .inl xgr_34)), (aKB, .inl (gJ G, 18, .inr (.inl xkb_35))), (aKP, .inl (gI G, 240, .inl xkp_36))] → va_S A s.heap H locs → lv_has ls 4 [(0, .ref mo), (1, .int nn), (2, .int x2_24)] → W p l e rm_X10_passAll s m args below meth c H locs 0 0 (MQ below (HXq G post A) args s 0 0 A) (F0 m 151 ls []) := by
          intro n151
          induction n151 with
          | zero =>
            intro x2_24 mbd_25 mby_26 mgr_27 mol_28 mgs_29 mka_30 xgb_31 xgm_32 xgv_33 xgr_34 xkb_35 xkp_36 H locs ls hF
            exact absurd hF (fun h => by cases h)
          | succ n151 ih151 =>
            intro x2_24 mbd_25 mby_26 mgr_27 mol_28 mgs_29 mka_30 xgb_31 xgm_32 xgv_33 xgr_34 xkb_35 xkp_36 H locs ls hF hP hD hS hl
            unfold f_X10_passAll_L151 at hF
            refine lv_iload_n hx hb dX10_passAll_151 rfl (lv_at hl 2 rfl) ?_
            refine lv_bipush (v := 96) hx hb dX10_passAll_152 (by decide) ?_
            refine lv_icmp_ge (tgt := 179) hx hb dX10_passAll_154 (by decide) (fun c_37 => ?_) (fun c_37 => ?_)
            · have hF := ifp hF c_37
              refine lv_bipush (v := 9) hx hb dX10_passAll_179 (by decide) ?_
              refine lv_iload_n hx hb dX10_passAll_181 rfl (lv_at hl 1 rfl) ?_
              refine lv_imul hx hb dX10_passAll_182 ?_
              refine lv_bipush (v := 8) hx hb dX10_passAll_183 (by decide) ?_
              refine lv_iadd hx hb dX10_passAll_185 ?_
              refine lv_topi (fun v2_38 ev2_38 => ?_)
              have hF := jl hF ev2_38
              refine lv_istore_n (lv' := [(2, .int v2_38), (0, .ref mo), (1, .int nn)]) hx hb dX10_passAll_186 rfl hl (by decide) rfl (fun ls hl => ?_)
              refine lv_aload_n hx hb dX10_passAll_187 rfl (lv_at hl 1 rfl) ?_
              refine hget hx hb hts hown hE fl_X10_57 hP 0 rfl rfl dX10_passAll_188 ?_
              refine lv_iload_n hx hb dX10_passAll_191 rfl (lv_at hl 0 rfl) ?_
              refine lv_aload_n hx hb dX10_passAll_192 rfl (lv_at hl 1 rfl) ?_
              refine hget hx hb hts hown hE fl_X10_290 hP 0 rfl rfl dX10_passAll_193 ?_
              have hB212 : ∀ (t2_39 : Int64) (H : Heap) (locs : List Loc) (ls : Array Slot), f_X10_passAll_B212 mby_26 mgr_27 mol_28 mgs_29 mka_30 xgb_31 xgm_32 xgv_33 xgr_34 xkb_35 xkp_36 v2_38 t2_39 = some r → va_P (gD G) vwCl [(mo, .inr (8, [.long mbd_25, .int mby_26, .int mgr_27, .int mol_28, .ref aMM, .ref aMT, .int mmy, .ref aPD, .int mpm, .long mrd, .int mbm, .int mbw, .long mpl, .ref aST, .ref aPL, .ref aRS, .ref aLA, .ref aBM, .int msm, .ref aRP, .ref aFI, .ref aFM, .ref aGB, .ref aGM, .ref aGV, .ref aGR, .int mgs_29, .ref aKB, .ref aKP, .ref aIK, .int mka_30, .int miw])), (aGB, .inl (gJ G, 8, .inr (.inl xgb_31))), (aGM, .inl (gI G, 8, .inl xgm_32)), (aGV, .inl (gI G, 96, .inl xgv_33)), (aGR, .inl (gI G, 8, .inl xgr_34)), (aKB, .inl (gJ G, 18, .inr (.inl xkb_35))), (aKP, .inl (gI G, 240, .inl xkp_36))] H → va_D A [(mo, .inr (8, [.long mbd_25, .int mby_26, .int mgr_27, .int mol_28, .ref aMM, .ref aMT, .int mmy, .ref aPD, .int mpm, .long mrd, .int mbm, .int mbw, .long mpl, .ref aST, .ref aPL, .ref aRS, .ref aLA, .ref aBM, .int msm, .ref aRP, .ref aFI, .ref aFM, .ref aGB, .ref aGM, .ref aGV, .ref aGR, .int mgs_29, .ref aKB, .ref aKP, .ref aIK, .int mka_30, .int miw])), (aGB, .inl (gJ G, 8, .inr (.inl xgb_31))), (aGM, .inl (gI G, 8, .inl xgm_32)), (aGV, .inl (gI G, 96, .inl xgv_33)), (aGR, .inl (gI G, 8, .inl xgr_34)), (aKB, .inl (gJ G, 18, .inr (.inl xkb_35))), (aKP, .inl (gI G, 240, .inl xkp_36))] → va_S A s.heap H locs → lv_has ls 4 [(0, .ref mo), (2, .int v2_38)] → W p l e rm_X10_passAll s m args below meth c H locs 0 0 (MQ below (HXq G post A) args s 0 0 A) (F0 m 212 ls [.long t2_39, .int v2_38, .ref aKB]) := by
                intro t2_39 H locs ls hF hP hD hS hl
                unfold f_X10_passAll_B212 at hF
                obtain ⟨hi_40, hF⟩ := inb hF
                obtain ⟨a212_41, ea212_41⟩ : ∃ z : (Nat → Int64), z = vp_updL xkb_35 (v2_38).toNatClampNeg t2_39 := ⟨_, rfl⟩
                have hF := jl hF ea212_41
                refine hlast hx hb hE hP hD hS 5 rfl hi_40 (wn := [(mo, .inr (8, [.long mbd_25, .int mby_26, .int mgr_27, .int mol_28, .ref aMM, .ref aMT, .int mmy, .ref aPD, .int mpm, .long mrd, .int mbm, .int mbw, .long mpl, .ref aST, .ref aPL, .ref aRS, .ref aLA, .ref aBM, .int msm, .ref aRP, .ref aFI, .ref aFM, .ref aGB, .ref aGM, .ref aGV, .ref aGR, .int mgs_29, .ref aKB, .ref aKP, .ref aIK, .int mka_30, .int miw])), (aGB, .inl (gJ G, 8, .inr (.inl xgb_31))), (aGM, .inl (gI G, 8, .inl xgm_32)), (aGV, .inl (gI G, 96, .inl xgv_33)), (aGR, .inl (gI G, 8, .inl xgr_34)), (aKB, .inl (gJ G, 18, .inr (.inl a212_41))), (aKP, .inl (gI G, 240, .inl xkp_36))]) (by rw [ea212_41]; rfl) dX10_passAll_212 (fun H locs hP hD hS => ?_)
                refine lv_aload_n hx hb dX10_passAll_213 rfl (lv_at hl 0 rfl) ?_
                refine lv_aload_n hx hb dX10_passAll_214 rfl (lv_at hl 0 rfl) ?_
                refine hget hx hb hts hown hE fl_X10_57 hP 0 rfl rfl dX10_passAll_215 ?_
                refine lv_iload_n hx hb dX10_passAll_218 rfl (lv_at hl 1 rfl) ?_
                obtain ⟨hi_42, hF⟩ := inb hF
                refine hlald hx hb hE hP 5 rfl hi_42 dX10_passAll_219 ?_
                refine lv_topl (fun u220_43 eu220_43 => ?_)
                have hF := jl hF eu220_43
                refine hput hx hb hts hown hE fl_X10_69 ft_X10_0 hP hD hS 0 rfl rfl rfl rfl (Nat.le_of_ble_eq_true rfl) (wn := [(mo, .inr (8, [.long u220_43, .int mby_26, .int mgr_27, .int mol_28, .ref aMM, .ref aMT, .int mmy, .ref aPD, .int mpm, .long mrd, .int mbm, .int mbw, .long mpl, .ref aST, .ref aPL, .ref aRS, .ref aLA, .ref aBM, .int msm, .ref aRP, .ref aFI, .ref aFM, .ref aGB, .ref aGM, .ref aGV, .ref aGR, .int mgs_29, .ref aKB, .ref aKP, .ref aIK, .int mka_30, .int miw])), (aGB, .inl (gJ G, 8, .inr (.inl xgb_31))), (aGM, .inl (gI G, 8, .inl xgm_32)), (aGV, .inl (gI G, 96, .inl xgv_33)), (aGR, .inl (gI G, 8, .inl xgr_34)), (aKB, .inl (gJ G, 18, .inr (.inl a212_41))), (aKP, .inl (gI G, 240, .inl xkp_36))]) rfl dX10_passAll_220 (fun H locs hP hD hS => ?_)
                have hF := Option.some.inj hF
                subst hF
                exact hm_vret hx hb hr hlk hP hD hS hpost dX10_passAll_223
              refine lv_if_eq (tgt := 206) hx hb dX10_passAll_196 (by decide) (fun c_44 => ?_) (fun c_44 => ?_)
              · have hF := ifp hF c_44
                refine lv_aload_n hx hb dX10_passAll_206 rfl (lv_at hl 1 rfl) ?_
                refine hget hx hb hts hown hE fl_X10_57 hP 0 rfl rfl dX10_passAll_207 ?_
                refine lv_iload_n hx hb dX10_passAll_210 rfl (lv_at hl 0 rfl) ?_
                obtain ⟨hi_45, hF⟩ := inb hF
                refine hlald hx hb hE hP 5 rfl hi_45 dX10_passAll_211 ?_
                exact hB212 (xkb_35 (v2_38).toNatClampNeg) _ _ _ hF hP hD hS (lv_sub hl [1, 0] rfl)
              · have hF := ifn hF c_44
                refine lv_aload_n hx hb dX10_passAll_199 rfl (lv_at hl 1 rfl) ?_
                refine hget hx hb hts hown hE fl_X10_69 hP 0 rfl rfl dX10_passAll_200 ?_
                refine lv_goto (tgt := 212) hx hb dX10_passAll_203 (by decide) ?_
                exact hB212 mbd_25 _ _ _ hF hP hD hS (lv_sub hl [1, 0] rfl)
            · have hF := ifn hF c_37
              refine lv_aload_n hx hb dX10_passAll_157 rfl (lv_at hl 0 rfl) ?_
              refine hget hx hb hts hown hE fl_X10_51 hP 0 rfl rfl dX10_passAll_158 ?_
              refine lv_iload_n hx hb dX10_passAll_161 rfl (lv_at hl 2 rfl) ?_
              refine lv_aload_n hx hb dX10_passAll_162 rfl (lv_at hl 0 rfl) ?_
              refine lv_aload_n hx hb dX10_passAll_163 rfl (lv_at hl 0 rfl) ?_
              refine hget hx hb hts hown hE fl_X10_51 hP 0 rfl rfl dX10_passAll_164 ?_
              refine lv_iload_n hx hb dX10_passAll_167 rfl (lv_at hl 2 rfl) ?_
              obtain ⟨hi_46, hF⟩ := inb hF
              refine hiald hx hb hE hP 3 rfl hi_46 dX10_passAll_168 ?_
              obtain ⟨r169_47, hr169_47, hF⟩ := bnd hF
              refine hm_V (wn := [(mo, .inr (8, [.long mbd_25, .int mby_26, .int mgr_27, .int mol_28, .ref aMM, .ref aMT, .int mmy, .ref aPD, .int mpm, .long mrd, .int mbm, .int mbw, .long mpl, .ref aST, .ref aPL, .ref aRS, .ref aLA, .ref aBM, .int msm, .ref aRP, .ref aFI, .ref aFM, .ref aGB, .ref aGM, .ref aGV, .ref aGR, .int mgs_29, .ref aKB, .ref aKP, .ref aIK, .int r169_47.2.2, .int miw])), (aGB, .inl (gJ G, 8, .inr (.inl xgb_31))), (aGM, .inl (gI G, 8, .inl xgm_32)), (aGV, .inl (gI G, 96, .inl xgv_33)), (aGR, .inl (gI G, 8, .inl xgr_34)), (aKB, .inl (gJ G, 18, .inr (.inl xkb_35))), (aKP, .inl (gI G, 240, .inl r169_47.2.1))]) (wr := [(aGB, .inl (gJ G, 8, .inr (.inl xgb_31))), (aGM, .inl (gI G, 8, .inl xgm_32)), (aGV, .inl (gI G, 96, .inl xgv_33)), (aGR, .inl (gI G, 8, .inl xgr_34)), (aKB, .inl (gJ G, 18, .inr (.inl xkb_35)))]) (rest := [.int x2_24, .ref aGV]) (sn := [.int r169_47.1, .int x2_24, .ref aGV]) hx hb hml hown hts hE hA (k_X10_pass G l mo aMM aMT aPD aST aPL aRS aLA aBM aRP aFI aFM aGB aGM aGV aGR aKB aKP aIK mbd_25 mby_26 mgr_27 mol_28 mmy mpm mrd mbm mbw mpl msm mgs_29 mka_30 miw xkp_36 (xgv_33 (x2_24).toNatClampNeg) r169_47 hr169_47) sm_X10_pass mw_1089 ⟨rfl, rfl, Nat.le_of_ble_eq_true rfl, Nat.le_of_ble_eq_true rfl⟩ hP hD hS 0 rfl rfl [0, 6] [1, 2, 3, 4, 5] [5, 0, 1, 2, 3, 4, 6] rfl rfl rfl (by decide) hl.1 rfl rfl (Nat.le_of_ble_eq_true rfl) dX10_passAll_169 ⟨Nat.le_of_ble_eq_true rfl, Nat.le_of_ble_eq_true rfl⟩ (fun H locs hP hD hS => ?_)
              obtain ⟨hi_48, hF⟩ := inb hF
              obtain ⟨a172_49, ea172_49⟩ : ∃ z : (Nat → Int32), z = upd xgv_33 (x2_24).toNatClampNeg r169_47.1 := ⟨_, rfl⟩
              have hF := jl hF ea172_49
              refine hiast hx hb hE hP hD hS 3 rfl hi_48 (wn := [(mo, .inr (8, [.long mbd_25, .int mby_26, .int mgr_27, .int mol_28, .ref aMM, .ref aMT, .int mmy, .ref aPD, .int mpm, .long mrd, .int mbm, .int mbw, .long mpl, .ref aST, .ref aPL, .ref aRS, .ref aLA, .ref aBM, .int msm, .ref aRP, .ref aFI, .ref aFM, .ref aGB, .ref aGM, .ref aGV, .ref aGR, .int mgs_29, .ref aKB, .ref aKP, .ref aIK, .int r169_47.2.2, .int miw])), (aGB, .inl (gJ G, 8, .inr (.inl xgb_31))), (aGM, .inl (gI G, 8, .inl xgm_32)), (aGV, .inl (gI G, 96, .inl a172_49)), (aGR, .inl (gI G, 8, .inl xgr_34)), (aKB, .inl (gJ G, 18, .inr (.inl xkb_35))), (aKP, .inl (gI G, 240, .inl r169_47.2.1))]) (by rw [ea172_49]; rfl) dX10_passAll_172 (fun H locs hP hD hS => ?_)
              obtain ⟨v2_50, ev2_50⟩ : ∃ z : Int32, z = x2_24 + 1 := ⟨_, rfl⟩
              have hF := jl hF ev2_50
              refine lv_iinc (v := v2_50) (lv' := [(2, .int v2_50), (0, .ref mo), (1, .int nn)]) hx hb dX10_passAll_173 hl (k := 2) rfl (by rw [ev2_50]; rfl) (by decide) rfl (fun ls hl => ?_)
              refine lv_goto (tgt := 151) hx hb dX10_passAll_176 (by decide) ?_
              exact ih151 v2_50 mbd_25 mby_26 mgr_27 mol_28 mgs_29 r169_47.2.2 xgb_31 xgm_32 a172_49 xgr_34 xkb_35 r169_47.2.1 _ _ _ hF hP hD hS (lv_sub hl [1, 2, 0] rfl)
        exact hL151 _ 0 mbd_11 mby_12 mgr_13 mol_14 mgs_15 mka_16 xgb_17 xgm_18 xgv_19 xgr_20 xkb_21 xkp_22 _ _ _ hF hP hD hS (lv_sub hl [1, 2, 0] rfl)
      · have hF := ifn hF c_23
        refine lv_aload_n hx hb dX10_passAll_64 rfl (lv_at hl 0 rfl) ?_
        refine hget hx hb hts hown hE fl_X10_48 hP 0 rfl rfl dX10_passAll_65 ?_
        refine lv_iload_n hx hb dX10_passAll_68 rfl (lv_at hl 2 rfl) ?_
        refine lv_aload_n hx hb dX10_passAll_69 rfl (lv_at hl 0 rfl) ?_
        refine lv_aload_n hx hb dX10_passAll_70 rfl (lv_at hl 0 rfl) ?_
        refine hget hx hb hts hown hE fl_X10_48 hP 0 rfl rfl dX10_passAll_71 ?_
        refine lv_iload_n hx hb dX10_passAll_74 rfl (lv_at hl 2 rfl) ?_
        obtain ⟨hi_51, hF⟩ := inb hF
        refine hiald hx hb hE hP 2 rfl hi_51 dX10_passAll_75 ?_
        obtain ⟨r76_52, hr76_52, hF⟩ := bnd hF
        refine hm_V (wn := [(mo, .inr (8, [.long mbd_11, .int mby_12, .int mgr_13, .int mol_14, .ref aMM, .ref aMT, .int mmy, .ref aPD, .int mpm, .long mrd, .int mbm, .int mbw, .long mpl, .ref aST, .ref aPL, .ref aRS, .ref aLA, .ref aBM, .int msm, .ref aRP, .ref aFI, .ref aFM, .ref aGB, .ref aGM, .ref aGV, .ref aGR, .int mgs_15, .ref aKB, .ref aKP, .ref aIK, .int r76_52.2.2, .int miw])), (aGB, .inl (gJ G, 8, .inr (.inl xgb_17))), (aGM, .inl (gI G, 8, .inl xgm_18)), (aGV, .inl (gI G, 96, .inl xgv_19)), (aGR, .inl (gI G, 8, .inl xgr_20)), (aKB, .inl (gJ G, 18, .inr (.inl xkb_21))), (aKP, .inl (gI G, 240, .inl r76_52.2.1))]) (wr := [(aGB, .inl (gJ G, 8, .inr (.inl xgb_17))), (aGM, .inl (gI G, 8, .inl xgm_18)), (aGV, .inl (gI G, 96, .inl xgv_19)), (aGR, .inl (gI G, 8, .inl xgr_20)), (aKB, .inl (gJ G, 18, .inr (.inl xkb_21)))]) (rest := [.int x2_10, .ref aGM]) (sn := [.int r76_52.1, .int x2_10, .ref aGM]) hx hb hml hown hts hE hA (k_X10_pass G l mo aMM aMT aPD aST aPL aRS aLA aBM aRP aFI aFM aGB aGM aGV aGR aKB aKP aIK mbd_11 mby_12 mgr_13 mol_14 mmy mpm mrd mbm mbw mpl msm mgs_15 mka_16 miw xkp_22 (xgm_18 (x2_10).toNatClampNeg) r76_52 hr76_52) sm_X10_pass mw_1089 ⟨rfl, rfl, Nat.le_of_ble_eq_true rfl, Nat.le_of_ble_eq_true rfl⟩ hP hD hS 0 rfl rfl [0, 6] [1, 2, 3, 4, 5] [5, 0, 1, 2, 3, 4, 6] rfl rfl rfl (by decide) hl.1 rfl rfl (Nat.le_of_ble_eq_true rfl) dX10_passAll_76 ⟨Nat.le_of_ble_eq_true rfl, Nat.le_of_ble_eq_true rfl⟩ (fun H locs hP hD hS => ?_)
        obtain ⟨hi_53, hF⟩ := inb hF
        obtain ⟨a79_54, ea79_54⟩ : ∃ z : (Nat → Int32), z = upd xgm_18 (x2_10).toNatClampNeg r76_52.1 := ⟨_, rfl⟩
        have hF := jl hF ea79_54
        refine hiast hx hb hE hP hD hS 2 rfl hi_53 (wn := [(mo, .inr (8, [.long mbd_11, .int mby_12, .int mgr_13, .int mol_14, .ref aMM, .ref aMT, .int mmy, .ref aPD, .int mpm, .long mrd, .int mbm, .int mbw, .long mpl, .ref aST, .ref aPL, .ref aRS, .ref aLA, .ref aBM, .int msm, .ref aRP, .ref aFI, .ref aFM, .ref aGB, .ref aGM, .ref aGV, .ref aGR, .int mgs_15, .ref aKB, .ref aKP, .ref aIK, .int r76_52.2.2, .int miw])), (aGB, .inl (gJ G, 8, .inr (.inl xgb_17))), (aGM, .inl (gI G, 8, .inl a79_54)), (aGV, .inl (gI G, 96, .inl xgv_19)), (aGR, .inl (gI G, 8, .inl xgr_20)), (aKB, .inl (gJ G, 18, .inr (.inl xkb_21))), (aKP, .inl (gI G, 240, .inl r76_52.2.1))]) (by rw [ea79_54]; rfl) dX10_passAll_79 (fun H locs hP hD hS => ?_)
        refine lv_aload_n hx hb dX10_passAll_80 rfl (lv_at hl 0 rfl) ?_
        refine hget hx hb hts hown hE fl_X10_54 hP 0 rfl rfl dX10_passAll_81 ?_
        refine lv_iload_n hx hb dX10_passAll_84 rfl (lv_at hl 2 rfl) ?_
        refine lv_aload_n hx hb dX10_passAll_85 rfl (lv_at hl 0 rfl) ?_
        refine lv_aload_n hx hb dX10_passAll_86 rfl (lv_at hl 0 rfl) ?_
        refine hget hx hb hts hown hE fl_X10_54 hP 0 rfl rfl dX10_passAll_87 ?_
        refine lv_iload_n hx hb dX10_passAll_90 rfl (lv_at hl 2 rfl) ?_
        obtain ⟨hi_55, hF⟩ := inb hF
        refine hiald hx hb hE hP 4 rfl hi_55 dX10_passAll_91 ?_
        obtain ⟨r92_56, hr92_56, hF⟩ := bnd hF
        refine hm_V (wn := [(mo, .inr (8, [.long mbd_11, .int mby_12, .int mgr_13, .int mol_14, .ref aMM, .ref aMT, .int mmy, .ref aPD, .int mpm, .long mrd, .int mbm, .int mbw, .long mpl, .ref aST, .ref aPL, .ref aRS, .ref aLA, .ref aBM, .int msm, .ref aRP, .ref aFI, .ref aFM, .ref aGB, .ref aGM, .ref aGV, .ref aGR, .int mgs_15, .ref aKB, .ref aKP, .ref aIK, .int r92_56.2.2, .int miw])), (aGB, .inl (gJ G, 8, .inr (.inl xgb_17))), (aGM, .inl (gI G, 8, .inl a79_54)), (aGV, .inl (gI G, 96, .inl xgv_19)), (aGR, .inl (gI G, 8, .inl xgr_20)), (aKB, .inl (gJ G, 18, .inr (.inl xkb_21))), (aKP, .inl (gI G, 240, .inl r92_56.2.1))]) (wr := [(aGB, .inl (gJ G, 8, .inr (.inl xgb_17))), (aGM, .inl (gI G, 8, .inl a79_54)), (aGV, .inl (gI G, 96, .inl xgv_19)), (aGR, .inl (gI G, 8, .inl xgr_20)), (aKB, .inl (gJ G, 18, .inr (.inl xkb_21)))]) (rest := [.int x2_10, .ref aGR]) (sn := [.int r92_56.1, .int x2_10, .ref aGR]) hx hb hml hown hts hE hA (k_X10_pass G l mo aMM aMT aPD aST aPL aRS aLA aBM aRP aFI aFM aGB aGM aGV aGR aKB aKP aIK mbd_11 mby_12 mgr_13 mol_14 mmy mpm mrd mbm mbw mpl msm mgs_15 r76_52.2.2 miw r76_52.2.1 (xgr_20 (x2_10).toNatClampNeg) r92_56 hr92_56) sm_X10_pass mw_1089 ⟨rfl, rfl, Nat.le_of_ble_eq_true rfl, Nat.le_of_ble_eq_true rfl⟩ hP hD hS 0 rfl rfl [0, 6] [1, 2, 3, 4, 5] [5, 0, 1, 2, 3, 4, 6] rfl rfl rfl (by decide) hl.1 rfl rfl (Nat.le_of_ble_eq_true rfl) dX10_passAll_92 ⟨Nat.le_of_ble_eq_true rfl, Nat.le_of_ble_eq_true rfl⟩ (fun H locs hP hD hS => ?_)
        obtain ⟨hi_57, hF⟩ := inb hF
        obtain ⟨a95_58, ea95_58⟩ : ∃ z : (Nat → Int32), z = upd xgr_20 (x2_10).toNatClampNeg r92_56.1 := ⟨_, rfl⟩
        have hF := jl hF ea95_58
        refine hiast hx hb hE hP hD hS 4 rfl hi_57 (wn := [(mo, .inr (8, [.long mbd_11, .int mby_12, .int mgr_13, .int mol_14, .ref aMM, .ref aMT, .int mmy, .ref aPD, .int mpm, .long mrd, .int mbm, .int mbw, .long mpl, .ref aST, .ref aPL, .ref aRS, .ref aLA, .ref aBM, .int msm, .ref aRP, .ref aFI, .ref aFM, .ref aGB, .ref aGM, .ref aGV, .ref aGR, .int mgs_15, .ref aKB, .ref aKP, .ref aIK, .int r92_56.2.2, .int miw])), (aGB, .inl (gJ G, 8, .inr (.inl xgb_17))), (aGM, .inl (gI G, 8, .inl a79_54)), (aGV, .inl (gI G, 96, .inl xgv_19)), (aGR, .inl (gI G, 8, .inl a95_58)), (aKB, .inl (gJ G, 18, .inr (.inl xkb_21))), (aKP, .inl (gI G, 240, .inl r92_56.2.1))]) (by rw [ea95_58]; rfl) dX10_passAll_95 (fun H locs hP hD hS => ?_)
        refine lv_bipush (v := 9) hx hb dX10_passAll_96 (by decide) ?_
        refine lv_iload_n hx hb dX10_passAll_98 rfl (lv_at hl 1 rfl) ?_
        refine lv_imul hx hb dX10_passAll_99 ?_
        refine lv_iload_n hx hb dX10_passAll_100 rfl (lv_at hl 2 rfl) ?_
        refine lv_iadd hx hb dX10_passAll_101 ?_
        refine lv_topi (fun v3_59 ev3_59 => ?_)
        have hF := jl hF ev3_59
        refine lv_istore_n (lv' := [(3, .int v3_59), (0, .ref mo), (1, .int nn), (2, .int x2_10)]) hx hb dX10_passAll_102 rfl hl (by decide) rfl (fun ls hl => ?_)
        refine lv_aload_n hx hb dX10_passAll_103 rfl (lv_at hl 1 rfl) ?_
        refine hget hx hb hts hown hE fl_X10_57 hP 0 rfl rfl dX10_passAll_104 ?_
        refine lv_iload_n hx hb dX10_passAll_107 rfl (lv_at hl 0 rfl) ?_
        refine lv_aload_n hx hb dX10_passAll_108 rfl (lv_at hl 1 rfl) ?_
        refine hget hx hb hts hown hE fl_X10_290 hP 0 rfl rfl dX10_passAll_109 ?_
        have hB130 : ∀ (t2_60 : Int64) (H : Heap) (locs : List Loc) (ls : Array Slot), f_X10_passAll_B130 (f_X10_passAll_L58 miw nn n58) x2_10 mbd_11 mby_12 mgr_13 mol_14 mgs_15 xgb_17 xgv_19 xkb_21 a79_54 r92_56 a95_58 v3_59 t2_60 = some r → va_P (gD G) vwCl [(mo, .inr (8, [.long mbd_11, .int mby_12, .int mgr_13, .int mol_14, .ref aMM, .ref aMT, .int mmy, .ref aPD, .int mpm, .long mrd, .int mbm, .int mbw, .long mpl, .ref aST, .ref aPL, .ref aRS, .ref aLA, .ref aBM, .int msm, .ref aRP, .ref aFI, .ref aFM, .ref aGB, .ref aGM, .ref aGV, .ref aGR, .int mgs_15, .ref aKB, .ref aKP, .ref aIK, .int r92_56.2.2, .int miw])), (aGB, .inl (gJ G, 8, .inr (.inl xgb_17))), (aGM, .inl (gI G, 8, .inl a79_54)), (aGV, .inl (gI G, 96, .inl xgv_19)), (aGR, .inl (gI G, 8, .inl a95_58)), (aKB, .inl (gJ G, 18, .inr (.inl xkb_21))), (aKP, .inl (gI G, 240, .inl r92_56.2.1))] H → va_D A [(mo, .inr (8, [.long mbd_11, .int mby_12, .int mgr_13, .int mol_14, .ref aMM, .ref aMT, .int mmy, .ref aPD, .int mpm, .long mrd, .int mbm, .int mbw, .long mpl, .ref aST, .ref aPL, .ref aRS, .ref aLA, .ref aBM, .int msm, .ref aRP, .ref aFI, .ref aFM, .ref aGB, .ref aGM, .ref aGV, .ref aGR, .int mgs_15, .ref aKB, .ref aKP, .ref aIK, .int r92_56.2.2, .int miw])), (aGB, .inl (gJ G, 8, .inr (.inl xgb_17))), (aGM, .inl (gI G, 8, .inl a79_54)), (aGV, .inl (gI G, 96, .inl xgv_19)), (aGR, .inl (gI G, 8, .inl a95_58)), (aKB, .inl (gJ G, 18, .inr (.inl xkb_21))), (aKP, .inl (gI G, 240, .inl r92_56.2.1))] → va_S A s.heap H locs → lv_has ls 4 [(0, .ref mo), (1, .int nn), (2, .int x2_10), (3, .int v3_59)] → W p l e rm_X10_passAll s m args below meth c H locs 0 0 (MQ below (HXq G post A) args s 0 0 A) (F0 m 130 ls [.long t2_60, .int v3_59, .ref aKB]) := by
          intro t2_60 H locs ls hF hP hD hS hl
          unfold f_X10_passAll_B130 at hF
          obtain ⟨hi_61, hF⟩ := inb hF
          obtain ⟨a130_62, ea130_62⟩ : ∃ z : (Nat → Int64), z = vp_updL xkb_21 (v3_59).toNatClampNeg t2_60 := ⟨_, rfl⟩
          have hF := jl hF ea130_62
          refine hlast hx hb hE hP hD hS 5 rfl hi_61 (wn := [(mo, .inr (8, [.long mbd_11, .int mby_12, .int mgr_13, .int mol_14, .ref aMM, .ref aMT, .int mmy, .ref aPD, .int mpm, .long mrd, .int mbm, .int mbw, .long mpl, .ref aST, .ref aPL, .ref aRS, .ref aLA, .ref aBM, .int msm, .ref aRP, .ref aFI, .ref aFM, .ref aGB, .ref aGM, .ref aGV, .ref aGR, .int mgs_15, .ref aKB, .ref aKP, .ref aIK, .int r92_56.2.2, .int miw])), (aGB, .inl (gJ G, 8, .inr (.inl xgb_17))), (aGM, .inl (gI G, 8, .inl a79_54)), (aGV, .inl (gI G, 96, .inl xgv_19)), (aGR, .inl (gI G, 8, .inl a95_58)), (aKB, .inl (gJ G, 18, .inr (.inl a130_62))), (aKP, .inl (gI G, 240, .inl r92_56.2.1))]) (by rw [ea130_62]; rfl) dX10_passAll_130 (fun H locs hP hD hS => ?_)
          refine lv_aload_n hx hb dX10_passAll_131 rfl (lv_at hl 0 rfl) ?_
          refine hget hx hb hts hown hE fl_X10_45 hP 0 rfl rfl dX10_passAll_132 ?_
          refine lv_iload_n hx hb dX10_passAll_135 rfl (lv_at hl 2 rfl) ?_
          refine lv_aload_n hx hb dX10_passAll_136 rfl (lv_at hl 0 rfl) ?_
          refine hget hx hb hts hown hE fl_X10_57 hP 0 rfl rfl dX10_passAll_137 ?_
          refine lv_iload_n hx hb dX10_passAll_140 rfl (lv_at hl 3 rfl) ?_
          obtain ⟨hi_63, hF⟩ := inb hF
          refine hlald hx hb hE hP 5 rfl hi_63 dX10_passAll_141 ?_
          obtain ⟨hi_64, hF⟩ := inb hF
          obtain ⟨a142_65, ea142_65⟩ : ∃ z : (Nat → Int64), z = vp_updL xgb_17 (x2_10).toNatClampNeg (a130_62 (v3_59).toNatClampNeg) := ⟨_, rfl⟩
          have hF := jl hF ea142_65
          refine hlast hx hb hE hP hD hS 1 rfl hi_64 (wn := [(mo, .inr (8, [.long mbd_11, .int mby_12, .int mgr_13, .int mol_14, .ref aMM, .ref aMT, .int mmy, .ref aPD, .int mpm, .long mrd, .int mbm, .int mbw, .long mpl, .ref aST, .ref aPL, .ref aRS, .ref aLA, .ref aBM, .int msm, .ref aRP, .ref aFI, .ref aFM, .ref aGB, .ref aGM, .ref aGV, .ref aGR, .int mgs_15, .ref aKB, .ref aKP, .ref aIK, .int r92_56.2.2, .int miw])), (aGB, .inl (gJ G, 8, .inr (.inl a142_65))), (aGM, .inl (gI G, 8, .inl a79_54)), (aGV, .inl (gI G, 96, .inl xgv_19)), (aGR, .inl (gI G, 8, .inl a95_58)), (aKB, .inl (gJ G, 18, .inr (.inl a130_62))), (aKP, .inl (gI G, 240, .inl r92_56.2.1))]) (by rw [ea142_65]; rfl) dX10_passAll_142 (fun H locs hP hD hS => ?_)
          obtain ⟨v2_66, ev2_66⟩ : ∃ z : Int32, z = x2_10 + 1 := ⟨_, rfl⟩
          have hF := jl hF ev2_66
          refine lv_iinc (v := v2_66) (lv' := [(2, .int v2_66), (0, .ref mo), (1, .int nn), (3, .int v3_59)]) hx hb dX10_passAll_143 hl (k := 2) rfl (by rw [ev2_66]; rfl) (by decide) rfl (fun ls hl => ?_)
          refine lv_goto (tgt := 58) hx hb dX10_passAll_146 (by decide) ?_
          exact ih58 v2_66 mbd_11 mby_12 mgr_13 mol_14 mgs_15 r92_56.2.2 a142_65 a79_54 xgv_19 a95_58 a130_62 r92_56.2.1 _ _ _ hF hP hD hS (lv_sub hl [1, 2, 0] rfl)
        refine lv_if_eq (tgt := 124) hx hb dX10_passAll_112 (by decide) (fun c_67 => ?_) (fun c_67 => ?_)
        · have hF := ifp hF c_67
          refine lv_aload_n hx hb dX10_passAll_124 rfl (lv_at hl 1 rfl) ?_
          refine hget hx hb hts hown hE fl_X10_57 hP 0 rfl rfl dX10_passAll_125 ?_
          refine lv_iload_n hx hb dX10_passAll_128 rfl (lv_at hl 0 rfl) ?_
          obtain ⟨hi_68, hF⟩ := inb hF
          refine hlald hx hb hE hP 5 rfl hi_68 dX10_passAll_129 ?_
          exact hB130 (xkb_21 (v3_59).toNatClampNeg) _ _ _ hF hP hD hS (lv_sub hl [1, 2, 3, 0] rfl)
        · have hF := ifn hF c_67
          refine lv_aload_n hx hb dX10_passAll_115 rfl (lv_at hl 1 rfl) ?_
          refine hget hx hb hts hown hE fl_X10_45 hP 0 rfl rfl dX10_passAll_116 ?_
          refine lv_iload_n hx hb dX10_passAll_119 rfl (lv_at hl 3 rfl) ?_
          obtain ⟨hi_69, hF⟩ := inb hF
          refine hlald hx hb hE hP 1 rfl hi_69 dX10_passAll_120 ?_
          refine lv_goto (tgt := 130) hx hb dX10_passAll_121 (by decide) ?_
          exact hB130 (xgb_17 (x2_10).toNatClampNeg) _ _ _ hF hP hD hS (lv_sub hl [1, 2, 3, 0] rfl)
  exact hL58 _ 0 mbd u17_3 u29_5 u41_7 u53_9 r50_8.2.2 xgb xgm xgv xgr xkb r50_8.2.1 _ _ _ hF hP hD hS (lv_sub hl [1, 2, 0] rfl)
def f_X10_image (mbd : Int64) (mby : Int32) (mgr : Int32) (mol : Int32) (mgs : Int32) (mka : Int32) (miw : Int32) (xgb : (Nat → Int64)) (xgm : (Nat → Int32)) (xgv : (Nat → Int32)) (xgr : (Nat → Int32)) (xkb : (Nat → Int64)) (xkp : (Nat → Int32)) (xik : (Nat → Int32)) (nn : Int32) : Option (Int32 × Int64 × Int32 × Int32 × Int32 × Int32 × Int32 × Int32 × (Nat → Int64) × (Nat → Int32) × (Nat → Int32) × (Nat → Int32) × (Nat → Int64) × (Nat → Int32) × (Nat → Int32)) :=
  if (f_X10_in (nn.toInt64) 0 1) = 0 then some ((-2), mbd, mby, mgr, mol, mgs, mka, miw, xgb, xgm, xgv, xgr, xkb, xkp, xik) else Option.bind (f_X10_passAll mbd mby mgr mol mgs 1 xgb xgm xgv xgr xkb xkp nn) (fun r20_2 => if (nn) < 0 ∨ 2 ≤ (nn).toNatClampNeg then none else jlet (upd xik (nn).toNatClampNeg (vp_nar .boolean 1)) (fun a29_4 => some (1, r20_2.1, r20_2.2.1, r20_2.2.2.1, r20_2.2.2.2.1, r20_2.2.2.2.2.1, r20_2.2.2.2.2.2.1, 1, r20_2.2.2.2.2.2.2.1, r20_2.2.2.2.2.2.2.2.1, r20_2.2.2.2.2.2.2.2.2.1, r20_2.2.2.2.2.2.2.2.2.2.1, r20_2.2.2.2.2.2.2.2.2.2.2.1, r20_2.2.2.2.2.2.2.2.2.2.2.2, a29_4)))
abbrev rm_X10_image : Room := { frames := 2, cells := 0, slots := 0, locals := 45 }
set_option maxHeartbeats 4000000 in
set_option maxRecDepth 100000 in
theorem k_X10_image (G : gT) (l : Launch) (mo : Nat) (aMM : Nat) (aMT : Nat) (aPD : Nat) (aST : Nat) (aPL : Nat) (aRS : Nat) (aLA : Nat) (aBM : Nat) (aRP : Nat) (aFI : Nat) (aFM : Nat) (aGB : Nat) (aGM : Nat) (aGV : Nat) (aGR : Nat) (aKB : Nat) (aKP : Nat) (aIK : Nat) (mbd : Int64) (mby : Int32) (mgr : Int32) (mol : Int32) (mmy : Int32) (mpm : Int32) (mrd : Int64) (mbm : Int32) (mbw : Int32) (mpl : Int64) (msm : Int32) (mgs : Int32) (mka : Int32) (miw : Int32) (xgb : (Nat → Int64)) (xgm : (Nat → Int32)) (xgv : (Nat → Int32)) (xgr : (Nat → Int32)) (xkb : (Nat → Int64)) (xkp : (Nat → Int32)) (xik : (Nat → Int32)) (nn : Int32) (r : Int32 × Int64 × Int32 × Int32 × Int32 × Int32 × Int32 × Int32 × (Nat → Int64) × (Nat → Int32) × (Nat → Int32) × (Nat → Int32) × (Nat → Int64) × (Nat → Int32) × (Nat → Int32)) (hF : f_X10_image mbd mby mgr mol mgs mka miw xgb xgm xgv xgr xkb xkp xik nn = some r) : HM G l yX10_image (.code yX10_image cX10_image 2 (some .int) :: UW) rm_X10_image 0 0 [.ref mo, .int nn] [(mo, .inr (8, [.long mbd, .int mby, .int mgr, .int mol, .ref aMM, .ref aMT, .int mmy, .ref aPD, .int mpm, .long mrd, .int mbm, .int mbw, .long mpl, .ref aST, .ref aPL, .ref aRS, .ref aLA, .ref aBM, .int msm, .ref aRP, .ref aFI, .ref aFM, .ref aGB, .ref aGM, .ref aGV, .ref aGR, .int mgs, .ref aKB, .ref aKP, .ref aIK, .int mka, .int miw])), (aGB, .inl (gJ G, 8, .inr (.inl xgb))), (aGM, .inl (gI G, 8, .inl xgm)), (aGV, .inl (gI G, 96, .inl xgv)), (aGR, .inl (gI G, 8, .inl xgr)), (aKB, .inl (gJ G, 18, .inr (.inl xkb))), (aKP, .inl (gI G, 240, .inl xkp)), (aIK, .inl (gZ G, 2, .inl xik))] (some (.int r.1)) [(mo, .inr (8, [.long r.2.1, .int r.2.2.1, .int r.2.2.2.1, .int r.2.2.2.2.1, .ref aMM, .ref aMT, .int mmy, .ref aPD, .int mpm, .long mrd, .int mbm, .int mbw, .long mpl, .ref aST, .ref aPL, .ref aRS, .ref aLA, .ref aBM, .int msm, .ref aRP, .ref aFI, .ref aFM, .ref aGB, .ref aGM, .ref aGV, .ref aGR, .int r.2.2.2.2.2.1, .ref aKB, .ref aKP, .ref aIK, .int r.2.2.2.2.2.2.1, .int r.2.2.2.2.2.2.2.1])), (aGB, .inl (gJ G, 8, .inr (.inl r.2.2.2.2.2.2.2.2.1))), (aGM, .inl (gI G, 8, .inl r.2.2.2.2.2.2.2.2.2.1)), (aGV, .inl (gI G, 96, .inl r.2.2.2.2.2.2.2.2.2.2.1)), (aGR, .inl (gI G, 8, .inl r.2.2.2.2.2.2.2.2.2.2.2.1)), (aKB, .inl (gJ G, 18, .inr (.inl r.2.2.2.2.2.2.2.2.2.2.2.2.1))), (aKP, .inl (gI G, 240, .inl r.2.2.2.2.2.2.2.2.2.2.2.2.2.1)), (aIK, .inl (gZ G, 2, .inl r.2.2.2.2.2.2.2.2.2.2.2.2.2.2))] := by
  refine HM.ofW (by decide) (Nat.le_of_ble_eq_true rfl) ?_
  intro p e s m args below meth c A post hpost hC hP hD hS ls hl
  obtain ⟨hx, hb, hr, hml, hown, hts, hlk, hE, hA⟩ := hC
  have hl : lv_has ls 2 [(0, .ref mo), (1, .int nn)] := hl
  unfold f_X10_image at hF
  refine lv_iload_n hx hb dX10_image_0 rfl (lv_at hl 1 rfl) ?_
  refine lv_i2l (v := (nn.toInt64)) hx hb dX10_image_1 rfl ?_
  refine lv_lconst (v := 0) hx hb dX10_image_2 (by decide) ?_
  refine lv_lconst (v := 1) hx hb dX10_image_3 (by decide) ?_
  refine hm_S (wn := [(mo, .inr (8, [.long mbd, .int mby, .int mgr, .int mol, .ref aMM, .ref aMT, .int mmy, .ref aPD, .int mpm, .long mrd, .int mbm, .int mbw, .long mpl, .ref aST, .ref aPL, .ref aRS, .ref aLA, .ref aBM, .int msm, .ref aRP, .ref aFI, .ref aFM, .ref aGB, .ref aGM, .ref aGV, .ref aGR, .int mgs, .ref aKB, .ref aKP, .ref aIK, .int mka, .int miw])), (aGB, .inl (gJ G, 8, .inr (.inl xgb))), (aGM, .inl (gI G, 8, .inl xgm)), (aGV, .inl (gI G, 96, .inl xgv)), (aGR, .inl (gI G, 8, .inl xgr)), (aKB, .inl (gJ G, 18, .inr (.inl xkb))), (aKP, .inl (gI G, 240, .inl xkp)), (aIK, .inl (gZ G, 2, .inl xik))]) (wr := [(mo, .inr (8, [.long mbd, .int mby, .int mgr, .int mol, .ref aMM, .ref aMT, .int mmy, .ref aPD, .int mpm, .long mrd, .int mbm, .int mbw, .long mpl, .ref aST, .ref aPL, .ref aRS, .ref aLA, .ref aBM, .int msm, .ref aRP, .ref aFI, .ref aFM, .ref aGB, .ref aGM, .ref aGV, .ref aGR, .int mgs, .ref aKB, .ref aKP, .ref aIK, .int mka, .int miw])), (aGB, .inl (gJ G, 8, .inr (.inl xgb))), (aGM, .inl (gI G, 8, .inl xgm)), (aGV, .inl (gI G, 96, .inl xgv)), (aGR, .inl (gI G, 8, .inl xgr)), (aKB, .inl (gJ G, 18, .inr (.inl xkb))), (aKP, .inl (gI G, 240, .inl xkp)), (aIK, .inl (gZ G, 2, .inl xik))]) (rest := []) (sn := [.int (f_X10_in (nn.toInt64) 0 1)]) hx hb hml hown hts hE hA (k_X10_in G l (nn.toInt64) 0 1 _ rfl) sm_X10_in mw_833 ⟨rfl, rfl, Nat.le_of_ble_eq_true rfl, Nat.le_of_ble_eq_true rfl⟩ hP hD hS [] [0, 1, 2, 3, 4, 5, 6, 7] [0, 1, 2, 3, 4, 5, 6, 7] rfl rfl rfl (by decide) hl.1 rfl rfl (Nat.le_of_ble_eq_true rfl) dX10_image_4 ⟨Nat.le_of_ble_eq_true rfl, Nat.le_of_ble_eq_true rfl⟩ (fun H locs hP hD hS => ?_)
  refine lv_if_ne (tgt := 13) hx hb dX10_image_7 (by decide) (fun c_1 => ?_) (fun c_1 => ?_)
  · have hF := ifn hF c_1
    refine lv_aload_n hx hb dX10_image_13 rfl (lv_at hl 0 rfl) ?_
    refine lv_iconst (v := 1) hx hb dX10_image_14 (by decide) ?_
    refine hput hx hb hts hown hE fl_X10_290 ft_X10_31 hP hD hS 0 rfl rfl (by decide +kernel) (by decide +kernel) (Nat.le_of_ble_eq_true rfl) (wn := [(mo, .inr (8, [.long mbd, .int mby, .int mgr, .int mol, .ref aMM, .ref aMT, .int mmy, .ref aPD, .int mpm, .long mrd, .int mbm, .int mbw, .long mpl, .ref aST, .ref aPL, .ref aRS, .ref aLA, .ref aBM, .int msm, .ref aRP, .ref aFI, .ref aFM, .ref aGB, .ref aGM, .ref aGV, .ref aGR, .int mgs, .ref aKB, .ref aKP, .ref aIK, .int mka, .int 1])), (aGB, .inl (gJ G, 8, .inr (.inl xgb))), (aGM, .inl (gI G, 8, .inl xgm)), (aGV, .inl (gI G, 96, .inl xgv)), (aGR, .inl (gI G, 8, .inl xgr)), (aKB, .inl (gJ G, 18, .inr (.inl xkb))), (aKP, .inl (gI G, 240, .inl xkp)), (aIK, .inl (gZ G, 2, .inl xik))]) rfl dX10_image_15 (fun H locs hP hD hS => ?_)
    refine lv_aload_n hx hb dX10_image_18 rfl (lv_at hl 0 rfl) ?_
    refine lv_iload_n hx hb dX10_image_19 rfl (lv_at hl 1 rfl) ?_
    obtain ⟨r20_2, hr20_2, hF⟩ := bnd hF
    refine hm_V (wn := [(mo, .inr (8, [.long r20_2.1, .int r20_2.2.1, .int r20_2.2.2.1, .int r20_2.2.2.2.1, .ref aMM, .ref aMT, .int mmy, .ref aPD, .int mpm, .long mrd, .int mbm, .int mbw, .long mpl, .ref aST, .ref aPL, .ref aRS, .ref aLA, .ref aBM, .int msm, .ref aRP, .ref aFI, .ref aFM, .ref aGB, .ref aGM, .ref aGV, .ref aGR, .int r20_2.2.2.2.2.1, .ref aKB, .ref aKP, .ref aIK, .int r20_2.2.2.2.2.2.1, .int 1])), (aGB, .inl (gJ G, 8, .inr (.inl r20_2.2.2.2.2.2.2.1))), (aGM, .inl (gI G, 8, .inl r20_2.2.2.2.2.2.2.2.1)), (aGV, .inl (gI G, 96, .inl r20_2.2.2.2.2.2.2.2.2.1)), (aGR, .inl (gI G, 8, .inl r20_2.2.2.2.2.2.2.2.2.2.1)), (aKB, .inl (gJ G, 18, .inr (.inl r20_2.2.2.2.2.2.2.2.2.2.2.1))), (aKP, .inl (gI G, 240, .inl r20_2.2.2.2.2.2.2.2.2.2.2.2)), (aIK, .inl (gZ G, 2, .inl xik))]) (wr := [(aIK, .inl (gZ G, 2, .inl xik))]) (rest := []) (sn := []) hx hb hml hown hts hE hA (k_X10_passAll G l mo aMM aMT aPD aST aPL aRS aLA aBM aRP aFI aFM aGB aGM aGV aGR aKB aKP aIK mbd mby mgr mol mmy mpm mrd mbm mbw mpl msm mgs mka 1 xgb xgm xgv xgr xkb xkp nn r20_2 hr20_2) sm_X10_passAll mw_1085 ⟨rfl, rfl, Nat.le_of_ble_eq_true rfl, Nat.le_of_ble_eq_true rfl⟩ hP hD hS 0 rfl rfl [0, 1, 2, 3, 4, 5, 6] [7] [1, 2, 3, 4, 5, 6, 7, 0] rfl rfl rfl (by decide) hl.1 rfl rfl (Nat.le_of_ble_eq_true rfl) dX10_image_20 ⟨Nat.le_of_ble_eq_true rfl, Nat.le_of_ble_eq_true rfl⟩ (fun H locs hP hD hS => ?_)
    refine lv_aload_n hx hb dX10_image_23 rfl (lv_at hl 0 rfl) ?_
    refine hget hx hb hts hown hE fl_X10_63 hP 0 rfl rfl dX10_image_24 ?_
    refine lv_iload_n hx hb dX10_image_27 rfl (lv_at hl 1 rfl) ?_
    refine lv_iconst (v := 1) hx hb dX10_image_28 (by decide) ?_
    obtain ⟨hi_3, hF⟩ := inb hF
    obtain ⟨a29_4, ea29_4⟩ : ∃ z : (Nat → Int32), z = upd xik (nn).toNatClampNeg (vp_nar .boolean 1) := ⟨_, rfl⟩
    have hF := jl hF ea29_4
    refine hzast hx hb hE hP hD hS 7 rfl hi_3 (wn := [(mo, .inr (8, [.long r20_2.1, .int r20_2.2.1, .int r20_2.2.2.1, .int r20_2.2.2.2.1, .ref aMM, .ref aMT, .int mmy, .ref aPD, .int mpm, .long mrd, .int mbm, .int mbw, .long mpl, .ref aST, .ref aPL, .ref aRS, .ref aLA, .ref aBM, .int msm, .ref aRP, .ref aFI, .ref aFM, .ref aGB, .ref aGM, .ref aGV, .ref aGR, .int r20_2.2.2.2.2.1, .ref aKB, .ref aKP, .ref aIK, .int r20_2.2.2.2.2.2.1, .int 1])), (aGB, .inl (gJ G, 8, .inr (.inl r20_2.2.2.2.2.2.2.1))), (aGM, .inl (gI G, 8, .inl r20_2.2.2.2.2.2.2.2.1)), (aGV, .inl (gI G, 96, .inl r20_2.2.2.2.2.2.2.2.2.1)), (aGR, .inl (gI G, 8, .inl r20_2.2.2.2.2.2.2.2.2.2.1)), (aKB, .inl (gJ G, 18, .inr (.inl r20_2.2.2.2.2.2.2.2.2.2.2.1))), (aKP, .inl (gI G, 240, .inl r20_2.2.2.2.2.2.2.2.2.2.2.2)), (aIK, .inl (gZ G, 2, .inl a29_4))]) (by rw [ea29_4]; rfl) dX10_image_29 (fun H locs hP hD hS => ?_)
    refine lv_iconst (v := 1) hx hb dX10_image_30 (by decide) ?_
    have hF := Option.some.inj hF
    subst hF
    exact hm_iret hx hb hr hlk hP hD hS hpost dX10_image_31
  · have hF := ifp hF c_1
    refine lv_bipush (v := (-2)) hx hb dX10_image_10 (by decide) ?_
    have hF := Option.some.inj hF
    subst hF
    exact hm_iret hx hb hr hlk hP hD hS hpost dX10_image_12
def f_X10_restore (mbd : Int64) (mby : Int32) (mgr : Int32) (mol : Int32) (mgs : Int32) (mka : Int32) (miw : Int32) (xgb : (Nat → Int64)) (xgm : (Nat → Int32)) (xgv : (Nat → Int32)) (xgr : (Nat → Int32)) (xkb : (Nat → Int64)) (xkp : (Nat → Int32)) (xik : (Nat → Int32)) (nn : Int32) : Option (Int32 × Int64 × Int32 × Int32 × Int32 × Int32 × Int32 × Int32 × (Nat → Int64) × (Nat → Int32) × (Nat → Int32) × (Nat → Int32) × (Nat → Int64) × (Nat → Int32)) :=
  if (f_X10_in (nn.toInt64) 0 1) = 0 then some ((-2), mbd, mby, mgr, mol, mgs, mka, miw, xgb, xgm, xgv, xgr, xkb, xkp) else if (nn) < 0 ∨ 2 ≤ (nn).toNatClampNeg then none else if (xik (nn).toNatClampNeg) = 0 then some ((-3), mbd, mby, mgr, mol, mgs, mka, miw, xgb, xgm, xgv, xgr, xkb, xkp) else Option.bind (f_X10_passAll mbd mby mgr mol mgs 0 xgb xgm xgv xgr xkb xkp nn) (fun r32_4 => some (1, r32_4.1, r32_4.2.1, r32_4.2.2.1, r32_4.2.2.2.1, r32_4.2.2.2.2.1, r32_4.2.2.2.2.2.1, 0, r32_4.2.2.2.2.2.2.1, r32_4.2.2.2.2.2.2.2.1, r32_4.2.2.2.2.2.2.2.2.1, r32_4.2.2.2.2.2.2.2.2.2.1, r32_4.2.2.2.2.2.2.2.2.2.2.1, r32_4.2.2.2.2.2.2.2.2.2.2.2))
abbrev rm_X10_restore : Room := { frames := 2, cells := 0, slots := 0, locals := 45 }
set_option maxHeartbeats 4000000 in
set_option maxRecDepth 100000 in
theorem k_X10_restore (G : gT) (l : Launch) (mo : Nat) (aMM : Nat) (aMT : Nat) (aPD : Nat) (aST : Nat) (aPL : Nat) (aRS : Nat) (aLA : Nat) (aBM : Nat) (aRP : Nat) (aFI : Nat) (aFM : Nat) (aGB : Nat) (aGM : Nat) (aGV : Nat) (aGR : Nat) (aKB : Nat) (aKP : Nat) (aIK : Nat) (mbd : Int64) (mby : Int32) (mgr : Int32) (mol : Int32) (mmy : Int32) (mpm : Int32) (mrd : Int64) (mbm : Int32) (mbw : Int32) (mpl : Int64) (msm : Int32) (mgs : Int32) (mka : Int32) (miw : Int32) (xgb : (Nat → Int64)) (xgm : (Nat → Int32)) (xgv : (Nat → Int32)) (xgr : (Nat → Int32)) (xkb : (Nat → Int64)) (xkp : (Nat → Int32)) (xik : (Nat → Int32)) (nn : Int32) (r : Int32 × Int64 × Int32 × Int32 × Int32 × Int32 × Int32 × Int32 × (Nat → Int64) × (Nat → Int32) × (Nat → Int32) × (Nat → Int32) × (Nat → Int64) × (Nat → Int32)) (hF : f_X10_restore mbd mby mgr mol mgs mka miw xgb xgm xgv xgr xkb xkp xik nn = some r) : HM G l yX10_restore (.code yX10_restore cX10_restore 2 (some .int) :: UW) rm_X10_restore 0 0 [.ref mo, .int nn] [(mo, .inr (8, [.long mbd, .int mby, .int mgr, .int mol, .ref aMM, .ref aMT, .int mmy, .ref aPD, .int mpm, .long mrd, .int mbm, .int mbw, .long mpl, .ref aST, .ref aPL, .ref aRS, .ref aLA, .ref aBM, .int msm, .ref aRP, .ref aFI, .ref aFM, .ref aGB, .ref aGM, .ref aGV, .ref aGR, .int mgs, .ref aKB, .ref aKP, .ref aIK, .int mka, .int miw])), (aGB, .inl (gJ G, 8, .inr (.inl xgb))), (aGM, .inl (gI G, 8, .inl xgm)), (aGV, .inl (gI G, 96, .inl xgv)), (aGR, .inl (gI G, 8, .inl xgr)), (aKB, .inl (gJ G, 18, .inr (.inl xkb))), (aKP, .inl (gI G, 240, .inl xkp)), (aIK, .inl (gZ G, 2, .inl xik))] (some (.int r.1)) [(mo, .inr (8, [.long r.2.1, .int r.2.2.1, .int r.2.2.2.1, .int r.2.2.2.2.1, .ref aMM, .ref aMT, .int mmy, .ref aPD, .int mpm, .long mrd, .int mbm, .int mbw, .long mpl, .ref aST, .ref aPL, .ref aRS, .ref aLA, .ref aBM, .int msm, .ref aRP, .ref aFI, .ref aFM, .ref aGB, .ref aGM, .ref aGV, .ref aGR, .int r.2.2.2.2.2.1, .ref aKB, .ref aKP, .ref aIK, .int r.2.2.2.2.2.2.1, .int r.2.2.2.2.2.2.2.1])), (aGB, .inl (gJ G, 8, .inr (.inl r.2.2.2.2.2.2.2.2.1))), (aGM, .inl (gI G, 8, .inl r.2.2.2.2.2.2.2.2.2.1)), (aGV, .inl (gI G, 96, .inl r.2.2.2.2.2.2.2.2.2.2.1)), (aGR, .inl (gI G, 8, .inl r.2.2.2.2.2.2.2.2.2.2.2.1)), (aKB, .inl (gJ G, 18, .inr (.inl r.2.2.2.2.2.2.2.2.2.2.2.2.1))), (aKP, .inl (gI G, 240, .inl r.2.2.2.2.2.2.2.2.2.2.2.2.2)), (aIK, .inl (gZ G, 2, .inl xik))] := by
  refine HM.ofW (by decide) (Nat.le_of_ble_eq_true rfl) ?_
  intro p e s m args below meth c A post hpost hC hP hD hS ls hl
  obtain ⟨hx, hb, hr, hml, hown, hts, hlk, hE, hA⟩ := hC
  have hl : lv_has ls 2 [(0, .ref mo), (1, .int nn)] := hl
  unfold f_X10_restore at hF
  refine lv_iload_n hx hb dX10_restore_0 rfl (lv_at hl 1 rfl) ?_
  refine lv_i2l (v := (nn.toInt64)) hx hb dX10_restore_1 rfl ?_
  refine lv_lconst (v := 0) hx hb dX10_restore_2 (by decide) ?_
  refine lv_lconst (v := 1) hx hb dX10_restore_3 (by decide) ?_
  refine hm_S (wn := [(mo, .inr (8, [.long mbd, .int mby, .int mgr, .int mol, .ref aMM, .ref aMT, .int mmy, .ref aPD, .int mpm, .long mrd, .int mbm, .int mbw, .long mpl, .ref aST, .ref aPL, .ref aRS, .ref aLA, .ref aBM, .int msm, .ref aRP, .ref aFI, .ref aFM, .ref aGB, .ref aGM, .ref aGV, .ref aGR, .int mgs, .ref aKB, .ref aKP, .ref aIK, .int mka, .int miw])), (aGB, .inl (gJ G, 8, .inr (.inl xgb))), (aGM, .inl (gI G, 8, .inl xgm)), (aGV, .inl (gI G, 96, .inl xgv)), (aGR, .inl (gI G, 8, .inl xgr)), (aKB, .inl (gJ G, 18, .inr (.inl xkb))), (aKP, .inl (gI G, 240, .inl xkp)), (aIK, .inl (gZ G, 2, .inl xik))]) (wr := [(mo, .inr (8, [.long mbd, .int mby, .int mgr, .int mol, .ref aMM, .ref aMT, .int mmy, .ref aPD, .int mpm, .long mrd, .int mbm, .int mbw, .long mpl, .ref aST, .ref aPL, .ref aRS, .ref aLA, .ref aBM, .int msm, .ref aRP, .ref aFI, .ref aFM, .ref aGB, .ref aGM, .ref aGV, .ref aGR, .int mgs, .ref aKB, .ref aKP, .ref aIK, .int mka, .int miw])), (aGB, .inl (gJ G, 8, .inr (.inl xgb))), (aGM, .inl (gI G, 8, .inl xgm)), (aGV, .inl (gI G, 96, .inl xgv)), (aGR, .inl (gI G, 8, .inl xgr)), (aKB, .inl (gJ G, 18, .inr (.inl xkb))), (aKP, .inl (gI G, 240, .inl xkp)), (aIK, .inl (gZ G, 2, .inl xik))]) (rest := []) (sn := [.int (f_X10_in (nn.toInt64) 0 1)]) hx hb hml hown hts hE hA (k_X10_in G l (nn.toInt64) 0 1 _ rfl) sm_X10_in mw_833 ⟨rfl, rfl, Nat.le_of_ble_eq_true rfl, Nat.le_of_ble_eq_true rfl⟩ hP hD hS [] [0, 1, 2, 3, 4, 5, 6, 7] [0, 1, 2, 3, 4, 5, 6, 7] rfl rfl rfl (by decide) hl.1 rfl rfl (Nat.le_of_ble_eq_true rfl) dX10_restore_4 ⟨Nat.le_of_ble_eq_true rfl, Nat.le_of_ble_eq_true rfl⟩ (fun H locs hP hD hS => ?_)
  refine lv_if_ne (tgt := 13) hx hb dX10_restore_7 (by decide) (fun c_1 => ?_) (fun c_1 => ?_)
  · have hF := ifn hF c_1
    refine lv_aload_n hx hb dX10_restore_13 rfl (lv_at hl 0 rfl) ?_
    refine hget hx hb hts hown hE fl_X10_63 hP 0 rfl rfl dX10_restore_14 ?_
    refine lv_iload_n hx hb dX10_restore_17 rfl (lv_at hl 1 rfl) ?_
    obtain ⟨hi_2, hF⟩ := inb hF
    refine hzald hx hb hE hP 7 rfl hi_2 dX10_restore_18 ?_
    refine lv_if_ne (tgt := 25) hx hb dX10_restore_19 (by decide) (fun c_3 => ?_) (fun c_3 => ?_)
    · have hF := ifn hF c_3
      refine lv_aload_n hx hb dX10_restore_25 rfl (lv_at hl 0 rfl) ?_
      refine lv_iconst (v := 0) hx hb dX10_restore_26 (by decide) ?_
      refine hput hx hb hts hown hE fl_X10_290 ft_X10_31 hP hD hS 0 rfl rfl (by decide +kernel) (by decide +kernel) (Nat.le_of_ble_eq_true rfl) (wn := [(mo, .inr (8, [.long mbd, .int mby, .int mgr, .int mol, .ref aMM, .ref aMT, .int mmy, .ref aPD, .int mpm, .long mrd, .int mbm, .int mbw, .long mpl, .ref aST, .ref aPL, .ref aRS, .ref aLA, .ref aBM, .int msm, .ref aRP, .ref aFI, .ref aFM, .ref aGB, .ref aGM, .ref aGV, .ref aGR, .int mgs, .ref aKB, .ref aKP, .ref aIK, .int mka, .int 0])), (aGB, .inl (gJ G, 8, .inr (.inl xgb))), (aGM, .inl (gI G, 8, .inl xgm)), (aGV, .inl (gI G, 96, .inl xgv)), (aGR, .inl (gI G, 8, .inl xgr)), (aKB, .inl (gJ G, 18, .inr (.inl xkb))), (aKP, .inl (gI G, 240, .inl xkp)), (aIK, .inl (gZ G, 2, .inl xik))]) rfl dX10_restore_27 (fun H locs hP hD hS => ?_)
      refine lv_aload_n hx hb dX10_restore_30 rfl (lv_at hl 0 rfl) ?_
      refine lv_iload_n hx hb dX10_restore_31 rfl (lv_at hl 1 rfl) ?_
      obtain ⟨r32_4, hr32_4, hF⟩ := bnd hF
      refine hm_V (wn := [(mo, .inr (8, [.long r32_4.1, .int r32_4.2.1, .int r32_4.2.2.1, .int r32_4.2.2.2.1, .ref aMM, .ref aMT, .int mmy, .ref aPD, .int mpm, .long mrd, .int mbm, .int mbw, .long mpl, .ref aST, .ref aPL, .ref aRS, .ref aLA, .ref aBM, .int msm, .ref aRP, .ref aFI, .ref aFM, .ref aGB, .ref aGM, .ref aGV, .ref aGR, .int r32_4.2.2.2.2.1, .ref aKB, .ref aKP, .ref aIK, .int r32_4.2.2.2.2.2.1, .int 0])), (aGB, .inl (gJ G, 8, .inr (.inl r32_4.2.2.2.2.2.2.1))), (aGM, .inl (gI G, 8, .inl r32_4.2.2.2.2.2.2.2.1)), (aGV, .inl (gI G, 96, .inl r32_4.2.2.2.2.2.2.2.2.1)), (aGR, .inl (gI G, 8, .inl r32_4.2.2.2.2.2.2.2.2.2.1)), (aKB, .inl (gJ G, 18, .inr (.inl r32_4.2.2.2.2.2.2.2.2.2.2.1))), (aKP, .inl (gI G, 240, .inl r32_4.2.2.2.2.2.2.2.2.2.2.2)), (aIK, .inl (gZ G, 2, .inl xik))]) (wr := [(aIK, .inl (gZ G, 2, .inl xik))]) (rest := []) (sn := []) hx hb hml hown hts hE hA (k_X10_passAll G l mo aMM aMT aPD aST aPL aRS aLA aBM aRP aFI aFM aGB aGM aGV aGR aKB aKP aIK mbd mby mgr mol mmy mpm mrd mbm mbw mpl msm mgs mka 0 xgb xgm xgv xgr xkb xkp nn r32_4 hr32_4) sm_X10_passAll mw_1085 ⟨rfl, rfl, Nat.le_of_ble_eq_true rfl, Nat.le_of_ble_eq_true rfl⟩ hP hD hS 0 rfl rfl [0, 1, 2, 3, 4, 5, 6] [7] [1, 2, 3, 4, 5, 6, 7, 0] rfl rfl rfl (by decide) hl.1 rfl rfl (Nat.le_of_ble_eq_true rfl) dX10_restore_32 ⟨Nat.le_of_ble_eq_true rfl, Nat.le_of_ble_eq_true rfl⟩ (fun H locs hP hD hS => ?_)
      refine lv_iconst (v := 1) hx hb dX10_restore_35 (by decide) ?_
      have hF := Option.some.inj hF
      subst hF
      exact hm_iret hx hb hr hlk hP hD hS hpost dX10_restore_36
    · have hF := ifp hF c_3
      refine lv_bipush (v := (-3)) hx hb dX10_restore_22 (by decide) ?_
      have hF := Option.some.inj hF
      subst hF
      exact hm_iret hx hb hr hlk hP hD hS hpost dX10_restore_24
  · have hF := ifp hF c_1
    refine lv_bipush (v := (-2)) hx hb dX10_restore_10 (by decide) ?_
    have hF := Option.some.inj hF
    subst hF
    exact hm_iret hx hb hr hlk hP hD hS hpost dX10_restore_12
def f_X10_told (mbd : Int64) (mby : Int32) (mgr : Int32) (mol : Int32) (mpm : Int32) (mgs : Int32) (wh : Int32) : Int32 :=
  if (f_X10_in (wh.toInt64) 10 15) = 0 then if (f_X10_in (wh.toInt64) 20 25) = 0 then if wh = 0 then mpm else if wh = 1 then mgs else if wh = 2 then mby else if wh = 3 then mgr else if wh = 4 then mol else (-2) else (f_X10_ageOf mbd (wh - 20)) else (f_X10_cellNow mbd (wh - 10))
abbrev rm_X10_told : Room := { frames := 2, cells := 0, slots := 0, locals := 44 }
set_option maxHeartbeats 4000000 in
set_option maxRecDepth 100000 in
theorem k_X10_told (G : gT) (l : Launch) (mo : Nat) (aMM : Nat) (aMT : Nat) (aPD : Nat) (aST : Nat) (aPL : Nat) (aRS : Nat) (aLA : Nat) (aBM : Nat) (aRP : Nat) (aFI : Nat) (aFM : Nat) (aGB : Nat) (aGM : Nat) (aGV : Nat) (aGR : Nat) (aKB : Nat) (aKP : Nat) (aIK : Nat) (mbd : Int64) (mby : Int32) (mgr : Int32) (mol : Int32) (mmy : Int32) (mpm : Int32) (mrd : Int64) (mbm : Int32) (mbw : Int32) (mpl : Int64) (msm : Int32) (mgs : Int32) (mka : Int32) (miw : Int32) (wh : Int32) (r : Int32) (hF : f_X10_told mbd mby mgr mol mpm mgs wh = r) : HM G l yX10_told (.code yX10_told cX10_told 2 (some .int) :: UW) rm_X10_told 0 0 [.ref mo, .int wh] [(mo, .inr (8, [.long mbd, .int mby, .int mgr, .int mol, .ref aMM, .ref aMT, .int mmy, .ref aPD, .int mpm, .long mrd, .int mbm, .int mbw, .long mpl, .ref aST, .ref aPL, .ref aRS, .ref aLA, .ref aBM, .int msm, .ref aRP, .ref aFI, .ref aFM, .ref aGB, .ref aGM, .ref aGV, .ref aGR, .int mgs, .ref aKB, .ref aKP, .ref aIK, .int mka, .int miw]))] (some (.int r)) [(mo, .inr (8, [.long mbd, .int mby, .int mgr, .int mol, .ref aMM, .ref aMT, .int mmy, .ref aPD, .int mpm, .long mrd, .int mbm, .int mbw, .long mpl, .ref aST, .ref aPL, .ref aRS, .ref aLA, .ref aBM, .int msm, .ref aRP, .ref aFI, .ref aFM, .ref aGB, .ref aGM, .ref aGV, .ref aGR, .int mgs, .ref aKB, .ref aKP, .ref aIK, .int mka, .int miw]))] := by
  refine HM.ofW (by decide) (Nat.le_of_ble_eq_true rfl) ?_
  intro p e s m args below meth c A post hpost hC hP hD hS ls hl
  obtain ⟨hx, hb, hr, hml, hown, hts, hlk, hE, hA⟩ := hC
  have hl : lv_has ls 2 [(0, .ref mo), (1, .int wh)] := hl
  unfold f_X10_told at hF
  refine lv_iload_n hx hb dX10_told_0 rfl (lv_at hl 1 rfl) ?_
  refine lv_i2l (v := (wh.toInt64)) hx hb dX10_told_1 rfl ?_
  refine lv_ldc2 (v := 10) hx hb hown (hts _ (List.mem_cons_of_mem _ mw_1046)) dX10_told_2 ?_
  refine lv_ldc2 (v := 15) hx hb hown (hts _ (List.mem_cons_of_mem _ mw_1101)) dX10_told_5 ?_
  refine hm_S (wn := [(mo, .inr (8, [.long mbd, .int mby, .int mgr, .int mol, .ref aMM, .ref aMT, .int mmy, .ref aPD, .int mpm, .long mrd, .int mbm, .int mbw, .long mpl, .ref aST, .ref aPL, .ref aRS, .ref aLA, .ref aBM, .int msm, .ref aRP, .ref aFI, .ref aFM, .ref aGB, .ref aGM, .ref aGV, .ref aGR, .int mgs, .ref aKB, .ref aKP, .ref aIK, .int mka, .int miw]))]) (wr := [(mo, .inr (8, [.long mbd, .int mby, .int mgr, .int mol, .ref aMM, .ref aMT, .int mmy, .ref aPD, .int mpm, .long mrd, .int mbm, .int mbw, .long mpl, .ref aST, .ref aPL, .ref aRS, .ref aLA, .ref aBM, .int msm, .ref aRP, .ref aFI, .ref aFM, .ref aGB, .ref aGM, .ref aGV, .ref aGR, .int mgs, .ref aKB, .ref aKP, .ref aIK, .int mka, .int miw]))]) (rest := []) (sn := [.int (f_X10_in (wh.toInt64) 10 15)]) hx hb hml hown hts hE hA (k_X10_in G l (wh.toInt64) 10 15 _ rfl) sm_X10_in mw_833 ⟨rfl, rfl, Nat.le_of_ble_eq_true rfl, Nat.le_of_ble_eq_true rfl⟩ hP hD hS [] [0] [0] rfl rfl rfl (by decide) hl.1 rfl rfl (Nat.le_of_ble_eq_true rfl) dX10_told_8 ⟨Nat.le_of_ble_eq_true rfl, Nat.le_of_ble_eq_true rfl⟩ (fun H locs hP hD hS => ?_)
  refine lv_if_eq (tgt := 23) hx hb dX10_told_11 (by decide) (fun c_1 => ?_) (fun c_1 => ?_)
  · have hF := ifp hF c_1
    refine lv_iload_n hx hb dX10_told_23 rfl (lv_at hl 1 rfl) ?_
    refine lv_i2l (v := (wh.toInt64)) hx hb dX10_told_24 rfl ?_
    refine lv_ldc2 (v := 20) hx hb hown (hts _ (List.mem_cons_of_mem _ mw_1102)) dX10_told_25 ?_
    refine lv_ldc2 (v := 25) hx hb hown (hts _ (List.mem_cons_of_mem _ mw_1103)) dX10_told_28 ?_
    refine hm_S (wn := [(mo, .inr (8, [.long mbd, .int mby, .int mgr, .int mol, .ref aMM, .ref aMT, .int mmy, .ref aPD, .int mpm, .long mrd, .int mbm, .int mbw, .long mpl, .ref aST, .ref aPL, .ref aRS, .ref aLA, .ref aBM, .int msm, .ref aRP, .ref aFI, .ref aFM, .ref aGB, .ref aGM, .ref aGV, .ref aGR, .int mgs, .ref aKB, .ref aKP, .ref aIK, .int mka, .int miw]))]) (wr := [(mo, .inr (8, [.long mbd, .int mby, .int mgr, .int mol, .ref aMM, .ref aMT, .int mmy, .ref aPD, .int mpm, .long mrd, .int mbm, .int mbw, .long mpl, .ref aST, .ref aPL, .ref aRS, .ref aLA, .ref aBM, .int msm, .ref aRP, .ref aFI, .ref aFM, .ref aGB, .ref aGM, .ref aGV, .ref aGR, .int mgs, .ref aKB, .ref aKP, .ref aIK, .int mka, .int miw]))]) (rest := []) (sn := [.int (f_X10_in (wh.toInt64) 20 25)]) hx hb hml hown hts hE hA (k_X10_in G l (wh.toInt64) 20 25 _ rfl) sm_X10_in mw_833 ⟨rfl, rfl, Nat.le_of_ble_eq_true rfl, Nat.le_of_ble_eq_true rfl⟩ hP hD hS [] [0] [0] rfl rfl rfl (by decide) hl.1 rfl rfl (Nat.le_of_ble_eq_true rfl) dX10_told_31 ⟨Nat.le_of_ble_eq_true rfl, Nat.le_of_ble_eq_true rfl⟩ (fun H locs hP hD hS => ?_)
    refine lv_if_eq (tgt := 49) hx hb dX10_told_34 (by decide) (fun c_2 => ?_) (fun c_2 => ?_)
    · have hF := ifp hF c_2
      refine lv_iload_n hx hb dX10_told_49 rfl (lv_at hl 1 rfl) ?_
      by_cases hk0 : wh = 0
      · have hF := ifp hF hk0
        refine lv_tableIn (off := 34) (tgt := 84) hx hb dX10_told_50 (by rw [hk0]; first | done | decide) (by rw [hk0]; first | done | decide) (by rw [hk0]; first | done | rfl) (by decide) ?_
        refine lv_aload_n hx hb dX10_told_84 rfl (lv_at hl 0 rfl) ?_
        refine hget hx hb hts hown hE fl_X10_146 hP 0 rfl rfl dX10_told_85 ?_
        subst hF
        exact hm_iret hx hb hr hlk hP hD hS hpost dX10_told_88
      · have hF := ifn hF hk0
        by_cases hk1 : wh = 1
        · have hF := ifp hF hk1
          refine lv_tableIn (off := 39) (tgt := 89) hx hb dX10_told_50 (by rw [hk1]; first | done | decide) (by rw [hk1]; first | done | decide) (by rw [hk1]; first | done | rfl) (by decide) ?_
          refine lv_aload_n hx hb dX10_told_89 rfl (lv_at hl 0 rfl) ?_
          refine hget hx hb hts hown hE fl_X10_258 hP 0 rfl rfl dX10_told_90 ?_
          subst hF
          exact hm_iret hx hb hr hlk hP hD hS hpost dX10_told_93
        · have hF := ifn hF hk1
          by_cases hk2 : wh = 2
          · have hF := ifp hF hk2
            refine lv_tableIn (off := 44) (tgt := 94) hx hb dX10_told_50 (by rw [hk2]; first | done | decide) (by rw [hk2]; first | done | decide) (by rw [hk2]; first | done | rfl) (by decide) ?_
            refine lv_aload_n hx hb dX10_told_94 rfl (lv_at hl 0 rfl) ?_
            refine hget hx hb hts hown hE fl_X10_77 hP 0 rfl rfl dX10_told_95 ?_
            subst hF
            exact hm_iret hx hb hr hlk hP hD hS hpost dX10_told_98
          · have hF := ifn hF hk2
            by_cases hk3 : wh = 3
            · have hF := ifp hF hk3
              refine lv_tableIn (off := 49) (tgt := 99) hx hb dX10_told_50 (by rw [hk3]; first | done | decide) (by rw [hk3]; first | done | decide) (by rw [hk3]; first | done | rfl) (by decide) ?_
              refine lv_aload_n hx hb dX10_told_99 rfl (lv_at hl 0 rfl) ?_
              refine hget hx hb hts hown hE fl_X10_81 hP 0 rfl rfl dX10_told_100 ?_
              subst hF
              exact hm_iret hx hb hr hlk hP hD hS hpost dX10_told_103
            · have hF := ifn hF hk3
              by_cases hk4 : wh = 4
              · have hF := ifp hF hk4
                refine lv_tableIn (off := 54) (tgt := 104) hx hb dX10_told_50 (by rw [hk4]; first | done | decide) (by rw [hk4]; first | done | decide) (by rw [hk4]; first | done | rfl) (by decide) ?_
                refine lv_aload_n hx hb dX10_told_104 rfl (lv_at hl 0 rfl) ?_
                refine hget hx hb hts hown hE fl_X10_84 hP 0 rfl rfl dX10_told_105 ?_
                subst hF
                exact hm_iret hx hb hr hlk hP hD hS hpost dX10_told_108
              · have hF := ifn hF hk4
                have ehk0 : (wh).toInt ≠ 0 := fun h => hk0 (Int32.toInt_inj.mp h)
                have ehk1 : (wh).toInt ≠ 1 := fun h => hk1 (Int32.toInt_inj.mp h)
                have ehk2 : (wh).toInt ≠ 2 := fun h => hk2 (Int32.toInt_inj.mp h)
                have ehk3 : (wh).toInt ≠ 3 := fun h => hk3 (Int32.toInt_inj.mp h)
                have ehk4 : (wh).toInt ≠ 4 := fun h => hk4 (Int32.toInt_inj.mp h)
                refine lv_tableOut (tgt := 109) hx hb dX10_told_50 (by omega) (by decide) ?_
                refine lv_bipush (v := (-2)) hx hb dX10_told_109 (by decide) ?_
                subst hF
                exact hm_iret hx hb hr hlk hP hD hS hpost dX10_told_111
    · have hF := ifn hF c_2
      refine lv_aload_n hx hb dX10_told_37 rfl (lv_at hl 0 rfl) ?_
      refine hget hx hb hts hown hE fl_X10_69 hP 0 rfl rfl dX10_told_38 ?_
      refine lv_iload_n hx hb dX10_told_41 rfl (lv_at hl 1 rfl) ?_
      refine lv_bipush (v := 20) hx hb dX10_told_42 (by decide) ?_
      refine lv_isub hx hb dX10_told_44 ?_
      refine hm_S (wn := [(mo, .inr (8, [.long mbd, .int mby, .int mgr, .int mol, .ref aMM, .ref aMT, .int mmy, .ref aPD, .int mpm, .long mrd, .int mbm, .int mbw, .long mpl, .ref aST, .ref aPL, .ref aRS, .ref aLA, .ref aBM, .int msm, .ref aRP, .ref aFI, .ref aFM, .ref aGB, .ref aGM, .ref aGV, .ref aGR, .int mgs, .ref aKB, .ref aKP, .ref aIK, .int mka, .int miw]))]) (wr := [(mo, .inr (8, [.long mbd, .int mby, .int mgr, .int mol, .ref aMM, .ref aMT, .int mmy, .ref aPD, .int mpm, .long mrd, .int mbm, .int mbw, .long mpl, .ref aST, .ref aPL, .ref aRS, .ref aLA, .ref aBM, .int msm, .ref aRP, .ref aFI, .ref aFM, .ref aGB, .ref aGM, .ref aGV, .ref aGR, .int mgs, .ref aKB, .ref aKP, .ref aIK, .int mka, .int miw]))]) (rest := []) (sn := [.int (f_X10_ageOf mbd (wh - 20))]) hx hb hml hown hts hE hA (k_X10_ageOf G l mbd (wh - 20) _ rfl) sm_X10_ageOf mw_892 ⟨rfl, rfl, Nat.le_of_ble_eq_true rfl, Nat.le_of_ble_eq_true rfl⟩ hP hD hS [] [0] [0] rfl rfl rfl (by decide) hl.1 rfl rfl (Nat.le_of_ble_eq_true rfl) dX10_told_45 ⟨Nat.le_of_ble_eq_true rfl, Nat.le_of_ble_eq_true rfl⟩ (fun H locs hP hD hS => ?_)
      subst hF
      exact hm_iret hx hb hr hlk hP hD hS hpost dX10_told_48
  · have hF := ifn hF c_1
    refine lv_aload_n hx hb dX10_told_14 rfl (lv_at hl 0 rfl) ?_
    refine lv_iload_n hx hb dX10_told_15 rfl (lv_at hl 1 rfl) ?_
    refine lv_bipush (v := 10) hx hb dX10_told_16 (by decide) ?_
    refine lv_isub hx hb dX10_told_18 ?_
    refine hm_V (wn := [(mo, .inr (8, [.long mbd, .int mby, .int mgr, .int mol, .ref aMM, .ref aMT, .int mmy, .ref aPD, .int mpm, .long mrd, .int mbm, .int mbw, .long mpl, .ref aST, .ref aPL, .ref aRS, .ref aLA, .ref aBM, .int msm, .ref aRP, .ref aFI, .ref aFM, .ref aGB, .ref aGM, .ref aGV, .ref aGR, .int mgs, .ref aKB, .ref aKP, .ref aIK, .int mka, .int miw]))]) (wr := []) (rest := []) (sn := [.int (f_X10_cellNow mbd (wh - 10))]) hx hb hml hown hts hE hA (k_X10_cellNow G l mo aMM aMT aPD aST aPL aRS aLA aBM aRP aFI aFM aGB aGM aGV aGR aKB aKP aIK mbd mby mgr mol mmy mpm mrd mbm mbw mpl msm mgs mka miw (wh - 10) _ rfl) sm_X10_cellNow mw_888 ⟨rfl, rfl, Nat.le_of_ble_eq_true rfl, Nat.le_of_ble_eq_true rfl⟩ hP hD hS 0 rfl rfl [0] [] [0] rfl rfl rfl (by decide) hl.1 rfl rfl (Nat.le_of_ble_eq_true rfl) dX10_told_19 ⟨Nat.le_of_ble_eq_true rfl, Nat.le_of_ble_eq_true rfl⟩ (fun H locs hP hD hS => ?_)
    subst hF
    exact hm_iret hx hb hr hlk hP hD hS hpost dX10_told_22
