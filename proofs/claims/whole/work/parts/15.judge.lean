def f_X2_whyNot (rb : Int32) (rg : Int32) (ro : Int32) (st : Int64) (fr : Int32) (to : Int32) : Option Int32 :=
  Option.bind (f_X5_ending rb rg ro st) (fun r2_1 => if r2_1 = 0 then Option.bind (f_X8_manOn st fr) (fun r12_3 => jlet (f_X8_turnOf st) (fun v6_4 => if r12_3 = (-6) then some 2 else if (r12_3 / 3) = v6_4 then jlet (f_X8_ageOf st r12_3) (fun v7_7 => if (f_X5_kindOf rb rg ro v7_7) = 3 then some 3 else jlet (jshl 1 to) (fun v8_9 => Option.bind (f_X5_targets rb rg ro fr v7_7 0 0) (fun r73_10 => if (r73_10 &&& v8_9) = 0 then some 4 else Option.bind (f_X8_cellsOf st v6_4) (fun r87_12 => Option.bind (f_X8_cellsOf st (1 - v6_4)) (fun r104_13 => Option.bind (f_X5_targets rb rg ro fr v7_7 0 (r87_12 ||| r104_13)) (fun r108_14 => if (r108_14 &&& v8_9) = 0 then some 5 else if (r87_12 &&& v8_9) = 0 then some 0 else some 6)))))) else some 2)) else some 1)
abbrev rm_X2_whyNot : Room := { frames := 4, cells := 0, slots := 0, locals := 105 }
set_option maxHeartbeats 4000000 in
set_option maxRecDepth 100000 in
theorem k_X2_whyNot (G : gT) (l : Launch) (ru : Nat) (rb : Int32) (rg : Int32) (ro : Int32) (st : Int64) (fr : Int32) (to : Int32) (r : Int32) (hF : f_X2_whyNot rb rg ro st fr to = some r) : HM G l yX2_whyNot (.code yX2_whyNot cX2_whyNot 10 (some .int) :: UW) rm_X2_whyNot 0 0 [.ref ru, .long st, .int fr, .int to] [(ru, .inr (5, [.int rb, .int rg, .int ro]))] (some (.int r)) [(ru, .inr (5, [.int rb, .int rg, .int ro]))] := by
  refine HM.ofW (by decide) (Nat.le_of_ble_eq_true rfl) ?_
  intro p e s m args below meth c A post hpost hC hP hD hS ls hl
  obtain ⟨hx, hb, hr, hml, hown, hts, hlk, hE, hA⟩ := hC
  have hl : lv_has ls 10 [(0, .ref ru), (1, .long st), (3, .int fr), (4, .int to)] := hl
  unfold f_X2_whyNot at hF
  refine lv_aload_n hx hb dX2_whyNot_0 rfl (lv_at hl 0 rfl) ?_
  refine lv_lload_n hx hb dX2_whyNot_1 rfl (lv_at hl 1 rfl) ?_
  obtain ⟨r2_1, hr2_1, hF⟩ := bnd hF
  refine hm_V (wn := [(ru, .inr (5, [.int rb, .int rg, .int ro]))]) (wr := []) (rest := []) (sn := [.int r2_1]) hx hb hml hown hts hE hA (k_X5_ending G l ru rb rg ro st r2_1 hr2_1) sm_X5_ending mw_411 ⟨rfl, rfl, Nat.le_of_ble_eq_true rfl, Nat.le_of_ble_eq_true rfl⟩ hP hD hS 0 rfl rfl [0] [] [0] rfl rfl rfl (by decide) hl.1 rfl rfl (Nat.le_of_ble_eq_true rfl) dX2_whyNot_2 ⟨Nat.le_of_ble_eq_true rfl, Nat.le_of_ble_eq_true rfl⟩ (fun H locs hP hD hS => ?_)
  refine lv_if_eq (tgt := 10) hx hb dX2_whyNot_5 (by decide) (fun c_2 => ?_) (fun c_2 => ?_)
  · have hF := ifp hF c_2
    refine lv_lload_n hx hb dX2_whyNot_10 rfl (lv_at hl 1 rfl) ?_
    refine lv_iload_n hx hb dX2_whyNot_11 rfl (lv_at hl 2 rfl) ?_
    obtain ⟨r12_3, hr12_3, hF⟩ := bnd hF
    refine hm_S (wn := [(ru, .inr (5, [.int rb, .int rg, .int ro]))]) (wr := [(ru, .inr (5, [.int rb, .int rg, .int ro]))]) (rest := []) (sn := [.int r12_3]) hx hb hml hown hts hE hA (k_X8_manOn G l st fr r12_3 hr12_3) sm_X8_manOn mw_412 ⟨rfl, rfl, Nat.le_of_ble_eq_true rfl, Nat.le_of_ble_eq_true rfl⟩ hP hD hS [] [0] [0] rfl rfl rfl (by decide) hl.1 rfl rfl (Nat.le_of_ble_eq_true rfl) dX2_whyNot_12 ⟨Nat.le_of_ble_eq_true rfl, Nat.le_of_ble_eq_true rfl⟩ (fun H locs hP hD hS => ?_)
    refine lv_istore (lv' := [(5, .int r12_3), (0, .ref ru), (1, .long st), (3, .int fr), (4, .int to)]) hx hb dX2_whyNot_15 hl (by decide) rfl (fun ls hl => ?_)
    refine lv_lload_n hx hb dX2_whyNot_17 rfl (lv_at hl 2 rfl) ?_
    refine hm_S (wn := [(ru, .inr (5, [.int rb, .int rg, .int ro]))]) (wr := [(ru, .inr (5, [.int rb, .int rg, .int ro]))]) (rest := []) (sn := [.int (f_X8_turnOf st)]) hx hb hml hown hts hE hA (k_X8_turnOf G l st _ rfl) sm_X8_turnOf mw_413 ⟨rfl, rfl, Nat.le_of_ble_eq_true rfl, Nat.le_of_ble_eq_true rfl⟩ hP hD hS [] [0] [0] rfl rfl rfl (by decide) hl.1 rfl rfl (Nat.le_of_ble_eq_true rfl) dX2_whyNot_18 ⟨Nat.le_of_ble_eq_true rfl, Nat.le_of_ble_eq_true rfl⟩ (fun H locs hP hD hS => ?_)
    refine lv_topi (fun v6_4 ev6_4 => ?_)
    have hF := jl hF ev6_4
    refine lv_istore (lv' := [(6, .int v6_4), (5, .int r12_3), (0, .ref ru), (1, .long st), (3, .int fr), (4, .int to)]) hx hb dX2_whyNot_21 hl (by decide) rfl (fun ls hl => ?_)
    refine lv_iload hx hb dX2_whyNot_23 (lv_at hl 1 rfl) ?_
    refine lv_bipush (v := (-6)) hx hb dX2_whyNot_25 (by decide) ?_
    refine lv_icmp_eq (tgt := 39) hx hb dX2_whyNot_27 (by decide) (fun c_5 => ?_) (fun c_5 => ?_)
    · have hF := ifp hF c_5
      refine lv_iconst (v := 2) hx hb dX2_whyNot_39 (by decide) ?_
      have hF := Option.some.inj hF
      subst hF
      exact hm_iret hx hb hr hlk hP hD hS hpost dX2_whyNot_40
    · have hF := ifn hF c_5
      refine lv_iload hx hb dX2_whyNot_30 (lv_at hl 1 rfl) ?_
      refine lv_iconst (v := 3) hx hb dX2_whyNot_32 (by decide) ?_
      refine lv_idiv hx hb dX2_whyNot_33 (by decide) ?_
      refine lv_iload hx hb dX2_whyNot_34 (lv_at hl 0 rfl) ?_
      refine lv_icmp_eq (tgt := 41) hx hb dX2_whyNot_36 (by decide) (fun c_6 => ?_) (fun c_6 => ?_)
      · have hF := ifp hF c_6
        refine lv_lload_n hx hb dX2_whyNot_41 rfl (lv_at hl 3 rfl) ?_
        refine lv_iload hx hb dX2_whyNot_42 (lv_at hl 1 rfl) ?_
        refine hm_S (wn := [(ru, .inr (5, [.int rb, .int rg, .int ro]))]) (wr := [(ru, .inr (5, [.int rb, .int rg, .int ro]))]) (rest := []) (sn := [.int (f_X8_ageOf st r12_3)]) hx hb hml hown hts hE hA (k_X8_ageOf G l st r12_3 _ rfl) sm_X8_ageOf mw_414 ⟨rfl, rfl, Nat.le_of_ble_eq_true rfl, Nat.le_of_ble_eq_true rfl⟩ hP hD hS [] [0] [0] rfl rfl rfl (by decide) hl.1 rfl rfl (Nat.le_of_ble_eq_true rfl) dX2_whyNot_44 ⟨Nat.le_of_ble_eq_true rfl, Nat.le_of_ble_eq_true rfl⟩ (fun H locs hP hD hS => ?_)
        refine lv_topi (fun v7_7 ev7_7 => ?_)
        have hF := jl hF ev7_7
        refine lv_istore (lv' := [(7, .int v7_7), (6, .int v6_4), (5, .int r12_3), (0, .ref ru), (1, .long st), (3, .int fr), (4, .int to)]) hx hb dX2_whyNot_47 hl (by decide) rfl (fun ls hl => ?_)
        refine lv_aload_n hx hb dX2_whyNot_49 rfl (lv_at hl 3 rfl) ?_
        refine lv_iload hx hb dX2_whyNot_50 (lv_at hl 0 rfl) ?_
        refine hm_V (wn := [(ru, .inr (5, [.int rb, .int rg, .int ro]))]) (wr := []) (rest := []) (sn := [.int (f_X5_kindOf rb rg ro v7_7)]) hx hb hml hown hts hE hA (k_X5_kindOf G l ru rb rg ro v7_7 _ rfl) sm_X5_kindOf mw_415 ⟨rfl, rfl, Nat.le_of_ble_eq_true rfl, Nat.le_of_ble_eq_true rfl⟩ hP hD hS 0 rfl rfl [0] [] [0] rfl rfl rfl (by decide) hl.1 rfl rfl (Nat.le_of_ble_eq_true rfl) dX2_whyNot_52 ⟨Nat.le_of_ble_eq_true rfl, Nat.le_of_ble_eq_true rfl⟩ (fun H locs hP hD hS => ?_)
        refine lv_iconst (v := 3) hx hb dX2_whyNot_55 (by decide) ?_
        refine lv_icmp_ne (tgt := 61) hx hb dX2_whyNot_56 (by decide) (fun c_8 => ?_) (fun c_8 => ?_)
        · have hF := ifn hF c_8
          refine lv_iconst (v := 1) hx hb dX2_whyNot_61 (by decide) ?_
          refine lv_iload hx hb dX2_whyNot_62 (lv_at hl 6 rfl) ?_
          refine lv_ishl hx hb dX2_whyNot_64 ?_
          refine lv_topi (fun v8_9 ev8_9 => ?_)
          have hF := jl hF ev8_9
          refine lv_istore (lv' := [(8, .int v8_9), (7, .int v7_7), (6, .int v6_4), (5, .int r12_3), (0, .ref ru), (1, .long st), (3, .int fr), (4, .int to)]) hx hb dX2_whyNot_65 hl (by decide) rfl (fun ls hl => ?_)
          refine lv_aload_n hx hb dX2_whyNot_67 rfl (lv_at hl 4 rfl) ?_
          refine lv_iload_n hx hb dX2_whyNot_68 rfl (lv_at hl 6 rfl) ?_
          refine lv_iload hx hb dX2_whyNot_69 (lv_at hl 1 rfl) ?_
          refine lv_iconst (v := 0) hx hb dX2_whyNot_71 (by decide) ?_
          refine lv_iconst (v := 0) hx hb dX2_whyNot_72 (by decide) ?_
          obtain ⟨r73_10, hr73_10, hF⟩ := bnd hF
          refine hm_V (wn := [(ru, .inr (5, [.int rb, .int rg, .int ro]))]) (wr := []) (rest := []) (sn := [.int r73_10]) hx hb hml hown hts hE hA (k_X5_targets G l ru rb rg ro fr v7_7 0 0 r73_10 hr73_10) sm_X5_targets mw_416 ⟨rfl, rfl, Nat.le_of_ble_eq_true rfl, Nat.le_of_ble_eq_true rfl⟩ hP hD hS 0 rfl rfl [0] [] [0] rfl rfl rfl (by decide) hl.1 rfl rfl (Nat.le_of_ble_eq_true rfl) dX2_whyNot_73 ⟨Nat.le_of_ble_eq_true rfl, Nat.le_of_ble_eq_true rfl⟩ (fun H locs hP hD hS => ?_)
          refine lv_iload hx hb dX2_whyNot_76 (lv_at hl 0 rfl) ?_
          refine lv_iand hx hb dX2_whyNot_78 ?_
          refine lv_if_ne (tgt := 84) hx hb dX2_whyNot_79 (by decide) (fun c_11 => ?_) (fun c_11 => ?_)
          · have hF := ifn hF c_11
            refine lv_lload_n hx hb dX2_whyNot_84 rfl (lv_at hl 5 rfl) ?_
            refine lv_iload hx hb dX2_whyNot_85 (lv_at hl 2 rfl) ?_
            obtain ⟨r87_12, hr87_12, hF⟩ := bnd hF
            refine hm_S (wn := [(ru, .inr (5, [.int rb, .int rg, .int ro]))]) (wr := [(ru, .inr (5, [.int rb, .int rg, .int ro]))]) (rest := []) (sn := [.int r87_12]) hx hb hml hown hts hE hA (k_X8_cellsOf G l st v6_4 r87_12 hr87_12) sm_X8_cellsOf mw_417 ⟨rfl, rfl, Nat.le_of_ble_eq_true rfl, Nat.le_of_ble_eq_true rfl⟩ hP hD hS [] [0] [0] rfl rfl rfl (by decide) hl.1 rfl rfl (Nat.le_of_ble_eq_true rfl) dX2_whyNot_87 ⟨Nat.le_of_ble_eq_true rfl, Nat.le_of_ble_eq_true rfl⟩ (fun H locs hP hD hS => ?_)
            refine lv_istore (lv' := [(9, .int r87_12), (8, .int v8_9), (7, .int v7_7), (6, .int v6_4), (5, .int r12_3), (0, .ref ru), (1, .long st), (3, .int fr), (4, .int to)]) hx hb dX2_whyNot_90 hl (by decide) rfl (fun ls hl => ?_)
            refine lv_aload_n hx hb dX2_whyNot_92 rfl (lv_at hl 5 rfl) ?_
            refine lv_iload_n hx hb dX2_whyNot_93 rfl (lv_at hl 7 rfl) ?_
            refine lv_iload hx hb dX2_whyNot_94 (lv_at hl 2 rfl) ?_
            refine lv_iconst (v := 0) hx hb dX2_whyNot_96 (by decide) ?_
            refine lv_iload hx hb dX2_whyNot_97 (lv_at hl 0 rfl) ?_
            refine lv_lload_n hx hb dX2_whyNot_99 rfl (lv_at hl 6 rfl) ?_
            refine lv_iconst (v := 1) hx hb dX2_whyNot_100 (by decide) ?_
            refine lv_iload hx hb dX2_whyNot_101 (lv_at hl 3 rfl) ?_
            refine lv_isub hx hb dX2_whyNot_103 ?_
            obtain ⟨r104_13, hr104_13, hF⟩ := bnd hF
            refine hm_S (wn := [(ru, .inr (5, [.int rb, .int rg, .int ro]))]) (wr := [(ru, .inr (5, [.int rb, .int rg, .int ro]))]) (rest := [.int r87_12, .int 0, .int v7_7, .int fr, .ref ru]) (sn := [.int r104_13, .int r87_12, .int 0, .int v7_7, .int fr, .ref ru]) hx hb hml hown hts hE hA (k_X8_cellsOf G l st (1 - v6_4) r104_13 hr104_13) sm_X8_cellsOf mw_417 ⟨rfl, rfl, Nat.le_of_ble_eq_true rfl, Nat.le_of_ble_eq_true rfl⟩ hP hD hS [] [0] [0] rfl rfl rfl (by decide) hl.1 rfl rfl (Nat.le_of_ble_eq_true rfl) dX2_whyNot_104 ⟨Nat.le_of_ble_eq_true rfl, Nat.le_of_ble_eq_true rfl⟩ (fun H locs hP hD hS => ?_)
            refine lv_ior hx hb dX2_whyNot_107 ?_
            obtain ⟨r108_14, hr108_14, hF⟩ := bnd hF
            refine hm_V (wn := [(ru, .inr (5, [.int rb, .int rg, .int ro]))]) (wr := []) (rest := []) (sn := [.int r108_14]) hx hb hml hown hts hE hA (k_X5_targets G l ru rb rg ro fr v7_7 0 (r87_12 ||| r104_13) r108_14 hr108_14) sm_X5_targets mw_416 ⟨rfl, rfl, Nat.le_of_ble_eq_true rfl, Nat.le_of_ble_eq_true rfl⟩ hP hD hS 0 rfl rfl [0] [] [0] rfl rfl rfl (by decide) hl.1 rfl rfl (Nat.le_of_ble_eq_true rfl) dX2_whyNot_108 ⟨Nat.le_of_ble_eq_true rfl, Nat.le_of_ble_eq_true rfl⟩ (fun H locs hP hD hS => ?_)
            refine lv_iload hx hb dX2_whyNot_111 (lv_at hl 1 rfl) ?_
            refine lv_iand hx hb dX2_whyNot_113 ?_
            refine lv_if_ne (tgt := 119) hx hb dX2_whyNot_114 (by decide) (fun c_15 => ?_) (fun c_15 => ?_)
            · have hF := ifn hF c_15
              refine lv_iload hx hb dX2_whyNot_119 (lv_at hl 0 rfl) ?_
              refine lv_iload hx hb dX2_whyNot_121 (lv_at hl 1 rfl) ?_
              refine lv_iand hx hb dX2_whyNot_123 ?_
              refine lv_if_eq (tgt := 132) hx hb dX2_whyNot_124 (by decide) (fun c_16 => ?_) (fun c_16 => ?_)
              · have hF := ifp hF c_16
                refine lv_iconst (v := 0) hx hb dX2_whyNot_132 (by decide) ?_
                have hF := Option.some.inj hF
                subst hF
                exact hm_iret hx hb hr hlk hP hD hS hpost dX2_whyNot_133
              · have hF := ifn hF c_16
                refine lv_bipush (v := 6) hx hb dX2_whyNot_127 (by decide) ?_
                refine lv_goto (tgt := 133) hx hb dX2_whyNot_129 (by decide) ?_
                have hF := Option.some.inj hF
                subst hF
                exact hm_iret hx hb hr hlk hP hD hS hpost dX2_whyNot_133
            · have hF := ifp hF c_15
              refine lv_iconst (v := 5) hx hb dX2_whyNot_117 (by decide) ?_
              have hF := Option.some.inj hF
              subst hF
              exact hm_iret hx hb hr hlk hP hD hS hpost dX2_whyNot_118
          · have hF := ifp hF c_11
            refine lv_iconst (v := 4) hx hb dX2_whyNot_82 (by decide) ?_
            have hF := Option.some.inj hF
            subst hF
            exact hm_iret hx hb hr hlk hP hD hS hpost dX2_whyNot_83
        · have hF := ifp hF c_8
          refine lv_iconst (v := 3) hx hb dX2_whyNot_59 (by decide) ?_
          have hF := Option.some.inj hF
          subst hF
          exact hm_iret hx hb hr hlk hP hD hS hpost dX2_whyNot_60
      · have hF := ifn hF c_6
        refine lv_iconst (v := 2) hx hb dX2_whyNot_39 (by decide) ?_
        have hF := Option.some.inj hF
        subst hF
        exact hm_iret hx hb hr hlk hP hD hS hpost dX2_whyNot_40
  · have hF := ifn hF c_2
    refine lv_iconst (v := 1) hx hb dX2_whyNot_8 (by decide) ?_
    have hF := Option.some.inj hF
    subst hF
    exact hm_iret hx hb hr hlk hP hD hS hpost dX2_whyNot_9
def f_X2_passes_L8 (rb : Int32) (rg : Int32) (ro : Int32) (psz : Int32) (psg : (Nat → Int32)) : Nat → Int32 → Int32 → Int32 → Int64 → Option (Int32 × Int32 × Int32 × Int64)
  | 0, _, _, _, _ => none
  | n+1, x5_1, jb_2, jr_3, je_4 =>
  if (f_X3_countMoves psz) ≤ x5_1 then some (1, jb_2, jr_3, je_4) else if 12 ≤ x5_1 then some (1, jb_2, jr_3, je_4) else Option.bind (f_X3_fromAt psz psg x5_1) (fun r34_7 => Option.bind (f_X3_toAt psz psg x5_1) (fun r41_8 => Option.bind (f_X2_whyNot rb rg ro je_4 r34_7 r41_8) (fun r44_9 => if r44_9 = 0 then Option.bind (f_X3_fromAt psz psg x5_1) (fun r81_11 => Option.bind (f_X8_manOn je_4 r81_11) (fun r84_12 => Option.bind (f_X3_toAt psz psg x5_1) (fun r93_13 => Option.bind (f_X8_after je_4 ((jshl r84_12 5) ||| r93_13)) (fun r97_14 => jlet (x5_1 + 1) (fun v5_15 => (f_X2_passes_L8 rb rg ro psz psg n) v5_15 jb_2 jr_3 r97_14))))) else some (0, x5_1, r44_9, je_4))))
def f_X2_passes (jb : Int32) (jr : Int32) (rb : Int32) (rg : Int32) (ro : Int32) (psz : Int32) (psg : (Nat → Int32)) (st : Int64) : Option (Int32 × Int32 × Int32 × Int64) :=
  f_X2_passes_L8 rb rg ro psz psg 100 0 jb jr st
abbrev rm_X2_passes : Room := { frames := 5, cells := 0, slots := 0, locals := 134 }
set_option maxHeartbeats 4000000 in
set_option maxRecDepth 100000 in
theorem k_X2_passes (G : gT) (l : Launch) (ju : Nat) (ru : Nat) (pd : Nat) (pS : Nat) (jb : Int32) (jr : Int32) (je : Int64) (rb : Int32) (rg : Int32) (ro : Int32) (psz : Int32) (psg : (Nat → Int32)) (st : Int64) (r : Int32 × Int32 × Int32 × Int64) (hF : f_X2_passes jb jr rb rg ro psz psg st = some r) : HM G l yX2_passes (.code yX2_passes cX2_passes 7 (some .boolean) :: UW) rm_X2_passes 0 0 [.ref ju, .ref ru, .long st, .ref pd] [(ju, .inr (2, [.int jb, .int jr, .long je])), (ru, .inr (5, [.int rb, .int rg, .int ro])), (pd, .inr (3, [.ref pS, .int psz])), (pS, .inl (gB G, 48, .inl psg))] (some (.int r.1)) [(ju, .inr (2, [.int r.2.1, .int r.2.2.1, .long r.2.2.2])), (ru, .inr (5, [.int rb, .int rg, .int ro])), (pd, .inr (3, [.ref pS, .int psz])), (pS, .inl (gB G, 48, .inl psg))] := by
  refine HM.ofW (by decide) (Nat.le_of_ble_eq_true rfl) ?_
  intro p e s m args below meth c A post hpost hC hP hD hS ls hl
  obtain ⟨hx, hb, hr, hml, hown, hts, hlk, hE, hA⟩ := hC
  have hl : lv_has ls 7 [(0, .ref ju), (1, .ref ru), (2, .long st), (4, .ref pd)] := hl
  unfold f_X2_passes at hF
  refine lv_aload_n hx hb dX2_passes_0 rfl (lv_at hl 0 rfl) ?_
  refine lv_lload_n hx hb dX2_passes_1 rfl (lv_at hl 2 rfl) ?_
  refine hput hx hb hts hown hE fl_X2_18 ft_X2_2 hP hD hS 0 rfl rfl rfl rfl (Nat.le_of_ble_eq_true rfl) (wn := [(ju, .inr (2, [.int jb, .int jr, .long st])), (ru, .inr (5, [.int rb, .int rg, .int ro])), (pd, .inr (3, [.ref pS, .int psz])), (pS, .inl (gB G, 48, .inl psg))]) rfl dX2_passes_2 (fun H locs hP hD hS => ?_)
  refine lv_iconst (v := 0) hx hb dX2_passes_5 (by decide) ?_
  refine lv_istore (lv' := [(5, .int 0), (0, .ref ju), (1, .ref ru), (2, .long st), (4, .ref pd)]) hx hb dX2_passes_6 hl (by decide) rfl (fun ls hl => ?_)
  have hL8 : ∀ (n8 : Nat) (x5_1 : Int32) (jb_2 : Int32) (jr_3 : Int32) (je_4 : Int64) (H : Heap) (locs : List Loc) (ls : Array Slot), f_X2_passes_L8 rb rg ro psz psg n8 x5_1 jb_2 jr_3 je_4 = some r → va_P (gD G) vwCl [(ju, .inr (2, [.int jb_2, .int jr_3, .long je_4])), (ru, .inr (5, [.int rb, .int rg, .int ro])), (pd, .inr (3, [.ref pS, .int psz])), (pS, .inl (gB G, 48, .inl psg))] H → va_D A [(ju, .inr (2, [.int jb_2, .int jr_3, .long je_4])), (ru, .inr (5, [.int rb, .int rg, .int ro])), (pd, .inr (3, [.ref pS, .int psz])), (pS, .inl (gB G, 48, .inl psg))] → va_S A s.heap H locs → lv_has ls 7 [(0, .ref ju), (1, .ref ru), (4, .ref pd), (5, .int x5_1)] → W p l e rm_X2_passes s m args below meth c H locs 0 0 (MQ below (HXq G post A) args s 0 0 A) (F0 m 8 ls []) := by
    intro n8
    induction n8 with
    | zero =>
      intro x5_1 jb_2 jr_3 je_4 H locs ls hF
      exact absurd hF (fun h => by cases h)
    | succ n8 ih8 =>
      intro x5_1 jb_2 jr_3 je_4 H locs ls hF hP hD hS hl
      unfold f_X2_passes_L8 at hF
      refine lv_iload hx hb dX2_passes_8 (lv_at hl 3 rfl) ?_
      refine lv_aload hx hb dX2_passes_10 (lv_at hl 2 rfl) ?_
      refine hm_V (wn := [(ju, .inr (2, [.int jb_2, .int jr_3, .long je_4])), (ru, .inr (5, [.int rb, .int rg, .int ro])), (pd, .inr (3, [.ref pS, .int psz])), (pS, .inl (gB G, 48, .inl psg))]) (wr := [(ju, .inr (2, [.int jb_2, .int jr_3, .long je_4])), (ru, .inr (5, [.int rb, .int rg, .int ro])), (pS, .inl (gB G, 48, .inl psg))]) (rest := [.int x5_1]) (sn := [.int (f_X3_countMoves psz), .int x5_1]) hx hb hml hown hts hE hA (k_X3_countMoves G l pd pS psz _ rfl) sm_X3_countMoves mw_396 ⟨rfl, rfl, Nat.le_of_ble_eq_true rfl, Nat.le_of_ble_eq_true rfl⟩ hP hD hS 2 rfl rfl [2] [0, 1, 3] [0, 1, 3, 2] rfl rfl rfl (by decide) hl.1 rfl rfl (Nat.le_of_ble_eq_true rfl) dX2_passes_12 ⟨Nat.le_of_ble_eq_true rfl, Nat.le_of_ble_eq_true rfl⟩ (fun H locs hP hD hS => ?_)
      refine lv_icmp_ge (tgt := 109) hx hb dX2_passes_15 (by decide) (fun c_5 => ?_) (fun c_5 => ?_)
      · have hF := ifp hF c_5
        refine lv_iconst (v := 1) hx hb dX2_passes_109 (by decide) ?_
        have hF := Option.some.inj hF
        subst hF
        exact hm_zret hx hb hr hlk hP hD hS (by decide +kernel) hpost dX2_passes_110
      · have hF := ifn hF c_5
        refine lv_iload hx hb dX2_passes_18 (lv_at hl 3 rfl) ?_
        refine lv_bipush (v := 12) hx hb dX2_passes_20 (by decide) ?_
        refine lv_icmp_ge (tgt := 109) hx hb dX2_passes_22 (by decide) (fun c_6 => ?_) (fun c_6 => ?_)
        · have hF := ifp hF c_6
          refine lv_iconst (v := 1) hx hb dX2_passes_109 (by decide) ?_
          have hF := Option.some.inj hF
          subst hF
          exact hm_zret hx hb hr hlk hP hD hS (by decide +kernel) hpost dX2_passes_110
        · have hF := ifn hF c_6
          refine lv_aload_n hx hb dX2_passes_25 rfl (lv_at hl 1 rfl) ?_
          refine lv_aload_n hx hb dX2_passes_26 rfl (lv_at hl 0 rfl) ?_
          refine hget hx hb hts hown hE fl_X2_18 hP 0 rfl rfl dX2_passes_27 ?_
          refine lv_aload hx hb dX2_passes_30 (lv_at hl 2 rfl) ?_
          refine lv_iload hx hb dX2_passes_32 (lv_at hl 3 rfl) ?_
          obtain ⟨r34_7, hr34_7, hF⟩ := bnd hF
          refine hm_V (wn := [(ju, .inr (2, [.int jb_2, .int jr_3, .long je_4])), (ru, .inr (5, [.int rb, .int rg, .int ro])), (pd, .inr (3, [.ref pS, .int psz])), (pS, .inl (gB G, 48, .inl psg))]) (wr := [(ju, .inr (2, [.int jb_2, .int jr_3, .long je_4])), (ru, .inr (5, [.int rb, .int rg, .int ro]))]) (rest := [.long je_4, .ref ru]) (sn := [.int r34_7, .long je_4, .ref ru]) hx hb hml hown hts hE hA (k_X3_fromAt G l pd pS psz psg x5_1 r34_7 hr34_7) sm_X3_fromAt mw_400 ⟨rfl, rfl, Nat.le_of_ble_eq_true rfl, Nat.le_of_ble_eq_true rfl⟩ hP hD hS 2 rfl rfl [2, 3] [0, 1] [0, 1, 2, 3] rfl rfl rfl (by decide) hl.1 rfl rfl (Nat.le_of_ble_eq_true rfl) dX2_passes_34 ⟨Nat.le_of_ble_eq_true rfl, Nat.le_of_ble_eq_true rfl⟩ (fun H locs hP hD hS => ?_)
          refine lv_aload hx hb dX2_passes_37 (lv_at hl 2 rfl) ?_
          refine lv_iload hx hb dX2_passes_39 (lv_at hl 3 rfl) ?_
          obtain ⟨r41_8, hr41_8, hF⟩ := bnd hF
          refine hm_V (wn := [(ju, .inr (2, [.int jb_2, .int jr_3, .long je_4])), (ru, .inr (5, [.int rb, .int rg, .int ro])), (pd, .inr (3, [.ref pS, .int psz])), (pS, .inl (gB G, 48, .inl psg))]) (wr := [(ju, .inr (2, [.int jb_2, .int jr_3, .long je_4])), (ru, .inr (5, [.int rb, .int rg, .int ro]))]) (rest := [.int r34_7, .long je_4, .ref ru]) (sn := [.int r41_8, .int r34_7, .long je_4, .ref ru]) hx hb hml hown hts hE hA (k_X3_toAt G l pd pS psz psg x5_1 r41_8 hr41_8) sm_X3_toAt mw_404 ⟨rfl, rfl, Nat.le_of_ble_eq_true rfl, Nat.le_of_ble_eq_true rfl⟩ hP hD hS 2 rfl rfl [2, 3] [0, 1] [0, 1, 2, 3] rfl rfl rfl (by decide) hl.1 rfl rfl (Nat.le_of_ble_eq_true rfl) dX2_passes_41 ⟨Nat.le_of_ble_eq_true rfl, Nat.le_of_ble_eq_true rfl⟩ (fun H locs hP hD hS => ?_)
          obtain ⟨r44_9, hr44_9, hF⟩ := bnd hF
          refine hm_S (wn := [(ju, .inr (2, [.int jb_2, .int jr_3, .long je_4])), (ru, .inr (5, [.int rb, .int rg, .int ro])), (pd, .inr (3, [.ref pS, .int psz])), (pS, .inl (gB G, 48, .inl psg))]) (wr := [(ju, .inr (2, [.int jb_2, .int jr_3, .long je_4])), (pd, .inr (3, [.ref pS, .int psz])), (pS, .inl (gB G, 48, .inl psg))]) (rest := []) (sn := [.int r44_9]) hx hb hml hown hts hE hA (k_X2_whyNot G l ru rb rg ro je_4 r34_7 r41_8 r44_9 hr44_9) sm_X2_whyNot mw_408 ⟨rfl, rfl, Nat.le_of_ble_eq_true rfl, Nat.le_of_ble_eq_true rfl⟩ hP hD hS [1] [0, 2, 3] [0, 3, 1, 2] rfl rfl rfl (by decide) hl.1 rfl rfl (Nat.le_of_ble_eq_true rfl) dX2_passes_44 ⟨Nat.le_of_ble_eq_true rfl, Nat.le_of_ble_eq_true rfl⟩ (fun H locs hP hD hS => ?_)
          refine lv_istore (lv' := [(6, .int r44_9), (0, .ref ju), (1, .ref ru), (4, .ref pd), (5, .int x5_1)]) hx hb dX2_passes_47 hl (by decide) rfl (fun ls hl => ?_)
          refine lv_iload hx hb dX2_passes_49 (lv_at hl 0 rfl) ?_
          refine lv_if_eq (tgt := 68) hx hb dX2_passes_51 (by decide) (fun c_10 => ?_) (fun c_10 => ?_)
          · have hF := ifp hF c_10
            refine lv_aload_n hx hb dX2_passes_68 rfl (lv_at hl 1 rfl) ?_
            refine lv_aload_n hx hb dX2_passes_69 rfl (lv_at hl 1 rfl) ?_
            refine hget hx hb hts hown hE fl_X2_18 hP 0 rfl rfl dX2_passes_70 ?_
            refine lv_aload_n hx hb dX2_passes_73 rfl (lv_at hl 1 rfl) ?_
            refine hget hx hb hts hown hE fl_X2_18 hP 0 rfl rfl dX2_passes_74 ?_
            refine lv_aload hx hb dX2_passes_77 (lv_at hl 3 rfl) ?_
            refine lv_iload hx hb dX2_passes_79 (lv_at hl 4 rfl) ?_
            obtain ⟨r81_11, hr81_11, hF⟩ := bnd hF
            refine hm_V (wn := [(ju, .inr (2, [.int jb_2, .int jr_3, .long je_4])), (ru, .inr (5, [.int rb, .int rg, .int ro])), (pd, .inr (3, [.ref pS, .int psz])), (pS, .inl (gB G, 48, .inl psg))]) (wr := [(ju, .inr (2, [.int jb_2, .int jr_3, .long je_4])), (ru, .inr (5, [.int rb, .int rg, .int ro]))]) (rest := [.long je_4, .long je_4, .ref ju]) (sn := [.int r81_11, .long je_4, .long je_4, .ref ju]) hx hb hml hown hts hE hA (k_X3_fromAt G l pd pS psz psg x5_1 r81_11 hr81_11) sm_X3_fromAt mw_400 ⟨rfl, rfl, Nat.le_of_ble_eq_true rfl, Nat.le_of_ble_eq_true rfl⟩ hP hD hS 2 rfl rfl [2, 3] [0, 1] [0, 1, 2, 3] rfl rfl rfl (by decide) hl.1 rfl rfl (Nat.le_of_ble_eq_true rfl) dX2_passes_81 ⟨Nat.le_of_ble_eq_true rfl, Nat.le_of_ble_eq_true rfl⟩ (fun H locs hP hD hS => ?_)
            obtain ⟨r84_12, hr84_12, hF⟩ := bnd hF
            refine hm_S (wn := [(ju, .inr (2, [.int jb_2, .int jr_3, .long je_4])), (ru, .inr (5, [.int rb, .int rg, .int ro])), (pd, .inr (3, [.ref pS, .int psz])), (pS, .inl (gB G, 48, .inl psg))]) (wr := [(ju, .inr (2, [.int jb_2, .int jr_3, .long je_4])), (ru, .inr (5, [.int rb, .int rg, .int ro])), (pd, .inr (3, [.ref pS, .int psz])), (pS, .inl (gB G, 48, .inl psg))]) (rest := [.long je_4, .ref ju]) (sn := [.int r84_12, .long je_4, .ref ju]) hx hb hml hown hts hE hA (k_X8_manOn G l je_4 r81_11 r84_12 hr84_12) sm_X8_manOn mw_412 ⟨rfl, rfl, Nat.le_of_ble_eq_true rfl, Nat.le_of_ble_eq_true rfl⟩ hP hD hS [] [0, 1, 2, 3] [0, 1, 2, 3] rfl rfl rfl (by decide) hl.1 rfl rfl (Nat.le_of_ble_eq_true rfl) dX2_passes_84 ⟨Nat.le_of_ble_eq_true rfl, Nat.le_of_ble_eq_true rfl⟩ (fun H locs hP hD hS => ?_)
            refine lv_iconst (v := 5) hx hb dX2_passes_87 (by decide) ?_
            refine lv_ishl hx hb dX2_passes_88 ?_
            refine lv_aload hx hb dX2_passes_89 (lv_at hl 3 rfl) ?_
            refine lv_iload hx hb dX2_passes_91 (lv_at hl 4 rfl) ?_
            obtain ⟨r93_13, hr93_13, hF⟩ := bnd hF
            refine hm_V (wn := [(ju, .inr (2, [.int jb_2, .int jr_3, .long je_4])), (ru, .inr (5, [.int rb, .int rg, .int ro])), (pd, .inr (3, [.ref pS, .int psz])), (pS, .inl (gB G, 48, .inl psg))]) (wr := [(ju, .inr (2, [.int jb_2, .int jr_3, .long je_4])), (ru, .inr (5, [.int rb, .int rg, .int ro]))]) (rest := [.int (jshl r84_12 5), .long je_4, .ref ju]) (sn := [.int r93_13, .int (jshl r84_12 5), .long je_4, .ref ju]) hx hb hml hown hts hE hA (k_X3_toAt G l pd pS psz psg x5_1 r93_13 hr93_13) sm_X3_toAt mw_404 ⟨rfl, rfl, Nat.le_of_ble_eq_true rfl, Nat.le_of_ble_eq_true rfl⟩ hP hD hS 2 rfl rfl [2, 3] [0, 1] [0, 1, 2, 3] rfl rfl rfl (by decide) hl.1 rfl rfl (Nat.le_of_ble_eq_true rfl) dX2_passes_93 ⟨Nat.le_of_ble_eq_true rfl, Nat.le_of_ble_eq_true rfl⟩ (fun H locs hP hD hS => ?_)
            refine lv_ior hx hb dX2_passes_96 ?_
            obtain ⟨r97_14, hr97_14, hF⟩ := bnd hF
            refine hm_S (wn := [(ju, .inr (2, [.int jb_2, .int jr_3, .long je_4])), (ru, .inr (5, [.int rb, .int rg, .int ro])), (pd, .inr (3, [.ref pS, .int psz])), (pS, .inl (gB G, 48, .inl psg))]) (wr := [(ju, .inr (2, [.int jb_2, .int jr_3, .long je_4])), (ru, .inr (5, [.int rb, .int rg, .int ro])), (pd, .inr (3, [.ref pS, .int psz])), (pS, .inl (gB G, 48, .inl psg))]) (rest := [.ref ju]) (sn := [.long r97_14, .ref ju]) hx hb hml hown hts hE hA (k_X8_after G l je_4 ((jshl r84_12 5) ||| r93_13) r97_14 hr97_14) sm_X8_after mw_418 ⟨rfl, rfl, Nat.le_of_ble_eq_true rfl, Nat.le_of_ble_eq_true rfl⟩ hP hD hS [] [0, 1, 2, 3] [0, 1, 2, 3] rfl rfl rfl (by decide) hl.1 rfl rfl (Nat.le_of_ble_eq_true rfl) dX2_passes_97 ⟨Nat.le_of_ble_eq_true rfl, Nat.le_of_ble_eq_true rfl⟩ (fun H locs hP hD hS => ?_)
            refine hput hx hb hts hown hE fl_X2_18 ft_X2_2 hP hD hS 0 rfl rfl rfl rfl (Nat.le_of_ble_eq_true rfl) (wn := [(ju, .inr (2, [.int jb_2, .int jr_3, .long r97_14])), (ru, .inr (5, [.int rb, .int rg, .int ro])), (pd, .inr (3, [.ref pS, .int psz])), (pS, .inl (gB G, 48, .inl psg))]) rfl dX2_passes_100 (fun H locs hP hD hS => ?_)
            obtain ⟨v5_15, ev5_15⟩ : ∃ z : Int32, z = x5_1 + 1 := ⟨_, rfl⟩
            have hF := jl hF ev5_15
            refine lv_iinc (v := v5_15) (lv' := [(5, .int v5_15), (6, .int r44_9), (0, .ref ju), (1, .ref ru), (4, .ref pd)]) hx hb dX2_passes_103 hl (k := 4) rfl (by rw [ev5_15]; rfl) (by decide) rfl (fun ls hl => ?_)
            refine lv_goto (tgt := 8) hx hb dX2_passes_106 (by decide) ?_
            exact ih8 v5_15 jb_2 jr_3 r97_14 _ _ _ hF hP hD hS (lv_sub hl [2, 3, 4, 0] rfl)
          · have hF := ifn hF c_10
            refine lv_aload_n hx hb dX2_passes_54 rfl (lv_at hl 1 rfl) ?_
            refine lv_iload hx hb dX2_passes_55 (lv_at hl 4 rfl) ?_
            refine hput hx hb hts hown hE fl_X2_9 ft_X2_0 hP hD hS 0 rfl rfl rfl rfl (Nat.le_of_ble_eq_true rfl) (wn := [(ju, .inr (2, [.int x5_1, .int jr_3, .long je_4])), (ru, .inr (5, [.int rb, .int rg, .int ro])), (pd, .inr (3, [.ref pS, .int psz])), (pS, .inl (gB G, 48, .inl psg))]) rfl dX2_passes_57 (fun H locs hP hD hS => ?_)
            refine lv_aload_n hx hb dX2_passes_60 rfl (lv_at hl 1 rfl) ?_
            refine lv_iload hx hb dX2_passes_61 (lv_at hl 0 rfl) ?_
            refine hput hx hb hts hown hE fl_X2_15 ft_X2_1 hP hD hS 0 rfl rfl rfl rfl (Nat.le_of_ble_eq_true rfl) (wn := [(ju, .inr (2, [.int x5_1, .int r44_9, .long je_4])), (ru, .inr (5, [.int rb, .int rg, .int ro])), (pd, .inr (3, [.ref pS, .int psz])), (pS, .inl (gB G, 48, .inl psg))]) rfl dX2_passes_63 (fun H locs hP hD hS => ?_)
            refine lv_iconst (v := 0) hx hb dX2_passes_66 (by decide) ?_
            have hF := Option.some.inj hF
            subst hF
            exact hm_zret hx hb hr hlk hP hD hS (by decide +kernel) hpost dX2_passes_67
  exact hL8 _ 0 jb jr st _ _ _ hF hP hD hS (lv_sub hl [1, 2, 4, 0] rfl)
def f_X0_moveOnPad (psz : Int32) (psg : (Nat → Int32)) (ii : Int32) : Option Int32 :=
  Option.bind (f_X3_fromAt psz psg ii) (fun r4_1 => Option.bind (f_X3_toAt psz psg ii) (fun r10_2 => some ((100 * r4_1) + r10_2)))
abbrev rm_X0_moveOnPad : Room := { frames := 3, cells := 0, slots := 0, locals := 63 }
set_option maxHeartbeats 4000000 in
set_option maxRecDepth 100000 in
theorem k_X0_moveOnPad (G : gT) (l : Launch) (pd : Nat) (pS : Nat) (psz : Int32) (psg : (Nat → Int32)) (ii : Int32) (r : Int32) (hF : f_X0_moveOnPad psz psg ii = some r) : HM G l yX0_moveOnPad (.code yX0_moveOnPad cX0_moveOnPad 2 (some .int) :: UW) rm_X0_moveOnPad 0 0 [.ref pd, .int ii] [(pd, .inr (3, [.ref pS, .int psz])), (pS, .inl (gB G, 48, .inl psg))] (some (.int r)) [(pd, .inr (3, [.ref pS, .int psz])), (pS, .inl (gB G, 48, .inl psg))] := by
  refine HM.ofW (by decide) (Nat.le_of_ble_eq_true rfl) ?_
  intro p e s m args below meth c A post hpost hC hP hD hS ls hl
  obtain ⟨hx, hb, hr, hml, hown, hts, hlk, hE, hA⟩ := hC
  have hl : lv_has ls 2 [(0, .ref pd), (1, .int ii)] := hl
  unfold f_X0_moveOnPad at hF
  refine lv_bipush (v := 100) hx hb dX0_moveOnPad_0 (by decide) ?_
  refine lv_aload_n hx hb dX0_moveOnPad_2 rfl (lv_at hl 0 rfl) ?_
  refine lv_iload_n hx hb dX0_moveOnPad_3 rfl (lv_at hl 1 rfl) ?_
  obtain ⟨r4_1, hr4_1, hF⟩ := bnd hF
  refine hm_V (wn := [(pd, .inr (3, [.ref pS, .int psz])), (pS, .inl (gB G, 48, .inl psg))]) (wr := []) (rest := [.int 100]) (sn := [.int r4_1, .int 100]) hx hb hml hown hts hE hA (k_X3_fromAt G l pd pS psz psg ii r4_1 hr4_1) sm_X3_fromAt mw_623 ⟨rfl, rfl, Nat.le_of_ble_eq_true rfl, Nat.le_of_ble_eq_true rfl⟩ hP hD hS 0 rfl rfl [0, 1] [] [0, 1] rfl rfl rfl (by decide) hl.1 rfl rfl (Nat.le_of_ble_eq_true rfl) dX0_moveOnPad_4 ⟨Nat.le_of_ble_eq_true rfl, Nat.le_of_ble_eq_true rfl⟩ (fun H locs hP hD hS => ?_)
  refine lv_imul hx hb dX0_moveOnPad_7 ?_
  refine lv_aload_n hx hb dX0_moveOnPad_8 rfl (lv_at hl 0 rfl) ?_
  refine lv_iload_n hx hb dX0_moveOnPad_9 rfl (lv_at hl 1 rfl) ?_
  obtain ⟨r10_2, hr10_2, hF⟩ := bnd hF
  refine hm_V (wn := [(pd, .inr (3, [.ref pS, .int psz])), (pS, .inl (gB G, 48, .inl psg))]) (wr := []) (rest := [.int (100 * r4_1)]) (sn := [.int r10_2, .int (100 * r4_1)]) hx hb hml hown hts hE hA (k_X3_toAt G l pd pS psz psg ii r10_2 hr10_2) sm_X3_toAt mw_624 ⟨rfl, rfl, Nat.le_of_ble_eq_true rfl, Nat.le_of_ble_eq_true rfl⟩ hP hD hS 0 rfl rfl [0, 1] [] [0, 1] rfl rfl rfl (by decide) hl.1 rfl rfl (Nat.le_of_ble_eq_true rfl) dX0_moveOnPad_10 ⟨Nat.le_of_ble_eq_true rfl, Nat.le_of_ble_eq_true rfl⟩ (fun H locs hP hD hS => ?_)
  refine lv_iadd hx hb dX0_moveOnPad_13 ?_
  have hF := Option.some.inj hF
  subst hF
  exact hm_iret hx hb hr hlk hP hD hS hpost dX0_moveOnPad_14
def f_X0_has (bc : Int32) (ga : Int32) : Int32 :=
  if ga < 0 then 0 else if bc ≤ ga then 0 else if 8 ≤ ga then 0 else 1
abbrev rm_X0_has : Room := { frames := 0, cells := 0, slots := 0, locals := 0 }
set_option maxHeartbeats 4000000 in
set_option maxRecDepth 100000 in
theorem k_X0_has (G : gT) (l : Launch) (bk : Nat) (bS : Nat) (bL : Nat) (bR : Nat) (bP : Nat) (bc : Int32) (ga : Int32) (r : Int32) (hF : f_X0_has bc ga = r) : HM G l yX0_has (.code yX0_has cX0_has 2 (some .boolean) :: UW) rm_X0_has 0 0 [.ref bk, .int ga] [(bk, .inr (0, [.ref bS, .ref bL, .ref bR, .ref bP, .int bc]))] (some (.int r)) [(bk, .inr (0, [.ref bS, .ref bL, .ref bR, .ref bP, .int bc]))] := by
  refine HM.ofW (by decide) (Nat.le_of_ble_eq_true rfl) ?_
  intro p e s m args below meth c A post hpost hC hP hD hS ls hl
  obtain ⟨hx, hb, hr, hml, hown, hts, hlk, hE, hA⟩ := hC
  have hl : lv_has ls 2 [(0, .ref bk), (1, .int ga)] := hl
  unfold f_X0_has at hF
  refine lv_iload_n hx hb dX0_has_0 rfl (lv_at hl 1 rfl) ?_
  refine lv_if_lt (tgt := 22) hx hb dX0_has_1 (by decide) (fun c_1 => ?_) (fun c_1 => ?_)
  · have hF := ifp hF c_1
    refine lv_iconst (v := 0) hx hb dX0_has_22 (by decide) ?_
    subst hF
    exact hm_zret hx hb hr hlk hP hD hS (by decide +kernel) hpost dX0_has_23
  · have hF := ifn hF c_1
    refine lv_iload_n hx hb dX0_has_4 rfl (lv_at hl 1 rfl) ?_
    refine lv_aload_n hx hb dX0_has_5 rfl (lv_at hl 0 rfl) ?_
    refine hget hx hb hts hown hE fl_X0_25 hP 0 rfl rfl dX0_has_6 ?_
    refine lv_icmp_ge (tgt := 22) hx hb dX0_has_9 (by decide) (fun c_2 => ?_) (fun c_2 => ?_)
    · have hF := ifp hF c_2
      refine lv_iconst (v := 0) hx hb dX0_has_22 (by decide) ?_
      subst hF
      exact hm_zret hx hb hr hlk hP hD hS (by decide +kernel) hpost dX0_has_23
    · have hF := ifn hF c_2
      refine lv_iload_n hx hb dX0_has_12 rfl (lv_at hl 1 rfl) ?_
      refine lv_bipush (v := 8) hx hb dX0_has_13 (by decide) ?_
      refine lv_icmp_ge (tgt := 22) hx hb dX0_has_15 (by decide) (fun c_3 => ?_) (fun c_3 => ?_)
      · have hF := ifp hF c_3
        refine lv_iconst (v := 0) hx hb dX0_has_22 (by decide) ?_
        subst hF
        exact hm_zret hx hb hr hlk hP hD hS (by decide +kernel) hpost dX0_has_23
      · have hF := ifn hF c_3
        refine lv_iconst (v := 1) hx hb dX0_has_18 (by decide) ?_
        refine lv_goto (tgt := 23) hx hb dX0_has_19 (by decide) ?_
        subst hF
        exact hm_zret hx hb hr hlk hP hD hS (by decide +kernel) hpost dX0_has_23
theorem z_X0_has (bc : Int32) (ga : Int32) : narrow .boolean (.int (f_X0_has bc ga)) = .int (f_X0_has bc ga) := by unfold f_X0_has; repeat' (first | rfl | split)
def f_X0_lengthOf (bc : Int32) (bl : (Nat → Int32)) (ga : Int32) : Option Int32 :=
  if (f_X0_has bc ga) = 0 then some 0 else if (ga) < 0 ∨ 8 ≤ (ga).toNatClampNeg then none else some (bl (ga).toNatClampNeg)
abbrev rm_X0_lengthOf : Room := { frames := 1, cells := 0, slots := 0, locals := 21 }
set_option maxHeartbeats 4000000 in
set_option maxRecDepth 100000 in
theorem k_X0_lengthOf (G : gT) (l : Launch) (bk : Nat) (bS : Nat) (bL : Nat) (bR : Nat) (bP : Nat) (bc : Int32) (bl : (Nat → Int32)) (ga : Int32) (r : Int32) (hF : f_X0_lengthOf bc bl ga = some r) : HM G l yX0_lengthOf (.code yX0_lengthOf cX0_lengthOf 2 (some .int) :: UW) rm_X0_lengthOf 0 0 [.ref bk, .int ga] [(bk, .inr (0, [.ref bS, .ref bL, .ref bR, .ref bP, .int bc])), (bL, .inl (gI G, 8, .inl bl))] (some (.int r)) [(bk, .inr (0, [.ref bS, .ref bL, .ref bR, .ref bP, .int bc])), (bL, .inl (gI G, 8, .inl bl))] := by
  refine HM.ofW (by decide) (Nat.le_of_ble_eq_true rfl) ?_
  intro p e s m args below meth c A post hpost hC hP hD hS ls hl
  obtain ⟨hx, hb, hr, hml, hown, hts, hlk, hE, hA⟩ := hC
  have hl : lv_has ls 2 [(0, .ref bk), (1, .int ga)] := hl
  unfold f_X0_lengthOf at hF
  refine lv_aload_n hx hb dX0_lengthOf_0 rfl (lv_at hl 0 rfl) ?_
  refine lv_iload_n hx hb dX0_lengthOf_1 rfl (lv_at hl 1 rfl) ?_
  refine hm_V (wn := [(bk, .inr (0, [.ref bS, .ref bL, .ref bR, .ref bP, .int bc])), (bL, .inl (gI G, 8, .inl bl))]) (wr := [(bL, .inl (gI G, 8, .inl bl))]) (rest := []) (sn := [.int (f_X0_has bc ga)]) hx hb hml hown hts hE hA (k_X0_has G l bk bS bL bR bP bc ga _ rfl) sm_X0_has mw_633 ⟨rfl, rfl, Nat.le_of_ble_eq_true rfl, Nat.le_of_ble_eq_true rfl⟩ hP hD hS 0 rfl rfl [0] [1] [1, 0] rfl rfl rfl (by decide) hl.1 rfl rfl (Nat.le_of_ble_eq_true rfl) dX0_lengthOf_2 ⟨Nat.le_of_ble_eq_true rfl, Nat.le_of_ble_eq_true rfl⟩ (fun H locs hP hD hS => ?_)
  refine lv_if_eq (tgt := 17) hx hb dX0_lengthOf_5 (by decide) (fun c_1 => ?_) (fun c_1 => ?_)
  · have hF := ifp hF c_1
    refine lv_iconst (v := 0) hx hb dX0_lengthOf_17 (by decide) ?_
    have hF := Option.some.inj hF
    subst hF
    exact hm_iret hx hb hr hlk hP hD hS hpost dX0_lengthOf_18
  · have hF := ifn hF c_1
    refine lv_aload_n hx hb dX0_lengthOf_8 rfl (lv_at hl 0 rfl) ?_
    refine hget hx hb hts hown hE fl_X0_15 hP 0 rfl rfl dX0_lengthOf_9 ?_
    refine lv_iload_n hx hb dX0_lengthOf_12 rfl (lv_at hl 1 rfl) ?_
    obtain ⟨hi_2, hF⟩ := inb hF
    refine hiald hx hb hE hP 1 rfl hi_2 dX0_lengthOf_13 ?_
    refine lv_goto (tgt := 18) hx hb dX0_lengthOf_14 (by decide) ?_
    have hF := Option.some.inj hF
    subst hF
    exact hm_iret hx hb hr hlk hP hD hS hpost dX0_lengthOf_18
def f_X0_broughtBy (bc : Int32) (br : (Nat → Int32)) (ga : Int32) : Option Int32 :=
  if (f_X0_has bc ga) = 0 then some 0 else if (ga) < 0 ∨ 8 ≤ (ga).toNatClampNeg then none else some (br (ga).toNatClampNeg)
abbrev rm_X0_broughtBy : Room := { frames := 1, cells := 0, slots := 0, locals := 21 }
set_option maxHeartbeats 4000000 in
set_option maxRecDepth 100000 in
theorem k_X0_broughtBy (G : gT) (l : Launch) (bk : Nat) (bS : Nat) (bL : Nat) (bR : Nat) (bP : Nat) (bc : Int32) (br : (Nat → Int32)) (ga : Int32) (r : Int32) (hF : f_X0_broughtBy bc br ga = some r) : HM G l yX0_broughtBy (.code yX0_broughtBy cX0_broughtBy 2 (some .int) :: UW) rm_X0_broughtBy 0 0 [.ref bk, .int ga] [(bk, .inr (0, [.ref bS, .ref bL, .ref bR, .ref bP, .int bc])), (bR, .inl (gI G, 8, .inl br))] (some (.int r)) [(bk, .inr (0, [.ref bS, .ref bL, .ref bR, .ref bP, .int bc])), (bR, .inl (gI G, 8, .inl br))] := by
  refine HM.ofW (by decide) (Nat.le_of_ble_eq_true rfl) ?_
  intro p e s m args below meth c A post hpost hC hP hD hS ls hl
  obtain ⟨hx, hb, hr, hml, hown, hts, hlk, hE, hA⟩ := hC
  have hl : lv_has ls 2 [(0, .ref bk), (1, .int ga)] := hl
  unfold f_X0_broughtBy at hF
  refine lv_aload_n hx hb dX0_broughtBy_0 rfl (lv_at hl 0 rfl) ?_
  refine lv_iload_n hx hb dX0_broughtBy_1 rfl (lv_at hl 1 rfl) ?_
  refine hm_V (wn := [(bk, .inr (0, [.ref bS, .ref bL, .ref bR, .ref bP, .int bc])), (bR, .inl (gI G, 8, .inl br))]) (wr := [(bR, .inl (gI G, 8, .inl br))]) (rest := []) (sn := [.int (f_X0_has bc ga)]) hx hb hml hown hts hE hA (k_X0_has G l bk bS bL bR bP bc ga _ rfl) sm_X0_has mw_633 ⟨rfl, rfl, Nat.le_of_ble_eq_true rfl, Nat.le_of_ble_eq_true rfl⟩ hP hD hS 0 rfl rfl [0] [1] [1, 0] rfl rfl rfl (by decide) hl.1 rfl rfl (Nat.le_of_ble_eq_true rfl) dX0_broughtBy_2 ⟨Nat.le_of_ble_eq_true rfl, Nat.le_of_ble_eq_true rfl⟩ (fun H locs hP hD hS => ?_)
  refine lv_if_eq (tgt := 17) hx hb dX0_broughtBy_5 (by decide) (fun c_1 => ?_) (fun c_1 => ?_)
  · have hF := ifp hF c_1
    refine lv_iconst (v := 0) hx hb dX0_broughtBy_17 (by decide) ?_
    have hF := Option.some.inj hF
    subst hF
    exact hm_iret hx hb hr hlk hP hD hS hpost dX0_broughtBy_18
  · have hF := ifn hF c_1
    refine lv_aload_n hx hb dX0_broughtBy_8 rfl (lv_at hl 0 rfl) ?_
    refine hget hx hb hts hown hE fl_X0_19 hP 0 rfl rfl dX0_broughtBy_9 ?_
    refine lv_iload_n hx hb dX0_broughtBy_12 rfl (lv_at hl 1 rfl) ?_
    obtain ⟨hi_2, hF⟩ := inb hF
    refine hiald hx hb hE hP 1 rfl hi_2 dX0_broughtBy_13 ?_
    refine lv_goto (tgt := 18) hx hb dX0_broughtBy_14 (by decide) ?_
    have hF := Option.some.inj hF
    subst hF
    exact hm_iret hx hb hr hlk hP hD hS hpost dX0_broughtBy_18
def f_X0_moveOf (bc : Int32) (bl : (Nat → Int32)) (bp : (Nat → Int32)) (ga : Int32) (ii : Int32) : Option Int32 :=
  if ii < 0 then some (-6) else Option.bind (f_X0_lengthOf bc bl ga) (fun r7_2 => if r7_2 ≤ ii then some (-6) else if ii < 12 then if (((ga * 12) + ii)) < 0 ∨ 96 ≤ (((ga * 12) + ii)).toNatClampNeg then none else some (bp (((ga * 12) + ii)).toNatClampNeg) else some (-6))
abbrev rm_X0_moveOf : Room := { frames := 2, cells := 0, slots := 0, locals := 42 }
set_option maxHeartbeats 4000000 in
set_option maxRecDepth 100000 in
theorem k_X0_moveOf (G : gT) (l : Launch) (bk : Nat) (bS : Nat) (bL : Nat) (bR : Nat) (bP : Nat) (bc : Int32) (bl : (Nat → Int32)) (bp : (Nat → Int32)) (ga : Int32) (ii : Int32) (r : Int32) (hF : f_X0_moveOf bc bl bp ga ii = some r) : HM G l yX0_moveOf (.code yX0_moveOf cX0_moveOf 3 (some .int) :: UW) rm_X0_moveOf 0 0 [.ref bk, .int ga, .int ii] [(bk, .inr (0, [.ref bS, .ref bL, .ref bR, .ref bP, .int bc])), (bL, .inl (gI G, 8, .inl bl)), (bP, .inl (gI G, 96, .inl bp))] (some (.int r)) [(bk, .inr (0, [.ref bS, .ref bL, .ref bR, .ref bP, .int bc])), (bL, .inl (gI G, 8, .inl bl)), (bP, .inl (gI G, 96, .inl bp))] := by
  refine HM.ofW (by decide) (Nat.le_of_ble_eq_true rfl) ?_
  intro p e s m args below meth c A post hpost hC hP hD hS ls hl
  obtain ⟨hx, hb, hr, hml, hown, hts, hlk, hE, hA⟩ := hC
  have hl : lv_has ls 3 [(0, .ref bk), (1, .int ga), (2, .int ii)] := hl
  unfold f_X0_moveOf at hF
  refine lv_iload_n hx hb dX0_moveOf_0 rfl (lv_at hl 2 rfl) ?_
  refine lv_if_lt (tgt := 19) hx hb dX0_moveOf_1 (by decide) (fun c_1 => ?_) (fun c_1 => ?_)
  · have hF := ifp hF c_1
    refine lv_bipush (v := (-6)) hx hb dX0_moveOf_19 (by decide) ?_
    refine lv_goto (tgt := 35) hx hb dX0_moveOf_21 (by decide) ?_
    have hF := Option.some.inj hF
    subst hF
    exact hm_iret hx hb hr hlk hP hD hS hpost dX0_moveOf_35
  · have hF := ifn hF c_1
    refine lv_iload_n hx hb dX0_moveOf_4 rfl (lv_at hl 2 rfl) ?_
    refine lv_aload_n hx hb dX0_moveOf_5 rfl (lv_at hl 0 rfl) ?_
    refine lv_iload_n hx hb dX0_moveOf_6 rfl (lv_at hl 1 rfl) ?_
    obtain ⟨r7_2, hr7_2, hF⟩ := bnd hF
    refine hm_V (wn := [(bk, .inr (0, [.ref bS, .ref bL, .ref bR, .ref bP, .int bc])), (bL, .inl (gI G, 8, .inl bl)), (bP, .inl (gI G, 96, .inl bp))]) (wr := [(bP, .inl (gI G, 96, .inl bp))]) (rest := [.int ii]) (sn := [.int r7_2, .int ii]) hx hb hml hown hts hE hA (k_X0_lengthOf G l bk bS bL bR bP bc bl ga r7_2 hr7_2) sm_X0_lengthOf mw_645 ⟨rfl, rfl, Nat.le_of_ble_eq_true rfl, Nat.le_of_ble_eq_true rfl⟩ hP hD hS 0 rfl rfl [0, 1] [2] [1, 2, 0] rfl rfl rfl (by decide) hl.1 rfl rfl (Nat.le_of_ble_eq_true rfl) dX0_moveOf_7 ⟨Nat.le_of_ble_eq_true rfl, Nat.le_of_ble_eq_true rfl⟩ (fun H locs hP hD hS => ?_)
    refine lv_icmp_ge (tgt := 19) hx hb dX0_moveOf_10 (by decide) (fun c_3 => ?_) (fun c_3 => ?_)
    · have hF := ifp hF c_3
      refine lv_bipush (v := (-6)) hx hb dX0_moveOf_19 (by decide) ?_
      refine lv_goto (tgt := 35) hx hb dX0_moveOf_21 (by decide) ?_
      have hF := Option.some.inj hF
      subst hF
      exact hm_iret hx hb hr hlk hP hD hS hpost dX0_moveOf_35
    · have hF := ifn hF c_3
      refine lv_iload_n hx hb dX0_moveOf_13 rfl (lv_at hl 2 rfl) ?_
      refine lv_bipush (v := 12) hx hb dX0_moveOf_14 (by decide) ?_
      refine lv_icmp_lt (tgt := 24) hx hb dX0_moveOf_16 (by decide) (fun c_4 => ?_) (fun c_4 => ?_)
      · have hF := ifp hF c_4
        refine lv_aload_n hx hb dX0_moveOf_24 rfl (lv_at hl 0 rfl) ?_
        refine hget hx hb hts hown hE fl_X0_22 hP 0 rfl rfl dX0_moveOf_25 ?_
        refine lv_iload_n hx hb dX0_moveOf_28 rfl (lv_at hl 1 rfl) ?_
        refine lv_bipush (v := 12) hx hb dX0_moveOf_29 (by decide) ?_
        refine lv_imul hx hb dX0_moveOf_31 ?_
        refine lv_iload_n hx hb dX0_moveOf_32 rfl (lv_at hl 2 rfl) ?_
        refine lv_iadd hx hb dX0_moveOf_33 ?_
        obtain ⟨hi_5, hF⟩ := inb hF
        refine hiald hx hb hE hP 2 rfl hi_5 dX0_moveOf_34 ?_
        have hF := Option.some.inj hF
        subst hF
        exact hm_iret hx hb hr hlk hP hD hS hpost dX0_moveOf_35
      · have hF := ifn hF c_4
        refine lv_bipush (v := (-6)) hx hb dX0_moveOf_19 (by decide) ?_
        refine lv_goto (tgt := 35) hx hb dX0_moveOf_21 (by decide) ?_
        have hF := Option.some.inj hF
        subst hF
        exact hm_iret hx hb hr hlk hP hD hS hpost dX0_moveOf_35
def f_X0_add_B97 (bc : Int32) (bc_10 : Int32) (bs_11 : (Nat → Int64)) (bl_12 : (Nat → Int32)) (br_13 : (Nat → Int32)) (bp_14 : (Nat → Int32)) : Option (Int32 × Int32 × (Nat → Int64) × (Nat → Int32) × (Nat → Int32) × (Nat → Int32)) :=
  jlet (bc_10 + 1) (fun u104_15 => some (bc, u104_15, bs_11, bl_12, br_13, bp_14))
def f_X0_add_L56 (bc : Int32) (psz : Int32) (psg : (Nat → Int32)) : Nat → Int32 → Int32 → (Nat → Int64) → (Nat → Int32) → (Nat → Int32) → (Nat → Int32) → Option (Int32 × Int32 × (Nat → Int64) × (Nat → Int32) × (Nat → Int32) × (Nat → Int32))
  | 0, _, _, _, _, _, _ => none
  | n+1, x6_9, bc_10, bs_11, bl_12, br_13, bp_14 =>
  if (f_X3_countMoves psz) ≤ x6_9 then f_X0_add_B97 bc bc_10 bs_11 bl_12 br_13 bp_14 else if 12 ≤ x6_9 then f_X0_add_B97 bc bc_10 bs_11 bl_12 br_13 bp_14 else Option.bind (f_X0_moveOnPad psz psg x6_9) (fun r87_18 => if (((bc * 12) + x6_9)) < 0 ∨ 96 ≤ (((bc * 12) + x6_9)).toNatClampNeg then none else jlet (upd bp_14 (((bc * 12) + x6_9)).toNatClampNeg r87_18) (fun a90_20 => jlet (x6_9 + 1) (fun v6_21 => (f_X0_add_L56 bc psz psg n) v6_21 bc_10 bs_11 bl_12 br_13 a90_20)))
def f_X0_add (bc : Int32) (bs : (Nat → Int64)) (bl : (Nat → Int32)) (br : (Nat → Int32)) (bp : (Nat → Int32)) (psz : Int32) (psg : (Nat → Int32)) (st : Int64) (bo : Int32) : Option (Int32 × Int32 × (Nat → Int64) × (Nat → Int32) × (Nat → Int32) × (Nat → Int32)) :=
  if bc < 0 then some ((-4), bc, bs, bl, br, bp) else if bc < 8 then if (bc) < 0 ∨ 8 ≤ (bc).toNatClampNeg then none else jlet (vp_updL bs (bc).toNatClampNeg st) (fun a32_4 => if (bc) < 0 ∨ 8 ≤ (bc).toNatClampNeg then none else jlet (upd bl (bc).toNatClampNeg (f_X3_countMoves psz)) (fun a43_6 => if (bc) < 0 ∨ 8 ≤ (bc).toNatClampNeg then none else jlet (upd br (bc).toNatClampNeg bo) (fun a52_8 => f_X0_add_L56 bc psz psg 100 0 bc a32_4 a43_6 a52_8 bp))) else some ((-4), bc, bs, bl, br, bp)
abbrev rm_X0_add : Room := { frames := 4, cells := 0, slots := 0, locals := 84 }
set_option maxHeartbeats 4000000 in
set_option maxRecDepth 100000 in
theorem k_X0_add (G : gT) (l : Launch) (bk : Nat) (pd : Nat) (bS : Nat) (bL : Nat) (bR : Nat) (bP : Nat) (pS : Nat) (bc : Int32) (bs : (Nat → Int64)) (bl : (Nat → Int32)) (br : (Nat → Int32)) (bp : (Nat → Int32)) (psz : Int32) (psg : (Nat → Int32)) (st : Int64) (bo : Int32) (r : Int32 × Int32 × (Nat → Int64) × (Nat → Int32) × (Nat → Int32) × (Nat → Int32)) (hF : f_X0_add bc bs bl br bp psz psg st bo = some r) : HM G l yX0_add (.code yX0_add cX0_add 7 (some .int) :: UW) rm_X0_add 0 0 [.ref bk, .long st, .ref pd, .int bo] [(bk, .inr (0, [.ref bS, .ref bL, .ref bR, .ref bP, .int bc])), (bS, .inl (gJ G, 8, .inr (.inl bs))), (bL, .inl (gI G, 8, .inl bl)), (bR, .inl (gI G, 8, .inl br)), (bP, .inl (gI G, 96, .inl bp)), (pd, .inr (3, [.ref pS, .int psz])), (pS, .inl (gB G, 48, .inl psg))] (some (.int r.1)) [(bk, .inr (0, [.ref bS, .ref bL, .ref bR, .ref bP, .int r.2.1])), (bS, .inl (gJ G, 8, .inr (.inl r.2.2.1))), (bL, .inl (gI G, 8, .inl r.2.2.2.1)), (bR, .inl (gI G, 8, .inl r.2.2.2.2.1)), (bP, .inl (gI G, 96, .inl r.2.2.2.2.2)), (pd, .inr (3, [.ref pS, .int psz])), (pS, .inl (gB G, 48, .inl psg))] := by
  refine HM.ofW (by decide) (Nat.le_of_ble_eq_true rfl) ?_
  intro p e s m args below meth c A post hpost hC hP hD hS ls hl
  obtain ⟨hx, hb, hr, hml, hown, hts, hlk, hE, hA⟩ := hC
  have hl : lv_has ls 7 [(0, .ref bk), (1, .long st), (3, .ref pd), (4, .int bo)] := hl
  unfold f_X0_add at hF
  refine lv_aload_n hx hb dX0_add_0 rfl (lv_at hl 0 rfl) ?_
  refine hget hx hb hts hown hE fl_X0_25 hP 0 rfl rfl dX0_add_1 ?_
  refine lv_if_lt (tgt := 16) hx hb dX0_add_4 (by decide) (fun c_1 => ?_) (fun c_1 => ?_)
  · have hF := ifp hF c_1
    refine lv_bipush (v := (-4)) hx hb dX0_add_16 (by decide) ?_
    have hF := Option.some.inj hF
    subst hF
    exact hm_iret hx hb hr hlk hP hD hS hpost dX0_add_18
  · have hF := ifn hF c_1
    refine lv_aload_n hx hb dX0_add_7 rfl (lv_at hl 0 rfl) ?_
    refine hget hx hb hts hown hE fl_X0_25 hP 0 rfl rfl dX0_add_8 ?_
    refine lv_bipush (v := 8) hx hb dX0_add_11 (by decide) ?_
    refine lv_icmp_lt (tgt := 19) hx hb dX0_add_13 (by decide) (fun c_2 => ?_) (fun c_2 => ?_)
    · have hF := ifp hF c_2
      refine lv_aload_n hx hb dX0_add_19 rfl (lv_at hl 0 rfl) ?_
      refine hget hx hb hts hown hE fl_X0_25 hP 0 rfl rfl dX0_add_20 ?_
      refine lv_istore (lv' := [(5, .int bc), (0, .ref bk), (1, .long st), (3, .ref pd), (4, .int bo)]) hx hb dX0_add_23 hl (by decide) rfl (fun ls hl => ?_)
      refine lv_aload_n hx hb dX0_add_25 rfl (lv_at hl 1 rfl) ?_
      refine hget hx hb hts hown hE fl_X0_9 hP 0 rfl rfl dX0_add_26 ?_
      refine lv_iload hx hb dX0_add_29 (lv_at hl 0 rfl) ?_
      refine lv_lload_n hx hb dX0_add_31 rfl (lv_at hl 2 rfl) ?_
      obtain ⟨hi_3, hF⟩ := inb hF
      obtain ⟨a32_4, ea32_4⟩ : ∃ z : (Nat → Int64), z = vp_updL bs (bc).toNatClampNeg st := ⟨_, rfl⟩
      have hF := jl hF ea32_4
      refine hlast hx hb hE hP hD hS 1 rfl hi_3 (wn := [(bk, .inr (0, [.ref bS, .ref bL, .ref bR, .ref bP, .int bc])), (bS, .inl (gJ G, 8, .inr (.inl a32_4))), (bL, .inl (gI G, 8, .inl bl)), (bR, .inl (gI G, 8, .inl br)), (bP, .inl (gI G, 96, .inl bp)), (pd, .inr (3, [.ref pS, .int psz])), (pS, .inl (gB G, 48, .inl psg))]) (by rw [ea32_4]; rfl) dX0_add_32 (fun H locs hP hD hS => ?_)
      refine lv_aload_n hx hb dX0_add_33 rfl (lv_at hl 1 rfl) ?_
      refine hget hx hb hts hown hE fl_X0_15 hP 0 rfl rfl dX0_add_34 ?_
      refine lv_iload hx hb dX0_add_37 (lv_at hl 0 rfl) ?_
      refine lv_aload_n hx hb dX0_add_39 rfl (lv_at hl 3 rfl) ?_
      refine hm_V (wn := [(bk, .inr (0, [.ref bS, .ref bL, .ref bR, .ref bP, .int bc])), (bS, .inl (gJ G, 8, .inr (.inl a32_4))), (bL, .inl (gI G, 8, .inl bl)), (bR, .inl (gI G, 8, .inl br)), (bP, .inl (gI G, 96, .inl bp)), (pd, .inr (3, [.ref pS, .int psz])), (pS, .inl (gB G, 48, .inl psg))]) (wr := [(bk, .inr (0, [.ref bS, .ref bL, .ref bR, .ref bP, .int bc])), (bS, .inl (gJ G, 8, .inr (.inl a32_4))), (bL, .inl (gI G, 8, .inl bl)), (bR, .inl (gI G, 8, .inl br)), (bP, .inl (gI G, 96, .inl bp)), (pS, .inl (gB G, 48, .inl psg))]) (rest := [.int bc, .ref bL]) (sn := [.int (f_X3_countMoves psz), .int bc, .ref bL]) hx hb hml hown hts hE hA (k_X3_countMoves G l pd pS psz _ rfl) sm_X3_countMoves mw_619 ⟨rfl, rfl, Nat.le_of_ble_eq_true rfl, Nat.le_of_ble_eq_true rfl⟩ hP hD hS 5 rfl rfl [5] [0, 1, 2, 3, 4, 6] [0, 1, 2, 3, 4, 6, 5] rfl rfl rfl (by decide) hl.1 rfl rfl (Nat.le_of_ble_eq_true rfl) dX0_add_40 ⟨Nat.le_of_ble_eq_true rfl, Nat.le_of_ble_eq_true rfl⟩ (fun H locs hP hD hS => ?_)
      obtain ⟨hi_5, hF⟩ := inb hF
      obtain ⟨a43_6, ea43_6⟩ : ∃ z : (Nat → Int32), z = upd bl (bc).toNatClampNeg (f_X3_countMoves psz) := ⟨_, rfl⟩
      have hF := jl hF ea43_6
      refine hiast hx hb hE hP hD hS 2 rfl hi_5 (wn := [(bk, .inr (0, [.ref bS, .ref bL, .ref bR, .ref bP, .int bc])), (bS, .inl (gJ G, 8, .inr (.inl a32_4))), (bL, .inl (gI G, 8, .inl a43_6)), (bR, .inl (gI G, 8, .inl br)), (bP, .inl (gI G, 96, .inl bp)), (pd, .inr (3, [.ref pS, .int psz])), (pS, .inl (gB G, 48, .inl psg))]) (by rw [ea43_6]; rfl) dX0_add_43 (fun H locs hP hD hS => ?_)
      refine lv_aload_n hx hb dX0_add_44 rfl (lv_at hl 1 rfl) ?_
      refine hget hx hb hts hown hE fl_X0_19 hP 0 rfl rfl dX0_add_45 ?_
      refine lv_iload hx hb dX0_add_48 (lv_at hl 0 rfl) ?_
      refine lv_iload hx hb dX0_add_50 (lv_at hl 4 rfl) ?_
      obtain ⟨hi_7, hF⟩ := inb hF
      obtain ⟨a52_8, ea52_8⟩ : ∃ z : (Nat → Int32), z = upd br (bc).toNatClampNeg bo := ⟨_, rfl⟩
      have hF := jl hF ea52_8
      refine hiast hx hb hE hP hD hS 3 rfl hi_7 (wn := [(bk, .inr (0, [.ref bS, .ref bL, .ref bR, .ref bP, .int bc])), (bS, .inl (gJ G, 8, .inr (.inl a32_4))), (bL, .inl (gI G, 8, .inl a43_6)), (bR, .inl (gI G, 8, .inl a52_8)), (bP, .inl (gI G, 96, .inl bp)), (pd, .inr (3, [.ref pS, .int psz])), (pS, .inl (gB G, 48, .inl psg))]) (by rw [ea52_8]; rfl) dX0_add_52 (fun H locs hP hD hS => ?_)
      refine lv_iconst (v := 0) hx hb dX0_add_53 (by decide) ?_
      refine lv_istore (lv' := [(6, .int 0), (5, .int bc), (0, .ref bk), (1, .long st), (3, .ref pd), (4, .int bo)]) hx hb dX0_add_54 hl (by decide) rfl (fun ls hl => ?_)
      have hL56 : ∀ (n56 : Nat) (x6_9 : Int32) (bc_10 : Int32) (bs_11 : (Nat → Int64)) (bl_12 : (Nat → Int32)) (br_13 : (Nat → Int32)) (bp_14 : (Nat → Int32)) (H : Heap) (locs : List Loc) (ls : Array Slot), f_X0_add_L56 bc psz psg n56 x6_9 bc_10 bs_11 bl_12 br_13 bp_14 = some r → va_P (gD G) vwCl [(bk, .inr (0, [.ref bS, .ref bL, .ref bR, .ref bP, .int bc_10])), (bS, .inl (gJ G, 8, .inr (.inl bs_11))), (bL, .inl (gI G, 8, .inl bl_12)), (bR, .inl (gI G, 8, .inl br_13)), (bP, .inl (gI G, 96, .inl bp_14)), (pd, .inr (3, [.ref pS, .int psz])), (pS, .inl (gB G, 48, .inl psg))] H → va_D A [(bk, .inr (0, [.ref bS, .ref bL, .ref bR, .ref bP, .int bc_10])), (bS, .inl (gJ G, 8, .inr (.inl bs_11))), (bL, .inl (gI G, 8, .inl bl_12)), (bR, .inl (gI G, 8, .inl br_13)), (bP, .inl (gI G, 96, .inl bp_14)), (pd, .inr (3, [.ref pS, .int psz])), (pS, .inl (gB G, 48, .inl psg))] → va_S A s.heap H locs → lv_has ls 7 [(0, .ref bk), (3, .ref pd), (5, .int bc), (6, .int x6_9)] → W p l e rm_X0_add s m args below meth c H locs 0 0 (MQ below (HXq G post A) args s 0 0 A) (F0 m 56 ls []) := by
        intro n56
        induction n56 with
        | zero =>
          intro x6_9 bc_10 bs_11 bl_12 br_13 bp_14 H locs ls hF
          exact absurd hF (fun h => by cases h)
        | succ n56 ih56 =>
          intro x6_9 bc_10 bs_11 bl_12 br_13 bp_14 H locs ls hF hP hD hS hl
          unfold f_X0_add_L56 at hF
          refine lv_iload hx hb dX0_add_56 (lv_at hl 3 rfl) ?_
          refine lv_aload_n hx hb dX0_add_58 rfl (lv_at hl 1 rfl) ?_
          refine hm_V (wn := [(bk, .inr (0, [.ref bS, .ref bL, .ref bR, .ref bP, .int bc_10])), (bS, .inl (gJ G, 8, .inr (.inl bs_11))), (bL, .inl (gI G, 8, .inl bl_12)), (bR, .inl (gI G, 8, .inl br_13)), (bP, .inl (gI G, 96, .inl bp_14)), (pd, .inr (3, [.ref pS, .int psz])), (pS, .inl (gB G, 48, .inl psg))]) (wr := [(bk, .inr (0, [.ref bS, .ref bL, .ref bR, .ref bP, .int bc_10])), (bS, .inl (gJ G, 8, .inr (.inl bs_11))), (bL, .inl (gI G, 8, .inl bl_12)), (bR, .inl (gI G, 8, .inl br_13)), (bP, .inl (gI G, 96, .inl bp_14)), (pS, .inl (gB G, 48, .inl psg))]) (rest := [.int x6_9]) (sn := [.int (f_X3_countMoves psz), .int x6_9]) hx hb hml hown hts hE hA (k_X3_countMoves G l pd pS psz _ rfl) sm_X3_countMoves mw_619 ⟨rfl, rfl, Nat.le_of_ble_eq_true rfl, Nat.le_of_ble_eq_true rfl⟩ hP hD hS 5 rfl rfl [5] [0, 1, 2, 3, 4, 6] [0, 1, 2, 3, 4, 6, 5] rfl rfl rfl (by decide) hl.1 rfl rfl (Nat.le_of_ble_eq_true rfl) dX0_add_59 ⟨Nat.le_of_ble_eq_true rfl, Nat.le_of_ble_eq_true rfl⟩ (fun H locs hP hD hS => ?_)
          have hB97 : ∀ (H : Heap) (locs : List Loc) (ls : Array Slot), f_X0_add_B97 bc bc_10 bs_11 bl_12 br_13 bp_14 = some r → va_P (gD G) vwCl [(bk, .inr (0, [.ref bS, .ref bL, .ref bR, .ref bP, .int bc_10])), (bS, .inl (gJ G, 8, .inr (.inl bs_11))), (bL, .inl (gI G, 8, .inl bl_12)), (bR, .inl (gI G, 8, .inl br_13)), (bP, .inl (gI G, 96, .inl bp_14)), (pd, .inr (3, [.ref pS, .int psz])), (pS, .inl (gB G, 48, .inl psg))] H → va_D A [(bk, .inr (0, [.ref bS, .ref bL, .ref bR, .ref bP, .int bc_10])), (bS, .inl (gJ G, 8, .inr (.inl bs_11))), (bL, .inl (gI G, 8, .inl bl_12)), (bR, .inl (gI G, 8, .inl br_13)), (bP, .inl (gI G, 96, .inl bp_14)), (pd, .inr (3, [.ref pS, .int psz])), (pS, .inl (gB G, 48, .inl psg))] → va_S A s.heap H locs → lv_has ls 7 [(0, .ref bk), (5, .int bc)] → W p l e rm_X0_add s m args below meth c H locs 0 0 (MQ below (HXq G post A) args s 0 0 A) (F0 m 97 ls []) := by
            intro H locs ls hF hP hD hS hl
            unfold f_X0_add_B97 at hF
            refine lv_aload_n hx hb dX0_add_97 rfl (lv_at hl 0 rfl) ?_
            refine lv_dup hx hb dX0_add_98 rfl ?_
            refine hget hx hb hts hown hE fl_X0_25 hP 0 rfl rfl dX0_add_99 ?_
            refine lv_iconst (v := 1) hx hb dX0_add_102 (by decide) ?_
            refine lv_iadd hx hb dX0_add_103 ?_
            refine lv_topi (fun u104_15 eu104_15 => ?_)
            have hF := jl hF eu104_15
            refine hput hx hb hts hown hE fl_X0_25 ft_X0_4 hP hD hS 0 rfl rfl rfl rfl (Nat.le_of_ble_eq_true rfl) (wn := [(bk, .inr (0, [.ref bS, .ref bL, .ref bR, .ref bP, .int u104_15])), (bS, .inl (gJ G, 8, .inr (.inl bs_11))), (bL, .inl (gI G, 8, .inl bl_12)), (bR, .inl (gI G, 8, .inl br_13)), (bP, .inl (gI G, 96, .inl bp_14)), (pd, .inr (3, [.ref pS, .int psz])), (pS, .inl (gB G, 48, .inl psg))]) rfl dX0_add_104 (fun H locs hP hD hS => ?_)
            refine lv_iload hx hb dX0_add_107 (lv_at hl 1 rfl) ?_
            have hF := Option.some.inj hF
            subst hF
            exact hm_iret hx hb hr hlk hP hD hS hpost dX0_add_109
          refine lv_icmp_ge (tgt := 97) hx hb dX0_add_62 (by decide) (fun c_16 => ?_) (fun c_16 => ?_)
          · have hF := ifp hF c_16
            exact hB97 _ _ _ hF hP hD hS (lv_sub hl [0, 2] rfl)
          · have hF := ifn hF c_16
            refine lv_iload hx hb dX0_add_65 (lv_at hl 3 rfl) ?_
            refine lv_bipush (v := 12) hx hb dX0_add_67 (by decide) ?_
            refine lv_icmp_ge (tgt := 97) hx hb dX0_add_69 (by decide) (fun c_17 => ?_) (fun c_17 => ?_)
            · have hF := ifp hF c_17
              exact hB97 _ _ _ hF hP hD hS (lv_sub hl [0, 2] rfl)
            · have hF := ifn hF c_17
              refine lv_aload_n hx hb dX0_add_72 rfl (lv_at hl 0 rfl) ?_
              refine hget hx hb hts hown hE fl_X0_22 hP 0 rfl rfl dX0_add_73 ?_
              refine lv_iload hx hb dX0_add_76 (lv_at hl 2 rfl) ?_
              refine lv_bipush (v := 12) hx hb dX0_add_78 (by decide) ?_
              refine lv_imul hx hb dX0_add_80 ?_
              refine lv_iload hx hb dX0_add_81 (lv_at hl 3 rfl) ?_
              refine lv_iadd hx hb dX0_add_83 ?_
              refine lv_aload_n hx hb dX0_add_84 rfl (lv_at hl 1 rfl) ?_
              refine lv_iload hx hb dX0_add_85 (lv_at hl 3 rfl) ?_
              obtain ⟨r87_18, hr87_18, hF⟩ := bnd hF
              refine hm_S (wn := [(bk, .inr (0, [.ref bS, .ref bL, .ref bR, .ref bP, .int bc_10])), (bS, .inl (gJ G, 8, .inr (.inl bs_11))), (bL, .inl (gI G, 8, .inl bl_12)), (bR, .inl (gI G, 8, .inl br_13)), (bP, .inl (gI G, 96, .inl bp_14)), (pd, .inr (3, [.ref pS, .int psz])), (pS, .inl (gB G, 48, .inl psg))]) (wr := [(bk, .inr (0, [.ref bS, .ref bL, .ref bR, .ref bP, .int bc_10])), (bS, .inl (gJ G, 8, .inr (.inl bs_11))), (bL, .inl (gI G, 8, .inl bl_12)), (bR, .inl (gI G, 8, .inl br_13)), (bP, .inl (gI G, 96, .inl bp_14))]) (rest := [.int ((bc * 12) + x6_9), .ref bP]) (sn := [.int r87_18, .int ((bc * 12) + x6_9), .ref bP]) hx hb hml hown hts hE hA (k_X0_moveOnPad G l pd pS psz psg x6_9 r87_18 hr87_18) sm_X0_moveOnPad mw_620 ⟨rfl, rfl, Nat.le_of_ble_eq_true rfl, Nat.le_of_ble_eq_true rfl⟩ hP hD hS [5, 6] [0, 1, 2, 3, 4] [0, 1, 2, 3, 4, 5, 6] rfl rfl rfl (by decide) hl.1 rfl rfl (Nat.le_of_ble_eq_true rfl) dX0_add_87 ⟨Nat.le_of_ble_eq_true rfl, Nat.le_of_ble_eq_true rfl⟩ (fun H locs hP hD hS => ?_)
              obtain ⟨hi_19, hF⟩ := inb hF
              obtain ⟨a90_20, ea90_20⟩ : ∃ z : (Nat → Int32), z = upd bp_14 (((bc * 12) + x6_9)).toNatClampNeg r87_18 := ⟨_, rfl⟩
              have hF := jl hF ea90_20
              refine hiast hx hb hE hP hD hS 4 rfl hi_19 (wn := [(bk, .inr (0, [.ref bS, .ref bL, .ref bR, .ref bP, .int bc_10])), (bS, .inl (gJ G, 8, .inr (.inl bs_11))), (bL, .inl (gI G, 8, .inl bl_12)), (bR, .inl (gI G, 8, .inl br_13)), (bP, .inl (gI G, 96, .inl a90_20)), (pd, .inr (3, [.ref pS, .int psz])), (pS, .inl (gB G, 48, .inl psg))]) (by rw [ea90_20]; rfl) dX0_add_90 (fun H locs hP hD hS => ?_)
              obtain ⟨v6_21, ev6_21⟩ : ∃ z : Int32, z = x6_9 + 1 := ⟨_, rfl⟩
              have hF := jl hF ev6_21
              refine lv_iinc (v := v6_21) (lv' := [(6, .int v6_21), (0, .ref bk), (3, .ref pd), (5, .int bc)]) hx hb dX0_add_91 hl (k := 3) rfl (by rw [ev6_21]; rfl) (by decide) rfl (fun ls hl => ?_)
              refine lv_goto (tgt := 56) hx hb dX0_add_94 (by decide) ?_
              exact ih56 v6_21 bc_10 bs_11 bl_12 br_13 a90_20 _ _ _ hF hP hD hS (lv_sub hl [1, 2, 3, 0] rfl)
      exact hL56 _ 0 bc a32_4 a43_6 a52_8 bp _ _ _ hF hP hD hS (lv_sub hl [2, 4, 1, 0] rfl)
    · have hF := ifn hF c_2
      refine lv_bipush (v := (-4)) hx hb dX0_add_16 (by decide) ?_
      have hF := Option.some.inj hF
      subst hF
      exact hm_iret hx hb hr hlk hP hD hS hpost dX0_add_18
def f_X0_begins_L38 (bc : Int32) (bl : (Nat → Int32)) (bp : (Nat → Int32)) (psz : Int32) (psg : (Nat → Int32)) (ga : Int32) : Nat → Int32 → Option Int32
  | 0, _ => none
  | n+1, x5_6 =>
  if (f_X3_countMoves psz) ≤ x5_6 then some 1 else if 12 ≤ x5_6 then some 1 else Option.bind (f_X0_moveOf bc bl bp ga x5_6) (fun r59_9 => Option.bind (f_X0_moveOnPad psz psg x5_6) (fun r66_10 => if r59_9 = r66_10 then jlet (x5_6 + 1) (fun v5_12 => (f_X0_begins_L38 bc bl bp psz psg ga n) v5_12) else some 0))
def f_X0_begins (bc : Int32) (bs : (Nat → Int64)) (bl : (Nat → Int32)) (bp : (Nat → Int32)) (psz : Int32) (psg : (Nat → Int32)) (ga : Int32) (st : Int64) : Option Int32 :=
  if (f_X0_has bc ga) = 0 then some 0 else if (ga) < 0 ∨ 8 ≤ (ga).toNatClampNeg then none else if (lg_cmp (bs (ga).toNatClampNeg) st) = 0 then if (ga) < 0 ∨ 8 ≤ (ga).toNatClampNeg then none else if (f_X3_countMoves psz) ≤ (bl (ga).toNatClampNeg) then f_X0_begins_L38 bc bl bp psz psg ga 100 0 else some 0 else some 0
abbrev rm_X0_begins : Room := { frames := 4, cells := 0, slots := 0, locals := 84 }
set_option maxHeartbeats 4000000 in
set_option maxRecDepth 100000 in
theorem k_X0_begins (G : gT) (l : Launch) (bk : Nat) (pd : Nat) (bS : Nat) (bL : Nat) (bR : Nat) (bP : Nat) (pS : Nat) (bc : Int32) (bs : (Nat → Int64)) (bl : (Nat → Int32)) (bp : (Nat → Int32)) (psz : Int32) (psg : (Nat → Int32)) (ga : Int32) (st : Int64) (r : Int32) (hF : f_X0_begins bc bs bl bp psz psg ga st = some r) : HM G l yX0_begins (.code yX0_begins cX0_begins 6 (some .boolean) :: UW) rm_X0_begins 0 0 [.ref bk, .int ga, .long st, .ref pd] [(bk, .inr (0, [.ref bS, .ref bL, .ref bR, .ref bP, .int bc])), (bS, .inl (gJ G, 8, .inr (.inl bs))), (bL, .inl (gI G, 8, .inl bl)), (bP, .inl (gI G, 96, .inl bp)), (pd, .inr (3, [.ref pS, .int psz])), (pS, .inl (gB G, 48, .inl psg))] (some (.int r)) [(bk, .inr (0, [.ref bS, .ref bL, .ref bR, .ref bP, .int bc])), (bS, .inl (gJ G, 8, .inr (.inl bs))), (bL, .inl (gI G, 8, .inl bl)), (bP, .inl (gI G, 96, .inl bp)), (pd, .inr (3, [.ref pS, .int psz])), (pS, .inl (gB G, 48, .inl psg))] := by
  refine HM.ofW (by decide) (Nat.le_of_ble_eq_true rfl) ?_
  intro p e s m args below meth c A post hpost hC hP hD hS ls hl
  obtain ⟨hx, hb, hr, hml, hown, hts, hlk, hE, hA⟩ := hC
  have hl : lv_has ls 6 [(0, .ref bk), (1, .int ga), (2, .long st), (4, .ref pd)] := hl
  unfold f_X0_begins at hF
  refine lv_aload_n hx hb dX0_begins_0 rfl (lv_at hl 0 rfl) ?_
  refine lv_iload_n hx hb dX0_begins_1 rfl (lv_at hl 1 rfl) ?_
  refine hm_V (wn := [(bk, .inr (0, [.ref bS, .ref bL, .ref bR, .ref bP, .int bc])), (bS, .inl (gJ G, 8, .inr (.inl bs))), (bL, .inl (gI G, 8, .inl bl)), (bP, .inl (gI G, 96, .inl bp)), (pd, .inr (3, [.ref pS, .int psz])), (pS, .inl (gB G, 48, .inl psg))]) (wr := [(bS, .inl (gJ G, 8, .inr (.inl bs))), (bL, .inl (gI G, 8, .inl bl)), (bP, .inl (gI G, 96, .inl bp)), (pd, .inr (3, [.ref pS, .int psz])), (pS, .inl (gB G, 48, .inl psg))]) (rest := []) (sn := [.int (f_X0_has bc ga)]) hx hb hml hown hts hE hA (k_X0_has G l bk bS bL bR bP bc ga _ rfl) sm_X0_has mw_633 ⟨rfl, rfl, Nat.le_of_ble_eq_true rfl, Nat.le_of_ble_eq_true rfl⟩ hP hD hS 0 rfl rfl [0] [1, 2, 3, 4, 5] [5, 0, 1, 2, 3, 4] rfl rfl rfl (by decide) hl.1 rfl rfl (Nat.le_of_ble_eq_true rfl) dX0_begins_2 ⟨Nat.le_of_ble_eq_true rfl, Nat.le_of_ble_eq_true rfl⟩ (fun H locs hP hD hS => ?_)
  refine lv_if_eq (tgt := 33) hx hb dX0_begins_5 (by decide) (fun c_1 => ?_) (fun c_1 => ?_)
  · have hF := ifp hF c_1
    refine lv_iconst (v := 0) hx hb dX0_begins_33 (by decide) ?_
    have hF := Option.some.inj hF
    subst hF
    exact hm_zret hx hb hr hlk hP hD hS (by decide +kernel) hpost dX0_begins_34
  · have hF := ifn hF c_1
    refine lv_aload_n hx hb dX0_begins_8 rfl (lv_at hl 0 rfl) ?_
    refine hget hx hb hts hown hE fl_X0_9 hP 0 rfl rfl dX0_begins_9 ?_
    refine lv_iload_n hx hb dX0_begins_12 rfl (lv_at hl 1 rfl) ?_
    obtain ⟨hi_2, hF⟩ := inb hF
    refine hlald hx hb hE hP 1 rfl hi_2 dX0_begins_13 ?_
    refine lv_lload_n hx hb dX0_begins_14 rfl (lv_at hl 2 rfl) ?_
    refine W.lcmp hx hb dX0_begins_15 ?_
    refine lv_if_ne (tgt := 33) hx hb dX0_begins_16 (by decide) (fun c_3 => ?_) (fun c_3 => ?_)
    · have hF := ifn hF c_3
      refine lv_iconst (v := 0) hx hb dX0_begins_33 (by decide) ?_
      have hF := Option.some.inj hF
      subst hF
      exact hm_zret hx hb hr hlk hP hD hS (by decide +kernel) hpost dX0_begins_34
    · have hF := ifp hF c_3
      refine lv_aload_n hx hb dX0_begins_19 rfl (lv_at hl 0 rfl) ?_
      refine hget hx hb hts hown hE fl_X0_15 hP 0 rfl rfl dX0_begins_20 ?_
      refine lv_iload_n hx hb dX0_begins_23 rfl (lv_at hl 1 rfl) ?_
      obtain ⟨hi_4, hF⟩ := inb hF
      refine hiald hx hb hE hP 2 rfl hi_4 dX0_begins_24 ?_
      refine lv_aload hx hb dX0_begins_25 (lv_at hl 3 rfl) ?_
      refine hm_V (wn := [(bk, .inr (0, [.ref bS, .ref bL, .ref bR, .ref bP, .int bc])), (bS, .inl (gJ G, 8, .inr (.inl bs))), (bL, .inl (gI G, 8, .inl bl)), (bP, .inl (gI G, 96, .inl bp)), (pd, .inr (3, [.ref pS, .int psz])), (pS, .inl (gB G, 48, .inl psg))]) (wr := [(bk, .inr (0, [.ref bS, .ref bL, .ref bR, .ref bP, .int bc])), (bS, .inl (gJ G, 8, .inr (.inl bs))), (bL, .inl (gI G, 8, .inl bl)), (bP, .inl (gI G, 96, .inl bp)), (pS, .inl (gB G, 48, .inl psg))]) (rest := [.int (bl (ga).toNatClampNeg)]) (sn := [.int (f_X3_countMoves psz), .int (bl (ga).toNatClampNeg)]) hx hb hml hown hts hE hA (k_X3_countMoves G l pd pS psz _ rfl) sm_X3_countMoves mw_619 ⟨rfl, rfl, Nat.le_of_ble_eq_true rfl, Nat.le_of_ble_eq_true rfl⟩ hP hD hS 4 rfl rfl [4] [0, 1, 2, 3, 5] [0, 1, 2, 3, 5, 4] rfl rfl rfl (by decide) hl.1 rfl rfl (Nat.le_of_ble_eq_true rfl) dX0_begins_27 ⟨Nat.le_of_ble_eq_true rfl, Nat.le_of_ble_eq_true rfl⟩ (fun H locs hP hD hS => ?_)
      refine lv_icmp_ge (tgt := 35) hx hb dX0_begins_30 (by decide) (fun c_5 => ?_) (fun c_5 => ?_)
      · have hF := ifp hF c_5
        refine lv_iconst (v := 0) hx hb dX0_begins_35 (by decide) ?_
        refine lv_istore (lv' := [(5, .int 0), (0, .ref bk), (1, .int ga), (2, .long st), (4, .ref pd)]) hx hb dX0_begins_36 hl (by decide) rfl (fun ls hl => ?_)
        have hL38 : ∀ (n38 : Nat) (x5_6 : Int32) (H : Heap) (locs : List Loc) (ls : Array Slot), f_X0_begins_L38 bc bl bp psz psg ga n38 x5_6 = some r → va_P (gD G) vwCl [(bk, .inr (0, [.ref bS, .ref bL, .ref bR, .ref bP, .int bc])), (bS, .inl (gJ G, 8, .inr (.inl bs))), (bL, .inl (gI G, 8, .inl bl)), (bP, .inl (gI G, 96, .inl bp)), (pd, .inr (3, [.ref pS, .int psz])), (pS, .inl (gB G, 48, .inl psg))] H → va_D A [(bk, .inr (0, [.ref bS, .ref bL, .ref bR, .ref bP, .int bc])), (bS, .inl (gJ G, 8, .inr (.inl bs))), (bL, .inl (gI G, 8, .inl bl)), (bP, .inl (gI G, 96, .inl bp)), (pd, .inr (3, [.ref pS, .int psz])), (pS, .inl (gB G, 48, .inl psg))] → va_S A s.heap H locs → lv_has ls 6 [(0, .ref bk), (1, .int ga), (4, .ref pd), (5, .int x5_6)] → W p l e rm_X0_begins s m args below meth c H locs 0 0 (MQ below (HXq G post A) args s 0 0 A) (F0 m 38 ls []) := by
          intro n38
          induction n38 with
          | zero =>
            intro x5_6 H locs ls hF
            exact absurd hF (fun h => by cases h)
          | succ n38 ih38 =>
            intro x5_6 H locs ls hF hP hD hS hl
            unfold f_X0_begins_L38 at hF
            refine lv_iload hx hb dX0_begins_38 (lv_at hl 3 rfl) ?_
            refine lv_aload hx hb dX0_begins_40 (lv_at hl 2 rfl) ?_
            refine hm_V (wn := [(bk, .inr (0, [.ref bS, .ref bL, .ref bR, .ref bP, .int bc])), (bS, .inl (gJ G, 8, .inr (.inl bs))), (bL, .inl (gI G, 8, .inl bl)), (bP, .inl (gI G, 96, .inl bp)), (pd, .inr (3, [.ref pS, .int psz])), (pS, .inl (gB G, 48, .inl psg))]) (wr := [(bk, .inr (0, [.ref bS, .ref bL, .ref bR, .ref bP, .int bc])), (bS, .inl (gJ G, 8, .inr (.inl bs))), (bL, .inl (gI G, 8, .inl bl)), (bP, .inl (gI G, 96, .inl bp)), (pS, .inl (gB G, 48, .inl psg))]) (rest := [.int x5_6]) (sn := [.int (f_X3_countMoves psz), .int x5_6]) hx hb hml hown hts hE hA (k_X3_countMoves G l pd pS psz _ rfl) sm_X3_countMoves mw_619 ⟨rfl, rfl, Nat.le_of_ble_eq_true rfl, Nat.le_of_ble_eq_true rfl⟩ hP hD hS 4 rfl rfl [4] [0, 1, 2, 3, 5] [0, 1, 2, 3, 5, 4] rfl rfl rfl (by decide) hl.1 rfl rfl (Nat.le_of_ble_eq_true rfl) dX0_begins_42 ⟨Nat.le_of_ble_eq_true rfl, Nat.le_of_ble_eq_true rfl⟩ (fun H locs hP hD hS => ?_)
            refine lv_icmp_ge (tgt := 80) hx hb dX0_begins_45 (by decide) (fun c_7 => ?_) (fun c_7 => ?_)
            · have hF := ifp hF c_7
              refine lv_iconst (v := 1) hx hb dX0_begins_80 (by decide) ?_
              have hF := Option.some.inj hF
              subst hF
              exact hm_zret hx hb hr hlk hP hD hS (by decide +kernel) hpost dX0_begins_81
            · have hF := ifn hF c_7
              refine lv_iload hx hb dX0_begins_48 (lv_at hl 3 rfl) ?_
              refine lv_bipush (v := 12) hx hb dX0_begins_50 (by decide) ?_
              refine lv_icmp_ge (tgt := 80) hx hb dX0_begins_52 (by decide) (fun c_8 => ?_) (fun c_8 => ?_)
              · have hF := ifp hF c_8
                refine lv_iconst (v := 1) hx hb dX0_begins_80 (by decide) ?_
                have hF := Option.some.inj hF
                subst hF
                exact hm_zret hx hb hr hlk hP hD hS (by decide +kernel) hpost dX0_begins_81
              · have hF := ifn hF c_8
                refine lv_aload_n hx hb dX0_begins_55 rfl (lv_at hl 0 rfl) ?_
                refine lv_iload_n hx hb dX0_begins_56 rfl (lv_at hl 1 rfl) ?_
                refine lv_iload hx hb dX0_begins_57 (lv_at hl 3 rfl) ?_
                obtain ⟨r59_9, hr59_9, hF⟩ := bnd hF
                refine hm_V (wn := [(bk, .inr (0, [.ref bS, .ref bL, .ref bR, .ref bP, .int bc])), (bS, .inl (gJ G, 8, .inr (.inl bs))), (bL, .inl (gI G, 8, .inl bl)), (bP, .inl (gI G, 96, .inl bp)), (pd, .inr (3, [.ref pS, .int psz])), (pS, .inl (gB G, 48, .inl psg))]) (wr := [(bS, .inl (gJ G, 8, .inr (.inl bs))), (pd, .inr (3, [.ref pS, .int psz])), (pS, .inl (gB G, 48, .inl psg))]) (rest := []) (sn := [.int r59_9]) hx hb hml hown hts hE hA (k_X0_moveOf G l bk bS bL bR bP bc bl bp ga x5_6 r59_9 hr59_9) sm_X0_moveOf mw_658 ⟨rfl, rfl, Nat.le_of_ble_eq_true rfl, Nat.le_of_ble_eq_true rfl⟩ hP hD hS 0 rfl rfl [0, 2, 3] [1, 4, 5] [3, 0, 4, 5, 1, 2] rfl rfl rfl (by decide) hl.1 rfl rfl (Nat.le_of_ble_eq_true rfl) dX0_begins_59 ⟨Nat.le_of_ble_eq_true rfl, Nat.le_of_ble_eq_true rfl⟩ (fun H locs hP hD hS => ?_)
                refine lv_aload hx hb dX0_begins_62 (lv_at hl 2 rfl) ?_
                refine lv_iload hx hb dX0_begins_64 (lv_at hl 3 rfl) ?_
                obtain ⟨r66_10, hr66_10, hF⟩ := bnd hF
                refine hm_S (wn := [(bk, .inr (0, [.ref bS, .ref bL, .ref bR, .ref bP, .int bc])), (bS, .inl (gJ G, 8, .inr (.inl bs))), (bL, .inl (gI G, 8, .inl bl)), (bP, .inl (gI G, 96, .inl bp)), (pd, .inr (3, [.ref pS, .int psz])), (pS, .inl (gB G, 48, .inl psg))]) (wr := [(bk, .inr (0, [.ref bS, .ref bL, .ref bR, .ref bP, .int bc])), (bS, .inl (gJ G, 8, .inr (.inl bs))), (bL, .inl (gI G, 8, .inl bl)), (bP, .inl (gI G, 96, .inl bp))]) (rest := [.int r59_9]) (sn := [.int r66_10, .int r59_9]) hx hb hml hown hts hE hA (k_X0_moveOnPad G l pd pS psz psg x5_6 r66_10 hr66_10) sm_X0_moveOnPad mw_620 ⟨rfl, rfl, Nat.le_of_ble_eq_true rfl, Nat.le_of_ble_eq_true rfl⟩ hP hD hS [4, 5] [0, 1, 2, 3] [0, 1, 2, 3, 4, 5] rfl rfl rfl (by decide) hl.1 rfl rfl (Nat.le_of_ble_eq_true rfl) dX0_begins_66 ⟨Nat.le_of_ble_eq_true rfl, Nat.le_of_ble_eq_true rfl⟩ (fun H locs hP hD hS => ?_)
                refine lv_icmp_eq (tgt := 74) hx hb dX0_begins_69 (by decide) (fun c_11 => ?_) (fun c_11 => ?_)
                · have hF := ifp hF c_11
                  obtain ⟨v5_12, ev5_12⟩ : ∃ z : Int32, z = x5_6 + 1 := ⟨_, rfl⟩
                  have hF := jl hF ev5_12
                  refine lv_iinc (v := v5_12) (lv' := [(5, .int v5_12), (0, .ref bk), (1, .int ga), (4, .ref pd)]) hx hb dX0_begins_74 hl (k := 3) rfl (by rw [ev5_12]; rfl) (by decide) rfl (fun ls hl => ?_)
                  refine lv_goto (tgt := 38) hx hb dX0_begins_77 (by decide) ?_
                  exact ih38 v5_12 _ _ _ hF hP hD hS (lv_sub hl [1, 2, 3, 0] rfl)
                · have hF := ifn hF c_11
                  refine lv_iconst (v := 0) hx hb dX0_begins_72 (by decide) ?_
                  have hF := Option.some.inj hF
                  subst hF
                  exact hm_zret hx hb hr hlk hP hD hS (by decide +kernel) hpost dX0_begins_73
        exact hL38 _ 0 _ _ _ hF hP hD hS (lv_sub hl [1, 2, 4, 0] rfl)
      · have hF := ifn hF c_5
        refine lv_iconst (v := 0) hx hb dX0_begins_33 (by decide) ?_
        have hF := Option.some.inj hF
        subst hF
        exact hm_zret hx hb hr hlk hP hD hS (by decide +kernel) hpost dX0_begins_34
def f_X0_countBegun_B29 (k_6 : Int32 → Int32 → Option Int32) (x5_2 : Int32) (x4_5 : Int32) : Option Int32 :=
  jlet (x5_2 + 1) (fun v5_6 => k_6 x4_5 v5_6)
def f_X0_countBegun_L6 (bc : Int32) (bs : (Nat → Int64)) (bl : (Nat → Int32)) (bp : (Nat → Int32)) (psz : Int32) (psg : (Nat → Int32)) (st : Int64) : Nat → Int32 → Int32 → Option Int32
  | 0, _, _ => none
  | n+1, x4_1, x5_2 =>
  if bc ≤ x5_2 then some x4_1 else Option.bind (f_X0_begins bc bs bl bp psz psg x5_2 st) (fun r20_4 => if r20_4 = 0 then f_X0_countBegun_B29 (f_X0_countBegun_L6 bc bs bl bp psz psg st n) x5_2 x4_1 else jlet (x4_1 + 1) (fun v4_8 => f_X0_countBegun_B29 (f_X0_countBegun_L6 bc bs bl bp psz psg st n) x5_2 v4_8))
def f_X0_countBegun (bc : Int32) (bs : (Nat → Int64)) (bl : (Nat → Int32)) (bp : (Nat → Int32)) (psz : Int32) (psg : (Nat → Int32)) (st : Int64) : Option Int32 :=
  f_X0_countBegun_L6 bc bs bl bp psz psg st 100 0 0
abbrev rm_X0_countBegun : Room := { frames := 5, cells := 0, slots := 0, locals := 109 }
set_option maxHeartbeats 4000000 in
set_option maxRecDepth 100000 in
theorem k_X0_countBegun (G : gT) (l : Launch) (bk : Nat) (pd : Nat) (bS : Nat) (bL : Nat) (bR : Nat) (bP : Nat) (pS : Nat) (bc : Int32) (bs : (Nat → Int64)) (bl : (Nat → Int32)) (bp : (Nat → Int32)) (psz : Int32) (psg : (Nat → Int32)) (st : Int64) (r : Int32) (hF : f_X0_countBegun bc bs bl bp psz psg st = some r) : HM G l yX0_countBegun (.code yX0_countBegun cX0_countBegun 6 (some .int) :: UW) rm_X0_countBegun 0 0 [.ref bk, .long st, .ref pd] [(bk, .inr (0, [.ref bS, .ref bL, .ref bR, .ref bP, .int bc])), (bS, .inl (gJ G, 8, .inr (.inl bs))), (bL, .inl (gI G, 8, .inl bl)), (bP, .inl (gI G, 96, .inl bp)), (pd, .inr (3, [.ref pS, .int psz])), (pS, .inl (gB G, 48, .inl psg))] (some (.int r)) [(bk, .inr (0, [.ref bS, .ref bL, .ref bR, .ref bP, .int bc])), (bS, .inl (gJ G, 8, .inr (.inl bs))), (bL, .inl (gI G, 8, .inl bl)), (bP, .inl (gI G, 96, .inl bp)), (pd, .inr (3, [.ref pS, .int psz])), (pS, .inl (gB G, 48, .inl psg))] := by
  refine HM.ofW (by decide) (Nat.le_of_ble_eq_true rfl) ?_
  intro p e s m args below meth c A post hpost hC hP hD hS ls hl
  obtain ⟨hx, hb, hr, hml, hown, hts, hlk, hE, hA⟩ := hC
  have hl : lv_has ls 6 [(0, .ref bk), (1, .long st), (3, .ref pd)] := hl
  unfold f_X0_countBegun at hF
  refine lv_iconst (v := 0) hx hb dX0_countBegun_0 (by decide) ?_
  refine lv_istore (lv' := [(4, .int 0), (0, .ref bk), (1, .long st), (3, .ref pd)]) hx hb dX0_countBegun_1 hl (by decide) rfl (fun ls hl => ?_)
  refine lv_iconst (v := 0) hx hb dX0_countBegun_3 (by decide) ?_
  refine lv_istore (lv' := [(5, .int 0), (4, .int 0), (0, .ref bk), (1, .long st), (3, .ref pd)]) hx hb dX0_countBegun_4 hl (by decide) rfl (fun ls hl => ?_)
  have hL6 : ∀ (n6 : Nat) (x4_1 : Int32) (x5_2 : Int32) (H : Heap) (locs : List Loc) (ls : Array Slot), f_X0_countBegun_L6 bc bs bl bp psz psg st n6 x4_1 x5_2 = some r → va_P (gD G) vwCl [(bk, .inr (0, [.ref bS, .ref bL, .ref bR, .ref bP, .int bc])), (bS, .inl (gJ G, 8, .inr (.inl bs))), (bL, .inl (gI G, 8, .inl bl)), (bP, .inl (gI G, 96, .inl bp)), (pd, .inr (3, [.ref pS, .int psz])), (pS, .inl (gB G, 48, .inl psg))] H → va_D A [(bk, .inr (0, [.ref bS, .ref bL, .ref bR, .ref bP, .int bc])), (bS, .inl (gJ G, 8, .inr (.inl bs))), (bL, .inl (gI G, 8, .inl bl)), (bP, .inl (gI G, 96, .inl bp)), (pd, .inr (3, [.ref pS, .int psz])), (pS, .inl (gB G, 48, .inl psg))] → va_S A s.heap H locs → lv_has ls 6 [(0, .ref bk), (1, .long st), (3, .ref pd), (4, .int x4_1), (5, .int x5_2)] → W p l e rm_X0_countBegun s m args below meth c H locs 0 0 (MQ below (HXq G post A) args s 0 0 A) (F0 m 6 ls []) := by
    intro n6
    induction n6 with
    | zero =>
      intro x4_1 x5_2 H locs ls hF
      exact absurd hF (fun h => by cases h)
    | succ n6 ih6 =>
      intro x4_1 x5_2 H locs ls hF hP hD hS hl
      unfold f_X0_countBegun_L6 at hF
      refine lv_iload hx hb dX0_countBegun_6 (lv_at hl 4 rfl) ?_
      refine lv_aload_n hx hb dX0_countBegun_8 rfl (lv_at hl 0 rfl) ?_
      refine hget hx hb hts hown hE fl_X0_25 hP 0 rfl rfl dX0_countBegun_9 ?_
      refine lv_icmp_ge (tgt := 35) hx hb dX0_countBegun_12 (by decide) (fun c_3 => ?_) (fun c_3 => ?_)
      · have hF := ifp hF c_3
        refine lv_iload hx hb dX0_countBegun_35 (lv_at hl 3 rfl) ?_
        have hF := Option.some.inj hF
        subst hF
        exact hm_iret hx hb hr hlk hP hD hS hpost dX0_countBegun_37
      · have hF := ifn hF c_3
        refine lv_aload_n hx hb dX0_countBegun_15 rfl (lv_at hl 0 rfl) ?_
        refine lv_iload hx hb dX0_countBegun_16 (lv_at hl 4 rfl) ?_
        refine lv_lload_n hx hb dX0_countBegun_18 rfl (lv_at hl 1 rfl) ?_
        refine lv_aload_n hx hb dX0_countBegun_19 rfl (lv_at hl 2 rfl) ?_
        obtain ⟨r20_4, hr20_4, hF⟩ := bnd hF
        refine hm_V (wn := [(bk, .inr (0, [.ref bS, .ref bL, .ref bR, .ref bP, .int bc])), (bS, .inl (gJ G, 8, .inr (.inl bs))), (bL, .inl (gI G, 8, .inl bl)), (bP, .inl (gI G, 96, .inl bp)), (pd, .inr (3, [.ref pS, .int psz])), (pS, .inl (gB G, 48, .inl psg))]) (wr := []) (rest := []) (sn := [.int r20_4]) hx hb hml hown hts hE hA (k_X0_begins G l bk pd bS bL bR bP pS bc bs bl bp psz psg x5_2 st r20_4 hr20_4) sm_X0_begins mw_654 ⟨rfl, rfl, Nat.le_of_ble_eq_true rfl, Nat.le_of_ble_eq_true rfl⟩ hP hD hS 0 rfl rfl [0, 1, 2, 3, 4, 5] [] [0, 1, 2, 3, 4, 5] rfl rfl rfl (by decide) hl.1 rfl rfl (Nat.le_of_ble_eq_true rfl) dX0_countBegun_20 ⟨Nat.le_of_ble_eq_true rfl, Nat.le_of_ble_eq_true rfl⟩ (fun H locs hP hD hS => ?_)
        have hB29 : ∀ (x4_5 : Int32) (H : Heap) (locs : List Loc) (ls : Array Slot), f_X0_countBegun_B29 (f_X0_countBegun_L6 bc bs bl bp psz psg st n6) x5_2 x4_5 = some r → va_P (gD G) vwCl [(bk, .inr (0, [.ref bS, .ref bL, .ref bR, .ref bP, .int bc])), (bS, .inl (gJ G, 8, .inr (.inl bs))), (bL, .inl (gI G, 8, .inl bl)), (bP, .inl (gI G, 96, .inl bp)), (pd, .inr (3, [.ref pS, .int psz])), (pS, .inl (gB G, 48, .inl psg))] H → va_D A [(bk, .inr (0, [.ref bS, .ref bL, .ref bR, .ref bP, .int bc])), (bS, .inl (gJ G, 8, .inr (.inl bs))), (bL, .inl (gI G, 8, .inl bl)), (bP, .inl (gI G, 96, .inl bp)), (pd, .inr (3, [.ref pS, .int psz])), (pS, .inl (gB G, 48, .inl psg))] → va_S A s.heap H locs → lv_has ls 6 [(0, .ref bk), (1, .long st), (3, .ref pd), (4, .int x4_5), (5, .int x5_2)] → W p l e rm_X0_countBegun s m args below meth c H locs 0 0 (MQ below (HXq G post A) args s 0 0 A) (F0 m 29 ls []) := by
          intro x4_5 H locs ls hF hP hD hS hl
          unfold f_X0_countBegun_B29 at hF
          obtain ⟨v5_6, ev5_6⟩ : ∃ z : Int32, z = x5_2 + 1 := ⟨_, rfl⟩
          have hF := jl hF ev5_6
          refine lv_iinc (v := v5_6) (lv' := [(5, .int v5_6), (0, .ref bk), (1, .long st), (3, .ref pd), (4, .int x4_5)]) hx hb dX0_countBegun_29 hl (k := 4) rfl (by rw [ev5_6]; rfl) (by decide) rfl (fun ls hl => ?_)
          refine lv_goto (tgt := 6) hx hb dX0_countBegun_32 (by decide) ?_
          exact ih6 x4_5 v5_6 _ _ _ hF hP hD hS (lv_sub hl [1, 2, 3, 4, 0] rfl)
        refine lv_if_eq (tgt := 29) hx hb dX0_countBegun_23 (by decide) (fun c_7 => ?_) (fun c_7 => ?_)
        · have hF := ifp hF c_7
          exact hB29 x4_1 _ _ _ hF hP hD hS (lv_sub hl [0, 1, 2, 3, 4] rfl)
        · have hF := ifn hF c_7
          obtain ⟨v4_8, ev4_8⟩ : ∃ z : Int32, z = x4_1 + 1 := ⟨_, rfl⟩
          have hF := jl hF ev4_8
          refine lv_iinc (v := v4_8) (lv' := [(4, .int v4_8), (0, .ref bk), (1, .long st), (3, .ref pd), (5, .int x5_2)]) hx hb dX0_countBegun_26 hl (k := 3) rfl (by rw [ev4_8]; rfl) (by decide) rfl (fun ls hl => ?_)
          exact hB29 v4_8 _ _ _ hF hP hD hS (lv_sub hl [1, 2, 3, 0, 4] rfl)
  exact hL6 _ 0 0 _ _ _ hF hP hD hS (lv_sub hl [2, 3, 4, 1, 0] rfl)
def f_X0_countWon_B40 (k_6 : Int32 → Int32 → Option Int32) (x6_2 : Int32) (x5_5 : Int32) : Option Int32 :=
  jlet (x6_2 + 1) (fun v6_6 => k_6 x5_5 v6_6)
def f_X0_countWon_L6 (bc : Int32) (bs : (Nat → Int64)) (bl : (Nat → Int32)) (br : (Nat → Int32)) (bp : (Nat → Int32)) (psz : Int32) (psg : (Nat → Int32)) (st : Int64) (bo : Int32) : Nat → Int32 → Int32 → Option Int32
  | 0, _, _ => none
  | n+1, x5_1, x6_2 =>
  if bc ≤ x6_2 then some x5_1 else Option.bind (f_X0_begins bc bs bl bp psz psg x6_2 st) (fun r20_4 => if r20_4 = 0 then f_X0_countWon_B40 (f_X0_countWon_L6 bc bs bl br bp psz psg st bo n) x6_2 x5_1 else Option.bind (f_X0_broughtBy bc br x6_2) (fun r29_8 => if r29_8 = bo then jlet (x5_1 + 1) (fun v5_10 => f_X0_countWon_B40 (f_X0_countWon_L6 bc bs bl br bp psz psg st bo n) x6_2 v5_10) else f_X0_countWon_B40 (f_X0_countWon_L6 bc bs bl br bp psz psg st bo n) x6_2 x5_1))
def f_X0_countWon (bc : Int32) (bs : (Nat → Int64)) (bl : (Nat → Int32)) (br : (Nat → Int32)) (bp : (Nat → Int32)) (psz : Int32) (psg : (Nat → Int32)) (st : Int64) (bo : Int32) : Option Int32 :=
  f_X0_countWon_L6 bc bs bl br bp psz psg st bo 100 0 0
abbrev rm_X0_countWon : Room := { frames := 5, cells := 0, slots := 0, locals := 109 }
set_option maxHeartbeats 4000000 in
set_option maxRecDepth 100000 in
theorem k_X0_countWon (G : gT) (l : Launch) (bk : Nat) (pd : Nat) (bS : Nat) (bL : Nat) (bR : Nat) (bP : Nat) (pS : Nat) (bc : Int32) (bs : (Nat → Int64)) (bl : (Nat → Int32)) (br : (Nat → Int32)) (bp : (Nat → Int32)) (psz : Int32) (psg : (Nat → Int32)) (st : Int64) (bo : Int32) (r : Int32) (hF : f_X0_countWon bc bs bl br bp psz psg st bo = some r) : HM G l yX0_countWon (.code yX0_countWon cX0_countWon 7 (some .int) :: UW) rm_X0_countWon 0 0 [.ref bk, .long st, .ref pd, .int bo] [(bk, .inr (0, [.ref bS, .ref bL, .ref bR, .ref bP, .int bc])), (bS, .inl (gJ G, 8, .inr (.inl bs))), (bL, .inl (gI G, 8, .inl bl)), (bR, .inl (gI G, 8, .inl br)), (bP, .inl (gI G, 96, .inl bp)), (pd, .inr (3, [.ref pS, .int psz])), (pS, .inl (gB G, 48, .inl psg))] (some (.int r)) [(bk, .inr (0, [.ref bS, .ref bL, .ref bR, .ref bP, .int bc])), (bS, .inl (gJ G, 8, .inr (.inl bs))), (bL, .inl (gI G, 8, .inl bl)), (bR, .inl (gI G, 8, .inl br)), (bP, .inl (gI G, 96, .inl bp)), (pd, .inr (3, [.ref pS, .int psz])), (pS, .inl (gB G, 48, .inl psg))] := by
  refine HM.ofW (by decide) (Nat.le_of_ble_eq_true rfl) ?_
  intro p e s m args below meth c A post hpost hC hP hD hS ls hl
  obtain ⟨hx, hb, hr, hml, hown, hts, hlk, hE, hA⟩ := hC
  have hl : lv_has ls 7 [(0, .ref bk), (1, .long st), (3, .ref pd), (4, .int bo)] := hl
  unfold f_X0_countWon at hF
  refine lv_iconst (v := 0) hx hb dX0_countWon_0 (by decide) ?_
  refine lv_istore (lv' := [(5, .int 0), (0, .ref bk), (1, .long st), (3, .ref pd), (4, .int bo)]) hx hb dX0_countWon_1 hl (by decide) rfl (fun ls hl => ?_)
  refine lv_iconst (v := 0) hx hb dX0_countWon_3 (by decide) ?_
  refine lv_istore (lv' := [(6, .int 0), (5, .int 0), (0, .ref bk), (1, .long st), (3, .ref pd), (4, .int bo)]) hx hb dX0_countWon_4 hl (by decide) rfl (fun ls hl => ?_)
  have hL6 : ∀ (n6 : Nat) (x5_1 : Int32) (x6_2 : Int32) (H : Heap) (locs : List Loc) (ls : Array Slot), f_X0_countWon_L6 bc bs bl br bp psz psg st bo n6 x5_1 x6_2 = some r → va_P (gD G) vwCl [(bk, .inr (0, [.ref bS, .ref bL, .ref bR, .ref bP, .int bc])), (bS, .inl (gJ G, 8, .inr (.inl bs))), (bL, .inl (gI G, 8, .inl bl)), (bR, .inl (gI G, 8, .inl br)), (bP, .inl (gI G, 96, .inl bp)), (pd, .inr (3, [.ref pS, .int psz])), (pS, .inl (gB G, 48, .inl psg))] H → va_D A [(bk, .inr (0, [.ref bS, .ref bL, .ref bR, .ref bP, .int bc])), (bS, .inl (gJ G, 8, .inr (.inl bs))), (bL, .inl (gI G, 8, .inl bl)), (bR, .inl (gI G, 8, .inl br)), (bP, .inl (gI G, 96, .inl bp)), (pd, .inr (3, [.ref pS, .int psz])), (pS, .inl (gB G, 48, .inl psg))] → va_S A s.heap H locs → lv_has ls 7 [(0, .ref bk), (1, .long st), (3, .ref pd), (4, .int bo), (5, .int x5_1), (6, .int x6_2)] → W p l e rm_X0_countWon s m args below meth c H locs 0 0 (MQ below (HXq G post A) args s 0 0 A) (F0 m 6 ls []) := by
    intro n6
    induction n6 with
    | zero =>
      intro x5_1 x6_2 H locs ls hF
      exact absurd hF (fun h => by cases h)
    | succ n6 ih6 =>
      intro x5_1 x6_2 H locs ls hF hP hD hS hl
      unfold f_X0_countWon_L6 at hF
      refine lv_iload hx hb dX0_countWon_6 (lv_at hl 5 rfl) ?_
      refine lv_aload_n hx hb dX0_countWon_8 rfl (lv_at hl 0 rfl) ?_
      refine hget hx hb hts hown hE fl_X0_25 hP 0 rfl rfl dX0_countWon_9 ?_
      refine lv_icmp_ge (tgt := 46) hx hb dX0_countWon_12 (by decide) (fun c_3 => ?_) (fun c_3 => ?_)
      · have hF := ifp hF c_3
        refine lv_iload hx hb dX0_countWon_46 (lv_at hl 4 rfl) ?_
        have hF := Option.some.inj hF
        subst hF
        exact hm_iret hx hb hr hlk hP hD hS hpost dX0_countWon_48
      · have hF := ifn hF c_3
        refine lv_aload_n hx hb dX0_countWon_15 rfl (lv_at hl 0 rfl) ?_
        refine lv_iload hx hb dX0_countWon_16 (lv_at hl 5 rfl) ?_
        refine lv_lload_n hx hb dX0_countWon_18 rfl (lv_at hl 1 rfl) ?_
        refine lv_aload_n hx hb dX0_countWon_19 rfl (lv_at hl 2 rfl) ?_
        obtain ⟨r20_4, hr20_4, hF⟩ := bnd hF
        refine hm_V (wn := [(bk, .inr (0, [.ref bS, .ref bL, .ref bR, .ref bP, .int bc])), (bS, .inl (gJ G, 8, .inr (.inl bs))), (bL, .inl (gI G, 8, .inl bl)), (bR, .inl (gI G, 8, .inl br)), (bP, .inl (gI G, 96, .inl bp)), (pd, .inr (3, [.ref pS, .int psz])), (pS, .inl (gB G, 48, .inl psg))]) (wr := [(bR, .inl (gI G, 8, .inl br))]) (rest := []) (sn := [.int r20_4]) hx hb hml hown hts hE hA (k_X0_begins G l bk pd bS bL bR bP pS bc bs bl bp psz psg x6_2 st r20_4 hr20_4) sm_X0_begins mw_654 ⟨rfl, rfl, Nat.le_of_ble_eq_true rfl, Nat.le_of_ble_eq_true rfl⟩ hP hD hS 0 rfl rfl [0, 1, 2, 4, 5, 6] [3] [1, 2, 3, 0, 4, 5, 6] rfl rfl rfl (by decide) hl.1 rfl rfl (Nat.le_of_ble_eq_true rfl) dX0_countWon_20 ⟨Nat.le_of_ble_eq_true rfl, Nat.le_of_ble_eq_true rfl⟩ (fun H locs hP hD hS => ?_)
        have hB40 : ∀ (x5_5 : Int32) (H : Heap) (locs : List Loc) (ls : Array Slot), f_X0_countWon_B40 (f_X0_countWon_L6 bc bs bl br bp psz psg st bo n6) x6_2 x5_5 = some r → va_P (gD G) vwCl [(bk, .inr (0, [.ref bS, .ref bL, .ref bR, .ref bP, .int bc])), (bS, .inl (gJ G, 8, .inr (.inl bs))), (bL, .inl (gI G, 8, .inl bl)), (bR, .inl (gI G, 8, .inl br)), (bP, .inl (gI G, 96, .inl bp)), (pd, .inr (3, [.ref pS, .int psz])), (pS, .inl (gB G, 48, .inl psg))] H → va_D A [(bk, .inr (0, [.ref bS, .ref bL, .ref bR, .ref bP, .int bc])), (bS, .inl (gJ G, 8, .inr (.inl bs))), (bL, .inl (gI G, 8, .inl bl)), (bR, .inl (gI G, 8, .inl br)), (bP, .inl (gI G, 96, .inl bp)), (pd, .inr (3, [.ref pS, .int psz])), (pS, .inl (gB G, 48, .inl psg))] → va_S A s.heap H locs → lv_has ls 7 [(0, .ref bk), (1, .long st), (3, .ref pd), (4, .int bo), (5, .int x5_5), (6, .int x6_2)] → W p l e rm_X0_countWon s m args below meth c H locs 0 0 (MQ below (HXq G post A) args s 0 0 A) (F0 m 40 ls []) := by
          intro x5_5 H locs ls hF hP hD hS hl
          unfold f_X0_countWon_B40 at hF
          obtain ⟨v6_6, ev6_6⟩ : ∃ z : Int32, z = x6_2 + 1 := ⟨_, rfl⟩
          have hF := jl hF ev6_6
          refine lv_iinc (v := v6_6) (lv' := [(6, .int v6_6), (0, .ref bk), (1, .long st), (3, .ref pd), (4, .int bo), (5, .int x5_5)]) hx hb dX0_countWon_40 hl (k := 5) rfl (by rw [ev6_6]; rfl) (by decide) rfl (fun ls hl => ?_)
          refine lv_goto (tgt := 6) hx hb dX0_countWon_43 (by decide) ?_
          exact ih6 x5_5 v6_6 _ _ _ hF hP hD hS (lv_sub hl [1, 2, 3, 4, 5, 0] rfl)
        refine lv_if_eq (tgt := 40) hx hb dX0_countWon_23 (by decide) (fun c_7 => ?_) (fun c_7 => ?_)
        · have hF := ifp hF c_7
          exact hB40 x5_1 _ _ _ hF hP hD hS (lv_sub hl [0, 1, 2, 3, 4, 5] rfl)
        · have hF := ifn hF c_7
          refine lv_aload_n hx hb dX0_countWon_26 rfl (lv_at hl 0 rfl) ?_
          refine lv_iload hx hb dX0_countWon_27 (lv_at hl 5 rfl) ?_
          obtain ⟨r29_8, hr29_8, hF⟩ := bnd hF
          refine hm_V (wn := [(bk, .inr (0, [.ref bS, .ref bL, .ref bR, .ref bP, .int bc])), (bS, .inl (gJ G, 8, .inr (.inl bs))), (bL, .inl (gI G, 8, .inl bl)), (bR, .inl (gI G, 8, .inl br)), (bP, .inl (gI G, 96, .inl bp)), (pd, .inr (3, [.ref pS, .int psz])), (pS, .inl (gB G, 48, .inl psg))]) (wr := [(bS, .inl (gJ G, 8, .inr (.inl bs))), (bL, .inl (gI G, 8, .inl bl)), (bP, .inl (gI G, 96, .inl bp)), (pd, .inr (3, [.ref pS, .int psz])), (pS, .inl (gB G, 48, .inl psg))]) (rest := []) (sn := [.int r29_8]) hx hb hml hown hts hE hA (k_X0_broughtBy G l bk bS bL bR bP bc br x6_2 r29_8 hr29_8) sm_X0_broughtBy mw_663 ⟨rfl, rfl, Nat.le_of_ble_eq_true rfl, Nat.le_of_ble_eq_true rfl⟩ hP hD hS 0 rfl rfl [0, 3] [1, 2, 4, 5, 6] [5, 0, 1, 6, 2, 3, 4] rfl rfl rfl (by decide) hl.1 rfl rfl (Nat.le_of_ble_eq_true rfl) dX0_countWon_29 ⟨Nat.le_of_ble_eq_true rfl, Nat.le_of_ble_eq_true rfl⟩ (fun H locs hP hD hS => ?_)
          refine lv_iload hx hb dX0_countWon_32 (lv_at hl 3 rfl) ?_
          refine lv_icmp_ne (tgt := 40) hx hb dX0_countWon_34 (by decide) (fun c_9 => ?_) (fun c_9 => ?_)
          · have hF := ifn hF c_9
            exact hB40 x5_1 _ _ _ hF hP hD hS (lv_sub hl [0, 1, 2, 3, 4, 5] rfl)
          · have hF := ifp hF c_9
            obtain ⟨v5_10, ev5_10⟩ : ∃ z : Int32, z = x5_1 + 1 := ⟨_, rfl⟩
            have hF := jl hF ev5_10
            refine lv_iinc (v := v5_10) (lv' := [(5, .int v5_10), (0, .ref bk), (1, .long st), (3, .ref pd), (4, .int bo), (6, .int x6_2)]) hx hb dX0_countWon_37 hl (k := 4) rfl (by rw [ev5_10]; rfl) (by decide) rfl (fun ls hl => ?_)
            exact hB40 v5_10 _ _ _ hF hP hD hS (lv_sub hl [1, 2, 3, 4, 0, 5] rfl)
  exact hL6 _ 0 0 _ _ _ hF hP hD hS (lv_sub hl [2, 3, 4, 5, 1, 0] rfl)
def f_X0_timesPlayed_B51 (k_6 : Int32 → Int32 → Option Int32) (x6_2 : Int32) (x5_4 : Int32) : Option Int32 :=
  jlet (x6_2 + 1) (fun v6_5 => k_6 x5_4 v6_5)
def f_X0_timesPlayed_L6 (bc : Int32) (bs : (Nat → Int64)) (bl : (Nat → Int32)) (bp : (Nat → Int32)) (psz : Int32) (psg : (Nat → Int32)) (st : Int64) (mv : Int32) : Nat → Int32 → Int32 → Option Int32
  | 0, _, _ => none
  | n+1, x5_1, x6_2 =>
  if bc ≤ x6_2 then some x5_1 else if mv = (-6) then f_X0_timesPlayed_B51 (f_X0_timesPlayed_L6 bc bs bl bp psz psg st mv n) x6_2 x5_1 else Option.bind (f_X0_begins bc bs bl bp psz psg x6_2 st) (fun r27_7 => if r27_7 = 0 then f_X0_timesPlayed_B51 (f_X0_timesPlayed_L6 bc bs bl bp psz psg st mv n) x6_2 x5_1 else Option.bind (f_X0_moveOf bc bl bp x6_2 (f_X3_countMoves psz)) (fun r40_9 => if r40_9 = mv then jlet (x5_1 + 1) (fun v5_11 => f_X0_timesPlayed_B51 (f_X0_timesPlayed_L6 bc bs bl bp psz psg st mv n) x6_2 v5_11) else f_X0_timesPlayed_B51 (f_X0_timesPlayed_L6 bc bs bl bp psz psg st mv n) x6_2 x5_1))
def f_X0_timesPlayed (bc : Int32) (bs : (Nat → Int64)) (bl : (Nat → Int32)) (bp : (Nat → Int32)) (psz : Int32) (psg : (Nat → Int32)) (st : Int64) (mv : Int32) : Option Int32 :=
  f_X0_timesPlayed_L6 bc bs bl bp psz psg st mv 100 0 0
abbrev rm_X0_timesPlayed : Room := { frames := 5, cells := 0, slots := 0, locals := 109 }
set_option maxHeartbeats 4000000 in
set_option maxRecDepth 100000 in
theorem k_X0_timesPlayed (G : gT) (l : Launch) (bk : Nat) (pd : Nat) (bS : Nat) (bL : Nat) (bR : Nat) (bP : Nat) (pS : Nat) (bc : Int32) (bs : (Nat → Int64)) (bl : (Nat → Int32)) (bp : (Nat → Int32)) (psz : Int32) (psg : (Nat → Int32)) (st : Int64) (mv : Int32) (r : Int32) (hF : f_X0_timesPlayed bc bs bl bp psz psg st mv = some r) : HM G l yX0_timesPlayed (.code yX0_timesPlayed cX0_timesPlayed 7 (some .int) :: UW) rm_X0_timesPlayed 0 0 [.ref bk, .long st, .ref pd, .int mv] [(bk, .inr (0, [.ref bS, .ref bL, .ref bR, .ref bP, .int bc])), (bS, .inl (gJ G, 8, .inr (.inl bs))), (bL, .inl (gI G, 8, .inl bl)), (bP, .inl (gI G, 96, .inl bp)), (pd, .inr (3, [.ref pS, .int psz])), (pS, .inl (gB G, 48, .inl psg))] (some (.int r)) [(bk, .inr (0, [.ref bS, .ref bL, .ref bR, .ref bP, .int bc])), (bS, .inl (gJ G, 8, .inr (.inl bs))), (bL, .inl (gI G, 8, .inl bl)), (bP, .inl (gI G, 96, .inl bp)), (pd, .inr (3, [.ref pS, .int psz])), (pS, .inl (gB G, 48, .inl psg))] := by
  refine HM.ofW (by decide) (Nat.le_of_ble_eq_true rfl) ?_
  intro p e s m args below meth c A post hpost hC hP hD hS ls hl
  obtain ⟨hx, hb, hr, hml, hown, hts, hlk, hE, hA⟩ := hC
  have hl : lv_has ls 7 [(0, .ref bk), (1, .long st), (3, .ref pd), (4, .int mv)] := hl
  unfold f_X0_timesPlayed at hF
  refine lv_iconst (v := 0) hx hb dX0_timesPlayed_0 (by decide) ?_
  refine lv_istore (lv' := [(5, .int 0), (0, .ref bk), (1, .long st), (3, .ref pd), (4, .int mv)]) hx hb dX0_timesPlayed_1 hl (by decide) rfl (fun ls hl => ?_)
  refine lv_iconst (v := 0) hx hb dX0_timesPlayed_3 (by decide) ?_
  refine lv_istore (lv' := [(6, .int 0), (5, .int 0), (0, .ref bk), (1, .long st), (3, .ref pd), (4, .int mv)]) hx hb dX0_timesPlayed_4 hl (by decide) rfl (fun ls hl => ?_)
  have hL6 : ∀ (n6 : Nat) (x5_1 : Int32) (x6_2 : Int32) (H : Heap) (locs : List Loc) (ls : Array Slot), f_X0_timesPlayed_L6 bc bs bl bp psz psg st mv n6 x5_1 x6_2 = some r → va_P (gD G) vwCl [(bk, .inr (0, [.ref bS, .ref bL, .ref bR, .ref bP, .int bc])), (bS, .inl (gJ G, 8, .inr (.inl bs))), (bL, .inl (gI G, 8, .inl bl)), (bP, .inl (gI G, 96, .inl bp)), (pd, .inr (3, [.ref pS, .int psz])), (pS, .inl (gB G, 48, .inl psg))] H → va_D A [(bk, .inr (0, [.ref bS, .ref bL, .ref bR, .ref bP, .int bc])), (bS, .inl (gJ G, 8, .inr (.inl bs))), (bL, .inl (gI G, 8, .inl bl)), (bP, .inl (gI G, 96, .inl bp)), (pd, .inr (3, [.ref pS, .int psz])), (pS, .inl (gB G, 48, .inl psg))] → va_S A s.heap H locs → lv_has ls 7 [(0, .ref bk), (1, .long st), (3, .ref pd), (4, .int mv), (5, .int x5_1), (6, .int x6_2)] → W p l e rm_X0_timesPlayed s m args below meth c H locs 0 0 (MQ below (HXq G post A) args s 0 0 A) (F0 m 6 ls []) := by
    intro n6
    induction n6 with
    | zero =>
      intro x5_1 x6_2 H locs ls hF
      exact absurd hF (fun h => by cases h)
    | succ n6 ih6 =>
      intro x5_1 x6_2 H locs ls hF hP hD hS hl
      unfold f_X0_timesPlayed_L6 at hF
      refine lv_iload hx hb dX0_timesPlayed_6 (lv_at hl 5 rfl) ?_
      refine lv_aload_n hx hb dX0_timesPlayed_8 rfl (lv_at hl 0 rfl) ?_
      refine hget hx hb hts hown hE fl_X0_25 hP 0 rfl rfl dX0_timesPlayed_9 ?_
      refine lv_icmp_ge (tgt := 57) hx hb dX0_timesPlayed_12 (by decide) (fun c_3 => ?_) (fun c_3 => ?_)
      · have hF := ifp hF c_3
        refine lv_iload hx hb dX0_timesPlayed_57 (lv_at hl 4 rfl) ?_
        have hF := Option.some.inj hF
        subst hF
        exact hm_iret hx hb hr hlk hP hD hS hpost dX0_timesPlayed_59
      · have hF := ifn hF c_3
        refine lv_iload hx hb dX0_timesPlayed_15 (lv_at hl 3 rfl) ?_
        refine lv_bipush (v := (-6)) hx hb dX0_timesPlayed_17 (by decide) ?_
        have hB51 : ∀ (x5_4 : Int32) (H : Heap) (locs : List Loc) (ls : Array Slot), f_X0_timesPlayed_B51 (f_X0_timesPlayed_L6 bc bs bl bp psz psg st mv n6) x6_2 x5_4 = some r → va_P (gD G) vwCl [(bk, .inr (0, [.ref bS, .ref bL, .ref bR, .ref bP, .int bc])), (bS, .inl (gJ G, 8, .inr (.inl bs))), (bL, .inl (gI G, 8, .inl bl)), (bP, .inl (gI G, 96, .inl bp)), (pd, .inr (3, [.ref pS, .int psz])), (pS, .inl (gB G, 48, .inl psg))] H → va_D A [(bk, .inr (0, [.ref bS, .ref bL, .ref bR, .ref bP, .int bc])), (bS, .inl (gJ G, 8, .inr (.inl bs))), (bL, .inl (gI G, 8, .inl bl)), (bP, .inl (gI G, 96, .inl bp)), (pd, .inr (3, [.ref pS, .int psz])), (pS, .inl (gB G, 48, .inl psg))] → va_S A s.heap H locs → lv_has ls 7 [(0, .ref bk), (1, .long st), (3, .ref pd), (4, .int mv), (5, .int x5_4), (6, .int x6_2)] → W p l e rm_X0_timesPlayed s m args below meth c H locs 0 0 (MQ below (HXq G post A) args s 0 0 A) (F0 m 51 ls []) := by
          intro x5_4 H locs ls hF hP hD hS hl
          unfold f_X0_timesPlayed_B51 at hF
          obtain ⟨v6_5, ev6_5⟩ : ∃ z : Int32, z = x6_2 + 1 := ⟨_, rfl⟩
          have hF := jl hF ev6_5
          refine lv_iinc (v := v6_5) (lv' := [(6, .int v6_5), (0, .ref bk), (1, .long st), (3, .ref pd), (4, .int mv), (5, .int x5_4)]) hx hb dX0_timesPlayed_51 hl (k := 5) rfl (by rw [ev6_5]; rfl) (by decide) rfl (fun ls hl => ?_)
          refine lv_goto (tgt := 6) hx hb dX0_timesPlayed_54 (by decide) ?_
          exact ih6 x5_4 v6_5 _ _ _ hF hP hD hS (lv_sub hl [1, 2, 3, 4, 5, 0] rfl)
        refine lv_icmp_eq (tgt := 51) hx hb dX0_timesPlayed_19 (by decide) (fun c_6 => ?_) (fun c_6 => ?_)
        · have hF := ifp hF c_6
          exact hB51 x5_1 _ _ _ hF hP hD hS (lv_sub hl [0, 1, 2, 3, 4, 5] rfl)
        · have hF := ifn hF c_6
          refine lv_aload_n hx hb dX0_timesPlayed_22 rfl (lv_at hl 0 rfl) ?_
          refine lv_iload hx hb dX0_timesPlayed_23 (lv_at hl 5 rfl) ?_
          refine lv_lload_n hx hb dX0_timesPlayed_25 rfl (lv_at hl 1 rfl) ?_
          refine lv_aload_n hx hb dX0_timesPlayed_26 rfl (lv_at hl 2 rfl) ?_
          obtain ⟨r27_7, hr27_7, hF⟩ := bnd hF
          refine hm_V (wn := [(bk, .inr (0, [.ref bS, .ref bL, .ref bR, .ref bP, .int bc])), (bS, .inl (gJ G, 8, .inr (.inl bs))), (bL, .inl (gI G, 8, .inl bl)), (bP, .inl (gI G, 96, .inl bp)), (pd, .inr (3, [.ref pS, .int psz])), (pS, .inl (gB G, 48, .inl psg))]) (wr := []) (rest := []) (sn := [.int r27_7]) hx hb hml hown hts hE hA (k_X0_begins G l bk pd bS bL bR bP pS bc bs bl bp psz psg x6_2 st r27_7 hr27_7) sm_X0_begins mw_654 ⟨rfl, rfl, Nat.le_of_ble_eq_true rfl, Nat.le_of_ble_eq_true rfl⟩ hP hD hS 0 rfl rfl [0, 1, 2, 3, 4, 5] [] [0, 1, 2, 3, 4, 5] rfl rfl rfl (by decide) hl.1 rfl rfl (Nat.le_of_ble_eq_true rfl) dX0_timesPlayed_27 ⟨Nat.le_of_ble_eq_true rfl, Nat.le_of_ble_eq_true rfl⟩ (fun H locs hP hD hS => ?_)
          refine lv_if_eq (tgt := 51) hx hb dX0_timesPlayed_30 (by decide) (fun c_8 => ?_) (fun c_8 => ?_)
          · have hF := ifp hF c_8
            exact hB51 x5_1 _ _ _ hF hP hD hS (lv_sub hl [0, 1, 2, 3, 4, 5] rfl)
          · have hF := ifn hF c_8
            refine lv_aload_n hx hb dX0_timesPlayed_33 rfl (lv_at hl 0 rfl) ?_
            refine lv_iload hx hb dX0_timesPlayed_34 (lv_at hl 5 rfl) ?_
            refine lv_aload_n hx hb dX0_timesPlayed_36 rfl (lv_at hl 2 rfl) ?_
            refine hm_V (wn := [(bk, .inr (0, [.ref bS, .ref bL, .ref bR, .ref bP, .int bc])), (bS, .inl (gJ G, 8, .inr (.inl bs))), (bL, .inl (gI G, 8, .inl bl)), (bP, .inl (gI G, 96, .inl bp)), (pd, .inr (3, [.ref pS, .int psz])), (pS, .inl (gB G, 48, .inl psg))]) (wr := [(bk, .inr (0, [.ref bS, .ref bL, .ref bR, .ref bP, .int bc])), (bS, .inl (gJ G, 8, .inr (.inl bs))), (bL, .inl (gI G, 8, .inl bl)), (bP, .inl (gI G, 96, .inl bp)), (pS, .inl (gB G, 48, .inl psg))]) (rest := [.int x6_2, .ref bk]) (sn := [.int (f_X3_countMoves psz), .int x6_2, .ref bk]) hx hb hml hown hts hE hA (k_X3_countMoves G l pd pS psz _ rfl) sm_X3_countMoves mw_619 ⟨rfl, rfl, Nat.le_of_ble_eq_true rfl, Nat.le_of_ble_eq_true rfl⟩ hP hD hS 4 rfl rfl [4] [0, 1, 2, 3, 5] [0, 1, 2, 3, 5, 4] rfl rfl rfl (by decide) hl.1 rfl rfl (Nat.le_of_ble_eq_true rfl) dX0_timesPlayed_37 ⟨Nat.le_of_ble_eq_true rfl, Nat.le_of_ble_eq_true rfl⟩ (fun H locs hP hD hS => ?_)
            obtain ⟨r40_9, hr40_9, hF⟩ := bnd hF
            refine hm_V (wn := [(bk, .inr (0, [.ref bS, .ref bL, .ref bR, .ref bP, .int bc])), (bS, .inl (gJ G, 8, .inr (.inl bs))), (bL, .inl (gI G, 8, .inl bl)), (bP, .inl (gI G, 96, .inl bp)), (pd, .inr (3, [.ref pS, .int psz])), (pS, .inl (gB G, 48, .inl psg))]) (wr := [(bS, .inl (gJ G, 8, .inr (.inl bs))), (pd, .inr (3, [.ref pS, .int psz])), (pS, .inl (gB G, 48, .inl psg))]) (rest := []) (sn := [.int r40_9]) hx hb hml hown hts hE hA (k_X0_moveOf G l bk bS bL bR bP bc bl bp x6_2 (f_X3_countMoves psz) r40_9 hr40_9) sm_X0_moveOf mw_658 ⟨rfl, rfl, Nat.le_of_ble_eq_true rfl, Nat.le_of_ble_eq_true rfl⟩ hP hD hS 0 rfl rfl [0, 2, 3] [1, 4, 5] [3, 0, 4, 5, 1, 2] rfl rfl rfl (by decide) hl.1 rfl rfl (Nat.le_of_ble_eq_true rfl) dX0_timesPlayed_40 ⟨Nat.le_of_ble_eq_true rfl, Nat.le_of_ble_eq_true rfl⟩ (fun H locs hP hD hS => ?_)
            refine lv_iload hx hb dX0_timesPlayed_43 (lv_at hl 3 rfl) ?_
            refine lv_icmp_ne (tgt := 51) hx hb dX0_timesPlayed_45 (by decide) (fun c_10 => ?_) (fun c_10 => ?_)
            · have hF := ifn hF c_10
              exact hB51 x5_1 _ _ _ hF hP hD hS (lv_sub hl [0, 1, 2, 3, 4, 5] rfl)
            · have hF := ifp hF c_10
              obtain ⟨v5_11, ev5_11⟩ : ∃ z : Int32, z = x5_1 + 1 := ⟨_, rfl⟩
              have hF := jl hF ev5_11
              refine lv_iinc (v := v5_11) (lv' := [(5, .int v5_11), (0, .ref bk), (1, .long st), (3, .ref pd), (4, .int mv), (6, .int x6_2)]) hx hb dX0_timesPlayed_48 hl (k := 4) rfl (by rw [ev5_11]; rfl) (by decide) rfl (fun ls hl => ?_)
              exact hB51 v5_11 _ _ _ hF hP hD hS (lv_sub hl [1, 2, 3, 4, 0, 5] rfl)
  exact hL6 _ 0 0 _ _ _ hF hP hD hS (lv_sub hl [2, 3, 4, 5, 1, 0] rfl)
def f_X0_mostPlayed_B91 (k_10 : Int32 → Int32 → Int32 → Option Int32) (x6_3 : Int32) (x4_8 : Int32) (x5_9 : Int32) : Option Int32 :=
  jlet (x6_3 + 1) (fun v6_10 => k_10 x4_8 x5_9 v6_10)
def f_X0_mostPlayed_B83 (k_10 : Int32 → Int32 → Int32 → Option Int32) (x6_3 : Int32) (t0_6 : Int32) (r52_7 : Int32) : Option Int32 :=
  f_X0_mostPlayed_B91 k_10 x6_3 t0_6 r52_7
def f_X0_mostPlayed_B45 (k_10 : Int32 → Int32 → Int32 → Option Int32) (bc : Int32) (bs : (Nat → Int64)) (bl : (Nat → Int32)) (bp : (Nat → Int32)) (psz : Int32) (psg : (Nat → Int32)) (st : Int64) (x4_1 : Int32) (x5_2 : Int32) (x6_3 : Int32) (t0_6 : Int32) : Option Int32 :=
  Option.bind (f_X0_timesPlayed bc bs bl bp psz psg st t0_6) (fun r52_7 => if x5_2 < r52_7 then f_X0_mostPlayed_B83 k_10 x6_3 t0_6 r52_7 else if r52_7 = x5_2 then if r52_7 ≤ 0 then f_X0_mostPlayed_B91 k_10 x6_3 x4_1 x5_2 else if x4_1 ≤ t0_6 then f_X0_mostPlayed_B91 k_10 x6_3 x4_1 x5_2 else f_X0_mostPlayed_B83 k_10 x6_3 t0_6 r52_7 else f_X0_mostPlayed_B91 k_10 x6_3 x4_1 x5_2)
def f_X0_mostPlayed_L10 (bc : Int32) (bs : (Nat → Int64)) (bl : (Nat → Int32)) (bp : (Nat → Int32)) (psz : Int32) (psg : (Nat → Int32)) (st : Int64) : Nat → Int32 → Int32 → Int32 → Option Int32
  | 0, _, _, _ => none
  | n+1, x4_1, x5_2, x6_3 =>
  if bc ≤ x6_3 then some x4_1 else Option.bind (f_X0_begins bc bs bl bp psz psg x6_3 st) (fun r24_5 => if r24_5 = 0 then f_X0_mostPlayed_B45 (f_X0_mostPlayed_L10 bc bs bl bp psz psg st n) bc bs bl bp psz psg st x4_1 x5_2 x6_3 (-6) else Option.bind (f_X0_moveOf bc bl bp x6_3 (f_X3_countMoves psz)) (fun r37_16 => f_X0_mostPlayed_B45 (f_X0_mostPlayed_L10 bc bs bl bp psz psg st n) bc bs bl bp psz psg st x4_1 x5_2 x6_3 r37_16))
def f_X0_mostPlayed (bc : Int32) (bs : (Nat → Int64)) (bl : (Nat → Int32)) (bp : (Nat → Int32)) (psz : Int32) (psg : (Nat → Int32)) (st : Int64) : Option Int32 :=
  f_X0_mostPlayed_L10 bc bs bl bp psz psg st 100 (-6) 0 0
abbrev rm_X0_mostPlayed : Room := { frames := 6, cells := 0, slots := 0, locals := 135 }
set_option maxHeartbeats 4000000 in
set_option maxRecDepth 100000 in
theorem k_X0_mostPlayed (G : gT) (l : Launch) (bk : Nat) (pd : Nat) (bS : Nat) (bL : Nat) (bR : Nat) (bP : Nat) (pS : Nat) (bc : Int32) (bs : (Nat → Int64)) (bl : (Nat → Int32)) (bp : (Nat → Int32)) (psz : Int32) (psg : (Nat → Int32)) (st : Int64) (r : Int32) (hF : f_X0_mostPlayed bc bs bl bp psz psg st = some r) : HM G l yX0_mostPlayed (.code yX0_mostPlayed cX0_mostPlayed 9 (some .int) :: UW) rm_X0_mostPlayed 0 0 [.ref bk, .long st, .ref pd] [(bk, .inr (0, [.ref bS, .ref bL, .ref bR, .ref bP, .int bc])), (bS, .inl (gJ G, 8, .inr (.inl bs))), (bL, .inl (gI G, 8, .inl bl)), (bP, .inl (gI G, 96, .inl bp)), (pd, .inr (3, [.ref pS, .int psz])), (pS, .inl (gB G, 48, .inl psg))] (some (.int r)) [(bk, .inr (0, [.ref bS, .ref bL, .ref bR, .ref bP, .int bc])), (bS, .inl (gJ G, 8, .inr (.inl bs))), (bL, .inl (gI G, 8, .inl bl)), (bP, .inl (gI G, 96, .inl bp)), (pd, .inr (3, [.ref pS, .int psz])), (pS, .inl (gB G, 48, .inl psg))] := by
  refine HM.ofW (by decide) (Nat.le_of_ble_eq_true rfl) ?_
  intro p e s m args below meth c A post hpost hC hP hD hS ls hl
  obtain ⟨hx, hb, hr, hml, hown, hts, hlk, hE, hA⟩ := hC
  have hl : lv_has ls 9 [(0, .ref bk), (1, .long st), (3, .ref pd)] := hl
  unfold f_X0_mostPlayed at hF
  refine lv_bipush (v := (-6)) hx hb dX0_mostPlayed_0 (by decide) ?_
  refine lv_istore (lv' := [(4, .int (-6)), (0, .ref bk), (1, .long st), (3, .ref pd)]) hx hb dX0_mostPlayed_2 hl (by decide) rfl (fun ls hl => ?_)
  refine lv_iconst (v := 0) hx hb dX0_mostPlayed_4 (by decide) ?_
  refine lv_istore (lv' := [(5, .int 0), (4, .int (-6)), (0, .ref bk), (1, .long st), (3, .ref pd)]) hx hb dX0_mostPlayed_5 hl (by decide) rfl (fun ls hl => ?_)
  refine lv_iconst (v := 0) hx hb dX0_mostPlayed_7 (by decide) ?_
  refine lv_istore (lv' := [(6, .int 0), (5, .int 0), (4, .int (-6)), (0, .ref bk), (1, .long st), (3, .ref pd)]) hx hb dX0_mostPlayed_8 hl (by decide) rfl (fun ls hl => ?_)
  have hL10 : ∀ (n10 : Nat) (x4_1 : Int32) (x5_2 : Int32) (x6_3 : Int32) (H : Heap) (locs : List Loc) (ls : Array Slot), f_X0_mostPlayed_L10 bc bs bl bp psz psg st n10 x4_1 x5_2 x6_3 = some r → va_P (gD G) vwCl [(bk, .inr (0, [.ref bS, .ref bL, .ref bR, .ref bP, .int bc])), (bS, .inl (gJ G, 8, .inr (.inl bs))), (bL, .inl (gI G, 8, .inl bl)), (bP, .inl (gI G, 96, .inl bp)), (pd, .inr (3, [.ref pS, .int psz])), (pS, .inl (gB G, 48, .inl psg))] H → va_D A [(bk, .inr (0, [.ref bS, .ref bL, .ref bR, .ref bP, .int bc])), (bS, .inl (gJ G, 8, .inr (.inl bs))), (bL, .inl (gI G, 8, .inl bl)), (bP, .inl (gI G, 96, .inl bp)), (pd, .inr (3, [.ref pS, .int psz])), (pS, .inl (gB G, 48, .inl psg))] → va_S A s.heap H locs → lv_has ls 9 [(0, .ref bk), (1, .long st), (3, .ref pd), (4, .int x4_1), (5, .int x5_2), (6, .int x6_3)] → W p l e rm_X0_mostPlayed s m args below meth c H locs 0 0 (MQ below (HXq G post A) args s 0 0 A) (F0 m 10 ls []) := by
    intro n10
    induction n10 with
    | zero =>
      intro x4_1 x5_2 x6_3 H locs ls hF
      exact absurd hF (fun h => by cases h)
    | succ n10 ih10 =>
      intro x4_1 x5_2 x6_3 H locs ls hF hP hD hS hl
      unfold f_X0_mostPlayed_L10 at hF
      refine lv_iload hx hb dX0_mostPlayed_10 (lv_at hl 5 rfl) ?_
      refine lv_aload_n hx hb dX0_mostPlayed_12 rfl (lv_at hl 0 rfl) ?_
      refine hget hx hb hts hown hE fl_X0_25 hP 0 rfl rfl dX0_mostPlayed_13 ?_
      refine lv_icmp_ge (tgt := 97) hx hb dX0_mostPlayed_16 (by decide) (fun c_4 => ?_) (fun c_4 => ?_)
      · have hF := ifp hF c_4
        refine lv_iload hx hb dX0_mostPlayed_97 (lv_at hl 3 rfl) ?_
        have hF := Option.some.inj hF
        subst hF
        exact hm_iret hx hb hr hlk hP hD hS hpost dX0_mostPlayed_99
      · have hF := ifn hF c_4
        refine lv_aload_n hx hb dX0_mostPlayed_19 rfl (lv_at hl 0 rfl) ?_
        refine lv_iload hx hb dX0_mostPlayed_20 (lv_at hl 5 rfl) ?_
        refine lv_lload_n hx hb dX0_mostPlayed_22 rfl (lv_at hl 1 rfl) ?_
        refine lv_aload_n hx hb dX0_mostPlayed_23 rfl (lv_at hl 2 rfl) ?_
        obtain ⟨r24_5, hr24_5, hF⟩ := bnd hF
        refine hm_V (wn := [(bk, .inr (0, [.ref bS, .ref bL, .ref bR, .ref bP, .int bc])), (bS, .inl (gJ G, 8, .inr (.inl bs))), (bL, .inl (gI G, 8, .inl bl)), (bP, .inl (gI G, 96, .inl bp)), (pd, .inr (3, [.ref pS, .int psz])), (pS, .inl (gB G, 48, .inl psg))]) (wr := []) (rest := []) (sn := [.int r24_5]) hx hb hml hown hts hE hA (k_X0_begins G l bk pd bS bL bR bP pS bc bs bl bp psz psg x6_3 st r24_5 hr24_5) sm_X0_begins mw_654 ⟨rfl, rfl, Nat.le_of_ble_eq_true rfl, Nat.le_of_ble_eq_true rfl⟩ hP hD hS 0 rfl rfl [0, 1, 2, 3, 4, 5] [] [0, 1, 2, 3, 4, 5] rfl rfl rfl (by decide) hl.1 rfl rfl (Nat.le_of_ble_eq_true rfl) dX0_mostPlayed_24 ⟨Nat.le_of_ble_eq_true rfl, Nat.le_of_ble_eq_true rfl⟩ (fun H locs hP hD hS => ?_)
        have hB45 : ∀ (t0_6 : Int32) (H : Heap) (locs : List Loc) (ls : Array Slot), f_X0_mostPlayed_B45 (f_X0_mostPlayed_L10 bc bs bl bp psz psg st n10) bc bs bl bp psz psg st x4_1 x5_2 x6_3 t0_6 = some r → va_P (gD G) vwCl [(bk, .inr (0, [.ref bS, .ref bL, .ref bR, .ref bP, .int bc])), (bS, .inl (gJ G, 8, .inr (.inl bs))), (bL, .inl (gI G, 8, .inl bl)), (bP, .inl (gI G, 96, .inl bp)), (pd, .inr (3, [.ref pS, .int psz])), (pS, .inl (gB G, 48, .inl psg))] H → va_D A [(bk, .inr (0, [.ref bS, .ref bL, .ref bR, .ref bP, .int bc])), (bS, .inl (gJ G, 8, .inr (.inl bs))), (bL, .inl (gI G, 8, .inl bl)), (bP, .inl (gI G, 96, .inl bp)), (pd, .inr (3, [.ref pS, .int psz])), (pS, .inl (gB G, 48, .inl psg))] → va_S A s.heap H locs → lv_has ls 9 [(0, .ref bk), (1, .long st), (3, .ref pd), (4, .int x4_1), (5, .int x5_2), (6, .int x6_3)] → W p l e rm_X0_mostPlayed s m args below meth c H locs 0 0 (MQ below (HXq G post A) args s 0 0 A) (F0 m 45 ls [.int t0_6]) := by
          intro t0_6 H locs ls hF hP hD hS hl
          unfold f_X0_mostPlayed_B45 at hF
          refine lv_istore (lv' := [(7, .int t0_6), (0, .ref bk), (1, .long st), (3, .ref pd), (4, .int x4_1), (5, .int x5_2), (6, .int x6_3)]) hx hb dX0_mostPlayed_45 hl (by decide) rfl (fun ls hl => ?_)
          refine lv_aload_n hx hb dX0_mostPlayed_47 rfl (lv_at hl 1 rfl) ?_
          refine lv_lload_n hx hb dX0_mostPlayed_48 rfl (lv_at hl 2 rfl) ?_
          refine lv_aload_n hx hb dX0_mostPlayed_49 rfl (lv_at hl 3 rfl) ?_
          refine lv_iload hx hb dX0_mostPlayed_50 (lv_at hl 0 rfl) ?_
          obtain ⟨r52_7, hr52_7, hF⟩ := bnd hF
          refine hm_V (wn := [(bk, .inr (0, [.ref bS, .ref bL, .ref bR, .ref bP, .int bc])), (bS, .inl (gJ G, 8, .inr (.inl bs))), (bL, .inl (gI G, 8, .inl bl)), (bP, .inl (gI G, 96, .inl bp)), (pd, .inr (3, [.ref pS, .int psz])), (pS, .inl (gB G, 48, .inl psg))]) (wr := []) (rest := []) (sn := [.int r52_7]) hx hb hml hown hts hE hA (k_X0_timesPlayed G l bk pd bS bL bR bP pS bc bs bl bp psz psg st t0_6 r52_7 hr52_7) sm_X0_timesPlayed mw_668 ⟨rfl, rfl, Nat.le_of_ble_eq_true rfl, Nat.le_of_ble_eq_true rfl⟩ hP hD hS 0 rfl rfl [0, 1, 2, 3, 4, 5] [] [0, 1, 2, 3, 4, 5] rfl rfl rfl (by decide) hl.1 rfl rfl (Nat.le_of_ble_eq_true rfl) dX0_mostPlayed_52 ⟨Nat.le_of_ble_eq_true rfl, Nat.le_of_ble_eq_true rfl⟩ (fun H locs hP hD hS => ?_)
          refine lv_istore (lv' := [(8, .int r52_7), (7, .int t0_6), (0, .ref bk), (1, .long st), (3, .ref pd), (4, .int x4_1), (5, .int x5_2), (6, .int x6_3)]) hx hb dX0_mostPlayed_55 hl (by decide) rfl (fun ls hl => ?_)
          refine lv_iload hx hb dX0_mostPlayed_57 (lv_at hl 0 rfl) ?_
          refine lv_iload hx hb dX0_mostPlayed_59 (lv_at hl 6 rfl) ?_
          have hB91 : ∀ (x4_8 : Int32) (x5_9 : Int32) (H : Heap) (locs : List Loc) (ls : Array Slot), f_X0_mostPlayed_B91 (f_X0_mostPlayed_L10 bc bs bl bp psz psg st n10) x6_3 x4_8 x5_9 = some r → va_P (gD G) vwCl [(bk, .inr (0, [.ref bS, .ref bL, .ref bR, .ref bP, .int bc])), (bS, .inl (gJ G, 8, .inr (.inl bs))), (bL, .inl (gI G, 8, .inl bl)), (bP, .inl (gI G, 96, .inl bp)), (pd, .inr (3, [.ref pS, .int psz])), (pS, .inl (gB G, 48, .inl psg))] H → va_D A [(bk, .inr (0, [.ref bS, .ref bL, .ref bR, .ref bP, .int bc])), (bS, .inl (gJ G, 8, .inr (.inl bs))), (bL, .inl (gI G, 8, .inl bl)), (bP, .inl (gI G, 96, .inl bp)), (pd, .inr (3, [.ref pS, .int psz])), (pS, .inl (gB G, 48, .inl psg))] → va_S A s.heap H locs → lv_has ls 9 [(0, .ref bk), (1, .long st), (3, .ref pd), (4, .int x4_8), (5, .int x5_9), (6, .int x6_3)] → W p l e rm_X0_mostPlayed s m args below meth c H locs 0 0 (MQ below (HXq G post A) args s 0 0 A) (F0 m 91 ls []) := by
            intro x4_8 x5_9 H locs ls hF hP hD hS hl
            unfold f_X0_mostPlayed_B91 at hF
            obtain ⟨v6_10, ev6_10⟩ : ∃ z : Int32, z = x6_3 + 1 := ⟨_, rfl⟩
            have hF := jl hF ev6_10
            refine lv_iinc (v := v6_10) (lv' := [(6, .int v6_10), (0, .ref bk), (1, .long st), (3, .ref pd), (4, .int x4_8), (5, .int x5_9)]) hx hb dX0_mostPlayed_91 hl (k := 5) rfl (by rw [ev6_10]; rfl) (by decide) rfl (fun ls hl => ?_)
            refine lv_goto (tgt := 10) hx hb dX0_mostPlayed_94 (by decide) ?_
            exact ih10 x4_8 x5_9 v6_10 _ _ _ hF hP hD hS (lv_sub hl [1, 2, 3, 4, 5, 0] rfl)
          have hB83 : ∀ (H : Heap) (locs : List Loc) (ls : Array Slot), f_X0_mostPlayed_B83 (f_X0_mostPlayed_L10 bc bs bl bp psz psg st n10) x6_3 t0_6 r52_7 = some r → va_P (gD G) vwCl [(bk, .inr (0, [.ref bS, .ref bL, .ref bR, .ref bP, .int bc])), (bS, .inl (gJ G, 8, .inr (.inl bs))), (bL, .inl (gI G, 8, .inl bl)), (bP, .inl (gI G, 96, .inl bp)), (pd, .inr (3, [.ref pS, .int psz])), (pS, .inl (gB G, 48, .inl psg))] H → va_D A [(bk, .inr (0, [.ref bS, .ref bL, .ref bR, .ref bP, .int bc])), (bS, .inl (gJ G, 8, .inr (.inl bs))), (bL, .inl (gI G, 8, .inl bl)), (bP, .inl (gI G, 96, .inl bp)), (pd, .inr (3, [.ref pS, .int psz])), (pS, .inl (gB G, 48, .inl psg))] → va_S A s.heap H locs → lv_has ls 9 [(0, .ref bk), (1, .long st), (3, .ref pd), (6, .int x6_3), (7, .int t0_6), (8, .int r52_7)] → W p l e rm_X0_mostPlayed s m args below meth c H locs 0 0 (MQ below (HXq G post A) args s 0 0 A) (F0 m 83 ls []) := by
            intro H locs ls hF hP hD hS hl
            unfold f_X0_mostPlayed_B83 at hF
            refine lv_iload hx hb dX0_mostPlayed_83 (lv_at hl 4 rfl) ?_
            refine lv_istore (lv' := [(4, .int t0_6), (0, .ref bk), (1, .long st), (3, .ref pd), (6, .int x6_3), (7, .int t0_6), (8, .int r52_7)]) hx hb dX0_mostPlayed_85 hl (by decide) rfl (fun ls hl => ?_)
            refine lv_iload hx hb dX0_mostPlayed_87 (lv_at hl 6 rfl) ?_
            refine lv_istore (lv' := [(5, .int r52_7), (4, .int t0_6), (0, .ref bk), (1, .long st), (3, .ref pd), (6, .int x6_3), (7, .int t0_6), (8, .int r52_7)]) hx hb dX0_mostPlayed_89 hl (by decide) rfl (fun ls hl => ?_)
            exact hB91 t0_6 r52_7 _ _ _ hF hP hD hS (lv_sub hl [2, 3, 4, 1, 0, 5] rfl)
          refine lv_icmp_gt (tgt := 83) hx hb dX0_mostPlayed_61 (by decide) (fun c_11 => ?_) (fun c_11 => ?_)
          · have hF := ifp hF c_11
            exact hB83 _ _ _ hF hP hD hS (lv_sub hl [2, 3, 4, 7, 1, 0] rfl)
          · have hF := ifn hF c_11
            refine lv_iload hx hb dX0_mostPlayed_64 (lv_at hl 0 rfl) ?_
            refine lv_iload hx hb dX0_mostPlayed_66 (lv_at hl 6 rfl) ?_
            refine lv_icmp_ne (tgt := 91) hx hb dX0_mostPlayed_68 (by decide) (fun c_12 => ?_) (fun c_12 => ?_)
            · have hF := ifn hF c_12
              exact hB91 x4_1 x5_2 _ _ _ hF hP hD hS (lv_sub hl [2, 3, 4, 5, 6, 7] rfl)
            · have hF := ifp hF c_12
              refine lv_iload hx hb dX0_mostPlayed_71 (lv_at hl 0 rfl) ?_
              refine lv_if_le (tgt := 91) hx hb dX0_mostPlayed_73 (by decide) (fun c_13 => ?_) (fun c_13 => ?_)
              · have hF := ifp hF c_13
                exact hB91 x4_1 x5_2 _ _ _ hF hP hD hS (lv_sub hl [2, 3, 4, 5, 6, 7] rfl)
              · have hF := ifn hF c_13
                refine lv_iload hx hb dX0_mostPlayed_76 (lv_at hl 1 rfl) ?_
                refine lv_iload hx hb dX0_mostPlayed_78 (lv_at hl 5 rfl) ?_
                refine lv_icmp_ge (tgt := 91) hx hb dX0_mostPlayed_80 (by decide) (fun c_14 => ?_) (fun c_14 => ?_)
                · have hF := ifp hF c_14
                  exact hB91 x4_1 x5_2 _ _ _ hF hP hD hS (lv_sub hl [2, 3, 4, 5, 6, 7] rfl)
                · have hF := ifn hF c_14
                  exact hB83 _ _ _ hF hP hD hS (lv_sub hl [2, 3, 4, 7, 1, 0] rfl)
        refine lv_if_eq (tgt := 43) hx hb dX0_mostPlayed_27 (by decide) (fun c_15 => ?_) (fun c_15 => ?_)
        · have hF := ifp hF c_15
          refine lv_bipush (v := (-6)) hx hb dX0_mostPlayed_43 (by decide) ?_
          exact hB45 (-6) _ _ _ hF hP hD hS (lv_sub hl [0, 1, 2, 3, 4, 5] rfl)
        · have hF := ifn hF c_15
          refine lv_aload_n hx hb dX0_mostPlayed_30 rfl (lv_at hl 0 rfl) ?_
          refine lv_iload hx hb dX0_mostPlayed_31 (lv_at hl 5 rfl) ?_
          refine lv_aload_n hx hb dX0_mostPlayed_33 rfl (lv_at hl 2 rfl) ?_
          refine hm_V (wn := [(bk, .inr (0, [.ref bS, .ref bL, .ref bR, .ref bP, .int bc])), (bS, .inl (gJ G, 8, .inr (.inl bs))), (bL, .inl (gI G, 8, .inl bl)), (bP, .inl (gI G, 96, .inl bp)), (pd, .inr (3, [.ref pS, .int psz])), (pS, .inl (gB G, 48, .inl psg))]) (wr := [(bk, .inr (0, [.ref bS, .ref bL, .ref bR, .ref bP, .int bc])), (bS, .inl (gJ G, 8, .inr (.inl bs))), (bL, .inl (gI G, 8, .inl bl)), (bP, .inl (gI G, 96, .inl bp)), (pS, .inl (gB G, 48, .inl psg))]) (rest := [.int x6_3, .ref bk]) (sn := [.int (f_X3_countMoves psz), .int x6_3, .ref bk]) hx hb hml hown hts hE hA (k_X3_countMoves G l pd pS psz _ rfl) sm_X3_countMoves mw_619 ⟨rfl, rfl, Nat.le_of_ble_eq_true rfl, Nat.le_of_ble_eq_true rfl⟩ hP hD hS 4 rfl rfl [4] [0, 1, 2, 3, 5] [0, 1, 2, 3, 5, 4] rfl rfl rfl (by decide) hl.1 rfl rfl (Nat.le_of_ble_eq_true rfl) dX0_mostPlayed_34 ⟨Nat.le_of_ble_eq_true rfl, Nat.le_of_ble_eq_true rfl⟩ (fun H locs hP hD hS => ?_)
          obtain ⟨r37_16, hr37_16, hF⟩ := bnd hF
          refine hm_V (wn := [(bk, .inr (0, [.ref bS, .ref bL, .ref bR, .ref bP, .int bc])), (bS, .inl (gJ G, 8, .inr (.inl bs))), (bL, .inl (gI G, 8, .inl bl)), (bP, .inl (gI G, 96, .inl bp)), (pd, .inr (3, [.ref pS, .int psz])), (pS, .inl (gB G, 48, .inl psg))]) (wr := [(bS, .inl (gJ G, 8, .inr (.inl bs))), (pd, .inr (3, [.ref pS, .int psz])), (pS, .inl (gB G, 48, .inl psg))]) (rest := []) (sn := [.int r37_16]) hx hb hml hown hts hE hA (k_X0_moveOf G l bk bS bL bR bP bc bl bp x6_3 (f_X3_countMoves psz) r37_16 hr37_16) sm_X0_moveOf mw_658 ⟨rfl, rfl, Nat.le_of_ble_eq_true rfl, Nat.le_of_ble_eq_true rfl⟩ hP hD hS 0 rfl rfl [0, 2, 3] [1, 4, 5] [3, 0, 4, 5, 1, 2] rfl rfl rfl (by decide) hl.1 rfl rfl (Nat.le_of_ble_eq_true rfl) dX0_mostPlayed_37 ⟨Nat.le_of_ble_eq_true rfl, Nat.le_of_ble_eq_true rfl⟩ (fun H locs hP hD hS => ?_)
          refine lv_goto (tgt := 45) hx hb dX0_mostPlayed_40 (by decide) ?_
          exact hB45 r37_16 _ _ _ hF hP hD hS (lv_sub hl [0, 1, 2, 3, 4, 5] rfl)
  exact hL10 _ (-6) 0 0 _ _ _ hF hP hD hS (lv_sub hl [3, 4, 5, 2, 1, 0] rfl)
