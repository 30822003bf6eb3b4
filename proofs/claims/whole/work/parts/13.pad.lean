def f_X3_add (psz : Int32) (psg : (Nat → Int32)) (sg : Int32) : Option (Int32 × Int32 × (Nat → Int32)) :=
  if psz < 0 then some (0, psz, psg) else if psz < 48 then if (psz) < 0 ∨ 48 ≤ (psz).toNatClampNeg then none else jlet (upd psg (psz).toNatClampNeg (vp_nar .byte (sg.toInt8.toInt32))) (fun a31_4 => jlet (psz + 1) (fun u39_5 => some (1, u39_5, a31_4))) else some (0, psz, psg)
abbrev rm_X3_add : Room := { frames := 0, cells := 0, slots := 0, locals := 0 }
set_option maxHeartbeats 4000000 in
set_option maxRecDepth 100000 in
theorem k_X3_add (G : gT) (l : Launch) (pd : Nat) (pS : Nat) (psz : Int32) (psg : (Nat → Int32)) (sg : Int32) (r : Int32 × Int32 × (Nat → Int32)) (hF : f_X3_add psz psg sg = some r) : HM G l yX3_add (.code yX3_add cX3_add 2 (some .boolean) :: UW) rm_X3_add 0 0 [.ref pd, .int sg] [(pd, .inr (3, [.ref pS, .int psz])), (pS, .inl (gB G, 48, .inl psg))] (some (.int r.1)) [(pd, .inr (3, [.ref pS, .int r.2.1])), (pS, .inl (gB G, 48, .inl r.2.2))] := by
  refine HM.ofW (by decide) (Nat.le_of_ble_eq_true rfl) ?_
  intro p e s m args below meth c A post hpost hC hP hD hS ls hl
  obtain ⟨hx, hb, hr, hml, hown, hts, hlk, hE, hA⟩ := hC
  have hl : lv_has ls 2 [(0, .ref pd), (1, .int sg)] := hl
  unfold f_X3_add at hF
  refine lv_aload_n hx hb dX3_add_0 rfl (lv_at hl 0 rfl) ?_
  refine hget hx hb hts hown hE fl_X3_15 hP 0 rfl rfl dX3_add_1 ?_
  refine lv_if_lt (tgt := 19) hx hb dX3_add_4 (by decide) (fun c_1 => ?_) (fun c_1 => ?_)
  · have hF := ifp hF c_1
    refine lv_iconst (v := 0) hx hb dX3_add_19 (by decide) ?_
    have hF := Option.some.inj hF
    subst hF
    exact hm_zret hx hb hr hlk hP hD hS (by decide +kernel) hpost dX3_add_20
  · have hF := ifn hF c_1
    refine lv_aload_n hx hb dX3_add_7 rfl (lv_at hl 0 rfl) ?_
    refine hget hx hb hts hown hE fl_X3_15 hP 0 rfl rfl dX3_add_8 ?_
    refine lv_aload_n hx hb dX3_add_11 rfl (lv_at hl 0 rfl) ?_
    refine hget hx hb hts hown hE fl_X3_9 hP 0 rfl rfl dX3_add_12 ?_
    refine halen 2 (v := 48) hx hb hE hP 1 rfl rfl rfl dX3_add_15 ?_
    refine lv_icmp_lt (tgt := 21) hx hb dX3_add_16 (by decide) (fun c_2 => ?_) (fun c_2 => ?_)
    · have hF := ifp hF c_2
      refine lv_aload_n hx hb dX3_add_21 rfl (lv_at hl 0 rfl) ?_
      refine hget hx hb hts hown hE fl_X3_9 hP 0 rfl rfl dX3_add_22 ?_
      refine lv_aload_n hx hb dX3_add_25 rfl (lv_at hl 0 rfl) ?_
      refine hget hx hb hts hown hE fl_X3_15 hP 0 rfl rfl dX3_add_26 ?_
      refine lv_iload_n hx hb dX3_add_29 rfl (lv_at hl 1 rfl) ?_
      refine lv_i2b (v := (sg.toInt8.toInt32)) hx hb dX3_add_30 rfl ?_
      obtain ⟨hi_3, hF⟩ := inb hF
      obtain ⟨a31_4, ea31_4⟩ : ∃ z : (Nat → Int32), z = upd psg (psz).toNatClampNeg (vp_nar .byte (sg.toInt8.toInt32)) := ⟨_, rfl⟩
      have hF := jl hF ea31_4
      refine hbast hx hb hE hP hD hS 1 rfl hi_3 (wn := [(pd, .inr (3, [.ref pS, .int psz])), (pS, .inl (gB G, 48, .inl a31_4))]) (by rw [ea31_4]; rfl) dX3_add_31 (fun H locs hP hD hS => ?_)
      refine lv_aload_n hx hb dX3_add_32 rfl (lv_at hl 0 rfl) ?_
      refine lv_dup hx hb dX3_add_33 rfl ?_
      refine hget hx hb hts hown hE fl_X3_15 hP 0 rfl rfl dX3_add_34 ?_
      refine lv_iconst (v := 1) hx hb dX3_add_37 (by decide) ?_
      refine lv_iadd hx hb dX3_add_38 ?_
      refine lv_topi (fun u39_5 eu39_5 => ?_)
      have hF := jl hF eu39_5
      refine hput hx hb hts hown hE fl_X3_15 ft_X3_1 hP hD hS 0 rfl rfl rfl rfl (Nat.le_of_ble_eq_true rfl) (wn := [(pd, .inr (3, [.ref pS, .int u39_5])), (pS, .inl (gB G, 48, .inl a31_4))]) rfl dX3_add_39 (fun H locs hP hD hS => ?_)
      refine lv_iconst (v := 1) hx hb dX3_add_42 (by decide) ?_
      have hF := Option.some.inj hF
      subst hF
      exact hm_zret hx hb hr hlk hP hD hS (by decide +kernel) hpost dX3_add_43
    · have hF := ifn hF c_2
      refine lv_iconst (v := 0) hx hb dX3_add_19 (by decide) ?_
      have hF := Option.some.inj hF
      subst hF
      exact hm_zret hx hb hr hlk hP hD hS (by decide +kernel) hpost dX3_add_20
def f_X3_clear  : Int32 :=
  0
abbrev rm_X3_clear : Room := { frames := 0, cells := 0, slots := 0, locals := 0 }
set_option maxHeartbeats 4000000 in
set_option maxRecDepth 100000 in
theorem k_X3_clear (G : gT) (l : Launch) (pd : Nat) (pS : Nat) (psz : Int32) (r : Int32) (hF : f_X3_clear  = r) : HM G l yX3_clear (.code yX3_clear cX3_clear 1 none :: UW) rm_X3_clear 0 0 [.ref pd] [(pd, .inr (3, [.ref pS, .int psz]))] none [(pd, .inr (3, [.ref pS, .int r]))] := by
  refine HM.ofW (by decide) (Nat.le_of_ble_eq_true rfl) ?_
  intro p e s m args below meth c A post hpost hC hP hD hS ls hl
  obtain ⟨hx, hb, hr, hml, hown, hts, hlk, hE, hA⟩ := hC
  have hl : lv_has ls 1 [(0, .ref pd)] := hl
  unfold f_X3_clear at hF
  refine lv_aload_n hx hb dX3_clear_0 rfl (lv_at hl 0 rfl) ?_
  refine lv_iconst (v := 0) hx hb dX3_clear_1 (by decide) ?_
  refine hput hx hb hts hown hE fl_X3_15 ft_X3_1 hP hD hS 0 rfl rfl rfl rfl (Nat.le_of_ble_eq_true rfl) (wn := [(pd, .inr (3, [.ref pS, .int 0]))]) rfl dX3_clear_2 (fun H locs hP hD hS => ?_)
  subst hF
  exact hm_vret hx hb hr hlk hP hD hS hpost dX3_clear_5
def f_X3_signAt (psz : Int32) (psg : (Nat → Int32)) (pl : Int32) : Option Int32 :=
  if pl < 0 then some 0 else if psz ≤ pl then some 0 else if pl < 48 then if (pl) < 0 ∨ 48 ≤ (pl).toNatClampNeg then none else some (psg (pl).toNatClampNeg) else some 0
abbrev rm_X3_signAt : Room := { frames := 0, cells := 0, slots := 0, locals := 0 }
set_option maxHeartbeats 4000000 in
set_option maxRecDepth 100000 in
theorem k_X3_signAt (G : gT) (l : Launch) (pd : Nat) (pS : Nat) (psz : Int32) (psg : (Nat → Int32)) (pl : Int32) (r : Int32) (hF : f_X3_signAt psz psg pl = some r) : HM G l yX3_signAt (.code yX3_signAt cX3_signAt 2 (some .int) :: UW) rm_X3_signAt 0 0 [.ref pd, .int pl] [(pd, .inr (3, [.ref pS, .int psz])), (pS, .inl (gB G, 48, .inl psg))] (some (.int r)) [(pd, .inr (3, [.ref pS, .int psz])), (pS, .inl (gB G, 48, .inl psg))] := by
  refine HM.ofW (by decide) (Nat.le_of_ble_eq_true rfl) ?_
  intro p e s m args below meth c A post hpost hC hP hD hS ls hl
  obtain ⟨hx, hb, hr, hml, hown, hts, hlk, hE, hA⟩ := hC
  have hl : lv_has ls 2 [(0, .ref pd), (1, .int pl)] := hl
  unfold f_X3_signAt at hF
  refine lv_iload_n hx hb dX3_signAt_0 rfl (lv_at hl 1 rfl) ?_
  refine lv_if_lt (tgt := 21) hx hb dX3_signAt_1 (by decide) (fun c_1 => ?_) (fun c_1 => ?_)
  · have hF := ifp hF c_1
    refine lv_iconst (v := 0) hx hb dX3_signAt_21 (by decide) ?_
    refine lv_goto (tgt := 31) hx hb dX3_signAt_22 (by decide) ?_
    have hF := Option.some.inj hF
    subst hF
    exact hm_iret hx hb hr hlk hP hD hS hpost dX3_signAt_31
  · have hF := ifn hF c_1
    refine lv_iload_n hx hb dX3_signAt_4 rfl (lv_at hl 1 rfl) ?_
    refine lv_aload_n hx hb dX3_signAt_5 rfl (lv_at hl 0 rfl) ?_
    refine hget hx hb hts hown hE fl_X3_15 hP 0 rfl rfl dX3_signAt_6 ?_
    refine lv_icmp_ge (tgt := 21) hx hb dX3_signAt_9 (by decide) (fun c_2 => ?_) (fun c_2 => ?_)
    · have hF := ifp hF c_2
      refine lv_iconst (v := 0) hx hb dX3_signAt_21 (by decide) ?_
      refine lv_goto (tgt := 31) hx hb dX3_signAt_22 (by decide) ?_
      have hF := Option.some.inj hF
      subst hF
      exact hm_iret hx hb hr hlk hP hD hS hpost dX3_signAt_31
    · have hF := ifn hF c_2
      refine lv_iload_n hx hb dX3_signAt_12 rfl (lv_at hl 1 rfl) ?_
      refine lv_aload_n hx hb dX3_signAt_13 rfl (lv_at hl 0 rfl) ?_
      refine hget hx hb hts hown hE fl_X3_9 hP 0 rfl rfl dX3_signAt_14 ?_
      refine halen 2 (v := 48) hx hb hE hP 1 rfl rfl rfl dX3_signAt_17 ?_
      refine lv_icmp_lt (tgt := 25) hx hb dX3_signAt_18 (by decide) (fun c_3 => ?_) (fun c_3 => ?_)
      · have hF := ifp hF c_3
        refine lv_aload_n hx hb dX3_signAt_25 rfl (lv_at hl 0 rfl) ?_
        refine hget hx hb hts hown hE fl_X3_9 hP 0 rfl rfl dX3_signAt_26 ?_
        refine lv_iload_n hx hb dX3_signAt_29 rfl (lv_at hl 1 rfl) ?_
        obtain ⟨hi_4, hF⟩ := inb hF
        refine hbald hx hb hE hP 1 rfl hi_4 dX3_signAt_30 ?_
        have hF := Option.some.inj hF
        subst hF
        exact hm_iret hx hb hr hlk hP hD hS hpost dX3_signAt_31
      · have hF := ifn hF c_3
        refine lv_iconst (v := 0) hx hb dX3_signAt_21 (by decide) ?_
        refine lv_goto (tgt := 31) hx hb dX3_signAt_22 (by decide) ?_
        have hF := Option.some.inj hF
        subst hF
        exact hm_iret hx hb hr hlk hP hD hS hpost dX3_signAt_31
def f_X3_isColumn (sg : Int32) : Int32 :=
  if sg < 97 then 0 else if 101 < sg then 0 else 1
abbrev rm_X3_isColumn : Room := { frames := 0, cells := 0, slots := 0, locals := 0 }
set_option maxHeartbeats 4000000 in
set_option maxRecDepth 100000 in
theorem k_X3_isColumn (G : gT) (l : Launch) (sg : Int32) (r : Int32) (hF : f_X3_isColumn sg = r) : HM G l yX3_isColumn (.code yX3_isColumn cX3_isColumn 1 (some .boolean) :: UW) rm_X3_isColumn 0 0 [.int sg] [] (some (.int r)) [] := by
  refine HM.ofW (by decide) (Nat.le_of_ble_eq_true rfl) ?_
  intro p e s m args below meth c A post hpost hC hP hD hS ls hl
  obtain ⟨hx, hb, hr, hml, hown, hts, hlk, hE, hA⟩ := hC
  have hl : lv_has ls 1 [(0, .int sg)] := hl
  unfold f_X3_isColumn at hF
  refine lv_iload_n hx hb dX3_isColumn_0 rfl (lv_at hl 0 rfl) ?_
  refine lv_bipush (v := 97) hx hb dX3_isColumn_1 (by decide) ?_
  refine lv_icmp_lt (tgt := 16) hx hb dX3_isColumn_3 (by decide) (fun c_1 => ?_) (fun c_1 => ?_)
  · have hF := ifp hF c_1
    refine lv_iconst (v := 0) hx hb dX3_isColumn_16 (by decide) ?_
    subst hF
    exact hm_zret hx hb hr hlk hP hD hS (by decide +kernel) hpost dX3_isColumn_17
  · have hF := ifn hF c_1
    refine lv_iload_n hx hb dX3_isColumn_6 rfl (lv_at hl 0 rfl) ?_
    refine lv_bipush (v := 101) hx hb dX3_isColumn_7 (by decide) ?_
    refine lv_icmp_gt (tgt := 16) hx hb dX3_isColumn_9 (by decide) (fun c_2 => ?_) (fun c_2 => ?_)
    · have hF := ifp hF c_2
      refine lv_iconst (v := 0) hx hb dX3_isColumn_16 (by decide) ?_
      subst hF
      exact hm_zret hx hb hr hlk hP hD hS (by decide +kernel) hpost dX3_isColumn_17
    · have hF := ifn hF c_2
      refine lv_iconst (v := 1) hx hb dX3_isColumn_12 (by decide) ?_
      refine lv_goto (tgt := 17) hx hb dX3_isColumn_13 (by decide) ?_
      subst hF
      exact hm_zret hx hb hr hlk hP hD hS (by decide +kernel) hpost dX3_isColumn_17
theorem z_X3_isColumn (sg : Int32) : narrow .boolean (.int (f_X3_isColumn sg)) = .int (f_X3_isColumn sg) := by unfold f_X3_isColumn; repeat' (first | rfl | split)
def f_X3_isLine (sg : Int32) : Int32 :=
  if sg < 49 then 0 else if 53 < sg then 0 else 1
abbrev rm_X3_isLine : Room := { frames := 0, cells := 0, slots := 0, locals := 0 }
set_option maxHeartbeats 4000000 in
set_option maxRecDepth 100000 in
theorem k_X3_isLine (G : gT) (l : Launch) (sg : Int32) (r : Int32) (hF : f_X3_isLine sg = r) : HM G l yX3_isLine (.code yX3_isLine cX3_isLine 1 (some .boolean) :: UW) rm_X3_isLine 0 0 [.int sg] [] (some (.int r)) [] := by
  refine HM.ofW (by decide) (Nat.le_of_ble_eq_true rfl) ?_
  intro p e s m args below meth c A post hpost hC hP hD hS ls hl
  obtain ⟨hx, hb, hr, hml, hown, hts, hlk, hE, hA⟩ := hC
  have hl : lv_has ls 1 [(0, .int sg)] := hl
  unfold f_X3_isLine at hF
  refine lv_iload_n hx hb dX3_isLine_0 rfl (lv_at hl 0 rfl) ?_
  refine lv_bipush (v := 49) hx hb dX3_isLine_1 (by decide) ?_
  refine lv_icmp_lt (tgt := 16) hx hb dX3_isLine_3 (by decide) (fun c_1 => ?_) (fun c_1 => ?_)
  · have hF := ifp hF c_1
    refine lv_iconst (v := 0) hx hb dX3_isLine_16 (by decide) ?_
    subst hF
    exact hm_zret hx hb hr hlk hP hD hS (by decide +kernel) hpost dX3_isLine_17
  · have hF := ifn hF c_1
    refine lv_iload_n hx hb dX3_isLine_6 rfl (lv_at hl 0 rfl) ?_
    refine lv_bipush (v := 53) hx hb dX3_isLine_7 (by decide) ?_
    refine lv_icmp_gt (tgt := 16) hx hb dX3_isLine_9 (by decide) (fun c_2 => ?_) (fun c_2 => ?_)
    · have hF := ifp hF c_2
      refine lv_iconst (v := 0) hx hb dX3_isLine_16 (by decide) ?_
      subst hF
      exact hm_zret hx hb hr hlk hP hD hS (by decide +kernel) hpost dX3_isLine_17
    · have hF := ifn hF c_2
      refine lv_iconst (v := 1) hx hb dX3_isLine_12 (by decide) ?_
      refine lv_goto (tgt := 17) hx hb dX3_isLine_13 (by decide) ?_
      subst hF
      exact hm_zret hx hb hr hlk hP hD hS (by decide +kernel) hpost dX3_isLine_17
theorem z_X3_isLine (sg : Int32) : narrow .boolean (.int (f_X3_isLine sg)) = .int (f_X3_isLine sg) := by unfold f_X3_isLine; repeat' (first | rfl | split)
def f_X3_cellAt (psz : Int32) (psg : (Nat → Int32)) (pl : Int32) : Option Int32 :=
  Option.bind (f_X3_signAt psz psg pl) (fun r2_1 => Option.bind (f_X3_signAt psz psg (pl + 1)) (fun r13_2 => some ((r2_1 - 97) + (5 * (r13_2 - 49)))))
abbrev rm_X3_cellAt : Room := { frames := 1, cells := 0, slots := 0, locals := 21 }
set_option maxHeartbeats 4000000 in
set_option maxRecDepth 100000 in
theorem k_X3_cellAt (G : gT) (l : Launch) (pd : Nat) (pS : Nat) (psz : Int32) (psg : (Nat → Int32)) (pl : Int32) (r : Int32) (hF : f_X3_cellAt psz psg pl = some r) : HM G l yX3_cellAt (.code yX3_cellAt cX3_cellAt 2 (some .int) :: UW) rm_X3_cellAt 0 0 [.ref pd, .int pl] [(pd, .inr (3, [.ref pS, .int psz])), (pS, .inl (gB G, 48, .inl psg))] (some (.int r)) [(pd, .inr (3, [.ref pS, .int psz])), (pS, .inl (gB G, 48, .inl psg))] := by
  refine HM.ofW (by decide) (Nat.le_of_ble_eq_true rfl) ?_
  intro p e s m args below meth c A post hpost hC hP hD hS ls hl
  obtain ⟨hx, hb, hr, hml, hown, hts, hlk, hE, hA⟩ := hC
  have hl : lv_has ls 2 [(0, .ref pd), (1, .int pl)] := hl
  unfold f_X3_cellAt at hF
  refine lv_aload_n hx hb dX3_cellAt_0 rfl (lv_at hl 0 rfl) ?_
  refine lv_iload_n hx hb dX3_cellAt_1 rfl (lv_at hl 1 rfl) ?_
  obtain ⟨r2_1, hr2_1, hF⟩ := bnd hF
  refine hm_V (wn := [(pd, .inr (3, [.ref pS, .int psz])), (pS, .inl (gB G, 48, .inl psg))]) (wr := []) (rest := []) (sn := [.int r2_1]) hx hb hml hown hts hE hA (k_X3_signAt G l pd pS psz psg pl r2_1 hr2_1) sm_X3_signAt mw_264 ⟨rfl, rfl, Nat.le_of_ble_eq_true rfl, Nat.le_of_ble_eq_true rfl⟩ hP hD hS 0 rfl rfl [0, 1] [] [0, 1] rfl rfl rfl (by decide) hl.1 rfl rfl (Nat.le_of_ble_eq_true rfl) dX3_cellAt_2 ⟨Nat.le_of_ble_eq_true rfl, Nat.le_of_ble_eq_true rfl⟩ (fun H locs hP hD hS => ?_)
  refine lv_bipush (v := 97) hx hb dX3_cellAt_5 (by decide) ?_
  refine lv_isub hx hb dX3_cellAt_7 ?_
  refine lv_iconst (v := 5) hx hb dX3_cellAt_8 (by decide) ?_
  refine lv_aload_n hx hb dX3_cellAt_9 rfl (lv_at hl 0 rfl) ?_
  refine lv_iload_n hx hb dX3_cellAt_10 rfl (lv_at hl 1 rfl) ?_
  refine lv_iconst (v := 1) hx hb dX3_cellAt_11 (by decide) ?_
  refine lv_iadd hx hb dX3_cellAt_12 ?_
  obtain ⟨r13_2, hr13_2, hF⟩ := bnd hF
  refine hm_V (wn := [(pd, .inr (3, [.ref pS, .int psz])), (pS, .inl (gB G, 48, .inl psg))]) (wr := []) (rest := [.int 5, .int (r2_1 - 97)]) (sn := [.int r13_2, .int 5, .int (r2_1 - 97)]) hx hb hml hown hts hE hA (k_X3_signAt G l pd pS psz psg (pl + 1) r13_2 hr13_2) sm_X3_signAt mw_264 ⟨rfl, rfl, Nat.le_of_ble_eq_true rfl, Nat.le_of_ble_eq_true rfl⟩ hP hD hS 0 rfl rfl [0, 1] [] [0, 1] rfl rfl rfl (by decide) hl.1 rfl rfl (Nat.le_of_ble_eq_true rfl) dX3_cellAt_13 ⟨Nat.le_of_ble_eq_true rfl, Nat.le_of_ble_eq_true rfl⟩ (fun H locs hP hD hS => ?_)
  refine lv_bipush (v := 49) hx hb dX3_cellAt_16 (by decide) ?_
  refine lv_isub hx hb dX3_cellAt_18 ?_
  refine lv_imul hx hb dX3_cellAt_19 ?_
  refine lv_iadd hx hb dX3_cellAt_20 ?_
  have hF := Option.some.inj hF
  subst hF
  exact hm_iret hx hb hr hlk hP hD hS hpost dX3_cellAt_21
def f_X3_fitsBoard (psz : Int32) (psg : (Nat → Int32)) (pl : Int32) (sg : Int32) (mm : Int32) (cc : Int32) : Option Int32 :=
  jlet (jrem pl 4) (fun w3_1 => if w3_1 = 0 then if sg = 33 then some 1 else if sg < 48 then some 0 else if 53 < sg then some 0 else if (mm &&& (jshl 1 (sg - 48))) = 0 then some 1 else some 0 else if w3_1 = 1 then some (f_X3_isColumn sg) else if w3_1 = 2 then if (f_X3_isLine sg) = 0 then some 0 else Option.bind (f_X3_cellAt psz psg (pl - 1)) (fun r82_7 => if (cc &&& (jshl 1 r82_7)) = 0 then some 1 else some 0) else if sg < 48 then some 0 else if 57 < sg then some 0 else some 1)
abbrev rm_X3_fitsBoard : Room := { frames := 2, cells := 0, slots := 0, locals := 42 }
set_option maxHeartbeats 4000000 in
set_option maxRecDepth 100000 in
theorem k_X3_fitsBoard (G : gT) (l : Launch) (pd : Nat) (pS : Nat) (psz : Int32) (psg : (Nat → Int32)) (pl : Int32) (sg : Int32) (mm : Int32) (cc : Int32) (r : Int32) (hF : f_X3_fitsBoard psz psg pl sg mm cc = some r) : HM G l yX3_fitsBoard (.code yX3_fitsBoard cX3_fitsBoard 5 (some .boolean) :: UW) rm_X3_fitsBoard 0 0 [.ref pd, .int pl, .int sg, .int mm, .int cc] [(pd, .inr (3, [.ref pS, .int psz])), (pS, .inl (gB G, 48, .inl psg))] (some (.int r)) [(pd, .inr (3, [.ref pS, .int psz])), (pS, .inl (gB G, 48, .inl psg))] := by
  refine HM.ofW (by decide) (Nat.le_of_ble_eq_true rfl) ?_
  intro p e s m args below meth c A post hpost hC hP hD hS ls hl
  obtain ⟨hx, hb, hr, hml, hown, hts, hlk, hE, hA⟩ := hC
  have hl : lv_has ls 5 [(0, .ref pd), (1, .int pl), (2, .int sg), (3, .int mm), (4, .int cc)] := hl
  unfold f_X3_fitsBoard at hF
  refine lv_iload_n hx hb dX3_fitsBoard_0 rfl (lv_at hl 1 rfl) ?_
  refine lv_iconst (v := 4) hx hb dX3_fitsBoard_1 (by decide) ?_
  refine lv_irem hx hb dX3_fitsBoard_2 (by decide) ?_
  refine lv_topi (fun w3_1 ew3_1 => ?_)
  have hF := jl hF ew3_1
  by_cases hk0 : w3_1 = 0
  · have hF := ifp hF hk0
    refine lv_tableIn (off := 25) (tgt := 28) hx hb dX3_fitsBoard_3 (by rw [hk0]; first | done | decide) (by rw [hk0]; first | done | decide) (by rw [hk0]; first | done | rfl) (by decide) ?_
    refine lv_iload_n hx hb dX3_fitsBoard_28 rfl (lv_at hl 2 rfl) ?_
    refine lv_bipush (v := 33) hx hb dX3_fitsBoard_29 (by decide) ?_
    refine lv_icmp_eq (tgt := 57) hx hb dX3_fitsBoard_31 (by decide) (fun c_2 => ?_) (fun c_2 => ?_)
    · have hF := ifp hF c_2
      refine lv_iconst (v := 1) hx hb dX3_fitsBoard_57 (by decide) ?_
      refine lv_goto (tgt := 62) hx hb dX3_fitsBoard_58 (by decide) ?_
      have hF := Option.some.inj hF
      subst hF
      exact hm_zret hx hb hr hlk hP hD hS (by decide +kernel) hpost dX3_fitsBoard_62
    · have hF := ifn hF c_2
      refine lv_iload_n hx hb dX3_fitsBoard_34 rfl (lv_at hl 2 rfl) ?_
      refine lv_bipush (v := 48) hx hb dX3_fitsBoard_35 (by decide) ?_
      refine lv_icmp_lt (tgt := 61) hx hb dX3_fitsBoard_37 (by decide) (fun c_3 => ?_) (fun c_3 => ?_)
      · have hF := ifp hF c_3
        refine lv_iconst (v := 0) hx hb dX3_fitsBoard_61 (by decide) ?_
        have hF := Option.some.inj hF
        subst hF
        exact hm_zret hx hb hr hlk hP hD hS (by decide +kernel) hpost dX3_fitsBoard_62
      · have hF := ifn hF c_3
        refine lv_iload_n hx hb dX3_fitsBoard_40 rfl (lv_at hl 2 rfl) ?_
        refine lv_bipush (v := 53) hx hb dX3_fitsBoard_41 (by decide) ?_
        refine lv_icmp_gt (tgt := 61) hx hb dX3_fitsBoard_43 (by decide) (fun c_4 => ?_) (fun c_4 => ?_)
        · have hF := ifp hF c_4
          refine lv_iconst (v := 0) hx hb dX3_fitsBoard_61 (by decide) ?_
          have hF := Option.some.inj hF
          subst hF
          exact hm_zret hx hb hr hlk hP hD hS (by decide +kernel) hpost dX3_fitsBoard_62
        · have hF := ifn hF c_4
          refine lv_iload_n hx hb dX3_fitsBoard_46 rfl (lv_at hl 3 rfl) ?_
          refine lv_iconst (v := 1) hx hb dX3_fitsBoard_47 (by decide) ?_
          refine lv_iload_n hx hb dX3_fitsBoard_48 rfl (lv_at hl 2 rfl) ?_
          refine lv_bipush (v := 48) hx hb dX3_fitsBoard_49 (by decide) ?_
          refine lv_isub hx hb dX3_fitsBoard_51 ?_
          refine lv_ishl hx hb dX3_fitsBoard_52 ?_
          refine lv_iand hx hb dX3_fitsBoard_53 ?_
          refine lv_if_ne (tgt := 61) hx hb dX3_fitsBoard_54 (by decide) (fun c_5 => ?_) (fun c_5 => ?_)
          · have hF := ifn hF c_5
            refine lv_iconst (v := 0) hx hb dX3_fitsBoard_61 (by decide) ?_
            have hF := Option.some.inj hF
            subst hF
            exact hm_zret hx hb hr hlk hP hD hS (by decide +kernel) hpost dX3_fitsBoard_62
          · have hF := ifp hF c_5
            refine lv_iconst (v := 1) hx hb dX3_fitsBoard_57 (by decide) ?_
            refine lv_goto (tgt := 62) hx hb dX3_fitsBoard_58 (by decide) ?_
            have hF := Option.some.inj hF
            subst hF
            exact hm_zret hx hb hr hlk hP hD hS (by decide +kernel) hpost dX3_fitsBoard_62
  · have hF := ifn hF hk0
    by_cases hk1 : w3_1 = 1
    · have hF := ifp hF hk1
      refine lv_tableIn (off := 60) (tgt := 63) hx hb dX3_fitsBoard_3 (by rw [hk1]; first | done | decide) (by rw [hk1]; first | done | decide) (by rw [hk1]; first | done | rfl) (by decide) ?_
      refine lv_iload_n hx hb dX3_fitsBoard_63 rfl (lv_at hl 2 rfl) ?_
      refine hm_S (wn := [(pd, .inr (3, [.ref pS, .int psz])), (pS, .inl (gB G, 48, .inl psg))]) (wr := [(pd, .inr (3, [.ref pS, .int psz])), (pS, .inl (gB G, 48, .inl psg))]) (rest := []) (sn := [.int (f_X3_isColumn sg)]) hx hb hml hown hts hE hA (k_X3_isColumn G l sg _ rfl) sm_X3_isColumn mw_272 ⟨rfl, rfl, Nat.le_of_ble_eq_true rfl, Nat.le_of_ble_eq_true rfl⟩ hP hD hS [] [0, 1] [0, 1] rfl rfl rfl (by decide) hl.1 rfl rfl (Nat.le_of_ble_eq_true rfl) dX3_fitsBoard_64 ⟨Nat.le_of_ble_eq_true rfl, Nat.le_of_ble_eq_true rfl⟩ (fun H locs hP hD hS => ?_)
      have hF := Option.some.inj hF
      subst hF
      exact hm_zret hx hb hr hlk hP hD hS (z_X3_isColumn _) hpost dX3_fitsBoard_67
    · have hF := ifn hF hk1
      by_cases hk2 : w3_1 = 2
      · have hF := ifp hF hk2
        refine lv_tableIn (off := 65) (tgt := 68) hx hb dX3_fitsBoard_3 (by rw [hk2]; first | done | decide) (by rw [hk2]; first | done | decide) (by rw [hk2]; first | done | rfl) (by decide) ?_
        refine lv_iload_n hx hb dX3_fitsBoard_68 rfl (lv_at hl 2 rfl) ?_
        refine hm_S (wn := [(pd, .inr (3, [.ref pS, .int psz])), (pS, .inl (gB G, 48, .inl psg))]) (wr := [(pd, .inr (3, [.ref pS, .int psz])), (pS, .inl (gB G, 48, .inl psg))]) (rest := []) (sn := [.int (f_X3_isLine sg)]) hx hb hml hown hts hE hA (k_X3_isLine G l sg _ rfl) sm_X3_isLine mw_275 ⟨rfl, rfl, Nat.le_of_ble_eq_true rfl, Nat.le_of_ble_eq_true rfl⟩ hP hD hS [] [0, 1] [0, 1] rfl rfl rfl (by decide) hl.1 rfl rfl (Nat.le_of_ble_eq_true rfl) dX3_fitsBoard_69 ⟨Nat.le_of_ble_eq_true rfl, Nat.le_of_ble_eq_true rfl⟩ (fun H locs hP hD hS => ?_)
        refine lv_if_eq (tgt := 94) hx hb dX3_fitsBoard_72 (by decide) (fun c_6 => ?_) (fun c_6 => ?_)
        · have hF := ifp hF c_6
          refine lv_iconst (v := 0) hx hb dX3_fitsBoard_94 (by decide) ?_
          have hF := Option.some.inj hF
          subst hF
          exact hm_zret hx hb hr hlk hP hD hS (by decide +kernel) hpost dX3_fitsBoard_95
        · have hF := ifn hF c_6
          refine lv_iload hx hb dX3_fitsBoard_75 (lv_at hl 4 rfl) ?_
          refine lv_iconst (v := 1) hx hb dX3_fitsBoard_77 (by decide) ?_
          refine lv_aload_n hx hb dX3_fitsBoard_78 rfl (lv_at hl 0 rfl) ?_
          refine lv_iload_n hx hb dX3_fitsBoard_79 rfl (lv_at hl 1 rfl) ?_
          refine lv_iconst (v := 1) hx hb dX3_fitsBoard_80 (by decide) ?_
          refine lv_isub hx hb dX3_fitsBoard_81 ?_
          obtain ⟨r82_7, hr82_7, hF⟩ := bnd hF
          refine hm_V (wn := [(pd, .inr (3, [.ref pS, .int psz])), (pS, .inl (gB G, 48, .inl psg))]) (wr := []) (rest := [.int 1, .int cc]) (sn := [.int r82_7, .int 1, .int cc]) hx hb hml hown hts hE hA (k_X3_cellAt G l pd pS psz psg (pl - 1) r82_7 hr82_7) sm_X3_cellAt mw_278 ⟨rfl, rfl, Nat.le_of_ble_eq_true rfl, Nat.le_of_ble_eq_true rfl⟩ hP hD hS 0 rfl rfl [0, 1] [] [0, 1] rfl rfl rfl (by decide) hl.1 rfl rfl (Nat.le_of_ble_eq_true rfl) dX3_fitsBoard_82 ⟨Nat.le_of_ble_eq_true rfl, Nat.le_of_ble_eq_true rfl⟩ (fun H locs hP hD hS => ?_)
          refine lv_ishl hx hb dX3_fitsBoard_85 ?_
          refine lv_iand hx hb dX3_fitsBoard_86 ?_
          refine lv_if_ne (tgt := 94) hx hb dX3_fitsBoard_87 (by decide) (fun c_8 => ?_) (fun c_8 => ?_)
          · have hF := ifn hF c_8
            refine lv_iconst (v := 0) hx hb dX3_fitsBoard_94 (by decide) ?_
            have hF := Option.some.inj hF
            subst hF
            exact hm_zret hx hb hr hlk hP hD hS (by decide +kernel) hpost dX3_fitsBoard_95
          · have hF := ifp hF c_8
            refine lv_iconst (v := 1) hx hb dX3_fitsBoard_90 (by decide) ?_
            refine lv_goto (tgt := 95) hx hb dX3_fitsBoard_91 (by decide) ?_
            have hF := Option.some.inj hF
            subst hF
            exact hm_zret hx hb hr hlk hP hD hS (by decide +kernel) hpost dX3_fitsBoard_95
      · have hF := ifn hF hk2
        have ehk0 : (w3_1).toInt ≠ 0 := fun h => hk0 (Int32.toInt_inj.mp h)
        have ehk1 : (w3_1).toInt ≠ 1 := fun h => hk1 (Int32.toInt_inj.mp h)
        have ehk2 : (w3_1).toInt ≠ 2 := fun h => hk2 (Int32.toInt_inj.mp h)
        refine lv_tableOut (tgt := 96) hx hb dX3_fitsBoard_3 (by omega) (by decide) ?_
        refine lv_iload_n hx hb dX3_fitsBoard_96 rfl (lv_at hl 2 rfl) ?_
        refine lv_bipush (v := 48) hx hb dX3_fitsBoard_97 (by decide) ?_
        refine lv_icmp_lt (tgt := 112) hx hb dX3_fitsBoard_99 (by decide) (fun c_9 => ?_) (fun c_9 => ?_)
        · have hF := ifp hF c_9
          refine lv_iconst (v := 0) hx hb dX3_fitsBoard_112 (by decide) ?_
          have hF := Option.some.inj hF
          subst hF
          exact hm_zret hx hb hr hlk hP hD hS (by decide +kernel) hpost dX3_fitsBoard_113
        · have hF := ifn hF c_9
          refine lv_iload_n hx hb dX3_fitsBoard_102 rfl (lv_at hl 2 rfl) ?_
          refine lv_bipush (v := 57) hx hb dX3_fitsBoard_103 (by decide) ?_
          refine lv_icmp_gt (tgt := 112) hx hb dX3_fitsBoard_105 (by decide) (fun c_10 => ?_) (fun c_10 => ?_)
          · have hF := ifp hF c_10
            refine lv_iconst (v := 0) hx hb dX3_fitsBoard_112 (by decide) ?_
            have hF := Option.some.inj hF
            subst hF
            exact hm_zret hx hb hr hlk hP hD hS (by decide +kernel) hpost dX3_fitsBoard_113
          · have hF := ifn hF c_10
            refine lv_iconst (v := 1) hx hb dX3_fitsBoard_108 (by decide) ?_
            refine lv_goto (tgt := 113) hx hb dX3_fitsBoard_109 (by decide) ?_
            have hF := Option.some.inj hF
            subst hF
            exact hm_zret hx hb hr hlk hP hD hS (by decide +kernel) hpost dX3_fitsBoard_113
def f_X3_boardFault_B123 (psz : Int32) (x1_1 : Int32) (t0_6 : Int32) : Option Int32 :=
  if t0_6 = 0 then some psz else if (x1_1 &&& 9) = 9 then some (-6) else some psz
def f_X3_boardFault_B99 (k_9 : Int32 → Int32 → Int32 → Int32 → Option Int32) (x4_4 : Int32) (x1_15 : Int32) (x2_16 : Int32) (x3_17 : Int32) : Option Int32 :=
  jlet (x4_4 + 1) (fun v4_18 => k_9 x1_15 x2_16 x3_17 v4_18)
def f_X3_boardFault_L9 (psz : Int32) (psg : (Nat → Int32)) : Nat → Int32 → Int32 → Int32 → Int32 → Option Int32
  | 0, _, _, _, _ => none
  | n+1, x1_1, x2_2, x3_3, x4_4 =>
  if psz ≤ x4_4 then if x3_3 = 0 then if (jrem psz 4) = 0 then f_X3_boardFault_B123 psz x1_1 1 else f_X3_boardFault_B123 psz x1_1 0 else f_X3_boardFault_B123 psz x1_1 1 else Option.bind (f_X3_signAt psz psg x4_4) (fun r21_11 => if x3_3 = 0 then Option.bind (f_X3_fitsBoard psz psg x4_4 r21_11 x1_1 x2_2) (fun r37_13 => if r37_13 = 0 then some x4_4 else if r21_11 = 33 then f_X3_boardFault_B99 (f_X3_boardFault_L9 psz psg n) x4_4 x1_1 x2_2 1 else if (jrem x4_4 4) = 0 then jlet (x1_1 ||| (jshl 1 (r21_11 - 48))) (fun v1_24 => f_X3_boardFault_B99 (f_X3_boardFault_L9 psz psg n) x4_4 v1_24 x2_2 x3_3) else if (jrem x4_4 4) = 2 then Option.bind (f_X3_cellAt psz psg (x4_4 - 1)) (fun r93_22 => jlet (x2_2 ||| (jshl 1 r93_22)) (fun v2_23 => f_X3_boardFault_B99 (f_X3_boardFault_L9 psz psg n) x4_4 x1_1 v2_23 x3_3)) else f_X3_boardFault_B99 (f_X3_boardFault_L9 psz psg n) x4_4 x1_1 x2_2 x3_3) else some x4_4)
def f_X3_boardFault (psz : Int32) (psg : (Nat → Int32)) : Option Int32 :=
  f_X3_boardFault_L9 psz psg 100 0 0 0 0
abbrev rm_X3_boardFault : Room := { frames := 3, cells := 0, slots := 0, locals := 66 }
set_option maxHeartbeats 4000000 in
set_option maxRecDepth 100000 in
theorem k_X3_boardFault (G : gT) (l : Launch) (pd : Nat) (pS : Nat) (psz : Int32) (psg : (Nat → Int32)) (r : Int32) (hF : f_X3_boardFault psz psg = some r) : HM G l yX3_boardFault (.code yX3_boardFault cX3_boardFault 6 (some .int) :: UW) rm_X3_boardFault 0 0 [.ref pd] [(pd, .inr (3, [.ref pS, .int psz])), (pS, .inl (gB G, 48, .inl psg))] (some (.int r)) [(pd, .inr (3, [.ref pS, .int psz])), (pS, .inl (gB G, 48, .inl psg))] := by
  refine HM.ofW (by decide) (Nat.le_of_ble_eq_true rfl) ?_
  intro p e s m args below meth c A post hpost hC hP hD hS ls hl
  obtain ⟨hx, hb, hr, hml, hown, hts, hlk, hE, hA⟩ := hC
  have hl : lv_has ls 6 [(0, .ref pd)] := hl
  unfold f_X3_boardFault at hF
  refine lv_iconst (v := 0) hx hb dX3_boardFault_0 (by decide) ?_
  refine lv_istore_n (lv' := [(1, .int 0), (0, .ref pd)]) hx hb dX3_boardFault_1 rfl hl (by decide) rfl (fun ls hl => ?_)
  refine lv_iconst (v := 0) hx hb dX3_boardFault_2 (by decide) ?_
  refine lv_istore_n (lv' := [(2, .int 0), (1, .int 0), (0, .ref pd)]) hx hb dX3_boardFault_3 rfl hl (by decide) rfl (fun ls hl => ?_)
  refine lv_iconst (v := 0) hx hb dX3_boardFault_4 (by decide) ?_
  refine lv_istore_n (lv' := [(3, .int 0), (2, .int 0), (1, .int 0), (0, .ref pd)]) hx hb dX3_boardFault_5 rfl hl (by decide) rfl (fun ls hl => ?_)
  refine lv_iconst (v := 0) hx hb dX3_boardFault_6 (by decide) ?_
  refine lv_istore (lv' := [(4, .int 0), (3, .int 0), (2, .int 0), (1, .int 0), (0, .ref pd)]) hx hb dX3_boardFault_7 hl (by decide) rfl (fun ls hl => ?_)
  have hL9 : ∀ (n9 : Nat) (x1_1 : Int32) (x2_2 : Int32) (x3_3 : Int32) (x4_4 : Int32) (H : Heap) (locs : List Loc) (ls : Array Slot), f_X3_boardFault_L9 psz psg n9 x1_1 x2_2 x3_3 x4_4 = some r → va_P (gD G) vwCl [(pd, .inr (3, [.ref pS, .int psz])), (pS, .inl (gB G, 48, .inl psg))] H → va_D A [(pd, .inr (3, [.ref pS, .int psz])), (pS, .inl (gB G, 48, .inl psg))] → va_S A s.heap H locs → lv_has ls 6 [(0, .ref pd), (1, .int x1_1), (2, .int x2_2), (3, .int x3_3), (4, .int x4_4)] → W p l e rm_X3_boardFault s m args below meth c H locs 0 0 (MQ below (HXq G post A) args s 0 0 A) (F0 m 9 ls []) := by
    intro n9
    induction n9 with
    | zero =>
      intro x1_1 x2_2 x3_3 x4_4 H locs ls hF
      exact absurd hF (fun h => by cases h)
    | succ n9 ih9 =>
      intro x1_1 x2_2 x3_3 x4_4 H locs ls hF hP hD hS hl
      unfold f_X3_boardFault_L9 at hF
      refine lv_iload hx hb dX3_boardFault_9 (lv_at hl 4 rfl) ?_
      refine lv_aload_n hx hb dX3_boardFault_11 rfl (lv_at hl 0 rfl) ?_
      refine hget hx hb hts hown hE fl_X3_15 hP 0 rfl rfl dX3_boardFault_12 ?_
      refine lv_icmp_ge (tgt := 105) hx hb dX3_boardFault_15 (by decide) (fun c_5 => ?_) (fun c_5 => ?_)
      · have hF := ifp hF c_5
        refine lv_iload_n hx hb dX3_boardFault_105 rfl (lv_at hl 3 rfl) ?_
        have hB123 : ∀ (t0_6 : Int32) (H : Heap) (locs : List Loc) (ls : Array Slot), f_X3_boardFault_B123 psz x1_1 t0_6 = some r → va_P (gD G) vwCl [(pd, .inr (3, [.ref pS, .int psz])), (pS, .inl (gB G, 48, .inl psg))] H → va_D A [(pd, .inr (3, [.ref pS, .int psz])), (pS, .inl (gB G, 48, .inl psg))] → va_S A s.heap H locs → lv_has ls 6 [(0, .ref pd), (1, .int x1_1)] → W p l e rm_X3_boardFault s m args below meth c H locs 0 0 (MQ below (HXq G post A) args s 0 0 A) (F0 m 123 ls [.int t0_6]) := by
          intro t0_6 H locs ls hF hP hD hS hl
          unfold f_X3_boardFault_B123 at hF
          refine lv_istore (lv' := [(4, .int t0_6), (0, .ref pd), (1, .int x1_1)]) hx hb dX3_boardFault_123 hl (by decide) rfl (fun ls hl => ?_)
          refine lv_bipush (v := 9) hx hb dX3_boardFault_125 (by decide) ?_
          refine lv_istore (lv' := [(5, .int 9), (4, .int t0_6), (0, .ref pd), (1, .int x1_1)]) hx hb dX3_boardFault_127 hl (by decide) rfl (fun ls hl => ?_)
          refine lv_iload hx hb dX3_boardFault_129 (lv_at hl 1 rfl) ?_
          refine lv_if_eq (tgt := 148) hx hb dX3_boardFault_131 (by decide) (fun c_7 => ?_) (fun c_7 => ?_)
          · have hF := ifp hF c_7
            refine lv_aload_n hx hb dX3_boardFault_148 rfl (lv_at hl 2 rfl) ?_
            refine hget hx hb hts hown hE fl_X3_15 hP 0 rfl rfl dX3_boardFault_149 ?_
            have hF := Option.some.inj hF
            subst hF
            exact hm_iret hx hb hr hlk hP hD hS hpost dX3_boardFault_152
          · have hF := ifn hF c_7
            refine lv_iload_n hx hb dX3_boardFault_134 rfl (lv_at hl 3 rfl) ?_
            refine lv_iload hx hb dX3_boardFault_135 (lv_at hl 0 rfl) ?_
            refine lv_iand hx hb dX3_boardFault_137 ?_
            refine lv_iload hx hb dX3_boardFault_138 (lv_at hl 0 rfl) ?_
            refine lv_icmp_ne (tgt := 148) hx hb dX3_boardFault_140 (by decide) (fun c_8 => ?_) (fun c_8 => ?_)
            · have hF := ifn hF c_8
              refine lv_aload_n hx hb dX3_boardFault_148 rfl (lv_at hl 2 rfl) ?_
              refine hget hx hb hts hown hE fl_X3_15 hP 0 rfl rfl dX3_boardFault_149 ?_
              have hF := Option.some.inj hF
              subst hF
              exact hm_iret hx hb hr hlk hP hD hS hpost dX3_boardFault_152
            · have hF := ifp hF c_8
              refine lv_bipush (v := (-6)) hx hb dX3_boardFault_143 (by decide) ?_
              refine lv_goto (tgt := 152) hx hb dX3_boardFault_145 (by decide) ?_
              have hF := Option.some.inj hF
              subst hF
              exact hm_iret hx hb hr hlk hP hD hS hpost dX3_boardFault_152
        refine lv_if_ne (tgt := 118) hx hb dX3_boardFault_106 (by decide) (fun c_9 => ?_) (fun c_9 => ?_)
        · have hF := ifn hF c_9
          refine lv_iconst (v := 1) hx hb dX3_boardFault_118 (by decide) ?_
          refine lv_goto (tgt := 123) hx hb dX3_boardFault_119 (by decide) ?_
          exact hB123 1 _ _ _ hF hP hD hS (lv_sub hl [0, 1] rfl)
        · have hF := ifp hF c_9
          refine lv_aload_n hx hb dX3_boardFault_109 rfl (lv_at hl 0 rfl) ?_
          refine hget hx hb hts hown hE fl_X3_15 hP 0 rfl rfl dX3_boardFault_110 ?_
          refine lv_iconst (v := 4) hx hb dX3_boardFault_113 (by decide) ?_
          refine lv_irem hx hb dX3_boardFault_114 (by decide) ?_
          refine lv_if_ne (tgt := 122) hx hb dX3_boardFault_115 (by decide) (fun c_10 => ?_) (fun c_10 => ?_)
          · have hF := ifn hF c_10
            refine lv_iconst (v := 0) hx hb dX3_boardFault_122 (by decide) ?_
            exact hB123 0 _ _ _ hF hP hD hS (lv_sub hl [0, 1] rfl)
          · have hF := ifp hF c_10
            refine lv_iconst (v := 1) hx hb dX3_boardFault_118 (by decide) ?_
            refine lv_goto (tgt := 123) hx hb dX3_boardFault_119 (by decide) ?_
            exact hB123 1 _ _ _ hF hP hD hS (lv_sub hl [0, 1] rfl)
      · have hF := ifn hF c_5
        refine lv_aload_n hx hb dX3_boardFault_18 rfl (lv_at hl 0 rfl) ?_
        refine lv_iload hx hb dX3_boardFault_19 (lv_at hl 4 rfl) ?_
        obtain ⟨r21_11, hr21_11, hF⟩ := bnd hF
        refine hm_V (wn := [(pd, .inr (3, [.ref pS, .int psz])), (pS, .inl (gB G, 48, .inl psg))]) (wr := []) (rest := []) (sn := [.int r21_11]) hx hb hml hown hts hE hA (k_X3_signAt G l pd pS psz psg x4_4 r21_11 hr21_11) sm_X3_signAt mw_264 ⟨rfl, rfl, Nat.le_of_ble_eq_true rfl, Nat.le_of_ble_eq_true rfl⟩ hP hD hS 0 rfl rfl [0, 1] [] [0, 1] rfl rfl rfl (by decide) hl.1 rfl rfl (Nat.le_of_ble_eq_true rfl) dX3_boardFault_21 ⟨Nat.le_of_ble_eq_true rfl, Nat.le_of_ble_eq_true rfl⟩ (fun H locs hP hD hS => ?_)
        refine lv_istore (lv' := [(5, .int r21_11), (0, .ref pd), (1, .int x1_1), (2, .int x2_2), (3, .int x3_3), (4, .int x4_4)]) hx hb dX3_boardFault_24 hl (by decide) rfl (fun ls hl => ?_)
        refine lv_iload_n hx hb dX3_boardFault_26 rfl (lv_at hl 4 rfl) ?_
        refine lv_if_ne (tgt := 43) hx hb dX3_boardFault_27 (by decide) (fun c_12 => ?_) (fun c_12 => ?_)
        · have hF := ifn hF c_12
          refine lv_iload hx hb dX3_boardFault_43 (lv_at hl 5 rfl) ?_
          have hF := Option.some.inj hF
          subst hF
          exact hm_iret hx hb hr hlk hP hD hS hpost dX3_boardFault_45
        · have hF := ifp hF c_12
          refine lv_aload_n hx hb dX3_boardFault_30 rfl (lv_at hl 1 rfl) ?_
          refine lv_iload hx hb dX3_boardFault_31 (lv_at hl 5 rfl) ?_
          refine lv_iload hx hb dX3_boardFault_33 (lv_at hl 0 rfl) ?_
          refine lv_iload_n hx hb dX3_boardFault_35 rfl (lv_at hl 2 rfl) ?_
          refine lv_iload_n hx hb dX3_boardFault_36 rfl (lv_at hl 3 rfl) ?_
          obtain ⟨r37_13, hr37_13, hF⟩ := bnd hF
          refine hm_V (wn := [(pd, .inr (3, [.ref pS, .int psz])), (pS, .inl (gB G, 48, .inl psg))]) (wr := []) (rest := []) (sn := [.int r37_13]) hx hb hml hown hts hE hA (k_X3_fitsBoard G l pd pS psz psg x4_4 r21_11 x1_1 x2_2 r37_13 hr37_13) sm_X3_fitsBoard mw_268 ⟨rfl, rfl, Nat.le_of_ble_eq_true rfl, Nat.le_of_ble_eq_true rfl⟩ hP hD hS 0 rfl rfl [0, 1] [] [0, 1] rfl rfl rfl (by decide) hl.1 rfl rfl (Nat.le_of_ble_eq_true rfl) dX3_boardFault_37 ⟨Nat.le_of_ble_eq_true rfl, Nat.le_of_ble_eq_true rfl⟩ (fun H locs hP hD hS => ?_)
          refine lv_if_ne (tgt := 46) hx hb dX3_boardFault_40 (by decide) (fun c_14 => ?_) (fun c_14 => ?_)
          · have hF := ifn hF c_14
            refine lv_iload hx hb dX3_boardFault_46 (lv_at hl 0 rfl) ?_
            refine lv_bipush (v := 33) hx hb dX3_boardFault_48 (by decide) ?_
            have hB99 : ∀ (x1_15 : Int32) (x2_16 : Int32) (x3_17 : Int32) (H : Heap) (locs : List Loc) (ls : Array Slot), f_X3_boardFault_B99 (f_X3_boardFault_L9 psz psg n9) x4_4 x1_15 x2_16 x3_17 = some r → va_P (gD G) vwCl [(pd, .inr (3, [.ref pS, .int psz])), (pS, .inl (gB G, 48, .inl psg))] H → va_D A [(pd, .inr (3, [.ref pS, .int psz])), (pS, .inl (gB G, 48, .inl psg))] → va_S A s.heap H locs → lv_has ls 6 [(0, .ref pd), (1, .int x1_15), (2, .int x2_16), (3, .int x3_17), (4, .int x4_4)] → W p l e rm_X3_boardFault s m args below meth c H locs 0 0 (MQ below (HXq G post A) args s 0 0 A) (F0 m 99 ls []) := by
              intro x1_15 x2_16 x3_17 H locs ls hF hP hD hS hl
              unfold f_X3_boardFault_B99 at hF
              obtain ⟨v4_18, ev4_18⟩ : ∃ z : Int32, z = x4_4 + 1 := ⟨_, rfl⟩
              have hF := jl hF ev4_18
              refine lv_iinc (v := v4_18) (lv' := [(4, .int v4_18), (0, .ref pd), (1, .int x1_15), (2, .int x2_16), (3, .int x3_17)]) hx hb dX3_boardFault_99 hl (k := 4) rfl (by rw [ev4_18]; rfl) (by decide) rfl (fun ls hl => ?_)
              refine lv_goto (tgt := 9) hx hb dX3_boardFault_102 (by decide) ?_
              exact ih9 x1_15 x2_16 x3_17 v4_18 _ _ _ hF hP hD hS (lv_sub hl [1, 2, 3, 4, 0] rfl)
            refine lv_icmp_ne (tgt := 58) hx hb dX3_boardFault_50 (by decide) (fun c_19 => ?_) (fun c_19 => ?_)
            · have hF := ifn hF c_19
              refine lv_iload hx hb dX3_boardFault_58 (lv_at hl 5 rfl) ?_
              refine lv_iconst (v := 4) hx hb dX3_boardFault_60 (by decide) ?_
              refine lv_irem hx hb dX3_boardFault_61 (by decide) ?_
              refine lv_if_ne (tgt := 78) hx hb dX3_boardFault_62 (by decide) (fun c_20 => ?_) (fun c_20 => ?_)
              · have hF := ifn hF c_20
                refine lv_iload hx hb dX3_boardFault_78 (lv_at hl 5 rfl) ?_
                refine lv_iconst (v := 4) hx hb dX3_boardFault_80 (by decide) ?_
                refine lv_irem hx hb dX3_boardFault_81 (by decide) ?_
                refine lv_iconst (v := 2) hx hb dX3_boardFault_82 (by decide) ?_
                refine lv_icmp_ne (tgt := 99) hx hb dX3_boardFault_83 (by decide) (fun c_21 => ?_) (fun c_21 => ?_)
                · have hF := ifn hF c_21
                  exact hB99 x1_1 x2_2 x3_3 _ _ _ hF hP hD hS (lv_sub hl [1, 2, 3, 4, 5] rfl)
                · have hF := ifp hF c_21
                  refine lv_iload_n hx hb dX3_boardFault_86 rfl (lv_at hl 3 rfl) ?_
                  refine lv_iconst (v := 1) hx hb dX3_boardFault_87 (by decide) ?_
                  refine lv_aload_n hx hb dX3_boardFault_88 rfl (lv_at hl 1 rfl) ?_
                  refine lv_iload hx hb dX3_boardFault_89 (lv_at hl 5 rfl) ?_
                  refine lv_iconst (v := 1) hx hb dX3_boardFault_91 (by decide) ?_
                  refine lv_isub hx hb dX3_boardFault_92 ?_
                  obtain ⟨r93_22, hr93_22, hF⟩ := bnd hF
                  refine hm_V (wn := [(pd, .inr (3, [.ref pS, .int psz])), (pS, .inl (gB G, 48, .inl psg))]) (wr := []) (rest := [.int 1, .int x2_2]) (sn := [.int r93_22, .int 1, .int x2_2]) hx hb hml hown hts hE hA (k_X3_cellAt G l pd pS psz psg (x4_4 - 1) r93_22 hr93_22) sm_X3_cellAt mw_278 ⟨rfl, rfl, Nat.le_of_ble_eq_true rfl, Nat.le_of_ble_eq_true rfl⟩ hP hD hS 0 rfl rfl [0, 1] [] [0, 1] rfl rfl rfl (by decide) hl.1 rfl rfl (Nat.le_of_ble_eq_true rfl) dX3_boardFault_93 ⟨Nat.le_of_ble_eq_true rfl, Nat.le_of_ble_eq_true rfl⟩ (fun H locs hP hD hS => ?_)
                  refine lv_ishl hx hb dX3_boardFault_96 ?_
                  refine lv_ior hx hb dX3_boardFault_97 ?_
                  refine lv_topi (fun v2_23 ev2_23 => ?_)
                  have hF := jl hF ev2_23
                  refine lv_istore_n (lv' := [(2, .int v2_23), (5, .int r21_11), (0, .ref pd), (1, .int x1_1), (3, .int x3_3), (4, .int x4_4)]) hx hb dX3_boardFault_98 rfl hl (by decide) rfl (fun ls hl => ?_)
                  exact hB99 x1_1 v2_23 x3_3 _ _ _ hF hP hD hS (lv_sub hl [2, 3, 0, 4, 5] rfl)
              · have hF := ifp hF c_20
                refine lv_iload_n hx hb dX3_boardFault_65 rfl (lv_at hl 2 rfl) ?_
                refine lv_iconst (v := 1) hx hb dX3_boardFault_66 (by decide) ?_
                refine lv_iload hx hb dX3_boardFault_67 (lv_at hl 0 rfl) ?_
                refine lv_bipush (v := 48) hx hb dX3_boardFault_69 (by decide) ?_
                refine lv_isub hx hb dX3_boardFault_71 ?_
                refine lv_ishl hx hb dX3_boardFault_72 ?_
                refine lv_ior hx hb dX3_boardFault_73 ?_
                refine lv_topi (fun v1_24 ev1_24 => ?_)
                have hF := jl hF ev1_24
                refine lv_istore_n (lv' := [(1, .int v1_24), (5, .int r21_11), (0, .ref pd), (2, .int x2_2), (3, .int x3_3), (4, .int x4_4)]) hx hb dX3_boardFault_74 rfl hl (by decide) rfl (fun ls hl => ?_)
                refine lv_goto (tgt := 99) hx hb dX3_boardFault_75 (by decide) ?_
                exact hB99 v1_24 x2_2 x3_3 _ _ _ hF hP hD hS (lv_sub hl [2, 0, 3, 4, 5] rfl)
            · have hF := ifp hF c_19
              refine lv_iconst (v := 1) hx hb dX3_boardFault_53 (by decide) ?_
              refine lv_istore_n (lv' := [(3, .int 1), (5, .int r21_11), (0, .ref pd), (1, .int x1_1), (2, .int x2_2), (4, .int x4_4)]) hx hb dX3_boardFault_54 rfl hl (by decide) rfl (fun ls hl => ?_)
              refine lv_goto (tgt := 99) hx hb dX3_boardFault_55 (by decide) ?_
              exact hB99 x1_1 x2_2 1 _ _ _ hF hP hD hS (lv_sub hl [2, 3, 4, 0, 5] rfl)
          · have hF := ifp hF c_14
            refine lv_iload hx hb dX3_boardFault_43 (lv_at hl 5 rfl) ?_
            have hF := Option.some.inj hF
            subst hF
            exact hm_iret hx hb hr hlk hP hD hS hpost dX3_boardFault_45
  exact hL9 _ 0 0 0 0 _ _ _ hF hP hD hS (lv_sub hl [4, 3, 2, 1, 0] rfl)
def f_X3_gameFault_B33 (k_2 : Int32 → Option Int32) (x1_1 : Int32) (t0_5 : Int32) : Option Int32 :=
  if t0_5 = 0 then some x1_1 else jlet (x1_1 + 1) (fun v1_7 => k_2 v1_7)
def f_X3_gameFault_L2 (psz : Int32) (psg : (Nat → Int32)) : Nat → Int32 → Option Int32
  | 0, _ => none
  | n+1, x1_1 =>
  if psz ≤ x1_1 then if (jrem psz 4) = 0 then some (-6) else some psz else Option.bind (f_X3_signAt psz psg x1_1) (fun r12_4 => if (jrem x1_1 2) = 0 then f_X3_gameFault_B33 (f_X3_gameFault_L2 psz psg n) x1_1 (f_X3_isColumn r12_4) else f_X3_gameFault_B33 (f_X3_gameFault_L2 psz psg n) x1_1 (f_X3_isLine r12_4))
def f_X3_gameFault (psz : Int32) (psg : (Nat → Int32)) : Option Int32 :=
  f_X3_gameFault_L2 psz psg 100 0
abbrev rm_X3_gameFault : Room := { frames := 1, cells := 0, slots := 0, locals := 21 }
set_option maxHeartbeats 4000000 in
set_option maxRecDepth 100000 in
theorem k_X3_gameFault (G : gT) (l : Launch) (pd : Nat) (pS : Nat) (psz : Int32) (psg : (Nat → Int32)) (r : Int32) (hF : f_X3_gameFault psz psg = some r) : HM G l yX3_gameFault (.code yX3_gameFault cX3_gameFault 4 (some .int) :: UW) rm_X3_gameFault 0 0 [.ref pd] [(pd, .inr (3, [.ref pS, .int psz])), (pS, .inl (gB G, 48, .inl psg))] (some (.int r)) [(pd, .inr (3, [.ref pS, .int psz])), (pS, .inl (gB G, 48, .inl psg))] := by
  refine HM.ofW (by decide) (Nat.le_of_ble_eq_true rfl) ?_
  intro p e s m args below meth c A post hpost hC hP hD hS ls hl
  obtain ⟨hx, hb, hr, hml, hown, hts, hlk, hE, hA⟩ := hC
  have hl : lv_has ls 4 [(0, .ref pd)] := hl
  unfold f_X3_gameFault at hF
  refine lv_iconst (v := 0) hx hb dX3_gameFault_0 (by decide) ?_
  refine lv_istore_n (lv' := [(1, .int 0), (0, .ref pd)]) hx hb dX3_gameFault_1 rfl hl (by decide) rfl (fun ls hl => ?_)
  have hL2 : ∀ (n2 : Nat) (x1_1 : Int32) (H : Heap) (locs : List Loc) (ls : Array Slot), f_X3_gameFault_L2 psz psg n2 x1_1 = some r → va_P (gD G) vwCl [(pd, .inr (3, [.ref pS, .int psz])), (pS, .inl (gB G, 48, .inl psg))] H → va_D A [(pd, .inr (3, [.ref pS, .int psz])), (pS, .inl (gB G, 48, .inl psg))] → va_S A s.heap H locs → lv_has ls 4 [(0, .ref pd), (1, .int x1_1)] → W p l e rm_X3_gameFault s m args below meth c H locs 0 0 (MQ below (HXq G post A) args s 0 0 A) (F0 m 2 ls []) := by
    intro n2
    induction n2 with
    | zero =>
      intro x1_1 H locs ls hF
      exact absurd hF (fun h => by cases h)
    | succ n2 ih2 =>
      intro x1_1 H locs ls hF hP hD hS hl
      unfold f_X3_gameFault_L2 at hF
      refine lv_iload_n hx hb dX3_gameFault_2 rfl (lv_at hl 1 rfl) ?_
      refine lv_aload_n hx hb dX3_gameFault_3 rfl (lv_at hl 0 rfl) ?_
      refine hget hx hb hts hown hE fl_X3_15 hP 0 rfl rfl dX3_gameFault_4 ?_
      refine lv_icmp_ge (tgt := 46) hx hb dX3_gameFault_7 (by decide) (fun c_2 => ?_) (fun c_2 => ?_)
      · have hF := ifp hF c_2
        refine lv_aload_n hx hb dX3_gameFault_46 rfl (lv_at hl 0 rfl) ?_
        refine hget hx hb hts hown hE fl_X3_15 hP 0 rfl rfl dX3_gameFault_47 ?_
        refine lv_iconst (v := 4) hx hb dX3_gameFault_50 (by decide) ?_
        refine lv_irem hx hb dX3_gameFault_51 (by decide) ?_
        refine lv_if_ne (tgt := 60) hx hb dX3_gameFault_52 (by decide) (fun c_3 => ?_) (fun c_3 => ?_)
        · have hF := ifn hF c_3
          refine lv_aload_n hx hb dX3_gameFault_60 rfl (lv_at hl 0 rfl) ?_
          refine hget hx hb hts hown hE fl_X3_15 hP 0 rfl rfl dX3_gameFault_61 ?_
          have hF := Option.some.inj hF
          subst hF
          exact hm_iret hx hb hr hlk hP hD hS hpost dX3_gameFault_64
        · have hF := ifp hF c_3
          refine lv_bipush (v := (-6)) hx hb dX3_gameFault_55 (by decide) ?_
          refine lv_goto (tgt := 64) hx hb dX3_gameFault_57 (by decide) ?_
          have hF := Option.some.inj hF
          subst hF
          exact hm_iret hx hb hr hlk hP hD hS hpost dX3_gameFault_64
      · have hF := ifn hF c_2
        refine lv_aload_n hx hb dX3_gameFault_10 rfl (lv_at hl 0 rfl) ?_
        refine lv_iload_n hx hb dX3_gameFault_11 rfl (lv_at hl 1 rfl) ?_
        obtain ⟨r12_4, hr12_4, hF⟩ := bnd hF
        refine hm_V (wn := [(pd, .inr (3, [.ref pS, .int psz])), (pS, .inl (gB G, 48, .inl psg))]) (wr := []) (rest := []) (sn := [.int r12_4]) hx hb hml hown hts hE hA (k_X3_signAt G l pd pS psz psg x1_1 r12_4 hr12_4) sm_X3_signAt mw_264 ⟨rfl, rfl, Nat.le_of_ble_eq_true rfl, Nat.le_of_ble_eq_true rfl⟩ hP hD hS 0 rfl rfl [0, 1] [] [0, 1] rfl rfl rfl (by decide) hl.1 rfl rfl (Nat.le_of_ble_eq_true rfl) dX3_gameFault_12 ⟨Nat.le_of_ble_eq_true rfl, Nat.le_of_ble_eq_true rfl⟩ (fun H locs hP hD hS => ?_)
        refine lv_istore_n (lv' := [(2, .int r12_4), (0, .ref pd), (1, .int x1_1)]) hx hb dX3_gameFault_15 rfl hl (by decide) rfl (fun ls hl => ?_)
        refine lv_iload_n hx hb dX3_gameFault_16 rfl (lv_at hl 2 rfl) ?_
        refine lv_iconst (v := 2) hx hb dX3_gameFault_17 (by decide) ?_
        refine lv_irem hx hb dX3_gameFault_18 (by decide) ?_
        have hB33 : ∀ (t0_5 : Int32) (H : Heap) (locs : List Loc) (ls : Array Slot), f_X3_gameFault_B33 (f_X3_gameFault_L2 psz psg n2) x1_1 t0_5 = some r → va_P (gD G) vwCl [(pd, .inr (3, [.ref pS, .int psz])), (pS, .inl (gB G, 48, .inl psg))] H → va_D A [(pd, .inr (3, [.ref pS, .int psz])), (pS, .inl (gB G, 48, .inl psg))] → va_S A s.heap H locs → lv_has ls 4 [(0, .ref pd), (1, .int x1_1)] → W p l e rm_X3_gameFault s m args below meth c H locs 0 0 (MQ below (HXq G post A) args s 0 0 A) (F0 m 33 ls [.int t0_5]) := by
          intro t0_5 H locs ls hF hP hD hS hl
          unfold f_X3_gameFault_B33 at hF
          refine lv_istore_n (lv' := [(3, .int t0_5), (0, .ref pd), (1, .int x1_1)]) hx hb dX3_gameFault_33 rfl hl (by decide) rfl (fun ls hl => ?_)
          refine lv_iload_n hx hb dX3_gameFault_34 rfl (lv_at hl 0 rfl) ?_
          refine lv_if_ne (tgt := 40) hx hb dX3_gameFault_35 (by decide) (fun c_6 => ?_) (fun c_6 => ?_)
          · have hF := ifn hF c_6
            obtain ⟨v1_7, ev1_7⟩ : ∃ z : Int32, z = x1_1 + 1 := ⟨_, rfl⟩
            have hF := jl hF ev1_7
            refine lv_iinc (v := v1_7) (lv' := [(1, .int v1_7), (3, .int t0_5), (0, .ref pd)]) hx hb dX3_gameFault_40 hl (k := 2) rfl (by rw [ev1_7]; rfl) (by decide) rfl (fun ls hl => ?_)
            refine lv_goto (tgt := 2) hx hb dX3_gameFault_43 (by decide) ?_
            exact ih2 v1_7 _ _ _ hF hP hD hS (lv_sub hl [2, 0] rfl)
          · have hF := ifp hF c_6
            refine lv_iload_n hx hb dX3_gameFault_38 rfl (lv_at hl 2 rfl) ?_
            have hF := Option.some.inj hF
            subst hF
            exact hm_iret hx hb hr hlk hP hD hS hpost dX3_gameFault_39
        refine lv_if_ne (tgt := 29) hx hb dX3_gameFault_19 (by decide) (fun c_8 => ?_) (fun c_8 => ?_)
        · have hF := ifn hF c_8
          refine lv_iload_n hx hb dX3_gameFault_29 rfl (lv_at hl 0 rfl) ?_
          refine hm_S (wn := [(pd, .inr (3, [.ref pS, .int psz])), (pS, .inl (gB G, 48, .inl psg))]) (wr := [(pd, .inr (3, [.ref pS, .int psz])), (pS, .inl (gB G, 48, .inl psg))]) (rest := []) (sn := [.int (f_X3_isLine r12_4)]) hx hb hml hown hts hE hA (k_X3_isLine G l r12_4 _ rfl) sm_X3_isLine mw_275 ⟨rfl, rfl, Nat.le_of_ble_eq_true rfl, Nat.le_of_ble_eq_true rfl⟩ hP hD hS [] [0, 1] [0, 1] rfl rfl rfl (by decide) hl.1 rfl rfl (Nat.le_of_ble_eq_true rfl) dX3_gameFault_30 ⟨Nat.le_of_ble_eq_true rfl, Nat.le_of_ble_eq_true rfl⟩ (fun H locs hP hD hS => ?_)
          exact hB33 (f_X3_isLine r12_4) _ _ _ hF hP hD hS (lv_sub hl [1, 2] rfl)
        · have hF := ifp hF c_8
          refine lv_iload_n hx hb dX3_gameFault_22 rfl (lv_at hl 0 rfl) ?_
          refine hm_S (wn := [(pd, .inr (3, [.ref pS, .int psz])), (pS, .inl (gB G, 48, .inl psg))]) (wr := [(pd, .inr (3, [.ref pS, .int psz])), (pS, .inl (gB G, 48, .inl psg))]) (rest := []) (sn := [.int (f_X3_isColumn r12_4)]) hx hb hml hown hts hE hA (k_X3_isColumn G l r12_4 _ rfl) sm_X3_isColumn mw_272 ⟨rfl, rfl, Nat.le_of_ble_eq_true rfl, Nat.le_of_ble_eq_true rfl⟩ hP hD hS [] [0, 1] [0, 1] rfl rfl rfl (by decide) hl.1 rfl rfl (Nat.le_of_ble_eq_true rfl) dX3_gameFault_23 ⟨Nat.le_of_ble_eq_true rfl, Nat.le_of_ble_eq_true rfl⟩ (fun H locs hP hD hS => ?_)
          refine lv_goto (tgt := 33) hx hb dX3_gameFault_26 (by decide) ?_
          exact hB33 (f_X3_isColumn r12_4) _ _ _ hF hP hD hS (lv_sub hl [1, 2] rfl)
  exact hL2 _ 0 _ _ _ hF hP hD hS (lv_sub hl [1, 0] rfl)
def f_X3_boardTold_B68 (x1_1 : Int64) (t1_4 : Int32) : Option Int64 :=
  some (f_X8_withTurn x1_1 t1_4)
def f_X3_boardTold_L6 (psz : Int32) (psg : (Nat → Int32)) : Nat → Int64 → Int32 → Option Int64
  | 0, _, _ => none
  | n+1, x1_1, x3_2 =>
  if psz ≤ (x3_2 + 3) then if (jrem psz 4) = 1 then f_X3_boardTold_B68 x1_1 1 else f_X3_boardTold_B68 x1_1 0 else Option.bind (f_X3_signAt psz psg x3_2) (fun r19_6 => Option.bind (f_X3_cellAt psz psg (x3_2 + 1)) (fun r29_7 => Option.bind (f_X3_signAt psz psg (x3_2 + 3)) (fun r36_8 => jlet (f_X8_put x1_1 (r19_6 - 48) r29_7 (r36_8 - 48)) (fun v1_9 => jlet (x3_2 + 4) (fun v3_10 => (f_X3_boardTold_L6 psz psg n) v1_9 v3_10)))))
def f_X3_boardTold (psz : Int32) (psg : (Nat → Int32)) : Option Int64 :=
  f_X3_boardTold_L6 psz psg 100 1092850007424543 0
abbrev rm_X3_boardTold : Room := { frames := 2, cells := 0, slots := 0, locals := 42 }
set_option maxHeartbeats 4000000 in
set_option maxRecDepth 100000 in
theorem k_X3_boardTold (G : gT) (l : Launch) (pd : Nat) (pS : Nat) (psz : Int32) (psg : (Nat → Int32)) (r : Int64) (hF : f_X3_boardTold psz psg = some r) : HM G l yX3_boardTold (.code yX3_boardTold cX3_boardTold 4 (some .long) :: UW) rm_X3_boardTold 0 0 [.ref pd] [(pd, .inr (3, [.ref pS, .int psz])), (pS, .inl (gB G, 48, .inl psg))] (some (.long r)) [(pd, .inr (3, [.ref pS, .int psz])), (pS, .inl (gB G, 48, .inl psg))] := by
  refine HM.ofW (by decide) (Nat.le_of_ble_eq_true rfl) ?_
  intro p e s m args below meth c A post hpost hC hP hD hS ls hl
  obtain ⟨hx, hb, hr, hml, hown, hts, hlk, hE, hA⟩ := hC
  have hl : lv_has ls 4 [(0, .ref pd)] := hl
  unfold f_X3_boardTold at hF
  refine lv_ldc2 (v := 1092850007424543) hx hb hown (hts _ (List.mem_cons_of_mem _ mw_294)) dX3_boardTold_0 ?_
  refine lv_lstore_n (lv' := [(1, .long 1092850007424543), (0, .ref pd)]) hx hb dX3_boardTold_3 rfl hl (by decide) rfl (fun ls hl => ?_)
  refine lv_iconst (v := 0) hx hb dX3_boardTold_4 (by decide) ?_
  refine lv_istore_n (lv' := [(3, .int 0), (1, .long 1092850007424543), (0, .ref pd)]) hx hb dX3_boardTold_5 rfl hl (by decide) rfl (fun ls hl => ?_)
  have hL6 : ∀ (n6 : Nat) (x1_1 : Int64) (x3_2 : Int32) (H : Heap) (locs : List Loc) (ls : Array Slot), f_X3_boardTold_L6 psz psg n6 x1_1 x3_2 = some r → va_P (gD G) vwCl [(pd, .inr (3, [.ref pS, .int psz])), (pS, .inl (gB G, 48, .inl psg))] H → va_D A [(pd, .inr (3, [.ref pS, .int psz])), (pS, .inl (gB G, 48, .inl psg))] → va_S A s.heap H locs → lv_has ls 4 [(0, .ref pd), (1, .long x1_1), (3, .int x3_2)] → W p l e rm_X3_boardTold s m args below meth c H locs 0 0 (MQ below (HXq G post A) args s 0 0 A) (F0 m 6 ls []) := by
    intro n6
    induction n6 with
    | zero =>
      intro x1_1 x3_2 H locs ls hF
      exact absurd hF (fun h => by cases h)
    | succ n6 ih6 =>
      intro x1_1 x3_2 H locs ls hF hP hD hS hl
      unfold f_X3_boardTold_L6 at hF
      refine lv_iload_n hx hb dX3_boardTold_6 rfl (lv_at hl 2 rfl) ?_
      refine lv_iconst (v := 3) hx hb dX3_boardTold_7 (by decide) ?_
      refine lv_iadd hx hb dX3_boardTold_8 ?_
      refine lv_aload_n hx hb dX3_boardTold_9 rfl (lv_at hl 0 rfl) ?_
      refine hget hx hb hts hown hE fl_X3_15 hP 0 rfl rfl dX3_boardTold_10 ?_
      refine lv_icmp_ge (tgt := 52) hx hb dX3_boardTold_13 (by decide) (fun c_3 => ?_) (fun c_3 => ?_)
      · have hF := ifp hF c_3
        refine lv_lload_n hx hb dX3_boardTold_52 rfl (lv_at hl 1 rfl) ?_
        refine lv_aload_n hx hb dX3_boardTold_53 rfl (lv_at hl 0 rfl) ?_
        refine hget hx hb hts hown hE fl_X3_15 hP 0 rfl rfl dX3_boardTold_54 ?_
        refine lv_iconst (v := 4) hx hb dX3_boardTold_57 (by decide) ?_
        refine lv_irem hx hb dX3_boardTold_58 (by decide) ?_
        refine lv_iconst (v := 1) hx hb dX3_boardTold_59 (by decide) ?_
        have hB68 : ∀ (t1_4 : Int32) (H : Heap) (locs : List Loc) (ls : Array Slot), f_X3_boardTold_B68 x1_1 t1_4 = some r → va_P (gD G) vwCl [(pd, .inr (3, [.ref pS, .int psz])), (pS, .inl (gB G, 48, .inl psg))] H → va_D A [(pd, .inr (3, [.ref pS, .int psz])), (pS, .inl (gB G, 48, .inl psg))] → va_S A s.heap H locs → lv_has ls 4 [] → W p l e rm_X3_boardTold s m args below meth c H locs 0 0 (MQ below (HXq G post A) args s 0 0 A) (F0 m 68 ls [.int t1_4, .long x1_1]) := by
          intro t1_4 H locs ls hF hP hD hS hl
          unfold f_X3_boardTold_B68 at hF
          refine hm_S (wn := [(pd, .inr (3, [.ref pS, .int psz])), (pS, .inl (gB G, 48, .inl psg))]) (wr := [(pd, .inr (3, [.ref pS, .int psz])), (pS, .inl (gB G, 48, .inl psg))]) (rest := []) (sn := [.long (f_X8_withTurn x1_1 t1_4)]) hx hb hml hown hts hE hA (k_X8_withTurn G l x1_1 t1_4 _ rfl) sm_X8_withTurn mw_296 ⟨rfl, rfl, Nat.le_of_ble_eq_true rfl, Nat.le_of_ble_eq_true rfl⟩ hP hD hS [] [0, 1] [0, 1] rfl rfl rfl (by decide) hl.1 rfl rfl (Nat.le_of_ble_eq_true rfl) dX3_boardTold_68 ⟨Nat.le_of_ble_eq_true rfl, Nat.le_of_ble_eq_true rfl⟩ (fun H locs hP hD hS => ?_)
          have hF := Option.some.inj hF
          subst hF
          exact hm_lret hx hb hr hlk hP hD hS hpost dX3_boardTold_71
        refine lv_icmp_ne (tgt := 67) hx hb dX3_boardTold_60 (by decide) (fun c_5 => ?_) (fun c_5 => ?_)
        · have hF := ifn hF c_5
          refine lv_iconst (v := 0) hx hb dX3_boardTold_67 (by decide) ?_
          exact hB68 0 _ _ _ hF hP hD hS (lv_sub hl [] rfl)
        · have hF := ifp hF c_5
          refine lv_iconst (v := 1) hx hb dX3_boardTold_63 (by decide) ?_
          refine lv_goto (tgt := 68) hx hb dX3_boardTold_64 (by decide) ?_
          exact hB68 1 _ _ _ hF hP hD hS (lv_sub hl [] rfl)
      · have hF := ifn hF c_3
        refine lv_lload_n hx hb dX3_boardTold_16 rfl (lv_at hl 1 rfl) ?_
        refine lv_aload_n hx hb dX3_boardTold_17 rfl (lv_at hl 0 rfl) ?_
        refine lv_iload_n hx hb dX3_boardTold_18 rfl (lv_at hl 2 rfl) ?_
        obtain ⟨r19_6, hr19_6, hF⟩ := bnd hF
        refine hm_V (wn := [(pd, .inr (3, [.ref pS, .int psz])), (pS, .inl (gB G, 48, .inl psg))]) (wr := []) (rest := [.long x1_1]) (sn := [.int r19_6, .long x1_1]) hx hb hml hown hts hE hA (k_X3_signAt G l pd pS psz psg x3_2 r19_6 hr19_6) sm_X3_signAt mw_264 ⟨rfl, rfl, Nat.le_of_ble_eq_true rfl, Nat.le_of_ble_eq_true rfl⟩ hP hD hS 0 rfl rfl [0, 1] [] [0, 1] rfl rfl rfl (by decide) hl.1 rfl rfl (Nat.le_of_ble_eq_true rfl) dX3_boardTold_19 ⟨Nat.le_of_ble_eq_true rfl, Nat.le_of_ble_eq_true rfl⟩ (fun H locs hP hD hS => ?_)
        refine lv_bipush (v := 48) hx hb dX3_boardTold_22 (by decide) ?_
        refine lv_isub hx hb dX3_boardTold_24 ?_
        refine lv_aload_n hx hb dX3_boardTold_25 rfl (lv_at hl 0 rfl) ?_
        refine lv_iload_n hx hb dX3_boardTold_26 rfl (lv_at hl 2 rfl) ?_
        refine lv_iconst (v := 1) hx hb dX3_boardTold_27 (by decide) ?_
        refine lv_iadd hx hb dX3_boardTold_28 ?_
        obtain ⟨r29_7, hr29_7, hF⟩ := bnd hF
        refine hm_V (wn := [(pd, .inr (3, [.ref pS, .int psz])), (pS, .inl (gB G, 48, .inl psg))]) (wr := []) (rest := [.int (r19_6 - 48), .long x1_1]) (sn := [.int r29_7, .int (r19_6 - 48), .long x1_1]) hx hb hml hown hts hE hA (k_X3_cellAt G l pd pS psz psg (x3_2 + 1) r29_7 hr29_7) sm_X3_cellAt mw_278 ⟨rfl, rfl, Nat.le_of_ble_eq_true rfl, Nat.le_of_ble_eq_true rfl⟩ hP hD hS 0 rfl rfl [0, 1] [] [0, 1] rfl rfl rfl (by decide) hl.1 rfl rfl (Nat.le_of_ble_eq_true rfl) dX3_boardTold_29 ⟨Nat.le_of_ble_eq_true rfl, Nat.le_of_ble_eq_true rfl⟩ (fun H locs hP hD hS => ?_)
        refine lv_aload_n hx hb dX3_boardTold_32 rfl (lv_at hl 0 rfl) ?_
        refine lv_iload_n hx hb dX3_boardTold_33 rfl (lv_at hl 2 rfl) ?_
        refine lv_iconst (v := 3) hx hb dX3_boardTold_34 (by decide) ?_
        refine lv_iadd hx hb dX3_boardTold_35 ?_
        obtain ⟨r36_8, hr36_8, hF⟩ := bnd hF
        refine hm_V (wn := [(pd, .inr (3, [.ref pS, .int psz])), (pS, .inl (gB G, 48, .inl psg))]) (wr := []) (rest := [.int r29_7, .int (r19_6 - 48), .long x1_1]) (sn := [.int r36_8, .int r29_7, .int (r19_6 - 48), .long x1_1]) hx hb hml hown hts hE hA (k_X3_signAt G l pd pS psz psg (x3_2 + 3) r36_8 hr36_8) sm_X3_signAt mw_264 ⟨rfl, rfl, Nat.le_of_ble_eq_true rfl, Nat.le_of_ble_eq_true rfl⟩ hP hD hS 0 rfl rfl [0, 1] [] [0, 1] rfl rfl rfl (by decide) hl.1 rfl rfl (Nat.le_of_ble_eq_true rfl) dX3_boardTold_36 ⟨Nat.le_of_ble_eq_true rfl, Nat.le_of_ble_eq_true rfl⟩ (fun H locs hP hD hS => ?_)
        refine lv_bipush (v := 48) hx hb dX3_boardTold_39 (by decide) ?_
        refine lv_isub hx hb dX3_boardTold_41 ?_
        refine hm_S (wn := [(pd, .inr (3, [.ref pS, .int psz])), (pS, .inl (gB G, 48, .inl psg))]) (wr := [(pd, .inr (3, [.ref pS, .int psz])), (pS, .inl (gB G, 48, .inl psg))]) (rest := []) (sn := [.long (f_X8_put x1_1 (r19_6 - 48) r29_7 (r36_8 - 48))]) hx hb hml hown hts hE hA (k_X8_put G l x1_1 (r19_6 - 48) r29_7 (r36_8 - 48) _ rfl) sm_X8_put mw_295 ⟨rfl, rfl, Nat.le_of_ble_eq_true rfl, Nat.le_of_ble_eq_true rfl⟩ hP hD hS [] [0, 1] [0, 1] rfl rfl rfl (by decide) hl.1 rfl rfl (Nat.le_of_ble_eq_true rfl) dX3_boardTold_42 ⟨Nat.le_of_ble_eq_true rfl, Nat.le_of_ble_eq_true rfl⟩ (fun H locs hP hD hS => ?_)
        refine lv_topl (fun v1_9 ev1_9 => ?_)
        have hF := jl hF ev1_9
        refine lv_lstore_n (lv' := [(1, .long v1_9), (0, .ref pd), (3, .int x3_2)]) hx hb dX3_boardTold_45 rfl hl (by decide) rfl (fun ls hl => ?_)
        obtain ⟨v3_10, ev3_10⟩ : ∃ z : Int32, z = x3_2 + 4 := ⟨_, rfl⟩
        have hF := jl hF ev3_10
        refine lv_iinc (v := v3_10) (lv' := [(3, .int v3_10), (1, .long v1_9), (0, .ref pd)]) hx hb dX3_boardTold_46 hl (k := 2) rfl (by rw [ev3_10]; rfl) (by decide) rfl (fun ls hl => ?_)
        refine lv_goto (tgt := 6) hx hb dX3_boardTold_49 (by decide) ?_
        exact ih6 v1_9 v3_10 _ _ _ hF hP hD hS (lv_sub hl [2, 1, 0] rfl)
  exact hL6 _ 1092850007424543 0 _ _ _ hF hP hD hS (lv_sub hl [2, 1, 0] rfl)
def f_X3_countMoves (psz : Int32) : Int32 :=
  (psz / 4)
abbrev rm_X3_countMoves : Room := { frames := 0, cells := 0, slots := 0, locals := 0 }
set_option maxHeartbeats 4000000 in
set_option maxRecDepth 100000 in
theorem k_X3_countMoves (G : gT) (l : Launch) (pd : Nat) (pS : Nat) (psz : Int32) (r : Int32) (hF : f_X3_countMoves psz = r) : HM G l yX3_countMoves (.code yX3_countMoves cX3_countMoves 1 (some .int) :: UW) rm_X3_countMoves 0 0 [.ref pd] [(pd, .inr (3, [.ref pS, .int psz]))] (some (.int r)) [(pd, .inr (3, [.ref pS, .int psz]))] := by
  refine HM.ofW (by decide) (Nat.le_of_ble_eq_true rfl) ?_
  intro p e s m args below meth c A post hpost hC hP hD hS ls hl
  obtain ⟨hx, hb, hr, hml, hown, hts, hlk, hE, hA⟩ := hC
  have hl : lv_has ls 1 [(0, .ref pd)] := hl
  unfold f_X3_countMoves at hF
  refine lv_aload_n hx hb dX3_countMoves_0 rfl (lv_at hl 0 rfl) ?_
  refine hget hx hb hts hown hE fl_X3_15 hP 0 rfl rfl dX3_countMoves_1 ?_
  refine lv_iconst (v := 4) hx hb dX3_countMoves_4 (by decide) ?_
  refine lv_idiv hx hb dX3_countMoves_5 (by decide) ?_
  subst hF
  exact hm_iret hx hb hr hlk hP hD hS hpost dX3_countMoves_6
def f_X3_fromAt (psz : Int32) (psg : (Nat → Int32)) (mv : Int32) : Option Int32 :=
  Option.bind (f_X3_cellAt psz psg (4 * mv)) (fun r4_1 => some r4_1)
abbrev rm_X3_fromAt : Room := { frames := 2, cells := 0, slots := 0, locals := 42 }
set_option maxHeartbeats 4000000 in
set_option maxRecDepth 100000 in
theorem k_X3_fromAt (G : gT) (l : Launch) (pd : Nat) (pS : Nat) (psz : Int32) (psg : (Nat → Int32)) (mv : Int32) (r : Int32) (hF : f_X3_fromAt psz psg mv = some r) : HM G l yX3_fromAt (.code yX3_fromAt cX3_fromAt 2 (some .int) :: UW) rm_X3_fromAt 0 0 [.ref pd, .int mv] [(pd, .inr (3, [.ref pS, .int psz])), (pS, .inl (gB G, 48, .inl psg))] (some (.int r)) [(pd, .inr (3, [.ref pS, .int psz])), (pS, .inl (gB G, 48, .inl psg))] := by
  refine HM.ofW (by decide) (Nat.le_of_ble_eq_true rfl) ?_
  intro p e s m args below meth c A post hpost hC hP hD hS ls hl
  obtain ⟨hx, hb, hr, hml, hown, hts, hlk, hE, hA⟩ := hC
  have hl : lv_has ls 2 [(0, .ref pd), (1, .int mv)] := hl
  unfold f_X3_fromAt at hF
  refine lv_aload_n hx hb dX3_fromAt_0 rfl (lv_at hl 0 rfl) ?_
  refine lv_iconst (v := 4) hx hb dX3_fromAt_1 (by decide) ?_
  refine lv_iload_n hx hb dX3_fromAt_2 rfl (lv_at hl 1 rfl) ?_
  refine lv_imul hx hb dX3_fromAt_3 ?_
  obtain ⟨r4_1, hr4_1, hF⟩ := bnd hF
  refine hm_V (wn := [(pd, .inr (3, [.ref pS, .int psz])), (pS, .inl (gB G, 48, .inl psg))]) (wr := []) (rest := []) (sn := [.int r4_1]) hx hb hml hown hts hE hA (k_X3_cellAt G l pd pS psz psg (4 * mv) r4_1 hr4_1) sm_X3_cellAt mw_278 ⟨rfl, rfl, Nat.le_of_ble_eq_true rfl, Nat.le_of_ble_eq_true rfl⟩ hP hD hS 0 rfl rfl [0, 1] [] [0, 1] rfl rfl rfl (by decide) hl.1 rfl rfl (Nat.le_of_ble_eq_true rfl) dX3_fromAt_4 ⟨Nat.le_of_ble_eq_true rfl, Nat.le_of_ble_eq_true rfl⟩ (fun H locs hP hD hS => ?_)
  have hF := Option.some.inj hF
  subst hF
  exact hm_iret hx hb hr hlk hP hD hS hpost dX3_fromAt_7
def f_X3_toAt (psz : Int32) (psg : (Nat → Int32)) (mv : Int32) : Option Int32 :=
  Option.bind (f_X3_cellAt psz psg ((4 * mv) + 2)) (fun r6_1 => some r6_1)
abbrev rm_X3_toAt : Room := { frames := 2, cells := 0, slots := 0, locals := 42 }
set_option maxHeartbeats 4000000 in
set_option maxRecDepth 100000 in
theorem k_X3_toAt (G : gT) (l : Launch) (pd : Nat) (pS : Nat) (psz : Int32) (psg : (Nat → Int32)) (mv : Int32) (r : Int32) (hF : f_X3_toAt psz psg mv = some r) : HM G l yX3_toAt (.code yX3_toAt cX3_toAt 2 (some .int) :: UW) rm_X3_toAt 0 0 [.ref pd, .int mv] [(pd, .inr (3, [.ref pS, .int psz])), (pS, .inl (gB G, 48, .inl psg))] (some (.int r)) [(pd, .inr (3, [.ref pS, .int psz])), (pS, .inl (gB G, 48, .inl psg))] := by
  refine HM.ofW (by decide) (Nat.le_of_ble_eq_true rfl) ?_
  intro p e s m args below meth c A post hpost hC hP hD hS ls hl
  obtain ⟨hx, hb, hr, hml, hown, hts, hlk, hE, hA⟩ := hC
  have hl : lv_has ls 2 [(0, .ref pd), (1, .int mv)] := hl
  unfold f_X3_toAt at hF
  refine lv_aload_n hx hb dX3_toAt_0 rfl (lv_at hl 0 rfl) ?_
  refine lv_iconst (v := 4) hx hb dX3_toAt_1 (by decide) ?_
  refine lv_iload_n hx hb dX3_toAt_2 rfl (lv_at hl 1 rfl) ?_
  refine lv_imul hx hb dX3_toAt_3 ?_
  refine lv_iconst (v := 2) hx hb dX3_toAt_4 (by decide) ?_
  refine lv_iadd hx hb dX3_toAt_5 ?_
  obtain ⟨r6_1, hr6_1, hF⟩ := bnd hF
  refine hm_V (wn := [(pd, .inr (3, [.ref pS, .int psz])), (pS, .inl (gB G, 48, .inl psg))]) (wr := []) (rest := []) (sn := [.int r6_1]) hx hb hml hown hts hE hA (k_X3_cellAt G l pd pS psz psg ((4 * mv) + 2) r6_1 hr6_1) sm_X3_cellAt mw_278 ⟨rfl, rfl, Nat.le_of_ble_eq_true rfl, Nat.le_of_ble_eq_true rfl⟩ hP hD hS 0 rfl rfl [0, 1] [] [0, 1] rfl rfl rfl (by decide) hl.1 rfl rfl (Nat.le_of_ble_eq_true rfl) dX3_toAt_6 ⟨Nat.le_of_ble_eq_true rfl, Nat.le_of_ble_eq_true rfl⟩ (fun H locs hP hD hS => ?_)
  have hF := Option.some.inj hF
  subst hF
  exact hm_iret hx hb hr hlk hP hD hS hpost dX3_toAt_9
