def f_X0_copyFrom (bs : (Nat → Int64)) (bl : (Nat → Int32)) (br : (Nat → Int32)) (bp : (Nat → Int32)) (oc : Int32) (os : (Nat → Int64)) (ol : (Nat → Int32)) (or : (Nat → Int32)) (op : (Nat → Int32)) : Int32 × (Nat → Int64) × (Nat → Int32) × (Nat → Int32) × (Nat → Int32) :=
  jlet (va_cpy os bs 0 0 8) (fun a12_1 => jlet (va_cpy ol bl 0 0 8) (fun a27_2 => jlet (va_cpy or br 0 0 8) (fun a42_3 => jlet (va_cpy op bp 0 0 96) (fun a57_4 => (oc, a12_1, a27_2, a42_3, a57_4)))))
abbrev rm_X0_copyFrom : Room := { frames := 1, cells := 0, slots := 0, locals := 60 }
set_option maxHeartbeats 4000000 in
set_option maxRecDepth 100000 in
theorem k_X0_copyFrom (G : gT) (l : Launch) (bk : Nat) (ok : Nat) (bS : Nat) (bL : Nat) (bR : Nat) (bP : Nat) (oS : Nat) (oL : Nat) (oR : Nat) (oP : Nat) (bc : Int32) (bs : (Nat → Int64)) (bl : (Nat → Int32)) (br : (Nat → Int32)) (bp : (Nat → Int32)) (oc : Int32) (os : (Nat → Int64)) (ol : (Nat → Int32)) (or : (Nat → Int32)) (op : (Nat → Int32)) (r : Int32 × (Nat → Int64) × (Nat → Int32) × (Nat → Int32) × (Nat → Int32)) (hF : f_X0_copyFrom bs bl br bp oc os ol or op = r) : HM G l yX0_copyFrom (.code yX0_copyFrom cX0_copyFrom 2 none :: UW) rm_X0_copyFrom 0 0 [.ref bk, .ref ok] [(bk, .inr (0, [.ref bS, .ref bL, .ref bR, .ref bP, .int bc])), (bS, .inl (gJ G, 8, .inr (.inl bs))), (bL, .inl (gI G, 8, .inl bl)), (bR, .inl (gI G, 8, .inl br)), (bP, .inl (gI G, 96, .inl bp)), (ok, .inr (0, [.ref oS, .ref oL, .ref oR, .ref oP, .int oc])), (oS, .inl (gJ G, 8, .inr (.inl os))), (oL, .inl (gI G, 8, .inl ol)), (oR, .inl (gI G, 8, .inl or)), (oP, .inl (gI G, 96, .inl op))] none [(bk, .inr (0, [.ref bS, .ref bL, .ref bR, .ref bP, .int r.1])), (bS, .inl (gJ G, 8, .inr (.inl r.2.1))), (bL, .inl (gI G, 8, .inl r.2.2.1)), (bR, .inl (gI G, 8, .inl r.2.2.2.1)), (bP, .inl (gI G, 96, .inl r.2.2.2.2)), (ok, .inr (0, [.ref oS, .ref oL, .ref oR, .ref oP, .int oc])), (oS, .inl (gJ G, 8, .inr (.inl os))), (oL, .inl (gI G, 8, .inl ol)), (oR, .inl (gI G, 8, .inl or)), (oP, .inl (gI G, 96, .inl op))] := by
  refine HM.ofW (by decide) (Nat.le_of_ble_eq_true rfl) ?_
  intro p e s m args below meth c A post hpost hC hP hD hS ls hl
  obtain ⟨hx, hb, hr, hml, hown, hts, hlk, hE, hA⟩ := hC
  have hl : lv_has ls 2 [(0, .ref bk), (1, .ref ok)] := hl
  unfold f_X0_copyFrom at hF
  refine lv_aload_n hx hb dX0_copyFrom_0 rfl (lv_at hl 1 rfl) ?_
  refine hget hx hb hts hown hE fl_X0_9 hP 5 rfl rfl dX0_copyFrom_1 ?_
  refine lv_iconst (v := 0) hx hb dX0_copyFrom_4 (by decide) ?_
  refine lv_aload_n hx hb dX0_copyFrom_5 rfl (lv_at hl 0 rfl) ?_
  refine hget hx hb hts hown hE fl_X0_9 hP 0 rfl rfl dX0_copyFrom_6 ?_
  refine lv_iconst (v := 0) hx hb dX0_copyFrom_9 (by decide) ?_
  refine lv_bipush (v := 8) hx hb dX0_copyFrom_10 (by decide) ?_
  obtain ⟨a12_1, ea12_1⟩ : ∃ z : (Nat → Int64), z = va_cpy os bs 0 0 8 := ⟨_, rfl⟩
  have hF := jl hF ea12_1
  refine va_copyl hx hb (hml.trans hl.1.symm) hown (hts _ (List.mem_cons_of_mem _ mw_705)) (hts _ (List.mem_cons_of_mem _ mw_707)) (hts _ (List.mem_cons_of_mem _ mw_706)) (hts _ (List.mem_cons_of_mem _ mw_58)) hE.1 hP hD hS 6 1 1 1 rfl rfl rfl rfl rfl (by decide) (by decide) (by decide) (by decide) (by decide) (fun _ _ => rfl) (Nat.le_of_ble_eq_true rfl) (Nat.le_of_ble_eq_true rfl) dX0_copyFrom_12 (fun H locs hP hD hS => ?_)
  have hP : va_P (gD G) vwCl [(bk, .inr (0, [.ref bS, .ref bL, .ref bR, .ref bP, .int bc])), (bS, .inl (gJ G, 8, .inr (.inl a12_1))), (bL, .inl (gI G, 8, .inl bl)), (bR, .inl (gI G, 8, .inl br)), (bP, .inl (gI G, 96, .inl bp)), (ok, .inr (0, [.ref oS, .ref oL, .ref oR, .ref oP, .int oc])), (oS, .inl (gJ G, 8, .inr (.inl os))), (oL, .inl (gI G, 8, .inl ol)), (oR, .inl (gI G, 8, .inl or)), (oP, .inl (gI G, 96, .inl op))] H := by rw [ea12_1]; exact hP
  have hD : va_D A [(bk, .inr (0, [.ref bS, .ref bL, .ref bR, .ref bP, .int bc])), (bS, .inl (gJ G, 8, .inr (.inl a12_1))), (bL, .inl (gI G, 8, .inl bl)), (bR, .inl (gI G, 8, .inl br)), (bP, .inl (gI G, 96, .inl bp)), (ok, .inr (0, [.ref oS, .ref oL, .ref oR, .ref oP, .int oc])), (oS, .inl (gJ G, 8, .inr (.inl os))), (oL, .inl (gI G, 8, .inl ol)), (oR, .inl (gI G, 8, .inl or)), (oP, .inl (gI G, 96, .inl op))] := by rw [ea12_1]; exact hD
  refine lv_aload_n hx hb dX0_copyFrom_15 rfl (lv_at hl 1 rfl) ?_
  refine hget hx hb hts hown hE fl_X0_15 hP 5 rfl rfl dX0_copyFrom_16 ?_
  refine lv_iconst (v := 0) hx hb dX0_copyFrom_19 (by decide) ?_
  refine lv_aload_n hx hb dX0_copyFrom_20 rfl (lv_at hl 0 rfl) ?_
  refine hget hx hb hts hown hE fl_X0_15 hP 0 rfl rfl dX0_copyFrom_21 ?_
  refine lv_iconst (v := 0) hx hb dX0_copyFrom_24 (by decide) ?_
  refine lv_bipush (v := 8) hx hb dX0_copyFrom_25 (by decide) ?_
  obtain ⟨a27_2, ea27_2⟩ : ∃ z : (Nat → Int32), z = va_cpy ol bl 0 0 8 := ⟨_, rfl⟩
  have hF := jl hF ea27_2
  refine va_copyi hx hb (hml.trans hl.1.symm) hown (hts _ (List.mem_cons_of_mem _ mw_705)) (hts _ (List.mem_cons_of_mem _ mw_707)) (hts _ (List.mem_cons_of_mem _ mw_706)) (hts _ (List.mem_cons_of_mem _ mw_58)) hE.1 hP hD hS 7 2 0 0 rfl rfl rfl rfl rfl (by decide) (by decide) (by decide) (by decide) (by decide) (fun _ _ => rfl) (Nat.le_of_ble_eq_true rfl) (Nat.le_of_ble_eq_true rfl) dX0_copyFrom_27 (fun H locs hP hD hS => ?_)
  have hP : va_P (gD G) vwCl [(bk, .inr (0, [.ref bS, .ref bL, .ref bR, .ref bP, .int bc])), (bS, .inl (gJ G, 8, .inr (.inl a12_1))), (bL, .inl (gI G, 8, .inl a27_2)), (bR, .inl (gI G, 8, .inl br)), (bP, .inl (gI G, 96, .inl bp)), (ok, .inr (0, [.ref oS, .ref oL, .ref oR, .ref oP, .int oc])), (oS, .inl (gJ G, 8, .inr (.inl os))), (oL, .inl (gI G, 8, .inl ol)), (oR, .inl (gI G, 8, .inl or)), (oP, .inl (gI G, 96, .inl op))] H := by rw [ea27_2]; exact hP
  have hD : va_D A [(bk, .inr (0, [.ref bS, .ref bL, .ref bR, .ref bP, .int bc])), (bS, .inl (gJ G, 8, .inr (.inl a12_1))), (bL, .inl (gI G, 8, .inl a27_2)), (bR, .inl (gI G, 8, .inl br)), (bP, .inl (gI G, 96, .inl bp)), (ok, .inr (0, [.ref oS, .ref oL, .ref oR, .ref oP, .int oc])), (oS, .inl (gJ G, 8, .inr (.inl os))), (oL, .inl (gI G, 8, .inl ol)), (oR, .inl (gI G, 8, .inl or)), (oP, .inl (gI G, 96, .inl op))] := by rw [ea27_2]; exact hD
  refine lv_aload_n hx hb dX0_copyFrom_30 rfl (lv_at hl 1 rfl) ?_
  refine hget hx hb hts hown hE fl_X0_19 hP 5 rfl rfl dX0_copyFrom_31 ?_
  refine lv_iconst (v := 0) hx hb dX0_copyFrom_34 (by decide) ?_
  refine lv_aload_n hx hb dX0_copyFrom_35 rfl (lv_at hl 0 rfl) ?_
  refine hget hx hb hts hown hE fl_X0_19 hP 0 rfl rfl dX0_copyFrom_36 ?_
  refine lv_iconst (v := 0) hx hb dX0_copyFrom_39 (by decide) ?_
  refine lv_bipush (v := 8) hx hb dX0_copyFrom_40 (by decide) ?_
  obtain ⟨a42_3, ea42_3⟩ : ∃ z : (Nat → Int32), z = va_cpy or br 0 0 8 := ⟨_, rfl⟩
  have hF := jl hF ea42_3
  refine va_copyi hx hb (hml.trans hl.1.symm) hown (hts _ (List.mem_cons_of_mem _ mw_705)) (hts _ (List.mem_cons_of_mem _ mw_707)) (hts _ (List.mem_cons_of_mem _ mw_706)) (hts _ (List.mem_cons_of_mem _ mw_58)) hE.1 hP hD hS 8 3 0 0 rfl rfl rfl rfl rfl (by decide) (by decide) (by decide) (by decide) (by decide) (fun _ _ => rfl) (Nat.le_of_ble_eq_true rfl) (Nat.le_of_ble_eq_true rfl) dX0_copyFrom_42 (fun H locs hP hD hS => ?_)
  have hP : va_P (gD G) vwCl [(bk, .inr (0, [.ref bS, .ref bL, .ref bR, .ref bP, .int bc])), (bS, .inl (gJ G, 8, .inr (.inl a12_1))), (bL, .inl (gI G, 8, .inl a27_2)), (bR, .inl (gI G, 8, .inl a42_3)), (bP, .inl (gI G, 96, .inl bp)), (ok, .inr (0, [.ref oS, .ref oL, .ref oR, .ref oP, .int oc])), (oS, .inl (gJ G, 8, .inr (.inl os))), (oL, .inl (gI G, 8, .inl ol)), (oR, .inl (gI G, 8, .inl or)), (oP, .inl (gI G, 96, .inl op))] H := by rw [ea42_3]; exact hP
  have hD : va_D A [(bk, .inr (0, [.ref bS, .ref bL, .ref bR, .ref bP, .int bc])), (bS, .inl (gJ G, 8, .inr (.inl a12_1))), (bL, .inl (gI G, 8, .inl a27_2)), (bR, .inl (gI G, 8, .inl a42_3)), (bP, .inl (gI G, 96, .inl bp)), (ok, .inr (0, [.ref oS, .ref oL, .ref oR, .ref oP, .int oc])), (oS, .inl (gJ G, 8, .inr (.inl os))), (oL, .inl (gI G, 8, .inl ol)), (oR, .inl (gI G, 8, .inl or)), (oP, .inl (gI G, 96, .inl op))] := by rw [ea42_3]; exact hD
  refine lv_aload_n hx hb dX0_copyFrom_45 rfl (lv_at hl 1 rfl) ?_
  refine hget hx hb hts hown hE fl_X0_22 hP 5 rfl rfl dX0_copyFrom_46 ?_
  refine lv_iconst (v := 0) hx hb dX0_copyFrom_49 (by decide) ?_
  refine lv_aload_n hx hb dX0_copyFrom_50 rfl (lv_at hl 0 rfl) ?_
  refine hget hx hb hts hown hE fl_X0_22 hP 0 rfl rfl dX0_copyFrom_51 ?_
  refine lv_iconst (v := 0) hx hb dX0_copyFrom_54 (by decide) ?_
  refine lv_bipush (v := 96) hx hb dX0_copyFrom_55 (by decide) ?_
  obtain ⟨a57_4, ea57_4⟩ : ∃ z : (Nat → Int32), z = va_cpy op bp 0 0 96 := ⟨_, rfl⟩
  have hF := jl hF ea57_4
  refine va_copyi hx hb (hml.trans hl.1.symm) hown (hts _ (List.mem_cons_of_mem _ mw_705)) (hts _ (List.mem_cons_of_mem _ mw_707)) (hts _ (List.mem_cons_of_mem _ mw_706)) (hts _ (List.mem_cons_of_mem _ mw_58)) hE.1 hP hD hS 9 4 0 0 rfl rfl rfl rfl rfl (by decide) (by decide) (by decide) (by decide) (by decide) (fun _ _ => rfl) (Nat.le_of_ble_eq_true rfl) (Nat.le_of_ble_eq_true rfl) dX0_copyFrom_57 (fun H locs hP hD hS => ?_)
  have hP : va_P (gD G) vwCl [(bk, .inr (0, [.ref bS, .ref bL, .ref bR, .ref bP, .int bc])), (bS, .inl (gJ G, 8, .inr (.inl a12_1))), (bL, .inl (gI G, 8, .inl a27_2)), (bR, .inl (gI G, 8, .inl a42_3)), (bP, .inl (gI G, 96, .inl a57_4)), (ok, .inr (0, [.ref oS, .ref oL, .ref oR, .ref oP, .int oc])), (oS, .inl (gJ G, 8, .inr (.inl os))), (oL, .inl (gI G, 8, .inl ol)), (oR, .inl (gI G, 8, .inl or)), (oP, .inl (gI G, 96, .inl op))] H := by rw [ea57_4]; exact hP
  have hD : va_D A [(bk, .inr (0, [.ref bS, .ref bL, .ref bR, .ref bP, .int bc])), (bS, .inl (gJ G, 8, .inr (.inl a12_1))), (bL, .inl (gI G, 8, .inl a27_2)), (bR, .inl (gI G, 8, .inl a42_3)), (bP, .inl (gI G, 96, .inl a57_4)), (ok, .inr (0, [.ref oS, .ref oL, .ref oR, .ref oP, .int oc])), (oS, .inl (gJ G, 8, .inr (.inl os))), (oL, .inl (gI G, 8, .inl ol)), (oR, .inl (gI G, 8, .inl or)), (oP, .inl (gI G, 96, .inl op))] := by rw [ea57_4]; exact hD
  refine lv_aload_n hx hb dX0_copyFrom_60 rfl (lv_at hl 0 rfl) ?_
  refine lv_aload_n hx hb dX0_copyFrom_61 rfl (lv_at hl 1 rfl) ?_
  refine hget hx hb hts hown hE fl_X0_25 hP 5 rfl rfl dX0_copyFrom_62 ?_
  refine hput hx hb hts hown hE fl_X0_25 ft_X0_4 hP hD hS 0 rfl rfl rfl rfl (Nat.le_of_ble_eq_true rfl) (wn := [(bk, .inr (0, [.ref bS, .ref bL, .ref bR, .ref bP, .int oc])), (bS, .inl (gJ G, 8, .inr (.inl a12_1))), (bL, .inl (gI G, 8, .inl a27_2)), (bR, .inl (gI G, 8, .inl a42_3)), (bP, .inl (gI G, 96, .inl a57_4)), (ok, .inr (0, [.ref oS, .ref oL, .ref oR, .ref oP, .int oc])), (oS, .inl (gJ G, 8, .inr (.inl os))), (oL, .inl (gI G, 8, .inl ol)), (oR, .inl (gI G, 8, .inl or)), (oP, .inl (gI G, 96, .inl op))]) rfl dX0_copyFrom_65 (fun H locs hP hD hS => ?_)
  subst hF
  exact hm_vret hx hb hr hlk hP hD hS hpost dX0_copyFrom_68
def f_X9_say (psz : Int32) (psg : (Nat → Int32)) (sg : Int32) : Option (Int32 × Int32 × (Nat → Int32)) :=
  if sg < 33 then some ((-2), psz, psg) else if sg ≤ 126 then Option.bind (f_X3_add psz psg sg) (fun r20_3 => if r20_3.1 = 0 then some ((-4), r20_3.2.1, r20_3.2.2) else some (r20_3.2.1, r20_3.2.1, r20_3.2.2)) else some ((-2), psz, psg)
abbrev rm_X9_say : Room := { frames := 1, cells := 0, slots := 0, locals := 21 }
set_option maxHeartbeats 4000000 in
set_option maxRecDepth 100000 in
theorem k_X9_say (G : gT) (l : Launch) (ag : Nat) (pd : Nat) (ru : Nat) (bk : Nat) (ju : Nat) (pr : Nat) (im : Nat) (jm : Nat) (rw : Nat) (pS : Nat) (sv : Value) (gst : Int64) (psz : Int32) (psg : (Nat → Int32)) (sg : Int32) (r : Int32 × Int32 × (Nat → Int32)) (hF : f_X9_say psz psg sg = some r) : HM G l yX9_say (.code yX9_say cX9_say 2 (some .int) :: UW) rm_X9_say 0 0 [.ref ag, .int sg] [(ag, .inr (7, [.ref pd, .ref ru, .ref bk, .ref ju, .ref pr, .ref im, .ref jm, .ref rw, sv, .long gst])), (pd, .inr (3, [.ref pS, .int psz])), (pS, .inl (gB G, 48, .inl psg))] (some (.int r.1)) [(ag, .inr (7, [.ref pd, .ref ru, .ref bk, .ref ju, .ref pr, .ref im, .ref jm, .ref rw, sv, .long gst])), (pd, .inr (3, [.ref pS, .int r.2.1])), (pS, .inl (gB G, 48, .inl r.2.2))] := by
  refine HM.ofW (by decide) (Nat.le_of_ble_eq_true rfl) ?_
  intro p e s m args below meth c A post hpost hC hP hD hS ls hl
  obtain ⟨hx, hb, hr, hml, hown, hts, hlk, hE, hA⟩ := hC
  have hl : lv_has ls 2 [(0, .ref ag), (1, .int sg)] := hl
  unfold f_X9_say at hF
  refine lv_iload_n hx hb dX9_say_0 rfl (lv_at hl 1 rfl) ?_
  refine lv_bipush (v := 33) hx hb dX9_say_1 (by decide) ?_
  refine lv_icmp_lt (tgt := 12) hx hb dX9_say_3 (by decide) (fun c_1 => ?_) (fun c_1 => ?_)
  · have hF := ifp hF c_1
    refine lv_bipush (v := (-2)) hx hb dX9_say_12 (by decide) ?_
    have hF := Option.some.inj hF
    subst hF
    exact hm_iret hx hb hr hlk hP hD hS hpost dX9_say_14
  · have hF := ifn hF c_1
    refine lv_iload_n hx hb dX9_say_6 rfl (lv_at hl 1 rfl) ?_
    refine lv_bipush (v := 126) hx hb dX9_say_7 (by decide) ?_
    refine lv_icmp_le (tgt := 15) hx hb dX9_say_9 (by decide) (fun c_2 => ?_) (fun c_2 => ?_)
    · have hF := ifp hF c_2
      refine lv_aload_n hx hb dX9_say_15 rfl (lv_at hl 0 rfl) ?_
      refine hget hx hb hts hown hE fl_X9_12 hP 0 rfl rfl dX9_say_16 ?_
      refine lv_iload_n hx hb dX9_say_19 rfl (lv_at hl 1 rfl) ?_
      obtain ⟨r20_3, hr20_3, hF⟩ := bnd hF
      refine hm_V (wn := [(ag, .inr (7, [.ref pd, .ref ru, .ref bk, .ref ju, .ref pr, .ref im, .ref jm, .ref rw, sv, .long gst])), (pd, .inr (3, [.ref pS, .int r20_3.2.1])), (pS, .inl (gB G, 48, .inl r20_3.2.2))]) (wr := [(ag, .inr (7, [.ref pd, .ref ru, .ref bk, .ref ju, .ref pr, .ref im, .ref jm, .ref rw, sv, .long gst]))]) (rest := []) (sn := [.int r20_3.1]) hx hb hml hown hts hE hA (k_X3_add G l pd pS psz psg sg r20_3 hr20_3) sm_X3_add mw_244 ⟨rfl, rfl, Nat.le_of_ble_eq_true rfl, Nat.le_of_ble_eq_true rfl⟩ hP hD hS 1 rfl rfl [1, 2] [0] [0, 1, 2] rfl rfl rfl (by decide) hl.1 rfl rfl (Nat.le_of_ble_eq_true rfl) dX9_say_20 ⟨Nat.le_of_ble_eq_true rfl, Nat.le_of_ble_eq_true rfl⟩ (fun H locs hP hD hS => ?_)
      refine lv_if_eq (tgt := 36) hx hb dX9_say_23 (by decide) (fun c_4 => ?_) (fun c_4 => ?_)
      · have hF := ifp hF c_4
        refine lv_bipush (v := (-4)) hx hb dX9_say_36 (by decide) ?_
        have hF := Option.some.inj hF
        subst hF
        exact hm_iret hx hb hr hlk hP hD hS hpost dX9_say_38
      · have hF := ifn hF c_4
        refine lv_aload_n hx hb dX9_say_26 rfl (lv_at hl 0 rfl) ?_
        refine hget hx hb hts hown hE fl_X9_12 hP 0 rfl rfl dX9_say_27 ?_
        refine hgetN hx hb hts hown hE fl_X9_78 hP 1 rfl rfl dX9_say_30 ?_
        refine lv_goto (tgt := 38) hx hb dX9_say_33 (by decide) ?_
        have hF := Option.some.inj hF
        subst hF
        exact hm_iret hx hb hr hlk hP hD hS hpost dX9_say_38
    · have hF := ifn hF c_2
      refine lv_bipush (v := (-2)) hx hb dX9_say_12 (by decide) ?_
      have hF := Option.some.inj hF
      subst hF
      exact hm_iret hx hb hr hlk hP hD hS hpost dX9_say_14
def f_X9_wipe (psz : Int32) : Int32 × Int32 :=
  jlet (f_X3_clear) (fun r12_1 => (psz, r12_1))
abbrev rm_X9_wipe : Room := { frames := 1, cells := 0, slots := 0, locals := 20 }
set_option maxHeartbeats 4000000 in
set_option maxRecDepth 100000 in
theorem k_X9_wipe (G : gT) (l : Launch) (ag : Nat) (pd : Nat) (ru : Nat) (bk : Nat) (ju : Nat) (pr : Nat) (im : Nat) (jm : Nat) (rw : Nat) (pS : Nat) (sv : Value) (gst : Int64) (psz : Int32) (r : Int32 × Int32) (hF : f_X9_wipe psz = r) : HM G l yX9_wipe (.code yX9_wipe cX9_wipe 2 (some .int) :: UW) rm_X9_wipe 0 0 [.ref ag] [(ag, .inr (7, [.ref pd, .ref ru, .ref bk, .ref ju, .ref pr, .ref im, .ref jm, .ref rw, sv, .long gst])), (pd, .inr (3, [.ref pS, .int psz]))] (some (.int r.1)) [(ag, .inr (7, [.ref pd, .ref ru, .ref bk, .ref ju, .ref pr, .ref im, .ref jm, .ref rw, sv, .long gst])), (pd, .inr (3, [.ref pS, .int r.2]))] := by
  refine HM.ofW (by decide) (Nat.le_of_ble_eq_true rfl) ?_
  intro p e s m args below meth c A post hpost hC hP hD hS ls hl
  obtain ⟨hx, hb, hr, hml, hown, hts, hlk, hE, hA⟩ := hC
  have hl : lv_has ls 2 [(0, .ref ag)] := hl
  unfold f_X9_wipe at hF
  refine lv_aload_n hx hb dX9_wipe_0 rfl (lv_at hl 0 rfl) ?_
  refine hget hx hb hts hown hE fl_X9_12 hP 0 rfl rfl dX9_wipe_1 ?_
  refine hgetN hx hb hts hown hE fl_X9_78 hP 1 rfl rfl dX9_wipe_4 ?_
  refine lv_istore_n (lv' := [(1, .int psz), (0, .ref ag)]) hx hb dX9_wipe_7 rfl hl (by decide) rfl (fun ls hl => ?_)
  refine lv_aload_n hx hb dX9_wipe_8 rfl (lv_at hl 1 rfl) ?_
  refine hget hx hb hts hown hE fl_X9_12 hP 0 rfl rfl dX9_wipe_9 ?_
  obtain ⟨r12_1, hr12_1⟩ : ∃ z, z = f_X3_clear := ⟨_, rfl⟩
  have hF := jl hF hr12_1
  refine hm_V (wn := [(ag, .inr (7, [.ref pd, .ref ru, .ref bk, .ref ju, .ref pr, .ref im, .ref jm, .ref rw, sv, .long gst])), (pd, .inr (3, [.ref pS, .int r12_1]))]) (wr := [(ag, .inr (7, [.ref pd, .ref ru, .ref bk, .ref ju, .ref pr, .ref im, .ref jm, .ref rw, sv, .long gst]))]) (rest := []) (sn := []) hx hb hml hown hts hE hA (k_X3_clear G l pd pS psz r12_1 hr12_1.symm) sm_X3_clear mw_252 ⟨rfl, rfl, Nat.le_of_ble_eq_true rfl, Nat.le_of_ble_eq_true rfl⟩ hP hD hS 1 rfl rfl [1] [0] [0, 1] rfl rfl rfl (by decide) hl.1 rfl rfl (Nat.le_of_ble_eq_true rfl) dX9_wipe_12 ⟨Nat.le_of_ble_eq_true rfl, Nat.le_of_ble_eq_true rfl⟩ (fun H locs hP hD hS => ?_)
  refine lv_iload_n hx hb dX9_wipe_15 rfl (lv_at hl 0 rfl) ?_
  subst hF
  exact hm_iret hx hb hr hlk hP hD hS hpost dX9_wipe_16
def f_X9_fault_B12 (psz : Int32) (psg : (Nat → Int32)) (hw : Int32) : Option Int32 :=
  if hw = 0 then Option.bind (f_X3_boardFault psz psg) (fun r20_3 => some r20_3) else Option.bind (f_X3_gameFault psz psg) (fun r30_2 => some r30_2)
def f_X9_fault (psz : Int32) (psg : (Nat → Int32)) (hw : Int32) : Option Int32 :=
  if hw = 0 then f_X9_fault_B12 psz psg hw else if hw = 1 then f_X9_fault_B12 psz psg hw else some (-2)
abbrev rm_X9_fault : Room := { frames := 4, cells := 0, slots := 0, locals := 91 }
set_option maxHeartbeats 4000000 in
set_option maxRecDepth 100000 in
theorem k_X9_fault (G : gT) (l : Launch) (ag : Nat) (pd : Nat) (ru : Nat) (bk : Nat) (ju : Nat) (pr : Nat) (im : Nat) (jm : Nat) (rw : Nat) (pS : Nat) (sv : Value) (gst : Int64) (psz : Int32) (psg : (Nat → Int32)) (hw : Int32) (r : Int32) (hF : f_X9_fault psz psg hw = some r) : HM G l yX9_fault (.code yX9_fault cX9_fault 2 (some .int) :: UW) rm_X9_fault 0 0 [.ref ag, .int hw] [(ag, .inr (7, [.ref pd, .ref ru, .ref bk, .ref ju, .ref pr, .ref im, .ref jm, .ref rw, sv, .long gst])), (pd, .inr (3, [.ref pS, .int psz])), (pS, .inl (gB G, 48, .inl psg))] (some (.int r)) [(ag, .inr (7, [.ref pd, .ref ru, .ref bk, .ref ju, .ref pr, .ref im, .ref jm, .ref rw, sv, .long gst])), (pd, .inr (3, [.ref pS, .int psz])), (pS, .inl (gB G, 48, .inl psg))] := by
  refine HM.ofW (by decide) (Nat.le_of_ble_eq_true rfl) ?_
  intro p e s m args below meth c A post hpost hC hP hD hS ls hl
  obtain ⟨hx, hb, hr, hml, hown, hts, hlk, hE, hA⟩ := hC
  have hl : lv_has ls 2 [(0, .ref ag), (1, .int hw)] := hl
  unfold f_X9_fault at hF
  refine lv_iload_n hx hb dX9_fault_0 rfl (lv_at hl 1 rfl) ?_
  have hB12 : ∀ (H : Heap) (locs : List Loc) (ls : Array Slot), f_X9_fault_B12 psz psg hw = some r → va_P (gD G) vwCl [(ag, .inr (7, [.ref pd, .ref ru, .ref bk, .ref ju, .ref pr, .ref im, .ref jm, .ref rw, sv, .long gst])), (pd, .inr (3, [.ref pS, .int psz])), (pS, .inl (gB G, 48, .inl psg))] H → va_D A [(ag, .inr (7, [.ref pd, .ref ru, .ref bk, .ref ju, .ref pr, .ref im, .ref jm, .ref rw, sv, .long gst])), (pd, .inr (3, [.ref pS, .int psz])), (pS, .inl (gB G, 48, .inl psg))] → va_S A s.heap H locs → lv_has ls 2 [(0, .ref ag), (1, .int hw)] → W p l e rm_X9_fault s m args below meth c H locs 0 0 (MQ below (HXq G post A) args s 0 0 A) (F0 m 12 ls []) := by
    intro H locs ls hF hP hD hS hl
    unfold f_X9_fault_B12 at hF
    refine lv_iload_n hx hb dX9_fault_12 rfl (lv_at hl 1 rfl) ?_
    refine lv_if_ne (tgt := 26) hx hb dX9_fault_13 (by decide) (fun c_1 => ?_) (fun c_1 => ?_)
    · have hF := ifn hF c_1
      refine lv_aload_n hx hb dX9_fault_26 rfl (lv_at hl 0 rfl) ?_
      refine hget hx hb hts hown hE fl_X9_12 hP 0 rfl rfl dX9_fault_27 ?_
      obtain ⟨r30_2, hr30_2, hF⟩ := bnd hF
      refine hm_V (wn := [(ag, .inr (7, [.ref pd, .ref ru, .ref bk, .ref ju, .ref pr, .ref im, .ref jm, .ref rw, sv, .long gst])), (pd, .inr (3, [.ref pS, .int psz])), (pS, .inl (gB G, 48, .inl psg))]) (wr := [(ag, .inr (7, [.ref pd, .ref ru, .ref bk, .ref ju, .ref pr, .ref im, .ref jm, .ref rw, sv, .long gst]))]) (rest := []) (sn := [.int r30_2]) hx hb hml hown hts hE hA (k_X3_gameFault G l pd pS psz psg r30_2 hr30_2) sm_X3_gameFault mw_282 ⟨rfl, rfl, Nat.le_of_ble_eq_true rfl, Nat.le_of_ble_eq_true rfl⟩ hP hD hS 1 rfl rfl [1, 2] [0] [0, 1, 2] rfl rfl rfl (by decide) hl.1 rfl rfl (Nat.le_of_ble_eq_true rfl) dX9_fault_30 ⟨Nat.le_of_ble_eq_true rfl, Nat.le_of_ble_eq_true rfl⟩ (fun H locs hP hD hS => ?_)
      have hF := Option.some.inj hF
      subst hF
      exact hm_iret hx hb hr hlk hP hD hS hpost dX9_fault_33
    · have hF := ifp hF c_1
      refine lv_aload_n hx hb dX9_fault_16 rfl (lv_at hl 0 rfl) ?_
      refine hget hx hb hts hown hE fl_X9_12 hP 0 rfl rfl dX9_fault_17 ?_
      obtain ⟨r20_3, hr20_3, hF⟩ := bnd hF
      refine hm_V (wn := [(ag, .inr (7, [.ref pd, .ref ru, .ref bk, .ref ju, .ref pr, .ref im, .ref jm, .ref rw, sv, .long gst])), (pd, .inr (3, [.ref pS, .int psz])), (pS, .inl (gB G, 48, .inl psg))]) (wr := [(ag, .inr (7, [.ref pd, .ref ru, .ref bk, .ref ju, .ref pr, .ref im, .ref jm, .ref rw, sv, .long gst]))]) (rest := []) (sn := [.int r20_3]) hx hb hml hown hts hE hA (k_X3_boardFault G l pd pS psz psg r20_3 hr20_3) sm_X3_boardFault mw_260 ⟨rfl, rfl, Nat.le_of_ble_eq_true rfl, Nat.le_of_ble_eq_true rfl⟩ hP hD hS 1 rfl rfl [1, 2] [0] [0, 1, 2] rfl rfl rfl (by decide) hl.1 rfl rfl (Nat.le_of_ble_eq_true rfl) dX9_fault_20 ⟨Nat.le_of_ble_eq_true rfl, Nat.le_of_ble_eq_true rfl⟩ (fun H locs hP hD hS => ?_)
      refine lv_goto (tgt := 33) hx hb dX9_fault_23 (by decide) ?_
      have hF := Option.some.inj hF
      subst hF
      exact hm_iret hx hb hr hlk hP hD hS hpost dX9_fault_33
  refine lv_if_eq (tgt := 12) hx hb dX9_fault_1 (by decide) (fun c_4 => ?_) (fun c_4 => ?_)
  · have hF := ifp hF c_4
    exact hB12 _ _ _ hF hP hD hS (lv_sub hl [0, 1] rfl)
  · have hF := ifn hF c_4
    refine lv_iload_n hx hb dX9_fault_4 rfl (lv_at hl 1 rfl) ?_
    refine lv_iconst (v := 1) hx hb dX9_fault_5 (by decide) ?_
    refine lv_icmp_eq (tgt := 12) hx hb dX9_fault_6 (by decide) (fun c_5 => ?_) (fun c_5 => ?_)
    · have hF := ifp hF c_5
      exact hB12 _ _ _ hF hP hD hS (lv_sub hl [0, 1] rfl)
    · have hF := ifn hF c_5
      refine lv_bipush (v := (-2)) hx hb dX9_fault_9 (by decide) ?_
      have hF := Option.some.inj hF
      subst hF
      exact hm_iret hx hb hr hlk hP hD hS hpost dX9_fault_11
def f_X9_lay (gst : Int64) (psz : Int32) (psg : (Nat → Int32)) : Option (Int32 × Int64 × Int32) :=
  Option.bind (f_X3_boardFault psz psg) (fun r4_1 => if r4_1 = (-6) then Option.bind (f_X3_boardTold psz psg) (fun r20_3 => jlet (f_X3_clear) (fun r30_4 => Option.bind (f_X8_countMen r20_3) (fun r37_5 => some (r37_5, r20_3, r30_4)))) else some ((-5), gst, psz))
abbrev rm_X9_lay : Room := { frames := 4, cells := 0, slots := 0, locals := 91 }
set_option maxHeartbeats 4000000 in
set_option maxRecDepth 100000 in
theorem k_X9_lay (G : gT) (l : Launch) (ag : Nat) (pd : Nat) (ru : Nat) (bk : Nat) (ju : Nat) (pr : Nat) (im : Nat) (jm : Nat) (rw : Nat) (pS : Nat) (sv : Value) (gst : Int64) (psz : Int32) (psg : (Nat → Int32)) (r : Int32 × Int64 × Int32) (hF : f_X9_lay gst psz psg = some r) : HM G l yX9_lay (.code yX9_lay cX9_lay 1 (some .int) :: UW) rm_X9_lay 0 0 [.ref ag] [(ag, .inr (7, [.ref pd, .ref ru, .ref bk, .ref ju, .ref pr, .ref im, .ref jm, .ref rw, sv, .long gst])), (pd, .inr (3, [.ref pS, .int psz])), (pS, .inl (gB G, 48, .inl psg))] (some (.int r.1)) [(ag, .inr (7, [.ref pd, .ref ru, .ref bk, .ref ju, .ref pr, .ref im, .ref jm, .ref rw, sv, .long r.2.1])), (pd, .inr (3, [.ref pS, .int r.2.2])), (pS, .inl (gB G, 48, .inl psg))] := by
  refine HM.ofW (by decide) (Nat.le_of_ble_eq_true rfl) ?_
  intro p e s m args below meth c A post hpost hC hP hD hS ls hl
  obtain ⟨hx, hb, hr, hml, hown, hts, hlk, hE, hA⟩ := hC
  have hl : lv_has ls 1 [(0, .ref ag)] := hl
  unfold f_X9_lay at hF
  refine lv_aload_n hx hb dX9_lay_0 rfl (lv_at hl 0 rfl) ?_
  refine hget hx hb hts hown hE fl_X9_12 hP 0 rfl rfl dX9_lay_1 ?_
  obtain ⟨r4_1, hr4_1, hF⟩ := bnd hF
  refine hm_V (wn := [(ag, .inr (7, [.ref pd, .ref ru, .ref bk, .ref ju, .ref pr, .ref im, .ref jm, .ref rw, sv, .long gst])), (pd, .inr (3, [.ref pS, .int psz])), (pS, .inl (gB G, 48, .inl psg))]) (wr := [(ag, .inr (7, [.ref pd, .ref ru, .ref bk, .ref ju, .ref pr, .ref im, .ref jm, .ref rw, sv, .long gst]))]) (rest := []) (sn := [.int r4_1]) hx hb hml hown hts hE hA (k_X3_boardFault G l pd pS psz psg r4_1 hr4_1) sm_X3_boardFault mw_260 ⟨rfl, rfl, Nat.le_of_ble_eq_true rfl, Nat.le_of_ble_eq_true rfl⟩ hP hD hS 1 rfl rfl [1, 2] [0] [0, 1, 2] rfl rfl rfl (by decide) hl.1 rfl rfl (Nat.le_of_ble_eq_true rfl) dX9_lay_4 ⟨Nat.le_of_ble_eq_true rfl, Nat.le_of_ble_eq_true rfl⟩ (fun H locs hP hD hS => ?_)
  refine lv_bipush (v := (-6)) hx hb dX9_lay_7 (by decide) ?_
  refine lv_icmp_eq (tgt := 15) hx hb dX9_lay_9 (by decide) (fun c_2 => ?_) (fun c_2 => ?_)
  · have hF := ifp hF c_2
    refine lv_aload_n hx hb dX9_lay_15 rfl (lv_at hl 0 rfl) ?_
    refine lv_aload_n hx hb dX9_lay_16 rfl (lv_at hl 0 rfl) ?_
    refine hget hx hb hts hown hE fl_X9_12 hP 0 rfl rfl dX9_lay_17 ?_
    obtain ⟨r20_3, hr20_3, hF⟩ := bnd hF
    refine hm_V (wn := [(ag, .inr (7, [.ref pd, .ref ru, .ref bk, .ref ju, .ref pr, .ref im, .ref jm, .ref rw, sv, .long gst])), (pd, .inr (3, [.ref pS, .int psz])), (pS, .inl (gB G, 48, .inl psg))]) (wr := [(ag, .inr (7, [.ref pd, .ref ru, .ref bk, .ref ju, .ref pr, .ref im, .ref jm, .ref rw, sv, .long gst]))]) (rest := [.ref ag]) (sn := [.long r20_3, .ref ag]) hx hb hml hown hts hE hA (k_X3_boardTold G l pd pS psz psg r20_3 hr20_3) sm_X3_boardTold mw_290 ⟨rfl, rfl, Nat.le_of_ble_eq_true rfl, Nat.le_of_ble_eq_true rfl⟩ hP hD hS 1 rfl rfl [1, 2] [0] [0, 1, 2] rfl rfl rfl (by decide) hl.1 rfl rfl (Nat.le_of_ble_eq_true rfl) dX9_lay_20 ⟨Nat.le_of_ble_eq_true rfl, Nat.le_of_ble_eq_true rfl⟩ (fun H locs hP hD hS => ?_)
    refine hput hx hb hts hown hE fl_X9_70 ft_X9_9 hP hD hS 0 rfl rfl rfl rfl (Nat.le_of_ble_eq_true rfl) (wn := [(ag, .inr (7, [.ref pd, .ref ru, .ref bk, .ref ju, .ref pr, .ref im, .ref jm, .ref rw, sv, .long r20_3])), (pd, .inr (3, [.ref pS, .int psz])), (pS, .inl (gB G, 48, .inl psg))]) rfl dX9_lay_23 (fun H locs hP hD hS => ?_)
    refine lv_aload_n hx hb dX9_lay_26 rfl (lv_at hl 0 rfl) ?_
    refine hget hx hb hts hown hE fl_X9_12 hP 0 rfl rfl dX9_lay_27 ?_
    obtain ⟨r30_4, hr30_4⟩ : ∃ z, z = f_X3_clear := ⟨_, rfl⟩
    have hF := jl hF hr30_4
    refine hm_V (wn := [(ag, .inr (7, [.ref pd, .ref ru, .ref bk, .ref ju, .ref pr, .ref im, .ref jm, .ref rw, sv, .long r20_3])), (pd, .inr (3, [.ref pS, .int r30_4])), (pS, .inl (gB G, 48, .inl psg))]) (wr := [(ag, .inr (7, [.ref pd, .ref ru, .ref bk, .ref ju, .ref pr, .ref im, .ref jm, .ref rw, sv, .long r20_3])), (pS, .inl (gB G, 48, .inl psg))]) (rest := []) (sn := []) hx hb hml hown hts hE hA (k_X3_clear G l pd pS psz r30_4 hr30_4.symm) sm_X3_clear mw_252 ⟨rfl, rfl, Nat.le_of_ble_eq_true rfl, Nat.le_of_ble_eq_true rfl⟩ hP hD hS 1 rfl rfl [1] [0, 2] [0, 2, 1] rfl rfl rfl (by decide) hl.1 rfl rfl (Nat.le_of_ble_eq_true rfl) dX9_lay_30 ⟨Nat.le_of_ble_eq_true rfl, Nat.le_of_ble_eq_true rfl⟩ (fun H locs hP hD hS => ?_)
    refine lv_aload_n hx hb dX9_lay_33 rfl (lv_at hl 0 rfl) ?_
    refine hget hx hb hts hown hE fl_X9_70 hP 0 rfl rfl dX9_lay_34 ?_
    obtain ⟨r37_5, hr37_5, hF⟩ := bnd hF
    refine hm_S (wn := [(ag, .inr (7, [.ref pd, .ref ru, .ref bk, .ref ju, .ref pr, .ref im, .ref jm, .ref rw, sv, .long r20_3])), (pd, .inr (3, [.ref pS, .int r30_4])), (pS, .inl (gB G, 48, .inl psg))]) (wr := [(ag, .inr (7, [.ref pd, .ref ru, .ref bk, .ref ju, .ref pr, .ref im, .ref jm, .ref rw, sv, .long r20_3])), (pd, .inr (3, [.ref pS, .int r30_4])), (pS, .inl (gB G, 48, .inl psg))]) (rest := []) (sn := [.int r37_5]) hx hb hml hown hts hE hA (k_X8_countMen G l r20_3 r37_5 hr37_5) sm_X8_countMen mw_300 ⟨rfl, rfl, Nat.le_of_ble_eq_true rfl, Nat.le_of_ble_eq_true rfl⟩ hP hD hS [] [0, 1, 2] [0, 1, 2] rfl rfl rfl (by decide) hl.1 rfl rfl (Nat.le_of_ble_eq_true rfl) dX9_lay_37 ⟨Nat.le_of_ble_eq_true rfl, Nat.le_of_ble_eq_true rfl⟩ (fun H locs hP hD hS => ?_)
    have hF := Option.some.inj hF
    subst hF
    exact hm_iret hx hb hr hlk hP hD hS hpost dX9_lay_40
  · have hF := ifn hF c_2
    refine lv_bipush (v := (-5)) hx hb dX9_lay_12 (by decide) ?_
    have hF := Option.some.inj hF
    subst hF
    exact hm_iret hx hb hr hlk hP hD hS hpost dX9_lay_14
def f_X9_law (rb : Int32) (rg : Int32) (ro : Int32) (nb : Int32) (ng : Int32) (no : Int32) : Int32 × Int32 × Int32 × Int32 :=
  if nb < 0 then ((-2), rb, rg, ro) else if ng < nb then ((-2), rb, rg, ro) else if no < ng then ((-2), rb, rg, ro) else if no ≤ 9 then jlet (f_X5_code rb rg ro) (fun v4_5 => jlet (f_X5_set nb ng no) (fun r39_6 => (v4_5, r39_6.1, r39_6.2.1, r39_6.2.2))) else ((-2), rb, rg, ro)
abbrev rm_X9_law : Room := { frames := 1, cells := 0, slots := 0, locals := 23 }
set_option maxHeartbeats 4000000 in
set_option maxRecDepth 100000 in
theorem k_X9_law (G : gT) (l : Launch) (ag : Nat) (pd : Nat) (ru : Nat) (bk : Nat) (ju : Nat) (pr : Nat) (im : Nat) (jm : Nat) (rw : Nat) (sv : Value) (gst : Int64) (rb : Int32) (rg : Int32) (ro : Int32) (nb : Int32) (ng : Int32) (no : Int32) (r : Int32 × Int32 × Int32 × Int32) (hF : f_X9_law rb rg ro nb ng no = r) : HM G l yX9_law (.code yX9_law cX9_law 5 (some .int) :: UW) rm_X9_law 0 0 [.ref ag, .int nb, .int ng, .int no] [(ag, .inr (7, [.ref pd, .ref ru, .ref bk, .ref ju, .ref pr, .ref im, .ref jm, .ref rw, sv, .long gst])), (ru, .inr (5, [.int rb, .int rg, .int ro]))] (some (.int r.1)) [(ag, .inr (7, [.ref pd, .ref ru, .ref bk, .ref ju, .ref pr, .ref im, .ref jm, .ref rw, sv, .long gst])), (ru, .inr (5, [.int r.2.1, .int r.2.2.1, .int r.2.2.2]))] := by
  refine HM.ofW (by decide) (Nat.le_of_ble_eq_true rfl) ?_
  intro p e s m args below meth c A post hpost hC hP hD hS ls hl
  obtain ⟨hx, hb, hr, hml, hown, hts, hlk, hE, hA⟩ := hC
  have hl : lv_has ls 5 [(0, .ref ag), (1, .int nb), (2, .int ng), (3, .int no)] := hl
  unfold f_X9_law at hF
  refine lv_iload_n hx hb dX9_law_0 rfl (lv_at hl 1 rfl) ?_
  refine lv_if_lt (tgt := 20) hx hb dX9_law_1 (by decide) (fun c_1 => ?_) (fun c_1 => ?_)
  · have hF := ifp hF c_1
    refine lv_bipush (v := (-2)) hx hb dX9_law_20 (by decide) ?_
    subst hF
    exact hm_iret hx hb hr hlk hP hD hS hpost dX9_law_22
  · have hF := ifn hF c_1
    refine lv_iload_n hx hb dX9_law_4 rfl (lv_at hl 2 rfl) ?_
    refine lv_iload_n hx hb dX9_law_5 rfl (lv_at hl 1 rfl) ?_
    refine lv_icmp_lt (tgt := 20) hx hb dX9_law_6 (by decide) (fun c_2 => ?_) (fun c_2 => ?_)
    · have hF := ifp hF c_2
      refine lv_bipush (v := (-2)) hx hb dX9_law_20 (by decide) ?_
      subst hF
      exact hm_iret hx hb hr hlk hP hD hS hpost dX9_law_22
    · have hF := ifn hF c_2
      refine lv_iload_n hx hb dX9_law_9 rfl (lv_at hl 3 rfl) ?_
      refine lv_iload_n hx hb dX9_law_10 rfl (lv_at hl 2 rfl) ?_
      refine lv_icmp_lt (tgt := 20) hx hb dX9_law_11 (by decide) (fun c_3 => ?_) (fun c_3 => ?_)
      · have hF := ifp hF c_3
        refine lv_bipush (v := (-2)) hx hb dX9_law_20 (by decide) ?_
        subst hF
        exact hm_iret hx hb hr hlk hP hD hS hpost dX9_law_22
      · have hF := ifn hF c_3
        refine lv_iload_n hx hb dX9_law_14 rfl (lv_at hl 3 rfl) ?_
        refine lv_bipush (v := 9) hx hb dX9_law_15 (by decide) ?_
        refine lv_icmp_le (tgt := 23) hx hb dX9_law_17 (by decide) (fun c_4 => ?_) (fun c_4 => ?_)
        · have hF := ifp hF c_4
          refine lv_aload_n hx hb dX9_law_23 rfl (lv_at hl 0 rfl) ?_
          refine hget hx hb hts hown hE fl_X9_19 hP 0 rfl rfl dX9_law_24 ?_
          refine hm_V (wn := [(ag, .inr (7, [.ref pd, .ref ru, .ref bk, .ref ju, .ref pr, .ref im, .ref jm, .ref rw, sv, .long gst])), (ru, .inr (5, [.int rb, .int rg, .int ro]))]) (wr := [(ag, .inr (7, [.ref pd, .ref ru, .ref bk, .ref ju, .ref pr, .ref im, .ref jm, .ref rw, sv, .long gst]))]) (rest := []) (sn := [.int (f_X5_code rb rg ro)]) hx hb hml hown hts hE hA (k_X5_code G l ru rb rg ro _ rfl) sm_X5_code mw_319 ⟨rfl, rfl, Nat.le_of_ble_eq_true rfl, Nat.le_of_ble_eq_true rfl⟩ hP hD hS 1 rfl rfl [1] [0] [0, 1] rfl rfl rfl (by decide) hl.1 rfl rfl (Nat.le_of_ble_eq_true rfl) dX9_law_27 ⟨Nat.le_of_ble_eq_true rfl, Nat.le_of_ble_eq_true rfl⟩ (fun H locs hP hD hS => ?_)
          refine lv_topi (fun v4_5 ev4_5 => ?_)
          have hF := jl hF ev4_5
          refine lv_istore (lv' := [(4, .int v4_5), (0, .ref ag), (1, .int nb), (2, .int ng), (3, .int no)]) hx hb dX9_law_30 hl (by decide) rfl (fun ls hl => ?_)
          refine lv_aload_n hx hb dX9_law_32 rfl (lv_at hl 1 rfl) ?_
          refine hget hx hb hts hown hE fl_X9_19 hP 0 rfl rfl dX9_law_33 ?_
          refine lv_iload_n hx hb dX9_law_36 rfl (lv_at hl 2 rfl) ?_
          refine lv_iload_n hx hb dX9_law_37 rfl (lv_at hl 3 rfl) ?_
          refine lv_iload_n hx hb dX9_law_38 rfl (lv_at hl 4 rfl) ?_
          obtain ⟨r39_6, hr39_6⟩ : ∃ z, z = f_X5_set nb ng no := ⟨_, rfl⟩
          have hF := jl hF hr39_6
          refine hm_V (wn := [(ag, .inr (7, [.ref pd, .ref ru, .ref bk, .ref ju, .ref pr, .ref im, .ref jm, .ref rw, sv, .long gst])), (ru, .inr (5, [.int r39_6.1, .int r39_6.2.1, .int r39_6.2.2]))]) (wr := [(ag, .inr (7, [.ref pd, .ref ru, .ref bk, .ref ju, .ref pr, .ref im, .ref jm, .ref rw, sv, .long gst]))]) (rest := []) (sn := []) hx hb hml hown hts hE hA (k_X5_set G l ru rb rg ro nb ng no r39_6 hr39_6.symm) sm_X5_set mw_323 ⟨rfl, rfl, Nat.le_of_ble_eq_true rfl, Nat.le_of_ble_eq_true rfl⟩ hP hD hS 1 rfl rfl [1] [0] [0, 1] rfl rfl rfl (by decide) hl.1 rfl rfl (Nat.le_of_ble_eq_true rfl) dX9_law_39 ⟨Nat.le_of_ble_eq_true rfl, Nat.le_of_ble_eq_true rfl⟩ (fun H locs hP hD hS => ?_)
          refine lv_iload hx hb dX9_law_42 (lv_at hl 0 rfl) ?_
          subst hF
          exact hm_iret hx hb hr hlk hP hD hS hpost dX9_law_44
        · have hF := ifn hF c_4
          refine lv_bipush (v := (-2)) hx hb dX9_law_20 (by decide) ?_
          subst hF
          exact hm_iret hx hb hr hlk hP hD hS hpost dX9_law_22
def f_X9_cellOrNone (gst : Int64) (mn : Int32) : Int32 :=
  if (f_X8_isUp gst mn) = 0 then (-6) else (f_X8_cellOf gst mn)
abbrev rm_X9_cellOrNone : Room := { frames := 2, cells := 0, slots := 0, locals := 44 }
set_option maxHeartbeats 4000000 in
set_option maxRecDepth 100000 in
theorem k_X9_cellOrNone (G : gT) (l : Launch) (ag : Nat) (pd : Nat) (ru : Nat) (bk : Nat) (ju : Nat) (pr : Nat) (im : Nat) (jm : Nat) (rw : Nat) (sv : Value) (gst : Int64) (mn : Int32) (r : Int32) (hF : f_X9_cellOrNone gst mn = r) : HM G l yX9_cellOrNone (.code yX9_cellOrNone cX9_cellOrNone 2 (some .int) :: UW) rm_X9_cellOrNone 0 0 [.ref ag, .int mn] [(ag, .inr (7, [.ref pd, .ref ru, .ref bk, .ref ju, .ref pr, .ref im, .ref jm, .ref rw, sv, .long gst]))] (some (.int r)) [(ag, .inr (7, [.ref pd, .ref ru, .ref bk, .ref ju, .ref pr, .ref im, .ref jm, .ref rw, sv, .long gst]))] := by
  refine HM.ofW (by decide) (Nat.le_of_ble_eq_true rfl) ?_
  intro p e s m args below meth c A post hpost hC hP hD hS ls hl
  obtain ⟨hx, hb, hr, hml, hown, hts, hlk, hE, hA⟩ := hC
  have hl : lv_has ls 2 [(0, .ref ag), (1, .int mn)] := hl
  unfold f_X9_cellOrNone at hF
  refine lv_aload_n hx hb dX9_cellOrNone_0 rfl (lv_at hl 0 rfl) ?_
  refine hget hx hb hts hown hE fl_X9_70 hP 0 rfl rfl dX9_cellOrNone_1 ?_
  refine lv_iload_n hx hb dX9_cellOrNone_4 rfl (lv_at hl 1 rfl) ?_
  refine hm_S (wn := [(ag, .inr (7, [.ref pd, .ref ru, .ref bk, .ref ju, .ref pr, .ref im, .ref jm, .ref rw, sv, .long gst]))]) (wr := [(ag, .inr (7, [.ref pd, .ref ru, .ref bk, .ref ju, .ref pr, .ref im, .ref jm, .ref rw, sv, .long gst]))]) (rest := []) (sn := [.int (f_X8_isUp gst mn)]) hx hb hml hown hts hE hA (k_X8_isUp G l gst mn _ rfl) sm_X8_isUp mw_335 ⟨rfl, rfl, Nat.le_of_ble_eq_true rfl, Nat.le_of_ble_eq_true rfl⟩ hP hD hS [] [0] [0] rfl rfl rfl (by decide) hl.1 rfl rfl (Nat.le_of_ble_eq_true rfl) dX9_cellOrNone_5 ⟨Nat.le_of_ble_eq_true rfl, Nat.le_of_ble_eq_true rfl⟩ (fun H locs hP hD hS => ?_)
  refine lv_if_eq (tgt := 22) hx hb dX9_cellOrNone_8 (by decide) (fun c_1 => ?_) (fun c_1 => ?_)
  · have hF := ifp hF c_1
    refine lv_bipush (v := (-6)) hx hb dX9_cellOrNone_22 (by decide) ?_
    subst hF
    exact hm_iret hx hb hr hlk hP hD hS hpost dX9_cellOrNone_24
  · have hF := ifn hF c_1
    refine lv_aload_n hx hb dX9_cellOrNone_11 rfl (lv_at hl 0 rfl) ?_
    refine hget hx hb hts hown hE fl_X9_70 hP 0 rfl rfl dX9_cellOrNone_12 ?_
    refine lv_iload_n hx hb dX9_cellOrNone_15 rfl (lv_at hl 1 rfl) ?_
    refine hm_S (wn := [(ag, .inr (7, [.ref pd, .ref ru, .ref bk, .ref ju, .ref pr, .ref im, .ref jm, .ref rw, sv, .long gst]))]) (wr := [(ag, .inr (7, [.ref pd, .ref ru, .ref bk, .ref ju, .ref pr, .ref im, .ref jm, .ref rw, sv, .long gst]))]) (rest := []) (sn := [.int (f_X8_cellOf gst mn)]) hx hb hml hown hts hE hA (k_X8_cellOf G l gst mn _ rfl) sm_X8_cellOf mw_338 ⟨rfl, rfl, Nat.le_of_ble_eq_true rfl, Nat.le_of_ble_eq_true rfl⟩ hP hD hS [] [0] [0] rfl rfl rfl (by decide) hl.1 rfl rfl (Nat.le_of_ble_eq_true rfl) dX9_cellOrNone_16 ⟨Nat.le_of_ble_eq_true rfl, Nat.le_of_ble_eq_true rfl⟩ (fun H locs hP hD hS => ?_)
    refine lv_goto (tgt := 24) hx hb dX9_cellOrNone_19 (by decide) ?_
    subst hF
    exact hm_iret hx hb hr hlk hP hD hS hpost dX9_cellOrNone_24
def f_X9_man (gst : Int64) (rb : Int32) (rg : Int32) (ro : Int32) (mn : Int32) (wh : Int32) : Int32 :=
  if mn < 0 then (-1) else if mn < 6 then if wh = 0 then (f_X9_cellOrNone gst mn) else if wh = 1 then (f_X8_ageOf gst mn) else if wh = 2 then (f_X5_kindOf rb rg ro (f_X8_ageOf gst mn)) else (-2) else (-1)
abbrev rm_X9_man : Room := { frames := 3, cells := 0, slots := 0, locals := 65 }
set_option maxHeartbeats 4000000 in
set_option maxRecDepth 100000 in
theorem k_X9_man (G : gT) (l : Launch) (ag : Nat) (pd : Nat) (ru : Nat) (bk : Nat) (ju : Nat) (pr : Nat) (im : Nat) (jm : Nat) (rw : Nat) (sv : Value) (gst : Int64) (rb : Int32) (rg : Int32) (ro : Int32) (mn : Int32) (wh : Int32) (r : Int32) (hF : f_X9_man gst rb rg ro mn wh = r) : HM G l yX9_man (.code yX9_man cX9_man 3 (some .int) :: UW) rm_X9_man 0 0 [.ref ag, .int mn, .int wh] [(ag, .inr (7, [.ref pd, .ref ru, .ref bk, .ref ju, .ref pr, .ref im, .ref jm, .ref rw, sv, .long gst])), (ru, .inr (5, [.int rb, .int rg, .int ro]))] (some (.int r)) [(ag, .inr (7, [.ref pd, .ref ru, .ref bk, .ref ju, .ref pr, .ref im, .ref jm, .ref rw, sv, .long gst])), (ru, .inr (5, [.int rb, .int rg, .int ro]))] := by
  refine HM.ofW (by decide) (Nat.le_of_ble_eq_true rfl) ?_
  intro p e s m args below meth c A post hpost hC hP hD hS ls hl
  obtain ⟨hx, hb, hr, hml, hown, hts, hlk, hE, hA⟩ := hC
  have hl : lv_has ls 3 [(0, .ref ag), (1, .int mn), (2, .int wh)] := hl
  unfold f_X9_man at hF
  refine lv_iload_n hx hb dX9_man_0 rfl (lv_at hl 1 rfl) ?_
  refine lv_if_lt (tgt := 10) hx hb dX9_man_1 (by decide) (fun c_1 => ?_) (fun c_1 => ?_)
  · have hF := ifp hF c_1
    refine lv_iconst (v := (-1)) hx hb dX9_man_10 (by decide) ?_
    subst hF
    exact hm_iret hx hb hr hlk hP hD hS hpost dX9_man_11
  · have hF := ifn hF c_1
    refine lv_iload_n hx hb dX9_man_4 rfl (lv_at hl 1 rfl) ?_
    refine lv_bipush (v := 6) hx hb dX9_man_5 (by decide) ?_
    refine lv_icmp_lt (tgt := 12) hx hb dX9_man_7 (by decide) (fun c_2 => ?_) (fun c_2 => ?_)
    · have hF := ifp hF c_2
      refine lv_iload_n hx hb dX9_man_12 rfl (lv_at hl 2 rfl) ?_
      by_cases hk0 : wh = 0
      · have hF := ifp hF hk0
        refine lv_tableIn (off := 27) (tgt := 40) hx hb dX9_man_13 (by rw [hk0]; first | done | decide) (by rw [hk0]; first | done | decide) (by rw [hk0]; first | done | rfl) (by decide) ?_
        refine lv_aload_n hx hb dX9_man_40 rfl (lv_at hl 0 rfl) ?_
        refine lv_iload_n hx hb dX9_man_41 rfl (lv_at hl 1 rfl) ?_
        refine hm_V (wn := [(ag, .inr (7, [.ref pd, .ref ru, .ref bk, .ref ju, .ref pr, .ref im, .ref jm, .ref rw, sv, .long gst])), (ru, .inr (5, [.int rb, .int rg, .int ro]))]) (wr := [(ru, .inr (5, [.int rb, .int rg, .int ro]))]) (rest := []) (sn := [.int (f_X9_cellOrNone gst mn)]) hx hb hml hown hts hE hA (k_X9_cellOrNone G l ag pd ru bk ju pr im jm rw sv gst mn _ rfl) sm_X9_cellOrNone mw_331 ⟨rfl, rfl, Nat.le_of_ble_eq_true rfl, Nat.le_of_ble_eq_true rfl⟩ hP hD hS 0 rfl rfl [0] [1] [1, 0] rfl rfl rfl (by decide) hl.1 rfl rfl (Nat.le_of_ble_eq_true rfl) dX9_man_42 ⟨Nat.le_of_ble_eq_true rfl, Nat.le_of_ble_eq_true rfl⟩ (fun H locs hP hD hS => ?_)
        subst hF
        exact hm_iret hx hb hr hlk hP hD hS hpost dX9_man_45
      · have hF := ifn hF hk0
        by_cases hk1 : wh = 1
        · have hF := ifp hF hk1
          refine lv_tableIn (off := 33) (tgt := 46) hx hb dX9_man_13 (by rw [hk1]; first | done | decide) (by rw [hk1]; first | done | decide) (by rw [hk1]; first | done | rfl) (by decide) ?_
          refine lv_aload_n hx hb dX9_man_46 rfl (lv_at hl 0 rfl) ?_
          refine hget hx hb hts hown hE fl_X9_70 hP 0 rfl rfl dX9_man_47 ?_
          refine lv_iload_n hx hb dX9_man_50 rfl (lv_at hl 1 rfl) ?_
          refine hm_S (wn := [(ag, .inr (7, [.ref pd, .ref ru, .ref bk, .ref ju, .ref pr, .ref im, .ref jm, .ref rw, sv, .long gst])), (ru, .inr (5, [.int rb, .int rg, .int ro]))]) (wr := [(ag, .inr (7, [.ref pd, .ref ru, .ref bk, .ref ju, .ref pr, .ref im, .ref jm, .ref rw, sv, .long gst])), (ru, .inr (5, [.int rb, .int rg, .int ro]))]) (rest := []) (sn := [.int (f_X8_ageOf gst mn)]) hx hb hml hown hts hE hA (k_X8_ageOf G l gst mn _ rfl) sm_X8_ageOf mw_339 ⟨rfl, rfl, Nat.le_of_ble_eq_true rfl, Nat.le_of_ble_eq_true rfl⟩ hP hD hS [] [0, 1] [0, 1] rfl rfl rfl (by decide) hl.1 rfl rfl (Nat.le_of_ble_eq_true rfl) dX9_man_51 ⟨Nat.le_of_ble_eq_true rfl, Nat.le_of_ble_eq_true rfl⟩ (fun H locs hP hD hS => ?_)
          subst hF
          exact hm_iret hx hb hr hlk hP hD hS hpost dX9_man_54
        · have hF := ifn hF hk1
          by_cases hk2 : wh = 2
          · have hF := ifp hF hk2
            refine lv_tableIn (off := 42) (tgt := 55) hx hb dX9_man_13 (by rw [hk2]; first | done | decide) (by rw [hk2]; first | done | decide) (by rw [hk2]; first | done | rfl) (by decide) ?_
            refine lv_aload_n hx hb dX9_man_55 rfl (lv_at hl 0 rfl) ?_
            refine hget hx hb hts hown hE fl_X9_19 hP 0 rfl rfl dX9_man_56 ?_
            refine lv_aload_n hx hb dX9_man_59 rfl (lv_at hl 0 rfl) ?_
            refine hget hx hb hts hown hE fl_X9_70 hP 0 rfl rfl dX9_man_60 ?_
            refine lv_iload_n hx hb dX9_man_63 rfl (lv_at hl 1 rfl) ?_
            refine hm_S (wn := [(ag, .inr (7, [.ref pd, .ref ru, .ref bk, .ref ju, .ref pr, .ref im, .ref jm, .ref rw, sv, .long gst])), (ru, .inr (5, [.int rb, .int rg, .int ro]))]) (wr := [(ag, .inr (7, [.ref pd, .ref ru, .ref bk, .ref ju, .ref pr, .ref im, .ref jm, .ref rw, sv, .long gst])), (ru, .inr (5, [.int rb, .int rg, .int ro]))]) (rest := [.ref ru]) (sn := [.int (f_X8_ageOf gst mn), .ref ru]) hx hb hml hown hts hE hA (k_X8_ageOf G l gst mn _ rfl) sm_X8_ageOf mw_339 ⟨rfl, rfl, Nat.le_of_ble_eq_true rfl, Nat.le_of_ble_eq_true rfl⟩ hP hD hS [] [0, 1] [0, 1] rfl rfl rfl (by decide) hl.1 rfl rfl (Nat.le_of_ble_eq_true rfl) dX9_man_64 ⟨Nat.le_of_ble_eq_true rfl, Nat.le_of_ble_eq_true rfl⟩ (fun H locs hP hD hS => ?_)
            refine hm_V (wn := [(ag, .inr (7, [.ref pd, .ref ru, .ref bk, .ref ju, .ref pr, .ref im, .ref jm, .ref rw, sv, .long gst])), (ru, .inr (5, [.int rb, .int rg, .int ro]))]) (wr := [(ag, .inr (7, [.ref pd, .ref ru, .ref bk, .ref ju, .ref pr, .ref im, .ref jm, .ref rw, sv, .long gst]))]) (rest := []) (sn := [.int (f_X5_kindOf rb rg ro (f_X8_ageOf gst mn))]) hx hb hml hown hts hE hA (k_X5_kindOf G l ru rb rg ro (f_X8_ageOf gst mn) _ rfl) sm_X5_kindOf mw_342 ⟨rfl, rfl, Nat.le_of_ble_eq_true rfl, Nat.le_of_ble_eq_true rfl⟩ hP hD hS 1 rfl rfl [1] [0] [0, 1] rfl rfl rfl (by decide) hl.1 rfl rfl (Nat.le_of_ble_eq_true rfl) dX9_man_67 ⟨Nat.le_of_ble_eq_true rfl, Nat.le_of_ble_eq_true rfl⟩ (fun H locs hP hD hS => ?_)
            subst hF
            exact hm_iret hx hb hr hlk hP hD hS hpost dX9_man_70
          · have hF := ifn hF hk2
            have ehk0 : (wh).toInt ≠ 0 := fun h => hk0 (Int32.toInt_inj.mp h)
            have ehk1 : (wh).toInt ≠ 1 := fun h => hk1 (Int32.toInt_inj.mp h)
            have ehk2 : (wh).toInt ≠ 2 := fun h => hk2 (Int32.toInt_inj.mp h)
            refine lv_tableOut (tgt := 71) hx hb dX9_man_13 (by omega) (by decide) ?_
            refine lv_bipush (v := (-2)) hx hb dX9_man_71 (by decide) ?_
            subst hF
            exact hm_iret hx hb hr hlk hP hD hS hpost dX9_man_73
    · have hF := ifn hF c_2
      refine lv_iconst (v := (-1)) hx hb dX9_man_10 (by decide) ?_
      subst hF
      exact hm_iret hx hb hr hlk hP hD hS hpost dX9_man_11
def f_X9_on (gst : Int64) (cl : Int32) : Option Int32 :=
  if cl < 0 then some (-1) else if cl < 25 then Option.bind (f_X8_manOn gst cl) (fun r19_3 => some r19_3) else some (-1)
abbrev rm_X9_on : Room := { frames := 2, cells := 0, slots := 0, locals := 45 }
set_option maxHeartbeats 4000000 in
set_option maxRecDepth 100000 in
theorem k_X9_on (G : gT) (l : Launch) (ag : Nat) (pd : Nat) (ru : Nat) (bk : Nat) (ju : Nat) (pr : Nat) (im : Nat) (jm : Nat) (rw : Nat) (sv : Value) (gst : Int64) (cl : Int32) (r : Int32) (hF : f_X9_on gst cl = some r) : HM G l yX9_on (.code yX9_on cX9_on 2 (some .int) :: UW) rm_X9_on 0 0 [.ref ag, .int cl] [(ag, .inr (7, [.ref pd, .ref ru, .ref bk, .ref ju, .ref pr, .ref im, .ref jm, .ref rw, sv, .long gst]))] (some (.int r)) [(ag, .inr (7, [.ref pd, .ref ru, .ref bk, .ref ju, .ref pr, .ref im, .ref jm, .ref rw, sv, .long gst]))] := by
  refine HM.ofW (by decide) (Nat.le_of_ble_eq_true rfl) ?_
  intro p e s m args below meth c A post hpost hC hP hD hS ls hl
  obtain ⟨hx, hb, hr, hml, hown, hts, hlk, hE, hA⟩ := hC
  have hl : lv_has ls 2 [(0, .ref ag), (1, .int cl)] := hl
  unfold f_X9_on at hF
  refine lv_iload_n hx hb dX9_on_0 rfl (lv_at hl 1 rfl) ?_
  refine lv_if_lt (tgt := 10) hx hb dX9_on_1 (by decide) (fun c_1 => ?_) (fun c_1 => ?_)
  · have hF := ifp hF c_1
    refine lv_iconst (v := (-1)) hx hb dX9_on_10 (by decide) ?_
    refine lv_goto (tgt := 22) hx hb dX9_on_11 (by decide) ?_
    have hF := Option.some.inj hF
    subst hF
    exact hm_iret hx hb hr hlk hP hD hS hpost dX9_on_22
  · have hF := ifn hF c_1
    refine lv_iload_n hx hb dX9_on_4 rfl (lv_at hl 1 rfl) ?_
    refine lv_bipush (v := 25) hx hb dX9_on_5 (by decide) ?_
    refine lv_icmp_lt (tgt := 14) hx hb dX9_on_7 (by decide) (fun c_2 => ?_) (fun c_2 => ?_)
    · have hF := ifp hF c_2
      refine lv_aload_n hx hb dX9_on_14 rfl (lv_at hl 0 rfl) ?_
      refine hget hx hb hts hown hE fl_X9_70 hP 0 rfl rfl dX9_on_15 ?_
      refine lv_iload_n hx hb dX9_on_18 rfl (lv_at hl 1 rfl) ?_
      obtain ⟨r19_3, hr19_3, hF⟩ := bnd hF
      refine hm_S (wn := [(ag, .inr (7, [.ref pd, .ref ru, .ref bk, .ref ju, .ref pr, .ref im, .ref jm, .ref rw, sv, .long gst]))]) (wr := [(ag, .inr (7, [.ref pd, .ref ru, .ref bk, .ref ju, .ref pr, .ref im, .ref jm, .ref rw, sv, .long gst]))]) (rest := []) (sn := [.int r19_3]) hx hb hml hown hts hE hA (k_X8_manOn G l gst cl r19_3 hr19_3) sm_X8_manOn mw_350 ⟨rfl, rfl, Nat.le_of_ble_eq_true rfl, Nat.le_of_ble_eq_true rfl⟩ hP hD hS [] [0] [0] rfl rfl rfl (by decide) hl.1 rfl rfl (Nat.le_of_ble_eq_true rfl) dX9_on_19 ⟨Nat.le_of_ble_eq_true rfl, Nat.le_of_ble_eq_true rfl⟩ (fun H locs hP hD hS => ?_)
      have hF := Option.some.inj hF
      subst hF
      exact hm_iret hx hb hr hlk hP hD hS hpost dX9_on_22
    · have hF := ifn hF c_2
      refine lv_iconst (v := (-1)) hx hb dX9_on_10 (by decide) ?_
      refine lv_goto (tgt := 22) hx hb dX9_on_11 (by decide) ?_
      have hF := Option.some.inj hF
      subst hF
      exact hm_iret hx hb hr hlk hP hD hS hpost dX9_on_22
def f_X9_state_B12 (gst : Int64) (rb : Int32) (rg : Int32) (ro : Int32) (wh : Int32) : Option Int32 :=
  if wh = 0 then some (f_X8_turnOf gst) else Option.bind (f_X5_ending rb rg ro gst) (fun r34_2 => some r34_2)
def f_X9_state (gst : Int64) (rb : Int32) (rg : Int32) (ro : Int32) (wh : Int32) : Option Int32 :=
  if wh = 0 then f_X9_state_B12 gst rb rg ro wh else if wh = 1 then f_X9_state_B12 gst rb rg ro wh else some (-2)
abbrev rm_X9_state : Room := { frames := 4, cells := 0, slots := 0, locals := 105 }
set_option maxHeartbeats 4000000 in
set_option maxRecDepth 100000 in
theorem k_X9_state (G : gT) (l : Launch) (ag : Nat) (pd : Nat) (ru : Nat) (bk : Nat) (ju : Nat) (pr : Nat) (im : Nat) (jm : Nat) (rw : Nat) (sv : Value) (gst : Int64) (rb : Int32) (rg : Int32) (ro : Int32) (wh : Int32) (r : Int32) (hF : f_X9_state gst rb rg ro wh = some r) : HM G l yX9_state (.code yX9_state cX9_state 2 (some .int) :: UW) rm_X9_state 0 0 [.ref ag, .int wh] [(ag, .inr (7, [.ref pd, .ref ru, .ref bk, .ref ju, .ref pr, .ref im, .ref jm, .ref rw, sv, .long gst])), (ru, .inr (5, [.int rb, .int rg, .int ro]))] (some (.int r)) [(ag, .inr (7, [.ref pd, .ref ru, .ref bk, .ref ju, .ref pr, .ref im, .ref jm, .ref rw, sv, .long gst])), (ru, .inr (5, [.int rb, .int rg, .int ro]))] := by
  refine HM.ofW (by decide) (Nat.le_of_ble_eq_true rfl) ?_
  intro p e s m args below meth c A post hpost hC hP hD hS ls hl
  obtain ⟨hx, hb, hr, hml, hown, hts, hlk, hE, hA⟩ := hC
  have hl : lv_has ls 2 [(0, .ref ag), (1, .int wh)] := hl
  unfold f_X9_state at hF
  refine lv_iload_n hx hb dX9_state_0 rfl (lv_at hl 1 rfl) ?_
  have hB12 : ∀ (H : Heap) (locs : List Loc) (ls : Array Slot), f_X9_state_B12 gst rb rg ro wh = some r → va_P (gD G) vwCl [(ag, .inr (7, [.ref pd, .ref ru, .ref bk, .ref ju, .ref pr, .ref im, .ref jm, .ref rw, sv, .long gst])), (ru, .inr (5, [.int rb, .int rg, .int ro]))] H → va_D A [(ag, .inr (7, [.ref pd, .ref ru, .ref bk, .ref ju, .ref pr, .ref im, .ref jm, .ref rw, sv, .long gst])), (ru, .inr (5, [.int rb, .int rg, .int ro]))] → va_S A s.heap H locs → lv_has ls 2 [(0, .ref ag), (1, .int wh)] → W p l e rm_X9_state s m args below meth c H locs 0 0 (MQ below (HXq G post A) args s 0 0 A) (F0 m 12 ls []) := by
    intro H locs ls hF hP hD hS hl
    unfold f_X9_state_B12 at hF
    refine lv_iload_n hx hb dX9_state_12 rfl (lv_at hl 1 rfl) ?_
    refine lv_if_ne (tgt := 26) hx hb dX9_state_13 (by decide) (fun c_1 => ?_) (fun c_1 => ?_)
    · have hF := ifn hF c_1
      refine lv_aload_n hx hb dX9_state_26 rfl (lv_at hl 0 rfl) ?_
      refine hget hx hb hts hown hE fl_X9_19 hP 0 rfl rfl dX9_state_27 ?_
      refine lv_aload_n hx hb dX9_state_30 rfl (lv_at hl 0 rfl) ?_
      refine hget hx hb hts hown hE fl_X9_70 hP 0 rfl rfl dX9_state_31 ?_
      obtain ⟨r34_2, hr34_2, hF⟩ := bnd hF
      refine hm_V (wn := [(ag, .inr (7, [.ref pd, .ref ru, .ref bk, .ref ju, .ref pr, .ref im, .ref jm, .ref rw, sv, .long gst])), (ru, .inr (5, [.int rb, .int rg, .int ro]))]) (wr := [(ag, .inr (7, [.ref pd, .ref ru, .ref bk, .ref ju, .ref pr, .ref im, .ref jm, .ref rw, sv, .long gst]))]) (rest := []) (sn := [.int r34_2]) hx hb hml hown hts hE hA (k_X5_ending G l ru rb rg ro gst r34_2 hr34_2) sm_X5_ending mw_360 ⟨rfl, rfl, Nat.le_of_ble_eq_true rfl, Nat.le_of_ble_eq_true rfl⟩ hP hD hS 1 rfl rfl [1] [0] [0, 1] rfl rfl rfl (by decide) hl.1 rfl rfl (Nat.le_of_ble_eq_true rfl) dX9_state_34 ⟨Nat.le_of_ble_eq_true rfl, Nat.le_of_ble_eq_true rfl⟩ (fun H locs hP hD hS => ?_)
      have hF := Option.some.inj hF
      subst hF
      exact hm_iret hx hb hr hlk hP hD hS hpost dX9_state_37
    · have hF := ifp hF c_1
      refine lv_aload_n hx hb dX9_state_16 rfl (lv_at hl 0 rfl) ?_
      refine hget hx hb hts hown hE fl_X9_70 hP 0 rfl rfl dX9_state_17 ?_
      refine hm_S (wn := [(ag, .inr (7, [.ref pd, .ref ru, .ref bk, .ref ju, .ref pr, .ref im, .ref jm, .ref rw, sv, .long gst])), (ru, .inr (5, [.int rb, .int rg, .int ro]))]) (wr := [(ag, .inr (7, [.ref pd, .ref ru, .ref bk, .ref ju, .ref pr, .ref im, .ref jm, .ref rw, sv, .long gst])), (ru, .inr (5, [.int rb, .int rg, .int ro]))]) (rest := []) (sn := [.int (f_X8_turnOf gst)]) hx hb hml hown hts hE hA (k_X8_turnOf G l gst _ rfl) sm_X8_turnOf mw_357 ⟨rfl, rfl, Nat.le_of_ble_eq_true rfl, Nat.le_of_ble_eq_true rfl⟩ hP hD hS [] [0, 1] [0, 1] rfl rfl rfl (by decide) hl.1 rfl rfl (Nat.le_of_ble_eq_true rfl) dX9_state_20 ⟨Nat.le_of_ble_eq_true rfl, Nat.le_of_ble_eq_true rfl⟩ (fun H locs hP hD hS => ?_)
      refine lv_goto (tgt := 37) hx hb dX9_state_23 (by decide) ?_
      have hF := Option.some.inj hF
      subst hF
      exact hm_iret hx hb hr hlk hP hD hS hpost dX9_state_37
  refine lv_if_eq (tgt := 12) hx hb dX9_state_1 (by decide) (fun c_3 => ?_) (fun c_3 => ?_)
  · have hF := ifp hF c_3
    exact hB12 _ _ _ hF hP hD hS (lv_sub hl [0, 1] rfl)
  · have hF := ifn hF c_3
    refine lv_iload_n hx hb dX9_state_4 rfl (lv_at hl 1 rfl) ?_
    refine lv_iconst (v := 1) hx hb dX9_state_5 (by decide) ?_
    refine lv_icmp_eq (tgt := 12) hx hb dX9_state_6 (by decide) (fun c_4 => ?_) (fun c_4 => ?_)
    · have hF := ifp hF c_4
      exact hB12 _ _ _ hF hP hD hS (lv_sub hl [0, 1] rfl)
    · have hF := ifn hF c_4
      refine lv_bipush (v := (-2)) hx hb dX9_state_9 (by decide) ?_
      have hF := Option.some.inj hF
      subst hF
      exact hm_iret hx hb hr hlk hP hD hS hpost dX9_state_11
def f_X9_gameIsGood (gst : Int64) (psz : Int32) (psg : (Nat → Int32)) (rb : Int32) (rg : Int32) (ro : Int32) (jb : Int32) (jr : Int32) (je : Int64) : Option (Int32 × Int32 × Int32 × Int64) :=
  Option.bind (f_X3_gameFault psz psg) (fun r4_1 => if r4_1 = (-6) then Option.bind (f_X2_passes jb jr rb rg ro psz psg gst) (fun r28_3 => if r28_3.1 = 0 then some (0, r28_3.2.1, r28_3.2.2.1, r28_3.2.2.2) else some (1, r28_3.2.1, r28_3.2.2.1, r28_3.2.2.2)) else some (0, jb, jr, je))
abbrev rm_X9_gameIsGood : Room := { frames := 6, cells := 0, slots := 0, locals := 160 }
set_option maxHeartbeats 4000000 in
set_option maxRecDepth 100000 in
theorem k_X9_gameIsGood (G : gT) (l : Launch) (ag : Nat) (pd : Nat) (ru : Nat) (bk : Nat) (ju : Nat) (pr : Nat) (im : Nat) (jm : Nat) (rw : Nat) (pS : Nat) (sv : Value) (gst : Int64) (psz : Int32) (psg : (Nat → Int32)) (rb : Int32) (rg : Int32) (ro : Int32) (jb : Int32) (jr : Int32) (je : Int64) (r : Int32 × Int32 × Int32 × Int64) (hF : f_X9_gameIsGood gst psz psg rb rg ro jb jr je = some r) : HM G l yX9_gameIsGood (.code yX9_gameIsGood cX9_gameIsGood 1 (some .boolean) :: UW) rm_X9_gameIsGood 0 0 [.ref ag] [(ag, .inr (7, [.ref pd, .ref ru, .ref bk, .ref ju, .ref pr, .ref im, .ref jm, .ref rw, sv, .long gst])), (pd, .inr (3, [.ref pS, .int psz])), (pS, .inl (gB G, 48, .inl psg)), (ru, .inr (5, [.int rb, .int rg, .int ro])), (ju, .inr (2, [.int jb, .int jr, .long je]))] (some (.int r.1)) [(ag, .inr (7, [.ref pd, .ref ru, .ref bk, .ref ju, .ref pr, .ref im, .ref jm, .ref rw, sv, .long gst])), (pd, .inr (3, [.ref pS, .int psz])), (pS, .inl (gB G, 48, .inl psg)), (ru, .inr (5, [.int rb, .int rg, .int ro])), (ju, .inr (2, [.int r.2.1, .int r.2.2.1, .long r.2.2.2]))] := by
  refine HM.ofW (by decide) (Nat.le_of_ble_eq_true rfl) ?_
  intro p e s m args below meth c A post hpost hC hP hD hS ls hl
  obtain ⟨hx, hb, hr, hml, hown, hts, hlk, hE, hA⟩ := hC
  have hl : lv_has ls 1 [(0, .ref ag)] := hl
  unfold f_X9_gameIsGood at hF
  refine lv_aload_n hx hb dX9_gameIsGood_0 rfl (lv_at hl 0 rfl) ?_
  refine hget hx hb hts hown hE fl_X9_12 hP 0 rfl rfl dX9_gameIsGood_1 ?_
  obtain ⟨r4_1, hr4_1, hF⟩ := bnd hF
  refine hm_V (wn := [(ag, .inr (7, [.ref pd, .ref ru, .ref bk, .ref ju, .ref pr, .ref im, .ref jm, .ref rw, sv, .long gst])), (pd, .inr (3, [.ref pS, .int psz])), (pS, .inl (gB G, 48, .inl psg)), (ru, .inr (5, [.int rb, .int rg, .int ro])), (ju, .inr (2, [.int jb, .int jr, .long je]))]) (wr := [(ag, .inr (7, [.ref pd, .ref ru, .ref bk, .ref ju, .ref pr, .ref im, .ref jm, .ref rw, sv, .long gst])), (ru, .inr (5, [.int rb, .int rg, .int ro])), (ju, .inr (2, [.int jb, .int jr, .long je]))]) (rest := []) (sn := [.int r4_1]) hx hb hml hown hts hE hA (k_X3_gameFault G l pd pS psz psg r4_1 hr4_1) sm_X3_gameFault mw_282 ⟨rfl, rfl, Nat.le_of_ble_eq_true rfl, Nat.le_of_ble_eq_true rfl⟩ hP hD hS 1 rfl rfl [1, 2] [0, 3, 4] [0, 3, 4, 1, 2] rfl rfl rfl (by decide) hl.1 rfl rfl (Nat.le_of_ble_eq_true rfl) dX9_gameIsGood_4 ⟨Nat.le_of_ble_eq_true rfl, Nat.le_of_ble_eq_true rfl⟩ (fun H locs hP hD hS => ?_)
  refine lv_bipush (v := (-6)) hx hb dX9_gameIsGood_7 (by decide) ?_
  refine lv_icmp_ne (tgt := 38) hx hb dX9_gameIsGood_9 (by decide) (fun c_2 => ?_) (fun c_2 => ?_)
  · have hF := ifn hF c_2
    refine lv_iconst (v := 0) hx hb dX9_gameIsGood_38 (by decide) ?_
    have hF := Option.some.inj hF
    subst hF
    exact hm_zret hx hb hr hlk hP hD hS (by decide +kernel) hpost dX9_gameIsGood_39
  · have hF := ifp hF c_2
    refine lv_aload_n hx hb dX9_gameIsGood_12 rfl (lv_at hl 0 rfl) ?_
    refine hget hx hb hts hown hE fl_X9_33 hP 0 rfl rfl dX9_gameIsGood_13 ?_
    refine lv_aload_n hx hb dX9_gameIsGood_16 rfl (lv_at hl 0 rfl) ?_
    refine hget hx hb hts hown hE fl_X9_19 hP 0 rfl rfl dX9_gameIsGood_17 ?_
    refine lv_aload_n hx hb dX9_gameIsGood_20 rfl (lv_at hl 0 rfl) ?_
    refine hget hx hb hts hown hE fl_X9_70 hP 0 rfl rfl dX9_gameIsGood_21 ?_
    refine lv_aload_n hx hb dX9_gameIsGood_24 rfl (lv_at hl 0 rfl) ?_
    refine hget hx hb hts hown hE fl_X9_12 hP 0 rfl rfl dX9_gameIsGood_25 ?_
    obtain ⟨r28_3, hr28_3, hF⟩ := bnd hF
    refine hm_V (wn := [(ag, .inr (7, [.ref pd, .ref ru, .ref bk, .ref ju, .ref pr, .ref im, .ref jm, .ref rw, sv, .long gst])), (pd, .inr (3, [.ref pS, .int psz])), (pS, .inl (gB G, 48, .inl psg)), (ru, .inr (5, [.int rb, .int rg, .int ro])), (ju, .inr (2, [.int r28_3.2.1, .int r28_3.2.2.1, .long r28_3.2.2.2]))]) (wr := [(ag, .inr (7, [.ref pd, .ref ru, .ref bk, .ref ju, .ref pr, .ref im, .ref jm, .ref rw, sv, .long gst]))]) (rest := []) (sn := [.int r28_3.1]) hx hb hml hown hts hE hA (k_X2_passes G l ju ru pd pS jb jr je rb rg ro psz psg gst r28_3 hr28_3) sm_X2_passes mw_392 ⟨rfl, rfl, Nat.le_of_ble_eq_true rfl, Nat.le_of_ble_eq_true rfl⟩ hP hD hS 4 rfl rfl [4, 3, 1, 2] [0] [0, 3, 4, 2, 1] rfl rfl rfl (by decide) hl.1 rfl rfl (Nat.le_of_ble_eq_true rfl) dX9_gameIsGood_28 ⟨Nat.le_of_ble_eq_true rfl, Nat.le_of_ble_eq_true rfl⟩ (fun H locs hP hD hS => ?_)
    refine lv_if_eq (tgt := 38) hx hb dX9_gameIsGood_31 (by decide) (fun c_4 => ?_) (fun c_4 => ?_)
    · have hF := ifp hF c_4
      refine lv_iconst (v := 0) hx hb dX9_gameIsGood_38 (by decide) ?_
      have hF := Option.some.inj hF
      subst hF
      exact hm_zret hx hb hr hlk hP hD hS (by decide +kernel) hpost dX9_gameIsGood_39
    · have hF := ifn hF c_4
      refine lv_iconst (v := 1) hx hb dX9_gameIsGood_34 (by decide) ?_
      refine lv_goto (tgt := 39) hx hb dX9_gameIsGood_35 (by decide) ?_
      have hF := Option.some.inj hF
      subst hF
      exact hm_zret hx hb hr hlk hP hD hS (by decide +kernel) hpost dX9_gameIsGood_39
def f_X9_judge_B12 (gst : Int64) (psz : Int32) (psg : (Nat → Int32)) (rb : Int32) (rg : Int32) (ro : Int32) (jb : Int32) (jr : Int32) (je : Int64) (wh : Int32) : Option (Int32 × Int32 × Int32 × Int64) :=
  Option.bind (f_X3_gameFault psz psg) (fun r16_1 => if r16_1 = (-6) then Option.bind (f_X2_passes jb jr rb rg ro psz psg gst) (fun r43_3 => if r43_3.1 = 0 then if wh = 0 then some (r43_3.2.1, r43_3.2.1, r43_3.2.2.1, r43_3.2.2.2) else some (r43_3.2.2.1, r43_3.2.1, r43_3.2.2.1, r43_3.2.2.2) else some ((-6), r43_3.2.1, r43_3.2.2.1, r43_3.2.2.2)) else some ((-5), jb, jr, je))
def f_X9_judge (gst : Int64) (psz : Int32) (psg : (Nat → Int32)) (rb : Int32) (rg : Int32) (ro : Int32) (jb : Int32) (jr : Int32) (je : Int64) (wh : Int32) : Option (Int32 × Int32 × Int32 × Int64) :=
  if wh = 0 then f_X9_judge_B12 gst psz psg rb rg ro jb jr je wh else if wh = 1 then f_X9_judge_B12 gst psz psg rb rg ro jb jr je wh else some ((-2), jb, jr, je)
abbrev rm_X9_judge : Room := { frames := 6, cells := 0, slots := 0, locals := 160 }
set_option maxHeartbeats 4000000 in
set_option maxRecDepth 100000 in
theorem k_X9_judge (G : gT) (l : Launch) (ag : Nat) (pd : Nat) (ru : Nat) (bk : Nat) (ju : Nat) (pr : Nat) (im : Nat) (jm : Nat) (rw : Nat) (pS : Nat) (sv : Value) (gst : Int64) (psz : Int32) (psg : (Nat → Int32)) (rb : Int32) (rg : Int32) (ro : Int32) (jb : Int32) (jr : Int32) (je : Int64) (wh : Int32) (r : Int32 × Int32 × Int32 × Int64) (hF : f_X9_judge gst psz psg rb rg ro jb jr je wh = some r) : HM G l yX9_judge (.code yX9_judge cX9_judge 2 (some .int) :: UW) rm_X9_judge 0 0 [.ref ag, .int wh] [(ag, .inr (7, [.ref pd, .ref ru, .ref bk, .ref ju, .ref pr, .ref im, .ref jm, .ref rw, sv, .long gst])), (pd, .inr (3, [.ref pS, .int psz])), (pS, .inl (gB G, 48, .inl psg)), (ru, .inr (5, [.int rb, .int rg, .int ro])), (ju, .inr (2, [.int jb, .int jr, .long je]))] (some (.int r.1)) [(ag, .inr (7, [.ref pd, .ref ru, .ref bk, .ref ju, .ref pr, .ref im, .ref jm, .ref rw, sv, .long gst])), (pd, .inr (3, [.ref pS, .int psz])), (pS, .inl (gB G, 48, .inl psg)), (ru, .inr (5, [.int rb, .int rg, .int ro])), (ju, .inr (2, [.int r.2.1, .int r.2.2.1, .long r.2.2.2]))] := by
  refine HM.ofW (by decide) (Nat.le_of_ble_eq_true rfl) ?_
  intro p e s m args below meth c A post hpost hC hP hD hS ls hl
  obtain ⟨hx, hb, hr, hml, hown, hts, hlk, hE, hA⟩ := hC
  have hl : lv_has ls 2 [(0, .ref ag), (1, .int wh)] := hl
  unfold f_X9_judge at hF
  refine lv_iload_n hx hb dX9_judge_0 rfl (lv_at hl 1 rfl) ?_
  have hB12 : ∀ (H : Heap) (locs : List Loc) (ls : Array Slot), f_X9_judge_B12 gst psz psg rb rg ro jb jr je wh = some r → va_P (gD G) vwCl [(ag, .inr (7, [.ref pd, .ref ru, .ref bk, .ref ju, .ref pr, .ref im, .ref jm, .ref rw, sv, .long gst])), (pd, .inr (3, [.ref pS, .int psz])), (pS, .inl (gB G, 48, .inl psg)), (ru, .inr (5, [.int rb, .int rg, .int ro])), (ju, .inr (2, [.int jb, .int jr, .long je]))] H → va_D A [(ag, .inr (7, [.ref pd, .ref ru, .ref bk, .ref ju, .ref pr, .ref im, .ref jm, .ref rw, sv, .long gst])), (pd, .inr (3, [.ref pS, .int psz])), (pS, .inl (gB G, 48, .inl psg)), (ru, .inr (5, [.int rb, .int rg, .int ro])), (ju, .inr (2, [.int jb, .int jr, .long je]))] → va_S A s.heap H locs → lv_has ls 2 [(0, .ref ag), (1, .int wh)] → W p l e rm_X9_judge s m args below meth c H locs 0 0 (MQ below (HXq G post A) args s 0 0 A) (F0 m 12 ls []) := by
    intro H locs ls hF hP hD hS hl
    unfold f_X9_judge_B12 at hF
    refine lv_aload_n hx hb dX9_judge_12 rfl (lv_at hl 0 rfl) ?_
    refine hget hx hb hts hown hE fl_X9_12 hP 0 rfl rfl dX9_judge_13 ?_
    obtain ⟨r16_1, hr16_1, hF⟩ := bnd hF
    refine hm_V (wn := [(ag, .inr (7, [.ref pd, .ref ru, .ref bk, .ref ju, .ref pr, .ref im, .ref jm, .ref rw, sv, .long gst])), (pd, .inr (3, [.ref pS, .int psz])), (pS, .inl (gB G, 48, .inl psg)), (ru, .inr (5, [.int rb, .int rg, .int ro])), (ju, .inr (2, [.int jb, .int jr, .long je]))]) (wr := [(ag, .inr (7, [.ref pd, .ref ru, .ref bk, .ref ju, .ref pr, .ref im, .ref jm, .ref rw, sv, .long gst])), (ru, .inr (5, [.int rb, .int rg, .int ro])), (ju, .inr (2, [.int jb, .int jr, .long je]))]) (rest := []) (sn := [.int r16_1]) hx hb hml hown hts hE hA (k_X3_gameFault G l pd pS psz psg r16_1 hr16_1) sm_X3_gameFault mw_282 ⟨rfl, rfl, Nat.le_of_ble_eq_true rfl, Nat.le_of_ble_eq_true rfl⟩ hP hD hS 1 rfl rfl [1, 2] [0, 3, 4] [0, 3, 4, 1, 2] rfl rfl rfl (by decide) hl.1 rfl rfl (Nat.le_of_ble_eq_true rfl) dX9_judge_16 ⟨Nat.le_of_ble_eq_true rfl, Nat.le_of_ble_eq_true rfl⟩ (fun H locs hP hD hS => ?_)
    refine lv_bipush (v := (-6)) hx hb dX9_judge_19 (by decide) ?_
    refine lv_icmp_eq (tgt := 27) hx hb dX9_judge_21 (by decide) (fun c_2 => ?_) (fun c_2 => ?_)
    · have hF := ifp hF c_2
      refine lv_aload_n hx hb dX9_judge_27 rfl (lv_at hl 0 rfl) ?_
      refine hget hx hb hts hown hE fl_X9_33 hP 0 rfl rfl dX9_judge_28 ?_
      refine lv_aload_n hx hb dX9_judge_31 rfl (lv_at hl 0 rfl) ?_
      refine hget hx hb hts hown hE fl_X9_19 hP 0 rfl rfl dX9_judge_32 ?_
      refine lv_aload_n hx hb dX9_judge_35 rfl (lv_at hl 0 rfl) ?_
      refine hget hx hb hts hown hE fl_X9_70 hP 0 rfl rfl dX9_judge_36 ?_
      refine lv_aload_n hx hb dX9_judge_39 rfl (lv_at hl 0 rfl) ?_
      refine hget hx hb hts hown hE fl_X9_12 hP 0 rfl rfl dX9_judge_40 ?_
      obtain ⟨r43_3, hr43_3, hF⟩ := bnd hF
      refine hm_V (wn := [(ag, .inr (7, [.ref pd, .ref ru, .ref bk, .ref ju, .ref pr, .ref im, .ref jm, .ref rw, sv, .long gst])), (pd, .inr (3, [.ref pS, .int psz])), (pS, .inl (gB G, 48, .inl psg)), (ru, .inr (5, [.int rb, .int rg, .int ro])), (ju, .inr (2, [.int r43_3.2.1, .int r43_3.2.2.1, .long r43_3.2.2.2]))]) (wr := [(ag, .inr (7, [.ref pd, .ref ru, .ref bk, .ref ju, .ref pr, .ref im, .ref jm, .ref rw, sv, .long gst]))]) (rest := []) (sn := [.int r43_3.1]) hx hb hml hown hts hE hA (k_X2_passes G l ju ru pd pS jb jr je rb rg ro psz psg gst r43_3 hr43_3) sm_X2_passes mw_392 ⟨rfl, rfl, Nat.le_of_ble_eq_true rfl, Nat.le_of_ble_eq_true rfl⟩ hP hD hS 4 rfl rfl [4, 3, 1, 2] [0] [0, 3, 4, 2, 1] rfl rfl rfl (by decide) hl.1 rfl rfl (Nat.le_of_ble_eq_true rfl) dX9_judge_43 ⟨Nat.le_of_ble_eq_true rfl, Nat.le_of_ble_eq_true rfl⟩ (fun H locs hP hD hS => ?_)
      refine lv_if_eq (tgt := 52) hx hb dX9_judge_46 (by decide) (fun c_4 => ?_) (fun c_4 => ?_)
      · have hF := ifp hF c_4
        refine lv_iload_n hx hb dX9_judge_52 rfl (lv_at hl 1 rfl) ?_
        refine lv_if_ne (tgt := 66) hx hb dX9_judge_53 (by decide) (fun c_5 => ?_) (fun c_5 => ?_)
        · have hF := ifn hF c_5
          refine lv_aload_n hx hb dX9_judge_66 rfl (lv_at hl 0 rfl) ?_
          refine hget hx hb hts hown hE fl_X9_33 hP 0 rfl rfl dX9_judge_67 ?_
          refine hgetN hx hb hts hown hE fl_X9_141 hP 4 rfl rfl dX9_judge_70 ?_
          have hF := Option.some.inj hF
          subst hF
          exact hm_iret hx hb hr hlk hP hD hS hpost dX9_judge_73
        · have hF := ifp hF c_5
          refine lv_aload_n hx hb dX9_judge_56 rfl (lv_at hl 0 rfl) ?_
          refine hget hx hb hts hown hE fl_X9_33 hP 0 rfl rfl dX9_judge_57 ?_
          refine hgetN hx hb hts hown hE fl_X9_138 hP 4 rfl rfl dX9_judge_60 ?_
          refine lv_goto (tgt := 73) hx hb dX9_judge_63 (by decide) ?_
          have hF := Option.some.inj hF
          subst hF
          exact hm_iret hx hb hr hlk hP hD hS hpost dX9_judge_73
      · have hF := ifn hF c_4
        refine lv_bipush (v := (-6)) hx hb dX9_judge_49 (by decide) ?_
        have hF := Option.some.inj hF
        subst hF
        exact hm_iret hx hb hr hlk hP hD hS hpost dX9_judge_51
    · have hF := ifn hF c_2
      refine lv_bipush (v := (-5)) hx hb dX9_judge_24 (by decide) ?_
      have hF := Option.some.inj hF
      subst hF
      exact hm_iret hx hb hr hlk hP hD hS hpost dX9_judge_26
  refine lv_if_eq (tgt := 12) hx hb dX9_judge_1 (by decide) (fun c_6 => ?_) (fun c_6 => ?_)
  · have hF := ifp hF c_6
    exact hB12 _ _ _ hF hP hD hS (lv_sub hl [0, 1] rfl)
  · have hF := ifn hF c_6
    refine lv_iload_n hx hb dX9_judge_4 rfl (lv_at hl 1 rfl) ?_
    refine lv_iconst (v := 1) hx hb dX9_judge_5 (by decide) ?_
    refine lv_icmp_eq (tgt := 12) hx hb dX9_judge_6 (by decide) (fun c_7 => ?_) (fun c_7 => ?_)
    · have hF := ifp hF c_7
      exact hB12 _ _ _ hF hP hD hS (lv_sub hl [0, 1] rfl)
    · have hF := ifn hF c_7
      refine lv_bipush (v := (-2)) hx hb dX9_judge_9 (by decide) ?_
      have hF := Option.some.inj hF
      subst hF
      exact hm_iret hx hb hr hlk hP hD hS hpost dX9_judge_11
def f_X9_play (gst : Int64) (psz : Int32) (psg : (Nat → Int32)) (rb : Int32) (rg : Int32) (ro : Int32) (jb : Int32) (jr : Int32) (je : Int64) : Option (Int32 × Int64 × Int32 × Int32 × Int32 × Int64) :=
  Option.bind (f_X9_gameIsGood gst psz psg rb rg ro jb jr je) (fun r1_1 => if r1_1.1 = 0 then some ((-5), gst, psz, r1_1.2.1, r1_1.2.2.1, r1_1.2.2.2) else jlet (f_X3_countMoves psz) (fun v1_3 => jlet r1_1.2.2.2 (fun u26_4 => jlet (f_X3_clear) (fun r33_5 => some (v1_3, u26_4, r33_5, r1_1.2.1, r1_1.2.2.1, r1_1.2.2.2)))))
abbrev rm_X9_play : Room := { frames := 7, cells := 0, slots := 0, locals := 180 }
set_option maxHeartbeats 4000000 in
set_option maxRecDepth 100000 in
theorem k_X9_play (G : gT) (l : Launch) (ag : Nat) (pd : Nat) (ru : Nat) (bk : Nat) (ju : Nat) (pr : Nat) (im : Nat) (jm : Nat) (rw : Nat) (pS : Nat) (sv : Value) (gst : Int64) (psz : Int32) (psg : (Nat → Int32)) (rb : Int32) (rg : Int32) (ro : Int32) (jb : Int32) (jr : Int32) (je : Int64) (r : Int32 × Int64 × Int32 × Int32 × Int32 × Int64) (hF : f_X9_play gst psz psg rb rg ro jb jr je = some r) : HM G l yX9_play (.code yX9_play cX9_play 2 (some .int) :: UW) rm_X9_play 0 0 [.ref ag] [(ag, .inr (7, [.ref pd, .ref ru, .ref bk, .ref ju, .ref pr, .ref im, .ref jm, .ref rw, sv, .long gst])), (pd, .inr (3, [.ref pS, .int psz])), (pS, .inl (gB G, 48, .inl psg)), (ru, .inr (5, [.int rb, .int rg, .int ro])), (ju, .inr (2, [.int jb, .int jr, .long je]))] (some (.int r.1)) [(ag, .inr (7, [.ref pd, .ref ru, .ref bk, .ref ju, .ref pr, .ref im, .ref jm, .ref rw, sv, .long r.2.1])), (pd, .inr (3, [.ref pS, .int r.2.2.1])), (pS, .inl (gB G, 48, .inl psg)), (ru, .inr (5, [.int rb, .int rg, .int ro])), (ju, .inr (2, [.int r.2.2.2.1, .int r.2.2.2.2.1, .long r.2.2.2.2.2]))] := by
  refine HM.ofW (by decide) (Nat.le_of_ble_eq_true rfl) ?_
  intro p e s m args below meth c A post hpost hC hP hD hS ls hl
  obtain ⟨hx, hb, hr, hml, hown, hts, hlk, hE, hA⟩ := hC
  have hl : lv_has ls 2 [(0, .ref ag)] := hl
  unfold f_X9_play at hF
  refine lv_aload_n hx hb dX9_play_0 rfl (lv_at hl 0 rfl) ?_
  obtain ⟨r1_1, hr1_1, hF⟩ := bnd hF
  refine hm_V (wn := [(ag, .inr (7, [.ref pd, .ref ru, .ref bk, .ref ju, .ref pr, .ref im, .ref jm, .ref rw, sv, .long gst])), (pd, .inr (3, [.ref pS, .int psz])), (pS, .inl (gB G, 48, .inl psg)), (ru, .inr (5, [.int rb, .int rg, .int ro])), (ju, .inr (2, [.int r1_1.2.1, .int r1_1.2.2.1, .long r1_1.2.2.2]))]) (wr := []) (rest := []) (sn := [.int r1_1.1]) hx hb hml hown hts hE hA (k_X9_gameIsGood G l ag pd ru bk ju pr im jm rw pS sv gst psz psg rb rg ro jb jr je r1_1 hr1_1) sm_X9_gameIsGood mw_428 ⟨rfl, rfl, Nat.le_of_ble_eq_true rfl, Nat.le_of_ble_eq_true rfl⟩ hP hD hS 0 rfl rfl [0, 1, 2, 3, 4] [] [0, 1, 2, 3, 4] rfl rfl rfl (by decide) hl.1 rfl rfl (Nat.le_of_ble_eq_true rfl) dX9_play_1 ⟨Nat.le_of_ble_eq_true rfl, Nat.le_of_ble_eq_true rfl⟩ (fun H locs hP hD hS => ?_)
  refine lv_if_ne (tgt := 10) hx hb dX9_play_4 (by decide) (fun c_2 => ?_) (fun c_2 => ?_)
  · have hF := ifn hF c_2
    refine lv_aload_n hx hb dX9_play_10 rfl (lv_at hl 0 rfl) ?_
    refine hget hx hb hts hown hE fl_X9_12 hP 0 rfl rfl dX9_play_11 ?_
    refine hm_V (wn := [(ag, .inr (7, [.ref pd, .ref ru, .ref bk, .ref ju, .ref pr, .ref im, .ref jm, .ref rw, sv, .long gst])), (pd, .inr (3, [.ref pS, .int psz])), (pS, .inl (gB G, 48, .inl psg)), (ru, .inr (5, [.int rb, .int rg, .int ro])), (ju, .inr (2, [.int r1_1.2.1, .int r1_1.2.2.1, .long r1_1.2.2.2]))]) (wr := [(ag, .inr (7, [.ref pd, .ref ru, .ref bk, .ref ju, .ref pr, .ref im, .ref jm, .ref rw, sv, .long gst])), (pS, .inl (gB G, 48, .inl psg)), (ru, .inr (5, [.int rb, .int rg, .int ro])), (ju, .inr (2, [.int r1_1.2.1, .int r1_1.2.2.1, .long r1_1.2.2.2]))]) (rest := []) (sn := [.int (f_X3_countMoves psz)]) hx hb hml hown hts hE hA (k_X3_countMoves G l pd pS psz _ rfl) sm_X3_countMoves mw_432 ⟨rfl, rfl, Nat.le_of_ble_eq_true rfl, Nat.le_of_ble_eq_true rfl⟩ hP hD hS 1 rfl rfl [1] [0, 2, 3, 4] [0, 4, 1, 2, 3] rfl rfl rfl (by decide) hl.1 rfl rfl (Nat.le_of_ble_eq_true rfl) dX9_play_14 ⟨Nat.le_of_ble_eq_true rfl, Nat.le_of_ble_eq_true rfl⟩ (fun H locs hP hD hS => ?_)
    refine lv_topi (fun v1_3 ev1_3 => ?_)
    have hF := jl hF ev1_3
    refine lv_istore_n (lv' := [(1, .int v1_3), (0, .ref ag)]) hx hb dX9_play_17 rfl hl (by decide) rfl (fun ls hl => ?_)
    refine lv_aload_n hx hb dX9_play_18 rfl (lv_at hl 1 rfl) ?_
    refine lv_aload_n hx hb dX9_play_19 rfl (lv_at hl 1 rfl) ?_
    refine hget hx hb hts hown hE fl_X9_33 hP 0 rfl rfl dX9_play_20 ?_
    refine hgetN hx hb hts hown hE fl_X9_151 hP 4 rfl rfl dX9_play_23 ?_
    refine lv_topl (fun u26_4 eu26_4 => ?_)
    have hF := jl hF eu26_4
    refine hput hx hb hts hown hE fl_X9_70 ft_X9_9 hP hD hS 0 rfl rfl rfl rfl (Nat.le_of_ble_eq_true rfl) (wn := [(ag, .inr (7, [.ref pd, .ref ru, .ref bk, .ref ju, .ref pr, .ref im, .ref jm, .ref rw, sv, .long u26_4])), (pd, .inr (3, [.ref pS, .int psz])), (pS, .inl (gB G, 48, .inl psg)), (ru, .inr (5, [.int rb, .int rg, .int ro])), (ju, .inr (2, [.int r1_1.2.1, .int r1_1.2.2.1, .long r1_1.2.2.2]))]) rfl dX9_play_26 (fun H locs hP hD hS => ?_)
    refine lv_aload_n hx hb dX9_play_29 rfl (lv_at hl 1 rfl) ?_
    refine hget hx hb hts hown hE fl_X9_12 hP 0 rfl rfl dX9_play_30 ?_
    obtain ⟨r33_5, hr33_5⟩ : ∃ z, z = f_X3_clear := ⟨_, rfl⟩
    have hF := jl hF hr33_5
    refine hm_V (wn := [(ag, .inr (7, [.ref pd, .ref ru, .ref bk, .ref ju, .ref pr, .ref im, .ref jm, .ref rw, sv, .long u26_4])), (pd, .inr (3, [.ref pS, .int r33_5])), (pS, .inl (gB G, 48, .inl psg)), (ru, .inr (5, [.int rb, .int rg, .int ro])), (ju, .inr (2, [.int r1_1.2.1, .int r1_1.2.2.1, .long r1_1.2.2.2]))]) (wr := [(ag, .inr (7, [.ref pd, .ref ru, .ref bk, .ref ju, .ref pr, .ref im, .ref jm, .ref rw, sv, .long u26_4])), (pS, .inl (gB G, 48, .inl psg)), (ru, .inr (5, [.int rb, .int rg, .int ro])), (ju, .inr (2, [.int r1_1.2.1, .int r1_1.2.2.1, .long r1_1.2.2.2]))]) (rest := []) (sn := []) hx hb hml hown hts hE hA (k_X3_clear G l pd pS psz r33_5 hr33_5.symm) sm_X3_clear mw_252 ⟨rfl, rfl, Nat.le_of_ble_eq_true rfl, Nat.le_of_ble_eq_true rfl⟩ hP hD hS 1 rfl rfl [1] [0, 2, 3, 4] [0, 4, 1, 2, 3] rfl rfl rfl (by decide) hl.1 rfl rfl (Nat.le_of_ble_eq_true rfl) dX9_play_33 ⟨Nat.le_of_ble_eq_true rfl, Nat.le_of_ble_eq_true rfl⟩ (fun H locs hP hD hS => ?_)
    refine lv_iload_n hx hb dX9_play_36 rfl (lv_at hl 0 rfl) ?_
    have hF := Option.some.inj hF
    subst hF
    exact hm_iret hx hb hr hlk hP hD hS hpost dX9_play_37
  · have hF := ifp hF c_2
    refine lv_bipush (v := (-5)) hx hb dX9_play_7 (by decide) ?_
    have hF := Option.some.inj hF
    subst hF
    exact hm_iret hx hb hr hlk hP hD hS hpost dX9_play_9
def f_X9_moves (gst : Int64) (rb : Int32) (rg : Int32) (ro : Int32) (ra : (Nat → Int32)) (ii : Int32) : Option (Int32 × (Nat → Int32)) :=
  Option.bind (f_X5_list rb rg ro ra 24 gst 0) (fun r13_1 => jlet r13_1.1 (fun v2_2 => if ii = (-1) then some (v2_2, r13_1.2) else if ii < 0 then some ((-6), r13_1.2) else if v2_2 ≤ ii then some ((-6), r13_1.2) else if ii < 24 then if (ii) < 0 ∨ 24 ≤ (ii).toNatClampNeg then none else some ((f_X8_asTold gst (r13_1.2 (ii).toNatClampNeg)), r13_1.2) else some ((-6), r13_1.2)))
abbrev rm_X9_moves : Room := { frames := 3, cells := 0, slots := 0, locals := 87 }
set_option maxHeartbeats 4000000 in
set_option maxRecDepth 100000 in
theorem k_X9_moves (G : gT) (l : Launch) (ag : Nat) (pd : Nat) (ru : Nat) (bk : Nat) (ju : Nat) (pr : Nat) (im : Nat) (jm : Nat) (rw : Nat) (sv : Value) (gst : Int64) (rb : Int32) (rg : Int32) (ro : Int32) (ra : (Nat → Int32)) (ii : Int32) (r : Int32 × (Nat → Int32)) (hF : f_X9_moves gst rb rg ro ra ii = some r) : HM G l yX9_moves (.code yX9_moves cX9_moves 3 (some .int) :: UW) rm_X9_moves 0 0 [.ref ag, .int ii] [(ag, .inr (7, [.ref pd, .ref ru, .ref bk, .ref ju, .ref pr, .ref im, .ref jm, .ref rw, sv, .long gst])), (ru, .inr (5, [.int rb, .int rg, .int ro])), (rw, .inl (gI G, 24, .inl ra))] (some (.int r.1)) [(ag, .inr (7, [.ref pd, .ref ru, .ref bk, .ref ju, .ref pr, .ref im, .ref jm, .ref rw, sv, .long gst])), (ru, .inr (5, [.int rb, .int rg, .int ro])), (rw, .inl (gI G, 24, .inl r.2))] := by
  refine HM.ofW (by decide) (Nat.le_of_ble_eq_true rfl) ?_
  intro p e s m args below meth c A post hpost hC hP hD hS ls hl
  obtain ⟨hx, hb, hr, hml, hown, hts, hlk, hE, hA⟩ := hC
  have hl : lv_has ls 3 [(0, .ref ag), (1, .int ii)] := hl
  unfold f_X9_moves at hF
  refine lv_aload_n hx hb dX9_moves_0 rfl (lv_at hl 0 rfl) ?_
  refine hget hx hb hts hown hE fl_X9_19 hP 0 rfl rfl dX9_moves_1 ?_
  refine lv_aload_n hx hb dX9_moves_4 rfl (lv_at hl 0 rfl) ?_
  refine hget hx hb hts hown hE fl_X9_70 hP 0 rfl rfl dX9_moves_5 ?_
  refine lv_aload_n hx hb dX9_moves_8 rfl (lv_at hl 0 rfl) ?_
  refine hget hx hb hts hown hE fl_X9_54 hP 0 rfl rfl dX9_moves_9 ?_
  refine lv_iconst (v := 0) hx hb dX9_moves_12 (by decide) ?_
  obtain ⟨r13_1, hr13_1, hF⟩ := bnd hF
  refine hm_V (wn := [(ag, .inr (7, [.ref pd, .ref ru, .ref bk, .ref ju, .ref pr, .ref im, .ref jm, .ref rw, sv, .long gst])), (ru, .inr (5, [.int rb, .int rg, .int ro])), (rw, .inl (gI G, 24, .inl r13_1.2))]) (wr := [(ag, .inr (7, [.ref pd, .ref ru, .ref bk, .ref ju, .ref pr, .ref im, .ref jm, .ref rw, sv, .long gst]))]) (rest := []) (sn := [.int r13_1.1]) hx hb hml hown hts hE hA (k_X5_list G l ru rw rb rg ro ra 24 gst 0 r13_1 hr13_1) sm_X5_list mw_437 ⟨rfl, rfl, Nat.le_of_ble_eq_true rfl, Nat.le_of_ble_eq_true rfl⟩ hP hD hS 1 rfl rfl [1, 2] [0] [0, 1, 2] rfl rfl rfl (by decide) hl.1 rfl rfl (Nat.le_of_ble_eq_true rfl) dX9_moves_13 ⟨Nat.le_of_ble_eq_true rfl, Nat.le_of_ble_eq_true rfl⟩ (fun H locs hP hD hS => ?_)
  refine lv_topi (fun v2_2 ev2_2 => ?_)
  have hF := jl hF ev2_2
  refine lv_istore_n (lv' := [(2, .int v2_2), (0, .ref ag), (1, .int ii)]) hx hb dX9_moves_16 rfl hl (by decide) rfl (fun ls hl => ?_)
  refine lv_iload_n hx hb dX9_moves_17 rfl (lv_at hl 2 rfl) ?_
  refine lv_iconst (v := (-1)) hx hb dX9_moves_18 (by decide) ?_
  refine lv_icmp_ne (tgt := 24) hx hb dX9_moves_19 (by decide) (fun c_3 => ?_) (fun c_3 => ?_)
  · have hF := ifn hF c_3
    refine lv_iload_n hx hb dX9_moves_24 rfl (lv_at hl 2 rfl) ?_
    refine lv_if_lt (tgt := 42) hx hb dX9_moves_25 (by decide) (fun c_4 => ?_) (fun c_4 => ?_)
    · have hF := ifp hF c_4
      refine lv_bipush (v := (-6)) hx hb dX9_moves_42 (by decide) ?_
      refine lv_goto (tgt := 60) hx hb dX9_moves_44 (by decide) ?_
      have hF := Option.some.inj hF
      subst hF
      exact hm_iret hx hb hr hlk hP hD hS hpost dX9_moves_60
    · have hF := ifn hF c_4
      refine lv_iload_n hx hb dX9_moves_28 rfl (lv_at hl 2 rfl) ?_
      refine lv_iload_n hx hb dX9_moves_29 rfl (lv_at hl 0 rfl) ?_
      refine lv_icmp_ge (tgt := 42) hx hb dX9_moves_30 (by decide) (fun c_5 => ?_) (fun c_5 => ?_)
      · have hF := ifp hF c_5
        refine lv_bipush (v := (-6)) hx hb dX9_moves_42 (by decide) ?_
        refine lv_goto (tgt := 60) hx hb dX9_moves_44 (by decide) ?_
        have hF := Option.some.inj hF
        subst hF
        exact hm_iret hx hb hr hlk hP hD hS hpost dX9_moves_60
      · have hF := ifn hF c_5
        refine lv_iload_n hx hb dX9_moves_33 rfl (lv_at hl 2 rfl) ?_
        refine lv_aload_n hx hb dX9_moves_34 rfl (lv_at hl 1 rfl) ?_
        refine hget hx hb hts hown hE fl_X9_54 hP 0 rfl rfl dX9_moves_35 ?_
        refine halen 0 (v := 24) hx hb hE hP 2 rfl rfl rfl dX9_moves_38 ?_
        refine lv_icmp_lt (tgt := 47) hx hb dX9_moves_39 (by decide) (fun c_6 => ?_) (fun c_6 => ?_)
        · have hF := ifp hF c_6
          refine lv_aload_n hx hb dX9_moves_47 rfl (lv_at hl 1 rfl) ?_
          refine hget hx hb hts hown hE fl_X9_70 hP 0 rfl rfl dX9_moves_48 ?_
          refine lv_aload_n hx hb dX9_moves_51 rfl (lv_at hl 1 rfl) ?_
          refine hget hx hb hts hown hE fl_X9_54 hP 0 rfl rfl dX9_moves_52 ?_
          refine lv_iload_n hx hb dX9_moves_55 rfl (lv_at hl 2 rfl) ?_
          obtain ⟨hi_7, hF⟩ := inb hF
          refine hiald hx hb hE hP 2 rfl hi_7 dX9_moves_56 ?_
          refine hm_S (wn := [(ag, .inr (7, [.ref pd, .ref ru, .ref bk, .ref ju, .ref pr, .ref im, .ref jm, .ref rw, sv, .long gst])), (ru, .inr (5, [.int rb, .int rg, .int ro])), (rw, .inl (gI G, 24, .inl r13_1.2))]) (wr := [(ag, .inr (7, [.ref pd, .ref ru, .ref bk, .ref ju, .ref pr, .ref im, .ref jm, .ref rw, sv, .long gst])), (ru, .inr (5, [.int rb, .int rg, .int ro])), (rw, .inl (gI G, 24, .inl r13_1.2))]) (rest := []) (sn := [.int (f_X8_asTold gst (r13_1.2 (ii).toNatClampNeg))]) hx hb hml hown hts hE hA (k_X8_asTold G l gst (r13_1.2 (ii).toNatClampNeg) _ rfl) sm_X8_asTold mw_442 ⟨rfl, rfl, Nat.le_of_ble_eq_true rfl, Nat.le_of_ble_eq_true rfl⟩ hP hD hS [] [0, 1, 2] [0, 1, 2] rfl rfl rfl (by decide) hl.1 rfl rfl (Nat.le_of_ble_eq_true rfl) dX9_moves_57 ⟨Nat.le_of_ble_eq_true rfl, Nat.le_of_ble_eq_true rfl⟩ (fun H locs hP hD hS => ?_)
          have hF := Option.some.inj hF
          subst hF
          exact hm_iret hx hb hr hlk hP hD hS hpost dX9_moves_60
        · have hF := ifn hF c_6
          refine lv_bipush (v := (-6)) hx hb dX9_moves_42 (by decide) ?_
          refine lv_goto (tgt := 60) hx hb dX9_moves_44 (by decide) ?_
          have hF := Option.some.inj hF
          subst hF
          exact hm_iret hx hb hr hlk hP hD hS hpost dX9_moves_60
  · have hF := ifp hF c_3
    refine lv_iload_n hx hb dX9_moves_22 rfl (lv_at hl 0 rfl) ?_
    have hF := Option.some.inj hF
    subst hF
    exact hm_iret hx hb hr hlk hP hD hS hpost dX9_moves_23
def f_X9_reach_B14 (gst : Int64) (rb : Int32) (rg : Int32) (ro : Int32) (sd : Int32) : Option Int32 :=
  Option.bind (f_X5_reachOfSide rb rg ro gst sd) (fun r23_1 => some r23_1)
def f_X9_reach (gst : Int64) (rb : Int32) (rg : Int32) (ro : Int32) (sd : Int32) : Option Int32 :=
  if sd = 0 then f_X9_reach_B14 gst rb rg ro sd else if sd = 1 then f_X9_reach_B14 gst rb rg ro sd else some (-2)
abbrev rm_X9_reach : Room := { frames := 3, cells := 0, slots := 0, locals := 82 }
set_option maxHeartbeats 4000000 in
set_option maxRecDepth 100000 in
theorem k_X9_reach (G : gT) (l : Launch) (ag : Nat) (pd : Nat) (ru : Nat) (bk : Nat) (ju : Nat) (pr : Nat) (im : Nat) (jm : Nat) (rw : Nat) (sv : Value) (gst : Int64) (rb : Int32) (rg : Int32) (ro : Int32) (sd : Int32) (r : Int32) (hF : f_X9_reach gst rb rg ro sd = some r) : HM G l yX9_reach (.code yX9_reach cX9_reach 2 (some .int) :: UW) rm_X9_reach 0 0 [.ref ag, .int sd] [(ag, .inr (7, [.ref pd, .ref ru, .ref bk, .ref ju, .ref pr, .ref im, .ref jm, .ref rw, sv, .long gst])), (ru, .inr (5, [.int rb, .int rg, .int ro]))] (some (.int r)) [(ag, .inr (7, [.ref pd, .ref ru, .ref bk, .ref ju, .ref pr, .ref im, .ref jm, .ref rw, sv, .long gst])), (ru, .inr (5, [.int rb, .int rg, .int ro]))] := by
  refine HM.ofW (by decide) (Nat.le_of_ble_eq_true rfl) ?_
  intro p e s m args below meth c A post hpost hC hP hD hS ls hl
  obtain ⟨hx, hb, hr, hml, hown, hts, hlk, hE, hA⟩ := hC
  have hl : lv_has ls 2 [(0, .ref ag), (1, .int sd)] := hl
  unfold f_X9_reach at hF
  refine lv_iload_n hx hb dX9_reach_0 rfl (lv_at hl 1 rfl) ?_
  have hB14 : ∀ (H : Heap) (locs : List Loc) (ls : Array Slot), f_X9_reach_B14 gst rb rg ro sd = some r → va_P (gD G) vwCl [(ag, .inr (7, [.ref pd, .ref ru, .ref bk, .ref ju, .ref pr, .ref im, .ref jm, .ref rw, sv, .long gst])), (ru, .inr (5, [.int rb, .int rg, .int ro]))] H → va_D A [(ag, .inr (7, [.ref pd, .ref ru, .ref bk, .ref ju, .ref pr, .ref im, .ref jm, .ref rw, sv, .long gst])), (ru, .inr (5, [.int rb, .int rg, .int ro]))] → va_S A s.heap H locs → lv_has ls 2 [(0, .ref ag), (1, .int sd)] → W p l e rm_X9_reach s m args below meth c H locs 0 0 (MQ below (HXq G post A) args s 0 0 A) (F0 m 14 ls []) := by
    intro H locs ls hF hP hD hS hl
    unfold f_X9_reach_B14 at hF
    refine lv_aload_n hx hb dX9_reach_14 rfl (lv_at hl 0 rfl) ?_
    refine hget hx hb hts hown hE fl_X9_19 hP 0 rfl rfl dX9_reach_15 ?_
    refine lv_aload_n hx hb dX9_reach_18 rfl (lv_at hl 0 rfl) ?_
    refine hget hx hb hts hown hE fl_X9_70 hP 0 rfl rfl dX9_reach_19 ?_
    refine lv_iload_n hx hb dX9_reach_22 rfl (lv_at hl 1 rfl) ?_
    obtain ⟨r23_1, hr23_1, hF⟩ := bnd hF
    refine hm_V (wn := [(ag, .inr (7, [.ref pd, .ref ru, .ref bk, .ref ju, .ref pr, .ref im, .ref jm, .ref rw, sv, .long gst])), (ru, .inr (5, [.int rb, .int rg, .int ro]))]) (wr := [(ag, .inr (7, [.ref pd, .ref ru, .ref bk, .ref ju, .ref pr, .ref im, .ref jm, .ref rw, sv, .long gst]))]) (rest := []) (sn := [.int r23_1]) hx hb hml hown hts hE hA (k_X5_reachOfSide G l ru rb rg ro gst sd r23_1 hr23_1) sm_X5_reachOfSide mw_449 ⟨rfl, rfl, Nat.le_of_ble_eq_true rfl, Nat.le_of_ble_eq_true rfl⟩ hP hD hS 1 rfl rfl [1] [0] [0, 1] rfl rfl rfl (by decide) hl.1 rfl rfl (Nat.le_of_ble_eq_true rfl) dX9_reach_23 ⟨Nat.le_of_ble_eq_true rfl, Nat.le_of_ble_eq_true rfl⟩ (fun H locs hP hD hS => ?_)
    have hF := Option.some.inj hF
    subst hF
    exact hm_iret hx hb hr hlk hP hD hS hpost dX9_reach_26
  refine lv_if_eq (tgt := 14) hx hb dX9_reach_1 (by decide) (fun c_2 => ?_) (fun c_2 => ?_)
  · have hF := ifp hF c_2
    exact hB14 _ _ _ hF hP hD hS (lv_sub hl [0, 1] rfl)
  · have hF := ifn hF c_2
    refine lv_iload_n hx hb dX9_reach_4 rfl (lv_at hl 1 rfl) ?_
    refine lv_iconst (v := 1) hx hb dX9_reach_5 (by decide) ?_
    refine lv_icmp_eq (tgt := 14) hx hb dX9_reach_6 (by decide) (fun c_3 => ?_) (fun c_3 => ?_)
    · have hF := ifp hF c_3
      exact hB14 _ _ _ hF hP hD hS (lv_sub hl [0, 1] rfl)
    · have hF := ifn hF c_3
      refine lv_bipush (v := (-2)) hx hb dX9_reach_9 (by decide) ?_
      refine lv_goto (tgt := 26) hx hb dX9_reach_11 (by decide) ?_
      have hF := Option.some.inj hF
      subst hF
      exact hm_iret hx hb hr hlk hP hD hS hpost dX9_reach_26
def f_X9_youth_B21 (gst : Int64) (rb : Int32) (rg : Int32) (ro : Int32) (sd : Int32) (wh : Int32) : Option Int32 :=
  if wh = 0 then Option.bind (f_X5_youthOf ro gst sd) (fun r34_3 => some r34_3) else Option.bind (f_X5_countBlocked rb rg ro gst sd) (fun r49_2 => some r49_2)
def f_X9_youth_B9 (gst : Int64) (rb : Int32) (rg : Int32) (ro : Int32) (sd : Int32) (wh : Int32) : Option Int32 :=
  if wh = 0 then f_X9_youth_B21 gst rb rg ro sd wh else if wh = 1 then f_X9_youth_B21 gst rb rg ro sd wh else some (-2)
def f_X9_youth (gst : Int64) (rb : Int32) (rg : Int32) (ro : Int32) (sd : Int32) (wh : Int32) : Option Int32 :=
  if sd = 0 then f_X9_youth_B9 gst rb rg ro sd wh else if sd = 1 then f_X9_youth_B9 gst rb rg ro sd wh else some (-2)
abbrev rm_X9_youth : Room := { frames := 3, cells := 0, slots := 0, locals := 82 }
set_option maxHeartbeats 4000000 in
set_option maxRecDepth 100000 in
theorem k_X9_youth (G : gT) (l : Launch) (ag : Nat) (pd : Nat) (ru : Nat) (bk : Nat) (ju : Nat) (pr : Nat) (im : Nat) (jm : Nat) (rw : Nat) (sv : Value) (gst : Int64) (rb : Int32) (rg : Int32) (ro : Int32) (sd : Int32) (wh : Int32) (r : Int32) (hF : f_X9_youth gst rb rg ro sd wh = some r) : HM G l yX9_youth (.code yX9_youth cX9_youth 3 (some .int) :: UW) rm_X9_youth 0 0 [.ref ag, .int sd, .int wh] [(ag, .inr (7, [.ref pd, .ref ru, .ref bk, .ref ju, .ref pr, .ref im, .ref jm, .ref rw, sv, .long gst])), (ru, .inr (5, [.int rb, .int rg, .int ro]))] (some (.int r)) [(ag, .inr (7, [.ref pd, .ref ru, .ref bk, .ref ju, .ref pr, .ref im, .ref jm, .ref rw, sv, .long gst])), (ru, .inr (5, [.int rb, .int rg, .int ro]))] := by
  refine HM.ofW (by decide) (Nat.le_of_ble_eq_true rfl) ?_
  intro p e s m args below meth c A post hpost hC hP hD hS ls hl
  obtain ⟨hx, hb, hr, hml, hown, hts, hlk, hE, hA⟩ := hC
  have hl : lv_has ls 3 [(0, .ref ag), (1, .int sd), (2, .int wh)] := hl
  unfold f_X9_youth at hF
  refine lv_iload_n hx hb dX9_youth_0 rfl (lv_at hl 1 rfl) ?_
  have hB9 : ∀ (H : Heap) (locs : List Loc) (ls : Array Slot), f_X9_youth_B9 gst rb rg ro sd wh = some r → va_P (gD G) vwCl [(ag, .inr (7, [.ref pd, .ref ru, .ref bk, .ref ju, .ref pr, .ref im, .ref jm, .ref rw, sv, .long gst])), (ru, .inr (5, [.int rb, .int rg, .int ro]))] H → va_D A [(ag, .inr (7, [.ref pd, .ref ru, .ref bk, .ref ju, .ref pr, .ref im, .ref jm, .ref rw, sv, .long gst])), (ru, .inr (5, [.int rb, .int rg, .int ro]))] → va_S A s.heap H locs → lv_has ls 3 [(0, .ref ag), (1, .int sd), (2, .int wh)] → W p l e rm_X9_youth s m args below meth c H locs 0 0 (MQ below (HXq G post A) args s 0 0 A) (F0 m 9 ls []) := by
    intro H locs ls hF hP hD hS hl
    unfold f_X9_youth_B9 at hF
    refine lv_iload_n hx hb dX9_youth_9 rfl (lv_at hl 2 rfl) ?_
    have hB21 : ∀ (H : Heap) (locs : List Loc) (ls : Array Slot), f_X9_youth_B21 gst rb rg ro sd wh = some r → va_P (gD G) vwCl [(ag, .inr (7, [.ref pd, .ref ru, .ref bk, .ref ju, .ref pr, .ref im, .ref jm, .ref rw, sv, .long gst])), (ru, .inr (5, [.int rb, .int rg, .int ro]))] H → va_D A [(ag, .inr (7, [.ref pd, .ref ru, .ref bk, .ref ju, .ref pr, .ref im, .ref jm, .ref rw, sv, .long gst])), (ru, .inr (5, [.int rb, .int rg, .int ro]))] → va_S A s.heap H locs → lv_has ls 3 [(0, .ref ag), (1, .int sd), (2, .int wh)] → W p l e rm_X9_youth s m args below meth c H locs 0 0 (MQ below (HXq G post A) args s 0 0 A) (F0 m 21 ls []) := by
      intro H locs ls hF hP hD hS hl
      unfold f_X9_youth_B21 at hF
      refine lv_iload_n hx hb dX9_youth_21 rfl (lv_at hl 2 rfl) ?_
      refine lv_if_ne (tgt := 40) hx hb dX9_youth_22 (by decide) (fun c_1 => ?_) (fun c_1 => ?_)
      · have hF := ifn hF c_1
        refine lv_aload_n hx hb dX9_youth_40 rfl (lv_at hl 0 rfl) ?_
        refine hget hx hb hts hown hE fl_X9_19 hP 0 rfl rfl dX9_youth_41 ?_
        refine lv_aload_n hx hb dX9_youth_44 rfl (lv_at hl 0 rfl) ?_
        refine hget hx hb hts hown hE fl_X9_70 hP 0 rfl rfl dX9_youth_45 ?_
        refine lv_iload_n hx hb dX9_youth_48 rfl (lv_at hl 1 rfl) ?_
        obtain ⟨r49_2, hr49_2, hF⟩ := bnd hF
        refine hm_V (wn := [(ag, .inr (7, [.ref pd, .ref ru, .ref bk, .ref ju, .ref pr, .ref im, .ref jm, .ref rw, sv, .long gst])), (ru, .inr (5, [.int rb, .int rg, .int ro]))]) (wr := [(ag, .inr (7, [.ref pd, .ref ru, .ref bk, .ref ju, .ref pr, .ref im, .ref jm, .ref rw, sv, .long gst]))]) (rest := []) (sn := [.int r49_2]) hx hb hml hown hts hE hA (k_X5_countBlocked G l ru rb rg ro gst sd r49_2 hr49_2) sm_X5_countBlocked mw_461 ⟨rfl, rfl, Nat.le_of_ble_eq_true rfl, Nat.le_of_ble_eq_true rfl⟩ hP hD hS 1 rfl rfl [1] [0] [0, 1] rfl rfl rfl (by decide) hl.1 rfl rfl (Nat.le_of_ble_eq_true rfl) dX9_youth_49 ⟨Nat.le_of_ble_eq_true rfl, Nat.le_of_ble_eq_true rfl⟩ (fun H locs hP hD hS => ?_)
        have hF := Option.some.inj hF
        subst hF
        exact hm_iret hx hb hr hlk hP hD hS hpost dX9_youth_52
      · have hF := ifp hF c_1
        refine lv_aload_n hx hb dX9_youth_25 rfl (lv_at hl 0 rfl) ?_
        refine hget hx hb hts hown hE fl_X9_19 hP 0 rfl rfl dX9_youth_26 ?_
        refine lv_aload_n hx hb dX9_youth_29 rfl (lv_at hl 0 rfl) ?_
        refine hget hx hb hts hown hE fl_X9_70 hP 0 rfl rfl dX9_youth_30 ?_
        refine lv_iload_n hx hb dX9_youth_33 rfl (lv_at hl 1 rfl) ?_
        obtain ⟨r34_3, hr34_3, hF⟩ := bnd hF
        refine hm_V (wn := [(ag, .inr (7, [.ref pd, .ref ru, .ref bk, .ref ju, .ref pr, .ref im, .ref jm, .ref rw, sv, .long gst])), (ru, .inr (5, [.int rb, .int rg, .int ro]))]) (wr := [(ag, .inr (7, [.ref pd, .ref ru, .ref bk, .ref ju, .ref pr, .ref im, .ref jm, .ref rw, sv, .long gst]))]) (rest := []) (sn := [.int r34_3]) hx hb hml hown hts hE hA (k_X5_youthOf G l ru rb rg ro gst sd r34_3 hr34_3) sm_X5_youthOf mw_454 ⟨rfl, rfl, Nat.le_of_ble_eq_true rfl, Nat.le_of_ble_eq_true rfl⟩ hP hD hS 1 rfl rfl [1] [0] [0, 1] rfl rfl rfl (by decide) hl.1 rfl rfl (Nat.le_of_ble_eq_true rfl) dX9_youth_34 ⟨Nat.le_of_ble_eq_true rfl, Nat.le_of_ble_eq_true rfl⟩ (fun H locs hP hD hS => ?_)
        refine lv_goto (tgt := 52) hx hb dX9_youth_37 (by decide) ?_
        have hF := Option.some.inj hF
        subst hF
        exact hm_iret hx hb hr hlk hP hD hS hpost dX9_youth_52
    refine lv_if_eq (tgt := 21) hx hb dX9_youth_10 (by decide) (fun c_4 => ?_) (fun c_4 => ?_)
    · have hF := ifp hF c_4
      exact hB21 _ _ _ hF hP hD hS (lv_sub hl [0, 1, 2] rfl)
    · have hF := ifn hF c_4
      refine lv_iload_n hx hb dX9_youth_13 rfl (lv_at hl 2 rfl) ?_
      refine lv_iconst (v := 1) hx hb dX9_youth_14 (by decide) ?_
      refine lv_icmp_eq (tgt := 21) hx hb dX9_youth_15 (by decide) (fun c_5 => ?_) (fun c_5 => ?_)
      · have hF := ifp hF c_5
        exact hB21 _ _ _ hF hP hD hS (lv_sub hl [0, 1, 2] rfl)
      · have hF := ifn hF c_5
        refine lv_bipush (v := (-2)) hx hb dX9_youth_18 (by decide) ?_
        have hF := Option.some.inj hF
        subst hF
        exact hm_iret hx hb hr hlk hP hD hS hpost dX9_youth_20
  refine lv_if_eq (tgt := 9) hx hb dX9_youth_1 (by decide) (fun c_6 => ?_) (fun c_6 => ?_)
  · have hF := ifp hF c_6
    exact hB9 _ _ _ hF hP hD hS (lv_sub hl [0, 1, 2] rfl)
  · have hF := ifn hF c_6
    refine lv_iload_n hx hb dX9_youth_4 rfl (lv_at hl 1 rfl) ?_
    refine lv_iconst (v := 1) hx hb dX9_youth_5 (by decide) ?_
    refine lv_icmp_ne (tgt := 18) hx hb dX9_youth_6 (by decide) (fun c_7 => ?_) (fun c_7 => ?_)
    · have hF := ifn hF c_7
      refine lv_bipush (v := (-2)) hx hb dX9_youth_18 (by decide) ?_
      have hF := Option.some.inj hF
      subst hF
      exact hm_iret hx hb hr hlk hP hD hS hpost dX9_youth_20
    · have hF := ifp hF c_7
      exact hB9 _ _ _ hF hP hD hS (lv_sub hl [0, 1, 2] rfl)
def f_X9_keys_B13 (gst : Int64) (qc : Int32) (qs : Int64) (ql : Int32) (qn : Int32) (qf : (Nat → Int32)) (qr : (Nat → Int32)) (qv : (Nat → Int32)) (qo : (Nat → Int32)) (rb : Int32) (rg : Int32) (ro : Int32) (nn : Int32) (ii : Int32) : Option (Int32 × Int32 × Int64 × Int32 × Int32 × (Nat → Int32) × (Nat → Int32) × (Nat → Int32) × (Nat → Int32)) :=
  Option.bind (f_X4_find qc qs ql qn qf qr qv qo rb rg ro gst nn) (fun r26_1 => if ii = (-1) then some (r26_1.1, r26_1.1, r26_1.2.1, r26_1.2.2.1, r26_1.2.2.2.1, r26_1.2.2.2.2.1, r26_1.2.2.2.2.2.1, r26_1.2.2.2.2.2.2.1, r26_1.2.2.2.2.2.2.2) else if ii < 0 then some ((-6), r26_1.1, r26_1.2.1, r26_1.2.2.1, r26_1.2.2.2.1, r26_1.2.2.2.2.1, r26_1.2.2.2.2.2.1, r26_1.2.2.2.2.2.2.1, r26_1.2.2.2.2.2.2.2) else if r26_1.1 ≤ ii then some ((-6), r26_1.1, r26_1.2.1, r26_1.2.2.1, r26_1.2.2.2.1, r26_1.2.2.2.2.1, r26_1.2.2.2.2.2.1, r26_1.2.2.2.2.2.2.1, r26_1.2.2.2.2.2.2.2) else if ii < 24 then if (ii) < 0 ∨ 24 ≤ (ii).toNatClampNeg then none else some ((f_X8_asTold gst (r26_1.2.2.2.2.2.2.2 (ii).toNatClampNeg)), r26_1.1, r26_1.2.1, r26_1.2.2.1, r26_1.2.2.2.1, r26_1.2.2.2.2.1, r26_1.2.2.2.2.2.1, r26_1.2.2.2.2.2.2.1, r26_1.2.2.2.2.2.2.2) else some ((-6), r26_1.1, r26_1.2.1, r26_1.2.2.1, r26_1.2.2.2.1, r26_1.2.2.2.2.1, r26_1.2.2.2.2.2.1, r26_1.2.2.2.2.2.2.1, r26_1.2.2.2.2.2.2.2))
def f_X9_keys (gst : Int64) (qc : Int32) (qs : Int64) (ql : Int32) (qn : Int32) (qf : (Nat → Int32)) (qr : (Nat → Int32)) (qv : (Nat → Int32)) (qo : (Nat → Int32)) (rb : Int32) (rg : Int32) (ro : Int32) (nn : Int32) (ii : Int32) : Option (Int32 × Int32 × Int64 × Int32 × Int32 × (Nat → Int32) × (Nat → Int32) × (Nat → Int32) × (Nat → Int32)) :=
  if nn = 1 then f_X9_keys_B13 gst qc qs ql qn qf qr qv qo rb rg ro nn ii else if nn = 2 then f_X9_keys_B13 gst qc qs ql qn qf qr qv qo rb rg ro nn ii else some ((-2), qc, qs, ql, qn, qf, qr, qv, qo)
abbrev rm_X9_keys : Room := { frames := 7, cells := 0, slots := 0, locals := 187 }
set_option maxHeartbeats 4000000 in
set_option maxRecDepth 100000 in
theorem k_X9_keys (G : gT) (l : Launch) (ag : Nat) (pd : Nat) (ru : Nat) (bk : Nat) (ju : Nat) (pr : Nat) (im : Nat) (jm : Nat) (rw : Nat) (qF : Nat) (qR : Nat) (qL : Nat) (qO : Nat) (sv : Value) (gst : Int64) (qc : Int32) (qs : Int64) (ql : Int32) (qn : Int32) (qf : (Nat → Int32)) (qr : (Nat → Int32)) (qv : (Nat → Int32)) (qo : (Nat → Int32)) (rb : Int32) (rg : Int32) (ro : Int32) (nn : Int32) (ii : Int32) (r : Int32 × Int32 × Int64 × Int32 × Int32 × (Nat → Int32) × (Nat → Int32) × (Nat → Int32) × (Nat → Int32)) (hF : f_X9_keys gst qc qs ql qn qf qr qv qo rb rg ro nn ii = some r) : HM G l yX9_keys (.code yX9_keys cX9_keys 3 (some .int) :: UW) rm_X9_keys 0 0 [.ref ag, .int nn, .int ii] [(ag, .inr (7, [.ref pd, .ref ru, .ref bk, .ref ju, .ref pr, .ref im, .ref jm, .ref rw, sv, .long gst])), (pr, .inr (4, [.ref qF, .ref qR, .ref qL, .ref qO, .int qc, .long qs, .int ql, .int qn])), (qF, .inl (gI G, 24, .inl qf)), (qR, .inl (gI G, 24, .inl qr)), (qL, .inl (gI G, 24, .inl qv)), (qO, .inl (gI G, 24, .inl qo)), (ru, .inr (5, [.int rb, .int rg, .int ro]))] (some (.int r.1)) [(ag, .inr (7, [.ref pd, .ref ru, .ref bk, .ref ju, .ref pr, .ref im, .ref jm, .ref rw, sv, .long gst])), (pr, .inr (4, [.ref qF, .ref qR, .ref qL, .ref qO, .int r.2.1, .long r.2.2.1, .int r.2.2.2.1, .int r.2.2.2.2.1])), (qF, .inl (gI G, 24, .inl r.2.2.2.2.2.1)), (qR, .inl (gI G, 24, .inl r.2.2.2.2.2.2.1)), (qL, .inl (gI G, 24, .inl r.2.2.2.2.2.2.2.1)), (qO, .inl (gI G, 24, .inl r.2.2.2.2.2.2.2.2)), (ru, .inr (5, [.int rb, .int rg, .int ro]))] := by
  refine HM.ofW (by decide) (Nat.le_of_ble_eq_true rfl) ?_
  intro p e s m args below meth c A post hpost hC hP hD hS ls hl
  obtain ⟨hx, hb, hr, hml, hown, hts, hlk, hE, hA⟩ := hC
  have hl : lv_has ls 3 [(0, .ref ag), (1, .int nn), (2, .int ii)] := hl
  unfold f_X9_keys at hF
  refine lv_iload_n hx hb dX9_keys_0 rfl (lv_at hl 1 rfl) ?_
  refine lv_iconst (v := 1) hx hb dX9_keys_1 (by decide) ?_
  have hB13 : ∀ (H : Heap) (locs : List Loc) (ls : Array Slot), f_X9_keys_B13 gst qc qs ql qn qf qr qv qo rb rg ro nn ii = some r → va_P (gD G) vwCl [(ag, .inr (7, [.ref pd, .ref ru, .ref bk, .ref ju, .ref pr, .ref im, .ref jm, .ref rw, sv, .long gst])), (pr, .inr (4, [.ref qF, .ref qR, .ref qL, .ref qO, .int qc, .long qs, .int ql, .int qn])), (qF, .inl (gI G, 24, .inl qf)), (qR, .inl (gI G, 24, .inl qr)), (qL, .inl (gI G, 24, .inl qv)), (qO, .inl (gI G, 24, .inl qo)), (ru, .inr (5, [.int rb, .int rg, .int ro]))] H → va_D A [(ag, .inr (7, [.ref pd, .ref ru, .ref bk, .ref ju, .ref pr, .ref im, .ref jm, .ref rw, sv, .long gst])), (pr, .inr (4, [.ref qF, .ref qR, .ref qL, .ref qO, .int qc, .long qs, .int ql, .int qn])), (qF, .inl (gI G, 24, .inl qf)), (qR, .inl (gI G, 24, .inl qr)), (qL, .inl (gI G, 24, .inl qv)), (qO, .inl (gI G, 24, .inl qo)), (ru, .inr (5, [.int rb, .int rg, .int ro]))] → va_S A s.heap H locs → lv_has ls 3 [(0, .ref ag), (1, .int nn), (2, .int ii)] → W p l e rm_X9_keys s m args below meth c H locs 0 0 (MQ below (HXq G post A) args s 0 0 A) (F0 m 13 ls []) := by
    intro H locs ls hF hP hD hS hl
    unfold f_X9_keys_B13 at hF
    refine lv_aload_n hx hb dX9_keys_13 rfl (lv_at hl 0 rfl) ?_
    refine hget hx hb hts hown hE fl_X9_40 hP 0 rfl rfl dX9_keys_14 ?_
    refine lv_aload_n hx hb dX9_keys_17 rfl (lv_at hl 0 rfl) ?_
    refine hget hx hb hts hown hE fl_X9_19 hP 0 rfl rfl dX9_keys_18 ?_
    refine lv_aload_n hx hb dX9_keys_21 rfl (lv_at hl 0 rfl) ?_
    refine hget hx hb hts hown hE fl_X9_70 hP 0 rfl rfl dX9_keys_22 ?_
    refine lv_iload_n hx hb dX9_keys_25 rfl (lv_at hl 1 rfl) ?_
    obtain ⟨r26_1, hr26_1, hF⟩ := bnd hF
    refine hm_V (wn := [(ag, .inr (7, [.ref pd, .ref ru, .ref bk, .ref ju, .ref pr, .ref im, .ref jm, .ref rw, sv, .long gst])), (pr, .inr (4, [.ref qF, .ref qR, .ref qL, .ref qO, .int r26_1.1, .long r26_1.2.1, .int r26_1.2.2.1, .int r26_1.2.2.2.1])), (qF, .inl (gI G, 24, .inl r26_1.2.2.2.2.1)), (qR, .inl (gI G, 24, .inl r26_1.2.2.2.2.2.1)), (qL, .inl (gI G, 24, .inl r26_1.2.2.2.2.2.2.1)), (qO, .inl (gI G, 24, .inl r26_1.2.2.2.2.2.2.2)), (ru, .inr (5, [.int rb, .int rg, .int ro]))]) (wr := [(ag, .inr (7, [.ref pd, .ref ru, .ref bk, .ref ju, .ref pr, .ref im, .ref jm, .ref rw, sv, .long gst]))]) (rest := []) (sn := []) hx hb hml hown hts hE hA (k_X4_find G l pr ru qF qR qL qO qc qs ql qn qf qr qv qo rb rg ro gst nn r26_1 hr26_1) sm_X4_find mw_589 ⟨rfl, rfl, Nat.le_of_ble_eq_true rfl, Nat.le_of_ble_eq_true rfl⟩ hP hD hS 1 rfl rfl [1, 2, 3, 4, 5, 6] [0] [0, 1, 2, 3, 4, 5, 6] rfl rfl rfl (by decide) hl.1 rfl rfl (Nat.le_of_ble_eq_true rfl) dX9_keys_26 ⟨Nat.le_of_ble_eq_true rfl, Nat.le_of_ble_eq_true rfl⟩ (fun H locs hP hD hS => ?_)
    refine lv_iload_n hx hb dX9_keys_29 rfl (lv_at hl 2 rfl) ?_
    refine lv_iconst (v := (-1)) hx hb dX9_keys_30 (by decide) ?_
    refine lv_icmp_ne (tgt := 42) hx hb dX9_keys_31 (by decide) (fun c_2 => ?_) (fun c_2 => ?_)
    · have hF := ifn hF c_2
      refine lv_iload_n hx hb dX9_keys_42 rfl (lv_at hl 2 rfl) ?_
      refine lv_if_lt (tgt := 69) hx hb dX9_keys_43 (by decide) (fun c_3 => ?_) (fun c_3 => ?_)
      · have hF := ifp hF c_3
        refine lv_bipush (v := (-6)) hx hb dX9_keys_69 (by decide) ?_
        have hF := Option.some.inj hF
        subst hF
        exact hm_iret hx hb hr hlk hP hD hS hpost dX9_keys_71
      · have hF := ifn hF c_3
        refine lv_iload_n hx hb dX9_keys_46 rfl (lv_at hl 2 rfl) ?_
        refine lv_aload_n hx hb dX9_keys_47 rfl (lv_at hl 0 rfl) ?_
        refine hget hx hb hts hown hE fl_X9_40 hP 0 rfl rfl dX9_keys_48 ?_
        refine hgetN hx hb hts hown hE fl_X9_206 hP 1 rfl rfl dX9_keys_51 ?_
        refine lv_icmp_ge (tgt := 69) hx hb dX9_keys_54 (by decide) (fun c_4 => ?_) (fun c_4 => ?_)
        · have hF := ifp hF c_4
          refine lv_bipush (v := (-6)) hx hb dX9_keys_69 (by decide) ?_
          have hF := Option.some.inj hF
          subst hF
          exact hm_iret hx hb hr hlk hP hD hS hpost dX9_keys_71
        · have hF := ifn hF c_4
          refine lv_iload_n hx hb dX9_keys_57 rfl (lv_at hl 2 rfl) ?_
          refine lv_aload_n hx hb dX9_keys_58 rfl (lv_at hl 0 rfl) ?_
          refine hget hx hb hts hown hE fl_X9_40 hP 0 rfl rfl dX9_keys_59 ?_
          refine hgetN hx hb hts hown hE fl_X9_207 hP 1 rfl rfl dX9_keys_62 ?_
          refine halen 0 (v := 24) hx hb hE hP 5 rfl rfl rfl dX9_keys_65 ?_
          refine lv_icmp_lt (tgt := 72) hx hb dX9_keys_66 (by decide) (fun c_5 => ?_) (fun c_5 => ?_)
          · have hF := ifp hF c_5
            refine lv_aload_n hx hb dX9_keys_72 rfl (lv_at hl 0 rfl) ?_
            refine hget hx hb hts hown hE fl_X9_70 hP 0 rfl rfl dX9_keys_73 ?_
            refine lv_aload_n hx hb dX9_keys_76 rfl (lv_at hl 0 rfl) ?_
            refine hget hx hb hts hown hE fl_X9_40 hP 0 rfl rfl dX9_keys_77 ?_
            refine hgetN hx hb hts hown hE fl_X9_207 hP 1 rfl rfl dX9_keys_80 ?_
            refine lv_iload_n hx hb dX9_keys_83 rfl (lv_at hl 2 rfl) ?_
            obtain ⟨hi_6, hF⟩ := inb hF
            refine hiald hx hb hE hP 5 rfl hi_6 dX9_keys_84 ?_
            refine hm_S (wn := [(ag, .inr (7, [.ref pd, .ref ru, .ref bk, .ref ju, .ref pr, .ref im, .ref jm, .ref rw, sv, .long gst])), (pr, .inr (4, [.ref qF, .ref qR, .ref qL, .ref qO, .int r26_1.1, .long r26_1.2.1, .int r26_1.2.2.1, .int r26_1.2.2.2.1])), (qF, .inl (gI G, 24, .inl r26_1.2.2.2.2.1)), (qR, .inl (gI G, 24, .inl r26_1.2.2.2.2.2.1)), (qL, .inl (gI G, 24, .inl r26_1.2.2.2.2.2.2.1)), (qO, .inl (gI G, 24, .inl r26_1.2.2.2.2.2.2.2)), (ru, .inr (5, [.int rb, .int rg, .int ro]))]) (wr := [(ag, .inr (7, [.ref pd, .ref ru, .ref bk, .ref ju, .ref pr, .ref im, .ref jm, .ref rw, sv, .long gst])), (pr, .inr (4, [.ref qF, .ref qR, .ref qL, .ref qO, .int r26_1.1, .long r26_1.2.1, .int r26_1.2.2.1, .int r26_1.2.2.2.1])), (qF, .inl (gI G, 24, .inl r26_1.2.2.2.2.1)), (qR, .inl (gI G, 24, .inl r26_1.2.2.2.2.2.1)), (qL, .inl (gI G, 24, .inl r26_1.2.2.2.2.2.2.1)), (qO, .inl (gI G, 24, .inl r26_1.2.2.2.2.2.2.2)), (ru, .inr (5, [.int rb, .int rg, .int ro]))]) (rest := []) (sn := [.int (f_X8_asTold gst (r26_1.2.2.2.2.2.2.2 (ii).toNatClampNeg))]) hx hb hml hown hts hE hA (k_X8_asTold G l gst (r26_1.2.2.2.2.2.2.2 (ii).toNatClampNeg) _ rfl) sm_X8_asTold mw_442 ⟨rfl, rfl, Nat.le_of_ble_eq_true rfl, Nat.le_of_ble_eq_true rfl⟩ hP hD hS [] [0, 1, 2, 3, 4, 5, 6] [0, 1, 2, 3, 4, 5, 6] rfl rfl rfl (by decide) hl.1 rfl rfl (Nat.le_of_ble_eq_true rfl) dX9_keys_85 ⟨Nat.le_of_ble_eq_true rfl, Nat.le_of_ble_eq_true rfl⟩ (fun H locs hP hD hS => ?_)
            have hF := Option.some.inj hF
            subst hF
            exact hm_iret hx hb hr hlk hP hD hS hpost dX9_keys_88
          · have hF := ifn hF c_5
            refine lv_bipush (v := (-6)) hx hb dX9_keys_69 (by decide) ?_
            have hF := Option.some.inj hF
            subst hF
            exact hm_iret hx hb hr hlk hP hD hS hpost dX9_keys_71
    · have hF := ifp hF c_2
      refine lv_aload_n hx hb dX9_keys_34 rfl (lv_at hl 0 rfl) ?_
      refine hget hx hb hts hown hE fl_X9_40 hP 0 rfl rfl dX9_keys_35 ?_
      refine hgetN hx hb hts hown hE fl_X9_206 hP 1 rfl rfl dX9_keys_38 ?_
      have hF := Option.some.inj hF
      subst hF
      exact hm_iret hx hb hr hlk hP hD hS hpost dX9_keys_41
  refine lv_icmp_eq (tgt := 13) hx hb dX9_keys_2 (by decide) (fun c_7 => ?_) (fun c_7 => ?_)
  · have hF := ifp hF c_7
    exact hB13 _ _ _ hF hP hD hS (lv_sub hl [0, 1, 2] rfl)
  · have hF := ifn hF c_7
    refine lv_iload_n hx hb dX9_keys_5 rfl (lv_at hl 1 rfl) ?_
    refine lv_iconst (v := 2) hx hb dX9_keys_6 (by decide) ?_
    refine lv_icmp_eq (tgt := 13) hx hb dX9_keys_7 (by decide) (fun c_8 => ?_) (fun c_8 => ?_)
    · have hF := ifp hF c_8
      exact hB13 _ _ _ hF hP hD hS (lv_sub hl [0, 1, 2] rfl)
    · have hF := ifn hF c_8
      refine lv_bipush (v := (-2)) hx hb dX9_keys_10 (by decide) ?_
      have hF := Option.some.inj hF
      subst hF
      exact hm_iret hx hb hr hlk hP hD hS hpost dX9_keys_12
def f_X9_book (gst : Int64) (psz : Int32) (psg : (Nat → Int32)) (rb : Int32) (rg : Int32) (ro : Int32) (jb : Int32) (jr : Int32) (je : Int64) (bc : Int32) (bs : (Nat → Int64)) (bl : (Nat → Int32)) (br : (Nat → Int32)) (bp : (Nat → Int32)) : Option (Int32 × Int32 × (Nat → Int64) × (Nat → Int32) × (Nat → Int32) × (Nat → Int32) × Int32 × Int32 × Int32 × Int64) :=
  Option.bind (f_X9_gameIsGood gst psz psg rb rg ro jb jr je) (fun r1_1 => if r1_1.1 = 0 then some ((-5), bc, bs, bl, br, bp, psz, r1_1.2.1, r1_1.2.2.1, r1_1.2.2.2) else if bc < 8 then Option.bind (f_X5_ending rb rg ro r1_1.2.2.2) (fun r48_4 => Option.bind (f_X0_add bc bs bl br bp psz psg gst r48_4) (fun r51_5 => jlet r51_5.1 (fun v1_6 => jlet (f_X3_clear) (fun r59_7 => some (v1_6, r51_5.2.1, r51_5.2.2.1, r51_5.2.2.2.1, r51_5.2.2.2.2.1, r51_5.2.2.2.2.2, r59_7, r1_1.2.1, r1_1.2.2.1, r1_1.2.2.2))))) else some ((-4), bc, bs, bl, br, bp, psz, r1_1.2.1, r1_1.2.2.1, r1_1.2.2.2))
abbrev rm_X9_book : Room := { frames := 7, cells := 0, slots := 0, locals := 180 }
set_option maxHeartbeats 4000000 in
set_option maxRecDepth 100000 in
theorem k_X9_book (G : gT) (l : Launch) (ag : Nat) (pd : Nat) (ru : Nat) (bk : Nat) (ju : Nat) (pr : Nat) (im : Nat) (jm : Nat) (rw : Nat) (pS : Nat) (bS : Nat) (bL : Nat) (bR : Nat) (bP : Nat) (sv : Value) (gst : Int64) (psz : Int32) (psg : (Nat → Int32)) (rb : Int32) (rg : Int32) (ro : Int32) (jb : Int32) (jr : Int32) (je : Int64) (bc : Int32) (bs : (Nat → Int64)) (bl : (Nat → Int32)) (br : (Nat → Int32)) (bp : (Nat → Int32)) (r : Int32 × Int32 × (Nat → Int64) × (Nat → Int32) × (Nat → Int32) × (Nat → Int32) × Int32 × Int32 × Int32 × Int64) (hF : f_X9_book gst psz psg rb rg ro jb jr je bc bs bl br bp = some r) : HM G l yX9_book (.code yX9_book cX9_book 2 (some .int) :: UW) rm_X9_book 0 0 [.ref ag] [(ag, .inr (7, [.ref pd, .ref ru, .ref bk, .ref ju, .ref pr, .ref im, .ref jm, .ref rw, sv, .long gst])), (pd, .inr (3, [.ref pS, .int psz])), (pS, .inl (gB G, 48, .inl psg)), (ru, .inr (5, [.int rb, .int rg, .int ro])), (ju, .inr (2, [.int jb, .int jr, .long je])), (bk, .inr (0, [.ref bS, .ref bL, .ref bR, .ref bP, .int bc])), (bS, .inl (gJ G, 8, .inr (.inl bs))), (bL, .inl (gI G, 8, .inl bl)), (bR, .inl (gI G, 8, .inl br)), (bP, .inl (gI G, 96, .inl bp))] (some (.int r.1)) [(ag, .inr (7, [.ref pd, .ref ru, .ref bk, .ref ju, .ref pr, .ref im, .ref jm, .ref rw, sv, .long gst])), (pd, .inr (3, [.ref pS, .int r.2.2.2.2.2.2.1])), (pS, .inl (gB G, 48, .inl psg)), (ru, .inr (5, [.int rb, .int rg, .int ro])), (ju, .inr (2, [.int r.2.2.2.2.2.2.2.1, .int r.2.2.2.2.2.2.2.2.1, .long r.2.2.2.2.2.2.2.2.2])), (bk, .inr (0, [.ref bS, .ref bL, .ref bR, .ref bP, .int r.2.1])), (bS, .inl (gJ G, 8, .inr (.inl r.2.2.1))), (bL, .inl (gI G, 8, .inl r.2.2.2.1)), (bR, .inl (gI G, 8, .inl r.2.2.2.2.1)), (bP, .inl (gI G, 96, .inl r.2.2.2.2.2.1))] := by
  refine HM.ofW (by decide) (Nat.le_of_ble_eq_true rfl) ?_
  intro p e s m args below meth c A post hpost hC hP hD hS ls hl
  obtain ⟨hx, hb, hr, hml, hown, hts, hlk, hE, hA⟩ := hC
  have hl : lv_has ls 2 [(0, .ref ag)] := hl
  unfold f_X9_book at hF
  refine lv_aload_n hx hb dX9_book_0 rfl (lv_at hl 0 rfl) ?_
  obtain ⟨r1_1, hr1_1, hF⟩ := bnd hF
  refine hm_V (wn := [(ag, .inr (7, [.ref pd, .ref ru, .ref bk, .ref ju, .ref pr, .ref im, .ref jm, .ref rw, sv, .long gst])), (pd, .inr (3, [.ref pS, .int psz])), (pS, .inl (gB G, 48, .inl psg)), (ru, .inr (5, [.int rb, .int rg, .int ro])), (ju, .inr (2, [.int r1_1.2.1, .int r1_1.2.2.1, .long r1_1.2.2.2])), (bk, .inr (0, [.ref bS, .ref bL, .ref bR, .ref bP, .int bc])), (bS, .inl (gJ G, 8, .inr (.inl bs))), (bL, .inl (gI G, 8, .inl bl)), (bR, .inl (gI G, 8, .inl br)), (bP, .inl (gI G, 96, .inl bp))]) (wr := [(bk, .inr (0, [.ref bS, .ref bL, .ref bR, .ref bP, .int bc])), (bS, .inl (gJ G, 8, .inr (.inl bs))), (bL, .inl (gI G, 8, .inl bl)), (bR, .inl (gI G, 8, .inl br)), (bP, .inl (gI G, 96, .inl bp))]) (rest := []) (sn := [.int r1_1.1]) hx hb hml hown hts hE hA (k_X9_gameIsGood G l ag pd ru bk ju pr im jm rw pS sv gst psz psg rb rg ro jb jr je r1_1 hr1_1) sm_X9_gameIsGood mw_428 ⟨rfl, rfl, Nat.le_of_ble_eq_true rfl, Nat.le_of_ble_eq_true rfl⟩ hP hD hS 0 rfl rfl [0, 1, 2, 3, 4] [5, 6, 7, 8, 9] [5, 6, 7, 8, 9, 0, 1, 2, 3, 4] rfl rfl rfl (by decide) hl.1 rfl rfl (Nat.le_of_ble_eq_true rfl) dX9_book_1 ⟨Nat.le_of_ble_eq_true rfl, Nat.le_of_ble_eq_true rfl⟩ (fun H locs hP hD hS => ?_)
  refine lv_if_ne (tgt := 10) hx hb dX9_book_4 (by decide) (fun c_2 => ?_) (fun c_2 => ?_)
  · have hF := ifn hF c_2
    refine lv_aload_n hx hb dX9_book_10 rfl (lv_at hl 0 rfl) ?_
    refine hget hx hb hts hown hE fl_X9_26 hP 0 rfl rfl dX9_book_11 ?_
    refine hgetN hx hb hts hown hE fl_X9_210 hP 5 rfl rfl dX9_book_14 ?_
    refine lv_bipush (v := 8) hx hb dX9_book_17 (by decide) ?_
    refine lv_icmp_lt (tgt := 25) hx hb dX9_book_19 (by decide) (fun c_3 => ?_) (fun c_3 => ?_)
    · have hF := ifp hF c_3
      refine lv_aload_n hx hb dX9_book_25 rfl (lv_at hl 0 rfl) ?_
      refine hget hx hb hts hown hE fl_X9_26 hP 0 rfl rfl dX9_book_26 ?_
      refine lv_aload_n hx hb dX9_book_29 rfl (lv_at hl 0 rfl) ?_
      refine hget hx hb hts hown hE fl_X9_70 hP 0 rfl rfl dX9_book_30 ?_
      refine lv_aload_n hx hb dX9_book_33 rfl (lv_at hl 0 rfl) ?_
      refine hget hx hb hts hown hE fl_X9_12 hP 0 rfl rfl dX9_book_34 ?_
      refine lv_aload_n hx hb dX9_book_37 rfl (lv_at hl 0 rfl) ?_
      refine hget hx hb hts hown hE fl_X9_19 hP 0 rfl rfl dX9_book_38 ?_
      refine lv_aload_n hx hb dX9_book_41 rfl (lv_at hl 0 rfl) ?_
      refine hget hx hb hts hown hE fl_X9_33 hP 0 rfl rfl dX9_book_42 ?_
      refine hgetN hx hb hts hown hE fl_X9_151 hP 4 rfl rfl dX9_book_45 ?_
      obtain ⟨r48_4, hr48_4, hF⟩ := bnd hF
      refine hm_V (wn := [(ag, .inr (7, [.ref pd, .ref ru, .ref bk, .ref ju, .ref pr, .ref im, .ref jm, .ref rw, sv, .long gst])), (pd, .inr (3, [.ref pS, .int psz])), (pS, .inl (gB G, 48, .inl psg)), (ru, .inr (5, [.int rb, .int rg, .int ro])), (ju, .inr (2, [.int r1_1.2.1, .int r1_1.2.2.1, .long r1_1.2.2.2])), (bk, .inr (0, [.ref bS, .ref bL, .ref bR, .ref bP, .int bc])), (bS, .inl (gJ G, 8, .inr (.inl bs))), (bL, .inl (gI G, 8, .inl bl)), (bR, .inl (gI G, 8, .inl br)), (bP, .inl (gI G, 96, .inl bp))]) (wr := [(ag, .inr (7, [.ref pd, .ref ru, .ref bk, .ref ju, .ref pr, .ref im, .ref jm, .ref rw, sv, .long gst])), (pd, .inr (3, [.ref pS, .int psz])), (pS, .inl (gB G, 48, .inl psg)), (ju, .inr (2, [.int r1_1.2.1, .int r1_1.2.2.1, .long r1_1.2.2.2])), (bk, .inr (0, [.ref bS, .ref bL, .ref bR, .ref bP, .int bc])), (bS, .inl (gJ G, 8, .inr (.inl bs))), (bL, .inl (gI G, 8, .inl bl)), (bR, .inl (gI G, 8, .inl br)), (bP, .inl (gI G, 96, .inl bp))]) (rest := [.ref pd, .long gst, .ref bk]) (sn := [.int r48_4, .ref pd, .long gst, .ref bk]) hx hb hml hown hts hE hA (k_X5_ending G l ru rb rg ro r1_1.2.2.2 r48_4 hr48_4) sm_X5_ending mw_360 ⟨rfl, rfl, Nat.le_of_ble_eq_true rfl, Nat.le_of_ble_eq_true rfl⟩ hP hD hS 3 rfl rfl [3] [0, 1, 2, 4, 5, 6, 7, 8, 9] [0, 1, 2, 9, 3, 4, 5, 6, 7, 8] rfl rfl rfl (by decide) hl.1 rfl rfl (Nat.le_of_ble_eq_true rfl) dX9_book_48 ⟨Nat.le_of_ble_eq_true rfl, Nat.le_of_ble_eq_true rfl⟩ (fun H locs hP hD hS => ?_)
      obtain ⟨r51_5, hr51_5, hF⟩ := bnd hF
      refine hm_V (wn := [(ag, .inr (7, [.ref pd, .ref ru, .ref bk, .ref ju, .ref pr, .ref im, .ref jm, .ref rw, sv, .long gst])), (pd, .inr (3, [.ref pS, .int psz])), (pS, .inl (gB G, 48, .inl psg)), (ru, .inr (5, [.int rb, .int rg, .int ro])), (ju, .inr (2, [.int r1_1.2.1, .int r1_1.2.2.1, .long r1_1.2.2.2])), (bk, .inr (0, [.ref bS, .ref bL, .ref bR, .ref bP, .int r51_5.2.1])), (bS, .inl (gJ G, 8, .inr (.inl r51_5.2.2.1))), (bL, .inl (gI G, 8, .inl r51_5.2.2.2.1)), (bR, .inl (gI G, 8, .inl r51_5.2.2.2.2.1)), (bP, .inl (gI G, 96, .inl r51_5.2.2.2.2.2))]) (wr := [(ag, .inr (7, [.ref pd, .ref ru, .ref bk, .ref ju, .ref pr, .ref im, .ref jm, .ref rw, sv, .long gst])), (ru, .inr (5, [.int rb, .int rg, .int ro])), (ju, .inr (2, [.int r1_1.2.1, .int r1_1.2.2.1, .long r1_1.2.2.2]))]) (rest := []) (sn := [.int r51_5.1]) hx hb hml hown hts hE hA (k_X0_add G l bk pd bS bL bR bP pS bc bs bl br bp psz psg gst r48_4 r51_5 hr51_5) sm_X0_add mw_615 ⟨rfl, rfl, Nat.le_of_ble_eq_true rfl, Nat.le_of_ble_eq_true rfl⟩ hP hD hS 5 rfl rfl [5, 6, 7, 8, 9, 1, 2] [0, 3, 4] [0, 8, 9, 1, 2, 3, 4, 5, 6, 7] rfl rfl rfl (by decide) hl.1 rfl rfl (Nat.le_of_ble_eq_true rfl) dX9_book_51 ⟨Nat.le_of_ble_eq_true rfl, Nat.le_of_ble_eq_true rfl⟩ (fun H locs hP hD hS => ?_)
      refine lv_topi (fun v1_6 ev1_6 => ?_)
      have hF := jl hF ev1_6
      refine lv_istore_n (lv' := [(1, .int v1_6), (0, .ref ag)]) hx hb dX9_book_54 rfl hl (by decide) rfl (fun ls hl => ?_)
      refine lv_aload_n hx hb dX9_book_55 rfl (lv_at hl 1 rfl) ?_
      refine hget hx hb hts hown hE fl_X9_12 hP 0 rfl rfl dX9_book_56 ?_
      obtain ⟨r59_7, hr59_7⟩ : ∃ z, z = f_X3_clear := ⟨_, rfl⟩
      have hF := jl hF hr59_7
      refine hm_V (wn := [(ag, .inr (7, [.ref pd, .ref ru, .ref bk, .ref ju, .ref pr, .ref im, .ref jm, .ref rw, sv, .long gst])), (pd, .inr (3, [.ref pS, .int r59_7])), (pS, .inl (gB G, 48, .inl psg)), (ru, .inr (5, [.int rb, .int rg, .int ro])), (ju, .inr (2, [.int r1_1.2.1, .int r1_1.2.2.1, .long r1_1.2.2.2])), (bk, .inr (0, [.ref bS, .ref bL, .ref bR, .ref bP, .int r51_5.2.1])), (bS, .inl (gJ G, 8, .inr (.inl r51_5.2.2.1))), (bL, .inl (gI G, 8, .inl r51_5.2.2.2.1)), (bR, .inl (gI G, 8, .inl r51_5.2.2.2.2.1)), (bP, .inl (gI G, 96, .inl r51_5.2.2.2.2.2))]) (wr := [(ag, .inr (7, [.ref pd, .ref ru, .ref bk, .ref ju, .ref pr, .ref im, .ref jm, .ref rw, sv, .long gst])), (pS, .inl (gB G, 48, .inl psg)), (ru, .inr (5, [.int rb, .int rg, .int ro])), (ju, .inr (2, [.int r1_1.2.1, .int r1_1.2.2.1, .long r1_1.2.2.2])), (bk, .inr (0, [.ref bS, .ref bL, .ref bR, .ref bP, .int r51_5.2.1])), (bS, .inl (gJ G, 8, .inr (.inl r51_5.2.2.1))), (bL, .inl (gI G, 8, .inl r51_5.2.2.2.1)), (bR, .inl (gI G, 8, .inl r51_5.2.2.2.2.1)), (bP, .inl (gI G, 96, .inl r51_5.2.2.2.2.2))]) (rest := []) (sn := []) hx hb hml hown hts hE hA (k_X3_clear G l pd pS psz r59_7 hr59_7.symm) sm_X3_clear mw_252 ⟨rfl, rfl, Nat.le_of_ble_eq_true rfl, Nat.le_of_ble_eq_true rfl⟩ hP hD hS 1 rfl rfl [1] [0, 2, 3, 4, 5, 6, 7, 8, 9] [0, 9, 1, 2, 3, 4, 5, 6, 7, 8] rfl rfl rfl (by decide) hl.1 rfl rfl (Nat.le_of_ble_eq_true rfl) dX9_book_59 ⟨Nat.le_of_ble_eq_true rfl, Nat.le_of_ble_eq_true rfl⟩ (fun H locs hP hD hS => ?_)
      refine lv_iload_n hx hb dX9_book_62 rfl (lv_at hl 0 rfl) ?_
      have hF := Option.some.inj hF
      subst hF
      exact hm_iret hx hb hr hlk hP hD hS hpost dX9_book_63
    · have hF := ifn hF c_3
      refine lv_bipush (v := (-4)) hx hb dX9_book_22 (by decide) ?_
      have hF := Option.some.inj hF
      subst hF
      exact hm_iret hx hb hr hlk hP hD hS hpost dX9_book_24
  · have hF := ifp hF c_2
    refine lv_bipush (v := (-5)) hx hb dX9_book_7 (by decide) ?_
    have hF := Option.some.inj hF
    subst hF
    exact hm_iret hx hb hr hlk hP hD hS hpost dX9_book_9
def f_X9_booked (bc : Int32) (bl : (Nat → Int32)) (br : (Nat → Int32)) (bp : (Nat → Int32)) (ga : Int32) (wh : Int32) : Option Int32 :=
  if ga < 0 then some (-1) else if ga < bc then if wh = 0 then Option.bind (f_X0_lengthOf bc bl ga) (fun r26_9 => some r26_9) else if wh = 1 then Option.bind (f_X0_broughtBy bc br ga) (fun r40_8 => some r40_8) else if wh < 10 then some (-2) else if wh < 22 then Option.bind (f_X0_moveOf bc bl bp ga (wh - 10)) (fun r70_7 => some r70_7) else some (-2) else some (-1)
abbrev rm_X9_booked : Room := { frames := 3, cells := 0, slots := 0, locals := 64 }
set_option maxHeartbeats 4000000 in
set_option maxRecDepth 100000 in
theorem k_X9_booked (G : gT) (l : Launch) (ag : Nat) (pd : Nat) (ru : Nat) (bk : Nat) (ju : Nat) (pr : Nat) (im : Nat) (jm : Nat) (rw : Nat) (bS : Nat) (bL : Nat) (bR : Nat) (bP : Nat) (sv : Value) (gst : Int64) (bc : Int32) (bs : (Nat → Int64)) (bl : (Nat → Int32)) (br : (Nat → Int32)) (bp : (Nat → Int32)) (ga : Int32) (wh : Int32) (r : Int32) (hF : f_X9_booked bc bl br bp ga wh = some r) : HM G l yX9_booked (.code yX9_booked cX9_booked 3 (some .int) :: UW) rm_X9_booked 0 0 [.ref ag, .int ga, .int wh] [(ag, .inr (7, [.ref pd, .ref ru, .ref bk, .ref ju, .ref pr, .ref im, .ref jm, .ref rw, sv, .long gst])), (bk, .inr (0, [.ref bS, .ref bL, .ref bR, .ref bP, .int bc])), (bS, .inl (gJ G, 8, .inr (.inl bs))), (bL, .inl (gI G, 8, .inl bl)), (bR, .inl (gI G, 8, .inl br)), (bP, .inl (gI G, 96, .inl bp))] (some (.int r)) [(ag, .inr (7, [.ref pd, .ref ru, .ref bk, .ref ju, .ref pr, .ref im, .ref jm, .ref rw, sv, .long gst])), (bk, .inr (0, [.ref bS, .ref bL, .ref bR, .ref bP, .int bc])), (bS, .inl (gJ G, 8, .inr (.inl bs))), (bL, .inl (gI G, 8, .inl bl)), (bR, .inl (gI G, 8, .inl br)), (bP, .inl (gI G, 96, .inl bp))] := by
  refine HM.ofW (by decide) (Nat.le_of_ble_eq_true rfl) ?_
  intro p e s m args below meth c A post hpost hC hP hD hS ls hl
  obtain ⟨hx, hb, hr, hml, hown, hts, hlk, hE, hA⟩ := hC
  have hl : lv_has ls 3 [(0, .ref ag), (1, .int ga), (2, .int wh)] := hl
  unfold f_X9_booked at hF
  refine lv_iload_n hx hb dX9_booked_0 rfl (lv_at hl 1 rfl) ?_
  refine lv_if_lt (tgt := 15) hx hb dX9_booked_1 (by decide) (fun c_1 => ?_) (fun c_1 => ?_)
  · have hF := ifp hF c_1
    refine lv_iconst (v := (-1)) hx hb dX9_booked_15 (by decide) ?_
    have hF := Option.some.inj hF
    subst hF
    exact hm_iret hx hb hr hlk hP hD hS hpost dX9_booked_16
  · have hF := ifn hF c_1
    refine lv_iload_n hx hb dX9_booked_4 rfl (lv_at hl 1 rfl) ?_
    refine lv_aload_n hx hb dX9_booked_5 rfl (lv_at hl 0 rfl) ?_
    refine hget hx hb hts hown hE fl_X9_26 hP 0 rfl rfl dX9_booked_6 ?_
    refine hgetN hx hb hts hown hE fl_X9_210 hP 1 rfl rfl dX9_booked_9 ?_
    refine lv_icmp_lt (tgt := 17) hx hb dX9_booked_12 (by decide) (fun c_2 => ?_) (fun c_2 => ?_)
    · have hF := ifp hF c_2
      refine lv_iload_n hx hb dX9_booked_17 rfl (lv_at hl 2 rfl) ?_
      refine lv_if_ne (tgt := 30) hx hb dX9_booked_18 (by decide) (fun c_3 => ?_) (fun c_3 => ?_)
      · have hF := ifn hF c_3
        refine lv_iload_n hx hb dX9_booked_30 rfl (lv_at hl 2 rfl) ?_
        refine lv_iconst (v := 1) hx hb dX9_booked_31 (by decide) ?_
        refine lv_icmp_ne (tgt := 44) hx hb dX9_booked_32 (by decide) (fun c_4 => ?_) (fun c_4 => ?_)
        · have hF := ifn hF c_4
          refine lv_iload_n hx hb dX9_booked_44 rfl (lv_at hl 2 rfl) ?_
          refine lv_bipush (v := 10) hx hb dX9_booked_45 (by decide) ?_
          refine lv_icmp_lt (tgt := 56) hx hb dX9_booked_47 (by decide) (fun c_5 => ?_) (fun c_5 => ?_)
          · have hF := ifp hF c_5
            refine lv_bipush (v := (-2)) hx hb dX9_booked_56 (by decide) ?_
            refine lv_goto (tgt := 73) hx hb dX9_booked_58 (by decide) ?_
            have hF := Option.some.inj hF
            subst hF
            exact hm_iret hx hb hr hlk hP hD hS hpost dX9_booked_73
          · have hF := ifn hF c_5
            refine lv_iload_n hx hb dX9_booked_50 rfl (lv_at hl 2 rfl) ?_
            refine lv_bipush (v := 22) hx hb dX9_booked_51 (by decide) ?_
            refine lv_icmp_lt (tgt := 61) hx hb dX9_booked_53 (by decide) (fun c_6 => ?_) (fun c_6 => ?_)
            · have hF := ifp hF c_6
              refine lv_aload_n hx hb dX9_booked_61 rfl (lv_at hl 0 rfl) ?_
              refine hget hx hb hts hown hE fl_X9_26 hP 0 rfl rfl dX9_booked_62 ?_
              refine lv_iload_n hx hb dX9_booked_65 rfl (lv_at hl 1 rfl) ?_
              refine lv_iload_n hx hb dX9_booked_66 rfl (lv_at hl 2 rfl) ?_
              refine lv_bipush (v := 10) hx hb dX9_booked_67 (by decide) ?_
              refine lv_isub hx hb dX9_booked_69 ?_
              obtain ⟨r70_7, hr70_7, hF⟩ := bnd hF
              refine hm_V (wn := [(ag, .inr (7, [.ref pd, .ref ru, .ref bk, .ref ju, .ref pr, .ref im, .ref jm, .ref rw, sv, .long gst])), (bk, .inr (0, [.ref bS, .ref bL, .ref bR, .ref bP, .int bc])), (bS, .inl (gJ G, 8, .inr (.inl bs))), (bL, .inl (gI G, 8, .inl bl)), (bR, .inl (gI G, 8, .inl br)), (bP, .inl (gI G, 96, .inl bp))]) (wr := [(ag, .inr (7, [.ref pd, .ref ru, .ref bk, .ref ju, .ref pr, .ref im, .ref jm, .ref rw, sv, .long gst])), (bS, .inl (gJ G, 8, .inr (.inl bs))), (bR, .inl (gI G, 8, .inl br))]) (rest := []) (sn := [.int r70_7]) hx hb hml hown hts hE hA (k_X0_moveOf G l bk bS bL bR bP bc bl bp ga (wh - 10) r70_7 hr70_7) sm_X0_moveOf mw_641 ⟨rfl, rfl, Nat.le_of_ble_eq_true rfl, Nat.le_of_ble_eq_true rfl⟩ hP hD hS 1 rfl rfl [1, 3, 5] [0, 2, 4] [0, 3, 1, 4, 2, 5] rfl rfl rfl (by decide) hl.1 rfl rfl (Nat.le_of_ble_eq_true rfl) dX9_booked_70 ⟨Nat.le_of_ble_eq_true rfl, Nat.le_of_ble_eq_true rfl⟩ (fun H locs hP hD hS => ?_)
              have hF := Option.some.inj hF
              subst hF
              exact hm_iret hx hb hr hlk hP hD hS hpost dX9_booked_73
            · have hF := ifn hF c_6
              refine lv_bipush (v := (-2)) hx hb dX9_booked_56 (by decide) ?_
              refine lv_goto (tgt := 73) hx hb dX9_booked_58 (by decide) ?_
              have hF := Option.some.inj hF
              subst hF
              exact hm_iret hx hb hr hlk hP hD hS hpost dX9_booked_73
        · have hF := ifp hF c_4
          refine lv_aload_n hx hb dX9_booked_35 rfl (lv_at hl 0 rfl) ?_
          refine hget hx hb hts hown hE fl_X9_26 hP 0 rfl rfl dX9_booked_36 ?_
          refine lv_iload_n hx hb dX9_booked_39 rfl (lv_at hl 1 rfl) ?_
          obtain ⟨r40_8, hr40_8, hF⟩ := bnd hF
          refine hm_V (wn := [(ag, .inr (7, [.ref pd, .ref ru, .ref bk, .ref ju, .ref pr, .ref im, .ref jm, .ref rw, sv, .long gst])), (bk, .inr (0, [.ref bS, .ref bL, .ref bR, .ref bP, .int bc])), (bS, .inl (gJ G, 8, .inr (.inl bs))), (bL, .inl (gI G, 8, .inl bl)), (bR, .inl (gI G, 8, .inl br)), (bP, .inl (gI G, 96, .inl bp))]) (wr := [(ag, .inr (7, [.ref pd, .ref ru, .ref bk, .ref ju, .ref pr, .ref im, .ref jm, .ref rw, sv, .long gst])), (bS, .inl (gJ G, 8, .inr (.inl bs))), (bL, .inl (gI G, 8, .inl bl)), (bP, .inl (gI G, 96, .inl bp))]) (rest := []) (sn := [.int r40_8]) hx hb hml hown hts hE hA (k_X0_broughtBy G l bk bS bL bR bP bc br ga r40_8 hr40_8) sm_X0_broughtBy mw_637 ⟨rfl, rfl, Nat.le_of_ble_eq_true rfl, Nat.le_of_ble_eq_true rfl⟩ hP hD hS 1 rfl rfl [1, 4] [0, 2, 3, 5] [0, 4, 1, 2, 5, 3] rfl rfl rfl (by decide) hl.1 rfl rfl (Nat.le_of_ble_eq_true rfl) dX9_booked_40 ⟨Nat.le_of_ble_eq_true rfl, Nat.le_of_ble_eq_true rfl⟩ (fun H locs hP hD hS => ?_)
          have hF := Option.some.inj hF
          subst hF
          exact hm_iret hx hb hr hlk hP hD hS hpost dX9_booked_43
      · have hF := ifp hF c_3
        refine lv_aload_n hx hb dX9_booked_21 rfl (lv_at hl 0 rfl) ?_
        refine hget hx hb hts hown hE fl_X9_26 hP 0 rfl rfl dX9_booked_22 ?_
        refine lv_iload_n hx hb dX9_booked_25 rfl (lv_at hl 1 rfl) ?_
        obtain ⟨r26_9, hr26_9, hF⟩ := bnd hF
        refine hm_V (wn := [(ag, .inr (7, [.ref pd, .ref ru, .ref bk, .ref ju, .ref pr, .ref im, .ref jm, .ref rw, sv, .long gst])), (bk, .inr (0, [.ref bS, .ref bL, .ref bR, .ref bP, .int bc])), (bS, .inl (gJ G, 8, .inr (.inl bs))), (bL, .inl (gI G, 8, .inl bl)), (bR, .inl (gI G, 8, .inl br)), (bP, .inl (gI G, 96, .inl bp))]) (wr := [(ag, .inr (7, [.ref pd, .ref ru, .ref bk, .ref ju, .ref pr, .ref im, .ref jm, .ref rw, sv, .long gst])), (bS, .inl (gJ G, 8, .inr (.inl bs))), (bR, .inl (gI G, 8, .inl br)), (bP, .inl (gI G, 96, .inl bp))]) (rest := []) (sn := [.int r26_9]) hx hb hml hown hts hE hA (k_X0_lengthOf G l bk bS bL bR bP bc bl ga r26_9 hr26_9) sm_X0_lengthOf mw_629 ⟨rfl, rfl, Nat.le_of_ble_eq_true rfl, Nat.le_of_ble_eq_true rfl⟩ hP hD hS 1 rfl rfl [1, 3] [0, 2, 4, 5] [0, 4, 1, 5, 2, 3] rfl rfl rfl (by decide) hl.1 rfl rfl (Nat.le_of_ble_eq_true rfl) dX9_booked_26 ⟨Nat.le_of_ble_eq_true rfl, Nat.le_of_ble_eq_true rfl⟩ (fun H locs hP hD hS => ?_)
        have hF := Option.some.inj hF
        subst hF
        exact hm_iret hx hb hr hlk hP hD hS hpost dX9_booked_29
    · have hF := ifn hF c_2
      refine lv_iconst (v := (-1)) hx hb dX9_booked_15 (by decide) ?_
      have hF := Option.some.inj hF
      subst hF
      exact hm_iret hx hb hr hlk hP hD hS hpost dX9_booked_16
def f_X9_next (gst : Int64) (psz : Int32) (psg : (Nat → Int32)) (bc : Int32) (bs : (Nat → Int64)) (bl : (Nat → Int32)) (br : (Nat → Int32)) (bp : (Nat → Int32)) (wh : Int32) : Option Int32 :=
  if wh < 0 then some (-2) else if wh ≤ 4 then Option.bind (f_X3_gameFault psz psg) (fun r16_3 => if r16_3 = (-6) then if wh = 0 then Option.bind (f_X0_countBegun bc bs bl bp psz psg gst) (fun r43_11 => some r43_11) else if 2 < wh then Option.bind (f_X0_mostPlayed bc bs bl bp psz psg gst) (fun r81_7 => if wh = 3 then some r81_7 else Option.bind (f_X0_timesPlayed bc bs bl bp psz psg gst r81_7) (fun r107_9 => some r107_9)) else Option.bind (f_X0_countWon bc bs bl br bp psz psg gst wh) (fun r65_10 => some r65_10) else some (-5)) else some (-2)
abbrev rm_X9_next : Room := { frames := 7, cells := 0, slots := 0, locals := 163 }
set_option maxHeartbeats 4000000 in
set_option maxRecDepth 100000 in
theorem k_X9_next (G : gT) (l : Launch) (ag : Nat) (pd : Nat) (ru : Nat) (bk : Nat) (ju : Nat) (pr : Nat) (im : Nat) (jm : Nat) (rw : Nat) (pS : Nat) (bS : Nat) (bL : Nat) (bR : Nat) (bP : Nat) (sv : Value) (gst : Int64) (psz : Int32) (psg : (Nat → Int32)) (bc : Int32) (bs : (Nat → Int64)) (bl : (Nat → Int32)) (br : (Nat → Int32)) (bp : (Nat → Int32)) (wh : Int32) (r : Int32) (hF : f_X9_next gst psz psg bc bs bl br bp wh = some r) : HM G l yX9_next (.code yX9_next cX9_next 3 (some .int) :: UW) rm_X9_next 0 0 [.ref ag, .int wh] [(ag, .inr (7, [.ref pd, .ref ru, .ref bk, .ref ju, .ref pr, .ref im, .ref jm, .ref rw, sv, .long gst])), (pd, .inr (3, [.ref pS, .int psz])), (pS, .inl (gB G, 48, .inl psg)), (bk, .inr (0, [.ref bS, .ref bL, .ref bR, .ref bP, .int bc])), (bS, .inl (gJ G, 8, .inr (.inl bs))), (bL, .inl (gI G, 8, .inl bl)), (bR, .inl (gI G, 8, .inl br)), (bP, .inl (gI G, 96, .inl bp))] (some (.int r)) [(ag, .inr (7, [.ref pd, .ref ru, .ref bk, .ref ju, .ref pr, .ref im, .ref jm, .ref rw, sv, .long gst])), (pd, .inr (3, [.ref pS, .int psz])), (pS, .inl (gB G, 48, .inl psg)), (bk, .inr (0, [.ref bS, .ref bL, .ref bR, .ref bP, .int bc])), (bS, .inl (gJ G, 8, .inr (.inl bs))), (bL, .inl (gI G, 8, .inl bl)), (bR, .inl (gI G, 8, .inl br)), (bP, .inl (gI G, 96, .inl bp))] := by
  refine HM.ofW (by decide) (Nat.le_of_ble_eq_true rfl) ?_
  intro p e s m args below meth c A post hpost hC hP hD hS ls hl
  obtain ⟨hx, hb, hr, hml, hown, hts, hlk, hE, hA⟩ := hC
  have hl : lv_has ls 3 [(0, .ref ag), (1, .int wh)] := hl
  unfold f_X9_next at hF
  refine lv_iload_n hx hb dX9_next_0 rfl (lv_at hl 1 rfl) ?_
  refine lv_if_lt (tgt := 9) hx hb dX9_next_1 (by decide) (fun c_1 => ?_) (fun c_1 => ?_)
  · have hF := ifp hF c_1
    refine lv_bipush (v := (-2)) hx hb dX9_next_9 (by decide) ?_
    have hF := Option.some.inj hF
    subst hF
    exact hm_iret hx hb hr hlk hP hD hS hpost dX9_next_11
  · have hF := ifn hF c_1
    refine lv_iload_n hx hb dX9_next_4 rfl (lv_at hl 1 rfl) ?_
    refine lv_iconst (v := 4) hx hb dX9_next_5 (by decide) ?_
    refine lv_icmp_le (tgt := 12) hx hb dX9_next_6 (by decide) (fun c_2 => ?_) (fun c_2 => ?_)
    · have hF := ifp hF c_2
      refine lv_aload_n hx hb dX9_next_12 rfl (lv_at hl 0 rfl) ?_
      refine hget hx hb hts hown hE fl_X9_12 hP 0 rfl rfl dX9_next_13 ?_
      obtain ⟨r16_3, hr16_3, hF⟩ := bnd hF
      refine hm_V (wn := [(ag, .inr (7, [.ref pd, .ref ru, .ref bk, .ref ju, .ref pr, .ref im, .ref jm, .ref rw, sv, .long gst])), (pd, .inr (3, [.ref pS, .int psz])), (pS, .inl (gB G, 48, .inl psg)), (bk, .inr (0, [.ref bS, .ref bL, .ref bR, .ref bP, .int bc])), (bS, .inl (gJ G, 8, .inr (.inl bs))), (bL, .inl (gI G, 8, .inl bl)), (bR, .inl (gI G, 8, .inl br)), (bP, .inl (gI G, 96, .inl bp))]) (wr := [(ag, .inr (7, [.ref pd, .ref ru, .ref bk, .ref ju, .ref pr, .ref im, .ref jm, .ref rw, sv, .long gst])), (bk, .inr (0, [.ref bS, .ref bL, .ref bR, .ref bP, .int bc])), (bS, .inl (gJ G, 8, .inr (.inl bs))), (bL, .inl (gI G, 8, .inl bl)), (bR, .inl (gI G, 8, .inl br)), (bP, .inl (gI G, 96, .inl bp))]) (rest := []) (sn := [.int r16_3]) hx hb hml hown hts hE hA (k_X3_gameFault G l pd pS psz psg r16_3 hr16_3) sm_X3_gameFault mw_282 ⟨rfl, rfl, Nat.le_of_ble_eq_true rfl, Nat.le_of_ble_eq_true rfl⟩ hP hD hS 1 rfl rfl [1, 2] [0, 3, 4, 5, 6, 7] [0, 6, 7, 1, 2, 3, 4, 5] rfl rfl rfl (by decide) hl.1 rfl rfl (Nat.le_of_ble_eq_true rfl) dX9_next_16 ⟨Nat.le_of_ble_eq_true rfl, Nat.le_of_ble_eq_true rfl⟩ (fun H locs hP hD hS => ?_)
      refine lv_bipush (v := (-6)) hx hb dX9_next_19 (by decide) ?_
      refine lv_icmp_eq (tgt := 27) hx hb dX9_next_21 (by decide) (fun c_4 => ?_) (fun c_4 => ?_)
      · have hF := ifp hF c_4
        refine lv_iload_n hx hb dX9_next_27 rfl (lv_at hl 1 rfl) ?_
        refine lv_if_ne (tgt := 47) hx hb dX9_next_28 (by decide) (fun c_5 => ?_) (fun c_5 => ?_)
        · have hF := ifn hF c_5
          refine lv_iload_n hx hb dX9_next_47 rfl (lv_at hl 1 rfl) ?_
          refine lv_iconst (v := 2) hx hb dX9_next_48 (by decide) ?_
          refine lv_icmp_gt (tgt := 69) hx hb dX9_next_49 (by decide) (fun c_6 => ?_) (fun c_6 => ?_)
          · have hF := ifp hF c_6
            refine lv_aload_n hx hb dX9_next_69 rfl (lv_at hl 0 rfl) ?_
            refine hget hx hb hts hown hE fl_X9_26 hP 0 rfl rfl dX9_next_70 ?_
            refine lv_aload_n hx hb dX9_next_73 rfl (lv_at hl 0 rfl) ?_
            refine hget hx hb hts hown hE fl_X9_70 hP 0 rfl rfl dX9_next_74 ?_
            refine lv_aload_n hx hb dX9_next_77 rfl (lv_at hl 0 rfl) ?_
            refine hget hx hb hts hown hE fl_X9_12 hP 0 rfl rfl dX9_next_78 ?_
            obtain ⟨r81_7, hr81_7, hF⟩ := bnd hF
            refine hm_V (wn := [(ag, .inr (7, [.ref pd, .ref ru, .ref bk, .ref ju, .ref pr, .ref im, .ref jm, .ref rw, sv, .long gst])), (pd, .inr (3, [.ref pS, .int psz])), (pS, .inl (gB G, 48, .inl psg)), (bk, .inr (0, [.ref bS, .ref bL, .ref bR, .ref bP, .int bc])), (bS, .inl (gJ G, 8, .inr (.inl bs))), (bL, .inl (gI G, 8, .inl bl)), (bR, .inl (gI G, 8, .inl br)), (bP, .inl (gI G, 96, .inl bp))]) (wr := [(ag, .inr (7, [.ref pd, .ref ru, .ref bk, .ref ju, .ref pr, .ref im, .ref jm, .ref rw, sv, .long gst])), (bR, .inl (gI G, 8, .inl br))]) (rest := []) (sn := [.int r81_7]) hx hb hml hown hts hE hA (k_X0_mostPlayed G l bk pd bS bL bR bP pS bc bs bl bp psz psg gst r81_7 hr81_7) sm_X0_mostPlayed mw_664 ⟨rfl, rfl, Nat.le_of_ble_eq_true rfl, Nat.le_of_ble_eq_true rfl⟩ hP hD hS 3 rfl rfl [3, 4, 5, 7, 1, 2] [0, 6] [0, 6, 7, 2, 3, 4, 1, 5] rfl rfl rfl (by decide) hl.1 rfl rfl (Nat.le_of_ble_eq_true rfl) dX9_next_81 ⟨Nat.le_of_ble_eq_true rfl, Nat.le_of_ble_eq_true rfl⟩ (fun H locs hP hD hS => ?_)
            refine lv_istore_n (lv' := [(2, .int r81_7), (0, .ref ag), (1, .int wh)]) hx hb dX9_next_84 rfl hl (by decide) rfl (fun ls hl => ?_)
            refine lv_iload_n hx hb dX9_next_85 rfl (lv_at hl 2 rfl) ?_
            refine lv_iconst (v := 3) hx hb dX9_next_86 (by decide) ?_
            refine lv_icmp_ne (tgt := 94) hx hb dX9_next_87 (by decide) (fun c_8 => ?_) (fun c_8 => ?_)
            · have hF := ifn hF c_8
              refine lv_aload_n hx hb dX9_next_94 rfl (lv_at hl 1 rfl) ?_
              refine hget hx hb hts hown hE fl_X9_26 hP 0 rfl rfl dX9_next_95 ?_
              refine lv_aload_n hx hb dX9_next_98 rfl (lv_at hl 1 rfl) ?_
              refine hget hx hb hts hown hE fl_X9_70 hP 0 rfl rfl dX9_next_99 ?_
              refine lv_aload_n hx hb dX9_next_102 rfl (lv_at hl 1 rfl) ?_
              refine hget hx hb hts hown hE fl_X9_12 hP 0 rfl rfl dX9_next_103 ?_
              refine lv_iload_n hx hb dX9_next_106 rfl (lv_at hl 0 rfl) ?_
              obtain ⟨r107_9, hr107_9, hF⟩ := bnd hF
              refine hm_V (wn := [(ag, .inr (7, [.ref pd, .ref ru, .ref bk, .ref ju, .ref pr, .ref im, .ref jm, .ref rw, sv, .long gst])), (pd, .inr (3, [.ref pS, .int psz])), (pS, .inl (gB G, 48, .inl psg)), (bk, .inr (0, [.ref bS, .ref bL, .ref bR, .ref bP, .int bc])), (bS, .inl (gJ G, 8, .inr (.inl bs))), (bL, .inl (gI G, 8, .inl bl)), (bR, .inl (gI G, 8, .inl br)), (bP, .inl (gI G, 96, .inl bp))]) (wr := [(ag, .inr (7, [.ref pd, .ref ru, .ref bk, .ref ju, .ref pr, .ref im, .ref jm, .ref rw, sv, .long gst])), (bR, .inl (gI G, 8, .inl br))]) (rest := []) (sn := [.int r107_9]) hx hb hml hown hts hE hA (k_X0_timesPlayed G l bk pd bS bL bR bP pS bc bs bl bp psz psg gst r81_7 r107_9 hr107_9) sm_X0_timesPlayed mw_672 ⟨rfl, rfl, Nat.le_of_ble_eq_true rfl, Nat.le_of_ble_eq_true rfl⟩ hP hD hS 3 rfl rfl [3, 4, 5, 7, 1, 2] [0, 6] [0, 6, 7, 2, 3, 4, 1, 5] rfl rfl rfl (by decide) hl.1 rfl rfl (Nat.le_of_ble_eq_true rfl) dX9_next_107 ⟨Nat.le_of_ble_eq_true rfl, Nat.le_of_ble_eq_true rfl⟩ (fun H locs hP hD hS => ?_)
              have hF := Option.some.inj hF
              subst hF
              exact hm_iret hx hb hr hlk hP hD hS hpost dX9_next_110
            · have hF := ifp hF c_8
              refine lv_iload_n hx hb dX9_next_90 rfl (lv_at hl 0 rfl) ?_
              refine lv_goto (tgt := 110) hx hb dX9_next_91 (by decide) ?_
              have hF := Option.some.inj hF
              subst hF
              exact hm_iret hx hb hr hlk hP hD hS hpost dX9_next_110
          · have hF := ifn hF c_6
            refine lv_aload_n hx hb dX9_next_52 rfl (lv_at hl 0 rfl) ?_
            refine hget hx hb hts hown hE fl_X9_26 hP 0 rfl rfl dX9_next_53 ?_
            refine lv_aload_n hx hb dX9_next_56 rfl (lv_at hl 0 rfl) ?_
            refine hget hx hb hts hown hE fl_X9_70 hP 0 rfl rfl dX9_next_57 ?_
            refine lv_aload_n hx hb dX9_next_60 rfl (lv_at hl 0 rfl) ?_
            refine hget hx hb hts hown hE fl_X9_12 hP 0 rfl rfl dX9_next_61 ?_
            refine lv_iload_n hx hb dX9_next_64 rfl (lv_at hl 1 rfl) ?_
            obtain ⟨r65_10, hr65_10, hF⟩ := bnd hF
            refine hm_V (wn := [(ag, .inr (7, [.ref pd, .ref ru, .ref bk, .ref ju, .ref pr, .ref im, .ref jm, .ref rw, sv, .long gst])), (pd, .inr (3, [.ref pS, .int psz])), (pS, .inl (gB G, 48, .inl psg)), (bk, .inr (0, [.ref bS, .ref bL, .ref bR, .ref bP, .int bc])), (bS, .inl (gJ G, 8, .inr (.inl bs))), (bL, .inl (gI G, 8, .inl bl)), (bR, .inl (gI G, 8, .inl br)), (bP, .inl (gI G, 96, .inl bp))]) (wr := [(ag, .inr (7, [.ref pd, .ref ru, .ref bk, .ref ju, .ref pr, .ref im, .ref jm, .ref rw, sv, .long gst]))]) (rest := []) (sn := [.int r65_10]) hx hb hml hown hts hE hA (k_X0_countWon G l bk pd bS bL bR bP pS bc bs bl br bp psz psg gst wh r65_10 hr65_10) sm_X0_countWon mw_659 ⟨rfl, rfl, Nat.le_of_ble_eq_true rfl, Nat.le_of_ble_eq_true rfl⟩ hP hD hS 3 rfl rfl [3, 4, 5, 6, 7, 1, 2] [0] [0, 6, 7, 1, 2, 3, 4, 5] rfl rfl rfl (by decide) hl.1 rfl rfl (Nat.le_of_ble_eq_true rfl) dX9_next_65 ⟨Nat.le_of_ble_eq_true rfl, Nat.le_of_ble_eq_true rfl⟩ (fun H locs hP hD hS => ?_)
            have hF := Option.some.inj hF
            subst hF
            exact hm_iret hx hb hr hlk hP hD hS hpost dX9_next_68
        · have hF := ifp hF c_5
          refine lv_aload_n hx hb dX9_next_31 rfl (lv_at hl 0 rfl) ?_
          refine hget hx hb hts hown hE fl_X9_26 hP 0 rfl rfl dX9_next_32 ?_
          refine lv_aload_n hx hb dX9_next_35 rfl (lv_at hl 0 rfl) ?_
          refine hget hx hb hts hown hE fl_X9_70 hP 0 rfl rfl dX9_next_36 ?_
          refine lv_aload_n hx hb dX9_next_39 rfl (lv_at hl 0 rfl) ?_
          refine hget hx hb hts hown hE fl_X9_12 hP 0 rfl rfl dX9_next_40 ?_
          obtain ⟨r43_11, hr43_11, hF⟩ := bnd hF
          refine hm_V (wn := [(ag, .inr (7, [.ref pd, .ref ru, .ref bk, .ref ju, .ref pr, .ref im, .ref jm, .ref rw, sv, .long gst])), (pd, .inr (3, [.ref pS, .int psz])), (pS, .inl (gB G, 48, .inl psg)), (bk, .inr (0, [.ref bS, .ref bL, .ref bR, .ref bP, .int bc])), (bS, .inl (gJ G, 8, .inr (.inl bs))), (bL, .inl (gI G, 8, .inl bl)), (bR, .inl (gI G, 8, .inl br)), (bP, .inl (gI G, 96, .inl bp))]) (wr := [(ag, .inr (7, [.ref pd, .ref ru, .ref bk, .ref ju, .ref pr, .ref im, .ref jm, .ref rw, sv, .long gst])), (bR, .inl (gI G, 8, .inl br))]) (rest := []) (sn := [.int r43_11]) hx hb hml hown hts hE hA (k_X0_countBegun G l bk pd bS bL bR bP pS bc bs bl bp psz psg gst r43_11 hr43_11) sm_X0_countBegun mw_650 ⟨rfl, rfl, Nat.le_of_ble_eq_true rfl, Nat.le_of_ble_eq_true rfl⟩ hP hD hS 3 rfl rfl [3, 4, 5, 7, 1, 2] [0, 6] [0, 6, 7, 2, 3, 4, 1, 5] rfl rfl rfl (by decide) hl.1 rfl rfl (Nat.le_of_ble_eq_true rfl) dX9_next_43 ⟨Nat.le_of_ble_eq_true rfl, Nat.le_of_ble_eq_true rfl⟩ (fun H locs hP hD hS => ?_)
          have hF := Option.some.inj hF
          subst hF
          exact hm_iret hx hb hr hlk hP hD hS hpost dX9_next_46
      · have hF := ifn hF c_4
        refine lv_bipush (v := (-5)) hx hb dX9_next_24 (by decide) ?_
        have hF := Option.some.inj hF
        subst hF
        exact hm_iret hx hb hr hlk hP hD hS hpost dX9_next_26
    · have hF := ifn hF c_2
      refine lv_bipush (v := (-2)) hx hb dX9_next_9 (by decide) ?_
      have hF := Option.some.inj hF
      subst hF
      exact hm_iret hx hb hr hlk hP hD hS hpost dX9_next_11
def f_X9_drawn_B126 (rb : Int32) (rg : Int32) (ro : Int32) (wh : Int32) (x3_3 : Int64) (x6_5 : Int32) (ra_8 : (Nat → Int32)) : Option (Int32 × (Nat → Int32)) :=
  if wh = 0 then Option.bind (f_X5_ending rb rg ro x3_3) (fun r135_10 => some (r135_10, ra_8)) else some (x6_5, ra_8)
def f_X9_drawn_L37 (rb : Int32) (rg : Int32) (ro : Int32) (wh : Int32) : Nat → Int64 → Int32 → Int32 → Int32 → (Nat → Int32) → Option (Int32 × (Nat → Int32))
  | 0, _, _, _, _, _ => none
  | n+1, x3_3, x5_4, x6_5, x7_6, ra_7 =>
  if 60 ≤ x7_6 then f_X9_drawn_B126 rb rg ro wh x3_3 x6_5 ra_7 else Option.bind (f_X5_list rb rg ro ra_7 24 x3_3 0) (fun r54_12 => jlet r54_12.1 (fun v8_13 => if 0 < v8_13 then jlet (jrem ((75 * x5_4) + 74) 65537) (fun v5_15 => if v8_13 = 0 then none else jlet (jrem v5_15 v8_13) (fun v9_17 => if v9_17 < 0 then f_X9_drawn_B126 rb rg ro wh x3_3 x6_5 r54_12.2 else if v9_17 < 24 then if (v9_17) < 0 ∨ 24 ≤ (v9_17).toNatClampNeg then none else Option.bind (f_X8_after x3_3 (r54_12.2 (v9_17).toNatClampNeg)) (fun r113_21 => jlet (x6_5 + 1) (fun v6_22 => jlet (x7_6 + 1) (fun v7_23 => (f_X9_drawn_L37 rb rg ro wh n) r113_21 v5_15 v6_22 v7_23 r54_12.2))) else f_X9_drawn_B126 rb rg ro wh x3_3 x6_5 r54_12.2)) else f_X9_drawn_B126 rb rg ro wh x3_3 x6_5 r54_12.2))
def f_X9_drawn_B23 (gst : Int64) (rb : Int32) (rg : Int32) (ro : Int32) (ra : (Nat → Int32)) (se : Int32) (wh : Int32) : Option (Int32 × (Nat → Int32)) :=
  f_X9_drawn_L37 rb rg ro wh 100 gst se 0 0 ra
def f_X9_drawn (gst : Int64) (rb : Int32) (rg : Int32) (ro : Int32) (ra : (Nat → Int32)) (se : Int32) (wh : Int32) : Option (Int32 × (Nat → Int32)) :=
  if se < 0 then some ((-2), ra) else if 9999 < se then some ((-2), ra) else if wh = 0 then f_X9_drawn_B23 gst rb rg ro ra se wh else if wh = 1 then f_X9_drawn_B23 gst rb rg ro ra se wh else some ((-2), ra)
abbrev rm_X9_drawn : Room := { frames := 4, cells := 0, slots := 0, locals := 105 }
set_option maxHeartbeats 4000000 in
set_option maxRecDepth 100000 in
theorem k_X9_drawn (G : gT) (l : Launch) (ag : Nat) (pd : Nat) (ru : Nat) (bk : Nat) (ju : Nat) (pr : Nat) (im : Nat) (jm : Nat) (rw : Nat) (sv : Value) (gst : Int64) (rb : Int32) (rg : Int32) (ro : Int32) (ra : (Nat → Int32)) (se : Int32) (wh : Int32) (r : Int32 × (Nat → Int32)) (hF : f_X9_drawn gst rb rg ro ra se wh = some r) : HM G l yX9_drawn (.code yX9_drawn cX9_drawn 10 (some .int) :: UW) rm_X9_drawn 0 0 [.ref ag, .int se, .int wh] [(ag, .inr (7, [.ref pd, .ref ru, .ref bk, .ref ju, .ref pr, .ref im, .ref jm, .ref rw, sv, .long gst])), (ru, .inr (5, [.int rb, .int rg, .int ro])), (rw, .inl (gI G, 24, .inl ra))] (some (.int r.1)) [(ag, .inr (7, [.ref pd, .ref ru, .ref bk, .ref ju, .ref pr, .ref im, .ref jm, .ref rw, sv, .long gst])), (ru, .inr (5, [.int rb, .int rg, .int ro])), (rw, .inl (gI G, 24, .inl r.2))] := by
  refine HM.ofW (by decide) (Nat.le_of_ble_eq_true rfl) ?_
  intro p e s m args below meth c A post hpost hC hP hD hS ls hl
  obtain ⟨hx, hb, hr, hml, hown, hts, hlk, hE, hA⟩ := hC
  have hl : lv_has ls 10 [(0, .ref ag), (1, .int se), (2, .int wh)] := hl
  unfold f_X9_drawn at hF
  refine lv_iload_n hx hb dX9_drawn_0 rfl (lv_at hl 1 rfl) ?_
  refine lv_if_lt (tgt := 20) hx hb dX9_drawn_1 (by decide) (fun c_1 => ?_) (fun c_1 => ?_)
  · have hF := ifp hF c_1
    refine lv_bipush (v := (-2)) hx hb dX9_drawn_20 (by decide) ?_
    have hF := Option.some.inj hF
    subst hF
    exact hm_iret hx hb hr hlk hP hD hS hpost dX9_drawn_22
  · have hF := ifn hF c_1
    refine lv_iload_n hx hb dX9_drawn_4 rfl (lv_at hl 1 rfl) ?_
    refine lv_sipush (v := 9999) hx hb dX9_drawn_5 (by decide) ?_
    refine lv_icmp_gt (tgt := 20) hx hb dX9_drawn_8 (by decide) (fun c_2 => ?_) (fun c_2 => ?_)
    · have hF := ifp hF c_2
      refine lv_bipush (v := (-2)) hx hb dX9_drawn_20 (by decide) ?_
      have hF := Option.some.inj hF
      subst hF
      exact hm_iret hx hb hr hlk hP hD hS hpost dX9_drawn_22
    · have hF := ifn hF c_2
      refine lv_iload_n hx hb dX9_drawn_11 rfl (lv_at hl 2 rfl) ?_
      have hB23 : ∀ (H : Heap) (locs : List Loc) (ls : Array Slot), f_X9_drawn_B23 gst rb rg ro ra se wh = some r → va_P (gD G) vwCl [(ag, .inr (7, [.ref pd, .ref ru, .ref bk, .ref ju, .ref pr, .ref im, .ref jm, .ref rw, sv, .long gst])), (ru, .inr (5, [.int rb, .int rg, .int ro])), (rw, .inl (gI G, 24, .inl ra))] H → va_D A [(ag, .inr (7, [.ref pd, .ref ru, .ref bk, .ref ju, .ref pr, .ref im, .ref jm, .ref rw, sv, .long gst])), (ru, .inr (5, [.int rb, .int rg, .int ro])), (rw, .inl (gI G, 24, .inl ra))] → va_S A s.heap H locs → lv_has ls 10 [(0, .ref ag), (1, .int se), (2, .int wh)] → W p l e rm_X9_drawn s m args below meth c H locs 0 0 (MQ below (HXq G post A) args s 0 0 A) (F0 m 23 ls []) := by
        intro H locs ls hF hP hD hS hl
        unfold f_X9_drawn_B23 at hF
        refine lv_aload_n hx hb dX9_drawn_23 rfl (lv_at hl 0 rfl) ?_
        refine hget hx hb hts hown hE fl_X9_70 hP 0 rfl rfl dX9_drawn_24 ?_
        refine lv_lstore_n (lv' := [(3, .long gst), (0, .ref ag), (1, .int se), (2, .int wh)]) hx hb dX9_drawn_27 rfl hl (by decide) rfl (fun ls hl => ?_)
        refine lv_iload_n hx hb dX9_drawn_28 rfl (lv_at hl 2 rfl) ?_
        refine lv_istore (lv' := [(5, .int se), (3, .long gst), (0, .ref ag), (1, .int se), (2, .int wh)]) hx hb dX9_drawn_29 hl (by decide) rfl (fun ls hl => ?_)
        refine lv_iconst (v := 0) hx hb dX9_drawn_31 (by decide) ?_
        refine lv_istore (lv' := [(6, .int 0), (5, .int se), (3, .long gst), (0, .ref ag), (1, .int se), (2, .int wh)]) hx hb dX9_drawn_32 hl (by decide) rfl (fun ls hl => ?_)
        refine lv_iconst (v := 0) hx hb dX9_drawn_34 (by decide) ?_
        refine lv_istore (lv' := [(7, .int 0), (6, .int 0), (5, .int se), (3, .long gst), (0, .ref ag), (1, .int se), (2, .int wh)]) hx hb dX9_drawn_35 hl (by decide) rfl (fun ls hl => ?_)
        have hL37 : ∀ (n37 : Nat) (x3_3 : Int64) (x5_4 : Int32) (x6_5 : Int32) (x7_6 : Int32) (ra_7 : (Nat → Int32)) (H : Heap) (locs : List Loc) (ls : Array Slot), f_X9_drawn_L37 rb rg ro wh n37 x3_3 x5_4 x6_5 x7_6 ra_7 = some r → va_P (gD G) vwCl [(ag, .inr (7, [.ref pd, .ref ru, .ref bk, .ref ju, .ref pr, .ref im, .ref jm, .ref rw, sv, .long gst])), (ru, .inr (5, [.int rb, .int rg, .int ro])), (rw, .inl (gI G, 24, .inl ra_7))] H → va_D A [(ag, .inr (7, [.ref pd, .ref ru, .ref bk, .ref ju, .ref pr, .ref im, .ref jm, .ref rw, sv, .long gst])), (ru, .inr (5, [.int rb, .int rg, .int ro])), (rw, .inl (gI G, 24, .inl ra_7))] → va_S A s.heap H locs → lv_has ls 10 [(0, .ref ag), (2, .int wh), (3, .long x3_3), (5, .int x5_4), (6, .int x6_5), (7, .int x7_6)] → W p l e rm_X9_drawn s m args below meth c H locs 0 0 (MQ below (HXq G post A) args s 0 0 A) (F0 m 37 ls []) := by
          intro n37
          induction n37 with
          | zero =>
            intro x3_3 x5_4 x6_5 x7_6 ra_7 H locs ls hF
            exact absurd hF (fun h => by cases h)
          | succ n37 ih37 =>
            intro x3_3 x5_4 x6_5 x7_6 ra_7 H locs ls hF hP hD hS hl
            unfold f_X9_drawn_L37 at hF
            refine lv_iload hx hb dX9_drawn_37 (lv_at hl 5 rfl) ?_
            refine lv_bipush (v := 60) hx hb dX9_drawn_39 (by decide) ?_
            have hB126 : ∀ (ra_8 : (Nat → Int32)) (H : Heap) (locs : List Loc) (ls : Array Slot), f_X9_drawn_B126 rb rg ro wh x3_3 x6_5 ra_8 = some r → va_P (gD G) vwCl [(ag, .inr (7, [.ref pd, .ref ru, .ref bk, .ref ju, .ref pr, .ref im, .ref jm, .ref rw, sv, .long gst])), (ru, .inr (5, [.int rb, .int rg, .int ro])), (rw, .inl (gI G, 24, .inl ra_8))] H → va_D A [(ag, .inr (7, [.ref pd, .ref ru, .ref bk, .ref ju, .ref pr, .ref im, .ref jm, .ref rw, sv, .long gst])), (ru, .inr (5, [.int rb, .int rg, .int ro])), (rw, .inl (gI G, 24, .inl ra_8))] → va_S A s.heap H locs → lv_has ls 10 [(0, .ref ag), (2, .int wh), (3, .long x3_3), (6, .int x6_5)] → W p l e rm_X9_drawn s m args below meth c H locs 0 0 (MQ below (HXq G post A) args s 0 0 A) (F0 m 126 ls []) := by
              intro ra_8 H locs ls hF hP hD hS hl
              unfold f_X9_drawn_B126 at hF
              refine lv_iload_n hx hb dX9_drawn_126 rfl (lv_at hl 1 rfl) ?_
              refine lv_if_ne (tgt := 141) hx hb dX9_drawn_127 (by decide) (fun c_9 => ?_) (fun c_9 => ?_)
              · have hF := ifn hF c_9
                refine lv_iload hx hb dX9_drawn_141 (lv_at hl 3 rfl) ?_
                have hF := Option.some.inj hF
                subst hF
                exact hm_iret hx hb hr hlk hP hD hS hpost dX9_drawn_143
              · have hF := ifp hF c_9
                refine lv_aload_n hx hb dX9_drawn_130 rfl (lv_at hl 0 rfl) ?_
                refine hget hx hb hts hown hE fl_X9_19 hP 0 rfl rfl dX9_drawn_131 ?_
                refine lv_lload_n hx hb dX9_drawn_134 rfl (lv_at hl 2 rfl) ?_
                obtain ⟨r135_10, hr135_10, hF⟩ := bnd hF
                refine hm_V (wn := [(ag, .inr (7, [.ref pd, .ref ru, .ref bk, .ref ju, .ref pr, .ref im, .ref jm, .ref rw, sv, .long gst])), (ru, .inr (5, [.int rb, .int rg, .int ro])), (rw, .inl (gI G, 24, .inl ra_8))]) (wr := [(ag, .inr (7, [.ref pd, .ref ru, .ref bk, .ref ju, .ref pr, .ref im, .ref jm, .ref rw, sv, .long gst])), (rw, .inl (gI G, 24, .inl ra_8))]) (rest := []) (sn := [.int r135_10]) hx hb hml hown hts hE hA (k_X5_ending G l ru rb rg ro x3_3 r135_10 hr135_10) sm_X5_ending mw_360 ⟨rfl, rfl, Nat.le_of_ble_eq_true rfl, Nat.le_of_ble_eq_true rfl⟩ hP hD hS 1 rfl rfl [1] [0, 2] [0, 2, 1] rfl rfl rfl (by decide) hl.1 rfl rfl (Nat.le_of_ble_eq_true rfl) dX9_drawn_135 ⟨Nat.le_of_ble_eq_true rfl, Nat.le_of_ble_eq_true rfl⟩ (fun H locs hP hD hS => ?_)
                refine lv_goto (tgt := 143) hx hb dX9_drawn_138 (by decide) ?_
                have hF := Option.some.inj hF
                subst hF
                exact hm_iret hx hb hr hlk hP hD hS hpost dX9_drawn_143
            refine lv_icmp_ge (tgt := 126) hx hb dX9_drawn_41 (by decide) (fun c_11 => ?_) (fun c_11 => ?_)
            · have hF := ifp hF c_11
              exact hB126 ra_7 _ _ _ hF hP hD hS (lv_sub hl [0, 1, 2, 4] rfl)
            · have hF := ifn hF c_11
              refine lv_aload_n hx hb dX9_drawn_44 rfl (lv_at hl 0 rfl) ?_
              refine hget hx hb hts hown hE fl_X9_19 hP 0 rfl rfl dX9_drawn_45 ?_
              refine lv_lload_n hx hb dX9_drawn_48 rfl (lv_at hl 2 rfl) ?_
              refine lv_aload_n hx hb dX9_drawn_49 rfl (lv_at hl 0 rfl) ?_
              refine hget hx hb hts hown hE fl_X9_54 hP 0 rfl rfl dX9_drawn_50 ?_
              refine lv_iconst (v := 0) hx hb dX9_drawn_53 (by decide) ?_
              obtain ⟨r54_12, hr54_12, hF⟩ := bnd hF
              refine hm_V (wn := [(ag, .inr (7, [.ref pd, .ref ru, .ref bk, .ref ju, .ref pr, .ref im, .ref jm, .ref rw, sv, .long gst])), (ru, .inr (5, [.int rb, .int rg, .int ro])), (rw, .inl (gI G, 24, .inl r54_12.2))]) (wr := [(ag, .inr (7, [.ref pd, .ref ru, .ref bk, .ref ju, .ref pr, .ref im, .ref jm, .ref rw, sv, .long gst]))]) (rest := []) (sn := [.int r54_12.1]) hx hb hml hown hts hE hA (k_X5_list G l ru rw rb rg ro ra_7 24 x3_3 0 r54_12 hr54_12) sm_X5_list mw_437 ⟨rfl, rfl, Nat.le_of_ble_eq_true rfl, Nat.le_of_ble_eq_true rfl⟩ hP hD hS 1 rfl rfl [1, 2] [0] [0, 1, 2] rfl rfl rfl (by decide) hl.1 rfl rfl (Nat.le_of_ble_eq_true rfl) dX9_drawn_54 ⟨Nat.le_of_ble_eq_true rfl, Nat.le_of_ble_eq_true rfl⟩ (fun H locs hP hD hS => ?_)
              refine lv_topi (fun v8_13 ev8_13 => ?_)
              have hF := jl hF ev8_13
              refine lv_istore (lv' := [(8, .int v8_13), (0, .ref ag), (2, .int wh), (3, .long x3_3), (5, .int x5_4), (6, .int x6_5), (7, .int x7_6)]) hx hb dX9_drawn_57 hl (by decide) rfl (fun ls hl => ?_)
              refine lv_iload hx hb dX9_drawn_59 (lv_at hl 0 rfl) ?_
              refine lv_if_gt (tgt := 67) hx hb dX9_drawn_61 (by decide) (fun c_14 => ?_) (fun c_14 => ?_)
              · have hF := ifp hF c_14
                refine lv_bipush (v := 75) hx hb dX9_drawn_67 (by decide) ?_
                refine lv_iload hx hb dX9_drawn_69 (lv_at hl 4 rfl) ?_
                refine lv_imul hx hb dX9_drawn_71 ?_
                refine lv_bipush (v := 74) hx hb dX9_drawn_72 (by decide) ?_
                refine lv_iadd hx hb dX9_drawn_74 ?_
                refine lv_ldc (v := 65537) hx hb hown (hts _ (List.mem_cons_of_mem _ mw_677)) dX9_drawn_75 ?_
                refine lv_irem hx hb dX9_drawn_77 (by decide) ?_
                refine lv_topi (fun v5_15 ev5_15 => ?_)
                have hF := jl hF ev5_15
                refine lv_istore (lv' := [(5, .int v5_15), (8, .int v8_13), (0, .ref ag), (2, .int wh), (3, .long x3_3), (6, .int x6_5), (7, .int x7_6)]) hx hb dX9_drawn_78 hl (by decide) rfl (fun ls hl => ?_)
                refine lv_iload hx hb dX9_drawn_80 (lv_at hl 0 rfl) ?_
                refine lv_iload hx hb dX9_drawn_82 (lv_at hl 1 rfl) ?_
                obtain ⟨hz_16, hF⟩ := nz hF
                refine lv_irem hx hb dX9_drawn_84 hz_16 ?_
                refine lv_topi (fun v9_17 ev9_17 => ?_)
                have hF := jl hF ev9_17
                refine lv_istore (lv' := [(9, .int v9_17), (5, .int v5_15), (8, .int v8_13), (0, .ref ag), (2, .int wh), (3, .long x3_3), (6, .int x6_5), (7, .int x7_6)]) hx hb dX9_drawn_85 hl (by decide) rfl (fun ls hl => ?_)
                refine lv_iload hx hb dX9_drawn_87 (lv_at hl 0 rfl) ?_
                refine lv_if_lt (tgt := 126) hx hb dX9_drawn_89 (by decide) (fun c_18 => ?_) (fun c_18 => ?_)
                · have hF := ifp hF c_18
                  exact hB126 r54_12.2 _ _ _ hF hP hD hS (lv_sub hl [3, 4, 5, 6] rfl)
                · have hF := ifn hF c_18
                  refine lv_iload hx hb dX9_drawn_92 (lv_at hl 0 rfl) ?_
                  refine lv_aload_n hx hb dX9_drawn_94 rfl (lv_at hl 3 rfl) ?_
                  refine hget hx hb hts hown hE fl_X9_54 hP 0 rfl rfl dX9_drawn_95 ?_
                  refine halen 0 (v := 24) hx hb hE hP 2 rfl rfl rfl dX9_drawn_98 ?_
                  refine lv_icmp_lt (tgt := 105) hx hb dX9_drawn_99 (by decide) (fun c_19 => ?_) (fun c_19 => ?_)
                  · have hF := ifp hF c_19
                    refine lv_lload_n hx hb dX9_drawn_105 rfl (lv_at hl 5 rfl) ?_
                    refine lv_aload_n hx hb dX9_drawn_106 rfl (lv_at hl 3 rfl) ?_
                    refine hget hx hb hts hown hE fl_X9_54 hP 0 rfl rfl dX9_drawn_107 ?_
                    refine lv_iload hx hb dX9_drawn_110 (lv_at hl 0 rfl) ?_
                    obtain ⟨hi_20, hF⟩ := inb hF
                    refine hiald hx hb hE hP 2 rfl hi_20 dX9_drawn_112 ?_
                    obtain ⟨r113_21, hr113_21, hF⟩ := bnd hF
                    refine hm_S (wn := [(ag, .inr (7, [.ref pd, .ref ru, .ref bk, .ref ju, .ref pr, .ref im, .ref jm, .ref rw, sv, .long gst])), (ru, .inr (5, [.int rb, .int rg, .int ro])), (rw, .inl (gI G, 24, .inl r54_12.2))]) (wr := [(ag, .inr (7, [.ref pd, .ref ru, .ref bk, .ref ju, .ref pr, .ref im, .ref jm, .ref rw, sv, .long gst])), (ru, .inr (5, [.int rb, .int rg, .int ro])), (rw, .inl (gI G, 24, .inl r54_12.2))]) (rest := []) (sn := [.long r113_21]) hx hb hml hown hts hE hA (k_X8_after G l x3_3 (r54_12.2 (v9_17).toNatClampNeg) r113_21 hr113_21) sm_X8_after mw_678 ⟨rfl, rfl, Nat.le_of_ble_eq_true rfl, Nat.le_of_ble_eq_true rfl⟩ hP hD hS [] [0, 1, 2] [0, 1, 2] rfl rfl rfl (by decide) hl.1 rfl rfl (Nat.le_of_ble_eq_true rfl) dX9_drawn_113 ⟨Nat.le_of_ble_eq_true rfl, Nat.le_of_ble_eq_true rfl⟩ (fun H locs hP hD hS => ?_)
                    refine lv_lstore_n (lv' := [(3, .long r113_21), (9, .int v9_17), (5, .int v5_15), (8, .int v8_13), (0, .ref ag), (2, .int wh), (6, .int x6_5), (7, .int x7_6)]) hx hb dX9_drawn_116 rfl hl (by decide) rfl (fun ls hl => ?_)
                    obtain ⟨v6_22, ev6_22⟩ : ∃ z : Int32, z = x6_5 + 1 := ⟨_, rfl⟩
                    have hF := jl hF ev6_22
                    refine lv_iinc (v := v6_22) (lv' := [(6, .int v6_22), (3, .long r113_21), (9, .int v9_17), (5, .int v5_15), (8, .int v8_13), (0, .ref ag), (2, .int wh), (7, .int x7_6)]) hx hb dX9_drawn_117 hl (k := 6) rfl (by rw [ev6_22]; rfl) (by decide) rfl (fun ls hl => ?_)
                    obtain ⟨v7_23, ev7_23⟩ : ∃ z : Int32, z = x7_6 + 1 := ⟨_, rfl⟩
                    have hF := jl hF ev7_23
                    refine lv_iinc (v := v7_23) (lv' := [(7, .int v7_23), (6, .int v6_22), (3, .long r113_21), (9, .int v9_17), (5, .int v5_15), (8, .int v8_13), (0, .ref ag), (2, .int wh)]) hx hb dX9_drawn_120 hl (k := 7) rfl (by rw [ev7_23]; rfl) (by decide) rfl (fun ls hl => ?_)
                    refine lv_goto (tgt := 37) hx hb dX9_drawn_123 (by decide) ?_
                    exact ih37 r113_21 v5_15 v6_22 v7_23 r54_12.2 _ _ _ hF hP hD hS (lv_sub hl [6, 7, 2, 4, 1, 0] rfl)
                  · have hF := ifn hF c_19
                    refine lv_goto (tgt := 126) hx hb dX9_drawn_102 (by decide) ?_
                    exact hB126 r54_12.2 _ _ _ hF hP hD hS (lv_sub hl [3, 4, 5, 6] rfl)
              · have hF := ifn hF c_14
                refine lv_goto (tgt := 126) hx hb dX9_drawn_64 (by decide) ?_
                exact hB126 r54_12.2 _ _ _ hF hP hD hS (lv_sub hl [1, 2, 3, 5] rfl)
        exact hL37 _ gst se 0 0 ra _ _ _ hF hP hD hS (lv_sub hl [4, 6, 3, 2, 1, 0] rfl)
      refine lv_if_eq (tgt := 23) hx hb dX9_drawn_12 (by decide) (fun c_24 => ?_) (fun c_24 => ?_)
      · have hF := ifp hF c_24
        exact hB23 _ _ _ hF hP hD hS (lv_sub hl [0, 1, 2] rfl)
      · have hF := ifn hF c_24
        refine lv_iload_n hx hb dX9_drawn_15 rfl (lv_at hl 2 rfl) ?_
        refine lv_iconst (v := 1) hx hb dX9_drawn_16 (by decide) ?_
        refine lv_icmp_eq (tgt := 23) hx hb dX9_drawn_17 (by decide) (fun c_25 => ?_) (fun c_25 => ?_)
        · have hF := ifp hF c_25
          exact hB23 _ _ _ hF hP hD hS (lv_sub hl [0, 1, 2] rfl)
        · have hF := ifn hF c_25
          refine lv_bipush (v := (-2)) hx hb dX9_drawn_20 (by decide) ?_
          have hF := Option.some.inj hF
          subst hF
          exact hm_iret hx hb hr hlk hP hD hS hpost dX9_drawn_22
def f_X9_mirror (gst : Int64) (wy : Int32) : Option (Int32 × Int64) :=
  if wy < 1 then some ((-2), gst) else if wy ≤ 3 then Option.bind (f_X8_mirrored gst wy) (fun r19_3 => Option.bind (f_X8_countMen r19_3) (fun r29_4 => some (r29_4, r19_3))) else some ((-2), gst)
abbrev rm_X9_mirror : Room := { frames := 3, cells := 0, slots := 0, locals := 68 }
set_option maxHeartbeats 4000000 in
set_option maxRecDepth 100000 in
theorem k_X9_mirror (G : gT) (l : Launch) (ag : Nat) (pd : Nat) (ru : Nat) (bk : Nat) (ju : Nat) (pr : Nat) (im : Nat) (jm : Nat) (rw : Nat) (sv : Value) (gst : Int64) (wy : Int32) (r : Int32 × Int64) (hF : f_X9_mirror gst wy = some r) : HM G l yX9_mirror (.code yX9_mirror cX9_mirror 2 (some .int) :: UW) rm_X9_mirror 0 0 [.ref ag, .int wy] [(ag, .inr (7, [.ref pd, .ref ru, .ref bk, .ref ju, .ref pr, .ref im, .ref jm, .ref rw, sv, .long gst]))] (some (.int r.1)) [(ag, .inr (7, [.ref pd, .ref ru, .ref bk, .ref ju, .ref pr, .ref im, .ref jm, .ref rw, sv, .long r.2]))] := by
  refine HM.ofW (by decide) (Nat.le_of_ble_eq_true rfl) ?_
  intro p e s m args below meth c A post hpost hC hP hD hS ls hl
  obtain ⟨hx, hb, hr, hml, hown, hts, hlk, hE, hA⟩ := hC
  have hl : lv_has ls 2 [(0, .ref ag), (1, .int wy)] := hl
  unfold f_X9_mirror at hF
  refine lv_iload_n hx hb dX9_mirror_0 rfl (lv_at hl 1 rfl) ?_
  refine lv_iconst (v := 1) hx hb dX9_mirror_1 (by decide) ?_
  refine lv_icmp_lt (tgt := 10) hx hb dX9_mirror_2 (by decide) (fun c_1 => ?_) (fun c_1 => ?_)
  · have hF := ifp hF c_1
    refine lv_bipush (v := (-2)) hx hb dX9_mirror_10 (by decide) ?_
    have hF := Option.some.inj hF
    subst hF
    exact hm_iret hx hb hr hlk hP hD hS hpost dX9_mirror_12
  · have hF := ifn hF c_1
    refine lv_iload_n hx hb dX9_mirror_5 rfl (lv_at hl 1 rfl) ?_
    refine lv_iconst (v := 3) hx hb dX9_mirror_6 (by decide) ?_
    refine lv_icmp_le (tgt := 13) hx hb dX9_mirror_7 (by decide) (fun c_2 => ?_) (fun c_2 => ?_)
    · have hF := ifp hF c_2
      refine lv_aload_n hx hb dX9_mirror_13 rfl (lv_at hl 0 rfl) ?_
      refine lv_aload_n hx hb dX9_mirror_14 rfl (lv_at hl 0 rfl) ?_
      refine hget hx hb hts hown hE fl_X9_70 hP 0 rfl rfl dX9_mirror_15 ?_
      refine lv_iload_n hx hb dX9_mirror_18 rfl (lv_at hl 1 rfl) ?_
      obtain ⟨r19_3, hr19_3, hF⟩ := bnd hF
      refine hm_S (wn := [(ag, .inr (7, [.ref pd, .ref ru, .ref bk, .ref ju, .ref pr, .ref im, .ref jm, .ref rw, sv, .long gst]))]) (wr := [(ag, .inr (7, [.ref pd, .ref ru, .ref bk, .ref ju, .ref pr, .ref im, .ref jm, .ref rw, sv, .long gst]))]) (rest := [.ref ag]) (sn := [.long r19_3, .ref ag]) hx hb hml hown hts hE hA (k_X8_mirrored G l gst wy r19_3 hr19_3) sm_X8_mirrored mw_683 ⟨rfl, rfl, Nat.le_of_ble_eq_true rfl, Nat.le_of_ble_eq_true rfl⟩ hP hD hS [] [0] [0] rfl rfl rfl (by decide) hl.1 rfl rfl (Nat.le_of_ble_eq_true rfl) dX9_mirror_19 ⟨Nat.le_of_ble_eq_true rfl, Nat.le_of_ble_eq_true rfl⟩ (fun H locs hP hD hS => ?_)
      refine hput hx hb hts hown hE fl_X9_70 ft_X9_9 hP hD hS 0 rfl rfl rfl rfl (Nat.le_of_ble_eq_true rfl) (wn := [(ag, .inr (7, [.ref pd, .ref ru, .ref bk, .ref ju, .ref pr, .ref im, .ref jm, .ref rw, sv, .long r19_3]))]) rfl dX9_mirror_22 (fun H locs hP hD hS => ?_)
      refine lv_aload_n hx hb dX9_mirror_25 rfl (lv_at hl 0 rfl) ?_
      refine hget hx hb hts hown hE fl_X9_70 hP 0 rfl rfl dX9_mirror_26 ?_
      obtain ⟨r29_4, hr29_4, hF⟩ := bnd hF
      refine hm_S (wn := [(ag, .inr (7, [.ref pd, .ref ru, .ref bk, .ref ju, .ref pr, .ref im, .ref jm, .ref rw, sv, .long r19_3]))]) (wr := [(ag, .inr (7, [.ref pd, .ref ru, .ref bk, .ref ju, .ref pr, .ref im, .ref jm, .ref rw, sv, .long r19_3]))]) (rest := []) (sn := [.int r29_4]) hx hb hml hown hts hE hA (k_X8_countMen G l r19_3 r29_4 hr29_4) sm_X8_countMen mw_300 ⟨rfl, rfl, Nat.le_of_ble_eq_true rfl, Nat.le_of_ble_eq_true rfl⟩ hP hD hS [] [0] [0] rfl rfl rfl (by decide) hl.1 rfl rfl (Nat.le_of_ble_eq_true rfl) dX9_mirror_29 ⟨Nat.le_of_ble_eq_true rfl, Nat.le_of_ble_eq_true rfl⟩ (fun H locs hP hD hS => ?_)
      have hF := Option.some.inj hF
      subst hF
      exact hm_iret hx hb hr hlk hP hD hS hpost dX9_mirror_32
    · have hF := ifn hF c_2
      refine lv_bipush (v := (-2)) hx hb dX9_mirror_10 (by decide) ?_
      have hF := Option.some.inj hF
      subst hF
      exact hm_iret hx hb hr hlk hP hD hS hpost dX9_mirror_12
def f_X9_like_B55 (k_28 : Int32 → Int32 → Option Int32) (x4_5 : Int32) (x3_8 : Int32) : Option Int32 :=
  jlet (x4_5 + 1) (fun v4_9 => k_28 x3_8 v4_9)
def f_X9_like_L28 (gst : Int64) (r19_3 : Int64) : Nat → Int32 → Int32 → Option Int32
  | 0, _, _ => none
  | n+1, x3_4, x4_5 =>
  if 4 ≤ x4_5 then some x3_4 else Option.bind (f_X8_mirrored gst x4_5) (fun r40_7 => if (lg_cmp r40_7 r19_3) = 0 then jlet (x3_4 ||| (jshl 1 x4_5)) (fun v3_11 => f_X9_like_B55 (f_X9_like_L28 gst r19_3 n) x4_5 v3_11) else f_X9_like_B55 (f_X9_like_L28 gst r19_3 n) x4_5 x3_4)
def f_X9_like (gst : Int64) (psz : Int32) (psg : (Nat → Int32)) : Option Int32 :=
  Option.bind (f_X3_boardFault psz psg) (fun r4_1 => if r4_1 = (-6) then Option.bind (f_X3_boardTold psz psg) (fun r19_3 => f_X9_like_L28 gst r19_3 100 0 0) else some (-5))
abbrev rm_X9_like : Room := { frames := 4, cells := 0, slots := 0, locals := 91 }
set_option maxHeartbeats 4000000 in
set_option maxRecDepth 100000 in
theorem k_X9_like (G : gT) (l : Launch) (ag : Nat) (pd : Nat) (ru : Nat) (bk : Nat) (ju : Nat) (pr : Nat) (im : Nat) (jm : Nat) (rw : Nat) (pS : Nat) (sv : Value) (gst : Int64) (psz : Int32) (psg : (Nat → Int32)) (r : Int32) (hF : f_X9_like gst psz psg = some r) : HM G l yX9_like (.code yX9_like cX9_like 5 (some .int) :: UW) rm_X9_like 0 0 [.ref ag] [(ag, .inr (7, [.ref pd, .ref ru, .ref bk, .ref ju, .ref pr, .ref im, .ref jm, .ref rw, sv, .long gst])), (pd, .inr (3, [.ref pS, .int psz])), (pS, .inl (gB G, 48, .inl psg))] (some (.int r)) [(ag, .inr (7, [.ref pd, .ref ru, .ref bk, .ref ju, .ref pr, .ref im, .ref jm, .ref rw, sv, .long gst])), (pd, .inr (3, [.ref pS, .int psz])), (pS, .inl (gB G, 48, .inl psg))] := by
  refine HM.ofW (by decide) (Nat.le_of_ble_eq_true rfl) ?_
  intro p e s m args below meth c A post hpost hC hP hD hS ls hl
  obtain ⟨hx, hb, hr, hml, hown, hts, hlk, hE, hA⟩ := hC
  have hl : lv_has ls 5 [(0, .ref ag)] := hl
  unfold f_X9_like at hF
  refine lv_aload_n hx hb dX9_like_0 rfl (lv_at hl 0 rfl) ?_
  refine hget hx hb hts hown hE fl_X9_12 hP 0 rfl rfl dX9_like_1 ?_
  obtain ⟨r4_1, hr4_1, hF⟩ := bnd hF
  refine hm_V (wn := [(ag, .inr (7, [.ref pd, .ref ru, .ref bk, .ref ju, .ref pr, .ref im, .ref jm, .ref rw, sv, .long gst])), (pd, .inr (3, [.ref pS, .int psz])), (pS, .inl (gB G, 48, .inl psg))]) (wr := [(ag, .inr (7, [.ref pd, .ref ru, .ref bk, .ref ju, .ref pr, .ref im, .ref jm, .ref rw, sv, .long gst]))]) (rest := []) (sn := [.int r4_1]) hx hb hml hown hts hE hA (k_X3_boardFault G l pd pS psz psg r4_1 hr4_1) sm_X3_boardFault mw_260 ⟨rfl, rfl, Nat.le_of_ble_eq_true rfl, Nat.le_of_ble_eq_true rfl⟩ hP hD hS 1 rfl rfl [1, 2] [0] [0, 1, 2] rfl rfl rfl (by decide) hl.1 rfl rfl (Nat.le_of_ble_eq_true rfl) dX9_like_4 ⟨Nat.le_of_ble_eq_true rfl, Nat.le_of_ble_eq_true rfl⟩ (fun H locs hP hD hS => ?_)
  refine lv_bipush (v := (-6)) hx hb dX9_like_7 (by decide) ?_
  refine lv_icmp_eq (tgt := 15) hx hb dX9_like_9 (by decide) (fun c_2 => ?_) (fun c_2 => ?_)
  · have hF := ifp hF c_2
    refine lv_aload_n hx hb dX9_like_15 rfl (lv_at hl 0 rfl) ?_
    refine hget hx hb hts hown hE fl_X9_12 hP 0 rfl rfl dX9_like_16 ?_
    obtain ⟨r19_3, hr19_3, hF⟩ := bnd hF
    refine hm_V (wn := [(ag, .inr (7, [.ref pd, .ref ru, .ref bk, .ref ju, .ref pr, .ref im, .ref jm, .ref rw, sv, .long gst])), (pd, .inr (3, [.ref pS, .int psz])), (pS, .inl (gB G, 48, .inl psg))]) (wr := [(ag, .inr (7, [.ref pd, .ref ru, .ref bk, .ref ju, .ref pr, .ref im, .ref jm, .ref rw, sv, .long gst]))]) (rest := []) (sn := [.long r19_3]) hx hb hml hown hts hE hA (k_X3_boardTold G l pd pS psz psg r19_3 hr19_3) sm_X3_boardTold mw_290 ⟨rfl, rfl, Nat.le_of_ble_eq_true rfl, Nat.le_of_ble_eq_true rfl⟩ hP hD hS 1 rfl rfl [1, 2] [0] [0, 1, 2] rfl rfl rfl (by decide) hl.1 rfl rfl (Nat.le_of_ble_eq_true rfl) dX9_like_19 ⟨Nat.le_of_ble_eq_true rfl, Nat.le_of_ble_eq_true rfl⟩ (fun H locs hP hD hS => ?_)
    refine lv_lstore_n (lv' := [(1, .long r19_3), (0, .ref ag)]) hx hb dX9_like_22 rfl hl (by decide) rfl (fun ls hl => ?_)
    refine lv_iconst (v := 0) hx hb dX9_like_23 (by decide) ?_
    refine lv_istore_n (lv' := [(3, .int 0), (1, .long r19_3), (0, .ref ag)]) hx hb dX9_like_24 rfl hl (by decide) rfl (fun ls hl => ?_)
    refine lv_iconst (v := 0) hx hb dX9_like_25 (by decide) ?_
    refine lv_istore (lv' := [(4, .int 0), (3, .int 0), (1, .long r19_3), (0, .ref ag)]) hx hb dX9_like_26 hl (by decide) rfl (fun ls hl => ?_)
    have hL28 : ∀ (n28 : Nat) (x3_4 : Int32) (x4_5 : Int32) (H : Heap) (locs : List Loc) (ls : Array Slot), f_X9_like_L28 gst r19_3 n28 x3_4 x4_5 = some r → va_P (gD G) vwCl [(ag, .inr (7, [.ref pd, .ref ru, .ref bk, .ref ju, .ref pr, .ref im, .ref jm, .ref rw, sv, .long gst])), (pd, .inr (3, [.ref pS, .int psz])), (pS, .inl (gB G, 48, .inl psg))] H → va_D A [(ag, .inr (7, [.ref pd, .ref ru, .ref bk, .ref ju, .ref pr, .ref im, .ref jm, .ref rw, sv, .long gst])), (pd, .inr (3, [.ref pS, .int psz])), (pS, .inl (gB G, 48, .inl psg))] → va_S A s.heap H locs → lv_has ls 5 [(0, .ref ag), (1, .long r19_3), (3, .int x3_4), (4, .int x4_5)] → W p l e rm_X9_like s m args below meth c H locs 0 0 (MQ below (HXq G post A) args s 0 0 A) (F0 m 28 ls []) := by
      intro n28
      induction n28 with
      | zero =>
        intro x3_4 x4_5 H locs ls hF
        exact absurd hF (fun h => by cases h)
      | succ n28 ih28 =>
        intro x3_4 x4_5 H locs ls hF hP hD hS hl
        unfold f_X9_like_L28 at hF
        refine lv_iload hx hb dX9_like_28 (lv_at hl 3 rfl) ?_
        refine lv_iconst (v := 4) hx hb dX9_like_30 (by decide) ?_
        refine lv_icmp_ge (tgt := 61) hx hb dX9_like_31 (by decide) (fun c_6 => ?_) (fun c_6 => ?_)
        · have hF := ifp hF c_6
          refine lv_iload_n hx hb dX9_like_61 rfl (lv_at hl 2 rfl) ?_
          have hF := Option.some.inj hF
          subst hF
          exact hm_iret hx hb hr hlk hP hD hS hpost dX9_like_62
        · have hF := ifn hF c_6
          refine lv_aload_n hx hb dX9_like_34 rfl (lv_at hl 0 rfl) ?_
          refine hget hx hb hts hown hE fl_X9_70 hP 0 rfl rfl dX9_like_35 ?_
          refine lv_iload hx hb dX9_like_38 (lv_at hl 3 rfl) ?_
          obtain ⟨r40_7, hr40_7, hF⟩ := bnd hF
          refine hm_S (wn := [(ag, .inr (7, [.ref pd, .ref ru, .ref bk, .ref ju, .ref pr, .ref im, .ref jm, .ref rw, sv, .long gst])), (pd, .inr (3, [.ref pS, .int psz])), (pS, .inl (gB G, 48, .inl psg))]) (wr := [(ag, .inr (7, [.ref pd, .ref ru, .ref bk, .ref ju, .ref pr, .ref im, .ref jm, .ref rw, sv, .long gst])), (pd, .inr (3, [.ref pS, .int psz])), (pS, .inl (gB G, 48, .inl psg))]) (rest := []) (sn := [.long r40_7]) hx hb hml hown hts hE hA (k_X8_mirrored G l gst x4_5 r40_7 hr40_7) sm_X8_mirrored mw_683 ⟨rfl, rfl, Nat.le_of_ble_eq_true rfl, Nat.le_of_ble_eq_true rfl⟩ hP hD hS [] [0, 1, 2] [0, 1, 2] rfl rfl rfl (by decide) hl.1 rfl rfl (Nat.le_of_ble_eq_true rfl) dX9_like_40 ⟨Nat.le_of_ble_eq_true rfl, Nat.le_of_ble_eq_true rfl⟩ (fun H locs hP hD hS => ?_)
          refine lv_lload_n hx hb dX9_like_43 rfl (lv_at hl 1 rfl) ?_
          refine W.lcmp hx hb dX9_like_44 ?_
          have hB55 : ∀ (x3_8 : Int32) (H : Heap) (locs : List Loc) (ls : Array Slot), f_X9_like_B55 (f_X9_like_L28 gst r19_3 n28) x4_5 x3_8 = some r → va_P (gD G) vwCl [(ag, .inr (7, [.ref pd, .ref ru, .ref bk, .ref ju, .ref pr, .ref im, .ref jm, .ref rw, sv, .long gst])), (pd, .inr (3, [.ref pS, .int psz])), (pS, .inl (gB G, 48, .inl psg))] H → va_D A [(ag, .inr (7, [.ref pd, .ref ru, .ref bk, .ref ju, .ref pr, .ref im, .ref jm, .ref rw, sv, .long gst])), (pd, .inr (3, [.ref pS, .int psz])), (pS, .inl (gB G, 48, .inl psg))] → va_S A s.heap H locs → lv_has ls 5 [(0, .ref ag), (1, .long r19_3), (3, .int x3_8), (4, .int x4_5)] → W p l e rm_X9_like s m args below meth c H locs 0 0 (MQ below (HXq G post A) args s 0 0 A) (F0 m 55 ls []) := by
            intro x3_8 H locs ls hF hP hD hS hl
            unfold f_X9_like_B55 at hF
            obtain ⟨v4_9, ev4_9⟩ : ∃ z : Int32, z = x4_5 + 1 := ⟨_, rfl⟩
            have hF := jl hF ev4_9
            refine lv_iinc (v := v4_9) (lv' := [(4, .int v4_9), (0, .ref ag), (1, .long r19_3), (3, .int x3_8)]) hx hb dX9_like_55 hl (k := 3) rfl (by rw [ev4_9]; rfl) (by decide) rfl (fun ls hl => ?_)
            refine lv_goto (tgt := 28) hx hb dX9_like_58 (by decide) ?_
            exact ih28 x3_8 v4_9 _ _ _ hF hP hD hS (lv_sub hl [1, 2, 3, 0] rfl)
          refine lv_if_ne (tgt := 55) hx hb dX9_like_45 (by decide) (fun c_10 => ?_) (fun c_10 => ?_)
          · have hF := ifn hF c_10
            exact hB55 x3_4 _ _ _ hF hP hD hS (lv_sub hl [0, 1, 2, 3] rfl)
          · have hF := ifp hF c_10
            refine lv_iload_n hx hb dX9_like_48 rfl (lv_at hl 2 rfl) ?_
            refine lv_iconst (v := 1) hx hb dX9_like_49 (by decide) ?_
            refine lv_iload hx hb dX9_like_50 (lv_at hl 3 rfl) ?_
            refine lv_ishl hx hb dX9_like_52 ?_
            refine lv_ior hx hb dX9_like_53 ?_
            refine lv_topi (fun v3_11 ev3_11 => ?_)
            have hF := jl hF ev3_11
            refine lv_istore_n (lv' := [(3, .int v3_11), (0, .ref ag), (1, .long r19_3), (4, .int x4_5)]) hx hb dX9_like_54 rfl hl (by decide) rfl (fun ls hl => ?_)
            exact hB55 v3_11 _ _ _ hF hP hD hS (lv_sub hl [1, 2, 0, 3] rfl)
    exact hL28 _ 0 0 _ _ _ hF hP hD hS (lv_sub hl [3, 2, 1, 0] rfl)
  · have hF := ifn hF c_2
    refine lv_bipush (v := (-5)) hx hb dX9_like_12 (by decide) ?_
    have hF := Option.some.inj hF
    subst hF
    exact hm_iret hx hb hr hlk hP hD hS hpost dX9_like_14
def f_X9_told_B45 (psz : Int32) (bc : Int32) (rb : Int32) (rg : Int32) (ro : Int32) (wh : Int32) : Int32 :=
  if wh = 0 then psz else if wh = 1 then bc else if wh = 2 then rb else if wh = 3 then rg else if wh = 4 then ro else (-2)
def f_X9_told_B21 (gst : Int64) (psz : Int32) (bc : Int32) (rb : Int32) (rg : Int32) (ro : Int32) (wh : Int32) : Int32 :=
  if wh < 20 then f_X9_told_B45 psz bc rb rg ro wh else if 26 ≤ wh then f_X9_told_B45 psz bc rb rg ro wh else (f_X8_ageOf gst (wh - 20))
def f_X9_told (gst : Int64) (psz : Int32) (bc : Int32) (rb : Int32) (rg : Int32) (ro : Int32) (wh : Int32) : Int32 :=
  if wh < 10 then f_X9_told_B21 gst psz bc rb rg ro wh else if 16 ≤ wh then f_X9_told_B21 gst psz bc rb rg ro wh else (f_X9_cellOrNone gst (wh - 10))
abbrev rm_X9_told : Room := { frames := 3, cells := 0, slots := 0, locals := 65 }
set_option maxHeartbeats 4000000 in
set_option maxRecDepth 100000 in
theorem k_X9_told (G : gT) (l : Launch) (ag : Nat) (pd : Nat) (ru : Nat) (bk : Nat) (ju : Nat) (pr : Nat) (im : Nat) (jm : Nat) (rw : Nat) (pS : Nat) (bS : Nat) (bL : Nat) (bR : Nat) (bP : Nat) (sv : Value) (gst : Int64) (psz : Int32) (bc : Int32) (rb : Int32) (rg : Int32) (ro : Int32) (wh : Int32) (r : Int32) (hF : f_X9_told gst psz bc rb rg ro wh = r) : HM G l yX9_told (.code yX9_told cX9_told 2 (some .int) :: UW) rm_X9_told 0 0 [.ref ag, .int wh] [(ag, .inr (7, [.ref pd, .ref ru, .ref bk, .ref ju, .ref pr, .ref im, .ref jm, .ref rw, sv, .long gst])), (pd, .inr (3, [.ref pS, .int psz])), (bk, .inr (0, [.ref bS, .ref bL, .ref bR, .ref bP, .int bc])), (ru, .inr (5, [.int rb, .int rg, .int ro]))] (some (.int r)) [(ag, .inr (7, [.ref pd, .ref ru, .ref bk, .ref ju, .ref pr, .ref im, .ref jm, .ref rw, sv, .long gst])), (pd, .inr (3, [.ref pS, .int psz])), (bk, .inr (0, [.ref bS, .ref bL, .ref bR, .ref bP, .int bc])), (ru, .inr (5, [.int rb, .int rg, .int ro]))] := by
  refine HM.ofW (by decide) (Nat.le_of_ble_eq_true rfl) ?_
  intro p e s m args below meth c A post hpost hC hP hD hS ls hl
  obtain ⟨hx, hb, hr, hml, hown, hts, hlk, hE, hA⟩ := hC
  have hl : lv_has ls 2 [(0, .ref ag), (1, .int wh)] := hl
  unfold f_X9_told at hF
  refine lv_iload_n hx hb dX9_told_0 rfl (lv_at hl 1 rfl) ?_
  refine lv_bipush (v := 10) hx hb dX9_told_1 (by decide) ?_
  have hB21 : ∀ (H : Heap) (locs : List Loc) (ls : Array Slot), f_X9_told_B21 gst psz bc rb rg ro wh = r → va_P (gD G) vwCl [(ag, .inr (7, [.ref pd, .ref ru, .ref bk, .ref ju, .ref pr, .ref im, .ref jm, .ref rw, sv, .long gst])), (pd, .inr (3, [.ref pS, .int psz])), (bk, .inr (0, [.ref bS, .ref bL, .ref bR, .ref bP, .int bc])), (ru, .inr (5, [.int rb, .int rg, .int ro]))] H → va_D A [(ag, .inr (7, [.ref pd, .ref ru, .ref bk, .ref ju, .ref pr, .ref im, .ref jm, .ref rw, sv, .long gst])), (pd, .inr (3, [.ref pS, .int psz])), (bk, .inr (0, [.ref bS, .ref bL, .ref bR, .ref bP, .int bc])), (ru, .inr (5, [.int rb, .int rg, .int ro]))] → va_S A s.heap H locs → lv_has ls 2 [(0, .ref ag), (1, .int wh)] → W p l e rm_X9_told s m args below meth c H locs 0 0 (MQ below (HXq G post A) args s 0 0 A) (F0 m 21 ls []) := by
    intro H locs ls hF hP hD hS hl
    unfold f_X9_told_B21 at hF
    refine lv_iload_n hx hb dX9_told_21 rfl (lv_at hl 1 rfl) ?_
    refine lv_bipush (v := 20) hx hb dX9_told_22 (by decide) ?_
    have hB45 : ∀ (H : Heap) (locs : List Loc) (ls : Array Slot), f_X9_told_B45 psz bc rb rg ro wh = r → va_P (gD G) vwCl [(ag, .inr (7, [.ref pd, .ref ru, .ref bk, .ref ju, .ref pr, .ref im, .ref jm, .ref rw, sv, .long gst])), (pd, .inr (3, [.ref pS, .int psz])), (bk, .inr (0, [.ref bS, .ref bL, .ref bR, .ref bP, .int bc])), (ru, .inr (5, [.int rb, .int rg, .int ro]))] H → va_D A [(ag, .inr (7, [.ref pd, .ref ru, .ref bk, .ref ju, .ref pr, .ref im, .ref jm, .ref rw, sv, .long gst])), (pd, .inr (3, [.ref pS, .int psz])), (bk, .inr (0, [.ref bS, .ref bL, .ref bR, .ref bP, .int bc])), (ru, .inr (5, [.int rb, .int rg, .int ro]))] → va_S A s.heap H locs → lv_has ls 2 [(0, .ref ag), (1, .int wh)] → W p l e rm_X9_told s m args below meth c H locs 0 0 (MQ below (HXq G post A) args s 0 0 A) (F0 m 45 ls []) := by
      intro H locs ls hF hP hD hS hl
      unfold f_X9_told_B45 at hF
      refine lv_iload_n hx hb dX9_told_45 rfl (lv_at hl 1 rfl) ?_
      by_cases hk0 : wh = 0
      · have hF := ifp hF hk0
        refine lv_tableIn (off := 34) (tgt := 80) hx hb dX9_told_46 (by rw [hk0]; first | done | decide) (by rw [hk0]; first | done | decide) (by rw [hk0]; first | done | rfl) (by decide) ?_
        refine lv_aload_n hx hb dX9_told_80 rfl (lv_at hl 0 rfl) ?_
        refine hget hx hb hts hown hE fl_X9_12 hP 0 rfl rfl dX9_told_81 ?_
        refine hgetN hx hb hts hown hE fl_X9_78 hP 1 rfl rfl dX9_told_84 ?_
        subst hF
        exact hm_iret hx hb hr hlk hP hD hS hpost dX9_told_87
      · have hF := ifn hF hk0
        by_cases hk1 : wh = 1
        · have hF := ifp hF hk1
          refine lv_tableIn (off := 42) (tgt := 88) hx hb dX9_told_46 (by rw [hk1]; first | done | decide) (by rw [hk1]; first | done | decide) (by rw [hk1]; first | done | rfl) (by decide) ?_
          refine lv_aload_n hx hb dX9_told_88 rfl (lv_at hl 0 rfl) ?_
          refine hget hx hb hts hown hE fl_X9_26 hP 0 rfl rfl dX9_told_89 ?_
          refine hgetN hx hb hts hown hE fl_X9_210 hP 2 rfl rfl dX9_told_92 ?_
          subst hF
          exact hm_iret hx hb hr hlk hP hD hS hpost dX9_told_95
        · have hF := ifn hF hk1
          by_cases hk2 : wh = 2
          · have hF := ifp hF hk2
            refine lv_tableIn (off := 50) (tgt := 96) hx hb dX9_told_46 (by rw [hk2]; first | done | decide) (by rw [hk2]; first | done | decide) (by rw [hk2]; first | done | rfl) (by decide) ?_
            refine lv_aload_n hx hb dX9_told_96 rfl (lv_at hl 0 rfl) ?_
            refine hget hx hb hts hown hE fl_X9_19 hP 0 rfl rfl dX9_told_97 ?_
            refine hgetN hx hb hts hown hE fl_X9_261 hP 3 rfl rfl dX9_told_100 ?_
            subst hF
            exact hm_iret hx hb hr hlk hP hD hS hpost dX9_told_103
          · have hF := ifn hF hk2
            by_cases hk3 : wh = 3
            · have hF := ifp hF hk3
              refine lv_tableIn (off := 58) (tgt := 104) hx hb dX9_told_46 (by rw [hk3]; first | done | decide) (by rw [hk3]; first | done | decide) (by rw [hk3]; first | done | rfl) (by decide) ?_
              refine lv_aload_n hx hb dX9_told_104 rfl (lv_at hl 0 rfl) ?_
              refine hget hx hb hts hown hE fl_X9_19 hP 0 rfl rfl dX9_told_105 ?_
              refine hgetN hx hb hts hown hE fl_X9_264 hP 3 rfl rfl dX9_told_108 ?_
              subst hF
              exact hm_iret hx hb hr hlk hP hD hS hpost dX9_told_111
            · have hF := ifn hF hk3
              by_cases hk4 : wh = 4
              · have hF := ifp hF hk4
                refine lv_tableIn (off := 66) (tgt := 112) hx hb dX9_told_46 (by rw [hk4]; first | done | decide) (by rw [hk4]; first | done | decide) (by rw [hk4]; first | done | rfl) (by decide) ?_
                refine lv_aload_n hx hb dX9_told_112 rfl (lv_at hl 0 rfl) ?_
                refine hget hx hb hts hown hE fl_X9_19 hP 0 rfl rfl dX9_told_113 ?_
                refine hgetN hx hb hts hown hE fl_X9_267 hP 3 rfl rfl dX9_told_116 ?_
                subst hF
                exact hm_iret hx hb hr hlk hP hD hS hpost dX9_told_119
              · have hF := ifn hF hk4
                have ehk0 : (wh).toInt ≠ 0 := fun h => hk0 (Int32.toInt_inj.mp h)
                have ehk1 : (wh).toInt ≠ 1 := fun h => hk1 (Int32.toInt_inj.mp h)
                have ehk2 : (wh).toInt ≠ 2 := fun h => hk2 (Int32.toInt_inj.mp h)
                have ehk3 : (wh).toInt ≠ 3 := fun h => hk3 (Int32.toInt_inj.mp h)
                have ehk4 : (wh).toInt ≠ 4 := fun h => hk4 (Int32.toInt_inj.mp h)
                refine lv_tableOut (tgt := 120) hx hb dX9_told_46 (by omega) (by decide) ?_
                refine lv_bipush (v := (-2)) hx hb dX9_told_120 (by decide) ?_
                subst hF
                exact hm_iret hx hb hr hlk hP hD hS hpost dX9_told_122
    refine lv_icmp_lt (tgt := 45) hx hb dX9_told_24 (by decide) (fun c_1 => ?_) (fun c_1 => ?_)
    · have hF := ifp hF c_1
      exact hB45 _ _ _ hF hP hD hS (lv_sub hl [0, 1] rfl)
    · have hF := ifn hF c_1
      refine lv_iload_n hx hb dX9_told_27 rfl (lv_at hl 1 rfl) ?_
      refine lv_bipush (v := 26) hx hb dX9_told_28 (by decide) ?_
      refine lv_icmp_ge (tgt := 45) hx hb dX9_told_30 (by decide) (fun c_2 => ?_) (fun c_2 => ?_)
      · have hF := ifp hF c_2
        exact hB45 _ _ _ hF hP hD hS (lv_sub hl [0, 1] rfl)
      · have hF := ifn hF c_2
        refine lv_aload_n hx hb dX9_told_33 rfl (lv_at hl 0 rfl) ?_
        refine hget hx hb hts hown hE fl_X9_70 hP 0 rfl rfl dX9_told_34 ?_
        refine lv_iload_n hx hb dX9_told_37 rfl (lv_at hl 1 rfl) ?_
        refine lv_bipush (v := 20) hx hb dX9_told_38 (by decide) ?_
        refine lv_isub hx hb dX9_told_40 ?_
        refine hm_S (wn := [(ag, .inr (7, [.ref pd, .ref ru, .ref bk, .ref ju, .ref pr, .ref im, .ref jm, .ref rw, sv, .long gst])), (pd, .inr (3, [.ref pS, .int psz])), (bk, .inr (0, [.ref bS, .ref bL, .ref bR, .ref bP, .int bc])), (ru, .inr (5, [.int rb, .int rg, .int ro]))]) (wr := [(ag, .inr (7, [.ref pd, .ref ru, .ref bk, .ref ju, .ref pr, .ref im, .ref jm, .ref rw, sv, .long gst])), (pd, .inr (3, [.ref pS, .int psz])), (bk, .inr (0, [.ref bS, .ref bL, .ref bR, .ref bP, .int bc])), (ru, .inr (5, [.int rb, .int rg, .int ro]))]) (rest := []) (sn := [.int (f_X8_ageOf gst (wh - 20))]) hx hb hml hown hts hE hA (k_X8_ageOf G l gst (wh - 20) _ rfl) sm_X8_ageOf mw_339 ⟨rfl, rfl, Nat.le_of_ble_eq_true rfl, Nat.le_of_ble_eq_true rfl⟩ hP hD hS [] [0, 1, 2, 3] [0, 1, 2, 3] rfl rfl rfl (by decide) hl.1 rfl rfl (Nat.le_of_ble_eq_true rfl) dX9_told_41 ⟨Nat.le_of_ble_eq_true rfl, Nat.le_of_ble_eq_true rfl⟩ (fun H locs hP hD hS => ?_)
        subst hF
        exact hm_iret hx hb hr hlk hP hD hS hpost dX9_told_44
  refine lv_icmp_lt (tgt := 21) hx hb dX9_told_3 (by decide) (fun c_3 => ?_) (fun c_3 => ?_)
  · have hF := ifp hF c_3
    exact hB21 _ _ _ hF hP hD hS (lv_sub hl [0, 1] rfl)
  · have hF := ifn hF c_3
    refine lv_iload_n hx hb dX9_told_6 rfl (lv_at hl 1 rfl) ?_
    refine lv_bipush (v := 16) hx hb dX9_told_7 (by decide) ?_
    refine lv_icmp_ge (tgt := 21) hx hb dX9_told_9 (by decide) (fun c_4 => ?_) (fun c_4 => ?_)
    · have hF := ifp hF c_4
      exact hB21 _ _ _ hF hP hD hS (lv_sub hl [0, 1] rfl)
    · have hF := ifn hF c_4
      refine lv_aload_n hx hb dX9_told_12 rfl (lv_at hl 0 rfl) ?_
      refine lv_iload_n hx hb dX9_told_13 rfl (lv_at hl 1 rfl) ?_
      refine lv_bipush (v := 10) hx hb dX9_told_14 (by decide) ?_
      refine lv_isub hx hb dX9_told_16 ?_
      refine hm_V (wn := [(ag, .inr (7, [.ref pd, .ref ru, .ref bk, .ref ju, .ref pr, .ref im, .ref jm, .ref rw, sv, .long gst])), (pd, .inr (3, [.ref pS, .int psz])), (bk, .inr (0, [.ref bS, .ref bL, .ref bR, .ref bP, .int bc])), (ru, .inr (5, [.int rb, .int rg, .int ro]))]) (wr := [(pd, .inr (3, [.ref pS, .int psz])), (bk, .inr (0, [.ref bS, .ref bL, .ref bR, .ref bP, .int bc])), (ru, .inr (5, [.int rb, .int rg, .int ro]))]) (rest := []) (sn := [.int (f_X9_cellOrNone gst (wh - 10))]) hx hb hml hown hts hE hA (k_X9_cellOrNone G l ag pd ru bk ju pr im jm rw sv gst (wh - 10) _ rfl) sm_X9_cellOrNone mw_331 ⟨rfl, rfl, Nat.le_of_ble_eq_true rfl, Nat.le_of_ble_eq_true rfl⟩ hP hD hS 0 rfl rfl [0] [1, 2, 3] [3, 0, 1, 2] rfl rfl rfl (by decide) hl.1 rfl rfl (Nat.le_of_ble_eq_true rfl) dX9_told_17 ⟨Nat.le_of_ble_eq_true rfl, Nat.le_of_ble_eq_true rfl⟩ (fun H locs hP hD hS => ?_)
      subst hF
      exact hm_iret hx hb hr hlk hP hD hS hpost dX9_told_20
