def f_X4_winsAtOnce_L24 (rb : Int32) (rg : Int32) (ro : Int32) (st : Int64) (v4_1 : Int32) (r16_2 : Int32 × (Nat → Int32)) (v5_3 : Int32) : Nat → Int32 → Option (Int32 × (Nat → Int32))
  | 0, _ => none
  | n+1, x6_4 =>
  if v5_3 ≤ x6_4 then some (0, r16_2.2) else if 24 ≤ x6_4 then some (0, r16_2.2) else if (x6_4) < 0 ∨ 24 ≤ (x6_4).toNatClampNeg then none else Option.bind (f_X8_after st (r16_2.2 (x6_4).toNatClampNeg)) (fun r50_8 => Option.bind (f_X5_ending rb rg ro r50_8) (fun r53_9 => if r53_9 = v4_1 then some (1, r16_2.2) else jlet (x6_4 + 1) (fun v6_11 => (f_X4_winsAtOnce_L24 rb rg ro st v4_1 r16_2 v5_3 n) v6_11)))
def f_X4_winsAtOnce (qv : (Nat → Int32)) (rb : Int32) (rg : Int32) (ro : Int32) (st : Int64) : Option (Int32 × (Nat → Int32)) :=
  jlet (f_X5_wonBy (f_X8_turnOf st)) (fun v4_1 => Option.bind (f_X5_list rb rg ro qv 24 st 0) (fun r16_2 => jlet r16_2.1 (fun v5_3 => f_X4_winsAtOnce_L24 rb rg ro st v4_1 r16_2 v5_3 100 0)))
abbrev rm_X4_winsAtOnce : Room := { frames := 4, cells := 0, slots := 0, locals := 105 }
set_option maxHeartbeats 4000000 in
set_option maxRecDepth 100000 in
theorem k_X4_winsAtOnce (G : gT) (l : Launch) (pr : Nat) (ru : Nat) (qF : Nat) (qR : Nat) (qL : Nat) (qO : Nat) (qc : Int32) (qs : Int64) (ql : Int32) (qn : Int32) (qv : (Nat → Int32)) (rb : Int32) (rg : Int32) (ro : Int32) (st : Int64) (r : Int32 × (Nat → Int32)) (hF : f_X4_winsAtOnce qv rb rg ro st = some r) : HM G l yX4_winsAtOnce (.code yX4_winsAtOnce cX4_winsAtOnce 7 (some .boolean) :: UW) rm_X4_winsAtOnce 0 0 [.ref pr, .ref ru, .long st] [(pr, .inr (4, [.ref qF, .ref qR, .ref qL, .ref qO, .int qc, .long qs, .int ql, .int qn])), (qL, .inl (gI G, 24, .inl qv)), (ru, .inr (5, [.int rb, .int rg, .int ro]))] (some (.int r.1)) [(pr, .inr (4, [.ref qF, .ref qR, .ref qL, .ref qO, .int qc, .long qs, .int ql, .int qn])), (qL, .inl (gI G, 24, .inl r.2)), (ru, .inr (5, [.int rb, .int rg, .int ro]))] := by
  refine HM.ofW (by decide) (Nat.le_of_ble_eq_true rfl) ?_
  intro p e s m args below meth c A post hpost hC hP hD hS ls hl
  obtain ⟨hx, hb, hr, hml, hown, hts, hlk, hE, hA⟩ := hC
  have hl : lv_has ls 7 [(0, .ref pr), (1, .ref ru), (2, .long st)] := hl
  unfold f_X4_winsAtOnce at hF
  refine lv_lload_n hx hb dX4_winsAtOnce_0 rfl (lv_at hl 2 rfl) ?_
  refine hm_S (wn := [(pr, .inr (4, [.ref qF, .ref qR, .ref qL, .ref qO, .int qc, .long qs, .int ql, .int qn])), (qL, .inl (gI G, 24, .inl qv)), (ru, .inr (5, [.int rb, .int rg, .int ro]))]) (wr := [(pr, .inr (4, [.ref qF, .ref qR, .ref qL, .ref qO, .int qc, .long qs, .int ql, .int qn])), (qL, .inl (gI G, 24, .inl qv)), (ru, .inr (5, [.int rb, .int rg, .int ro]))]) (rest := []) (sn := [.int (f_X8_turnOf st)]) hx hb hml hown hts hE hA (k_X8_turnOf G l st _ rfl) sm_X8_turnOf mw_594 ⟨rfl, rfl, Nat.le_of_ble_eq_true rfl, Nat.le_of_ble_eq_true rfl⟩ hP hD hS [] [0, 1, 2] [0, 1, 2] rfl rfl rfl (by decide) hl.1 rfl rfl (Nat.le_of_ble_eq_true rfl) dX4_winsAtOnce_1 ⟨Nat.le_of_ble_eq_true rfl, Nat.le_of_ble_eq_true rfl⟩ (fun H locs hP hD hS => ?_)
  refine hm_S (wn := [(pr, .inr (4, [.ref qF, .ref qR, .ref qL, .ref qO, .int qc, .long qs, .int ql, .int qn])), (qL, .inl (gI G, 24, .inl qv)), (ru, .inr (5, [.int rb, .int rg, .int ro]))]) (wr := [(pr, .inr (4, [.ref qF, .ref qR, .ref qL, .ref qO, .int qc, .long qs, .int ql, .int qn])), (qL, .inl (gI G, 24, .inl qv)), (ru, .inr (5, [.int rb, .int rg, .int ro]))]) (rest := []) (sn := [.int (f_X5_wonBy (f_X8_turnOf st))]) hx hb hml hown hts hE hA (k_X5_wonBy G l (f_X8_turnOf st) _ rfl) sm_X5_wonBy mw_595 ⟨rfl, rfl, Nat.le_of_ble_eq_true rfl, Nat.le_of_ble_eq_true rfl⟩ hP hD hS [] [0, 1, 2] [0, 1, 2] rfl rfl rfl (by decide) hl.1 rfl rfl (Nat.le_of_ble_eq_true rfl) dX4_winsAtOnce_4 ⟨Nat.le_of_ble_eq_true rfl, Nat.le_of_ble_eq_true rfl⟩ (fun H locs hP hD hS => ?_)
  refine lv_topi (fun v4_1 ev4_1 => ?_)
  have hF := jl hF ev4_1
  refine lv_istore (lv' := [(4, .int v4_1), (0, .ref pr), (1, .ref ru), (2, .long st)]) hx hb dX4_winsAtOnce_7 hl (by decide) rfl (fun ls hl => ?_)
  refine lv_aload_n hx hb dX4_winsAtOnce_9 rfl (lv_at hl 2 rfl) ?_
  refine lv_lload_n hx hb dX4_winsAtOnce_10 rfl (lv_at hl 3 rfl) ?_
  refine lv_aload_n hx hb dX4_winsAtOnce_11 rfl (lv_at hl 1 rfl) ?_
  refine hget hx hb hts hown hE fl_X4_18 hP 0 rfl rfl dX4_winsAtOnce_12 ?_
  refine lv_iconst (v := 0) hx hb dX4_winsAtOnce_15 (by decide) ?_
  obtain ⟨r16_2, hr16_2, hF⟩ := bnd hF
  refine hm_V (wn := [(pr, .inr (4, [.ref qF, .ref qR, .ref qL, .ref qO, .int qc, .long qs, .int ql, .int qn])), (qL, .inl (gI G, 24, .inl r16_2.2)), (ru, .inr (5, [.int rb, .int rg, .int ro]))]) (wr := [(pr, .inr (4, [.ref qF, .ref qR, .ref qL, .ref qO, .int qc, .long qs, .int ql, .int qn]))]) (rest := []) (sn := [.int r16_2.1]) hx hb hml hown hts hE hA (k_X5_list G l ru qL rb rg ro qv 24 st 0 r16_2 hr16_2) sm_X5_list mw_596 ⟨rfl, rfl, Nat.le_of_ble_eq_true rfl, Nat.le_of_ble_eq_true rfl⟩ hP hD hS 2 rfl rfl [2, 1] [0] [0, 2, 1] rfl rfl rfl (by decide) hl.1 rfl rfl (Nat.le_of_ble_eq_true rfl) dX4_winsAtOnce_16 ⟨Nat.le_of_ble_eq_true rfl, Nat.le_of_ble_eq_true rfl⟩ (fun H locs hP hD hS => ?_)
  refine lv_topi (fun v5_3 ev5_3 => ?_)
  have hF := jl hF ev5_3
  refine lv_istore (lv' := [(5, .int v5_3), (4, .int v4_1), (0, .ref pr), (1, .ref ru), (2, .long st)]) hx hb dX4_winsAtOnce_19 hl (by decide) rfl (fun ls hl => ?_)
  refine lv_iconst (v := 0) hx hb dX4_winsAtOnce_21 (by decide) ?_
  refine lv_istore (lv' := [(6, .int 0), (5, .int v5_3), (4, .int v4_1), (0, .ref pr), (1, .ref ru), (2, .long st)]) hx hb dX4_winsAtOnce_22 hl (by decide) rfl (fun ls hl => ?_)
  have hL24 : ∀ (n24 : Nat) (x6_4 : Int32) (H : Heap) (locs : List Loc) (ls : Array Slot), f_X4_winsAtOnce_L24 rb rg ro st v4_1 r16_2 v5_3 n24 x6_4 = some r → va_P (gD G) vwCl [(pr, .inr (4, [.ref qF, .ref qR, .ref qL, .ref qO, .int qc, .long qs, .int ql, .int qn])), (qL, .inl (gI G, 24, .inl r16_2.2)), (ru, .inr (5, [.int rb, .int rg, .int ro]))] H → va_D A [(pr, .inr (4, [.ref qF, .ref qR, .ref qL, .ref qO, .int qc, .long qs, .int ql, .int qn])), (qL, .inl (gI G, 24, .inl r16_2.2)), (ru, .inr (5, [.int rb, .int rg, .int ro]))] → va_S A s.heap H locs → lv_has ls 7 [(0, .ref pr), (1, .ref ru), (2, .long st), (4, .int v4_1), (5, .int v5_3), (6, .int x6_4)] → W p l e rm_X4_winsAtOnce s m args below meth c H locs 0 0 (MQ below (HXq G post A) args s 0 0 A) (F0 m 24 ls []) := by
    intro n24
    induction n24 with
    | zero =>
      intro x6_4 H locs ls hF
      exact absurd hF (fun h => by cases h)
    | succ n24 ih24 =>
      intro x6_4 H locs ls hF hP hD hS hl
      unfold f_X4_winsAtOnce_L24 at hF
      refine lv_iload hx hb dX4_winsAtOnce_24 (lv_at hl 5 rfl) ?_
      refine lv_iload hx hb dX4_winsAtOnce_26 (lv_at hl 4 rfl) ?_
      refine lv_icmp_ge (tgt := 69) hx hb dX4_winsAtOnce_28 (by decide) (fun c_5 => ?_) (fun c_5 => ?_)
      · have hF := ifp hF c_5
        refine lv_iconst (v := 0) hx hb dX4_winsAtOnce_69 (by decide) ?_
        have hF := Option.some.inj hF
        subst hF
        exact hm_zret hx hb hr hlk hP hD hS (by decide +kernel) hpost dX4_winsAtOnce_70
      · have hF := ifn hF c_5
        refine lv_iload hx hb dX4_winsAtOnce_31 (lv_at hl 5 rfl) ?_
        refine lv_aload_n hx hb dX4_winsAtOnce_33 rfl (lv_at hl 0 rfl) ?_
        refine hget hx hb hts hown hE fl_X4_18 hP 0 rfl rfl dX4_winsAtOnce_34 ?_
        refine halen 0 (v := 24) hx hb hE hP 1 rfl rfl rfl dX4_winsAtOnce_37 ?_
        refine lv_icmp_ge (tgt := 69) hx hb dX4_winsAtOnce_38 (by decide) (fun c_6 => ?_) (fun c_6 => ?_)
        · have hF := ifp hF c_6
          refine lv_iconst (v := 0) hx hb dX4_winsAtOnce_69 (by decide) ?_
          have hF := Option.some.inj hF
          subst hF
          exact hm_zret hx hb hr hlk hP hD hS (by decide +kernel) hpost dX4_winsAtOnce_70
        · have hF := ifn hF c_6
          refine lv_aload_n hx hb dX4_winsAtOnce_41 rfl (lv_at hl 1 rfl) ?_
          refine lv_lload_n hx hb dX4_winsAtOnce_42 rfl (lv_at hl 2 rfl) ?_
          refine lv_aload_n hx hb dX4_winsAtOnce_43 rfl (lv_at hl 0 rfl) ?_
          refine hget hx hb hts hown hE fl_X4_18 hP 0 rfl rfl dX4_winsAtOnce_44 ?_
          refine lv_iload hx hb dX4_winsAtOnce_47 (lv_at hl 5 rfl) ?_
          obtain ⟨hi_7, hF⟩ := inb hF
          refine hiald hx hb hE hP 1 rfl hi_7 dX4_winsAtOnce_49 ?_
          obtain ⟨r50_8, hr50_8, hF⟩ := bnd hF
          refine hm_S (wn := [(pr, .inr (4, [.ref qF, .ref qR, .ref qL, .ref qO, .int qc, .long qs, .int ql, .int qn])), (qL, .inl (gI G, 24, .inl r16_2.2)), (ru, .inr (5, [.int rb, .int rg, .int ro]))]) (wr := [(pr, .inr (4, [.ref qF, .ref qR, .ref qL, .ref qO, .int qc, .long qs, .int ql, .int qn])), (qL, .inl (gI G, 24, .inl r16_2.2)), (ru, .inr (5, [.int rb, .int rg, .int ro]))]) (rest := [.ref ru]) (sn := [.long r50_8, .ref ru]) hx hb hml hown hts hE hA (k_X8_after G l st (r16_2.2 (x6_4).toNatClampNeg) r50_8 hr50_8) sm_X8_after mw_597 ⟨rfl, rfl, Nat.le_of_ble_eq_true rfl, Nat.le_of_ble_eq_true rfl⟩ hP hD hS [] [0, 1, 2] [0, 1, 2] rfl rfl rfl (by decide) hl.1 rfl rfl (Nat.le_of_ble_eq_true rfl) dX4_winsAtOnce_50 ⟨Nat.le_of_ble_eq_true rfl, Nat.le_of_ble_eq_true rfl⟩ (fun H locs hP hD hS => ?_)
          obtain ⟨r53_9, hr53_9, hF⟩ := bnd hF
          refine hm_V (wn := [(pr, .inr (4, [.ref qF, .ref qR, .ref qL, .ref qO, .int qc, .long qs, .int ql, .int qn])), (qL, .inl (gI G, 24, .inl r16_2.2)), (ru, .inr (5, [.int rb, .int rg, .int ro]))]) (wr := [(pr, .inr (4, [.ref qF, .ref qR, .ref qL, .ref qO, .int qc, .long qs, .int ql, .int qn])), (qL, .inl (gI G, 24, .inl r16_2.2))]) (rest := []) (sn := [.int r53_9]) hx hb hml hown hts hE hA (k_X5_ending G l ru rb rg ro r50_8 r53_9 hr53_9) sm_X5_ending mw_598 ⟨rfl, rfl, Nat.le_of_ble_eq_true rfl, Nat.le_of_ble_eq_true rfl⟩ hP hD hS 2 rfl rfl [2] [0, 1] [0, 1, 2] rfl rfl rfl (by decide) hl.1 rfl rfl (Nat.le_of_ble_eq_true rfl) dX4_winsAtOnce_53 ⟨Nat.le_of_ble_eq_true rfl, Nat.le_of_ble_eq_true rfl⟩ (fun H locs hP hD hS => ?_)
          refine lv_iload hx hb dX4_winsAtOnce_56 (lv_at hl 3 rfl) ?_
          refine lv_icmp_ne (tgt := 63) hx hb dX4_winsAtOnce_58 (by decide) (fun c_10 => ?_) (fun c_10 => ?_)
          · have hF := ifn hF c_10
            obtain ⟨v6_11, ev6_11⟩ : ∃ z : Int32, z = x6_4 + 1 := ⟨_, rfl⟩
            have hF := jl hF ev6_11
            refine lv_iinc (v := v6_11) (lv' := [(6, .int v6_11), (0, .ref pr), (1, .ref ru), (2, .long st), (4, .int v4_1), (5, .int v5_3)]) hx hb dX4_winsAtOnce_63 hl (k := 5) rfl (by rw [ev6_11]; rfl) (by decide) rfl (fun ls hl => ?_)
            refine lv_goto (tgt := 24) hx hb dX4_winsAtOnce_66 (by decide) ?_
            exact ih24 v6_11 _ _ _ hF hP hD hS (lv_sub hl [1, 2, 3, 4, 5, 0] rfl)
          · have hF := ifp hF c_10
            refine lv_iconst (v := 1) hx hb dX4_winsAtOnce_61 (by decide) ?_
            have hF := Option.some.inj hF
            subst hF
            exact hm_zret hx hb hr hlk hP hD hS (by decide +kernel) hpost dX4_winsAtOnce_62
  exact hL24 _ 0 _ _ _ hF hP hD hS (lv_sub hl [3, 4, 5, 2, 1, 0] rfl)
def f_X4_winsAgainstAll_L15 (rb : Int32) (rg : Int32) (ro : Int32) (st : Int64) (v4_2 : Int32) : Nat → Int32 → (Nat → Int32) → (Nat → Int32) → Option (Int32 × (Nat → Int32) × (Nat → Int32))
  | 0, _, _, _ => none
  | n+1, x5_3, qr_4, qv_5 =>
  if v4_2 ≤ x5_3 then some (1, qr_4, qv_5) else if 24 ≤ x5_3 then some (1, qr_4, qv_5) else if (x5_3) < 0 ∨ 24 ≤ (x5_3).toNatClampNeg then none else Option.bind (f_X8_after st (qr_4 (x5_3).toNatClampNeg)) (fun r42_9 => Option.bind (f_X4_winsAtOnce qv_5 rb rg ro r42_9) (fun r45_10 => if r45_10.1 = 0 then some (0, qr_4, r45_10.2) else jlet (x5_3 + 1) (fun v5_12 => (f_X4_winsAgainstAll_L15 rb rg ro st v4_2 n) v5_12 qr_4 r45_10.2)))
def f_X4_winsAgainstAll (qr : (Nat → Int32)) (qv : (Nat → Int32)) (rb : Int32) (rg : Int32) (ro : Int32) (st : Int64) : Option (Int32 × (Nat → Int32) × (Nat → Int32)) :=
  Option.bind (f_X5_list rb rg ro qr 24 st 0) (fun r7_1 => jlet r7_1.1 (fun v4_2 => f_X4_winsAgainstAll_L15 rb rg ro st v4_2 100 0 r7_1.2 qv))
abbrev rm_X4_winsAgainstAll : Room := { frames := 5, cells := 0, slots := 0, locals := 131 }
set_option maxHeartbeats 4000000 in
set_option maxRecDepth 100000 in
theorem k_X4_winsAgainstAll (G : gT) (l : Launch) (pr : Nat) (ru : Nat) (qF : Nat) (qR : Nat) (qL : Nat) (qO : Nat) (qc : Int32) (qs : Int64) (ql : Int32) (qn : Int32) (qr : (Nat → Int32)) (qv : (Nat → Int32)) (rb : Int32) (rg : Int32) (ro : Int32) (st : Int64) (r : Int32 × (Nat → Int32) × (Nat → Int32)) (hF : f_X4_winsAgainstAll qr qv rb rg ro st = some r) : HM G l yX4_winsAgainstAll (.code yX4_winsAgainstAll cX4_winsAgainstAll 6 (some .boolean) :: UW) rm_X4_winsAgainstAll 0 0 [.ref pr, .ref ru, .long st] [(pr, .inr (4, [.ref qF, .ref qR, .ref qL, .ref qO, .int qc, .long qs, .int ql, .int qn])), (qR, .inl (gI G, 24, .inl qr)), (qL, .inl (gI G, 24, .inl qv)), (ru, .inr (5, [.int rb, .int rg, .int ro]))] (some (.int r.1)) [(pr, .inr (4, [.ref qF, .ref qR, .ref qL, .ref qO, .int qc, .long qs, .int ql, .int qn])), (qR, .inl (gI G, 24, .inl r.2.1)), (qL, .inl (gI G, 24, .inl r.2.2)), (ru, .inr (5, [.int rb, .int rg, .int ro]))] := by
  refine HM.ofW (by decide) (Nat.le_of_ble_eq_true rfl) ?_
  intro p e s m args below meth c A post hpost hC hP hD hS ls hl
  obtain ⟨hx, hb, hr, hml, hown, hts, hlk, hE, hA⟩ := hC
  have hl : lv_has ls 6 [(0, .ref pr), (1, .ref ru), (2, .long st)] := hl
  unfold f_X4_winsAgainstAll at hF
  refine lv_aload_n hx hb dX4_winsAgainstAll_0 rfl (lv_at hl 1 rfl) ?_
  refine lv_lload_n hx hb dX4_winsAgainstAll_1 rfl (lv_at hl 2 rfl) ?_
  refine lv_aload_n hx hb dX4_winsAgainstAll_2 rfl (lv_at hl 0 rfl) ?_
  refine hget hx hb hts hown hE fl_X4_15 hP 0 rfl rfl dX4_winsAgainstAll_3 ?_
  refine lv_iconst (v := 0) hx hb dX4_winsAgainstAll_6 (by decide) ?_
  obtain ⟨r7_1, hr7_1, hF⟩ := bnd hF
  refine hm_V (wn := [(pr, .inr (4, [.ref qF, .ref qR, .ref qL, .ref qO, .int qc, .long qs, .int ql, .int qn])), (qR, .inl (gI G, 24, .inl r7_1.2)), (qL, .inl (gI G, 24, .inl qv)), (ru, .inr (5, [.int rb, .int rg, .int ro]))]) (wr := [(pr, .inr (4, [.ref qF, .ref qR, .ref qL, .ref qO, .int qc, .long qs, .int ql, .int qn])), (qL, .inl (gI G, 24, .inl qv))]) (rest := []) (sn := [.int r7_1.1]) hx hb hml hown hts hE hA (k_X5_list G l ru qR rb rg ro qr 24 st 0 r7_1 hr7_1) sm_X5_list mw_596 ⟨rfl, rfl, Nat.le_of_ble_eq_true rfl, Nat.le_of_ble_eq_true rfl⟩ hP hD hS 3 rfl rfl [3, 1] [0, 2] [0, 3, 1, 2] rfl rfl rfl (by decide) hl.1 rfl rfl (Nat.le_of_ble_eq_true rfl) dX4_winsAgainstAll_7 ⟨Nat.le_of_ble_eq_true rfl, Nat.le_of_ble_eq_true rfl⟩ (fun H locs hP hD hS => ?_)
  refine lv_topi (fun v4_2 ev4_2 => ?_)
  have hF := jl hF ev4_2
  refine lv_istore (lv' := [(4, .int v4_2), (0, .ref pr), (1, .ref ru), (2, .long st)]) hx hb dX4_winsAgainstAll_10 hl (by decide) rfl (fun ls hl => ?_)
  refine lv_iconst (v := 0) hx hb dX4_winsAgainstAll_12 (by decide) ?_
  refine lv_istore (lv' := [(5, .int 0), (4, .int v4_2), (0, .ref pr), (1, .ref ru), (2, .long st)]) hx hb dX4_winsAgainstAll_13 hl (by decide) rfl (fun ls hl => ?_)
  have hL15 : ∀ (n15 : Nat) (x5_3 : Int32) (qr_4 : (Nat → Int32)) (qv_5 : (Nat → Int32)) (H : Heap) (locs : List Loc) (ls : Array Slot), f_X4_winsAgainstAll_L15 rb rg ro st v4_2 n15 x5_3 qr_4 qv_5 = some r → va_P (gD G) vwCl [(pr, .inr (4, [.ref qF, .ref qR, .ref qL, .ref qO, .int qc, .long qs, .int ql, .int qn])), (qR, .inl (gI G, 24, .inl qr_4)), (qL, .inl (gI G, 24, .inl qv_5)), (ru, .inr (5, [.int rb, .int rg, .int ro]))] H → va_D A [(pr, .inr (4, [.ref qF, .ref qR, .ref qL, .ref qO, .int qc, .long qs, .int ql, .int qn])), (qR, .inl (gI G, 24, .inl qr_4)), (qL, .inl (gI G, 24, .inl qv_5)), (ru, .inr (5, [.int rb, .int rg, .int ro]))] → va_S A s.heap H locs → lv_has ls 6 [(0, .ref pr), (1, .ref ru), (2, .long st), (4, .int v4_2), (5, .int x5_3)] → W p l e rm_X4_winsAgainstAll s m args below meth c H locs 0 0 (MQ below (HXq G post A) args s 0 0 A) (F0 m 15 ls []) := by
    intro n15
    induction n15 with
    | zero =>
      intro x5_3 qr_4 qv_5 H locs ls hF
      exact absurd hF (fun h => by cases h)
    | succ n15 ih15 =>
      intro x5_3 qr_4 qv_5 H locs ls hF hP hD hS hl
      unfold f_X4_winsAgainstAll_L15 at hF
      refine lv_iload hx hb dX4_winsAgainstAll_15 (lv_at hl 4 rfl) ?_
      refine lv_iload hx hb dX4_winsAgainstAll_17 (lv_at hl 3 rfl) ?_
      refine lv_icmp_ge (tgt := 59) hx hb dX4_winsAgainstAll_19 (by decide) (fun c_6 => ?_) (fun c_6 => ?_)
      · have hF := ifp hF c_6
        refine lv_iconst (v := 1) hx hb dX4_winsAgainstAll_59 (by decide) ?_
        have hF := Option.some.inj hF
        subst hF
        exact hm_zret hx hb hr hlk hP hD hS (by decide +kernel) hpost dX4_winsAgainstAll_60
      · have hF := ifn hF c_6
        refine lv_iload hx hb dX4_winsAgainstAll_22 (lv_at hl 4 rfl) ?_
        refine lv_aload_n hx hb dX4_winsAgainstAll_24 rfl (lv_at hl 0 rfl) ?_
        refine hget hx hb hts hown hE fl_X4_15 hP 0 rfl rfl dX4_winsAgainstAll_25 ?_
        refine halen 0 (v := 24) hx hb hE hP 1 rfl rfl rfl dX4_winsAgainstAll_28 ?_
        refine lv_icmp_ge (tgt := 59) hx hb dX4_winsAgainstAll_29 (by decide) (fun c_7 => ?_) (fun c_7 => ?_)
        · have hF := ifp hF c_7
          refine lv_iconst (v := 1) hx hb dX4_winsAgainstAll_59 (by decide) ?_
          have hF := Option.some.inj hF
          subst hF
          exact hm_zret hx hb hr hlk hP hD hS (by decide +kernel) hpost dX4_winsAgainstAll_60
        · have hF := ifn hF c_7
          refine lv_aload_n hx hb dX4_winsAgainstAll_32 rfl (lv_at hl 0 rfl) ?_
          refine lv_aload_n hx hb dX4_winsAgainstAll_33 rfl (lv_at hl 1 rfl) ?_
          refine lv_lload_n hx hb dX4_winsAgainstAll_34 rfl (lv_at hl 2 rfl) ?_
          refine lv_aload_n hx hb dX4_winsAgainstAll_35 rfl (lv_at hl 0 rfl) ?_
          refine hget hx hb hts hown hE fl_X4_15 hP 0 rfl rfl dX4_winsAgainstAll_36 ?_
          refine lv_iload hx hb dX4_winsAgainstAll_39 (lv_at hl 4 rfl) ?_
          obtain ⟨hi_8, hF⟩ := inb hF
          refine hiald hx hb hE hP 1 rfl hi_8 dX4_winsAgainstAll_41 ?_
          obtain ⟨r42_9, hr42_9, hF⟩ := bnd hF
          refine hm_S (wn := [(pr, .inr (4, [.ref qF, .ref qR, .ref qL, .ref qO, .int qc, .long qs, .int ql, .int qn])), (qR, .inl (gI G, 24, .inl qr_4)), (qL, .inl (gI G, 24, .inl qv_5)), (ru, .inr (5, [.int rb, .int rg, .int ro]))]) (wr := [(pr, .inr (4, [.ref qF, .ref qR, .ref qL, .ref qO, .int qc, .long qs, .int ql, .int qn])), (qR, .inl (gI G, 24, .inl qr_4)), (qL, .inl (gI G, 24, .inl qv_5)), (ru, .inr (5, [.int rb, .int rg, .int ro]))]) (rest := [.ref ru, .ref pr]) (sn := [.long r42_9, .ref ru, .ref pr]) hx hb hml hown hts hE hA (k_X8_after G l st (qr_4 (x5_3).toNatClampNeg) r42_9 hr42_9) sm_X8_after mw_597 ⟨rfl, rfl, Nat.le_of_ble_eq_true rfl, Nat.le_of_ble_eq_true rfl⟩ hP hD hS [] [0, 1, 2, 3] [0, 1, 2, 3] rfl rfl rfl (by decide) hl.1 rfl rfl (Nat.le_of_ble_eq_true rfl) dX4_winsAgainstAll_42 ⟨Nat.le_of_ble_eq_true rfl, Nat.le_of_ble_eq_true rfl⟩ (fun H locs hP hD hS => ?_)
          obtain ⟨r45_10, hr45_10, hF⟩ := bnd hF
          refine hm_V (wn := [(pr, .inr (4, [.ref qF, .ref qR, .ref qL, .ref qO, .int qc, .long qs, .int ql, .int qn])), (qR, .inl (gI G, 24, .inl qr_4)), (qL, .inl (gI G, 24, .inl r45_10.2)), (ru, .inr (5, [.int rb, .int rg, .int ro]))]) (wr := [(qR, .inl (gI G, 24, .inl qr_4))]) (rest := []) (sn := [.int r45_10.1]) hx hb hml hown hts hE hA (k_X4_winsAtOnce G l pr ru qF qR qL qO qc qs ql qn qv_5 rb rg ro r42_9 r45_10 hr45_10) sm_X4_winsAtOnce mw_603 ⟨rfl, rfl, Nat.le_of_ble_eq_true rfl, Nat.le_of_ble_eq_true rfl⟩ hP hD hS 0 rfl rfl [0, 2, 3] [1] [1, 0, 2, 3] rfl rfl rfl (by decide) hl.1 rfl rfl (Nat.le_of_ble_eq_true rfl) dX4_winsAgainstAll_45 ⟨Nat.le_of_ble_eq_true rfl, Nat.le_of_ble_eq_true rfl⟩ (fun H locs hP hD hS => ?_)
          refine lv_if_ne (tgt := 53) hx hb dX4_winsAgainstAll_48 (by decide) (fun c_11 => ?_) (fun c_11 => ?_)
          · have hF := ifn hF c_11
            obtain ⟨v5_12, ev5_12⟩ : ∃ z : Int32, z = x5_3 + 1 := ⟨_, rfl⟩
            have hF := jl hF ev5_12
            refine lv_iinc (v := v5_12) (lv' := [(5, .int v5_12), (0, .ref pr), (1, .ref ru), (2, .long st), (4, .int v4_2)]) hx hb dX4_winsAgainstAll_53 hl (k := 4) rfl (by rw [ev5_12]; rfl) (by decide) rfl (fun ls hl => ?_)
            refine lv_goto (tgt := 15) hx hb dX4_winsAgainstAll_56 (by decide) ?_
            exact ih15 v5_12 qr_4 r45_10.2 _ _ _ hF hP hD hS (lv_sub hl [1, 2, 3, 4, 0] rfl)
          · have hF := ifp hF c_11
            refine lv_iconst (v := 0) hx hb dX4_winsAgainstAll_51 (by decide) ?_
            have hF := Option.some.inj hF
            subst hF
            exact hm_zret hx hb hr hlk hP hD hS (by decide +kernel) hpost dX4_winsAgainstAll_52
  exact hL15 _ 0 r7_1.2 qv _ _ _ hF hP hD hS (lv_sub hl [2, 3, 4, 1, 0] rfl)
def f_X4_find_B194 (k_78 : Int32 → Int32 → Int64 → Int32 → Int32 → (Nat → Int32) → (Nat → Int32) → (Nat → Int32) → (Nat → Int32) → Option (Int32 × Int64 × Int32 × Int32 × (Nat → Int32) × (Nat → Int32) × (Nat → Int32) × (Nat → Int32))) (x7_5 : Int32) (qc_28 : Int32) (qs_29 : Int64) (ql_30 : Int32) (qn_31 : Int32) (qf_32 : (Nat → Int32)) (qr_33 : (Nat → Int32)) (qv_34 : (Nat → Int32)) (qo_35 : (Nat → Int32)) : Option (Int32 × Int64 × Int32 × Int32 × (Nat → Int32) × (Nat → Int32) × (Nat → Int32) × (Nat → Int32)) :=
  jlet (x7_5 + 1) (fun v7_36 => k_78 v7_36 qc_28 qs_29 ql_30 qn_31 qf_32 qr_33 qv_34 qo_35)
def f_X4_find_B149 (k_78 : Int32 → Int32 → Int64 → Int32 → Int32 → (Nat → Int32) → (Nat → Int32) → (Nat → Int32) → (Nat → Int32) → Option (Int32 × Int64 × Int32 × Int32 × (Nat → Int32) × (Nat → Int32) × (Nat → Int32) × (Nat → Int32))) (x7_5 : Int32) (t0_19 : Int32) (qc_20 : Int32) (qs_21 : Int64) (ql_22 : Int32) (qn_23 : Int32) (qf_24 : (Nat → Int32)) (qr_25 : (Nat → Int32)) (qv_26 : (Nat → Int32)) (qo_27 : (Nat → Int32)) : Option (Int32 × Int64 × Int32 × Int32 × (Nat → Int32) × (Nat → Int32) × (Nat → Int32) × (Nat → Int32)) :=
  if t0_19 = 0 then f_X4_find_B194 k_78 x7_5 qc_20 qs_21 ql_22 qn_23 qf_24 qr_25 qv_26 qo_27 else if 24 ≤ qc_20 then f_X4_find_B194 k_78 x7_5 qc_20 qs_21 ql_22 qn_23 qf_24 qr_25 qv_26 qo_27 else if (x7_5) < 0 ∨ 24 ≤ (x7_5).toNatClampNeg then none else if (qc_20) < 0 ∨ 24 ≤ (qc_20).toNatClampNeg then none else jlet (upd qo_27 (qc_20).toNatClampNeg (qf_24 (x7_5).toNatClampNeg)) (fun a183_41 => jlet (qc_20 + 1) (fun u191_42 => f_X4_find_B194 k_78 x7_5 u191_42 qs_21 ql_22 qn_23 qf_24 qr_25 qv_26 a183_41))
def f_X4_find_L78 (rb : Int32) (rg : Int32) (ro : Int32) (st : Int64) (nn : Int32) (v5_2 : Int32) (v6_4 : Int32) : Nat → Int32 → Int32 → Int64 → Int32 → Int32 → (Nat → Int32) → (Nat → Int32) → (Nat → Int32) → (Nat → Int32) → Option (Int32 × Int64 × Int32 × Int32 × (Nat → Int32) × (Nat → Int32) × (Nat → Int32) × (Nat → Int32))
  | 0, _, _, _, _, _, _, _, _, _ => none
  | n+1, x7_5, qc_6, qs_7, ql_8, qn_9, qf_10, qr_11, qv_12, qo_13 =>
  if v6_4 ≤ x7_5 then some (qc_6, qs_7, ql_8, qn_9, qf_10, qr_11, qv_12, qo_13) else if 24 ≤ x7_5 then some (qc_6, qs_7, ql_8, qn_9, qf_10, qr_11, qv_12, qo_13) else if (x7_5) < 0 ∨ 24 ≤ (x7_5).toNatClampNeg then none else Option.bind (f_X8_after st (qf_10 (x7_5).toNatClampNeg)) (fun r103_17 => Option.bind (f_X5_ending rb rg ro r103_17) (fun r111_18 => if r111_18 = v5_2 then f_X4_find_B149 (f_X4_find_L78 rb rg ro st nn v5_2 v6_4 n) x7_5 1 qc_6 qs_7 ql_8 qn_9 qf_10 qr_11 qv_12 qo_13 else if nn ≤ 1 then f_X4_find_B149 (f_X4_find_L78 rb rg ro st nn v5_2 v6_4 n) x7_5 0 qc_6 qs_7 ql_8 qn_9 qf_10 qr_11 qv_12 qo_13 else if r111_18 = 0 then Option.bind (f_X4_winsAgainstAll qr_11 qv_12 rb rg ro r103_17) (fun r138_46 => if r138_46.1 = 0 then f_X4_find_B149 (f_X4_find_L78 rb rg ro st nn v5_2 v6_4 n) x7_5 0 qc_6 qs_7 ql_8 qn_9 qf_10 r138_46.2.1 r138_46.2.2 qo_13 else f_X4_find_B149 (f_X4_find_L78 rb rg ro st nn v5_2 v6_4 n) x7_5 1 qc_6 qs_7 ql_8 qn_9 qf_10 r138_46.2.1 r138_46.2.2 qo_13) else f_X4_find_B149 (f_X4_find_L78 rb rg ro st nn v5_2 v6_4 n) x7_5 0 qc_6 qs_7 ql_8 qn_9 qf_10 qr_11 qv_12 qo_13))
def f_X4_find_B30 (qf : (Nat → Int32)) (qr : (Nat → Int32)) (qv : (Nat → Int32)) (qo : (Nat → Int32)) (rb : Int32) (rg : Int32) (ro : Int32) (st : Int64) (nn : Int32) : Option (Int32 × Int64 × Int32 × Int32 × (Nat → Int32) × (Nat → Int32) × (Nat → Int32) × (Nat → Int32)) :=
  jlet (f_X5_code rb rg ro) (fun u35_1 => jlet (f_X5_wonBy (f_X8_turnOf st)) (fun v5_2 => Option.bind (f_X5_list rb rg ro qf 24 st 0) (fun r70_3 => jlet r70_3.1 (fun v6_4 => f_X4_find_L78 rb rg ro st nn v5_2 v6_4 100 0 0 st u35_1 nn r70_3.2 qr qv qo))))
def f_X4_find (qc : Int32) (qs : Int64) (ql : Int32) (qn : Int32) (qf : (Nat → Int32)) (qr : (Nat → Int32)) (qv : (Nat → Int32)) (qo : (Nat → Int32)) (rb : Int32) (rg : Int32) (ro : Int32) (st : Int64) (nn : Int32) : Option (Int32 × Int64 × Int32 × Int32 × (Nat → Int32) × (Nat → Int32) × (Nat → Int32) × (Nat → Int32)) :=
  if ql = (f_X5_code rb rg ro) then if (lg_cmp qs st) = 0 then if qn = nn then some (qc, qs, ql, qn, qf, qr, qv, qo) else f_X4_find_B30 qf qr qv qo rb rg ro st nn else f_X4_find_B30 qf qr qv qo rb rg ro st nn else f_X4_find_B30 qf qr qv qo rb rg ro st nn
abbrev rm_X4_find : Room := { frames := 6, cells := 0, slots := 0, locals := 156 }
set_option maxHeartbeats 4000000 in
set_option maxRecDepth 100000 in
theorem k_X4_find (G : gT) (l : Launch) (pr : Nat) (ru : Nat) (qF : Nat) (qR : Nat) (qL : Nat) (qO : Nat) (qc : Int32) (qs : Int64) (ql : Int32) (qn : Int32) (qf : (Nat → Int32)) (qr : (Nat → Int32)) (qv : (Nat → Int32)) (qo : (Nat → Int32)) (rb : Int32) (rg : Int32) (ro : Int32) (st : Int64) (nn : Int32) (r : Int32 × Int64 × Int32 × Int32 × (Nat → Int32) × (Nat → Int32) × (Nat → Int32) × (Nat → Int32)) (hF : f_X4_find qc qs ql qn qf qr qv qo rb rg ro st nn = some r) : HM G l yX4_find (.code yX4_find cX4_find 12 none :: UW) rm_X4_find 0 0 [.ref pr, .ref ru, .long st, .int nn] [(pr, .inr (4, [.ref qF, .ref qR, .ref qL, .ref qO, .int qc, .long qs, .int ql, .int qn])), (qF, .inl (gI G, 24, .inl qf)), (qR, .inl (gI G, 24, .inl qr)), (qL, .inl (gI G, 24, .inl qv)), (qO, .inl (gI G, 24, .inl qo)), (ru, .inr (5, [.int rb, .int rg, .int ro]))] none [(pr, .inr (4, [.ref qF, .ref qR, .ref qL, .ref qO, .int r.1, .long r.2.1, .int r.2.2.1, .int r.2.2.2.1])), (qF, .inl (gI G, 24, .inl r.2.2.2.2.1)), (qR, .inl (gI G, 24, .inl r.2.2.2.2.2.1)), (qL, .inl (gI G, 24, .inl r.2.2.2.2.2.2.1)), (qO, .inl (gI G, 24, .inl r.2.2.2.2.2.2.2)), (ru, .inr (5, [.int rb, .int rg, .int ro]))] := by
  refine HM.ofW (by decide) (Nat.le_of_ble_eq_true rfl) ?_
  intro p e s m args below meth c A post hpost hC hP hD hS ls hl
  obtain ⟨hx, hb, hr, hml, hown, hts, hlk, hE, hA⟩ := hC
  have hl : lv_has ls 12 [(0, .ref pr), (1, .ref ru), (2, .long st), (4, .int nn)] := hl
  unfold f_X4_find at hF
  refine lv_aload_n hx hb dX4_find_0 rfl (lv_at hl 0 rfl) ?_
  refine hget hx hb hts hown hE fl_X4_32 hP 0 rfl rfl dX4_find_1 ?_
  refine lv_aload_n hx hb dX4_find_4 rfl (lv_at hl 1 rfl) ?_
  refine hm_V (wn := [(pr, .inr (4, [.ref qF, .ref qR, .ref qL, .ref qO, .int qc, .long qs, .int ql, .int qn])), (qF, .inl (gI G, 24, .inl qf)), (qR, .inl (gI G, 24, .inl qr)), (qL, .inl (gI G, 24, .inl qv)), (qO, .inl (gI G, 24, .inl qo)), (ru, .inr (5, [.int rb, .int rg, .int ro]))]) (wr := [(pr, .inr (4, [.ref qF, .ref qR, .ref qL, .ref qO, .int qc, .long qs, .int ql, .int qn])), (qF, .inl (gI G, 24, .inl qf)), (qR, .inl (gI G, 24, .inl qr)), (qL, .inl (gI G, 24, .inl qv)), (qO, .inl (gI G, 24, .inl qo))]) (rest := [.int ql]) (sn := [.int (f_X5_code rb rg ro), .int ql]) hx hb hml hown hts hE hA (k_X5_code G l ru rb rg ro _ rfl) sm_X5_code mw_593 ⟨rfl, rfl, Nat.le_of_ble_eq_true rfl, Nat.le_of_ble_eq_true rfl⟩ hP hD hS 5 rfl rfl [5] [0, 1, 2, 3, 4] [0, 1, 2, 3, 4, 5] rfl rfl rfl (by decide) hl.1 rfl rfl (Nat.le_of_ble_eq_true rfl) dX4_find_5 ⟨Nat.le_of_ble_eq_true rfl, Nat.le_of_ble_eq_true rfl⟩ (fun H locs hP hD hS => ?_)
  have hB30 : ∀ (H : Heap) (locs : List Loc) (ls : Array Slot), f_X4_find_B30 qf qr qv qo rb rg ro st nn = some r → va_P (gD G) vwCl [(pr, .inr (4, [.ref qF, .ref qR, .ref qL, .ref qO, .int qc, .long qs, .int ql, .int qn])), (qF, .inl (gI G, 24, .inl qf)), (qR, .inl (gI G, 24, .inl qr)), (qL, .inl (gI G, 24, .inl qv)), (qO, .inl (gI G, 24, .inl qo)), (ru, .inr (5, [.int rb, .int rg, .int ro]))] H → va_D A [(pr, .inr (4, [.ref qF, .ref qR, .ref qL, .ref qO, .int qc, .long qs, .int ql, .int qn])), (qF, .inl (gI G, 24, .inl qf)), (qR, .inl (gI G, 24, .inl qr)), (qL, .inl (gI G, 24, .inl qv)), (qO, .inl (gI G, 24, .inl qo)), (ru, .inr (5, [.int rb, .int rg, .int ro]))] → va_S A s.heap H locs → lv_has ls 12 [(0, .ref pr), (1, .ref ru), (2, .long st), (4, .int nn)] → W p l e rm_X4_find s m args below meth c H locs 0 0 (MQ below (HXq G post A) args s 0 0 A) (F0 m 30 ls []) := by
    intro H locs ls hF hP hD hS hl
    unfold f_X4_find_B30 at hF
    refine lv_aload_n hx hb dX4_find_30 rfl (lv_at hl 0 rfl) ?_
    refine lv_aload_n hx hb dX4_find_31 rfl (lv_at hl 1 rfl) ?_
    refine hm_V (wn := [(pr, .inr (4, [.ref qF, .ref qR, .ref qL, .ref qO, .int qc, .long qs, .int ql, .int qn])), (qF, .inl (gI G, 24, .inl qf)), (qR, .inl (gI G, 24, .inl qr)), (qL, .inl (gI G, 24, .inl qv)), (qO, .inl (gI G, 24, .inl qo)), (ru, .inr (5, [.int rb, .int rg, .int ro]))]) (wr := [(pr, .inr (4, [.ref qF, .ref qR, .ref qL, .ref qO, .int qc, .long qs, .int ql, .int qn])), (qF, .inl (gI G, 24, .inl qf)), (qR, .inl (gI G, 24, .inl qr)), (qL, .inl (gI G, 24, .inl qv)), (qO, .inl (gI G, 24, .inl qo))]) (rest := [.ref pr]) (sn := [.int (f_X5_code rb rg ro), .ref pr]) hx hb hml hown hts hE hA (k_X5_code G l ru rb rg ro _ rfl) sm_X5_code mw_593 ⟨rfl, rfl, Nat.le_of_ble_eq_true rfl, Nat.le_of_ble_eq_true rfl⟩ hP hD hS 5 rfl rfl [5] [0, 1, 2, 3, 4] [0, 1, 2, 3, 4, 5] rfl rfl rfl (by decide) hl.1 rfl rfl (Nat.le_of_ble_eq_true rfl) dX4_find_32 ⟨Nat.le_of_ble_eq_true rfl, Nat.le_of_ble_eq_true rfl⟩ (fun H locs hP hD hS => ?_)
    refine lv_topi (fun u35_1 eu35_1 => ?_)
    have hF := jl hF eu35_1
    refine hput hx hb hts hown hE fl_X4_32 ft_X4_6 hP hD hS 0 rfl rfl rfl rfl (Nat.le_of_ble_eq_true rfl) (wn := [(pr, .inr (4, [.ref qF, .ref qR, .ref qL, .ref qO, .int qc, .long qs, .int u35_1, .int qn])), (qF, .inl (gI G, 24, .inl qf)), (qR, .inl (gI G, 24, .inl qr)), (qL, .inl (gI G, 24, .inl qv)), (qO, .inl (gI G, 24, .inl qo)), (ru, .inr (5, [.int rb, .int rg, .int ro]))]) rfl dX4_find_35 (fun H locs hP hD hS => ?_)
    refine lv_aload_n hx hb dX4_find_38 rfl (lv_at hl 0 rfl) ?_
    refine lv_lload_n hx hb dX4_find_39 rfl (lv_at hl 2 rfl) ?_
    refine hput hx hb hts hown hE fl_X4_28 ft_X4_5 hP hD hS 0 rfl rfl rfl rfl (Nat.le_of_ble_eq_true rfl) (wn := [(pr, .inr (4, [.ref qF, .ref qR, .ref qL, .ref qO, .int qc, .long st, .int u35_1, .int qn])), (qF, .inl (gI G, 24, .inl qf)), (qR, .inl (gI G, 24, .inl qr)), (qL, .inl (gI G, 24, .inl qv)), (qO, .inl (gI G, 24, .inl qo)), (ru, .inr (5, [.int rb, .int rg, .int ro]))]) rfl dX4_find_40 (fun H locs hP hD hS => ?_)
    refine lv_aload_n hx hb dX4_find_43 rfl (lv_at hl 0 rfl) ?_
    refine lv_iload hx hb dX4_find_44 (lv_at hl 3 rfl) ?_
    refine hput hx hb hts hown hE fl_X4_35 ft_X4_7 hP hD hS 0 rfl rfl rfl rfl (Nat.le_of_ble_eq_true rfl) (wn := [(pr, .inr (4, [.ref qF, .ref qR, .ref qL, .ref qO, .int qc, .long st, .int u35_1, .int nn])), (qF, .inl (gI G, 24, .inl qf)), (qR, .inl (gI G, 24, .inl qr)), (qL, .inl (gI G, 24, .inl qv)), (qO, .inl (gI G, 24, .inl qo)), (ru, .inr (5, [.int rb, .int rg, .int ro]))]) rfl dX4_find_46 (fun H locs hP hD hS => ?_)
    refine lv_aload_n hx hb dX4_find_49 rfl (lv_at hl 0 rfl) ?_
    refine lv_iconst (v := 0) hx hb dX4_find_50 (by decide) ?_
    refine hput hx hb hts hown hE fl_X4_24 ft_X4_4 hP hD hS 0 rfl rfl rfl rfl (Nat.le_of_ble_eq_true rfl) (wn := [(pr, .inr (4, [.ref qF, .ref qR, .ref qL, .ref qO, .int 0, .long st, .int u35_1, .int nn])), (qF, .inl (gI G, 24, .inl qf)), (qR, .inl (gI G, 24, .inl qr)), (qL, .inl (gI G, 24, .inl qv)), (qO, .inl (gI G, 24, .inl qo)), (ru, .inr (5, [.int rb, .int rg, .int ro]))]) rfl dX4_find_51 (fun H locs hP hD hS => ?_)
    refine lv_lload_n hx hb dX4_find_54 rfl (lv_at hl 2 rfl) ?_
    refine hm_S (wn := [(pr, .inr (4, [.ref qF, .ref qR, .ref qL, .ref qO, .int 0, .long st, .int u35_1, .int nn])), (qF, .inl (gI G, 24, .inl qf)), (qR, .inl (gI G, 24, .inl qr)), (qL, .inl (gI G, 24, .inl qv)), (qO, .inl (gI G, 24, .inl qo)), (ru, .inr (5, [.int rb, .int rg, .int ro]))]) (wr := [(pr, .inr (4, [.ref qF, .ref qR, .ref qL, .ref qO, .int 0, .long st, .int u35_1, .int nn])), (qF, .inl (gI G, 24, .inl qf)), (qR, .inl (gI G, 24, .inl qr)), (qL, .inl (gI G, 24, .inl qv)), (qO, .inl (gI G, 24, .inl qo)), (ru, .inr (5, [.int rb, .int rg, .int ro]))]) (rest := []) (sn := [.int (f_X8_turnOf st)]) hx hb hml hown hts hE hA (k_X8_turnOf G l st _ rfl) sm_X8_turnOf mw_594 ⟨rfl, rfl, Nat.le_of_ble_eq_true rfl, Nat.le_of_ble_eq_true rfl⟩ hP hD hS [] [0, 1, 2, 3, 4, 5] [0, 1, 2, 3, 4, 5] rfl rfl rfl (by decide) hl.1 rfl rfl (Nat.le_of_ble_eq_true rfl) dX4_find_55 ⟨Nat.le_of_ble_eq_true rfl, Nat.le_of_ble_eq_true rfl⟩ (fun H locs hP hD hS => ?_)
    refine hm_S (wn := [(pr, .inr (4, [.ref qF, .ref qR, .ref qL, .ref qO, .int 0, .long st, .int u35_1, .int nn])), (qF, .inl (gI G, 24, .inl qf)), (qR, .inl (gI G, 24, .inl qr)), (qL, .inl (gI G, 24, .inl qv)), (qO, .inl (gI G, 24, .inl qo)), (ru, .inr (5, [.int rb, .int rg, .int ro]))]) (wr := [(pr, .inr (4, [.ref qF, .ref qR, .ref qL, .ref qO, .int 0, .long st, .int u35_1, .int nn])), (qF, .inl (gI G, 24, .inl qf)), (qR, .inl (gI G, 24, .inl qr)), (qL, .inl (gI G, 24, .inl qv)), (qO, .inl (gI G, 24, .inl qo)), (ru, .inr (5, [.int rb, .int rg, .int ro]))]) (rest := []) (sn := [.int (f_X5_wonBy (f_X8_turnOf st))]) hx hb hml hown hts hE hA (k_X5_wonBy G l (f_X8_turnOf st) _ rfl) sm_X5_wonBy mw_595 ⟨rfl, rfl, Nat.le_of_ble_eq_true rfl, Nat.le_of_ble_eq_true rfl⟩ hP hD hS [] [0, 1, 2, 3, 4, 5] [0, 1, 2, 3, 4, 5] rfl rfl rfl (by decide) hl.1 rfl rfl (Nat.le_of_ble_eq_true rfl) dX4_find_58 ⟨Nat.le_of_ble_eq_true rfl, Nat.le_of_ble_eq_true rfl⟩ (fun H locs hP hD hS => ?_)
    refine lv_topi (fun v5_2 ev5_2 => ?_)
    have hF := jl hF ev5_2
    refine lv_istore (lv' := [(5, .int v5_2), (0, .ref pr), (1, .ref ru), (2, .long st), (4, .int nn)]) hx hb dX4_find_61 hl (by decide) rfl (fun ls hl => ?_)
    refine lv_aload_n hx hb dX4_find_63 rfl (lv_at hl 2 rfl) ?_
    refine lv_lload_n hx hb dX4_find_64 rfl (lv_at hl 3 rfl) ?_
    refine lv_aload_n hx hb dX4_find_65 rfl (lv_at hl 1 rfl) ?_
    refine hget hx hb hts hown hE fl_X4_9 hP 0 rfl rfl dX4_find_66 ?_
    refine lv_iconst (v := 0) hx hb dX4_find_69 (by decide) ?_
    obtain ⟨r70_3, hr70_3, hF⟩ := bnd hF
    refine hm_V (wn := [(pr, .inr (4, [.ref qF, .ref qR, .ref qL, .ref qO, .int 0, .long st, .int u35_1, .int nn])), (qF, .inl (gI G, 24, .inl r70_3.2)), (qR, .inl (gI G, 24, .inl qr)), (qL, .inl (gI G, 24, .inl qv)), (qO, .inl (gI G, 24, .inl qo)), (ru, .inr (5, [.int rb, .int rg, .int ro]))]) (wr := [(pr, .inr (4, [.ref qF, .ref qR, .ref qL, .ref qO, .int 0, .long st, .int u35_1, .int nn])), (qR, .inl (gI G, 24, .inl qr)), (qL, .inl (gI G, 24, .inl qv)), (qO, .inl (gI G, 24, .inl qo))]) (rest := []) (sn := [.int r70_3.1]) hx hb hml hown hts hE hA (k_X5_list G l ru qF rb rg ro qf 24 st 0 r70_3 hr70_3) sm_X5_list mw_596 ⟨rfl, rfl, Nat.le_of_ble_eq_true rfl, Nat.le_of_ble_eq_true rfl⟩ hP hD hS 5 rfl rfl [5, 1] [0, 2, 3, 4] [0, 5, 1, 2, 3, 4] rfl rfl rfl (by decide) hl.1 rfl rfl (Nat.le_of_ble_eq_true rfl) dX4_find_70 ⟨Nat.le_of_ble_eq_true rfl, Nat.le_of_ble_eq_true rfl⟩ (fun H locs hP hD hS => ?_)
    refine lv_topi (fun v6_4 ev6_4 => ?_)
    have hF := jl hF ev6_4
    refine lv_istore (lv' := [(6, .int v6_4), (5, .int v5_2), (0, .ref pr), (1, .ref ru), (2, .long st), (4, .int nn)]) hx hb dX4_find_73 hl (by decide) rfl (fun ls hl => ?_)
    refine lv_iconst (v := 0) hx hb dX4_find_75 (by decide) ?_
    refine lv_istore (lv' := [(7, .int 0), (6, .int v6_4), (5, .int v5_2), (0, .ref pr), (1, .ref ru), (2, .long st), (4, .int nn)]) hx hb dX4_find_76 hl (by decide) rfl (fun ls hl => ?_)
    have hL78 : ∀ (n78 : Nat) (x7_5 : Int32) (qc_6 : Int32) (qs_7 : Int64) (ql_8 : Int32) (qn_9 : Int32) (qf_10 : (Nat → Int32)) (qr_11 : (Nat → Int32)) (qv_12 : (Nat → Int32)) (qo_13 : (Nat → Int32)) (H : Heap) (locs : List Loc) (ls : Array Slot), f_X4_find_L78 rb rg ro st nn v5_2 v6_4 n78 x7_5 qc_6 qs_7 ql_8 qn_9 qf_10 qr_11 qv_12 qo_13 = some r → va_P (gD G) vwCl [(pr, .inr (4, [.ref qF, .ref qR, .ref qL, .ref qO, .int qc_6, .long qs_7, .int ql_8, .int qn_9])), (qF, .inl (gI G, 24, .inl qf_10)), (qR, .inl (gI G, 24, .inl qr_11)), (qL, .inl (gI G, 24, .inl qv_12)), (qO, .inl (gI G, 24, .inl qo_13)), (ru, .inr (5, [.int rb, .int rg, .int ro]))] H → va_D A [(pr, .inr (4, [.ref qF, .ref qR, .ref qL, .ref qO, .int qc_6, .long qs_7, .int ql_8, .int qn_9])), (qF, .inl (gI G, 24, .inl qf_10)), (qR, .inl (gI G, 24, .inl qr_11)), (qL, .inl (gI G, 24, .inl qv_12)), (qO, .inl (gI G, 24, .inl qo_13)), (ru, .inr (5, [.int rb, .int rg, .int ro]))] → va_S A s.heap H locs → lv_has ls 12 [(0, .ref pr), (1, .ref ru), (2, .long st), (4, .int nn), (5, .int v5_2), (6, .int v6_4), (7, .int x7_5)] → W p l e rm_X4_find s m args below meth c H locs 0 0 (MQ below (HXq G post A) args s 0 0 A) (F0 m 78 ls []) := by
      intro n78
      induction n78 with
      | zero =>
        intro x7_5 qc_6 qs_7 ql_8 qn_9 qf_10 qr_11 qv_12 qo_13 H locs ls hF
        exact absurd hF (fun h => by cases h)
      | succ n78 ih78 =>
        intro x7_5 qc_6 qs_7 ql_8 qn_9 qf_10 qr_11 qv_12 qo_13 H locs ls hF hP hD hS hl
        unfold f_X4_find_L78 at hF
        refine lv_iload hx hb dX4_find_78 (lv_at hl 6 rfl) ?_
        refine lv_iload hx hb dX4_find_80 (lv_at hl 5 rfl) ?_
        refine lv_icmp_ge (tgt := 200) hx hb dX4_find_82 (by decide) (fun c_14 => ?_) (fun c_14 => ?_)
        · have hF := ifp hF c_14
          have hF := Option.some.inj hF
          subst hF
          exact hm_vret hx hb hr hlk hP hD hS hpost dX4_find_200
        · have hF := ifn hF c_14
          refine lv_iload hx hb dX4_find_85 (lv_at hl 6 rfl) ?_
          refine lv_aload_n hx hb dX4_find_87 rfl (lv_at hl 0 rfl) ?_
          refine hget hx hb hts hown hE fl_X4_9 hP 0 rfl rfl dX4_find_88 ?_
          refine halen 0 (v := 24) hx hb hE hP 1 rfl rfl rfl dX4_find_91 ?_
          refine lv_icmp_ge (tgt := 200) hx hb dX4_find_92 (by decide) (fun c_15 => ?_) (fun c_15 => ?_)
          · have hF := ifp hF c_15
            have hF := Option.some.inj hF
            subst hF
            exact hm_vret hx hb hr hlk hP hD hS hpost dX4_find_200
          · have hF := ifn hF c_15
            refine lv_lload_n hx hb dX4_find_95 rfl (lv_at hl 2 rfl) ?_
            refine lv_aload_n hx hb dX4_find_96 rfl (lv_at hl 0 rfl) ?_
            refine hget hx hb hts hown hE fl_X4_9 hP 0 rfl rfl dX4_find_97 ?_
            refine lv_iload hx hb dX4_find_100 (lv_at hl 6 rfl) ?_
            obtain ⟨hi_16, hF⟩ := inb hF
            refine hiald hx hb hE hP 1 rfl hi_16 dX4_find_102 ?_
            obtain ⟨r103_17, hr103_17, hF⟩ := bnd hF
            refine hm_S (wn := [(pr, .inr (4, [.ref qF, .ref qR, .ref qL, .ref qO, .int qc_6, .long qs_7, .int ql_8, .int qn_9])), (qF, .inl (gI G, 24, .inl qf_10)), (qR, .inl (gI G, 24, .inl qr_11)), (qL, .inl (gI G, 24, .inl qv_12)), (qO, .inl (gI G, 24, .inl qo_13)), (ru, .inr (5, [.int rb, .int rg, .int ro]))]) (wr := [(pr, .inr (4, [.ref qF, .ref qR, .ref qL, .ref qO, .int qc_6, .long qs_7, .int ql_8, .int qn_9])), (qF, .inl (gI G, 24, .inl qf_10)), (qR, .inl (gI G, 24, .inl qr_11)), (qL, .inl (gI G, 24, .inl qv_12)), (qO, .inl (gI G, 24, .inl qo_13)), (ru, .inr (5, [.int rb, .int rg, .int ro]))]) (rest := []) (sn := [.long r103_17]) hx hb hml hown hts hE hA (k_X8_after G l st (qf_10 (x7_5).toNatClampNeg) r103_17 hr103_17) sm_X8_after mw_597 ⟨rfl, rfl, Nat.le_of_ble_eq_true rfl, Nat.le_of_ble_eq_true rfl⟩ hP hD hS [] [0, 1, 2, 3, 4, 5] [0, 1, 2, 3, 4, 5] rfl rfl rfl (by decide) hl.1 rfl rfl (Nat.le_of_ble_eq_true rfl) dX4_find_103 ⟨Nat.le_of_ble_eq_true rfl, Nat.le_of_ble_eq_true rfl⟩ (fun H locs hP hD hS => ?_)
            refine lv_lstore (lv' := [(8, .long r103_17), (0, .ref pr), (1, .ref ru), (2, .long st), (4, .int nn), (5, .int v5_2), (6, .int v6_4), (7, .int x7_5)]) hx hb dX4_find_106 hl (by decide) rfl (fun ls hl => ?_)
            refine lv_aload_n hx hb dX4_find_108 rfl (lv_at hl 2 rfl) ?_
            refine lv_lload hx hb dX4_find_109 (lv_at hl 0 rfl) ?_
            obtain ⟨r111_18, hr111_18, hF⟩ := bnd hF
            refine hm_V (wn := [(pr, .inr (4, [.ref qF, .ref qR, .ref qL, .ref qO, .int qc_6, .long qs_7, .int ql_8, .int qn_9])), (qF, .inl (gI G, 24, .inl qf_10)), (qR, .inl (gI G, 24, .inl qr_11)), (qL, .inl (gI G, 24, .inl qv_12)), (qO, .inl (gI G, 24, .inl qo_13)), (ru, .inr (5, [.int rb, .int rg, .int ro]))]) (wr := [(pr, .inr (4, [.ref qF, .ref qR, .ref qL, .ref qO, .int qc_6, .long qs_7, .int ql_8, .int qn_9])), (qF, .inl (gI G, 24, .inl qf_10)), (qR, .inl (gI G, 24, .inl qr_11)), (qL, .inl (gI G, 24, .inl qv_12)), (qO, .inl (gI G, 24, .inl qo_13))]) (rest := []) (sn := [.int r111_18]) hx hb hml hown hts hE hA (k_X5_ending G l ru rb rg ro r103_17 r111_18 hr111_18) sm_X5_ending mw_598 ⟨rfl, rfl, Nat.le_of_ble_eq_true rfl, Nat.le_of_ble_eq_true rfl⟩ hP hD hS 5 rfl rfl [5] [0, 1, 2, 3, 4] [0, 1, 2, 3, 4, 5] rfl rfl rfl (by decide) hl.1 rfl rfl (Nat.le_of_ble_eq_true rfl) dX4_find_111 ⟨Nat.le_of_ble_eq_true rfl, Nat.le_of_ble_eq_true rfl⟩ (fun H locs hP hD hS => ?_)
            refine lv_istore (lv' := [(10, .int r111_18), (8, .long r103_17), (0, .ref pr), (1, .ref ru), (2, .long st), (4, .int nn), (5, .int v5_2), (6, .int v6_4), (7, .int x7_5)]) hx hb dX4_find_114 hl (by decide) rfl (fun ls hl => ?_)
            refine lv_iload hx hb dX4_find_116 (lv_at hl 0 rfl) ?_
            refine lv_iload hx hb dX4_find_118 (lv_at hl 6 rfl) ?_
            have hB149 : ∀ (t0_19 : Int32) (qc_20 : Int32) (qs_21 : Int64) (ql_22 : Int32) (qn_23 : Int32) (qf_24 : (Nat → Int32)) (qr_25 : (Nat → Int32)) (qv_26 : (Nat → Int32)) (qo_27 : (Nat → Int32)) (H : Heap) (locs : List Loc) (ls : Array Slot), f_X4_find_B149 (f_X4_find_L78 rb rg ro st nn v5_2 v6_4 n78) x7_5 t0_19 qc_20 qs_21 ql_22 qn_23 qf_24 qr_25 qv_26 qo_27 = some r → va_P (gD G) vwCl [(pr, .inr (4, [.ref qF, .ref qR, .ref qL, .ref qO, .int qc_20, .long qs_21, .int ql_22, .int qn_23])), (qF, .inl (gI G, 24, .inl qf_24)), (qR, .inl (gI G, 24, .inl qr_25)), (qL, .inl (gI G, 24, .inl qv_26)), (qO, .inl (gI G, 24, .inl qo_27)), (ru, .inr (5, [.int rb, .int rg, .int ro]))] H → va_D A [(pr, .inr (4, [.ref qF, .ref qR, .ref qL, .ref qO, .int qc_20, .long qs_21, .int ql_22, .int qn_23])), (qF, .inl (gI G, 24, .inl qf_24)), (qR, .inl (gI G, 24, .inl qr_25)), (qL, .inl (gI G, 24, .inl qv_26)), (qO, .inl (gI G, 24, .inl qo_27)), (ru, .inr (5, [.int rb, .int rg, .int ro]))] → va_S A s.heap H locs → lv_has ls 12 [(0, .ref pr), (1, .ref ru), (2, .long st), (4, .int nn), (5, .int v5_2), (6, .int v6_4), (7, .int x7_5)] → W p l e rm_X4_find s m args below meth c H locs 0 0 (MQ below (HXq G post A) args s 0 0 A) (F0 m 149 ls [.int t0_19]) := by
              intro t0_19 qc_20 qs_21 ql_22 qn_23 qf_24 qr_25 qv_26 qo_27 H locs ls hF hP hD hS hl
              unfold f_X4_find_B149 at hF
              refine lv_istore (lv' := [(11, .int t0_19), (0, .ref pr), (1, .ref ru), (2, .long st), (4, .int nn), (5, .int v5_2), (6, .int v6_4), (7, .int x7_5)]) hx hb dX4_find_149 hl (by decide) rfl (fun ls hl => ?_)
              refine lv_iload hx hb dX4_find_151 (lv_at hl 0 rfl) ?_
              have hB194 : ∀ (qc_28 : Int32) (qs_29 : Int64) (ql_30 : Int32) (qn_31 : Int32) (qf_32 : (Nat → Int32)) (qr_33 : (Nat → Int32)) (qv_34 : (Nat → Int32)) (qo_35 : (Nat → Int32)) (H : Heap) (locs : List Loc) (ls : Array Slot), f_X4_find_B194 (f_X4_find_L78 rb rg ro st nn v5_2 v6_4 n78) x7_5 qc_28 qs_29 ql_30 qn_31 qf_32 qr_33 qv_34 qo_35 = some r → va_P (gD G) vwCl [(pr, .inr (4, [.ref qF, .ref qR, .ref qL, .ref qO, .int qc_28, .long qs_29, .int ql_30, .int qn_31])), (qF, .inl (gI G, 24, .inl qf_32)), (qR, .inl (gI G, 24, .inl qr_33)), (qL, .inl (gI G, 24, .inl qv_34)), (qO, .inl (gI G, 24, .inl qo_35)), (ru, .inr (5, [.int rb, .int rg, .int ro]))] H → va_D A [(pr, .inr (4, [.ref qF, .ref qR, .ref qL, .ref qO, .int qc_28, .long qs_29, .int ql_30, .int qn_31])), (qF, .inl (gI G, 24, .inl qf_32)), (qR, .inl (gI G, 24, .inl qr_33)), (qL, .inl (gI G, 24, .inl qv_34)), (qO, .inl (gI G, 24, .inl qo_35)), (ru, .inr (5, [.int rb, .int rg, .int ro]))] → va_S A s.heap H locs → lv_has ls 12 [(0, .ref pr), (1, .ref ru), (2, .long st), (4, .int nn), (5, .int v5_2), (6, .int v6_4), (7, .int x7_5)] → W p l e rm_X4_find s m args below meth c H locs 0 0 (MQ below (HXq G post A) args s 0 0 A) (F0 m 194 ls []) := by
                intro qc_28 qs_29 ql_30 qn_31 qf_32 qr_33 qv_34 qo_35 H locs ls hF hP hD hS hl
                unfold f_X4_find_B194 at hF
                obtain ⟨v7_36, ev7_36⟩ : ∃ z : Int32, z = x7_5 + 1 := ⟨_, rfl⟩
                have hF := jl hF ev7_36
                refine lv_iinc (v := v7_36) (lv' := [(7, .int v7_36), (0, .ref pr), (1, .ref ru), (2, .long st), (4, .int nn), (5, .int v5_2), (6, .int v6_4)]) hx hb dX4_find_194 hl (k := 6) rfl (by rw [ev7_36]; rfl) (by decide) rfl (fun ls hl => ?_)
                refine lv_goto (tgt := 78) hx hb dX4_find_197 (by decide) ?_
                exact ih78 v7_36 qc_28 qs_29 ql_30 qn_31 qf_32 qr_33 qv_34 qo_35 _ _ _ hF hP hD hS (lv_sub hl [1, 2, 3, 4, 5, 6, 0] rfl)
              refine lv_if_eq (tgt := 194) hx hb dX4_find_153 (by decide) (fun c_37 => ?_) (fun c_37 => ?_)
              · have hF := ifp hF c_37
                exact hB194 qc_20 qs_21 ql_22 qn_23 qf_24 qr_25 qv_26 qo_27 _ _ _ hF hP hD hS (lv_sub hl [1, 2, 3, 4, 5, 6, 7] rfl)
              · have hF := ifn hF c_37
                refine lv_aload_n hx hb dX4_find_156 rfl (lv_at hl 1 rfl) ?_
                refine hget hx hb hts hown hE fl_X4_24 hP 0 rfl rfl dX4_find_157 ?_
                refine lv_aload_n hx hb dX4_find_160 rfl (lv_at hl 1 rfl) ?_
                refine hget hx hb hts hown hE fl_X4_21 hP 0 rfl rfl dX4_find_161 ?_
                refine halen 0 (v := 24) hx hb hE hP 4 rfl rfl rfl dX4_find_164 ?_
                refine lv_icmp_ge (tgt := 194) hx hb dX4_find_165 (by decide) (fun c_38 => ?_) (fun c_38 => ?_)
                · have hF := ifp hF c_38
                  exact hB194 qc_20 qs_21 ql_22 qn_23 qf_24 qr_25 qv_26 qo_27 _ _ _ hF hP hD hS (lv_sub hl [1, 2, 3, 4, 5, 6, 7] rfl)
                · have hF := ifn hF c_38
                  refine lv_aload_n hx hb dX4_find_168 rfl (lv_at hl 1 rfl) ?_
                  refine hget hx hb hts hown hE fl_X4_21 hP 0 rfl rfl dX4_find_169 ?_
                  refine lv_aload_n hx hb dX4_find_172 rfl (lv_at hl 1 rfl) ?_
                  refine hget hx hb hts hown hE fl_X4_24 hP 0 rfl rfl dX4_find_173 ?_
                  refine lv_aload_n hx hb dX4_find_176 rfl (lv_at hl 1 rfl) ?_
                  refine hget hx hb hts hown hE fl_X4_9 hP 0 rfl rfl dX4_find_177 ?_
                  refine lv_iload hx hb dX4_find_180 (lv_at hl 7 rfl) ?_
                  obtain ⟨hi_39, hF⟩ := inb hF
                  refine hiald hx hb hE hP 1 rfl hi_39 dX4_find_182 ?_
                  obtain ⟨hi_40, hF⟩ := inb hF
                  obtain ⟨a183_41, ea183_41⟩ : ∃ z : (Nat → Int32), z = upd qo_27 (qc_20).toNatClampNeg (qf_24 (x7_5).toNatClampNeg) := ⟨_, rfl⟩
                  have hF := jl hF ea183_41
                  refine hiast hx hb hE hP hD hS 4 rfl hi_40 (wn := [(pr, .inr (4, [.ref qF, .ref qR, .ref qL, .ref qO, .int qc_20, .long qs_21, .int ql_22, .int qn_23])), (qF, .inl (gI G, 24, .inl qf_24)), (qR, .inl (gI G, 24, .inl qr_25)), (qL, .inl (gI G, 24, .inl qv_26)), (qO, .inl (gI G, 24, .inl a183_41)), (ru, .inr (5, [.int rb, .int rg, .int ro]))]) (by rw [ea183_41]; rfl) dX4_find_183 (fun H locs hP hD hS => ?_)
                  refine lv_aload_n hx hb dX4_find_184 rfl (lv_at hl 1 rfl) ?_
                  refine lv_dup hx hb dX4_find_185 rfl ?_
                  refine hget hx hb hts hown hE fl_X4_24 hP 0 rfl rfl dX4_find_186 ?_
                  refine lv_iconst (v := 1) hx hb dX4_find_189 (by decide) ?_
                  refine lv_iadd hx hb dX4_find_190 ?_
                  refine lv_topi (fun u191_42 eu191_42 => ?_)
                  have hF := jl hF eu191_42
                  refine hput hx hb hts hown hE fl_X4_24 ft_X4_4 hP hD hS 0 rfl rfl rfl rfl (Nat.le_of_ble_eq_true rfl) (wn := [(pr, .inr (4, [.ref qF, .ref qR, .ref qL, .ref qO, .int u191_42, .long qs_21, .int ql_22, .int qn_23])), (qF, .inl (gI G, 24, .inl qf_24)), (qR, .inl (gI G, 24, .inl qr_25)), (qL, .inl (gI G, 24, .inl qv_26)), (qO, .inl (gI G, 24, .inl a183_41)), (ru, .inr (5, [.int rb, .int rg, .int ro]))]) rfl dX4_find_191 (fun H locs hP hD hS => ?_)
                  exact hB194 u191_42 qs_21 ql_22 qn_23 qf_24 qr_25 qv_26 a183_41 _ _ _ hF hP hD hS (lv_sub hl [1, 2, 3, 4, 5, 6, 7] rfl)
            refine lv_icmp_eq (tgt := 144) hx hb dX4_find_120 (by decide) (fun c_43 => ?_) (fun c_43 => ?_)
            · have hF := ifp hF c_43
              refine lv_iconst (v := 1) hx hb dX4_find_144 (by decide) ?_
              refine lv_goto (tgt := 149) hx hb dX4_find_145 (by decide) ?_
              exact hB149 1 qc_6 qs_7 ql_8 qn_9 qf_10 qr_11 qv_12 qo_13 _ _ _ hF hP hD hS (lv_sub hl [2, 3, 4, 5, 6, 7, 8] rfl)
            · have hF := ifn hF c_43
              refine lv_iload hx hb dX4_find_123 (lv_at hl 5 rfl) ?_
              refine lv_iconst (v := 1) hx hb dX4_find_125 (by decide) ?_
              refine lv_icmp_le (tgt := 148) hx hb dX4_find_126 (by decide) (fun c_44 => ?_) (fun c_44 => ?_)
              · have hF := ifp hF c_44
                refine lv_iconst (v := 0) hx hb dX4_find_148 (by decide) ?_
                exact hB149 0 qc_6 qs_7 ql_8 qn_9 qf_10 qr_11 qv_12 qo_13 _ _ _ hF hP hD hS (lv_sub hl [2, 3, 4, 5, 6, 7, 8] rfl)
              · have hF := ifn hF c_44
                refine lv_iload hx hb dX4_find_129 (lv_at hl 0 rfl) ?_
                refine lv_if_ne (tgt := 148) hx hb dX4_find_131 (by decide) (fun c_45 => ?_) (fun c_45 => ?_)
                · have hF := ifn hF c_45
                  refine lv_iconst (v := 0) hx hb dX4_find_148 (by decide) ?_
                  exact hB149 0 qc_6 qs_7 ql_8 qn_9 qf_10 qr_11 qv_12 qo_13 _ _ _ hF hP hD hS (lv_sub hl [2, 3, 4, 5, 6, 7, 8] rfl)
                · have hF := ifp hF c_45
                  refine lv_aload_n hx hb dX4_find_134 rfl (lv_at hl 2 rfl) ?_
                  refine lv_aload_n hx hb dX4_find_135 rfl (lv_at hl 3 rfl) ?_
                  refine lv_lload hx hb dX4_find_136 (lv_at hl 1 rfl) ?_
                  obtain ⟨r138_46, hr138_46, hF⟩ := bnd hF
                  refine hm_V (wn := [(pr, .inr (4, [.ref qF, .ref qR, .ref qL, .ref qO, .int qc_6, .long qs_7, .int ql_8, .int qn_9])), (qF, .inl (gI G, 24, .inl qf_10)), (qR, .inl (gI G, 24, .inl r138_46.2.1)), (qL, .inl (gI G, 24, .inl r138_46.2.2)), (qO, .inl (gI G, 24, .inl qo_13)), (ru, .inr (5, [.int rb, .int rg, .int ro]))]) (wr := [(qF, .inl (gI G, 24, .inl qf_10)), (qO, .inl (gI G, 24, .inl qo_13))]) (rest := []) (sn := [.int r138_46.1]) hx hb hml hown hts hE hA (k_X4_winsAgainstAll G l pr ru qF qR qL qO qc_6 qs_7 ql_8 qn_9 qr_11 qv_12 rb rg ro r103_17 r138_46 hr138_46) sm_X4_winsAgainstAll mw_599 ⟨rfl, rfl, Nat.le_of_ble_eq_true rfl, Nat.le_of_ble_eq_true rfl⟩ hP hD hS 0 rfl rfl [0, 2, 3, 5] [1, 4] [2, 0, 3, 4, 1, 5] rfl rfl rfl (by decide) hl.1 rfl rfl (Nat.le_of_ble_eq_true rfl) dX4_find_138 ⟨Nat.le_of_ble_eq_true rfl, Nat.le_of_ble_eq_true rfl⟩ (fun H locs hP hD hS => ?_)
                  refine lv_if_eq (tgt := 148) hx hb dX4_find_141 (by decide) (fun c_47 => ?_) (fun c_47 => ?_)
                  · have hF := ifp hF c_47
                    refine lv_iconst (v := 0) hx hb dX4_find_148 (by decide) ?_
                    exact hB149 0 qc_6 qs_7 ql_8 qn_9 qf_10 r138_46.2.1 r138_46.2.2 qo_13 _ _ _ hF hP hD hS (lv_sub hl [2, 3, 4, 5, 6, 7, 8] rfl)
                  · have hF := ifn hF c_47
                    refine lv_iconst (v := 1) hx hb dX4_find_144 (by decide) ?_
                    refine lv_goto (tgt := 149) hx hb dX4_find_145 (by decide) ?_
                    exact hB149 1 qc_6 qs_7 ql_8 qn_9 qf_10 r138_46.2.1 r138_46.2.2 qo_13 _ _ _ hF hP hD hS (lv_sub hl [2, 3, 4, 5, 6, 7, 8] rfl)
    exact hL78 _ 0 0 st u35_1 nn r70_3.2 qr qv qo _ _ _ hF hP hD hS (lv_sub hl [3, 4, 5, 6, 2, 1, 0] rfl)
  refine lv_icmp_ne (tgt := 30) hx hb dX4_find_8 (by decide) (fun c_48 => ?_) (fun c_48 => ?_)
  · have hF := ifn hF c_48
    exact hB30 _ _ _ hF hP hD hS (lv_sub hl [0, 1, 2, 3] rfl)
  · have hF := ifp hF c_48
    refine lv_aload_n hx hb dX4_find_11 rfl (lv_at hl 0 rfl) ?_
    refine hget hx hb hts hown hE fl_X4_28 hP 0 rfl rfl dX4_find_12 ?_
    refine lv_lload_n hx hb dX4_find_15 rfl (lv_at hl 2 rfl) ?_
    refine W.lcmp hx hb dX4_find_16 ?_
    refine lv_if_ne (tgt := 30) hx hb dX4_find_17 (by decide) (fun c_49 => ?_) (fun c_49 => ?_)
    · have hF := ifn hF c_49
      exact hB30 _ _ _ hF hP hD hS (lv_sub hl [0, 1, 2, 3] rfl)
    · have hF := ifp hF c_49
      refine lv_aload_n hx hb dX4_find_20 rfl (lv_at hl 0 rfl) ?_
      refine hget hx hb hts hown hE fl_X4_35 hP 0 rfl rfl dX4_find_21 ?_
      refine lv_iload hx hb dX4_find_24 (lv_at hl 3 rfl) ?_
      refine lv_icmp_ne (tgt := 30) hx hb dX4_find_26 (by decide) (fun c_50 => ?_) (fun c_50 => ?_)
      · have hF := ifn hF c_50
        exact hB30 _ _ _ hF hP hD hS (lv_sub hl [0, 1, 2, 3] rfl)
      · have hF := ifp hF c_50
        have hF := Option.some.inj hF
        subst hF
        exact hm_vret hx hb hr hlk hP hD hS hpost dX4_find_29
