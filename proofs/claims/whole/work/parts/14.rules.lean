def f_X5_set (nb : Int32) (ng : Int32) (no : Int32) : Int32 × Int32 × Int32 :=
  (nb, ng, no)
abbrev rm_X5_set : Room := { frames := 0, cells := 0, slots := 0, locals := 0 }
set_option maxHeartbeats 4000000 in
set_option maxRecDepth 100000 in
theorem k_X5_set (G : gT) (l : Launch) (ru : Nat) (rb : Int32) (rg : Int32) (ro : Int32) (nb : Int32) (ng : Int32) (no : Int32) (r : Int32 × Int32 × Int32) (hF : f_X5_set nb ng no = r) : HM G l yX5_set (.code yX5_set cX5_set 4 none :: UW) rm_X5_set 0 0 [.ref ru, .int nb, .int ng, .int no] [(ru, .inr (5, [.int rb, .int rg, .int ro]))] none [(ru, .inr (5, [.int r.1, .int r.2.1, .int r.2.2]))] := by
  refine HM.ofW (by decide) (Nat.le_of_ble_eq_true rfl) ?_
  intro p e s m args below meth c A post hpost hC hP hD hS ls hl
  obtain ⟨hx, hb, hr, hml, hown, hts, hlk, hE, hA⟩ := hC
  have hl : lv_has ls 4 [(0, .ref ru), (1, .int nb), (2, .int ng), (3, .int no)] := hl
  unfold f_X5_set at hF
  refine lv_aload_n hx hb dX5_set_0 rfl (lv_at hl 0 rfl) ?_
  refine lv_iload_n hx hb dX5_set_1 rfl (lv_at hl 1 rfl) ?_
  refine hput hx hb hts hown hE fl_X5_9 ft_X5_0 hP hD hS 0 rfl rfl rfl rfl (Nat.le_of_ble_eq_true rfl) (wn := [(ru, .inr (5, [.int nb, .int rg, .int ro]))]) rfl dX5_set_2 (fun H locs hP hD hS => ?_)
  refine lv_aload_n hx hb dX5_set_5 rfl (lv_at hl 0 rfl) ?_
  refine lv_iload_n hx hb dX5_set_6 rfl (lv_at hl 2 rfl) ?_
  refine hput hx hb hts hown hE fl_X5_15 ft_X5_1 hP hD hS 0 rfl rfl rfl rfl (Nat.le_of_ble_eq_true rfl) (wn := [(ru, .inr (5, [.int nb, .int ng, .int ro]))]) rfl dX5_set_7 (fun H locs hP hD hS => ?_)
  refine lv_aload_n hx hb dX5_set_10 rfl (lv_at hl 0 rfl) ?_
  refine lv_iload_n hx hb dX5_set_11 rfl (lv_at hl 3 rfl) ?_
  refine hput hx hb hts hown hE fl_X5_18 ft_X5_2 hP hD hS 0 rfl rfl rfl rfl (Nat.le_of_ble_eq_true rfl) (wn := [(ru, .inr (5, [.int nb, .int ng, .int no]))]) rfl dX5_set_12 (fun H locs hP hD hS => ?_)
  subst hF
  exact hm_vret hx hb hr hlk hP hD hS hpost dX5_set_15
def f_X5_code (rb : Int32) (rg : Int32) (ro : Int32) : Int32 :=
  (((100 * rb) + (10 * rg)) + ro)
abbrev rm_X5_code : Room := { frames := 0, cells := 0, slots := 0, locals := 0 }
set_option maxHeartbeats 4000000 in
set_option maxRecDepth 100000 in
theorem k_X5_code (G : gT) (l : Launch) (ru : Nat) (rb : Int32) (rg : Int32) (ro : Int32) (r : Int32) (hF : f_X5_code rb rg ro = r) : HM G l yX5_code (.code yX5_code cX5_code 1 (some .int) :: UW) rm_X5_code 0 0 [.ref ru] [(ru, .inr (5, [.int rb, .int rg, .int ro]))] (some (.int r)) [(ru, .inr (5, [.int rb, .int rg, .int ro]))] := by
  refine HM.ofW (by decide) (Nat.le_of_ble_eq_true rfl) ?_
  intro p e s m args below meth c A post hpost hC hP hD hS ls hl
  obtain ⟨hx, hb, hr, hml, hown, hts, hlk, hE, hA⟩ := hC
  have hl : lv_has ls 1 [(0, .ref ru)] := hl
  unfold f_X5_code at hF
  refine lv_bipush (v := 100) hx hb dX5_code_0 (by decide) ?_
  refine lv_aload_n hx hb dX5_code_2 rfl (lv_at hl 0 rfl) ?_
  refine hget hx hb hts hown hE fl_X5_9 hP 0 rfl rfl dX5_code_3 ?_
  refine lv_imul hx hb dX5_code_6 ?_
  refine lv_bipush (v := 10) hx hb dX5_code_7 (by decide) ?_
  refine lv_aload_n hx hb dX5_code_9 rfl (lv_at hl 0 rfl) ?_
  refine hget hx hb hts hown hE fl_X5_15 hP 0 rfl rfl dX5_code_10 ?_
  refine lv_imul hx hb dX5_code_13 ?_
  refine lv_iadd hx hb dX5_code_14 ?_
  refine lv_aload_n hx hb dX5_code_15 rfl (lv_at hl 0 rfl) ?_
  refine hget hx hb hts hown hE fl_X5_18 hP 0 rfl rfl dX5_code_16 ?_
  refine lv_iadd hx hb dX5_code_19 ?_
  subst hF
  exact hm_iret hx hb hr hlk hP hD hS hpost dX5_code_20
def f_X5_kindOf (rb : Int32) (rg : Int32) (ro : Int32) (ag : Int32) : Int32 :=
  if rb ≤ ag then if rg ≤ ag then if ro ≤ ag then 3 else 2 else 1 else 0
abbrev rm_X5_kindOf : Room := { frames := 0, cells := 0, slots := 0, locals := 0 }
set_option maxHeartbeats 4000000 in
set_option maxRecDepth 100000 in
theorem k_X5_kindOf (G : gT) (l : Launch) (ru : Nat) (rb : Int32) (rg : Int32) (ro : Int32) (ag : Int32) (r : Int32) (hF : f_X5_kindOf rb rg ro ag = r) : HM G l yX5_kindOf (.code yX5_kindOf cX5_kindOf 2 (some .int) :: UW) rm_X5_kindOf 0 0 [.ref ru, .int ag] [(ru, .inr (5, [.int rb, .int rg, .int ro]))] (some (.int r)) [(ru, .inr (5, [.int rb, .int rg, .int ro]))] := by
  refine HM.ofW (by decide) (Nat.le_of_ble_eq_true rfl) ?_
  intro p e s m args below meth c A post hpost hC hP hD hS ls hl
  obtain ⟨hx, hb, hr, hml, hown, hts, hlk, hE, hA⟩ := hC
  have hl : lv_has ls 2 [(0, .ref ru), (1, .int ag)] := hl
  unfold f_X5_kindOf at hF
  refine lv_iload_n hx hb dX5_kindOf_0 rfl (lv_at hl 1 rfl) ?_
  refine lv_aload_n hx hb dX5_kindOf_1 rfl (lv_at hl 0 rfl) ?_
  refine hget hx hb hts hown hE fl_X5_9 hP 0 rfl rfl dX5_kindOf_2 ?_
  refine lv_icmp_ge (tgt := 10) hx hb dX5_kindOf_5 (by decide) (fun c_1 => ?_) (fun c_1 => ?_)
  · have hF := ifp hF c_1
    refine lv_iload_n hx hb dX5_kindOf_10 rfl (lv_at hl 1 rfl) ?_
    refine lv_aload_n hx hb dX5_kindOf_11 rfl (lv_at hl 0 rfl) ?_
    refine hget hx hb hts hown hE fl_X5_15 hP 0 rfl rfl dX5_kindOf_12 ?_
    refine lv_icmp_ge (tgt := 20) hx hb dX5_kindOf_15 (by decide) (fun c_2 => ?_) (fun c_2 => ?_)
    · have hF := ifp hF c_2
      refine lv_iload_n hx hb dX5_kindOf_20 rfl (lv_at hl 1 rfl) ?_
      refine lv_aload_n hx hb dX5_kindOf_21 rfl (lv_at hl 0 rfl) ?_
      refine hget hx hb hts hown hE fl_X5_18 hP 0 rfl rfl dX5_kindOf_22 ?_
      refine lv_icmp_ge (tgt := 32) hx hb dX5_kindOf_25 (by decide) (fun c_3 => ?_) (fun c_3 => ?_)
      · have hF := ifp hF c_3
        refine lv_iconst (v := 3) hx hb dX5_kindOf_32 (by decide) ?_
        subst hF
        exact hm_iret hx hb hr hlk hP hD hS hpost dX5_kindOf_33
      · have hF := ifn hF c_3
        refine lv_iconst (v := 2) hx hb dX5_kindOf_28 (by decide) ?_
        refine lv_goto (tgt := 33) hx hb dX5_kindOf_29 (by decide) ?_
        subst hF
        exact hm_iret hx hb hr hlk hP hD hS hpost dX5_kindOf_33
    · have hF := ifn hF c_2
      refine lv_iconst (v := 1) hx hb dX5_kindOf_18 (by decide) ?_
      subst hF
      exact hm_iret hx hb hr hlk hP hD hS hpost dX5_kindOf_19
  · have hF := ifn hF c_1
    refine lv_iconst (v := 0) hx hb dX5_kindOf_8 (by decide) ?_
    subst hF
    exact hm_iret hx hb hr hlk hP hD hS hpost dX5_kindOf_9
def f_X5_straight_B124 (k_14 : Int32 → Int32 → Option Int32) (x5_4 : Int32) (x4_12 : Int32) : Option Int32 :=
  jlet (x5_4 + 1) (fun v5_13 => k_14 x4_12 v5_13)
def f_X5_straight_L83 (k_14 : Int32 → Int32 → Option Int32) (cl : Int32) (al : Int32) (x5_4 : Int32) (t0_8 : Int32) (t0_9 : Int32) : Nat → Int32 → Int32 → Option Int32
  | 0, _, _ => none
  | n+1, x4_10, x10_11 =>
  if t0_8 < x10_11 then f_X5_straight_B124 k_14 x5_4 x4_10 else jlet (jshl 1 (cl + (x10_11 * t0_9))) (fun v11_15 => jlet (x4_10 ||| v11_15) (fun v4_16 => if (al &&& v11_15) = 0 then jlet (x10_11 + 1) (fun v10_18 => (f_X5_straight_L83 k_14 cl al x5_4 t0_8 t0_9 n) v4_16 v10_18) else f_X5_straight_B124 k_14 x5_4 v4_16))
def f_X5_straight_B78 (k_14 : Int32 → Int32 → Option Int32) (cl : Int32) (al : Int32) (x4_3 : Int32) (x5_4 : Int32) (t0_8 : Int32) (t0_9 : Int32) : Option Int32 :=
  f_X5_straight_L83 k_14 cl al x5_4 t0_8 t0_9 100 x4_3 1
def f_X5_straight_B61 (k_14 : Int32 → Int32 → Option Int32) (cl : Int32) (al : Int32) (x4_3 : Int32) (x5_4 : Int32) (t0_6 : Int32) (t0_8 : Int32) : Option Int32 :=
  if 2 ≤ x5_4 then f_X5_straight_B78 k_14 cl al x4_3 x5_4 t0_8 (5 * t0_6) else f_X5_straight_B78 k_14 cl al x4_3 x5_4 t0_8 t0_6
def f_X5_straight_B45 (k_14 : Int32 → Int32 → Option Int32) (cl : Int32) (al : Int32) (x4_3 : Int32) (x5_4 : Int32) (t0_6 : Int32) (t0_7 : Int32) : Option Int32 :=
  if t0_6 ≤ 0 then f_X5_straight_B61 k_14 cl al x4_3 x5_4 t0_6 t0_7 else f_X5_straight_B61 k_14 cl al x4_3 x5_4 t0_6 (4 - t0_7)
def f_X5_straight_B32 (k_14 : Int32 → Int32 → Option Int32) (cl : Int32) (al : Int32) (v2_1 : Int32) (v3_2 : Int32) (x4_3 : Int32) (x5_4 : Int32) (t0_6 : Int32) : Option Int32 :=
  if 2 ≤ x5_4 then f_X5_straight_B45 k_14 cl al x4_3 x5_4 t0_6 v3_2 else f_X5_straight_B45 k_14 cl al x4_3 x5_4 t0_6 v2_1
def f_X5_straight_L14 (cl : Int32) (al : Int32) (v2_1 : Int32) (v3_2 : Int32) : Nat → Int32 → Int32 → Option Int32
  | 0, _, _ => none
  | n+1, x4_3, x5_4 =>
  if 4 ≤ x5_4 then some x4_3 else if (x5_4 &&& 1) = 0 then f_X5_straight_B32 (f_X5_straight_L14 cl al v2_1 v3_2 n) cl al v2_1 v3_2 x4_3 x5_4 1 else f_X5_straight_B32 (f_X5_straight_L14 cl al v2_1 v3_2 n) cl al v2_1 v3_2 x4_3 x5_4 (-1)
def f_X5_straight (cl : Int32) (al : Int32) : Option Int32 :=
  jlet (jrem cl 5) (fun v2_1 => jlet (cl / 5) (fun v3_2 => f_X5_straight_L14 cl al v2_1 v3_2 100 0 0))
abbrev rm_X5_straight : Room := { frames := 0, cells := 0, slots := 0, locals := 0 }
set_option maxHeartbeats 4000000 in
set_option maxRecDepth 100000 in
theorem k_X5_straight (G : gT) (l : Launch) (cl : Int32) (al : Int32) (r : Int32) (hF : f_X5_straight cl al = some r) : HM G l yX5_straight (.code yX5_straight cX5_straight 12 (some .int) :: UW) rm_X5_straight 0 0 [.int cl, .int al] [] (some (.int r)) [] := by
  refine HM.ofW (by decide) (Nat.le_of_ble_eq_true rfl) ?_
  intro p e s m args below meth c A post hpost hC hP hD hS ls hl
  obtain ⟨hx, hb, hr, hml, hown, hts, hlk, hE, hA⟩ := hC
  have hl : lv_has ls 12 [(0, .int cl), (1, .int al)] := hl
  unfold f_X5_straight at hF
  refine lv_iload_n hx hb dX5_straight_0 rfl (lv_at hl 0 rfl) ?_
  refine lv_iconst (v := 5) hx hb dX5_straight_1 (by decide) ?_
  refine lv_irem hx hb dX5_straight_2 (by decide) ?_
  refine lv_topi (fun v2_1 ev2_1 => ?_)
  have hF := jl hF ev2_1
  refine lv_istore_n (lv' := [(2, .int v2_1), (0, .int cl), (1, .int al)]) hx hb dX5_straight_3 rfl hl (by decide) rfl (fun ls hl => ?_)
  refine lv_iload_n hx hb dX5_straight_4 rfl (lv_at hl 1 rfl) ?_
  refine lv_iconst (v := 5) hx hb dX5_straight_5 (by decide) ?_
  refine lv_idiv hx hb dX5_straight_6 (by decide) ?_
  refine lv_topi (fun v3_2 ev3_2 => ?_)
  have hF := jl hF ev3_2
  refine lv_istore_n (lv' := [(3, .int v3_2), (2, .int v2_1), (0, .int cl), (1, .int al)]) hx hb dX5_straight_7 rfl hl (by decide) rfl (fun ls hl => ?_)
  refine lv_iconst (v := 0) hx hb dX5_straight_8 (by decide) ?_
  refine lv_istore (lv' := [(4, .int 0), (3, .int v3_2), (2, .int v2_1), (0, .int cl), (1, .int al)]) hx hb dX5_straight_9 hl (by decide) rfl (fun ls hl => ?_)
  refine lv_iconst (v := 0) hx hb dX5_straight_11 (by decide) ?_
  refine lv_istore (lv' := [(5, .int 0), (4, .int 0), (3, .int v3_2), (2, .int v2_1), (0, .int cl), (1, .int al)]) hx hb dX5_straight_12 hl (by decide) rfl (fun ls hl => ?_)
  have hL14 : ∀ (n14 : Nat) (x4_3 : Int32) (x5_4 : Int32) (H : Heap) (locs : List Loc) (ls : Array Slot), f_X5_straight_L14 cl al v2_1 v3_2 n14 x4_3 x5_4 = some r → va_P (gD G) vwCl [] H → va_D A [] → va_S A s.heap H locs → lv_has ls 12 [(0, .int cl), (1, .int al), (2, .int v2_1), (3, .int v3_2), (4, .int x4_3), (5, .int x5_4)] → W p l e rm_X5_straight s m args below meth c H locs 0 0 (MQ below (HXq G post A) args s 0 0 A) (F0 m 14 ls []) := by
    intro n14
    induction n14 with
    | zero =>
      intro x4_3 x5_4 H locs ls hF
      exact absurd hF (fun h => by cases h)
    | succ n14 ih14 =>
      intro x4_3 x5_4 H locs ls hF hP hD hS hl
      unfold f_X5_straight_L14 at hF
      refine lv_iload hx hb dX5_straight_14 (lv_at hl 5 rfl) ?_
      refine lv_iconst (v := 4) hx hb dX5_straight_16 (by decide) ?_
      refine lv_icmp_ge (tgt := 130) hx hb dX5_straight_17 (by decide) (fun c_5 => ?_) (fun c_5 => ?_)
      · have hF := ifp hF c_5
        refine lv_iload hx hb dX5_straight_130 (lv_at hl 4 rfl) ?_
        have hF := Option.some.inj hF
        subst hF
        exact hm_iret hx hb hr hlk hP hD hS hpost dX5_straight_132
      · have hF := ifn hF c_5
        refine lv_iload hx hb dX5_straight_20 (lv_at hl 5 rfl) ?_
        refine lv_iconst (v := 1) hx hb dX5_straight_22 (by decide) ?_
        refine lv_iand hx hb dX5_straight_23 ?_
        have hB32 : ∀ (t0_6 : Int32) (H : Heap) (locs : List Loc) (ls : Array Slot), f_X5_straight_B32 (f_X5_straight_L14 cl al v2_1 v3_2 n14) cl al v2_1 v3_2 x4_3 x5_4 t0_6 = some r → va_P (gD G) vwCl [] H → va_D A [] → va_S A s.heap H locs → lv_has ls 12 [(0, .int cl), (1, .int al), (2, .int v2_1), (3, .int v3_2), (4, .int x4_3), (5, .int x5_4)] → W p l e rm_X5_straight s m args below meth c H locs 0 0 (MQ below (HXq G post A) args s 0 0 A) (F0 m 32 ls [.int t0_6]) := by
          intro t0_6 H locs ls hF hP hD hS hl
          unfold f_X5_straight_B32 at hF
          refine lv_istore (lv' := [(6, .int t0_6), (0, .int cl), (1, .int al), (2, .int v2_1), (3, .int v3_2), (4, .int x4_3), (5, .int x5_4)]) hx hb dX5_straight_32 hl (by decide) rfl (fun ls hl => ?_)
          refine lv_iload hx hb dX5_straight_34 (lv_at hl 6 rfl) ?_
          refine lv_iconst (v := 2) hx hb dX5_straight_36 (by decide) ?_
          have hB45 : ∀ (t0_7 : Int32) (H : Heap) (locs : List Loc) (ls : Array Slot), f_X5_straight_B45 (f_X5_straight_L14 cl al v2_1 v3_2 n14) cl al x4_3 x5_4 t0_6 t0_7 = some r → va_P (gD G) vwCl [] H → va_D A [] → va_S A s.heap H locs → lv_has ls 12 [(0, .int cl), (1, .int al), (2, .int v2_1), (3, .int v3_2), (4, .int x4_3), (5, .int x5_4), (6, .int t0_6)] → W p l e rm_X5_straight s m args below meth c H locs 0 0 (MQ below (HXq G post A) args s 0 0 A) (F0 m 45 ls [.int t0_7]) := by
            intro t0_7 H locs ls hF hP hD hS hl
            unfold f_X5_straight_B45 at hF
            refine lv_istore (lv' := [(7, .int t0_7), (0, .int cl), (1, .int al), (2, .int v2_1), (3, .int v3_2), (4, .int x4_3), (5, .int x5_4), (6, .int t0_6)]) hx hb dX5_straight_45 hl (by decide) rfl (fun ls hl => ?_)
            refine lv_iload hx hb dX5_straight_47 (lv_at hl 7 rfl) ?_
            have hB61 : ∀ (t0_8 : Int32) (H : Heap) (locs : List Loc) (ls : Array Slot), f_X5_straight_B61 (f_X5_straight_L14 cl al v2_1 v3_2 n14) cl al x4_3 x5_4 t0_6 t0_8 = some r → va_P (gD G) vwCl [] H → va_D A [] → va_S A s.heap H locs → lv_has ls 12 [(0, .int cl), (1, .int al), (2, .int v2_1), (3, .int v3_2), (4, .int x4_3), (5, .int x5_4), (6, .int t0_6)] → W p l e rm_X5_straight s m args below meth c H locs 0 0 (MQ below (HXq G post A) args s 0 0 A) (F0 m 61 ls [.int t0_8]) := by
              intro t0_8 H locs ls hF hP hD hS hl
              unfold f_X5_straight_B61 at hF
              refine lv_istore (lv' := [(8, .int t0_8), (0, .int cl), (1, .int al), (2, .int v2_1), (3, .int v3_2), (4, .int x4_3), (5, .int x5_4), (6, .int t0_6)]) hx hb dX5_straight_61 hl (by decide) rfl (fun ls hl => ?_)
              refine lv_iload hx hb dX5_straight_63 (lv_at hl 6 rfl) ?_
              refine lv_iconst (v := 2) hx hb dX5_straight_65 (by decide) ?_
              have hB78 : ∀ (t0_9 : Int32) (H : Heap) (locs : List Loc) (ls : Array Slot), f_X5_straight_B78 (f_X5_straight_L14 cl al v2_1 v3_2 n14) cl al x4_3 x5_4 t0_8 t0_9 = some r → va_P (gD G) vwCl [] H → va_D A [] → va_S A s.heap H locs → lv_has ls 12 [(0, .int cl), (1, .int al), (2, .int v2_1), (3, .int v3_2), (4, .int x4_3), (5, .int x5_4), (8, .int t0_8)] → W p l e rm_X5_straight s m args below meth c H locs 0 0 (MQ below (HXq G post A) args s 0 0 A) (F0 m 78 ls [.int t0_9]) := by
                intro t0_9 H locs ls hF hP hD hS hl
                unfold f_X5_straight_B78 at hF
                refine lv_istore (lv' := [(9, .int t0_9), (0, .int cl), (1, .int al), (2, .int v2_1), (3, .int v3_2), (4, .int x4_3), (5, .int x5_4), (8, .int t0_8)]) hx hb dX5_straight_78 hl (by decide) rfl (fun ls hl => ?_)
                refine lv_iconst (v := 1) hx hb dX5_straight_80 (by decide) ?_
                refine lv_istore (lv' := [(10, .int 1), (9, .int t0_9), (0, .int cl), (1, .int al), (2, .int v2_1), (3, .int v3_2), (4, .int x4_3), (5, .int x5_4), (8, .int t0_8)]) hx hb dX5_straight_81 hl (by decide) rfl (fun ls hl => ?_)
                have hL83 : ∀ (n83 : Nat) (x4_10 : Int32) (x10_11 : Int32) (H : Heap) (locs : List Loc) (ls : Array Slot), f_X5_straight_L83 (f_X5_straight_L14 cl al v2_1 v3_2 n14) cl al x5_4 t0_8 t0_9 n83 x4_10 x10_11 = some r → va_P (gD G) vwCl [] H → va_D A [] → va_S A s.heap H locs → lv_has ls 12 [(0, .int cl), (1, .int al), (2, .int v2_1), (3, .int v3_2), (4, .int x4_10), (5, .int x5_4), (8, .int t0_8), (9, .int t0_9), (10, .int x10_11)] → W p l e rm_X5_straight s m args below meth c H locs 0 0 (MQ below (HXq G post A) args s 0 0 A) (F0 m 83 ls []) := by
                  intro n83
                  induction n83 with
                  | zero =>
                    intro x4_10 x10_11 H locs ls hF
                    exact absurd hF (fun h => by cases h)
                  | succ n83 ih83 =>
                    intro x4_10 x10_11 H locs ls hF hP hD hS hl
                    unfold f_X5_straight_L83 at hF
                    refine lv_iload hx hb dX5_straight_83 (lv_at hl 8 rfl) ?_
                    refine lv_iload hx hb dX5_straight_85 (lv_at hl 6 rfl) ?_
                    have hB124 : ∀ (x4_12 : Int32) (H : Heap) (locs : List Loc) (ls : Array Slot), f_X5_straight_B124 (f_X5_straight_L14 cl al v2_1 v3_2 n14) x5_4 x4_12 = some r → va_P (gD G) vwCl [] H → va_D A [] → va_S A s.heap H locs → lv_has ls 12 [(0, .int cl), (1, .int al), (2, .int v2_1), (3, .int v3_2), (4, .int x4_12), (5, .int x5_4)] → W p l e rm_X5_straight s m args below meth c H locs 0 0 (MQ below (HXq G post A) args s 0 0 A) (F0 m 124 ls []) := by
                      intro x4_12 H locs ls hF hP hD hS hl
                      unfold f_X5_straight_B124 at hF
                      obtain ⟨v5_13, ev5_13⟩ : ∃ z : Int32, z = x5_4 + 1 := ⟨_, rfl⟩
                      have hF := jl hF ev5_13
                      refine lv_iinc (v := v5_13) (lv' := [(5, .int v5_13), (0, .int cl), (1, .int al), (2, .int v2_1), (3, .int v3_2), (4, .int x4_12)]) hx hb dX5_straight_124 hl (k := 5) rfl (by rw [ev5_13]; rfl) (by decide) rfl (fun ls hl => ?_)
                      refine lv_goto (tgt := 14) hx hb dX5_straight_127 (by decide) ?_
                      exact ih14 x4_12 v5_13 _ _ _ hF hP hD hS (lv_sub hl [1, 2, 3, 4, 5, 0] rfl)
                    refine lv_icmp_gt (tgt := 124) hx hb dX5_straight_87 (by decide) (fun c_14 => ?_) (fun c_14 => ?_)
                    · have hF := ifp hF c_14
                      exact hB124 x4_10 _ _ _ hF hP hD hS (lv_sub hl [0, 1, 2, 3, 4, 5] rfl)
                    · have hF := ifn hF c_14
                      refine lv_iconst (v := 1) hx hb dX5_straight_90 (by decide) ?_
                      refine lv_iload_n hx hb dX5_straight_91 rfl (lv_at hl 0 rfl) ?_
                      refine lv_iload hx hb dX5_straight_92 (lv_at hl 8 rfl) ?_
                      refine lv_iload hx hb dX5_straight_94 (lv_at hl 7 rfl) ?_
                      refine lv_imul hx hb dX5_straight_96 ?_
                      refine lv_iadd hx hb dX5_straight_97 ?_
                      refine lv_ishl hx hb dX5_straight_98 ?_
                      refine lv_topi (fun v11_15 ev11_15 => ?_)
                      have hF := jl hF ev11_15
                      refine lv_istore (lv' := [(11, .int v11_15), (0, .int cl), (1, .int al), (2, .int v2_1), (3, .int v3_2), (4, .int x4_10), (5, .int x5_4), (8, .int t0_8), (9, .int t0_9), (10, .int x10_11)]) hx hb dX5_straight_99 hl (by decide) rfl (fun ls hl => ?_)
                      refine lv_iload hx hb dX5_straight_101 (lv_at hl 5 rfl) ?_
                      refine lv_iload hx hb dX5_straight_103 (lv_at hl 0 rfl) ?_
                      refine lv_ior hx hb dX5_straight_105 ?_
                      refine lv_topi (fun v4_16 ev4_16 => ?_)
                      have hF := jl hF ev4_16
                      refine lv_istore (lv' := [(4, .int v4_16), (11, .int v11_15), (0, .int cl), (1, .int al), (2, .int v2_1), (3, .int v3_2), (5, .int x5_4), (8, .int t0_8), (9, .int t0_9), (10, .int x10_11)]) hx hb dX5_straight_106 hl (by decide) rfl (fun ls hl => ?_)
                      refine lv_iload_n hx hb dX5_straight_108 rfl (lv_at hl 3 rfl) ?_
                      refine lv_iload hx hb dX5_straight_109 (lv_at hl 1 rfl) ?_
                      refine lv_iand hx hb dX5_straight_111 ?_
                      refine lv_if_eq (tgt := 118) hx hb dX5_straight_112 (by decide) (fun c_17 => ?_) (fun c_17 => ?_)
                      · have hF := ifp hF c_17
                        obtain ⟨v10_18, ev10_18⟩ : ∃ z : Int32, z = x10_11 + 1 := ⟨_, rfl⟩
                        have hF := jl hF ev10_18
                        refine lv_iinc (v := v10_18) (lv' := [(10, .int v10_18), (4, .int v4_16), (11, .int v11_15), (0, .int cl), (1, .int al), (2, .int v2_1), (3, .int v3_2), (5, .int x5_4), (8, .int t0_8), (9, .int t0_9)]) hx hb dX5_straight_118 hl (k := 9) rfl (by rw [ev10_18]; rfl) (by decide) rfl (fun ls hl => ?_)
                        refine lv_goto (tgt := 83) hx hb dX5_straight_121 (by decide) ?_
                        exact ih83 v4_16 v10_18 _ _ _ hF hP hD hS (lv_sub hl [3, 4, 5, 6, 1, 7, 8, 9, 0] rfl)
                      · have hF := ifn hF c_17
                        refine lv_goto (tgt := 124) hx hb dX5_straight_115 (by decide) ?_
                        exact hB124 v4_16 _ _ _ hF hP hD hS (lv_sub hl [2, 3, 4, 5, 0, 6] rfl)
                exact hL83 _ x4_3 1 _ _ _ hF hP hD hS (lv_sub hl [2, 3, 4, 5, 6, 7, 8, 1, 0] rfl)
              refine lv_icmp_ge (tgt := 74) hx hb dX5_straight_66 (by decide) (fun c_19 => ?_) (fun c_19 => ?_)
              · have hF := ifp hF c_19
                refine lv_iconst (v := 5) hx hb dX5_straight_74 (by decide) ?_
                refine lv_iload hx hb dX5_straight_75 (lv_at hl 7 rfl) ?_
                refine lv_imul hx hb dX5_straight_77 ?_
                exact hB78 (5 * t0_6) _ _ _ hF hP hD hS (lv_sub hl [1, 2, 3, 4, 5, 6, 0] rfl)
              · have hF := ifn hF c_19
                refine lv_iload hx hb dX5_straight_69 (lv_at hl 7 rfl) ?_
                refine lv_goto (tgt := 78) hx hb dX5_straight_71 (by decide) ?_
                exact hB78 t0_6 _ _ _ hF hP hD hS (lv_sub hl [1, 2, 3, 4, 5, 6, 0] rfl)
            refine lv_if_le (tgt := 59) hx hb dX5_straight_49 (by decide) (fun c_20 => ?_) (fun c_20 => ?_)
            · have hF := ifp hF c_20
              refine lv_iload hx hb dX5_straight_59 (lv_at hl 0 rfl) ?_
              exact hB61 t0_7 _ _ _ hF hP hD hS (lv_sub hl [1, 2, 3, 4, 5, 6, 7] rfl)
            · have hF := ifn hF c_20
              refine lv_iconst (v := 4) hx hb dX5_straight_52 (by decide) ?_
              refine lv_iload hx hb dX5_straight_53 (lv_at hl 0 rfl) ?_
              refine lv_isub hx hb dX5_straight_55 ?_
              refine lv_goto (tgt := 61) hx hb dX5_straight_56 (by decide) ?_
              exact hB61 (4 - t0_7) _ _ _ hF hP hD hS (lv_sub hl [1, 2, 3, 4, 5, 6, 7] rfl)
          refine lv_icmp_ge (tgt := 44) hx hb dX5_straight_37 (by decide) (fun c_21 => ?_) (fun c_21 => ?_)
          · have hF := ifp hF c_21
            refine lv_iload_n hx hb dX5_straight_44 rfl (lv_at hl 4 rfl) ?_
            exact hB45 v3_2 _ _ _ hF hP hD hS (lv_sub hl [1, 2, 3, 4, 5, 6, 0] rfl)
          · have hF := ifn hF c_21
            refine lv_iload_n hx hb dX5_straight_40 rfl (lv_at hl 3 rfl) ?_
            refine lv_goto (tgt := 45) hx hb dX5_straight_41 (by decide) ?_
            exact hB45 v2_1 _ _ _ hF hP hD hS (lv_sub hl [1, 2, 3, 4, 5, 6, 0] rfl)
        refine lv_if_ne (tgt := 31) hx hb dX5_straight_24 (by decide) (fun c_22 => ?_) (fun c_22 => ?_)
        · have hF := ifn hF c_22
          refine lv_iconst (v := (-1)) hx hb dX5_straight_31 (by decide) ?_
          exact hB32 (-1) _ _ _ hF hP hD hS (lv_sub hl [0, 1, 2, 3, 4, 5] rfl)
        · have hF := ifp hF c_22
          refine lv_iconst (v := 1) hx hb dX5_straight_27 (by decide) ?_
          refine lv_goto (tgt := 32) hx hb dX5_straight_28 (by decide) ?_
          exact hB32 1 _ _ _ hF hP hD hS (lv_sub hl [0, 1, 2, 3, 4, 5] rfl)
  exact hL14 _ 0 0 _ _ _ hF hP hD hS (lv_sub hl [4, 5, 3, 2, 1, 0] rfl)
def f_X5_targets (rb : Int32) (rg : Int32) (ro : Int32) (cl : Int32) (ag : Int32) (ow : Int32) (al : Int32) : Option Int32 :=
  if cl < 0 then some 0 else if cl < 25 then jlet (f_X5_kindOf rb rg ro ag) (fun w17_3 => if w17_3 = 0 then if cl < 0 ∨ 25 ≤ (cl).toNatClampNeg then none else some ((jumpsF (cl).toNatClampNeg) &&& (ow ^^^ (-1))) else if w17_3 = 1 then Option.bind (f_X5_straight cl al) (fun r57_5 => some (r57_5 &&& (ow ^^^ (-1)))) else if w17_3 = 2 then if cl < 0 ∨ 25 ≤ (cl).toNatClampNeg then none else some ((stepsF (cl).toNatClampNeg) &&& (ow ^^^ (-1))) else some 0) else some 0
abbrev rm_X5_targets : Room := { frames := 1, cells := 0, slots := 0, locals := 31 }
set_option maxHeartbeats 4000000 in
set_option maxRecDepth 100000 in
theorem k_X5_targets (G : gT) (l : Launch) (ru : Nat) (rb : Int32) (rg : Int32) (ro : Int32) (cl : Int32) (ag : Int32) (ow : Int32) (al : Int32) (r : Int32) (hF : f_X5_targets rb rg ro cl ag ow al = some r) : HM G l yX5_targets (.code yX5_targets cX5_targets 5 (some .int) :: UW) rm_X5_targets 0 0 [.ref ru, .int cl, .int ag, .int ow, .int al] [(ru, .inr (5, [.int rb, .int rg, .int ro]))] (some (.int r)) [(ru, .inr (5, [.int rb, .int rg, .int ro]))] := by
  refine HM.ofW (by decide) (Nat.le_of_ble_eq_true rfl) ?_
  intro p e s m args below meth c A post hpost hC hP hD hS ls hl
  obtain ⟨hx, hb, hr, hml, hown, hts, hlk, hE, hA⟩ := hC
  have hl : lv_has ls 5 [(0, .ref ru), (1, .int cl), (2, .int ag), (3, .int ow), (4, .int al)] := hl
  unfold f_X5_targets at hF
  refine lv_iload_n hx hb dX5_targets_0 rfl (lv_at hl 1 rfl) ?_
  refine lv_if_lt (tgt := 10) hx hb dX5_targets_1 (by decide) (fun c_1 => ?_) (fun c_1 => ?_)
  · have hF := ifp hF c_1
    refine lv_iconst (v := 0) hx hb dX5_targets_10 (by decide) ?_
    have hF := Option.some.inj hF
    subst hF
    exact hm_iret hx hb hr hlk hP hD hS hpost dX5_targets_11
  · have hF := ifn hF c_1
    refine lv_iload_n hx hb dX5_targets_4 rfl (lv_at hl 1 rfl) ?_
    refine lv_bipush (v := 25) hx hb dX5_targets_5 (by decide) ?_
    refine lv_icmp_lt (tgt := 12) hx hb dX5_targets_7 (by decide) (fun c_2 => ?_) (fun c_2 => ?_)
    · have hF := ifp hF c_2
      refine lv_aload_n hx hb dX5_targets_12 rfl (lv_at hl 0 rfl) ?_
      refine lv_iload_n hx hb dX5_targets_13 rfl (lv_at hl 2 rfl) ?_
      refine hm_V (wn := [(ru, .inr (5, [.int rb, .int rg, .int ro]))]) (wr := []) (rest := []) (sn := [.int (f_X5_kindOf rb rg ro ag)]) hx hb hml hown hts hE hA (k_X5_kindOf G l ru rb rg ro ag _ rfl) sm_X5_kindOf mw_380 ⟨rfl, rfl, Nat.le_of_ble_eq_true rfl, Nat.le_of_ble_eq_true rfl⟩ hP hD hS 0 rfl rfl [0] [] [0] rfl rfl rfl (by decide) hl.1 rfl rfl (Nat.le_of_ble_eq_true rfl) dX5_targets_14 ⟨Nat.le_of_ble_eq_true rfl, Nat.le_of_ble_eq_true rfl⟩ (fun H locs hP hD hS => ?_)
      refine lv_topi (fun w17_3 ew17_3 => ?_)
      have hF := jl hF ew17_3
      by_cases hk0 : w17_3 = 0
      · have hF := ifp hF hk0
        refine lv_tableIn (off := 27) (tgt := 44) hx hb dX5_targets_17 (by rw [hk0]; first | done | decide) (by rw [hk0]; first | done | decide) (by rw [hk0]; first | done | rfl) (by decide) ?_
        refine va_gets (C := "AgingMen$Rules") (own := RX5) hx hb hE.2.2.1 hS hown (hts _ (List.mem_cons_of_mem _ mw_381)) (fun _ h9 => h9) dX5_targets_44 ?_
        refine lv_iload_n hx hb dX5_targets_47 rfl (lv_at hl 1 rfl) ?_
        obtain ⟨hi_4, hF⟩ := inb hF
        refine va_ti (v := .int (jumpsF (cl).toNatClampNeg)) hx hb hE.2.2.2.2.1 hS hi_4 rfl dX5_targets_48 ?_
        refine lv_iload_n hx hb dX5_targets_49 rfl (lv_at hl 3 rfl) ?_
        refine lv_iconst (v := (-1)) hx hb dX5_targets_50 (by decide) ?_
        refine lv_ixor hx hb dX5_targets_51 ?_
        refine lv_iand hx hb dX5_targets_52 ?_
        have hF := Option.some.inj hF
        subst hF
        exact hm_iret hx hb hr hlk hP hD hS hpost dX5_targets_53
      · have hF := ifn hF hk0
        by_cases hk1 : w17_3 = 1
        · have hF := ifp hF hk1
          refine lv_tableIn (off := 37) (tgt := 54) hx hb dX5_targets_17 (by rw [hk1]; first | done | decide) (by rw [hk1]; first | done | decide) (by rw [hk1]; first | done | rfl) (by decide) ?_
          refine lv_iload_n hx hb dX5_targets_54 rfl (lv_at hl 1 rfl) ?_
          refine lv_iload hx hb dX5_targets_55 (lv_at hl 4 rfl) ?_
          obtain ⟨r57_5, hr57_5, hF⟩ := bnd hF
          refine hm_S (wn := [(ru, .inr (5, [.int rb, .int rg, .int ro]))]) (wr := [(ru, .inr (5, [.int rb, .int rg, .int ro]))]) (rest := []) (sn := [.int r57_5]) hx hb hml hown hts hE hA (k_X5_straight G l cl al r57_5 hr57_5) sm_X5_straight mw_383 ⟨rfl, rfl, Nat.le_of_ble_eq_true rfl, Nat.le_of_ble_eq_true rfl⟩ hP hD hS [] [0] [0] rfl rfl rfl (by decide) hl.1 rfl rfl (Nat.le_of_ble_eq_true rfl) dX5_targets_57 ⟨Nat.le_of_ble_eq_true rfl, Nat.le_of_ble_eq_true rfl⟩ (fun H locs hP hD hS => ?_)
          refine lv_iload_n hx hb dX5_targets_60 rfl (lv_at hl 3 rfl) ?_
          refine lv_iconst (v := (-1)) hx hb dX5_targets_61 (by decide) ?_
          refine lv_ixor hx hb dX5_targets_62 ?_
          refine lv_iand hx hb dX5_targets_63 ?_
          have hF := Option.some.inj hF
          subst hF
          exact hm_iret hx hb hr hlk hP hD hS hpost dX5_targets_64
        · have hF := ifn hF hk1
          by_cases hk2 : w17_3 = 2
          · have hF := ifp hF hk2
            refine lv_tableIn (off := 48) (tgt := 65) hx hb dX5_targets_17 (by rw [hk2]; first | done | decide) (by rw [hk2]; first | done | decide) (by rw [hk2]; first | done | rfl) (by decide) ?_
            refine va_gets (C := "AgingMen$Rules") (own := RX5) hx hb hE.2.2.2.1 hS hown (hts _ (List.mem_cons_of_mem _ mw_386)) (fun _ h9 => h9) dX5_targets_65 ?_
            refine lv_iload_n hx hb dX5_targets_68 rfl (lv_at hl 1 rfl) ?_
            obtain ⟨hi_6, hF⟩ := inb hF
            refine va_ti (v := .int (stepsF (cl).toNatClampNeg)) hx hb hE.2.2.2.2.2 hS hi_6 rfl dX5_targets_69 ?_
            refine lv_iload_n hx hb dX5_targets_70 rfl (lv_at hl 3 rfl) ?_
            refine lv_iconst (v := (-1)) hx hb dX5_targets_71 (by decide) ?_
            refine lv_ixor hx hb dX5_targets_72 ?_
            refine lv_iand hx hb dX5_targets_73 ?_
            have hF := Option.some.inj hF
            subst hF
            exact hm_iret hx hb hr hlk hP hD hS hpost dX5_targets_74
          · have hF := ifn hF hk2
            have ehk0 : (w17_3).toInt ≠ 0 := fun h => hk0 (Int32.toInt_inj.mp h)
            have ehk1 : (w17_3).toInt ≠ 1 := fun h => hk1 (Int32.toInt_inj.mp h)
            have ehk2 : (w17_3).toInt ≠ 2 := fun h => hk2 (Int32.toInt_inj.mp h)
            refine lv_tableOut (tgt := 75) hx hb dX5_targets_17 (by omega) (by decide) ?_
            refine lv_iconst (v := 0) hx hb dX5_targets_75 (by decide) ?_
            have hF := Option.some.inj hF
            subst hF
            exact hm_iret hx hb hr hlk hP hD hS hpost dX5_targets_76
    · have hF := ifn hF c_2
      refine lv_iconst (v := 0) hx hb dX5_targets_10 (by decide) ?_
      have hF := Option.some.inj hF
      subst hF
      exact hm_iret hx hb hr hlk hP hD hS hpost dX5_targets_11
def f_X5_reachOfSide_L27 (rb : Int32) (rg : Int32) (ro : Int32) (st : Int64) (sd : Int32) (r2_1 : Int32) (v5_3 : Int32) : Nat → Int32 → Int32 → Option Int32
  | 0, _, _ => none
  | n+1, x6_5, x7_6 =>
  if ((3 * sd) + 3) ≤ x7_6 then some x6_5 else Option.bind (f_X5_targets rb rg ro (f_X8_cellOf st x7_6) (f_X8_ageOf st x7_6) r2_1 v5_3) (fun r56_8 => jlet (x6_5 ||| r56_8) (fun v6_9 => jlet (x7_6 + 1) (fun v7_10 => (f_X5_reachOfSide_L27 rb rg ro st sd r2_1 v5_3 n) v6_9 v7_10)))
def f_X5_reachOfSide (rb : Int32) (rg : Int32) (ro : Int32) (st : Int64) (sd : Int32) : Option Int32 :=
  Option.bind (f_X8_cellsOf st sd) (fun r2_1 => Option.bind (f_X8_cellsOf st (1 - sd)) (fun r13_2 => jlet (r2_1 ||| r13_2) (fun v5_3 => jlet (3 * sd) (fun v7_4 => f_X5_reachOfSide_L27 rb rg ro st sd r2_1 v5_3 100 0 v7_4))))
abbrev rm_X5_reachOfSide : Room := { frames := 2, cells := 0, slots := 0, locals := 55 }
set_option maxHeartbeats 4000000 in
set_option maxRecDepth 100000 in
theorem k_X5_reachOfSide (G : gT) (l : Launch) (ru : Nat) (rb : Int32) (rg : Int32) (ro : Int32) (st : Int64) (sd : Int32) (r : Int32) (hF : f_X5_reachOfSide rb rg ro st sd = some r) : HM G l yX5_reachOfSide (.code yX5_reachOfSide cX5_reachOfSide 8 (some .int) :: UW) rm_X5_reachOfSide 0 0 [.ref ru, .long st, .int sd] [(ru, .inr (5, [.int rb, .int rg, .int ro]))] (some (.int r)) [(ru, .inr (5, [.int rb, .int rg, .int ro]))] := by
  refine HM.ofW (by decide) (Nat.le_of_ble_eq_true rfl) ?_
  intro p e s m args below meth c A post hpost hC hP hD hS ls hl
  obtain ⟨hx, hb, hr, hml, hown, hts, hlk, hE, hA⟩ := hC
  have hl : lv_has ls 8 [(0, .ref ru), (1, .long st), (3, .int sd)] := hl
  unfold f_X5_reachOfSide at hF
  refine lv_lload_n hx hb dX5_reachOfSide_0 rfl (lv_at hl 1 rfl) ?_
  refine lv_iload_n hx hb dX5_reachOfSide_1 rfl (lv_at hl 2 rfl) ?_
  obtain ⟨r2_1, hr2_1, hF⟩ := bnd hF
  refine hm_S (wn := [(ru, .inr (5, [.int rb, .int rg, .int ro]))]) (wr := [(ru, .inr (5, [.int rb, .int rg, .int ro]))]) (rest := []) (sn := [.int r2_1]) hx hb hml hown hts hE hA (k_X8_cellsOf G l st sd r2_1 hr2_1) sm_X8_cellsOf mw_373 ⟨rfl, rfl, Nat.le_of_ble_eq_true rfl, Nat.le_of_ble_eq_true rfl⟩ hP hD hS [] [0] [0] rfl rfl rfl (by decide) hl.1 rfl rfl (Nat.le_of_ble_eq_true rfl) dX5_reachOfSide_2 ⟨Nat.le_of_ble_eq_true rfl, Nat.le_of_ble_eq_true rfl⟩ (fun H locs hP hD hS => ?_)
  refine lv_istore (lv' := [(4, .int r2_1), (0, .ref ru), (1, .long st), (3, .int sd)]) hx hb dX5_reachOfSide_5 hl (by decide) rfl (fun ls hl => ?_)
  refine lv_iload hx hb dX5_reachOfSide_7 (lv_at hl 0 rfl) ?_
  refine lv_lload_n hx hb dX5_reachOfSide_9 rfl (lv_at hl 2 rfl) ?_
  refine lv_iconst (v := 1) hx hb dX5_reachOfSide_10 (by decide) ?_
  refine lv_iload_n hx hb dX5_reachOfSide_11 rfl (lv_at hl 3 rfl) ?_
  refine lv_isub hx hb dX5_reachOfSide_12 ?_
  obtain ⟨r13_2, hr13_2, hF⟩ := bnd hF
  refine hm_S (wn := [(ru, .inr (5, [.int rb, .int rg, .int ro]))]) (wr := [(ru, .inr (5, [.int rb, .int rg, .int ro]))]) (rest := [.int r2_1]) (sn := [.int r13_2, .int r2_1]) hx hb hml hown hts hE hA (k_X8_cellsOf G l st (1 - sd) r13_2 hr13_2) sm_X8_cellsOf mw_373 ⟨rfl, rfl, Nat.le_of_ble_eq_true rfl, Nat.le_of_ble_eq_true rfl⟩ hP hD hS [] [0] [0] rfl rfl rfl (by decide) hl.1 rfl rfl (Nat.le_of_ble_eq_true rfl) dX5_reachOfSide_13 ⟨Nat.le_of_ble_eq_true rfl, Nat.le_of_ble_eq_true rfl⟩ (fun H locs hP hD hS => ?_)
  refine lv_ior hx hb dX5_reachOfSide_16 ?_
  refine lv_topi (fun v5_3 ev5_3 => ?_)
  have hF := jl hF ev5_3
  refine lv_istore (lv' := [(5, .int v5_3), (4, .int r2_1), (0, .ref ru), (1, .long st), (3, .int sd)]) hx hb dX5_reachOfSide_17 hl (by decide) rfl (fun ls hl => ?_)
  refine lv_iconst (v := 0) hx hb dX5_reachOfSide_19 (by decide) ?_
  refine lv_istore (lv' := [(6, .int 0), (5, .int v5_3), (4, .int r2_1), (0, .ref ru), (1, .long st), (3, .int sd)]) hx hb dX5_reachOfSide_20 hl (by decide) rfl (fun ls hl => ?_)
  refine lv_iconst (v := 3) hx hb dX5_reachOfSide_22 (by decide) ?_
  refine lv_iload_n hx hb dX5_reachOfSide_23 rfl (lv_at hl 5 rfl) ?_
  refine lv_imul hx hb dX5_reachOfSide_24 ?_
  refine lv_topi (fun v7_4 ev7_4 => ?_)
  have hF := jl hF ev7_4
  refine lv_istore (lv' := [(7, .int v7_4), (6, .int 0), (5, .int v5_3), (4, .int r2_1), (0, .ref ru), (1, .long st), (3, .int sd)]) hx hb dX5_reachOfSide_25 hl (by decide) rfl (fun ls hl => ?_)
  have hL27 : ∀ (n27 : Nat) (x6_5 : Int32) (x7_6 : Int32) (H : Heap) (locs : List Loc) (ls : Array Slot), f_X5_reachOfSide_L27 rb rg ro st sd r2_1 v5_3 n27 x6_5 x7_6 = some r → va_P (gD G) vwCl [(ru, .inr (5, [.int rb, .int rg, .int ro]))] H → va_D A [(ru, .inr (5, [.int rb, .int rg, .int ro]))] → va_S A s.heap H locs → lv_has ls 8 [(0, .ref ru), (1, .long st), (3, .int sd), (4, .int r2_1), (5, .int v5_3), (6, .int x6_5), (7, .int x7_6)] → W p l e rm_X5_reachOfSide s m args below meth c H locs 0 0 (MQ below (HXq G post A) args s 0 0 A) (F0 m 27 ls []) := by
    intro n27
    induction n27 with
    | zero =>
      intro x6_5 x7_6 H locs ls hF
      exact absurd hF (fun h => by cases h)
    | succ n27 ih27 =>
      intro x6_5 x7_6 H locs ls hF hP hD hS hl
      unfold f_X5_reachOfSide_L27 at hF
      refine lv_iload hx hb dX5_reachOfSide_27 (lv_at hl 6 rfl) ?_
      refine lv_iconst (v := 3) hx hb dX5_reachOfSide_29 (by decide) ?_
      refine lv_iload_n hx hb dX5_reachOfSide_30 rfl (lv_at hl 2 rfl) ?_
      refine lv_imul hx hb dX5_reachOfSide_31 ?_
      refine lv_iconst (v := 3) hx hb dX5_reachOfSide_32 (by decide) ?_
      refine lv_iadd hx hb dX5_reachOfSide_33 ?_
      refine lv_icmp_ge (tgt := 68) hx hb dX5_reachOfSide_34 (by decide) (fun c_7 => ?_) (fun c_7 => ?_)
      · have hF := ifp hF c_7
        refine lv_iload hx hb dX5_reachOfSide_68 (lv_at hl 5 rfl) ?_
        have hF := Option.some.inj hF
        subst hF
        exact hm_iret hx hb hr hlk hP hD hS hpost dX5_reachOfSide_70
      · have hF := ifn hF c_7
        refine lv_iload hx hb dX5_reachOfSide_37 (lv_at hl 5 rfl) ?_
        refine lv_aload_n hx hb dX5_reachOfSide_39 rfl (lv_at hl 0 rfl) ?_
        refine lv_lload_n hx hb dX5_reachOfSide_40 rfl (lv_at hl 1 rfl) ?_
        refine lv_iload hx hb dX5_reachOfSide_41 (lv_at hl 6 rfl) ?_
        refine hm_S (wn := [(ru, .inr (5, [.int rb, .int rg, .int ro]))]) (wr := [(ru, .inr (5, [.int rb, .int rg, .int ro]))]) (rest := [.ref ru, .int x6_5]) (sn := [.int (f_X8_cellOf st x7_6), .ref ru, .int x6_5]) hx hb hml hown hts hE hA (k_X8_cellOf G l st x7_6 _ rfl) sm_X8_cellOf mw_374 ⟨rfl, rfl, Nat.le_of_ble_eq_true rfl, Nat.le_of_ble_eq_true rfl⟩ hP hD hS [] [0] [0] rfl rfl rfl (by decide) hl.1 rfl rfl (Nat.le_of_ble_eq_true rfl) dX5_reachOfSide_43 ⟨Nat.le_of_ble_eq_true rfl, Nat.le_of_ble_eq_true rfl⟩ (fun H locs hP hD hS => ?_)
        refine lv_lload_n hx hb dX5_reachOfSide_46 rfl (lv_at hl 1 rfl) ?_
        refine lv_iload hx hb dX5_reachOfSide_47 (lv_at hl 6 rfl) ?_
        refine hm_S (wn := [(ru, .inr (5, [.int rb, .int rg, .int ro]))]) (wr := [(ru, .inr (5, [.int rb, .int rg, .int ro]))]) (rest := [.int (f_X8_cellOf st x7_6), .ref ru, .int x6_5]) (sn := [.int (f_X8_ageOf st x7_6), .int (f_X8_cellOf st x7_6), .ref ru, .int x6_5]) hx hb hml hown hts hE hA (k_X8_ageOf G l st x7_6 _ rfl) sm_X8_ageOf mw_375 ⟨rfl, rfl, Nat.le_of_ble_eq_true rfl, Nat.le_of_ble_eq_true rfl⟩ hP hD hS [] [0] [0] rfl rfl rfl (by decide) hl.1 rfl rfl (Nat.le_of_ble_eq_true rfl) dX5_reachOfSide_49 ⟨Nat.le_of_ble_eq_true rfl, Nat.le_of_ble_eq_true rfl⟩ (fun H locs hP hD hS => ?_)
        refine lv_iload hx hb dX5_reachOfSide_52 (lv_at hl 3 rfl) ?_
        refine lv_iload hx hb dX5_reachOfSide_54 (lv_at hl 4 rfl) ?_
        obtain ⟨r56_8, hr56_8, hF⟩ := bnd hF
        refine hm_V (wn := [(ru, .inr (5, [.int rb, .int rg, .int ro]))]) (wr := []) (rest := [.int x6_5]) (sn := [.int r56_8, .int x6_5]) hx hb hml hown hts hE hA (k_X5_targets G l ru rb rg ro (f_X8_cellOf st x7_6) (f_X8_ageOf st x7_6) r2_1 v5_3 r56_8 hr56_8) sm_X5_targets mw_376 ⟨rfl, rfl, Nat.le_of_ble_eq_true rfl, Nat.le_of_ble_eq_true rfl⟩ hP hD hS 0 rfl rfl [0] [] [0] rfl rfl rfl (by decide) hl.1 rfl rfl (Nat.le_of_ble_eq_true rfl) dX5_reachOfSide_56 ⟨Nat.le_of_ble_eq_true rfl, Nat.le_of_ble_eq_true rfl⟩ (fun H locs hP hD hS => ?_)
        refine lv_ior hx hb dX5_reachOfSide_59 ?_
        refine lv_topi (fun v6_9 ev6_9 => ?_)
        have hF := jl hF ev6_9
        refine lv_istore (lv' := [(6, .int v6_9), (0, .ref ru), (1, .long st), (3, .int sd), (4, .int r2_1), (5, .int v5_3), (7, .int x7_6)]) hx hb dX5_reachOfSide_60 hl (by decide) rfl (fun ls hl => ?_)
        obtain ⟨v7_10, ev7_10⟩ : ∃ z : Int32, z = x7_6 + 1 := ⟨_, rfl⟩
        have hF := jl hF ev7_10
        refine lv_iinc (v := v7_10) (lv' := [(7, .int v7_10), (6, .int v6_9), (0, .ref ru), (1, .long st), (3, .int sd), (4, .int r2_1), (5, .int v5_3)]) hx hb dX5_reachOfSide_62 hl (k := 6) rfl (by rw [ev7_10]; rfl) (by decide) rfl (fun ls hl => ?_)
        refine lv_goto (tgt := 27) hx hb dX5_reachOfSide_65 (by decide) ?_
        exact ih27 v6_9 v7_10 _ _ _ hF hP hD hS (lv_sub hl [2, 3, 4, 5, 6, 1, 0] rfl)
  exact hL27 _ 0 v7_4 _ _ _ hF hP hD hS (lv_sub hl [4, 5, 6, 3, 2, 1, 0] rfl)
def f_X5_countBlocked_B72 (k_27 : Int32 → Int32 → Option Int32) (x7_6 : Int32) (x6_8 : Int32) : Option Int32 :=
  jlet (x7_6 + 1) (fun v7_9 => k_27 x6_8 v7_9)
def f_X5_countBlocked_L27 (rb : Int32) (rg : Int32) (ro : Int32) (st : Int64) (sd : Int32) (r2_1 : Int32) (v5_3 : Int32) : Nat → Int32 → Int32 → Option Int32
  | 0, _, _ => none
  | n+1, x6_5, x7_6 =>
  if ((3 * sd) + 3) ≤ x7_6 then some x6_5 else if (f_X8_isUp st x7_6) = 0 then f_X5_countBlocked_B72 (f_X5_countBlocked_L27 rb rg ro st sd r2_1 v5_3 n) x7_6 x6_5 else Option.bind (f_X5_targets rb rg ro (f_X8_cellOf st x7_6) (f_X8_ageOf st x7_6) r2_1 v5_3) (fun r63_11 => if r63_11 = 0 then jlet (x6_5 + 1) (fun v6_13 => f_X5_countBlocked_B72 (f_X5_countBlocked_L27 rb rg ro st sd r2_1 v5_3 n) x7_6 v6_13) else f_X5_countBlocked_B72 (f_X5_countBlocked_L27 rb rg ro st sd r2_1 v5_3 n) x7_6 x6_5)
def f_X5_countBlocked (rb : Int32) (rg : Int32) (ro : Int32) (st : Int64) (sd : Int32) : Option Int32 :=
  Option.bind (f_X8_cellsOf st sd) (fun r2_1 => Option.bind (f_X8_cellsOf st (1 - sd)) (fun r13_2 => jlet (r2_1 ||| r13_2) (fun v5_3 => jlet (3 * sd) (fun v7_4 => f_X5_countBlocked_L27 rb rg ro st sd r2_1 v5_3 100 0 v7_4))))
abbrev rm_X5_countBlocked : Room := { frames := 2, cells := 0, slots := 0, locals := 55 }
set_option maxHeartbeats 4000000 in
set_option maxRecDepth 100000 in
theorem k_X5_countBlocked (G : gT) (l : Launch) (ru : Nat) (rb : Int32) (rg : Int32) (ro : Int32) (st : Int64) (sd : Int32) (r : Int32) (hF : f_X5_countBlocked rb rg ro st sd = some r) : HM G l yX5_countBlocked (.code yX5_countBlocked cX5_countBlocked 8 (some .int) :: UW) rm_X5_countBlocked 0 0 [.ref ru, .long st, .int sd] [(ru, .inr (5, [.int rb, .int rg, .int ro]))] (some (.int r)) [(ru, .inr (5, [.int rb, .int rg, .int ro]))] := by
  refine HM.ofW (by decide) (Nat.le_of_ble_eq_true rfl) ?_
  intro p e s m args below meth c A post hpost hC hP hD hS ls hl
  obtain ⟨hx, hb, hr, hml, hown, hts, hlk, hE, hA⟩ := hC
  have hl : lv_has ls 8 [(0, .ref ru), (1, .long st), (3, .int sd)] := hl
  unfold f_X5_countBlocked at hF
  refine lv_lload_n hx hb dX5_countBlocked_0 rfl (lv_at hl 1 rfl) ?_
  refine lv_iload_n hx hb dX5_countBlocked_1 rfl (lv_at hl 2 rfl) ?_
  obtain ⟨r2_1, hr2_1, hF⟩ := bnd hF
  refine hm_S (wn := [(ru, .inr (5, [.int rb, .int rg, .int ro]))]) (wr := [(ru, .inr (5, [.int rb, .int rg, .int ro]))]) (rest := []) (sn := [.int r2_1]) hx hb hml hown hts hE hA (k_X8_cellsOf G l st sd r2_1 hr2_1) sm_X8_cellsOf mw_373 ⟨rfl, rfl, Nat.le_of_ble_eq_true rfl, Nat.le_of_ble_eq_true rfl⟩ hP hD hS [] [0] [0] rfl rfl rfl (by decide) hl.1 rfl rfl (Nat.le_of_ble_eq_true rfl) dX5_countBlocked_2 ⟨Nat.le_of_ble_eq_true rfl, Nat.le_of_ble_eq_true rfl⟩ (fun H locs hP hD hS => ?_)
  refine lv_istore (lv' := [(4, .int r2_1), (0, .ref ru), (1, .long st), (3, .int sd)]) hx hb dX5_countBlocked_5 hl (by decide) rfl (fun ls hl => ?_)
  refine lv_iload hx hb dX5_countBlocked_7 (lv_at hl 0 rfl) ?_
  refine lv_lload_n hx hb dX5_countBlocked_9 rfl (lv_at hl 2 rfl) ?_
  refine lv_iconst (v := 1) hx hb dX5_countBlocked_10 (by decide) ?_
  refine lv_iload_n hx hb dX5_countBlocked_11 rfl (lv_at hl 3 rfl) ?_
  refine lv_isub hx hb dX5_countBlocked_12 ?_
  obtain ⟨r13_2, hr13_2, hF⟩ := bnd hF
  refine hm_S (wn := [(ru, .inr (5, [.int rb, .int rg, .int ro]))]) (wr := [(ru, .inr (5, [.int rb, .int rg, .int ro]))]) (rest := [.int r2_1]) (sn := [.int r13_2, .int r2_1]) hx hb hml hown hts hE hA (k_X8_cellsOf G l st (1 - sd) r13_2 hr13_2) sm_X8_cellsOf mw_373 ⟨rfl, rfl, Nat.le_of_ble_eq_true rfl, Nat.le_of_ble_eq_true rfl⟩ hP hD hS [] [0] [0] rfl rfl rfl (by decide) hl.1 rfl rfl (Nat.le_of_ble_eq_true rfl) dX5_countBlocked_13 ⟨Nat.le_of_ble_eq_true rfl, Nat.le_of_ble_eq_true rfl⟩ (fun H locs hP hD hS => ?_)
  refine lv_ior hx hb dX5_countBlocked_16 ?_
  refine lv_topi (fun v5_3 ev5_3 => ?_)
  have hF := jl hF ev5_3
  refine lv_istore (lv' := [(5, .int v5_3), (4, .int r2_1), (0, .ref ru), (1, .long st), (3, .int sd)]) hx hb dX5_countBlocked_17 hl (by decide) rfl (fun ls hl => ?_)
  refine lv_iconst (v := 0) hx hb dX5_countBlocked_19 (by decide) ?_
  refine lv_istore (lv' := [(6, .int 0), (5, .int v5_3), (4, .int r2_1), (0, .ref ru), (1, .long st), (3, .int sd)]) hx hb dX5_countBlocked_20 hl (by decide) rfl (fun ls hl => ?_)
  refine lv_iconst (v := 3) hx hb dX5_countBlocked_22 (by decide) ?_
  refine lv_iload_n hx hb dX5_countBlocked_23 rfl (lv_at hl 5 rfl) ?_
  refine lv_imul hx hb dX5_countBlocked_24 ?_
  refine lv_topi (fun v7_4 ev7_4 => ?_)
  have hF := jl hF ev7_4
  refine lv_istore (lv' := [(7, .int v7_4), (6, .int 0), (5, .int v5_3), (4, .int r2_1), (0, .ref ru), (1, .long st), (3, .int sd)]) hx hb dX5_countBlocked_25 hl (by decide) rfl (fun ls hl => ?_)
  have hL27 : ∀ (n27 : Nat) (x6_5 : Int32) (x7_6 : Int32) (H : Heap) (locs : List Loc) (ls : Array Slot), f_X5_countBlocked_L27 rb rg ro st sd r2_1 v5_3 n27 x6_5 x7_6 = some r → va_P (gD G) vwCl [(ru, .inr (5, [.int rb, .int rg, .int ro]))] H → va_D A [(ru, .inr (5, [.int rb, .int rg, .int ro]))] → va_S A s.heap H locs → lv_has ls 8 [(0, .ref ru), (1, .long st), (3, .int sd), (4, .int r2_1), (5, .int v5_3), (6, .int x6_5), (7, .int x7_6)] → W p l e rm_X5_countBlocked s m args below meth c H locs 0 0 (MQ below (HXq G post A) args s 0 0 A) (F0 m 27 ls []) := by
    intro n27
    induction n27 with
    | zero =>
      intro x6_5 x7_6 H locs ls hF
      exact absurd hF (fun h => by cases h)
    | succ n27 ih27 =>
      intro x6_5 x7_6 H locs ls hF hP hD hS hl
      unfold f_X5_countBlocked_L27 at hF
      refine lv_iload hx hb dX5_countBlocked_27 (lv_at hl 6 rfl) ?_
      refine lv_iconst (v := 3) hx hb dX5_countBlocked_29 (by decide) ?_
      refine lv_iload_n hx hb dX5_countBlocked_30 rfl (lv_at hl 2 rfl) ?_
      refine lv_imul hx hb dX5_countBlocked_31 ?_
      refine lv_iconst (v := 3) hx hb dX5_countBlocked_32 (by decide) ?_
      refine lv_iadd hx hb dX5_countBlocked_33 ?_
      refine lv_icmp_ge (tgt := 78) hx hb dX5_countBlocked_34 (by decide) (fun c_7 => ?_) (fun c_7 => ?_)
      · have hF := ifp hF c_7
        refine lv_iload hx hb dX5_countBlocked_78 (lv_at hl 5 rfl) ?_
        have hF := Option.some.inj hF
        subst hF
        exact hm_iret hx hb hr hlk hP hD hS hpost dX5_countBlocked_80
      · have hF := ifn hF c_7
        refine lv_lload_n hx hb dX5_countBlocked_37 rfl (lv_at hl 1 rfl) ?_
        refine lv_iload hx hb dX5_countBlocked_38 (lv_at hl 6 rfl) ?_
        refine hm_S (wn := [(ru, .inr (5, [.int rb, .int rg, .int ro]))]) (wr := [(ru, .inr (5, [.int rb, .int rg, .int ro]))]) (rest := []) (sn := [.int (f_X8_isUp st x7_6)]) hx hb hml hown hts hE hA (k_X8_isUp G l st x7_6 _ rfl) sm_X8_isUp mw_364 ⟨rfl, rfl, Nat.le_of_ble_eq_true rfl, Nat.le_of_ble_eq_true rfl⟩ hP hD hS [] [0] [0] rfl rfl rfl (by decide) hl.1 rfl rfl (Nat.le_of_ble_eq_true rfl) dX5_countBlocked_40 ⟨Nat.le_of_ble_eq_true rfl, Nat.le_of_ble_eq_true rfl⟩ (fun H locs hP hD hS => ?_)
        have hB72 : ∀ (x6_8 : Int32) (H : Heap) (locs : List Loc) (ls : Array Slot), f_X5_countBlocked_B72 (f_X5_countBlocked_L27 rb rg ro st sd r2_1 v5_3 n27) x7_6 x6_8 = some r → va_P (gD G) vwCl [(ru, .inr (5, [.int rb, .int rg, .int ro]))] H → va_D A [(ru, .inr (5, [.int rb, .int rg, .int ro]))] → va_S A s.heap H locs → lv_has ls 8 [(0, .ref ru), (1, .long st), (3, .int sd), (4, .int r2_1), (5, .int v5_3), (6, .int x6_8), (7, .int x7_6)] → W p l e rm_X5_countBlocked s m args below meth c H locs 0 0 (MQ below (HXq G post A) args s 0 0 A) (F0 m 72 ls []) := by
          intro x6_8 H locs ls hF hP hD hS hl
          unfold f_X5_countBlocked_B72 at hF
          obtain ⟨v7_9, ev7_9⟩ : ∃ z : Int32, z = x7_6 + 1 := ⟨_, rfl⟩
          have hF := jl hF ev7_9
          refine lv_iinc (v := v7_9) (lv' := [(7, .int v7_9), (0, .ref ru), (1, .long st), (3, .int sd), (4, .int r2_1), (5, .int v5_3), (6, .int x6_8)]) hx hb dX5_countBlocked_72 hl (k := 6) rfl (by rw [ev7_9]; rfl) (by decide) rfl (fun ls hl => ?_)
          refine lv_goto (tgt := 27) hx hb dX5_countBlocked_75 (by decide) ?_
          exact ih27 x6_8 v7_9 _ _ _ hF hP hD hS (lv_sub hl [1, 2, 3, 4, 5, 6, 0] rfl)
        refine lv_if_eq (tgt := 72) hx hb dX5_countBlocked_43 (by decide) (fun c_10 => ?_) (fun c_10 => ?_)
        · have hF := ifp hF c_10
          exact hB72 x6_5 _ _ _ hF hP hD hS (lv_sub hl [0, 1, 2, 3, 4, 5, 6] rfl)
        · have hF := ifn hF c_10
          refine lv_aload_n hx hb dX5_countBlocked_46 rfl (lv_at hl 0 rfl) ?_
          refine lv_lload_n hx hb dX5_countBlocked_47 rfl (lv_at hl 1 rfl) ?_
          refine lv_iload hx hb dX5_countBlocked_48 (lv_at hl 6 rfl) ?_
          refine hm_S (wn := [(ru, .inr (5, [.int rb, .int rg, .int ro]))]) (wr := [(ru, .inr (5, [.int rb, .int rg, .int ro]))]) (rest := [.ref ru]) (sn := [.int (f_X8_cellOf st x7_6), .ref ru]) hx hb hml hown hts hE hA (k_X8_cellOf G l st x7_6 _ rfl) sm_X8_cellOf mw_374 ⟨rfl, rfl, Nat.le_of_ble_eq_true rfl, Nat.le_of_ble_eq_true rfl⟩ hP hD hS [] [0] [0] rfl rfl rfl (by decide) hl.1 rfl rfl (Nat.le_of_ble_eq_true rfl) dX5_countBlocked_50 ⟨Nat.le_of_ble_eq_true rfl, Nat.le_of_ble_eq_true rfl⟩ (fun H locs hP hD hS => ?_)
          refine lv_lload_n hx hb dX5_countBlocked_53 rfl (lv_at hl 1 rfl) ?_
          refine lv_iload hx hb dX5_countBlocked_54 (lv_at hl 6 rfl) ?_
          refine hm_S (wn := [(ru, .inr (5, [.int rb, .int rg, .int ro]))]) (wr := [(ru, .inr (5, [.int rb, .int rg, .int ro]))]) (rest := [.int (f_X8_cellOf st x7_6), .ref ru]) (sn := [.int (f_X8_ageOf st x7_6), .int (f_X8_cellOf st x7_6), .ref ru]) hx hb hml hown hts hE hA (k_X8_ageOf G l st x7_6 _ rfl) sm_X8_ageOf mw_375 ⟨rfl, rfl, Nat.le_of_ble_eq_true rfl, Nat.le_of_ble_eq_true rfl⟩ hP hD hS [] [0] [0] rfl rfl rfl (by decide) hl.1 rfl rfl (Nat.le_of_ble_eq_true rfl) dX5_countBlocked_56 ⟨Nat.le_of_ble_eq_true rfl, Nat.le_of_ble_eq_true rfl⟩ (fun H locs hP hD hS => ?_)
          refine lv_iload hx hb dX5_countBlocked_59 (lv_at hl 3 rfl) ?_
          refine lv_iload hx hb dX5_countBlocked_61 (lv_at hl 4 rfl) ?_
          obtain ⟨r63_11, hr63_11, hF⟩ := bnd hF
          refine hm_V (wn := [(ru, .inr (5, [.int rb, .int rg, .int ro]))]) (wr := []) (rest := []) (sn := [.int r63_11]) hx hb hml hown hts hE hA (k_X5_targets G l ru rb rg ro (f_X8_cellOf st x7_6) (f_X8_ageOf st x7_6) r2_1 v5_3 r63_11 hr63_11) sm_X5_targets mw_376 ⟨rfl, rfl, Nat.le_of_ble_eq_true rfl, Nat.le_of_ble_eq_true rfl⟩ hP hD hS 0 rfl rfl [0] [] [0] rfl rfl rfl (by decide) hl.1 rfl rfl (Nat.le_of_ble_eq_true rfl) dX5_countBlocked_63 ⟨Nat.le_of_ble_eq_true rfl, Nat.le_of_ble_eq_true rfl⟩ (fun H locs hP hD hS => ?_)
          refine lv_if_ne (tgt := 72) hx hb dX5_countBlocked_66 (by decide) (fun c_12 => ?_) (fun c_12 => ?_)
          · have hF := ifn hF c_12
            exact hB72 x6_5 _ _ _ hF hP hD hS (lv_sub hl [0, 1, 2, 3, 4, 5, 6] rfl)
          · have hF := ifp hF c_12
            obtain ⟨v6_13, ev6_13⟩ : ∃ z : Int32, z = x6_5 + 1 := ⟨_, rfl⟩
            have hF := jl hF ev6_13
            refine lv_iinc (v := v6_13) (lv' := [(6, .int v6_13), (0, .ref ru), (1, .long st), (3, .int sd), (4, .int r2_1), (5, .int v5_3), (7, .int x7_6)]) hx hb dX5_countBlocked_69 hl (k := 5) rfl (by rw [ev6_13]; rfl) (by decide) rfl (fun ls hl => ?_)
            exact hB72 v6_13 _ _ _ hF hP hD hS (lv_sub hl [1, 2, 3, 4, 5, 0, 6] rfl)
  exact hL27 _ 0 v7_4 _ _ _ hF hP hD hS (lv_sub hl [4, 5, 6, 3, 2, 1, 0] rfl)
def f_X5_youthOf_B47 (k_8 : Int32 → Int32 → Option Int32) (x5_3 : Int32) (x4_5 : Int32) : Option Int32 :=
  jlet (x5_3 + 1) (fun v5_6 => k_8 x4_5 v5_6)
def f_X5_youthOf_L8 (ro : Int32) (st : Int64) (sd : Int32) : Nat → Int32 → Int32 → Option Int32
  | 0, _, _ => none
  | n+1, x4_2, x5_3 =>
  if ((3 * sd) + 3) ≤ x5_3 then some x4_2 else if (f_X8_isUp st x5_3) = 0 then f_X5_youthOf_B47 (f_X5_youthOf_L8 ro st sd n) x5_3 x4_2 else jlet (x4_2 + (jmax 0 (ro - (f_X8_ageOf st x5_3)))) (fun v4_8 => f_X5_youthOf_B47 (f_X5_youthOf_L8 ro st sd n) x5_3 v4_8)
def f_X5_youthOf (ro : Int32) (st : Int64) (sd : Int32) : Option Int32 :=
  jlet (3 * sd) (fun v5_1 => f_X5_youthOf_L8 ro st sd 100 0 v5_1)
abbrev rm_X5_youthOf : Room := { frames := 2, cells := 0, slots := 0, locals := 44 }
set_option maxHeartbeats 4000000 in
set_option maxRecDepth 100000 in
theorem k_X5_youthOf (G : gT) (l : Launch) (ru : Nat) (rb : Int32) (rg : Int32) (ro : Int32) (st : Int64) (sd : Int32) (r : Int32) (hF : f_X5_youthOf ro st sd = some r) : HM G l yX5_youthOf (.code yX5_youthOf cX5_youthOf 6 (some .int) :: UW) rm_X5_youthOf 0 0 [.ref ru, .long st, .int sd] [(ru, .inr (5, [.int rb, .int rg, .int ro]))] (some (.int r)) [(ru, .inr (5, [.int rb, .int rg, .int ro]))] := by
  refine HM.ofW (by decide) (Nat.le_of_ble_eq_true rfl) ?_
  intro p e s m args below meth c A post hpost hC hP hD hS ls hl
  obtain ⟨hx, hb, hr, hml, hown, hts, hlk, hE, hA⟩ := hC
  have hl : lv_has ls 6 [(0, .ref ru), (1, .long st), (3, .int sd)] := hl
  unfold f_X5_youthOf at hF
  refine lv_iconst (v := 0) hx hb dX5_youthOf_0 (by decide) ?_
  refine lv_istore (lv' := [(4, .int 0), (0, .ref ru), (1, .long st), (3, .int sd)]) hx hb dX5_youthOf_1 hl (by decide) rfl (fun ls hl => ?_)
  refine lv_iconst (v := 3) hx hb dX5_youthOf_3 (by decide) ?_
  refine lv_iload_n hx hb dX5_youthOf_4 rfl (lv_at hl 3 rfl) ?_
  refine lv_imul hx hb dX5_youthOf_5 ?_
  refine lv_topi (fun v5_1 ev5_1 => ?_)
  have hF := jl hF ev5_1
  refine lv_istore (lv' := [(5, .int v5_1), (4, .int 0), (0, .ref ru), (1, .long st), (3, .int sd)]) hx hb dX5_youthOf_6 hl (by decide) rfl (fun ls hl => ?_)
  have hL8 : ∀ (n8 : Nat) (x4_2 : Int32) (x5_3 : Int32) (H : Heap) (locs : List Loc) (ls : Array Slot), f_X5_youthOf_L8 ro st sd n8 x4_2 x5_3 = some r → va_P (gD G) vwCl [(ru, .inr (5, [.int rb, .int rg, .int ro]))] H → va_D A [(ru, .inr (5, [.int rb, .int rg, .int ro]))] → va_S A s.heap H locs → lv_has ls 6 [(0, .ref ru), (1, .long st), (3, .int sd), (4, .int x4_2), (5, .int x5_3)] → W p l e rm_X5_youthOf s m args below meth c H locs 0 0 (MQ below (HXq G post A) args s 0 0 A) (F0 m 8 ls []) := by
    intro n8
    induction n8 with
    | zero =>
      intro x4_2 x5_3 H locs ls hF
      exact absurd hF (fun h => by cases h)
    | succ n8 ih8 =>
      intro x4_2 x5_3 H locs ls hF hP hD hS hl
      unfold f_X5_youthOf_L8 at hF
      refine lv_iload hx hb dX5_youthOf_8 (lv_at hl 4 rfl) ?_
      refine lv_iconst (v := 3) hx hb dX5_youthOf_10 (by decide) ?_
      refine lv_iload_n hx hb dX5_youthOf_11 rfl (lv_at hl 2 rfl) ?_
      refine lv_imul hx hb dX5_youthOf_12 ?_
      refine lv_iconst (v := 3) hx hb dX5_youthOf_13 (by decide) ?_
      refine lv_iadd hx hb dX5_youthOf_14 ?_
      refine lv_icmp_ge (tgt := 53) hx hb dX5_youthOf_15 (by decide) (fun c_4 => ?_) (fun c_4 => ?_)
      · have hF := ifp hF c_4
        refine lv_iload hx hb dX5_youthOf_53 (lv_at hl 3 rfl) ?_
        have hF := Option.some.inj hF
        subst hF
        exact hm_iret hx hb hr hlk hP hD hS hpost dX5_youthOf_55
      · have hF := ifn hF c_4
        refine lv_lload_n hx hb dX5_youthOf_18 rfl (lv_at hl 1 rfl) ?_
        refine lv_iload hx hb dX5_youthOf_19 (lv_at hl 4 rfl) ?_
        refine hm_S (wn := [(ru, .inr (5, [.int rb, .int rg, .int ro]))]) (wr := [(ru, .inr (5, [.int rb, .int rg, .int ro]))]) (rest := []) (sn := [.int (f_X8_isUp st x5_3)]) hx hb hml hown hts hE hA (k_X8_isUp G l st x5_3 _ rfl) sm_X8_isUp mw_364 ⟨rfl, rfl, Nat.le_of_ble_eq_true rfl, Nat.le_of_ble_eq_true rfl⟩ hP hD hS [] [0] [0] rfl rfl rfl (by decide) hl.1 rfl rfl (Nat.le_of_ble_eq_true rfl) dX5_youthOf_21 ⟨Nat.le_of_ble_eq_true rfl, Nat.le_of_ble_eq_true rfl⟩ (fun H locs hP hD hS => ?_)
        have hB47 : ∀ (x4_5 : Int32) (H : Heap) (locs : List Loc) (ls : Array Slot), f_X5_youthOf_B47 (f_X5_youthOf_L8 ro st sd n8) x5_3 x4_5 = some r → va_P (gD G) vwCl [(ru, .inr (5, [.int rb, .int rg, .int ro]))] H → va_D A [(ru, .inr (5, [.int rb, .int rg, .int ro]))] → va_S A s.heap H locs → lv_has ls 6 [(0, .ref ru), (1, .long st), (3, .int sd), (4, .int x4_5), (5, .int x5_3)] → W p l e rm_X5_youthOf s m args below meth c H locs 0 0 (MQ below (HXq G post A) args s 0 0 A) (F0 m 47 ls []) := by
          intro x4_5 H locs ls hF hP hD hS hl
          unfold f_X5_youthOf_B47 at hF
          obtain ⟨v5_6, ev5_6⟩ : ∃ z : Int32, z = x5_3 + 1 := ⟨_, rfl⟩
          have hF := jl hF ev5_6
          refine lv_iinc (v := v5_6) (lv' := [(5, .int v5_6), (0, .ref ru), (1, .long st), (3, .int sd), (4, .int x4_5)]) hx hb dX5_youthOf_47 hl (k := 4) rfl (by rw [ev5_6]; rfl) (by decide) rfl (fun ls hl => ?_)
          refine lv_goto (tgt := 8) hx hb dX5_youthOf_50 (by decide) ?_
          exact ih8 x4_5 v5_6 _ _ _ hF hP hD hS (lv_sub hl [1, 2, 3, 4, 0] rfl)
        refine lv_if_eq (tgt := 47) hx hb dX5_youthOf_24 (by decide) (fun c_7 => ?_) (fun c_7 => ?_)
        · have hF := ifp hF c_7
          exact hB47 x4_2 _ _ _ hF hP hD hS (lv_sub hl [0, 1, 2, 3, 4] rfl)
        · have hF := ifn hF c_7
          refine lv_iload hx hb dX5_youthOf_27 (lv_at hl 3 rfl) ?_
          refine lv_iconst (v := 0) hx hb dX5_youthOf_29 (by decide) ?_
          refine lv_aload_n hx hb dX5_youthOf_30 rfl (lv_at hl 0 rfl) ?_
          refine hget hx hb hts hown hE fl_X5_18 hP 0 rfl rfl dX5_youthOf_31 ?_
          refine lv_lload_n hx hb dX5_youthOf_34 rfl (lv_at hl 1 rfl) ?_
          refine lv_iload hx hb dX5_youthOf_35 (lv_at hl 4 rfl) ?_
          refine hm_S (wn := [(ru, .inr (5, [.int rb, .int rg, .int ro]))]) (wr := [(ru, .inr (5, [.int rb, .int rg, .int ro]))]) (rest := [.int ro, .int 0, .int x4_2]) (sn := [.int (f_X8_ageOf st x5_3), .int ro, .int 0, .int x4_2]) hx hb hml hown hts hE hA (k_X8_ageOf G l st x5_3 _ rfl) sm_X8_ageOf mw_375 ⟨rfl, rfl, Nat.le_of_ble_eq_true rfl, Nat.le_of_ble_eq_true rfl⟩ hP hD hS [] [0] [0] rfl rfl rfl (by decide) hl.1 rfl rfl (Nat.le_of_ble_eq_true rfl) dX5_youthOf_37 ⟨Nat.le_of_ble_eq_true rfl, Nat.le_of_ble_eq_true rfl⟩ (fun H locs hP hD hS => ?_)
          refine lv_isub hx hb dX5_youthOf_40 ?_
          refine va_mmax hx hb (hml.trans hl.1.symm) hown (hts _ (List.mem_cons_of_mem _ mw_458)) (hts _ (List.mem_cons_of_mem _ sm_J9_max_7cf53.2.1)) (hts _ (List.mem_cons_of_mem _ sm_J9_max_7cf53.2.2.1)) (hts _ (List.mem_cons_of_mem _ sm_J9_max_7cf53.1)) (Nat.le_of_ble_eq_true rfl) (Nat.le_of_ble_eq_true rfl) (Nat.le_of_ble_eq_true rfl) (Nat.le_of_ble_eq_true rfl) dX5_youthOf_41 ?_
          refine lv_iadd hx hb dX5_youthOf_44 ?_
          refine lv_topi (fun v4_8 ev4_8 => ?_)
          have hF := jl hF ev4_8
          refine lv_istore (lv' := [(4, .int v4_8), (0, .ref ru), (1, .long st), (3, .int sd), (5, .int x5_3)]) hx hb dX5_youthOf_45 hl (by decide) rfl (fun ls hl => ?_)
          exact hB47 v4_8 _ _ _ hF hP hD hS (lv_sub hl [1, 2, 3, 0, 4] rfl)
  exact hL8 _ 0 v5_1 _ _ _ hF hP hD hS (lv_sub hl [2, 3, 4, 1, 0] rfl)
def f_X5_ending (rb : Int32) (rg : Int32) (ro : Int32) (st : Int64) : Option Int32 :=
  if (f_X8_isUp st 0) = 0 then some (f_X5_wonBy 1) else if (f_X8_isUp st 3) = 0 then some (f_X5_wonBy 0) else jlet (f_X8_turnOf st) (fun v3_3 => Option.bind (f_X5_reachOfSide rb rg ro st v3_3) (fun r34_4 => if r34_4 = 0 then Option.bind (f_X5_reachOfSide rb rg ro st (1 - v3_3)) (fun r47_6 => if r47_6 = 0 then some 3 else some (f_X5_wonBy (1 - v3_3))) else some 0))
abbrev rm_X5_ending : Room := { frames := 3, cells := 0, slots := 0, locals := 82 }
set_option maxHeartbeats 4000000 in
set_option maxRecDepth 100000 in
theorem k_X5_ending (G : gT) (l : Launch) (ru : Nat) (rb : Int32) (rg : Int32) (ro : Int32) (st : Int64) (r : Int32) (hF : f_X5_ending rb rg ro st = some r) : HM G l yX5_ending (.code yX5_ending cX5_ending 4 (some .int) :: UW) rm_X5_ending 0 0 [.ref ru, .long st] [(ru, .inr (5, [.int rb, .int rg, .int ro]))] (some (.int r)) [(ru, .inr (5, [.int rb, .int rg, .int ro]))] := by
  refine HM.ofW (by decide) (Nat.le_of_ble_eq_true rfl) ?_
  intro p e s m args below meth c A post hpost hC hP hD hS ls hl
  obtain ⟨hx, hb, hr, hml, hown, hts, hlk, hE, hA⟩ := hC
  have hl : lv_has ls 4 [(0, .ref ru), (1, .long st)] := hl
  unfold f_X5_ending at hF
  refine lv_lload_n hx hb dX5_ending_0 rfl (lv_at hl 1 rfl) ?_
  refine lv_iconst (v := 0) hx hb dX5_ending_1 (by decide) ?_
  refine hm_S (wn := [(ru, .inr (5, [.int rb, .int rg, .int ro]))]) (wr := [(ru, .inr (5, [.int rb, .int rg, .int ro]))]) (rest := []) (sn := [.int (f_X8_isUp st 0)]) hx hb hml hown hts hE hA (k_X8_isUp G l st 0 _ rfl) sm_X8_isUp mw_364 ⟨rfl, rfl, Nat.le_of_ble_eq_true rfl, Nat.le_of_ble_eq_true rfl⟩ hP hD hS [] [0] [0] rfl rfl rfl (by decide) hl.1 rfl rfl (Nat.le_of_ble_eq_true rfl) dX5_ending_2 ⟨Nat.le_of_ble_eq_true rfl, Nat.le_of_ble_eq_true rfl⟩ (fun H locs hP hD hS => ?_)
  refine lv_if_ne (tgt := 13) hx hb dX5_ending_5 (by decide) (fun c_1 => ?_) (fun c_1 => ?_)
  · have hF := ifn hF c_1
    refine lv_lload_n hx hb dX5_ending_13 rfl (lv_at hl 1 rfl) ?_
    refine lv_iconst (v := 3) hx hb dX5_ending_14 (by decide) ?_
    refine hm_S (wn := [(ru, .inr (5, [.int rb, .int rg, .int ro]))]) (wr := [(ru, .inr (5, [.int rb, .int rg, .int ro]))]) (rest := []) (sn := [.int (f_X8_isUp st 3)]) hx hb hml hown hts hE hA (k_X8_isUp G l st 3 _ rfl) sm_X8_isUp mw_364 ⟨rfl, rfl, Nat.le_of_ble_eq_true rfl, Nat.le_of_ble_eq_true rfl⟩ hP hD hS [] [0] [0] rfl rfl rfl (by decide) hl.1 rfl rfl (Nat.le_of_ble_eq_true rfl) dX5_ending_15 ⟨Nat.le_of_ble_eq_true rfl, Nat.le_of_ble_eq_true rfl⟩ (fun H locs hP hD hS => ?_)
    refine lv_if_ne (tgt := 26) hx hb dX5_ending_18 (by decide) (fun c_2 => ?_) (fun c_2 => ?_)
    · have hF := ifn hF c_2
      refine lv_lload_n hx hb dX5_ending_26 rfl (lv_at hl 1 rfl) ?_
      refine hm_S (wn := [(ru, .inr (5, [.int rb, .int rg, .int ro]))]) (wr := [(ru, .inr (5, [.int rb, .int rg, .int ro]))]) (rest := []) (sn := [.int (f_X8_turnOf st)]) hx hb hml hown hts hE hA (k_X8_turnOf G l st _ rfl) sm_X8_turnOf mw_368 ⟨rfl, rfl, Nat.le_of_ble_eq_true rfl, Nat.le_of_ble_eq_true rfl⟩ hP hD hS [] [0] [0] rfl rfl rfl (by decide) hl.1 rfl rfl (Nat.le_of_ble_eq_true rfl) dX5_ending_27 ⟨Nat.le_of_ble_eq_true rfl, Nat.le_of_ble_eq_true rfl⟩ (fun H locs hP hD hS => ?_)
      refine lv_topi (fun v3_3 ev3_3 => ?_)
      have hF := jl hF ev3_3
      refine lv_istore_n (lv' := [(3, .int v3_3), (0, .ref ru), (1, .long st)]) hx hb dX5_ending_30 rfl hl (by decide) rfl (fun ls hl => ?_)
      refine lv_aload_n hx hb dX5_ending_31 rfl (lv_at hl 1 rfl) ?_
      refine lv_lload_n hx hb dX5_ending_32 rfl (lv_at hl 2 rfl) ?_
      refine lv_iload_n hx hb dX5_ending_33 rfl (lv_at hl 0 rfl) ?_
      obtain ⟨r34_4, hr34_4, hF⟩ := bnd hF
      refine hm_V (wn := [(ru, .inr (5, [.int rb, .int rg, .int ro]))]) (wr := []) (rest := []) (sn := [.int r34_4]) hx hb hml hown hts hE hA (k_X5_reachOfSide G l ru rb rg ro st v3_3 r34_4 hr34_4) sm_X5_reachOfSide mw_369 ⟨rfl, rfl, Nat.le_of_ble_eq_true rfl, Nat.le_of_ble_eq_true rfl⟩ hP hD hS 0 rfl rfl [0] [] [0] rfl rfl rfl (by decide) hl.1 rfl rfl (Nat.le_of_ble_eq_true rfl) dX5_ending_34 ⟨Nat.le_of_ble_eq_true rfl, Nat.le_of_ble_eq_true rfl⟩ (fun H locs hP hD hS => ?_)
      refine lv_if_eq (tgt := 42) hx hb dX5_ending_37 (by decide) (fun c_5 => ?_) (fun c_5 => ?_)
      · have hF := ifp hF c_5
        refine lv_aload_n hx hb dX5_ending_42 rfl (lv_at hl 1 rfl) ?_
        refine lv_lload_n hx hb dX5_ending_43 rfl (lv_at hl 2 rfl) ?_
        refine lv_iconst (v := 1) hx hb dX5_ending_44 (by decide) ?_
        refine lv_iload_n hx hb dX5_ending_45 rfl (lv_at hl 0 rfl) ?_
        refine lv_isub hx hb dX5_ending_46 ?_
        obtain ⟨r47_6, hr47_6, hF⟩ := bnd hF
        refine hm_V (wn := [(ru, .inr (5, [.int rb, .int rg, .int ro]))]) (wr := []) (rest := []) (sn := [.int r47_6]) hx hb hml hown hts hE hA (k_X5_reachOfSide G l ru rb rg ro st (1 - v3_3) r47_6 hr47_6) sm_X5_reachOfSide mw_369 ⟨rfl, rfl, Nat.le_of_ble_eq_true rfl, Nat.le_of_ble_eq_true rfl⟩ hP hD hS 0 rfl rfl [0] [] [0] rfl rfl rfl (by decide) hl.1 rfl rfl (Nat.le_of_ble_eq_true rfl) dX5_ending_47 ⟨Nat.le_of_ble_eq_true rfl, Nat.le_of_ble_eq_true rfl⟩ (fun H locs hP hD hS => ?_)
        refine lv_if_eq (tgt := 62) hx hb dX5_ending_50 (by decide) (fun c_7 => ?_) (fun c_7 => ?_)
        · have hF := ifp hF c_7
          refine lv_iconst (v := 3) hx hb dX5_ending_62 (by decide) ?_
          have hF := Option.some.inj hF
          subst hF
          exact hm_iret hx hb hr hlk hP hD hS hpost dX5_ending_63
        · have hF := ifn hF c_7
          refine lv_iconst (v := 1) hx hb dX5_ending_53 (by decide) ?_
          refine lv_iload_n hx hb dX5_ending_54 rfl (lv_at hl 0 rfl) ?_
          refine lv_isub hx hb dX5_ending_55 ?_
          refine hm_S (wn := [(ru, .inr (5, [.int rb, .int rg, .int ro]))]) (wr := [(ru, .inr (5, [.int rb, .int rg, .int ro]))]) (rest := []) (sn := [.int (f_X5_wonBy (1 - v3_3))]) hx hb hml hown hts hE hA (k_X5_wonBy G l (1 - v3_3) _ rfl) sm_X5_wonBy mw_365 ⟨rfl, rfl, Nat.le_of_ble_eq_true rfl, Nat.le_of_ble_eq_true rfl⟩ hP hD hS [] [0] [0] rfl rfl rfl (by decide) hl.1 rfl rfl (Nat.le_of_ble_eq_true rfl) dX5_ending_56 ⟨Nat.le_of_ble_eq_true rfl, Nat.le_of_ble_eq_true rfl⟩ (fun H locs hP hD hS => ?_)
          refine lv_goto (tgt := 63) hx hb dX5_ending_59 (by decide) ?_
          have hF := Option.some.inj hF
          subst hF
          exact hm_iret hx hb hr hlk hP hD hS hpost dX5_ending_63
      · have hF := ifn hF c_5
        refine lv_iconst (v := 0) hx hb dX5_ending_40 (by decide) ?_
        have hF := Option.some.inj hF
        subst hF
        exact hm_iret hx hb hr hlk hP hD hS hpost dX5_ending_41
    · have hF := ifp hF c_2
      refine lv_iconst (v := 0) hx hb dX5_ending_21 (by decide) ?_
      refine hm_S (wn := [(ru, .inr (5, [.int rb, .int rg, .int ro]))]) (wr := [(ru, .inr (5, [.int rb, .int rg, .int ro]))]) (rest := []) (sn := [.int (f_X5_wonBy 0)]) hx hb hml hown hts hE hA (k_X5_wonBy G l 0 _ rfl) sm_X5_wonBy mw_365 ⟨rfl, rfl, Nat.le_of_ble_eq_true rfl, Nat.le_of_ble_eq_true rfl⟩ hP hD hS [] [0] [0] rfl rfl rfl (by decide) hl.1 rfl rfl (Nat.le_of_ble_eq_true rfl) dX5_ending_22 ⟨Nat.le_of_ble_eq_true rfl, Nat.le_of_ble_eq_true rfl⟩ (fun H locs hP hD hS => ?_)
      have hF := Option.some.inj hF
      subst hF
      exact hm_iret hx hb hr hlk hP hD hS hpost dX5_ending_25
  · have hF := ifp hF c_1
    refine lv_iconst (v := 1) hx hb dX5_ending_8 (by decide) ?_
    refine hm_S (wn := [(ru, .inr (5, [.int rb, .int rg, .int ro]))]) (wr := [(ru, .inr (5, [.int rb, .int rg, .int ro]))]) (rest := []) (sn := [.int (f_X5_wonBy 1)]) hx hb hml hown hts hE hA (k_X5_wonBy G l 1 _ rfl) sm_X5_wonBy mw_365 ⟨rfl, rfl, Nat.le_of_ble_eq_true rfl, Nat.le_of_ble_eq_true rfl⟩ hP hD hS [] [0] [0] rfl rfl rfl (by decide) hl.1 rfl rfl (Nat.le_of_ble_eq_true rfl) dX5_ending_9 ⟨Nat.le_of_ble_eq_true rfl, Nat.le_of_ble_eq_true rfl⟩ (fun H locs hP hD hS => ?_)
    have hF := Option.some.inj hF
    subst hF
    exact hm_iret hx hb hr hlk hP hD hS hpost dX5_ending_12
def f_X5_list_B160 (k_59 : Int32 → Int32 → (Nat → Int32) → Option (Int32 × (Nat → Int32))) (x9_10 : Int32) (x8_14 : Int32) (ra_17 : (Nat → Int32)) : Option (Int32 × (Nat → Int32)) :=
  jlet (x9_10 + 1) (fun v9_18 => k_59 x8_14 v9_18 ra_17)
def f_X5_list_L95 (k_59 : Int32 → Int32 → (Nat → Int32) → Option (Int32 × (Nat → Int32))) (rn : Nat) (sa : Int32) (x9_10 : Int32) : Nat → Int32 → Int32 → Int32 → (Nat → Int32) → Option (Int32 × (Nat → Int32))
  | 0, _, _, _, _ => none
  | n+1, x8_14, x10_15, x11_16, ra_17 =>
  if 25 ≤ x11_16 then f_X5_list_B160 k_59 x9_10 x8_14 ra_17 else if x10_15 = 0 then f_X5_list_B160 k_59 x9_10 x8_14 ra_17 else if (Int32.ofNat rn) ≤ (sa + x8_14) then f_X5_list_B160 k_59 x9_10 x8_14 ra_17 else jlet (x10_15 &&& (-x10_15)) (fun v12_22 => if ((sa + x8_14)) < 0 ∨ rn ≤ ((sa + x8_14)).toNatClampNeg then none else jlet (upd ra_17 ((sa + x8_14)).toNatClampNeg ((jshl x9_10 5) ||| (f_J6_bitCount_0f7a4 (v12_22 - 1)))) (fun a143_24 => jlet (x8_14 + 1) (fun v8_25 => jlet (x10_15 ^^^ v12_22) (fun v10_26 => jlet (x11_16 + 1) (fun v11_27 => (f_X5_list_L95 k_59 rn sa x9_10 n) v8_25 v10_26 v11_27 a143_24)))))
def f_X5_list_L59 (rb : Int32) (rg : Int32) (ro : Int32) (rn : Nat) (st : Int64) (sa : Int32) (v5_4 : Int32) (r32_5 : Int32) (v7_7 : Int32) : Nat → Int32 → Int32 → (Nat → Int32) → Option (Int32 × (Nat → Int32))
  | 0, _, _, _ => none
  | n+1, x8_9, x9_10, ra_11 =>
  if ((3 * v5_4) + 3) ≤ x9_10 then some (x8_9, ra_11) else Option.bind (f_X5_targets rb rg ro (f_X8_cellOf st x9_10) (f_X8_ageOf st x9_10) r32_5 v7_7) (fun r87_13 => f_X5_list_L95 (f_X5_list_L59 rb rg ro rn st sa v5_4 r32_5 v7_7 n) rn sa x9_10 100 x8_9 r87_13 0 ra_11)
def f_X5_list (rb : Int32) (rg : Int32) (ro : Int32) (ra : (Nat → Int32)) (rn : Nat) (st : Int64) (sa : Int32) : Option (Int32 × (Nat → Int32)) :=
  if sa < 0 then some (0, ra) else if (f_X8_isUp st 0) = 0 then some (0, ra) else if (f_X8_isUp st 3) = 0 then some (0, ra) else jlet (f_X8_turnOf st) (fun v5_4 => Option.bind (f_X8_cellsOf st v5_4) (fun r32_5 => Option.bind (f_X8_cellsOf st (1 - v5_4)) (fun r44_6 => jlet (r32_5 ||| r44_6) (fun v7_7 => jlet (3 * v5_4) (fun v9_8 => f_X5_list_L59 rb rg ro rn st sa v5_4 r32_5 v7_7 100 0 v9_8 ra)))))
abbrev rm_X5_list : Room := { frames := 2, cells := 0, slots := 0, locals := 55 }
set_option maxHeartbeats 4000000 in
set_option maxRecDepth 100000 in
theorem k_X5_list (G : gT) (l : Launch) (ru : Nat) (rw : Nat) (rb : Int32) (rg : Int32) (ro : Int32) (ra : (Nat → Int32)) (rn : Nat) (st : Int64) (sa : Int32) (r : Int32 × (Nat → Int32)) (hF : f_X5_list rb rg ro ra rn st sa = some r) : HM G l yX5_list (.code yX5_list cX5_list 13 (some .int) :: UW) rm_X5_list 0 0 [.ref ru, .long st, .ref rw, .int sa] [(ru, .inr (5, [.int rb, .int rg, .int ro])), (rw, .inl (gI G, rn, .inl ra))] (some (.int r.1)) [(ru, .inr (5, [.int rb, .int rg, .int ro])), (rw, .inl (gI G, rn, .inl r.2))] := by
  refine HM.ofW (by decide) (Nat.le_of_ble_eq_true rfl) ?_
  intro p e s m args below meth c A post hpost hC hP hD hS ls hl
  obtain ⟨hx, hb, hr, hml, hown, hts, hlk, hE, hA⟩ := hC
  have hl : lv_has ls 13 [(0, .ref ru), (1, .long st), (3, .ref rw), (4, .int sa)] := hl
  unfold f_X5_list at hF
  refine lv_iload hx hb dX5_list_0 (lv_at hl 3 rfl) ?_
  refine lv_if_lt (tgt := 21) hx hb dX5_list_2 (by decide) (fun c_1 => ?_) (fun c_1 => ?_)
  · have hF := ifp hF c_1
    refine lv_iconst (v := 0) hx hb dX5_list_21 (by decide) ?_
    have hF := Option.some.inj hF
    subst hF
    exact hm_iret hx hb hr hlk hP hD hS hpost dX5_list_22
  · have hF := ifn hF c_1
    refine lv_lload_n hx hb dX5_list_5 rfl (lv_at hl 1 rfl) ?_
    refine lv_iconst (v := 0) hx hb dX5_list_6 (by decide) ?_
    refine hm_S (wn := [(ru, .inr (5, [.int rb, .int rg, .int ro])), (rw, .inl (gI G, rn, .inl ra))]) (wr := [(ru, .inr (5, [.int rb, .int rg, .int ro])), (rw, .inl (gI G, rn, .inl ra))]) (rest := []) (sn := [.int (f_X8_isUp st 0)]) hx hb hml hown hts hE hA (k_X8_isUp G l st 0 _ rfl) sm_X8_isUp mw_364 ⟨rfl, rfl, Nat.le_of_ble_eq_true rfl, Nat.le_of_ble_eq_true rfl⟩ hP hD hS [] [0, 1] [0, 1] rfl rfl rfl (by decide) hl.1 rfl rfl (Nat.le_of_ble_eq_true rfl) dX5_list_7 ⟨Nat.le_of_ble_eq_true rfl, Nat.le_of_ble_eq_true rfl⟩ (fun H locs hP hD hS => ?_)
    refine lv_if_eq (tgt := 21) hx hb dX5_list_10 (by decide) (fun c_2 => ?_) (fun c_2 => ?_)
    · have hF := ifp hF c_2
      refine lv_iconst (v := 0) hx hb dX5_list_21 (by decide) ?_
      have hF := Option.some.inj hF
      subst hF
      exact hm_iret hx hb hr hlk hP hD hS hpost dX5_list_22
    · have hF := ifn hF c_2
      refine lv_lload_n hx hb dX5_list_13 rfl (lv_at hl 1 rfl) ?_
      refine lv_iconst (v := 3) hx hb dX5_list_14 (by decide) ?_
      refine hm_S (wn := [(ru, .inr (5, [.int rb, .int rg, .int ro])), (rw, .inl (gI G, rn, .inl ra))]) (wr := [(ru, .inr (5, [.int rb, .int rg, .int ro])), (rw, .inl (gI G, rn, .inl ra))]) (rest := []) (sn := [.int (f_X8_isUp st 3)]) hx hb hml hown hts hE hA (k_X8_isUp G l st 3 _ rfl) sm_X8_isUp mw_364 ⟨rfl, rfl, Nat.le_of_ble_eq_true rfl, Nat.le_of_ble_eq_true rfl⟩ hP hD hS [] [0, 1] [0, 1] rfl rfl rfl (by decide) hl.1 rfl rfl (Nat.le_of_ble_eq_true rfl) dX5_list_15 ⟨Nat.le_of_ble_eq_true rfl, Nat.le_of_ble_eq_true rfl⟩ (fun H locs hP hD hS => ?_)
      refine lv_if_ne (tgt := 23) hx hb dX5_list_18 (by decide) (fun c_3 => ?_) (fun c_3 => ?_)
      · have hF := ifn hF c_3
        refine lv_lload_n hx hb dX5_list_23 rfl (lv_at hl 1 rfl) ?_
        refine hm_S (wn := [(ru, .inr (5, [.int rb, .int rg, .int ro])), (rw, .inl (gI G, rn, .inl ra))]) (wr := [(ru, .inr (5, [.int rb, .int rg, .int ro])), (rw, .inl (gI G, rn, .inl ra))]) (rest := []) (sn := [.int (f_X8_turnOf st)]) hx hb hml hown hts hE hA (k_X8_turnOf G l st _ rfl) sm_X8_turnOf mw_368 ⟨rfl, rfl, Nat.le_of_ble_eq_true rfl, Nat.le_of_ble_eq_true rfl⟩ hP hD hS [] [0, 1] [0, 1] rfl rfl rfl (by decide) hl.1 rfl rfl (Nat.le_of_ble_eq_true rfl) dX5_list_24 ⟨Nat.le_of_ble_eq_true rfl, Nat.le_of_ble_eq_true rfl⟩ (fun H locs hP hD hS => ?_)
        refine lv_topi (fun v5_4 ev5_4 => ?_)
        have hF := jl hF ev5_4
        refine lv_istore (lv' := [(5, .int v5_4), (0, .ref ru), (1, .long st), (3, .ref rw), (4, .int sa)]) hx hb dX5_list_27 hl (by decide) rfl (fun ls hl => ?_)
        refine lv_lload_n hx hb dX5_list_29 rfl (lv_at hl 2 rfl) ?_
        refine lv_iload hx hb dX5_list_30 (lv_at hl 0 rfl) ?_
        obtain ⟨r32_5, hr32_5, hF⟩ := bnd hF
        refine hm_S (wn := [(ru, .inr (5, [.int rb, .int rg, .int ro])), (rw, .inl (gI G, rn, .inl ra))]) (wr := [(ru, .inr (5, [.int rb, .int rg, .int ro])), (rw, .inl (gI G, rn, .inl ra))]) (rest := []) (sn := [.int r32_5]) hx hb hml hown hts hE hA (k_X8_cellsOf G l st v5_4 r32_5 hr32_5) sm_X8_cellsOf mw_373 ⟨rfl, rfl, Nat.le_of_ble_eq_true rfl, Nat.le_of_ble_eq_true rfl⟩ hP hD hS [] [0, 1] [0, 1] rfl rfl rfl (by decide) hl.1 rfl rfl (Nat.le_of_ble_eq_true rfl) dX5_list_32 ⟨Nat.le_of_ble_eq_true rfl, Nat.le_of_ble_eq_true rfl⟩ (fun H locs hP hD hS => ?_)
        refine lv_istore (lv' := [(6, .int r32_5), (5, .int v5_4), (0, .ref ru), (1, .long st), (3, .ref rw), (4, .int sa)]) hx hb dX5_list_35 hl (by decide) rfl (fun ls hl => ?_)
        refine lv_iload hx hb dX5_list_37 (lv_at hl 0 rfl) ?_
        refine lv_lload_n hx hb dX5_list_39 rfl (lv_at hl 3 rfl) ?_
        refine lv_iconst (v := 1) hx hb dX5_list_40 (by decide) ?_
        refine lv_iload hx hb dX5_list_41 (lv_at hl 1 rfl) ?_
        refine lv_isub hx hb dX5_list_43 ?_
        obtain ⟨r44_6, hr44_6, hF⟩ := bnd hF
        refine hm_S (wn := [(ru, .inr (5, [.int rb, .int rg, .int ro])), (rw, .inl (gI G, rn, .inl ra))]) (wr := [(ru, .inr (5, [.int rb, .int rg, .int ro])), (rw, .inl (gI G, rn, .inl ra))]) (rest := [.int r32_5]) (sn := [.int r44_6, .int r32_5]) hx hb hml hown hts hE hA (k_X8_cellsOf G l st (1 - v5_4) r44_6 hr44_6) sm_X8_cellsOf mw_373 ⟨rfl, rfl, Nat.le_of_ble_eq_true rfl, Nat.le_of_ble_eq_true rfl⟩ hP hD hS [] [0, 1] [0, 1] rfl rfl rfl (by decide) hl.1 rfl rfl (Nat.le_of_ble_eq_true rfl) dX5_list_44 ⟨Nat.le_of_ble_eq_true rfl, Nat.le_of_ble_eq_true rfl⟩ (fun H locs hP hD hS => ?_)
        refine lv_ior hx hb dX5_list_47 ?_
        refine lv_topi (fun v7_7 ev7_7 => ?_)
        have hF := jl hF ev7_7
        refine lv_istore (lv' := [(7, .int v7_7), (6, .int r32_5), (5, .int v5_4), (0, .ref ru), (1, .long st), (3, .ref rw), (4, .int sa)]) hx hb dX5_list_48 hl (by decide) rfl (fun ls hl => ?_)
        refine lv_iconst (v := 0) hx hb dX5_list_50 (by decide) ?_
        refine lv_istore (lv' := [(8, .int 0), (7, .int v7_7), (6, .int r32_5), (5, .int v5_4), (0, .ref ru), (1, .long st), (3, .ref rw), (4, .int sa)]) hx hb dX5_list_51 hl (by decide) rfl (fun ls hl => ?_)
        refine lv_iconst (v := 3) hx hb dX5_list_53 (by decide) ?_
        refine lv_iload hx hb dX5_list_54 (lv_at hl 3 rfl) ?_
        refine lv_imul hx hb dX5_list_56 ?_
        refine lv_topi (fun v9_8 ev9_8 => ?_)
        have hF := jl hF ev9_8
        refine lv_istore (lv' := [(9, .int v9_8), (8, .int 0), (7, .int v7_7), (6, .int r32_5), (5, .int v5_4), (0, .ref ru), (1, .long st), (3, .ref rw), (4, .int sa)]) hx hb dX5_list_57 hl (by decide) rfl (fun ls hl => ?_)
        have hL59 : ∀ (n59 : Nat) (x8_9 : Int32) (x9_10 : Int32) (ra_11 : (Nat → Int32)) (H : Heap) (locs : List Loc) (ls : Array Slot), f_X5_list_L59 rb rg ro rn st sa v5_4 r32_5 v7_7 n59 x8_9 x9_10 ra_11 = some r → va_P (gD G) vwCl [(ru, .inr (5, [.int rb, .int rg, .int ro])), (rw, .inl (gI G, rn, .inl ra_11))] H → va_D A [(ru, .inr (5, [.int rb, .int rg, .int ro])), (rw, .inl (gI G, rn, .inl ra_11))] → va_S A s.heap H locs → lv_has ls 13 [(0, .ref ru), (1, .long st), (3, .ref rw), (4, .int sa), (5, .int v5_4), (6, .int r32_5), (7, .int v7_7), (8, .int x8_9), (9, .int x9_10)] → W p l e rm_X5_list s m args below meth c H locs 0 0 (MQ below (HXq G post A) args s 0 0 A) (F0 m 59 ls []) := by
          intro n59
          induction n59 with
          | zero =>
            intro x8_9 x9_10 ra_11 H locs ls hF
            exact absurd hF (fun h => by cases h)
          | succ n59 ih59 =>
            intro x8_9 x9_10 ra_11 H locs ls hF hP hD hS hl
            unfold f_X5_list_L59 at hF
            refine lv_iload hx hb dX5_list_59 (lv_at hl 8 rfl) ?_
            refine lv_iconst (v := 3) hx hb dX5_list_61 (by decide) ?_
            refine lv_iload hx hb dX5_list_62 (lv_at hl 4 rfl) ?_
            refine lv_imul hx hb dX5_list_64 ?_
            refine lv_iconst (v := 3) hx hb dX5_list_65 (by decide) ?_
            refine lv_iadd hx hb dX5_list_66 ?_
            refine lv_icmp_ge (tgt := 166) hx hb dX5_list_67 (by decide) (fun c_12 => ?_) (fun c_12 => ?_)
            · have hF := ifp hF c_12
              refine lv_iload hx hb dX5_list_166 (lv_at hl 7 rfl) ?_
              have hF := Option.some.inj hF
              subst hF
              exact hm_iret hx hb hr hlk hP hD hS hpost dX5_list_168
            · have hF := ifn hF c_12
              refine lv_aload_n hx hb dX5_list_70 rfl (lv_at hl 0 rfl) ?_
              refine lv_lload_n hx hb dX5_list_71 rfl (lv_at hl 1 rfl) ?_
              refine lv_iload hx hb dX5_list_72 (lv_at hl 8 rfl) ?_
              refine hm_S (wn := [(ru, .inr (5, [.int rb, .int rg, .int ro])), (rw, .inl (gI G, rn, .inl ra_11))]) (wr := [(ru, .inr (5, [.int rb, .int rg, .int ro])), (rw, .inl (gI G, rn, .inl ra_11))]) (rest := [.ref ru]) (sn := [.int (f_X8_cellOf st x9_10), .ref ru]) hx hb hml hown hts hE hA (k_X8_cellOf G l st x9_10 _ rfl) sm_X8_cellOf mw_374 ⟨rfl, rfl, Nat.le_of_ble_eq_true rfl, Nat.le_of_ble_eq_true rfl⟩ hP hD hS [] [0, 1] [0, 1] rfl rfl rfl (by decide) hl.1 rfl rfl (Nat.le_of_ble_eq_true rfl) dX5_list_74 ⟨Nat.le_of_ble_eq_true rfl, Nat.le_of_ble_eq_true rfl⟩ (fun H locs hP hD hS => ?_)
              refine lv_lload_n hx hb dX5_list_77 rfl (lv_at hl 1 rfl) ?_
              refine lv_iload hx hb dX5_list_78 (lv_at hl 8 rfl) ?_
              refine hm_S (wn := [(ru, .inr (5, [.int rb, .int rg, .int ro])), (rw, .inl (gI G, rn, .inl ra_11))]) (wr := [(ru, .inr (5, [.int rb, .int rg, .int ro])), (rw, .inl (gI G, rn, .inl ra_11))]) (rest := [.int (f_X8_cellOf st x9_10), .ref ru]) (sn := [.int (f_X8_ageOf st x9_10), .int (f_X8_cellOf st x9_10), .ref ru]) hx hb hml hown hts hE hA (k_X8_ageOf G l st x9_10 _ rfl) sm_X8_ageOf mw_375 ⟨rfl, rfl, Nat.le_of_ble_eq_true rfl, Nat.le_of_ble_eq_true rfl⟩ hP hD hS [] [0, 1] [0, 1] rfl rfl rfl (by decide) hl.1 rfl rfl (Nat.le_of_ble_eq_true rfl) dX5_list_80 ⟨Nat.le_of_ble_eq_true rfl, Nat.le_of_ble_eq_true rfl⟩ (fun H locs hP hD hS => ?_)
              refine lv_iload hx hb dX5_list_83 (lv_at hl 5 rfl) ?_
              refine lv_iload hx hb dX5_list_85 (lv_at hl 6 rfl) ?_
              obtain ⟨r87_13, hr87_13, hF⟩ := bnd hF
              refine hm_V (wn := [(ru, .inr (5, [.int rb, .int rg, .int ro])), (rw, .inl (gI G, rn, .inl ra_11))]) (wr := [(rw, .inl (gI G, rn, .inl ra_11))]) (rest := []) (sn := [.int r87_13]) hx hb hml hown hts hE hA (k_X5_targets G l ru rb rg ro (f_X8_cellOf st x9_10) (f_X8_ageOf st x9_10) r32_5 v7_7 r87_13 hr87_13) sm_X5_targets mw_376 ⟨rfl, rfl, Nat.le_of_ble_eq_true rfl, Nat.le_of_ble_eq_true rfl⟩ hP hD hS 0 rfl rfl [0] [1] [1, 0] rfl rfl rfl (by decide) hl.1 rfl rfl (Nat.le_of_ble_eq_true rfl) dX5_list_87 ⟨Nat.le_of_ble_eq_true rfl, Nat.le_of_ble_eq_true rfl⟩ (fun H locs hP hD hS => ?_)
              refine lv_istore (lv' := [(10, .int r87_13), (0, .ref ru), (1, .long st), (3, .ref rw), (4, .int sa), (5, .int v5_4), (6, .int r32_5), (7, .int v7_7), (8, .int x8_9), (9, .int x9_10)]) hx hb dX5_list_90 hl (by decide) rfl (fun ls hl => ?_)
              refine lv_iconst (v := 0) hx hb dX5_list_92 (by decide) ?_
              refine lv_istore (lv' := [(11, .int 0), (10, .int r87_13), (0, .ref ru), (1, .long st), (3, .ref rw), (4, .int sa), (5, .int v5_4), (6, .int r32_5), (7, .int v7_7), (8, .int x8_9), (9, .int x9_10)]) hx hb dX5_list_93 hl (by decide) rfl (fun ls hl => ?_)
              have hL95 : ∀ (n95 : Nat) (x8_14 : Int32) (x10_15 : Int32) (x11_16 : Int32) (ra_17 : (Nat → Int32)) (H : Heap) (locs : List Loc) (ls : Array Slot), f_X5_list_L95 (f_X5_list_L59 rb rg ro rn st sa v5_4 r32_5 v7_7 n59) rn sa x9_10 n95 x8_14 x10_15 x11_16 ra_17 = some r → va_P (gD G) vwCl [(ru, .inr (5, [.int rb, .int rg, .int ro])), (rw, .inl (gI G, rn, .inl ra_17))] H → va_D A [(ru, .inr (5, [.int rb, .int rg, .int ro])), (rw, .inl (gI G, rn, .inl ra_17))] → va_S A s.heap H locs → lv_has ls 13 [(0, .ref ru), (1, .long st), (3, .ref rw), (4, .int sa), (5, .int v5_4), (6, .int r32_5), (7, .int v7_7), (8, .int x8_14), (9, .int x9_10), (10, .int x10_15), (11, .int x11_16)] → W p l e rm_X5_list s m args below meth c H locs 0 0 (MQ below (HXq G post A) args s 0 0 A) (F0 m 95 ls []) := by
                intro n95
                induction n95 with
                | zero =>
                  intro x8_14 x10_15 x11_16 ra_17 H locs ls hF
                  exact absurd hF (fun h => by cases h)
                | succ n95 ih95 =>
                  intro x8_14 x10_15 x11_16 ra_17 H locs ls hF hP hD hS hl
                  unfold f_X5_list_L95 at hF
                  refine lv_iload hx hb dX5_list_95 (lv_at hl 10 rfl) ?_
                  refine lv_bipush (v := 25) hx hb dX5_list_97 (by decide) ?_
                  have hB160 : ∀ (H : Heap) (locs : List Loc) (ls : Array Slot), f_X5_list_B160 (f_X5_list_L59 rb rg ro rn st sa v5_4 r32_5 v7_7 n59) x9_10 x8_14 ra_17 = some r → va_P (gD G) vwCl [(ru, .inr (5, [.int rb, .int rg, .int ro])), (rw, .inl (gI G, rn, .inl ra_17))] H → va_D A [(ru, .inr (5, [.int rb, .int rg, .int ro])), (rw, .inl (gI G, rn, .inl ra_17))] → va_S A s.heap H locs → lv_has ls 13 [(0, .ref ru), (1, .long st), (3, .ref rw), (4, .int sa), (5, .int v5_4), (6, .int r32_5), (7, .int v7_7), (8, .int x8_14), (9, .int x9_10)] → W p l e rm_X5_list s m args below meth c H locs 0 0 (MQ below (HXq G post A) args s 0 0 A) (F0 m 160 ls []) := by
                    intro H locs ls hF hP hD hS hl
                    unfold f_X5_list_B160 at hF
                    obtain ⟨v9_18, ev9_18⟩ : ∃ z : Int32, z = x9_10 + 1 := ⟨_, rfl⟩
                    have hF := jl hF ev9_18
                    refine lv_iinc (v := v9_18) (lv' := [(9, .int v9_18), (0, .ref ru), (1, .long st), (3, .ref rw), (4, .int sa), (5, .int v5_4), (6, .int r32_5), (7, .int v7_7), (8, .int x8_14)]) hx hb dX5_list_160 hl (k := 8) rfl (by rw [ev9_18]; rfl) (by decide) rfl (fun ls hl => ?_)
                    refine lv_goto (tgt := 59) hx hb dX5_list_163 (by decide) ?_
                    exact ih59 x8_14 v9_18 ra_17 _ _ _ hF hP hD hS (lv_sub hl [1, 2, 3, 4, 5, 6, 7, 8, 0] rfl)
                  refine lv_icmp_ge (tgt := 160) hx hb dX5_list_99 (by decide) (fun c_19 => ?_) (fun c_19 => ?_)
                  · have hF := ifp hF c_19
                    exact hB160 _ _ _ hF hP hD hS (lv_sub hl [0, 1, 2, 3, 4, 5, 6, 7, 8] rfl)
                  · have hF := ifn hF c_19
                    refine lv_iload hx hb dX5_list_102 (lv_at hl 9 rfl) ?_
                    refine lv_if_eq (tgt := 160) hx hb dX5_list_104 (by decide) (fun c_20 => ?_) (fun c_20 => ?_)
                    · have hF := ifp hF c_20
                      exact hB160 _ _ _ hF hP hD hS (lv_sub hl [0, 1, 2, 3, 4, 5, 6, 7, 8] rfl)
                    · have hF := ifn hF c_20
                      refine lv_iload hx hb dX5_list_107 (lv_at hl 3 rfl) ?_
                      refine lv_iload hx hb dX5_list_109 (lv_at hl 7 rfl) ?_
                      refine lv_iadd hx hb dX5_list_111 ?_
                      refine lv_aload_n hx hb dX5_list_112 rfl (lv_at hl 2 rfl) ?_
                      refine halen 0 (v := (Int32.ofNat rn)) hx hb hE hP 1 rfl rfl rfl dX5_list_113 ?_
                      refine lv_icmp_ge (tgt := 160) hx hb dX5_list_114 (by decide) (fun c_21 => ?_) (fun c_21 => ?_)
                      · have hF := ifp hF c_21
                        exact hB160 _ _ _ hF hP hD hS (lv_sub hl [0, 1, 2, 3, 4, 5, 6, 7, 8] rfl)
                      · have hF := ifn hF c_21
                        refine lv_iload hx hb dX5_list_117 (lv_at hl 9 rfl) ?_
                        refine lv_iload hx hb dX5_list_119 (lv_at hl 9 rfl) ?_
                        refine lv_ineg hx hb dX5_list_121 ?_
                        refine lv_iand hx hb dX5_list_122 ?_
                        refine lv_topi (fun v12_22 ev12_22 => ?_)
                        have hF := jl hF ev12_22
                        refine lv_istore (lv' := [(12, .int v12_22), (0, .ref ru), (1, .long st), (3, .ref rw), (4, .int sa), (5, .int v5_4), (6, .int r32_5), (7, .int v7_7), (8, .int x8_14), (9, .int x9_10), (10, .int x10_15), (11, .int x11_16)]) hx hb dX5_list_123 hl (by decide) rfl (fun ls hl => ?_)
                        refine lv_aload_n hx hb dX5_list_125 rfl (lv_at hl 3 rfl) ?_
                        refine lv_iload hx hb dX5_list_126 (lv_at hl 4 rfl) ?_
                        refine lv_iload hx hb dX5_list_128 (lv_at hl 8 rfl) ?_
                        refine lv_iadd hx hb dX5_list_130 ?_
                        refine lv_iload hx hb dX5_list_131 (lv_at hl 9 rfl) ?_
                        refine lv_iconst (v := 5) hx hb dX5_list_133 (by decide) ?_
                        refine lv_ishl hx hb dX5_list_134 ?_
                        refine lv_iload hx hb dX5_list_135 (lv_at hl 0 rfl) ?_
                        refine lv_iconst (v := 1) hx hb dX5_list_137 (by decide) ?_
                        refine lv_isub hx hb dX5_list_138 ?_
                        refine hm_S (wn := [(ru, .inr (5, [.int rb, .int rg, .int ro])), (rw, .inl (gI G, rn, .inl ra_17))]) (wr := [(ru, .inr (5, [.int rb, .int rg, .int ro])), (rw, .inl (gI G, rn, .inl ra_17))]) (rest := [.int (jshl x9_10 5), .int (sa + x8_14), .ref rw]) (sn := [.int (f_J6_bitCount_0f7a4 (v12_22 - 1)), .int (jshl x9_10 5), .int (sa + x8_14), .ref rw]) hx hb hml hown hts hE hA (k_J6_bitCount_0f7a4 G l (v12_22 - 1) _ rfl) sm_J6_bitCount_0f7a4 mw_441 ⟨rfl, rfl, Nat.le_of_ble_eq_true rfl, Nat.le_of_ble_eq_true rfl⟩ hP hD hS [] [0, 1] [0, 1] rfl rfl rfl (by decide) hl.1 rfl rfl (Nat.le_of_ble_eq_true rfl) dX5_list_139 ⟨Nat.le_of_ble_eq_true rfl, Nat.le_of_ble_eq_true rfl⟩ (fun H locs hP hD hS => ?_)
                        refine lv_ior hx hb dX5_list_142 ?_
                        obtain ⟨hi_23, hF⟩ := inb hF
                        obtain ⟨a143_24, ea143_24⟩ : ∃ z : (Nat → Int32), z = upd ra_17 ((sa + x8_14)).toNatClampNeg ((jshl x9_10 5) ||| (f_J6_bitCount_0f7a4 (v12_22 - 1))) := ⟨_, rfl⟩
                        have hF := jl hF ea143_24
                        refine hiast hx hb hE hP hD hS 1 rfl hi_23 (wn := [(ru, .inr (5, [.int rb, .int rg, .int ro])), (rw, .inl (gI G, rn, .inl a143_24))]) (by rw [ea143_24]; rfl) dX5_list_143 (fun H locs hP hD hS => ?_)
                        obtain ⟨v8_25, ev8_25⟩ : ∃ z : Int32, z = x8_14 + 1 := ⟨_, rfl⟩
                        have hF := jl hF ev8_25
                        refine lv_iinc (v := v8_25) (lv' := [(8, .int v8_25), (12, .int v12_22), (0, .ref ru), (1, .long st), (3, .ref rw), (4, .int sa), (5, .int v5_4), (6, .int r32_5), (7, .int v7_7), (9, .int x9_10), (10, .int x10_15), (11, .int x11_16)]) hx hb dX5_list_144 hl (k := 8) rfl (by rw [ev8_25]; rfl) (by decide) rfl (fun ls hl => ?_)
                        refine lv_iload hx hb dX5_list_147 (lv_at hl 10 rfl) ?_
                        refine lv_iload hx hb dX5_list_149 (lv_at hl 1 rfl) ?_
                        refine lv_ixor hx hb dX5_list_151 ?_
                        refine lv_topi (fun v10_26 ev10_26 => ?_)
                        have hF := jl hF ev10_26
                        refine lv_istore (lv' := [(10, .int v10_26), (8, .int v8_25), (12, .int v12_22), (0, .ref ru), (1, .long st), (3, .ref rw), (4, .int sa), (5, .int v5_4), (6, .int r32_5), (7, .int v7_7), (9, .int x9_10), (11, .int x11_16)]) hx hb dX5_list_152 hl (by decide) rfl (fun ls hl => ?_)
                        obtain ⟨v11_27, ev11_27⟩ : ∃ z : Int32, z = x11_16 + 1 := ⟨_, rfl⟩
                        have hF := jl hF ev11_27
                        refine lv_iinc (v := v11_27) (lv' := [(11, .int v11_27), (10, .int v10_26), (8, .int v8_25), (12, .int v12_22), (0, .ref ru), (1, .long st), (3, .ref rw), (4, .int sa), (5, .int v5_4), (6, .int r32_5), (7, .int v7_7), (9, .int x9_10)]) hx hb dX5_list_154 hl (k := 11) rfl (by rw [ev11_27]; rfl) (by decide) rfl (fun ls hl => ?_)
                        refine lv_goto (tgt := 95) hx hb dX5_list_157 (by decide) ?_
                        exact ih95 v8_25 v10_26 v11_27 a143_24 _ _ _ hF hP hD hS (lv_sub hl [4, 5, 6, 7, 8, 9, 10, 2, 11, 1, 0] rfl)
              exact hL95 _ x8_9 r87_13 0 ra_11 _ _ _ hF hP hD hS (lv_sub hl [2, 3, 4, 5, 6, 7, 8, 9, 10, 1, 0] rfl)
        exact hL59 _ 0 v9_8 ra _ _ _ hF hP hD hS (lv_sub hl [5, 6, 7, 8, 4, 3, 2, 1, 0] rfl)
      · have hF := ifp hF c_3
        refine lv_iconst (v := 0) hx hb dX5_list_21 (by decide) ?_
        have hF := Option.some.inj hF
        subst hF
        exact hm_iret hx hb hr hlk hP hD hS hpost dX5_list_22
