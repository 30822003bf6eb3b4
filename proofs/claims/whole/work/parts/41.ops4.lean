/-! how many stand; mirror; draws -/
def upN (f : Nat → Nat) (m : Nat) : Nat := if f m % 32 = 31 then 0 else 1
theorem ob1_mod (acc : Int32) (d : Nat) : ob1 acc d = ob1 acc (d % 32) := by unfold ob1; rw [Nat.mod_mod]
theorem bc_side {f : Nat → Nat} {t s : Nat} (h : Wf f t) (hs : s < 2) : f_J6_bitCount_0f7a4 (cellsS f s) = nI (upN f (3 * s) + upN f (3 * s + 1) + upN f (3 * s + 2)) := by
  have key : ∀ m, m < 6 → ∃ c, c < 26 ∧ f m % 32 = c26 c ∧ upN f m = up1 c ∧ (c = 25 ↔ f m % 32 = 31) := by
    intro m hm
    by_cases hu : f m % 32 = 31
    · exact ⟨25, by omega, by rw [hu]; rfl, by unfold upN up1; rw [if_pos hu]; rfl, by simp [hu]⟩
    · have hcl := h.cell hm hu
      refine ⟨f m % 32, by omega, ?_, ?_, ?_⟩
      · unfold c26; rw [if_neg (by omega)]
      · unfold upN up1; rw [if_neg hu, if_neg (by omega)]
      · omega
  have ne : ∀ m, m < 6 → ∀ k, k < 6 → m ≠ k → f m % 32 ≠ 31 → f m % 32 ≠ f k % 32 := fun m hm k hk hne hu e => hne (h.2.2 m hm k hk (fun q => hu (by rw [q])) e)
  obtain ⟨a, ha, ea, ua, xa⟩ := key (3 * s) (by omega)
  obtain ⟨b, hb, eb, ub, xb⟩ := key (3 * s + 1) (by omega)
  obtain ⟨c, hc, ec, uc, xc⟩ := key (3 * s + 2) (by omega)
  have e25 : ∀ x, x < 26 → ∀ y, y < 26 → x = y → c26 x = c26 y := fun x _ y _ e => by rw [e]
  have nab : (a == b && a != 25) = false := by
    cases hq : (a == b && a != 25) with
    | false => rfl
    | true =>
      simp only [Bool.and_eq_true, beq_iff_eq, bne_iff_ne] at hq
      exact absurd (by rw [ea, eb, hq.1]) (ne (3 * s) (by omega) (3 * s + 1) (by omega) (by omega) (fun q => hq.2 (xa.mpr q)))
  have nac : (a == c && a != 25) = false := by
    cases hq : (a == c && a != 25) with
    | false => rfl
    | true =>
      simp only [Bool.and_eq_true, beq_iff_eq, bne_iff_ne] at hq
      exact absurd (by rw [ea, ec, hq.1]) (ne (3 * s) (by omega) (3 * s + 2) (by omega) (by omega) (fun q => hq.2 (xa.mpr q)))
  have nbc : (b == c && b != 25) = false := by
    cases hq : (b == c && b != 25) with
    | false => rfl
    | true =>
      simp only [Bool.and_eq_true, beq_iff_eq, bne_iff_ne] at hq
      exact absurd (by rw [eb, ec, hq.1]) (ne (3 * s + 1) (by omega) (3 * s + 2) (by omega) (by omega) (fun q => hq.2 (xb.mpr q)))
  have h1 := List.all_eq_true.mp bc_t a (List.mem_range.mpr ha)
  have h2 := List.all_eq_true.mp h1 b (List.mem_range.mpr hb)
  rw [nab, Bool.false_or] at h2
  have h3 := List.all_eq_true.mp h2 c (List.mem_range.mpr hc)
  rw [nac, nbc, Bool.false_or, Bool.false_or] at h3
  have h4 := eq_of_beq h3
  unfold cellsS
  rw [ob1_mod _ (f (3 * s)), ob1_mod _ (f (3 * s + 1)), ob1_mod _ (f (3 * s + 2)), ea, eb, ec, h4, ua, ub, uc]
theorem countMen_c {f : Nat → Nat} {t : Nat} (h : Wf f t) : f_X8_countMen (enc f t) = some (nI (upN f 0 + upN f 1 + upN f 2 + upN f 3 + upN f 4 + upN f 5)) := by
  unfold f_X8_countMen
  rw [show (0 : Int32) = nI 0 from rfl, show (1 : Int32) = nI 1 from rfl, cellsOf_c h.dig (by omega), cellsOf_c h.dig (by omega), Option.bind_some, Option.bind_some, bc_side h (by omega), bc_side h (by omega), nI_add]
  congr 2
  show upN f 0 + upN f 1 + upN f 2 + (upN f 3 + upN f 4 + upN f 5) = _
  omega
theorem standing_m {f : Nat → Nat} {t : Nat} (h : Dig f t) : f_X10_standing (enc f t) = some (nI (upN f 0 + upN f 1 + upN f 2 + upN f 3 + upN f 4 + upN f 5)) := by
  have st : ∀ n m x, m < 6 → f_X10_standing_L4 (enc f t) (n + 1) (nI x) (nI m) = f_X10_standing_L4 (enc f t) n (nI (x + upN f m)) (nI (m + 1)) := by
    intro n m x hm
    rw [f_X10_standing_L4, if_neg (show ¬ (6 : Int32) ≤ nI m from nI_ge (b := 6) hm (by omega))]
    simp only [cell31_m h hm]
    unfold f_X10_standing_B26 jlet upN
    dsimp only
    rw [nI_1]
    by_cases hu : f m % 32 = 31
    · rw [if_pos hu, if_pos hu, show (0 : Int32) = nI 0 from rfl, nI_add]
    · rw [if_neg hu, if_neg hu, nI_1]
  have fin : ∀ n x, f_X10_standing_L4 (enc f t) (n + 1) x (nI 6) = some x := by
    intro n x
    rw [f_X10_standing_L4, if_pos (show (6 : Int32) ≤ nI 6 from nI_le (a := 6) (b := 6) (by omega) (by omega))]
  unfold f_X10_standing
  show f_X10_standing_L4 (enc f t) (99 + 1) (nI 0) (nI 0) = _
  rw [st 99 0 _ (by omega), st 98 1 _ (by omega), st 97 2 _ (by omega), st 96 3 _ (by omega), st 95 4 _ (by omega), st 94 5 _ (by omega), fin 93]
  simp only [Nat.zero_add]
theorem op_mirror {f : Nat → Nat} {t : Nat} (h : Wf f t) (wy : Int32) : ∃ r f2, Wf f2 t ∧ f_X9_mirror (enc f t) wy = some (r, enc f2 t) ∧ f_X10_mirror (enc f t) wy = some (r, enc f2 t) := by
  unfold f_X9_mirror f_X10_mirror
  rcases inN wy (a := 1) (b := 3) (by omega) (by omega) with hout | ⟨j, h1, h2, rfl⟩
  · have e : f_X10_in wy.toInt64 1 3 = 0 := in_out (a := 1) (b := 3) hout
    rw [e, if_pos rfl]
    refine ⟨-2, f, h, ?_, rfl⟩
    rcases hout with h3 | h3
    · rw [if_pos (show wy < 1 from h3)]
    · by_cases h4 : wy < 1
      · rw [if_pos h4]
      · rw [if_neg h4, if_neg (show ¬ wy ≤ 3 from Int32.not_le.mpr h3)]
  · have e : f_X10_in (nI j).toInt64 1 3 = 1 := in_in (a := 1) (b := 3) h1 h2 (by omega)
    have hw := mir_wf h (w := j) (by omega)
    rw [e, if_neg (show ¬ (1 : Int32) = 0 by decide), if_neg (show ¬ nI j < (1 : Int32) from nI_nlt (b := 1) h1 (by omega)), if_pos (show nI j ≤ (3 : Int32) from nI_le (b := 3) h2 (by omega)), mirrored_c h (by omega), mirrored_m h (by omega), Option.bind_some, Option.bind_some, countMen_c hw, standing_m hw.dig]
    exact ⟨_, _, hw, rfl, rfl⟩
/-! draws -/
theorem lrem_x {x : Nat} (hx : x < 65537) : jrem (75 * nI x + 74) 65537 = nI ((75 * x + 74) % 65537) ∧ (jlrem (75 * (nI x).toInt64 + 74) 65537).toInt32 = nI ((75 * x + 74) % 65537) := by
  have h1 : (75 : Int32) * nI x + 74 = nI (75 * x + 74) := by rw [show (75 : Int32) = nI 75 from rfl, show (74 : Int32) = nI 74 from rfl, nI_mul, nI_add]
  have h2 : (75 : Int64) * (nI x).toInt64 + 74 = lN (75 * x + 74) := by rw [nI_l (by omega), show (75 : Int64) = lN 75 from rfl, show (74 : Int64) = lN 74 from rfl, lN_mul, lN_add]
  have hm : 75 * x + 74 - (75 * x + 74) / 65537 * 65537 = (75 * x + 74) % 65537 := by omega
  constructor
  · unfold jrem
    rw [h1]
    have hd : nI (75 * x + 74) / 65537 = nI ((75 * x + 74) / 65537) := by
      apply Int32.toInt_inj.mp
      rw [Int32.toInt_div_of_ne_right _ _ (by decide), nI_toInt (by omega), nI_toInt (by omega)]
      rfl
    rw [hd, show (65537 : Int32) = nI 65537 from rfl, nI_mul, nI_sub (by omega), hm]
  · unfold jlrem
    rw [h2]
    have hd : lN (75 * x + 74) / 65537 = lN ((75 * x + 74) / 65537) := by
      apply Int64.toInt_inj.mp
      rw [Int64.toInt_div_of_ne_right _ _ (by decide), lN_toInt (by omega), lN_toInt (by omega)]
      rfl
    rw [hd, show (65537 : Int64) = lN 65537 from rfl, lN_mul, lN_sub (by omega), lN_i, hm]
theorem jrem_nI {x n : Nat} (hx : x < 2 ^ 31) (hn : 0 < n) (hn2 : n < 2 ^ 31) : jrem (nI x) (nI n) = nI (x % n) := by
  unfold jrem
  have hd : nI x / nI n = nI (x / n) := by
    apply Int32.toInt_inj.mp
    have hne : nI n ≠ 0 := nI_ne0 hn hn2
    have h1 : x / n ≤ x := Nat.div_le_self _ _
    rw [Int32.toInt_div_of_ne_right _ _ (by
      intro e
      have := congrArg Int32.toInt e
      rw [nI_toInt hn2] at this
      have h2 : (-1 : Int32).toInt = -1 := by decide
      rw [h2] at this
      omega), nI_toInt hx, nI_toInt hn2, nI_toInt (by omega)]
    rfl
  have h2 : x / n * n ≤ x := Nat.div_mul_le_self _ _
  rw [hd, nI_mul, nI_sub h2]
  congr 1
  have := Nat.div_add_mod x n
  have h3 : n * (x / n) = x / n * n := Nat.mul_comm _ _
  omega
theorem brS_le (b g o : Nat) (f : Nat → Nat) {t : Nat} (ht : t < 2) : brS b g o f t ≤ 3 := by unfold brS; repeat' split <;> try omega
theorem drawn_loop {b g o : Nat} (hL : Lw b g o) (wh : Int32) : ∀ (n k : Nat) (f : Nat → Nat) (t x : Nat) (ra A B : Nat → Int32) (my : Int32), Wf f t → x < 65537 → k ≤ 60 → 60 - k < n → ∃ r ra2 q, f_X9_drawn_L37 (nI b) (nI g) (nI o) wh n (enc f t) (nI x) (nI k) (nI k) ra = some (r, ra2) ∧ f_X10_drawn_L36 (nI b) (nI g) (nI o) wh n (enc f t) (nI x) (nI k) my A B = some (r, q) := by
  intro n
  induction n with
  | zero => intro k f t x ra A B my _ _ _ h; omega
  | succ n ih =>
    intro k f t x ra A B my h hx hk hn
    have hend : ∀ ra my A B, ∃ r ra2 q, f_X9_drawn_B126 (nI b) (nI g) (nI o) wh (enc f t) (nI k) ra = some (r, ra2) ∧ f_X10_drawn_B108 (nI b) (nI g) (nI o) wh (enc f t) (nI k) my A B = some (r, q) := by
      intro ra my A B
      unfold f_X9_drawn_B126 f_X10_drawn_B108
      by_cases hw : wh = 0
      · rw [if_pos hw, if_pos hw, ending_c hL h, broughtBy_m hL h]; exact ⟨_, _, (my, A, B), rfl, rfl⟩
      · rw [if_neg hw, if_neg hw]; exact ⟨_, _, (my, A, B), rfl, rfl⟩
    rw [f_X9_drawn_L37, f_X10_drawn_L36]
    by_cases h60 : k = 60
    · subst h60
      have hc : (60 : Int32) ≤ nI 60 := nI_le (a := 60) (b := 60) (by omega) (by omega)
      rw [if_pos hc, if_pos hc]
      exact hend ra my A B
    have hc : ¬ (60 : Int32) ≤ nI k := nI_ge (b := 60) (by omega) (by omega)
    have hlen := mvs_len (b := b) (g := g) (o := o) h
    have hlist : f_X5_list (nI b) (nI g) (nI o) ra 24 (enc f t) 0 = some (nI (mvs b g o f t).length, wrL ra 0 ((mvs b g o f t).map cod)) := list_c hL h (sa := 0) (by omega) (by omega)
    rw [if_neg hc, if_neg hc, hlist, broughtBy_m hL h, Option.bind_some, Option.bind_some, findMoves_m hL h, Option.bind_some]
    have hb3 := brS_le b g o f h.1
    unfold jlet
    dsimp only
    simp only [show (nI (brS b g o f t) = 0) = (brS b g o f t = 0) from nI_eq_lit (b := 0) (by omega) (by omega)]
    by_cases h0 : brS b g o f t = 0
    · rw [if_pos h0]
      have hpos : 0 < (mvs b g o f t).length := by
        rcases Nat.eq_zero_or_pos (mvs b g o f t).length with e | e
        · exact absurd h0 (mvs_nil.mp (List.eq_nil_of_length_eq_zero e))
        · exact e
      have hne : ¬ nI (mvs b g o f t).length = 0 := nI_ne0 hpos (by omega)
      obtain ⟨l1, l2⟩ := lrem_x hx
      have hxm : (75 * x + 74) % 65537 < 65537 := Nat.mod_lt _ (by omega)
      generalize hy : (75 * x + 74) % 65537 = y at l1 l2 hxm
      rw [if_pos (show (0 : Int32) < nI (mvs b g o f t).length from nI_lt (a := 0) hpos (by omega)), if_neg hne, if_neg hne, l1, l2, jrem_nI (by omega) hpos (by omega)]
      have hj : y % (mvs b g o f t).length < (mvs b g o f t).length := Nat.mod_lt _ hpos
      generalize hjj : y % (mvs b g o f t).length = j at hj
      have hin : ¬ (nI j < 0 ∨ 75 ≤ (nI j).toNatClampNeg) := nI_in (by omega) (by omega)
      have hin24 : ¬ (nI j < 0 ∨ 24 ≤ (nI j).toNatClampNeg) := nI_in (by omega) (by omega)
      rw [if_neg (nI_pos (n := j) (by omega)), if_pos (show nI j < (24 : Int32) from nI_lt (b := 24) (by omega) (by omega)), if_neg hin24, if_neg hin, if_neg hin, nI_clamp (by omega)]
      have hmem := mvs_mem h.1 (show ((mvs b g o f t)[j].1, (mvs b g o f t)[j].2) ∈ mvs b g o f t from List.getElem_mem hj)
      have e1 : wrL ra 0 ((mvs b g o f t).map cod) j = cod (mvs b g o f t)[j] := by
        have := wrL_map (ra := ra) (L := mvs b g o f t) (g := cod) (p := 0) (i := j) hj
        rwa [Nat.zero_add] at this
      have e2 : wrL A 0 ((mvs b g o f t).map (fun q => nI q.1)) j = nI (mvs b g o f t)[j].1 := by
        have := wrL_map (ra := A) (L := mvs b g o f t) (g := fun q => nI q.1) (p := 0) (i := j) hj
        rwa [Nat.zero_add] at this
      have e3 : wrL B 0 ((mvs b g o f t).map (fun q => nI q.2)) j = nI (mvs b g o f t)[j].2 := by
        have := wrL_map (ra := B) (L := mvs b g o f t) (g := fun q => nI q.2) (p := 0) (i := j) hj
        rwa [Nat.zero_add] at this
      rw [e1, e2, e3]
      unfold cod
      have hcf := can_facts hL h hmem.1 hmem.2.2.1 hmem.2.2.2.1
      rw [after_c hL h hmem.1 hmem.2.2.1 hmem.2.2.2.1, gone_m hL h hmem.1 hmem.2.2.1 hmem.2.2.2.1, Option.bind_some, Option.bind_some, nI_1]
      exact ih (k + 1) _ _ y _ _ _ _ (ch_wf h hmem.1 hmem.2.2.1 hcf.2.1) hxm (by omega) (by omega)
    · rw [if_neg h0]
      have hz : (mvs b g o f t).length = 0 := by rw [mvs_nil.mpr h0]; rfl
      rw [if_neg (by rw [hz]; decide)]
      exact hend _ _ _ _
theorem op_drawn {b g o : Nat} {f : Nat → Nat} {t : Nat} (hL : Lw b g o) (h : Wf f t) (se wh : Int32) (ra A B : Nat → Int32) (my : Int32) : ∃ r ra2 q, f_X9_drawn (enc f t) (nI b) (nI g) (nI o) ra se wh = some (r, ra2) ∧ f_X10_drawn (enc f t) (nI b) (nI g) (nI o) my A B se wh = some (r, q) := by
  unfold f_X9_drawn f_X10_drawn
  rcases inN se (a := 0) (b := 9999) (by omega) (by omega) with hout | ⟨j, h1, h2, rfl⟩
  · have e : f_X10_in se.toInt64 0 9999 = 0 := in_out (a := 0) (b := 9999) hout
    rw [e, if_pos rfl]
    refine ⟨-2, ra, (my, A, B), ?_, rfl⟩
    rcases hout with h3 | h3
    · rw [if_pos (show se < 0 from h3)]
    · by_cases h4 : se < 0
      · rw [if_pos h4]
      · rw [if_neg h4, if_pos (show (9999 : Int32) < se from h3)]
  · have e : f_X10_in (nI j).toInt64 0 9999 = 1 := in_in (a := 0) (b := 9999) h1 h2 (by omega)
    rw [e, if_neg (show ¬ (1 : Int32) = 0 by decide), if_neg (nI_pos (n := j) (by omega)), if_neg (show ¬ (9999 : Int32) < nI j from nI_nlt (a := 9999) h2 (by omega)), in01]
    unfold f_X9_drawn_B23
    have L := drawn_loop hL wh 100 0 f t j ra A B my h (by omega) (by omega) (by omega)
    by_cases w0 : wh = 0
    · rw [if_pos w0]
      have : ¬ b2i (decide (wh = 0) || decide (wh = 1)) = 0 := by simp [w0]; decide
      rw [if_neg this]
      exact L
    · rw [if_neg w0]
      by_cases w1 : wh = 1
      · rw [if_pos w1]
        have : ¬ b2i (decide (wh = 0) || decide (wh = 1)) = 0 := by simp [w1]; decide
        rw [if_neg this]
        exact L
      · rw [if_neg w1]
        have : b2i (decide (wh = 0) || decide (wh = 1)) = 0 := by simp [w0, w1]; rfl
        rw [if_pos this]
        exact ⟨_, _, (my, A, B), rfl, rfl⟩
