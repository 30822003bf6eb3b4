def BkR (n : Nat) (bc : Int32) (bs : Nat → Int64) (bl br bp : Nat → Int32) (gs : Int32) (gb : Nat → Int64) (gm gv gr : Nat → Int32) : Prop := n ≤ 8 ∧ bc = nI n ∧ gs = nI n ∧ (∀ i, i < 8 → bs i = gb i) ∧ (∀ i, i < 8 → bl i = gm i) ∧ (∀ i, i < 8 → br i = gr i) ∧ (∀ i, i < 96 → bp i = gv i) ∧ (∀ i, i < 8 → ∃ l, l ≤ 12 ∧ bl i = nI l) ∧ ∀ i, i < 96 → ∃ v, v < 2500 ∧ bp i = nI v
theorem has_c {n j : Nat} (hn : n ≤ 8) (hj : j < n) : f_X0_has (nI n) (nI j) = 1 := by
  unfold f_X0_has
  rw [if_neg (nI_pos (by omega)), if_neg (nI_ge hj (by omega)), if_neg (show ¬ (8 : Int32) ≤ nI j from nI_ge (b := 8) (by omega) (by omega))]
theorem lengthOf_c {n j : Nat} (hn : n ≤ 8) (hj : j < n) (bl : Nat → Int32) : f_X0_lengthOf (nI n) bl (nI j) = some (bl j) := by
  unfold f_X0_lengthOf
  rw [has_c hn hj, if_neg (show ¬ (1 : Int32) = 0 by decide), if_neg (nI_in (by omega) (by omega)), nI_clamp (by omega)]
theorem bookBy_c {n j : Nat} (hn : n ≤ 8) (hj : j < n) (br : Nat → Int32) : f_X0_broughtBy (nI n) br (nI j) = some (br j) := by
  unfold f_X0_broughtBy
  rw [has_c hn hj, if_neg (show ¬ (1 : Int32) = 0 by decide), if_neg (nI_in (by omega) (by omega)), nI_clamp (by omega)]
theorem moveOf_c {n j d l : Nat} (hn : n ≤ 8) (hj : j < n) (bl bp : Nat → Int32) (hl : bl j = nI l) (h12 : l ≤ 12) (hd : d < 2 ^ 31) : f_X0_moveOf (nI n) bl bp (nI j) (nI d) = some (if l ≤ d then -6 else bp (12 * j + d)) := by
  unfold f_X0_moveOf
  rw [if_neg (nI_pos hd), lengthOf_c hn hj, Option.bind_some, hl]
  by_cases h : l ≤ d
  · rw [if_pos (nI_le h hd), if_pos h]
  · rw [if_neg (nI_ge (by omega) (by omega)), if_pos (show nI d < 12 from nI_lt (b := 12) (by omega) (by omega)), show (12 : Int32) = nI 12 from rfl, nI_mul, nI_add, if_neg (nI_in (by omega) (by omega)), nI_clamp (by omega), if_neg h, Nat.mul_comm j 12]
theorem inBk {n : Nat} (hn : n < 2 ^ 31) (ga : Int32) : (ga < 0 ∧ f_X10_in ga.toInt64 0 (nI n - 1).toInt64 = 0) ∨ ∃ j, j < 2 ^ 31 ∧ ga = nI j ∧ ((n ≤ j ∧ f_X10_in ga.toInt64 0 (nI n - 1).toInt64 = 0) ∨ (j < n ∧ f_X10_in ga.toInt64 0 (nI n - 1).toInt64 = 1)) := by
  have hin : f_X10_in ga.toInt64 0 (nI n - 1).toInt64 = b2i (decide ((0 : Int32) ≤ ga) && decide (ga ≤ nI n - 1)) := in3 ga 0 _
  rw [hin]
  rcases i32_cases ga with hneg | ⟨j, hj, rfl⟩
  · left
    refine ⟨hneg, ?_⟩
    have h0 : ¬ (0 : Int32) ≤ ga := Int32.not_le.mpr hneg
    simp [h0, b2i]
  · right
    refine ⟨j, hj, rfl, ?_⟩
    by_cases hjl : n ≤ j
    · left
      refine ⟨hjl, ?_⟩
      have h2 : ¬ nI j ≤ nI n - 1 := by
        by_cases hz : n = 0
        · rw [hz]
          intro h3
          have h4 : nI 0 - 1 < (0 : Int32) := by decide
          have h5 : nI j < 0 := Int32.lt_of_le_of_lt h3 h4
          exact nI_pos hj h5
        · rw [show (1 : Int32) = nI 1 from rfl, nI_sub (by omega)]
          exact nI_ge (by omega) hj
      simp [h2, b2i]
    · right
      refine ⟨by omega, ?_⟩
      have h0 : (0 : Int32) ≤ nI j := Int32.not_lt.mp (nI_pos hj)
      have h2 : nI j ≤ nI n - 1 := by
        rw [show (1 : Int32) = nI 1 from rfl, nI_sub (by omega)]
        exact nI_le (by omega) (by omega)
      simp [h0, h2, b2i]
theorem op_booked {n : Nat} {bc : Int32} {bs : Nat → Int64} {bl br bp : Nat → Int32} {gs : Int32} {gb : Nat → Int64} {gm gv gr : Nat → Int32} (h : BkR n bc bs bl br bp gs gb gm gv gr) (ga wh : Int32) : ∃ r, f_X9_booked bc bl br bp ga wh = some r ∧ f_X10_booked gs gm gv gr ga wh = some r := by
  obtain ⟨hn, rfl, rfl, h1, h2, h3, h4, h5, h6⟩ := h
  unfold f_X9_booked f_X10_booked
  rcases inBk (n := n) (by omega) ga with ⟨hneg, hi⟩ | ⟨j, hj, rfl, ⟨hjn, hi⟩ | ⟨hjn, hi⟩⟩
  · rw [if_pos hneg, hi, if_pos rfl]; exact ⟨_, rfl, rfl⟩
  · rw [if_neg (nI_pos hj), hi, if_pos (show (0 : Int32) = 0 from rfl), if_neg (show ¬ nI j < nI n from fun e => by rw [nI_ltI hj (by omega)] at e; omega)]; exact ⟨_, rfl, rfl⟩
  rw [if_neg (nI_pos hj), hi, if_neg (show ¬ (1 : Int32) = 0 by decide), if_pos (nI_lt hjn (by omega))]
  rw [lengthOf_c hn hjn, bookBy_c hn hjn, nI_clamp hj]
  simp only [if_neg (show ¬ (nI j < 0 ∨ 8 ≤ j) by intro e; rcases e with e | e; exact nI_pos hj e; omega), Option.bind_some]
  have hin : f_X10_in wh.toInt64 10 21 = b2i (decide ((10 : Int32) ≤ wh) && decide (wh ≤ 21)) := in3 wh 10 21
  by_cases w0 : wh = 0
  · subst w0
    rw [if_pos (show (0 : Int32) = 0 from rfl), if_pos (show f_X10_in (0 : Int32).toInt64 10 21 = 0 by decide +kernel), if_pos (show (0 : Int32) = 0 from rfl), h2 j (by omega)]
    exact ⟨_, rfl, rfl⟩
  by_cases w1 : wh = 1
  · subst w1
    rw [if_neg w0, if_pos (show (1 : Int32) = 1 from rfl), if_pos (show f_X10_in (1 : Int32).toInt64 10 21 = 0 by decide +kernel), if_neg w0, if_pos (show (1 : Int32) = 1 from rfl), h3 j (by omega)]
    exact ⟨_, rfl, rfl⟩
  rw [if_neg w0, if_neg w1, if_neg w0, if_neg w1, hin]
  rcases i32_cases wh with hneg | ⟨w, hw, rfl⟩
  · have a1 : wh < 10 := Int32.lt_trans hneg (by decide)
    rw [if_pos a1, and_ff (fun e => Int32.not_le.mpr a1 e.1), if_pos (show b2i false = (0 : Int32) from rfl)]
    exact ⟨_, rfl, rfl⟩
  by_cases c1 : w < 10
  · have a1 : nI w < 10 := nI_lt (b := 10) c1 (by omega)
    rw [if_pos a1, and_ff (fun e => Int32.not_le.mpr a1 e.1), if_pos (show b2i false = (0 : Int32) from rfl)]
    exact ⟨_, rfl, rfl⟩
  have a1 : (10 : Int32) ≤ nI w := nI_le (a := 10) (by omega) hw
  rw [if_neg (Int32.not_lt.mpr a1)]
  by_cases c2 : w < 22
  · have a2 : nI w < 22 := nI_lt (b := 22) c2 (by omega)
    have a3 : nI w ≤ 21 := nI_le (b := 21) (by omega) (by omega)
    obtain ⟨l, hl, e⟩ := h5 j (by omega)
    rw [if_pos a2, decide_eq_true a1, decide_eq_true a3, if_neg (show ¬ b2i (true && true) = (0 : Int32) by decide), show (10 : Int32) = nI 10 from rfl, show (12 : Int32) = nI 12 from rfl, nI_sub (by omega), moveOf_c hn hjn bl bp e hl (by omega), nI_mul, nI_add, nI_sub (by omega), ← h2 j (by omega), e, Option.bind_some]
    by_cases c3 : l ≤ w - 10
    · rw [if_pos c3, if_pos (nI_le c3 (by omega))]; exact ⟨_, rfl, rfl⟩
    · rw [if_neg c3, if_neg (nI_ge (by omega) (by omega)), if_neg (nI_in (by omega) (by omega)), nI_clamp (by omega), show 12 * j + w - 10 = 12 * j + (w - 10) by omega, ← h4 _ (by omega)]; exact ⟨_, rfl, rfl⟩
  · have a2 : ¬ nI w < 22 := fun e => by rw [show (22 : Int32) = nI 22 from rfl, nI_ltI hw (by omega)] at e; omega
    have a3 : ¬ nI w ≤ 21 := nI_ge (a := 21) (by omega) (by omega)
    rw [if_neg a2, and_ff (fun e => a3 e.2), if_pos (show b2i false = (0 : Int32) from rfl)]
    exact ⟨_, rfl, rfl⟩
