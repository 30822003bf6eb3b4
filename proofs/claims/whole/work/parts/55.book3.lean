theorem begF (pd gv : Nat → Int32) (i c : Nat) {N : Nat} (hN : 0 < N) (m : Int32) : f_X10_beginsSo_L40 pd gv (nI i) (nI c) N false m = some (b2i false) := by
  cases N with
  | zero => omega
  | succ N => rw [f_X10_beginsSo_L40, if_pos (show b2i false = (0 : Int32) from rfl), ite_self]
theorem beg_loop {k : Nat} {P : Nat → Nat} {ps pm : Int32} {sg pd : Nat → Int32} (h : PadR k P ps sg pm pd) (hg : gmOK k P) {n i l : Nat} (hn : n ≤ 8) (hi : i < n) (bl bp gv : Nat → Int32) (hl : bl i = nI l) (h12 : l ≤ 12) (hc : k / 4 ≤ l) (hA : ∀ j, j < 96 → bp j = gv j) : ∀ N m, m ≤ k / 4 → k / 4 - m < N → ∃ r : Bool, f_X0_begins_L38 (nI n) bl bp ps sg (nI i) N (nI m) = some (b2i r) ∧ f_X10_beginsSo_L40 pd gv (nI i) (nI (k / 4)) N true (nI m) = some (b2i r) := by
  obtain ⟨hk, e1, e2, -⟩ := id h
  intro N
  induction N with
  | zero => intro m _ hN; omega
  | succ N ih =>
    intro m hm hN
    rw [f_X0_begins_L38, f_X10_beginsSo_L40]
    rw [show f_X3_countMoves ps = nI (k / 4) by unfold f_X3_countMoves; rw [e1, cnt_c hk]]
    by_cases he : m = k / 4
    · rw [if_pos (nI_le (by omega) (by omega)), if_pos (nI_le (by omega) (by omega))]
      exact ⟨true, rfl, rfl⟩
    · obtain ⟨m1, m2⟩ := num_cm h hg (m := m) (by have := hg.1; omega)
      rw [if_neg (nI_ge (by omega) (by omega)), if_neg (nI_ge (by omega) (by omega)), if_neg (show ¬ (12 : Int32) ≤ nI m from nI_ge (b := 12) (by omega) (by omega)), if_neg (show ¬ b2i true = (0 : Int32) by decide), moveOf_c hn hi bl bp hl h12 (by omega), m1, m2, if_neg (show ¬ l ≤ m by omega), show (12 : Int32) = nI 12 from rfl, nI_mul, nI_add, if_neg (nI_in (by omega) (by omega)), nI_clamp (by omega), Option.bind_some, Option.bind_some, Option.bind_some, ← hA _ (by omega)]
      unfold f_X10_beginsSo_B76 jlet
      dsimp only
      rw [nI_1]
      by_cases hq : bp (12 * i + m) = nI (numP P m)
      · rw [if_pos hq, if_pos hq]; exact ih (m + 1) (by omega) (by omega)
      · rw [if_neg hq, if_neg hq, begF _ _ _ _ (by omega)]
        exact ⟨false, rfl, rfl⟩
theorem begins_cm {k n : Nat} {P : Nat → Nat} {ps pm : Int32} {sg pd : Nat → Int32} (h : PadR k P ps sg pm pd) (hg : gmOK k P) {bc : Int32} {bs : Nat → Int64} {bl br bp : Nat → Int32} {gs : Int32} {gb : Nat → Int64} {gm gv gr : Nat → Int32} (hb : BkR n bc bs bl br bp gs gb gm gv gr) (st : Int64) {i : Nat} (hi : i < n) : ∃ r : Bool, f_X0_begins (nI n) bs bl bp ps sg (nI i) st = some (b2i r) ∧ f_X10_beginsSo st pm pd gb gm gv (nI i) = some (b2i r) := by
  obtain ⟨hk, e1, e2, -⟩ := id h
  obtain ⟨hn, b1, b2, b3, b4, b5, b6, b7, b8⟩ := id hb
  obtain ⟨l, hl, hl2⟩ := b7 i (by omega)
  unfold f_X0_begins f_X10_beginsSo jlet f_X10_beginsSo_B36
  rw [has_c hn hi, if_neg (show ¬ (1 : Int32) = 0 by decide), nI_clamp (by omega)]
  have h8 : ¬ (nI i < 0 ∨ 8 ≤ i) := by
    intro e
    rcases e with e | e
    · exact nI_pos (by omega) e
    · omega
  simp only [if_neg h8]
  rw [show pm / 4 = nI (k / 4) by rw [e2, cnt_c hk], show f_X3_countMoves ps = nI (k / 4) by unfold f_X3_countMoves; rw [e1, cnt_c hk], ← b3 i (by omega), ← b4 i (by omega), hl2]
  by_cases h1 : lg_cmp (bs i) st = 0
  · rw [if_pos h1, if_pos h1]
    by_cases h2 : k / 4 ≤ l
    · rw [if_pos (nI_le h2 (by omega)), if_neg (show ¬ nI l < nI (k / 4) from fun e => by rw [nI_ltI (by omega) (by omega)] at e; omega)]
      exact beg_loop h hg hn hi bl bp gv hl2 hl h2 b6 100 0 (by omega) (by omega)
    · rw [if_neg (nI_ge (by omega) (by omega)), if_pos (nI_lt (by omega) (by omega)), begF _ _ _ _ (by omega)]
      exact ⟨false, rfl, rfl⟩
  · rw [if_neg h1, if_neg h1, begF _ _ _ _ (by omega)]
    exact ⟨false, rfl, rfl⟩
