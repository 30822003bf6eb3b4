def cntB (p : Nat → Bool) : Nat → Nat
  | 0 => 0
  | n + 1 => cntB p n + if p n = true then 1 else 0
theorem cntB_le (p : Nat → Bool) : ∀ n, cntB p n ≤ n := by
  intro n
  induction n with
  | zero => exact Nat.le_refl _
  | succ n ih => unfold cntB; split <;> omega
theorem begun_loop {n : Nat} (hn : n ≤ 8) {bs : Nat → Int64} {bl bp : Nat → Int32} {ps : Int32} {sg : Nat → Int32} {st : Int64} {beg : Nat → Bool} (H : ∀ i, i < n → f_X0_begins (nI n) bs bl bp ps sg (nI i) st = some (b2i (beg i))) : ∀ N i, i ≤ n → n - i < N → f_X0_countBegun_L6 (nI n) bs bl bp ps sg st N (nI (cntB beg i)) (nI i) = some (nI (cntB beg n)) := by
  intro N
  induction N with
  | zero => intro i _ hN; omega
  | succ N ih =>
    intro i hi hN
    rw [f_X0_countBegun_L6]
    by_cases he : i = n
    · rw [if_pos (nI_le (by omega) (by omega)), he]
    · have hz := ih (i + 1) (by omega) (by omega)
      rw [if_neg (nI_ge (by omega) (by omega)), H i (by omega), Option.bind_some]
      unfold f_X0_countBegun_B29 jlet
      dsimp only
      rw [nI_1, nI_1]
      rw [show cntB beg (i + 1) = cntB beg i + (if beg i = true then 1 else 0) from rfl] at hz
      cases hq : beg i with
      | false => rw [hq, if_neg (show ¬ false = true by decide), Nat.add_zero] at hz; rw [if_pos (show b2i false = (0 : Int32) from rfl)]; exact hz
      | true => rw [hq, if_pos (show true = true from rfl)] at hz; rw [if_neg (show ¬ b2i true = (0 : Int32) by decide)]; exact hz
theorem won_loop {n : Nat} (hn : n ≤ 8) {bs : Nat → Int64} {bl br bp : Nat → Int32} {ps : Int32} {sg : Nat → Int32} {st : Int64} {beg : Nat → Bool} (bo : Int32) (H : ∀ i, i < n → f_X0_begins (nI n) bs bl bp ps sg (nI i) st = some (b2i (beg i))) : ∀ N i, i ≤ n → n - i < N → f_X0_countWon_L6 (nI n) bs bl br bp ps sg st bo N (nI (cntB (fun j => beg j && decide (br j = bo)) i)) (nI i) = some (nI (cntB (fun j => beg j && decide (br j = bo)) n)) := by
  intro N
  induction N with
  | zero => intro i _ hN; omega
  | succ N ih =>
    intro i hi hN
    rw [f_X0_countWon_L6]
    by_cases he : i = n
    · rw [if_pos (nI_le (by omega) (by omega)), he]
    · have hz := ih (i + 1) (by omega) (by omega)
      rw [if_neg (nI_ge (by omega) (by omega)), H i (by omega), Option.bind_some, bookBy_c hn (by omega), Option.bind_some]
      unfold f_X0_countWon_B40 jlet
      dsimp only
      rw [nI_1, nI_1]
      rw [show cntB (fun j => beg j && decide (br j = bo)) (i + 1) = cntB (fun j => beg j && decide (br j = bo)) i + (if (beg i && decide (br i = bo)) = true then 1 else 0) from rfl] at hz
      cases hq : beg i with
      | false => rw [hq, Bool.false_and, if_neg (show ¬ false = true by decide), Nat.add_zero] at hz; rw [if_pos (show b2i false = (0 : Int32) from rfl)]; exact hz
      | true =>
        rw [hq, Bool.true_and] at hz
        rw [if_neg (show ¬ b2i true = (0 : Int32) by decide)]
        by_cases hr : br i = bo
        · rw [decide_eq_true hr, if_pos (show true = true from rfl)] at hz
          rw [if_pos hr]; exact hz
        · rw [decide_eq_false hr, if_neg (show ¬ false = true by decide), Nat.add_zero] at hz
          rw [if_neg hr]; exact hz
def mvAt (c : Nat) (bl bp : Nat → Int32) (i : Nat) : Int32 := if bl i ≤ nI c then -6 else bp (12 * i + c)
theorem times_loop {k n : Nat} (hk : k ≤ 48) (hn : n ≤ 8) {bs : Nat → Int64} {bl bp : Nat → Int32} {sg : Nat → Int32} {st : Int64} {beg : Nat → Bool} (hl : ∀ i, i < 8 → ∃ l, l ≤ 12 ∧ bl i = nI l) (mv : Int32) (hmv : mv ≠ -6) (H : ∀ i, i < n → f_X0_begins (nI n) bs bl bp (nI k) sg (nI i) st = some (b2i (beg i))) : ∀ N i, i ≤ n → n - i < N → f_X0_timesPlayed_L6 (nI n) bs bl bp (nI k) sg st mv N (nI (cntB (fun j => beg j && decide (mvAt (k / 4) bl bp j = mv)) i)) (nI i) = some (nI (cntB (fun j => beg j && decide (mvAt (k / 4) bl bp j = mv)) n)) := by
  intro N
  induction N with
  | zero => intro i _ hN; omega
  | succ N ih =>
    intro i hi hN
    rw [f_X0_timesPlayed_L6]
    by_cases he : i = n
    · rw [if_pos (nI_le (by omega) (by omega)), he]
    · have hz := ih (i + 1) (by omega) (by omega)
      obtain ⟨l, hl1, hl2⟩ := hl i (by omega)
      have hm : f_X0_moveOf (nI n) bl bp (nI i) (f_X3_countMoves (nI k)) = some (mvAt (k / 4) bl bp i) := by
        unfold f_X3_countMoves mvAt
        rw [cnt_c hk, moveOf_c hn (by omega) bl bp hl2 hl1 (by omega), hl2]
        simp only [nI_le_lit (a := l) (b := k / 4) (by omega) (by omega)]
      rw [if_neg (nI_ge (by omega) (by omega)), if_neg hmv, H i (by omega), Option.bind_some, hm, Option.bind_some]
      unfold f_X0_timesPlayed_B51 jlet
      dsimp only
      rw [nI_1, nI_1]
      rw [show cntB (fun j => beg j && decide (mvAt (k / 4) bl bp j = mv)) (i + 1) = cntB (fun j => beg j && decide (mvAt (k / 4) bl bp j = mv)) i + (if (beg i && decide (mvAt (k / 4) bl bp i = mv)) = true then 1 else 0) from rfl] at hz
      cases hq : beg i with
      | false => rw [hq, Bool.false_and, if_neg (show ¬ false = true by decide), Nat.add_zero] at hz; rw [if_pos (show b2i false = (0 : Int32) from rfl)]; exact hz
      | true =>
        rw [hq, Bool.true_and] at hz
        rw [if_neg (show ¬ b2i true = (0 : Int32) by decide)]
        by_cases hr : mvAt (k / 4) bl bp i = mv
        · rw [decide_eq_true hr, if_pos (show true = true from rfl)] at hz
          rw [if_pos hr]; exact hz
        · rw [decide_eq_false hr, if_neg (show ¬ false = true by decide), Nat.add_zero] at hz
          rw [if_neg hr]; exact hz
theorem goOn_loop {k n : Nat} (hk : k ≤ 48) (hn : n ≤ 8) {gb : Nat → Int64} {gm gv : Nat → Int32} {pd : Nat → Int32} {st : Int64} {beg : Nat → Bool} (hl : ∀ i, i < 8 → ∃ l, l ≤ 12 ∧ gm i = nI l) (mv : Int32) (hmv : mv ≠ -6) (H : ∀ i, i < n → f_X10_beginsSo st (nI k) pd gb gm gv (nI i) = some (b2i (beg i))) : ∀ N i, i ≤ n → n - i < N → f_X10_goOnWith_L4 st (nI k) (nI n) pd gb gm gv mv N (nI (cntB (fun j => beg j && decide (mvAt (k / 4) gm gv j = mv)) i)) (nI i) = some (nI (cntB (fun j => beg j && decide (mvAt (k / 4) gm gv j = mv)) n)) := by
  intro N
  induction N with
  | zero => intro i _ hN; omega
  | succ N ih =>
    intro i hi hN
    rw [f_X10_goOnWith_L4]
    by_cases he : i = n
    · rw [if_pos (nI_le (by omega) (by omega)), he]
    · have hz := ih (i + 1) (by omega) (by omega)
      obtain ⟨l, hl1, hl2⟩ := hl i (by omega)
      rw [if_neg (nI_ge (by omega) (by omega)), H i (by omega), Option.bind_some, if_neg (nI_in (by omega) (by omega)), nI_clamp (show i < 2 ^ 31 by omega), cnt_c hk]
      unfold f_X10_goOnWith_B61 jlet
      dsimp only
      rw [nI_1, nI_1, show ∀ x : Nat, nI x + 0 = nI x from fun x => nI_add x 0]
      rw [show cntB (fun j => beg j && decide (mvAt (k / 4) gm gv j = mv)) (i + 1) = cntB (fun j => beg j && decide (mvAt (k / 4) gm gv j = mv)) i + (if (beg i && decide (mvAt (k / 4) gm gv i = mv)) = true then 1 else 0) from rfl] at hz
      cases hq : beg i with
      | false => rw [hq, Bool.false_and, if_neg (show ¬ false = true by decide), Nat.add_zero] at hz; rw [if_pos (show b2i false = (0 : Int32) from rfl)]; exact hz
      | true =>
        rw [hq, Bool.true_and] at hz
        rw [if_neg (show ¬ b2i true = (0 : Int32) by decide)]
        by_cases hc : gm i ≤ nI (k / 4)
        · rw [if_pos hc]
          rw [show mvAt (k / 4) gm gv i = -6 by unfold mvAt; rw [if_pos hc], decide_eq_false (fun e => hmv e.symm), if_neg (show ¬ false = true by decide), Nat.add_zero] at hz
          exact hz
        · have hc2 : ¬ l ≤ k / 4 := fun e => hc (by rw [hl2]; exact nI_le e (by omega))
          rw [if_neg hc, show (12 : Int32) = nI 12 from rfl, nI_mul, nI_add, if_neg (nI_in (by omega) (by omega)), nI_clamp (by omega)]
          rw [show mvAt (k / 4) gm gv i = gv (12 * i + k / 4) by unfold mvAt; rw [if_neg hc]] at hz
          by_cases hr : gv (12 * i + k / 4) = mv
          · rw [decide_eq_true hr, if_pos (show true = true from rfl)] at hz
            rw [if_pos hr]; exact hz
          · rw [decide_eq_false hr, if_neg (show ¬ false = true by decide), Nat.add_zero] at hz
            rw [if_neg hr]; exact hz
