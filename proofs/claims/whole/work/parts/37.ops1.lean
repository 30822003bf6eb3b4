/-! calls that only look: reach, youth, moves -/
theorem i64_lt (x y : Int32) : (x.toInt64 < y.toInt64) ↔ x < y := by
  rw [Int64.lt_iff_toInt_lt, Int32.lt_iff_toInt_lt, Int32.toInt_toInt64, Int32.toInt_toInt64]
theorem in3 (x a b : Int32) : f_X10_in x.toInt64 a.toInt64 b.toInt64 = b2i (decide (a ≤ x) && decide (x ≤ b)) := by
  unfold f_X10_in lg_cmp
  have e1 : (x.toInt64 > a.toInt64) ↔ a < x := i64_lt a x
  have e2 : (x.toInt64 > b.toInt64) ↔ b < x := i64_lt b x
  have e3 : ∀ z : Int32, (x.toInt64 = z.toInt64) ↔ x = z := fun z => by
    rw [← Int64.toInt_inj, ← Int32.toInt_inj, Int32.toInt_toInt64, Int32.toInt_toInt64]
  simp only [e1, e2, e3]
  have t1 : ∀ z : Int32, (z < x) ↔ z.toInt < x.toInt := fun z => Int32.lt_iff_toInt_lt
  have t2 : ∀ z : Int32, (x = z) ↔ x.toInt = z.toInt := fun z => Int32.toInt_inj.symm
  have t3 : (a ≤ x) ↔ a.toInt ≤ x.toInt := Int32.le_iff_toInt_le
  have t4 : (x ≤ b) ↔ x.toInt ≤ b.toInt := Int32.le_iff_toInt_le
  simp only [t1, t2, t3, t4]
  by_cases h1 : a.toInt < x.toInt
  · have h1' : a.toInt ≤ x.toInt := by omega
    by_cases h2 : b.toInt < x.toInt
    · have h2' : ¬ x.toInt ≤ b.toInt := by omega
      simp [h1, h1', h2, h2']; decide
    · have h2' : x.toInt ≤ b.toInt := by omega
      by_cases h3 : x.toInt = b.toInt
      · simp [h1, h1', h2, h2', h3]
        have h1b : a.toInt < b.toInt := by omega
        have h1c : a.toInt ≤ b.toInt := by omega
        simp [h1b, h1c]; decide
      · simp [h1, h1', h2, h2', h3]; decide
  · by_cases h3 : x.toInt = a.toInt
    · have h1' : a.toInt ≤ x.toInt := by omega
      by_cases h2 : b.toInt < x.toInt
      · have h2' : ¬ x.toInt ≤ b.toInt := by omega
        rw [if_neg h1, if_pos h3, if_neg (by decide), if_pos h2, if_pos (by decide)]
        simp [h1', h2']; rfl
      · have h2' : x.toInt ≤ b.toInt := by omega
        rw [if_neg h1, if_pos h3, if_neg (by decide), if_neg h2]
        by_cases h4 : x.toInt = b.toInt
        · rw [if_pos h4, if_neg (by decide)]; simp [h1', h2']; rfl
        · rw [if_neg h4, if_neg (by decide)]; simp [h1', h2']; rfl
    · have h1' : ¬ a.toInt ≤ x.toInt := by omega
      rw [if_neg h1, if_neg h3, if_pos (by decide)]
      simp [h1']; rfl
theorem i01 (x : Int32) : (decide ((0 : Int32) ≤ x) && decide (x ≤ 1)) = (decide (x = 0) || decide (x = 1)) := by
  have t3 : ((0 : Int32) ≤ x) ↔ 0 ≤ x.toInt := Int32.le_iff_toInt_le
  have t4 : (x ≤ (1 : Int32)) ↔ x.toInt ≤ 1 := Int32.le_iff_toInt_le
  have t5 : (x = (0 : Int32)) ↔ x.toInt = 0 := Int32.toInt_inj.symm
  have t6 : (x = (1 : Int32)) ↔ x.toInt = 1 := Int32.toInt_inj.symm
  rw [Bool.eq_iff_iff]
  simp only [Bool.and_eq_true, Bool.or_eq_true, decide_eq_true_eq, t3, t4, t5, t6]
  omega
theorem in01 (x : Int32) : f_X10_in x.toInt64 0 1 = b2i (decide (x = 0) || decide (x = 1)) := by
  have := in3 x 0 1
  rw [i01] at this
  exact this
def rbits (b g o : Nat) (f : Nat → Nat) (m : Nat) : Nat → Nat → Int32 → Int32
  | 0, _, x => x
  | n+1, c, x => rbits b g o f m n (c + 1) (x ||| (if canS b g o f m c = true then jshl 1 (nI c) else 0))
theorem bt_rbits {b g o : Nat} {f : Nat → Nat} {m z : Nat} (hz : z < 32) : ∀ n c x, c + n ≤ 25 → bt (rbits b g o f m n c x) z = (bt x z || (decide (c ≤ z) && decide (z < c + n) && canS b g o f m z)) := by
  intro n
  induction n with
  | zero => intro c x h; unfold rbits; have : ¬ (c ≤ z ∧ z < c + 0) := by omega
            by_cases h1 : c ≤ z <;> simp [h1] <;> omega
  | succ n ih =>
    intro c x h
    unfold rbits
    rw [ih (c + 1) _ (by omega), bt_or]
    have e : bt (if canS b g o f m c = true then jshl 1 (nI c) else 0) z = (decide (z = c) && canS b g o f m z) := by
      cases hc : canS b g o f m c
      · rw [if_neg (by simp), bt_0]
        by_cases e2 : z = c
        · subst e2; simp [hc]
        · simp [e2]
      · rw [if_pos rfl, bt_one c (by omega) z hz]
        by_cases e2 : z = c
        · subst e2; simp [hc]
        · simp [e2]
    rw [e]
    by_cases e2 : z = c
    · subst e2
      have h1 : ¬ z + 1 ≤ z := by omega
      have h2 : z < z + (n + 1) := by omega
      simp [h1]
    · by_cases h1 : c + 1 ≤ z
      · have h2 : c ≤ z := by omega
        have h3 : (z < c + 1 + n) = (z < c + (n + 1)) := by rw [show c + 1 + n = c + (n + 1) by omega]
        simp only [e2, h1, h2, h3, decide_true, decide_false, Bool.false_and, Bool.or_false, Bool.true_and]
      · have h2 : ¬ c ≤ z := by omega
        simp [e2, h1, h2]
theorem rbits_tg {b g o : Nat} {f : Nat → Nat} {t m : Nat} (h : Wf f t) (hm : m < 6) (x : Int32) : rbits b g o f m 25 0 x = x ||| tgM b g o f m := by
  apply bt_ext
  intro c hc
  rw [bt_rbits hc 25 0 x (by omega), bt_or, bt_tgM h hm hc]
  simp
theorem reach_in {b g o : Nat} {f : Nat → Nat} {t m : Nat} (hL : Lw b g o) (h : Wf f t) (hm : m < 6) {k : Int32 → Int32 → Option Int32} : ∀ n c x, c ≤ 25 → 25 - c < n → f_X10_reach_L31 k (enc f t) (nI b) (nI g) (nI o) (nI m) n x (nI c) = k (rbits b g o f m (25 - c) c x) (nI (m + 1)) := by
  intro n
  induction n with
  | zero => intro c x _ hn; omega
  | succ n ih =>
    intro c x hc hn
    rw [f_X10_reach_L31]
    by_cases h1 : c = 25
    · subst h1
      rw [if_pos (show (25 : Int32) ≤ nI 25 from nI_le (a := 25) (b := 25) (by omega) (by omega))]
      unfold jlet
      rw [nI_1]
      rfl
    · rw [if_neg (show ¬ (25 : Int32) ≤ nI c from nI_ge (b := 25) (by omega) (by omega)), canGo_m hL h hm (by omega), Option.bind_some, show 25 - c = (25 - (c + 1)) + 1 by omega]
      unfold f_X10_reach_B61 jlet rbits
      dsimp only
      rw [nI_1]
      cases hcan : canS b g o f m c
      · rw [if_pos (by rfl), ih (c + 1) _ (by omega) (by omega)]; simp
      · rw [if_neg (by decide), ih (c + 1) _ (by omega) (by omega)]; simp
theorem reach_m {b g o : Nat} {f : Nat → Nat} {t s : Nat} (hL : Lw b g o) (h : Wf f t) (hs : s < 2) : f_X10_reach (enc f t) (nI b) (nI g) (nI o) (nI s) = some (reachS b g o f s) := by
  have e3 := (three_s s hs).2.2.2.1
  have st : ∀ n i x, i < 3 → f_X10_reach_L19 (enc f t) (nI b) (nI g) (nI o) (nI s) (n + 1) x (nI (3 * s + i)) = f_X10_reach_L19 (enc f t) (nI b) (nI g) (nI o) (nI s) n (x ||| tgM b g o f (3 * s + i)) (nI (3 * s + (i + 1))) := by
    intro n i x hi
    rw [f_X10_reach_L19, e3, if_neg (nI_ge (by omega) (by omega)), show (0 : Int32) = nI 0 from rfl, reach_in hL h (m := 3 * s + i) (by omega) 100 0 x (by omega) (by omega), rbits_tg h (by omega)]
    rfl
  have fin : ∀ n x, f_X10_reach_L19 (enc f t) (nI b) (nI g) (nI o) (nI s) (n + 1) x (nI (3 * s + 3)) = some x := by
    intro n x
    rw [f_X10_reach_L19, e3, if_pos (nI_le (by omega) (by omega))]
  unfold f_X10_reach
  rw [in01, if_neg (by have : s = 0 ∨ s = 1 := by omega
                       rcases this with rfl | rfl <;> decide)]
  unfold jlet
  dsimp only
  rw [(three_s s hs).1]
  show f_X10_reach_L19 (enc f t) (nI b) (nI g) (nI o) (nI s) (99 + 1) 0 (nI (3 * s + 0)) = _
  rw [st 99 0 _ (by omega), st 98 1 _ (by omega), st 97 2 _ (by omega), fin 96]
  rfl
/-- the two answers of reach -/
theorem op_reach {b g o : Nat} {f : Nat → Nat} {t : Nat} (hL : Lw b g o) (h : Wf f t) (sd : Int32) : ∃ r, f_X9_reach (enc f t) (nI b) (nI g) (nI o) sd = some r ∧ f_X10_reach (enc f t) (nI b) (nI g) (nI o) sd = some r := by
  by_cases h0 : sd = 0
  · subst h0
    refine ⟨_, ?_, reach_m hL h (s := 0) (by omega)⟩
    unfold f_X9_reach f_X9_reach_B14
    rw [if_pos rfl, show (0 : Int32) = nI 0 from rfl, reachOfSide_c hL h (by omega)]; rfl
  by_cases h1 : sd = 1
  · subst h1
    refine ⟨_, ?_, reach_m hL h (s := 1) (by omega)⟩
    unfold f_X9_reach f_X9_reach_B14
    rw [if_neg (by decide), if_pos rfl, show (1 : Int32) = nI 1 from rfl, reachOfSide_c hL h (by omega)]; rfl
  · refine ⟨-2, ?_, ?_⟩
    · unfold f_X9_reach; rw [if_neg h0, if_neg h1]
    · unfold f_X10_reach; rw [in01]; simp [h0, h1, b2i]
