/-! who can move at all, and what it brought -/
def anyUp (q : Nat → Bool) : Nat → Nat → Bool
  | 0, _ => false
  | n+1, c => q c || anyUp q n (c + 1)
theorem anyUp_iff (q : Nat → Bool) : ∀ n c, anyUp q n c = true ↔ ∃ x, c ≤ x ∧ x < c + n ∧ q x = true := by
  intro n
  induction n with
  | zero => intro c; simp [anyUp]; intro x h1 h2; omega
  | succ n ih =>
    intro c
    unfold anyUp
    rw [Bool.or_eq_true, ih]
    constructor
    · rintro (h | ⟨x, h1, h2, h3⟩)
      · exact ⟨c, Nat.le_refl _, by omega, h⟩
      · exact ⟨x, by omega, by omega, h3⟩
    · rintro ⟨x, h1, h2, h3⟩
      by_cases e : x = c
      · exact Or.inl (e ▸ h3)
      · exact Or.inr ⟨x, by omega, by omega, h3⟩
def mvM (b g o : Nat) (f : Nat → Nat) (m : Nat) : Bool := anyUp (canS b g o f m) 25 0
theorem mvM_iff {b g o : Nat} {f : Nat → Nat} {m : Nat} : mvM b g o f m = true ↔ ∃ x, x < 25 ∧ canS b g o f m x = true := by
  unfold mvM
  rw [anyUp_iff]
  constructor
  · rintro ⟨x, -, h2, h3⟩; exact ⟨x, by omega, h3⟩
  · rintro ⟨x, h2, h3⟩; exact ⟨x, by omega, by omega, h3⟩
theorem manMoves_m {b g o : Nat} {f : Nat → Nat} {t m : Nat} (hL : Lw b g o) (h : Wf f t) (hm : m < 6) : f_X10_manMoves (nI b) (nI g) (nI o) (enc f t) (nI m) = some (b2i (mvM b g o f m)) := by
  have L : ∀ n c, c ≤ 25 → 25 - c < n → f_X10_manMoves_L3 (nI b) (nI g) (nI o) (enc f t) (nI m) n (nI c) = some (b2i (anyUp (canS b g o f m) (25 - c) c)) := by
    intro n
    induction n with
    | zero => intro c _ hn; omega
    | succ n ih =>
      intro c hc hn
      rw [f_X10_manMoves_L3]
      by_cases h1 : c = 25
      · subst h1
        rw [if_pos (show (25 : Int32) ≤ nI 25 from nI_le (a := 25) (b := 25) (by omega) (by omega))]
        rfl
      · rw [if_neg (show ¬ (25 : Int32) ≤ nI c from nI_ge (b := 25) (by omega) (by omega)), canGo_m hL h hm (by omega), Option.bind_some, show 25 - c = (25 - (c + 1)) + 1 by omega]
        unfold anyUp
        cases hcan : canS b g o f m c
        · rw [if_pos (by rfl)]
          unfold jlet
          dsimp only
          rw [nI_1, ih (c + 1) (by omega) (by omega), Bool.false_or]
        · rw [if_neg (by decide), Bool.true_or]; rfl
  unfold f_X10_manMoves mvM
  exact L 100 0 (by omega) (by omega)
def sdM (b g o : Nat) (f : Nat → Nat) (s : Nat) : Bool := mvM b g o f (3 * s) || mvM b g o f (3 * s + 1) || mvM b g o f (3 * s + 2)
theorem three_s : ∀ s, s < 2 → (3 : Int32) * nI s = nI (3 * s) ∧ (3 : Int32) * nI s + 1 = nI (3 * s + 1) ∧ (3 : Int32) * nI s + 2 = nI (3 * s + 2) ∧ (3 : Int32) * nI s + 3 = nI (3 * s + 3) ∧ (1 : Int32) - nI s = nI (1 - s) := by decide +kernel
theorem sideMoves_m {b g o : Nat} {f : Nat → Nat} {t s : Nat} (hL : Lw b g o) (h : Wf f t) (hs : s < 2) : f_X10_sideMoves (nI b) (nI g) (nI o) (enc f t) (nI s) = some (b2i (sdM b g o f s)) := by
  unfold f_X10_sideMoves sdM
  obtain ⟨e0, e1, e2, -, -⟩ := three_s s hs
  rw [e1, e2, e0, manMoves_m hL h (by omega), manMoves_m hL h (by omega), manMoves_m hL h (by omega)]
  simp only [Option.bind_some]
  cases mvM b g o f (3 * s) <;> cases mvM b g o f (3 * s + 1) <;> cases mvM b g o f (3 * s + 2) <;> rfl
def brS (b g o : Nat) (f : Nat → Nat) (t : Nat) : Nat := if f 0 % 32 = 31 then 2 else if f 3 % 32 = 31 then 1 else if sdM b g o f t = true then 0 else if sdM b g o f (1 - t) = true then (1 - t) + 1 else 3
theorem broughtBy_m {b g o : Nat} {f : Nat → Nat} {t : Nat} (hL : Lw b g o) (h : Wf f t) : f_X10_broughtBy (nI b) (nI g) (nI o) (enc f t) = some (nI (brS b g o f t)) := by
  unfold f_X10_broughtBy brS
  have c0 : (f_X10_cellOf (enc f t) 0 = 31) = (f 0 % 32 = 31) := cell31_m (m := 0) h.dig (by omega)
  have c3 : (f_X10_cellOf (enc f t) 3 = 31) = (f 3 % 32 = 31) := cell31_m (m := 3) h.dig (by omega)
  simp only [c0, c3]
  by_cases h0 : f 0 % 32 = 31
  · rw [if_pos h0, if_pos h0]; rfl
  rw [if_neg h0, if_neg h0]
  by_cases h3 : f 3 % 32 = 31
  · rw [if_pos h3, if_pos h3]; rfl
  rw [if_neg h3, if_neg h3]
  unfold jlet
  dsimp only
  rw [turnOf_m h.dig, (three_s t h.1).2.2.2.2, sideMoves_m hL h h.1, sideMoves_m hL h (by omega)]
  simp only [Option.bind_some]
  have ht : t = 0 ∨ t = 1 := by have := h.1; omega
  rcases ht with rfl | rfl <;> cases sdM b g o f 0 <;> cases sdM b g o f 1 <;> rfl
/-! the class -/
theorem tgM_zero {b g o : Nat} {f : Nat → Nat} {t m : Nat} (h : Wf f t) (hm : m < 6) : tgM b g o f m = 0 ↔ mvM b g o f m = false := by
  rw [bt_zero]
  constructor
  · intro h1
    cases h2 : mvM b g o f m with
    | false => rfl
    | true =>
      obtain ⟨x, hx, hc⟩ := mvM_iff.mp h2
      have := h1 x (by omega)
      rw [bt_tgM h hm (by omega), hc] at this
      simp [hx] at this
  · intro h1 c hc
    rw [bt_tgM h hm hc]
    by_cases h25 : c < 25
    · cases h2 : canS b g o f m c with
      | false => simp
      | true => rw [mvM_iff.mpr ⟨c, h25, h2⟩] at h1; cases h1
    · simp [h25]
def reachS (b g o : Nat) (f : Nat → Nat) (s : Nat) : Int32 := ((0 ||| tgM b g o f (3 * s)) ||| tgM b g o f (3 * s + 1)) ||| tgM b g o f (3 * s + 2)
theorem tg_side {b g o : Nat} {f : Nat → Nat} {t s i : Nat} (hL : Lw b g o) (h : Wf f t) (hs : s < 2) (hi : i < 3) : f_X5_targets (nI b) (nI g) (nI o) (f_X8_cellOf (enc f t) (nI (3 * s + i))) (f_X8_ageOf (enc f t) (nI (3 * s + i))) (cellsS f s) (allS f s) = some (tgM b g o f (3 * s + i)) := by
  have e : (3 * s + i) / 3 = s := by omega
  have := targets_M hL h (m := 3 * s + i) (by omega)
  rw [e] at this
  exact this
theorem reachOfSide_c {b g o : Nat} {f : Nat → Nat} {t s : Nat} (hL : Lw b g o) (h : Wf f t) (hs : s < 2) : f_X5_reachOfSide (nI b) (nI g) (nI o) (enc f t) (nI s) = some (reachS b g o f s) := by
  have e5 := (three_s s hs).2.2.2.2
  have e3 := (three_s s hs).2.2.2.1
  have st : ∀ n i x, i < 3 → f_X5_reachOfSide_L27 (nI b) (nI g) (nI o) (enc f t) (nI s) (cellsS f s) (allS f s) (n + 1) x (nI (3 * s + i)) = f_X5_reachOfSide_L27 (nI b) (nI g) (nI o) (enc f t) (nI s) (cellsS f s) (allS f s) n (x ||| tgM b g o f (3 * s + i)) (nI (3 * s + (i + 1))) := by
    intro n i x hi
    rw [f_X5_reachOfSide_L27, e3, if_neg (nI_ge (by omega) (by omega)), tg_side hL h hs hi, Option.bind_some]
    unfold jlet
    rw [nI_1]
    rfl
  have fin : ∀ n x, f_X5_reachOfSide_L27 (nI b) (nI g) (nI o) (enc f t) (nI s) (cellsS f s) (allS f s) (n + 1) x (nI (3 * s + 3)) = some x := by
    intro n x
    rw [f_X5_reachOfSide_L27, e3, if_pos (nI_le (by omega) (by omega))]
  unfold f_X5_reachOfSide
  rw [e5, cellsOf_c h.dig hs, cellsOf_c h.dig (by omega), Option.bind_some, Option.bind_some]
  unfold jlet
  dsimp only
  rw [(three_s s hs).1]
  show f_X5_reachOfSide_L27 (nI b) (nI g) (nI o) (enc f t) (nI s) (cellsS f s) (allS f s) (99 + 1) 0 (nI (3 * s + 0)) = _
  rw [st 99 0 _ (by omega), st 98 1 _ (by omega), st 97 2 _ (by omega), fin 96]
  rfl
theorem reach_zero {b g o : Nat} {f : Nat → Nat} {t s : Nat} (h : Wf f t) (hs : s < 2) : reachS b g o f s = 0 ↔ sdM b g o f s = false := by
  have e : reachS b g o f s = 0 ↔ tgM b g o f (3 * s) = 0 ∧ tgM b g o f (3 * s + 1) = 0 ∧ tgM b g o f (3 * s + 2) = 0 := by
    unfold reachS
    simp only [bt_zero, bt_or, bt_0, Bool.false_or, Bool.or_eq_false_iff]
    constructor
    · intro h1; exact ⟨fun c hc => (h1 c hc).1.1, fun c hc => (h1 c hc).1.2, fun c hc => (h1 c hc).2⟩
    · rintro ⟨h1, h2, h3⟩ c hc; exact ⟨⟨h1 c hc, h2 c hc⟩, h3 c hc⟩
  rw [e, tgM_zero h (by omega), tgM_zero h (by omega), tgM_zero h (by omega)]
  unfold sdM
  cases mvM b g o f (3 * s) <;> cases mvM b g o f (3 * s + 1) <;> cases mvM b g o f (3 * s + 2) <;> simp
theorem ending_c {b g o : Nat} {f : Nat → Nat} {t : Nat} (hL : Lw b g o) (h : Wf f t) : f_X5_ending (nI b) (nI g) (nI o) (enc f t) = some (nI (brS b g o f t)) := by
  unfold f_X5_ending brS
  have c0 : f_X8_isUp (enc f t) 0 = if f 0 % 32 = 31 then 0 else 1 := isUp_c (m := 0) h.dig (by omega)
  have c3 : f_X8_isUp (enc f t) 3 = if f 3 % 32 = 31 then 0 else 1 := isUp_c (m := 3) h.dig (by omega)
  rw [c0, c3]
  by_cases h0 : f 0 % 32 = 31
  · rw [if_pos h0, if_pos h0, if_pos rfl]; rfl
  rw [if_neg h0, if_neg h0, if_neg (by decide)]
  by_cases h3 : f 3 % 32 = 31
  · rw [if_pos h3, if_pos h3, if_pos rfl]; rfl
  rw [if_neg h3, if_neg h3, if_neg (by decide)]
  unfold jlet
  dsimp only
  rw [turnOf_c h.dig, (three_s t h.1).2.2.2.2, reachOfSide_c hL h h.1, reachOfSide_c hL h (by omega)]
  simp only [Option.bind_some, reach_zero (b := b) (g := g) (o := o) h h.1, reach_zero (b := b) (g := g) (o := o) h (show 1 - t < 2 by omega)]
  have ht : t = 0 ∨ t = 1 := by have := h.1; omega
  rcases ht with rfl | rfl <;> cases sdM b g o f 0 <;> cases sdM b g o f 1 <;> rfl
