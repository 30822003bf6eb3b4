theorem cntB_s (p : Nat → Bool) (i : Nat) : cntB p (i + 1) = cntB p i + if p i = true then 1 else 0 := rfl
theorem next_loop {k n : Nat} (hn : n ≤ 8) {gb : Nat → Int64} {gm gv gr : Nat → Int32} {pd : Nat → Int32} {st : Int64} {beg : Nat → Bool} (wh : Int32) (H : ∀ i, i < n → f_X10_beginsSo st (nI k) pd gb gm gv (nI i) = some (b2i (beg i))) : ∀ N i, i ≤ n → n - i < N → f_X10_next_L35 st (nI k) (nI n) pd gb gm gv gr wh N (nI (cntB beg i)) (nI (cntB (fun j => beg j && decide (gr j = 1)) i)) (nI (cntB (fun j => beg j && decide (gr j = 2)) i)) (nI i) = f_X10_next_L131 st (nI k) (nI n) pd gb gm gv wh (nI (cntB beg n)) (nI (cntB (fun j => beg j && decide (gr j = 1)) n)) (nI (cntB (fun j => beg j && decide (gr j = 2)) n)) 2501 (-6) 0 0 := by
  intro N
  induction N with
  | zero => intro i _ hN; omega
  | succ N ih =>
    intro i hi hN
    rw [f_X10_next_L35]
    by_cases he : i = n
    · rw [if_pos (nI_le (by omega) (by omega)), he]
    · have hz := ih (i + 1) (by omega) (by omega)
      have z0 : ∀ x : Nat, nI x + 0 = nI x := fun x => nI_add x 0
      have h8 : ¬ (nI i < 0 ∨ 8 ≤ i) := by
        intro e
        rcases e with e | e
        · exact nI_pos (by omega) e
        · omega
      rw [if_neg (nI_ge (by omega) (by omega)), H i (by omega), Option.bind_some]
      rw [cntB_s, cntB_s, cntB_s] at hz
      unfold f_X10_next_B63 f_X10_next_B87 f_X10_next_B112 jlet
      dsimp only
      cases hq : beg i with
      | false =>
        rw [hq, Bool.false_and, Bool.false_and, if_neg (show ¬ false = true by decide), Nat.add_zero, Nat.add_zero, Nat.add_zero] at hz
        simp only [if_pos (show b2i false = (0 : Int32) from rfl), z0, nI_1]
        exact hz
      | true =>
        rw [hq, Bool.true_and, Bool.true_and, if_pos (show true = true from rfl)] at hz
        simp only [if_neg (show ¬ b2i true = (0 : Int32) by decide), nI_clamp (show i < 2 ^ 31 by omega), if_neg h8, z0, nI_1]
        by_cases h1 : gr i = 1
        · have h2 : ¬ gr i = 2 := by rw [h1]; decide
          rw [decide_eq_true h1, decide_eq_false h2, if_pos (show true = true from rfl), if_neg (show ¬ false = true by decide), Nat.add_zero] at hz
          rw [if_pos h1, if_neg h2]; exact hz
        · rw [decide_eq_false h1, if_neg (show ¬ false = true by decide), Nat.add_zero] at hz
          rw [if_neg h1]
          by_cases h2 : gr i = 2
          · rw [decide_eq_true h2, if_pos (show true = true from rfl)] at hz
            rw [if_pos h2]; exact hz
          · rw [decide_eq_false h2, if_neg (show ¬ false = true by decide), Nat.add_zero] at hz
            rw [if_neg h2]; exact hz
theorem cntB_pos (p : Nat → Bool) : ∀ n, 0 < cntB p n → ∃ j, j < n ∧ p j = true := by
  intro n
  induction n with
  | zero => intro h; exact absurd h (by unfold cntB; omega)
  | succ n ih =>
    intro h
    by_cases hp : p n = true
    · exact ⟨n, by omega, hp⟩
    · rw [cntB_s, if_neg hp] at h
      obtain ⟨j, hj, hj2⟩ := ih h
      exact ⟨j, by omega, hj2⟩
theorem cntB_has (p : Nat → Bool) : ∀ n j, j < n → p j = true → 0 < cntB p n := by
  intro n
  induction n with
  | zero => intro j hj; omega
  | succ n ih =>
    intro j hj hp
    rw [cntB_s]
    by_cases hjn : j = n
    · subst hjn; rw [if_pos hp]; omega
    · have := ih j (by omega) hp
      omega
theorem cntB_congr {p q : Nat → Bool} : ∀ n, (∀ j, j < n → p j = q j) → cntB p n = cntB q n := by
  intro n
  induction n with
  | zero => intro _; rfl
  | succ n ih =>
    intro h
    rw [cntB_s, cntB_s, ih (fun j hj => h j (by omega)), h n (by omega)]
