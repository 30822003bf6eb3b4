theorem times6 {n : Nat} (hn : n ≤ 8) {bs : Nat → Int64} {bl bp sg : Nat → Int32} {ps : Int32} {st : Int64} : ∀ N i, i ≤ n → n - i < N → f_X0_timesPlayed_L6 (nI n) bs bl bp ps sg st (-6) N 0 (nI i) = some 0 := by
  intro N
  induction N with
  | zero => intro i _ hN; omega
  | succ N ih =>
    intro i hi hN
    rw [f_X0_timesPlayed_L6]
    by_cases he : i = n
    · rw [if_pos (nI_le (by omega) (by omega))]
    · rw [if_neg (nI_ge (by omega) (by omega)), if_pos (show (-6 : Int32) = -6 from rfl)]
      unfold f_X0_timesPlayed_B51 jlet
      dsimp only
      rw [nI_1]
      exact ih (i + 1) (by omega) (by omega)
def MostI (tp : Nat → Nat) (beg : Nat → Bool) (mvi : Nat → Int32) (i : Nat) (x : Int32) (y : Nat) : Prop := (y = 0 ∧ x = -6 ∧ ∀ j, j < i → beg j = true → mvi j = -6) ∨ ∃ w, w < 2500 ∧ x = nI w ∧ y = tp w ∧ 0 < y ∧ ∀ j, j < i → beg j = true → ∀ u, u < 2500 → mvi j = nI u → tp u ≤ y ∧ (u < w → tp u < y)
theorem most_c_loop {n : Nat} (hn : n ≤ 8) {bs : Nat → Int64} {bl bp sg : Nat → Int32} {ps : Int32} {st : Int64} (tp : Nat → Nat) (ht : ∀ v, tp v ≤ 8) (beg : Nat → Bool) (mvi : Nat → Int32) (H : ∀ i, i < n → f_X0_begins (nI n) bs bl bp ps sg (nI i) st = some (b2i (beg i))) (HM2 : ∀ i, i < n → f_X0_moveOf (nI n) bl bp (nI i) (f_X3_countMoves ps) = some (mvi i)) (Hv : ∀ i, i < n → mvi i = -6 ∨ ∃ u, u < 2500 ∧ mvi i = nI u) (HT6 : f_X0_timesPlayed (nI n) bs bl bp ps sg st (-6) = some (nI 0)) (HT : ∀ v, v < 2500 → f_X0_timesPlayed (nI n) bs bl bp ps sg st (nI v) = some (nI (tp v))) (Hp : ∀ i, i < n → beg i = true → ∀ u, u < 2500 → mvi i = nI u → 0 < tp u) : ∀ N i x y, i ≤ n → n - i < N → y ≤ 8 → MostI tp beg mvi i x y → ∃ x' y', y' ≤ 8 ∧ MostI tp beg mvi n x' y' ∧ f_X0_mostPlayed_L10 (nI n) bs bl bp ps sg st N x (nI y) (nI i) = some x' := by
  intro N
  induction N with
  | zero => intro i x y _ hN; omega
  | succ N ih =>
    intro i x y hi hN hy hI
    rw [f_X0_mostPlayed_L10]
    by_cases he : i = n
    · subst he
      exact ⟨x, y, hy, hI, by rw [if_pos (nI_le (by omega) (by omega))]⟩
    have hin : i < n := by omega
    rw [if_neg (nI_ge (by omega) (by omega)), H i hin, Option.bind_some, HM2 i hin, Option.bind_some]
    have hkeep : ∀ z : Int32, (beg i = true → mvi i = -6) → z = -6 → ∃ x' y', y' ≤ 8 ∧ MostI tp beg mvi n x' y' ∧ f_X0_mostPlayed_B45 (f_X0_mostPlayed_L10 (nI n) bs bl bp ps sg st N) (nI n) bs bl bp ps sg st x (nI y) (nI i) z = some x' := by
      intro z hz hz6
      subst hz6
      unfold f_X0_mostPlayed_B45
      rw [HT6, Option.bind_some]
      unfold f_X0_mostPlayed_B83 f_X0_mostPlayed_B91 jlet
      dsimp only
      rw [nI_1, if_neg (show ¬ nI y < nI 0 from fun e => by rw [nI_ltI (by omega) (by omega)] at e; omega), if_pos (show nI 0 ≤ (0 : Int32) by decide), ite_self]
      refine ih (i + 1) x y (by omega) (by omega) hy ?_
      rcases hI with ⟨a1, a2, a3⟩ | ⟨w, a1, a2, a3, a4, a5⟩
      · left
        refine ⟨a1, a2, fun j hj hb => ?_⟩
        by_cases hj2 : j = i
        · subst hj2; exact hz hb
        · exact a3 j (by omega) hb
      · right
        refine ⟨w, a1, a2, a3, a4, fun j hj hb u hu e => ?_⟩
        by_cases hj2 : j = i
        · subst hj2
          rw [hz hb] at e
          exact absurd e.symm (nI_ne6 (by omega))
        · exact a5 j (by omega) hb u hu e
    cases hq : beg i with
    | false =>
      rw [if_pos (show b2i false = (0 : Int32) from rfl)]
      exact hkeep (-6) (fun e => by rw [hq] at e; exact absurd e (by decide)) rfl
    | true =>
      rw [if_neg (show ¬ b2i true = (0 : Int32) by decide)]
      rcases Hv i hin with h6 | ⟨v, hv, e6⟩
      · exact hkeep _ (fun _ => h6) h6
      · have hpos := Hp i hin hq v hv e6
        have htv := ht v
        have hset : (tp v > y ∨ (tp v = y ∧ ∃ w, w < 2500 ∧ x = nI w ∧ v < w ∧ y = tp w)) → MostI tp beg mvi (i + 1) (nI v) (tp v) := by
          intro hcs
          right
          refine ⟨v, hv, rfl, rfl, hpos, fun j hj hb u hu e => ?_⟩
          by_cases hj2 : j = i
          · subst hj2
            rw [e6, nI_eq (by omega) (by omega)] at e
            subst e
            exact ⟨Nat.le_refl _, fun h => by omega⟩
          · rcases hI with ⟨a1, a2, a3⟩ | ⟨w, a1, a2, a3, a4, a5⟩
            · rw [a3 j (by omega) hb] at e
              exact absurd e.symm (nI_ne6 (by omega))
            · have := a5 j (by omega) hb u hu e
              rcases hcs with h1 | ⟨h1, w', hw1, hw2, hw3, hw4⟩
              · omega
              · rw [a2, nI_eq (by omega) (by omega)] at hw2
                omega
        rw [e6]
        unfold f_X0_mostPlayed_B45
        rw [HT v hv, Option.bind_some]
        unfold f_X0_mostPlayed_B83 f_X0_mostPlayed_B91 jlet
        dsimp only
        rw [nI_1]
        by_cases c1 : y < tp v
        · rw [if_pos (nI_lt c1 (by omega))]
          exact ih (i + 1) (nI v) (tp v) (by omega) (by omega) htv (hset (Or.inl c1))
        rw [if_neg (show ¬ nI y < nI (tp v) from fun e => by rw [nI_ltI (by omega) (by omega)] at e; exact c1 e), if_neg (show ¬ nI (tp v) ≤ (0 : Int32) from nI_ge (b := tp v) (a := 0) hpos (by omega))]
        rcases id hI with ⟨a1, a2, a3⟩ | ⟨w, a1, a2, a3, a4, a5⟩
        · omega
        have hno : (tp v < y ∨ w ≤ v) → MostI tp beg mvi (i + 1) x y := by
          intro hcs
          right
          refine ⟨w, a1, a2, a3, a4, fun j hj hb u hu e => ?_⟩
          by_cases hj2 : j = i
          · subst hj2
            rw [e6, nI_eq (by omega) (by omega)] at e
            subst e
            omega
          · exact a5 j (by omega) hb u hu e
        by_cases c2 : tp v = y
        · rw [if_pos (show nI (tp v) = nI y by rw [c2]), a2]
          by_cases c3 : w ≤ v
          · rw [if_pos (nI_le c3 (by omega)), ← a2]
            exact ih (i + 1) x y (by omega) (by omega) hy (hno (Or.inr c3))
          · rw [if_neg (nI_ge (by omega) (by omega))]
            exact ih (i + 1) (nI v) (tp v) (by omega) (by omega) htv (hset (Or.inr ⟨c2, w, a1, a2, by omega, a3⟩))
        · rw [if_neg (show ¬ nI (tp v) = nI y from fun e => by rw [nI_eq (by omega) (by omega)] at e; exact c2 e)]
          exact ih (i + 1) x y (by omega) (by omega) hy (hno (Or.inl (by omega)))
