theorem most_m_loop {n k : Nat} {st : Int64} {pd : Nat → Int32} {gb : Nat → Int64} {gm gv : Nat → Int32} (wh x2 x3 x4 : Int32) (tp : Nat → Nat) (ht : ∀ v, tp v ≤ 8) (H : ∀ v, v < 2500 → f_X10_goOnWith st (nI k) (nI n) pd gb gm gv (nI v) = some (nI (tp v))) : ∀ N v x y, v ≤ 2500 → 2500 - v < N → y ≤ 8 → ((y = 0 ∧ x = -6 ∧ ∀ u, u < v → tp u = 0) ∨ ∃ w, w < v ∧ x = nI w ∧ y = tp w ∧ 0 < y ∧ ∀ u, u < v → tp u ≤ y ∧ (u < w → tp u < y)) → ∃ x' y', y' ≤ 8 ∧ ((y' = 0 ∧ x' = -6 ∧ ∀ u, u < 2500 → tp u = 0) ∨ ∃ w, w < 2500 ∧ x' = nI w ∧ y' = tp w ∧ 0 < y' ∧ ∀ u, u < 2500 → tp u ≤ y' ∧ (u < w → tp u < y')) ∧ f_X10_next_L131 st (nI k) (nI n) pd gb gm gv wh x2 x3 x4 N x (nI y) (nI v) = some (if wh = 0 then x2 else if wh = 1 then x3 else if wh = 2 then x4 else if wh = 3 then x' else nI y') := by
  intro N
  induction N with
  | zero => intro v x y _ hN; omega
  | succ N ih =>
    intro v x y hv hN hy hI
    rw [f_X10_next_L131]
    by_cases he : v = 2500
    · subst he
      refine ⟨x, y, hy, hI, ?_⟩
      rw [if_pos (show (2500 : Int32) ≤ nI 2500 by decide)]
      split
      · rfl
      · split
        · rfl
        · split
          · rfl
          · split <;> rfl
    · have htv := ht v
      rw [if_neg (show ¬ (2500 : Int32) ≤ nI v from nI_ge (b := 2500) (by omega) (by omega)), H v (by omega), Option.bind_some]
      unfold f_X10_next_B162 jlet
      dsimp only
      rw [nI_1]
      by_cases hc : tp v ≤ y
      · rw [if_pos (nI_le hc (by omega))]
        refine ih (v + 1) x y (by omega) (by omega) hy ?_
        rcases hI with ⟨a1, a2, a3⟩ | ⟨w, a1, a2, a3, a4, a5⟩
        · left
          refine ⟨a1, a2, fun u hu => ?_⟩
          by_cases hu2 : u = v
          · subst hu2; omega
          · exact a3 u (by omega)
        · right
          refine ⟨w, by omega, a2, a3, a4, fun u hu => ?_⟩
          by_cases hu2 : u = v
          · subst hu2; exact ⟨hc, fun e => by omega⟩
          · exact a5 u (by omega)
      · rw [if_neg (nI_ge (by omega) (by omega))]
        refine ih (v + 1) (nI v) (tp v) (by omega) (by omega) htv ?_
        right
        refine ⟨v, by omega, rfl, rfl, by omega, fun u hu => ?_⟩
        by_cases hu2 : u = v
        · subst hu2; exact ⟨Nat.le_refl _, fun e => by omega⟩
        · rcases hI with ⟨a1, a2, a3⟩ | ⟨w, a1, a2, a3, a4, a5⟩
          · have := a3 u (by omega)
            omega
          · have := a5 u (by omega)
            omega
