/-! images: what the reference keeps and takes back, row by row -/
def pk (iw : Int32) (w k : Int32) : Int32 := if iw = 0 then k else w
def pkL (iw : Int32) (w k : Int64) : Int64 := if iw = 0 then k else w
theorem pass_m {a : Nat} (ha : a < 240) (iw : Int32) (kp : Nat → Int32) (v : Int32) : f_X10_pass (nI a) iw kp v = some (pk iw v (kp a), upd kp a (pk iw v (kp a)), nI (a + 1)) := by
  have n1 : ¬ (nI a < 0 ∨ 240 ≤ a) := by have := notin (i := a) (n := 240) ha (by omega); rw [nI_clamp (by omega)] at this; exact this
  have hB : ∀ x, f_X10_pass_B20 (nI a) kp x = some (x, upd kp a x, nI (a + 1)) := by
    intro x
    rw [f_X10_pass_B20, nI_clamp (by omega), if_neg n1, jle, jle, nI_1]
  rw [f_X10_pass, pk]
  by_cases h : iw = 0
  · rw [if_pos h, if_pos h, nI_clamp (by omega), if_neg n1, hB]
  · rw [if_neg h, if_neg h, hB]
theorem img_loop1 {n : Nat} (hn : n < 2) (iw : Int32) (bd : Int64) (by_ gr ol gs : Int32) (gv : Nat → Int32) : ∀ N g (gb : Nat → Int64) (gm rr : Nat → Int32) (kb : Nat → Int64) (kp : Nat → Int32), g ≤ 8 → 8 - g < N → ∃ gb' gm' rr' kb' kp', f_X10_passAll_L58 iw (nI n) N (nI g) bd by_ gr ol gs (nI (120 * n + 4 + 2 * g)) gb gm gv rr kb kp = f_X10_passAll_L151 iw (nI n) 100 0 bd by_ gr ol gs (nI (120 * n + 20)) gb' gm' gv rr' kb' kp' ∧ (∀ i, gm' i = if g ≤ i ∧ i < 8 then pk iw (gm i) (kp (120 * n + 4 + 2 * i)) else gm i) ∧ (∀ i, rr' i = if g ≤ i ∧ i < 8 then pk iw (rr i) (kp (120 * n + 5 + 2 * i)) else rr i) ∧ (∀ i, gb' i = if g ≤ i ∧ i < 8 then pkL iw (gb i) (kb (9 * n + i)) else gb i) ∧ (∀ i, g ≤ i → i < 8 → kp' (120 * n + 4 + 2 * i) = pk iw (gm i) (kp (120 * n + 4 + 2 * i)) ∧ kp' (120 * n + 5 + 2 * i) = pk iw (rr i) (kp (120 * n + 5 + 2 * i)) ∧ kb' (9 * n + i) = pkL iw (gb i) (kb (9 * n + i))) ∧ (∀ j, (j < 120 * n + 4 + 2 * g ∨ 120 * n + 20 ≤ j) → kp' j = kp j) ∧ ∀ j, (j < 9 * n + g ∨ 9 * n + 8 ≤ j) → kb' j = kb j := by
  intro N
  induction N with
  | zero => intro g gb gm rr kb kp _ h; omega
  | succ N ih =>
    intro g gb gm rr kb kp hg hN
    rw [f_X10_passAll_L58]
    by_cases he : g = 8
    · subst he
      rw [if_pos (show (8 : Int32) ≤ nI 8 by decide)]
      exact ⟨gb, gm, rr, kb, kp, rfl, fun i => by rw [if_neg (by omega)], fun i => by rw [if_neg (by omega)], fun i => by rw [if_neg (by omega)], fun i h1 h2 => absurd h2 (by omega), fun _ _ => rfl, fun _ _ => rfl⟩
    · have n1 : ¬ (nI g < 0 ∨ 8 ≤ g) := by have := notin (i := g) (n := 8) (by omega) (by omega); rw [nI_clamp (by omega)] at this; exact this
      have n2 : ¬ (nI (9 * n + g) < 0 ∨ 18 ≤ 9 * n + g) := by have := notin (i := 9 * n + g) (n := 18) (by omega) (by omega); rw [nI_clamp (by omega)] at this; exact this
      have e9 : (9 : Int32) * nI n + nI g = nI (9 * n + g) := by rw [show (9 : Int32) = nI 9 from rfl, nI_mul, nI_add]
      have hB : ∀ t2 : Int64, f_X10_passAll_B130 (f_X10_passAll_L58 iw (nI n) N) (nI g) bd by_ gr ol gs gb gv kb (upd gm g (pk iw (gm g) (kp (120 * n + 4 + 2 * g)))) (pk iw (rr g) (upd kp (120 * n + 4 + 2 * g) (pk iw (gm g) (kp (120 * n + 4 + 2 * g))) (120 * n + 4 + 2 * g + 1)), upd (upd kp (120 * n + 4 + 2 * g) (pk iw (gm g) (kp (120 * n + 4 + 2 * g)))) (120 * n + 4 + 2 * g + 1) (pk iw (rr g) (upd kp (120 * n + 4 + 2 * g) (pk iw (gm g) (kp (120 * n + 4 + 2 * g))) (120 * n + 4 + 2 * g + 1))), nI (120 * n + 4 + 2 * g + 1 + 1)) (upd rr g (pk iw (rr g) (upd kp (120 * n + 4 + 2 * g) (pk iw (gm g) (kp (120 * n + 4 + 2 * g))) (120 * n + 4 + 2 * g + 1)))) (nI (9 * n + g)) t2 = f_X10_passAll_L58 iw (nI n) N (nI (g + 1)) bd by_ gr ol gs (nI (120 * n + 4 + 2 * (g + 1))) (vp_updL gb g t2) (upd gm g (pk iw (gm g) (kp (120 * n + 4 + 2 * g)))) gv (upd rr g (pk iw (rr g) (kp (120 * n + 5 + 2 * g)))) (vp_updL kb (9 * n + g) t2) (upd (upd kp (120 * n + 4 + 2 * g) (pk iw (gm g) (kp (120 * n + 4 + 2 * g)))) (120 * n + 5 + 2 * g) (pk iw (rr g) (kp (120 * n + 5 + 2 * g)))) := by
        intro t2
        have e5 : upd kp (120 * n + 4 + 2 * g) (pk iw (gm g) (kp (120 * n + 4 + 2 * g))) (120 * n + 4 + 2 * g + 1) = kp (120 * n + 5 + 2 * g) := by rw [updI_at, if_neg (by omega)]; congr 1; omega
        rw [f_X10_passAll_B130, nI_clamp (show 9 * n + g < 2 ^ 31 by omega), if_neg n2, jle, if_neg n2, nI_clamp (show g < 2 ^ 31 by omega), if_neg n1, jle, jle, nI_1, e5, updL_at, if_pos rfl]
        dsimp only
        rw [show 120 * n + 4 + 2 * g + 1 + 1 = 120 * n + 4 + 2 * (g + 1) by omega, show 120 * n + 4 + 2 * g + 1 = 120 * n + 5 + 2 * g by omega]
      rw [if_neg (show ¬ (8 : Int32) ≤ nI g from nI_ge (b := 8) (by omega) (by omega)), nI_clamp (show g < 2 ^ 31 by omega), if_neg n1, pass_m (by omega), Option.bind_some, if_neg n1, jle, if_neg n1]
      dsimp only
      rw [pass_m (by omega), Option.bind_some, if_neg n1, jle, e9, jle, nI_clamp (show 9 * n + g < 2 ^ 31 by omega), if_neg n2, if_neg n1]
      dsimp only
      rw [hB, hB]
      have hite : ∀ {α : Type} (F : Int64 → α), (if iw = 0 then F (kb (9 * n + g)) else F (gb g)) = F (pkL iw (gb g) (kb (9 * n + g))) := by
        intro α F
        unfold pkL
        by_cases h : iw = 0
        · rw [if_pos h, if_pos h]
        · rw [if_neg h, if_neg h]
      rw [hite (fun t2 => f_X10_passAll_L58 iw (nI n) N (nI (g + 1)) bd by_ gr ol gs (nI (120 * n + 4 + 2 * (g + 1))) (vp_updL gb g t2) (upd gm g (pk iw (gm g) (kp (120 * n + 4 + 2 * g)))) gv (upd rr g (pk iw (rr g) (kp (120 * n + 5 + 2 * g)))) (vp_updL kb (9 * n + g) t2) (upd (upd kp (120 * n + 4 + 2 * g) (pk iw (gm g) (kp (120 * n + 4 + 2 * g)))) (120 * n + 5 + 2 * g) (pk iw (rr g) (kp (120 * n + 5 + 2 * g)))))]
      obtain ⟨gb', gm', rr', kb', kp', h1, h2, h3, h4, h5, h6, h7⟩ := ih (g + 1) (vp_updL gb g (pkL iw (gb g) (kb (9 * n + g)))) (upd gm g (pk iw (gm g) (kp (120 * n + 4 + 2 * g)))) (upd rr g (pk iw (rr g) (kp (120 * n + 5 + 2 * g)))) (vp_updL kb (9 * n + g) (pkL iw (gb g) (kb (9 * n + g)))) (upd (upd kp (120 * n + 4 + 2 * g) (pk iw (gm g) (kp (120 * n + 4 + 2 * g)))) (120 * n + 5 + 2 * g) (pk iw (rr g) (kp (120 * n + 5 + 2 * g)))) (by omega) (by omega)
      refine ⟨gb', gm', rr', kb', kp', h1, fun i => ?_, fun i => ?_, fun i => ?_, fun i hi1 hi2 => ?_, fun j hj => ?_, fun j hj => ?_⟩
      · rw [h2 i]
        by_cases e : i = g
        · subst e
          rw [if_neg (by omega), if_pos (by omega), updI_at, if_pos rfl]
        · by_cases c : g + 1 ≤ i ∧ i < 8
          · rw [if_pos c, if_pos (by omega), updI_at, if_neg e, updI_at, if_neg (by omega), updI_at, if_neg (by omega)]
          · rw [if_neg c, if_neg (by omega), updI_at, if_neg e]
      · rw [h3 i]
        by_cases e : i = g
        · subst e
          rw [if_neg (by omega), if_pos (by omega), updI_at, if_pos rfl]
        · by_cases c : g + 1 ≤ i ∧ i < 8
          · rw [if_pos c, if_pos (by omega), updI_at, if_neg e, updI_at, if_neg (by omega), updI_at, if_neg (by omega)]
          · rw [if_neg c, if_neg (by omega), updI_at, if_neg e]
      · rw [h4 i]
        by_cases e : i = g
        · subst e
          rw [if_neg (by omega), if_pos (by omega), updL_at, if_pos rfl]
        · by_cases c : g + 1 ≤ i ∧ i < 8
          · rw [if_pos c, if_pos (by omega), updL_at, if_neg e, updL_at, if_neg (by omega)]
          · rw [if_neg c, if_neg (by omega), updL_at, if_neg e]
      · by_cases e : i = g
        · subst e
          rw [h6 _ (by omega), h6 _ (by omega), h7 _ (by omega), updI_at, if_neg (by omega), updI_at, if_pos rfl, updI_at, if_pos rfl, updL_at, if_pos rfl]
          exact ⟨rfl, rfl, rfl⟩
        · obtain ⟨q1, q2, q3⟩ := h5 i (by omega) hi2
          rw [q1, q2, q3, updI_at, if_neg e, updI_at, if_neg (by omega), updI_at, if_neg (by omega), updI_at, if_neg e, updI_at, if_neg (by omega), updI_at, if_neg (by omega), updL_at, if_neg e, updL_at, if_neg (by omega)]
          exact ⟨rfl, rfl, rfl⟩
      · rw [h6 j (by omega), updI_at, if_neg (by omega), updI_at, if_neg (by omega)]
      · rw [h7 j (by omega), updL_at, if_neg (by omega)]
