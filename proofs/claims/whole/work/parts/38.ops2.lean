/-! youth, who is blocked, moves -/
def ysum (o : Nat) (f : Nat → Nat) (m : Nat) : Nat := if f m % 32 = 31 then 0 else o - f m / 32
def bsum (b g o : Nat) (f : Nat → Nat) (m : Nat) : Nat := if f m % 32 = 31 then 0 else if mvM b g o f m = true then 0 else 1
theorem jmax_sub : ∀ o, o < 10 → ∀ a, a < 16 → jmax 0 (nI o - nI a) = nI (o - a) := by decide +kernel
theorem youthOf_c {o : Nat} {f : Nat → Nat} {t s : Nat} (ho : o ≤ 9) (h : Wf f t) (hs : s < 2) : f_X5_youthOf (nI o) (enc f t) (nI s) = some (nI (ysum o f (3 * s) + ysum o f (3 * s + 1) + ysum o f (3 * s + 2))) := by
  have e3 := (three_s s hs).2.2.2.1
  have hd := h.dig
  have st : ∀ n i x, i < 3 → f_X5_youthOf_L8 (nI o) (enc f t) (nI s) (n + 1) (nI x) (nI (3 * s + i)) = f_X5_youthOf_L8 (nI o) (enc f t) (nI s) n (nI (x + ysum o f (3 * s + i))) (nI (3 * s + (i + 1))) := by
    intro n i x hi
    rw [f_X5_youthOf_L8, e3, if_neg (nI_ge (by omega) (by omega)), isUp_c hd (by omega)]
    unfold f_X5_youthOf_B47 jlet ysum
    dsimp only
    rw [nI_1]
    by_cases hu : f (3 * s + i) % 32 = 31
    · rw [if_pos hu, if_pos rfl, if_pos hu]; rfl
    · have hcl := h.cell (m := 3 * s + i) (by omega) hu
      rw [if_neg hu, if_neg (by decide), if_neg hu, ageOf_c hd (by omega), jmax_sub o (by omega) _ (by omega), nI_add]; rfl
  have fin : ∀ n x, f_X5_youthOf_L8 (nI o) (enc f t) (nI s) (n + 1) x (nI (3 * s + 3)) = some x := by
    intro n x
    rw [f_X5_youthOf_L8, e3, if_pos (nI_le (by omega) (by omega))]
  unfold f_X5_youthOf jlet
  dsimp only
  rw [(three_s s hs).1]
  show f_X5_youthOf_L8 (nI o) (enc f t) (nI s) (99 + 1) (nI 0) (nI (3 * s + 0)) = _
  rw [st 99 0 _ (by omega), st 98 1 _ (by omega), st 97 2 _ (by omega), fin 96]
  simp only [Nat.add_zero, Nat.zero_add]
theorem countBlocked_c {b g o : Nat} {f : Nat → Nat} {t s : Nat} (hL : Lw b g o) (h : Wf f t) (hs : s < 2) : f_X5_countBlocked (nI b) (nI g) (nI o) (enc f t) (nI s) = some (nI (bsum b g o f (3 * s) + bsum b g o f (3 * s + 1) + bsum b g o f (3 * s + 2))) := by
  have e3 := (three_s s hs).2.2.2.1
  have e5 := (three_s s hs).2.2.2.2
  have hd := h.dig
  have st : ∀ n i x, i < 3 → f_X5_countBlocked_L27 (nI b) (nI g) (nI o) (enc f t) (nI s) (cellsS f s) (allS f s) (n + 1) (nI x) (nI (3 * s + i)) = f_X5_countBlocked_L27 (nI b) (nI g) (nI o) (enc f t) (nI s) (cellsS f s) (allS f s) n (nI (x + bsum b g o f (3 * s + i))) (nI (3 * s + (i + 1))) := by
    intro n i x hi
    rw [f_X5_countBlocked_L27, e3, if_neg (nI_ge (by omega) (by omega)), isUp_c hd (by omega), tg_side hL h hs hi, Option.bind_some]
    unfold f_X5_countBlocked_B72 jlet bsum
    dsimp only
    rw [nI_1, nI_1]
    by_cases hu : f (3 * s + i) % 32 = 31
    · rw [if_pos hu, if_pos rfl, if_pos hu]; rfl
    · rw [if_neg hu, if_neg (by decide), if_neg hu]
      simp only [tgM_zero (b := b) (g := g) (o := o) h (show 3 * s + i < 6 by omega)]
      cases mvM b g o f (3 * s + i) <;> rfl
  have fin : ∀ n x, f_X5_countBlocked_L27 (nI b) (nI g) (nI o) (enc f t) (nI s) (cellsS f s) (allS f s) (n + 1) x (nI (3 * s + 3)) = some x := by
    intro n x
    rw [f_X5_countBlocked_L27, e3, if_pos (nI_le (by omega) (by omega))]
  unfold f_X5_countBlocked
  rw [e5, cellsOf_c h.dig hs, cellsOf_c h.dig (by omega), Option.bind_some, Option.bind_some]
  unfold jlet
  dsimp only
  rw [(three_s s hs).1]
  show f_X5_countBlocked_L27 (nI b) (nI g) (nI o) (enc f t) (nI s) (cellsS f s) (allS f s) (99 + 1) (nI 0) (nI (3 * s + 0)) = _
  rw [st 99 0 _ (by omega), st 98 1 _ (by omega), st 97 2 _ (by omega), fin 96]
  simp only [Nat.add_zero, Nat.zero_add]
theorem youth_m {b g o : Nat} {f : Nat → Nat} {t s : Nat} (hL : Lw b g o) (h : Wf f t) (hs : s < 2) (wh : Int32) (hw : wh = 0 ∨ wh = 1) : f_X10_youth (enc f t) (nI b) (nI g) (nI o) (nI s) wh = some (if wh = 0 then nI (ysum o f (3 * s) + ysum o f (3 * s + 1) + ysum o f (3 * s + 2)) else nI (bsum b g o f (3 * s) + bsum b g o f (3 * s + 1) + bsum b g o f (3 * s + 2))) := by
  have e3 := (three_s s hs).2.2.2.1
  have hd := h.dig
  have ho : o ≤ 9 := hL.2.2
  have st : ∀ n i x z, i < 3 → f_X10_youth_L33 (enc f t) (nI b) (nI g) (nI o) (nI s) wh (n + 1) (nI x) (nI z) (nI (3 * s + i)) = f_X10_youth_L33 (enc f t) (nI b) (nI g) (nI o) (nI s) wh n (nI (x + ysum o f (3 * s + i))) (nI (z + bsum b g o f (3 * s + i))) (nI (3 * s + (i + 1))) := by
    intro n i x z hi
    rw [f_X10_youth_L33, e3, if_neg (nI_ge (by omega) (by omega))]
    simp only [cell31_m hd (show 3 * s + i < 6 by omega)]
    unfold ysum bsum
    by_cases hu : f (3 * s + i) % 32 = 31
    · rw [if_pos hu, if_pos hu, if_pos hu]
      unfold f_X10_youth_B114 jlet
      dsimp only
      rw [nI_1]; rfl
    · have hcl := h.cell (m := 3 * s + i) (by omega) hu
      rw [if_neg hu, if_neg hu, if_neg hu]
      unfold jlet
      dsimp only
      rw [ageOf_m hd (by omega)]
      have B : ∀ q, f_X10_youth_B89 (f_X10_youth_L33 (enc f t) (nI b) (nI g) (nI o) (nI s) wh n) (enc f t) (nI b) (nI g) (nI o) (nI x) (nI z) (nI (3 * s + i)) (nI q) = f_X10_youth_L33 (enc f t) (nI b) (nI g) (nI o) (nI s) wh n (nI (x + q)) (nI (z + if mvM b g o f (3 * s + i) = true then 0 else 1)) (nI (3 * s + (i + 1))) := by
        intro q
        unfold f_X10_youth_B89 f_X10_youth_B114 jlet
        dsimp only
        rw [manMoves_m hL h (by omega), Option.bind_some, nI_add, nI_1, nI_1]
        cases mvM b g o f (3 * s + i)
        · rw [if_pos (by rfl)]; rfl
        · rw [if_neg (by decide)]
          simp
          rfl
      by_cases hle : o ≤ f (3 * s + i) / 32
      · rw [if_pos (nI_le hle (by omega))]
        rw [show (0 : Int32) = nI 0 from rfl, B 0, show o - f (3 * s + i) / 32 = 0 by omega]
      · rw [if_neg (nI_ge (by omega) (by omega)), nI_sub (by omega), B]
  have fin : ∀ n x z, f_X10_youth_L33 (enc f t) (nI b) (nI g) (nI o) (nI s) wh (n + 1) x z (nI (3 * s + 3)) = some (if wh = 0 then x else z) := by
    intro n x z
    rw [f_X10_youth_L33, e3, if_pos (nI_le (by omega) (by omega))]
    split <;> rfl
  unfold f_X10_youth
  rw [in01, in01, if_neg (by have : s = 0 ∨ s = 1 := by omega
                             rcases this with rfl | rfl <;> decide), if_neg (by rcases hw with rfl | rfl <;> decide)]
  unfold jlet
  dsimp only
  rw [(three_s s hs).1]
  show f_X10_youth_L33 (enc f t) (nI b) (nI g) (nI o) (nI s) wh (99 + 1) (nI 0) (nI 0) (nI (3 * s + 0)) = _
  rw [st 99 0 _ _ (by omega), st 98 1 _ _ (by omega), st 97 2 _ _ (by omega), fin 96]
  simp only [Nat.add_zero, Nat.zero_add]
theorem op_youth {b g o : Nat} {f : Nat → Nat} {t : Nat} (hL : Lw b g o) (h : Wf f t) (sd wh : Int32) : ∃ r, f_X9_youth (enc f t) (nI b) (nI g) (nI o) sd wh = some r ∧ f_X10_youth (enc f t) (nI b) (nI g) (nI o) sd wh = some r := by
  have side : ∀ s, s < 2 → ∃ r, f_X9_youth_B9 (enc f t) (nI b) (nI g) (nI o) (nI s) wh = some r ∧ f_X10_youth (enc f t) (nI b) (nI g) (nI o) (nI s) wh = some r := by
    intro s hs
    by_cases w0 : wh = 0
    · refine ⟨_, ?_, youth_m hL h hs wh (Or.inl w0)⟩
      unfold f_X9_youth_B9 f_X9_youth_B21
      rw [if_pos w0, if_pos w0, if_pos w0, youthOf_c hL.2.2 h hs]; rfl
    by_cases w1 : wh = 1
    · refine ⟨_, ?_, youth_m hL h hs wh (Or.inr w1)⟩
      unfold f_X9_youth_B9 f_X9_youth_B21
      rw [if_neg w0, if_pos w1, if_neg w0, if_neg w0, countBlocked_c hL h hs]; rfl
    · refine ⟨-2, ?_, ?_⟩
      · unfold f_X9_youth_B9; rw [if_neg w0, if_neg w1]
      · unfold f_X10_youth
        rw [in01, in01, if_neg (by have : s = 0 ∨ s = 1 := by omega
                                   rcases this with rfl | rfl <;> decide)]
        simp [w0, w1, b2i]
  by_cases h0 : sd = 0
  · subst h0
    obtain ⟨r, h1, h2⟩ := side 0 (by omega)
    exact ⟨r, by unfold f_X9_youth; rw [if_pos rfl]; exact h1, h2⟩
  by_cases h1 : sd = 1
  · subst h1
    obtain ⟨r, h1, h2⟩ := side 1 (by omega)
    exact ⟨r, by unfold f_X9_youth; rw [if_neg (by decide), if_pos rfl]; exact h1, h2⟩
  · refine ⟨-2, ?_, ?_⟩
    · unfold f_X9_youth; rw [if_neg h0, if_neg h1]
    · unfold f_X10_youth; rw [in01]; simp [h0, h1, b2i]
/-- a move as told -/
def told1 (f : Nat → Nat) (q : Nat × Nat) : Int32 := nI (100 * (f q.1 % 32) + q.2)
theorem asTold_c {f : Nat → Nat} {t m c : Nat} (h : Dig f t) (hm : m < 6) (hc : c < 32) : f_X8_asTold (enc f t) (code1 m c) = told1 f (m, c) := by
  unfold f_X8_asTold told1
  rw [(cod_dec m hm c hc).1, (cod_dec m hm c hc).2, cellOf_c h hm, show (100 : Int32) = nI 100 from rfl, nI_mul, nI_add]
theorem moveNumber_m {f : Nat → Nat} {t : Nat} (h : Dig f t) {A B : Nat → Int32} {L : List (Nat × Nat)} {i : Nat} (hi : i < L.length) (hL : L.length ≤ 24) (hm : L[i].1 < 6) (hA : A i = nI L[i].1) (hB : B i = nI L[i].2) : f_X10_moveNumber A B (enc f t) (nI i) = some (told1 f L[i]) := by
  unfold f_X10_moveNumber told1
  have hin : ¬ (nI i < 0 ∨ 75 ≤ (nI i).toNatClampNeg) := nI_in (by omega) (by omega)
  rw [if_neg hin, if_neg hin, nI_clamp (by omega), hA, hB, cellOf_m h hm, show (100 : Int32) = nI 100 from rfl, nI_mul, nI_add]
theorem wrL_map {α : Type} {ra : Nat → Int32} {L : List α} {g : α → Int32} {p i : Nat} (hi : i < L.length) : wrL ra p (L.map g) (p + i) = g L[i] := by
  rw [wrL_at (L.map g) p i (by simpa using hi)]
  simp
theorem i32_cases (x : Int32) : x < 0 ∨ ∃ j : Nat, j < 2 ^ 31 ∧ x = nI j := by
  by_cases h : x < 0
  · exact Or.inl h
  · exact Or.inr (nI_of h)
theorem op_moves {b g o : Nat} {f : Nat → Nat} {t : Nat} (hL : Lw b g o) (h : Wf f t) (ii : Int32) (ra A B : Nat → Int32) : ∃ r ra2 q, f_X9_moves (enc f t) (nI b) (nI g) (nI o) ra ii = some (r, ra2) ∧ f_X10_moves (enc f t) (nI b) (nI g) (nI o) A B ii = some (r, q) := by
  have hlen := mvs_len (b := b) (g := g) (o := o) h
  have hx : f_X5_list (nI b) (nI g) (nI o) ra 24 (enc f t) 0 = some (nI (mvs b g o f t).length, wrL ra 0 ((mvs b g o f t).map cod)) := list_c (ra := ra) hL h (sa := 0) (rn := 24) (by omega) (by omega)
  have hy := findMoves_m (A := A) (B := B) hL h
  unfold f_X9_moves f_X10_moves
  rw [hx, hy, Option.bind_some, Option.bind_some]
  unfold jlet
  dsimp only
  by_cases h1 : ii = -1
  · rw [if_pos h1, if_pos h1]; exact ⟨_, _, _, rfl, rfl⟩
  rw [if_neg h1, if_neg h1]
  have hin : f_X10_in ii.toInt64 0 (nI (mvs b g o f t).length - 1).toInt64 = b2i (decide ((0 : Int32) ≤ ii) && decide (ii ≤ nI (mvs b g o f t).length - 1)) := in3 ii 0 _
  rcases i32_cases ii with hneg | ⟨j, hj, rfl⟩
  · rw [if_pos hneg]
    refine ⟨-6, _, (nI (mvs b g o f t).length, wrL A 0 ((mvs b g o f t).map (fun q => nI q.1)), wrL B 0 ((mvs b g o f t).map (fun q => nI q.2))), rfl, ?_⟩
    have h0 : ¬ (0 : Int32) ≤ ii := Int32.not_le.mpr hneg
    rw [hin]
    simp [h0, b2i]
  · rw [if_neg (nI_pos hj)]
    by_cases hjl : (mvs b g o f t).length ≤ j
    · rw [if_pos (nI_le hjl hj)]
      refine ⟨-6, _, (nI (mvs b g o f t).length, wrL A 0 ((mvs b g o f t).map (fun q => nI q.1)), wrL B 0 ((mvs b g o f t).map (fun q => nI q.2))), rfl, ?_⟩
      have h2 : ¬ nI j ≤ nI (mvs b g o f t).length - 1 := by
        by_cases hz : (mvs b g o f t).length = 0
        · rw [hz]
          intro h3
          have h4 : nI 0 - 1 < (0 : Int32) := by decide
          have h5 : nI j < 0 := Int32.lt_of_le_of_lt h3 h4
          exact nI_pos hj h5
        · rw [show (1 : Int32) = nI 1 from rfl, nI_sub (by omega)]
          exact nI_ge (by omega) hj
      rw [hin]
      simp [h2, b2i]
    · have hjl2 : j < (mvs b g o f t).length := by omega
      rw [if_neg (nI_ge (by omega) (by omega)), if_pos (show nI j < (24 : Int32) from nI_lt (b := 24) (by omega) (by omega)), if_neg (show ¬ (nI j < 0 ∨ 24 ≤ (nI j).toNatClampNeg) from nI_in (by omega) (by omega)), nI_clamp hj]
      have hmem := mvs_mem h.1 (show ((mvs b g o f t)[j].1, (mvs b g o f t)[j].2) ∈ mvs b g o f t from List.getElem_mem hjl2)
      have e1 : wrL ra 0 ((mvs b g o f t).map cod) j = cod (mvs b g o f t)[j] := by
        have := wrL_map (ra := ra) (L := mvs b g o f t) (g := cod) (p := 0) (i := j) hjl2
        rwa [Nat.zero_add] at this
      have e2 : wrL A 0 ((mvs b g o f t).map (fun q => nI q.1)) j = nI (mvs b g o f t)[j].1 := by
        have := wrL_map (ra := A) (L := mvs b g o f t) (g := fun q => nI q.1) (p := 0) (i := j) hjl2
        rwa [Nat.zero_add] at this
      have e3 : wrL B 0 ((mvs b g o f t).map (fun q => nI q.2)) j = nI (mvs b g o f t)[j].2 := by
        have := wrL_map (ra := B) (L := mvs b g o f t) (g := fun q => nI q.2) (p := 0) (i := j) hjl2
        rwa [Nat.zero_add] at this
      rw [e1]
      unfold cod
      rw [asTold_c h.dig hmem.1 (by omega)]
      refine ⟨_, _, (nI (mvs b g o f t).length, wrL A 0 ((mvs b g o f t).map (fun q => nI q.1)), wrL B 0 ((mvs b g o f t).map (fun q => nI q.2))), rfl, ?_⟩
      have h2 : nI j ≤ nI (mvs b g o f t).length - 1 := by
        rw [show (1 : Int32) = nI 1 from rfl, nI_sub (by omega)]
        exact nI_le (by omega) (by omega)
      have h3 : (0 : Int32) ≤ nI j := nI_pos' hj
      rw [hin, moveNumber_m h.dig hjl2 hlen hmem.1 e2 e3]
      simp [h2, h3, b2i]
