/-! fault, lay, judge, play, like, wipe, law -/
theorem nI_ne6 {j : Nat} (hj : j < 2 ^ 31) : ¬ nI j = -6 := by
  intro e
  have := nI_pos' (n := j) hj
  rw [e] at this
  exact absurd this (by decide)
theorem op_fault {k : Nat} {P : Nat → Nat} {ps pm : Int32} {sg pd : Nat → Int32} (h : PadR k P ps sg pm pd) (mrd : Int64) (hw : Int32) : ∃ r q, f_X9_fault ps sg hw = some r ∧ f_X10_fault pm mrd pd hw = some (r, q) := by
  unfold f_X9_fault f_X10_fault f_X9_fault_B12
  by_cases h0 : hw = 0
  · obtain ⟨r, rd, h1, h2, -⟩ := board_cm h
    rw [if_pos h0, if_pos h0, if_pos h0, h1, h2]
    exact ⟨r, rd, rfl, rfl⟩
  rw [if_neg h0, if_neg h0, if_neg h0]
  by_cases h1 : hw = 1
  · obtain ⟨r, g1, g2, -⟩ := gameFault_cm h
    rw [if_pos h1, if_pos h1, g1, g2]
    exact ⟨r, mrd, rfl, rfl⟩
  · rw [if_neg h1, if_neg h1]
    exact ⟨-2, mrd, rfl, rfl⟩
theorem pad0 {k : Nat} {P : Nat → Nat} {ps pm : Int32} {sg pd : Nat → Int32} (h : PadR k P ps sg pm pd) : PadR 0 P 0 sg 0 pd := ⟨by omega, rfl, rfl, fun i hi => by omega⟩
theorem op_lay {k : Nat} {P : Nat → Nat} {ps pm : Int32} {sg pd : Nat → Int32} (h : PadR k P ps sg pm pd) {f : Nat → Nat} {t : Nat} (hw : Wf f t) : ∃ r f2 t2 k2 ps2 pm2 q, Wf f2 t2 ∧ PadR k2 P ps2 sg pm2 pd ∧ f_X9_lay (enc f t) ps sg = some (r, enc f2 t2, ps2) ∧ f_X10_lay (enc f t) pm pd = some (r, enc f2 t2, pm2, q) := by
  obtain ⟨r, rd, h1, h2, h3⟩ := board_cm h
  unfold f_X9_lay f_X10_lay
  rw [h1, h2, Option.bind_some, Option.bind_some]
  rcases h3 with ⟨j, hj, rfl⟩ | ⟨rfl, f2, t2, hw2, rfl, hb⟩
  · have := h.1
    rw [if_neg (nI_ne6 (by omega)), if_neg (nI_pos (by omega))]
    exact ⟨-5, f, t, k, ps, pm, rd, hw, h, rfl, rfl⟩
  · rw [if_pos rfl, if_pos (show ((-6 : Int32), enc f2 t2).1 < 0 from (by decide : (-6 : Int32) < 0)), hb, Option.bind_some]
    unfold jlet f_X3_clear
    dsimp only
    rw [countMen_c hw2, standing_m hw2.dig]
    exact ⟨_, f2, t2, 0, 0, 0, enc f2 t2, hw2, pad0 h, rfl, rfl⟩
theorem op_judge {b g o k : Nat} {P : Nat → Nat} {ps pm : Int32} {sg pd : Nat → Int32} (hL : Lw b g o) (h : PadR k P ps sg pm pd) {f : Nat → Nat} {t : Nat} (hw : Wf f t) (jb jr mb mw : Int32) (je ml : Int64) (wh : Int32) : ∃ r a q, f_X9_judge (enc f t) ps sg (nI b) (nI g) (nI o) jb jr je wh = some (r, a) ∧ f_X10_judge (enc f t) (nI b) (nI g) (nI o) pm mb mw ml pd wh = some (r, q) := by
  obtain ⟨r, g1, g2, g3⟩ := gameFault_cm h
  have hk := h.1
  unfold f_X9_judge f_X10_judge
  rw [in01]
  by_cases hwh : wh = 0 ∨ wh = 1
  rotate_left 1
  · have h0 : ¬ wh = 0 := fun e => hwh (Or.inl e)
    have h1 : ¬ wh = 1 := fun e => hwh (Or.inr e)
    rw [if_neg h0, if_neg h1]
    refine ⟨-2, (jb, jr, je), (ml, mb, mw), rfl, ?_⟩
    simp [h0, h1, b2i]
  have hb : ¬ b2i (decide (wh = 0) || decide (wh = 1)) = 0 := by rcases hwh with e | e <;> subst e <;> decide
  have hc : (if wh = 0 then f_X9_judge_B12 (enc f t) ps sg (nI b) (nI g) (nI o) jb jr je wh else if wh = 1 then f_X9_judge_B12 (enc f t) ps sg (nI b) (nI g) (nI o) jb jr je wh else some (-2, jb, jr, je)) = f_X9_judge_B12 (enc f t) ps sg (nI b) (nI g) (nI o) jb jr je wh := by
    rcases hwh with e | e
    · rw [if_pos e]
    · by_cases e0 : wh = 0
      · rw [if_pos e0]
      · rw [if_neg e0, if_pos e]
  rw [hc, if_neg hb]
  unfold f_X9_judge_B12
  rw [g1, g2, Option.bind_some, Option.bind_some]
  rcases g3 with ⟨rfl, hg⟩ | ⟨j, hj, rfl⟩
  rotate_left 1
  · rw [if_neg (nI_ne6 (by omega)), if_neg (nI_pos (by omega))]
    exact ⟨-5, (jb, jr, je), (ml, mb, mw), rfl, rfl⟩
  rw [if_pos rfl, if_pos (by decide)]
  unfold f_X2_passes f_X10_goGame
  rcases game_loop hL h hg 100 0 f t jb jr (-6) (-6) hw (by omega) (by omega) with ⟨f2, t2, w2, l1, l2⟩ | ⟨f2, t2, j, w, w2, l1, l2⟩
  · have l1' : f_X2_passes_L8 (nI b) (nI g) (nI o) ps sg 100 0 jb jr (enc f t) = _ := l1
    have l2' : f_X10_goGame_L22 (nI b) (nI g) (nI o) pm pd 100 0 (-6) (-6) (enc f t) = _ := l2
    rw [l1', l2', Option.bind_some, Option.bind_some]
    dsimp only
    rw [if_neg (show ¬ (1 : Int32) = 0 by decide)]
    by_cases e0 : wh = 0
    · rw [if_pos e0]; exact ⟨_, _, (enc f2 t2, -6, -6), rfl, rfl⟩
    · rw [if_neg e0]; exact ⟨_, _, (enc f2 t2, -6, -6), rfl, rfl⟩
  · have l1' : f_X2_passes_L8 (nI b) (nI g) (nI o) ps sg 100 0 jb jr (enc f t) = _ := l1
    have l2' : f_X10_goGame_L22 (nI b) (nI g) (nI o) pm pd 100 0 (-6) (-6) (enc f t) = _ := l2
    rw [l1', l2', Option.bind_some, Option.bind_some]
    dsimp only
    rw [if_pos (show (0 : Int32) = 0 from rfl)]
    by_cases e0 : wh = 0
    · rw [if_pos e0, if_pos e0]; exact ⟨_, _, (enc f2 t2, nI j, w), rfl, rfl⟩
    · rw [if_neg e0, if_neg e0]; exact ⟨_, _, (enc f2 t2, nI j, w), rfl, rfl⟩
theorem op_play {b g o k : Nat} {P : Nat → Nat} {ps pm : Int32} {sg pd : Nat → Int32} (hL : Lw b g o) (h : PadR k P ps sg pm pd) {f : Nat → Nat} {t : Nat} (hw : Wf f t) (jb jr mb mw : Int32) (je ml : Int64) : ∃ r f2 t2 k2 ps2 pm2 a q, Wf f2 t2 ∧ PadR k2 P ps2 sg pm2 pd ∧ f_X9_play (enc f t) ps sg (nI b) (nI g) (nI o) jb jr je = some (r, enc f2 t2, ps2, a) ∧ f_X10_play (enc f t) (nI b) (nI g) (nI o) pm mb mw ml pd = some (r, enc f2 t2, pm2, q) := by
  obtain ⟨r, g1, g2, g3⟩ := gameFault_cm h
  obtain ⟨hk, e1, e2, -⟩ := id h
  unfold f_X9_play f_X10_play f_X9_gameIsGood
  rw [g1, g2, Option.bind_some, Option.bind_some]
  rcases g3 with ⟨rfl, hg⟩ | ⟨j, hj, rfl⟩
  rotate_left 1
  · rw [if_neg (nI_ne6 (by omega)), if_pos (nI_pos' (by omega)), Option.bind_some]
    dsimp only
    rw [if_pos (show (0 : Int32) = 0 from rfl)]
    exact ⟨-5, f, t, k, ps, pm, (jb, jr, je), (ml, mb, mw), hw, h, rfl, rfl⟩
  rw [if_pos rfl, if_neg (by decide)]
  unfold f_X2_passes f_X10_goGame
  rcases game_loop hL h hg 100 0 f t jb jr (-6) (-6) hw (by omega) (by omega) with ⟨f2, t2, w2, l1, l2⟩ | ⟨f2, t2, j, w, w2, l1, l2⟩
  · have l1' : f_X2_passes_L8 (nI b) (nI g) (nI o) ps sg 100 0 jb jr (enc f t) = _ := l1
    have l2' : f_X10_goGame_L22 (nI b) (nI g) (nI o) pm pd 100 0 (-6) (-6) (enc f t) = _ := l2
    rw [l1', l2', Option.bind_some, Option.bind_some]
    dsimp only
    rw [if_neg (show ¬ (1 : Int32) = 0 by decide), Option.bind_some]
    dsimp only
    rw [if_neg (show ¬ (1 : Int32) = 0 by decide), if_neg (show ¬ (1 : Int32) = 0 by decide), e1, e2]
    exact ⟨_, f2, t2, 0, 0, 0, (jb, jr, enc f2 t2), (enc f2 t2, -6, -6), w2, pad0 h, rfl, rfl⟩
  · have l1' : f_X2_passes_L8 (nI b) (nI g) (nI o) ps sg 100 0 jb jr (enc f t) = _ := l1
    have l2' : f_X10_goGame_L22 (nI b) (nI g) (nI o) pm pd 100 0 (-6) (-6) (enc f t) = _ := l2
    rw [l1', l2', Option.bind_some, Option.bind_some]
    dsimp only
    rw [if_pos (show (0 : Int32) = 0 from rfl), Option.bind_some]
    dsimp only
    rw [if_pos (show (0 : Int32) = 0 from rfl), if_pos (show (0 : Int32) = 0 from rfl)]
    exact ⟨-5, f, t, k, ps, pm, (nI j, w, enc f2 t2), (enc f2 t2, nI j, w), hw, h, rfl, rfl⟩
theorem like_loop {f : Nat → Nat} {t : Nat} (hw : Wf f t) (r0 : Int32) (rd : Int64) : ∀ n w x, w ≤ 4 → 4 - w < n → ∃ r, f_X9_like_L28 (enc f t) rd n x (nI w) = some r ∧ f_X10_like_L14 (enc f t) (r0, rd) n x (nI w) = some (r, rd) := by
  intro n
  induction n with
  | zero => intro w x _ hn; omega
  | succ n ih =>
    intro w x hw4 hn
    rw [f_X9_like_L28, f_X10_like_L14]
    by_cases h4 : w = 4
    · subst h4
      have hc : (4 : Int32) ≤ nI 4 := nI_le (a := 4) (b := 4) (by omega) (by omega)
      rw [if_pos hc, if_pos hc]
      exact ⟨x, rfl, rfl⟩
    · have hc : ¬ (4 : Int32) ≤ nI w := nI_ge (b := 4) (by omega) (by omega)
      rw [if_neg hc, if_neg hc, mirrored_c hw (by omega), mirrored_m hw (by omega), Option.bind_some, Option.bind_some]
      unfold f_X9_like_B55 f_X10_like_B43 jlet
      dsimp only
      rw [nI_1]
      by_cases he : lg_cmp (enc (mirF w f) t) rd = 0
      · rw [if_pos he, if_pos he]; exact ih (w + 1) _ (by omega) (by omega)
      · rw [if_neg he, if_neg he, show x ||| 0 = x by apply bt_ext; intro c hc2; rw [bt_or, bt_0, Bool.or_false]]; exact ih (w + 1) _ (by omega) (by omega)
theorem op_like {k : Nat} {P : Nat → Nat} {ps pm : Int32} {sg pd : Nat → Int32} (h : PadR k P ps sg pm pd) {f : Nat → Nat} {t : Nat} (hw : Wf f t) : ∃ r q, f_X9_like (enc f t) ps sg = some r ∧ f_X10_like (enc f t) pm pd = some (r, q) := by
  obtain ⟨r, rd, h1, h2, h3⟩ := board_cm h
  unfold f_X9_like f_X10_like
  rw [h1, h2, Option.bind_some, Option.bind_some]
  rcases h3 with ⟨j, hj, rfl⟩ | ⟨rfl, f2, t2, hw2, rfl, hb⟩
  · have := h.1
    rw [if_neg (nI_ne6 (by omega)), if_neg (nI_pos (by omega))]
    exact ⟨-5, rd, rfl, rfl⟩
  · rw [if_pos rfl, if_pos (show ((-6 : Int32), enc f2 t2).1 < 0 from (by decide : (-6 : Int32) < 0)), hb, Option.bind_some]
    obtain ⟨r2, l1, l2⟩ := like_loop hw (-6) (enc f2 t2) 100 0 0 (by omega) (by omega)
    exact ⟨r2, _, l1, l2⟩
theorem op_law {b g o : Nat} (hL : Lw b g o) (nb ng no : Int32) : ∃ r b2 g2 o2, Lw b2 g2 o2 ∧ f_X9_law (nI b) (nI g) (nI o) nb ng no = (r, nI b2, nI g2, nI o2) ∧ f_X10_law (nI b) (nI g) (nI o) nb ng no = (r, nI b2, nI g2, nI o2) := by
  unfold f_X9_law f_X10_law
  have e1 : f_X10_in nb.toInt64 0 9 = b2i (decide ((0 : Int32) ≤ nb) && decide (nb ≤ 9)) := in3 nb 0 9
  have e2 : f_X10_in ng.toInt64 nb.toInt64 9 = b2i (decide (nb ≤ ng) && decide (ng ≤ 9)) := in3 ng nb 9
  have e3 : f_X10_in no.toInt64 ng.toInt64 9 = b2i (decide (ng ≤ no) && decide (no ≤ 9)) := in3 no ng 9
  rw [e1, e2, e3]
  have z9 : (9 : Int32).toInt = 9 := by decide
  have z0 : (0 : Int32).toInt = 0 := by decide
  simp only [Int32.lt_iff_toInt_lt, Int32.le_iff_toInt_le, z9, z0]
  by_cases h1 : nb.toInt < 0
  · have : ¬ 0 ≤ nb.toInt := by omega
    exact ⟨-2, b, g, o, hL, by simp [h1], by simp [this, b2i]⟩
  by_cases h2 : ng.toInt < nb.toInt
  · have a1 : ¬ nb.toInt ≤ ng.toInt := by omega
    refine ⟨-2, b, g, o, hL, by simp [h1, h2], ?_⟩
    by_cases h5 : 0 ≤ nb.toInt ∧ nb.toInt ≤ 9
    · simp [h5.1, h5.2, a1, b2i]
    · rw [and_ff h5]; simp [b2i]
  by_cases h3 : no.toInt < ng.toInt
  · have a1 : ¬ ng.toInt ≤ no.toInt := by omega
    refine ⟨-2, b, g, o, hL, by simp [h1, h2, h3], ?_⟩
    by_cases h5 : 0 ≤ nb.toInt ∧ nb.toInt ≤ 9
    · by_cases h6 : nb.toInt ≤ ng.toInt ∧ ng.toInt ≤ 9
      · simp [h5.1, h5.2, h6.1, h6.2, a1, b2i]
      · rw [and_ff h6]; simp [h5.1, h5.2, b2i]
    · rw [and_ff h5]; simp [b2i]
  by_cases h4 : no.toInt ≤ 9
  · have a1 : 0 ≤ nb.toInt := by omega
    have a2 : nb.toInt ≤ 9 := by omega
    have a3 : nb.toInt ≤ ng.toInt := by omega
    have a4 : ng.toInt ≤ 9 := by omega
    have a5 : ng.toInt ≤ no.toInt := by omega
    have cv : ∀ x : Int32, 0 ≤ x.toInt → x = nI x.toInt.toNat := by
      intro x hx
      obtain ⟨j, hj, rfl⟩ := nI_of (x := x) (by rw [Int32.lt_iff_toInt_lt, z0]; omega)
      rw [nI_toInt hj]; rfl
    refine ⟨nI (100 * b + 10 * g + o), nb.toInt.toNat, ng.toInt.toNat, no.toInt.toNat, ⟨by omega, by omega, by omega⟩, ?_, ?_⟩
    · rw [if_neg h1, if_neg h2, if_neg h3, if_pos h4]
      unfold jlet f_X5_code f_X5_set
      dsimp only
      rw [← cv nb a1, ← cv ng (by omega), ← cv no (by omega), show (100 : Int32) = nI 100 from rfl, show (10 : Int32) = nI 10 from rfl, nI_mul, nI_mul, nI_add, nI_add]
    · have t1 : ¬ b2i (decide (0 ≤ nb.toInt) && decide (nb.toInt ≤ 9)) = 0 := by simp [a1, a2]; decide
      have t2 : ¬ b2i (decide (nb.toInt ≤ ng.toInt) && decide (ng.toInt ≤ 9)) = 0 := by simp [a3, a4]; decide
      have t3 : ¬ b2i (decide (ng.toInt ≤ no.toInt) && decide (no.toInt ≤ 9)) = 0 := by simp [a5, h4]; decide
      rw [if_neg t1, if_neg t2, if_neg t3]
      unfold jlet
      dsimp only
      rw [← cv nb a1, ← cv ng (by omega), ← cv no (by omega), show (100 : Int32) = nI 100 from rfl, show (10 : Int32) = nI 10 from rfl, nI_mul, nI_mul, nI_add, nI_add]
  · refine ⟨-2, b, g, o, hL, by simp [h1, h2, h3, h4], ?_⟩
    by_cases h5 : 0 ≤ nb.toInt ∧ nb.toInt ≤ 9
    · by_cases h6 : nb.toInt ≤ ng.toInt ∧ ng.toInt ≤ 9
      · simp [h5.1, h5.2, h6.1, h6.2, h4, b2i]
      · rw [and_ff h6]; simp [h5.1, h5.2, b2i]
    · rw [and_ff h5]; simp [b2i]
