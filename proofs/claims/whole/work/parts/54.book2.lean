def numP (P : Nat → Nat) (m : Nat) : Nat := 100 * cG P (4 * m) + cG P (4 * m + 2)
theorem numP_lt {k : Nat} {P : Nat → Nat} (hg : gmOK k P) {m : Nat} (hm : 4 * m + 3 < k) : numP P m < 2500 := by
  have h1 := (cG_lt hg (p := 4 * m) (by omega) (by omega)).2.2
  have h2 := (cG_lt hg (p := 4 * m + 2) (by omega) (by omega)).2.2
  unfold numP
  omega
theorem num_cm {k : Nat} {P : Nat → Nat} {ps pm : Int32} {sg pd : Nat → Int32} (h : PadR k P ps sg pm pd) (hg : gmOK k P) {m : Nat} (hm : 4 * m + 3 < k) : f_X0_moveOnPad ps sg (nI m) = some (nI (numP P m)) ∧ f_X10_numberAt pd (nI m) = some (nI (numP P m)) := by
  obtain ⟨a1, a2, a3, a4⟩ := fromAt_cm h hg hm
  unfold f_X0_moveOnPad f_X10_numberAt numP
  rw [a1, a2, a3, a4, Option.bind_some, Option.bind_some, show (100 : Int32) = nI 100 from rfl, nI_mul, nI_add]
  exact ⟨rfl, rfl⟩
theorem cnt_c {k : Nat} (hk : k ≤ 48) : nI k / 4 = nI (k / 4) := by
  have : ∀ x, x < 49 → nI x / 4 = nI (x / 4) := by decide +kernel
  exact this k (by omega)
theorem updI_at {f : Nat → Int32} {k : Nat} {x : Int32} (j : Nat) : upd f k x j = if j = k then x else f j := rfl
theorem add_loop {k : Nat} {P : Nat → Nat} {ps pm : Int32} {sg pd : Nat → Int32} (h : PadR k P ps sg pm pd) (hg : gmOK k P) {n : Nat} (hn : n < 8) (bs : Nat → Int64) (bl br : Nat → Int32) (gb : Nat → Int64) (gm gr : Nat → Int32) (mb mw : Int32) (ml : Int64) : ∀ N i (bp gv : Nat → Int32), i ≤ k / 4 → k / 4 - i < N → (∀ j, j < 96 → bp j = gv j) → (∀ j, j < 96 → ∃ v, v < 2500 ∧ bp j = nI v) → ∃ bp2 gv2, (∀ j, j < 96 → bp2 j = gv2 j) ∧ (∀ j, j < 96 → ∃ v, v < 2500 ∧ bp2 j = nI v) ∧ f_X0_add_L56 (nI n) ps sg N (nI i) (nI n) bs bl br bp = some (nI n, nI (n + 1), bs, bl, br, bp2) ∧ f_X10_book_L76 pd N (nI i) pm mb mw ml (nI n) gb gm gv gr = some (nI n, nI (n + 1), 0, gb, gm, gv2, gr, ml, mb, mw) := by
  obtain ⟨hk, e1, e2, -⟩ := id h
  obtain rfl : pm = ps := e2.trans e1.symm
  clear e2
  intro N
  induction N with
  | zero => intro i bp gv _ hN; omega
  | succ N ih =>
    intro i bp gv hi hN hA hB
    rw [f_X0_add_L56, f_X10_book_L76]
    unfold f_X3_countMoves
    rw [e1, cnt_c hk]
    by_cases he : i = k / 4
    · rw [if_pos (nI_le (by omega) (by omega)), if_pos (nI_le (by omega) (by omega))]
      unfold f_X0_add_B97 jlet
      dsimp only
      refine ⟨bp, gv, hA, hB, ?_, ?_⟩
      · rw [nI_1]
      · rw [nI_1, show (1 : Int32) = nI 1 from rfl, nI_sub (by omega), Nat.add_sub_cancel]
    · obtain ⟨m1, m2⟩ := num_cm h hg (m := i) (by have := hg.1; omega)
      have hlt := numP_lt hg (m := i) (by have := hg.1; omega)
      rw [if_neg (nI_ge (by omega) (by omega)), if_neg (nI_ge (by omega) (by omega)), if_neg (show ¬ (12 : Int32) ≤ nI i from nI_ge (b := 12) (by omega) (by omega)), ← e1, m1, m2, Option.bind_some, Option.bind_some, show (12 : Int32) = nI 12 from rfl, nI_mul, nI_mul, nI_add, nI_add, if_neg (nI_in (by omega) (by omega)), if_neg (nI_in (by omega) (by omega)), nI_clamp (by omega), nI_clamp (by omega), Nat.mul_comm n 12]
      unfold jlet
      dsimp only
      rw [nI_1]
      refine ih (i + 1) _ _ (by omega) (by omega) ?_ ?_
      · intro j hj
        rw [updI_at, updI_at]
        split
        · rfl
        · exact hA j hj
      · intro j hj
        rw [updI_at]
        split
        · exact ⟨_, hlt, rfl⟩
        · exact hB j hj
theorem op_book {b g o k n : Nat} {P : Nat → Nat} {ps pm : Int32} {sg pd : Nat → Int32} (hL : Lw b g o) (h : PadR k P ps sg pm pd) {f : Nat → Nat} {t : Nat} (hw : Wf f t) {bc : Int32} {bs : Nat → Int64} {bl br bp : Nat → Int32} {gs : Int32} {gb : Nat → Int64} {gm gv gr : Nat → Int32} (hb : BkR n bc bs bl br bp gs gb gm gv gr) (jb jr mb mw : Int32) (je ml : Int64) : ∃ r k2 n2 ps2 pm2 bc2 bs2 bl2 br2 bp2 gs2 gb2 gm2 gv2 gr2 a q, PadR k2 P ps2 sg pm2 pd ∧ BkR n2 bc2 bs2 bl2 br2 bp2 gs2 gb2 gm2 gv2 gr2 ∧ f_X9_book (enc f t) ps sg (nI b) (nI g) (nI o) jb jr je bc bs bl br bp = some (r, bc2, bs2, bl2, br2, bp2, ps2, a) ∧ f_X10_book (enc f t) (nI b) (nI g) (nI o) pm mb mw ml gs pd gb gm gv gr = some (r, gs2, pm2, gb2, gm2, gv2, gr2, q) := by
  obtain ⟨r, g1, g2, g3⟩ := gameFault_cm h
  obtain ⟨hk, e1, e2, -⟩ := id h
  obtain ⟨hn, b1, b2, b3, b4, b5, b6, b7, b8⟩ := id hb
  unfold f_X9_book f_X10_book f_X9_gameIsGood
  rw [g1, g2, Option.bind_some, Option.bind_some]
  rcases g3 with ⟨rfl, hg⟩ | ⟨j, hj, rfl⟩
  rotate_left 1
  · rw [if_neg (nI_ne6 (by omega)), if_pos (nI_pos' (by omega)), Option.bind_some]
    dsimp only
    rw [if_pos (show (0 : Int32) = 0 from rfl)]
    exact ⟨-5, k, n, ps, pm, bc, bs, bl, br, bp, gs, gb, gm, gv, gr, (jb, jr, je), (ml, mb, mw), h, hb, rfl, rfl⟩
  rw [if_pos rfl, if_neg (by decide)]
  unfold f_X2_passes f_X10_goGame
  rcases game_loop hL h hg 100 0 f t jb jr (-6) (-6) hw (by omega) (by omega) with ⟨f2, t2, w2, l1, l2⟩ | ⟨f2, t2, j, w, w2, l1, l2⟩
  · have l1' : f_X2_passes_L8 (nI b) (nI g) (nI o) ps sg 100 0 jb jr (enc f t) = _ := l1
    have l2' : f_X10_goGame_L22 (nI b) (nI g) (nI o) pm pd 100 0 (-6) (-6) (enc f t) = _ := l2
    rw [l1', l2', Option.bind_some, Option.bind_some]
    dsimp only
    rw [if_neg (show ¬ (1 : Int32) = 0 by decide), Option.bind_some]
    dsimp only
    rw [if_neg (show ¬ (1 : Int32) = 0 by decide), if_neg (show ¬ (1 : Int32) = 0 by decide), b1, b2]
    by_cases h8 : n = 8
    · rw [if_neg (show ¬ nI n < 8 by rw [h8]; decide), if_pos (show nI n = 8 by rw [h8]; rfl)]
      exact ⟨-4, k, n, ps, pm, nI n, bs, bl, br, bp, nI n, gb, gm, gv, gr, (jb, jr, enc f2 t2), (enc f2 t2, -6, -6), h, by rw [b1, b2] at hb; exact hb, rfl, rfl⟩
    have hn8 : n < 8 := by omega
    rw [if_pos (show nI n < 8 from nI_lt (b := 8) hn8 (by omega)), if_neg (show ¬ nI n = 8 from fun e => by rw [show (8 : Int32) = nI 8 from rfl, nI_eq (by omega) (by omega)] at e; omega), ending_c hL w2, Option.bind_some, broughtBy_m hL w2]
    unfold f_X0_add
    rw [if_neg (nI_pos (by omega)), if_pos (show nI n < 8 from nI_lt (b := 8) hn8 (by omega))]
    simp only [nI_clamp (show n < 2 ^ 31 by omega), if_neg (show ¬ (nI n < 0 ∨ 8 ≤ n) by intro e; rcases e with e | e; exact nI_pos (by omega) e; omega), Option.bind_some]
    unfold jlet
    dsimp only
    obtain ⟨bp2, gv2, c1, c2, c3, c4⟩ := add_loop h hg hn8 (vp_updL bs n (enc f t)) (upd bl n (f_X3_countMoves ps)) (upd br n (nI (brS b g o f2 t2))) (vp_updL gb n (enc f t)) (upd gm n (pm / 4)) (upd gr n (nI (brS b g o f2 t2))) (-6) (-6) (enc f2 t2) 100 0 bp gv (by omega) (by omega) b6 b8
    have c3' : f_X0_add_L56 (nI n) ps sg 100 0 (nI n) _ _ _ bp = _ := c3
    have c4' : f_X10_book_L76 pd 100 0 pm (-6) (-6) (enc f2 t2) (nI n) _ _ gv _ = _ := c4
    rw [c3', c4', Option.bind_some]
    dsimp only
    refine ⟨nI n, 0, n + 1, 0, 0, nI (n + 1), _, _, _, bp2, nI (n + 1), _, _, gv2, _, (jb, jr, enc f2 t2), (enc f2 t2, -6, -6), pad0 h, ⟨by omega, rfl, rfl, ?_, ?_, ?_, c1, ?_, c2⟩, rfl, rfl⟩
    · intro i hi
      rw [updL_at, updL_at]
      split
      · rfl
      · exact b3 i hi
    · intro i hi
      rw [updI_at, updI_at]
      split
      · unfold f_X3_countMoves
        rw [e1, e2]
      · exact b4 i hi
    · intro i hi
      rw [updI_at, updI_at]
      split
      · rfl
      · exact b5 i hi
    · intro i hi
      rw [updI_at]
      split
      · unfold f_X3_countMoves
        rw [e1, cnt_c hk]
        exact ⟨k / 4, by omega, rfl⟩
      · exact b7 i hi
  · have l1' : f_X2_passes_L8 (nI b) (nI g) (nI o) ps sg 100 0 jb jr (enc f t) = _ := l1
    have l2' : f_X10_goGame_L22 (nI b) (nI g) (nI o) pm pd 100 0 (-6) (-6) (enc f t) = _ := l2
    rw [l1', l2', Option.bind_some, Option.bind_some]
    dsimp only
    rw [if_pos (show (0 : Int32) = 0 from rfl), Option.bind_some]
    dsimp only
    rw [if_pos (show (0 : Int32) = 0 from rfl), if_pos (show (0 : Int32) = 0 from rfl)]
    exact ⟨-5, k, n, ps, pm, bc, bs, bl, br, bp, gs, gb, gm, gv, gr, (nI j, w, enc f2 t2), (enc f2 t2, nI j, w), h, hb, rfl, rfl⟩
