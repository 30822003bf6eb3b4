theorem op_next {k n : Nat} {P : Nat → Nat} {ps pm : Int32} {sg pd : Nat → Int32} (h : PadR k P ps sg pm pd) {bc : Int32} {bs : Nat → Int64} {bl br bp : Nat → Int32} {gs : Int32} {gb : Nat → Int64} {gm gv gr : Nat → Int32} (hb : BkR n bc bs bl br bp gs gb gm gv gr) (st : Int64) (wh : Int32) : ∃ r, f_X9_next st ps sg bc bs bl br bp wh = some r ∧ f_X10_next st pm gs pd gb gm gv gr wh = some r := by
  obtain ⟨r, g1, g2, g3⟩ := gameFault_cm h
  obtain ⟨hk, e1, e2, -⟩ := id h
  obtain ⟨hn, b1, b2, b3, b4, b5, b6, b7, b8⟩ := id hb
  have hin : f_X10_in wh.toInt64 0 4 = b2i (decide ((0 : Int32) ≤ wh) && decide (wh ≤ 4)) := in3 wh 0 4
  unfold f_X9_next f_X10_next
  rw [hin, g1, g2, Option.bind_some, Option.bind_some]
  by_cases w0 : wh < 0
  · rw [if_pos w0, and_ff (fun e => Int32.not_le.mpr w0 e.1), if_pos (show b2i false = (0 : Int32) from rfl)]; exact ⟨_, rfl, rfl⟩
  by_cases w4 : wh ≤ 4
  rotate_left 1
  · rw [if_neg w0, if_neg w4, and_ff (fun e => w4 e.2), if_pos (show b2i false = (0 : Int32) from rfl)]; exact ⟨_, rfl, rfl⟩
  rw [if_neg w0, if_pos w4, decide_eq_true (Int32.not_lt.mp w0), decide_eq_true w4, if_neg (show ¬ b2i (true && true) = (0 : Int32) by decide)]
  rcases g3 with ⟨rfl, hg⟩ | ⟨j, hj, rfl⟩
  rotate_left 1
  · rw [if_neg (nI_ne6 (by omega)), if_neg (nI_pos (by omega))]; exact ⟨_, rfl, rfl⟩
  rw [if_pos (show (-6 : Int32) = -6 from rfl), if_pos (show (-6 : Int32) < 0 by decide)]
  have hex : ∀ i, ∃ rr : Bool, i < n → f_X0_begins (nI n) bs bl bp ps sg (nI i) st = some (b2i rr) ∧ f_X10_beginsSo st pm pd gb gm gv (nI i) = some (b2i rr) := by
    intro i
    by_cases hi : i < n
    · obtain ⟨rr, hr⟩ := begins_cm h hg hb st hi
      exact ⟨rr, fun _ => hr⟩
    · exact ⟨true, fun e => absurd e hi⟩
  obtain ⟨beg, hbeg⟩ := Classical.axiomOfChoice hex
  have HC := fun i hi => (hbeg i hi).1
  have HMo := fun i hi => (hbeg i hi).2
  rw [e1] at HC
  rw [e2] at HMo
  rw [b1, b2, e1, e2]
  have hgl : ∀ i, i < 8 → ∃ l, l ≤ 12 ∧ gm i = nI l := fun i hi => by rw [← b4 i hi]; exact b7 i hi
  have hmvE : ∀ i, i < n → mvAt (k / 4) gm gv i = mvAt (k / 4) bl bp i := by
    intro i hi
    obtain ⟨l, hl1, hl2⟩ := b7 i (by omega)
    unfold mvAt
    rw [← b4 i (by omega)]
    by_cases hc : bl i ≤ nI (k / 4)
    · rw [if_pos hc, if_pos hc]
    · have hc2 : ¬ l ≤ k / 4 := fun e => hc (by rw [hl2]; exact nI_le e (by omega))
      rw [if_neg hc, if_neg hc, b6 _ (by omega)]
  have ht : ∀ v, cntB (fun j => beg j && decide (mvAt (k / 4) bl bp j = nI v)) n ≤ 8 := fun v => Nat.le_trans (cntB_le _ n) hn
  have HT : ∀ v, v < 2500 → f_X0_timesPlayed (nI n) bs bl bp (nI k) sg st (nI v) = some (nI (cntB (fun j => beg j && decide (mvAt (k / 4) bl bp j = nI v)) n)) := fun v hv => times_loop hk hn b7 (nI v) (nI_ne6 (by omega)) HC 100 0 (by omega) (by omega)
  have HG : ∀ v, v < 2500 → f_X10_goOnWith st (nI k) (nI n) pd gb gm gv (nI v) = some (nI (cntB (fun j => beg j && decide (mvAt (k / 4) bl bp j = nI v)) n)) := by
    intro v hv
    have := goOn_loop hk hn hgl (nI v) (nI_ne6 (by omega)) HMo 100 0 (by omega) (by omega)
    rw [cntB_congr (p := fun j => beg j && decide (mvAt (k / 4) gm gv j = nI v)) (q := fun j => beg j && decide (mvAt (k / 4) bl bp j = nI v)) n (fun j hj => by simp only [hmvE j hj])] at this
    exact this
  have hN : f_X10_next_L35 st (nI k) (nI n) pd gb gm gv gr wh 2501 0 0 0 0 = _ := next_loop (gr := gr) hn wh HMo 2501 0 (by omega) (by omega)
  rw [hN]
  have hE0 : wh = 0 ∨ wh = 1 ∨ wh = 2 ∨ wh = 3 ∨ wh = 4 := by
    rcases i32_cases wh with h0 | ⟨j, hj, rfl⟩
    · exact absurd h0 w0
    · have hj4 : j ≤ 4 := by
        by_cases hc : j ≤ 4
        · exact hc
        · exact absurd w4 (nI_ge (a := 4) (b := j) (by omega) hj)
      rcases (show j = 0 ∨ j = 1 ∨ j = 2 ∨ j = 3 ∨ j = 4 by omega) with e | e | e | e | e <;> subst e
      · exact Or.inl rfl
      · exact Or.inr (Or.inl rfl)
      · exact Or.inr (Or.inr (Or.inl rfl))
      · exact Or.inr (Or.inr (Or.inr (Or.inl rfl)))
      · exact Or.inr (Or.inr (Or.inr (Or.inr rfl)))
  obtain ⟨x', y', hy', hM, hE⟩ := most_m_loop (n := n) (k := k) (st := st) (pd := pd) (gb := gb) (gm := gm) (gv := gv) wh (nI (cntB beg n)) (nI (cntB (fun j => beg j && decide (gr j = 1)) n)) (nI (cntB (fun j => beg j && decide (gr j = 2)) n)) (fun v => cntB (fun j => beg j && decide (mvAt (k / 4) bl bp j = nI v)) n) ht HG 2501 0 (-6) 0 (by omega) (by omega) (by omega) (Or.inl ⟨rfl, rfl, fun u hu => absurd hu (Nat.not_lt_zero u)⟩)
  have hE2 : f_X10_next_L131 st (nI k) (nI n) pd gb gm gv wh (nI (cntB beg n)) (nI (cntB (fun j => beg j && decide (gr j = 1)) n)) (nI (cntB (fun j => beg j && decide (gr j = 2)) n)) 2501 (-6) 0 0 = _ := hE
  rw [hE2]
  have hwon : ∀ bo : Int32, f_X0_countWon (nI n) bs bl br bp (nI k) sg st bo = some (nI (cntB (fun j => beg j && decide (gr j = bo)) n)) := by
    intro bo
    have := won_loop (br := br) hn bo HC 100 0 (by omega) (by omega)
    rw [cntB_congr (p := fun j => beg j && decide (br j = bo)) (q := fun j => beg j && decide (gr j = bo)) n (fun j hj => by simp only [b5 j (by omega)])] at this
    exact this
  have hmv : ∀ i, i < n → f_X0_moveOf (nI n) bl bp (nI i) (f_X3_countMoves (nI k)) = some (mvAt (k / 4) bl bp i) := by
    intro i hi
    obtain ⟨l, hl1, hl2⟩ := b7 i (by omega)
    unfold f_X3_countMoves
    rw [cnt_c hk, moveOf_c hn hi bl bp hl2 hl1 (by omega)]
    unfold mvAt
    rw [hl2]
    by_cases hc : l ≤ k / 4
    · rw [if_pos hc, if_pos (nI_le hc (by omega))]
    · rw [if_neg hc, if_neg (nI_ge (by omega) (by omega))]
  have hvv : ∀ i, i < n → mvAt (k / 4) bl bp i = -6 ∨ ∃ u, u < 2500 ∧ mvAt (k / 4) bl bp i = nI u := by
    intro i hi
    obtain ⟨l, hl1, hl2⟩ := b7 i (by omega)
    unfold mvAt
    rw [hl2]
    by_cases hc : l ≤ k / 4
    · rw [if_pos (nI_le hc (by omega))]; exact Or.inl rfl
    · rw [if_neg (nI_ge (by omega) (by omega))]
      exact Or.inr (b8 _ (by omega))
  have h6 : f_X0_timesPlayed (nI n) bs bl bp (nI k) sg st (-6) = some (nI 0) := times6 hn 100 0 (by omega) (by omega)
  obtain ⟨x2, y2, hy2, hM2, hE3⟩ := most_c_loop (bs := bs) (bl := bl) (bp := bp) (sg := sg) (ps := nI k) (st := st) hn (fun v => cntB (fun j => beg j && decide (mvAt (k / 4) bl bp j = nI v)) n) ht beg (mvAt (k / 4) bl bp) HC hmv hvv h6 HT (fun i hi hb u hu e => cntB_has _ n i hi (by simp only [hb, e, decide_true, Bool.true_and])) 100 0 (-6) 0 (by omega) (by omega) (by omega) (Or.inl ⟨rfl, rfl, fun j hj => absurd hj (Nat.not_lt_zero j)⟩)
  have hE4 : f_X0_mostPlayed (nI n) bs bl bp (nI k) sg st = some x2 := hE3
  unfold MostI at hM2
  dsimp only at hM hM2
  have hsame : x2 = x' ∧ y2 = y' ∧ f_X0_timesPlayed (nI n) bs bl bp (nI k) sg st x' = some (nI y') := by
    rcases hM with ⟨m1, m2, m3⟩ | ⟨w, m1, m2, m3, m4, m5⟩
    · rcases hM2 with ⟨c1, c2, c3⟩ | ⟨w2, c1, c2, c3, c4, c5⟩
      · exact ⟨by rw [c2, m2], by omega, by rw [m2, m1]; exact h6⟩
      · have := m3 w2 c1
        omega
    · have hp : 0 < cntB (fun j => beg j && decide (mvAt (k / 4) bl bp j = nI w)) n := by omega
      obtain ⟨j, hj, hj2⟩ := cntB_pos _ n hp
      rw [Bool.and_eq_true, decide_eq_true_eq] at hj2
      rcases hM2 with ⟨c1, c2, c3⟩ | ⟨w2, c1, c2, c3, c4, c5⟩
      · have := c3 j hj hj2.1
        rw [hj2.2] at this
        exact absurd this (nI_ne6 (by omega))
      · have z1 := m5 w2 c1
        have z2 := c5 j hj hj2.1 w m1 hj2.2
        have hw : w = w2 := by
          rcases Nat.lt_trichotomy w w2 with e | e | e
          · have := z2.2 e; have := z1.1; omega
          · exact e
          · have := z1.2 e; have := z2.1; omega
        subst hw
        exact ⟨by rw [c2, m2], by omega, by rw [m2, m3]; exact HT w m1⟩
  obtain ⟨s1, s2, s3⟩ := hsame
  rcases hE0 with e | e | e | e | e <;> subst e
  · have hb0 : f_X0_countBegun (nI n) bs bl bp (nI k) sg st = some (nI (cntB beg n)) := begun_loop hn HC 100 0 (by omega) (by omega)
    rw [if_pos rfl, if_pos rfl, hb0]; exact ⟨_, rfl, rfl⟩
  · rw [if_neg (by decide), if_neg (by decide), if_neg (by decide), if_pos rfl, hwon 1]; exact ⟨_, rfl, rfl⟩
  · rw [if_neg (by decide), if_neg (by decide), if_neg (by decide), if_neg (by decide), if_pos rfl, hwon 2]; exact ⟨_, rfl, rfl⟩
  · rw [if_neg (by decide), if_pos (by decide), hE4, Option.bind_some, if_pos rfl, if_neg (by decide), if_neg (by decide), if_neg (by decide), if_pos rfl, s1]; exact ⟨_, rfl, rfl⟩
  · rw [if_neg (by decide), if_pos (by decide), hE4, Option.bind_some, if_neg (by decide), s1, s3, Option.bind_some, if_neg (by decide), if_neg (by decide), if_neg (by decide), if_neg (by decide)]; exact ⟨_, rfl, rfl⟩
