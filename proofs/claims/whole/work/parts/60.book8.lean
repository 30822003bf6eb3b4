theorem op_next {k n : Nat} {P : Nat → Nat} {ps pm : Int32} {sg pd : Nat → Int32} (h : PadR k P ps sg pm pd) {bc : Int32} {bs : Nat → Int64} {bl br bp : Nat → Int32} {gs : Int32} {gb : Nat → Int64} {gm gv gr : Nat → Int32} (hb : BkR n bc bs bl br bp gs gb gm gv gr) (st : Int64) (wh : Int32) : ∃ r, f_X9_next st ps sg bc bs bl br bp wh = some r ∧ f_X10_next st pm gs pd gb gm gv gr wh = some r := by
  obtain ⟨r, g1, g2, g3⟩ := gameFault_cm h
  obtain ⟨hk, e1, e2, -⟩ := id h
  obtain ⟨hn, b1, b2, b3, b4, b5, b6, b7, b8⟩ := id hb
  have hin : f_X10_in wh.toInt64 0 4 = b2i (decide ((0 : Int32) ≤ wh) && decide (wh ≤ 4)) := in3 wh 0 4
  unfold f_X9_next f_X10_next
  rw [hin, g1, g2, Option.bind_some, Option.bind_some]
  by_cases w0 : wh < 0
  · rw [if_pos w0, and_ff (fun e => Int32.not_le.mpr w0 e.1), if_pos (show b2i false = (0 : Int32) from rfl)]; exact ⟨_, rfl, rfl⟩
  by_cases w4 : wh ≤ 4
  rotate_left 1
  · rw [if_neg w0, if_neg w4, and_ff (fun e => w4 e.2), if_pos (show b2i false = (0 : Int32) from rfl)]; exact ⟨_, rfl, rfl⟩
  rw [if_neg w0, if_pos w4, decide_eq_true (Int32.not_lt.mp w0), decide_eq_true w4, if_neg (show ¬ b2i (true && true) = (0 : Int32) by decide)]
  rcases g3 with ⟨rfl, hg⟩ | ⟨j, hj, rfl⟩
  rotate_left 1
  · rw [if_neg (nI_ne6 (by omega)), if_neg (nI_pos (by omega))]; exact ⟨_, rfl, rfl⟩
  rw [if_pos (show (-6 : Int32) = -6 from rfl), if_pos (show (-6 : Int32) < 0 by decide)]
  have hex : ∀ i, ∃ rr : Bool, i < n → f_X0_begins (nI n) bs bl bp ps sg (nI i) st = some (b2i rr) ∧ f_X10_beginsSo st pm pd gb gm gv (nI i) = some (b2i rr) := by
    intro i
    by_cases hi : i < n
    · obtain ⟨rr, hr⟩ := begins_cm h hg hb st hi
      exact ⟨rr, fun _ => hr⟩
    · exact ⟨true, fun e => absurd e hi⟩
  obtain ⟨beg, hbeg⟩ := Classical.axiomOfChoice hex
  have HC := fun i hi => (hbeg i hi).1
  have HMo := fun i hi => (hbeg i hi).2
  rw [e1] at HC
  rw [e2] at HMo
  rw [b1, b2, e1, e2]
  have hgl : ∀ i, i < 8 → ∃ l, l ≤ 12 ∧ gm i = nI l := fun i hi => by rw [← b4 i hi]; exact b7 i hi
  have hmvE : ∀ i, i < n → mvAt (k / 4) gm gv i = mvAt (k / 4) bl bp i := by
    intro i hi
    obtain ⟨l, hl1, hl2⟩ := b7 i (by omega)
    unfold mvAt
    rw [← b4 i (by omega)]
    by_cases hc : bl i ≤ nI (k / 4)
    · rw [if_pos hc, if_pos hc]
    · have hc2 : ¬ l ≤ k / 4 := fun e => hc (by rw [hl2]; exact nI_le e (by omega))
      rw [if_neg hc, if_neg hc, b6 _ (by omega)]
  have ht : ∀ v, cntB (fun j => beg j && decide (mvAt (k / 4) bl bp j = nI v)) n ≤ 8 := fun v => Nat.le_trans (cntB_le _ n) hn
  have HT : ∀ v, v < 2500 → f_X0_timesPlayed (nI n) bs bl bp (nI k) sg st (nI v) = some (nI (cntB (fun j => beg j && decide (mvAt (k / 4) bl bp j = nI v)) n)) := fun v hv => times_loop hk hn b7 (nI v) (nI_ne6 (by omega)) HC 100 0 (by omega) (by omega)
  have HG : ∀ v, v < 2500 → f_X10_goOnWith st (nI k) (nI n) pd gb gm gv (nI v) = some (nI (cntB (fun j => beg j && decide (mvAt (k / 4) bl bp j = nI v)) n)) := by
    intro v hv
    have := goOn_loop hk hn hgl (nI v) (nI_ne6 (by omega)) HMo 100 0 (by omega) (by omega)
    rw [cntB_congr (p := fun j => beg j && decide (mvAt (k / 4) gm gv j = nI v)) (q := fun j => beg j && decide (mvAt (k / 4) bl bp j = nI v)) n (fun j hj => by simp only [hmvE j hj])] at this
    exact this
  have hN : f_X10_next_L35 st (nI k) (nI n) pd gb gm gv gr wh 2501 0 0 0 0 = _ := next_loop (gr := gr) hn wh HMo 2501 0 (by omega) (by omega)
  rw [hN]
  sorry
