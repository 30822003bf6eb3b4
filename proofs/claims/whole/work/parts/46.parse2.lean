/-- the end of the text behind whole groups, or behind the sign of the turn -/
theorem ps_end {k : Nat} {P : Nat → Nat} {sg pd : Nat → Int32} (hk : k ≤ 48) {q n t : Nat} {M C x2 x3 x9 : Int32} (hi : 4 * q + t = k) (ht : t < 2) (h9 : x9 = nI t) (hwf : Wf (frN P q) 0) (hmask : maskR (frN P q) M C) (hall : ∀ i, i < q → grp P i ∧ Wf (frN P i) 0) :
    PRes k P (f_X3_boardFault_L9 (nI k) sg (n + 1) M C x9 (nI (4 * q + t))) (f_X10_faultOfBoard_L16 (nI k) pd (n + 1) 0 x2 x3 (nI (4 * q + t)) (enc (frN P q) t)) := by
  have hd : Dig (frN P q) t := ⟨ht, hwf.dig.2⟩
  have c0 : (f_X10_cellOf (enc (frN P q) t) 0 = 31) = (frN P q 0 % 32 = 31) := cell31_m (m := 0) hd (by omega)
  have c3 : (f_X10_cellOf (enc (frN P q) t) 3 = 31) = (frN P q 3 % 32 = 31) := cell31_m (m := 3) hd (by omega)
  rw [f_X3_boardFault_L9, f_X10_faultOfBoard_L16, if_pos (nI_le (by omega) (by omega)), if_pos (nI_le (by omega) (by omega)), if_pos (show (0 : Int32) = 0 from rfl)]
  have hB : (if x9 = 0 then if jrem (nI k) 4 = 0 then f_X3_boardFault_B123 (nI k) M 1 else f_X3_boardFault_B123 (nI k) M 0 else f_X3_boardFault_B123 (nI k) M 1) = f_X3_boardFault_B123 (nI k) M 1 := by
    rw [(rem_t k (by omega)).2.1]
    have : t = 0 ∨ t = 1 := by omega
    rcases this with rfl | rfl
    · rw [h9, if_pos (show nI 0 = 0 from rfl), if_pos (show nI (k % 4) = 0 by rw [show k % 4 = 0 by omega]; rfl)]
    · rw [h9, if_neg (show ¬ nI 1 = 0 by decide)]
  rw [hB]
  unfold f_X3_boardFault_B123 f_X10_faultOfBoard_B293
  rw [if_neg (show ¬ (1 : Int32) = 0 by decide), fathers_end hd hmask]
  simp only [c0, c3]
  by_cases h0 : frN P q 0 % 32 = 31
  · rw [if_pos (Or.inl h0), if_pos h0]; exact pres_at (Nat.le_refl k)
  · by_cases h3 : frN P q 3 % 32 = 31
    · rw [if_pos (Or.inr h3), if_neg h0, if_pos h3]; exact pres_at (Nat.le_refl k)
    · rw [if_neg (by rintro (e | e); exact h0 e; exact h3 e), if_neg h0, if_neg h3]
      exact ⟨_, _, rfl, rfl, Or.inr ⟨rfl, q, t, by omega, by omega, by omega, ht, hall, hwf, h0, h3, rfl⟩⟩
/-- a man's number, or the sign of the turn -/
theorem ps_0 {k : Nat} {P : Nat → Nat} {sg pd : Nat → Int32} (h : PadR k P (nI k) sg (nI k) pd) {q n : Nat} {M C x2 x3 : Int32} (hlt : 4 * q < k) (hwf : Wf (frN P q) 0) (hmask : maskR (frN P q) M C)
    (bang : ∀ z2, PRes k P (f_X3_boardFault_L9 (nI k) sg n M C 1 (nI (4 * q + 1))) (f_X10_faultOfBoard_L16 (nI k) pd n 0 z2 x3 (nI (4 * q + 1)) (enc (frN P q) 1)))
    (next : 48 ≤ P (4 * q) → P (4 * q) ≤ 53 → frN P q (P (4 * q) - 48) % 32 = 31 → PRes k P (f_X3_boardFault_L9 (nI k) sg n (M ||| jshl 1 (nI (P (4 * q) - 48))) C 0 (nI (4 * q + 1))) (f_X10_faultOfBoard_L16 (nI k) pd n 1 (nI (P (4 * q) - 48)) x3 (nI (4 * q + 1)) (enc (frN P q) 0))) :
    PRes k P (f_X3_boardFault_L9 (nI k) sg (n + 1) M C 0 (nI (4 * q))) (f_X10_faultOfBoard_L16 (nI k) pd (n + 1) 0 x2 x3 (nI (4 * q)) (enc (frN P q) 0)) := by
  obtain ⟨hk, -, -, hP⟩ := id h
  have hd := hwf.dig
  obtain ⟨p1, p2, p3, p4⟩ := hP (4 * q) hlt
  rw [f_X3_boardFault_L9, f_X10_faultOfBoard_L16, if_neg (nI_ge hlt (by omega)), if_neg (nI_ge hlt (by omega)), signAt_c h hlt, Option.bind_some, if_pos (show (0 : Int32) = 0 from rfl), if_neg (inb48 hk hlt), nI_clamp (by omega), p4]
  unfold f_X3_fitsBoard jlet
  dsimp only
  rw [(rem_t (4 * q) (by omega)).2.1, show 4 * q % 4 = 0 by omega, if_neg (turn0_m hd), if_pos (show nI 0 = 0 from rfl), if_pos (show (0 : Int32) = 0 from rfl)]
  have s33 : (nI (P (4 * q)) = 33) = (P (4 * q) = 33) := nI_eq_lit (b := 33) (by omega) (by omega)
  have s48 : (nI (P (4 * q)) < 48) = (P (4 * q) < 48) := nI_lt_lit (b := 48) (by omega) (by omega)
  have s53 : ((53 : Int32) < nI (P (4 * q))) = (53 < P (4 * q)) := nI_lt_lit (a := 53) (by omega) (by omega)
  simp only [s33, s48, s53]
  unfold f_X10_faultOfBoard_B91
  simp only [s33]
  by_cases hbang : P (4 * q) = 33
  · rw [if_pos hbang, Option.bind_some, if_neg (show ¬ (1 : Int32) = 0 by decide), if_pos hbang, sub48 (by omega) (by omega), if_pos (show (0 : Int32) = 0 from rfl), if_pos hbang]
    unfold f_X10_faultOfBoard_B243 f_X3_boardFault_B99 jlet
    dsimp only
    rw [if_neg (show ¬ (1 : Int32) = 0 by decide), rem41.1, nI_1, enc_or hd]
    exact bang _
  simp only [if_neg hbang]
  have flt : ∀ (z1 z2 z3 : Int32) rd, PRes k P (some (nI (4 * q))) (f_X10_faultOfBoard_B243 (f_X10_faultOfBoard_L16 (nI k) pd n) (nI (4 * q)) z1 z2 z3 0 rd) := by
    intro z1 z2 z3 rd
    unfold f_X10_faultOfBoard_B243
    rw [if_pos rfl]
    exact pres_at (by omega)
  by_cases hdig : 48 ≤ P (4 * q) ∧ P (4 * q) ≤ 53
  rotate_left 1
  · rw [sub48 (by omega) hdig, if_pos (show (0 : Int32) = 0 from rfl)]
    by_cases h48 : P (4 * q) < 48
    · rw [if_pos h48, Option.bind_some, if_pos (show (0 : Int32) = 0 from rfl)]; exact flt _ _ _ _
    · rw [if_neg h48, if_pos (show 53 < P (4 * q) by omega), Option.bind_some, if_pos (show (0 : Int32) = 0 from rfl)]; exact flt _ _ _ _
  obtain ⟨a1, a2⟩ := hdig
  rw [sub48' a1 a2, if_neg (show ¬ (1 : Int32) = 0 by decide), if_neg (show ¬ P (4 * q) < 48 by omega), if_neg (show ¬ 53 < P (4 * q) by omega), show (48 : Int32) = nI 48 from rfl, nI_sub a1]
  have hcm := cell31_m (m := P (4 * q) - 48) hd (by omega)
  have hbm : (M &&& jshl 1 (nI (P (4 * q) - 48)) = 0) = (frN P q (P (4 * q) - 48) % 32 = 31) := by
    rw [propext (bt_test (x := M) (k := P (4 * q) - 48) (by omega)), hmask.1 _ (by omega)]
    simp
  simp only [hcm, hbm]
  by_cases haway : frN P q (P (4 * q) - 48) % 32 = 31
  rotate_left 1
  · rw [if_neg haway, if_neg haway, Option.bind_some, if_pos (show (0 : Int32) = 0 from rfl)]; exact flt _ _ _ _
  rw [if_pos haway, if_pos haway, Option.bind_some, if_neg (show ¬ (1 : Int32) = 0 by decide), if_pos (show nI 0 = 0 from rfl)]
  unfold f_X10_faultOfBoard_B243 f_X3_boardFault_B99 jlet
  dsimp only
  rw [if_neg (show ¬ (1 : Int32) = 0 by decide), rem41.2.1, nI_1]
  exact next a1 a2 haway
theorem ps_bang_x {k : Nat} {P : Nat → Nat} {sg pd : Nat → Int32} (h : PadR k P (nI k) sg (nI k) pd) {q n : Nat} {M C x1 x2 x3 y3 : Int32} {rd : Int64} (hlt1 : 4 * q + 1 < k) (hy : ¬ y3 = 0) (ht : f_X10_turnOf rd = 1) :
    PRes k P (f_X3_boardFault_L9 (nI k) sg (n + 1) M C y3 (nI (4 * q + 1))) (f_X10_faultOfBoard_L16 (nI k) pd (n + 1) x1 x2 x3 (nI (4 * q + 1)) rd) := by
  obtain ⟨hk, -, -, hP⟩ := id h
  rw [f_X3_boardFault_L9, f_X10_faultOfBoard_L16, if_neg (nI_ge hlt1 (by omega)), if_neg (nI_ge hlt1 (by omega)), signAt_c h hlt1, Option.bind_some, if_neg hy, if_neg (inb48 hk hlt1)]
  unfold jlet
  dsimp only
  rw [if_pos ht]
  exact pres_at (by omega)
theorem ps_bang {k : Nat} {P : Nat → Nat} {sg pd : Nat → Int32} (h : PadR k P (nI k) sg (nI k) pd) {q n : Nat} {M C x2 x3 : Int32} (hlt : 4 * q < k) (hwf : Wf (frN P q) 0) (hmask : maskR (frN P q) M C) (hall : ∀ i, i < q → grp P i ∧ Wf (frN P i) 0) :
    PRes k P (f_X3_boardFault_L9 (nI k) sg (n + 1) M C 1 (nI (4 * q + 1))) (f_X10_faultOfBoard_L16 (nI k) pd (n + 1) 0 x2 x3 (nI (4 * q + 1)) (enc (frN P q) 1)) := by
  by_cases hend : 4 * q + 1 = k
  · have e1 : (1 : Int32) = nI 1 := by decide +kernel
    exact ps_end h.1 hend (by omega) e1 hwf hmask hall
  · have hd1 : Dig (frN P q) 1 := ⟨by omega, hwf.dig.2⟩
    have ht : f_X10_turnOf (enc (frN P q) 1) = 1 := turnOf_m hd1
    exact ps_bang_x h (by omega) (by decide) ht
theorem parse {k : Nat} {P : Nat → Nat} {sg pd : Nat → Int32} (h : PadR k P (nI k) sg (nI k) pd) : ∀ (d q n : Nat) (M C x2 x3 : Int32), 4 * q ≤ k → k - 4 * q < n → k - 4 * q ≤ d → Wf (frN P q) 0 → maskR (frN P q) M C → (∀ i, i < q → grp P i ∧ Wf (frN P i) 0) → PRes k P (f_X3_boardFault_L9 (nI k) sg n M C 0 (nI (4 * q))) (f_X10_faultOfBoard_L16 (nI k) pd n 0 x2 x3 (nI (4 * q)) (enc (frN P q) 0)) := by
  obtain ⟨hk, -, -, hP⟩ := id h
  intro d
  induction d using Nat.strongRecOn with
  | ind d ih =>
  intro q n M C x2 x3 hq hn hd hwf hmask hall
  by_cases hend : 4 * q = k
  · obtain ⟨n1, rfl⟩ : ∃ z, n = z + 1 := ⟨n - 1, by omega⟩
    exact ps_end (t := 0) hk (by omega) (by omega) rfl hwf hmask hall
  have hlt : 4 * q < k := by omega
  obtain ⟨n2, rfl⟩ : ∃ z, n = z + 1 + 1 := ⟨n - 2, by omega⟩
  refine ps_0 h hlt hwf hmask (fun z2 => ps_bang h hlt hwf hmask hall) (fun a1 a2 haway => ?_)
  refine ps_1 h (by omega) hwf (fun hlt1 b1 b2 => ?_)
  obtain ⟨n3, rfl⟩ : ∃ z, n2 = z + 1 := ⟨n2 - 1, by omega⟩
  refine ps_2 h (by omega) hwf (Or.inr hmask.2) b1 b2 (fun hlt2 c1 c2 hfree => ?_)
  obtain ⟨n4, rfl⟩ : ∃ z, n3 = z + 1 := ⟨n3 - 1, by omega⟩
  have hc25 : cG P (4 * q + 1) < 25 := by unfold cG; rw [show 4 * q + 1 + 1 = 4 * q + 2 by omega]; omega
  refine ps_3 h (by omega) hwf (by omega) hc25 (fun hlt3 d1 d2 => ?_)
  have hg : grp P q := ⟨⟨a1, a2, haway⟩, ⟨b1, b2⟩, ⟨c1, c2, hfree⟩, ⟨d1, d2⟩⟩
  exact ih (k - 4 * (q + 1)) (by omega) (q + 1) n4 _ _ _ _ (by omega) (by omega) (Nat.le_refl _) (fr_step hwf hg) (mask_step hwf hmask hg) (fun i hi => by
    by_cases e : i = q
    · rw [e]; exact ⟨hg, hwf⟩
    · exact hall i (by omega))
/-- the fault of a board, and the board where there is none -/
theorem board_cm {k : Nat} {P : Nat → Nat} {ps pm : Int32} {sg pd : Nat → Int32} (h : PadR k P ps sg pm pd) : ∃ r rd, f_X3_boardFault ps sg = some r ∧ f_X10_faultOfBoard pm pd = some (r, rd) ∧ ((∃ j, j ≤ k ∧ r = nI j) ∨ (r = -6 ∧ ∃ f t, Wf f t ∧ rd = enc f t ∧ f_X3_boardTold ps sg = some (enc f t))) := by
  obtain ⟨hk, e1, e2, hP⟩ := id h
  subst e1
  subst e2
  have hm : maskR (frN P 0) 0 0 := ⟨fun m _ => by rw [bt_0]; rfl, fun c hc => by
    rw [bt_0]
    unfold occ mOn frN
    have : ¬ 31 % 32 = c := by omega
    simp [this]⟩
  obtain ⟨r, rd, h1, h2, h3⟩ := parse h k 0 100 0 0 0 0 (by omega) (by omega) (by omega) wf31 hm (fun i hi => by omega)
  refine ⟨r, rd, h1, ?_, ?_⟩
  · unfold f_X10_faultOfBoard
    rw [enc31]
    exact h2
  · rcases h3 with h4 | ⟨h4, Q, t, g1, g2, g3, g4, g5, g6, g7, g8, g9⟩
    · exact Or.inl h4
    · refine Or.inr ⟨h4, frN P Q, t, ⟨g4, g6.2⟩, g9, ?_⟩
      rw [boardTold_c h g1 g2 g5]
      have w := withTurn_0 g6.dig
      have ht : t = 0 ∨ t = 1 := by omega
      rcases ht with rfl | rfl
      · rw [if_neg (by omega)]; exact congrArg some w.1
      · rw [if_pos g3]; exact congrArg some w.2
