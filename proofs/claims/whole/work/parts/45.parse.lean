/-! boards told: the two readers go side by side -/
def brdOK (k : Nat) (P : Nat → Nat) (rd : Int64) : Prop := ∃ Q t, 4 * Q ≤ k ∧ k < 4 * Q + 2 ∧ k % 4 = t ∧ t < 2 ∧ (∀ q, q < Q → grp P q ∧ Wf (frN P q) 0) ∧ Wf (frN P Q) 0 ∧ frN P Q 0 % 32 ≠ 31 ∧ frN P Q 3 % 32 ≠ 31 ∧ rd = enc (frN P Q) t
theorem fathers_end {f : Nat → Nat} {t : Nat} {M C : Int32} {ps : Int32} (h : Dig f t) (hm : maskR f M C) : (if (M &&& 9) = 9 then some (-6 : Int32) else some ps) = (if f 0 % 32 = 31 ∨ f 3 % 32 = 31 then some ps else some (-6)) := by
  simp only [and9, hm.1 0 (by omega), hm.1 3 (by omega), decide_eq_true_eq]
  by_cases h0 : f 0 % 32 = 31
  · rw [if_neg (fun q => q.1 h0), if_pos (Or.inl h0)]
  · by_cases h3 : f 3 % 32 = 31
    · rw [if_neg (fun q => q.2 h3), if_pos (Or.inr h3)]
    · rw [if_pos ⟨h0, h3⟩, if_neg (by rintro (e | e); exact h0 e; exact h3 e)]
theorem sub48 {v : Nat} (h : v < 127) (hn : ¬ (48 ≤ v ∧ v ≤ 53)) : f_X10_in (nI v - 48).toInt64 0 5 = 0 := by
  have T : ∀ v, v < 127 → (¬ (48 ≤ v ∧ v ≤ 53)) → f_X10_in (nI v - 48).toInt64 0 5 = 0 := by decide +kernel
  exact T v h hn
theorem sub48' {v : Nat} (h1 : 48 ≤ v) (h2 : v ≤ 53) : f_X10_in (nI v - 48).toInt64 0 5 = 1 := by
  have T : ∀ v, v < 54 → 48 ≤ v → f_X10_in (nI v - 48).toInt64 0 5 = 1 := by decide +kernel
  exact T v (by omega) h1
theorem rem41 : jrem (3 + 1) 4 = 0 ∧ jrem (0 + 1) 4 = 1 ∧ jrem (1 + 1) 4 = 2 ∧ jrem (2 + 1) 4 = 3 := by decide +kernel
theorem mask_step {P : Nat → Nat} {q : Nat} {M C : Int32} (hwf : Wf (frN P q) 0) (hmask : maskR (frN P q) M C) (hg : grp P q) : maskR (frN P (q + 1)) (M ||| jshl 1 (nI (P (4 * q) - 48))) (C ||| jshl 1 (nI (cG P (4 * q + 1)))) := by
  have hwf2 := fr_step hwf hg
  obtain ⟨⟨a1, a2, haway⟩, ⟨b1, b2⟩, ⟨c1, c2, hfree⟩, ⟨d1, d2⟩⟩ := hg
  have hc25 : cG P (4 * q + 1) < 25 := by unfold cG; rw [show 4 * q + 1 + 1 = 4 * q + 2 by omega]; omega
  have key : ∀ x, frN P (q + 1) x = if x = P (4 * q) - 48 then cG P (4 * q + 1) + 32 * (P (4 * q + 3) - 48) else frN P q x := fun x => rfl
  constructor
  · intro m hm
    rw [bt_or, hmask.1 m hm, bt_one _ (by omega) m (by omega), key m]
    by_cases e : m = P (4 * q) - 48
    · rw [if_pos e, show decide (m = P (4 * q) - 48) = true from decide_eq_true e, Bool.or_true]
      exact (decide_eq_true (by omega)).symm
    · rw [if_neg e, show decide (m = P (4 * q) - 48) = false from decide_eq_false e, Bool.or_false]
  · intro c hc
    rw [bt_or, hmask.2 c hc, bt_one _ (by omega) c (by omega), Bool.eq_iff_iff]
    unfold occ
    simp only [Bool.or_eq_true, decide_eq_true_eq]
    constructor
    · rintro (h1 | h1)
      · have h2 := mOn_at h1
        have hne : mOn (frN P q) c ≠ P (4 * q) - 48 := by
          intro e
          rw [e, haway] at h2
          omega
        have h3 := mOn_eq hwf2 (c := c) (m := mOn (frN P q) c) (by omega) h1 (by rw [key, if_neg hne]; exact h2)
        omega
      · have h3 := mOn_eq hwf2 (c := c) (m := P (4 * q) - 48) (by omega) (by omega) (by rw [key, if_pos rfl]; omega)
        omega
    · intro h1
      have h2 := mOn_at h1
      rw [key] at h2
      by_cases e : mOn (frN P (q + 1)) c = P (4 * q) - 48
      · rw [if_pos e] at h2; right; omega
      · rw [if_neg e] at h2
        left
        by_cases h4 : mOn (frN P q) c < 6
        · exact h4
        · exact absurd h2 (mOn_none h4 _ h1)
def PRes (k : Nat) (P : Nat → Nat) (A : Option Int32) (B : Option (Int32 × Int64)) : Prop := ∃ r rd, A = some r ∧ B = some (r, rd) ∧ ((∃ j, j ≤ k ∧ r = nI j) ∨ (r = -6 ∧ brdOK k P rd))
theorem pres_at {k j : Nat} {P : Nat → Nat} {rd : Int64} (h : j ≤ k) : PRes k P (some (nI j)) (some (nI j, rd)) := ⟨_, _, rfl, rfl, Or.inl ⟨j, h, rfl⟩⟩
theorem inb48 {k i : Nat} (hk : k ≤ 48) (hi : i < k) : ¬ (nI i < 0 ∨ 48 ≤ (nI i).toNatClampNeg) := nI_in (by omega) (by omega)
theorem turn0_m {f : Nat → Nat} (h : Dig f 0) : ¬ f_X10_turnOf (enc f 0) = 1 := by rw [turnOf_m h]; decide
theorem b2i_f : b2i false = 0 := rfl
theorem b2i_t : ¬ b2i true = 0 := by decide
theorem and_ff {a b : Prop} [Decidable a] [Decidable b] (h : ¬ (a ∧ b)) : (decide a && decide b) = false := by
  by_cases ha : a
  · have : ¬ b := fun hb => h ⟨ha, hb⟩
    simp [this]
  · simp [ha]
/-- the age -/
theorem ps_3 {k : Nat} {P : Nat → Nat} {sg pd : Nat → Int32} (h : PadR k P (nI k) sg (nI k) pd) {q n m c : Nat} {M C : Int32} (hi : 4 * q + 3 < k ∨ 4 * q + 3 = k) (hwf : Wf (frN P q) 0) (hm : m < 6) (hc : c < 25)
    (next : 4 * q + 3 < k → 48 ≤ P (4 * q + 3) → P (4 * q + 3) ≤ 57 → PRes k P (f_X3_boardFault_L9 (nI k) sg n M C 0 (nI (4 * q + 4))) (f_X10_faultOfBoard_L16 (nI k) pd n 0 (nI m) (nI c) (nI (4 * q + 4)) (enc (updN (frN P q) m (c + 32 * (P (4 * q + 3) - 48))) 0))) :
    PRes k P (f_X3_boardFault_L9 (nI k) sg (n + 1) M C 0 (nI (4 * q + 3))) (f_X10_faultOfBoard_L16 (nI k) pd (n + 1) 3 (nI m) (nI c) (nI (4 * q + 3)) (enc (frN P q) 0)) := by
  obtain ⟨hk, -, -, hP⟩ := id h
  rw [f_X3_boardFault_L9, f_X10_faultOfBoard_L16]
  rcases hi with hlt | hend
  rotate_left 1
  · rw [if_pos (nI_le (by omega) (by omega)), if_pos (nI_le (by omega) (by omega)), if_pos (show (0 : Int32) = 0 from rfl), if_neg (show ¬ (3 : Int32) = 0 by decide), (rem_t k (by omega)).2.1, if_neg (show ¬ nI (k % 4) = 0 by rw [show k % 4 = 3 by omega]; decide)]
    exact pres_at (Nat.le_refl k)
  obtain ⟨w1, w2, w3, w4⟩ := hP (4 * q + 3) hlt
  rw [if_neg (nI_ge hlt (by omega)), if_neg (nI_ge hlt (by omega)), signAt_c h hlt, Option.bind_some, if_pos (show (0 : Int32) = 0 from rfl), if_neg (inb48 hk hlt), nI_clamp (by omega), w4]
  unfold f_X3_fitsBoard jlet
  dsimp only
  rw [(rem_t (4 * q + 3) (by omega)).2.1, show (4 * q + 3) % 4 = 3 by omega, if_neg (turn0_m hwf.dig), if_neg (show ¬ nI 3 = 0 by decide), if_neg (show ¬ nI 3 = 1 by decide), if_neg (show ¬ nI 3 = 2 by decide), if_neg (show ¬ (3 : Int32) = 0 by decide), if_neg (show ¬ (3 : Int32) = 1 by decide), if_neg (show ¬ (3 : Int32) = 2 by decide), show f_X10_in (nI (P (4 * q + 3))).toInt64 48 57 = b2i (decide (48 ≤ P (4 * q + 3)) && decide (P (4 * q + 3) ≤ 57)) from inL (a := 48) (b := 57) (by omega) (by omega) (by omega)]
  have t48 : (nI (P (4 * q + 3)) < 48) = (P (4 * q + 3) < 48) := nI_lt_lit (b := 48) (by omega) (by omega)
  have t57 : ((57 : Int32) < nI (P (4 * q + 3))) = (57 < P (4 * q + 3)) := nI_lt_lit (a := 57) (by omega) (by omega)
  simp only [t48, t57]
  unfold f_X10_faultOfBoard_B240 f_X10_faultOfBoard_B243
  by_cases hage : 48 ≤ P (4 * q + 3) ∧ P (4 * q + 3) ≤ 57
  rotate_left 1
  · rw [and_ff hage, if_pos b2i_f, if_pos b2i_f]
    by_cases q1 : P (4 * q + 3) < 48
    · rw [if_pos q1, Option.bind_some, if_pos (show (0 : Int32) = 0 from rfl)]
      exact pres_at (by omega)
    · rw [if_neg q1, if_pos (by omega), Option.bind_some, if_pos (show (0 : Int32) = 0 from rfl)]
      exact pres_at (by omega)
  obtain ⟨g1, g2⟩ := hage
  have hb3 : (decide (48 ≤ P (4 * q + 3)) && decide (P (4 * q + 3) ≤ 57)) = true := by simp [g1, g2]
  have n33 : ¬ nI (P (4 * q + 3)) = 33 := by
    rw [show (nI (P (4 * q + 3)) = 33) = (P (4 * q + 3) = 33) from nI_eq_lit (b := 33) (by omega) (by omega)]; omega
  rw [hb3, if_neg b2i_t, if_neg b2i_t, if_neg (show ¬ P (4 * q + 3) < 48 by omega), if_neg (show ¬ 57 < P (4 * q + 3) by omega), Option.bind_some, if_neg (show ¬ (1 : Int32) = 0 by decide), if_neg n33, if_neg (show ¬ nI 3 = 0 by decide), if_neg (show ¬ nI 3 = 2 by decide)]
  unfold f_X3_boardFault_B99 jlet
  dsimp only
  rw [rem41.1, nI_1, show (48 : Int32) = nI 48 from rfl, nI_sub g1, putE_m hwf.dig hm (by omega) (by omega)]
  exact next hlt g1 g2
/-- the row -/
theorem ps_2 {k : Nat} {P : Nat → Nat} {sg pd : Nat → Int32} (h : PadR k P (nI k) sg (nI k) pd) {q n m : Nat} {M C : Int32} (hi : 4 * q + 2 < k ∨ 4 * q + 2 = k) (hwf : Wf (frN P q) 0) (hmask : maskR (frN P q) 0 C ∨ ∀ c, c < 25 → bt C c = occ (frN P q) c) (b1 : 97 ≤ P (4 * q + 1)) (b2 : P (4 * q + 1) ≤ 101)
    (next : 4 * q + 2 < k → 49 ≤ P (4 * q + 2) → P (4 * q + 2) ≤ 53 → ¬ mOn (frN P q) (cG P (4 * q + 1)) < 6 → PRes k P (f_X3_boardFault_L9 (nI k) sg n M (C ||| jshl 1 (nI (cG P (4 * q + 1)))) 0 (nI (4 * q + 3))) (f_X10_faultOfBoard_L16 (nI k) pd n 3 (nI m) (nI (cG P (4 * q + 1))) (nI (4 * q + 3)) (enc (frN P q) 0))) :
    PRes k P (f_X3_boardFault_L9 (nI k) sg (n + 1) M C 0 (nI (4 * q + 2))) (f_X10_faultOfBoard_L16 (nI k) pd (n + 1) 2 (nI m) (nI (P (4 * q + 1)) - 97) (nI (4 * q + 2)) (enc (frN P q) 0)) := by
  obtain ⟨hk, -, -, hP⟩ := id h
  have hmask : ∀ c, c < 25 → bt C c = occ (frN P q) c := hmask.elim (fun e => e.2) id
  have hd := hwf.dig
  rw [f_X3_boardFault_L9, f_X10_faultOfBoard_L16]
  rcases hi with hlt | hend
  rotate_left 1
  · rw [if_pos (nI_le (by omega) (by omega)), if_pos (nI_le (by omega) (by omega)), if_pos (show (0 : Int32) = 0 from rfl), if_neg (show ¬ (2 : Int32) = 0 by decide), (rem_t k (by omega)).2.1, if_neg (show ¬ nI (k % 4) = 0 by rw [show k % 4 = 2 by omega]; decide)]
    exact pres_at (Nat.le_refl k)
  obtain ⟨v1, v2, v3, v4⟩ := hP (4 * q + 2) hlt
  rw [if_neg (nI_ge hlt (by omega)), if_neg (nI_ge hlt (by omega)), signAt_c h hlt, Option.bind_some, if_pos (show (0 : Int32) = 0 from rfl), if_neg (inb48 hk hlt), nI_clamp (by omega), v4]
  unfold f_X3_fitsBoard jlet
  dsimp only
  rw [(rem_t (4 * q + 2) (by omega)).2.1, show (4 * q + 2) % 4 = 2 by omega, if_neg (turn0_m hd), if_neg (show ¬ nI 2 = 0 by decide), if_neg (show ¬ nI 2 = 1 by decide), if_pos (show nI 2 = 2 from rfl), if_neg (show ¬ (2 : Int32) = 0 by decide), if_neg (show ¬ (2 : Int32) = 1 by decide), if_pos (show (2 : Int32) = 2 from rfl), isLin_c (by omega), show f_X10_in (nI (P (4 * q + 2))).toInt64 49 53 = b2i (decide (49 ≤ P (4 * q + 2)) && decide (P (4 * q + 2) ≤ 53)) from inL (a := 49) (b := 53) (by omega) (by omega) (by omega), show nI (4 * q + 2) - 1 = nI (4 * q + 1) from nI_pred (4 * q + 1)]
  have flt : ∀ (z1 z2 z3 : Int32) rd, PRes k P (some (nI (4 * q + 2))) (f_X10_faultOfBoard_B243 (f_X10_faultOfBoard_L16 (nI k) pd n) (nI (4 * q + 2)) z1 z2 z3 0 rd) := by
    intro z1 z2 z3 rd
    unfold f_X10_faultOfBoard_B243
    rw [if_pos rfl]
    exact pres_at (by omega)
  by_cases hlin : 49 ≤ P (4 * q + 2) ∧ P (4 * q + 2) ≤ 53
  rotate_left 1
  · rw [and_ff hlin, if_pos b2i_f, if_pos b2i_f, Option.bind_some, if_pos (show (0 : Int32) = 0 from rfl)]
    exact flt _ _ _ _
  obtain ⟨d1, d2⟩ := hlin
  have hb2 : (decide (49 ≤ P (4 * q + 2)) && decide (P (4 * q + 2) ≤ 53)) = true := by simp [d1, d2]
  have hc25 : cG P (4 * q + 1) < 25 := by unfold cG; rw [show 4 * q + 1 + 1 = 4 * q + 2 by omega]; omega
  have n33 : ¬ nI (P (4 * q + 2)) = 33 := by
    rw [show (nI (P (4 * q + 2)) = 33) = (P (4 * q + 2) = 33) from nI_eq_lit (b := 33) (by omega) (by omega)]; omega
  rw [hb2, if_neg b2i_t, if_neg b2i_t, cellAt_c h (p := 4 * q + 1) hlt b1 d1, Option.bind_some, show (nI (P (4 * q + 1)) - 97) + (5 * (nI (P (4 * q + 2)) - 49)) = nI (cG P (4 * q + 1)) from cell_ar b1 d1, manOn_m hd (by omega), Option.bind_some, Option.bind_some]
  have hcc : (C &&& jshl 1 (nI (cG P (4 * q + 1))) = 0) = (¬ mOn (frN P q) (cG P (4 * q + 1)) < 6) := by
    rw [propext (bt_test (x := C) (k := cG P (4 * q + 1)) (by omega)), hmask _ hc25]
    unfold occ
    simp
  have hge : ((0 : Int32) ≤ moS (frN P q) (cG P (4 * q + 1))) = (mOn (frN P q) (cG P (4 * q + 1)) < 6) := by
    have := moS_neg (frN P q) (cG P (4 * q + 1))
    apply propext
    constructor
    · intro h1
      by_cases h2 : mOn (frN P q) (cG P (4 * q + 1)) < 6
      · exact h2
      · rw [← this] at h2
        exact absurd h2 (Int32.not_lt.mpr h1)
    · intro h1
      apply Int32.not_lt.mp
      rw [this]
      exact fun h2 => h2 h1
  simp only [hcc, hge]
  by_cases hfree : mOn (frN P q) (cG P (4 * q + 1)) < 6
  · rw [if_neg (fun q1 => q1 hfree), Option.bind_some, if_pos (show (0 : Int32) = 0 from rfl), if_pos hfree]
    exact flt _ _ _ _
  rw [if_pos hfree, Option.bind_some, if_neg (show ¬ (1 : Int32) = 0 by decide), if_neg n33, if_neg (show ¬ nI 2 = 0 by decide), if_pos (show nI 2 = 2 from rfl), if_neg hfree]
  unfold f_X3_boardFault_B99 f_X10_faultOfBoard_B243 jlet
  dsimp only
  rw [if_neg (show ¬ (1 : Int32) = 0 by decide), rem41.2.2.2, nI_1]
  exact next hlt d1 d2 hfree
/-- the column -/
theorem ps_1 {k : Nat} {P : Nat → Nat} {sg pd : Nat → Int32} (h : PadR k P (nI k) sg (nI k) pd) {q n m : Nat} {M C x3 : Int32} (hi : 4 * q + 1 < k ∨ 4 * q + 1 = k) (hwf : Wf (frN P q) 0)
    (next : 4 * q + 1 < k → 97 ≤ P (4 * q + 1) → P (4 * q + 1) ≤ 101 → PRes k P (f_X3_boardFault_L9 (nI k) sg n M C 0 (nI (4 * q + 2))) (f_X10_faultOfBoard_L16 (nI k) pd n 2 (nI m) (nI (P (4 * q + 1)) - 97) (nI (4 * q + 2)) (enc (frN P q) 0))) :
    PRes k P (f_X3_boardFault_L9 (nI k) sg (n + 1) M C 0 (nI (4 * q + 1))) (f_X10_faultOfBoard_L16 (nI k) pd (n + 1) 1 (nI m) x3 (nI (4 * q + 1)) (enc (frN P q) 0)) := by
  obtain ⟨hk, -, -, hP⟩ := id h
  rw [f_X3_boardFault_L9, f_X10_faultOfBoard_L16]
  rcases hi with hlt | hend
  rotate_left 1
  · rw [if_pos (nI_le (by omega) (by omega)), if_pos (nI_le (by omega) (by omega)), if_pos (show (0 : Int32) = 0 from rfl), if_neg (show ¬ (1 : Int32) = 0 by decide), (rem_t k (by omega)).2.1, if_neg (show ¬ nI (k % 4) = 0 by rw [show k % 4 = 1 by omega]; decide)]
    exact pres_at (Nat.le_refl k)
  obtain ⟨u1, u2, u3, u4⟩ := hP (4 * q + 1) hlt
  rw [if_neg (nI_ge hlt (by omega)), if_neg (nI_ge hlt (by omega)), signAt_c h hlt, Option.bind_some, if_pos (show (0 : Int32) = 0 from rfl), if_neg (inb48 hk hlt), nI_clamp (by omega), u4]
  unfold f_X3_fitsBoard jlet
  dsimp only
  rw [(rem_t (4 * q + 1) (by omega)).2.1, show (4 * q + 1) % 4 = 1 by omega, if_neg (turn0_m hwf.dig), if_neg (show ¬ nI 1 = 0 by decide), if_pos (show nI 1 = 1 from rfl), if_neg (show ¬ (1 : Int32) = 0 by decide), if_pos (show (1 : Int32) = 1 from rfl), isCol_c (by omega), show f_X10_in (nI (P (4 * q + 1))).toInt64 97 101 = b2i (decide (97 ≤ P (4 * q + 1)) && decide (P (4 * q + 1) ≤ 101)) from inL (a := 97) (b := 101) (by omega) (by omega) (by omega), Option.bind_some]
  unfold f_X10_faultOfBoard_B243
  by_cases hcol : 97 ≤ P (4 * q + 1) ∧ P (4 * q + 1) ≤ 101
  rotate_left 1
  · rw [and_ff hcol, if_pos b2i_f, if_pos b2i_f]
    exact pres_at (by omega)
  obtain ⟨b1, b2⟩ := hcol
  have hb : (decide (97 ≤ P (4 * q + 1)) && decide (P (4 * q + 1) ≤ 101)) = true := by simp [b1, b2]
  have n33 : ¬ nI (P (4 * q + 1)) = 33 := by
    rw [show (nI (P (4 * q + 1)) = 33) = (P (4 * q + 1) = 33) from nI_eq_lit (b := 33) (by omega) (by omega)]; omega
  rw [hb, if_neg b2i_t, if_neg b2i_t, if_neg n33, if_neg (show ¬ nI 1 = 0 by decide), if_neg (show ¬ nI 1 = 2 by decide)]
  unfold f_X3_boardFault_B99 jlet
  dsimp only
  rw [rem41.2.2.1, nI_1]
  exact next hlt b1 b2
