/-! the pad, and games on it -/
def PadR (k : Nat) (P : Nat → Nat) (ps : Int32) (sg : Nat → Int32) (pm : Int32) (pd : Nat → Int32) : Prop := k ≤ 48 ∧ ps = nI k ∧ pm = nI k ∧ ∀ i, i < k → 33 ≤ P i ∧ P i ≤ 126 ∧ sg i = nI (P i) ∧ pd i = nI (P i)
theorem byte_t : ∀ v, v < 127 → vp_nar .byte ((nI v).toInt8.toInt32) = nI v := by decide +kernel
theorem op_say {k : Nat} {P : Nat → Nat} {ps pm : Int32} {sg pd : Nat → Int32} (h : PadR k P ps sg pm pd) (z : Int32) : ∃ r k2 P2 ps2 sg2 pm2 pd2, PadR k2 P2 ps2 sg2 pm2 pd2 ∧ f_X9_say ps sg z = some (r, ps2, sg2) ∧ f_X10_say pm pd z = some (r, pm2, pd2) := by
  obtain ⟨hk, rfl, rfl, hP⟩ := h
  unfold f_X9_say f_X10_say f_X3_add
  rcases inN z (a := 33) (b := 126) (by omega) (by omega) with hout | ⟨v, h1, h2, rfl⟩
  · have e : f_X10_in z.toInt64 33 126 = 0 := in_out (a := 33) (b := 126) hout
    rw [e, if_pos rfl]
    refine ⟨-2, k, P, nI k, sg, nI k, pd, ⟨hk, rfl, rfl, hP⟩, ?_, rfl⟩
    rcases hout with h3 | h3
    · rw [if_pos (show z < 33 from h3)]
    · by_cases h4 : z < 33
      · rw [if_pos h4]
      · rw [if_neg h4, if_neg (show ¬ z ≤ 126 from Int32.not_le.mpr h3)]
  · have e : f_X10_in (nI v).toInt64 33 126 = 1 := in_in (a := 33) (b := 126) h1 h2 (by omega)
    rw [e, if_neg (show ¬ (1 : Int32) = 0 by decide), if_neg (show ¬ nI v < (33 : Int32) from nI_nlt (b := 33) h1 (by omega)), if_pos (show nI v ≤ (126 : Int32) from nI_le (b := 126) h2 (by omega)), if_neg (nI_pos (n := k) (by omega))]
    simp only [show (nI k = 48) = (k = 48) from nI_eq_lit (b := 48) (by omega) (by omega)]
    by_cases h48 : k = 48
    · rw [if_pos h48, if_neg (show ¬ nI k < (48 : Int32) from nI_nlt (b := 48) (by omega) (by omega))]
      exact ⟨-4, k, P, nI k, sg, nI k, pd, ⟨hk, rfl, rfl, hP⟩, rfl, rfl⟩
    · have hin : ¬ (nI k < 0 ∨ 48 ≤ (nI k).toNatClampNeg) := nI_in (by omega) (by omega)
      rw [if_neg h48, if_pos (show nI k < (48 : Int32) from nI_lt (b := 48) (by omega) (by omega)), if_neg hin, if_neg hin, nI_clamp (by omega)]
      unfold jlet
      dsimp only
      rw [byte_t v (by omega), nI_1]
      refine ⟨nI (k + 1), k + 1, updN P k v, nI (k + 1), upd sg k (nI v), nI (k + 1), upd pd k (nI v), ⟨by omega, rfl, rfl, fun i hi => ?_⟩, rfl, rfl⟩
      unfold updN upd
      by_cases e2 : i = k
      · rw [if_pos e2, if_pos e2, if_pos e2]; exact ⟨h1, h2, rfl, rfl⟩
      · rw [if_neg e2, if_neg e2, if_neg e2]; exact hP i (by omega)
theorem signAt_c {k : Nat} {P : Nat → Nat} {ps pm : Int32} {sg pd : Nat → Int32} (h : PadR k P ps sg pm pd) {i : Nat} (hi : i < k) : f_X3_signAt ps sg (nI i) = some (nI (P i)) := by
  obtain ⟨hk, rfl, rfl, hP⟩ := h
  unfold f_X3_signAt
  rw [if_neg (nI_pos (n := i) (by omega)), if_neg (nI_ge (by omega) (by omega)), if_pos (show nI i < (48 : Int32) from nI_lt (b := 48) (by omega) (by omega)), if_neg (nI_in (by omega) (by omega)), nI_clamp (by omega), (hP i hi).2.2.1]
def okG (P : Nat → Nat) (i : Nat) : Bool := if i % 2 = 0 then decide (97 ≤ P i) && decide (P i ≤ 101) else decide (49 ≤ P i) && decide (P i ≤ 53)
theorem rem_t : ∀ i, i < 64 → jrem (nI i) 2 = nI (i % 2) ∧ jrem (nI i) 4 = nI (i % 4) ∧ nI i / 4 = nI (i / 4) := by decide +kernel
theorem isCol_c {v : Nat} (hv : v < 2 ^ 31) : f_X3_isColumn (nI v) = b2i (decide (97 ≤ v) && decide (v ≤ 101)) := by
  unfold f_X3_isColumn
  simp only [show (nI v < 97) = (v < 97) from nI_lt_lit (b := 97) hv (by omega), show ((101 : Int32) < nI v) = (101 < v) from nI_lt_lit (a := 101) (by omega) hv]
  by_cases h1 : v < 97
  · have : ¬ 97 ≤ v := by omega
    simp [h1, this, b2i]
  · have e1 : 97 ≤ v := by omega
    by_cases h2 : 101 < v
    · have : ¬ v ≤ 101 := by omega
      simp [h1, h2, this, b2i]
    · have : v ≤ 101 := by omega
      simp [h1, h2, e1, this, b2i]
theorem isLin_c {v : Nat} (hv : v < 2 ^ 31) : f_X3_isLine (nI v) = b2i (decide (49 ≤ v) && decide (v ≤ 53)) := by
  unfold f_X3_isLine
  simp only [show (nI v < 49) = (v < 49) from nI_lt_lit (b := 49) hv (by omega), show ((53 : Int32) < nI v) = (53 < v) from nI_lt_lit (a := 53) (by omega) hv]
  by_cases h1 : v < 49
  · have : ¬ 49 ≤ v := by omega
    simp [h1, this, b2i]
  · have e1 : 49 ≤ v := by omega
    by_cases h2 : 53 < v
    · have : ¬ v ≤ 53 := by omega
      simp [h1, h2, this, b2i]
    · have : v ≤ 53 := by omega
      simp [h1, h2, e1, this, b2i]
theorem inL {v a b : Nat} (hv : v < 2 ^ 31) (ha : a < 2 ^ 31) (hb : b < 2 ^ 31) : f_X10_in (nI v).toInt64 (nI a).toInt64 (nI b).toInt64 = b2i (decide (a ≤ v) && decide (v ≤ b)) := by
  rw [in3]
  simp only [nI_le_lit ha hv, nI_le_lit hv hb]
def gmOK (k : Nat) (P : Nat → Nat) : Prop := k % 4 = 0 ∧ ∀ j, j < k → okG P j = true
theorem gameFault_cm {k : Nat} {P : Nat → Nat} {ps pm : Int32} {sg pd : Nat → Int32} (h : PadR k P ps sg pm pd) : ∃ r, f_X3_gameFault ps sg = some r ∧ f_X10_faultOfGame pm pd = some r ∧ ((r = -6 ∧ gmOK k P) ∨ ∃ j, j ≤ k ∧ r = nI j) := by
  obtain ⟨hk, e1, e2, hP⟩ := id h
  have L : ∀ n i, i ≤ k → k - i < n → (∀ j, j < i → okG P j = true) → ∃ r, f_X3_gameFault_L2 ps sg n (nI i) = some r ∧ f_X10_faultOfGame_L2 pm pd n (nI i) = some r ∧ ((r = -6 ∧ gmOK k P) ∨ ∃ j, j ≤ k ∧ r = nI j) := by
    intro n
    induction n with
    | zero => intro i _ hn; omega
    | succ n ih =>
      intro i hi hn hall
      rw [f_X3_gameFault_L2, f_X10_faultOfGame_L2]
      by_cases hik : i = k
      · subst hik
        rw [e1, e2, if_pos (nI_le (Nat.le_refl i) (by omega)), if_pos (nI_le (Nat.le_refl i) (by omega)), (rem_t i (by omega)).2.1]
        simp only [show (nI (i % 4) = 0) = (i % 4 = 0) from nI_eq_lit (b := 0) (by omega) (by omega)]
        by_cases h4 : i % 4 = 0
        · rw [if_pos h4]; exact ⟨_, rfl, rfl, Or.inl ⟨rfl, h4, hall⟩⟩
        · rw [if_neg h4]; exact ⟨_, rfl, rfl, Or.inr ⟨i, Nat.le_refl _, rfl⟩⟩
      · have hlt : i < k := by omega
        obtain ⟨p1, p2, p3, p4⟩ := hP i hlt
        rw [signAt_c h hlt, Option.bind_some, e1, e2, if_neg (nI_ge hlt (by omega)), if_neg (nI_ge hlt (by omega)), if_neg (show ¬ (48 : Int32) ≤ nI i from nI_ge (b := 48) (by omega) (by omega)), (rem_t i (by omega)).1, if_neg (show ¬ (nI i < 0 ∨ 48 ≤ (nI i).toNatClampNeg) from nI_in (by omega) (by omega)), if_neg (show ¬ (nI i < 0 ∨ 48 ≤ (nI i).toNatClampNeg) from nI_in (by omega) (by omega)), nI_clamp (by omega), p4, isCol_c (by omega), isLin_c (by omega)]
        have q1 : f_X10_in (nI (P i)).toInt64 97 101 = b2i (decide (97 ≤ P i) && decide (P i ≤ 101)) := inL (a := 97) (b := 101) (by omega) (by omega) (by omega)
        have q2 : f_X10_in (nI (P i)).toInt64 49 53 = b2i (decide (49 ≤ P i) && decide (P i ≤ 53)) := inL (a := 49) (b := 53) (by omega) (by omega) (by omega)
        rw [q1, q2]
        simp only [show (nI (i % 2) = 0) = (i % 2 = 0) from nI_eq_lit (b := 0) (by omega) (by omega)]
        have hgo : okG P i = true → ∃ r, f_X3_gameFault_L2 (nI k) sg n (nI (i + 1)) = some r ∧ f_X10_faultOfGame_L2 (nI k) pd n (nI (i + 1)) = some r ∧ ((r = -6 ∧ gmOK k P) ∨ ∃ j, j ≤ k ∧ r = nI j) := by
          intro hok
          have := ih (i + 1) (by omega) (by omega) (fun j hj => by
            by_cases e : j = i
            · rw [e]; exact hok
            · exact hall j (by omega))
          rwa [e1, e2] at this
        unfold f_X3_gameFault_B33 f_X10_faultOfGame_B68 jlet
        dsimp only
        rw [nI_1]
        unfold okG at hgo
        by_cases hp : i % 2 = 0
        · rw [if_pos hp] at hgo ⊢
          rw [if_pos hp]
          cases hb : (decide (97 ≤ P i) && decide (P i ≤ 101))
          · exact ⟨_, rfl, rfl, Or.inr ⟨i, by omega, rfl⟩⟩
          · exact hgo hb
        · rw [if_neg hp] at hgo ⊢
          rw [if_neg hp]
          cases hb : (decide (49 ≤ P i) && decide (P i ≤ 53))
          · exact ⟨_, rfl, rfl, Or.inr ⟨i, by omega, rfl⟩⟩
          · exact hgo hb
  exact L 100 0 (by omega) (by omega) (fun j hj => by omega)
def cG (P : Nat → Nat) (p : Nat) : Nat := (P p - 97) + 5 * (P (p + 1) - 49)
theorem cG_lt {k : Nat} {P : Nat → Nat} (h : gmOK k P) {p : Nat} (hp : p + 1 < k) (h2 : p % 2 = 0) : 97 ≤ P p ∧ 49 ≤ P (p + 1) ∧ cG P p < 25 := by
  have h3 := h.2 p (by omega)
  have h4 := h.2 (p + 1) hp
  unfold okG at h3 h4
  rw [if_pos h2] at h3
  rw [if_neg (by omega)] at h4
  simp only [Bool.and_eq_true, decide_eq_true_eq] at h3 h4
  unfold cG
  omega
theorem cell_ar {a b : Nat} (ha : 97 ≤ a) (hb : 49 ≤ b) : (nI a - 97) + (5 * (nI b - 49)) = nI ((a - 97) + 5 * (b - 49)) := by
  rw [show (97 : Int32) = nI 97 from rfl, show (49 : Int32) = nI 49 from rfl, show (5 : Int32) = nI 5 from rfl, nI_sub ha, nI_sub hb, nI_mul, nI_add]
theorem cellAt_c {k : Nat} {P : Nat → Nat} {ps pm : Int32} {sg pd : Nat → Int32} (h : PadR k P ps sg pm pd) {p : Nat} (hp : p + 1 < k) (ha : 97 ≤ P p) (hb : 49 ≤ P (p + 1)) : f_X3_cellAt ps sg (nI p) = some (nI (cG P p)) := by
  unfold f_X3_cellAt
  rw [signAt_c h (by omega), Option.bind_some, nI_1, signAt_c h hp, Option.bind_some, cell_ar ha hb]
  rfl
theorem four_m : ∀ m, m < 16 → (4 : Int32) * nI m = nI (4 * m) ∧ (4 : Int32) * nI m + 1 = nI (4 * m + 1) ∧ (4 : Int32) * nI m + 2 = nI (4 * m + 2) ∧ (4 : Int32) * nI m + 3 = nI (4 * m + 3) := by decide +kernel
theorem fromAt_cm {k : Nat} {P : Nat → Nat} {ps pm : Int32} {sg pd : Nat → Int32} (h : PadR k P ps sg pm pd) (hg : gmOK k P) {m : Nat} (hm : 4 * m + 3 < k) : f_X3_fromAt ps sg (nI m) = some (nI (cG P (4 * m))) ∧ f_X10_fromAt pd (nI m) = some (nI (cG P (4 * m))) ∧ f_X3_toAt ps sg (nI m) = some (nI (cG P (4 * m + 2))) ∧ f_X10_toAt pd (nI m) = some (nI (cG P (4 * m + 2))) := by
  obtain ⟨hk, e1, e2, hP⟩ := id h
  obtain ⟨f0, f1, f2, f3⟩ := four_m m (by omega)
  obtain ⟨a1, a2, -⟩ := cG_lt hg (p := 4 * m) (by omega) (by omega)
  obtain ⟨b1, b2, -⟩ := cG_lt hg (p := 4 * m + 2) (by omega) (by omega)
  refine ⟨?_, ?_, ?_, ?_⟩
  · unfold f_X3_fromAt
    rw [f0, cellAt_c h (by omega) a1 a2]; rfl
  · unfold f_X10_fromAt
    rw [f1, f0, if_neg (nI_in (by omega) (by omega)), if_neg (nI_in (by omega) (by omega)), nI_clamp (by omega), nI_clamp (by omega), (hP (4 * m) (by omega)).2.2.2, (hP (4 * m + 1) (by omega)).2.2.2, cell_ar a1 a2]; rfl
  · unfold f_X3_toAt
    rw [f2, cellAt_c h (by omega) b1 b2]; rfl
  · unfold f_X10_toAt
    rw [f3, f2, if_neg (nI_in (by omega) (by omega)), if_neg (nI_in (by omega) (by omega)), nI_clamp (by omega), nI_clamp (by omega), (hP (4 * m + 2) (by omega)).2.2.2, (hP (4 * m + 3) (by omega)).2.2.2, cell_ar b1 b2]; rfl
