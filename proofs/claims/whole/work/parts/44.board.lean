/-! boards told as texts -/
theorem bt9 : ∀ c, c < 32 → bt 9 c = (decide (c = 0) || decide (c = 3)) := by decide +kernel
theorem and9 (M : Int32) : (M &&& 9 = 9) ↔ (bt M 0 = true ∧ bt M 3 = true) := by
  constructor
  · intro h
    have h0 : bt (M &&& 9) 0 = bt 9 0 := by rw [h]
    have h3 : bt (M &&& 9) 3 = bt 9 3 := by rw [h]
    rw [bt_and, bt9 0 (by omega)] at h0
    rw [bt_and, bt9 3 (by omega)] at h3
    simp at h0 h3
    exact ⟨h0, h3⟩
  · rintro ⟨h0, h3⟩
    apply bt_ext
    intro c hc
    rw [bt_and, bt9 c hc]
    by_cases e0 : c = 0
    · subst e0; simp [h0]
    · by_cases e3 : c = 3
      · subst e3; simp [h3]
      · simp [e0, e3]
theorem enc31 : (1092850007424543 : Int64) = enc (fun _ => 31) 0 := by decide +kernel
theorem enc_or {f : Nat → Nat} (h : Dig f 0) : enc f 0 ||| 18014398509481984 = enc f 1 := by
  have h1 : encN f 0 < 2 ^ 54 := by
    have h0 := h.2 0 (by omega); have h1 := h.2 1 (by omega); have h2 := h.2 2 (by omega); have h3 := h.2 3 (by omega); have h4 := h.2 4 (by omega); have h5 := h.2 5 (by omega)
    unfold encN
    omega
  unfold enc
  rw [encN_split f 1]
  apply Int64.toBitVec_inj.mp
  rw [Int64.toBitVec_or, lN_toBV, lN_toBV, show (18014398509481984 : Int64).toBitVec = BitVec.ofNat 64 (2 ^ 54 * 1 + 0) from rfl]
  apply BitVec.eq_of_getLsbD_eq
  intro i hi
  simp only [BitVec.getLsbD_or, BitVec.getLsbD_ofNat, hi, decide_true, Bool.true_and, Nat.testBit_two_pow_mul_add _ h1, Nat.testBit_two_pow_mul_add _ (show 0 < 2 ^ 54 by omega)]
  by_cases h54 : i < 54
  · simp [h54]
  · simp only [h54, if_false]
    have : (encN f 0).testBit i = false := Nat.testBit_lt_two_pow (Nat.lt_of_lt_of_le h1 (Nat.pow_le_pow_right (n := 2) (by omega) (by omega)))
    simp [this]
theorem withTurn_0 {f : Nat → Nat} (h : Dig f 0) : f_X8_withTurn (enc f 0) 0 = enc f 0 ∧ f_X8_withTurn (enc f 0) 1 = enc f 1 := by
  have h1 : encN f 0 < 2 ^ 54 := by
    have h0 := h.2 0 (by omega); have h1 := h.2 1 (by omega); have h2 := h.2 2 (by omega); have h3 := h.2 3 (by omega); have h4 := h.2 4 (by omega); have h5 := h.2 5 (by omega)
    unfold encN
    omega
  have hand : enc f 0 &&& (-18014398509481985) = enc f 0 := by
    unfold enc
    apply Int64.toBitVec_inj.mp
    rw [Int64.toBitVec_and, lN_toBV, show (-18014398509481985 : Int64).toBitVec = ~~~ (BitVec.ofNat 64 (2 ^ 54 * 1 + 0)) from rfl]
    apply BitVec.eq_of_getLsbD_eq
    intro i hi
    simp only [BitVec.getLsbD_and, BitVec.getLsbD_not, BitVec.getLsbD_ofNat, hi, decide_true, Bool.true_and, Nat.testBit_two_pow_mul_add _ (show 0 < 2 ^ 54 by omega)]
    by_cases h54 : i < 54
    · simp [h54]
    · have : (encN f 0).testBit i = false := Nat.testBit_lt_two_pow (Nat.lt_of_lt_of_le h1 (Nat.pow_le_pow_right (n := 2) (by omega) (by omega)))
      simp [this]
  unfold f_X8_withTurn
  rw [hand]
  constructor
  · rw [show jlshl (Int32.toInt64 0) 54 = 0 by decide +kernel]
    apply Int64.toBitVec_inj.mp
    simp
  · rw [show jlshl (Int32.toInt64 1) 54 = 18014398509481984 by decide +kernel]
    exact enc_or h
/-- the men of the first groups -/
def frN (P : Nat → Nat) : Nat → Nat → Nat
  | 0 => fun _ => 31
  | q+1 => updN (frN P q) (P (4 * q) - 48) (cG P (4 * q + 1) + 32 * (P (4 * q + 3) - 48))
def grp (P : Nat → Nat) (q : Nat) : Prop := (48 ≤ P (4 * q) ∧ P (4 * q) ≤ 53 ∧ frN P q (P (4 * q) - 48) % 32 = 31) ∧ (97 ≤ P (4 * q + 1) ∧ P (4 * q + 1) ≤ 101) ∧ (49 ≤ P (4 * q + 2) ∧ P (4 * q + 2) ≤ 53 ∧ ¬ mOn (frN P q) (cG P (4 * q + 1)) < 6) ∧ (48 ≤ P (4 * q + 3) ∧ P (4 * q + 3) ≤ 57)
theorem wf31 : Wf (fun _ => 31) 0 := ⟨by omega, fun _ _ => Or.inl rfl, fun _ _ _ _ h => absurd rfl h⟩
theorem fr_step {P : Nat → Nat} {q : Nat} (h : Wf (frN P q) 0) (hg : grp P q) : Wf (frN P (q + 1)) 0 := by
  obtain ⟨⟨a1, a2, a3⟩, ⟨b1, b2⟩, ⟨c1, c2, c3⟩, ⟨d1, d2⟩⟩ := hg
  have hc : cG P (4 * q + 1) < 25 := by unfold cG; rw [show 4 * q + 1 + 1 = 4 * q + 2 by omega]; omega
  have hn := mOn_none c3
  refine ⟨by omega, fun m hm => ?_, fun m hm k hk hne he => ?_⟩
  · unfold frN updN
    split
    · right; omega
    · exact h.2.1 m hm
  · unfold frN updN at hne he
    by_cases e1 : m = P (4 * q) - 48
    · rw [if_pos e1] at he
      by_cases e2 : k = P (4 * q) - 48
      · omega
      · rw [if_neg e2] at he
        exact absurd (by omega) (hn k hk)
    · rw [if_neg e1] at he hne
      by_cases e2 : k = P (4 * q) - 48
      · rw [if_pos e2] at he
        exact absurd (by omega) (hn m hm)
      · rw [if_neg e2] at he
        exact h.2.2 m hm k hk hne he
/-- what stands in the class's two masks behind q groups -/
def maskR (f : Nat → Nat) (M C : Int32) : Prop := (∀ m, m < 6 → bt M m = decide (f m % 32 ≠ 31)) ∧ ∀ c, c < 25 → bt C c = occ f c
theorem boardTold_c {k : Nat} {P : Nat → Nat} {ps pm : Int32} {sg pd : Nat → Int32} (h : PadR k P ps sg pm pd) {Q : Nat} (hQ : 4 * Q ≤ k) (hk1 : k < 4 * Q + 2) (hg : ∀ q, q < Q → grp P q ∧ Wf (frN P q) 0) : f_X3_boardTold ps sg = some (f_X8_withTurn (enc (frN P Q) 0) (if k % 4 = 1 then 1 else 0)) := by
  obtain ⟨hk, e1, e2, hP⟩ := id h
  have L : ∀ n q, q ≤ Q → Q - q < n → f_X3_boardTold_L6 ps sg n (enc (frN P q) 0) (nI (4 * q)) = some (f_X8_withTurn (enc (frN P Q) 0) (if k % 4 = 1 then 1 else 0)) := by
    intro n
    induction n with
    | zero => intro q _ hn; omega
    | succ n ih =>
      intro q hq hn
      rw [f_X3_boardTold_L6, show nI (4 * q) + 3 = nI (4 * q + 3) from nI_add (4 * q) 3, show nI (4 * q) + 4 = nI (4 * (q + 1)) from nI_add (4 * q) 4, nI_1]
      by_cases hqQ : q = Q
      · subst hqQ
        rw [e1, if_pos (nI_le (by omega) (by omega)), (rem_t k (by omega)).2.1]
        simp only [show (nI (k % 4) = 1) = (k % 4 = 1) from nI_eq_lit (b := 1) (by omega) (by omega)]
        unfold f_X3_boardTold_B68
        by_cases h4 : k % 4 = 1
        · rw [if_pos h4, if_pos h4]
        · rw [if_neg h4, if_neg h4]
      · obtain ⟨⟨⟨a1, a2, a3⟩, ⟨b1, b2⟩, ⟨c1, c2, c3⟩, ⟨d1, d2⟩⟩, hwf⟩ := hg q (by omega)
        have hc : cG P (4 * q + 1) < 25 := by unfold cG; rw [show 4 * q + 1 + 1 = 4 * q + 2 by omega]; omega
        have ec := cellAt_c h (p := 4 * q + 1) (by omega) b1 (by rw [show 4 * q + 1 + 1 = 4 * q + 2 by omega]; exact c1)
        rw [e1] at ec
        have s0 := signAt_c h (i := 4 * q) (by omega)
        have s3 := signAt_c h (i := 4 * q + 3) (by omega)
        rw [e1] at s0 s3
        rw [e1, if_neg (nI_ge (by omega) (by omega)), s0, Option.bind_some, ec, Option.bind_some, s3, Option.bind_some, show (48 : Int32) = nI 48 from rfl, nI_sub a1, nI_sub d1, putE hwf.dig (by omega) (by omega) (by omega)]
        have := ih (q + 1) (by omega) (by omega)
        rw [e1] at this
        unfold jlet
        exact this
  unfold f_X3_boardTold
  rw [enc31]
  exact L 100 0 (by omega) (by omega)
