/-! bits of stands: a stand is six digits of nine bits, and the turn -/
theorem lN_toBV (N : Nat) : (lN N).toBitVec = BitVec.ofNat 64 N := rfl
theorem nI_toBV (N : Nat) : (nI N).toBitVec = BitVec.ofNat 32 N := rfl
theorem sh_mod : ∀ k, k < 64 → ((nI k).toInt64.toUInt64 &&& Int64.toUInt64 63) = UInt64.ofNat k := by decide +kernel
theorem jlushr_lN {N k : Nat} (hN : N < 2 ^ 64) (hk : k < 64) : jlushr (lN N) (nI k) = lN (N / 2 ^ k) := by
  unfold jlushr
  rw [sh_mod k hk]
  apply Int64.toBitVec_inj.mp
  show ((lN N).toUInt64 >>> UInt64.ofNat k).toBitVec = _
  rw [UInt64.toBitVec_shiftRight]
  apply BitVec.eq_of_toNat_eq
  rw [lN_toBV, BitVec.toNat_ofNat]
  have h1 : (UInt64.ofNat k).toBitVec % 64 = BitVec.ofNat 64 k := by
    apply BitVec.eq_of_toNat_eq
    simp
    omega
  rw [h1]
  have h2 : (lN N).toUInt64.toBitVec = BitVec.ofNat 64 N := rfl
  rw [h2]
  simp
  rw [Nat.mod_eq_of_lt hN, Nat.shiftRight_eq_div_pow]
  have h3 : N / 2 ^ k ≤ N := Nat.div_le_self _ _
  have h4 : k % 18446744073709551616 = k := Nat.mod_eq_of_lt (by omega)
  rw [h4]
  exact (Nat.mod_eq_of_lt (by omega)).symm
theorem sh_mod2 : ∀ k, k < 64 → (((nI k).toInt64 &&& 63).toBitVec.smod 64) = BitVec.ofNat 64 k := by decide +kernel
theorem jlshr_lN {N k : Nat} (hN : N < 2 ^ 63) (hk : k < 64) : jlshr (lN N) (nI k) = lN (N / 2 ^ k) := by
  unfold jlshr
  apply Int64.toBitVec_inj.mp
  rw [Int64.toBitVec_shiftRight, sh_mod2 k hk, lN_toBV, lN_toBV]
  apply BitVec.eq_of_toNat_eq
  have hm : (BitVec.ofNat 64 N).msb = false := by
    rw [BitVec.msb_eq_decide]
    simp
    omega
  rw [BitVec.sshiftRight', BitVec.sshiftRight_eq_of_msb_false hm]
  simp
  have h3 : N / 2 ^ k ≤ N := Nat.div_le_self _ _
  have h4 : k % 18446744073709551616 = k := Nat.mod_eq_of_lt (by omega)
  rw [h4, Nat.mod_eq_of_lt (a := N) (by omega), Nat.shiftRight_eq_div_pow]
  exact (Nat.mod_eq_of_lt (by omega)).symm
theorem jlshl_lN {N k : Nat} (hk : k < 64) : jlshl (lN N) (nI k) = lN (N * 2 ^ k) := by
  unfold jlshl
  apply Int64.toBitVec_inj.mp
  rw [Int64.toBitVec_shiftLeft, sh_mod2 k hk, lN_toBV, lN_toBV]
  apply BitVec.eq_of_toNat_eq
  have h4 : k % 18446744073709551616 = k := Nat.mod_eq_of_lt (by omega)
  simp
  rw [h4, Nat.shiftLeft_eq, Nat.mod_mul_mod]
theorem nI_and_pow {M k : Nat} (hk : k ≤ 31) {q : Int32} (hq : q.toBitVec = BitVec.ofNat 32 (2 ^ k - 1)) : nI M &&& q = nI (M % 2 ^ k) := by
  apply Int32.toBitVec_inj.mp
  rw [Int32.toBitVec_and, nI_toBV, nI_toBV, hq]
  apply BitVec.eq_of_getLsbD_eq
  intro i hi
  simp only [BitVec.getLsbD_and, BitVec.getLsbD_ofNat, Nat.testBit_mod_two_pow, Nat.testBit_two_pow_sub_one]
  by_cases h : i < k <;> simp [h, hi]
theorem nI_and31 (M : Nat) : nI M &&& 31 = nI (M % 32) := nI_and_pow (k := 5) (by omega) rfl
theorem nI_and15 (M : Nat) : nI M &&& 15 = nI (M % 16) := nI_and_pow (k := 4) (by omega) rfl
theorem nI_and1 (M : Nat) : nI M &&& 1 = nI (M % 2) := nI_and_pow (k := 1) (by omega) rfl
theorem nine_m : ∀ m, m < 6 → 9 * nI m = nI (9 * m) ∧ 9 * nI m + 5 = nI (9 * m + 5) := by decide +kernel
theorem cell_c {N m : Nat} (hN : N < 2 ^ 63) (hm : m < 6) : f_X8_cellOf (lN N) (nI m) = nI (N / 2 ^ (9 * m) % 32) := by
  unfold f_X8_cellOf
  rw [(nine_m m hm).1, jlushr_lN (by omega) (by omega), lN_i, nI_and31]
theorem age_c {N m : Nat} (hN : N < 2 ^ 63) (hm : m < 6) : f_X8_ageOf (lN N) (nI m) = nI (N / 2 ^ (9 * m + 5) % 16) := by
  unfold f_X8_ageOf
  rw [(nine_m m hm).2, jlushr_lN (by omega) (by omega), lN_i, nI_and15]
theorem turn_c {N : Nat} (hN : N < 2 ^ 63) : f_X8_turnOf (lN N) = nI (N / 2 ^ 54 % 2) := by
  unfold f_X8_turnOf
  rw [show (54 : Int32) = nI 54 from rfl, jlushr_lN (by omega) (by omega), lN_i, nI_and1]
theorem cell_m {N m : Nat} (hN : N < 2 ^ 63) (hm : m < 6) : f_X10_cellOf (lN N) (nI m) = nI (N / 2 ^ (9 * m) % 32) := by
  unfold f_X10_cellOf
  rw [(nine_m m hm).1, jlshr_lN (by omega) (by omega), lN_i, nI_and31]
theorem age_m {N m : Nat} (hN : N < 2 ^ 63) (hm : m < 6) : f_X10_ageOf (lN N) (nI m) = nI (N / 2 ^ (9 * m + 5) % 16) := by
  unfold f_X10_ageOf
  rw [(nine_m m hm).2, jlshr_lN (by omega) (by omega), lN_i, nI_and15]
theorem turn_m {N : Nat} (hN : N < 2 ^ 63) : f_X10_turnOf (lN N) = nI (N / 2 ^ 54 % 2) := by
  unfold f_X10_turnOf
  rw [show (54 : Int32) = nI 54 from rfl, jlshr_lN (by omega) (by omega), lN_i, nI_and1]
theorem ca_c : ∀ c, c < 32 → ∀ a, a < 16 → (nI c ||| jshl (nI a) 5).toInt64 = lN (c + 32 * a) := by decide +kernel
theorem put_bits {N V k : Nat} (hV : V < 512) (hk : k + 9 < 64) : (lN N &&& (lN (511 * 2 ^ k) ^^^ (-1))) ||| lN (V * 2 ^ k) = lN (2 ^ k * (2 ^ 9 * (N / 2 ^ (k + 9)) + V) + N % 2 ^ k) := by
  apply Int64.toBitVec_inj.mp
  rw [Int64.toBitVec_or, Int64.toBitVec_and, Int64.toBitVec_xor, lN_toBV, lN_toBV, lN_toBV, lN_toBV]
  apply BitVec.eq_of_getLsbD_eq
  intro i hi
  have hm1 : (-1 : Int64).toBitVec.getLsbD i = true := by
    rw [show (-1 : Int64).toBitVec = BitVec.allOnes 64 from rfl, BitVec.getLsbD_allOnes]
    simp [hi]
  have e1 : (511 * 2 ^ k).testBit i = (decide (k ≤ i) && decide (i - k < 9)) := by
    rw [← Nat.shiftLeft_eq, Nat.testBit_shiftLeft, show (511 : Nat) = 2 ^ 9 - 1 from rfl, Nat.testBit_two_pow_sub_one]
  have e2 : (V * 2 ^ k).testBit i = (decide (k ≤ i) && V.testBit (i - k)) := by
    rw [← Nat.shiftLeft_eq, Nat.testBit_shiftLeft]
  have e3 : (2 ^ k * (2 ^ 9 * (N / 2 ^ (k + 9)) + V) + N % 2 ^ k).testBit i = if i < k then (N % 2 ^ k).testBit i else (2 ^ 9 * (N / 2 ^ (k + 9)) + V).testBit (i - k) := Nat.testBit_two_pow_mul_add _ (Nat.mod_lt _ (Nat.two_pow_pos k)) i
  have e4 : (2 ^ 9 * (N / 2 ^ (k + 9)) + V).testBit (i - k) = if i - k < 9 then V.testBit (i - k) else (N / 2 ^ (k + 9)).testBit (i - k - 9) := Nat.testBit_two_pow_mul_add _ hV (i - k)
  simp only [BitVec.getLsbD_or, BitVec.getLsbD_and, BitVec.getLsbD_xor, BitVec.getLsbD_ofNat, hm1, e1, e2, e3, e4, hi, decide_true, Bool.true_and, Nat.testBit_mod_two_pow, Nat.testBit_div_two_pow]
  by_cases h1 : i < k
  · have h2 : ¬ k ≤ i := by omega
    simp [h1, h2]
  · have h2 : k ≤ i := by omega
    by_cases h3 : i - k < 9
    · simp [h1, h2, h3]
    · have h4 : i - k - 9 + (k + 9) = i := by omega
      have h5 : V.testBit (i - k) = false := Nat.testBit_lt_two_pow (Nat.lt_of_lt_of_le hV (Nat.pow_le_pow_right (n := 2) (by omega) (show 9 ≤ i - k by omega)))
      simp [h1, h2, h3, h4, h5]
theorem put_c {N m c a : Nat} (hm : m < 6) (hc : c < 32) (ha : a < 16) : f_X8_put (lN N) (nI m) (nI c) (nI a) = lN (2 ^ (9 * m) * (2 ^ 9 * (N / 2 ^ (9 * m + 9)) + (c + 32 * a)) + N % 2 ^ (9 * m)) := by
  unfold f_X8_put jlet
  dsimp only
  rw [(nine_m m hm).1, show (511 : Int64) = lN 511 from rfl, jlshl_lN (by omega), ca_c c hc a ha, jlshl_lN (by omega), put_bits (by omega) (by omega)]
theorem put_m {N m c a : Nat} (hm : m < 6) (hc : c < 32) (ha : a < 16) : f_X10_put (lN N) (nI m) (nI c) (nI a) = lN (2 ^ (9 * m) * (2 ^ 9 * (N / 2 ^ (9 * m + 9)) + (c + 32 * a)) + N % 2 ^ (9 * m)) := put_c hm hc ha
/-- six digits and the turn -/
def encN (f : Nat → Nat) (t : Nat) : Nat := f 0 + 512 * (f 1 + 512 * (f 2 + 512 * (f 3 + 512 * (f 4 + 512 * (f 5 + 512 * t)))))
def enc (f : Nat → Nat) (t : Nat) : Int64 := lN (encN f t)
def updN (f : Nat → Nat) (k v : Nat) : Nat → Nat := fun j => if j = k then v else f j
def Dig (f : Nat → Nat) (t : Nat) : Prop := t < 2 ∧ ∀ m, m < 6 → f m < 512
theorem encN_lt {f : Nat → Nat} {t : Nat} (h : Dig f t) : encN f t < 2 ^ 55 := by
  have h0 := h.2 0 (by omega); have h1 := h.2 1 (by omega); have h2 := h.2 2 (by omega); have h3 := h.2 3 (by omega); have h4 := h.2 4 (by omega); have h5 := h.2 5 (by omega)
  have := h.1
  unfold encN
  omega
theorem enc_dig {f : Nat → Nat} {t : Nat} (h : Dig f t) {m : Nat} (hm : m < 6) : encN f t / 2 ^ (9 * m) % 512 = f m := by
  have h0 := h.2 0 (by omega); have h1 := h.2 1 (by omega); have h2 := h.2 2 (by omega); have h3 := h.2 3 (by omega); have h4 := h.2 4 (by omega); have h5 := h.2 5 (by omega)
  unfold encN
  match m, hm with
  | 0, _ => simp; omega
  | 1, _ => simp; omega
  | 2, _ => simp; omega
  | 3, _ => simp; omega
  | 4, _ => simp; omega
  | 5, _ => simp; omega
theorem cellOf_c {f : Nat → Nat} {t m : Nat} (h : Dig f t) (hm : m < 6) : f_X8_cellOf (enc f t) (nI m) = nI (f m % 32) := by
  have h1 := encN_lt h
  have h2 := enc_dig h hm
  unfold enc
  rw [cell_c (by omega) hm]
  congr 1
  omega
theorem cellOf_m {f : Nat → Nat} {t m : Nat} (h : Dig f t) (hm : m < 6) : f_X10_cellOf (enc f t) (nI m) = nI (f m % 32) := by
  have h1 := encN_lt h
  have h2 := enc_dig h hm
  unfold enc
  rw [cell_m (by omega) hm]
  congr 1
  omega
theorem dig_age {N m : Nat} : N / 2 ^ (9 * m + 5) % 16 = N / 2 ^ (9 * m) % 512 / 32 := by
  rw [Nat.pow_add, ← Nat.div_div_eq_div_mul]
  generalize N / 2 ^ (9 * m) = x
  omega
theorem ageOf_c {f : Nat → Nat} {t m : Nat} (h : Dig f t) (hm : m < 6) : f_X8_ageOf (enc f t) (nI m) = nI (f m / 32) := by
  have h1 := encN_lt h
  have h2 := enc_dig h hm
  unfold enc
  rw [age_c (by omega) hm, dig_age, h2]
theorem ageOf_m {f : Nat → Nat} {t m : Nat} (h : Dig f t) (hm : m < 6) : f_X10_ageOf (enc f t) (nI m) = nI (f m / 32) := by
  have h1 := encN_lt h
  have h2 := enc_dig h hm
  unfold enc
  rw [age_m (by omega) hm, dig_age, h2]
theorem enc_turn {f : Nat → Nat} {t : Nat} (h : Dig f t) : encN f t / 2 ^ 54 % 2 = t := by
  have h0 := h.2 0 (by omega); have h1 := h.2 1 (by omega); have h2 := h.2 2 (by omega); have h3 := h.2 3 (by omega); have h4 := h.2 4 (by omega); have h5 := h.2 5 (by omega)
  have := h.1
  unfold encN
  simp
  omega
theorem turnOf_c {f : Nat → Nat} {t : Nat} (h : Dig f t) : f_X8_turnOf (enc f t) = nI t := by
  have h1 := encN_lt h
  unfold enc
  rw [turn_c (by omega), enc_turn h]
theorem turnOf_m {f : Nat → Nat} {t : Nat} (h : Dig f t) : f_X10_turnOf (enc f t) = nI t := by
  have h1 := encN_lt h
  unfold enc
  rw [turn_m (by omega), enc_turn h]
theorem encN_put {f : Nat → Nat} {t m v : Nat} (h : Dig f t) (hm : m < 6) : 2 ^ (9 * m) * (2 ^ 9 * (encN f t / 2 ^ (9 * m + 9)) + v) + encN f t % 2 ^ (9 * m) = encN (updN f m v) t := by
  have h0 := h.2 0 (by omega); have h1 := h.2 1 (by omega); have h2 := h.2 2 (by omega); have h3 := h.2 3 (by omega); have h4 := h.2 4 (by omega); have h5 := h.2 5 (by omega)
  unfold encN updN
  match m, hm with
  | 0, _ => simp; omega
  | 1, _ => simp; omega
  | 2, _ => simp; omega
  | 3, _ => simp; omega
  | 4, _ => simp; omega
  | 5, _ => simp; omega
theorem putE {f : Nat → Nat} {t m c a : Nat} (h : Dig f t) (hm : m < 6) (hc : c < 32) (ha : a < 16) : f_X8_put (enc f t) (nI m) (nI c) (nI a) = enc (updN f m (c + 32 * a)) t := by
  unfold enc
  rw [put_c hm hc ha, encN_put h hm]
theorem putE_m {f : Nat → Nat} {t m c a : Nat} (h : Dig f t) (hm : m < 6) (hc : c < 32) (ha : a < 16) : f_X10_put (enc f t) (nI m) (nI c) (nI a) = enc (updN f m (c + 32 * a)) t := putE h hm hc ha
theorem Dig.upd {f : Nat → Nat} {t m v : Nat} (h : Dig f t) (hv : v < 512) : Dig (updN f m v) t := ⟨h.1, fun j hj => by unfold updN; split; exact hv; exact h.2 j hj⟩
theorem flip_bits {N : Nat} (hN : N < 2 ^ 54) {t : Nat} (ht : t < 2) : lN (2 ^ 54 * t + N) ^^^ 18014398509481984 = lN (2 ^ 54 * (1 - t) + N) := by
  apply Int64.toBitVec_inj.mp
  rw [Int64.toBitVec_xor, lN_toBV, lN_toBV, show (18014398509481984 : Int64).toBitVec = BitVec.ofNat 64 (2 ^ 54 * 1 + 0) from rfl]
  apply BitVec.eq_of_getLsbD_eq
  intro i hi
  simp only [BitVec.getLsbD_xor, BitVec.getLsbD_ofNat, hi, decide_true, Bool.true_and, Nat.testBit_two_pow_mul_add _ hN, Nat.testBit_two_pow_mul_add _ (show 0 < 2 ^ 54 by omega)]
  by_cases h1 : i < 54
  · simp [h1]
  · simp only [h1, if_false]
    have : t = 0 ∨ t = 1 := by omega
    rcases this with rfl | rfl <;> simp
theorem encN_split (f : Nat → Nat) (t : Nat) : encN f t = 2 ^ 54 * t + encN f 0 := by
  unfold encN; omega
theorem enc_flip {f : Nat → Nat} {t : Nat} (h : Dig f t) : enc f t ^^^ 18014398509481984 = enc f (1 - t) := by
  have h1 : encN f 0 < 2 ^ 54 := by
    have h0 := h.2 0 (by omega); have h1 := h.2 1 (by omega); have h2 := h.2 2 (by omega); have h3 := h.2 3 (by omega); have h4 := h.2 4 (by omega); have h5 := h.2 5 (by omega)
    unfold encN
    omega
  unfold enc
  rw [encN_split f t, encN_split f (1 - t)]
  exact flip_bits h1 h.1
theorem enc_congr {f g : Nat → Nat} {t : Nat} (h : ∀ m, m < 6 → f m = g m) : enc f t = enc g t := by
  unfold enc encN
  rw [h 0 (by omega), h 1 (by omega), h 2 (by omega), h 3 (by omega), h 4 (by omega), h 5 (by omega)]
theorem lN_inj {a b : Nat} (ha : a < 2 ^ 64) (hb : b < 2 ^ 64) (h : lN a = lN b) : a = b := by
  have h1 : (lN a).toBitVec.toNat = (lN b).toBitVec.toNat := by rw [h]
  rw [lN_toBV, lN_toBV, BitVec.toNat_ofNat, BitVec.toNat_ofNat, Nat.mod_eq_of_lt ha, Nat.mod_eq_of_lt hb] at h1
  exact h1
theorem enc_inj {f g : Nat → Nat} {t u : Nat} (hf : Dig f t) (hg : Dig g u) (h : enc f t = enc g u) : t = u ∧ ∀ m, m < 6 → f m = g m := by
  have h1 := encN_lt hf
  have h2 := encN_lt hg
  have h3 : encN f t = encN g u := lN_inj (by omega) (by omega) h
  refine ⟨?_, fun m hm => ?_⟩
  · rw [← enc_turn hf, ← enc_turn hg, h3]
  · rw [← enc_dig hf hm, ← enc_dig hg hm, h3]
