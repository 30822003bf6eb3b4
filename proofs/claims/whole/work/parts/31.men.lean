/-! men on the board, as digits -/
def Wf (f : Nat → Nat) (t : Nat) : Prop := t < 2 ∧ (∀ m, m < 6 → f m = 31 ∨ (f m % 32 < 25 ∧ f m / 32 ≤ 9)) ∧ ∀ m, m < 6 → ∀ k, k < 6 → f m ≠ 31 → f m % 32 = f k % 32 → m = k
theorem Wf.dig {f : Nat → Nat} {t : Nat} (h : Wf f t) : Dig f t := ⟨h.1, fun m hm => by rcases h.2.1 m hm with e | ⟨e1, e2⟩ <;> omega⟩
theorem Wf.away {f : Nat → Nat} {t m : Nat} (h : Wf f t) (hm : m < 6) : f m % 32 = 31 ↔ f m = 31 := by
  rcases h.2.1 m hm with e | ⟨e1, e2⟩ <;> omega
theorem Wf.cell {f : Nat → Nat} {t m : Nat} (h : Wf f t) (hm : m < 6) (hu : f m % 32 ≠ 31) : f m % 32 < 25 ∧ f m / 32 ≤ 9 := by
  rcases h.2.1 m hm with e | e
  · omega
  · exact e
theorem nI_lt_lit {a b : Nat} (ha : a < 2 ^ 31) (hb : b < 2 ^ 31) : (nI a < nI b) = (a < b) := propext (nI_ltI ha hb)
theorem nI_le_lit {a b : Nat} (ha : a < 2 ^ 31) (hb : b < 2 ^ 31) : (nI a ≤ nI b) = (a ≤ b) := propext (nI_leI ha hb)
theorem nI_eq_lit {a b : Nat} (ha : a < 2 ^ 31) (hb : b < 2 ^ 31) : (nI a = nI b) = (a = b) := propext (nI_eq ha hb)
theorem nI_mul (a b : Nat) : nI a * nI b = nI (a * b) := by
  apply Int32.toBitVec_inj.mp
  rw [Int32.toBitVec_mul, nI_toBV, nI_toBV, nI_toBV]
  apply BitVec.eq_of_toNat_eq
  simp [Nat.mul_mod]
theorem nI_sub {a b : Nat} (h : b ≤ a) : nI a - nI b = nI (a - b) := by
  have e : nI a = nI (a - b) + nI b := by rw [nI_add]; congr 1; omega
  rw [e]
  apply Int32.toBitVec_inj.mp
  simp
/-- who stands on a cell: 6 if none does -/
def mOn (f : Nat → Nat) (c : Nat) : Nat := if f 0 % 32 = c then 0 else if f 1 % 32 = c then 1 else if f 2 % 32 = c then 2 else if f 3 % 32 = c then 3 else if f 4 % 32 = c then 4 else if f 5 % 32 = c then 5 else 6
def moS (f : Nat → Nat) (c : Nat) : Int32 := if mOn f c < 6 then nI (mOn f c) else -6
theorem manOn_c {f : Nat → Nat} {t c : Nat} (h : Dig f t) (hc : c < 32) : f_X8_manOn (enc f t) (nI c) = some (moS f c) := by
  have e : ∀ m, m < 6 → (f_X8_cellOf (enc f t) (nI m) = nI c) = (f m % 32 = c) := fun m hm => by rw [cellOf_c h hm, nI_eq_lit (by omega) (by omega)]
  have s : ∀ n m, m < 6 → f_X8_manOn_L2 (enc f t) (nI c) (n + 1) (nI m) = if f m % 32 = c then some (nI m) else f_X8_manOn_L2 (enc f t) (nI c) n (nI (m + 1)) := by
    intro n m hm
    rw [f_X8_manOn_L2, if_neg (show ¬ (6 : Int32) ≤ nI m from nI_ge (b := 6) hm (by omega))]
    simp only [e m hm, jlet, nI_1]
  have s6 : ∀ n, f_X8_manOn_L2 (enc f t) (nI c) (n + 1) (nI 6) = some (-6) := by
    intro n
    rw [f_X8_manOn_L2, if_pos (show (6 : Int32) ≤ nI 6 from nI_le (a := 6) (b := 6) (by omega) (by omega))]
  unfold f_X8_manOn
  rw [show (0 : Int32) = nI 0 from rfl, s 6 0 (by omega), s 5 1 (by omega), s 4 2 (by omega), s 3 3 (by omega), s 2 4 (by omega), s 1 5 (by omega), s6]
  unfold moS mOn
  repeat' split
  all_goals first | rfl | omega
theorem manOn_m {f : Nat → Nat} {t c : Nat} (h : Dig f t) (hc : c < 32) : f_X10_manOn (enc f t) (nI c) = some (moS f c) := by
  have e : ∀ m, m < 6 → (f_X10_cellOf (enc f t) (nI m) = nI c) = (f m % 32 = c) := fun m hm => by rw [cellOf_m h hm, nI_eq_lit (by omega) (by omega)]
  have s : ∀ n m, m < 6 → f_X10_manOn_L2 (enc f t) (nI c) (n + 1) (nI m) = if f m % 32 = c then some (nI m) else f_X10_manOn_L2 (enc f t) (nI c) n (nI (m + 1)) := by
    intro n m hm
    rw [f_X10_manOn_L2, if_neg (show ¬ (6 : Int32) ≤ nI m from nI_ge (b := 6) hm (by omega))]
    simp only [e m hm, jlet, nI_1]
  have s6 : ∀ n, f_X10_manOn_L2 (enc f t) (nI c) (n + 1) (nI 6) = some (-6) := by
    intro n
    rw [f_X10_manOn_L2, if_pos (show (6 : Int32) ≤ nI 6 from nI_le (a := 6) (b := 6) (by omega) (by omega))]
  unfold f_X10_manOn
  rw [show (0 : Int32) = nI 0 from rfl, s 6 0 (by omega), s 5 1 (by omega), s 4 2 (by omega), s 3 3 (by omega), s 2 4 (by omega), s 1 5 (by omega), s6]
  unfold moS mOn
  repeat' split
  all_goals first | rfl | omega
theorem mOn_le (f : Nat → Nat) (c : Nat) : mOn f c ≤ 6 := by unfold mOn; repeat' split <;> try omega
theorem mOn_at {f : Nat → Nat} {c : Nat} (h : mOn f c < 6) : f (mOn f c) % 32 = c := by
  unfold mOn at h ⊢
  repeat' split at h
  all_goals first | (simp_all; done) | omega
theorem mOn_none {f : Nat → Nat} {c : Nat} (h : ¬ mOn f c < 6) : ∀ m, m < 6 → f m % 32 ≠ c := by
  intro m hm
  unfold mOn at h
  by_cases h0 : f 0 % 32 = c
  · simp [h0] at h
  by_cases h1 : f 1 % 32 = c
  · simp [h0, h1] at h
  by_cases h2 : f 2 % 32 = c
  · simp [h0, h1, h2] at h
  by_cases h3 : f 3 % 32 = c
  · simp [h0, h1, h2, h3] at h
  by_cases h4 : f 4 % 32 = c
  · simp [h0, h1, h2, h3, h4] at h
  by_cases h5 : f 5 % 32 = c
  · simp [h0, h1, h2, h3, h4, h5] at h
  have : m = 0 ∨ m = 1 ∨ m = 2 ∨ m = 3 ∨ m = 4 ∨ m = 5 := by omega
  rcases this with rfl | rfl | rfl | rfl | rfl | rfl <;> assumption
theorem mOn_eq {f : Nat → Nat} {t c m : Nat} (h : Wf f t) (hc : c ≠ 31) (hm : m < 6) (e : f m % 32 = c) : mOn f c = m := by
  by_cases h1 : mOn f c < 6
  · have h2 := mOn_at h1
    exact h.2.2 _ h1 m hm (by intro q; rw [q] at h2; omega) (by rw [h2, e])
  · exact absurd e (mOn_none h1 m hm)
theorem moS_neg (f : Nat → Nat) (c : Nat) : (moS f c < 0) = ¬ (mOn f c < 6) := by
  unfold moS
  have h := mOn_le f c
  split
  · rename_i h1
    rw [show (0 : Int32) = nI 0 from rfl, nI_lt_lit (by omega) (by omega)]
    simp [h1]
  · rename_i h1
    simp [h1]
/-- bits of ints -/
def bt (x : Int32) (c : Nat) : Bool := x.toBitVec.getLsbD c
theorem bt_or (x y : Int32) (c : Nat) : bt (x ||| y) c = (bt x c || bt y c) := by unfold bt; rw [Int32.toBitVec_or, BitVec.getLsbD_or]
theorem bt_and (x y : Int32) (c : Nat) : bt (x &&& y) c = (bt x c && bt y c) := by unfold bt; rw [Int32.toBitVec_and, BitVec.getLsbD_and]
theorem bt_xor (x y : Int32) (c : Nat) : bt (x ^^^ y) c = (bt x c ^^ bt y c) := by unfold bt; rw [Int32.toBitVec_xor, BitVec.getLsbD_xor]
theorem bt_m1 {c : Nat} (h : c < 32) : bt (-1) c = true := by
  unfold bt
  rw [show (-1 : Int32).toBitVec = BitVec.allOnes 32 from rfl, BitVec.getLsbD_allOnes]
  simp [h]
theorem bt_not (x : Int32) {c : Nat} (h : c < 32) : bt (x ^^^ (-1)) c = !bt x c := by rw [bt_xor, bt_m1 h]; simp
theorem bt_0 (c : Nat) : bt 0 c = false := by unfold bt; simp
theorem bt_one : ∀ k, k < 32 → ∀ c, c < 32 → bt (jshl 1 (nI k)) c = decide (c = k) := by decide +kernel
theorem bt_ext {x y : Int32} (h : ∀ c, c < 32 → bt x c = bt y c) : x = y := by
  apply Int32.toBitVec_inj.mp
  exact BitVec.eq_of_getLsbD_eq h
theorem bt_hi (x : Int32) {c : Nat} (h : 32 ≤ c) : bt x c = false := by
  unfold bt
  exact BitVec.getLsbD_of_ge _ _ h
theorem bt_zero {x : Int32} : x = 0 ↔ ∀ c, c < 32 → bt x c = false := ⟨fun h c _ => by rw [h, bt_0], fun h => bt_ext fun c hc => by rw [h c hc, bt_0]⟩
theorem bt_test {x : Int32} {k : Nat} (hk : k < 32) : (x &&& jshl 1 (nI k) = 0) ↔ bt x k = false := by
  rw [bt_zero]
  constructor
  · intro h
    have := h k hk
    rw [bt_and, bt_one k hk k hk] at this
    simpa using this
  · intro h c hc
    rw [bt_and, bt_one k hk c hc]
    by_cases e : c = k
    · subst e; simp [h]
    · simp [e]
/-- cells of a side as bits -/
def ob1 (acc : Int32) (d : Nat) : Int32 := if d % 32 = 31 then acc else acc ||| jshl 1 (nI (d % 32))
def cellsS (f : Nat → Nat) (s : Nat) : Int32 := ob1 (ob1 (ob1 0 (f (3 * s))) (f (3 * s + 1))) (f (3 * s + 2))
theorem cellsOf_c {f : Nat → Nat} {t s : Nat} (h : Dig f t) (hs : s < 2) : f_X8_cellsOf (enc f t) (nI s) = some (cellsS f s) := by
  have st : ∀ n m x, m < 3 → f_X8_cellsOf_L5 (enc f t) (nI s) (n + 1) x (nI m) = f_X8_cellsOf_L5 (enc f t) (nI s) n (ob1 x (f (3 * s + m))) (nI (m + 1)) := by
    intro n m x hm
    rw [f_X8_cellsOf_L5, if_neg (show ¬ (3 : Int32) ≤ nI m from nI_ge (b := 3) hm (by omega))]
    unfold jlet
    dsimp only
    rw [show (3 : Int32) = nI 3 from rfl, nI_mul, nI_add, cellOf_c h (by omega)]
    unfold f_X8_cellsOf_B37 jlet ob1
    dsimp only
    rw [nI_1]
    simp only [show (nI (f (3 * s + m) % 32) = 31) = (f (3 * s + m) % 32 = 31) from nI_eq_lit (b := 31) (by omega) (by omega)]
    split <;> rfl
  have s3 : ∀ n x, f_X8_cellsOf_L5 (enc f t) (nI s) (n + 1) x (nI 3) = some x := by
    intro n x
    rw [f_X8_cellsOf_L5, if_pos (show (3 : Int32) ≤ nI 3 from nI_le (a := 3) (b := 3) (by omega) (by omega))]
  unfold f_X8_cellsOf
  rw [show f_X8_cellsOf_L5 (enc f t) (nI s) 100 0 0 = f_X8_cellsOf_L5 (enc f t) (nI s) (99 + 1) 0 (nI 0) from rfl, st 99 0 0 (by omega), st 98 1 _ (by omega), st 97 2 _ (by omega), s3 96]
  rfl
theorem bt_ob1 {acc : Int32} {d c : Nat} (hd : d < 512) (hc : c < 31) : bt (ob1 acc d) c = (bt acc c || decide (d % 32 = c)) := by
  unfold ob1
  split
  · rename_i h; rw [h]; have : ¬ 31 = c := by omega
    simp [this]
  · rw [bt_or, bt_one (d % 32) (by omega) c (by omega)]
    congr 1
    exact decide_eq_decide.mpr eq_comm
def ownAt (f : Nat → Nat) (s c : Nat) : Bool := decide (f (3 * s) % 32 = c) || decide (f (3 * s + 1) % 32 = c) || decide (f (3 * s + 2) % 32 = c)
theorem bt_cells {f : Nat → Nat} {t s c : Nat} (h : Dig f t) (hs : s < 2) (hc : c < 31) : bt (cellsS f s) c = ownAt f s c := by
  unfold cellsS ownAt
  rw [bt_ob1 (h.2 _ (by omega)) hc, bt_ob1 (h.2 _ (by omega)) hc, bt_ob1 (h.2 _ (by omega)) hc, bt_0]
  simp
theorem bt_cells_hi {f : Nat → Nat} {t s c : Nat} (h : Wf f t) (hs : s < 2) (hc : 25 ≤ c) : bt (cellsS f s) c = false := by
  by_cases h32 : c < 32
  · have hb : ∀ acc m, m < 6 → bt acc c = false → bt (ob1 acc (f m)) c = false := by
      intro acc m hm ha
      unfold ob1
      split
      · exact ha
      · rename_i h1
        have := h.cell hm h1
        rw [bt_or, ha, bt_one _ (by omega) c h32]
        simp; omega
    unfold cellsS
    exact hb _ _ (by omega) (hb _ _ (by omega) (hb _ _ (by omega) (bt_0 c)))
  · exact bt_hi _ (by omega)
theorem isUp_c {f : Nat → Nat} {t m : Nat} (h : Dig f t) (hm : m < 6) : f_X8_isUp (enc f t) (nI m) = if f m % 32 = 31 then 0 else 1 := by
  unfold f_X8_isUp
  rw [cellOf_c h hm]
  simp only [show (nI (f m % 32) = 31) = (f m % 32 = 31) from nI_eq_lit (b := 31) (by omega) (by omega)]
theorem cell31_m {f : Nat → Nat} {t m : Nat} (h : Dig f t) (hm : m < 6) : (f_X10_cellOf (enc f t) (nI m) = 31) = (f m % 32 = 31) := by
  rw [cellOf_m h hm, show (31 : Int32) = nI 31 from rfl, nI_eq_lit (by omega) (by omega)]
