/-! kinds, ways to go, cells between -/
def kd (b g o a : Nat) : Nat := if a < b then 0 else if a < g then 1 else if a < o then 2 else 3
def Lw (b g o : Nat) : Prop := b ≤ g ∧ g ≤ o ∧ o ≤ 9
theorem kindOf_c {b g o a : Nat} (h : Lw b g o) (ha : a < 2 ^ 31) : f_X5_kindOf (nI b) (nI g) (nI o) (nI a) = nI (kd b g o a) := by
  obtain ⟨h1, h2, h3⟩ := h
  unfold f_X5_kindOf kd
  simp only [nI_le_lit (a := b) (b := a) (by omega) ha, nI_le_lit (a := g) (b := a) (by omega) ha, nI_le_lit (a := o) (b := a) (by omega) ha]
  repeat' split
  all_goals first | rfl | omega
theorem kindOf_m {b g o a : Nat} (h : Lw b g o) (ha : a < 2 ^ 31) : f_X10_kindOf (nI b) (nI g) (nI o) (nI a) = nI (kd b g o a) := kindOf_c h ha
theorem kd_le (b g o a : Nat) : kd b g o a ≤ 3 := by unfold kd; repeat' split <;> try omega
def dx (a b : Nat) : Nat := if a % 5 ≤ b % 5 then b % 5 - a % 5 else a % 5 - b % 5
def dy (a b : Nat) : Nat := if a / 5 ≤ b / 5 then b / 5 - a / 5 else a / 5 - b / 5
def jmpG (a b : Nat) : Bool := dx a b * dy a b == 2
def linG (a b : Nat) : Bool := (dx a b == 0) != (dy a b == 0)
def stpG (a b : Nat) : Bool := decide (dx a b < 2) && decide (dy a b < 2) && decide (0 < dx a b + dy a b)
def btwB (a b c : Nat) : Bool := if a % 5 = b % 5 then (c % 5 == a % 5) && decide (min a b < c) && decide (c < max a b) else (c / 5 == a / 5) && decide (min a b < c) && decide (c < max a b)
theorem jumps_t : ∀ a, a < 25 → ∀ c, c < 32 → bt (jumpsF a) c = (decide (c < 25) && jmpG a c) := by decide +kernel
theorem steps_t : ∀ a, a < 25 → ∀ c, c < 32 → bt (stepsF a) c = (decide (c < 25) && stpG a c) := by decide +kernel
def room (w a : Nat) : Nat := if w = 0 then 4 - a % 5 else if w = 1 then a % 5 else if w = 2 then 4 - a / 5 else a / 5
def cw (w a i : Nat) : Nat := if w = 0 then a + i else if w = 1 then a - i else if w = 2 then a + 5 * i else a - 5 * i
def ahI (w : Nat) : Int32 := if w = 0 then 1 else if w = 1 then -1 else if w = 2 then 5 * 1 else 5 * (-1)
theorem cwE : ∀ w, w < 4 → ∀ a, a < 25 → ∀ i, i < 5 → i ≤ room w a → nI a + nI i * ahI w = nI (cw w a i) := by decide +kernel
theorem way1a : ∀ a, a < 25 → ∀ w, w < 4 → ∀ j, j < 4 → j < room w a → cw w a (1 + j) < 25 ∧ linG a (cw w a (1 + j)) = true := by decide +kernel
theorem way1b' : (List.range 25).all (fun a => (List.range 4).all (fun w => (List.range 4).all (fun j => (List.range 25).all (fun x => !(decide (j < room w a)) || (!(btwB a (cw w a (1 + j)) x) || (List.range j).any (fun i => x == cw w a (1 + i))))))) = true := by decide +kernel
theorem way1b (a : Nat) (ha : a < 25) (w : Nat) (hw : w < 4) (j : Nat) (hj : j < 4) (hr : j < room w a) (x : Nat) (hx : x < 25) (hb : btwB a (cw w a (1 + j)) x = true) : (List.range j).any (fun i => x == cw w a (1 + i)) = true := by
  have h1 := List.all_eq_true.mp way1b' a (List.mem_range.mpr ha)
  have h2 := List.all_eq_true.mp h1 w (List.mem_range.mpr hw)
  have h3 := List.all_eq_true.mp h2 j (List.mem_range.mpr hj)
  have h4 := List.all_eq_true.mp h3 x (List.mem_range.mpr hx)
  simpa [hr, hb] using h4
theorem way1c : ∀ a, a < 25 → ∀ w, w < 4 → ∀ j, j < 4 → j < room w a → ∀ i, i < j → btwB a (cw w a (1 + j)) (cw w a (1 + i)) = true := by decide +kernel
theorem way1 (a : Nat) (ha : a < 25) (w : Nat) (hw : w < 4) (j : Nat) (hj : j < 4) (hr : j < room w a) : cw w a (1 + j) < 25 ∧ linG a (cw w a (1 + j)) = true ∧ (∀ x, x < 25 → btwB a (cw w a (1 + j)) x = true → ∃ i, i < j ∧ x = cw w a (1 + i)) ∧ ∀ i, i < j → btwB a (cw w a (1 + j)) (cw w a (1 + i)) = true := by
  refine ⟨(way1a a ha w hw j hj hr).1, (way1a a ha w hw j hj hr).2, fun x hx hb => ?_, way1c a ha w hw j hj hr⟩
  have h := way1b a ha w hw j hj hr x hx hb
  obtain ⟨i, hi, he⟩ := List.any_eq_true.mp h
  exact ⟨i, List.mem_range.mp hi, by simpa using he⟩
theorem way2 : ∀ a, a < 25 → ∀ c, c < 25 → linG a c = true → ∃ w, w < 4 ∧ ∃ j, j < 4 ∧ j < room w a ∧ c = cw w a (1 + j) := by decide +kernel
theorem room_le : ∀ a, a < 25 → ∀ w, w < 4 → room w a ≤ 4 := by decide +kernel
def swp (cf : Nat → Nat) (al : Int32) : Nat → Nat → Int32 → Int32
  | 0, _, bits => bits
  | n+1, i, bits => if al &&& jshl 1 (nI (cf i)) = 0 then swp cf al n (i + 1) (bits ||| jshl 1 (nI (cf i))) else bits ||| jshl 1 (nI (cf i))
theorem bt_swp {cf : Nat → Nat} {al : Int32} {c : Nat} (hc : c < 32) : ∀ (n i : Nat) (bits : Int32), (∀ j, j < n → cf (i + j) < 32) → (bt (swp cf al n i bits) c = true ↔ bt bits c = true ∨ ∃ j, j < n ∧ c = cf (i + j) ∧ ∀ q, q < j → bt al (cf (i + q)) = false) := by
  intro n
  induction n with
  | zero => intro i bits _; simp [swp]
  | succ n ih =>
    intro i bits hcf
    have h0 : cf i < 32 := by have := hcf 0 (by omega); simpa using this
    have hb : ∀ x : Int32, bt (x ||| jshl 1 (nI (cf i))) c = true ↔ bt x c = true ∨ c = cf i := by
      intro x
      rw [bt_or, bt_one _ h0 c hc]
      simp
    unfold swp
    split
    · rename_i h1
      have h2 := (bt_test h0).mp h1
      rw [ih (i + 1) _ (fun j hj => by rw [show i + 1 + j = i + (j + 1) by omega]; exact hcf (j + 1) (by omega)), hb]
      constructor
      · rintro ((h | h) | ⟨j, hj, hj2, hj3⟩)
        · exact Or.inl h
        · exact Or.inr ⟨0, by omega, by simpa using h, fun q hq => by omega⟩
        · refine Or.inr ⟨j + 1, by omega, by rw [hj2]; congr 1; omega, fun q hq => ?_⟩
          cases q with
          | zero => simpa using h2
          | succ q => rw [show i + (q + 1) = i + 1 + q by omega]; exact hj3 q (by omega)
      · rintro (h | ⟨j, hj, hj2, hj3⟩)
        · exact Or.inl (Or.inl h)
        · cases j with
          | zero => exact Or.inl (Or.inr (by simpa using hj2))
          | succ j => exact Or.inr ⟨j, by omega, by rw [hj2]; congr 1; omega, fun q hq => by rw [show i + 1 + q = i + (q + 1) by omega]; exact hj3 (q + 1) (by omega)⟩
    · rename_i h1
      have h2 : bt al (cf i) = true := by
        cases h : bt al (cf i) with
        | true => rfl
        | false => exact absurd ((bt_test h0).mpr h) h1
      rw [hb]
      constructor
      · rintro (h | h)
        · exact Or.inl h
        · exact Or.inr ⟨0, by omega, by simpa using h, fun q hq => by omega⟩
      · rintro (h | ⟨j, hj, hj2, hj3⟩)
        · exact Or.inl h
        · cases j with
          | zero => exact Or.inr (by simpa using hj2)
          | succ j => have := hj3 0 (by omega); simp [h2] at this
def strS (a : Nat) (al : Int32) : Int32 := swp (cw 3 a) al (room 3 a) 1 (swp (cw 2 a) al (room 2 a) 1 (swp (cw 1 a) al (room 1 a) 1 (swp (cw 0 a) al (room 0 a) 1 0)))
theorem rem5 : ∀ a, a < 32 → jrem (nI a) 5 = nI (a % 5) ∧ nI a / 5 = nI (a / 5) := by decide +kernel
theorem str_in {k : Int32 → Int32 → Option Int32} {al x5 : Int32} {w a : Nat} (hw : w < 4) (ha : a < 25) : ∀ (n i : Nat) (bits : Int32), i ≤ room w a + 1 → room w a + 1 - i < n → f_X5_straight_L83 k (nI a) al x5 (nI (room w a)) (ahI w) n bits (nI i) = f_X5_straight_B124 k x5 (swp (cw w a) al (room w a + 1 - i) i bits) := by
  have hr := room_le a ha w hw
  intro n
  induction n with
  | zero => intro i bits _ h; omega
  | succ n ih =>
    intro i bits hi hn
    rw [f_X5_straight_L83]
    by_cases h1 : room w a < i
    · rw [if_pos (nI_lt h1 (by omega)), show room w a + 1 - i = 0 by omega]
      rfl
    · rw [if_neg (nI_nlt (by omega) (by omega)), cwE w hw a ha i (by omega) (by omega), show room w a + 1 - i = (room w a - i) + 1 by omega]
      unfold jlet swp
      dsimp only
      split
      · rw [nI_1, ih (i + 1) _ (by omega) (by omega), show room w a + 1 - (i + 1) = room w a - i by omega]
      · rfl
theorem straight_c {a : Nat} {al : Int32} (ha : a < 25) : f_X5_straight (nI a) al = some (strS a al) := by
  have r0 : (4 : Int32) - nI (a % 5) = nI (room 0 a) := by rw [show (4 : Int32) = nI 4 from rfl, nI_sub (by omega)]; rfl
  have r2 : (4 : Int32) - nI (a / 5) = nI (room 2 a) := by rw [show (4 : Int32) = nI 4 from rfl, nI_sub (by omega)]; rfl
  have s0 : ∀ n bits, f_X5_straight_L14 (nI a) al (nI (a % 5)) (nI (a / 5)) (n + 1) bits (nI 0) = f_X5_straight_L14 (nI a) al (nI (a % 5)) (nI (a / 5)) n (swp (cw 0 a) al (room 0 a) 1 bits) (nI 1) := by
    intro n bits
    rw [f_X5_straight_L14, if_neg (by decide), if_pos (by decide)]
    unfold f_X5_straight_B32
    rw [if_neg (by decide)]
    unfold f_X5_straight_B45
    rw [if_neg (by decide)]
    unfold f_X5_straight_B61
    rw [if_neg (by decide)]
    unfold f_X5_straight_B78
    rw [r0]
    exact str_in (w := 0) (by omega) ha 100 1 bits (by omega) (by have := room_le a ha 0 (by omega); omega)
  have s1 : ∀ n bits, f_X5_straight_L14 (nI a) al (nI (a % 5)) (nI (a / 5)) (n + 1) bits (nI 1) = f_X5_straight_L14 (nI a) al (nI (a % 5)) (nI (a / 5)) n (swp (cw 1 a) al (room 1 a) 1 bits) (nI 2) := by
    intro n bits
    rw [f_X5_straight_L14, if_neg (by decide), if_neg (by decide)]
    unfold f_X5_straight_B32
    rw [if_neg (by decide)]
    unfold f_X5_straight_B45
    rw [if_pos (by decide)]
    unfold f_X5_straight_B61
    rw [if_neg (by decide)]
    unfold f_X5_straight_B78
    exact str_in (w := 1) (by omega) ha 100 1 bits (by omega) (by have := room_le a ha 1 (by omega); omega)
  have s2 : ∀ n bits, f_X5_straight_L14 (nI a) al (nI (a % 5)) (nI (a / 5)) (n + 1) bits (nI 2) = f_X5_straight_L14 (nI a) al (nI (a % 5)) (nI (a / 5)) n (swp (cw 2 a) al (room 2 a) 1 bits) (nI 3) := by
    intro n bits
    rw [f_X5_straight_L14, if_neg (by decide), if_pos (by decide)]
    unfold f_X5_straight_B32
    rw [if_pos (by decide)]
    unfold f_X5_straight_B45
    rw [if_neg (by decide)]
    unfold f_X5_straight_B61
    rw [if_pos (by decide)]
    unfold f_X5_straight_B78
    rw [r2]
    exact str_in (w := 2) (by omega) ha 100 1 bits (by omega) (by have := room_le a ha 2 (by omega); omega)
  have s3 : ∀ n bits, f_X5_straight_L14 (nI a) al (nI (a % 5)) (nI (a / 5)) (n + 1) bits (nI 3) = f_X5_straight_L14 (nI a) al (nI (a % 5)) (nI (a / 5)) n (swp (cw 3 a) al (room 3 a) 1 bits) (nI 4) := by
    intro n bits
    rw [f_X5_straight_L14, if_neg (by decide), if_neg (by decide)]
    unfold f_X5_straight_B32
    rw [if_pos (by decide)]
    unfold f_X5_straight_B45
    rw [if_pos (by decide)]
    unfold f_X5_straight_B61
    rw [if_pos (by decide)]
    unfold f_X5_straight_B78
    exact str_in (w := 3) (by omega) ha 100 1 bits (by omega) (by have := room_le a ha 3 (by omega); omega)
  unfold f_X5_straight jlet
  dsimp only
  rw [(rem5 a (by omega)).1, (rem5 a (by omega)).2]
  rw [show f_X5_straight_L14 (nI a) al (nI (a % 5)) (nI (a / 5)) 100 0 0 = f_X5_straight_L14 (nI a) al (nI (a % 5)) (nI (a / 5)) (99 + 1) 0 (nI 0) from rfl, s0 99, s1 98, s2 97, s3 96, f_X5_straight_L14, if_pos (by decide)]
  rfl
theorem bt_str {a c : Nat} {al : Int32} (ha : a < 25) (hc : c < 32) : bt (strS a al) c = (decide (c < 25) && linG a c && (List.range 25).all (fun x => !(btwB a c x && bt al x))) := by
  have hcf : ∀ w, w < 4 → ∀ j, j < room w a → cw w a (1 + j) < 32 := fun w hw j hj => by
    have := room_le a ha w hw
    have := (way1 a ha w hw j (by omega) hj).1
    omega
  have key : bt (strS a al) c = true ↔ ∃ w, w < 4 ∧ ∃ j, j < room w a ∧ c = cw w a (1 + j) ∧ ∀ q, q < j → bt al (cw w a (1 + q)) = false := by
    unfold strS
    rw [bt_swp hc _ _ _ (hcf 3 (by omega)), bt_swp hc _ _ _ (hcf 2 (by omega)), bt_swp hc _ _ _ (hcf 1 (by omega)), bt_swp hc _ _ _ (hcf 0 (by omega)), bt_0]
    constructor
    · rintro ((((h | h) | h) | h) | h)
      · cases h
      · exact ⟨0, by omega, h⟩
      · exact ⟨1, by omega, h⟩
      · exact ⟨2, by omega, h⟩
      · exact ⟨3, by omega, h⟩
    · rintro ⟨w, hw, h⟩
      have : w = 0 ∨ w = 1 ∨ w = 2 ∨ w = 3 := by omega
      rcases this with rfl | rfl | rfl | rfl
      · exact Or.inl (Or.inl (Or.inl (Or.inr h)))
      · exact Or.inl (Or.inl (Or.inr h))
      · exact Or.inl (Or.inr h)
      · exact Or.inr h
  rw [Bool.eq_iff_iff, key]
  simp only [Bool.and_eq_true, decide_eq_true_eq, List.all_eq_true, List.mem_range, Bool.not_eq_true', Bool.and_eq_false_iff]
  constructor
  · rintro ⟨w, hw, j, hj, rfl, hq⟩
    have hr := room_le a ha w hw
    obtain ⟨g1, g2, g3, g4⟩ := way1 a ha w hw j (by omega) hj
    refine ⟨⟨g1, g2⟩, fun x hx => ?_⟩
    cases hb : btwB a (cw w a (1 + j)) x with
    | false => exact Or.inl rfl
    | true =>
      obtain ⟨i, hi, rfl⟩ := g3 x hx hb
      exact Or.inr (hq i hi)
  · rintro ⟨⟨h1, h2⟩, h3⟩
    obtain ⟨w, hw, j, hj4, hj, rfl⟩ := way2 a ha c h1 h2
    obtain ⟨g1, g2, g3, g4⟩ := way1 a ha w hw j hj4 hj
    refine ⟨w, hw, j, hj, rfl, fun q hq => ?_⟩
    have hx := (way1 a ha w hw q (by omega) (by omega)).1
    rcases h3 _ hx with e | e
    · rw [g4 q hq] at e; cases e
    · exact e
