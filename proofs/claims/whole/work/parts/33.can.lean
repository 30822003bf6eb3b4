/-! who can go where: the class's bits and the reference's tests are one thing -/
def occ (f : Nat → Nat) (c : Nat) : Bool := decide (mOn f c < 6)
theorem occ_own (f : Nat → Nat) (c : Nat) : occ f c = (ownAt f 0 c || ownAt f 1 c) := by
  unfold occ ownAt mOn
  by_cases h0 : f 0 % 32 = c
  · simp [h0]
  by_cases h1 : f 1 % 32 = c
  · simp [h0, h1]
  by_cases h2 : f 2 % 32 = c
  · simp [h0, h1, h2]
  by_cases h3 : f 3 % 32 = c
  · simp [h0, h1, h2, h3]
  by_cases h4 : f 4 % 32 = c
  · simp [h0, h1, h2, h3, h4]
  by_cases h5 : f 5 % 32 = c
  · simp [h0, h1, h2, h3, h4, h5]
  simp [h0, h1, h2, h3, h4, h5]
theorem occ_side (f : Nat → Nat) (c : Nat) {s : Nat} (hs : s < 2) : occ f c = (ownAt f s c || ownAt f (1 - s) c) := by
  rw [occ_own]
  have : s = 0 ∨ s = 1 := by omega
  rcases this with rfl | rfl
  · rfl
  · exact Bool.or_comm _ _
def geoOK (k a c : Nat) (oc : Nat → Bool) : Bool := if k = 0 then jmpG a c else if k = 1 then linG a c && (List.range 25).all (fun x => !(btwB a c x && oc x)) else if k = 2 then stpG a c else false
def canS (b g o : Nat) (f : Nat → Nat) (m c : Nat) : Bool := decide (f m % 32 ≠ 31) && geoOK (kd b g o (f m / 32)) (f m % 32) c (occ f) && !ownAt f (m / 3) c
def tgS (k a : Nat) (ow al : Int32) : Int32 := if k = 0 then jumpsF a &&& (ow ^^^ (-1)) else if k = 1 then strS a al &&& (ow ^^^ (-1)) else if k = 2 then stepsF a &&& (ow ^^^ (-1)) else 0
theorem kd_nI {b g o a k : Nat} (hk : k < 4) : (nI (kd b g o a) = nI k) = (kd b g o a = k) := nI_eq_lit (by have := kd_le b g o a; omega) (by omega)
theorem targets_c {b g o a ag : Nat} {ow al : Int32} (hL : Lw b g o) (ha : a < 25) (hag : ag < 2 ^ 31) : f_X5_targets (nI b) (nI g) (nI o) (nI a) (nI ag) ow al = some (tgS (kd b g o ag) a ow al) := by
  unfold f_X5_targets
  rw [if_neg (nI_pos (by omega)), if_pos (show nI a < (25 : Int32) from nI_lt (b := 25) ha (by omega))]
  unfold jlet
  dsimp only
  rw [kindOf_c hL hag, straight_c ha]
  have hin : ¬ (nI a < 0 ∨ 25 ≤ (nI a).toNatClampNeg) := nI_in ha (by omega)
  rw [if_neg hin, if_neg hin, nI_clamp (by omega)]
  have e0 := kd_nI (b := b) (g := g) (o := o) (a := ag) (k := 0) (by omega)
  have e1 := kd_nI (b := b) (g := g) (o := o) (a := ag) (k := 1) (by omega)
  have e2 := kd_nI (b := b) (g := g) (o := o) (a := ag) (k := 2) (by omega)
  simp only [show (0 : Int32) = nI 0 from rfl, show (1 : Int32) = nI 1 from rfl, show (2 : Int32) = nI 2 from rfl, e0, e1, e2]
  unfold tgS
  simp only [Option.bind_some]
  repeat' split
  all_goals rfl
theorem targets_away {rb rg ro ag ow al : Int32} {a : Nat} (ha : 25 ≤ a) (ha2 : a < 2 ^ 31) : f_X5_targets rb rg ro (nI a) ag ow al = some 0 := by
  unfold f_X5_targets
  rw [if_neg (nI_pos ha2), if_neg (show ¬ nI a < (25 : Int32) from nI_nlt (b := 25) ha ha2)]
theorem bt_tg {k a c : Nat} {ow al : Int32} (ha : a < 25) (hc : c < 32) : bt (tgS k a ow al) c = (decide (c < 25) && geoOK k a c (bt al) && !bt ow c) := by
  unfold tgS geoOK
  by_cases h0 : k = 0
  · rw [if_pos h0, if_pos h0, bt_and, bt_not _ hc, jumps_t a ha c hc]
  by_cases h1 : k = 1
  · rw [if_neg h0, if_neg h0, if_pos h1, if_pos h1, bt_and, bt_not _ hc, bt_str ha hc, Bool.and_assoc (decide (c < 25))]
  by_cases h2 : k = 2
  · rw [if_neg h0, if_neg h0, if_neg h1, if_neg h1, if_pos h2, if_pos h2, bt_and, bt_not _ hc, steps_t a ha c hc]
  · rw [if_neg h0, if_neg h0, if_neg h1, if_neg h1, if_neg h2, if_neg h2, bt_0]; simp
theorem geo_congr {k a c : Nat} {p q : Nat → Bool} (h : ∀ x, x < 25 → p x = q x) : geoOK k a c p = geoOK k a c q := by
  unfold geoOK
  have e : (List.range 25).all (fun x => !(btwB a c x && p x)) = (List.range 25).all (fun x => !(btwB a c x && q x)) := by
    rw [Bool.eq_iff_iff, List.all_eq_true, List.all_eq_true]
    constructor <;> intro h1 x hx <;> have h2 := h1 x hx <;> rw [h x (List.mem_range.mp hx)] at * <;> exact h2
  rw [e]
/-- all cells that are stood on, as bits -/
def allS (f : Nat → Nat) (s : Nat) : Int32 := cellsS f s ||| cellsS f (1 - s)
theorem bt_all {f : Nat → Nat} {t s c : Nat} (h : Dig f t) (hs : s < 2) (hc : c < 31) : bt (allS f s) c = occ f c := by
  unfold allS
  rw [bt_or, bt_cells h hs hc, bt_cells h (by omega) hc, occ_side f c hs]
/-- where man m can go to, as bits -/
def tgM (b g o : Nat) (f : Nat → Nat) (m : Nat) : Int32 := if f m % 32 = 31 then 0 else tgS (kd b g o (f m / 32)) (f m % 32) (cellsS f (m / 3)) (allS f (m / 3))
theorem bt_tgM {b g o : Nat} {f : Nat → Nat} {t m c : Nat} (h : Wf f t) (hm : m < 6) (hc : c < 32) : bt (tgM b g o f m) c = (decide (c < 25) && canS b g o f m c) := by
  unfold tgM canS
  by_cases hu : f m % 32 = 31
  · rw [if_pos hu, bt_0]; simp [hu]
  · have hcl := h.cell hm hu
    rw [if_neg hu, bt_tg hcl.1 hc]
    by_cases h25 : c < 25
    · rw [bt_cells h.dig (by omega) (by omega), geo_congr (q := occ f) (fun x hx => bt_all h.dig (by omega) (by omega))]
      simp [hu, h25]
    · simp [h25]
theorem targets_M {b g o : Nat} {f : Nat → Nat} {t m : Nat} (hL : Lw b g o) (h : Wf f t) (hm : m < 6) : f_X5_targets (nI b) (nI g) (nI o) (f_X8_cellOf (enc f t) (nI m)) (f_X8_ageOf (enc f t) (nI m)) (cellsS f (m / 3)) (allS f (m / 3)) = some (tgM b g o f m) := by
  rw [cellOf_c h.dig hm, ageOf_c h.dig hm]
  unfold tgM
  by_cases hu : f m % 32 = 31
  · rw [if_pos hu, hu, targets_away (by omega) (by omega)]
  · have hcl := h.cell hm hu
    rw [if_neg hu, targets_c hL hcl.1 (by omega)]
/-! the reference -/
theorem size_x : ∀ a, a < 25 → ∀ c, c < 25 → f_X10_size (jrem (nI c) 5 - jrem (nI a) 5) = nI (dx a c) ∧ f_X10_size (nI c / 5 - nI a / 5) = nI (dy a c) := by decide +kernel
theorem dxy_le : ∀ a, a < 25 → ∀ c, c < 25 → dx a c ≤ 4 ∧ dy a c ≤ 4 := by decide +kernel
def visL (step high : Nat) : Nat → Nat → List Nat
  | 0, _ => []
  | n+1, x => if high ≤ x then [] else x :: visL step high n (x + step)
theorem isB_in {f : Nat → Nat} {t step high : Nat} (h : Dig f t) (hs : 1 ≤ step) (hs2 : step ≤ 5) (hh : high ≤ 25) : ∀ n x, x < 32 → high - x < n → f_X10_isBetween_L47 (enc f t) (nI step) (nI high) n (nI x) = some (b2i ((visL step high n x).any (occ f))) := by
  intro n
  induction n with
  | zero => intro x _ h1; omega
  | succ n ih =>
    intro x hx hn
    rw [f_X10_isBetween_L47]
    unfold visL
    by_cases h1 : high ≤ x
    · rw [if_pos (nI_le h1 (by omega)), if_pos h1]; rfl
    · rw [if_neg (nI_ge (by omega) (by omega)), if_neg h1, manOn_m h (by omega), Option.bind_some]
      simp only [moS_neg, jlet, List.any_cons]
      by_cases h2 : mOn f x < 6
      · simp [h2, occ, b2i]
      · rw [if_pos h2, nI_add, ih (x + step) (by omega) (by omega)]
        simp [h2, occ]
theorem vis_t : (List.range 25).all (fun a => (List.range 25).all (fun c => !linG a c || (List.range 25).all (fun x => ((visL (if a % 5 = c % 5 then 5 else 1) (max a c) 100 (min a c + (if a % 5 = c % 5 then 5 else 1))).contains x == btwB a c x) && (visL (if a % 5 = c % 5 then 5 else 1) (max a c) 100 (min a c + (if a % 5 = c % 5 then 5 else 1))).all (fun y => decide (y < 25))))) = true := by decide +kernel
theorem vis_is {a c : Nat} (ha : a < 25) (hc : c < 25) (hl : linG a c = true) (oc : Nat → Bool) : (visL (if a % 5 = c % 5 then 5 else 1) (max a c) 100 (min a c + (if a % 5 = c % 5 then 5 else 1))).any oc = (List.range 25).any (fun x => btwB a c x && oc x) := by
  have h1 := List.all_eq_true.mp vis_t a (List.mem_range.mpr ha)
  have h2 := List.all_eq_true.mp h1 c (List.mem_range.mpr hc)
  simp only [hl, Bool.not_true, Bool.false_or] at h2
  generalize visL (if a % 5 = c % 5 then 5 else 1) (max a c) 100 (min a c + (if a % 5 = c % 5 then 5 else 1)) = L at h2 ⊢
  have h3 : ∀ x, x < 25 → (L.contains x = btwB a c x) := fun x hx => by
    have := List.all_eq_true.mp h2 x (List.mem_range.mpr hx)
    simp only [Bool.and_eq_true, beq_iff_eq] at this
    exact this.1
  have h4 : ∀ y ∈ L, y < 25 := fun y hy => by
    have := List.all_eq_true.mp h2 0 (List.mem_range.mpr (by omega))
    simp only [Bool.and_eq_true, List.all_eq_true, decide_eq_true_eq] at this
    exact this.2 y hy
  rw [Bool.eq_iff_iff, List.any_eq_true, List.any_eq_true]
  constructor
  · rintro ⟨x, hx, ho⟩
    refine ⟨x, List.mem_range.mpr (h4 x hx), ?_⟩
    rw [← h3 x (h4 x hx), ho]
    simpa using hx
  · rintro ⟨x, hx, ho⟩
    simp only [Bool.and_eq_true] at ho
    refine ⟨x, ?_, ho.2⟩
    have := h3 x (List.mem_range.mp hx)
    rw [ho.1] at this
    simpa using this
def blkS (f : Nat → Nat) (a c : Nat) : Bool := (List.range 25).any (fun x => btwB a c x && occ f x)
theorem isBetween_m {f : Nat → Nat} {t a c : Nat} (h : Dig f t) (ha : a < 25) (hc : c < 25) (hl : linG a c = true) : f_X10_isBetween (enc f t) (nI a) (nI c) = some (b2i (blkS f a c)) := by
  unfold blkS
  rw [← vis_is ha hc hl]
  have B : ∀ step low high, 1 ≤ step → step ≤ 5 → low < 25 → high ≤ 25 → f_X10_isBetween_B38 (enc f t) (nI step) (nI low) (nI high) = some (b2i ((visL step high 100 (low + step)).any (occ f))) := by
    intro step low high h1 h2 h3 h4
    unfold f_X10_isBetween_B38 jlet
    dsimp only
    rw [nI_add]
    exact isB_in h h1 h2 h4 100 (low + step) (by omega) (by omega)
  have B14 : ∀ step, 1 ≤ step → step ≤ 5 → f_X10_isBetween_B14 (enc f t) (nI a) (nI c) (nI step) = some (b2i ((visL step (max a c) 100 (min a c + step)).any (occ f))) := by
    intro step h1 h2
    unfold f_X10_isBetween_B14 f_X10_isBetween_B26
    by_cases hle : c ≤ a
    · rw [if_pos (nI_le hle (by omega)), if_pos (nI_le hle (by omega)), B step c a h1 h2 hc (by omega), Nat.min_eq_right hle, Nat.max_eq_left hle]
    · rw [if_neg (nI_ge (by omega) (by omega)), if_neg (nI_ge (by omega) (by omega)), B step a c h1 h2 ha (by omega), Nat.min_eq_left (by omega), Nat.max_eq_right (by omega)]
  unfold f_X10_isBetween
  rw [(rem5 a (by omega)).1, (rem5 c (by omega)).1]
  simp only [nI_eq_lit (a := a % 5) (b := c % 5) (by omega) (by omega)]
  by_cases h5 : a % 5 = c % 5
  · rw [if_pos h5, if_pos h5]
    exact B14 5 (by omega) (by omega)
  · rw [if_neg h5, if_neg h5]
    exact B14 1 (by omega) (by omega)
def ownM (f : Nat → Nat) (m c : Nat) : Bool := decide (mOn f c < 6) && decide (mOn f c / 3 = m / 3)
theorem div3 : ∀ x, x < 7 → nI x / 3 = nI (x / 3) := by decide +kernel
theorem ownM_at {f : Nat → Nat} {t m c : Nat} (h : Wf f t) (hm : m < 6) (hc : c < 31) : ownM f m c = ownAt f (m / 3) c := by
  rw [Bool.eq_iff_iff]
  unfold ownM ownAt
  simp only [Bool.and_eq_true, Bool.or_eq_true, decide_eq_true_eq]
  constructor
  · rintro ⟨h1, h2⟩
    have h3 := mOn_at h1
    have : mOn f c = 3 * (m / 3) ∨ mOn f c = 3 * (m / 3) + 1 ∨ mOn f c = 3 * (m / 3) + 2 := by omega
    rcases this with e | e | e <;> rw [e] at h3 <;> simp [h3]
  · rintro ((h1 | h1) | h1)
    · rw [mOn_eq h (by omega) (by omega) h1]; omega
    · rw [mOn_eq h (by omega) (by omega) h1]; omega
    · rw [mOn_eq h (by omega) (by omega) h1]; omega
/-- why man m can't go to c: 3 to 6; -6 if he can -/
def whyS (b g o : Nat) (f : Nat → Nat) (m c : Nat) : Int32 :=
  if kd b g o (f m / 32) = 3 then 3 else if (if kd b g o (f m / 32) = 0 then jmpG (f m % 32) c else if kd b g o (f m / 32) = 1 then linG (f m % 32) c else stpG (f m % 32) c) = false then 4 else if kd b g o (f m / 32) = 1 ∧ blkS f (f m % 32) c = true then 5 else if ownM f m c = true then 6 else -6
theorem whyNot_m {b g o : Nat} {f : Nat → Nat} {t m c : Nat} (hL : Lw b g o) (h : Wf f t) (hm : m < 6) (hu : f m % 32 ≠ 31) (hc : c < 25) : f_X10_whyNot (nI b) (nI g) (nI o) (enc f t) (nI m) (nI c) = some (whyS b g o f m c) := by
  have hcl := h.cell hm hu
  have hsz := size_x _ hcl.1 c hc
  have hdl := dxy_le _ hcl.1 c hc
  have hk := kd_le b g o (f m / 32)
  have B166 : f_X10_whyNot_B166 (enc f t) (nI m) (nI c) = some (if ownM f m c = true then 6 else -6) := by
    unfold f_X10_whyNot_B166
    rw [manOn_m h.dig (by omega), Option.bind_some]
    simp only [moS_neg]
    unfold ownM
    by_cases h1 : mOn f c < 6
    · rw [if_neg (by simpa using h1)]
      unfold moS
      rw [if_pos h1, div3 _ (by omega), div3 _ (by omega)]
      simp only [nI_eq_lit (a := mOn f c / 3) (b := m / 3) (by omega) (by omega)]
      by_cases h2 : mOn f c / 3 = m / 3
      · rw [if_pos h2]; simp [h1, h2]
      · rw [if_neg h2]; simp [h1, h2]
    · rw [if_pos h1]; simp [h1]
  have B138 : ∀ tt : Int32, (kd b g o (f m / 32) = 1 → tt ≠ 0 → linG (f m % 32) c = true) → f_X10_whyNot_B138 (enc f t) (nI m) (nI c) (nI (f m % 32)) (nI (kd b g o (f m / 32))) tt = some (if tt = 0 then 4 else if kd b g o (f m / 32) = 1 ∧ blkS f (f m % 32) c = true then 5 else if ownM f m c = true then 6 else -6) := by
    intro tt htt
    unfold f_X10_whyNot_B138
    by_cases h0 : tt = 0
    · rw [if_pos h0, if_pos h0]
    · rw [if_neg h0, if_neg h0]
      simp only [show (1 : Int32) = nI 1 from rfl, kd_nI (b := b) (g := g) (o := o) (a := f m / 32) (k := 1) (by omega)]
      by_cases h1 : kd b g o (f m / 32) = 1
      · rw [if_pos h1, isBetween_m h.dig hcl.1 hc (htt h1 h0), Option.bind_some]
        cases hb : blkS f (f m % 32) c
        · rw [if_pos (by rfl), B166]; simp [h1]
        · rw [if_neg (by decide)]; simp [h1]
      · rw [if_neg h1, B166]; simp [h1]
  unfold f_X10_whyNot jlet
  dsimp only
  rw [cellOf_m h.dig hm, ageOf_m h.dig hm, kindOf_m hL (by omega), hsz.1, hsz.2, nI_mul, nI_add]
  simp only [show (3 : Int32) = nI 3 from rfl, show (0 : Int32) = nI 0 from rfl, show (1 : Int32) = nI 1 from rfl, show (2 : Int32) = nI 2 from rfl, kd_nI (b := b) (g := g) (o := o) (a := f m / 32) (k := 3) (by omega), kd_nI (b := b) (g := g) (o := o) (a := f m / 32) (k := 0) (by omega), kd_nI (b := b) (g := g) (o := o) (a := f m / 32) (k := 1) (by omega), nI_eq_lit (a := dx (f m % 32) c * dy (f m % 32) c) (b := 2) (by have := Nat.mul_le_mul hdl.1 hdl.2; omega) (by omega), nI_eq_lit (a := dx (f m % 32) c) (b := 0) (by omega) (by omega), nI_le_lit (a := 2) (b := dx (f m % 32) c) (by omega) (by omega), nI_le_lit (a := 2) (b := dy (f m % 32) c) (by omega) (by omega), nI_le_lit (a := dx (f m % 32) c + dy (f m % 32) c) (b := 0) (by omega) (by omega)]
  unfold whyS
  by_cases k3 : kd b g o (f m / 32) = 3
  · rw [if_pos k3, if_pos k3]; rfl
  rw [if_neg k3, if_neg k3]
  by_cases k0 : kd b g o (f m / 32) = 0
  · rw [if_pos k0, if_pos k0]
    unfold jmpG
    by_cases h2 : dx (f m % 32) c * dy (f m % 32) c = 2
    · rw [if_pos h2, B138 _ (fun e => by omega), if_neg (by decide)]; simp [h2]
    · rw [if_neg h2, B138 _ (fun e => by omega), if_pos (show (nI 0) = 0 from rfl)]; simp [h2]
  rw [if_neg k0, if_neg k0]
  by_cases k1 : kd b g o (f m / 32) = 1
  · rw [if_pos k1, if_pos k1]
    have B92 : ∀ z : Int32, f_X10_whyNot_B92 (enc f t) (nI m) (nI c) (nI (f m % 32)) (nI (kd b g o (f m / 32))) (nI (dy (f m % 32) c)) z = if z = (if dy (f m % 32) c = 0 then 1 else 0) then f_X10_whyNot_B138 (enc f t) (nI m) (nI c) (nI (f m % 32)) (nI (kd b g o (f m / 32))) 0 else f_X10_whyNot_B138 (enc f t) (nI m) (nI c) (nI (f m % 32)) (nI (kd b g o (f m / 32))) 1 := by
      intro z
      unfold f_X10_whyNot_B92 f_X10_whyNot_B102
      simp only [show (0 : Int32) = nI 0 from rfl, nI_eq_lit (a := dy (f m % 32) c) (b := 0) (by omega) (by omega)]
      by_cases hy : dy (f m % 32) c = 0
      · rw [if_pos hy, if_pos hy]
      · rw [if_neg hy, if_neg hy]
    unfold linG
    by_cases hx0 : dx (f m % 32) c = 0
    · rw [if_pos hx0]
      by_cases hy0 : dy (f m % 32) c = 0
      · show f_X10_whyNot_B92 _ _ _ _ _ _ 1 = _
        rw [B92, if_pos hy0, if_pos (show (1 : Int32) = 1 from rfl), B138 _ (fun _ e => absurd rfl e), if_pos (show (0 : Int32) = 0 from rfl)]; simp [hx0, hy0]
      · show f_X10_whyNot_B92 _ _ _ _ _ _ 1 = _
        rw [B92, if_neg hy0, if_neg (by decide), B138 _ (fun _ _ => by unfold linG; simp [hx0, hy0]), if_neg (by decide)]; simp [hx0, hy0]
    · rw [if_neg hx0]
      by_cases hy0 : dy (f m % 32) c = 0
      · show f_X10_whyNot_B92 _ _ _ _ _ _ 0 = _
        rw [B92, if_pos hy0, if_neg (by decide), B138 _ (fun _ _ => by unfold linG; simp [hx0, hy0]), if_neg (by decide)]; simp [hx0, hy0]
      · show f_X10_whyNot_B92 _ _ _ _ _ _ 0 = _
        rw [B92, if_neg hy0, if_pos (show (0 : Int32) = 0 from rfl), B138 _ (fun _ e => absurd rfl e), if_pos (show (0 : Int32) = 0 from rfl), show (dx (f m % 32) c == 0) = false by simpa using hx0, show (dy (f m % 32) c == 0) = false by simpa using hy0]; rfl
  · rw [if_neg k1, if_neg k1]
    unfold stpG
    by_cases h1 : 2 ≤ dx (f m % 32) c
    · rw [if_pos h1, B138 _ (fun e => absurd e k1), if_pos (show (nI 0) = 0 from rfl)]
      have : ¬ dx (f m % 32) c < 2 := by omega
      simp [this]
    rw [if_neg h1]
    by_cases h2 : 2 ≤ dy (f m % 32) c
    · rw [if_pos h2, B138 _ (fun e => absurd e k1), if_pos (show (nI 0) = 0 from rfl)]
      have : ¬ dy (f m % 32) c < 2 := by omega
      simp [this]
    rw [if_neg h2]
    by_cases h3 : dx (f m % 32) c + dy (f m % 32) c ≤ 0
    · rw [if_pos h3, B138 _ (fun e => absurd e k1), if_pos (show (nI 0) = 0 from rfl)]
      have : ¬ 0 < dx (f m % 32) c + dy (f m % 32) c := by omega
      simp [this]
    · rw [if_neg h3, B138 _ (fun e => absurd e k1), if_neg (by decide)]
      have e1 : dx (f m % 32) c < 2 := by omega
      have e2 : dy (f m % 32) c < 2 := by omega
      have e3 : 0 < dx (f m % 32) c + dy (f m % 32) c := by omega
      simp [e1, e2, e3]
theorem why_can {b g o : Nat} {f : Nat → Nat} {t m c : Nat} (h : Wf f t) (hm : m < 6) (hu : f m % 32 ≠ 31) (hc : c < 25) : (whyS b g o f m c = -6) ↔ canS b g o f m c = true := by
  have hk := kd_le b g o (f m / 32)
  unfold whyS canS geoOK blkS
  rw [ownM_at h hm (by omega)]
  have hall : (List.range 25).all (fun x => !(btwB (f m % 32) c x && occ f x)) = !((List.range 25).any (fun x => btwB (f m % 32) c x && occ f x)) := by
    rw [List.not_any_eq_all_not]
  rw [hall]
  generalize (List.range 25).any (fun x => btwB (f m % 32) c x && occ f x) = bl
  generalize ownAt f (m / 3) c = ow
  generalize jmpG (f m % 32) c = j1
  generalize linG (f m % 32) c = j2
  generalize stpG (f m % 32) c = j3
  have : kd b g o (f m / 32) = 0 ∨ kd b g o (f m / 32) = 1 ∨ kd b g o (f m / 32) = 2 ∨ kd b g o (f m / 32) = 3 := by omega
  rcases this with e | e | e | e <;> rw [e] <;> simp only [hu, ne_eq, not_false_eq_true, decide_true, Bool.true_and] <;> cases bl <;> cases ow <;> cases j1 <;> cases j2 <;> cases j3 <;> decide
theorem canGo_m {b g o : Nat} {f : Nat → Nat} {t m c : Nat} (hL : Lw b g o) (h : Wf f t) (hm : m < 6) (hc : c < 25) : f_X10_canGo (nI b) (nI g) (nI o) (enc f t) (nI m) (nI c) = some (b2i (canS b g o f m c)) := by
  unfold f_X10_canGo
  simp only [cell31_m h.dig hm]
  by_cases hu : f m % 32 = 31
  · rw [if_pos hu]; unfold canS; simp [hu, b2i]
  · rw [if_neg hu, whyNot_m hL h hm hu hc, Option.bind_some]
    simp only [why_can (b := b) (g := g) (o := o) h hm hu hc]
    cases canS b g o f m c <;> rfl
