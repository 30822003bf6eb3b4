/-! the moves that may be, as a list; both sides write it -/
def bitsOf (x : Int32) : List Nat := (List.range 25).filter (bt x)
theorem low_bit {x : Int32} {k : Nat} (hk : k < 32) (h1 : bt x k = true) (h2 : ∀ c, c < k → bt x c = false) : x &&& (-x) = jshl 1 (nI k) := by
  apply bt_ext
  intro c hc
  rw [bt_and, bt_one k hk c hc]
  have hn : bt (-x) c = (bt x c ^^ (decide (c < 32) && decide (∃ j, j < c ∧ bt x j = true))) := by
    unfold bt
    rw [Int32.toBitVec_neg, BitVec.getLsbD_neg]
  rw [hn]
  by_cases e : c = k
  · subst e
    have : ¬ ∃ j, j < c ∧ bt x j = true := by
      rintro ⟨j, hj, hb⟩
      rw [h2 j hj] at hb; cases hb
    simp [h1, this]
  · by_cases hlt : c < k
    · simp [h2 c hlt, e]
    · have : ∃ j, j < c ∧ bt x j = true := ⟨k, by omega, h1⟩
      cases bt x c <;> simp [this, e, hc]
theorem bitCount_low : ∀ k, k < 25 → f_J6_bitCount_0f7a4 (jshl 1 (nI k) - 1) = nI k := by decide +kernel
theorem bits_pw (x : Int32) : (bitsOf x).Pairwise (· < ·) := List.Pairwise.filter _ List.pairwise_lt_range
theorem bits_mem {x : Int32} {c : Nat} : c ∈ bitsOf x ↔ c < 25 ∧ bt x c = true := by
  unfold bitsOf
  rw [List.mem_filter, List.mem_range]
theorem bits_nil {x : Int32} (hx : ∀ c, 25 ≤ c → bt x c = false) : bitsOf x = [] ↔ x = 0 := by
  constructor
  · intro h
    rw [bt_zero]
    intro c hc
    by_cases h25 : c < 25
    · cases hb : bt x c with
      | false => rfl
      | true => have := bits_mem.mpr ⟨h25, hb⟩; rw [h] at this; cases this
    · exact hx c (by omega)
  · rintro rfl
    unfold bitsOf
    rw [List.filter_eq_nil_iff]
    intro c _
    rw [bt_0]; simp
theorem bits_step {x : Int32} {k : Nat} {L : List Nat} (h : bitsOf x = k :: L) : k < 25 ∧ x &&& (-x) = jshl 1 (nI k) ∧ bitsOf (x ^^^ jshl 1 (nI k)) = L := by
  have hm : k < 25 ∧ bt x k = true := bits_mem.mp (by rw [h]; exact List.mem_cons_self)
  have hp := bits_pw x
  rw [h] at hp
  have hp1 := (List.pairwise_cons.mp hp).1
  refine ⟨hm.1, low_bit (by omega) hm.2 (fun c hc => ?_), ?_⟩
  · cases hb : bt x c with
    | false => rfl
    | true =>
      have := bits_mem.mpr ⟨by omega, hb⟩
      rw [h] at this
      rcases List.mem_cons.mp this with e | e
      · omega
      · have := hp1 c e; omega
  · have e1 : bitsOf (x ^^^ jshl 1 (nI k)) = (bitsOf x).filter (fun c => decide (c ≠ k)) := by
      unfold bitsOf
      rw [List.filter_filter]
      apply List.filter_congr
      intro c hc
      have hc2 := List.mem_range.mp hc
      rw [bt_xor, bt_one k (by omega) c (by omega)]
      by_cases e : c = k
      · subst e; simp [hm.2]
      · simp [e]
    rw [e1, h, List.filter_cons]
    rw [if_neg (by simp), List.filter_eq_self.mpr]
    intro c hc
    have := hp1 c hc
    simp
    omega
theorem bits_tail {x : Int32} {k : Nat} (hx : ∀ c, 25 ≤ c → bt x c = false) (hk : k < 25) : ∀ c, 25 ≤ c → bt (x ^^^ jshl 1 (nI k)) c = false := by
  intro c hc
  by_cases h32 : c < 32
  · rw [bt_xor, hx c hc, bt_one k (by omega) c h32]
    have : c ≠ k := by omega
    simp [this]
  · exact bt_hi _ (by omega)
/-- writing a list into a row from a place on -/
def wrL (ra : Nat → Int32) (p : Nat) : List Int32 → Nat → Int32
  | [] => ra
  | x :: L => wrL (upd ra p x) (p + 1) L
theorem wrL_lo {ra : Nat → Int32} : ∀ (L : List Int32) (p j : Nat), j < p → wrL ra p L j = ra j := by
  intro L
  induction L generalizing ra with
  | nil => intros; rfl
  | cons x L ih =>
    intro p j hj
    unfold wrL
    rw [ih (p + 1) j (by omega)]
    unfold upd
    rw [if_neg (by omega)]
theorem wrL_hi {ra : Nat → Int32} : ∀ (L : List Int32) (p j : Nat), p + L.length ≤ j → wrL ra p L j = ra j := by
  intro L
  induction L generalizing ra with
  | nil => intros; rfl
  | cons x L ih =>
    intro p j hj
    simp only [List.length_cons] at hj
    unfold wrL
    rw [ih (p + 1) j (by omega)]
    unfold upd
    rw [if_neg (by omega)]
theorem wrL_at {ra : Nat → Int32} : ∀ (L : List Int32) (p i : Nat) (h : i < L.length), wrL ra p L (p + i) = L[i] := by
  intro L
  induction L generalizing ra with
  | nil => intro p i h; simp at h
  | cons x L ih =>
    intro p i h
    unfold wrL
    cases i with
    | zero =>
      rw [wrL_lo L (p + 1) (p + 0) (by omega)]
      unfold upd
      simp
    | succ i =>
      rw [show p + (i + 1) = (p + 1) + i by omega, ih (p + 1) i (by simpa using h)]
      simp
theorem wrL_app {ra : Nat → Int32} : ∀ (L M : List Int32) (p : Nat), wrL ra p (L ++ M) = wrL (wrL ra p L) (p + L.length) M := by
  intro L
  induction L generalizing ra with
  | nil => intro M p; rfl
  | cons x L ih =>
    intro M p
    show wrL (upd ra p x) (p + 1) (L ++ M) = _
    rw [ih M (p + 1)]
    show _ = wrL (wrL (upd ra p x) (p + 1) L) (p + (L.length + 1)) M
    rw [show p + 1 + L.length = p + (L.length + 1) by omega]
def code1 (m c : Nat) : Int32 := nI (32 * m + c)
theorem code_or : ∀ m, m < 6 → ∀ c, c < 32 → (jshl (nI m) 5 ||| nI c) = code1 m c := by decide +kernel
theorem list_in {k : Int32 → Int32 → (Nat → Int32) → Option (Int32 × (Nat → Int32))} {rn sa m : Nat} (hm : m < 6) (hsa : sa < 2 ^ 30) (hrn : rn < 2 ^ 30) : ∀ (L : List Nat) (n i cnt : Nat) (x : Int32) (ra : Nat → Int32), bitsOf x = L → (∀ c, 25 ≤ c → bt x c = false) → L.length + i ≤ 25 → L.length < n → sa + cnt + L.length ≤ rn → f_X5_list_L95 k rn (nI sa) (nI m) n (nI cnt) x (nI i) ra = f_X5_list_B160 k (nI m) (nI (cnt + L.length)) (wrL ra (sa + cnt) (L.map (code1 m))) := by
  intro L
  induction L with
  | nil =>
    intro n i cnt x ra hb hx hi hn hr
    obtain ⟨n, rfl⟩ : ∃ q, n = q + 1 := ⟨n - 1, by simp at hn; omega⟩
    have h0 := (bits_nil hx).mp hb
    subst h0
    rw [f_X5_list_L95]
    by_cases h25 : i = 25
    · subst h25
      rw [if_pos (show (25 : Int32) ≤ nI 25 from nI_le (a := 25) (b := 25) (by omega) (by omega))]
      rfl
    · simp at hi
      rw [if_neg (show ¬ (25 : Int32) ≤ nI i from nI_ge (b := 25) (by omega) (by omega)), if_pos rfl]
      rfl
  | cons c L ih =>
    intro n i cnt x ra hb hx hi hn hr
    simp only [List.length_cons] at hi hn hr
    obtain ⟨n, rfl⟩ : ∃ q, n = q + 1 := ⟨n - 1, by omega⟩
    obtain ⟨hc, hlow, hrest⟩ := bits_step hb
    have hne : ¬ x = 0 := fun e => by rw [(bits_nil hx).mpr e] at hb; cases hb
    rw [f_X5_list_L95, if_neg (show ¬ (25 : Int32) ≤ nI i from nI_ge (b := 25) (by omega) (by omega)), if_neg hne, nI_add, if_neg (show ¬ Int32.ofNat rn ≤ nI (sa + cnt) from nI_ge (b := rn) (by omega) (by omega)), hlow]
    unfold jlet
    dsimp only
    rw [if_neg (nI_in (by omega) (by omega)), nI_clamp (by omega), bitCount_low c hc, code_or m hm c (by omega), nI_1, nI_1, ih n (i + 1) (cnt + 1) _ _ hrest (bits_tail hx hc) (by omega) (by omega) (by omega)]
    simp only [List.length_cons, List.map_cons]
    rw [show cnt + 1 + L.length = cnt + (L.length + 1) by omega]
    rfl
def tgL (b g o : Nat) (f : Nat → Nat) (m : Nat) : List Nat := (List.range 25).filter (canS b g o f m)
theorem tgL_bits {b g o : Nat} {f : Nat → Nat} {t m : Nat} (h : Wf f t) (hm : m < 6) : bitsOf (tgM b g o f m) = tgL b g o f m := by
  unfold bitsOf tgL
  apply List.filter_congr
  intro c hc
  have := List.mem_range.mp hc
  rw [bt_tgM h hm (by omega)]
  simp [this]
theorem tgM_hi {b g o : Nat} {f : Nat → Nat} {t m : Nat} (h : Wf f t) (hm : m < 6) : ∀ c, 25 ≤ c → bt (tgM b g o f m) c = false := by
  intro c hc
  by_cases h32 : c < 32
  · rw [bt_tgM h hm h32]
    have : ¬ c < 25 := by omega
    simp [this]
  · exact bt_hi _ (by omega)
theorem cnt8 : ∀ a, a < 25 → ((List.range 25).filter (jmpG a)).length ≤ 8 ∧ ((List.range 25).filter (linG a)).length ≤ 8 ∧ ((List.range 25).filter (stpG a)).length ≤ 8 := by decide +kernel
theorem filter_le {α : Type} {p q : α → Bool} : ∀ (l : List α), (∀ x ∈ l, p x = true → q x = true) → (l.filter p).length ≤ (l.filter q).length := by
  intro l
  induction l with
  | nil => intro _; simp
  | cons a l ih =>
    intro h
    have h1 := ih (fun x hx => h x (List.mem_cons_of_mem _ hx))
    rw [List.filter_cons, List.filter_cons]
    cases hp : p a
    · simp only [Bool.false_eq_true, if_false]
      split
      · simp; omega
      · exact h1
    · rw [h a List.mem_cons_self hp]; simp; omega
theorem tgL_len {b g o : Nat} {f : Nat → Nat} {t m : Nat} (h : Wf f t) (hm : m < 6) : (tgL b g o f m).length ≤ 8 := by
  unfold tgL
  by_cases hu : f m % 32 = 31
  · rw [List.filter_eq_nil_iff.mpr (fun c _ => by unfold canS; simp [hu])]; simp
  · have hcl := h.cell hm hu
    obtain ⟨h1, h2, h3⟩ := cnt8 _ hcl.1
    have hk := kd_le b g o (f m / 32)
    have hcase : kd b g o (f m / 32) = 0 ∨ kd b g o (f m / 32) = 1 ∨ kd b g o (f m / 32) = 2 ∨ kd b g o (f m / 32) = 3 := by omega
    rcases hcase with e | e | e | e
    · exact Nat.le_trans (filter_le _ (fun x _ hx => by unfold canS geoOK at hx; rw [e] at hx; simp at hx; exact hx.1.2)) h1
    · exact Nat.le_trans (filter_le _ (fun x _ hx => by unfold canS geoOK at hx; rw [e] at hx; simp only [show ¬ (1 : Nat) = 0 by omega, if_false, if_true, Bool.and_eq_true] at hx; exact hx.1.2.1)) h2
    · exact Nat.le_trans (filter_le _ (fun x _ hx => by unfold canS geoOK at hx; rw [e] at hx; simp at hx; exact hx.1.2)) h3
    · rw [List.filter_eq_nil_iff.mpr (fun c _ => by unfold canS geoOK; rw [e]; simp)]; simp
/-- the moves of who has the turn, fathers apart -/
def mv3 (b g o : Nat) (f : Nat → Nat) (s : Nat) : List (Nat × Nat) := (tgL b g o f (3 * s)).map (fun c => (3 * s, c)) ++ ((tgL b g o f (3 * s + 1)).map (fun c => (3 * s + 1, c)) ++ (tgL b g o f (3 * s + 2)).map (fun c => (3 * s + 2, c)))
def mvs (b g o : Nat) (f : Nat → Nat) (t : Nat) : List (Nat × Nat) := if f 0 % 32 = 31 ∨ f 3 % 32 = 31 then [] else mv3 b g o f t
theorem mvs_len {b g o : Nat} {f : Nat → Nat} {t : Nat} (h : Wf f t) : (mvs b g o f t).length ≤ 24 := by
  have ht := h.1
  unfold mvs mv3
  split
  · simp
  · simp only [List.length_append, List.length_map]
    have h0 := tgL_len (b := b) (g := g) (o := o) h (m := 3 * t) (by omega)
    have h1 := tgL_len (b := b) (g := g) (o := o) h (m := 3 * t + 1) (by omega)
    have h2 := tgL_len (b := b) (g := g) (o := o) h (m := 3 * t + 2) (by omega)
    omega
def cod (q : Nat × Nat) : Int32 := code1 q.1 q.2
theorem list_c {b g o : Nat} {f : Nat → Nat} {t sa rn : Nat} {ra : Nat → Int32} (hL : Lw b g o) (h : Wf f t) (hrn : rn < 2 ^ 30) (hr : sa + 24 ≤ rn) : f_X5_list (nI b) (nI g) (nI o) ra rn (enc f t) (nI sa) = some (nI (mvs b g o f t).length, wrL ra sa ((mvs b g o f t).map cod)) := by
  have ht := h.1
  have hlen := mvs_len (b := b) (g := g) (o := o) h
  unfold f_X5_list
  have c0 : f_X8_isUp (enc f t) 0 = if f 0 % 32 = 31 then 0 else 1 := isUp_c (m := 0) h.dig (by omega)
  have c3 : f_X8_isUp (enc f t) 3 = if f 3 % 32 = 31 then 0 else 1 := isUp_c (m := 3) h.dig (by omega)
  rw [if_neg (nI_pos (by omega)), c0, c3]
  by_cases h0 : f 0 % 32 = 31
  · rw [if_pos h0, if_pos rfl]; unfold mvs; rw [if_pos (Or.inl h0)]; rfl
  rw [if_neg h0, if_neg (by decide)]
  by_cases h3 : f 3 % 32 = 31
  · rw [if_pos h3, if_pos rfl]; unfold mvs; rw [if_pos (Or.inr h3)]; rfl
  rw [if_neg h3, if_neg (by decide)]
  have hm : mvs b g o f t = mv3 b g o f t := by unfold mvs; rw [if_neg (by rintro (e | e); exact h0 e; exact h3 e)]
  rw [hm] at hlen ⊢
  unfold jlet
  dsimp only
  rw [turnOf_c h.dig, (three_s t ht).2.2.2.2, cellsOf_c h.dig ht, cellsOf_c h.dig (by omega), Option.bind_some, Option.bind_some, (three_s t ht).1]
  have e3 := (three_s t ht).2.2.2.1
  have st : ∀ n i cnt ra, i < 3 → sa + cnt + (tgL b g o f (3 * t + i)).length ≤ rn → f_X5_list_L59 (nI b) (nI g) (nI o) rn (enc f t) (nI sa) (nI t) (cellsS f t) (allS f t) (n + 1) (nI cnt) (nI (3 * t + i)) ra = f_X5_list_L59 (nI b) (nI g) (nI o) rn (enc f t) (nI sa) (nI t) (cellsS f t) (allS f t) n (nI (cnt + (tgL b g o f (3 * t + i)).length)) (nI (3 * t + (i + 1))) (wrL ra (sa + cnt) ((tgL b g o f (3 * t + i)).map (code1 (3 * t + i)))) := by
    intro n i cnt ra hi hle
    have h8 := tgL_len (b := b) (g := g) (o := o) h (m := 3 * t + i) (by omega)
    rw [f_X5_list_L59, e3, if_neg (nI_ge (by omega) (by omega)), tg_side hL h ht hi, Option.bind_some]
    rw [show (0 : Int32) = nI 0 from rfl, list_in (m := 3 * t + i) (by omega) (by omega) hrn _ 100 0 cnt _ ra (tgL_bits h (by omega)) (tgM_hi h (by omega)) (by omega) (by omega) hle]
    unfold f_X5_list_B160 jlet
    dsimp only
    rw [nI_1]
    rfl
  have fin : ∀ n cnt ra, f_X5_list_L59 (nI b) (nI g) (nI o) rn (enc f t) (nI sa) (nI t) (cellsS f t) (allS f t) (n + 1) (nI cnt) (nI (3 * t + 3)) ra = some (nI cnt, ra) := by
    intro n cnt ra
    rw [f_X5_list_L59, e3, if_pos (nI_le (by omega) (by omega))]
  unfold mv3 at hlen ⊢
  simp only [List.length_append, List.length_map] at hlen
  show f_X5_list_L59 (nI b) (nI g) (nI o) rn (enc f t) (nI sa) (nI t) (cellsS f t) (allS f t) (99 + 1) (nI 0) (nI (3 * t + 0)) ra = _
  rw [st 99 0 0 ra (by omega) (by rw [show 3 * t + 0 = 3 * t by omega]; omega), st 98 1 _ _ (by omega) (by rw [show 3 * t + 0 = 3 * t by omega]; omega), st 97 2 _ _ (by omega) (by rw [show 3 * t + 0 = 3 * t by omega]; omega), fin 96]
  simp only [List.length_append, List.length_map, List.map_append, List.map_map]
  rw [wrL_app, wrL_app]
  simp only [List.length_map, Nat.add_zero, Nat.zero_add]
  congr 2
  · congr 1; omega
  · have ec : ∀ m, (cod ∘ fun c => (m, c)) = code1 m := fun m => rfl
    rw [ec, ec, ec, Nat.add_assoc sa]
