/-! the answers of keys -/
def ansR (f : Nat → Nat) : List (Nat × Nat) → Nat → Int32 → Int32
  | [], cnt, ii => if ii = -1 then nI cnt else -6
  | q :: L, cnt, ii => if nI cnt = ii then told1 f q else ansR f L (cnt + 1) ii
theorem ansR_m1 (f : Nat → Nat) : ∀ (L : List (Nat × Nat)) cnt, cnt + L.length < 2 ^ 31 → ansR f L cnt (-1) = nI (cnt + L.length) := by
  intro L
  induction L with
  | nil => intro cnt _; unfold ansR; rw [if_pos rfl]; rfl
  | cons q L ih =>
    intro cnt hc
    simp only [List.length_cons] at hc
    unfold ansR
    have : ¬ nI cnt = -1 := fun e => by
      have := nI_pos' (n := cnt) (by omega)
      rw [e] at this
      exact absurd this (by decide)
    rw [if_neg this, ih (cnt + 1) (by omega)]
    congr 1
    simp only [List.length_cons]
    omega
theorem ansR_neg (f : Nat → Nat) {ii : Int32} (h1 : ¬ ii = -1) (h2 : ii < 0) : ∀ (L : List (Nat × Nat)) cnt, cnt + L.length < 2 ^ 31 → ansR f L cnt ii = -6 := by
  intro L
  induction L with
  | nil => intro cnt _; unfold ansR; rw [if_neg h1]
  | cons q L ih =>
    intro cnt hc
    simp only [List.length_cons] at hc
    unfold ansR
    have : ¬ nI cnt = ii := fun e => by
      rw [← e] at h2
      exact nI_pos (by omega) h2
    rw [if_neg this, ih (cnt + 1) (by omega)]
theorem ansR_hi (f : Nat → Nat) {j : Nat} (hj : j < 2 ^ 31) : ∀ (L : List (Nat × Nat)) cnt, cnt + L.length < 2 ^ 31 → cnt + L.length ≤ j → ansR f L cnt (nI j) = -6 := by
  intro L
  induction L with
  | nil =>
    intro cnt _ _
    unfold ansR
    have : ¬ nI j = -1 := fun e => by
      have := nI_pos' (n := j) hj
      rw [e] at this
      exact absurd this (by decide)
    rw [if_neg this]
  | cons q L ih =>
    intro cnt hc hl
    simp only [List.length_cons] at hc hl
    unfold ansR
    have : ¬ nI cnt = nI j := fun e => by
      rw [nI_eq (by omega) hj] at e
      omega
    rw [if_neg this, ih (cnt + 1) (by omega) (by omega)]
theorem ansR_at (f : Nat → Nat) : ∀ (L : List (Nat × Nat)) cnt i (hi : i < L.length), cnt + L.length < 2 ^ 31 → ansR f L cnt (nI (cnt + i)) = told1 f L[i] := by
  intro L
  induction L with
  | nil => intro cnt i hi; simp at hi
  | cons q L ih =>
    intro cnt i hi hc
    simp only [List.length_cons] at hi hc
    unfold ansR
    cases i with
    | zero => rw [if_pos (show nI cnt = nI (cnt + 0) from rfl)]; rfl
    | succ i =>
      have : ¬ nI cnt = nI (cnt + (i + 1)) := fun e => by
        rw [nI_eq (by omega) (by omega)] at e
        omega
      rw [if_neg this, show cnt + (i + 1) = cnt + 1 + i by omega, ih (cnt + 1) i (by omega) (by omega)]
      rfl
theorem keys_m {b g o : Nat} {f : Nat → Nat} {t : Nat} (hL : Lw b g o) (h : Wf f t) (nn ii : Int32) (hnn : nn = 1 ∨ nn = 2) (my : Int32) (A B : Nat → Int32) (R FI : Nat → Int64) (FM : Nat → Int32) : ∃ q, f_X10_keys (enc f t) (nI b) (nI g) (nI o) my A B R FI FM nn ii = some (ansR f (keyL b g o f t (decide (nn = 2)) 0) 0 ii, q) := by
  have ht := h.1
  have hlen := mvs_len (b := b) (g := g) (o := o) h
  unfold f_X10_keys
  have hin2 : f_X10_in nn.toInt64 1 2 = 1 := by rcases hnn with rfl | rfl <;> decide +kernel
  rw [hin2, if_neg (show ¬ (1 : Int32) = 0 by decide), findMoves_m (A := A) (B := B) hL h, Option.bind_some]
  unfold jlet
  dsimp only
  have l2 : ∀ n i cnt my A B R FI FM, i ≤ (mvs b g o f t).length → (mvs b g o f t).length - i < n → cnt ≤ i → (∀ j (hj : j < (mvs b g o f t).length), FI j = enc (kid f (mvs b g o f t)[j]) (1 - t) ∧ FM j = told1 f (mvs b g o f t)[j]) → ∃ q, f_X10_keys_L94 (enc f t) (nI b) (nI g) (nI o) nn ii (nI (mvs b g o f t).length) n (nI cnt) (nI i) my A B R FI FM = some (ansR f (keyL b g o f t (decide (nn = 2)) i) cnt ii, q) := by
    intro n
    induction n with
    | zero => intro i cnt my A B R FI FM _ hn; omega
    | succ n ih =>
      intro i cnt my A B R FI FM hi hn hcnt hF
      rw [f_X10_keys_L94]
      by_cases he : i = (mvs b g o f t).length
      · rw [if_pos (nI_le (by omega) (by omega)), keyL_end (by omega)]
        unfold ansR
        by_cases h1 : ii = -1
        · rw [if_pos h1, if_pos h1]; exact ⟨_, rfl⟩
        · rw [if_neg h1, if_neg h1]; exact ⟨_, rfl⟩
      · have hil : i < (mvs b g o f t).length := by omega
        have hmem : (mvs b g o f t)[i] ∈ mvs b g o f t := List.getElem_mem hil
        have hkw := kid_wf hL h hmem
        have hin : ¬ (nI i < 0 ∨ 75 ≤ (nI i).toNatClampNeg) := nI_in (by omega) (by omega)
        have hin' : ¬ (nI i < 0 ∨ 75 ≤ i) := by rintro (e | e); exact nI_pos (by omega) e; omega
        obtain ⟨q, hq⟩ := isKey_m hL hkw nn hnn my A B R
        rw [show 1 - (1 - t) = t by omega] at hq
        rw [if_neg (nI_ge hil (by omega)), if_neg hin, nI_clamp (by omega), (hF i hil).1, turnOf_m h.dig, hq, Option.bind_some, keyL_step hil]
        dsimp only
        unfold f_X10_keys_B139 jlet
        dsimp only
        rw [nI_1, nI_1]
        cases hk : keyS b g o (kid f (mvs b g o f t)[i]) (1 - t) (decide (nn = 2))
        · rw [if_pos b2i_f, if_neg (show ¬ false = true by decide)]
          exact ih (i + 1) cnt _ _ _ _ _ _ (by omega) (by omega) (by omega) hF
        · rw [if_neg b2i_t, if_pos (show true = true from rfl)]
          unfold ansR
          by_cases hc : nI cnt = ii
          · rw [if_pos hc, if_pos hc, if_neg hin', (hF i hil).2]; exact ⟨_, rfl⟩
          · rw [if_neg hc, if_neg hc]
            exact ih (i + 1) (cnt + 1) _ _ _ _ _ _ (by omega) (by omega) (by omega) hF
  have l1 : ∀ n i my R FI FM, i ≤ (mvs b g o f t).length → (mvs b g o f t).length - i < n → (∀ j (hj : j < (mvs b g o f t).length), j < i → FI j = enc (kid f (mvs b g o f t)[j]) (1 - t) ∧ FM j = told1 f (mvs b g o f t)[j]) → ∃ q, f_X10_keys_L31 (enc f t) (nI b) (nI g) (nI o) nn ii (nI (mvs b g o f t).length) n (nI i) my (wrL A 0 ((mvs b g o f t).map (fun q => nI q.1))) (wrL B 0 ((mvs b g o f t).map (fun q => nI q.2))) R FI FM = some (ansR f (keyL b g o f t (decide (nn = 2)) 0) 0 ii, q) := by
    intro n
    induction n with
    | zero => intro i my R FI FM _ hn; omega
    | succ n ih =>
      intro i my R FI FM hi hn hF
      rw [f_X10_keys_L31]
      by_cases he : i = (mvs b g o f t).length
      · rw [if_pos (nI_le (by omega) (by omega))]
        exact l2 100 0 0 _ _ _ _ _ _ (by omega) (by omega) (by omega) (fun j hj => hF j hj (by omega))
      · have hil : i < (mvs b g o f t).length := by omega
        have hmem : (mvs b g o f t)[i] ∈ mvs b g o f t := List.getElem_mem hil
        have hm6 := (mvs_mem ht (show ((mvs b g o f t)[i].1, (mvs b g o f t)[i].2) ∈ mvs b g o f t from hmem)).1
        have hin : ¬ (nI i < 0 ∨ 75 ≤ (nI i).toNatClampNeg) := nI_in (by omega) (by omega)
        have hin' : ¬ (nI i < 0 ∨ 75 ≤ i) := by rintro (e | e); exact nI_pos (by omega) e; omega
        rw [moveNumber_m h.dig hil hlen hm6 (wr0 (g := fun q : Nat × Nat => nI q.1) hil) (wr0 (g := fun q : Nat × Nat => nI q.2) hil), if_neg (nI_ge hil (by omega)), if_neg hin, if_neg hin, nI_clamp (by omega), wr0 (g := fun q : Nat × Nat => nI q.1) hil, wr0 (g := fun q : Nat × Nat => nI q.2) hil, kid_m hL h hmem, Option.bind_some, if_neg hin']
        unfold jlet
        dsimp only
        rw [Option.bind_some, if_neg hin', nI_1]
        refine ih (i + 1) _ _ _ _ (by omega) (by omega) (fun j hj hji => ?_)
        rw [updL_at]
        unfold upd
        by_cases e : j = i
        · subst e; rw [if_pos rfl, if_pos rfl]; exact ⟨rfl, rfl⟩
        · rw [if_neg e, if_neg e]; exact hF j hj (by omega)
  exact l1 100 0 _ R FI FM (by omega) (by omega) (fun j hj hji => by omega)
