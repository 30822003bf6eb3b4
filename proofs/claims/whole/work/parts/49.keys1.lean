/-! replies, and whether a first move is a key -/
theorem kid_notwin {b g o : Nat} {f : Nat → Nat} {t : Nat} (hL : Lw b g o) (h : Wf f t) {q : Nat × Nat} (hq : q ∈ mvs b g o f t) : brS b g o (kid f q) (1 - t) ≠ (1 - t) + 1 := by
  have ht := h.1
  have hm := mvs_mem ht (show (q.1, q.2) ∈ mvs b g o f t from hq)
  obtain ⟨m1, m2, m3, m4, m5, m6⟩ := hm
  have hcf := can_facts hL h m1 m3 m4
  have hown := own_false hcf.2.2.1
  have keep : ∀ s, s = t → kid f q (3 * s) % 32 ≠ 31 := by
    intro s hs
    subst hs
    unfold kid chF
    by_cases e : 3 * s = q.1
    · rw [if_pos e]; omega
    · rw [if_neg e]
      have hn := hown 0 (by omega)
      rw [m2, Nat.add_zero] at hn
      rw [if_neg hn]
      have : s = 0 ∨ s = 1 := by omega
      rcases this with rfl | rfl
      · exact m5
      · exact m6
  unfold brS
  have hcase : t = 0 ∨ t = 1 := by omega
  rcases hcase with rfl | rfl
  · have k0 := keep 0 rfl
    rw [if_neg k0]
    repeat' split
    all_goals omega
  · have k3 := keep 1 rfl
    rw [if_neg (show ¬ kid f q 3 % 32 = 31 from k3)]
    repeat' split
    all_goals omega
def allFrom (L : List (Nat × Nat)) (p : Nat × Nat → Bool) (i : Nat) : Bool := (L.drop i).all p
theorem allFrom_end (L : List (Nat × Nat)) (p : Nat × Nat → Bool) {i : Nat} (h : L.length ≤ i) : allFrom L p i = true := by
  unfold allFrom
  rw [List.drop_eq_nil_of_le h]
  rfl
theorem allFrom_step (L : List (Nat × Nat)) (p : Nat × Nat → Bool) {i : Nat} (h : i < L.length) : allFrom L p i = (p L[i] && allFrom L p (i + 1)) := by
  unfold allFrom
  rw [List.drop_eq_getElem_cons h, List.all_cons]
def a2S (b g o : Nat) (f : Nat → Nat) (t : Nat) : Bool := (mvs b g o f t).all (fun q => w1S b g o (kid f q) (1 - t))
theorem winsAll_c {b g o : Nat} {f : Nat → Nat} {t : Nat} (hL : Lw b g o) (h : Wf f t) (qr qv : Nat → Int32) : ∃ qr2 qv2, f_X4_winsAgainstAll qr qv (nI b) (nI g) (nI o) (enc f t) = some (b2i (a2S b g o f t), qr2, qv2) := by
  have ht := h.1
  have hlen := mvs_len (b := b) (g := g) (o := o) h
  have hlist : f_X5_list (nI b) (nI g) (nI o) qr 24 (enc f t) 0 = some (nI (mvs b g o f t).length, wrL qr 0 ((mvs b g o f t).map cod)) := list_c hL h (sa := 0) (by omega) (by omega)
  unfold f_X4_winsAgainstAll jlet
  dsimp only
  rw [hlist, Option.bind_some]
  dsimp only
  generalize hL2 : mvs b g o f t = L at *
  have lp : ∀ n i qv, i ≤ L.length → L.length - i < n → ∃ qv2, f_X4_winsAgainstAll_L15 (nI b) (nI g) (nI o) (enc f t) (nI L.length) n (nI i) (wrL qr 0 (L.map cod)) qv = some (b2i (allFrom L (fun q => w1S b g o (kid f q) (1 - t)) i), wrL qr 0 (L.map cod), qv2) := by
    intro n
    induction n with
    | zero => intro i qv _ hn; omega
    | succ n ih =>
      intro i qv hi hn
      rw [f_X4_winsAgainstAll_L15]
      by_cases he : i = L.length
      · subst he
        rw [if_pos (nI_le (Nat.le_refl _) (by omega)), allFrom_end _ _ (Nat.le_refl _)]
        exact ⟨_, rfl⟩
      · have hil : i < L.length := by omega
        have hmem : L[i] ∈ mvs b g o f t := by rw [hL2]; exact List.getElem_mem hil
        rw [if_neg (nI_ge hil (by omega)), if_neg (show ¬ (24 : Int32) ≤ nI i from nI_ge (b := 24) (by omega) (by omega)), if_neg (nI_in (by omega) (by omega)), nI_clamp (by omega), wr0 hil, kid_c hL h hmem, Option.bind_some, winsAtOnce_c hL (kid_wf hL h hmem), Option.bind_some, allFrom_step _ _ hil]
        unfold jlet
        dsimp only
        rw [nI_1]
        cases hw : w1S b g o (kid f L[i]) (1 - t)
        · rw [if_pos b2i_f, Bool.false_and]; exact ⟨_, rfl⟩
        · rw [if_neg b2i_t, Bool.true_and]
          exact ih (i + 1) _ (by omega) (by omega)
  obtain ⟨qv2, this⟩ := lp 100 0 qv (by omega) (by omega)
  unfold a2S
  rw [hL2]
  exact ⟨_, _, this⟩
theorem reply_m {b g o : Nat} {f : Nat → Nat} {t : Nat} (hL : Lw b g o) (h : Wf f t) {q : Nat × Nat} (hq : q ∈ mvs b g o f t) (h0 : brS b g o (kid f q) (1 - t) ≠ 0) : w1S b g o (kid f q) (1 - t) = false := by
  unfold w1S
  rw [mvs_nil.mpr h0]
  rfl
/-- what keys asks of the stand behind a first move: won already, or all replies lose -/
def keyS (b g o : Nat) (f : Nat → Nat) (t : Nat) (two : Bool) : Bool := if brS b g o f t = 0 then two && a2S b g o f t else decide (brS b g o f t = (1 - t) + 1)
theorem one_add (s : Nat) : (1 : Int32) + nI s = nI (s + 1) := by rw [show (1 : Int32) = nI 1 from rfl, nI_add, Nat.add_comm]
theorem updL_at {f : Nat → Int64} {k : Nat} {x : Int64} (j : Nat) : vp_updL f k x j = if j = k then x else f j := rfl
theorem isKey_m {b g o : Nat} {f : Nat → Nat} {t : Nat} (hL : Lw b g o) (h : Wf f t) (nn : Int32) (hnn : nn = 1 ∨ nn = 2) (my : Int32) (A B : Nat → Int32) (R : Nat → Int64) : ∃ q, f_X10_isKey (nI b) (nI g) (nI o) my A B R (enc f t) (nI (1 - t)) nn = some (b2i (keyS b g o f t (decide (nn = 2))), q) := by
  have ht := h.1
  have hb3 := brS_le b g o f ht
  unfold f_X10_isKey keyS
  rw [broughtBy_m hL h, Option.bind_some, one_add]
  simp only [show (nI (brS b g o f t) = 0) = (brS b g o f t = 0) from nI_eq_lit (b := 0) (by omega) (by omega), nI_eq_lit (a := brS b g o f t) (b := 1 - t + 1) (by omega) (by omega)]
  by_cases h0 : brS b g o f t = 0
  rotate_left 1
  · rw [if_neg h0, if_neg h0]
    by_cases h1 : brS b g o f t = 1 - t + 1
    · rw [if_pos h1, decide_eq_true h1]; exact ⟨_, rfl⟩
    · rw [if_neg h1, decide_eq_false h1]; exact ⟨_, rfl⟩
  rw [if_pos h0, if_pos h0]
  rcases hnn with rfl | rfl
  · rw [if_pos rfl]; exact ⟨_, rfl⟩
  rw [if_neg (show ¬ (2 : Int32) = 1 by decide)]
  have hlen := mvs_len (b := b) (g := g) (o := o) h
  rw [findMoves_m (A := A) (B := B) hL h, Option.bind_some]
  unfold jlet
  dsimp only
  generalize hL2 : mvs b g o f t = L at *
  have l2 : ∀ n i my A B R, i ≤ L.length → L.length - i < n → (∀ j (hj : j < L.length), R j = enc (kid f L[j]) (1 - t)) → ∃ q, f_X10_isKey_L89 (nI b) (nI g) (nI o) (nI (1 - t)) (nI L.length) n (nI i) my A B R = some (b2i (allFrom L (fun q => w1S b g o (kid f q) (1 - t)) i), q) := by
    intro n
    induction n with
    | zero => intro i my A B R _ hn; omega
    | succ n ih =>
      intro i my A B R hi hn hR
      rw [f_X10_isKey_L89]
      by_cases he : i = L.length
      · subst he
        rw [if_pos (nI_le (Nat.le_refl _) (by omega)), allFrom_end _ _ (Nat.le_refl _)]
        exact ⟨_, rfl⟩
      · have hil : i < L.length := by omega
        have hmem : L[i] ∈ mvs b g o f t := by rw [hL2]; exact List.getElem_mem hil
        have hkw := kid_wf hL h hmem
        have hb3' := brS_le b g o (kid f L[i]) (show 1 - t < 2 by omega)
        have hin : ¬ (nI i < 0 ∨ 75 ≤ (nI i).toNatClampNeg) := nI_in (by omega) (by omega)
        rw [if_neg (nI_ge hil (by omega)), if_neg hin, if_neg hin, if_neg hin, nI_clamp (by omega), hR i hil, broughtBy_m hL hkw, Option.bind_some, Option.bind_some, one_add, allFrom_step _ _ hil]
        simp only [show (nI (brS b g o (kid f L[i]) (1 - t)) = 0) = (brS b g o (kid f L[i]) (1 - t) = 0) from nI_eq_lit (b := 0) (by omega) (by omega), nI_eq_lit (a := brS b g o (kid f L[i]) (1 - t)) (b := 1 - t + 1) (by omega) (by omega)]
        by_cases hz : brS b g o (kid f L[i]) (1 - t) = 0
        · obtain ⟨w, hw⟩ := winsAtOnce_m hL hkw A B
          rw [if_pos hz, hw, Option.bind_some]
          dsimp only
          cases hwin : w1S b g o (kid f L[i]) (1 - t)
          · rw [if_pos b2i_f, Bool.false_and]; exact ⟨_, rfl⟩
          · rw [if_neg b2i_t, Bool.true_and]
            unfold f_X10_isKey_B146 jlet
            dsimp only
            rw [nI_1]
            exact ih (i + 1) _ _ _ _ (by omega) (by omega) hR
        · rw [if_neg hz, if_neg (kid_notwin hL h hmem), reply_m hL h hmem hz, Bool.false_and]
          exact ⟨_, rfl⟩
  have l1 : ∀ n i my R, i ≤ L.length → L.length - i < n → (∀ j (hj : j < L.length), j < i → R j = enc (kid f L[j]) (1 - t)) → ∃ q, f_X10_isKey_L48 (nI b) (nI g) (nI o) (enc f t) (nI (1 - t)) (nI L.length) n (nI i) my (wrL A 0 (L.map (fun q => nI q.1))) (wrL B 0 (L.map (fun q => nI q.2))) R = some (b2i (allFrom L (fun q => w1S b g o (kid f q) (1 - t)) 0), q) := by
    intro n
    induction n with
    | zero => intro i my R _ hn; omega
    | succ n ih =>
      intro i my R hi hn hR
      rw [f_X10_isKey_L48]
      by_cases he : i = L.length
      · rw [if_pos (nI_le (by omega) (by omega))]
        exact l2 100 0 _ _ _ _ (by omega) (by omega) (fun j hj => hR j hj (by omega))
      · have hil : i < L.length := by omega
        have hmem : L[i] ∈ mvs b g o f t := by rw [hL2]; exact List.getElem_mem hil
        have hin : ¬ (nI i < 0 ∨ 75 ≤ (nI i).toNatClampNeg) := nI_in (by omega) (by omega)
        rw [if_neg (nI_ge hil (by omega)), if_neg hin, if_neg hin, nI_clamp (by omega), wr0 (g := fun q : Nat × Nat => nI q.1) hil, wr0 (g := fun q : Nat × Nat => nI q.2) hil, kid_m hL h hmem, Option.bind_some, if_neg (show ¬ (nI i < 0 ∨ 75 ≤ i) by rintro (e | e); exact nI_pos (by omega) e; omega)]
        unfold jlet
        dsimp only
        rw [nI_1]
        refine ih (i + 1) _ _ (by omega) (by omega) (fun j hj hji => ?_)
        rw [updL_at]
        by_cases e : j = i
        · subst e; rw [if_pos rfl]
        · rw [if_neg e]; exact hR j hj (by omega)
  obtain ⟨q, hq⟩ := l1 100 0 (nI L.length) R (by omega) (by omega) (fun j hj hji => by omega)
  refine ⟨q, ?_⟩
  have e2 : (decide ((2 : Int32) = 2) && a2S b g o f t) = allFrom L (fun q => w1S b g o (kid f q) (1 - t)) 0 := by
    unfold a2S
    rw [hL2]
    rfl
  rw [e2]
  exact hq
