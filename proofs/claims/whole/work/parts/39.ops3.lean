/-! man, on, state, told, mirrors, draws -/
theorem inN (x : Int32) {a b : Nat} (ha : a < 2 ^ 31) (hb : b < 2 ^ 31) : (x < nI a ∨ nI b < x) ∨ ∃ j : Nat, a ≤ j ∧ j ≤ b ∧ x = nI j := by
  rcases i32_cases x with h | ⟨j, hj, rfl⟩
  · exact Or.inl (Or.inl (Int32.lt_of_lt_of_le h (nI_pos' ha)))
  · by_cases h1 : j < a
    · exact Or.inl (Or.inl (nI_lt h1 ha))
    · by_cases h2 : b < j
      · exact Or.inl (Or.inr (nI_lt h2 hj))
      · exact Or.inr ⟨j, by omega, by omega, rfl⟩
theorem in_out {x : Int32} {a b : Nat} (h : x < nI a ∨ nI b < x) : f_X10_in x.toInt64 (nI a).toInt64 (nI b).toInt64 = 0 := by
  rw [in3]
  rcases h with h | h
  · have : ¬ nI a ≤ x := Int32.not_le.mpr h
    simp [this, b2i]
  · have : ¬ x ≤ nI b := Int32.not_le.mpr h
    simp [this, b2i]
theorem in_in {a b j : Nat} (h1 : a ≤ j) (h2 : j ≤ b) (hb : b < 2 ^ 31) : f_X10_in (nI j).toInt64 (nI a).toInt64 (nI b).toInt64 = 1 := by
  rw [in3]
  have e1 : nI a ≤ nI j := nI_le h1 (by omega)
  have e2 : nI j ≤ nI b := nI_le h2 hb
  simp [e1, e2, b2i]
theorem cellNow_eq {f : Nat → Nat} {t m : Nat} (h : Dig f t) (hm : m < 6) : f_X9_cellOrNone (enc f t) (nI m) = f_X10_cellNow (enc f t) (nI m) := by
  unfold f_X9_cellOrNone f_X10_cellNow jlet
  dsimp only
  simp only [cell31_m h hm]
  rw [isUp_c h hm, cellOf_c h hm, cellOf_m h hm]
  by_cases hu : f m % 32 = 31
  · rw [if_pos hu, if_pos rfl, if_pos hu]
  · rw [if_neg hu, if_neg (by decide), if_neg hu]
theorem op_man {b g o : Nat} {f : Nat → Nat} {t : Nat} (hL : Lw b g o) (h : Wf f t) (mn wh : Int32) : f_X9_man (enc f t) (nI b) (nI g) (nI o) mn wh = f_X10_man (enc f t) (nI b) (nI g) (nI o) mn wh := by
  unfold f_X9_man f_X10_man f_X10_isMan
  rcases inN mn (a := 0) (b := 5) (by omega) (by omega) with hout | ⟨j, h1, h2, rfl⟩
  · have e : f_X10_in mn.toInt64 0 5 = 0 := in_out (a := 0) (b := 5) hout
    rw [e, if_pos rfl]
    rcases hout with h3 | h3
    · rw [if_pos (show mn < 0 from h3)]
    · by_cases h4 : mn < 0
      · rw [if_pos h4]
      · rw [if_neg h4, if_neg (fun h5 => by
          have h6 : ¬ mn < nI 6 := by
            intro h7
            rw [Int32.lt_iff_toInt_lt] at h7 h3
            rw [nI_toInt (by omega)] at h7 h3
            omega
          exact h6 h5)]
  · have e : f_X10_in (nI j).toInt64 0 5 = 1 := in_in (a := 0) (b := 5) h1 h2 (by omega)
    rw [e, if_neg (show ¬ (1 : Int32) = 0 by decide), if_neg (nI_pos (by omega)), if_pos (show nI j < (6 : Int32) from nI_lt (b := 6) (by omega) (by omega)), cellNow_eq h.dig (by omega), ageOf_c h.dig (by omega), ageOf_m h.dig (by omega)]
    rfl
theorem op_on {f : Nat → Nat} {t : Nat} (h : Wf f t) (cl : Int32) : ∃ r, f_X9_on (enc f t) cl = some r ∧ f_X10_on (enc f t) cl = some r := by
  unfold f_X9_on f_X10_on
  rcases inN cl (a := 0) (b := 24) (by omega) (by omega) with hout | ⟨j, h1, h2, rfl⟩
  · have e : f_X10_in cl.toInt64 0 24 = 0 := in_out (a := 0) (b := 24) hout
    rw [e, if_pos rfl]
    refine ⟨-1, ?_, rfl⟩
    rcases hout with h3 | h3
    · rw [if_pos (show cl < 0 from h3)]
    · by_cases h4 : cl < 0
      · rw [if_pos h4]
      · rw [if_neg h4, if_neg (fun h5 => by
          have h6 : ¬ cl < nI 25 := by
            intro h7
            rw [Int32.lt_iff_toInt_lt] at h7 h3
            rw [nI_toInt (by omega)] at h7 h3
            omega
          exact h6 h5)]
  · have e : f_X10_in (nI j).toInt64 0 24 = 1 := in_in (a := 0) (b := 24) h1 h2 (by omega)
    rw [e, if_neg (show ¬ (1 : Int32) = 0 by decide), if_neg (nI_pos (by omega)), if_pos (show nI j < (25 : Int32) from nI_lt (b := 25) (by omega) (by omega)), manOn_c h.dig (by omega), manOn_m h.dig (by omega)]
    exact ⟨_, rfl, rfl⟩
theorem op_state {b g o : Nat} {f : Nat → Nat} {t : Nat} (hL : Lw b g o) (h : Wf f t) (wh : Int32) : ∃ r, f_X9_state (enc f t) (nI b) (nI g) (nI o) wh = some r ∧ f_X10_state (enc f t) (nI b) (nI g) (nI o) wh = some r := by
  unfold f_X9_state f_X10_state f_X9_state_B12
  by_cases h0 : wh = 0
  · rw [if_pos h0, if_pos h0, if_pos h0, turnOf_c h.dig, turnOf_m h.dig]; exact ⟨_, rfl, rfl⟩
  rw [if_neg h0, if_neg h0, if_neg h0]
  by_cases h1 : wh = 1
  · rw [if_pos h1, if_pos h1, ending_c hL h, broughtBy_m hL h]; exact ⟨_, rfl, rfl⟩
  · rw [if_neg h1, if_neg h1]; exact ⟨_, rfl, rfl⟩
theorem op_told {b g o : Nat} {f : Nat → Nat} {t : Nat} (h : Wf f t) (ps gs wh : Int32) : f_X9_told (enc f t) ps gs (nI b) (nI g) (nI o) wh = f_X10_told (enc f t) (nI b) (nI g) (nI o) ps gs wh := by
  unfold f_X9_told f_X10_told f_X9_told_B21 f_X9_told_B45
  rcases inN wh (a := 10) (b := 15) (by omega) (by omega) with hout | ⟨j, h1, h2, rfl⟩
  · have e : f_X10_in wh.toInt64 10 15 = 0 := in_out (a := 10) (b := 15) hout
    rw [e, if_pos rfl]
    have hc : wh < 10 ∨ 16 ≤ wh := by
      rcases hout with h3 | h3
      · exact Or.inl h3
      · right
        show nI 16 ≤ wh
        rw [Int32.lt_iff_toInt_lt] at h3
        rw [Int32.le_iff_toInt_le]
        rw [nI_toInt (by omega)] at h3 ⊢
        omega
    have hin : (if wh < 10 then (if wh < 20 then (if wh = 0 then ps else if wh = 1 then gs else if wh = 2 then nI b else if wh = 3 then nI g else if wh = 4 then nI o else -2) else if 26 ≤ wh then (if wh = 0 then ps else if wh = 1 then gs else if wh = 2 then nI b else if wh = 3 then nI g else if wh = 4 then nI o else -2) else f_X8_ageOf (enc f t) (wh - 20)) else if 16 ≤ wh then (if wh < 20 then (if wh = 0 then ps else if wh = 1 then gs else if wh = 2 then nI b else if wh = 3 then nI g else if wh = 4 then nI o else -2) else if 26 ≤ wh then (if wh = 0 then ps else if wh = 1 then gs else if wh = 2 then nI b else if wh = 3 then nI g else if wh = 4 then nI o else -2) else f_X8_ageOf (enc f t) (wh - 20)) else f_X9_cellOrNone (enc f t) (wh - 10)) = (if wh < 20 then (if wh = 0 then ps else if wh = 1 then gs else if wh = 2 then nI b else if wh = 3 then nI g else if wh = 4 then nI o else -2) else if 26 ≤ wh then (if wh = 0 then ps else if wh = 1 then gs else if wh = 2 then nI b else if wh = 3 then nI g else if wh = 4 then nI o else -2) else f_X8_ageOf (enc f t) (wh - 20)) := by
      rcases hc with h3 | h3
      · rw [if_pos h3]
      · by_cases h4 : wh < 10
        · rw [if_pos h4]
        · rw [if_neg h4, if_pos h3]
    rw [hin]
    rcases inN wh (a := 20) (b := 25) (by omega) (by omega) with hout2 | ⟨j, h1, h2, rfl⟩
    · have e2 : f_X10_in wh.toInt64 20 25 = 0 := in_out (a := 20) (b := 25) hout2
      rw [e2, if_pos rfl]
      rcases hout2 with h3 | h3
      · rw [if_pos (show wh < 20 from h3)]
      · by_cases h4 : wh < 20
        · rw [if_pos h4]
        · rw [if_neg h4, if_pos (show (26 : Int32) ≤ wh by
            show nI 26 ≤ wh
            rw [Int32.lt_iff_toInt_lt] at h3
            rw [Int32.le_iff_toInt_le]
            rw [nI_toInt (by omega)] at h3 ⊢
            omega)]
    · have e2 : f_X10_in (nI j).toInt64 20 25 = 1 := in_in (a := 20) (b := 25) h1 h2 (by omega)
      rw [e2, if_neg (show ¬ (1 : Int32) = 0 by decide), if_neg (show ¬ nI j < (20 : Int32) from nI_nlt (b := 20) h1 (by omega)), if_neg (show ¬ (26 : Int32) ≤ nI j from nI_ge (b := 26) (by omega) (by omega)), show (20 : Int32) = nI 20 from rfl, nI_sub h1, ageOf_c h.dig (by omega), ageOf_m h.dig (by omega)]
  · have e : f_X10_in (nI j).toInt64 10 15 = 1 := in_in (a := 10) (b := 15) h1 h2 (by omega)
    rw [e, if_neg (show ¬ (1 : Int32) = 0 by decide), if_neg (show ¬ nI j < (10 : Int32) from nI_nlt (b := 10) h1 (by omega)), if_neg (show ¬ (16 : Int32) ≤ nI j from nI_ge (b := 16) (by omega) (by omega)), show (10 : Int32) = nI 10 from rfl, nI_sub h1, cellNow_eq h.dig (by omega)]
/-! mirrors -/
def mirC (w c : Nat) : Nat := (if w % 2 = 1 then 4 - c % 5 else c % 5) + 5 * (if w / 2 % 2 = 1 then 4 - c / 5 else c / 5)
def mirF (w : Nat) (f : Nat → Nat) : Nat → Nat := fun j => if f j % 32 = 31 then f j else mirC w (f j % 32) + 32 * (f j / 32)
theorem mir_t : ∀ w, w < 4 → ∀ c, c < 25 → f_X8_mirroredCell (nI c) (nI w) = nI (mirC w c) ∧ mirC w c < 25 := by decide +kernel
theorem mir_inj : ∀ w, w < 4 → ∀ c, c < 25 → ∀ d, d < 25 → mirC w c = mirC w d → c = d := by decide +kernel
theorem mir_m : ∀ w, w < 4 → ∀ c, c < 25 → ((if (nI w &&& 1) = 1 then (4 - (jrem (nI c) 5)) else jrem (nI c) 5) + (5 * (if (nI w &&& 2) = 2 then (4 - (nI c / 5)) else nI c / 5))) = nI (mirC w c) := by decide +kernel
theorem mir_wf {f : Nat → Nat} {t w : Nat} (h : Wf f t) (hw : w < 4) : Wf (mirF w f) t := by
  refine ⟨h.1, fun m hm => ?_, fun m hm k hk hne he => ?_⟩
  · unfold mirF
    by_cases hu : f m % 32 = 31
    · rw [if_pos hu]; exact h.2.1 m hm
    · have hcl := h.cell hm hu
      have := (mir_t w hw _ hcl.1).2
      rw [if_neg hu]; right; omega
  · unfold mirF at hne he
    by_cases hu : f m % 32 = 31
    · rw [if_pos hu] at hne; exact absurd ((h.away hm).mp hu) hne
    · have hcl := h.cell hm hu
      have h1 := (mir_t w hw _ hcl.1).2
      rw [if_neg hu] at hne he
      by_cases hk2 : f k % 32 = 31
      · rw [if_pos hk2] at he; omega
      · have hck := h.cell hk hk2
        have h2 := (mir_t w hw _ hck.1).2
        rw [if_neg hk2] at he
        have := mir_inj w hw _ hcl.1 _ hck.1 (by omega)
        exact h.2.2 m hm k hk (fun e => hu (by rw [e])) this
def mirP (w : Nat) (f : Nat → Nat) (i : Nat) : Nat → Nat := fun j => if j < i then mirF w f j else f j
theorem mirP_dig {f : Nat → Nat} {t w i : Nat} (h : Wf f t) (hw : w < 4) : Dig (mirP w f i) t := ⟨h.1, fun m hm => by
  unfold mirP
  split
  · exact (mir_wf h hw).dig.2 m hm
  · exact h.dig.2 m hm⟩
theorem mirP_step {f : Nat → Nat} {t w i : Nat} (h : Wf f t) (hw : w < 4) (hi : i < 6) (hu : f i % 32 ≠ 31) : enc (updN (mirP w f i) i (mirC w (f i % 32) + 32 * (f i / 32))) t = enc (mirP w f (i + 1)) t := by
  apply enc_congr
  intro j hj
  unfold updN mirP
  by_cases e : j = i
  · subst e
    rw [if_pos rfl, if_pos (by omega)]
    unfold mirF
    rw [if_neg hu]
  · rw [if_neg e]
    by_cases e2 : j < i
    · rw [if_pos e2, if_pos (by omega)]
    · rw [if_neg e2, if_neg (by omega)]
theorem mirP_skip {f : Nat → Nat} {t w i : Nat} (hu : f i % 32 = 31) : enc (mirP w f i) t = enc (mirP w f (i + 1)) t := by
  apply enc_congr
  intro j hj
  unfold mirP
  by_cases e : j = i
  · subst e
    rw [if_neg (by omega), if_pos (by omega)]
    unfold mirF
    rw [if_pos hu]
  · by_cases e2 : j < i
    · rw [if_pos e2, if_pos (by omega)]
    · rw [if_neg e2, if_neg (by omega)]
theorem mirrored_c {f : Nat → Nat} {t w : Nat} (h : Wf f t) (hw : w < 4) : f_X8_mirrored (enc f t) (nI w) = some (enc (mirF w f) t) := by
  have hd := h.dig
  have st : ∀ n i, i < 6 → f_X8_mirrored_L5 (enc f t) (nI w) (n + 1) (enc (mirP w f i) t) (nI i) = f_X8_mirrored_L5 (enc f t) (nI w) n (enc (mirP w f (i + 1)) t) (nI (i + 1)) := by
    intro n i hi
    rw [f_X8_mirrored_L5, if_neg (show ¬ (6 : Int32) ≤ nI i from nI_ge (b := 6) hi (by omega))]
    unfold f_X8_mirrored_B46 jlet
    dsimp only
    rw [cellOf_c hd hi, ageOf_c hd hi, nI_1]
    simp only [show (nI (f i % 32) = 31) = (f i % 32 = 31) from nI_eq_lit (b := 31) (by omega) (by omega)]
    by_cases hu : f i % 32 = 31
    · rw [if_pos hu, mirP_skip hu]
    · have hcl := h.cell hi hu
      have hmt := mir_t w hw _ hcl.1
      rw [if_neg hu, hmt.1, putE (mirP_dig h hw) hi (by omega) (by omega), mirP_step h hw hi hu]
  have fin : ∀ n x, f_X8_mirrored_L5 (enc f t) (nI w) (n + 1) x (nI 6) = some x := by
    intro n x
    rw [f_X8_mirrored_L5, if_pos (show (6 : Int32) ≤ nI 6 from nI_le (a := 6) (b := 6) (by omega) (by omega))]
  unfold f_X8_mirrored
  have e0 : enc f t = enc (mirP w f 0) t := enc_congr (fun j _ => by unfold mirP; rw [if_neg (by omega)])
  rw [show f_X8_mirrored_L5 (enc f t) (nI w) 100 (enc f t) 0 = f_X8_mirrored_L5 (enc f t) (nI w) (99 + 1) (enc (mirP w f 0) t) (nI 0) by rw [← e0]; rfl]
  rw [st 99 0 (by omega), st 98 1 (by omega), st 97 2 (by omega), st 96 3 (by omega), st 95 4 (by omega), st 94 5 (by omega), fin 93]
  rfl
theorem mirrored_m {f : Nat → Nat} {t w : Nat} (h : Wf f t) (hw : w < 4) : f_X10_mirrored (enc f t) (nI w) = some (enc (mirF w f) t) := by
  have hd := h.dig
  have st : ∀ n i, i < 6 → f_X10_mirrored_L5 (enc f t) (nI w) (n + 1) (enc (mirP w f i) t) (nI i) = f_X10_mirrored_L5 (enc f t) (nI w) n (enc (mirP w f (i + 1)) t) (nI (i + 1)) := by
    intro n i hi
    rw [f_X10_mirrored_L5, if_neg (show ¬ (6 : Int32) ≤ nI i from nI_ge (b := 6) hi (by omega))]
    unfold jlet
    dsimp only
    rw [cellOf_m hd hi]
    simp only [show (nI (f i % 32) = 31) = (f i % 32 = 31) from nI_eq_lit (b := 31) (by omega) (by omega)]
    by_cases hu : f i % 32 = 31
    · rw [if_pos hu, mirP_skip hu]
      unfold f_X10_mirrored_B91 jlet
      dsimp only
      rw [nI_1]
    · have hcl := h.cell hi hu
      have hmt := mir_t w hw _ hcl.1
      have hmm := mir_m w hw _ hcl.1
      have B : ∀ x z : Int32, x + 5 * z = nI (mirC w (f i % 32)) → f_X10_mirrored_B69 (f_X10_mirrored_L5 (enc f t) (nI w) n) (enc f t) (enc (mirP w f i) t) (nI i) x z = f_X10_mirrored_L5 (enc f t) (nI w) n (enc (mirP w f (i + 1)) t) (nI (i + 1)) := by
        intro x z hxz
        unfold f_X10_mirrored_B69 f_X10_mirrored_B91 jlet
        dsimp only
        rw [hxz, ageOf_m hd hi, nI_1, putE_m (mirP_dig h hw) hi (by omega) (by omega), mirP_step h hw hi hu]
      rw [if_neg hu]
      unfold f_X10_mirrored_B47
      by_cases c1 : (nI w &&& 1) = 1
      · rw [if_pos c1] at hmm ⊢
        by_cases c2 : (nI w &&& 2) = 2
        · rw [if_pos c2] at hmm ⊢; exact B _ _ hmm
        · rw [if_neg c2] at hmm ⊢; exact B _ _ hmm
      · rw [if_neg c1] at hmm ⊢
        by_cases c2 : (nI w &&& 2) = 2
        · rw [if_pos c2] at hmm ⊢; exact B _ _ hmm
        · rw [if_neg c2] at hmm ⊢; exact B _ _ hmm
  have fin : ∀ n x, f_X10_mirrored_L5 (enc f t) (nI w) (n + 1) x (nI 6) = some x := by
    intro n x
    rw [f_X10_mirrored_L5, if_pos (show (6 : Int32) ≤ nI 6 from nI_le (a := 6) (b := 6) (by omega) (by omega))]
  unfold f_X10_mirrored
  have e0 : enc f t = enc (mirP w f 0) t := enc_congr (fun j _ => by unfold mirP; rw [if_neg (by omega)])
  rw [show f_X10_mirrored_L5 (enc f t) (nI w) 100 (enc f t) 0 = f_X10_mirrored_L5 (enc f t) (nI w) (99 + 1) (enc (mirP w f 0) t) (nI 0) by rw [← e0]; rfl]
  rw [st 99 0 (by omega), st 98 1 (by omega), st 97 2 (by omega), st 96 3 (by omega), st 95 4 (by omega), st 94 5 (by omega), fin 93]
  rfl
