/-! games judged -/
def wC (b g o : Nat) (f : Nat → Nat) (t a c : Nat) : Int32 := if brS b g o f t = 0 then (if mOn f a < 6 ∧ mOn f a / 3 = t then (if whyS b g o f (mOn f a) c = -6 then 0 else whyS b g o f (mOn f a) c) else 2) else 1
def wM (b g o : Nat) (f : Nat → Nat) (t a c : Nat) : Int32 := if brS b g o f t = 0 then (if mOn f a < 6 ∧ mOn f a / 3 = t then whyS b g o f (mOn f a) c else 2) else 1
theorem bt_tg0 {k a c : Nat} {al : Int32} (ha : a < 25) (hc : c < 25) : bt (tgS k a 0 al) c = geoOK k a c (bt al) := by
  rw [bt_tg ha (by omega), bt_0]
  simp [hc]
theorem geo_free {k a c : Nat} : geoOK k a c (bt 0) = (if k = 0 then jmpG a c else if k = 1 then linG a c else if k = 2 then stpG a c else false) := by
  unfold geoOK
  have e : (List.range 25).all (fun x => !(btwB a c x && bt 0 x)) = true := by
    rw [List.all_eq_true]
    intro x _
    rw [bt_0]; simp
  rw [e]
  simp
theorem whyNot_c {b g o : Nat} {f : Nat → Nat} {t a c : Nat} (hL : Lw b g o) (h : Wf f t) (ha : a < 25) (hc : c < 25) : f_X2_whyNot (nI b) (nI g) (nI o) (enc f t) (nI a) (nI c) = some (wC b g o f t a c) := by
  have hd := h.dig
  have hb3 := brS_le b g o f h.1
  unfold f_X2_whyNot wC
  rw [ending_c hL h, Option.bind_some]
  simp only [show (nI (brS b g o f t) = 0) = (brS b g o f t = 0) from nI_eq_lit (b := 0) (by omega) (by omega)]
  by_cases h0 : brS b g o f t = 0
  rotate_left 1
  · rw [if_neg h0, if_neg h0]
  rw [if_pos h0, if_pos h0, manOn_c hd (by omega), Option.bind_some]
  unfold jlet
  dsimp only
  rw [turnOf_c hd]
  by_cases hon : mOn f a < 6
  rotate_left 1
  · have : moS f a = -6 := by unfold moS; rw [if_neg hon]
    rw [this, if_pos rfl, if_neg (fun q => hon q.1)]
  have hmo : moS f a = nI (mOn f a) := by unfold moS; rw [if_pos hon]
  have hne6 : ¬ nI (mOn f a) = -6 := by
    intro e
    have := nI_pos' (n := mOn f a) (by omega)
    rw [e] at this
    exact absurd this (by decide)
  rw [hmo, if_neg hne6, div3 _ (by omega)]
  simp only [nI_eq_lit (a := mOn f a / 3) (b := t) (by omega) (by have := h.1; omega)]
  by_cases hsd : mOn f a / 3 = t
  rotate_left 1
  · rw [if_neg hsd, if_neg (fun q => hsd q.2)]
  rw [if_pos hsd, if_pos (show mOn f a < 6 ∧ mOn f a / 3 = t from ⟨hon, hsd⟩)]
  have hat := mOn_at hon
  generalize hmm : mOn f a = m at *
  have hu : f m % 32 ≠ 31 := by omega
  have hcl := h.cell hon hu
  have hk := kd_le b g o (f m / 32)
  rw [ageOf_c hd hon, kindOf_c hL (by omega)]
  simp only [show (3 : Int32) = nI 3 from rfl, kd_nI (b := b) (g := g) (o := o) (a := f m / 32) (k := 3) (by omega)]
  rw [show nI (f m / 32) = nI (f m / 32) from rfl, targets_c hL ha (by omega), Option.bind_some, cellsOf_c hd h.1, Option.bind_some, (three_s t h.1).2.2.2.2, cellsOf_c hd (by have := h.1; omega), Option.bind_some, targets_c hL ha (by omega), Option.bind_some]
  have e1 : (tgS (kd b g o (f m / 32)) a 0 0 &&& jshl 1 (nI c) = 0) = (geoOK (kd b g o (f m / 32)) a c (bt 0) = false) := by
    rw [propext (bt_test (x := tgS (kd b g o (f m / 32)) a 0 0) (k := c) (by omega)), bt_tg0 ha hc]
  have e2 : (tgS (kd b g o (f m / 32)) a 0 (cellsS f t ||| cellsS f (1 - t)) &&& jshl 1 (nI c) = 0) = (geoOK (kd b g o (f m / 32)) a c (occ f) = false) := by
    rw [propext (bt_test (x := tgS (kd b g o (f m / 32)) a 0 (cellsS f t ||| cellsS f (1 - t))) (k := c) (by omega)), bt_tg0 ha hc, geo_congr (p := bt (cellsS f t ||| cellsS f (1 - t))) (q := occ f) (fun x hx => bt_all hd h.1 (by omega))]
  have e3 : (cellsS f t &&& jshl 1 (nI c) = 0) = (ownAt f t c = false) := by
    rw [propext (bt_test (x := cellsS f t) (k := c) (by omega)), bt_cells hd h.1 (by omega)]
  simp only [e1, e2, e3]
  rw [geo_free]
  unfold whyS geoOK
  rw [ownM_at h hon (by omega), hsd, hat]
  have hall : (List.range 25).all (fun x => !(btwB a c x && occ f x)) = !(blkS f a c) := by
    unfold blkS; rw [List.not_any_eq_all_not]
  rw [hall]
  generalize blkS f a c = bl
  generalize ownAt f t c = ow
  generalize jmpG a c = j1
  generalize linG a c = j2
  generalize stpG a c = j3
  have hcase : kd b g o (f m / 32) = 0 ∨ kd b g o (f m / 32) = 1 ∨ kd b g o (f m / 32) = 2 ∨ kd b g o (f m / 32) = 3 := by omega
  rcases hcase with e | e | e | e <;> rw [e] <;> cases bl <;> cases ow <;> cases j1 <;> cases j2 <;> cases j3 <;> rfl
theorem whyAt_m {b g o : Nat} {f : Nat → Nat} {t a c : Nat} {pd : Nat → Int32} {kk : Int32} (hL : Lw b g o) (h : Wf f t) (ha : a < 25) (hc : c < 25) (h1 : f_X10_fromAt pd kk = some (nI a)) (h2 : f_X10_toAt pd kk = some (nI c)) : f_X10_whyAt (nI b) (nI g) (nI o) (enc f t) pd kk = some (wM b g o f t a c) := by
  have hd := h.dig
  have hb3 := brS_le b g o f h.1
  unfold f_X10_whyAt wM
  rw [broughtBy_m hL h, Option.bind_some]
  simp only [show (nI (brS b g o f t) = 0) = (brS b g o f t = 0) from nI_eq_lit (b := 0) (by omega) (by omega)]
  by_cases h0 : brS b g o f t = 0
  rotate_left 1
  · rw [if_neg h0, if_neg h0]
  rw [if_pos h0, if_pos h0, h1, h2, Option.bind_some, manOn_m hd (by omega), Option.bind_some, turnOf_m hd]
  simp only [moS_neg]
  by_cases hon : mOn f a < 6
  rotate_left 1
  · rw [if_pos hon, if_neg (fun q => hon q.1)]
  have hmo : moS f a = nI (mOn f a) := by unfold moS; rw [if_pos hon]
  rw [if_neg (by simpa using hon), hmo, div3 _ (by omega)]
  simp only [nI_eq_lit (a := mOn f a / 3) (b := t) (by omega) (by have := h.1; omega)]
  by_cases hsd : mOn f a / 3 = t
  rotate_left 1
  · rw [if_neg hsd, if_neg (fun q => hsd q.2)]
  have hat := mOn_at hon
  rw [if_pos hsd, if_pos (show mOn f a < 6 ∧ mOn f a / 3 = t from ⟨hon, hsd⟩), Option.bind_some, whyNot_m hL h hon (by omega) hc]
  rfl
theorem whyS_cases (b g o : Nat) (f : Nat → Nat) (m c : Nat) : whyS b g o f m c = -6 ∨ whyS b g o f m c = 3 ∨ whyS b g o f m c = 4 ∨ whyS b g o f m c = 5 ∨ whyS b g o f m c = 6 := by
  unfold whyS
  repeat' split
  all_goals simp
/-- the game from move i on: what it leads to, or the first bad move and why -/
theorem game_loop {b g o k : Nat} {P : Nat → Nat} {ps pm : Int32} {sg pd : Nat → Int32} (hL : Lw b g o) (hp : PadR k P ps sg pm pd) (hg : gmOK k P) : ∀ (n i : Nat) (f : Nat → Nat) (t : Nat) (jb jr mb mw : Int32), Wf f t → 4 * i ≤ k → k / 4 - i < n → (∃ f2 t2, Wf f2 t2 ∧ f_X2_passes_L8 (nI b) (nI g) (nI o) ps sg n (nI i) jb jr (enc f t) = some (1, jb, jr, enc f2 t2) ∧ f_X10_goGame_L22 (nI b) (nI g) (nI o) pm pd n (nI i) mb mw (enc f t) = some (1, enc f2 t2, mb, mw)) ∨ (∃ f2 t2 j w, Wf f2 t2 ∧ f_X2_passes_L8 (nI b) (nI g) (nI o) ps sg n (nI i) jb jr (enc f t) = some (0, nI j, w, enc f2 t2) ∧ f_X10_goGame_L22 (nI b) (nI g) (nI o) pm pd n (nI i) mb mw (enc f t) = some (0, enc f2 t2, nI j, w)) := by
  obtain ⟨hk, e1, e2, hP⟩ := id hp
  intro n
  induction n with
  | zero => intro i f t jb jr mb mw _ _ hn; omega
  | succ n ih =>
    intro i f t jb jr mb mw h hi hn
    rw [f_X2_passes_L8, f_X10_goGame_L22]
    unfold f_X3_countMoves
    rw [e1, e2, (rem_t k (by omega)).2.2, (four_m i (by omega)).1]
    by_cases hend : 4 * i = k
    · rw [if_pos (nI_le (by omega) (by omega)), if_pos (nI_le (by omega) (by omega))]
      exact Or.inl ⟨f, t, h, rfl, rfl⟩
    · have hg4 := hg.1
      have h4 : 4 * i + 3 < k := by omega
      obtain ⟨q1, q2, q3, q4⟩ := fromAt_cm hp hg h4
      rw [e1] at q1 q3
      obtain ⟨-, -, ha⟩ := cG_lt hg (p := 4 * i) (by omega) (by omega)
      obtain ⟨-, -, hc⟩ := cG_lt hg (p := 4 * i + 2) (by omega) (by omega)
      generalize cG P (4 * i) = a at *
      generalize cG P (4 * i + 2) = c at *
      rw [if_neg (nI_ge (by omega) (by omega)), if_neg (show ¬ (12 : Int32) ≤ nI i from nI_ge (b := 12) (by omega) (by omega)), if_neg (nI_ge (by omega) (by omega)), q1, q3, Option.bind_some, Option.bind_some, whyNot_c hL h ha hc, whyAt_m hL h ha hc q2 q4, Option.bind_some, Option.bind_some, q2, q4]
      simp only [Option.bind_some]
      rw [manOn_c h.dig (by omega), manOn_m h.dig (by omega), Option.bind_some, Option.bind_some]
      unfold wC wM
      by_cases h0 : brS b g o f t = 0
      rotate_left 1
      · rw [if_neg h0, if_neg h0, if_neg (by decide), if_neg (by decide)]
        exact Or.inr ⟨f, t, i, 1, h, rfl, rfl⟩
      rw [if_pos h0, if_pos h0]
      by_cases hm : mOn f a < 6 ∧ mOn f a / 3 = t
      rotate_left 1
      · rw [if_neg hm, if_neg hm, if_neg (by decide), if_neg (by decide)]
        exact Or.inr ⟨f, t, i, 2, h, rfl, rfl⟩
      rw [if_pos hm, if_pos hm]
      have hat := mOn_at hm.1
      by_cases hw : whyS b g o f (mOn f a) c = -6
      · rw [if_pos hw, if_pos rfl, hw, if_pos (by decide)]
        have hcan := (why_can h hm.1 (by omega) hc).mp hw
        have hcf := can_facts hL h hm.1 hc hcan
        have hmo : moS f a = nI (mOn f a) := by unfold moS; rw [if_pos hm.1]
        rw [hmo, code_or _ hm.1 c (by omega), after_c hL h hm.1 hc hcan, gone_m hL h hm.1 hc hcan, Option.bind_some, Option.bind_some]
        unfold jlet
        dsimp only
        rw [nI_1]
        have := ih (i + 1) _ _ jb jr mb mw (ch_wf h hm.1 hc hcf.2.1) (by omega) (by omega)
        rwa [e1, e2] at this
      · rw [if_neg hw]
        have hcs := whyS_cases b g o f (mOn f a) c
        have hnz : ¬ whyS b g o f (mOn f a) c = 0 := by
          rcases hcs with e | e | e | e | e <;> rw [e] <;> decide
        have hnn : ¬ whyS b g o f (mOn f a) c < 0 := by
          rcases hcs with e | e | e | e | e
          · exact absurd e hw
          all_goals rw [e]; decide
        rw [if_neg hnz, if_neg hnn]
        exact Or.inr ⟨f, t, i, _, h, rfl, rfl⟩
