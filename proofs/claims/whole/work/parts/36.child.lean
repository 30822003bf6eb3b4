/-! the reference's list of moves; the stand behind a move -/
theorem mvs_mem {b g o : Nat} {f : Nat → Nat} {t m c : Nat} (ht : t < 2) (h : (m, c) ∈ mvs b g o f t) : m < 6 ∧ m / 3 = t ∧ c < 25 ∧ canS b g o f m c = true ∧ f 0 % 32 ≠ 31 ∧ f 3 % 32 ≠ 31 := by
  unfold mvs at h
  split at h
  · cases h
  · rename_i hf
    have hf0 : f 0 % 32 ≠ 31 := fun e => hf (Or.inl e)
    have hf3 : f 3 % 32 ≠ 31 := fun e => hf (Or.inr e)
    unfold mv3 tgL at h
    simp only [List.mem_append, List.mem_map, List.mem_filter, List.mem_range, Prod.mk.injEq] at h
    rcases h with ⟨x, ⟨h1, h2⟩, h3, h4⟩ | ⟨x, ⟨h1, h2⟩, h3, h4⟩ | ⟨x, ⟨h1, h2⟩, h3, h4⟩ <;> subst h3 <;> subst h4 <;> exact ⟨by omega, by omega, h1, h2, hf0, hf3⟩
theorem tgL_nil {b g o : Nat} {f : Nat → Nat} {m : Nat} : tgL b g o f m = [] ↔ mvM b g o f m = false := by
  unfold tgL
  rw [List.filter_eq_nil_iff]
  constructor
  · intro h
    cases h2 : mvM b g o f m with
    | false => rfl
    | true =>
      obtain ⟨x, hx, hc⟩ := mvM_iff.mp h2
      exact absurd hc (h x (List.mem_range.mpr hx))
  · intro h c hc hcan
    rw [mvM_iff.mpr ⟨c, List.mem_range.mp hc, hcan⟩] at h
    cases h
theorem mvs_nil {b g o : Nat} {f : Nat → Nat} {t : Nat} : mvs b g o f t = [] ↔ brS b g o f t ≠ 0 := by
  unfold mvs brS
  by_cases h0 : f 0 % 32 = 31
  · simp [h0]
  by_cases h3 : f 3 % 32 = 31
  · simp [h0, h3]
  rw [if_neg (by rintro (e | e); exact h0 e; exact h3 e), if_neg h0, if_neg h3]
  have e : mv3 b g o f t = [] ↔ sdM b g o f t = false := by
    unfold mv3 sdM
    simp only [List.append_eq_nil_iff, List.map_eq_nil_iff, tgL_nil]
    cases mvM b g o f (3 * t) <;> cases mvM b g o f (3 * t + 1) <;> cases mvM b g o f (3 * t + 2) <;> simp
  rw [e]
  cases sdM b g o f t
  · simp only [Bool.false_eq_true, if_false, true_iff]
    split <;> omega
  · simp
abbrev fmT : Type := Int32 → Int32 → (Nat → Int32) → (Nat → Int32) → Option (Int32 × (Nat → Int32) × (Nat → Int32))
theorem find_in {b g o : Nat} {f : Nat → Nat} {t m : Nat} (hL : Lw b g o) (h : Wf f t) (hm : m < 6) {k : fmT} : ∀ (n c cnt : Nat) (A B : Nat → Int32), c ≤ 25 → 25 - c < n → cnt + (25 - c) ≤ 75 → f_X10_findMoves_L35 k (nI b) (nI g) (nI o) (enc f t) (nI m) n (nI c) (nI cnt) A B = k (nI (m + 1)) (nI (cnt + ((List.range' c (25 - c)).filter (canS b g o f m)).length)) (wrL A cnt (((List.range' c (25 - c)).filter (canS b g o f m)).map (fun _ => nI m))) (wrL B cnt (((List.range' c (25 - c)).filter (canS b g o f m)).map nI)) := by
  intro n
  induction n with
  | zero => intro c cnt A B _ hn; omega
  | succ n ih =>
    intro c cnt A B hc hn hcnt
    rw [f_X10_findMoves_L35]
    by_cases h1 : c = 25
    · subst h1
      rw [if_pos (show (25 : Int32) ≤ nI 25 from nI_le (a := 25) (b := 25) (by omega) (by omega))]
      unfold jlet
      rw [nI_1]
      rfl
    · rw [if_neg (show ¬ (25 : Int32) ≤ nI c from nI_ge (b := 25) (by omega) (by omega)), canGo_m hL h hm (by omega), Option.bind_some, show 25 - c = (25 - (c + 1)) + 1 by omega, List.range'_succ, List.filter_cons]
      cases hcan : canS b g o f m c
      · rw [if_pos (by rfl)]
        unfold f_X10_findMoves_B86 jlet
        dsimp only
        rw [nI_1, ih (c + 1) cnt A B (by omega) (by omega) (by omega)]
        simp
      · rw [if_neg (by decide)]
        have hin : ¬ (nI cnt < 0 ∨ 75 ≤ (nI cnt).toNatClampNeg) := nI_in (by omega) (by omega)
        unfold f_X10_findMoves_B86 jlet
        dsimp only
        rw [if_neg hin, if_neg hin, nI_clamp (by omega), nI_1, nI_1, ih (c + 1) (cnt + 1) _ _ (by omega) (by omega) (by omega)]
        simp only [if_true, List.length_cons, List.map_cons]
        rw [show cnt + 1 + ((List.range' (c + 1) (25 - (c + 1))).filter (canS b g o f m)).length = cnt + (((List.range' (c + 1) (25 - (c + 1))).filter (canS b g o f m)).length + 1) by omega]
        rfl
theorem findMoves_m {b g o : Nat} {f : Nat → Nat} {t : Nat} {A B : Nat → Int32} (hL : Lw b g o) (h : Wf f t) : f_X10_findMoves (nI b) (nI g) (nI o) A B (enc f t) = some (nI (mvs b g o f t).length, wrL A 0 ((mvs b g o f t).map (fun q => nI q.1)), wrL B 0 ((mvs b g o f t).map (fun q => nI q.2))) := by
  have ht := h.1
  unfold f_X10_findMoves
  rw [broughtBy_m hL h, Option.bind_some]
  have hb3 : brS b g o f t ≤ 3 := by unfold brS; repeat' split <;> try omega
  simp only [show (nI (brS b g o f t) = 0) = (brS b g o f t = 0) from nI_eq_lit (b := 0) (by omega) (by omega)]
  by_cases h0 : brS b g o f t = 0
  · rw [if_pos h0]
    have hne : ¬ (f 0 % 32 = 31 ∨ f 3 % 32 = 31) := by
      intro e
      have : mvs b g o f t = [] := by unfold mvs; rw [if_pos e]
      exact (mvs_nil.mp this) h0
    have hm : mvs b g o f t = mv3 b g o f t := by unfold mvs; rw [if_neg hne]
    rw [hm]
    unfold jlet
    dsimp only
    rw [turnOf_m h.dig, (three_s t ht).1]
    have h80 := tgL_len (b := b) (g := g) (o := o) h (m := 3 * t) (by omega)
    have h81 := tgL_len (b := b) (g := g) (o := o) h (m := 3 * t + 1) (by omega)
    have st : ∀ n i cnt A B, i < 3 → cnt ≤ 50 → f_X10_findMoves_L24 (nI b) (nI g) (nI o) (enc f t) (nI (3 * t)) (n + 1) (nI (3 * t + i)) (nI cnt) A B = f_X10_findMoves_L24 (nI b) (nI g) (nI o) (enc f t) (nI (3 * t)) n (nI (3 * t + (i + 1))) (nI (cnt + (tgL b g o f (3 * t + i)).length)) (wrL A cnt ((tgL b g o f (3 * t + i)).map (fun _ => nI (3 * t + i)))) (wrL B cnt ((tgL b g o f (3 * t + i)).map nI)) := by
      intro n i cnt A B hi hcnt
      rw [f_X10_findMoves_L24, show nI (3 * t) + 3 = nI (3 * t + 3) from nI_add (3 * t) 3, if_neg (nI_ge (by omega) (by omega)), show (0 : Int32) = nI 0 from rfl, find_in hL h (m := 3 * t + i) (by omega) 100 0 cnt A B (by omega) (by omega) (by omega)]
      unfold tgL
      rw [List.range_eq_range']
      rfl
    have fin : ∀ n cnt A B, f_X10_findMoves_L24 (nI b) (nI g) (nI o) (enc f t) (nI (3 * t)) (n + 1) (nI (3 * t + 3)) (nI cnt) A B = some (nI cnt, A, B) := by
      intro n cnt A B
      rw [f_X10_findMoves_L24, show nI (3 * t) + 3 = nI (3 * t + 3) from nI_add (3 * t) 3, if_pos (nI_le (by omega) (by omega))]
    show f_X10_findMoves_L24 (nI b) (nI g) (nI o) (enc f t) (nI (3 * t)) (99 + 1) (nI (3 * t + 0)) (nI 0) A B = _
    rw [st 99 0 0 A B (by omega) (by omega), st 98 1 _ _ _ (by omega) (by rw [show 3 * t + 0 = 3 * t by omega]; omega), st 97 2 _ _ _ (by omega) (by rw [show 3 * t + 0 = 3 * t by omega]; omega), fin 96]
    unfold mv3
    simp only [List.length_append, List.length_map, List.map_append, List.map_map, Nat.add_zero, Nat.zero_add, wrL_app]
    have ec : ∀ m, ((fun q : Nat × Nat => nI q.1) ∘ fun c => (m, c)) = (fun _ => nI m) := fun m => rfl
    have ed : ∀ m, ((fun q : Nat × Nat => nI q.2) ∘ fun c => (m, c)) = nI := fun m => rfl
    simp only [ec, ed, Nat.add_assoc]
  · rw [if_neg h0, mvs_nil.mpr h0]; rfl
/-- the stand behind a move of man m to c -/
def chF (f : Nat → Nat) (m c : Nat) : Nat → Nat := fun j => if j = m then c + 32 * (f m / 32 + 1) else if f j % 32 = c then 31 else f j
theorem can_facts {b g o : Nat} {f : Nat → Nat} {t m c : Nat} (hL : Lw b g o) (h : Wf f t) (hm : m < 6) (hc : c < 25) (hcan : canS b g o f m c = true) : f m % 32 < 25 ∧ f m / 32 ≤ 8 ∧ ownAt f (m / 3) c = false ∧ f m ≠ 31 := by
  unfold canS at hcan
  simp only [Bool.and_eq_true, decide_eq_true_eq, Bool.not_eq_true'] at hcan
  obtain ⟨⟨hu, hg⟩, how⟩ := hcan
  have hcl := h.cell hm hu
  refine ⟨hcl.1, ?_, how, fun e => hu (by rw [e])⟩
  obtain ⟨h1, h2, h3⟩ := hL
  by_cases h9 : f m / 32 ≤ 8
  · exact h9
  · exfalso
    have hk : kd b g o (f m / 32) = 3 := by
      unfold kd
      rw [if_neg (by omega), if_neg (by omega), if_neg (by omega)]
    unfold geoOK at hg
    rw [hk] at hg
    simp at hg
theorem own_false {f : Nat → Nat} {s c : Nat} (h : ownAt f s c = false) : ∀ i, i < 3 → f (3 * s + i) % 32 ≠ c := by
  unfold ownAt at h
  simp only [Bool.or_eq_false_iff, decide_eq_false_iff_not] at h
  intro i hi
  have : i = 0 ∨ i = 1 ∨ i = 2 := by omega
  rcases this with rfl | rfl | rfl
  · exact h.1.1
  · exact h.1.2
  · exact h.2
theorem ch_wf {f : Nat → Nat} {t m c : Nat} (h : Wf f t) (hm : m < 6) (hc : c < 25) (ha : f m / 32 ≤ 8) : Wf (chF f m c) (1 - t) := by
  refine ⟨by have := h.1; omega, fun j hj => ?_, fun j hj k hk hne he => ?_⟩
  · unfold chF
    split
    · right; omega
    · split
      · left; rfl
      · exact h.2.1 j hj
  · unfold chF at hne he
    by_cases e1 : j = m
    · rw [if_pos e1] at he
      by_cases e2 : k = m
      · omega
      · rw [if_neg e2] at he
        split at he <;> omega
    · rw [if_neg e1] at he hne
      by_cases e3 : f j % 32 = c
      · rw [if_pos e3] at hne; exact absurd rfl hne
      · rw [if_neg e3] at he hne
        have hj2 := h.2.1 j hj
        by_cases e2 : k = m
        · rw [if_pos e2] at he; omega
        · rw [if_neg e2] at he
          split at he
          · omega
          · exact h.2.2 j hj k hk hne he
theorem gone_m {b g o : Nat} {f : Nat → Nat} {t m c : Nat} (hL : Lw b g o) (h : Wf f t) (hm : m < 6) (hc : c < 25) (hcan : canS b g o f m c = true) : f_X10_gone (enc f t) (nI m) (nI c) = some (enc (chF f m c) (1 - t)) := by
  obtain ⟨h1, h2, h3, h4⟩ := can_facts hL h hm hc hcan
  have hd := h.dig
  unfold f_X10_gone
  rw [manOn_m hd (by omega), Option.bind_some]
  simp only [moS_neg]
  have B : ∀ (f2 : Nat → Nat), Dig f2 t → f_X10_gone_B25 (enc f t) (nI m) (nI c) (enc f2 t) = some (enc (updN f2 m (c + 32 * (f m / 32 + 1))) (1 - t)) := by
    intro f2 hf2
    unfold f_X10_gone_B25 f_X10_gone_B54 jlet
    dsimp only
    rw [ageOf_m hd hm, if_neg (show ¬ (9 : Int32) ≤ nI (f m / 32) from nI_ge (b := 9) (by omega) (by omega)), nI_1, putE_m hf2 hm (by omega) (by omega), enc_flip (hf2.upd (by omega))]
  by_cases hon : mOn f c < 6
  · rw [if_neg (by simpa using hon)]
    have hmo : moS f c = nI (mOn f c) := by unfold moS; rw [if_pos hon]
    rw [hmo, show (31 : Int32) = nI 31 from rfl, show (0 : Int32) = nI 0 from rfl, putE_m hd hon (by omega) (by omega), B _ (hd.upd (by omega))]
    congr 1
    apply enc_congr
    intro j hj
    unfold updN chF
    by_cases e1 : j = m
    · rw [if_pos e1, if_pos e1]
    · rw [if_neg e1, if_neg e1]
      by_cases e2 : j = mOn f c
      · rw [if_pos e2, if_pos (by rw [e2]; exact mOn_at hon)]
      · rw [if_neg e2, if_neg (fun e3 => e2 (mOn_eq h (by omega) hj e3).symm)]
  · rw [if_pos hon, B _ hd]
    congr 1
    apply enc_congr
    intro j hj
    unfold updN chF
    by_cases e1 : j = m
    · rw [if_pos e1, if_pos e1]
    · rw [if_neg e1, if_neg e1, if_neg (mOn_none hon j hj)]
theorem cod_dec : ∀ m, m < 6 → ∀ c, c < 32 → jshr (code1 m c) 5 = nI m ∧ code1 m c &&& 31 = nI c := by decide +kernel
theorem after_c {b g o : Nat} {f : Nat → Nat} {t m c : Nat} (hL : Lw b g o) (h : Wf f t) (hm : m < 6) (hc : c < 25) (hcan : canS b g o f m c = true) : f_X8_after (enc f t) (code1 m c) = some (enc (chF f m c) (1 - t)) := by
  obtain ⟨h1, h2, h3, h4⟩ := can_facts hL h hm hc hcan
  have hd := h.dig
  have ht : 1 - t < 2 := by omega
  unfold f_X8_after
  rw [(cod_dec m hm c (by omega)).1, (cod_dec m hm c (by omega)).2]
  unfold jlet
  dsimp only
  rw [ageOf_c hd hm]
  have loop : ∀ s2, s2 < 2 → ∀ n i (f2 : Nat → Nat), i < 3 → Dig f2 (1 - t) → f_X8_after_L62 (nI c) (nI (3 * s2)) (n + 1) (enc f2 (1 - t)) (nI (3 * s2 + i)) = f_X8_after_L62 (nI c) (nI (3 * s2)) n (enc (if f2 (3 * s2 + i) % 32 = c then updN f2 (3 * s2 + i) 31 else f2) (1 - t)) (nI (3 * s2 + (i + 1))) := by
    intro s2 hs2 n i f2 hi hf2
    rw [f_X8_after_L62, show nI (3 * s2) + 3 = nI (3 * s2 + 3) from nI_add (3 * s2) 3, if_neg (nI_ge (by omega) (by omega)), cellOf_c hf2 (by omega)]
    simp only [nI_eq_lit (a := f2 (3 * s2 + i) % 32) (b := c) (by omega) (by omega)]
    unfold f_X8_after_B95 jlet
    dsimp only
    rw [nI_1]
    by_cases e : f2 (3 * s2 + i) % 32 = c
    · rw [if_pos e, if_pos e, show (31 : Int32) = nI 31 from rfl, show (0 : Int32) = nI 0 from rfl, putE hf2 (by omega) (by omega) (by omega)]
      rfl
    · rw [if_neg e, if_neg e]
      rfl
  have fin : ∀ s2, s2 < 2 → ∀ n x, f_X8_after_L62 (nI c) (nI (3 * s2)) (n + 1) x (nI (3 * s2 + 3)) = some x := by
    intro s2 hs2 n x
    rw [f_X8_after_L62, show nI (3 * s2) + 3 = nI (3 * s2 + 3) from nI_add (3 * s2) 3, if_pos (nI_le (by omega) (by omega))]
  have main : ∀ s2, s2 < 2 → m / 3 = 1 - s2 → f_X8_after_B27 (enc f t) (nI m) (nI c) (nI (f m / 32)) (nI (3 * s2)) = some (enc (chF f m c) (1 - t)) := by
    intro s2 hs2 hms
    unfold f_X8_after_B27
    rw [if_neg (show ¬ (9 : Int32) ≤ nI (f m / 32) from nI_ge (b := 9) (by omega) (by omega)), nI_1]
    unfold f_X8_after_B49 jlet
    dsimp only
    rw [putE hd hm (by omega) (by omega), enc_flip (hd.upd (by omega))]
    have d0 : Dig (updN f m (c + 32 * (f m / 32 + 1))) (1 - t) := ⟨ht, (hd.upd (t := t) (m := m) (v := c + 32 * (f m / 32 + 1)) (by omega)).2⟩
    have dif : ∀ (f2 : Nat → Nat) k, Dig f2 (1 - t) → Dig (if f2 k % 32 = c then updN f2 k 31 else f2) (1 - t) := fun f2 k hf2 => by
      split
      · exact hf2.upd (by omega)
      · exact hf2
    show f_X8_after_L62 (nI c) (nI (3 * s2)) (99 + 1) _ (nI (3 * s2 + 0)) = _
    rw [loop s2 hs2 99 0 _ (by omega) d0, loop s2 hs2 98 1 _ (by omega) (dif _ _ d0), loop s2 hs2 97 2 _ (by omega) (dif _ _ (dif _ _ d0)), fin s2 hs2 96]
    congr 1
    apply enc_congr
    intro j hj
    have hown := own_false h3
    have hup : ∀ (f2 : Nat → Nat) k x, (if f2 k % 32 = c then updN f2 k 31 else f2) x = if x = k ∧ f2 k % 32 = c then 31 else f2 x := by
      intro f2 k x
      by_cases e : f2 k % 32 = c
      · rw [if_pos e]; unfold updN
        by_cases e2 : x = k
        · rw [if_pos e2, if_pos ⟨e2, e⟩]
        · rw [if_neg e2, if_neg (fun q => e2 q.1)]
      · rw [if_neg e, if_neg (fun q => e q.2)]
    have n0 : 3 * s2 + 0 ≠ m := by omega
    have n1 : 3 * s2 + 1 ≠ m := by omega
    have n2 : 3 * s2 + 2 ≠ m := by omega
    generalize hg0 : updN f m (c + 32 * (f m / 32 + 1)) = g0
    have p0 : ∀ x, g0 x = if x = m then c + 32 * (f m / 32 + 1) else f x := fun x => by rw [← hg0]; rfl
    generalize hg1 : (if g0 (3 * s2 + 0) % 32 = c then updN g0 (3 * s2 + 0) 31 else g0) = g1
    have p1 : ∀ x, g1 x = if x = 3 * s2 + 0 ∧ f (3 * s2 + 0) % 32 = c then 31 else g0 x := fun x => by
      rw [← hg1, hup g0 (3 * s2 + 0) x, p0 (3 * s2 + 0), if_neg n0]
    generalize hg2 : (if g1 (3 * s2 + 1) % 32 = c then updN g1 (3 * s2 + 1) 31 else g1) = g2
    have v1 : g1 (3 * s2 + 1) = f (3 * s2 + 1) := by rw [p1, if_neg (by rintro ⟨q, -⟩; omega), p0, if_neg n1]
    have p2 : ∀ x, g2 x = if x = 3 * s2 + 1 ∧ f (3 * s2 + 1) % 32 = c then 31 else g1 x := fun x => by
      rw [← hg2, hup g1 (3 * s2 + 1) x, v1]
    have v2 : g2 (3 * s2 + 2) = f (3 * s2 + 2) := by rw [p2, if_neg (by rintro ⟨q, -⟩; omega), p1, if_neg (by rintro ⟨q, -⟩; omega), p0, if_neg n2]
    rw [hup g2 (3 * s2 + 2) j, v2, p2, p1, p0]
    unfold chF
    by_cases e1 : j = m
    · rw [if_neg (by rintro ⟨q, -⟩; omega), if_neg (by rintro ⟨q, -⟩; omega), if_neg (by rintro ⟨q, -⟩; omega), if_pos e1, if_pos e1]
    · rw [if_neg e1, if_neg e1]
      by_cases hside : j / 3 = s2
      · have : j = 3 * s2 + 0 ∨ j = 3 * s2 + 1 ∨ j = 3 * s2 + 2 := by omega
        rcases this with rfl | rfl | rfl
        · rw [if_neg (by rintro ⟨q, -⟩; omega), if_neg (by rintro ⟨q, -⟩; omega)]
          by_cases e : f (3 * s2 + 0) % 32 = c
          · rw [if_pos ⟨rfl, e⟩, if_pos e]
          · rw [if_neg (fun q => e q.2), if_neg e]
        · rw [if_neg (by rintro ⟨q, -⟩; omega)]
          by_cases e : f (3 * s2 + 1) % 32 = c
          · rw [if_pos ⟨rfl, e⟩, if_pos e]
          · rw [if_neg (fun q => e q.2), if_neg (by rintro ⟨q, -⟩; omega), if_neg e]
        · by_cases e : f (3 * s2 + 2) % 32 = c
          · rw [if_pos ⟨rfl, e⟩, if_pos e]
          · rw [if_neg (fun q => e q.2), if_neg (by rintro ⟨q, -⟩; omega), if_neg (by rintro ⟨q, -⟩; omega), if_neg e]
      · have hjm : j / 3 = m / 3 := by omega
        have hnc : f j % 32 ≠ c := by
          have := hown (j % 3) (by omega)
          rwa [show 3 * (m / 3) + j % 3 = j by omega] at this
        rw [if_neg hnc, if_neg (by rintro ⟨q, -⟩; omega), if_neg (by rintro ⟨q, -⟩; omega), if_neg (by rintro ⟨q, -⟩; omega)]
  by_cases h3m : 3 ≤ m
  · rw [if_pos (show (3 : Int32) ≤ nI m from nI_le (a := 3) h3m (by omega))]
    exact main 0 (by omega) (by omega)
  · rw [if_neg (show ¬ (3 : Int32) ≤ nI m from nI_ge (b := 3) (by omega) (by omega))]
    exact main 1 (by omega) (by omega)
