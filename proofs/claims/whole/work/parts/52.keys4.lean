def KeyI (qc : Int32) (qs : Int64) (ql qn : Int32) (qo : Nat → Int32) : Prop := ql = -1 ∨ ∃ b g o f t, Lw b g o ∧ Wf f t ∧ ql = nI (100 * b + 10 * g + o) ∧ qs = enc f t ∧ (qn = 1 ∨ qn = 2) ∧ qc = nI (keyL b g o f t (decide (qn = 2)) 0).length ∧ ∀ i (h : i < (keyL b g o f t (decide (qn = 2)) 0).length), qo i = cod (keyL b g o f t (decide (qn = 2)) 0)[i]
theorem code_c (b g o : Nat) : f_X5_code (nI b) (nI g) (nI o) = nI (100 * b + 10 * g + o) := by
  unfold f_X5_code
  rw [show (100 : Int32) = nI 100 from rfl, show (10 : Int32) = nI 10 from rfl, nI_mul, nI_mul, nI_add, nI_add]
theorem code_inj {b g o b' g' o' : Nat} (hL : Lw b g o) (hL' : Lw b' g' o') (h : nI (100 * b + 10 * g + o) = nI (100 * b' + 10 * g' + o')) : b = b' ∧ g = g' ∧ o = o' := by
  unfold Lw at hL hL'
  rw [nI_eq (by omega) (by omega)] at h
  omega
theorem code_m1 {b g o : Nat} (hL : Lw b g o) : ¬ (-1 : Int32) = nI (100 * b + 10 * g + o) := by
  unfold Lw at hL
  intro e
  have := nI_pos (n := 100 * b + 10 * g + o) (by omega)
  rw [← e] at this
  exact this (by decide)
theorem findB_c {b g o : Nat} {f : Nat → Nat} {t : Nat} (hL : Lw b g o) (h : Wf f t) (nn : Int32) (hnn : nn = 1 ∨ nn = 2) (qf qr qv qo : Nat → Int32) : ∃ qr2 qv2, f_X4_find_B30 qf qr qv qo (nI b) (nI g) (nI o) (enc f t) nn = some (nI (keyL b g o f t (decide (nn = 2)) 0).length, enc f t, nI (100 * b + 10 * g + o), nn, wrL qf 0 ((mvs b g o f t).map cod), qr2, qv2, wrL qo 0 ((keyL b g o f t (decide (nn = 2)) 0).map cod)) := by
  have ht := h.1
  have hlen := mvs_len (b := b) (g := g) (o := o) h
  have hx : f_X5_list (nI b) (nI g) (nI o) qf 24 (enc f t) 0 = some (nI (mvs b g o f t).length, wrL qf 0 ((mvs b g o f t).map cod)) := list_c (ra := qf) hL h (sa := 0) (rn := 24) (by omega) (by omega)
  have hw : f_X5_wonBy (f_X8_turnOf (enc f t)) = nI (t + 1) := by
    rw [turnOf_c h.dig]
    unfold f_X5_wonBy
    first | exact one_add t | (rw [show (1 : Int32) = nI 1 from rfl, nI_add])
  obtain ⟨qr2, qv2, hl⟩ := find_loop hL h nn hnn (enc f t) (nI (100 * b + 10 * g + o)) nn qf 100 0 0 qr qv qo (by omega) (by omega) (by omega)
  refine ⟨qr2, qv2, ?_⟩
  unfold f_X4_find_B30
  rw [code_c, hw, hx]
  unfold jlet
  dsimp only
  rw [Option.bind_some]
  dsimp only
  rw [Nat.zero_add] at hl
  exact hl
theorem find_c {b g o : Nat} {f : Nat → Nat} {t : Nat} (hL : Lw b g o) (h : Wf f t) (nn : Int32) (hnn : nn = 1 ∨ nn = 2) {qc : Int32} {qs : Int64} {ql qn : Int32} {qo : Nat → Int32} (hK : KeyI qc qs ql qn qo) (qf qr qv : Nat → Int32) : ∃ f' t' qf2 qr2 qv2 qo2, Wf f' t' ∧ enc f' t' = enc f t ∧ f_X4_find qc qs ql qn qf qr qv qo (nI b) (nI g) (nI o) (enc f t) nn = some (nI (keyL b g o f' t' (decide (nn = 2)) 0).length, enc f t, nI (100 * b + 10 * g + o), nn, qf2, qr2, qv2, qo2) ∧ ∀ i (h : i < (keyL b g o f' t' (decide (nn = 2)) 0).length), qo2 i = cod (keyL b g o f' t' (decide (nn = 2)) 0)[i] := by
  have hB : ∃ f' t' qf2 qr2 qv2 qo2, Wf f' t' ∧ enc f' t' = enc f t ∧ f_X4_find_B30 qf qr qv qo (nI b) (nI g) (nI o) (enc f t) nn = some (nI (keyL b g o f' t' (decide (nn = 2)) 0).length, enc f t, nI (100 * b + 10 * g + o), nn, qf2, qr2, qv2, qo2) ∧ ∀ i (h : i < (keyL b g o f' t' (decide (nn = 2)) 0).length), qo2 i = cod (keyL b g o f' t' (decide (nn = 2)) 0)[i] := by
    obtain ⟨qr2, qv2, hb⟩ := findB_c hL h nn hnn qf qr qv qo
    refine ⟨f, t, _, qr2, qv2, _, h, rfl, hb, ?_⟩
    intro i hi
    have := wrL_map (ra := qo) (g := cod) (p := 0) hi
    rwa [Nat.zero_add] at this
  unfold f_X4_find
  rw [code_c]
  rcases hK with hK | ⟨b', g', o', f', t', hL', hW', e1, e2, e3, e4, e5⟩
  · rw [hK, if_neg (code_m1 hL)]; exact hB
  by_cases c1 : ql = nI (100 * b + 10 * g + o)
  · rw [if_pos c1]
    by_cases c2 : lg_cmp qs (enc f t) = 0
    · rw [if_pos c2]
      by_cases c3 : qn = nn
      · rw [if_pos c3]
        have c4 := (lg_cmp_eq _ _).mp c2
        rw [e1] at c1
        obtain ⟨rfl, rfl, rfl⟩ := code_inj hL' hL c1
        subst c3
        refine ⟨f', t', qf, qr, qv, qo, hW', e2.symm.trans c4, ?_, e5⟩
        rw [e4, c4, e1]
      · rw [if_neg c3]; exact hB
    · rw [if_neg c2]; exact hB
  · rw [if_neg c1]; exact hB
theorem keyL_sub {b g o : Nat} {f : Nat → Nat} {t : Nat} {two : Bool} (z : Nat × Nat) (h : z ∈ keyL b g o f t two 0) : z ∈ mvs b g o f t := by
  unfold keyL at h
  rw [List.drop_zero] at h
  exact (List.mem_filter.mp h).1
theorem op_keys {b g o : Nat} {f : Nat → Nat} {t : Nat} (hL : Lw b g o) (h : Wf f t) {qc : Int32} {qs : Int64} {ql qn : Int32} {qo : Nat → Int32} (hK : KeyI qc qs ql qn qo) (qf qr qv : Nat → Int32) (nn ii : Int32) (my : Int32) (A B : Nat → Int32) (R FI : Nat → Int64) (FM : Nat → Int32) : ∃ r qc2 qs2 ql2 qn2 qf2 qr2 qv2 qo2 q, KeyI qc2 qs2 ql2 qn2 qo2 ∧ f_X9_keys (enc f t) qc qs ql qn qf qr qv qo (nI b) (nI g) (nI o) nn ii = some (r, qc2, qs2, ql2, qn2, qf2, qr2, qv2, qo2) ∧ f_X10_keys (enc f t) (nI b) (nI g) (nI o) my A B R FI FM nn ii = some (r, q) := by
  by_cases hnn : nn = 1 ∨ nn = 2
  · obtain ⟨f', t', qf2, qr2, qv2, qo2, hw, he, hf, hq⟩ := find_c hL h nn hnn hK qf qr qv
    obtain ⟨q, hm⟩ := keys_m hL hw nn ii hnn my A B R FI FM
    have hlen := mvs_len (b := b) (g := g) (o := o) hw
    have hkl := keyL_len (b := b) (g := g) (o := o) (f := f') (t := t') (two := decide (nn = 2)) (i := 0)
    rw [he] at hm
    refine ⟨ansR f' (keyL b g o f' t' (decide (nn = 2)) 0) 0 ii, nI (keyL b g o f' t' (decide (nn = 2)) 0).length, enc f t, nI (100 * b + 10 * g + o), nn, qf2, qr2, qv2, qo2, q, Or.inr ⟨b, g, o, f', t', hL, hw, rfl, he.symm, hnn, rfl, hq⟩, ?_, hm⟩
    have hX : f_X9_keys (enc f t) qc qs ql qn qf qr qv qo (nI b) (nI g) (nI o) nn ii = f_X9_keys_B13 (enc f t) qc qs ql qn qf qr qv qo (nI b) (nI g) (nI o) nn ii := by
      unfold f_X9_keys
      rcases hnn with e | e
      · rw [if_pos e]
      · rw [if_pos e, ite_self]
    rw [hX]
    unfold f_X9_keys_B13
    rw [hf, Option.bind_some]
    dsimp only
    by_cases h1 : ii = -1
    · rw [if_pos h1, h1, ansR_m1 _ _ _ (by omega), Nat.zero_add]
    rw [if_neg h1]
    rcases i32_cases ii with hneg | ⟨j, hj, rfl⟩
    · rw [if_pos hneg, ansR_neg _ h1 hneg _ _ (by omega)]
    rw [if_neg (nI_pos hj)]
    by_cases hjl : (keyL b g o f' t' (decide (nn = 2)) 0).length ≤ j
    · rw [if_pos (nI_le hjl hj), ansR_hi _ hj _ _ (by omega) (by omega)]
    · have hj2 : j < (keyL b g o f' t' (decide (nn = 2)) 0).length := by omega
      have hmem : (keyL b g o f' t' (decide (nn = 2)) 0)[j] ∈ mvs b g o f' t' := by
        exact keyL_sub _ (List.getElem_mem hj2)
      have hin : ∀ z, z ∈ mvs b g o f' t' → f_X8_asTold (enc f' t') (cod z) = told1 f' z := by
        rintro ⟨z1, z2⟩ hz
        have hz := mvs_mem hw.1 hz
        exact asTold_c hw.dig hz.1 (by omega)
      rw [if_neg (nI_ge hj2 (by omega)), if_pos (show nI j < 24 from nI_lt (b := 24) (by omega) (by omega)), if_neg (nI_in (by omega) (by omega)), nI_clamp (by omega), hq j hj2]
      have := ansR_at f' (keyL b g o f' t' (decide (nn = 2)) 0) 0 j hj2 (by omega)
      rw [Nat.zero_add] at this
      rw [this, ← he]
      rw [hin _ hmem]
  · have h1 : ¬ nn = 1 := fun e => hnn (Or.inl e)
    have h2 : ¬ nn = 2 := fun e => hnn (Or.inr e)
    refine ⟨-2, qc, qs, ql, qn, qf, qr, qv, qo, (my, A, B, R, FI, FM), hK, ?_, ?_⟩
    · unfold f_X9_keys
      rw [if_neg h1, if_neg h2]
    · unfold f_X10_keys
      have hin : f_X10_in nn.toInt64 1 2 = b2i (decide ((1 : Int32) ≤ nn) && decide (nn ≤ 2)) := in3 nn 1 2
      have hno : ¬ ((1 : Int32) ≤ nn ∧ nn ≤ 2) := by
        rintro ⟨a1, a2⟩
        rw [Int32.le_iff_toInt_le] at a1 a2
        have z1 : (1 : Int32).toInt = 1 := by decide
        have z2 : (2 : Int32).toInt = 2 := by decide
        rw [z1] at a1
        rw [z2] at a2
        have : nn.toInt = 1 ∨ nn.toInt = 2 := by omega
        rcases this with e | e
        · exact h1 (Int32.toInt_inj.mp (by rw [e, z1]))
        · exact h2 (Int32.toInt_inj.mp (by rw [e, z2]))
      rw [hin, and_ff hno, if_pos (show b2i false = (0 : Int32) from rfl)]
