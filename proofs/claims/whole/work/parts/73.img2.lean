/-! images: all that is kept; the calls image, restore, wipe -/
theorem img_loop2 {n : Nat} (hn : n < 2) (iw : Int32) (bd : Int64) (by_ gr ol gs : Int32) (gb : Nat → Int64) (gm rr : Nat → Int32) (kb : Nat → Int64) : ∀ N k (gv kp : Nat → Int32), k ≤ 96 → 96 - k < N → ∃ gv' kp', f_X10_passAll_L151 iw (nI n) N (nI k) bd by_ gr ol gs (nI (120 * n + 20 + k)) gb gm gv rr kb kp = some (pkL iw bd (kb (9 * n + 8)), by_, gr, ol, gs, nI (120 * n + 116), gb, gm, gv', rr, vp_updL kb (9 * n + 8) (pkL iw bd (kb (9 * n + 8))), kp') ∧ (∀ i, gv' i = if k ≤ i ∧ i < 96 then pk iw (gv i) (kp (120 * n + 20 + i)) else gv i) ∧ (∀ i, k ≤ i → i < 96 → kp' (120 * n + 20 + i) = pk iw (gv i) (kp (120 * n + 20 + i))) ∧ ∀ j, (j < 120 * n + 20 + k ∨ 120 * n + 116 ≤ j) → kp' j = kp j := by
  intro N
  induction N with
  | zero => intro k gv kp _ h; omega
  | succ N ih =>
    intro k gv kp hk hN
    rw [f_X10_passAll_L151]
    by_cases he : k = 96
    · subst he
      have n2 : ¬ (nI (9 * n + 8) < 0 ∨ 18 ≤ 9 * n + 8) := by have := notin (i := 9 * n + 8) (n := 18) (by omega) (by omega); rw [nI_clamp (by omega)] at this; exact this
      have e9 : (9 : Int32) * nI n + 8 = nI (9 * n + 8) := by rw [show (9 : Int32) = nI 9 from rfl, show (8 : Int32) = nI 8 from rfl, nI_mul, nI_add]
      have hB : ∀ t2 : Int64, f_X10_passAll_B212 by_ gr ol gs (nI (120 * n + 20 + 96)) gb gm gv rr kb kp (nI (9 * n + 8)) t2 = some (t2, by_, gr, ol, gs, nI (120 * n + 116), gb, gm, gv, rr, vp_updL kb (9 * n + 8) t2, kp) := by
        intro t2
        rw [f_X10_passAll_B212, nI_clamp (show 9 * n + 8 < 2 ^ 31 by omega), if_neg n2, jle, if_neg n2, jle, updL_at, if_pos rfl]
      refine ⟨gv, kp, ?_, fun i => by rw [if_neg (by omega)], fun i h1 h2 => absurd h2 (by omega), fun _ _ => rfl⟩
      rw [if_pos (show (96 : Int32) ≤ nI 96 by decide), e9, jle, nI_clamp (show 9 * n + 8 < 2 ^ 31 by omega), if_neg n2, hB, hB]
      unfold pkL
      by_cases h : iw = 0
      · rw [if_pos h, if_pos h]
      · rw [if_neg h, if_neg h]
    · have n1 : ¬ (nI k < 0 ∨ 96 ≤ k) := by have := notin (i := k) (n := 96) (by omega) (by omega); rw [nI_clamp (by omega)] at this; exact this
      rw [if_neg (show ¬ (96 : Int32) ≤ nI k from nI_ge (b := 96) (by omega) (by omega)), nI_clamp (show k < 2 ^ 31 by omega), if_neg n1, pass_m (by omega), Option.bind_some, if_neg n1, jle, jle, nI_1]
      dsimp only
      obtain ⟨gv', kp', h1, h2, h3, h4⟩ := ih (k + 1) (upd gv k (pk iw (gv k) (kp (120 * n + 20 + k)))) (upd kp (120 * n + 20 + k) (pk iw (gv k) (kp (120 * n + 20 + k)))) (by omega) (by omega)
      refine ⟨gv', kp', ?_, fun i => ?_, fun i hi1 hi2 => ?_, fun j hj => ?_⟩
      · rw [← h1, show 120 * n + 20 + (k + 1) = 120 * n + 20 + k + 1 by omega]
      · rw [h2 i]
        by_cases e : i = k
        · subst e
          rw [if_neg (by omega), if_pos (by omega), updI_at, if_pos rfl]
        · by_cases c : k + 1 ≤ i ∧ i < 96
          · rw [if_pos c, if_pos (by omega), updI_at, if_neg e, updI_at, if_neg (by omega)]
          · rw [if_neg c, if_neg (by omega), updI_at, if_neg e]
      · by_cases e : i = k
        · subst e
          rw [h4 _ (by omega), updI_at, if_pos rfl]
        · rw [h3 i (by omega) hi2, updI_at, if_neg e, updI_at, if_neg (by omega)]
      · rw [h4 j (by omega), updI_at, if_neg (by omega)]
theorem passAll_m {n : Nat} (hn : n < 2) (iw : Int32) (bd : Int64) (by_ gr ol gs : Int32) (gb : Nat → Int64) (gm gv rr : Nat → Int32) (kb : Nat → Int64) (kp : Nat → Int32) : ∃ gb' gm' gv' rr' kb' kp', f_X10_passAll bd by_ gr ol gs iw gb gm gv rr kb kp (nI n) = some (pkL iw bd (kb (9 * n + 8)), pk iw by_ (kp (120 * n)), pk iw gr (kp (120 * n + 1)), pk iw ol (kp (120 * n + 2)), pk iw gs (kp (120 * n + 3)), nI (120 * n + 116), gb', gm', gv', rr', kb', kp') ∧ (∀ i, i < 8 → gm' i = pk iw (gm i) (kp (120 * n + 4 + 2 * i)) ∧ rr' i = pk iw (rr i) (kp (120 * n + 5 + 2 * i)) ∧ gb' i = pkL iw (gb i) (kb (9 * n + i))) ∧ (∀ i, i < 96 → gv' i = pk iw (gv i) (kp (120 * n + 20 + i))) ∧ (kp' (120 * n) = pk iw by_ (kp (120 * n)) ∧ kp' (120 * n + 1) = pk iw gr (kp (120 * n + 1)) ∧ kp' (120 * n + 2) = pk iw ol (kp (120 * n + 2)) ∧ kp' (120 * n + 3) = pk iw gs (kp (120 * n + 3))) ∧ (∀ i, i < 8 → kp' (120 * n + 4 + 2 * i) = pk iw (gm i) (kp (120 * n + 4 + 2 * i)) ∧ kp' (120 * n + 5 + 2 * i) = pk iw (rr i) (kp (120 * n + 5 + 2 * i)) ∧ kb' (9 * n + i) = pkL iw (gb i) (kb (9 * n + i))) ∧ (∀ i, i < 96 → kp' (120 * n + 20 + i) = pk iw (gv i) (kp (120 * n + 20 + i))) ∧ kb' (9 * n + 8) = pkL iw bd (kb (9 * n + 8)) ∧ (∀ j, (j < 120 * n ∨ 120 * n + 116 ≤ j) → kp' j = kp j) ∧ ∀ j, (j < 9 * n ∨ 9 * n + 9 ≤ j) → kb' j = kb j := by
  have e0 : (120 : Int32) * nI n = nI (120 * n) := by rw [show (120 : Int32) = nI 120 from rfl, nI_mul]
  obtain ⟨kp4, hkp4⟩ : ∃ k4, k4 = upd (upd (upd (upd kp (120 * n) (pk iw by_ (kp (120 * n)))) (120 * n + 1) (pk iw gr (kp (120 * n + 1)))) (120 * n + 2) (pk iw ol (kp (120 * n + 2)))) (120 * n + 3) (pk iw gs (kp (120 * n + 3))) := ⟨_, rfl⟩
  have a0 : kp4 (120 * n) = pk iw by_ (kp (120 * n)) := by rw [hkp4, updI_at, if_neg (by omega), updI_at, if_neg (by omega), updI_at, if_neg (by omega), updI_at, if_pos rfl]
  have a1 : kp4 (120 * n + 1) = pk iw gr (kp (120 * n + 1)) := by rw [hkp4, updI_at, if_neg (by omega), updI_at, if_neg (by omega), updI_at, if_pos rfl]
  have a2 : kp4 (120 * n + 2) = pk iw ol (kp (120 * n + 2)) := by rw [hkp4, updI_at, if_neg (by omega), updI_at, if_pos rfl]
  have a3 : kp4 (120 * n + 3) = pk iw gs (kp (120 * n + 3)) := by rw [hkp4, updI_at, if_pos rfl]
  have a4 : ∀ j, (j < 120 * n ∨ 120 * n + 4 ≤ j) → kp4 j = kp j := fun j hj => by rw [hkp4, updI_at, if_neg (by omega), updI_at, if_neg (by omega), updI_at, if_neg (by omega), updI_at, if_neg (by omega)]
  obtain ⟨gb', gm', rr', kb1, kp1, h1, h2, h3, h4, h5, h6, h7⟩ := img_loop1 hn iw bd (pk iw by_ (kp (120 * n))) (pk iw gr (kp (120 * n + 1))) (pk iw ol (kp (120 * n + 2))) (pk iw gs (kp (120 * n + 3))) gv 100 0 gb gm rr kb kp4 (by omega) (by omega)
  obtain ⟨gv', kp', q1, q2, q3, q4⟩ := img_loop2 hn iw bd (pk iw by_ (kp (120 * n))) (pk iw gr (kp (120 * n + 1))) (pk iw ol (kp (120 * n + 2))) (pk iw gs (kp (120 * n + 3))) gb' gm' rr' kb1 100 0 gv kp1 (by omega) (by omega)
  rw [show nI 0 = (0 : Int32) from rfl, show 120 * n + 4 + 2 * 0 = 120 * n + 4 by omega] at h1
  rw [show nI 0 = (0 : Int32) from rfl, show 120 * n + 20 + 0 = 120 * n + 20 by omega] at q1
  have k8 : kb1 (9 * n + 8) = kb (9 * n + 8) := h7 _ (by omega)
  refine ⟨gb', gm', gv', rr', vp_updL kb1 (9 * n + 8) (pkL iw bd (kb1 (9 * n + 8))), kp', ?_, fun i hi => ⟨?_, ?_, ?_⟩, fun i hi => ?_, ⟨?_, ?_, ?_, ?_⟩, fun i hi => ⟨?_, ?_, ?_⟩, fun i hi => ?_, ?_, fun j hj => ?_, fun j hj => ?_⟩
  · rw [f_X10_passAll, jle, e0, pass_m (by omega), Option.bind_some, jle]
    dsimp only
    rw [pass_m (by omega), Option.bind_some, jle]
    dsimp only
    rw [pass_m (by omega), Option.bind_some, jle]
    dsimp only
    rw [pass_m (by omega), Option.bind_some, jle]
    dsimp only
    rw [show 120 * n + 1 + 1 = 120 * n + 2 by omega, show 120 * n + 2 + 1 = 120 * n + 3 by omega, show 120 * n + 3 + 1 = 120 * n + 4 by omega]
    have b1 : upd kp (120 * n) (pk iw by_ (kp (120 * n))) (120 * n + 1) = kp (120 * n + 1) := by rw [updI_at, if_neg (by omega)]
    rw [b1]
    have b2 : upd (upd kp (120 * n) (pk iw by_ (kp (120 * n)))) (120 * n + 1) (pk iw gr (kp (120 * n + 1))) (120 * n + 2) = kp (120 * n + 2) := by rw [updI_at, if_neg (by omega), updI_at, if_neg (by omega)]
    rw [b2]
    have b3 : upd (upd (upd kp (120 * n) (pk iw by_ (kp (120 * n)))) (120 * n + 1) (pk iw gr (kp (120 * n + 1)))) (120 * n + 2) (pk iw ol (kp (120 * n + 2))) (120 * n + 3) = kp (120 * n + 3) := by rw [updI_at, if_neg (by omega), updI_at, if_neg (by omega), updI_at, if_neg (by omega)]
    rw [b3, ← hkp4, h1, q1, k8]
  · rw [h2 i, if_pos (by omega), a4 _ (by omega)]
  · rw [h3 i, if_pos (by omega), a4 _ (by omega)]
  · rw [h4 i, if_pos (by omega)]
  · rw [q2 i, if_pos (by omega), h6 _ (by omega), a4 _ (by omega)]
  · rw [q4 _ (by omega), h6 _ (by omega), a0]
  · rw [q4 _ (by omega), h6 _ (by omega), a1]
  · rw [q4 _ (by omega), h6 _ (by omega), a2]
  · rw [q4 _ (by omega), h6 _ (by omega), a3]
  · rw [q4 _ (by omega), (h5 i (by omega) hi).1, a4 _ (by omega)]
  · rw [q4 _ (by omega), (h5 i (by omega) hi).2.1, a4 _ (by omega)]
  · rw [updL_at, if_neg (by omega), (h5 i (by omega) hi).2.2]
  · rw [q3 i (by omega) hi, h6 _ (by omega), a4 _ (by omega)]
  · rw [updL_at, if_pos rfl, k8]
  · rw [q4 j (by omega), h6 j (by omega), a4 j (by omega)]
  · rw [updL_at, if_neg (by omega), h7 j (by omega)]
theorem BkR.congr {n : Nat} {bc : Int32} {bs : Nat → Int64} {bl br bp : Nat → Int32} {gs : Int32} {gb : Nat → Int64} {gm gv gr : Nat → Int32} {bs' : Nat → Int64} {bl' br' bp' : Nat → Int32} {gb' : Nat → Int64} {gm' gv' gr' : Nat → Int32} (h : BkR n bc bs bl br bp gs gb gm gv gr) (h1 : ∀ i, i < 8 → bs' i = bs i ∧ bl' i = bl i ∧ br' i = br i ∧ gb' i = gb i ∧ gm' i = gm i ∧ gr' i = gr i) (h2 : ∀ i, i < 96 → bp' i = bp i ∧ gv' i = gv i) : BkR n bc bs' bl' br' bp' gs gb' gm' gv' gr' := by
  obtain ⟨a1, a2, a3, a4, a5, a6, a7, a8, a9⟩ := h
  refine ⟨a1, a2, a3, fun i hi => ?_, fun i hi => ?_, fun i hi => ?_, fun i hi => ?_, fun i hi => ?_, fun i hi => ?_⟩
  · rw [(h1 i hi).1, (h1 i hi).2.2.2.1]; exact a4 i hi
  · rw [(h1 i hi).2.1, (h1 i hi).2.2.2.2.1]; exact a5 i hi
  · rw [(h1 i hi).2.2.1, (h1 i hi).2.2.2.2.2]; exact a6 i hi
  · rw [(h2 i hi).1, (h2 i hi).2]; exact a7 i hi
  · rw [(h1 i hi).2.1]; exact a8 i hi
  · rw [(h2 i hi).1]; exact a9 i hi
def ImR (n : Nat) (ikp : Int32) (ist : Int64) (ilw ic : Int32) (is : Nat → Int64) (il ir ip : Nat → Int32) (kb : Nat → Int64) (kp ik : Nat → Int32) : Prop :=
  (ikp = 0 ∧ ik n = 0) ∨ (ikp = 1 ∧ ik n = 1 ∧ ∃ b g o f t m, Lw b g o ∧ Wf f t ∧ ist = enc f t ∧ kb (9 * n + 8) = enc f t ∧ ilw = nI (100 * b + 10 * g + o) ∧ kp (120 * n) = nI b ∧ kp (120 * n + 1) = nI g ∧ kp (120 * n + 2) = nI o ∧ BkR m ic is il ir ip (kp (120 * n + 3)) (fun i => kb (9 * n + i)) (fun i => kp (120 * n + 4 + 2 * i)) (fun i => kp (120 * n + 20 + i)) (fun i => kp (120 * n + 5 + 2 * i)))
theorem ImR.keep {n : Nat} {ikp : Int32} {ist : Int64} {ilw ic : Int32} {is : Nat → Int64} {il ir ip : Nat → Int32} {kb kb' : Nat → Int64} {kp kp' ik ik' : Nat → Int32} (h : ImR n ikp ist ilw ic is il ir ip kb kp ik) (h1 : ∀ j, 120 * n ≤ j → j < 120 * n + 116 → kp' j = kp j) (h2 : ∀ j, 9 * n ≤ j → j < 9 * n + 9 → kb' j = kb j) (h3 : ik' n = ik n) : ImR n ikp ist ilw ic is il ir ip kb' kp' ik' := by
  rcases h with ⟨a1, a2⟩ | ⟨a1, a2, b, g, o, f, t, m, c1, c2, c3, c4, c5, c6, c7, c8, c9⟩
  · exact Or.inl ⟨a1, by rw [h3]; exact a2⟩
  · refine Or.inr ⟨a1, by rw [h3]; exact a2, b, g, o, f, t, m, c1, c2, c3, by rw [h2 _ (by omega) (by omega)]; exact c4, c5, by rw [h1 _ (by omega) (by omega)]; exact c6, by rw [h1 _ (by omega) (by omega)]; exact c7, by rw [h1 _ (by omega) (by omega)]; exact c8, ?_⟩
    rw [h1 (120 * n + 3) (by omega) (by omega)]
    exact c9.congr (fun i hi => ⟨rfl, rfl, rfl, h2 _ (by omega) (by omega), h1 _ (by omega) (by omega), h1 _ (by omega) (by omega)⟩) (fun i hi => ⟨rfl, h1 _ (by omega) (by omega)⟩)
theorem cpy_at {α : Type} (f g : Nat → α) {N i : Nat} (hi : i < N) : va_cpy f g 0 0 N i = f i := by
  unfold va_cpy
  rw [if_pos (by omega)]
  congr 1
  omega
theorem copy_c (bs : Nat → Int64) (bl br bp : Nat → Int32) (oc : Int32) (os : Nat → Int64) (ol or_ op : Nat → Int32) : f_X0_copyFrom bs bl br bp oc os ol or_ op = (oc, va_cpy os bs 0 0 8, va_cpy ol bl 0 0 8, va_cpy or_ br 0 0 8, va_cpy op bp 0 0 96) := rfl
theorem op_image {b g o : Nat} {f : Nat → Nat} {t : Nat} (hL : Lw b g o) (h : Wf f t) {m : Nat} {bc : Int32} {bs : Nat → Int64} {bl br bp : Nat → Int32} {gs : Int32} {gb : Nat → Int64} {gm gv gr : Nat → Int32} (hb : BkR m bc bs bl br bp gs gb gm gv gr) {n : Nat} (hn : n < 2) (ka iw : Int32) (kb : Nat → Int64) (kp ik : Nat → Int32) (is : Nat → Int64) (il ir ip : Nat → Int32) : ∃ ka' gb' gm' gv' gr' kb' kp', f_X10_image (enc f t) (nI b) (nI g) (nI o) gs ka iw gb gm gv gr kb kp ik (nI n) = some (1, enc f t, nI b, nI g, nI o, gs, ka', 1, gb', gm', gv', gr', kb', kp', upd ik n 1) ∧ BkR m bc bs bl br bp gs gb' gm' gv' gr' ∧ ImR n 1 (enc f t) (nI (100 * b + 10 * g + o)) bc (va_cpy bs is 0 0 8) (va_cpy bl il 0 0 8) (va_cpy br ir 0 0 8) (va_cpy bp ip 0 0 96) kb' kp' (upd ik n 1) ∧ (∀ j, (j < 120 * n ∨ 120 * n + 116 ≤ j) → kp' j = kp j) ∧ ∀ j, (j < 9 * n ∨ 9 * n + 9 ≤ j) → kb' j = kb j := by
  obtain ⟨gb', gm', gv', gr', kb', kp', p1, p2, p3, ⟨p40, p41, p42, p43⟩, p5, p6, p7, p8, p9⟩ := passAll_m hn 1 (enc f t) (nI b) (nI g) (nI o) gs gb gm gv gr kb kp
  have e1 : ∀ w k, pk 1 w k = w := fun w k => by unfold pk; rw [if_neg (by decide)]
  have e2 : ∀ w k, pkL 1 w k = w := fun w k => by unfold pkL; rw [if_neg (by decide)]
  simp only [e1, e2] at p1 p2 p3 p40 p41 p42 p43 p5 p6 p7
  have hin : f_X10_in (nI n).toInt64 0 1 = 1 := in_in (a := 0) (b := 1) (by omega) (by omega) (by omega)
  refine ⟨nI (120 * n + 116), gb', gm', gv', gr', kb', kp', ?_, ?_, ?_, p8, p9⟩
  · rw [f_X10_image, hin, if_neg (show ¬ (1 : Int32) = 0 by decide), p1, Option.bind_some, if_neg (notin hn (by omega)), jle, nI_clamp (by omega)]
    rfl
  · exact hb.congr (fun i hi => ⟨rfl, rfl, rfl, (p2 i hi).2.2, (p2 i hi).1, (p2 i hi).2.1⟩) (fun i hi => ⟨rfl, p3 i hi⟩)
  · refine Or.inr ⟨rfl, by rw [updI_at, if_pos rfl], b, g, o, f, t, m, hL, h, rfl, p7, rfl, p40, p41, p42, ?_⟩
    rw [p43]
    exact hb.congr (fun i hi => ⟨cpy_at _ _ hi, cpy_at _ _ hi, cpy_at _ _ hi, (p5 i hi).2.2, (p5 i hi).1, (p5 i hi).2.1⟩) (fun i hi => ⟨cpy_at _ _ hi, p6 i hi⟩)
theorem un_code : ∀ b, b < 10 → ∀ g, g < 10 → ∀ o, o < 10 → nI (100 * b + 10 * g + o) / 100 = nI b ∧ jrem (nI (100 * b + 10 * g + o) / 10) 10 = nI g ∧ jrem (nI (100 * b + 10 * g + o)) 10 = nI o := by decide +kernel
theorem op_restore {b g o : Nat} {f : Nat → Nat} {t : Nat} (hL : Lw b g o) (h : Wf f t) {m : Nat} {bc : Int32} {bs : Nat → Int64} {bl br bp : Nat → Int32} {gs : Int32} {gb : Nat → Int64} {gm gv gr : Nat → Int32} (hb : BkR m bc bs bl br bp gs gb gm gv gr) {n : Nat} (hn : n < 2) (ka iw : Int32) {kb : Nat → Int64} {kp ik : Nat → Int32} {ikp : Int32} {ist : Int64} {ilw ic : Int32} {is : Nat → Int64} {il ir ip : Nat → Int32} (hi : ImR n ikp ist ilw ic is il ir ip kb kp ik) : ∃ ans b' g' o' f' t' m' bc' bs' bl' br' bp' gs' ka' iw' gb' gm' gv' gr', Lw b' g' o' ∧ Wf f' t' ∧ f_X9_restore_0 (enc f t) (nI b) (nI g) (nI o) bc bs bl br bp ikp ist ilw ic is il ir ip = (ans, enc f' t', nI b', nI g', nI o', bc', bs', bl', br', bp') ∧ f_X10_restore (enc f t) (nI b) (nI g) (nI o) gs ka iw gb gm gv gr kb kp ik (nI n) = some (ans, enc f' t', nI b', nI g', nI o', gs', ka', iw', gb', gm', gv', gr', kb, kp) ∧ BkR m' bc' bs' bl' br' bp' gs' gb' gm' gv' gr' := by
  have hin : f_X10_in (nI n).toInt64 0 1 = 1 := in_in (a := 0) (b := 1) (by omega) (by omega) (by omega)
  rw [f_X9_restore_0, f_X9_restore_0_B12, f_X10_restore, hin, if_neg (show ¬ (1 : Int32) = 0 by decide), if_neg (notin hn (by omega)), nI_clamp (by omega)]
  rcases hi with ⟨rfl, a2⟩ | ⟨rfl, a2, b', g', o', f', t', m', c1, c2, rfl, c4, rfl, c6, c7, c8, c9⟩
  · rw [if_pos rfl, if_pos a2]
    exact ⟨_, b, g, o, f, t, m, _, _, _, _, _, _, _, _, _, _, _, _, hL, h, rfl, rfl, hb⟩
  · obtain ⟨u1, u2, u3⟩ := un_code b' (by have := c1.1; have := c1.2.1; have := c1.2.2; omega) g' (by have := c1.2.1; have := c1.2.2; omega) o' (by have := c1.2.2; omega)
    obtain ⟨gb', gm', gv', gr', kb', kp', p1, p2, p3, ⟨p40, p41, p42, p43⟩, p5, p6, p7, p8, p9⟩ := passAll_m hn 0 (enc f t) (nI b) (nI g) (nI o) gs gb gm gv gr kb kp
    have e1 : ∀ w k, pk 0 w k = k := fun w k => by unfold pk; rw [if_pos rfl]
    have e2 : ∀ w k, pkL 0 w k = k := fun w k => by unfold pkL; rw [if_pos rfl]
    simp only [e1, e2] at p1 p2 p3 p40 p41 p42 p43 p5 p6 p7
    have hkp : kp' = kp := by
      funext j
      by_cases c : j < 120 * n ∨ 120 * n + 116 ≤ j
      · exact p8 j c
      · rcases (show j = 120 * n ∨ j = 120 * n + 1 ∨ j = 120 * n + 2 ∨ j = 120 * n + 3 ∨ 120 * n + 20 ≤ j ∨ (120 * n + 4 ≤ j ∧ j < 120 * n + 20) by omega) with e | e | e | e | e | e
        · rw [e]; exact p40
        · rw [e]; exact p41
        · rw [e]; exact p42
        · rw [e]; exact p43
        · have := p6 (j - (120 * n + 20)) (by omega)
          rw [show 120 * n + 20 + (j - (120 * n + 20)) = j by omega] at this
          exact this
        · rcases (show j = 120 * n + 4 + 2 * ((j - (120 * n + 4)) / 2) ∨ j = 120 * n + 5 + 2 * ((j - (120 * n + 4)) / 2) by omega) with q | q
          · have := (p5 ((j - (120 * n + 4)) / 2) (by omega)).1
            rw [← q] at this
            exact this
          · have := (p5 ((j - (120 * n + 4)) / 2) (by omega)).2.1
            rw [← q] at this
            exact this
    have hkb : kb' = kb := by
      funext j
      by_cases c : j < 9 * n ∨ 9 * n + 9 ≤ j
      · exact p9 j c
      · by_cases e : j = 9 * n + 8
        · rw [e]; exact p7
        · have := (p5 (j - 9 * n) (by omega)).2.2
          rw [show 9 * n + (j - 9 * n) = j by omega] at this
          exact this
    rw [hkp, hkb] at p1
    rw [if_neg (show ¬ (1 : Int32) = 0 by decide), if_neg (by rw [a2]; decide), p1, Option.bind_some, jle, jle, copy_c, u1, u2, u3, c4, c6, c7, c8]
    refine ⟨1, b', g', o', f', t', m', _, _, _, _, _, _, _, _, _, _, _, _, c1, c2, rfl, rfl, ?_⟩
    exact c9.congr (fun i hi => ⟨cpy_at _ _ hi, cpy_at _ _ hi, cpy_at _ _ hi, (p2 i hi).2.2, (p2 i hi).1, (p2 i hi).2.1⟩) (fun i hi => ⟨cpy_at _ _ hi, p3 i hi⟩)
