/-! keys: the class's row and the reference's count -/
def keyL (b g o : Nat) (f : Nat → Nat) (t : Nat) (two : Bool) (i : Nat) : List (Nat × Nat) := ((mvs b g o f t).drop i).filter (fun q => keyS b g o (kid f q) (1 - t) two)
theorem keyL_end {b g o : Nat} {f : Nat → Nat} {t : Nat} {two : Bool} {i : Nat} (h : (mvs b g o f t).length ≤ i) : keyL b g o f t two i = [] := by
  unfold keyL
  rw [List.drop_eq_nil_of_le h]
  rfl
theorem keyL_step {b g o : Nat} {f : Nat → Nat} {t : Nat} {two : Bool} {i : Nat} (h : i < (mvs b g o f t).length) : keyL b g o f t two i = if keyS b g o (kid f (mvs b g o f t)[i]) (1 - t) two = true then (mvs b g o f t)[i] :: keyL b g o f t two (i + 1) else keyL b g o f t two (i + 1) := by
  unfold keyL
  rw [List.drop_eq_getElem_cons h, List.filter_cons]
theorem keyL_len {b g o : Nat} {f : Nat → Nat} {t : Nat} {two : Bool} {i : Nat} : (keyL b g o f t two i).length ≤ (mvs b g o f t).length - i := by
  unfold keyL
  exact Nat.le_trans (List.length_filter_le _ _) (by simp)
theorem find_loop {b g o : Nat} {f : Nat → Nat} {t : Nat} (hL : Lw b g o) (h : Wf f t) (nn : Int32) (hnn : nn = 1 ∨ nn = 2) (qs : Int64) (ql qn : Int32) (qf : Nat → Int32) : ∀ n i cnt qr qv qo, i ≤ (mvs b g o f t).length → (mvs b g o f t).length - i < n → cnt ≤ i → ∃ qr2 qv2, f_X4_find_L78 (nI b) (nI g) (nI o) (enc f t) nn (nI (t + 1)) (nI (mvs b g o f t).length) n (nI i) (nI cnt) qs ql qn (wrL qf 0 ((mvs b g o f t).map cod)) qr qv qo = some (nI (cnt + (keyL b g o f t (decide (nn = 2)) i).length), qs, ql, qn, wrL qf 0 ((mvs b g o f t).map cod), qr2, qv2, wrL qo cnt ((keyL b g o f t (decide (nn = 2)) i).map cod)) := by
  have ht := h.1
  have hlen := mvs_len (b := b) (g := g) (o := o) h
  intro n
  induction n with
  | zero => intro i cnt qr qv qo _ hn; omega
  | succ n ih =>
    intro i cnt qr qv qo hi hn hcnt
    rw [f_X4_find_L78]
    by_cases he : i = (mvs b g o f t).length
    · rw [if_pos (nI_le (by omega) (by omega)), keyL_end (by omega)]
      exact ⟨_, _, rfl⟩
    · have hil : i < (mvs b g o f t).length := by omega
      have hmem : (mvs b g o f t)[i] ∈ mvs b g o f t := List.getElem_mem hil
      have hkw := kid_wf hL h hmem
      have hb3 := brS_le b g o (kid f (mvs b g o f t)[i]) (show 1 - t < 2 by omega)
      rw [if_neg (nI_ge hil (by omega)), if_neg (show ¬ (24 : Int32) ≤ nI i from nI_ge (b := 24) (by omega) (by omega)), if_neg (nI_in (by omega) (by omega)), nI_clamp (by omega), wr0 hil, kid_c hL h hmem, Option.bind_some, ending_c hL hkw, Option.bind_some, keyL_step hil]
      simp only [nI_eq_lit (a := brS b g o (kid f (mvs b g o f t)[i]) (1 - t)) (b := t + 1) (by omega) (by omega), show (nI (brS b g o (kid f (mvs b g o f t)[i]) (1 - t)) = 0) = (brS b g o (kid f (mvs b g o f t)[i]) (1 - t) = 0) from nI_eq_lit (b := 0) (by omega) (by omega)]
      have hcle : cnt < 24 := by omega
      have B1 : ∀ qr qv, ∃ qr2 qv2, f_X4_find_B149 (f_X4_find_L78 (nI b) (nI g) (nI o) (enc f t) nn (nI (t + 1)) (nI (mvs b g o f t).length) n) (nI i) 1 (nI cnt) qs ql qn (wrL qf 0 ((mvs b g o f t).map cod)) qr qv qo = some (nI (cnt + ((mvs b g o f t)[i] :: keyL b g o f t (decide (nn = 2)) (i + 1)).length), qs, ql, qn, wrL qf 0 ((mvs b g o f t).map cod), qr2, qv2, wrL qo cnt (((mvs b g o f t)[i] :: keyL b g o f t (decide (nn = 2)) (i + 1)).map cod)) := by
        intro qr qv
        unfold f_X4_find_B149 f_X4_find_B194 jlet
        dsimp only
        rw [if_neg (show ¬ (1 : Int32) = 0 by decide), if_neg (show ¬ (24 : Int32) ≤ nI cnt from nI_ge (b := 24) hcle (by omega)), if_neg (nI_in (by omega) (by omega)), if_neg (nI_in (by omega) (by omega)), nI_clamp (by omega), nI_clamp (by omega), wr0 hil, nI_1, nI_1]
        obtain ⟨qr2, qv2, e⟩ := ih (i + 1) (cnt + 1) qr qv (upd qo cnt (cod (mvs b g o f t)[i])) (by omega) (by omega) (by omega)
        refine ⟨qr2, qv2, ?_⟩
        rw [e]
        simp only [List.length_cons, List.map_cons]
        rw [show cnt + 1 + (keyL b g o f t (decide (nn = 2)) (i + 1)).length = cnt + ((keyL b g o f t (decide (nn = 2)) (i + 1)).length + 1) by omega]
        rfl
      have B0 : ∀ qr qv, ∃ qr2 qv2, f_X4_find_B149 (f_X4_find_L78 (nI b) (nI g) (nI o) (enc f t) nn (nI (t + 1)) (nI (mvs b g o f t).length) n) (nI i) 0 (nI cnt) qs ql qn (wrL qf 0 ((mvs b g o f t).map cod)) qr qv qo = some (nI (cnt + (keyL b g o f t (decide (nn = 2)) (i + 1)).length), qs, ql, qn, wrL qf 0 ((mvs b g o f t).map cod), qr2, qv2, wrL qo cnt ((keyL b g o f t (decide (nn = 2)) (i + 1)).map cod)) := by
        intro qr qv
        unfold f_X4_find_B149 f_X4_find_B194 jlet
        dsimp only
        rw [if_pos (show (0 : Int32) = 0 from rfl), nI_1]
        exact ih (i + 1) cnt qr qv qo (by omega) (by omega) (by omega)
      have hkt : 1 - (1 - t) + 1 = t + 1 := by omega
      have hks : keyS b g o (kid f (mvs b g o f t)[i]) (1 - t) (decide (nn = 2)) = if brS b g o (kid f (mvs b g o f t)[i]) (1 - t) = 0 then decide (nn = 2) && a2S b g o (kid f (mvs b g o f t)[i]) (1 - t) else decide (brS b g o (kid f (mvs b g o f t)[i]) (1 - t) = t + 1) := by
        unfold keyS
        rw [hkt]
      by_cases hw : brS b g o (kid f (mvs b g o f t)[i]) (1 - t) = t + 1
      · rw [if_pos hw]
        have : keyS b g o (kid f (mvs b g o f t)[i]) (1 - t) (decide (nn = 2)) = true := by rw [hks, if_neg (by omega), decide_eq_true hw]
        rw [if_pos this]
        exact B1 qr qv
      · rw [if_neg hw]
        by_cases hz : brS b g o (kid f (mvs b g o f t)[i]) (1 - t) = 0
        · rcases hnn with rfl | rfl
          · rw [if_pos (show (1 : Int32) ≤ 1 by decide)]
            have : ¬ keyS b g o (kid f (mvs b g o f t)[i]) (1 - t) (decide ((1 : Int32) = 2)) = true := by rw [hks, if_pos hz]; simp
            rw [if_neg this]
            exact B0 qr qv
          · obtain ⟨r1, r2, e⟩ := winsAll_c hL hkw qr qv
            rw [if_neg (show ¬ (2 : Int32) ≤ 1 by decide), if_pos hz, e, Option.bind_some]
            dsimp only
            cases ha : a2S b g o (kid f (mvs b g o f t)[i]) (1 - t)
            · have : ¬ keyS b g o (kid f (mvs b g o f t)[i]) (1 - t) (decide ((2 : Int32) = 2)) = true := by rw [hks, if_pos hz, ha]; simp
              rw [if_pos b2i_f, if_neg this]
              exact B0 _ _
            · have : keyS b g o (kid f (mvs b g o f t)[i]) (1 - t) (decide ((2 : Int32) = 2)) = true := by rw [hks, if_pos hz, ha]; simp
              rw [if_neg b2i_t, if_pos this]
              exact B1 _ _
        · have : ¬ keyS b g o (kid f (mvs b g o f t)[i]) (1 - t) (decide (nn = 2)) = true := by rw [hks, if_neg hz, decide_eq_false hw]; simp
          rw [if_neg hz, if_neg this]
          rcases hnn with rfl | rfl
          · rw [if_pos (show (1 : Int32) ≤ 1 by decide)]; exact B0 qr qv
          · rw [if_neg (show ¬ (2 : Int32) ≤ 1 by decide)]; exact B0 qr qv
