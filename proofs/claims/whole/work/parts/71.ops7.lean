/-! the call even -/
theorem even_loop {b g o : Nat} {f : Nat → Nat} {t m : Nat} (hL : Lw b g o) (h : Wf f t) (hm : m < 6) (hu : f m % 32 ≠ 31) {R : Nat} (hR : R + 10 < 2 ^ 20) : ∀ n a (bits : Int32) (srd : Int32) (sst : Int64) (slw sct sfu ssc sbm : Int32) (mk : Nat → Int32) (sdp : Int32) (fi pa : Nat → Int64) (ss li tt be ro : Nat → Int32) (my ms : Int32) (xs : Nat → Int64) (pl rs la xb A B : Nat → Int32), a ≤ 10 → 10 - a < n → SolI (R + a) srd sst slw sct sfu ssc sbm mk → ∃ ans srd' dp sst' slw' ct fu sc bm fi' mk' pa' ss' li' tt' be' ro' q, f_X9_even_L43 (enc f t) (nI b) (nI g) (nI o) (nI m) (nI (f m % 32)) n bits (nI a) srd sdp sst slw sct sfu ssc sbm fi mk pa ss li tt be ro = some (ans, srd', dp, sst', slw', ct, fu, sc, bm, fi', mk', pa', ss', li', tt', be', ro') ∧ SolI (R + 10) srd' sst' slw' ct fu sc bm mk' ∧ f_X10_even_L26 (enc f t) (nI b) (nI g) (nI o) (nI m) n bits (nI a) my ms xs pl rs la xb A B = some (ans, q) := by
  have hc := h.cell hm hu
  intro n
  induction n with
  | zero => intro a bits srd sst slw sct sfu ssc sbm mk sdp fi pa ss li tt be ro my ms xs pl rs la xb A B _ h; omega
  | succ n ih =>
    intro a bits srd sst slw sct sfu ssc sbm mk sdp fi pa ss li tt be ro my ms xs pl rs la xb A B ha hn hS
    rw [f_X9_even_L43, f_X10_even_L26]
    by_cases he : a = 10
    · subst he
      rw [if_pos (show (9 : Int32) < nI 10 by decide), if_pos (show (10 : Int32) ≤ nI 10 by decide)]
      exact ⟨_, _, _, _, _, _, _, _, _, _, _, _, _, _, _, _, _, _, rfl, hS, rfl⟩
    · have hw := even_wf h hm hu (show a ≤ 9 by omega)
      have hr : SW (enc (updN f m (f m % 32 + 32 * a)) t) := SW.of hw
      rw [if_neg (show ¬ (9 : Int32) < nI a from fun e => by rw [show (9 : Int32) = nI 9 from rfl, nI_ltI (by omega) (by omega)] at e; omega), if_neg (show ¬ (10 : Int32) ≤ nI a from nI_ge (b := 10) (by omega) (by omega)), cellOf_m h.dig hm, putE h.dig hm (by omega) (by omega), putE_m h.dig hm (by omega) (by omega)]
      obtain ⟨srd', dp, sst', slw', ct, fu, sc, bm, fi', mk', pa', ss', li', tt', be', ro', k1, k2, k3⟩ := goThrough_c hL hr (R := R + a) (by omega) hS sdp fi pa ss li tt be ro
      obtain ⟨fl, ms', xs', pl', rs', la', bm', my', A', B', m1, m2⟩ := solveAll_m hL hr my ms xs pl rs la xb A B
      rw [k1, Option.bind_some, m1, Option.bind_some]
      dsimp only
      have hno : f_X9_even_B95 (f_X9_even_L43 (enc f t) (nI b) (nI g) (nI o) (nI m) (nI (f m % 32)) n) (nI a) (srd', dp, sst', slw', ct, fu, sc, bm, fi', mk', pa', ss', li', tt', be', ro') bits = f_X9_even_L43 (enc f t) (nI b) (nI g) (nI o) (nI m) (nI (f m % 32)) n bits (nI (a + 1)) srd' dp sst' slw' ct fu sc bm fi' mk' pa' ss' li' tt' be' ro' := by
        rw [f_X9_even_B95, jle, nI_1]
      have hyes : f_X9_even_B95 (f_X9_even_L43 (enc f t) (nI b) (nI g) (nI o) (nI m) (nI (f m % 32)) n) (nI a) (srd', dp, sst', slw', ct, fu, sc, bm, fi', mk', pa', ss', li', tt', be', ro') (bits ||| jshl 1 (nI a)) = f_X9_even_L43 (enc f t) (nI b) (nI g) (nI o) (nI m) (nI (f m % 32)) n (bits ||| jshl 1 (nI a)) (nI (a + 1)) srd' dp sst' slw' ct fu sc bm fi' mk' pa' ss' li' tt' be' ro' := by
        rw [f_X9_even_B95, jle, nI_1]
      have hno2 : ∀ fl', f_X10_even_B70 (f_X10_even_L26 (enc f t) (nI b) (nI g) (nI o) (nI m) n) bits (nI a) (fl', ms', xs', pl', rs', la', bm', my', A', B') 0 = f_X10_even_L26 (enc f t) (nI b) (nI g) (nI o) (nI m) n bits (nI (a + 1)) my' ms' xs' pl' rs' la' bm' A' B' := by
        intro fl'
        rw [f_X10_even_B70, if_pos rfl, f_X10_even_B85, jle, jle, nI_1, Int32.or_zero]
      have hyes2 : ∀ fl', f_X10_even_B70 (f_X10_even_L26 (enc f t) (nI b) (nI g) (nI o) (nI m) n) bits (nI a) (fl', ms', xs', pl', rs', la', bm', my', A', B') 1 = f_X10_even_L26 (enc f t) (nI b) (nI g) (nI o) (nI m) n (bits ||| jshl 1 (nI a)) (nI (a + 1)) my' ms' xs' pl' rs' la' bm' A' B' := by
        intro fl'
        rw [f_X10_even_B70, if_neg (by decide), f_X10_even_B85, jle, jle, nI_1]
      rcases k3 with ⟨rfl, k3⟩ | ⟨rfl, q, n1, n2, rfl, rfl, rfl⟩
      · rcases m2 with ⟨rfl, -⟩ | ⟨-, q, n1, n2, -⟩
        · rw [if_neg (show ¬ (1 : Int32) = 0 by decide), if_pos rfl, hno, hno2]
          exact ih (a + 1) bits srd' sst' slw' ct 1 sc bm mk' dp fi' pa' ss' li' tt' be' ro' my' ms' xs' pl' rs' la' bm' A' B' (by omega) (by omega) k2
        · exact absurd k3 (fun e => few_many n2 n1 e)
      · rcases m2 with ⟨-, m2⟩ | ⟨rfl, -, -, -, s1, -, -⟩
        · exact absurd m2 (fun e => few_many n2 n1 e)
        · have hv := vX_rng hL hr
          rw [if_pos rfl, if_neg (show ¬ (1 : Int32) = 0 by decide), if_neg (show ¬ ((0 : Int32) < 0 ∨ 20001 ≤ (0 : Int32).toNatClampNeg) by decide), show (0 : Int32).toNatClampNeg = 0 from rfl]
          by_cases hz : nI (rsS (vX b g o (enc (updN f m (f m % 32 + 32 * a)) t))) = 0
          · rw [if_pos (by rw [bring_c _ (by omega)]; exact hz), if_pos (by rw [s1]; exact hz), jle, hyes, hyes2]
            exact ih (a + 1) _ srd' sst' slw' _ 0 _ _ mk' dp fi' pa' ss' li' tt' be' ro' my' ms' xs' pl' rs' la' bm' A' B' (by omega) (by omega) k2
          · rw [if_neg (by rw [bring_c _ (by omega)]; exact hz), if_neg (by rw [s1]; exact hz), hno, hno2]
            exact ih (a + 1) _ srd' sst' slw' _ 0 _ _ mk' dp fi' pa' ss' li' tt' be' ro' my' ms' xs' pl' rs' la' bm' A' B' (by omega) (by omega) k2
theorem op_even {b g o : Nat} {f : Nat → Nat} {t : Nat} (hL : Lw b g o) (h : Wf f t) {R : Nat} (hR : R + 10 < 2 ^ 20) {srd : Int32} {sst : Int64} {slw sct sfu ssc sbm : Int32} {mk : Nat → Int32} (hS : SolI R srd sst slw sct sfu ssc sbm mk) (sdp : Int32) (fi pa : Nat → Int64) (ss li tt be ro : Nat → Int32) (mn : Int32) (my ms : Int32) (xs : Nat → Int64) (pl rs la xb A B : Nat → Int32) : ∃ ans srd' dp sst' slw' ct fu sc bm fi' mk' pa' ss' li' tt' be' ro' q, f_X9_even (enc f t) srd sdp sst slw sct sfu ssc sbm fi mk pa ss li tt be ro (nI b) (nI g) (nI o) mn = some (ans, srd', dp, sst', slw', ct, fu, sc, bm, fi', mk', pa', ss', li', tt', be', ro') ∧ SolI (R + 10) srd' sst' slw' ct fu sc bm mk' ∧ f_X10_even (enc f t) (nI b) (nI g) (nI o) my ms xs pl rs la xb A B mn = some (ans, q) := by
  rw [f_X9_even, f_X10_even, f_X10_isMan]
  rcases inN mn (a := 0) (b := 5) (by omega) (by omega) with hout | ⟨j, h1, h2, rfl⟩
  · have e : f_X10_in mn.toInt64 0 5 = 0 := in_out (a := 0) (b := 5) hout
    rw [e, if_pos rfl]
    by_cases h4 : mn < 0
    · rw [if_pos h4]
      exact ⟨_, _, _, _, _, _, _, _, _, _, _, _, _, _, _, _, _, _, rfl, hS.mono (by omega), rfl⟩
    · rw [if_neg h4, if_pos (show (6 : Int32) ≤ mn by
        rcases hout with h3 | h3
        · exact absurd h3 h4
        · rw [show (6 : Int32) = nI 6 from rfl, Int32.le_iff_toInt_le, nI_toInt (by omega)]
          rw [Int32.lt_iff_toInt_lt, nI_toInt (by omega)] at h3
          omega)]
      exact ⟨_, _, _, _, _, _, _, _, _, _, _, _, _, _, _, _, _, _, rfl, hS.mono (by omega), rfl⟩
  · have e : f_X10_in (nI j).toInt64 0 5 = 1 := in_in (a := 0) (b := 5) h1 h2 (by omega)
    rw [e, if_neg (show ¬ (1 : Int32) = 0 by decide), if_neg (nI_pos (by omega)), if_neg (show ¬ (6 : Int32) ≤ nI j from nI_ge (b := 6) (by omega) (by omega)), isUp_c h.dig (by omega), cellOf_c h.dig (by omega)]
    simp only [cell31_m h.dig (show j < 6 by omega)]
    by_cases hu : f j % 32 = 31
    · rw [if_pos hu, if_pos rfl, if_pos hu]
      exact ⟨_, _, _, _, _, _, _, _, _, _, _, _, _, _, _, _, _, _, rfl, hS.mono (by omega), rfl⟩
    · rw [if_neg hu, if_neg (show ¬ (1 : Int32) = 0 by decide), if_neg hu, jle]
      have := even_loop hL h (show j < 6 by omega) hu hR 100 0 0 srd sst slw sct sfu ssc sbm mk sdp fi pa ss li tt be ro my ms xs pl rs la xb A B (by omega) (by omega) hS
      rw [show nI 0 = (0 : Int32) from rfl] at this
      exact this
theorem evenN_loop (gst : Int64) (rb rg rO mn v : Int32) : ∀ n, f_X9_even_n_L43 gst rb rg rO mn v n = f_X9_even_L43 gst rb rg rO mn v n := by
  intro n
  induction n with
  | zero => rfl
  | succ n ih =>
    funext x1 x2 x3 x4 x5 x6 x7 x8 x9 x10 x11 x12 x13 x14 x15 x16 x17 x18
    rw [f_X9_even_n_L43, f_X9_even_L43, ih]
    rfl
theorem stands_n (gst : Int64) (rb rg rO : Int32) : f_X9_stands_n gst rb rg rO = f_X9_stands gst 0 0 0 (-1) 0 0 0 (-6) (fun _ => 0) (fun _ => 0) (fun _ => 0) (fun _ => 0) (fun _ => 0) (fun _ => 0) (fun _ => 0) (fun _ => 0) rb rg rO := by
  rw [f_X9_stands_n, f_X9_stands]
theorem solve_n (gst : Int64) (rb rg rO wh : Int32) (h0 : ¬ wh < 0) (h1 : wh ≤ 2) : f_X9_solve_n gst rb rg rO wh = f_X9_solve gst 0 0 0 (-1) 0 0 0 (-6) (fun _ => 0) (fun _ => 0) (fun _ => 0) (fun _ => 0) (fun _ => 0) (fun _ => 0) (fun _ => 0) (fun _ => 0) rb rg rO wh := by
  rw [f_X9_solve_n, f_X9_solve, if_neg h0, if_pos h1]
theorem even_n (gst : Int64) (rb rg rO mn : Int32) (h0 : ¬ mn < 0) (h1 : ¬ 6 ≤ mn) (h2 : ¬ f_X8_isUp gst mn = 0) : f_X9_even_n gst rb rg rO mn = f_X9_even gst 0 0 0 (-1) 0 0 0 (-6) (fun _ => 0) (fun _ => 0) (fun _ => 0) (fun _ => 0) (fun _ => 0) (fun _ => 0) (fun _ => 0) (fun _ => 0) rb rg rO mn := by
  rw [f_X9_even_n, f_X9_even, if_neg h0, if_neg h1, if_neg h2, jle, jle, evenN_loop]
