/-! the calls stands, solve, even -/
theorem solI_new (R : Nat) : SolI R 0 0 (-1) 0 0 0 (-6) (fun _ => 0) := ⟨0, Nat.zero_le _, rfl, fun s _ => ⟨0, 0, Nat.le_refl _, by omega, rfl⟩, Or.inl rfl⟩
theorem SolI.mono {R R' : Nat} {srd : Int32} {sst : Int64} {slw sct sfu ssc sbm : Int32} {mk : Nat → Int32} (h : SolI R srd sst slw sct sfu ssc sbm mk) (hR : R ≤ R') : SolI R' srd sst slw sct sfu ssc sbm mk := by
  obtain ⟨rd, h1, h2, h3, h4⟩ := h
  exact ⟨rd, Nat.le_trans h1 hR, h2, h3, h4⟩
theorem op_stands {b g o : Nat} {f : Nat → Nat} {t : Nat} (hL : Lw b g o) (h : Wf f t) {R : Nat} (hR : R + 1 < 2 ^ 20) {srd : Int32} {sst : Int64} {slw sct sfu ssc sbm : Int32} {mk : Nat → Int32} (hS : SolI R srd sst slw sct sfu ssc sbm mk) (sdp : Int32) (fi pa : Nat → Int64) (ss li tt be ro : Nat → Int32) (my ms : Int32) (xs : Nat → Int64) (pl A B : Nat → Int32) : ∃ ans srd' dp sst' slw' ct fu sc bm fi' mk' pa' ss' li' tt' be' ro' q, f_X9_stands (enc f t) srd sdp sst slw sct sfu ssc sbm fi mk pa ss li tt be ro (nI b) (nI g) (nI o) = some (ans, srd', dp, sst', slw', ct, fu, sc, bm, fi', mk', pa', ss', li', tt', be', ro') ∧ SolI (R + 1) srd' sst' slw' ct fu sc bm mk' ∧ f_X10_stands (enc f t) (nI b) (nI g) (nI o) my ms xs pl A B = some (ans, q) := by
  have hr : SW (enc f t) := SW.of h
  obtain ⟨srd', dp, sst', slw', ct, fu, sc, bm, fi', mk', pa', ss', li', tt', be', ro', k1, k2, k3⟩ := goThrough_c hL hr hR hS sdp fi pa ss li tt be ro
  obtain ⟨ans, q, m1, m2⟩ := stands_m hL hr my ms xs pl A B
  rw [f_X9_stands, k1, Option.bind_some]
  dsimp only
  rcases k3 with ⟨rfl, k3⟩ | ⟨rfl, n, n1, n2, rfl, -, -⟩
  · rcases m2 with ⟨rfl, -⟩ | ⟨n, n1, n2, -⟩
    · rw [if_neg (show ¬ (1 : Int32) = 0 by decide)]
      exact ⟨_, _, _, _, _, _, _, _, _, _, _, _, _, _, _, _, _, q, rfl, k2, m1⟩
    · exact absurd k3 (fun e => few_many n2 n1 e)
  · rcases m2 with ⟨-, m2⟩ | ⟨n', -, n3, rfl⟩
    · exact absurd m2 (fun e => few_many n2 n1 e)
    · rw [if_pos rfl]
      have := few_few n2 n3
      subst this
      exact ⟨_, _, _, _, _, _, _, _, _, _, _, _, _, _, _, _, _, q, rfl, k2, m1⟩
theorem bm_cm {b g o : Nat} {r : Int64} (hr : SW r) : (if bmC b g o r (mX b g o r).length = -6 then (-6 : Int32) else f_X8_asTold r (bmC b g o r (mX b g o r).length)) = bmM b g o r (mX b g o r).length := by
  unfold bmC bmM
  by_cases h0 : (mX b g o r).length = 0
  · rw [if_pos h0, if_pos rfl, if_pos h0]
  · rw [if_neg h0, if_neg h0]
    have hb := bix_lt (b := b) (g := g) (o := o) (x := r) (mX b g o r).length (by omega)
    have hm : (mX b g o r).getD (bix b g o r (mX b g o r).length) (0, 0) = (mX b g o r)[bix b g o r (mX b g o r).length] := by rw [List.getD_eq_getElem?_getD, List.getElem?_eq_getElem hb]; rfl
    rw [hm]
    have hmem : (mX b g o r)[bix b g o r (mX b g o r).length] ∈ mX b g o r := List.getElem_mem hb
    obtain ⟨hm6, -, hc, -⟩ := mvs_mem (m := (mX b g o r)[bix b g o r (mX b g o r).length].1) (c := (mX b g o r)[bix b g o r (mX b g o r).length].2) hr.1.1 hmem
    have hne : ¬ cod (mX b g o r)[bix b g o r (mX b g o r).length] = -6 := by
      unfold cod code1
      exact nI_ne6 (by omega)
    rw [if_neg hne]
    have := asTold_c (f := dF r) (t := dT r) hr.1.dig hm6 (show (mX b g o r)[bix b g o r (mX b g o r).length].2 < 32 by omega)
    rw [← hr.2] at this
    exact this
theorem op_solve {b g o : Nat} {f : Nat → Nat} {t : Nat} (hL : Lw b g o) (h : Wf f t) {R : Nat} (hR : R + 1 < 2 ^ 20) {srd : Int32} {sst : Int64} {slw sct sfu ssc sbm : Int32} {mk : Nat → Int32} (hS : SolI R srd sst slw sct sfu ssc sbm mk) (sdp : Int32) (fi pa : Nat → Int64) (ss li tt be ro : Nat → Int32) (wh : Int32) (my ms : Int32) (xs : Nat → Int64) (pl rs la xb A B : Nat → Int32) : ∃ ans srd' dp sst' slw' ct fu sc bm fi' mk' pa' ss' li' tt' be' ro' q, f_X9_solve (enc f t) srd sdp sst slw sct sfu ssc sbm fi mk pa ss li tt be ro (nI b) (nI g) (nI o) wh = some (ans, srd', dp, sst', slw', ct, fu, sc, bm, fi', mk', pa', ss', li', tt', be', ro') ∧ SolI (R + 1) srd' sst' slw' ct fu sc bm mk' ∧ f_X10_solve (enc f t) (nI b) (nI g) (nI o) my ms xs pl rs la xb A B wh = some (ans, q) := by
  have hr : SW (enc f t) := SW.of h
  have hin : f_X10_in wh.toInt64 0 2 = b2i (decide ((0 : Int32) ≤ wh) && decide (wh ≤ 2)) := in3 wh 0 2
  rw [f_X9_solve, f_X10_solve, hin]
  by_cases w0 : wh < 0
  · rw [if_pos w0, and_ff (fun e => Int32.not_le.mpr w0 e.1), if_pos (show b2i false = (0 : Int32) from rfl)]
    exact ⟨_, _, _, _, _, _, _, _, _, _, _, _, _, _, _, _, _, _, rfl, hS.mono (by omega), rfl⟩
  by_cases w2 : wh ≤ 2
  rotate_left 1
  · rw [if_neg w0, if_neg w2, and_ff (fun e => w2 e.2), if_pos (show b2i false = (0 : Int32) from rfl)]
    exact ⟨_, _, _, _, _, _, _, _, _, _, _, _, _, _, _, _, _, _, rfl, hS.mono (by omega), rfl⟩
  rw [if_neg w0, if_pos w2, decide_eq_true (Int32.not_lt.mp w0), decide_eq_true w2, if_neg (show ¬ b2i (true && true) = (0 : Int32) by decide)]
  obtain ⟨srd', dp, sst', slw', ct, fu, sc, bm, fi', mk', pa', ss', li', tt', be', ro', k1, k2, k3⟩ := goThrough_c hL hr hR hS sdp fi pa ss li tt be ro
  obtain ⟨fl, ms', xs', pl', rs', la', bm', my', A', B', m1, m2⟩ := solveAll_m hL hr my ms xs pl rs la xb A B
  rw [k1, Option.bind_some, m1, Option.bind_some]
  dsimp only
  rcases k3 with ⟨rfl, k3⟩ | ⟨rfl, n, n1, n2, rfl, rfl, rfl⟩
  · rcases m2 with ⟨rfl, -⟩ | ⟨-, n, n1, n2, -⟩
    · rw [if_neg (show ¬ (1 : Int32) = 0 by decide), if_pos rfl]
      exact ⟨_, _, _, _, _, _, _, _, _, _, _, _, _, _, _, _, _, _, rfl, k2, rfl⟩
    · exact absurd k3 (fun e => few_many n2 n1 e)
  · rcases m2 with ⟨-, m2⟩ | ⟨rfl, -, -, -, s1, s2, s3⟩
    · exact absurd m2 (fun e => few_many n2 n1 e)
    · have hv := vX_rng hL hr
      have hb := bm_cm (b := b) (g := g) (o := o) hr
      rw [if_pos rfl, if_neg (show ¬ (1 : Int32) = 0 by decide), if_neg (show ¬ ((0 : Int32) < 0 ∨ 20001 ≤ (0 : Int32).toNatClampNeg) by decide), if_neg (show ¬ ((0 : Int32) < 0 ∨ 20001 ≤ (0 : Int32).toNatClampNeg) by decide), if_neg (show ¬ ((0 : Int32) < 0 ∨ 20001 ≤ (0 : Int32).toNatClampNeg) by decide), show (0 : Int32).toNatClampNeg = 0 from rfl, s1, s2, s3, bring_c _ (by omega), leng_c _ (by omega) hv.1]
      rcases (show wh = 0 ∨ wh = 1 ∨ wh = 2 by
        rcases i32_cases wh with h0 | ⟨j, hj, rfl⟩
        · exact absurd h0 w0
        · have hj2 : j ≤ 2 := by
            by_cases hc : j ≤ 2
            · exact hc
            · exact absurd w2 (nI_ge (a := 2) (b := j) (by omega) hj)
          rcases (show j = 0 ∨ j = 1 ∨ j = 2 by omega) with e | e | e <;> subst e
          · exact Or.inl rfl
          · exact Or.inr (Or.inl rfl)
          · exact Or.inr (Or.inr rfl)) with e | e | e <;> subst e
      · rw [if_neg (show ¬ (0 : Int32) = 2 by decide), if_pos rfl, if_pos rfl]
        exact ⟨_, _, _, _, _, _, _, _, _, _, _, _, _, _, _, _, _, _, rfl, k2, rfl⟩
      · rw [if_neg (show ¬ (1 : Int32) = 2 by decide), if_neg (show ¬ (1 : Int32) = 0 by decide), if_neg (show ¬ (1 : Int32) = 0 by decide), if_pos rfl]
        exact ⟨_, _, _, _, _, _, _, _, _, _, _, _, _, _, _, _, _, _, rfl, k2, rfl⟩
      · rw [if_pos rfl, if_neg (show ¬ (2 : Int32) = 0 by decide), if_neg (show ¬ (2 : Int32) = 1 by decide)]
        by_cases hc : bmC b g o (enc f t) (mX b g o (enc f t)).length = -6
        · rw [if_pos hc] at hb
          rw [if_pos hc, ← hb]
          exact ⟨_, _, _, _, _, _, _, _, _, _, _, _, _, _, _, _, _, _, rfl, k2, rfl⟩
        · rw [if_neg hc] at hb
          rw [if_neg hc, ← hb]
          exact ⟨_, _, _, _, _, _, _, _, _, _, _, _, _, _, _, _, _, _, rfl, k2, rfl⟩
theorem even_wf {f : Nat → Nat} {t m a : Nat} (h : Wf f t) (hm : m < 6) (hu : f m % 32 ≠ 31) (ha : a ≤ 9) : Wf (updN f m (f m % 32 + 32 * a)) t := by
  have hc := h.cell hm hu
  have e : ∀ k, updN f m (f m % 32 + 32 * a) k % 32 = f k % 32 := by
    intro k
    unfold updN
    split
    · rename_i hk
      rw [hk]
      omega
    · rfl
  refine ⟨h.1, fun k hk => ?_, fun k hk j hj hne heq => ?_⟩
  · by_cases hkm : k = m
    · right
      rw [e k, hkm]
      refine ⟨hc.1, ?_⟩
      unfold updN
      rw [if_pos rfl]
      omega
    · unfold updN
      rw [if_neg hkm]
      exact h.2.1 k hk
  · rw [e k, e j] at heq
    refine h.2.2 k hk j hj (fun e31 => ?_) heq
    by_cases hkm : k = m
    · rw [hkm] at e31
      exact hu (by rw [e31])
    · apply hne
      unfold updN
      rw [if_neg hkm]
      exact e31
