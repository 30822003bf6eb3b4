/-! the class's going through: all steps; what the solver holds between calls -/
def SRes (b g o : Nat) (r : Int64) (ct fu sc bm : Int32) : Prop := (fu = 1 ∧ Many b g o r) ∨ (fu = 0 ∧ ∃ m, m ≤ 20000 ∧ Few b g o r m ∧ ct = nI m ∧ sc = nI (vX b g o r) ∧ bm = bmC b g o r (mX b g o r).length)
def SolI (R : Nat) (srd : Int32) (sst : Int64) (slw sct sfu ssc sbm : Int32) (smk : Nat → Int32) : Prop := ∃ rd, rd ≤ R ∧ srd = nI rd ∧ SmI rd smk ∧ (slw = -1 ∨ ∃ b g o, Lw b g o ∧ SW sst ∧ slw = nI (100 * b + 10 * g + o) ∧ SRes b g o sst sct sfu ssc sbm)
theorem thr_loop {b g o : Nat} (hL : Lw b g o) {r : Int64} (hr : SW r) {rd : Nat} (hrd : rd < 2 ^ 20) (sst : Int64) (slw : Int32) : ∀ n st d (L : List Int64) (X : Nat → Int64) (tr sl : Nat → Nat) (ssc sbm : Int32) (fi : Nat → Int64) (mk : Nat → Int32) (pa : Nat → Int64) (ss li tt be ro : Nat → Int32), DI b g o r rd d L X tr sl ssc sbm fi mk pa ss li tt be ro → st + n = 1000001 → st + sm tr d ≤ 26 * L.length → ∃ dp ct fu sc bm fi' mk' pa' ss' li' tt' be' ro', f_X7_goThrough_L84 (nI b) (nI g) (nI o) n (nI st) (nI rd) (nI d) sst slw (nI L.length) 0 ssc sbm fi mk pa ss li tt be ro = some (nI rd, dp, sst, slw, ct, fu, sc, bm, fi', mk', pa', ss', li', tt', be', ro') ∧ SmI rd mk' ∧ SRes b g o r ct fu sc bm := by
  intro n
  induction n with
  | zero =>
    intro st d L X tr sl ssc sbm fi mk pa ss li tt be ro h h1 h2
    have := h.1.2.1
    omega
  | succ n ih =>
    intro st d L X tr sl ssc sbm fi mk pa ss li tt be ro h h1 h2
    have hl2 := h.1.2.1
    rw [f_X7_goThrough_L84, if_neg (show ¬ (1000000 : Int32) ≤ nI st from nI_ge (b := 1000000) (by omega) (by omega))]
    cases d with
    | zero =>
      rw [if_pos (show nI 0 ≤ (0 : Int32) by decide)]
      obtain ⟨⟨l1, l2, l3, l4⟩, ⟨t1, t2⟩, -, -, cl, bm, z⟩ := h
      obtain ⟨z1, z2⟩ := z rfl
      refine ⟨_, _, _, _, _, _, _, _, _, _, _, _, _, rfl, t2, Or.inr ⟨rfl, L.length, l2, few_of l1 l3 l4 (fun x hx y hy => ?_), rfl, z2, by rw [bm, z1]⟩⟩
      obtain ⟨s, hs, hc⟩ := t1.2.1 x hx
      rcases cl s hs x hc with ⟨k, hk, -⟩ | ⟨-, h3⟩
      · exact absurd hk (Nat.not_lt_zero _)
      · exact h3 y hy
    | succ p =>
      have hO : p ≤ 60 := by
        obtain ⟨⟨l1, l2, l3, l4⟩, -, c0, fr, -⟩ := h
        have hS : ∀ k, k < p + 1 → SW (X k) := fun k hk => rch_sw hL hr (l4 _ (fr k hk).1)
        have := (ch_old hL c0 hS p (by omega)).1
        have := oX_le (hS p (by omega))
        omega
      rw [if_neg (show ¬ nI (p + 1) ≤ (0 : Int32) from nI_ge (a := 0) (b := p + 1) (by omega) (by omega)), if_pos (show (0 : Int32) = 0 from rfl)]
      rcases goOn_c hL hr hrd h with ⟨k1, k2⟩ | ⟨d', L', X', tr', sl', ssc', sbm', fi', mk', pa', ss', li', tt', be', ro', k1, k2, k3⟩
      · rw [k1, Option.bind_some, jle]
        cases n with
        | zero => omega
        | succ n =>
          dsimp only
          rw [nI_1, f_X7_goThrough_L84, if_neg (show ¬ (1000000 : Int32) ≤ nI (st + 1) from nI_ge (b := 1000000) (by omega) (by omega)), if_neg (show ¬ nI (p + 1) ≤ (0 : Int32) from nI_ge (a := 0) (b := p + 1) (by omega) (by omega)), if_neg (show ¬ (1 : Int32) = 0 by decide)]
          exact ⟨_, _, _, _, _, _, _, _, _, _, _, _, _, rfl, h.2.1.2, Or.inl ⟨rfl, k2⟩⟩
      · rw [k1, Option.bind_some, jle, nI_1]
        exact ih (st + 1) d' L' X' tr' sl' ssc' sbm' fi' mk' pa' ss' li' tt' be' ro' k2 (by omega) (by omega)
theorem di_start {b g o : Nat} {r : Int64} (hr : SW r) {rd : Nat} (hrd : rd < 2 ^ 20) {fi : Nat → Int64} {mk : Nat → Int32} (hm : SmI rd mk) (hc : ∀ s, s < 32768 → cC (nI rd) fi mk s = none) (ssc : Int32) (pa : Nat → Int64) (ss li tt be ro : Nat → Int32) {j s : Nat} (hj : j < 32768) (es : s = (stC r + j) % 32768) (hp : ∀ i, i < j → ∃ y, cC (nI rd) fi mk ((stC r + i) % 32768) = some y ∧ y ≠ r) : DI b g o r rd 1 [r] (fun _ => r) (fun _ => 0) (fun _ => s) ssc (-6) (vp_updL fi s r) (upd mk s (nI (1024 * rd))) (vp_updL pa 0 r) (upd ss 0 (nI s)) (upd li 0 (nI (mX b g o r).length)) (upd tt 0 (nI 0)) (upd be 0 (nI (bst b g o r 0))) (wrL ro (24 * 0) ((mX b g o r).map cod)) := by
  have hs : s < 32768 := by rw [es]; exact Nat.mod_lt _ (by omega)
  have hcc : ∀ k, cC (nI rd) (vp_updL fi s r) (upd mk s (nI (1024 * rd))) k = if k = s then some r else cC (nI rd) fi mk k := by
    intro k
    unfold cC
    rw [updI_at, updL_at]
    by_cases e : k = s
    · rw [if_pos e, if_pos e, if_pos e, ush10 (by omega), show 1024 * rd / 1024 = rd by omega, if_pos rfl]
    · rw [if_neg e, if_neg e, if_neg e]
  have hT : Tab 32768 stC (cC (nI rd) (vp_updL fi s r) (upd mk s (nI (1024 * rd)))) ([] ++ [r]) := tab_ins (tab_nil hc) hj hp (by rw [← es]; exact hc s hs) List.not_mem_nil (fun k _ => by rw [hcc k, es])
  have hM : SmI rd (upd mk s (nI (1024 * rd))) := by have := smI_upd (s := s) (v := 0) hm (by omega); rw [Nat.add_zero] at this; exact this
  refine ⟨⟨List.nodup_cons.mpr ⟨List.not_mem_nil, List.nodup_nil⟩, by rw [List.length_singleton]; omega, List.mem_cons_self .., fun x hx => ?_⟩, ⟨hT, hM⟩, ⟨fun _ => rfl, fun k hk => absurd hk (by omega)⟩, fun k hk => ?_, fun s' hs' x hx => ?_, rfl, fun e => absurd e (by omega)⟩
  · rw [List.mem_singleton] at hx
    rw [hx]
    exact Rch.refl b g o r
  · have e : k = 0 := by omega
    subst e
    exact ⟨List.mem_cons_self .., by rw [updL_at, if_pos rfl], hs, by rw [updI_at, if_pos rfl], by rw [hcc, if_pos rfl], by rw [updI_at, if_pos rfl], Nat.zero_le _, by rw [updI_at, if_pos rfl], by rw [updI_at, if_pos rfl], fun i hi => wrL_map hi, fun i hi => absurd hi (Nat.not_lt_zero _)⟩
  · rw [hcc] at hx
    by_cases e : s' = s
    · rw [if_pos e] at hx
      exact Or.inl ⟨0, by omega, (Option.some.inj hx).symm⟩
    · rw [if_neg e, hc s' hs'] at hx
      cases hx
theorem thrB_c {b g o : Nat} (hL : Lw b g o) {r : Int64} (hr : SW r) {rd : Nat} (hrd : rd + 1 < 2 ^ 20) (fi : Nat → Int64) {mk : Nat → Int32} (hm : SmI rd mk) (pa : Nat → Int64) (ss li tt be ro : Nat → Int32) : ∃ dp ct fu sc bm fi' mk' pa' ss' li' tt' be' ro', f_X7_goThrough_B21 (nI rd) fi mk pa ss li tt be ro (nI b) (nI g) (nI o) r = some (nI (rd + 1), dp, r, nI (100 * b + 10 * g + o), ct, fu, sc, bm, fi', mk', pa', ss', li', tt', be', ro') ∧ SmI (rd + 1) mk' ∧ SRes b g o r ct fu sc bm := by
  have hc : ∀ s, s < 32768 → cC (nI (rd + 1)) fi mk s = none := by
    intro s hs
    obtain ⟨h, v, h1, h2, h3⟩ := hm s hs
    unfold cC
    rw [h3, ush10 (by omega), show (1024 * h + v) / 1024 = h by omega, if_neg (fun e => by rw [nI_eq (by omega) (by omega)] at e; omega)]
  have hm1 : SmI (rd + 1) mk := fun s hs => by
    obtain ⟨h, v, h1, h2, h3⟩ := hm s hs
    exact ⟨h, v, by omega, h2, h3⟩
  obtain ⟨j, s1, s2, s3, s4⟩ := slotOf_c (tab_nil hc) (by rw [List.length_nil]; omega) r
  have hs : (stC r + j) % 32768 < 32768 := Nat.mod_lt _ (by omega)
  have ho : f_X7_open (nI (rd + 1)) 0 0 0 fi mk pa ss li tt be ro (nI b) (nI g) (nI o) r (nI ((stC r + j) % 32768)) = _ := open_c hL hr (rd := rd + 1) (d := 0) (n := 0) (by omega) (by omega) hs fi mk pa ss li tt be ro
  have hd := di_start (b := b) (g := g) (o := o) hr hrd hm1 hc 0 pa ss li tt be ro s1 rfl s3
  have ht := thr_loop hL hr hrd r (nI (100 * b + 10 * g + o)) 1000001 0 1 [r] _ _ _ _ _ _ _ _ _ _ _ _ _ hd (by omega) (by rw [sm, sm, List.length_singleton]; omega)
  rw [f_X7_goThrough_B21, jle, code_c, jle, nI_1, s2, Option.bind_some, ho, Option.bind_some]
  exact ht
theorem goThrough_c {b g o : Nat} (hL : Lw b g o) {r : Int64} (hr : SW r) {R : Nat} (hR : R + 1 < 2 ^ 20) {srd : Int32} {sst : Int64} {slw sct sfu ssc sbm : Int32} {mk : Nat → Int32} (h : SolI R srd sst slw sct sfu ssc sbm mk) (sdp : Int32) (fi pa : Nat → Int64) (ss li tt be ro : Nat → Int32) : ∃ srd' dp sst' slw' ct fu sc bm fi' mk' pa' ss' li' tt' be' ro', f_X7_goThrough srd sdp sst slw sct sfu ssc sbm fi mk pa ss li tt be ro (nI b) (nI g) (nI o) r = some (srd', dp, sst', slw', ct, fu, sc, bm, fi', mk', pa', ss', li', tt', be', ro') ∧ SolI (R + 1) srd' sst' slw' ct fu sc bm mk' ∧ SRes b g o r ct fu sc bm := by
  obtain ⟨rd, h1, rfl, h2, h3⟩ := h
  have hnew : ∃ srd' dp sst' slw' ct fu sc bm fi' mk' pa' ss' li' tt' be' ro', f_X7_goThrough_B21 (nI rd) fi mk pa ss li tt be ro (nI b) (nI g) (nI o) r = some (srd', dp, sst', slw', ct, fu, sc, bm, fi', mk', pa', ss', li', tt', be', ro') ∧ SolI (R + 1) srd' sst' slw' ct fu sc bm mk' ∧ SRes b g o r ct fu sc bm := by
    obtain ⟨dp, ct, fu, sc, bm, fi', mk', pa', ss', li', tt', be', ro', k1, k2, k3⟩ := thrB_c hL hr (rd := rd) (by omega) fi h2 pa ss li tt be ro
    exact ⟨_, dp, _, _, ct, fu, sc, bm, fi', mk', pa', ss', li', tt', be', ro', k1, ⟨rd + 1, by omega, rfl, k2, Or.inr ⟨b, g, o, hL, hr, rfl, k3⟩⟩, k3⟩
  rw [f_X7_goThrough, code_c]
  by_cases c1 : slw = nI (100 * b + 10 * g + o)
  · rw [if_pos c1]
    by_cases c2 : lg_cmp sst r = 0
    · rw [if_pos c2]
      rcases h3 with h3 | ⟨b', g', o', hL', hw', e3, h4⟩
      · rw [h3] at c1
        exact absurd c1 (code_m1 hL)
      · have c4 := (lg_cmp_eq _ _).mp c2
        rw [e3] at c1
        obtain ⟨rfl, rfl, rfl⟩ := code_inj hL' hL c1
        subst c4
        exact ⟨_, _, _, _, _, _, _, _, _, _, _, _, _, _, _, _, rfl, ⟨rd, by omega, rfl, h2, Or.inr ⟨b', g', o', hL', hw', e3, h4⟩⟩, h4⟩
    · rw [if_neg c2]
      exact hnew
  · rw [if_neg c1]
    exact hnew
