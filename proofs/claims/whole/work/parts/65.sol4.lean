/-! the class's going through: a step, all steps, the whole -/
theorem nodup_snoc {L : List Int64} {y : Int64} (h : L.Nodup) (hy : y ∉ L) : (L ++ [y]).Nodup := by
  refine List.nodup_append.mpr ⟨h, List.nodup_cons.mpr ⟨List.not_mem_nil, List.nodup_nil⟩, fun a ha c hc e => ?_⟩
  rw [List.mem_singleton] at hc
  rw [e, hc] at ha
  exact hy ha
section
variable {b g o : Nat} {r : Int64} {rd p : Nat} {L : List Int64} {X : Nat → Int64} {tr sl : Nat → Nat} {ssc sbm : Int32} {fi : Nat → Int64} {mk : Nat → Int32} {pa : Nat → Int64} {ss li tt be ro : Nat → Int32}
/-- a stand is opened -/
theorem di_open (hL : Lw b g o) (hr : SW r) (hrd : rd < 2 ^ 20) (h : DI b g o r rd (p + 1) L X tr sl ssc sbm fi mk pa ss li tt be ro) (ht : tr p < (mX b g o (X p)).length) (hn : L.length < 20000) {j : Nat} (hj : j < 32768) (hp : ∀ i, i < j → ∃ y, cC (nI rd) fi mk ((stC ((kX b g o (X p)).getD (tr p) 0) + i) % 32768) = some y ∧ y ≠ (kX b g o (X p)).getD (tr p) 0) (hno : cC (nI rd) fi mk ((stC ((kX b g o (X p)).getD (tr p) 0) + j) % 32768) = none) (hy : (kX b g o (X p)).getD (tr p) 0 ∉ L) {y : Int64} (ey : y = (kX b g o (X p)).getD (tr p) 0) {s : Nat} (es : s = (stC y + j) % 32768) : DI b g o r rd (p + 2) (L ++ [y]) (fun k => if k = p + 1 then y else X k) (updN tr (p + 1) 0) (updN sl (p + 1) s) ssc sbm (vp_updL fi s y) (upd mk s (nI (1024 * rd))) (vp_updL pa (p + 1) y) (upd ss (p + 1) (nI s)) (upd li (p + 1) (nI (mX b g o y).length)) (upd tt (p + 1) (nI 0)) (upd be (p + 1) (nI (bst b g o y 0))) (wrL ro (24 * (p + 1)) ((mX b g o y).map cod)) := by
  obtain ⟨⟨l1, l2, l3, l4⟩, ⟨t1, t2⟩, c0, fr, cl, bm, -⟩ := h
  have hS : ∀ k, k < p + 1 → SW (X k) := fun k hk => rch_sw hL hr (l4 _ (fr k hk).1)
  have hyk : y ∈ kX b g o (X p) := by rw [ey]; exact (kX_getD ht).2
  have hSy : SW y := kX_SW hL (hS p (by omega)) hyk
  rw [← ey] at hp hno hy
  rw [← es] at hno
  have hs : s < 32768 := by rw [es]; exact Nat.mod_lt _ (by omega)
  have hcc : ∀ k, cC (nI rd) (vp_updL fi s y) (upd mk s (nI (1024 * rd))) k = if k = s then some y else cC (nI rd) fi mk k := by
    intro k
    unfold cC
    rw [updI_at, updL_at]
    by_cases e : k = s
    · rw [if_pos e, if_pos e, if_pos e, ush10 (by omega), show 1024 * rd / 1024 = rd by omega, if_pos rfl]
    · rw [if_neg e, if_neg e, if_neg e]
  have hT : Tab 32768 stC (cC (nI rd) (vp_updL fi s y) (upd mk s (nI (1024 * rd)))) (L ++ [y]) := tab_ins t1 hj hp (by rw [← es]; exact hno) hy (fun k _ => by rw [hcc k, es])
  have hM : SmI rd (upd mk s (nI (1024 * rd))) := by have := smI_upd (s := s) (v := 0) t2 (by omega); rw [Nat.add_zero] at this; exact this
  have hsub : ∀ z, z ∈ L → z ∈ L ++ [y] := fun z hz => List.mem_append_left _ hz
  have hsl : ∀ k, k < p + 1 → sl k ≠ s := fun k hk e => by
    have := (fr k hk).2.2.2.2.1
    rw [e, hno] at this
    cases this
  refine ⟨⟨nodup_snoc l1 hy, by rw [List.length_append, List.length_singleton]; omega, hsub r l3, fun x hx => ?_⟩, ⟨hT, hM⟩, ⟨fun _ => ?_, fun k hk => ?_⟩, fun k hk => ?_, fun s' hs' x hx => ?_, ?_, fun e => absurd e (by omega)⟩
  · rcases List.mem_append.mp hx with h1 | h1
    · exact l4 x h1
    · rw [List.mem_singleton] at h1
      rw [h1]
      exact (l4 _ (fr p (by omega)).1).step hyk
  · dsimp only
    rw [if_neg (by omega)]
    exact c0.1 (by omega)
  · dsimp only
    rw [if_neg (show ¬ k = p + 1 by omega), show updN tr (p + 1) 0 k = tr k by unfold updN; rw [if_neg (by omega)]]
    by_cases e : k = p
    · subst e
      rw [if_pos rfl]
      exact ⟨ht, ey⟩
    · rw [if_neg (by omega)]
      exact c0.2 k (by omega)
  · dsimp only
    by_cases e : k = p + 1
    · subst e
      rw [if_pos rfl, show updN tr (p + 1) 0 (p + 1) = 0 by unfold updN; rw [if_pos rfl], show updN sl (p + 1) s (p + 1) = s by unfold updN; rw [if_pos rfl]]
      exact ⟨List.mem_append_right _ (List.mem_cons_self ..), by rw [updL_at, if_pos rfl], hs, by rw [updI_at, if_pos rfl], by rw [hcc, if_pos rfl], by rw [updI_at, if_pos rfl], Nat.zero_le _, by rw [updI_at, if_pos rfl], by rw [updI_at, if_pos rfl], fun i hi => wrL_map hi, fun i hi => absurd hi (Nat.not_lt_zero _)⟩
    · rw [if_neg e, show updN tr (p + 1) 0 k = tr k by unfold updN; rw [if_neg e], show updN sl (p + 1) s k = sl k by unfold updN; rw [if_neg e]]
      exact (fr k (by omega)).keep (hS k (by omega)) hsub (by rw [hcc, if_neg (hsl k (by omega))]; exact (fr k (by omega)).2.2.2.2.1) (by rw [updL_at, if_neg e]) (by rw [updI_at, if_neg e]) (by rw [updI_at, if_neg e]) (by rw [updI_at, if_neg e]) (by rw [updI_at, if_neg e]) (fun i hi => wrL_lo _ _ _ (by omega))
  · rw [hcc] at hx
    by_cases e : s' = s
    · rw [if_pos e] at hx
      left
      refine ⟨p + 1, by omega, ?_⟩
      dsimp only
      rw [if_pos rfl]
      exact (Option.some.inj hx).symm
    · rw [if_neg e] at hx
      rcases cl s' hs' x hx with ⟨k, hk, ek⟩ | ⟨h1, h2⟩
      · left
        refine ⟨k, by omega, ?_⟩
        dsimp only
        rw [if_neg (by omega)]
        exact ek
      · right
        rw [updI_at, if_neg e]
        exact ⟨h1, fun z hz => hsub z (h2 z hz)⟩
  · rw [show updN tr (p + 1) 0 0 = tr 0 by unfold updN; rw [if_neg (by omega)]]
    exact bm
/-- a kid that is known is weighed -/
theorem di_weigh (hL : Lw b g o) (hr : SW r) (h : DI b g o r rd (p + 1) L X tr sl ssc sbm fi mk pa ss li tt be ro) (ht : tr p < (mX b g o (X p)).length) (hy : (kX b g o (X p)).getD (tr p) 0 ∈ L) : ∃ sbm' be', f_X7_weigh sbm tt be ro (nI p) (nI (vX b g o ((kX b g o (X p)).getD (tr p) 0))) = some (sbm', upd tt p (nI (tr p + 1)), be') ∧ DI b g o r rd (p + 1) L X (updN tr p (tr p + 1)) sl ssc sbm' fi mk pa ss li (upd tt p (nI (tr p + 1))) be' ro := by
  obtain ⟨⟨l1, l2, l3, l4⟩, ⟨t1, t2⟩, c0, fr, cl, bm, -⟩ := h
  have hS : ∀ k, k < p + 1 → SW (X k) := fun k hk => rch_sw hL hr (l4 _ (fr k hk).1)
  have hO := (ch_old hL c0 hS p (by omega)).1
  have h60 := oX_le (hS p (by omega))
  obtain ⟨k1, k2, k3, k4, k5, k6, k7, k8, k9, k10, k11⟩ := fr p (by omega)
  obtain ⟨sbm', be', w1, w2, w3, w4, w5⟩ := weigh_c hL (hS p (by omega)) (show p < 64 by omega) ht sbm (tt := tt) (be := be) (ro := ro) k8 k9 (fun e j hj => by subst e; have := k10 j hj; rw [show 24 * 0 + j = j by omega] at this; exact this)
  refine ⟨sbm', be', w1, ⟨l1, l2, l3, l4⟩, ⟨t1, t2⟩, ⟨c0.1, fun k hk => ?_⟩, fun k hk => ?_, cl, ?_, fun e => absurd e (by omega)⟩
  · rw [show updN tr p (tr p + 1) k = tr k by unfold updN; rw [if_neg (by omega)]]
    exact c0.2 k hk
  · by_cases e : k = p
    · subst e
      rw [show updN tr k (tr k + 1) k = tr k + 1 by unfold updN; rw [if_pos rfl]]
      refine ⟨k1, k2, k3, k4, k5, k6, by omega, by rw [updI_at, if_pos rfl], w3, k10, fun i hi => ?_⟩
      by_cases e3 : i = tr k
      · rw [e3]; exact hy
      · exact k11 i (by omega)
    · rw [show updN tr p (tr p + 1) k = tr k by unfold updN; rw [if_neg e]]
      exact (fr k hk).keep (hS k hk) (fun _ hz => hz) (fr k hk).2.2.2.2.1 rfl rfl rfl (by rw [updI_at, if_neg e]) (w2 k e) (fun _ _ => rfl)
  · by_cases e : p = 0
    · subst e
      rw [show updN tr 0 (tr 0 + 1) 0 = tr 0 + 1 by unfold updN; rw [if_pos rfl]]
      have hX0 := c0.1 (by omega)
      rw [← hX0]
      exact w5 rfl (by rw [hX0]; exact bm)
    · rw [show updN tr p (tr p + 1) 0 = tr 0 by unfold updN; rw [if_neg (by omega)], w4 e]
      exact bm
theorem goOn_c (hL : Lw b g o) (hr : SW r) (hrd : rd < 2 ^ 20) (h : DI b g o r rd (p + 1) L X tr sl ssc sbm fi mk pa ss li tt be ro) :
    (f_X7_goOn (nI rd) (nI (p + 1)) (nI L.length) 0 ssc sbm fi mk pa ss li tt be ro (nI b) (nI g) (nI o) = some (nI (p + 1), nI L.length, 1, ssc, sbm, fi, mk, pa, ss, li, tt, be, ro) ∧ Many b g o r) ∨
    ∃ d' L' X' tr' sl' ssc' sbm' fi' mk' pa' ss' li' tt' be' ro', f_X7_goOn (nI rd) (nI (p + 1)) (nI L.length) 0 ssc sbm fi mk pa ss li tt be ro (nI b) (nI g) (nI o) = some (nI d', nI L'.length, 0, ssc', sbm', fi', mk', pa', ss', li', tt', be', ro') ∧ DI b g o r rd d' L' X' tr' sl' ssc' sbm' fi' mk' pa' ss' li' tt' be' ro' ∧ sm tr' d' + 1 + 26 * L.length ≤ sm tr (p + 1) + 26 * L'.length := by
  obtain ⟨⟨l1, l2, l3, l4⟩, ⟨t1, t2⟩, c0, fr, cl, bm, -⟩ := id h
  have hS : ∀ k, k < p + 1 → SW (X k) := fun k hk => rch_sw hL hr (l4 _ (fr k hk).1)
  have hO := ch_old hL c0 hS p (by omega)
  have h60 := oX_le (hS p (by omega))
  have h24 := mX_len (b := b) (g := g) (o := o) (hS p (by omega))
  have hO1 := hO.1
  obtain ⟨f1, f2, f3, f4, f5, f6, f7, f8, f9, f10, f11⟩ := fr p (by omega)
  have n1 : ¬ (nI p < 0 ∨ 64 ≤ p) := by have := notin (i := p) (n := 64) (by omega) (by omega); rw [nI_clamp (by omega)] at this; exact this
  have e1 : nI (p + 1) - 1 = nI p := by rw [show (1 : Int32) = nI 1 from rfl, nI_sub (by omega)]; rfl
  obtain ⟨v, hv⟩ : ∃ v, f_X7_goOn (nI rd) (nI (p + 1)) (nI L.length) 0 ssc sbm fi mk pa ss li tt be ro (nI b) (nI g) (nI o) = v := ⟨_, rfl⟩
  rw [hv]
  rw [f_X7_goOn, jle, e1, if_neg (nI_pos (by omega)), if_pos (show nI p < (64 : Int32) from nI_lt (b := 64) (by omega) (by omega)), nI_clamp (show p < 2 ^ 31 by omega), if_neg n1, jle, if_neg n1, if_neg n1, f6, f8] at hv
  by_cases hc : tr p = (mX b g o (X p)).length
  · rw [if_pos (nI_le (by omega) (by omega))] at hv
    obtain ⟨d', tr', ssc', sbm', mk', tt', be', k1, k2, k3⟩ := close_c hL hr hrd h hc
    rw [f_X7_goOn_B63, k1, Option.bind_some] at hv
    rw [← hv]
    exact Or.inr ⟨d', L, X, tr', sl, ssc', sbm', fi, mk', pa, ss, li, tt', be', ro, rfl, k2, by omega⟩
  · have hlt : tr p < (mX b g o (X p)).length := by omega
    have e2 : nI p * 24 + nI (tr p) = nI (24 * p + tr p) := by rw [show (24 : Int32) = nI 24 from rfl, nI_mul, nI_add, Nat.mul_comm]
    have hyk := (kX_getD hlt).2
    have hSy := kX_SW hL (hS p (by omega)) hyk
    have hOy := oX_kid hL (hS p (by omega)) hyk
    have h60y := oX_le hSy
    obtain ⟨j, s1, s2, s3, s4⟩ := slotOf_c t1 (by omega) ((kX b g o (X p)).getD (tr p) 0)
    have hs : (stC ((kX b g o (X p)).getD (tr p) 0) + j) % 32768 < 32768 := Nat.mod_lt _ (by omega)
    rw [if_neg (nI_ge hlt (by omega)), e2, if_neg (nI_pos (by omega)), if_pos (show nI (24 * p + tr p) < (1536 : Int32) from nI_lt (b := 1536) (by omega) (by omega)), if_neg n1, if_neg (notin (show 24 * p + tr p < 1536 by omega) (by omega)), nI_clamp (show 24 * p + tr p < 2 ^ 31 by omega), f2, f10 _ hlt, after_x hL (hS p (by omega)) hlt, Option.bind_some, s2, Option.bind_some, if_neg (nI_pos (by omega)), if_neg (show ¬ (32768 : Int32) ≤ nI ((stC ((kX b g o (X p)).getD (tr p) 0) + j) % 32768) from nI_ge (b := 32768) hs (by omega)), filled_c _ _ hs, Option.bind_some] at hv
    rcases s4 with ⟨q1, q2⟩ | ⟨q1, q2⟩
    · have hf : ¬ jushr (mk ((stC ((kX b g o (X p)).getD (tr p) 0) + j) % 32768)) 10 = nI rd := by
        intro e
        unfold cC at q1
        rw [if_pos e] at q1
        cases q1
      rw [if_neg hf, if_pos rfl, f_X7_goOn_B134] at hv
      by_cases hn : L.length < 20000
      · rw [open_c hL hSy (show p + 1 < 64 by omega) hn hs, Option.bind_some] at hv
        rw [← hv]
        have hd := di_open hL hr hrd h hlt hn s1 s3 q1 q2 rfl rfl
        refine Or.inr ⟨p + 2, _, _, _, _, _, _, _, _, _, _, _, _, _, _, ?_, hd, ?_⟩
        · rw [List.length_append, List.length_singleton]
        · have es : sm (updN tr (p + 1) 0) (p + 1) = sm tr (p + 1) := sm_congr _ (fun k hk => by unfold updN; rw [if_neg (by omega)])
          rw [sm, es, List.length_append, List.length_singleton]
          omega
      · rw [open_full (by omega) (by omega), Option.bind_some] at hv
        rw [← hv]
        refine Or.inl ⟨rfl, L ++ [(kX b g o (X p)).getD (tr p) 0], nodup_snoc l1 q2, by rw [List.length_append, List.length_singleton]; omega, fun x hx => ?_⟩
        rcases List.mem_append.mp hx with h1 | h1
        · exact l4 x h1
        · rw [List.mem_singleton] at h1
          rw [h1]
          exact (l4 _ f1).step hyk
    · have hf := (cC_fi q1).2
      have hmk : mk ((stC ((kX b g o (X p)).getD (tr p) 0) + j) % 32768) &&& 1023 = nI (vX b g o ((kX b g o (X p)).getD (tr p) 0)) := by
        rcases cl _ hs _ q1 with ⟨k, hk, ek⟩ | ⟨h1, -⟩
        · have := hO.2 k (by omega)
          rw [← ek] at this
          omega
        · exact h1
      obtain ⟨sbm', be', w1, w2⟩ := di_weigh hL hr h hlt q2
      rw [if_pos hf, if_neg (by decide), if_neg (notin hs (by omega)), nI_clamp (by omega), hmk, w1, Option.bind_some] at hv
      rw [← hv]
      refine Or.inr ⟨p + 1, L, X, _, sl, ssc, sbm', fi, mk, pa, ss, li, _, be', ro, rfl, w2, ?_⟩
      have es : sm (updN tr p (tr p + 1)) p = sm tr p := sm_congr _ (fun k hk => by unfold updN; rw [if_neg (by omega)])
      rw [sm, sm, es, show updN tr p (tr p + 1) p = tr p + 1 by unfold updN; rw [if_pos rfl]]
      omega
end
