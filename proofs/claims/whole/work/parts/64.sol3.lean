/-! the class's going through: what holds between two steps, and a step -/
def Fr (b g o : Nat) (L : List Int64) (rd : Nat) (fi : Nat → Int64) (mk : Nat → Int32) (pa : Nat → Int64) (ss li tt be ro : Nat → Int32) (k : Nat) (x : Int64) (t s : Nat) : Prop :=
  x ∈ L ∧ pa k = x ∧ s < 32768 ∧ ss k = nI s ∧ cC (nI rd) fi mk s = some x ∧ li k = nI (mX b g o x).length ∧ t ≤ (mX b g o x).length ∧ tt k = nI t ∧ be k = nI (bst b g o x t) ∧ (∀ i (_ : i < (mX b g o x).length), ro (24 * k + i) = cod (mX b g o x)[i]) ∧ ∀ i, i < t → (kX b g o x).getD i 0 ∈ L
def Cl (b g o : Nat) (L : List Int64) (rd : Nat) (fi : Nat → Int64) (mk : Nat → Int32) (d : Nat) (X : Nat → Int64) : Prop := ∀ s, s < 32768 → ∀ x, cC (nI rd) fi mk s = some x → (∃ k, k < d ∧ x = X k) ∨ (mk s &&& 1023 = nI (vX b g o x) ∧ ∀ y, y ∈ kX b g o x → y ∈ L)
def Ch (b g o : Nat) (r : Int64) (d : Nat) (X : Nat → Int64) (tr : Nat → Nat) : Prop := (0 < d → X 0 = r) ∧ ∀ k, k + 1 < d → tr k < (mX b g o (X k)).length ∧ X (k + 1) = (kX b g o (X k)).getD (tr k) 0
def DI (b g o : Nat) (r : Int64) (rd d : Nat) (L : List Int64) (X : Nat → Int64) (tr sl : Nat → Nat) (ssc sbm : Int32) (fi : Nat → Int64) (mk : Nat → Int32) (pa : Nat → Int64) (ss li tt be ro : Nat → Int32) : Prop :=
  (L.Nodup ∧ L.length ≤ 20000 ∧ r ∈ L ∧ ∀ x, x ∈ L → Rch b g o r x) ∧ (Tab 32768 stC (cC (nI rd) fi mk) L ∧ SmI rd mk) ∧ Ch b g o r d X tr ∧ (∀ k, k < d → Fr b g o L rd fi mk pa ss li tt be ro k (X k) (tr k) (sl k)) ∧ Cl b g o L rd fi mk d X ∧ sbm = bmC b g o r (tr 0) ∧ (d = 0 → tr 0 = (mX b g o r).length ∧ ssc = nI (vX b g o r))
def sm (tr : Nat → Nat) : Nat → Nat
  | 0 => 0
  | d + 1 => sm tr d + (25 - tr d)
theorem sm_congr {tr tr' : Nat → Nat} : ∀ d, (∀ k, k < d → tr k = tr' k) → sm tr d = sm tr' d := by
  intro d
  induction d with
  | zero => intro _; rfl
  | succ d ih =>
    intro h
    rw [sm, sm, ih (fun k hk => h k (by omega)), h d (by omega)]
theorem ch_old {b g o : Nat} (hL : Lw b g o) {r : Int64} {d : Nat} {X : Nat → Int64} {tr : Nat → Nat} (h : Ch b g o r d X tr) (hS : ∀ k, k < d → SW (X k)) : ∀ k, k < d → k ≤ oX (X k) ∧ ∀ m, m ≤ k → oX (X m) ≤ oX (X k) := by
  intro k
  induction k with
  | zero =>
    intro _
    refine ⟨Nat.zero_le _, fun m hm => ?_⟩
    have : m = 0 := by omega
    rw [this]
    exact Nat.le_refl _
  | succ k ih =>
    intro hk
    obtain ⟨i1, i2⟩ := ih (by omega)
    obtain ⟨c1, c2⟩ := h.2 k hk
    have hlt : oX (X k) < oX (X (k + 1)) := by
      rw [c2]
      exact oX_kid hL (hS k (by omega)) (kX_getD c1).2
    refine ⟨by omega, fun m hm => ?_⟩
    by_cases e : m = k + 1
    · rw [e]; exact Nat.le_refl _
    · have := i2 m (by omega)
      omega
theorem kX_idx {b g o : Nat} {x y : Int64} (h : y ∈ kX b g o x) : ∃ i, i < (mX b g o x).length ∧ y = (kX b g o x).getD i 0 := by
  obtain ⟨i, hi, e⟩ := List.mem_iff_getElem.mp h
  refine ⟨i, by rw [← kX_len]; exact hi, ?_⟩
  rw [List.getD_eq_getElem?_getD, List.getElem?_eq_getElem hi, ← e]
  rfl
theorem Fr.keep {b g o : Nat} {L L' : List Int64} {rd : Nat} {fi fi' : Nat → Int64} {mk mk' : Nat → Int32} {pa pa' : Nat → Int64} {ss li tt be ro ss' li' tt' be' ro' : Nat → Int32} {k : Nat} {x : Int64} {t s : Nat} (h : Fr b g o L rd fi mk pa ss li tt be ro k x t s) (hx : SW x) (hl : ∀ y, y ∈ L → y ∈ L') (hc : cC (nI rd) fi' mk' s = some x) (h1 : pa' k = pa k) (h2 : ss' k = ss k) (h3 : li' k = li k) (h4 : tt' k = tt k) (h5 : be' k = be k) (h6 : ∀ i, i < 24 → ro' (24 * k + i) = ro (24 * k + i)) : Fr b g o L' rd fi' mk' pa' ss' li' tt' be' ro' k x t s := by
  obtain ⟨f1, f2, f3, f4, f5, f6, f7, f8, f9, f10, f11⟩ := h
  have h24 := mX_len (b := b) (g := g) (o := o) hx
  exact ⟨hl x f1, by rw [h1]; exact f2, f3, by rw [h2]; exact f4, hc, by rw [h3]; exact f6, f7, by rw [h4]; exact f8, by rw [h5]; exact f9, fun i hi => by rw [h6 i (by omega)]; exact f10 i hi, fun i hi => hl _ (f11 i hi)⟩
theorem cC_fi {rd : Int32} {fi : Nat → Int64} {mk : Nat → Int32} {s : Nat} {x : Int64} (h : cC rd fi mk s = some x) : fi s = x ∧ jushr (mk s) 10 = rd := by
  unfold cC at h
  by_cases hc : jushr (mk s) 10 = rd
  · rw [if_pos hc] at h; exact ⟨Option.some.inj h, hc⟩
  · rw [if_neg hc] at h; cases h
section
variable {b g o : Nat} {r : Int64} {rd p : Nat} {L : List Int64} {X : Nat → Int64} {tr sl : Nat → Nat} {ssc sbm : Int32} {fi : Nat → Int64} {mk : Nat → Int32} {pa : Nat → Int64} {ss li tt be ro : Nat → Int32}
theorem close_c (hL : Lw b g o) (hr : SW r) (hrd : rd < 2 ^ 20) (h : DI b g o r rd (p + 1) L X tr sl ssc sbm fi mk pa ss li tt be ro) (ht : tr p = (mX b g o (X p)).length) : ∃ d' tr' ssc' sbm' mk' tt' be', f_X7_close (nI rd) (nI (p + 1)) ssc sbm mk ss tt be ro (nI p) = some (nI d', ssc', sbm', mk', tt', be') ∧ DI b g o r rd d' L X tr' sl ssc' sbm' fi mk' pa ss li tt' be' ro ∧ sm tr' d' + 1 ≤ sm tr (p + 1) := by
  obtain ⟨⟨l1, l2, l3, l4⟩, ⟨t1, t2⟩, c0, fr, cl, bm, -⟩ := h
  have hS : ∀ k, k < p + 1 → SW (X k) := fun k hk => rch_sw hL hr (l4 _ (fr k hk).1)
  have hO := (ch_old hL c0 hS p (by omega)).1
  have h60 := oX_le (hS p (by omega))
  have n1 : ¬ (nI p < 0 ∨ 64 ≤ p) := by have := notin (i := p) (n := 64) (by omega) (by omega); rw [nI_clamp (by omega)] at this; exact this
  obtain ⟨f1, f2, f3, f4, f5, f6, f7, f8, f9, f10, f11⟩ := fr p (by omega)
  have n2 : ¬ (nI (sl p) < 0 ∨ 32768 ≤ sl p) := by have := notin (i := sl p) (n := 32768) f3 (by omega); rw [nI_clamp (by omega)] at this; exact this
  have hv := vX_rng hL (hS p (by omega))
  have h24 := mX_len (b := b) (g := g) (o := o) (hS p (by omega))
  rw [ht, bst_end hL (hS p (by omega))] at f9
  have hcc : ∀ k, cC (nI rd) fi (upd mk (sl p) (nI (1024 * rd + vX b g o (X p)))) k = cC (nI rd) fi mk k := by
    intro k
    rw [cC_upd hrd (by omega)]
    by_cases e : k = sl p
    · rw [if_pos e, e, f5, (cC_fi f5).1]
    · rw [if_neg e]
  have hT := tab_congr t1 (by omega) (c' := cC (nI rd) fi (upd mk (sl p) (nI (1024 * rd + vX b g o (X p))))) (fun k _ => hcc k)
  have hM : SmI rd (upd mk (sl p) (nI (1024 * rd + vX b g o (X p)))) := smI_upd t2 (by omega)
  have hCl : Cl b g o L rd fi (upd mk (sl p) (nI (1024 * rd + vX b g o (X p)))) p X := by
    intro s hs x hx
    rw [hcc] at hx
    by_cases e : s = sl p
    · right
      rw [e, f5] at hx
      have hx2 := Option.some.inj hx
      subst hx2
      rw [updI_at, if_pos e, and1023 (by omega)]
      refine ⟨rfl, fun y hy => ?_⟩
      obtain ⟨i, hi, rfl⟩ := kX_idx hy
      exact f11 i (by omega)
    · rcases cl s hs x hx with ⟨k, hk, ek⟩ | ⟨h1, h2⟩
      · left
        by_cases e2 : k = p
        · rw [e2] at ek
          rw [ek] at hx
          exact absurd (t1.2.2 s hs (sl p) f3 _ hx f5) e
        · exact ⟨k, by omega, ek⟩
      · right
        rw [updI_at, if_neg e]
        exact ⟨h1, h2⟩
  rw [f_X7_close, nI_clamp (by omega), if_neg n1, jle, f4, if_neg (nI_pos (by omega)), if_neg (show ¬ (32768 : Int32) ≤ nI (sl p) from nI_ge (b := 32768) f3 (by omega)), if_neg n1, nI_clamp (by omega), if_neg n2, jle, f9, or10 (by omega), f_X7_close_B37]
  cases p with
  | zero =>
    rw [if_pos (show nI 0 ≤ (0 : Int32) by decide), if_neg (show ¬ (nI 0 < 0 ∨ 64 ≤ (nI 0).toNatClampNeg) by decide), jle, show (nI 0).toNatClampNeg = 0 from rfl, f9]
    have hX0 := c0.1 (by omega)
    refine ⟨0, tr, _, _, _, _, _, rfl, ⟨⟨l1, l2, l3, l4⟩, ⟨hT, hM⟩, ⟨fun e => absurd e (by omega), fun k hk => absurd hk (by omega)⟩, fun k hk => absurd hk (by omega), hCl, bm, fun _ => ⟨by rw [ht, hX0], by rw [hX0]⟩⟩, ?_⟩
    rw [sm, sm, sm]
    omega
  | succ q =>
    have hq64 : q < 64 := by omega
    obtain ⟨c1, c2⟩ := c0.2 q (by omega)
    obtain ⟨k1, k2, k3, k4, k5, k6, k7, k8, k9, k10, k11⟩ := fr q (by omega)
    have h24q := mX_len (b := b) (g := g) (o := o) (hS q (by omega))
    have e1 : nI (q + 1) - 1 = nI q := by rw [show (1 : Int32) = nI 1 from rfl, nI_sub (by omega)]; rfl
    obtain ⟨sbm', be', w1, w2, w3, w4, w5⟩ := weigh_c hL (hS q (by omega)) hq64 c1 sbm (tt := tt) (be := be) (ro := ro) k8 k9 (fun e j hj => by subst e; have := k10 j hj; rw [show 24 * 0 + j = j by omega] at this; exact this)
    rw [if_neg (show ¬ nI (q + 1) ≤ (0 : Int32) from nI_ge (a := 0) (b := q + 1) (by omega) (by omega)), nI_clamp (by omega), if_neg n1, f9, e1, c2, w1, Option.bind_some]
    dsimp only
    refine ⟨q + 1, updN tr q (tr q + 1), _, _, _, _, _, rfl, ⟨⟨l1, l2, l3, l4⟩, ⟨?_, ?_⟩, ⟨fun _ => c0.1 (by omega), fun k hk => ?_⟩, fun k hk => ?_, ?_, ?_, fun e => absurd e (by omega)⟩, ?_⟩
    · rw [← c2]; exact hT
    · rw [← c2]; exact hM
    · have : updN tr q (tr q + 1) k = tr k := by unfold updN; rw [if_neg (by omega)]
      rw [this]
      exact c0.2 k (by omega)
    · rw [← c2]
      by_cases e : k = q
      · subst e
        have ek : updN tr k (tr k + 1) k = tr k + 1 := by unfold updN; rw [if_pos rfl]
        rw [ek]
        refine ⟨k1, k2, k3, k4, by rw [hcc]; exact k5, k6, by omega, by rw [updI_at, if_pos rfl], w3, k10, fun i hi => ?_⟩
        by_cases e3 : i = tr k
        · rw [e3, ← c2]; exact f1
        · exact k11 i (by omega)
      · have ek : updN tr q (tr q + 1) k = tr k := by unfold updN; rw [if_neg e]
        rw [ek]
        exact (fr k (by omega)).keep (hS k (by omega)) (fun _ hy => hy) (by rw [hcc]; exact (fr k (by omega)).2.2.2.2.1) rfl rfl rfl (by rw [updI_at, if_neg e]) (w2 k e) (fun _ _ => rfl)
    · rw [← c2]; exact hCl
    · by_cases e : q = 0
      · subst e
        have ek : updN tr 0 (tr 0 + 1) 0 = tr 0 + 1 := by unfold updN; rw [if_pos rfl]
        have hX0 := c0.1 (by omega)
        rw [ek, ← hX0]
        exact w5 rfl (by rw [hX0]; exact bm)
      · have ek : updN tr q (tr q + 1) 0 = tr 0 := by unfold updN; rw [if_neg (by omega)]
        rw [ek, w4 e]
        exact bm
    · have ek : updN tr q (tr q + 1) q = tr q + 1 := by unfold updN; rw [if_pos rfl]
      have es : sm (updN tr q (tr q + 1)) q = sm tr q := sm_congr q (fun k hk => by unfold updN; rw [if_neg (by omega)])
      rw [sm, sm, sm, es, ek]
      omega
end
