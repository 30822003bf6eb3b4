/-! the reference's stands: adding one, finding all -/
def BI (b g o : Nat) (r : Int64) (L : List Int64) (xs : Nat → Int64) (pl : Nat → Int32) : Prop :=
  L.Nodup ∧ L.length ≤ 20001 ∧ (∀ x, x ∈ L → Rch b g o r x) ∧ (∀ i (h : i < L.length), xs i = L[i]) ∧ Tab 65536 stM (cM xs pl) L ∧ ∀ p, p < 65536 → pl p = 0 ∨ ∃ i, i < L.length ∧ pl p = nI (i + 1)
theorem BI.ok {b g o : Nat} {r : Int64} {L : List Int64} {xs : Nat → Int64} {pl : Nat → Int32} (h : BI b g o r L xs pl) : ∀ p, p < 65536 → pl p = 0 ∨ ∃ i, i < 20001 ∧ pl p = nI (i + 1) := by
  intro p hp
  rcases h.2.2.2.2.2 p hp with h1 | ⟨i, hi, h1⟩
  · exact Or.inl h1
  · have := h.2.1
    exact Or.inr ⟨i, by omega, h1⟩
theorem nI_s0 {i : Nat} (hi : i + 1 < 2 ^ 31) : ¬ nI (i + 1) = 0 := by
  intro e
  rw [show (0 : Int32) = nI 0 from rfl, nI_eq (by omega) (by omega)] at e
  omega
theorem nI_s1 (i : Nat) : nI (i + 1) - 1 = nI i := by rw [show (1 : Int32) = nI 1 from rfl, nI_sub (by omega)]; rfl
theorem cM_at {xs : Nat → Int64} {pl : Nat → Int32} {p i : Nat} (h : pl p = nI (i + 1)) (hi : i < 20001) : cM xs pl p = some (xs i) := by
  unfold cM
  rw [h, if_neg (nI_s0 (by omega)), nI_s1, nI_clamp (by omega)]
theorem add_m {b g o : Nat} {r : Int64} {L : List Int64} {xs : Nat → Int64} {pl : Nat → Int32} (h : BI b g o r L xs pl) {x : Int64} (hx : Rch b g o r x) : ∃ L' xs' pl', f_X10_addStand (nI L.length) xs pl x = some (nI L'.length, xs', pl') ∧ BI b g o r L' xs' pl' ∧ (∃ M, L' = L ++ M) ∧ (x ∈ L' ∨ L'.length = 20001) ∧ (L' = L ∨ L' = L ++ [x]) := by
  obtain ⟨h1, h2, h3, h4, h5, h6⟩ := id h
  obtain ⟨j, p1, p2, p3, p4⟩ := placeOf_m h5 (by omega) h.ok x
  have hp : (stM x + j) % 65536 < 65536 := Nat.mod_lt _ (by omega)
  have n2 : ¬ (nI ((stM x + j) % 65536) < 0 ∨ 65536 ≤ (stM x + j) % 65536) := by have := notin (i := (stM x + j) % 65536) (n := 65536) hp (by omega); rw [nI_clamp (by omega)] at this; exact this
  rw [f_X10_addStand, p2, Option.bind_some, nI_clamp (by omega), if_neg n2]
  rcases p4 with ⟨q1, q2⟩ | ⟨q1, q2⟩
  · have hz : pl ((stM x + j) % 65536) = 0 := by
      rcases h6 _ hp with e | ⟨i, hi, e⟩
      · exact e
      · rw [cM_at e (by omega)] at q1
        cases q1
    rw [if_pos hz]
    by_cases hn : L.length = 20001
    · rw [if_pos (show (20000 : Int32) < nI L.length from nI_lt (a := 20000) (by omega) (by omega))]
      exact ⟨L, xs, pl, rfl, h, ⟨[], by rw [List.append_nil]⟩, Or.inr hn, Or.inl rfl⟩
    · rw [if_neg (show ¬ (20000 : Int32) < nI L.length from fun e => by rw [show (20000 : Int32) = nI 20000 from rfl, nI_ltI (by omega) (by omega)] at e; omega), if_neg (notin (show L.length < 20001 by omega) (by omega)), jle, nI_1, jle, if_neg n2, jle, nI_clamp (show L.length < 2 ^ 31 by omega)]
      have hl : (L ++ [x]).length = L.length + 1 := by rw [List.length_append, List.length_singleton]
      have hcc : ∀ p, p < 65536 → cM (vp_updL xs L.length x) (upd pl ((stM x + j) % 65536) (nI (L.length + 1))) p = if p = (stM x + j) % 65536 then some x else cM xs pl p := by
        intro p hpp
        by_cases e : p = (stM x + j) % 65536
        · rw [if_pos e, cM_at (i := L.length) (by rw [updI_at, if_pos e]) (by omega), updL_at, if_pos rfl]
        · rw [if_neg e]
          have e2 : upd pl ((stM x + j) % 65536) (nI (L.length + 1)) p = pl p := by rw [updI_at, if_neg e]
          rcases h6 p hpp with e3 | ⟨i, hi, e3⟩
          · unfold cM
            rw [e2, if_pos e3, if_pos e3]
          · rw [cM_at (i := i) (by rw [e2, e3]) (by omega), cM_at e3 (by omega), updL_at, if_neg (by omega)]
      refine ⟨L ++ [x], _, _, by rw [hl], ⟨nodup_snoc h1 q2, by omega, fun y hy => ?_, fun i hi => ?_, tab_ins h5 p1 p3 q1 q2 hcc, fun p hpp => ?_⟩, ⟨[x], rfl⟩, Or.inl (List.mem_append_right _ (List.mem_cons_self ..)), Or.inr rfl⟩
      · rcases List.mem_append.mp hy with e | e
        · exact h3 y e
        · rw [List.mem_singleton] at e
          rw [e]
          exact hx
      · rw [updL_at]
        by_cases e : i = L.length
        · subst e
          rw [if_pos rfl, List.getElem_append_right (Nat.le_refl _)]
          simp
        · rw [if_neg e, List.getElem_append_left (by omega)]
          exact h4 i (by omega)
      · rw [updI_at]
        by_cases e : p = (stM x + j) % 65536
        · rw [if_pos e]
          exact Or.inr ⟨L.length, by omega, rfl⟩
        · rw [if_neg e]
          rcases h6 p hpp with e3 | ⟨i, hi, e3⟩
          · exact Or.inl e3
          · exact Or.inr ⟨i, by omega, e3⟩
  · have hz : ¬ pl ((stM x + j) % 65536) = 0 := fun e => by
      unfold cM at q1
      rw [if_pos e] at q1
      cases q1
    rw [if_neg hz]
    exact ⟨L, xs, pl, rfl, h, ⟨[], by rw [List.append_nil]⟩, Or.inl q2, Or.inl rfl⟩
abbrev fsT : Type := Int32 → Int32 → Int32 → (Nat → Int64) → (Nat → Int32) → (Nat → Int32) → (Nat → Int32) → Option (Int32 × Int32 × (Nat → Int64) × (Nat → Int32) × Int32 × (Nat → Int32) × (Nat → Int32))
theorem find_kids {b g o : Nat} (hL : Lw b g o) {r : Int64} (hr : SW r) {x : Int64} {K : fsT} {k : Nat} {A B : Nat → Int32} (hA : ∀ i (h : i < (mX b g o x).length), A i = nI (mX b g o x)[i].1) (hB : ∀ i (h : i < (mX b g o x).length), B i = nI (mX b g o x)[i].2) : ∀ n i (L : List Int64) (xs : Nat → Int64) (pl : Nat → Int32), BI b g o r L xs pl → L[k]? = some x → i ≤ (mX b g o x).length → (mX b g o x).length - i < n → ((∀ c, c < i → (kX b g o x).getD c 0 ∈ L) ∨ L.length = 20001) → ∃ L' xs' pl', f_X10_findStands_L64 K (nI k) n (nI i) (nI (mX b g o x).length) (nI L.length) xs pl A B = K (nI (k + 1)) (nI (mX b g o x).length) (nI L'.length) xs' pl' A B ∧ BI b g o r L' xs' pl' ∧ (∃ M, L' = L ++ M) ∧ ((∀ c, c < (mX b g o x).length → (kX b g o x).getD c 0 ∈ L') ∨ L'.length = 20001) := by
  intro n
  induction n with
  | zero => intro i L xs pl _ _ _ h; omega
  | succ n ih =>
    intro i L xs pl h hk hi hn hc
    obtain ⟨hk1, hk2⟩ := List.getElem?_eq_some_iff.mp hk
    have hxL : x ∈ L := by rw [← hk2]; exact List.getElem_mem hk1
    have hSx : SW x := rch_sw hL hr (h.2.2.1 x hxL)
    have h24 := mX_len (b := b) (g := g) (o := o) hSx
    have hl := h.2.1
    rw [f_X10_findStands_L64]
    by_cases he : i = (mX b g o x).length
    · rw [if_pos (nI_le (by omega) (by omega)), jle, nI_1]
      refine ⟨L, xs, pl, rfl, h, ⟨[], by rw [List.append_nil]⟩, ?_⟩
      rw [← he]
      exact hc
    · have hlt : i < (mX b g o x).length := by omega
      have hxk : xs k = x := by rw [h.2.2.2.1 k hk1, hk2]
      obtain ⟨L', xs', pl', a1, a2, ⟨M, a3⟩, a4, -⟩ := add_m h ((h.2.2.1 x hxL).step (kX_getD hlt).2)
      rw [if_neg (nI_ge hlt (by omega)), if_neg (notin (show k < 20001 by omega) (by omega)), if_neg (notin (show i < 75 by omega) (by omega)), if_neg (notin (show i < 75 by omega) (by omega)), nI_clamp (show k < 2 ^ 31 by omega), nI_clamp (show i < 2 ^ 31 by omega), hxk, hA i hlt, hB i hlt, gone_x hL hSx hlt, Option.bind_some, a1, Option.bind_some, jle, nI_1]
      have hk' : L'[k]? = some x := by
        rw [a3, List.getElem?_append_left hk1]
        exact hk
      obtain ⟨L2, xs2, pl2, b1, b2, ⟨M2, b3⟩, b4⟩ := ih (i + 1) L' xs' pl' a2 hk' (by omega) (by omega) (by
        have hlen : L'.length = L.length + M.length := by rw [a3, List.length_append]
        have hl' := a2.2.1
        rcases hc with hc | hc
        · rcases a4 with a4 | a4
          · left
            intro c hcc
            by_cases e : c = i
            · rw [e]; exact a4
            · rw [a3]; exact List.mem_append_left _ (hc c (by omega))
          · exact Or.inr a4
        · right
          omega)
      exact ⟨L2, xs2, pl2, b1, b2, ⟨M ++ M2, by rw [b3, a3, List.append_assoc]⟩, b4⟩
theorem find_all {b g o : Nat} (hL : Lw b g o) {r : Int64} (hr : SW r) : ∀ n k (L : List Int64) (xs : Nat → Int64) (pl : Nat → Int32) (my : Int32) (A B : Nat → Int32), BI b g o r L xs pl → k ≤ L.length → 20001 - k < n → ((∀ i (h : i < L.length), i < k → ∀ y, y ∈ kX b g o L[i] → y ∈ L) ∨ L.length = 20001) → ∃ fl L' xs' pl' my' A' B', f_X10_findStands_L33 (nI b) (nI g) (nI o) n (nI k) my (nI L.length) xs pl A B = some (fl, nI L'.length, xs', pl', my', A', B') ∧ BI b g o r L' xs' pl' ∧ (∃ M, L' = L ++ M) ∧ ((fl = 0 ∧ L'.length = 20001) ∨ (fl = 1 ∧ L'.length ≤ 20000 ∧ ∀ x, x ∈ L' → ∀ y, y ∈ kX b g o x → y ∈ L')) := by
  intro n
  induction n with
  | zero => intro k L xs pl my A B _ _ h; omega
  | succ n ih =>
    intro k L xs pl my A B h hk hn hc
    have hl := h.2.1
    rw [f_X10_findStands_L33]
    have hend : (L.length ≤ k ∨ L.length = 20001) → ∃ fl L' xs' pl' my' A' B', f_X10_findStands_B112 my (nI L.length) xs pl A B = some (fl, nI L'.length, xs', pl', my', A', B') ∧ BI b g o r L' xs' pl' ∧ (∃ M, L' = L ++ M) ∧ ((fl = 0 ∧ L'.length = 20001) ∨ (fl = 1 ∧ L'.length ≤ 20000 ∧ ∀ x, x ∈ L' → ∀ y, y ∈ kX b g o x → y ∈ L')) := by
      intro hcs
      rw [f_X10_findStands_B112]
      by_cases h2 : L.length = 20001
      · rw [if_pos (show (20000 : Int32) < nI L.length from nI_lt (a := 20000) (by omega) (by omega))]
        exact ⟨_, L, _, _, _, _, _, rfl, h, ⟨[], by rw [List.append_nil]⟩, Or.inl ⟨rfl, h2⟩⟩
      · rw [if_neg (show ¬ (20000 : Int32) < nI L.length from fun e => by rw [show (20000 : Int32) = nI 20000 from rfl, nI_ltI (by omega) (by omega)] at e; omega)]
        refine ⟨_, L, _, _, _, _, _, rfl, h, ⟨[], by rw [List.append_nil]⟩, Or.inr ⟨rfl, by omega, fun x hx y hy => ?_⟩⟩
        obtain ⟨i, hi, e⟩ := List.mem_iff_getElem.mp hx
        rcases hc with hc | hc
        · exact hc i hi (by omega) y (by rw [e]; exact hy)
        · exact absurd hc h2
    by_cases he : L.length ≤ k
    · rw [if_pos (nI_le he (by omega))]
      exact hend (Or.inl he)
    · rw [if_neg (nI_ge (by omega) (by omega))]
      by_cases h2 : L.length = 20001
      · rw [if_pos (show (20000 : Int32) < nI L.length from nI_lt (a := 20000) (by omega) (by omega))]
        exact hend (Or.inr h2)
      · have hk1 : k < L.length := by omega
        have hxL : L[k] ∈ L := List.getElem_mem hk1
        have hSx : SW L[k] := rch_sw hL hr (h.2.2.1 _ hxL)
        have h24 := mX_len (b := b) (g := g) (o := o) hSx
        rw [if_neg (show ¬ (20000 : Int32) < nI L.length from fun e => by rw [show (20000 : Int32) = nI 20000 from rfl, nI_ltI (by omega) (by omega)] at e; omega), if_neg (notin (show k < 20001 by omega) (by omega)), nI_clamp (show k < 2 ^ 31 by omega), h.2.2.2.1 k hk1, findMoves_x hL hSx, Option.bind_some]
        dsimp only
        obtain ⟨L', xs', pl', a1, a2, ⟨M, a3⟩, a4⟩ := find_kids hL hr (x := L[k]) (K := f_X10_findStands_L33 (nI b) (nI g) (nI o) n) (k := k) (A := wrL A 0 ((mX b g o L[k]).map (fun q => nI q.1))) (B := wrL B 0 ((mX b g o L[k]).map (fun q => nI q.2))) (fun i hi => wr0 hi) (fun i hi => wr0 hi) 65537 0 L xs pl h (List.getElem?_eq_getElem hk1) (by omega) (by omega) (Or.inl (fun c hcc => absurd hcc (Nat.not_lt_zero _)))
        rw [show nI 0 = (0 : Int32) from rfl] at a1
        rw [a1]
        have hlen : L'.length = L.length + M.length := by rw [a3, List.length_append]
        have hl' := a2.2.1
        obtain ⟨fl, L2, xs2, pl2, my2, A2, B2, b1, b2, ⟨M2, b3⟩, b4⟩ := ih (k + 1) L' xs' pl' (nI (mX b g o L[k]).length) _ _ a2 (by omega) (by omega) (by
          rcases hc with hc | hc
          · rcases a4 with a4 | a4
            · left
              intro i hi hik y hy
              have hiL : i < L.length := by omega
              have e1 : L'[i] = L[i] := by
                have := List.getElem?_append_left (l₁ := L) (l₂ := M) hiL
                rw [← a3, List.getElem?_eq_getElem hi, List.getElem?_eq_getElem hiL] at this
                exact Option.some.inj this
              rw [e1] at hy
              by_cases e : i = k
              · subst e
                obtain ⟨c, hc1, rfl⟩ := kX_idx hy
                exact a4 c hc1
              · rw [a3]
                exact List.mem_append_left _ (hc i hiL (by omega) y hy)
            · exact Or.inr a4
          · exact absurd hc h2)
        exact ⟨fl, L2, xs2, pl2, my2, A2, B2, b1, b2, ⟨M ++ M2, by rw [b3, a3, List.append_assoc]⟩, b4⟩
theorem zero_loop (rb rg ro : Int32) (st : Int64) (my ms : Int32) (xs : Nat → Int64) (A B : Nat → Int32) : ∀ n p (pl : Nat → Int32), p ≤ 65536 → 65536 - p < n → (∀ q, q < p → pl q = 0) → ∃ pl', (∀ q, q < 65536 → pl' q = 0) ∧ f_X10_findStands_L2 rb rg ro st n (nI p) my ms xs pl A B = Option.bind (f_X10_addStand 0 xs pl' st) (fun r28_9 => f_X10_findStands_L33 rb rg ro 65537 0 my r28_9.1 r28_9.2.1 r28_9.2.2 A B) := by
  intro n
  induction n with
  | zero => intro p pl _ h; omega
  | succ n ih =>
    intro p pl hp hn hz
    rw [f_X10_findStands_L2]
    by_cases he : p = 65536
    · subst he
      rw [if_pos (show (65536 : Int32) ≤ nI 65536 by decide)]
      exact ⟨pl, hz, rfl⟩
    · rw [if_neg (show ¬ (65536 : Int32) ≤ nI p from nI_ge (b := 65536) (by omega) (by omega)), if_neg (notin (show p < 65536 by omega) (by omega)), jle, jle, nI_1, nI_clamp (by omega)]
      exact ih (p + 1) (upd pl p 0) (by omega) (by omega) (fun q hq => by
        rw [updI_at]
        by_cases e : q = p
        · rw [if_pos e]
        · rw [if_neg e]; exact hz q (by omega))
theorem findStands_m {b g o : Nat} (hL : Lw b g o) {r : Int64} (hr : SW r) (my ms : Int32) (xs : Nat → Int64) (pl A B : Nat → Int32) : ∃ fl L xs' pl' my' A' B', f_X10_findStands (nI b) (nI g) (nI o) my ms xs pl A B r = some (fl, nI L.length, xs', pl', my', A', B') ∧ BI b g o r L xs' pl' ∧ L[0]? = some r ∧ ((fl = 0 ∧ L.length = 20001) ∨ (fl = 1 ∧ L.length ≤ 20000 ∧ ∀ x, x ∈ L → ∀ y, y ∈ kX b g o x → y ∈ L)) := by
  obtain ⟨p0, z1, z2⟩ := zero_loop (nI b) (nI g) (nI o) r my ms xs A B 65537 0 pl (by omega) (by omega) (fun q hq => absurd hq (Nat.not_lt_zero _))
  rw [show nI 0 = (0 : Int32) from rfl] at z2
  have h0 : BI b g o r [] xs p0 := ⟨List.nodup_nil, by rw [List.length_nil]; omega, fun x hx => absurd hx List.not_mem_nil, fun i hi => absurd hi (Nat.not_lt_zero _), tab_nil (fun s hs => by unfold cM; rw [if_pos (z1 s hs)]), fun p hp => Or.inl (z1 p hp)⟩
  obtain ⟨L, xs1, pl1, a1, a2, -, a4, a5⟩ := add_m h0 (Rch.refl b g o r)
  have a1' : f_X10_addStand 0 xs p0 r = some (nI L.length, xs1, pl1) := a1
  have hLr : L = [r] := by
    rcases a5 with e | e
    · subst e
      rcases a4 with e | e
      · exact absurd e List.not_mem_nil
      · rw [List.length_nil] at e
        omega
    · exact e
  subst hLr
  obtain ⟨fl, L2, xs2, pl2, my2, A2, B2, b1, b2, ⟨M2, b3⟩, b4⟩ := find_all hL hr 65537 0 [r] xs1 pl1 my A B a2 (by omega) (by omega) (Or.inl (fun i hi hk => absurd hk (Nat.not_lt_zero _)))
  rw [show nI 0 = (0 : Int32) from rfl] at b1
  rw [f_X10_findStands, z2, a1', Option.bind_some]
  dsimp only
  rw [b1]
  exact ⟨fl, L2, xs2, pl2, my2, A2, B2, rfl, b2, by rw [b3]; rfl, b4⟩
theorem stands_m {b g o : Nat} (hL : Lw b g o) {r : Int64} (hr : SW r) (my ms : Int32) (xs : Nat → Int64) (pl A B : Nat → Int32) : ∃ ans q, f_X10_stands r (nI b) (nI g) (nI o) my ms xs pl A B = some (ans, q) ∧ ((ans = -4 ∧ Many b g o r) ∨ ∃ m, m ≤ 20000 ∧ Few b g o r m ∧ ans = nI m) := by
  obtain ⟨fl, L, xs', pl', my', A', B', h1, h2, h3, h4⟩ := findStands_m hL hr my ms xs pl A B
  have hr2 : r ∈ L := List.mem_of_getElem? h3
  rw [f_X10_stands, h1, Option.bind_some]
  rcases h4 with ⟨rfl, h4⟩ | ⟨rfl, h4, h5⟩
  · rw [if_pos rfl]
    exact ⟨_, _, rfl, Or.inl ⟨rfl, L, h2.1, h4, h2.2.2.1⟩⟩
  · rw [if_neg (show ¬ (1 : Int32) = 0 by decide)]
    exact ⟨_, _, rfl, Or.inr ⟨L.length, h4, few_of h2.1 hr2 h2.2.2.1 h5, rfl⟩⟩
