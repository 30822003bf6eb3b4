/-! the reference solves: one stand from its kids, all stands by age; the calls stands and solve -/
theorem solveOne_m {b g o : Nat} (hL : Lw b g o) {r : Int64} (hr : SW r) {L : List Int64} {xs : Nat → Int64} {pl : Nat → Int32} (h : BI b g o r L xs pl) (hcl : ∀ x, x ∈ L → ∀ y, y ∈ kX b g o x → y ∈ L) {k : Nat} {x : Int64} (hk : L[k]? = some x) {rs la bm : Nat → Int32} (hK : ∀ v y, L[v]? = some y → oX x < oX y → Slv b g o y v rs la bm) (my : Int32) (A B : Nat → Int32) : ∃ rs' la' bm' my' A' B', f_X10_solveOne (nI b) (nI g) (nI o) my xs pl rs la bm A B (nI k) = some (rs', la', bm', my', A', B') ∧ Slv b g o x k rs' la' bm' ∧ ∀ j, j ≠ k → rs' j = rs j ∧ la' j = la j ∧ bm' j = bm j := by
  obtain ⟨hk1, hk2⟩ := List.getElem?_eq_some_iff.mp hk
  have hxL : x ∈ L := by rw [← hk2]; exact List.getElem_mem hk1
  have hSx : SW x := rch_sw hL hr (h.2.2.1 x hxL)
  have h24 := mX_len (b := b) (g := g) (o := o) hSx
  have hl := h.2.1
  have hxk : xs k = x := by rw [h.2.2.2.1 k hk1, hk2]
  have hb4 := bX_lt b g o x hSx.1.1
  have n1 : ¬ (nI k < 0 ∨ 20001 ≤ k) := by have := notin (i := k) (n := 20001) (by omega) (by omega); rw [nI_clamp (by omega)] at this; exact this
  rw [f_X10_solveOne, nI_clamp (by omega), if_neg n1, hxk, brought_x hL hSx, Option.bind_some]
  by_cases hm : mX b g o x = []
  · have hb0 := mX_nil.mp hm
    have hv : vX b g o x = sc0 b g o x := by rw [vX_eq hL hSx, if_pos hm]
    have hB : ∀ s, f_X10_solveOne_B49 my rs la bm A B (nI k) s = some (upd rs k s, upd la k 0, upd bm k (-6), my, A, B) := by
      intro s
      rw [f_X10_solveOne_B49, nI_clamp (by omega), if_neg n1, jle, if_neg n1, jle, if_neg n1, jle]
    have hof : ∀ s j, j ≠ k → upd rs k s j = rs j ∧ upd la k 0 j = la j ∧ upd bm k (-6) j = bm j := fun s j hj => by
      rw [updI_at, updI_at, updI_at, if_neg hj, if_neg hj, if_neg hj]
      exact ⟨rfl, rfl, rfl⟩
    have hS : ∀ s v, sc0 b g o x = v → s = nI (rsS v) → lnS v = 0 → Slv b g o x k (upd rs k s) (upd la k 0) (upd bm k (-6)) := by
      intro s v e1 e2 e3
      refine ⟨?_, ?_, ?_⟩
      · rw [updI_at, if_pos rfl, hv, e1, e2]
      · rw [updI_at, if_pos rfl, hv, e1, e3]; rfl
      · rw [updI_at, if_pos rfl, bmM, hm, List.length_nil, if_pos rfl]
    rw [if_neg (fun e => hb0 (by rw [show (0 : Int32) = nI 0 from rfl, nI_eq (by omega) (by omega)] at e; exact e))]
    by_cases h3 : bX b g o x = 3
    · rw [h3, if_pos (show nI 3 = (3 : Int32) from rfl), hB]
      exact ⟨_, _, _, _, _, _, rfl, hS 0 128 (by unfold sc0; rw [if_pos h3]) (by decide) (by decide), hof 0⟩
    · rw [if_neg (fun e => h3 (by rw [show (3 : Int32) = nI 3 from rfl, nI_eq (by omega) (by omega)] at e; exact e)), if_neg n1, turn_xm hSx, one_add]
      have ht := hSx.1.1
      by_cases h4 : bX b g o x = dT x + 1
      · rw [if_pos (by rw [h4]), hB]
        exact ⟨_, _, _, _, _, _, rfl, hS 1 512 (by unfold sc0; rw [if_neg h3, if_pos h4]) (by decide) (by decide), hof 1⟩
      · rw [if_neg (fun e => h4 (by rw [nI_eq (by omega) (by omega)] at e; exact e)), hB]
        exact ⟨_, _, _, _, _, _, rfl, hS 2 1 (by unfold sc0; rw [if_neg h3, if_neg h4]) (by decide) (by decide), hof 2⟩
  · have hb0 : bX b g o x = 0 := Classical.byContradiction (fun e => hm (mX_nil.mpr e))
    have hpos : 0 < (mX b g o x).length := List.length_pos_iff.mpr hm
    rw [hb0, if_pos (show nI 0 = (0 : Int32) from rfl), if_neg n1, findMoves_x hL hSx, Option.bind_some, if_neg n1, jle]
    dsimp only
    obtain ⟨rs', la', bm', s1, s2, s3⟩ := solve_loop hL hr h hcl hk (A := wrL A 0 ((mX b g o x).map (fun q => nI q.1))) (B := wrL B 0 ((mX b g o x).map (fun q => nI q.2))) (fun i hi => wr0 hi) (fun i hi => wr0 hi) (rs0 := rs) (la0 := la) (bm0 := upd bm k (-6)) (fun v y hv hlt => by
      obtain ⟨a1, a2, a3⟩ := hK v y hv hlt
      refine ⟨a1, a2, ?_⟩
      rw [updI_at, if_neg (fun e => by
        rw [e, hk] at hv
        have := Option.some.inj hv
        rw [← this] at hlt
        omega)]
      exact a3) 100 0 rs la (upd bm k (-6)) (by omega) (by omega) (fun j hj => ⟨rfl, rfl, rfl⟩) (Or.inl ⟨rfl, by rw [updI_at, if_pos rfl]⟩)
    rw [show nI 0 = (0 : Int32) from rfl] at s1
    rw [s1]
    refine ⟨_, _, _, _, _, _, rfl, ?_, fun j hj => ?_⟩
    · rcases s3 with ⟨e, -⟩ | ⟨-, q1, q2, q3⟩
      · omega
      · rw [bst_end hL hSx] at q1 q2
        exact ⟨q1, q2, q3⟩
    · obtain ⟨a1, a2, a3⟩ := s2 j hj
      rw [updI_at, if_neg hj] at a3
      exact ⟨a1, a2, a3⟩
abbrev saT : Type := Int32 → Int32 → Int32 → (Nat → Int64) → (Nat → Int32) → (Nat → Int32) → (Nat → Int32) → (Nat → Int32) → (Nat → Int32) → (Nat → Int32) → Option (Int32 × Int32 × (Nat → Int64) × (Nat → Int32) × (Nat → Int32) × (Nat → Int32) × (Nat → Int32) × Int32 × (Nat → Int32) × (Nat → Int32))
theorem age_loop {b g o : Nat} (hL : Lw b g o) {r : Int64} (hr : SW r) {L : List Int64} {xs : Nat → Int64} {pl : Nat → Int32} (h : BI b g o r L xs pl) (hcl : ∀ x, x ∈ L → ∀ y, y ∈ kX b g o x → y ∈ L) {K : saT} {a : Nat} (ha : a ≤ 60) : ∀ n k (rs la bm : Nat → Int32) (my : Int32) (A B : Nat → Int32), k ≤ L.length → L.length - k < n → (∀ v y, L[v]? = some y → (a < oX y ∨ (oX y = a ∧ v < k)) → Slv b g o y v rs la bm) → ∃ rs' la' bm' my' A' B', f_X10_solveAll_L20 K (nI b) (nI g) (nI o) (nI a) n (nI k) my (nI L.length) xs pl rs la bm A B = K (nI a + (-1)) my' (nI L.length) xs pl rs' la' bm' A' B' ∧ ∀ v y, L[v]? = some y → a ≤ oX y → Slv b g o y v rs' la' bm' := by
  have hl := h.2.1
  intro n
  induction n with
  | zero => intro k rs la bm my A B _ h; omega
  | succ n ih =>
    intro k rs la bm my A B hk hn hI
    rw [f_X10_solveAll_L20]
    by_cases he : k = L.length
    · rw [if_pos (nI_le (by omega) (by omega)), jle]
      refine ⟨rs, la, bm, my, A, B, rfl, fun v y hv hle => hI v y hv ?_⟩
      have := (List.getElem?_eq_some_iff.mp hv).1
      omega
    · have hk1 : k < L.length := by omega
      have hSx : SW L[k] := rch_sw hL hr (h.2.2.1 _ (List.getElem_mem hk1))
      have h60 := oX_le hSx
      rw [if_neg (nI_ge hk1 (by omega)), if_neg (notin (show k < 20001 by omega) (by omega)), nI_clamp (by omega), h.2.2.2.1 k hk1, oldness_m hSx, Option.bind_some]
      by_cases hc : oX L[k] = a
      · obtain ⟨rs', la', bm', my', A', B', s1, s2, s3⟩ := solveOne_m hL hr h hcl (List.getElem?_eq_getElem hk1) (rs := rs) (la := la) (bm := bm) (fun v y hv hlt => hI v y hv (Or.inl (by omega))) my A B
        rw [if_pos (by rw [hc]), s1, Option.bind_some, f_X10_solveAll_B49, jle, nI_1]
        refine ih (k + 1) rs' la' bm' my' A' B' (by omega) (by omega) (fun v y hv hcs => ?_)
        by_cases e : v = k
        · subst e
          rw [List.getElem?_eq_getElem hk1] at hv
          rw [← Option.some.inj hv]
          exact s2
        · obtain ⟨q1, q2, q3⟩ := s3 v e
          obtain ⟨w1, w2, w3⟩ := hI v y hv (by omega)
          exact ⟨by rw [q1]; exact w1, by rw [q2]; exact w2, by rw [q3]; exact w3⟩
      · rw [if_neg (fun e => hc (by rw [nI_eq (by omega) (by omega)] at e; exact e)), f_X10_solveAll_B49, jle, nI_1]
        refine ih (k + 1) rs la bm my A B (by omega) (by omega) (fun v y hv hcs => ?_)
        by_cases e : v = k
        · subst e
          rw [List.getElem?_eq_getElem hk1] at hv
          have := Option.some.inj hv
          rw [← this] at hcs
          rw [← this]
          rcases hcs with hcs | hcs
          · exact hI v _ (List.getElem?_eq_getElem hk1) (Or.inl hcs)
          · exact absurd hcs.1 hc
        · exact hI v y hv (by omega)
theorem ages_loop {b g o : Nat} (hL : Lw b g o) {r : Int64} (hr : SW r) {L : List Int64} {xs : Nat → Int64} {pl : Nat → Int32} (h : BI b g o r L xs pl) (hcl : ∀ x, x ∈ L → ∀ y, y ∈ kX b g o x → y ∈ L) : ∀ n a (rs la bm : Nat → Int32) (my : Int32) (A B : Nat → Int32), a ≤ 60 → a + 1 < n → (∀ v y, L[v]? = some y → a < oX y → Slv b g o y v rs la bm) → ∃ rs' la' bm' my' A' B', f_X10_solveAll_L13 (nI b) (nI g) (nI o) n (nI a) my (nI L.length) xs pl rs la bm A B = some (1, nI L.length, xs, pl, rs', la', bm', my', A', B') ∧ ∀ v y, L[v]? = some y → Slv b g o y v rs' la' bm' := by
  have hl := h.2.1
  intro n
  induction n with
  | zero => intro a rs la bm my A B _ h; omega
  | succ n ih =>
    intro a rs la bm my A B ha hn hI
    obtain ⟨rs', la', bm', my', A', B', s1, s2⟩ := age_loop hL hr h hcl (K := f_X10_solveAll_L13 (nI b) (nI g) (nI o) n) ha 20003 0 rs la bm my A B (by omega) (by omega) (fun v y hv hcs => hI v y hv (by omega))
    rw [show nI 0 = (0 : Int32) from rfl] at s1
    rw [f_X10_solveAll_L13, if_neg (nI_pos (by omega)), s1]
    cases a with
    | zero =>
      cases n with
      | zero => omega
      | succ n =>
        rw [f_X10_solveAll_L13, if_pos (show nI 0 + (-1) < (0 : Int32) by decide)]
        exact ⟨rs', la', bm', my', A', B', rfl, fun v y hv => s2 v y hv (Nat.zero_le _)⟩
    | succ a =>
      have e : nI (a + 1) + (-1) = nI a := by
        rw [← nI_s1 a]
        exact (Int32.sub_eq_add_neg ..).symm
      rw [e]
      exact ih a rs' la' bm' my' A' B' (by omega) (by omega) (fun v y hv hlt => s2 v y hv (by omega))
theorem solveAll_m {b g o : Nat} (hL : Lw b g o) {r : Int64} (hr : SW r) (my ms : Int32) (xs : Nat → Int64) (pl rs la bm A B : Nat → Int32) : ∃ fl ms' xs' pl' rs' la' bm' my' A' B', f_X10_solveAll (nI b) (nI g) (nI o) my ms xs pl rs la bm A B r = some (fl, ms', xs', pl', rs', la', bm', my', A', B') ∧ ((fl = 0 ∧ Many b g o r) ∨ (fl = 1 ∧ ∃ m, m ≤ 20000 ∧ Few b g o r m ∧ Slv b g o r 0 rs' la' bm')) := by
  obtain ⟨fl, L, xs', pl', my', A', B', h1, h2, h3, h4⟩ := findStands_m hL hr my ms xs pl A B
  have hr2 : r ∈ L := List.mem_of_getElem? h3
  rw [f_X10_solveAll, h1, Option.bind_some]
  rcases h4 with ⟨rfl, h4⟩ | ⟨rfl, h4, h5⟩
  · rw [if_pos rfl]
    exact ⟨_, _, _, _, _, _, _, _, _, _, rfl, Or.inl ⟨rfl, L, h2.1, h4, h2.2.2.1⟩⟩
  · rw [if_neg (show ¬ (1 : Int32) = 0 by decide)]
    dsimp only
    obtain ⟨rs', la', bm', my2, A2, B2, s1, s2⟩ := ages_loop hL hr h2 h5 20003 60 rs la bm my' A' B' (by omega) (by omega) (fun v y hv hlt => by
      have hy : y ∈ L := List.mem_of_getElem? hv
      have := oX_le (rch_sw hL hr (h2.2.2.1 y hy))
      omega)
    rw [show nI 60 = (60 : Int32) from rfl] at s1
    rw [s1]
    exact ⟨_, _, _, _, _, _, _, _, _, _, rfl, Or.inr ⟨rfl, L.length, h4, few_of h2.1 hr2 h2.2.2.1 h5, s2 0 r h3⟩⟩
