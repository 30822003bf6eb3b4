/-! rows of slots, tried one after another from a start on: the class's and the reference's -/
def Tab (N : Nat) (st : Int64 → Nat) (c : Nat → Option Int64) (L : List Int64) : Prop :=
  (∀ s, s < N → ∀ x, c s = some x → x ∈ L ∧ ∃ j, j < N ∧ s = (st x + j) % N ∧ ∀ i, i < j → c ((st x + i) % N) ≠ none) ∧
  (∀ x, x ∈ L → ∃ s, s < N ∧ c s = some x) ∧
  ∀ s, s < N → ∀ s', s' < N → ∀ x, c s = some x → c s' = some x → s = s'
theorem tab_gap {N : Nat} {st : Int64 → Nat} {c : Nat → Option Int64} {L : List Int64} (h : Tab N st c L) (hl : L.length < N) : ∃ s, s < N ∧ c s = none := by
  refine Classical.byContradiction (fun hn => ?_)
  have ha : ∀ s, s < N → ∃ x, c s = some x := by
    intro s hs
    cases hc : c s with
    | none => exact absurd ⟨s, hs, hc⟩ hn
    | some x => exact ⟨x, rfl⟩
  have h1 := nodup_le ((List.range N).map (fun s => (c s).getD 0)) L (by
    unfold List.Nodup
    rw [List.pairwise_map]
    refine List.Pairwise.imp_of_mem (R := fun a b => a < b) (fun {a b} hma hmb hlt he => ?_) List.pairwise_lt_range
    rw [List.mem_range] at hma hmb
    obtain ⟨x, hx⟩ := ha a hma
    obtain ⟨y, hy⟩ := ha b hmb
    rw [hx, hy] at he
    have he2 : x = y := he
    subst he2
    have := h.2.2 a hma b hmb x hx hy
    omega) (fun x hx => by
    obtain ⟨s, hs, rfl⟩ := List.mem_map.mp hx
    rw [List.mem_range] at hs
    obtain ⟨y, hy⟩ := ha s hs
    rw [hy]
    exact (h.1 s hs y hy).1)
  rw [List.length_map, List.length_range] at h1
  omega
theorem leastP (P : Nat → Prop) : ∀ n, P n → ∃ j, j ≤ n ∧ P j ∧ ∀ i, i < j → ¬ P i := by
  intro n
  induction n using Nat.strongRecOn with
  | ind n ih =>
    intro hP
    by_cases hq : ∃ i, i < n ∧ P i
    · obtain ⟨i, hi, hPi⟩ := hq
      obtain ⟨j, h1, h2, h3⟩ := ih i hi hPi
      exact ⟨j, by omega, h2, h3⟩
    · exact ⟨n, Nat.le_refl _, hP, fun i hi hPi => hq ⟨i, hi, hPi⟩⟩
theorem tab_find {N : Nat} {st : Int64 → Nat} {c : Nat → Option Int64} {L : List Int64} (h : Tab N st c L) (hl : L.length < N) (x : Int64) (hst : st x < N) : ∃ j, j < N ∧ (∀ i, i < j → ∃ y, c ((st x + i) % N) = some y ∧ y ≠ x) ∧ ((c ((st x + j) % N) = none ∧ x ∉ L) ∨ (c ((st x + j) % N) = some x ∧ x ∈ L)) := by
  obtain ⟨s, hs, hc⟩ := tab_gap h hl
  have h0 : ∃ j0, j0 < N ∧ (st x + j0) % N = s := by
    by_cases hle : st x ≤ s
    · exact ⟨s - st x, by omega, by rw [show st x + (s - st x) = s by omega, Nat.mod_eq_of_lt hs]⟩
    · exact ⟨s + N - st x, by omega, by rw [show st x + (s + N - st x) = s + N by omega, Nat.add_mod_right, Nat.mod_eq_of_lt hs]⟩
  obtain ⟨j0, hj0, e0⟩ := h0
  obtain ⟨j, h1, h2, h3⟩ := leastP (fun j => c ((st x + j) % N) = none ∨ c ((st x + j) % N) = some x) j0 (Or.inl (by rw [e0]; exact hc))
  refine ⟨j, by omega, fun i hi => ?_, ?_⟩
  · cases hci : c ((st x + i) % N) with
    | none => exact absurd (Or.inl hci) (h3 i hi)
    | some y => exact ⟨y, rfl, fun e => h3 i hi (Or.inr (by rw [hci, e]))⟩
  · have hjN : (st x + j) % N < N := Nat.mod_lt _ (by omega)
    rcases h2 with h2 | h2
    · refine Or.inl ⟨h2, fun hx => ?_⟩
      obtain ⟨s', hs', hc'⟩ := h.2.1 x hx
      obtain ⟨-, j', hj', e', hp⟩ := h.1 s' hs' x hc'
      by_cases hlt : j < j'
      · exact hp j hlt h2
      · by_cases heq : j' = j
        · rw [e', heq, h2] at hc'
          cases hc'
        · exact h3 j' (by omega) (Or.inr (by rw [← e']; exact hc'))
    · exact Or.inr ⟨h2, (h.1 _ hjN x h2).1⟩
theorem tab_ins {N : Nat} {st : Int64 → Nat} {c c' : Nat → Option Int64} {L : List Int64} (h : Tab N st c L) {x : Int64} {j : Nat} (hj : j < N) (hp : ∀ i, i < j → ∃ y, c ((st x + i) % N) = some y ∧ y ≠ x) (hn : c ((st x + j) % N) = none) (hx : x ∉ L) (hc : ∀ s, s < N → c' s = if s = (st x + j) % N then some x else c s) : Tab N st c' (L ++ [x]) := by
  have hN : 0 < N := by omega
  have hjN : (st x + j) % N < N := Nat.mod_lt _ hN
  have keep : ∀ s, s < N → c s ≠ none → c' s ≠ none := by
    intro s hs hne
    rw [hc s hs]
    split
    · exact fun e => by cases e
    · exact hne
  refine ⟨fun s hs y hy => ?_, fun y hy => ?_, fun s hs s' hs' y hy hy' => ?_⟩
  · rw [hc s hs] at hy
    by_cases e : s = (st x + j) % N
    · rw [if_pos e] at hy
      have hyx : x = y := Option.some.inj hy
      subst hyx
      refine ⟨List.mem_append_right _ (List.mem_cons_self ..), j, hj, e, fun i hi => keep _ (Nat.mod_lt _ hN) ?_⟩
      obtain ⟨z, hz, -⟩ := hp i hi
      rw [hz]
      exact fun e => by cases e
    · rw [if_neg e] at hy
      obtain ⟨h1, j', h2, h3, h4⟩ := h.1 s hs y hy
      exact ⟨List.mem_append_left _ h1, j', h2, h3, fun i hi => keep _ (Nat.mod_lt _ hN) (h4 i hi)⟩
  · rcases List.mem_append.mp hy with h1 | h1
    · obtain ⟨s, hs, hs2⟩ := h.2.1 y h1
      refine ⟨s, hs, ?_⟩
      rw [hc s hs, if_neg (fun e => by rw [e, hn] at hs2; cases hs2)]
      exact hs2
    · have : y = x := by
        rcases List.mem_cons.mp h1 with e | e
        · exact e
        · cases e
      subst this
      exact ⟨_, hjN, by rw [hc _ hjN, if_pos rfl]⟩
  · rw [hc s hs] at hy
    rw [hc s' hs'] at hy'
    by_cases e : s = (st x + j) % N
    · rw [if_pos e] at hy
      by_cases e' : s' = (st x + j) % N
      · rw [e, e']
      · rw [if_neg e'] at hy'
        have hyx : x = y := Option.some.inj hy
        subst hyx
        exact absurd (h.1 s' hs' x hy').1 hx
    · rw [if_neg e] at hy
      by_cases e' : s' = (st x + j) % N
      · rw [if_pos e'] at hy'
        have hyx : x = y := Option.some.inj hy'
        subst hyx
        exact absurd (h.1 s hs x hy).1 hx
      · rw [if_neg e'] at hy'
        exact h.2.2 s hs s' hs' y hy hy'
theorem tab_congr {N : Nat} {st : Int64 → Nat} {c c' : Nat → Option Int64} {L : List Int64} (h : Tab N st c L) (hN : 0 < N) (e : ∀ s, s < N → c' s = c s) : Tab N st c' L := by
  refine ⟨fun s hs x hx => ?_, fun x hx => ?_, fun s hs s' hs' x hx hx' => ?_⟩
  · rw [e s hs] at hx
    obtain ⟨h1, j, h2, h3, h4⟩ := h.1 s hs x hx
    exact ⟨h1, j, h2, h3, fun i hi => by rw [e _ (Nat.mod_lt _ hN)]; exact h4 i hi⟩
  · obtain ⟨s, hs, hs2⟩ := h.2.1 x hx
    exact ⟨s, hs, by rw [e s hs]; exact hs2⟩
  · rw [e s hs] at hx
    rw [e s' hs'] at hx'
    exact h.2.2 s hs s' hs' x hx hx'
theorem tab_nil {N : Nat} {st : Int64 → Nat} {c : Nat → Option Int64} (e : ∀ s, s < N → c s = none) : Tab N st c [] :=
  And.intro (fun s hs x hx => by rw [e s hs] at hx; cases hx) (And.intro (fun x hx => by cases hx) (fun s hs s' hs' x hx _ => by rw [e s hs] at hx; cases hx))
theorem jle {α β : Type} (e : α) (f : α → β) : jlet e f = f e := Eq.trans (Eq.refl _) (Eq.refl _)
theorem i32_nI (z : Int32) : z = nI z.toBitVec.toNat := by
  apply Int32.toBitVec_inj.mp
  rw [nI_toBV]
  apply BitVec.eq_of_toNat_eq
  rw [BitVec.toNat_ofNat, Nat.mod_eq_of_lt z.toBitVec.isLt]
/-- the class's slots -/
def stC (x : Int64) : Nat := ((jlushr ((x ^^^ (jlushr x 29)) * (-7046029254386353131)) 49).toInt32).toBitVec.toNat % 32768
def cC (rd : Int32) (fi : Nat → Int64) (mk : Nat → Int32) (s : Nat) : Option Int64 := if jushr (mk s) 10 = rd then some (fi s) else none
theorem stC_lt (x : Int64) : stC x < 32768 := Nat.mod_lt _ (by omega)
theorem notin {i n : Nat} (h : i < n) (hn : n < 2 ^ 31) : ¬ (nI i < 0 ∨ n ≤ (nI i).toNatClampNeg) := by
  rw [nI_clamp (by omega)]
  intro e
  rcases e with e | e
  · exact nI_pos (by omega) e
  · omega
theorem filled_c (rd : Int32) (mk : Nat → Int32) {s : Nat} (hs : s < 32768) : f_X7_isFilled rd mk (nI s) = some (if jushr (mk s) 10 = rd then 1 else 0) := by
  unfold f_X7_isFilled
  rw [if_neg (notin hs (by omega)), nI_clamp (by omega)]
  split <;> rfl
theorem slot_loop {rd : Int32} {fi : Nat → Int64} {mk : Nat → Int32} {x : Int64} {j : Nat} (hj : j < 32768) (hp : ∀ i, i < j → ∃ y, cC rd fi mk ((stC x + i) % 32768) = some y ∧ y ≠ x) (hn : cC rd fi mk ((stC x + j) % 32768) = none ∨ cC rd fi mk ((stC x + j) % 32768) = some x) : ∀ n i, i ≤ j → j - i < n → f_X7_slotOf_L18 rd fi mk x ((jlushr ((x ^^^ (jlushr x 29)) * (-7046029254386353131)) 49).toInt32) n (nI i) = some (nI ((stC x + j) % 32768)) := by
  intro n
  induction n with
  | zero => intro i _ h; omega
  | succ n ih =>
    intro i hi hn2
    rw [f_X7_slotOf_L18]
    have e1 : ((jlushr ((x ^^^ (jlushr x 29)) * (-7046029254386353131)) 49).toInt32 + nI i) &&& 32767 = nI ((stC x + i) % 32768) := by
      rw [i32_nI ((jlushr ((x ^^^ (jlushr x 29)) * (-7046029254386353131)) 49).toInt32), nI_add, nI_and_pow (k := 15) (by omega) rfl]
      unfold stC
      rw [show (2 : Nat) ^ 15 = 32768 from rfl, Nat.mod_add_mod]
    have hs : (stC x + i) % 32768 < 32768 := Nat.mod_lt _ (by omega)
    have n2 : ¬ (nI ((stC x + i) % 32768) < 0 ∨ 32768 ≤ (stC x + i) % 32768) := by have := notin (i := (stC x + i) % 32768) (n := 32768) hs (by omega); rw [nI_clamp (by omega)] at this; exact this
    rw [if_neg (show ¬ (32768 : Int32) ≤ nI i from nI_ge (b := 32768) (by omega) (by omega)), e1, jle, filled_c rd mk hs, Option.bind_some, nI_clamp (by omega)]
    by_cases he : i = j
    · subst he
      unfold cC at hn
      by_cases hf : jushr (mk ((stC x + i) % 32768)) 10 = rd
      · rw [if_pos hf] at hn
        rw [if_pos hf, if_neg (by decide), if_neg n2]
        rcases hn with hn | hn
        · cases hn
        · rw [if_pos ((lg_cmp_eq _ _).mpr (Option.some.inj hn))]
      · rw [if_neg hf, if_pos rfl]
    · obtain ⟨y, hy1, hy2⟩ := hp i (by omega)
      unfold cC at hy1
      by_cases hf : jushr (mk ((stC x + i) % 32768)) 10 = rd
      · rw [if_pos hf] at hy1
        have hy3 := Option.some.inj hy1
        rw [if_pos hf, if_neg (by decide), if_neg n2, if_neg (fun e => hy2 (by rw [← hy3]; exact (lg_cmp_eq _ _).mp e)), jle, nI_1]
        exact ih (i + 1) (by omega) (by omega)
      · rw [if_neg hf] at hy1
        cases hy1
theorem slotOf_c {rd : Int32} {fi : Nat → Int64} {mk : Nat → Int32} {L : List Int64} (h : Tab 32768 stC (cC rd fi mk) L) (hl : L.length < 32768) (x : Int64) : ∃ j, j < 32768 ∧ f_X7_slotOf rd fi mk x = some (nI ((stC x + j) % 32768)) ∧ (∀ i, i < j → ∃ y, cC rd fi mk ((stC x + i) % 32768) = some y ∧ y ≠ x) ∧ ((cC rd fi mk ((stC x + j) % 32768) = none ∧ x ∉ L) ∨ (cC rd fi mk ((stC x + j) % 32768) = some x ∧ x ∈ L)) := by
  obtain ⟨j, h1, h2, h3⟩ := tab_find h hl x (stC_lt x)
  refine ⟨j, h1, ?_, h2, h3⟩
  have h5 := slot_loop h1 h2 (by rcases h3 with h3 | h3; exact Or.inl h3.1; exact Or.inr h3.1) 32769 0 (by omega) (by omega)
  rw [show nI 0 = (0 : Int32) from rfl] at h5
  rw [f_X7_slotOf, jle, h5]
/-- the reference's places -/
def stM (x : Int64) : Nat := ((jlshr (x * (-7046029254386353131)) 40).toInt32).toBitVec.toNat % 65536
def cM (xs : Nat → Int64) (pl : Nat → Int32) (p : Nat) : Option Int64 := if pl p = 0 then none else some (xs ((pl p - 1).toNatClampNeg))
theorem stM_lt (x : Int64) : stM x < 65536 := Nat.mod_lt _ (by omega)
theorem rem_next {p : Nat} (hp : p < 65536) : jrem (nI p + 1) 65536 = nI ((p + 1) % 65536) := by
  unfold jrem
  rw [nI_1]
  have e : nI (p + 1) / 65536 = nI ((p + 1) / 65536) := by
    by_cases h : p + 1 = 65536
    · rw [h]; decide +kernel
    · rw [Nat.div_eq_of_lt (by omega)]
      apply Int32.toInt_inj.mp
      rw [Int32.toInt_div_of_ne_right _ _ (by decide), nI_toInt (by omega)]
      have : (65536 : Int32).toInt = 65536 := by decide
      rw [this, Int.tdiv_eq_ediv_of_nonneg (by omega)]
      have : ((p + 1 : Nat) : Int) / 65536 = 0 := by omega
      rw [this]
      rfl
  rw [e, show (65536 : Int32) = nI 65536 from rfl, nI_mul, nI_sub (Nat.div_mul_le_self _ _)]
  congr 1
  omega
theorem place_loop {xs : Nat → Int64} {pl : Nat → Int32} {x : Int64} {j : Nat} (hj : j < 65536) (hok : ∀ p, p < 65536 → pl p = 0 ∨ ∃ i, i < 20001 ∧ pl p = nI (i + 1)) (hp : ∀ i, i < j → ∃ y, cM xs pl ((stM x + i) % 65536) = some y ∧ y ≠ x) (hn : cM xs pl ((stM x + j) % 65536) = none ∨ cM xs pl ((stM x + j) % 65536) = some x) : ∀ n i, i ≤ j → j - i < n → f_X10_placeOf_L13 xs pl x n (nI ((stM x + i) % 65536)) = some (nI ((stM x + j) % 65536)) := by
  intro n
  induction n with
  | zero => intro i _ h; omega
  | succ n ih =>
    intro i hi hn2
    have hs : (stM x + i) % 65536 < 65536 := Nat.mod_lt _ (by omega)
    rw [f_X10_placeOf_L13, if_neg (notin hs (by omega)), if_neg (notin hs (by omega)), nI_clamp (by omega)]
    have key : ∀ v, v < 20001 → pl ((stM x + i) % 65536) = nI (v + 1) → pl ((stM x + i) % 65536) - 1 = nI v ∧ ¬ pl ((stM x + i) % 65536) = 0 := by
      intro v hv e
      rw [e]
      refine ⟨?_, fun e2 => ?_⟩
      · rw [show (1 : Int32) = nI 1 from rfl, nI_sub (by omega)]
        rfl
      · rw [show (0 : Int32) = nI 0 from rfl, nI_eq (by omega) (by omega)] at e2
        omega
    by_cases he : i = j
    · subst he
      unfold cM at hn
      rcases hok _ hs with h0 | ⟨v, hv, h0⟩
      · rw [if_pos h0]
      · obtain ⟨k1, k2⟩ := key v hv h0
        rw [if_neg k2] at hn ⊢
        rw [k1] at hn ⊢
        rw [if_neg (notin hv (by omega))]
        rcases hn with hn | hn
        · cases hn
        · rw [if_pos ((lg_cmp_eq _ _).mpr (Option.some.inj hn))]
    · obtain ⟨y, hy1, hy2⟩ := hp i (by omega)
      unfold cM at hy1
      rcases hok _ hs with h0 | ⟨v, hv, h0⟩
      · rw [if_pos h0] at hy1; cases hy1
      · obtain ⟨k1, k2⟩ := key v hv h0
        rw [if_neg k2] at hy1 ⊢
        rw [k1] at hy1 ⊢
        rw [if_neg (notin hv (by omega)), if_neg (fun e => hy2 (by rw [← Option.some.inj hy1]; exact (lg_cmp_eq _ _).mp e))]
        rw [jle, rem_next hs, Nat.mod_add_mod, Nat.add_assoc]
        exact ih (i + 1) (by omega) (by omega)
theorem placeOf_m {xs : Nat → Int64} {pl : Nat → Int32} {L : List Int64} (h : Tab 65536 stM (cM xs pl) L) (hl : L.length < 65536) (hok : ∀ p, p < 65536 → pl p = 0 ∨ ∃ i, i < 20001 ∧ pl p = nI (i + 1)) (x : Int64) : ∃ j, j < 65536 ∧ f_X10_placeOf xs pl x = some (nI ((stM x + j) % 65536)) ∧ (∀ i, i < j → ∃ y, cM xs pl ((stM x + i) % 65536) = some y ∧ y ≠ x) ∧ ((cM xs pl ((stM x + j) % 65536) = none ∧ x ∉ L) ∨ (cM xs pl ((stM x + j) % 65536) = some x ∧ x ∈ L)) := by
  obtain ⟨j, h1, h2, h3⟩ := tab_find h hl x (stM_lt x)
  refine ⟨j, h1, ?_, h2, h3⟩
  have e1 : ((jlshr (x * (-7046029254386353131)) 40).toInt32) &&& 65535 = nI ((stM x + 0) % 65536) := by
    rw [i32_nI ((jlshr (x * (-7046029254386353131)) 40).toInt32), nI_and_pow (k := 16) (by omega) rfl]
    unfold stM
    rw [show (2 : Nat) ^ 16 = 65536 from rfl, Nat.add_zero, Nat.mod_mod]
  have h5 := place_loop h1 hok h2 (by rcases h3 with h3 | h3; exact Or.inl h3.1; exact Or.inr h3.1) 65537 0 (by omega) (by omega)
  rw [f_X10_placeOf, jle, e1, h5]
