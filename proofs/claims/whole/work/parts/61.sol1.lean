/-! solved, the mathematics: a stand as a long, its kids, what comes from one, how many, what it is worth -/
def dF (x : Int64) (m : Nat) : Nat := x.toBitVec.toNat / 2 ^ (9 * m) % 512
def dT (x : Int64) : Nat := x.toBitVec.toNat / 2 ^ 54 % 2
def SW (x : Int64) : Prop := Wf (dF x) (dT x) ∧ x = enc (dF x) (dT x)
theorem enc_nat {f : Nat → Nat} {t : Nat} (h : Dig f t) : (enc f t).toBitVec.toNat = encN f t := by
  have := encN_lt h
  unfold enc
  rw [lN_toBV, BitVec.toNat_ofNat, Nat.mod_eq_of_lt (by omega)]
theorem dF_enc {f : Nat → Nat} {t m : Nat} (h : Dig f t) (hm : m < 6) : dF (enc f t) m = f m := by
  unfold dF
  rw [enc_nat h, enc_dig h hm]
theorem dT_enc {f : Nat → Nat} {t : Nat} (h : Dig f t) : dT (enc f t) = t := by
  unfold dT
  rw [enc_nat h, enc_turn h]
theorem Wf.congr {f g : Nat → Nat} {t : Nat} (h : Wf f t) (e : ∀ m, m < 6 → f m = g m) : Wf g t := by
  refine ⟨h.1, fun m hm => ?_, fun m hm k hk => ?_⟩
  · rw [← e m hm]; exact h.2.1 m hm
  · rw [← e m hm, ← e k hk]; exact h.2.2 m hm k hk
theorem SW.of {f : Nat → Nat} {t : Nat} (h : Wf f t) : SW (enc f t) := by
  refine ⟨?_, ?_⟩
  · rw [dT_enc h.dig]
    exact h.congr (fun m hm => (dF_enc h.dig hm).symm)
  · rw [dT_enc h.dig]
    exact enc_congr (fun m hm => (dF_enc h.dig hm).symm)
def mX (b g o : Nat) (x : Int64) : List (Nat × Nat) := mvs b g o (dF x) (dT x)
def kX (b g o : Nat) (x : Int64) : List Int64 := (mX b g o x).map (fun q => enc (kid (dF x) q) (1 - dT x))
def bX (b g o : Nat) (x : Int64) : Nat := brS b g o (dF x) (dT x)
theorem kX_len (b g o : Nat) (x : Int64) : (kX b g o x).length = (mX b g o x).length := by unfold kX; rw [List.length_map]
theorem mX_len {b g o : Nat} {x : Int64} (h : SW x) : (mX b g o x).length ≤ 24 := mvs_len h.1
theorem kX_SW {b g o : Nat} {x y : Int64} (hL : Lw b g o) (h : SW x) (hy : y ∈ kX b g o x) : SW y := by
  unfold kX at hy
  obtain ⟨q, hq, rfl⟩ := List.mem_map.mp hy
  exact SW.of (kid_wf hL h.1 hq)
theorem kX_at {b g o : Nat} {x : Int64} {i : Nat} (hi : i < (mX b g o x).length) : (kX b g o x)[i]'(by rw [kX_len]; exact hi) = enc (kid (dF x) (mX b g o x)[i]) (1 - dT x) := by
  unfold kX
  rw [List.getElem_map]
def od (d : Nat) : Nat := if d % 32 = 31 then 10 else d / 32
def oX (x : Int64) : Nat := od (dF x 0) + od (dF x 1) + od (dF x 2) + od (dF x 3) + od (dF x 4) + od (dF x 5)
theorem od_le {f : Nat → Nat} {t m : Nat} (h : Wf f t) (hm : m < 6) : od (f m) ≤ 10 := by
  unfold od
  split
  · omega
  · rename_i hu
    have := h.cell hm hu
    omega
theorem oX_le {x : Int64} (h : SW x) : oX x ≤ 60 := by
  have h0 := od_le h.1 (m := 0) (by omega)
  have h1 := od_le h.1 (m := 1) (by omega)
  have h2 := od_le h.1 (m := 2) (by omega)
  have h3 := od_le h.1 (m := 3) (by omega)
  have h4 := od_le h.1 (m := 4) (by omega)
  have h5 := od_le h.1 (m := 5) (by omega)
  unfold oX
  omega
theorem od_ch {f : Nat → Nat} {t m c : Nat} (h : Wf f t) (hm : m < 6) (hc : c < 25) (h1 : f m % 32 < 25) : (∀ j, j < 6 → od (f j) ≤ od (chF f m c j)) ∧ od (f m) < od (chF f m c m) := by
  have e1 : od (f m) = f m / 32 := by unfold od; rw [if_neg (by omega)]
  have e2 : od (chF f m c m) = f m / 32 + 1 := by
    unfold od chF
    rw [if_pos rfl, if_neg (by omega)]
    omega
  refine ⟨fun j hj => ?_, by omega⟩
  by_cases hjm : j = m
  · subst hjm; omega
  · unfold chF
    rw [if_neg hjm]
    split
    · have := od_le h hj
      have e3 : od 31 = 10 := by decide
      omega
    · omega
theorem oX_kid {b g o : Nat} {x y : Int64} (hL : Lw b g o) (h : SW x) (hy : y ∈ kX b g o x) : oX x < oX y := by
  unfold kX at hy
  obtain ⟨⟨m, c⟩, hq, rfl⟩ := List.mem_map.mp hy
  have hw := kid_wf hL h.1 hq
  obtain ⟨hm, -, hc, hcan, -, -⟩ := mvs_mem h.1.1 hq
  obtain ⟨f1, f2, f3, f4⟩ := can_facts hL h.1 hm hc hcan
  obtain ⟨h1, h2⟩ := od_ch h.1 hm hc f1
  unfold oX
  rw [dF_enc hw.dig (by omega), dF_enc hw.dig (by omega), dF_enc hw.dig (by omega), dF_enc hw.dig (by omega), dF_enc hw.dig (by omega), dF_enc hw.dig (by omega)]
  unfold kid
  dsimp only
  have a0 := h1 0 (by omega)
  have a1 := h1 1 (by omega)
  have a2 := h1 2 (by omega)
  have a3 := h1 3 (by omega)
  have a4 := h1 4 (by omega)
  have a5 := h1 5 (by omega)
  rcases (show m = 0 ∨ m = 1 ∨ m = 2 ∨ m = 3 ∨ m = 4 ∨ m = 5 by omega) with e | e | e | e | e | e <;> subst e <;> omega
def Rch (b g o : Nat) (r x : Int64) : Prop := ∀ P : Int64 → Prop, P r → (∀ y, P y → ∀ z, z ∈ kX b g o y → P z) → P x
theorem Rch.refl (b g o : Nat) (r : Int64) : Rch b g o r r := fun _ h _ => h
theorem Rch.step {b g o : Nat} {r x y : Int64} (h : Rch b g o r x) (hy : y ∈ kX b g o x) : Rch b g o r y := fun P h0 h1 => h1 x (h P h0 h1) y hy
theorem rch_sw {b g o : Nat} {r x : Int64} (hL : Lw b g o) (hr : SW r) (h : Rch b g o r x) : SW x := h SW hr (fun _ hy _ hz => kX_SW hL hy hz)
theorem nodup_le : ∀ (L M : List Int64), L.Nodup → (∀ x, x ∈ L → x ∈ M) → L.length ≤ M.length := by
  intro L
  induction L with
  | nil => intro M _ _; exact Nat.zero_le _
  | cons a L ih =>
    intro M hn hs
    rw [List.nodup_cons] at hn
    have ha : a ∈ M := hs a (List.mem_cons_self ..)
    have h1 := ih (M.erase a) hn.2 (fun x hx => by
      have hne : x ≠ a := fun e => hn.1 (e ▸ hx)
      exact (List.mem_erase_of_ne hne).mpr (hs x (List.mem_cons_of_mem _ hx)))
    rw [List.length_erase_of_mem ha] at h1
    have h2 : 0 < M.length := List.length_pos_of_mem ha
    rw [List.length_cons]
    omega
def Few (b g o : Nat) (r : Int64) (n : Nat) : Prop := ∃ L : List Int64, L.Nodup ∧ L.length = n ∧ ∀ x, x ∈ L ↔ Rch b g o r x
def Many (b g o : Nat) (r : Int64) : Prop := ∃ L : List Int64, L.Nodup ∧ L.length = 20001 ∧ ∀ x, x ∈ L → Rch b g o r x
theorem few_many {b g o n : Nat} {r : Int64} (h : Few b g o r n) (hn : n ≤ 20000) (hm : Many b g o r) : False := by
  obtain ⟨L, h1, h2, h3⟩ := h
  obtain ⟨M, m1, m2, m3⟩ := hm
  have := nodup_le M L m1 (fun x hx => (h3 x).mpr (m3 x hx))
  omega
theorem few_few {b g o n m : Nat} {r : Int64} (h : Few b g o r n) (hm : Few b g o r m) : n = m := by
  obtain ⟨L, h1, h2, h3⟩ := h
  obtain ⟨M, m1, m2, m3⟩ := hm
  have a1 := nodup_le M L m1 (fun x hx => (h3 x).mpr ((m3 x).mp hx))
  have a2 := nodup_le L M h1 (fun x hx => (m3 x).mpr ((h3 x).mp hx))
  omega
theorem few_of {b g o : Nat} {r : Int64} {L : List Int64} (hn : L.Nodup) (hr : r ∈ L) (h1 : ∀ x, x ∈ L → Rch b g o r x) (h2 : ∀ x, x ∈ L → ∀ y, y ∈ kX b g o x → y ∈ L) : Few b g o r L.length :=
  ⟨L, hn, rfl, fun x => ⟨h1 x, fun h => h (fun z => z ∈ L) hr h2⟩⟩
def bef (s : Nat) : Nat := if 128 ≤ s then if 256 ≤ s then 514 - s else s + 1 else 512 - s
def sc0 (b g o : Nat) (x : Int64) : Nat := if bX b g o x = 3 then 128 else if bX b g o x = dT x + 1 then 512 else 1
def val (b g o : Nat) : Nat → Int64 → Nat
  | 0, _ => 0
  | n + 1, x => if mX b g o x = [] then sc0 b g o x else ((kX b g o x).map (fun y => bef (val b g o n y))).foldl max 0
def vX (b g o : Nat) (x : Int64) : Nat := val b g o 61 x
theorem val_st {b g o : Nat} (hL : Lw b g o) : ∀ n m x, SW x → 60 - oX x < n → 60 - oX x < m → val b g o n x = val b g o m x := by
  intro n
  induction n with
  | zero => intro m x _ h; omega
  | succ n ih =>
    intro m x hx h1 h2
    cases m with
    | zero => omega
    | succ m =>
      rw [val, val]
      have : (kX b g o x).map (fun y => bef (val b g o n y)) = (kX b g o x).map (fun y => bef (val b g o m y)) := by
        apply List.map_congr_left
        intro y hy
        have hy1 := kX_SW hL hx hy
        have hy2 := oX_kid hL hx hy
        have hy3 := oX_le hy1
        rw [ih m y hy1 (by omega) (by omega)]
      rw [this]
theorem vX_eq {b g o : Nat} (hL : Lw b g o) {x : Int64} (hx : SW x) : vX b g o x = if mX b g o x = [] then sc0 b g o x else ((kX b g o x).map (fun y => bef (vX b g o y))).foldl max 0 := by
  have : (kX b g o x).map (fun y => bef (val b g o 60 y)) = (kX b g o x).map (fun y => bef (vX b g o y)) := by
    apply List.map_congr_left
    intro y hy
    have hy1 := kX_SW hL hx hy
    have hy2 := oX_kid hL hx hy
    have hy3 := oX_le hy1
    rw [vX, val_st hL 60 61 y hy1 (by omega) (by omega)]
  rw [vX, val, this]
def okS (n s : Nat) : Prop := (1 ≤ s ∧ s ≤ 1 + n) ∨ (128 ≤ s ∧ s ≤ 128 + n) ∨ (512 - n ≤ s ∧ s ≤ 512)
theorem okS.pos {n s : Nat} (h : okS n s) (hn : n ≤ 60) : 1 ≤ s ∧ s ≤ 512 := by unfold okS at h; omega
theorem bef_ok {n s : Nat} (h : okS n s) (hn : n ≤ 59) : okS (n + 1) (bef s) := by
  unfold okS at h ⊢
  unfold bef
  rcases h with h | h | h
  · rw [if_neg (by omega)]; omega
  · rw [if_pos (by omega), if_neg (by omega)]; omega
  · rw [if_pos (by omega), if_pos (by omega)]; omega
theorem okS.mono {n m s : Nat} (h : okS n s) (hn : n ≤ m) : okS m s := by unfold okS at h ⊢; omega
theorem fold_ok {n : Nat} (hn : n ≤ 60) : ∀ (L : List Nat) (a : Nat), (a = 0 ∨ okS n a) → (∀ v, v ∈ L → okS n v) → (a ≠ 0 ∨ L ≠ []) → okS n (L.foldl max a) := by
  intro L
  induction L with
  | nil =>
    intro a h1 _ h3
    rcases h1 with h1 | h1
    · rcases h3 with h3 | h3
      · exact absurd h1 h3
      · exact absurd rfl h3
    · exact h1
  | cons v L ih =>
    intro a h1 h2 h3
    rw [List.foldl_cons]
    have hv := h2 v (List.mem_cons_self ..)
    have hp := hv.pos hn
    have hm : okS n (max a v) := by
      rcases Nat.le_total a v with e | e
      · rw [Nat.max_eq_right e]; exact hv
      · rw [Nat.max_eq_left e]
        rcases h1 with h1 | h1
        · omega
        · exact h1
    exact ih (max a v) (Or.inr hm) (fun w hw => h2 w (List.mem_cons_of_mem _ hw)) (Or.inl (by have := hm.pos hn; omega))
theorem sc0_ok (b g o : Nat) (x : Int64) (n : Nat) : okS n (sc0 b g o x) := by
  unfold sc0 okS
  repeat' split
  all_goals omega
theorem vX_ok {b g o : Nat} (hL : Lw b g o) : ∀ n x, SW x → 60 - oX x < n → okS (60 - oX x) (vX b g o x) := by
  intro n
  induction n with
  | zero => intro x _ h; omega
  | succ n ih =>
    intro x hx hn
    rw [vX_eq hL hx]
    by_cases hm : mX b g o x = []
    · rw [if_pos hm]; exact sc0_ok b g o x _
    · rw [if_neg hm]
      refine fold_ok (by omega) _ 0 (Or.inl rfl) ?_ (Or.inr ?_)
      · intro v hv
        obtain ⟨y, hy, rfl⟩ := List.mem_map.mp hv
        have hy1 := kX_SW hL hx hy
        have hy2 := oX_kid hL hx hy
        have hy3 := oX_le hy1
        exact (bef_ok (ih y hy1 (by omega)) (by omega)).mono (by omega)
      · intro e
        rw [List.map_eq_nil_iff] at e
        unfold kX at e
        rw [List.map_eq_nil_iff] at e
        exact hm e
theorem vX_rng {b g o : Nat} (hL : Lw b g o) {x : Int64} (hx : SW x) : 1 ≤ vX b g o x ∧ vX b g o x ≤ 512 := (vX_ok hL _ x hx (Nat.lt_succ_self _)).pos (by omega)
theorem vX_ok60 {b g o : Nat} (hL : Lw b g o) {x : Int64} (hx : SW x) : okS 60 (vX b g o x) := (vX_ok hL _ x hx (Nat.lt_succ_self _)).mono (by omega)
/-- what a kid is worth to who goes there -/
def wK (b g o : Nat) (x : Int64) (i : Nat) : Nat := bef (vX b g o ((kX b g o x).getD i 0))
theorem kX_getD {b g o : Nat} {x : Int64} {i : Nat} (hi : i < (mX b g o x).length) : (kX b g o x).getD i 0 = enc (kid (dF x) (mX b g o x)[i]) (1 - dT x) ∧ (kX b g o x).getD i 0 ∈ kX b g o x := by
  have h2 : i < (kX b g o x).length := by rw [kX_len]; exact hi
  have h3 : (kX b g o x).getD i 0 = (kX b g o x)[i] := by rw [List.getD_eq_getElem?_getD, List.getElem?_eq_getElem h2]; rfl
  rw [h3]
  exact ⟨kX_at hi, List.getElem_mem h2⟩
theorem wK_ok {b g o : Nat} (hL : Lw b g o) {x : Int64} (hx : SW x) {i : Nat} (hi : i < (mX b g o x).length) : okS 60 (wK b g o x i) := by
  have hk := (kX_getD hi).2
  have hy1 := kX_SW hL hx hk
  have hy2 := oX_kid hL hx hk
  exact (bef_ok (vX_ok hL _ _ hy1 (Nat.lt_succ_self _)) (by omega)).mono (by omega)
/-- the best of the first i moves, and which -/
def bst (b g o : Nat) (x : Int64) : Nat → Nat
  | 0 => if mX b g o x = [] then sc0 b g o x else 0
  | i + 1 => if bst b g o x i < wK b g o x i then wK b g o x i else bst b g o x i
def bix (b g o : Nat) (x : Int64) : Nat → Nat
  | 0 => 0
  | i + 1 => if bst b g o x i < wK b g o x i then i else bix b g o x i
theorem bst_fold {b g o : Nat} {x : Int64} (hm : mX b g o x ≠ []) : ∀ i, i ≤ (kX b g o x).length → bst b g o x i = (((kX b g o x).take i).map (fun y => bef (vX b g o y))).foldl max 0 := by
  intro i
  induction i with
  | zero => intro _; rw [bst, if_neg hm, List.take_zero]; rfl
  | succ i ih =>
    intro hi
    have h2 : i < (kX b g o x).length := by omega
    have hw : wK b g o x i = bef (vX b g o (kX b g o x)[i]) := by
      unfold wK
      rw [List.getD_eq_getElem?_getD, List.getElem?_eq_getElem h2]; rfl
    rw [bst, List.take_succ_eq_append_getElem h2, List.map_append, List.foldl_append, ← ih (by omega), List.map_cons, List.map_nil, List.foldl_cons, List.foldl_nil, ← hw]
    by_cases hc : bst b g o x i < wK b g o x i
    · rw [if_pos hc, Nat.max_eq_right (by omega)]
    · rw [if_neg hc, Nat.max_eq_left (by omega)]
theorem bst_end {b g o : Nat} (hL : Lw b g o) {x : Int64} (hx : SW x) : bst b g o x (mX b g o x).length = vX b g o x := by
  rw [vX_eq hL hx]
  by_cases hm : mX b g o x = []
  · rw [if_pos hm, hm, List.length_nil, bst, if_pos hm]
  · rw [if_neg hm, ← kX_len, bst_fold hm _ (Nat.le_refl _), List.take_length]
theorem bst_ok {b g o : Nat} (hL : Lw b g o) {x : Int64} (hx : SW x) : ∀ i, i ≤ (mX b g o x).length → (bst b g o x i = 0 ∧ i = 0 ∧ mX b g o x ≠ []) ∨ okS 60 (bst b g o x i) := by
  intro i
  induction i with
  | zero =>
    intro _
    rw [bst]
    by_cases hm : mX b g o x = []
    · rw [if_pos hm]; exact Or.inr (sc0_ok b g o x _)
    · rw [if_neg hm]; exact Or.inl ⟨rfl, rfl, hm⟩
  | succ i ih =>
    intro hi
    have hw := wK_ok hL hx (show i < _ by omega)
    have hp := hw.pos (by omega)
    rw [bst]
    right
    by_cases hc : bst b g o x i < wK b g o x i
    · rw [if_pos hc]; exact hw
    · rw [if_neg hc]
      rcases ih (by omega) with ⟨h1, -, -⟩ | h1
      · omega
      · exact h1
theorem bst_rng {b g o : Nat} (hL : Lw b g o) {x : Int64} (hx : SW x) {i : Nat} (hi : i ≤ (mX b g o x).length) : bst b g o x i ≤ 512 := by
  rcases bst_ok hL hx i hi with ⟨h1, -, -⟩ | h1
  · omega
  · exact (h1.pos (by omega)).2
theorem bix_lt {b g o : Nat} {x : Int64} : ∀ i, 0 < i → bix b g o x i < i := by
  intro i
  induction i with
  | zero => intro h; omega
  | succ i ih =>
    intro _
    rw [bix]
    split
    · omega
    · by_cases h0 : i = 0
      · subst h0; rw [bix]; omega
      · have := ih (by omega); omega
def rsS (s : Nat) : Nat := if 128 ≤ s then if 256 ≤ s then 1 else 0 else 2
def lnS (s : Nat) : Nat := if 128 ≤ s then if 256 ≤ s then 512 - s else s - 128 else s - 1
