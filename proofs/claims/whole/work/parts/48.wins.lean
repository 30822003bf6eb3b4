/-! problems: a move that wins at once; replies -/
def kid (f : Nat → Nat) (q : Nat × Nat) : Nat → Nat := chF f q.1 q.2
theorem kid_wf {b g o : Nat} {f : Nat → Nat} {t : Nat} (hL : Lw b g o) (h : Wf f t) {q : Nat × Nat} (hq : q ∈ mvs b g o f t) : Wf (kid f q) (1 - t) := by
  have hm := mvs_mem h.1 (show (q.1, q.2) ∈ mvs b g o f t from hq)
  exact ch_wf h hm.1 hm.2.2.1 (can_facts hL h hm.1 hm.2.2.1 hm.2.2.2.1).2.1
theorem kid_c {b g o : Nat} {f : Nat → Nat} {t : Nat} (hL : Lw b g o) (h : Wf f t) {q : Nat × Nat} (hq : q ∈ mvs b g o f t) : f_X8_after (enc f t) (cod q) = some (enc (kid f q) (1 - t)) := by
  have hm := mvs_mem h.1 (show (q.1, q.2) ∈ mvs b g o f t from hq)
  exact after_c hL h hm.1 hm.2.2.1 hm.2.2.2.1
theorem kid_m {b g o : Nat} {f : Nat → Nat} {t : Nat} (hL : Lw b g o) (h : Wf f t) {q : Nat × Nat} (hq : q ∈ mvs b g o f t) : f_X10_gone (enc f t) (nI q.1) (nI q.2) = some (enc (kid f q) (1 - t)) := by
  have hm := mvs_mem h.1 (show (q.1, q.2) ∈ mvs b g o f t from hq)
  exact gone_m hL h hm.1 hm.2.2.1 hm.2.2.2.1
theorem wr0 {α : Type} {ra : Nat → Int32} {L : List α} {g : α → Int32} {i : Nat} (hi : i < L.length) : wrL ra 0 (L.map g) i = g L[i] := by
  have := wrL_map (ra := ra) (L := L) (g := g) (p := 0) (i := i) hi
  rwa [Nat.zero_add] at this
/-- from the i-th move on, is there one of a kind -/
def anyFrom (L : List (Nat × Nat)) (p : Nat × Nat → Bool) (i : Nat) : Bool := (L.drop i).any p
theorem anyFrom_end (L : List (Nat × Nat)) (p : Nat × Nat → Bool) {i : Nat} (h : L.length ≤ i) : anyFrom L p i = false := by
  unfold anyFrom
  rw [List.drop_eq_nil_of_le h]
  rfl
theorem anyFrom_step (L : List (Nat × Nat)) (p : Nat × Nat → Bool) {i : Nat} (h : i < L.length) : anyFrom L p i = (p L[i] || anyFrom L p (i + 1)) := by
  unfold anyFrom
  rw [List.drop_eq_getElem_cons h, List.any_cons]
def w1S (b g o : Nat) (f : Nat → Nat) (t : Nat) : Bool := (mvs b g o f t).any (fun q => decide (brS b g o (kid f q) (1 - t) = t + 1))
theorem winsAtOnce_c {b g o : Nat} {f : Nat → Nat} {t : Nat} (hL : Lw b g o) (h : Wf f t) (qv : Nat → Int32) : f_X4_winsAtOnce qv (nI b) (nI g) (nI o) (enc f t) = some (b2i (w1S b g o f t), wrL qv 0 ((mvs b g o f t).map cod)) := by
  have ht := h.1
  have hlen := mvs_len (b := b) (g := g) (o := o) h
  have hlist : f_X5_list (nI b) (nI g) (nI o) qv 24 (enc f t) 0 = some (nI (mvs b g o f t).length, wrL qv 0 ((mvs b g o f t).map cod)) := list_c hL h (sa := 0) (by omega) (by omega)
  unfold f_X4_winsAtOnce f_X5_wonBy jlet
  dsimp only
  rw [turnOf_c h.dig, nI_1, hlist, Option.bind_some]
  dsimp only
  generalize hL2 : mvs b g o f t = L at *
  have lp : ∀ n i, i ≤ L.length → L.length - i < n → f_X4_winsAtOnce_L24 (nI b) (nI g) (nI o) (enc f t) (nI (t + 1)) (nI L.length, wrL qv 0 (L.map cod)) (nI L.length) n (nI i) = some (b2i (anyFrom L (fun q => decide (brS b g o (kid f q) (1 - t) = t + 1)) i), wrL qv 0 (L.map cod)) := by
    intro n
    induction n with
    | zero => intro i _ hn; omega
    | succ n ih =>
      intro i hi hn
      rw [f_X4_winsAtOnce_L24]
      by_cases he : i = L.length
      · subst he
        rw [if_pos (nI_le (Nat.le_refl _) (by omega)), anyFrom_end _ _ (Nat.le_refl _)]
        rfl
      · have hil : i < L.length := by omega
        have hmem : L[i] ∈ mvs b g o f t := by rw [hL2]; exact List.getElem_mem hil
        have hb3 := brS_le b g o (kid f L[i]) (show 1 - t < 2 by omega)
        rw [if_neg (nI_ge hil (by omega)), if_neg (show ¬ (24 : Int32) ≤ nI i from nI_ge (b := 24) (by omega) (by omega)), if_neg (nI_in (by omega) (by omega)), nI_clamp (by omega)]
        dsimp only
        rw [wr0 hil, kid_c hL h hmem, Option.bind_some, ending_c hL (kid_wf hL h hmem), Option.bind_some, anyFrom_step _ _ hil]
        simp only [nI_eq_lit (a := brS b g o (kid f L[i]) (1 - t)) (b := t + 1) (by omega) (by omega)]
        unfold jlet
        dsimp only
        rw [nI_1]
        by_cases hw : brS b g o (kid f L[i]) (1 - t) = t + 1
        · rw [if_pos hw, decide_eq_true hw, Bool.true_or]; rfl
        · rw [if_neg hw, decide_eq_false hw, Bool.false_or]
          exact ih (i + 1) (by omega) (by omega)
  have := lp 100 0 (by omega) (by omega)
  unfold w1S
  rw [hL2]
  exact this
theorem winsAtOnce_m {b g o : Nat} {f : Nat → Nat} {t : Nat} (hL : Lw b g o) (h : Wf f t) (A B : Nat → Int32) : ∃ q, f_X10_winsAtOnce (nI b) (nI g) (nI o) A B (enc f t) = some (b2i (w1S b g o f t), q) := by
  have ht := h.1
  have hlen := mvs_len (b := b) (g := g) (o := o) h
  have hfm := findMoves_m (A := A) (B := B) hL h
  unfold f_X10_winsAtOnce jlet
  dsimp only
  rw [hfm, Option.bind_some]
  dsimp only
  generalize hL2 : mvs b g o f t = L at *
  have lp : ∀ n i, i ≤ L.length → L.length - i < n → f_X10_winsAtOnce_L13 (nI b) (nI g) (nI o) (enc f t) (nI L.length, wrL A 0 (L.map (fun q => nI q.1)), wrL B 0 (L.map (fun q => nI q.2))) (nI L.length) n (nI i) = some (b2i (anyFrom L (fun q => decide (brS b g o (kid f q) (1 - t) = t + 1)) i), nI L.length, wrL A 0 (L.map (fun q => nI q.1)), wrL B 0 (L.map (fun q => nI q.2))) := by
    intro n
    induction n with
    | zero => intro i _ hn; omega
    | succ n ih =>
      intro i hi hn
      rw [f_X10_winsAtOnce_L13]
      by_cases he : i = L.length
      · subst he
        rw [if_pos (nI_le (Nat.le_refl _) (by omega)), anyFrom_end _ _ (Nat.le_refl _)]
        rfl
      · have hil : i < L.length := by omega
        have hmem : L[i] ∈ mvs b g o f t := by rw [hL2]; exact List.getElem_mem hil
        have hb3 := brS_le b g o (kid f L[i]) (show 1 - t < 2 by omega)
        have hin : ¬ (nI i < 0 ∨ 75 ≤ (nI i).toNatClampNeg) := nI_in (by omega) (by omega)
        rw [if_neg (nI_ge hil (by omega)), if_neg hin, if_neg hin, nI_clamp (by omega)]
        dsimp only
        rw [wr0 (g := fun q : Nat × Nat => nI q.1) hil, wr0 (g := fun q : Nat × Nat => nI q.2) hil, kid_m hL h hmem, Option.bind_some, broughtBy_m hL (kid_wf hL h hmem), Option.bind_some, anyFrom_step _ _ hil, turnOf_m h.dig, show (1 : Int32) + nI t = nI (t + 1) by rw [show (1 : Int32) = nI 1 from rfl, nI_add, Nat.add_comm]]
        simp only [nI_eq_lit (a := brS b g o (kid f L[i]) (1 - t)) (b := t + 1) (by omega) (by omega)]
        unfold jlet
        dsimp only
        rw [nI_1]
        by_cases hw : brS b g o (kid f L[i]) (1 - t) = t + 1
        · rw [if_pos hw, decide_eq_true hw, Bool.true_or]; rfl
        · rw [if_neg hw, decide_eq_false hw, Bool.false_or]
          exact ih (i + 1) (by omega) (by omega)
  have := lp 100 0 (by omega) (by omega)
  unfold w1S
  rw [hL2]
  exact ⟨_, this⟩
