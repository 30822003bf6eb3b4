/-! the reference solves: one stand, all stands -/
def sO (f : Nat → Nat) (m : Nat) : Nat → Nat
  | 0 => 0
  | n + 1 => od (f m) + sO f (m + 1) n
theorem old_loop {f : Nat → Nat} {t : Nat} (h : Dig f t) : ∀ n m acc, m ≤ 6 → 6 - m < n → f_X10_oldness_L4 (enc f t) n (nI acc) (nI m) = some (nI (acc + sO f m (6 - m))) := by
  intro n
  induction n with
  | zero => intro m acc _ h; omega
  | succ n ih =>
    intro m acc hm hn
    rw [f_X10_oldness_L4]
    by_cases he : m = 6
    · subst he
      rw [if_pos (show (6 : Int32) ≤ nI 6 by decide)]
      rfl
    · rw [if_neg (show ¬ (6 : Int32) ≤ nI m from nI_ge (b := 6) (by omega) (by omega))]
      have e1 : 6 - m = (6 - (m + 1)) + 1 := by omega
      rw [e1, sO, ← Nat.add_assoc]
      have hA : f_X10_cellOf (enc f t) (nI m) = nI (f m % 32) := cellOf_m h (by omega)
      by_cases hu : f m % 32 = 31
      · rw [hA, if_pos (by rw [hu]; rfl), f_X10_oldness_B31, jle, jle, nI_1, show (10 : Int32) = nI 10 from rfl, nI_add, show od (f m) = 10 by unfold od; rw [if_pos hu]]
        exact ih (m + 1) (acc + 10) (by omega) (by omega)
      · rw [hA, if_neg (fun e => hu (by rw [show (31 : Int32) = nI 31 from rfl, nI_eq (by omega) (by omega)] at e; exact e)), f_X10_oldness_B31, jle, jle, nI_1, ageOf_m h (by omega), nI_add, show od (f m) = f m / 32 by unfold od; rw [if_neg hu]]
        exact ih (m + 1) (acc + f m / 32) (by omega) (by omega)
theorem oldness_m {x : Int64} (hx : SW x) : f_X10_oldness x = some (nI (oX x)) := by
  have h := old_loop hx.1.dig 100 0 0 (by omega) (by omega)
  rw [← hx.2, Nat.zero_add] at h
  have e : sO (dF x) 0 (6 - 0) = oX x := by
    show od (dF x 0) + (od (dF x 1) + (od (dF x 2) + (od (dF x 3) + (od (dF x 4) + (od (dF x 5) + 0))))) = oX x
    unfold oX
    omega
  rw [e] at h
  exact h
theorem rsS_le (s : Nat) : rsS s ≤ 2 := by
  unfold rsS
  repeat' split
  all_goals omega
theorem ok_rs {s : Nat} (h : okS 60 s) : (rsS s = 2 ∧ lnS s = s - 1 ∧ 1 ≤ s ∧ s ≤ 61) ∨ (rsS s = 0 ∧ lnS s = s - 128 ∧ 128 ≤ s ∧ s ≤ 188) ∨ (rsS s = 1 ∧ lnS s = 512 - s ∧ 452 ≤ s ∧ s ≤ 512) := by
  unfold okS at h
  unfold rsS lnS
  rcases h with h | h | h
  · rw [if_neg (by omega), if_neg (by omega)]; omega
  · rw [if_pos (by omega), if_neg (by omega), if_pos (by omega), if_neg (by omega)]; omega
  · rw [if_pos (by omega), if_pos (by omega), if_pos (by omega), if_pos (by omega)]; omega
theorem rs_bef {s : Nat} (h : okS 59 s) : rsS (bef s) = (if rsS s = 0 then 0 else 3 - rsS s) ∧ lnS (bef s) = lnS s + 1 := by
  have hb : bef s = if 128 ≤ s then if 256 ≤ s then 514 - s else s + 1 else 512 - s := rfl
  rcases ok_rs (h.mono (show 59 ≤ 60 by omega)) with ⟨a1, a2, a3, a4⟩ | ⟨a1, a2, a3, a4⟩ | ⟨a1, a2, a3, a4⟩ <;> rcases ok_rs (bef_ok h (Nat.le_refl _)) with ⟨c1, c2, c3, c4⟩ | ⟨c1, c2, c3, c4⟩ | ⟨c1, c2, c3, c4⟩ <;> rw [a1, a2, c1, c2]
  · rw [if_neg (by omega)] at hb; omega
  · rw [if_neg (by omega)] at hb; omega
  · rw [if_neg (by omega)] at hb; exact ⟨by decide, by omega⟩
  · rw [if_pos (by omega), if_neg (by omega)] at hb; omega
  · rw [if_pos (by omega), if_neg (by omega)] at hb; exact ⟨by decide, by omega⟩
  · rw [if_pos (by omega), if_neg (by omega)] at hb; omega
  · rw [if_pos (by omega), if_pos (by omega)] at hb; exact ⟨by decide, by omega⟩
  · rw [if_pos (by omega), if_pos (by omega)] at hb; unfold okS at h; omega
  · rw [if_pos (by omega), if_pos (by omega)] at hb; omega
theorem better_m {s w : Nat} (hs : okS 60 s) (hw : okS 60 w) : f_X10_isBetter (nI (rsS w)) (nI (lnS w)) (nI (rsS s)) (nI (lnS s)) = if s < w then 1 else 0 := by
  unfold f_X10_isBetter
  rcases ok_rs hs with ⟨a1, a2, a3, a4⟩ | ⟨a1, a2, a3, a4⟩ | ⟨a1, a2, a3, a4⟩ <;> rcases ok_rs hw with ⟨c1, c2, c3, c4⟩ | ⟨c1, c2, c3, c4⟩ | ⟨c1, c2, c3, c4⟩ <;> rw [a1, a2, c1, c2]
  · rw [if_pos rfl, if_neg (by decide)]
    by_cases h : s < w
    · rw [if_pos h, if_neg (nI_ge (by omega) (by omega))]
    · rw [if_neg h, if_pos (nI_le (by omega) (by omega))]
  · rw [if_neg (by decide), if_neg (by decide), if_pos (by decide), if_pos (by decide), if_pos (by omega)]
  · rw [if_neg (by decide), if_pos (by decide), if_pos (by omega)]
  · rw [if_neg (by decide), if_neg (by decide), if_neg (by decide), if_neg (by omega)]
  · rw [if_pos rfl, if_neg (by decide)]
    by_cases h : s < w
    · rw [if_pos h, if_neg (nI_ge (by omega) (by omega))]
    · rw [if_neg h, if_pos (nI_le (by omega) (by omega))]
  · rw [if_neg (by decide), if_pos (by decide), if_pos (by omega)]
  · rw [if_neg (by decide), if_neg (by decide), if_neg (by decide), if_neg (by omega)]
  · rw [if_neg (by decide), if_neg (by decide), if_pos (by decide), if_neg (by decide), if_neg (by omega)]
  · rw [if_pos rfl, if_pos (by decide)]
    by_cases h : s < w
    · rw [if_pos h, if_neg (nI_ge (by omega) (by omega))]
    · rw [if_neg h, if_pos (nI_le (by omega) (by omega))]
def bmM (b g o : Nat) (x : Int64) (i : Nat) : Int32 := if i = 0 then -6 else told1 (dF x) ((mX b g o x).getD (bix b g o x i) (0, 0))
def Slv (b g o : Nat) (x : Int64) (k : Nat) (rs la bm : Nat → Int32) : Prop := rs k = nI (rsS (vX b g o x)) ∧ la k = nI (lnS (vX b g o x)) ∧ bm k = bmM b g o x (mX b g o x).length
theorem told_nn {b g o : Nat} {x : Int64} (hx : SW x) {i : Nat} (hi : i < (mX b g o x).length) : ¬ told1 (dF x) ((mX b g o x).getD i (0, 0)) < 0 := by
  rw [List.getD_eq_getElem?_getD, List.getElem?_eq_getElem hi]
  have hm : (mX b g o x)[i] ∈ mX b g o x := List.getElem_mem hi
  obtain ⟨-, -, hc, -⟩ := mvs_mem (m := (mX b g o x)[i].1) (c := (mX b g o x)[i].2) hx.1.1 hm
  show ¬ told1 (dF x) (mX b g o x)[i] < 0
  unfold told1
  exact nI_pos (by omega)
theorem solve_loop {b g o : Nat} (hL : Lw b g o) {r : Int64} (hr : SW r) {L : List Int64} {xs : Nat → Int64} {pl : Nat → Int32} (h : BI b g o r L xs pl) (hcl : ∀ x, x ∈ L → ∀ y, y ∈ kX b g o x → y ∈ L) {k : Nat} {x : Int64} (hk : L[k]? = some x) {A B : Nat → Int32} (hA : ∀ i (h : i < (mX b g o x).length), A i = nI (mX b g o x)[i].1) (hB : ∀ i (h : i < (mX b g o x).length), B i = nI (mX b g o x)[i].2) {rs0 la0 bm0 : Nat → Int32} (hK : ∀ v y, L[v]? = some y → oX x < oX y → Slv b g o y v rs0 la0 bm0) : ∀ n i (rs la bm : Nat → Int32), i ≤ (mX b g o x).length → (mX b g o x).length - i < n → (∀ j, j ≠ k → rs j = rs0 j ∧ la j = la0 j ∧ bm j = bm0 j) → ((i = 0 ∧ bm k = -6) ∨ (0 < i ∧ rs k = nI (rsS (bst b g o x i)) ∧ la k = nI (lnS (bst b g o x i)) ∧ bm k = bmM b g o x i)) → ∃ rs' la' bm', f_X10_solveOne_L86 xs pl (nI k) n (nI i) (nI (mX b g o x).length) rs la bm A B = some (rs', la', bm', nI (mX b g o x).length, A, B) ∧ (∀ j, j ≠ k → rs' j = rs0 j ∧ la' j = la0 j ∧ bm' j = bm0 j) ∧ (((mX b g o x).length = 0 ∧ bm' k = -6) ∨ (0 < (mX b g o x).length ∧ rs' k = nI (rsS (bst b g o x (mX b g o x).length)) ∧ la' k = nI (lnS (bst b g o x (mX b g o x).length)) ∧ bm' k = bmM b g o x (mX b g o x).length)) := by
  obtain ⟨hk1, hk2⟩ := List.getElem?_eq_some_iff.mp hk
  have hxL : x ∈ L := by rw [← hk2]; exact List.getElem_mem hk1
  have hSx : SW x := rch_sw hL hr (h.2.2.1 x hxL)
  have h24 := mX_len (b := b) (g := g) (o := o) hSx
  have hl := h.2.1
  have hxk : xs k = x := by rw [h.2.2.2.1 k hk1, hk2]
  have n1 : ¬ (nI k < 0 ∨ 20001 ≤ k) := by have := notin (i := k) (n := 20001) (by omega) (by omega); rw [nI_clamp (by omega)] at this; exact this
  intro n
  induction n with
  | zero => intro i rs la bm _ h; omega
  | succ n ih =>
    intro i rs la bm hi hn hof hst
    rw [f_X10_solveOne_L86]
    by_cases he : i = (mX b g o x).length
    · rw [if_pos (nI_le (by omega) (by omega))]
      rw [he] at hst
      exact ⟨rs, la, bm, rfl, hof, hst⟩
    · have hlt : i < (mX b g o x).length := by omega
      have n2 : ¬ (nI i < 0 ∨ 75 ≤ i) := by have := notin (i := i) (n := 75) (by omega) (by omega); rw [nI_clamp (by omega)] at this; exact this
      have hyk := (kX_getD hlt).2
      have hSy := kX_SW hL hSx hyk
      have hOy := oX_kid hL hSx hyk
      have h60y := oX_le hSy
      have hyL := hcl x hxL _ hyk
      obtain ⟨j, p1, p2, -, p4⟩ := placeOf_m h.2.2.2.2.1 (by omega) h.ok ((kX b g o x).getD i 0)
      have hp : (stM ((kX b g o x).getD i 0) + j) % 65536 < 65536 := Nat.mod_lt _ (by omega)
      have hq : cM xs pl ((stM ((kX b g o x).getD i 0) + j) % 65536) = some ((kX b g o x).getD i 0) := by
        rcases p4 with ⟨-, q2⟩ | ⟨q1, -⟩
        · exact absurd hyL q2
        · exact q1
      obtain ⟨v, hv, ev⟩ : ∃ v, v < L.length ∧ pl ((stM ((kX b g o x).getD i 0) + j) % 65536) = nI (v + 1) := by
        rcases h.2.2.2.2.2 _ hp with e | e
        · unfold cM at hq
          rw [if_pos e] at hq
          cases hq
        · exact e
      have hvy : L[v]? = some ((kX b g o x).getD i 0) := by
        rw [cM_at ev (by omega), h.2.2.2.1 v hv] at hq
        rw [List.getElem?_eq_getElem hv]
        exact hq
      obtain ⟨k1, k2, -⟩ := hK v _ hvy hOy
      have hvk : v ≠ k := by
        intro e
        rw [e, hk] at hvy
        have := Option.some.inj hvy
        rw [← this] at hOy
        omega
      obtain ⟨o1, o2, -⟩ := hof v hvk
      have n3 : ¬ (nI v < 0 ∨ 20001 ≤ v) := by have := notin (i := v) (n := 20001) (by omega) (by omega); rw [nI_clamp (by omega)] at this; exact this
      obtain ⟨r1, r2⟩ := rs_bef ((vX_ok hL _ _ hSy (Nat.lt_succ_self _)).mono (show 60 - oX ((kX b g o x).getD i 0) ≤ 59 by omega))
      have hw : wK b g o x i = bef (vX b g o ((kX b g o x).getD i 0)) := rfl
      rw [← hw] at r1 r2
      have hwok := wK_ok hL hSx hlt
      have hmn : f_X10_moveNumber A B x (nI i) = some (told1 (dF x) (mX b g o x)[i]) := by
        have hm : (mX b g o x)[i] ∈ mX b g o x := List.getElem_mem hlt
        obtain ⟨hm6, -⟩ := mvs_mem (m := (mX b g o x)[i].1) (c := (mX b g o x)[i].2) hSx.1.1 hm
        have := moveNumber_m (f := dF x) (t := dT x) hSx.1.dig (A := A) (B := B) hlt h24 hm6 (hA i hlt) (hB i hlt)
        rw [← hSx.2] at this
        exact this
      have hset : ∀ (P : Prop), (bst b g o x i < wK b g o x i) → (∀ rs' la' bm' : Nat → Int32, (∀ j, j ≠ k → rs' j = rs0 j ∧ la' j = la0 j ∧ bm' j = bm0 j) → rs' k = nI (rsS (bst b g o x (i + 1))) → la' k = nI (lnS (bst b g o x (i + 1))) → bm' k = bmM b g o x (i + 1) → f_X10_solveOne_B195 (f_X10_solveOne_L86 xs pl (nI k) n) xs (nI k) (nI i) (nI (mX b g o x).length) rs la bm A B (nI (rsS (wK b g o x i))) (nI (lnS (wK b g o x i))) = f_X10_solveOne_L86 xs pl (nI k) n (nI (i + 1)) (nI (mX b g o x).length) rs' la' bm' A B → P) → P := by
        intro P hc kont
        refine kont (upd rs k (nI (rsS (wK b g o x i)))) (upd la k (nI (lnS (wK b g o x i)))) (upd bm k (told1 (dF x) (mX b g o x)[i])) (fun j hj => ?_) ?_ ?_ ?_ ?_
        · rw [updI_at, updI_at, updI_at, if_neg hj, if_neg hj, if_neg hj]; exact hof j hj
        · rw [updI_at, if_pos rfl, bst, if_pos hc]
        · rw [updI_at, if_pos rfl, bst, if_pos hc]
        · rw [updI_at, if_pos rfl, bmM, if_neg (by omega), bix, if_pos hc, List.getD_eq_getElem?_getD, List.getElem?_eq_getElem hlt]
          rfl
        · rw [f_X10_solveOne_B195, nI_clamp (by omega), if_neg n1, jle, if_neg n1, jle, if_neg n1, hxk, hmn, Option.bind_some, if_neg n1, jle, f_X10_solveOne_B228, jle, nI_1]
      have hB151 : f_X10_solveOne_B151 (f_X10_solveOne_L86 xs pl (nI k) n) xs (nI k) (nI i) (nI (mX b g o x).length) rs la bm A B (nI v) (nI (rsS (wK b g o x i))) = if bm k < 0 then f_X10_solveOne_B195 (f_X10_solveOne_L86 xs pl (nI k) n) xs (nI k) (nI i) (nI (mX b g o x).length) rs la bm A B (nI (rsS (wK b g o x i))) (nI (lnS (wK b g o x i))) else if f_X10_isBetter (nI (rsS (wK b g o x i))) (nI (lnS (wK b g o x i))) (rs k) (la k) = 0 then f_X10_solveOne_B228 (f_X10_solveOne_L86 xs pl (nI k) n) (nI i) (nI (mX b g o x).length) rs la bm A B else f_X10_solveOne_B195 (f_X10_solveOne_L86 xs pl (nI k) n) xs (nI k) (nI i) (nI (mX b g o x).length) rs la bm A B (nI (rsS (wK b g o x i))) (nI (lnS (wK b g o x i))) := by
        rw [f_X10_solveOne_B151, nI_clamp (by omega), if_neg n3, jle, nI_clamp (show k < 2 ^ 31 by omega), if_neg n1, if_neg n1, if_neg n1, o2, k2, nI_1, ← r2]
      have hmain : ∃ rs' la' bm', f_X10_solveOne_B151 (f_X10_solveOne_L86 xs pl (nI k) n) xs (nI k) (nI i) (nI (mX b g o x).length) rs la bm A B (nI v) (nI (rsS (wK b g o x i))) = some (rs', la', bm', nI (mX b g o x).length, A, B) ∧ (∀ j, j ≠ k → rs' j = rs0 j ∧ la' j = la0 j ∧ bm' j = bm0 j) ∧ (((mX b g o x).length = 0 ∧ bm' k = -6) ∨ (0 < (mX b g o x).length ∧ rs' k = nI (rsS (bst b g o x (mX b g o x).length)) ∧ la' k = nI (lnS (bst b g o x (mX b g o x).length)) ∧ bm' k = bmM b g o x (mX b g o x).length)) := by
        rw [hB151]
        have hps := hwok.pos (Nat.le_refl _)
        rcases hst with ⟨i0, hb6⟩ | ⟨i0, hb1, hb2, hb3⟩
        · subst i0
          have hm : mX b g o x ≠ [] := fun e => by rw [e] at hlt; exact absurd hlt (Nat.not_lt_zero _)
          have hc : bst b g o x 0 < wK b g o x 0 := by rw [bst, if_neg hm]; omega
          rw [hb6, if_pos (by decide)]
          refine hset _ hc (fun rs' la' bm' q1 q2 q3 q4 q5 => ?_)
          rw [q5]
          exact ih 1 rs' la' bm' (by omega) (by omega) q1 (Or.inr ⟨by omega, q2, q3, q4⟩)
        · have hbx := bix_lt (b := b) (g := g) (o := o) (x := x) i i0
          have hbok : okS 60 (bst b g o x i) := by
            rcases bst_ok hL hSx i (by omega) with ⟨-, e, -⟩ | e
            · omega
            · exact e
          have hnn : ¬ bm k < 0 := by
            rw [hb3, bmM, if_neg (by omega)]
            exact told_nn hSx (by omega)
          rw [if_neg hnn, hb1, hb2, better_m hbok hwok]
          by_cases hc : bst b g o x i < wK b g o x i
          · rw [if_pos hc, if_neg (show ¬ (1 : Int32) = 0 by decide)]
            refine hset _ hc (fun rs' la' bm' q1 q2 q3 q4 q5 => ?_)
            rw [q5]
            exact ih (i + 1) rs' la' bm' (by omega) (by omega) q1 (Or.inr ⟨by omega, q2, q3, q4⟩)
          · rw [if_neg hc, if_pos rfl, f_X10_solveOne_B228, jle, nI_1]
            refine ih (i + 1) rs la bm (by omega) (by omega) hof (Or.inr ⟨by omega, ?_, ?_, ?_⟩)
            · rw [bst, if_neg hc]; exact hb1
            · rw [bst, if_neg hc]; exact hb2
            · rw [hb3, bmM, bmM, if_neg (by omega), if_neg (by omega), bix, if_neg hc]
      rw [if_neg (nI_ge hlt (by omega)), nI_clamp (show k < 2 ^ 31 by omega), if_neg n1, nI_clamp (show i < 2 ^ 31 by omega), if_neg n2, if_neg n2, hxk, hA i hlt, hB i hlt, gone_x hL hSx hlt, Option.bind_some, p2, Option.bind_some, nI_clamp (show (stM ((kX b g o x).getD i 0) + j) % 65536 < 2 ^ 31 by omega), if_neg (by have := notin (i := (stM ((kX b g o x).getD i 0) + j) % 65536) (n := 65536) hp (by omega); rw [nI_clamp (by omega)] at this; exact this), jle, ev, nI_s1, nI_clamp (show v < 2 ^ 31 by omega), if_neg n3, if_neg n3, o1, k1]
      by_cases hz : rsS (vX b g o ((kX b g o x).getD i 0)) = 0
      · rw [if_pos hz] at r1
        rw [hz, if_pos (show nI 0 = (0 : Int32) from rfl), show (0 : Int32) = nI (rsS (wK b g o x i)) by rw [r1]; rfl]
        exact hmain
      · have h2 : rsS (vX b g o ((kX b g o x).getD i 0)) ≤ 2 := rsS_le _
        rw [if_neg hz] at r1
        rw [if_neg (fun e => hz (by rw [show (0 : Int32) = nI 0 from rfl, nI_eq (by omega) (by omega)] at e; exact e)), show (3 : Int32) = nI 3 from rfl, nI_sub (by omega), ← r1]
        exact hmain
