/-! the class's going through, its pieces: marks, weighing, opening -/
theorem ush10 {N : Nat} (hN : N < 2 ^ 31) : jushr (nI N) 10 = nI (N / 1024) := by
  unfold jushr
  apply Int32.toBitVec_inj.mp
  show ((nI N).toUInt32 >>> ((10 : Int32).toUInt32 &&& Int32.toUInt32 31)).toBitVec = _
  rw [UInt32.toBitVec_shiftRight]
  have h1 : ((10 : Int32).toUInt32 &&& Int32.toUInt32 31).toBitVec % 32 = BitVec.ofNat 32 10 := by decide
  rw [h1]
  have h2 : (nI N).toUInt32.toBitVec = BitVec.ofNat 32 N := rfl
  rw [h2, nI_toBV]
  apply BitVec.eq_of_toNat_eq
  simp
  rw [Nat.shiftRight_eq_div_pow]
  omega
theorem and1023 {h v : Nat} (hv : v < 1024) : nI (1024 * h + v) &&& 1023 = nI v := by
  rw [nI_and_pow (k := 10) (by omega) rfl]
  congr 1
  omega
theorem shl10 (h : Nat) : jshl (nI h) 10 = nI (1024 * h) := by
  unfold jshl
  apply Int32.toBitVec_inj.mp
  have h1 : (((10 : Int32) &&& 31).toBitVec.smod 32) = BitVec.ofNat 32 10 := by decide
  rw [Int32.toBitVec_shiftLeft, h1, nI_toBV, nI_toBV]
  apply BitVec.eq_of_toNat_eq
  simp
  rw [Nat.shiftLeft_eq]
  omega
theorem or10 {h v : Nat} (hv : v < 1024) : jshl (nI h) 10 ||| nI v = nI (1024 * h + v) := by
  rw [shl10]
  apply Int32.toBitVec_inj.mp
  rw [Int32.toBitVec_or, nI_toBV, nI_toBV, nI_toBV]
  apply BitVec.eq_of_getLsbD_eq
  intro i hi
  rw [show 1024 * h + v = 2 ^ 10 * h + v by omega, Nat.two_pow_add_eq_or_of_lt (show v < 2 ^ 10 by omega), show 1024 * h = 2 ^ 10 * h by omega]
  simp only [BitVec.getLsbD_or, BitVec.getLsbD_ofNat, Nat.testBit_or, hi, decide_true, Bool.true_and]
theorem bef_c : ∀ s, s < 513 → f_X6_before (nI s) = nI (bef s) := by decide +kernel
theorem bring_c : ∀ s, s < 513 → f_X6_bringing (nI s) = nI (rsS s) := by decide +kernel
theorem leng_c : ∀ s, s < 513 → 1 ≤ s → f_X6_length (nI s) = nI (lnS s) := by decide +kernel
theorem atEnd_c : ∀ e, e < 4 → ∀ t, t < 2 → f_X6_atEnd (nI e) (nI t) = nI (if e = 3 then 128 else if e = t + 1 then 512 else 1) := by decide +kernel
def SmI (rd : Nat) (mk : Nat → Int32) : Prop := ∀ s, s < 32768 → ∃ h v, h ≤ rd ∧ v < 1024 ∧ mk s = nI (1024 * h + v)
theorem cC_upd {rd s v : Nat} {fi : Nat → Int64} {mk : Nat → Int32} (hr : rd < 2 ^ 20) (hv : v < 1024) (k : Nat) : cC (nI rd) fi (upd mk s (nI (1024 * rd + v))) k = if k = s then some (fi k) else cC (nI rd) fi mk k := by
  unfold cC
  rw [updI_at]
  by_cases h : k = s
  · rw [if_pos h, if_pos h, ush10 (by omega), show (1024 * rd + v) / 1024 = rd by omega, if_pos rfl]
  · rw [if_neg h, if_neg h]
theorem smI_upd {rd s v : Nat} {mk : Nat → Int32} (h : SmI rd mk) (hv : v < 1024) : SmI rd (upd mk s (nI (1024 * rd + v))) := by
  intro k hk
  rw [updI_at]
  by_cases e : k = s
  · rw [if_pos e]; exact ⟨rd, v, Nat.le_refl _, hv, rfl⟩
  · rw [if_neg e]; exact h k hk
theorem bX_lt (b g o : Nat) (x : Int64) (h : dT x < 2) : bX b g o x < 4 := by
  unfold bX brS
  repeat' split
  all_goals omega
section
variable {b g o : Nat} (hL : Lw b g o) {x : Int64} (hx : SW x)
theorem list_x {ra : Nat → Int32} {sa rn : Nat} (hL : Lw b g o) (hx : SW x) (hrn : rn < 2 ^ 30) (hr : sa + 24 ≤ rn) : f_X5_list (nI b) (nI g) (nI o) ra rn x (nI sa) = some (nI (mX b g o x).length, wrL ra sa ((mX b g o x).map cod)) := by
  have h := list_c (f := dF x) (t := dT x) (sa := sa) (rn := rn) (ra := ra) hL hx.1 hrn hr
  rw [← hx.2] at h
  exact h
theorem ending_x (hL : Lw b g o) (hx : SW x) : f_X5_ending (nI b) (nI g) (nI o) x = some (nI (bX b g o x)) := by
  have h := ending_c (f := dF x) (t := dT x) hL hx.1
  rw [← hx.2] at h
  exact h
theorem brought_x (hL : Lw b g o) (hx : SW x) : f_X10_broughtBy (nI b) (nI g) (nI o) x = some (nI (bX b g o x)) := by
  have h := broughtBy_m (f := dF x) (t := dT x) hL hx.1
  rw [← hx.2] at h
  exact h
theorem turn_xc (hx : SW x) : f_X8_turnOf x = nI (dT x) := by
  have h := turnOf_c (f := dF x) (t := dT x) hx.1.dig
  rw [← hx.2] at h
  exact h
theorem turn_xm (hx : SW x) : f_X10_turnOf x = nI (dT x) := by
  have h := turnOf_m (f := dF x) (t := dT x) hx.1.dig
  rw [← hx.2] at h
  exact h
theorem after_x (hL : Lw b g o) (hx : SW x) {i : Nat} (hi : i < (mX b g o x).length) : f_X8_after x (cod (mX b g o x)[i]) = some ((kX b g o x).getD i 0) := by
  have h := kid_c (f := dF x) (t := dT x) hL hx.1 (List.getElem_mem hi)
  rw [← hx.2] at h
  rw [h, (kX_getD hi).1]
theorem gone_x (hL : Lw b g o) (hx : SW x) {i : Nat} (hi : i < (mX b g o x).length) : f_X10_gone x (nI (mX b g o x)[i].1) (nI (mX b g o x)[i].2) = some ((kX b g o x).getD i 0) := by
  have h := kid_m (f := dF x) (t := dT x) hL hx.1 (List.getElem_mem hi)
  rw [← hx.2] at h
  rw [h, (kX_getD hi).1]
theorem findMoves_x {A B : Nat → Int32} (hL : Lw b g o) (hx : SW x) : f_X10_findMoves (nI b) (nI g) (nI o) A B x = some (nI (mX b g o x).length, wrL A 0 ((mX b g o x).map (fun q => nI q.1)), wrL B 0 ((mX b g o x).map (fun q => nI q.2))) := by
  have h := findMoves_m (f := dF x) (t := dT x) (A := A) (B := B) hL hx.1
  rw [← hx.2] at h
  exact h
theorem mX_nil : mX b g o x = [] ↔ bX b g o x ≠ 0 := mvs_nil
end
def bmC (b g o : Nat) (r : Int64) (i : Nat) : Int32 := if i = 0 then -6 else cod ((mX b g o r).getD (bix b g o r i) (0, 0))
theorem bmC_s {b g o : Nat} {r : Int64} {i : Nat} (hi : i < (mX b g o r).length) : bmC b g o r (i + 1) = if bst b g o r i < wK b g o r i then cod (mX b g o r)[i] else if i = 0 then cod ((mX b g o r).getD 0 (0, 0)) else bmC b g o r i := by
  unfold bmC
  rw [if_neg (by omega), bix]
  by_cases hc : bst b g o r i < wK b g o r i
  · rw [if_pos hc, if_pos hc, List.getD_eq_getElem?_getD, List.getElem?_eq_getElem hi]; rfl
  · rw [if_neg hc, if_neg hc]
    by_cases h0 : i = 0
    · rw [if_pos h0, h0, bix]
    · rw [if_neg h0, if_neg h0]
theorem weigh_c {b g o : Nat} (hL : Lw b g o) {x : Int64} (hx : SW x) {p i : Nat} (hp : p < 64) (hi : i < (mX b g o x).length) (sbm : Int32) {tt be ro : Nat → Int32} (h1 : tt p = nI i) (h2 : be p = nI (bst b g o x i)) (h3 : p = 0 → ∀ j (hj : j < (mX b g o x).length), ro j = cod (mX b g o x)[j]) : ∃ sbm' be', f_X7_weigh sbm tt be ro (nI p) (nI (vX b g o ((kX b g o x).getD i 0))) = some (sbm', upd tt p (nI (i + 1)), be') ∧ (∀ q, q ≠ p → be' q = be q) ∧ be' p = nI (bst b g o x (i + 1)) ∧ (p ≠ 0 → sbm' = sbm) ∧ (p = 0 → sbm = bmC b g o x i → sbm' = bmC b g o x (i + 1)) := by
  have hk := (kX_getD hi).2
  have hv := vX_rng hL (kX_SW hL hx hk)
  have h24 := mX_len (b := b) (g := g) (o := o) hx
  have hb := bst_rng hL hx (Nat.le_of_lt hi)
  have hw := (wK_ok hL hx hi).pos (Nat.le_refl _)
  have n1 : ¬ (nI p < 0 ∨ 64 ≤ p) := by have := notin (i := p) (n := 64) hp (by omega); rw [nI_clamp (by omega)] at this; exact this
  have e0 : f_X6_before (nI (vX b g o ((kX b g o x).getD i 0))) = nI (wK b g o x i) := bef_c _ (by omega)
  have hB : ∀ m be2, f_X7_weigh_B55 (nI p) m tt be2 = some (m, upd tt p (nI (i + 1)), be2) := by
    intro m be2
    unfold f_X7_weigh_B55 jlet
    rw [nI_clamp (by omega), if_neg n1, if_neg n1, h1, nI_1]
  unfold f_X7_weigh jlet
  dsimp only
  rw [e0, nI_clamp (by omega), if_neg n1, h2]
  by_cases hc : bst b g o x i < wK b g o x i
  · rw [if_neg (nI_ge hc (by omega)), if_neg n1]
    have hbe : ∀ q, q ≠ p → upd be p (nI (wK b g o x i)) q = be q := fun q hq => by rw [updI_at, if_neg hq]
    have hbp : upd be p (nI (wK b g o x i)) p = nI (bst b g o x (i + 1)) := by rw [updI_at, if_pos rfl, bst, if_pos hc]
    by_cases h0 : p = 0
    · subst h0
      rw [if_pos (show nI 0 = (0 : Int32) from rfl), if_neg (by decide), show (0 : Int32).toNatClampNeg = 0 from rfl, h1, if_neg (show ¬ (1536 : Int32) ≤ nI i from nI_ge (b := 1536) (by omega) (by omega)), if_neg (by decide), if_neg (notin (show i < 1536 by omega) (by omega)), nI_clamp (by omega), hB, h3 rfl i hi]
      exact ⟨_, _, rfl, hbe, hbp, fun e => absurd rfl e, fun _ _ => by rw [bmC_s hi, if_pos hc]⟩
    · rw [if_neg (fun e => h0 (by rw [show (0 : Int32) = nI 0 from rfl, nI_eq (by omega) (by omega)] at e; exact e)), hB]
      exact ⟨_, _, rfl, hbe, hbp, fun _ => rfl, fun e => absurd e h0⟩
  · rw [if_pos (nI_le (by omega) (by omega)), hB]
    refine ⟨_, _, rfl, fun _ _ => rfl, ?_, fun _ => rfl, fun _ e => ?_⟩
    · rw [h2, bst, if_neg hc]
    · have hi0 : i ≠ 0 := by
        intro e0
        subst e0
        have hm : mX b g o x ≠ [] := fun e => by rw [e] at hi; exact absurd hi (Nat.not_lt_zero _)
        rw [bst, if_neg hm] at hc
        omega
      rw [bmC_s hi, if_neg hc, if_neg hi0, e]
theorem open_full {rd d n : Nat} (hn : 20000 ≤ n) (hn2 : n < 2 ^ 31) (fi : Nat → Int64) (mk : Nat → Int32) (pa : Nat → Int64) (ss li tt be ro : Nat → Int32) (rb rg rO : Int32) (x : Int64) (sl : Int32) : f_X7_open (nI rd) (nI d) (nI n) 0 fi mk pa ss li tt be ro rb rg rO x sl = some (nI d, nI n, 1, fi, mk, pa, ss, li, tt, be, ro) := by
  unfold f_X7_open f_X7_open_B38
  rw [if_pos (show (20000 : Int32) ≤ nI n from nI_le (a := 20000) hn hn2)]
theorem open_c {b g o : Nat} (hL : Lw b g o) {x : Int64} (hx : SW x) {rd d n s : Nat} (hd : d < 64) (hn : n < 20000) (hs : s < 32768) (fi : Nat → Int64) (mk : Nat → Int32) (pa : Nat → Int64) (ss li tt be ro : Nat → Int32) : f_X7_open (nI rd) (nI d) (nI n) 0 fi mk pa ss li tt be ro (nI b) (nI g) (nI o) x (nI s) = some (nI (d + 1), nI (n + 1), 0, vp_updL fi s x, upd mk s (nI (1024 * rd)), vp_updL pa d x, upd ss d (nI s), upd li d (nI (mX b g o x).length), upd tt d (nI 0), upd be d (nI (bst b g o x 0)), wrL ro (24 * d) ((mX b g o x).map cod)) := by
  have h24 := mX_len (b := b) (g := g) (o := o) hx
  have n1 : ¬ (nI d < 0 ∨ 64 ≤ d) := by have := notin (i := d) (n := 64) hd (by omega); rw [nI_clamp (by omega)] at this; exact this
  have n2 : ¬ (nI s < 0 ∨ 32768 ≤ s) := by have := notin (i := s) (n := 32768) hs (by omega); rw [nI_clamp (by omega)] at this; exact this
  have e1 : nI d * 24 = nI (24 * d) := by rw [show (24 : Int32) = nI 24 from rfl, nI_mul, Nat.mul_comm]
  have e2 : upd li d (nI (mX b g o x).length) d = nI (mX b g o x).length := by rw [updI_at, if_pos rfl]
  unfold f_X7_open
  rw [if_neg (show ¬ (20000 : Int32) ≤ nI n from nI_ge (b := 20000) hn (by omega)), if_neg (nI_pos (by omega)), if_neg (show ¬ (32768 : Int32) ≤ nI s from nI_ge (b := 32768) hs (by omega)), if_neg (nI_pos (by omega)), if_pos (show nI d < (64 : Int32) from nI_lt (b := 64) hd (by omega))]
  unfold jlet
  dsimp only
  rw [nI_clamp (show s < 2 ^ 31 by omega), if_neg n2, if_neg n2, nI_clamp (show d < 2 ^ 31 by omega), if_neg n1, if_neg n1, if_neg n1, e1, list_x hL hx (by omega) (by omega), Option.bind_some]
  dsimp only
  rw [if_neg n1, if_neg n1, e2, shl10, nI_1]
  have hB : ∀ v, f_X7_open_B168 (nI d) 0 be (nI (n + 1)) (vp_updL fi s x) (upd mk s (nI (1024 * rd))) (vp_updL pa d x) (upd ss d (nI s)) (upd tt d 0) (nI (mX b g o x).length, wrL ro (24 * d) ((mX b g o x).map cod)) (upd li d (nI (mX b g o x).length)) v = some (nI (d + 1), nI (n + 1), 0, vp_updL fi s x, upd mk s (nI (1024 * rd)), vp_updL pa d x, upd ss d (nI s), upd li d (nI (mX b g o x).length), upd tt d (nI 0), upd be d v, wrL ro (24 * d) ((mX b g o x).map cod)) := by
    intro v
    unfold f_X7_open_B168 jlet
    dsimp only
    rw [nI_clamp (show d < 2 ^ 31 by omega), if_neg n1, nI_1]
    rfl
  by_cases hm : mX b g o x = []
  · rw [if_pos (show nI (mX b g o x).length ≤ (0 : Int32) by rw [hm]; decide), ending_x hL hx, Option.bind_some, turn_xc hx, atEnd_c _ (bX_lt b g o x hx.1.1) _ hx.1.1, hB]
    rw [show bst b g o x 0 = sc0 b g o x by rw [bst, if_pos hm]]
    rfl
  · have hl : 0 < (mX b g o x).length := List.length_pos_iff.mpr hm
    rw [if_neg (show ¬ nI (mX b g o x).length ≤ (0 : Int32) from nI_ge (a := 0) hl (by omega)), show (0 : Int32) = nI 0 from rfl]
    rw [show bst b g o x 0 = 0 by rw [bst, if_neg hm]]
    exact hB (nI 0)
