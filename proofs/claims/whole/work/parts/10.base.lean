/-! our own layer: one environment for all contracts, answers and worlds fixed by the contract, calls by places -/
abbrev gT : Type := va_G × ClassId × ClassId × ClassId × ClassId × Nat × Nat
def gD (G : gT) : va_G := G.1
def gI (G : gT) : ClassId := G.2.1
def gJ (G : gT) : ClassId := G.2.2.1
def gB (G : gT) : ClassId := G.2.2.2.1
def gZ (G : gT) : ClassId := G.2.2.2.2.1
def gU (G : gT) : Nat := G.2.2.2.2.2.1
def gS (G : gT) : Nat := G.2.2.2.2.2.2
def gTys (G : gT) : List (ClassId × FieldType) := [(gI G, .int), (gJ G, .long), (gB G, .byte), (gZ G, .boolean)]
def jumpsL : List Int32 := [0x0000880, 0x0001500, 0x0002a20, 0x0005040, 0x0002080, 0x0011004, 0x002a008, 0x0054411, 0x00a0802, 0x0041004, 0x0220082, 0x0540105, 0x0a8822a, 0x1410054, 0x0820088, 0x0401040, 0x08020a0, 0x1104540, 0x0200a80, 0x0401100, 0x0020800, 0x0041400, 0x008a800, 0x0015000, 0x0022000]
def stepsL : List Int32 := [0x0000062, 0x00000e5, 0x00001ca, 0x0000394, 0x0000308, 0x0000c43, 0x0001ca7, 0x000394e, 0x000729c, 0x0006118, 0x0018860, 0x00394e0, 0x00729c0, 0x00e5380, 0x00c2300, 0x0310c00, 0x0729c00, 0x0e53800, 0x1ca7000, 0x1846000, 0x0218000, 0x0538000, 0x0a70000, 0x14e0000, 0x08c0000]
def jumpsF (j : Nat) : Int32 := jumpsL.getD j 0
def stepsF (j : Nat) : Int32 := stepsL.getD j 0
/-- what every method of ours may rest on: the classes, the nest's words, the two static tables outside of what is free -/
def gE (G : gT) (A : Nat → Prop) (U : State) (H : Heap) : Prop := va_K (gD G) vwCl (gTys G) U ∧ (∀ w ∈ nestW, va_Nw w U) ∧ va_Z "AgingMen$Rules" "JUMPS" "[I" (.ref (gU G)) A U H ∧ va_Z "AgingMen$Rules" "STEPS" "[I" (.ref (gS G)) A U H ∧ va_T .int (gU G) 25 (fun j => .int (jumpsF j)) A U H ∧ va_T .int (gS G) 25 (fun j => .int (stepsF j)) A U H
def isNest : Cond → Bool
  | .fieldLinkNest .. => true
  | .methodLinkNest .. => true
  | _ => false
theorem nest_is : ∀ w ∈ nestW, isNest w = true := by decide +kernel
theorem nest_on : ∀ w ∈ nestW, w.onTables = true := by decide +kernel
theorem nest_warm1 {s U : State} (hW : s.WarmedH U.vm) : ∀ w : Cond, isNest w = true → va_Nw w s → va_Nw w U := by
  intro w hb h1
  cases w <;> first | exact va_Nw.warmF hW h1 | exact va_Nw.warmM hW h1 | (exact absurd hb Bool.false_ne_true)
theorem gE.warm {G : gT} {A : Nat → Prop} {s U : State} {H : Heap} (hW : s.WarmedH U.vm) (h : gE G A s H) : gE G A U H := by
  obtain ⟨h1, h2, h3, h4, h5, h6⟩ := h
  exact ⟨va_K.moved hW.alike h1, fun w hw => nest_warm1 hW w (nest_is w hw) (h2 w hw), h3.moved hW.alike, h4.moved hW.alike, h5.moved hW.alike, h6.moved hW.alike⟩
theorem gE.calling {G : gT} {A : Nat → Prop} {U : State} {H : Heap} {g : JFrame} {mk : MethodId} {a : Array Value} (h : gE G A U H) : gE G A (U.calling g mk a) H := by
  obtain ⟨h1, h2, h3, h4, h5, h6⟩ := h
  have hv : U.vm.Alike (U.calling g mk a).vm := Vm.Alike.refl U.vm
  exact ⟨va_K.moved hv h1, fun w hw => va_Nw.same (nest_on w hw) (u := U) (U := U.calling g mk a) rfl (h2 w hw), h3.moved hv, h4.moved hv, h5.moved hv, h6.moved hv⟩
theorem gE.kept {G : gT} {A : Nat → Prop} {U : State} {H H1 : Heap} (h : gE G A U H) (hq : ∀ a : Nat, a < H.size → ¬ A a → H1[a]? = H[a]?) : gE G A U H1 := by
  obtain ⟨h1, h2, h3, h4, h5, h6⟩ := h
  exact ⟨h1, h2, h3.kept hq, h4.kept hq, h5.kept hq, h6.kept hq⟩
theorem gE.narrow {G : gT} {A B : Nat → Prop} {U : State} {H : Heap} (h : gE G A U H) (hAB : ∀ q, B q → A q) : gE G B U H := by
  obtain ⟨h1, h2, h3, h4, h5, h6⟩ := h
  exact ⟨h1, h2, h3.narrow hAB, h4.narrow hAB, h5.narrow hAB, h6.narrow hAB⟩
/-- a method's end: its answer and its world by 'post' -/
def HXq (G : gT) (post : Option Value → va_W → Prop) (A : Nat → Prop) : Array Value → State → Outcome → State → Prop := fun _ st oc t => ∃ (rv : Option Value) (w1 : va_W), oc = .returned rv ∧ post rv w1 ∧ va_P (gD G) vwCl w1 t.heap ∧ va_D A w1 ∧ va_F A st t
def HXp (G : gT) (av : List Value) (w0 : va_W) (sz : Nat) : Array Value → State → Prop := va_Pc av (fun U => U.heap.size = sz ∧ va_P (gD G) vwCl w0 U.heap ∧ va_D (fun _ => True) w0 ∧ gE G (va_A w0 sz) U U.heap)
def HX (G : gT) (l : Launch) (y : MethodName) (ws : List Cond) (rm : Room) (mc ms : Nat) (av : List Value) (w0 : va_W) (post : Option Value → va_W → Prop) : Prop :=
  ∀ sz : Nat, Met l y ws rm (HXp G av w0 sz) (HXq G post (va_A w0 sz)) mc ms (va_A w0 sz)
def pEq (rv : Option Value) (w1 : va_W) : Option Value → va_W → Prop := fun v w => v = rv ∧ w = w1
/-- the answer and the world are these -/
def HM (G : gT) (l : Launch) (y : MethodName) (ws : List Cond) (rm : Room) (mc ms : Nat) (av : List Value) (w0 : va_W) (rv : Option Value) (w1 : va_W) : Prop := HX G l y ws rm mc ms av w0 (pEq rv w1)
def CX (p : Program) (s : State) (m : MethodId) (meth : Method) (c : Code) (G : gT) (A : Nat → Prop) (av : Array Value) (own : String) (cc : ByteArray) (nL : Nat) (rt : Option FieldType) (cw : Cond) : Prop :=
  p.tables.exec = Jvm.exec ∧ c.code = cc ∧ meth.sig.returnType = rt ∧ c.maxLocals = nL ∧ s.vm.findClass own = some m.cls ∧ (∀ w ∈ cw :: UW, w.before av s = true) ∧ meth.locks = false ∧ gE G A s s.heap ∧ (∀ q, s.heap.size ≤ q → A q)
theorem HX.ofW {G : gT} {l : Launch} {y : MethodName} {rm : Room} {mc ms : Nat} {av : List Value} {w0 : va_W} {post : Option Value → va_W → Prop} {cc : ByteArray} {nL : Nat} {rt : Option FieldType} (hy : plainName y.cls = true) (hsl : (lg_sl av).length ≤ nL)
    (body : ∀ (p : Program) (e : Env) (s : State) (m : MethodId) (args : Array Value) (below : List Frame) (meth : Method) (c : Code) (A : Nat → Prop), CX p s m meth c G A args y.cls cc nL rt (.code y cc nL rt) → meth.name = y.name → va_P (gD G) vwCl w0 s.heap → va_D A w0 → va_S A s.heap s.heap [] → ∀ ls : Array Slot, lv_has ls nL (lv_args 0 av) →
      W p l e rm s m args below meth c s.heap [] 0 0 (MQ below (HXq G post A) args s mc ms A) (F0 m 0 ls [])) :
    HX G l y (.code y cc nL rt :: UW) rm mc ms av w0 post := by
  intro sz
  refine Met.ofW (cc := cc) (maxL := nL) (ret := rt) hy rfl ?_
  intro p e s m args below meth c s₁ B hml hv
  obtain ⟨rfl, hsz, hP, hD0, hE⟩ := hv
  subst hsz
  have hts := atoms_spec (ws := .code y cc nL rt :: UW) B.pre
  rw [lg_entry_eq]
  exact body p e s m av.toArray below meth c (va_A w0 s.heap.size) ⟨B.exec, B.bytes, B.returns, hml, findClass_of_methodNamed B.named, hts, B.notSynchronized, hE, fun q h => Or.inr h⟩ (name_of_methodNamed B.named B.method).1 hP hD0.self va_S.rf _ (lv_entry av hsl)
theorem HM.ofW {G : gT} {l : Launch} {y : MethodName} {rm : Room} {mc ms : Nat} {av : List Value} {w0 w1 : va_W} {rv : Option Value} {cc : ByteArray} {nL : Nat} {rt : Option FieldType} (hy : plainName y.cls = true) (hsl : (lg_sl av).length ≤ nL)
    (body : ∀ (p : Program) (e : Env) (s : State) (m : MethodId) (args : Array Value) (below : List Frame) (meth : Method) (c : Code) (A : Nat → Prop) (post : Option Value → va_W → Prop), post rv w1 → CX p s m meth c G A args y.cls cc nL rt (.code y cc nL rt) → va_P (gD G) vwCl w0 s.heap → va_D A w0 → va_S A s.heap s.heap [] → ∀ ls : Array Slot, lv_has ls nL (lv_args 0 av) →
      W p l e rm s m args below meth c s.heap [] 0 0 (MQ below (HXq G post A) args s mc ms A) (F0 m 0 ls [])) :
    HM G l y (.code y cc nL rt :: UW) rm mc ms av w0 rv w1 :=
  HX.ofW hy hsl (fun p e s m args below meth c A hC _ hP hD hS ls hl => body p e s m args below meth c A (pEq rv w1) ⟨rfl, rfl⟩ hC hP hD hS ls hl)
theorem fm_of {α β : Type} {f : α → Option β} : ∀ {l : List α} {w : List β}, l.map f = w.map some → l.filterMap f = w
  | [], [], _ => rfl
  | [], _ :: _, h => by simp at h
  | _ :: _, [], h => by simp at h
  | a :: l, b :: w, h => by
    simp only [List.map_cons, List.cons.injEq] at h
    rw [List.filterMap_cons_some h.1, fm_of h.2]
theorem ifp {α : Type} {c : Prop} {d : Decidable c} {a b r : α} (h : @ite α c d a b = r) (hc : c) : a = r := by rw [if_pos hc] at h; exact h
theorem ifn {α : Type} {c : Prop} {d : Decidable c} {a b r : α} (h : @ite α c d a b = r) (hc : ¬ c) : b = r := by rw [if_neg hc] at h; exact h
theorem bnd {α β : Type} {o : Option α} {f : α → Option β} {r : β} (h : o.bind f = some r) : ∃ a, o = some a ∧ f a = some r := Option.bind_eq_some_iff.mp h
def jlet {α β : Type} (e : α) (f : α → β) : β := f e
theorem jl {α β : Type} {e : α} {f : α → β} {r : β} (h : jlet e f = r) {x : α} (hx : x = e) : f x = r := by subst hx; exact h
theorem inb {β : Type} {i : Int32} {n : Nat} {b : Option β} {r : β} {d : Decidable (i < 0 ∨ n ≤ i.toNatClampNeg)} (h : @ite _ (i < 0 ∨ n ≤ i.toNatClampNeg) d none b = some r) : vp_in i n ∧ b = some r := by
  by_cases hc : i < 0 ∨ n ≤ i.toNatClampNeg
  · rw [if_pos hc] at h; cases h
  · rw [if_neg hc] at h; exact ⟨hc, h⟩
theorem nz {β : Type} {i : Int32} {b : Option β} {r : β} {d : Decidable (i = 0)} (h : @ite _ (i = 0) d none b = some r) : ¬ i = 0 ∧ b = some r := by
  by_cases hc : i = 0
  · rw [if_pos hc] at h; cases h
  · rw [if_neg hc] at h; exact ⟨hc, h⟩
def b2i (b : Bool) : Int32 := cond b 1 0
theorem b2i_nar (b : Bool) : narrow .boolean (.int (b2i b)) = .int (b2i b) := by cases b <;> decide +kernel
def jrem (x y : Int32) : Int32 := x - x / y * y
def jlrem (x y : Int64) : Int64 := x - x / y * y
def jshl (x y : Int32) : Int32 := x <<< (y &&& 31)
def jshr (x y : Int32) : Int32 := x >>> (y &&& 31)
def jushr (x y : Int32) : Int32 := (x.toUInt32 >>> (y.toUInt32 &&& Int32.toUInt32 31)).toInt32
def jlushr (x : Int64) (y : Int32) : Int64 := (x.toUInt64 >>> (y.toInt64.toUInt64 &&& Int64.toUInt64 63)).toInt64
def jlshl (x : Int64) (y : Int32) : Int64 := x <<< (y.toInt64 &&& 63)
def jlshr (x : Int64) (y : Int32) : Int64 := x >>> (y.toInt64 &&& 63)
def jmax (x y : Int32) : Int32 := if x < y then y else x
section HMR
variable {p : Program} {l : Launch} {e : Env} {R : Room} {s : State} {m : MethodId} {args : Array Value} {below : List Frame} {meth : Method} {c : Code} {H : Heap} {locs : List Loc} {cells slots : Nat} {Q : State → Prop}
variable {cc : ByteArray} {pc : Nat} {ls : Array Slot} {rest st sn : List Value} {A : Nat → Prop} {a : Nat} {w wc wr wn : va_W} {G : gT} {cw : Cond} {own : String} {nL : Nat}
variable {y : MethodName} {bytes : ByteArray} {maxL mc ms index : Nat} {ret : Option FieldType} {rm : Room} {As : List Value} {post : Option Value → va_W → Prop}
theorem hx_blind {sz : Nat} {av : List Value} : FrameBlind (HXp G av w sz) := fun a U g mk q => by
  obtain ⟨q0, q1, qP, qD, qE⟩ := q
  exact ⟨q0, q1, qP, qD, qE.calling⟩
theorem hx_pre (hE : gE G A s s.heap) (hA : ∀ q, s.heap.size ≤ q → A q) (hP : va_P (gD G) vwCl w H) (hD : va_D A w) (hS : va_S A s.heap H locs) (isC : List Nat) (hC : isC.map (fun i => w[i]?) = wc.map some) (hnC : va_nd isC = true) (av : List Value) : ∀ U : State, U.heap = H → s.WarmedH U.vm → HXp G av wc H.size av.toArray U := by
  intro U hU hW
  have hF := va_free (wc := wc) hD hS hA isC hC
  refine ⟨rfl, by rw [hU], by rw [hU]; exact hP.sub isC (fm_of hC), (hD.sub isC hnC hC).weaken (fun _ _ _ _ => trivial), ?_⟩
  rw [hU]
  exact ((hE.kept (fun q h1 h2 => hS.2.1 q h1 h2)).narrow hF).warm hW
/-- behind a call -/
theorem hx_fin {st0 : List Value} (hr : va_Run p l e R s m args below meth c H locs cells slots mc ms (F0 m pc ls st0) rest (HXq G post (va_A wc H.size) As.toArray) (va_A wc H.size)) (hA : ∀ q, s.heap.size ≤ q → A q) (hP : va_P (gD G) vwCl w H) (hD : va_D A w) (hS : va_S A s.heap H locs)
    (isC isR : List Nat) (hC : isC.map (fun i => w[i]?) = wc.map some) (hR : isR.map (fun i => w[i]?) = wr.map some) (hn : va_nd isR = true) (hdis : ∀ i ∈ isR, i ∉ isC)
    (kk : ∀ (rv : Option Value) (w1 : va_W) (H1 : Heap) (locs1 : List Loc), post rv w1 → va_P (gD G) vwCl (wr ++ w1) H1 → va_D A (wr ++ w1) → va_S A s.heap H1 locs1 → W p l e R s m args below meth c H1 locs1 (cells + mc) (slots + ms) Q (F0 m (pc + 3) ls (rv.toList ++ rest))) :
    W p l e R s m args below meth c H locs cells slots Q (F0 m pc ls st0) := by
  intro T hT X
  obtain ⟨v, st₀, t, T', L, h0, X', hL, e1, e2, ⟨rv, w1, hv, hpost, hP1, hD1, hz, hk⟩, stp⟩ := hr T hT X
  cases hv
  rw [h0] at hz hk
  have hFc := va_free (wc := wc) hD hS hA isC hC
  obtain ⟨hP2, hD2⟩ := va_join (wr := wr) (w1 := w1) hP hD isC isR hC hR hn hdis (H1 := t.heap) hk hFc hP1 hD1
  obtain ⟨t2, a1, b1⟩ := kk _ w1 T'.heap (locs ++ L) hpost (by rw [e1]; exact hP2) hD2
    ⟨Nat.le_trans hS.1 (by rw [e1]; exact hz), fun q h1 h2 => by rw [e1, hk q (Nat.lt_of_lt_of_le h1 hS.1) (fun z => h2 (hFc q z))]; exact hS.2.1 q h1 h2, fun q hq => by
      rcases List.mem_append.mp hq with h | h
      · exact hS.2.2 q h
      · exact hFc _ (hL q h)⟩ T' rfl X'
  exact ⟨t2, stp t2 a1, b1⟩
theorem hx_S (hx : p.tables.exec = Jvm.exec) (hb : c.code = cc) (hml : c.maxLocals = nL) (hown : s.vm.findClass own = some m.cls) (hts : ∀ w ∈ cw :: UW, w.before args s = true) (hE : gE G A s s.heap) (hA : ∀ q, s.heap.size ≤ q → A q)
    (hM : HX G l y (.code y bytes maxL ret :: UW) rm mc ms As wc post) (hm : SMs y bytes maxL ret As.length) (hl : Cond.methodLink own index y ∈ UW) (hR : rm.cells = mc ∧ rm.slots = ms ∧ rm.frames + 1 ≤ R.frames ∧ 8 + (maxL + 11) + rm.locals ≤ R.locals)
    (hP : va_P (gD G) vwCl w H) (hD : va_D A w) (hS : va_S A s.heap H locs)
    (isC isR : List Nat) (hC : isC.map (fun i => w[i]?) = wc.map some) (hRr : isR.map (fun i => w[i]?) = wr.map some) (hn : va_nd isC = true ∧ va_nd isR = true ∧ (∀ i ∈ isR, i ∉ isC))
    (hsz : ls.size = nL) (hstk : st = As.reverse ++ rest) (hW : (rest.map fun v => v.category).sum ≤ 8) (hdg : decode cc pc = .ok (.invokestatic index, 3)) (hf : cells + mc ≤ R.cells ∧ slots + ms ≤ R.slots)
    (kk : ∀ (rv : Option Value) (w1 : va_W) (H1 : Heap) (locs1 : List Loc), post rv w1 → va_P (gD G) vwCl (wr ++ w1) H1 → va_D A (wr ++ w1) → va_S A s.heap H1 locs1 → W p l e R s m args below meth c H1 locs1 (cells + mc) (slots + ms) Q (F0 m (pc + 3) ls (rv.toList ++ rest))) :
    W p l e R s m args below meth c H locs cells slots Q (F0 m pc ls st) := by
  obtain ⟨k1, k2, k3, k4⟩ := hm
  refine hx_fin (va_runS (As := As) (rest := rest) ⟨hx, hb, hml, hown, hts⟩ (hM H.size) ⟨callB_of (Ts := cw :: UW) As.length hts (uw_code k1) rfl hR.1 hR.2.1 (hts _ (List.mem_cons_of_mem _ k3)) (hts _ (List.mem_cons_of_mem _ hl)) k4 hR.2.2, hts _ (List.mem_cons_of_mem _ k2)⟩ ⟨hx_blind, hx_pre hE hA hP hD hS isC hC hn.1 As⟩ rfl rfl hsz hstk (lv_room hW) hdg hf) hA hP hD hS isC isR hC hRr hn.2.1 hn.2.2 kk
theorem hx_V (hx : p.tables.exec = Jvm.exec) (hb : c.code = cc) (hml : c.maxLocals = nL) (hown : s.vm.findClass own = some m.cls) (hts : ∀ w ∈ cw :: UW, w.before args s = true) (hE : gE G A s s.heap) (hA : ∀ q, s.heap.size ≤ q → A q)
    (hM : HX G l y (.code y bytes maxL ret :: UW) rm mc ms (.ref a :: As) wc post) (hm : SMv y bytes maxL ret As.length) (hl : Cond.methodLink own index y ∈ UW) (hR : rm.cells = mc ∧ rm.slots = ms ∧ rm.frames + 1 ≤ R.frames ∧ 8 + (maxL + 11) + rm.locals ≤ R.locals)
    (hP : va_P (gD G) vwCl w H) (hD : va_D A w) (hS : va_S A s.heap H locs) (q0 : Nat) {ci : Nat} {fs : List Value} (he : w[q0]? = some (a, .inr (ci, fs))) (hcl : (vwCl[ci]?).map (fun q => q.1) = some y.cls)
    (isC isR : List Nat) (hC : isC.map (fun i => w[i]?) = wc.map some) (hRr : isR.map (fun i => w[i]?) = wr.map some) (hn : va_nd isC = true ∧ va_nd isR = true ∧ (∀ i ∈ isR, i ∉ isC))
    (hsz : ls.size = nL) (hstk : st = As.reverse ++ .ref a :: rest) (hW : (rest.map fun v => v.category).sum ≤ 8) (hdg : decode cc pc = .ok (.invokevirtual index, 3)) (hf : cells + mc ≤ R.cells ∧ slots + ms ≤ R.slots)
    (kk : ∀ (rv : Option Value) (w1 : va_W) (H1 : Heap) (locs1 : List Loc), post rv w1 → va_P (gD G) vwCl (wr ++ w1) H1 → va_D A (wr ++ w1) → va_S A s.heap H1 locs1 → W p l e R s m args below meth c H1 locs1 (cells + mc) (slots + ms) Q (F0 m (pc + 3) ls (rv.toList ++ rest))) :
    W p l e R s m args below meth c H locs cells slots Q (F0 m pc ls st) := by
  obtain ⟨k1, k2, k3, k5, k4⟩ := hm
  obtain ⟨q, hq1, hq2⟩ := Option.map_eq_some_iff.mp hcl
  have hrec := va_recv hE.1 hP hq1 he
  rw [hq2] at hrec
  refine hx_fin (va_runV (As := As) (rest := rest) (C := y.cls) ⟨hx, hb, hml, hown, hts⟩ (hM H.size) ⟨callB_of (Ts := cw :: UW) As.length hts (uw_code k1) rfl hR.1 hR.2.1 (hts _ (List.mem_cons_of_mem _ k5)) (hts _ (List.mem_cons_of_mem _ hl)) k4 hR.2.2, hts _ (List.mem_cons_of_mem _ k2), hts _ (List.mem_cons_of_mem _ k3)⟩ ⟨hx_blind, hrec, hx_pre hE hA hP hD hS isC hC hn.1 (.ref a :: As)⟩ rfl rfl hsz hstk (lv_room hW) hdg hf) hA hP hD hS isC isR hC hRr hn.2.1 hn.2.2 kk
theorem hm_S {rv : Option Value} {w1 : va_W} (hx : p.tables.exec = Jvm.exec) (hb : c.code = cc) (hml : c.maxLocals = nL) (hown : s.vm.findClass own = some m.cls) (hts : ∀ w ∈ cw :: UW, w.before args s = true) (hE : gE G A s s.heap) (hA : ∀ q, s.heap.size ≤ q → A q)
    (hM : HM G l y (.code y bytes maxL ret :: UW) rm mc ms As wc rv w1) (hm : SMs y bytes maxL ret As.length) (hl : Cond.methodLink own index y ∈ UW) (hR : rm.cells = mc ∧ rm.slots = ms ∧ rm.frames + 1 ≤ R.frames ∧ 8 + (maxL + 11) + rm.locals ≤ R.locals)
    (hP : va_P (gD G) vwCl w H) (hD : va_D A w) (hS : va_S A s.heap H locs)
    (isC isR ix : List Nat) (hC : isC.map (fun i => w[i]?) = wc.map some) (hRr : isR.map (fun i => w[i]?) = wr.map some) (hN : ix.map (fun i => (wr ++ w1)[i]?) = wn.map some) (hn : va_nd isC = true ∧ va_nd isR = true ∧ (∀ i ∈ isR, i ∉ isC) ∧ va_nd ix = true)
    (hsz : ls.size = nL) (hstk : st = As.reverse ++ rest) (hsn : rv.toList ++ rest = sn) (hW : (rest.map fun v => v.category).sum ≤ 8) (hdg : decode cc pc = .ok (.invokestatic index, 3)) (hf : cells + mc ≤ R.cells ∧ slots + ms ≤ R.slots)
    (kk : ∀ (H1 : Heap) (locs1 : List Loc), va_P (gD G) vwCl wn H1 → va_D A wn → va_S A s.heap H1 locs1 → W p l e R s m args below meth c H1 locs1 (cells + mc) (slots + ms) Q (F0 m (pc + 3) ls sn)) :
    W p l e R s m args below meth c H locs cells slots Q (F0 m pc ls st) := by
  refine hx_S hx hb hml hown hts hE hA hM hm hl hR hP hD hS isC isR hC hRr ⟨hn.1, hn.2.1, hn.2.2.1⟩ hsz hstk hW hdg hf (fun rv1 w2 H1 locs1 hpost hP1 hD1 hS1 => ?_)
  obtain ⟨rfl, rfl⟩ := hpost
  rw [hsn]
  exact kk H1 locs1 (hP1.sub ix (fm_of hN)) (hD1.sub ix hn.2.2.2 hN) hS1
theorem hm_V {rv : Option Value} {w1 : va_W} (hx : p.tables.exec = Jvm.exec) (hb : c.code = cc) (hml : c.maxLocals = nL) (hown : s.vm.findClass own = some m.cls) (hts : ∀ w ∈ cw :: UW, w.before args s = true) (hE : gE G A s s.heap) (hA : ∀ q, s.heap.size ≤ q → A q)
    (hM : HM G l y (.code y bytes maxL ret :: UW) rm mc ms (.ref a :: As) wc rv w1) (hm : SMv y bytes maxL ret As.length) (hl : Cond.methodLink own index y ∈ UW) (hR : rm.cells = mc ∧ rm.slots = ms ∧ rm.frames + 1 ≤ R.frames ∧ 8 + (maxL + 11) + rm.locals ≤ R.locals)
    (hP : va_P (gD G) vwCl w H) (hD : va_D A w) (hS : va_S A s.heap H locs) (q0 : Nat) {ci : Nat} {fs : List Value} (he : w[q0]? = some (a, .inr (ci, fs))) (hcl : (vwCl[ci]?).map (fun q => q.1) = some y.cls)
    (isC isR ix : List Nat) (hC : isC.map (fun i => w[i]?) = wc.map some) (hRr : isR.map (fun i => w[i]?) = wr.map some) (hN : ix.map (fun i => (wr ++ w1)[i]?) = wn.map some) (hn : va_nd isC = true ∧ va_nd isR = true ∧ (∀ i ∈ isR, i ∉ isC) ∧ va_nd ix = true)
    (hsz : ls.size = nL) (hstk : st = As.reverse ++ .ref a :: rest) (hsn : rv.toList ++ rest = sn) (hW : (rest.map fun v => v.category).sum ≤ 8) (hdg : decode cc pc = .ok (.invokevirtual index, 3)) (hf : cells + mc ≤ R.cells ∧ slots + ms ≤ R.slots)
    (kk : ∀ (H1 : Heap) (locs1 : List Loc), va_P (gD G) vwCl wn H1 → va_D A wn → va_S A s.heap H1 locs1 → W p l e R s m args below meth c H1 locs1 (cells + mc) (slots + ms) Q (F0 m (pc + 3) ls sn)) :
    W p l e R s m args below meth c H locs cells slots Q (F0 m pc ls st) := by
  refine hx_V hx hb hml hown hts hE hA hM hm hl hR hP hD hS q0 he hcl isC isR hC hRr ⟨hn.1, hn.2.1, hn.2.2.1⟩ hsz hstk hW hdg hf (fun rv1 w2 H1 locs1 hpost hP1 hD1 hS1 => ?_)
  obtain ⟨rfl, rfl⟩ := hpost
  rw [hsn]
  exact kk H1 locs1 (hP1.sub ix (fm_of hN)) (hD1.sub ix hn.2.2.2 hN) hS1
variable {ci : Nat} {C : String} {T : u_T} {N k : Nat} {fs : List Value} {v : Value} {host : String} {ty : FieldType}
theorem hget (hx : p.tables.exec = Jvm.exec) (hb : c.code = cc) (hts : ∀ w ∈ cw :: UW, w.before args s = true) (hown : s.vm.findClass own = some m.cls) (hE : gE G A s s.heap) (hf : FLp own index ci C T N k) (hP : va_P (gD G) vwCl w H) (q0 : Nat) (he : w[q0]? = some (a, .inr (ci, fs))) (hv : fs[k]? = some v) (hdg : decode cc pc = .ok (.getfield index, 3))
    (kk : W p l e R s m args below meth c H locs cells slots Q (F0 m (pc + 3) ls (v :: rest))) : W p l e R s m args below meth c H locs cells slots Q (F0 m pc ls (.ref a :: rest)) := by
  obtain ⟨h1, h2, h3, h4, h5⟩ := hf
  exact va_get hx hb hts (fun w hw => List.mem_cons_of_mem _ (h3 w hw)) hown hE.1 hP q0 he h1 k h2 (hts _ (List.mem_cons_of_mem _ h5)) (fun x h9 => by rw [h4] at h9; exact h9) hv hdg kk
theorem hgetN (hx : p.tables.exec = Jvm.exec) (hb : c.code = cc) (hts : ∀ w ∈ cw :: UW, w.before args s = true) (hown : s.vm.findClass own = some m.cls) (hE : gE G A s s.heap) (hf : FLn own index ci C T N k host) (hP : va_P (gD G) vwCl w H) (q0 : Nat) (he : w[q0]? = some (a, .inr (ci, fs))) (hv : fs[k]? = some v) (hdg : decode cc pc = .ok (.getfield index, 3))
    (kk : W p l e R s m args below meth c H locs cells slots Q (F0 m (pc + 3) ls (v :: rest))) : W p l e R s m args below meth c H locs cells slots Q (F0 m pc ls (.ref a :: rest)) := by
  obtain ⟨h1, h2, h3, h4, h5⟩ := hf
  exact va_getN hx hb hts (fun w hw => List.mem_cons_of_mem _ (h3 w hw)) hown hE.1 hP q0 he h1 k h2 (va_Nw.use rfl (hE.2.1 _ h5)) (fun x h9 => by rw [h4] at h9; exact h9) hv hdg kk
theorem hput (hx : p.tables.exec = Jvm.exec) (hb : c.code = cc) (hts : ∀ w ∈ cw :: UW, w.before args s = true) (hown : s.vm.findClass own = some m.cls) (hE : gE G A s s.heap) (hf : FLp own index ci C T N k) (hT : FTp T N k ty) (hP : va_P (gD G) vwCl w H) (hD : va_D A w) (hS : va_S A s.heap H locs) (q0 : Nat) (he : w[q0]? = some (a, .inr (ci, fs))) (hfin : (T k).2.2.2 = false) (hnr : narrow ty v = v) (hfit : fits ty v = true) (hl : k < fs.length) (hwn : w.set q0 (a, .inr (ci, fs.set k v)) = wn) (hdg : decode cc pc = .ok (.putfield index, 3))
    (kk : ∀ (H1 : Heap) (locs1 : List Loc), va_P (gD G) vwCl wn H1 → va_D A wn → va_S A s.heap H1 locs1 → W p l e R s m args below meth c H1 locs1 cells slots Q (F0 m (pc + 3) ls rest)) : W p l e R s m args below meth c H locs cells slots Q (F0 m pc ls (v :: .ref a :: rest)) := by
  obtain ⟨h1, h2, h3, h4, h5⟩ := hf
  obtain ⟨⟨ty0, hty⟩, hnm, hd⟩ := hT
  subst hwn
  exact va_put hx hb hts (fun w hw => List.mem_cons_of_mem _ (h3 w hw)) ty0 hty hnm hown hE.1 hP hD hS q0 he h1 k h2 (hts _ (List.mem_cons_of_mem _ h5)) (fun x h9 => by rw [h4] at h9; exact h9) hfin hd hnr hfit hl hdg kk
theorem hputN (hx : p.tables.exec = Jvm.exec) (hb : c.code = cc) (hts : ∀ w ∈ cw :: UW, w.before args s = true) (hown : s.vm.findClass own = some m.cls) (hE : gE G A s s.heap) (hf : FLn own index ci C T N k host) (hT : FTp T N k ty) (hP : va_P (gD G) vwCl w H) (hD : va_D A w) (hS : va_S A s.heap H locs) (q0 : Nat) (he : w[q0]? = some (a, .inr (ci, fs))) (hfin : (T k).2.2.2 = false) (hnr : narrow ty v = v) (hfit : fits ty v = true) (hl : k < fs.length) (hwn : w.set q0 (a, .inr (ci, fs.set k v)) = wn) (hdg : decode cc pc = .ok (.putfield index, 3))
    (kk : ∀ (H1 : Heap) (locs1 : List Loc), va_P (gD G) vwCl wn H1 → va_D A wn → va_S A s.heap H1 locs1 → W p l e R s m args below meth c H1 locs1 cells slots Q (F0 m (pc + 3) ls rest)) : W p l e R s m args below meth c H locs cells slots Q (F0 m pc ls (v :: .ref a :: rest)) := by
  obtain ⟨h1, h2, h3, h4, h5⟩ := hf
  obtain ⟨⟨ty0, hty⟩, hnm, hd⟩ := hT
  subst hwn
  exact va_putN hx hb hts (fun w hw => List.mem_cons_of_mem _ (h3 w hw)) ty0 hty hnm hown hE.1 hP hD hS q0 he h1 k h2 (va_Nw.use rfl (hE.2.1 _ h5)) (fun x h9 => by rw [h4] at h9; exact h9) hfin hd hnr hfit hl hdg kk
variable {n : Nat} {f : Nat → Int32} {fL : Nat → Int64} {i x : Int32} {xL : Int64}
theorem hiald (hx : p.tables.exec = Jvm.exec) (hb : c.code = cc) (hE : gE G A s s.heap) (hP : va_P (gD G) vwCl w H) (q0 : Nat) (ha : w[q0]? = some (a, .inl (gI G, n, .inl f))) (hin : vp_in i n) (hdg : decode cc pc = .ok (.iaload, 1))
    (kk : W p l e R s m args below meth c H locs cells slots Q (F0 m (pc + 1) ls (.int (f i.toNatClampNeg) :: rest))) : W p l e R s m args below meth c H locs cells slots Q (F0 m pc ls (.int i :: .ref a :: rest)) := va_iald hx hb hE.1 hP q0 0 ha rfl hin hdg kk
theorem hlald (hx : p.tables.exec = Jvm.exec) (hb : c.code = cc) (hE : gE G A s s.heap) (hP : va_P (gD G) vwCl w H) (q0 : Nat) (ha : w[q0]? = some (a, .inl (gJ G, n, .inr (.inl fL)))) (hin : vp_in i n) (hdg : decode cc pc = .ok (.laload, 1))
    (kk : W p l e R s m args below meth c H locs cells slots Q (F0 m (pc + 1) ls (.long (fL i.toNatClampNeg) :: rest))) : W p l e R s m args below meth c H locs cells slots Q (F0 m pc ls (.int i :: .ref a :: rest)) := va_lald hx hb hE.1 hP q0 1 ha rfl hin hdg kk
theorem hbald (hx : p.tables.exec = Jvm.exec) (hb : c.code = cc) (hE : gE G A s s.heap) (hP : va_P (gD G) vwCl w H) (q0 : Nat) (ha : w[q0]? = some (a, .inl (gB G, n, .inl f))) (hin : vp_in i n) (hdg : decode cc pc = .ok (.baload, 1))
    (kk : W p l e R s m args below meth c H locs cells slots Q (F0 m (pc + 1) ls (.int (f i.toNatClampNeg) :: rest))) : W p l e R s m args below meth c H locs cells slots Q (F0 m pc ls (.int i :: .ref a :: rest)) := va_bald hx hb hE.1 hP q0 2 ha rfl hin hdg kk
theorem hzald (hx : p.tables.exec = Jvm.exec) (hb : c.code = cc) (hE : gE G A s s.heap) (hP : va_P (gD G) vwCl w H) (q0 : Nat) (ha : w[q0]? = some (a, .inl (gZ G, n, .inl f))) (hin : vp_in i n) (hdg : decode cc pc = .ok (.baload, 1))
    (kk : W p l e R s m args below meth c H locs cells slots Q (F0 m (pc + 1) ls (.int (f i.toNatClampNeg) :: rest))) : W p l e R s m args below meth c H locs cells slots Q (F0 m pc ls (.int i :: .ref a :: rest)) := va_zald hx hb hE.1 hP q0 3 ha rfl hin hdg kk
theorem hiast (hx : p.tables.exec = Jvm.exec) (hb : c.code = cc) (hE : gE G A s s.heap) (hP : va_P (gD G) vwCl w H) (hD : va_D A w) (hS : va_S A s.heap H locs) (q0 : Nat) (ha : w[q0]? = some (a, .inl (gI G, n, .inl f))) (hin : vp_in i n) (hwn : w.set q0 (a, .inl (gI G, n, .inl (upd f i.toNatClampNeg x))) = wn) (hdg : decode cc pc = .ok (.iastore, 1))
    (kk : ∀ (H1 : Heap) (locs1 : List Loc), va_P (gD G) vwCl wn H1 → va_D A wn → va_S A s.heap H1 locs1 → W p l e R s m args below meth c H1 locs1 cells slots Q (F0 m (pc + 1) ls rest)) : W p l e R s m args below meth c H locs cells slots Q (F0 m pc ls (.int x :: .int i :: .ref a :: rest)) := by
  subst hwn
  exact va_iast hx hb hE.1 hP hD hS q0 0 ha rfl hin hdg kk
theorem hlast (hx : p.tables.exec = Jvm.exec) (hb : c.code = cc) (hE : gE G A s s.heap) (hP : va_P (gD G) vwCl w H) (hD : va_D A w) (hS : va_S A s.heap H locs) (q0 : Nat) (ha : w[q0]? = some (a, .inl (gJ G, n, .inr (.inl fL)))) (hin : vp_in i n) (hwn : w.set q0 (a, .inl (gJ G, n, .inr (.inl (vp_updL fL i.toNatClampNeg xL)))) = wn) (hdg : decode cc pc = .ok (.lastore, 1))
    (kk : ∀ (H1 : Heap) (locs1 : List Loc), va_P (gD G) vwCl wn H1 → va_D A wn → va_S A s.heap H1 locs1 → W p l e R s m args below meth c H1 locs1 cells slots Q (F0 m (pc + 1) ls rest)) : W p l e R s m args below meth c H locs cells slots Q (F0 m pc ls (.long xL :: .int i :: .ref a :: rest)) := by
  subst hwn
  exact va_last hx hb hE.1 hP hD hS q0 1 ha rfl hin hdg kk
theorem hbast (hx : p.tables.exec = Jvm.exec) (hb : c.code = cc) (hE : gE G A s s.heap) (hP : va_P (gD G) vwCl w H) (hD : va_D A w) (hS : va_S A s.heap H locs) (q0 : Nat) (ha : w[q0]? = some (a, .inl (gB G, n, .inl f))) (hin : vp_in i n) (hwn : w.set q0 (a, .inl (gB G, n, .inl (upd f i.toNatClampNeg (vp_nar .byte x)))) = wn) (hdg : decode cc pc = .ok (.bastore, 1))
    (kk : ∀ (H1 : Heap) (locs1 : List Loc), va_P (gD G) vwCl wn H1 → va_D A wn → va_S A s.heap H1 locs1 → W p l e R s m args below meth c H1 locs1 cells slots Q (F0 m (pc + 1) ls rest)) : W p l e R s m args below meth c H locs cells slots Q (F0 m pc ls (.int x :: .int i :: .ref a :: rest)) := by
  subst hwn
  exact va_bast hx hb hE.1 hP hD hS q0 2 ha rfl hin hdg kk
theorem hzast (hx : p.tables.exec = Jvm.exec) (hb : c.code = cc) (hE : gE G A s s.heap) (hP : va_P (gD G) vwCl w H) (hD : va_D A w) (hS : va_S A s.heap H locs) (q0 : Nat) (ha : w[q0]? = some (a, .inl (gZ G, n, .inl f))) (hin : vp_in i n) (hwn : w.set q0 (a, .inl (gZ G, n, .inl (upd f i.toNatClampNeg (vp_nar .boolean x)))) = wn) (hdg : decode cc pc = .ok (.bastore, 1))
    (kk : ∀ (H1 : Heap) (locs1 : List Loc), va_P (gD G) vwCl wn H1 → va_D A wn → va_S A s.heap H1 locs1 → W p l e R s m args below meth c H1 locs1 cells slots Q (F0 m (pc + 1) ls rest)) : W p l e R s m args below meth c H locs cells slots Q (F0 m pc ls (.int x :: .int i :: .ref a :: rest)) := by
  subst hwn
  exact va_zast hx hb hE.1 hP hD hS q0 3 ha rfl hin hdg kk
theorem halen {xA : vp_A} {cA : ClassId} (t0 : Nat) {ty : FieldType} (hx : p.tables.exec = Jvm.exec) (hb : c.code = cc) (hE : gE G A s s.heap) (hP : va_P (gD G) vwCl w H) (q0 : Nat) (ha : w[q0]? = some (a, .inl (cA, xA))) (ht : (gTys G)[t0]? = some (cA, ty)) {v : Int32} (hv : Int32.ofNat xA.1 = v) (hdg : decode cc pc = .ok (.arraylength, 1))
    (kk : W p l e R s m args below meth c H locs cells slots Q (F0 m (pc + 1) ls (.int v :: rest))) : W p l e R s m args below meth c H locs cells slots Q (F0 m pc ls (.ref a :: rest)) := va_alen hx hb hE.1 hP q0 t0 ha ht hv hdg kk
/-- ends -/
theorem hm_q {rv : Option Value} (hp : post rv w) (hP : va_P (gD G) vwCl w H) (hD : va_D A w) (hS : va_S A s.heap H locs) : ∀ t : State, t.heap = H → s.WarmedH t.vm → HXq G post A args s (.returned rv) t := fun t ht _ => ⟨rv, w, rfl, hp, by rw [ht]; exact hP, hD, hS.F ht⟩
theorem hm_iret (hx : p.tables.exec = Jvm.exec) (hb : c.code = cc) (hr : meth.sig.returnType = some .int) (hlk : meth.locks = false) (hP : va_P (gD G) vwCl w H) (hD : va_D A w) (hS : va_S A s.heap H locs) (hp : post (some (.int x)) w) (hdg : decode cc pc = .ok (.ireturn, 1)) : W p l e R s m args below meth c H locs cells slots (MQ below (HXq G post A) args s cells slots A) (F0 m pc ls [.int x]) := W.iret hx hb hr (hm_q hp hP hD hS) hS.2.2 hdg hlk
theorem hm_lret (hx : p.tables.exec = Jvm.exec) (hb : c.code = cc) (hr : meth.sig.returnType = some .long) (hlk : meth.locks = false) (hP : va_P (gD G) vwCl w H) (hD : va_D A w) (hS : va_S A s.heap H locs) (hp : post (some (.long xL)) w) (hdg : decode cc pc = .ok (.lreturn, 1)) : W p l e R s m args below meth c H locs cells slots (MQ below (HXq G post A) args s cells slots A) (F0 m pc ls [.long xL]) := W.lret hx hb hr (hm_q hp hP hD hS) hS.2.2 hdg hlk
theorem hm_zret (hx : p.tables.exec = Jvm.exec) (hb : c.code = cc) (hr : meth.sig.returnType = some .boolean) (hlk : meth.locks = false) (hP : va_P (gD G) vwCl w H) (hD : va_D A w) (hS : va_S A s.heap H locs) (hnr : narrow .boolean (.int x) = .int x) (hp : post (some (.int x)) w) (hdg : decode cc pc = .ok (.ireturn, 1)) : W p l e R s m args below meth c H locs cells slots (MQ below (HXq G post A) args s cells slots A) (F0 m pc ls [.int x]) := W.zret hx hb hr hnr (hm_q hp hP hD hS) hS.2.2 hdg hlk
theorem hm_aret {rt : FieldType} (hx : p.tables.exec = Jvm.exec) (hb : c.code = cc) (hr : meth.sig.returnType = some rt) (hrt : (∃ n, rt = .object n) ∨ ∃ t, rt = .array t) (hlk : meth.locks = false) (hP : va_P (gD G) vwCl w H) (hD : va_D A w) (hS : va_S A s.heap H locs) (hp : post (some (.ref a)) w) (hdg : decode cc pc = .ok (.areturn, 1)) : W p l e R s m args below meth c H locs cells slots (MQ below (HXq G post A) args s cells slots A) (F0 m pc ls [.ref a]) := W.aret hx hb hr hrt (Or.inr ⟨_, rfl⟩) (hm_q hp hP hD hS) hS.2.2 hdg hlk
theorem hm_vret (hx : p.tables.exec = Jvm.exec) (hb : c.code = cc) (hr : meth.sig.returnType = none) (hlk : meth.locks = false) (hP : va_P (gD G) vwCl w H) (hD : va_D A w) (hS : va_S A s.heap H locs) (hp : post none w) (hdg : decode cc pc = .ok (.return_, 1)) : W p l e R s m args below meth c H locs cells slots (MQ below (HXq G post A) args s cells slots A) (F0 m pc ls []) := W.vret hx hb hr (hm_q hp hP hD hS) hS.2.2 hdg hlk
end HMR
