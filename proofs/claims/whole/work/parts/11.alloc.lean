/-! making: new objects, new arrays, constructors -/
section HMN
variable {p : Program} {l : Launch} {e : Env} {R : Room} {s : State} {m : MethodId} {args : Array Value} {below : List Frame} {meth : Method} {c : Code} {H : Heap} {locs : List Loc} {cells slots : Nat} {Q : State → Prop}
variable {cc : ByteArray} {pc : Nat} {ls : Array Slot} {rest st : List Value} {A : Nat → Prop} {a : Nat} {w wc wr wn : va_W} {G : gT} {cw : Cond} {own : String} {nL : Nat}
variable {y : MethodName} {bytes : ByteArray} {maxL mc ms index : Nat} {rm : Room} {As : List Value} {post : Option Value → va_W → Prop} {ci : Nat} {C : String} {T : u_T} {N k : Nat} {fs : List Value} {v : Value} {host : String} {ty : FieldType}
theorem hx_IN (hx : p.tables.exec = Jvm.exec) (hb : c.code = cc) (hml : c.maxLocals = nL) (hown : s.vm.findClass own = some m.cls) (hts : ∀ w ∈ cw :: UW, w.before args s = true) (hE : gE G A s s.heap) (hA : ∀ q, s.heap.size ≤ q → A q)
    (hM : HX G l y (.code y bytes maxL none :: UW) rm mc ms (.ref a :: As) wc post) (hm : SMi y bytes maxL As.length) (hl : Cond.methodLinkNest own index y host ∈ nestW) (hR : rm.cells = mc ∧ rm.slots = ms ∧ rm.frames + 1 ≤ R.frames ∧ 8 + (maxL + 11) + rm.locals ≤ R.locals)
    (hP : va_P (gD G) vwCl w H) (hD : va_D A w) (hS : va_S A s.heap H locs)
    (isC isR : List Nat) (hC : isC.map (fun i => w[i]?) = wc.map some) (hRr : isR.map (fun i => w[i]?) = wr.map some) (hn : va_nd isC = true ∧ va_nd isR = true ∧ (∀ i ∈ isR, i ∉ isC))
    (hsz : ls.size = nL) (hstk : st = As.reverse ++ .ref a :: rest) (hW : (rest.map fun v => v.category).sum ≤ 8) (hdg : decode cc pc = .ok (.invokespecial index, 3)) (hf : cells + mc ≤ R.cells ∧ slots + ms ≤ R.slots)
    (kk : ∀ (rv : Option Value) (w1 : va_W) (H1 : Heap) (locs1 : List Loc), post rv w1 → va_P (gD G) vwCl (wr ++ w1) H1 → va_D A (wr ++ w1) → va_S A s.heap H1 locs1 → W p l e R s m args below meth c H1 locs1 (cells + mc) (slots + ms) Q (F0 m (pc + 3) ls (rv.toList ++ rest))) :
    W p l e R s m args below meth c H locs cells slots Q (F0 m pc ls st) := by
  obtain ⟨k1, k2, k3, k5, k4⟩ := hm
  refine hx_fin (As := .ref a :: As) (va_runIN (host := host) (As := As) (rest := rest) ⟨hx, hb, hml, hown, hts⟩ (hM H.size) ⟨va_cnB (Ts := cw :: UW) As.length hts (uw_code k1) rfl hR.1 hR.2.1 (hE.2.1 _ hl) (hts _ (List.mem_cons_of_mem _ k3)) k4 hR.2.2, k5, hts _ (List.mem_cons_of_mem _ k2)⟩ ⟨hx_blind, hx_pre hE hA hP hD hS isC hC hn.1 (.ref a :: As)⟩ rfl rfl hsz hstk (lv_room hW) hdg hf) hA hP hD hS isC isR hC hRr hn.2.1 hn.2.2 kk
theorem hx_I (hx : p.tables.exec = Jvm.exec) (hb : c.code = cc) (hml : c.maxLocals = nL) (hown : s.vm.findClass own = some m.cls) (hts : ∀ w ∈ cw :: UW, w.before args s = true) (hE : gE G A s s.heap) (hA : ∀ q, s.heap.size ≤ q → A q)
    (hM : HX G l y (.code y bytes maxL none :: UW) rm mc ms (.ref a :: As) wc post) (hm : SMi y bytes maxL As.length) (hl : Cond.methodLink own index y ∈ UW) (hR : rm.cells = mc ∧ rm.slots = ms ∧ rm.frames + 1 ≤ R.frames ∧ 8 + (maxL + 11) + rm.locals ≤ R.locals)
    (hP : va_P (gD G) vwCl w H) (hD : va_D A w) (hS : va_S A s.heap H locs)
    (isC isR : List Nat) (hC : isC.map (fun i => w[i]?) = wc.map some) (hRr : isR.map (fun i => w[i]?) = wr.map some) (hn : va_nd isC = true ∧ va_nd isR = true ∧ (∀ i ∈ isR, i ∉ isC))
    (hsz : ls.size = nL) (hstk : st = As.reverse ++ .ref a :: rest) (hW : (rest.map fun v => v.category).sum ≤ 8) (hdg : decode cc pc = .ok (.invokespecial index, 3)) (hf : cells + mc ≤ R.cells ∧ slots + ms ≤ R.slots)
    (kk : ∀ (rv : Option Value) (w1 : va_W) (H1 : Heap) (locs1 : List Loc), post rv w1 → va_P (gD G) vwCl (wr ++ w1) H1 → va_D A (wr ++ w1) → va_S A s.heap H1 locs1 → W p l e R s m args below meth c H1 locs1 (cells + mc) (slots + ms) Q (F0 m (pc + 3) ls (rv.toList ++ rest))) :
    W p l e R s m args below meth c H locs cells slots Q (F0 m pc ls st) := by
  obtain ⟨k1, k2, k3, k5, k4⟩ := hm
  refine hx_fin (As := .ref a :: As) (va_runI (As := As) (rest := rest) ⟨hx, hb, hml, hown, hts⟩ (hM H.size) ⟨callB_of (Ts := cw :: UW) As.length hts (uw_code k1) rfl hR.1 hR.2.1 (hts _ (List.mem_cons_of_mem _ k3)) (hts _ (List.mem_cons_of_mem _ hl)) k4 hR.2.2, k5, hts _ (List.mem_cons_of_mem _ k2)⟩ ⟨hx_blind, hx_pre hE hA hP hD hS isC hC hn.1 (.ref a :: As)⟩ rfl rfl hsz hstk (lv_room hW) hdg hf) hA hP hD hS isC isR hC hRr hn.2.1 hn.2.2 kk
theorem hputF (hx : p.tables.exec = Jvm.exec) (hb : c.code = cc) (hts : ∀ w ∈ cw :: UW, w.before args s = true) (hown : s.vm.findClass own = some m.cls) (hE : gE G A s s.heap) (hf : FLp own index ci C T N k) (hT : FTp T N k ty) (hP : va_P (gD G) vwCl w H) (hD : va_D A w) (hS : va_S A s.heap H locs) (q0 : Nat) (he : w[q0]? = some (a, .inr (ci, fs))) (hfin : (T k).2.2.2 = true) (hnm : meth.name = "<init>") (hdecl : (T k).1 = own) (hnr : narrow ty v = v) (hfit : fits ty v = true) (hl : k < fs.length) (hwn : w.set q0 (a, .inr (ci, fs.set k v)) = wn) (hdg : decode cc pc = .ok (.putfield index, 3))
    (kk : ∀ (H1 : Heap) (locs1 : List Loc), va_P (gD G) vwCl wn H1 → va_D A wn → va_S A s.heap H1 locs1 → W p l e R s m args below meth c H1 locs1 cells slots Q (F0 m (pc + 3) ls rest)) : W p l e R s m args below meth c H locs cells slots Q (F0 m pc ls (v :: .ref a :: rest)) := by
  obtain ⟨h1, h2, h3, h4, h5⟩ := hf
  obtain ⟨⟨ty0, hty⟩, hnm2, hd⟩ := hT
  subst hwn
  exact va_putF hx hb hts (fun w hw => List.mem_cons_of_mem _ (h3 w hw)) ty0 hty hnm2 hown hE.1 hP hD hS q0 he h1 k h2 (hts _ (List.mem_cons_of_mem _ h5)) (fun x h9 => by rw [h4] at h9; exact h9) hfin hnm hdecl hd hnr hfit hl hdg kk
theorem hnew (hx : p.tables.exec = Jvm.exec) (hb : c.code = cc) (hts : ∀ w ∈ cw :: UW, w.before args s = true) (hown : s.vm.findClass own = some m.cls) (hE : gE G A s s.heap) (hA : ∀ q, s.heap.size ≤ q → A q) (hin : ∀ w ∈ u_ws C T N, w ∈ UW) (ty : Nat → FieldType) (hty : ∀ k, k < N → parseFieldDescriptor (T k).2.2.1 = some (ty k)) (hcl : Cond.classLink own index C ∈ UW) (hinst : Cond.instantiable C N ∈ UW) (hini : Cond.initialized C ∈ UW)
    (hP : va_P (gD G) vwCl w H) (hD : va_D A w) (hS : va_S A s.heap H locs) (hc : vwCl[ci]? = some (C, T, N)) (hfs : ∀ j, j < N → defaultValue (ty j) = vp_V fs j) (hcells : cells + 1 ≤ R.cells) (hslots : slots + N ≤ R.slots) (hdg : decode cc pc = .ok (.new index, 3))
    (kk : ∀ (q : Nat) (H1 : Heap), va_P (gD G) vwCl (w ++ [(q, .inr (ci, fs))]) H1 → va_D A (w ++ [(q, .inr (ci, fs))]) → va_S A s.heap H1 locs → W p l e R s m args below meth c H1 locs (cells + 1) (slots + N) Q (F0 m (pc + 3) ls (.ref q :: rest))) : W p l e R s m args below meth c H locs cells slots Q (F0 m pc ls rest) :=
  va_new hx hb hts (fun w hw => List.mem_cons_of_mem _ (hin w hw)) ty hty hown (hts _ (List.mem_cons_of_mem _ hcl)) (hts _ (List.mem_cons_of_mem _ hinst)) (hts _ (List.mem_cons_of_mem _ hini)) hE.1 hP hD hS hA hc hfs hcells hslots hdg kk
theorem hnewa {atype : ArrayType} (t0 : Nat) {cA0 : ClassId} {n : Int32} {N' : Nat} {a0 : vp_A} (hx : p.tables.exec = Jvm.exec) (hb : c.code = cc) (hts : ∀ w ∈ cw :: UW, w.before args s = true) (hE : gE G A s s.heap) (hA : ∀ q, s.heap.size ≤ q → A q) (harr : Cond.arrayClass (newarray.typeOf atype) ∈ UW) (hty : newarray.typeOf atype = ty) (ht : (gTys G)[t0]? = some (cA0, ty)) (hpr : refKind ty = false)
    (hP : va_P (gD G) vwCl w H) (hD : va_D A w) (hS : va_S A s.heap H locs) (ha : ∀ cA : ClassId, vp_cell cA a0 = arrV cA N' (fun _ => defaultValue ty)) (hn : ¬ n < 0) (hN : n.toNatClampNeg = N') (hbytes : N' * componentBytes ty ≤ 536870912) (hcells : cells + 1 ≤ R.cells) (hslots : slots + N' ≤ R.slots) (hdg : decode cc pc = .ok (.newarray atype, 2))
    (kk : ∀ (q : Nat) (H1 : Heap), va_P (gD G) vwCl (w ++ [(q, .inl (cA0, a0))]) H1 → va_D A (w ++ [(q, .inl (cA0, a0))]) → va_S A s.heap H1 locs → W p l e R s m args below meth c H1 locs (cells + 1) (slots + N') Q (F0 m (pc + 2) ls (.ref q :: rest))) : W p l e R s m args below meth c H locs cells slots Q (F0 m pc ls (.int n :: rest)) := by
  refine va_newa hx hb (hts _ (List.mem_cons_of_mem _ harr)) hty hE.1 hP hD hS hA ha hn hN hbytes hcells hslots hdg (fun q cA H1 hK1 hP1 hD1 hS1 => ?_)
  have h1 := (hE.1.2 t0 _ ht).2
  have h2 := (hK1.2 (gTys G).length (cA, ty) (by simp)).2
  have he : cA = cA0 := by
    cases ty <;> first | exact Option.some.inj (h2.symm.trans h1) | cases hpr
  subst he
  exact kk q H1 hP1 hD1 hS1
theorem hobj (hx : p.tables.exec = Jvm.exec) (hb : c.code = cc) (hml : c.maxLocals = nL) (hown : s.vm.findClass own = some m.cls) (hts : ∀ w ∈ cw :: UW, w.before args s = true) (hl : Cond.methodLink own index objectInit ∈ UW) (hin : Cond.instanceMethod objectInit ∈ UW) (hco : Cond.code objectInit object_method_1_code 1 none ∈ UW)
    (hsz : ls.size = nL) (hdg : decode cc pc = .ok (.invokespecial index, 3)) (hframes : 1 ≤ R.frames) (hlocals : (rest.map fun v => v.category).sum + 12 ≤ R.locals)
    (kk : W p l e R s m args below meth c H locs cells slots Q (F0 m (pc + 3) ls rest)) : W p l e R s m args below meth c H locs cells slots Q (F0 m pc ls (.ref a :: rest)) :=
  W.objInit hx hb hown (hts _ (List.mem_cons_of_mem _ hl)) (hts _ (List.mem_cons_of_mem _ hin)) (hts _ (List.mem_cons_of_mem _ hco)) rfl (by rw [hml]; exact hsz) rfl hdg hframes (by show 2 * 0 + _ + 12 ≤ _; omega) kk
end HMN
