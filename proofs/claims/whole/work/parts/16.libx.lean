/-! what a method of the class itself may need beside its own words: the nest's links, what a throw needs, the texts -/
def pq_nest : List Cond := [.methodLinkNest RX2 11 yX0_init "PressedPlains", .fieldLinkNest RX2 98 "PressedPlains$Book" "first" "[I" "PressedPlains", .fieldLinkNest RX2 101 "PressedPlains$Book" "last" "[I" "PressedPlains", .fieldLinkNest RX2 104 "PressedPlains$Book" "greatest" "[I" "PressedPlains", .fieldLinkNest RX2 107 "PressedPlains$Book" "second" "[I" "PressedPlains", .fieldLinkNest RX2 110 "PressedPlains$Book" "many" "[I" "PressedPlains", .fieldLinkNest RX2 113 "PressedPlains$Book" "sum" "[I" "PressedPlains", .fieldLinkNest RX2 120 "PressedPlains$Book" "latestVisits" "I" "PressedPlains", .fieldLinkNest RX2 123 "PressedPlains$Book" "totalVisits" "I" "PressedPlains", .fieldLinkNest RX2 129 "PressedPlains$Book" "calls" "I" "PressedPlains", .methodLinkNest RX2 18 yX1_init "PressedPlains", .fieldLinkNest RX2 40 "PressedPlains$Ground" "heights" "[I" "PressedPlains", .fieldLinkNest RX2 87 "PressedPlains$Ground" "ceilings" "[I" "PressedPlains", .fieldLinkNest RX2 92 "PressedPlains$Ground" "count" "I" "PressedPlains", .fieldLinkNest RX2 126 "PressedPlains$Ground" "given" "I" "PressedPlains"]
def pq_bad : List Cond := [.declares (Bundle.initS "java/lang/RuntimeException"), .declares (Bundle.initS "java/lang/Exception"), .declares (Bundle.initS "java/lang/Throwable"), .castable "java/lang/IllegalArgumentException" "java/lang/IllegalArgumentException", .castable "java/lang/IndexOutOfBoundsException" "java/lang/IndexOutOfBoundsException", .castable "java/lang/IllegalStateException" "java/lang/IllegalStateException", .castable "java/util/NoSuchElementException" "java/util/NoSuchElementException"]
def pq_strs : List (Nat × String) := [(148, "a number is out of range"), (134, "there is no such column"), (46, "the column would be too high"), (139, "the last column is before the first"), (84, "there is not so much earth"), (90, "no ceiling was lowered there"), (146, "there is no such entry")]
def pq_E (U : State) : Prop := (∀ w ∈ pq_nest, va_Nw w U) ∧ (∀ w ∈ pq_bad, va_Nw w U) ∧ (∀ q ∈ pq_strs, ∃ sa : Nat, vk_R RX2 q.1 q.2 sa U)
def pq_Ev (A : Nat → Prop) (U : State) : Prop := pq_E U ∧ vx_Zq Bundle.tN "UNASSIGNED_STACK" Bundle.steD A U U.heap ∧ vx_Zq Bundle.tN "SUPPRESSED_SENTINEL" Bundle.listD A U U.heap
theorem pq_E.warm {s U : State} (hW : s.WarmedH U.vm) (h : pq_E s) : pq_E U := by
  refine ⟨List.forall_mem_cons.mpr ⟨va_Nw.warmM hW (h.1 _ (List.mem_of_getElem? (i := 0) rfl)), List.forall_mem_cons.mpr ⟨va_Nw.warmF hW (h.1 _ (List.mem_of_getElem? (i := 1) rfl)), List.forall_mem_cons.mpr ⟨va_Nw.warmF hW (h.1 _ (List.mem_of_getElem? (i := 2) rfl)), List.forall_mem_cons.mpr ⟨va_Nw.warmF hW (h.1 _ (List.mem_of_getElem? (i := 3) rfl)), List.forall_mem_cons.mpr ⟨va_Nw.warmF hW (h.1 _ (List.mem_of_getElem? (i := 4) rfl)), List.forall_mem_cons.mpr ⟨va_Nw.warmF hW (h.1 _ (List.mem_of_getElem? (i := 5) rfl)), List.forall_mem_cons.mpr ⟨va_Nw.warmF hW (h.1 _ (List.mem_of_getElem? (i := 6) rfl)), List.forall_mem_cons.mpr ⟨va_Nw.warmF hW (h.1 _ (List.mem_of_getElem? (i := 7) rfl)), List.forall_mem_cons.mpr ⟨va_Nw.warmF hW (h.1 _ (List.mem_of_getElem? (i := 8) rfl)), List.forall_mem_cons.mpr ⟨va_Nw.warmF hW (h.1 _ (List.mem_of_getElem? (i := 9) rfl)), List.forall_mem_cons.mpr ⟨va_Nw.warmM hW (h.1 _ (List.mem_of_getElem? (i := 10) rfl)), List.forall_mem_cons.mpr ⟨va_Nw.warmF hW (h.1 _ (List.mem_of_getElem? (i := 11) rfl)), List.forall_mem_cons.mpr ⟨va_Nw.warmF hW (h.1 _ (List.mem_of_getElem? (i := 12) rfl)), List.forall_mem_cons.mpr ⟨va_Nw.warmF hW (h.1 _ (List.mem_of_getElem? (i := 13) rfl)), List.forall_mem_cons.mpr ⟨va_Nw.warmF hW (h.1 _ (List.mem_of_getElem? (i := 14) rfl)), fun _ h => nomatch h⟩⟩⟩⟩⟩⟩⟩⟩⟩⟩⟩⟩⟩⟩⟩, List.forall_mem_cons.mpr ⟨va_Nw.warmD hW (h.2.1 _ (List.mem_of_getElem? (i := 0) rfl)), List.forall_mem_cons.mpr ⟨va_Nw.warmD hW (h.2.1 _ (List.mem_of_getElem? (i := 1) rfl)), List.forall_mem_cons.mpr ⟨va_Nw.warmD hW (h.2.1 _ (List.mem_of_getElem? (i := 2) rfl)), List.forall_mem_cons.mpr ⟨va_Nw.warmC hW (h.2.1 _ (List.mem_of_getElem? (i := 3) rfl)), List.forall_mem_cons.mpr ⟨va_Nw.warmC hW (h.2.1 _ (List.mem_of_getElem? (i := 4) rfl)), List.forall_mem_cons.mpr ⟨va_Nw.warmC hW (h.2.1 _ (List.mem_of_getElem? (i := 5) rfl)), List.forall_mem_cons.mpr ⟨va_Nw.warmC hW (h.2.1 _ (List.mem_of_getElem? (i := 6) rfl)), fun _ h => nomatch h⟩⟩⟩⟩⟩⟩⟩, fun q hq => ?_⟩
  obtain ⟨sa, hsa⟩ := h.2.2 q hq
  exact ⟨sa, vk_R.warm hW hsa⟩
theorem pq_blE : pq_Bl pq_Ev := fun A U g mk a h => ⟨pq_E.warm (U := U.calling g mk a) (State.WarmedH.refl U) h.1, vx_Zq.moved (u := U) (U := U.calling g mk a) (Vm.Alike.refl U.vm) h.2.1, vx_Zq.moved (u := U) (U := U.calling g mk a) (Vm.Alike.refl U.vm) h.2.2⟩
theorem pq_Ev.call {A : Nat → Prop} {s : State} {H : Heap} {locs : List Loc} {w wc : va_W} (h : pq_Ev A s) (hD : va_D A w) (hS : va_S A s.heap H locs) (hA : ∀ q, s.heap.size ≤ q → A q) (isC : List Nat) (hC : isC.map (fun i => w[i]?) = wc.map some) : ∀ U : State, U.heap = H → s.WarmedH U.vm → pq_Ev (va_A wc H.size) U := by
  intro U hU hW
  have hF : ∀ q, va_A wc H.size q → A q := va_free (wc := wc) hD hS hA isC hC
  exact ⟨pq_E.warm hW h.1, by rw [hU]; exact vx_Zq.moved hW.alike ((h.2.1.kept hS.2.1).narrow hF), by rw [hU]; exact vx_Zq.moved hW.alike ((h.2.2.kept hS.2.1).narrow hF)⟩
def pq_X (D : va_G) (tys : List (ClassId × FieldType)) (A : Nat → Prop) (px : String → va_W → Prop) : String → State → State → Prop :=
  fun Ex st t => ∃ w1 : va_W, px Ex w1 ∧ va_P D vwCl w1 t.heap ∧ va_K D vwCl tys t ∧ va_D A w1 ∧ va_F A st t
def pq_XM (l : Launch) (y : MethodName) (ws : List Cond) (fr lo mc ms : Nat) (D : va_G) (tys : List (ClassId × FieldType)) (E : (Nat → Prop) → State → Prop) (wc : va_W) (av : List Value) (post : Option Value → va_W → Prop) (px : String → va_W → Prop) : Prop :=
  ∀ sz : Nat, vx_Met l y ws (pq_R fr lo mc ms) (pq_Pc D tys E wc sz av) (pq_Q D tys (va_A wc sz) post) (pq_X D tys (va_A wc sz) px) mc ms (va_A wc sz)
section PX
variable {p : Program} {l : Launch} {e : Env} {R : Room} {s : State} {m : MethodId} {args : Array Value} {below : List Frame} {meth : Method} {c : Code} {H : Heap} {locs : List Loc} {cells slots : Nat} {Q : State → Prop}
variable {y : MethodName} {ws ws' : List Cond} {fr lo mc ms maxL : Nat} {D : va_G} {tys tys0 : List (ClassId × FieldType)} {E : (Nat → Prop) → State → Prop} {wc wr w : va_W} {av : List Value} {post : Option Value → va_W → Prop} {px : String → va_W → Prop} {cc bytes : ByteArray} {ret : Option FieldType} {A : Nat → Prop} {ls : Array Slot} {pc : Nat} {st0 rest : List Value}
set_option maxHeartbeats 2000000 in
theorem pq_xenter (hy : plainName y.cls = true) (hw : ws = Cond.code y cc maxL ret :: ws') (hn : (lg_sl av).length ≤ maxL)
    (body : ∀ (p : Program) (e : Env) (s : State) (m : MethodId) (args : Array Value) (below : List Frame) (meth : Method) (c : Code) (A : Nat → Prop) (ls : Array Slot) (Q : State → Prop) (H : Heap) (locs : List Loc), p.tables.exec = Jvm.exec → c.code = cc → meth.sig.returnType = ret → c.maxLocals = maxL → (∀ w ∈ ws, w.before args s = true) → s.vm.findClass y.cls = some m.cls → meth.locks = false → meth.name = y.name → va_K D vwCl tys s → va_P D vwCl wc H → va_D A wc → va_S A s.heap H locs → (∀ q, s.heap.size ≤ q → A q) → E A s → lv_has ls maxL (lv_args 0 av) → (Q = vx_MQ below (pq_Q D tys A post) (pq_X D tys A px) args s mc ms A ∧ ∀ x ∈ c.exceptionTable.toList, False) →
      W p l e (pq_R fr lo mc ms) s m args below meth c H locs 0 0 Q (F0 m 0 ls [])) : pq_XM l y ws fr lo mc ms D tys E wc av post px := by
  intro sz
  refine vx_ofW (cc := cc) (maxL := maxL) (ret := ret) hy hw ?_
  intro p e s m args below meth c s₁ B hml hout hv
  obtain ⟨rfl, hsz, hP, hK, hD0, hE⟩ := hv
  have hts := atoms_spec (ws := ws) B.pre
  have hown : s.vm.findClass y.cls = some m.cls := findClass_of_methodNamed B.named
  subst hsz
  have hD := hD0.self (sz := s.heap.size)
  have hl := lv_entry av (n := maxL) hn
  rw [lg_entry_eq]
  exact body p e s m av.toArray below meth c (va_A wc s.heap.size) _ _ s.heap [] B.exec B.bytes B.returns hml hts hown B.notSynchronized (name_of_methodNamed B.named B.method).1 hK hP hD va_S.rf (fun q h => Or.inr h) hE hl ⟨rfl, hout⟩
theorem px_iret {w1 : va_W} {v : Int32} (hQ : Q = vx_MQ below (pq_Q D tys A post) (pq_X D tys A px) args s mc ms A ∧ ∀ x ∈ c.exceptionTable.toList, False) (hx : p.tables.exec = Jvm.exec) (hb : c.code = cc) (hr : meth.sig.returnType = some .int) (hlocks : meth.locks = false) (hK : va_K D vwCl tys s) (hS : va_S A s.heap H locs) (hP : va_P D vwCl w1 H) (hD : va_D A w1) (hdg : decode cc pc = .ok (.ireturn, 1)) (hc : cells ≤ mc) (hs : slots ≤ ms) (hpost : post (some (.int v)) w1) :
    W p l e R s m args below meth c H locs cells slots Q (F0 m pc ls [.int v]) := by
  rw [hQ.1]
  refine W.widen hc hs (vx_ret ?_)
  exact W.iret hx hb hr (fun t ht hW => ⟨⟨_, w1, rfl, hpost, by rw [ht]; exact hP, va_K.moved hW.alike hK, hD⟩, hS.F ht⟩) hS.2.2 hdg
theorem px_vret {w1 : va_W} (hQ : Q = vx_MQ below (pq_Q D tys A post) (pq_X D tys A px) args s mc ms A ∧ ∀ x ∈ c.exceptionTable.toList, False) (hx : p.tables.exec = Jvm.exec) (hb : c.code = cc) (hr : meth.sig.returnType = none) (hlocks : meth.locks = false) (hK : va_K D vwCl tys s) (hS : va_S A s.heap H locs) (hP : va_P D vwCl w1 H) (hD : va_D A w1) (hdg : decode cc pc = .ok (.return_, 1)) (hc : cells ≤ mc) (hs : slots ≤ ms) (hpost : post none w1) :
    W p l e R s m args below meth c H locs cells slots Q (F0 m pc ls []) := by
  rw [hQ.1]
  refine W.widen hc hs (vx_ret ?_)
  exact W.vret hx hb hr (fun t ht hW => ⟨⟨_, w1, rfl, hpost, by rw [ht]; exact hP, va_K.moved hW.alike hK, hD⟩, hS.F ht⟩) hS.2.2 hdg
theorem px_out {Ex : String} {ce : Cell} {q : Addr} (hQ : Q = vx_MQ below (pq_Q D tys A post) (pq_X D tys A px) args s mc ms A ∧ ∀ x ∈ c.exceptionTable.toList, False) (hlocks : meth.locks = false) (hK : va_K D vwCl tys s) (hS : va_S A s.heap H locs) (hP : va_P D vwCl w H) (hD : va_D A w) (hcell : H[q]? = some ce) (hv : ce.vm = .none) (hcl : s.vm.findClass Ex = some ce.cls) (hc : cells ≤ mc) (hs : slots ≤ ms) (hpx : px Ex w) :
    vx_W p l e R s m args below meth c H locs cells slots Q (F0 m pc ls rest) q := by
  rw [hQ.1]
  exact vx_out (fun x hx => (hQ.2 x hx).elim) hlocks hcell hv hcl (fun t ht ha => ⟨w, hpx, by rw [ht]; exact hP, va_K.moved ha hK, hD, hS.F ht⟩) hS.2.2 hc hs
/-- what a throw leaves: the world as it was -/
theorem px_after {Ex : String} (hK : va_K D vwCl tys s) (hS : va_S A s.heap H locs) (hP : va_P D vwCl w H) (hD : va_D A w) (hpx : px Ex w) : ∀ t : State, s.vm.Alike t.vm → H.size ≤ t.heap.size → (∀ q : Nat, q < H.size → t.heap[q]? = H[q]?) → pq_X D tys A px Ex s t := by
  intro t ha hz hk
  exact ⟨w, hpx, hP.kept (fun k x hx => hk x.1 ((hP k x hx).lt)), va_K.moved ha hK, hD, Nat.le_trans hS.1 hz, fun q h1 h2 => (hk q (Nat.lt_of_lt_of_le h1 hS.1)).trans (hS.2.1 q h1 h2)⟩
theorem px_hat {own cls : String} {ic : Nat} {names : List String} {Ts : List Cond} (hE : pq_E s) (hts : ∀ w ∈ Ts, w.before args s = true) (h1 : ∀ w ∈ (vx_atS own ic cls names).filter goodWord, w ∈ Ts) (h2 : ∀ w ∈ (vx_atS own ic cls names).filter (fun w => !goodWord w), w ∈ pq_bad) (hb : ∀ w ∈ pq_bad, w.onTables = true) : ∀ w ∈ vx_atS own ic cls names, w.before args s = true :=
  vx_hat (fun w h => hts w (h1 w h)) h2 (fun w h => va_Nw.use (hb w h) (hE.2.1 w h))
theorem px_badT : ∀ w ∈ pq_bad, w.onTables = true := by decide +kernel
theorem px_throw {cls text : String} {ik is ic : Nat} {Ts : List Cond} (hfl : l.stackTraces = false) (hQ : Q = vx_MQ below (pq_Q D tys A post) (pq_X D tys A px) args s mc ms A ∧ ∀ x ∈ c.exceptionTable.toList, False) (hx : p.tables.exec = Jvm.exec) (hb : c.code = cc) (hown : s.vm.findClass RX2 = some m.cls) (hlocks : meth.locks = false)
    (hcls : Bundle.fit cls = true) (hts : ∀ w ∈ Ts, w.before args s = true) (hk : Cond.classLink RX2 ik cls ∈ Ts) (hini : Cond.initialized cls ∈ Ts) (h1 : ∀ w ∈ (vx_atS RX2 ic cls ["java/lang/RuntimeException", "java/lang/Exception"]).filter goodWord, w ∈ Ts) (h2 : ∀ w ∈ (vx_atS RX2 ic cls ["java/lang/RuntimeException", "java/lang/Exception"]).filter (fun w => !goodWord w), w ∈ pq_bad)
    (hgood : ∀ w ∈ Cond.classLink RX2 ik cls :: Cond.initialized cls :: vx_atS RX2 ic cls ["java/lang/RuntimeException", "java/lang/Exception"], vx_ot w = true) (hstr : (is, text) ∈ pq_strs)
    (hE : pq_Ev A s) (hK : va_K D vwCl tys s) (hS : va_S A s.heap H locs) (hP : va_P D vwCl w H) (hD : va_D A w) (hsize : ls.size = c.maxLocals)
    (d0 : decode cc pc = .ok (.new ik, 3)) (d3 : decode cc (pc + 3) = .ok (.dup, 1)) (d4 : decode cc (pc + 4) = .ok (.ldc is, 2)) (d6 : decode cc (pc + 6) = .ok (.invokespecial ic, 3)) (d9 : decode cc (pc + 9) = .ok (.athrow, 1))
    (hRframes : 5 < R.frames) (hRlocals : (rest.map fun v => v.category).sum + 82 ≤ R.locals) (hRcells : cells + 1 ≤ R.cells) (hRslots : slots + 6 ≤ R.slots) (hc : cells + 1 ≤ mc) (hs : slots + 6 ≤ ms) (hpx : px cls w) :
    W p l e R s m args below meth c H locs cells slots Q (F0 m pc ls rest) := by
  rw [hQ.1]
  obtain ⟨sa, hsa⟩ := hE.1.2.2 _ hstr
  exact vx_throwS hx hb hfl hown hcls (by decide) (hts _ hk) (hts _ hini) hsa (px_hat hE.1 hts h1 h2 px_badT) hgood hE.2.1 hE.2.2 hS hsize d0 d3 d4 d6 d9 (fun x hx => (hQ.2 x hx).elim) hRframes hRlocals hRcells hRslots hlocks (px_after hK hS hP hD hpx) hS.2.2 hc hs
theorem px_throwN {text : String} {ik is : Nat} {Ts : List Cond} (hfl : l.stackTraces = false) (hQ : Q = vx_MQ below (pq_Q D tys A post) (pq_X D tys A px) args s mc ms A ∧ ∀ x ∈ c.exceptionTable.toList, False) (hx : p.tables.exec = Jvm.exec) (hb : c.code = cc) (hown : s.vm.findClass RX2 = some m.cls) (hlocks : meth.locks = false)
    (hts : ∀ w ∈ Ts, w.before args s = true) (hk : Cond.classLink RX2 ik nsX ∈ Ts) (hini : Cond.initialized nsX ∈ Ts) (h1 : ∀ w ∈ nsAt.filter goodWord, w ∈ Ts) (h2 : ∀ w ∈ nsAt.filter (fun w => !goodWord w), w ∈ pq_bad)
    (hgood : ∀ w ∈ Cond.classLink RX2 ik nsX :: Cond.initialized nsX :: nsAt, vx_ot w = true) (hstr : (is, text) ∈ pq_strs)
    (hE : pq_Ev A s) (hK : va_K D vwCl tys s) (hS : va_S A s.heap H locs) (hP : va_P D vwCl w H) (hD : va_D A w) (hsize : ls.size = c.maxLocals)
    (d0 : decode cc pc = .ok (.new ik, 3)) (d3 : decode cc (pc + 3) = .ok (.dup, 1)) (d4 : decode cc (pc + 4) = .ok (.ldc is, 2)) (d6 : decode cc (pc + 6) = .ok (.invokespecial 86, 3)) (d9 : decode cc (pc + 9) = .ok (.athrow, 1))
    (hRframes : 5 < R.frames) (hRlocals : (rest.map fun v => v.category).sum + 82 ≤ R.locals) (hRcells : cells + 1 ≤ R.cells) (hRslots : slots + 6 ≤ R.slots) (hc : cells + 1 ≤ mc) (hs : slots + 6 ≤ ms) (hpx : px nsX w) :
    W p l e R s m args below meth c H locs cells slots Q (F0 m pc ls rest) := by
  rw [hQ.1]
  obtain ⟨sa, hsa⟩ := hE.1.2.2 _ hstr
  have hat : ∀ w ∈ nsAt, w.before args s = true := vx_hat (fun w h => hts w (h1 w h)) h2 (fun w h => va_Nw.use (px_badT w h) (hE.1.2.1 w h))
  exact ns_throwS hx hb hfl hown (hts _ hk) (hts _ hini) hsa hat hgood hE.2.1 hE.2.2 hS hsize d0 d3 d4 d6 d9 (fun x hx => (hQ.2 x hx).elim) hRframes hRlocals hRcells hRslots hlocks (px_after hK hS hP hD hpx) hS.2.2 hc hs
/-- behind a call that returns or throws -/
theorem px_back {a : Array Value} {A1 : Nat → Prop} {isC isR : List Nat} (hr : vx_Run p l e R s m args below meth c H locs cells slots mc ms (F0 m pc ls st0) rest (pq_Q D tys A1 post a) (pq_X D tys A1 px) A1) (hA1 : A1 = va_A wc H.size) (hP : va_P D vwCl w H) (hD : va_D A w) (hS : va_S A s.heap H locs) (hA : ∀ q, s.heap.size ≤ q → A q)
    (hC : isC.map (fun i => w[i]?) = wc.map some) (hR : isR.map (fun i => w[i]?) = wr.map some) (hn : va_nd isR = true) (hdis : ∀ i ∈ isR, i ∉ isC)
    (kx : ∀ (Ex : String) (ce : Cell) (q9 : Addr) (w1 : va_W) (H1 : Heap) (locs1 : List Loc), px Ex w1 → va_P D vwCl (wr ++ w1) H1 → va_D A (wr ++ w1) → va_S A s.heap H1 locs1 → H1[q9]? = some ce → ce.vm = .none → s.vm.findClass Ex = some ce.cls → vx_W p l e R s m args below meth c H1 locs1 (cells + mc) (slots + ms) Q (F0 m pc ls rest) q9)
    (kk : ∀ (v : Option Value) (w1 : va_W) (H1 : Heap) (locs1 : List Loc), post v w1 → va_P D vwCl (wr ++ w1) H1 → va_D A (wr ++ w1) → va_S A s.heap H1 locs1 → H.size ≤ H1.size → W p l e R s m args below meth c H1 locs1 (cells + mc) (slots + ms) Q (F0 m (pc + 3) ls (v.toList ++ rest))) :
    W p l e R s m args below meth c H locs cells slots Q (F0 m pc ls st0) := by
  subst hA1
  have hF : ∀ q, va_A wc H.size q → A q := va_free (wc := wc) hD hS hA isC hC
  have hSj : ∀ {L : List Loc} {T' t : State}, T'.heap = t.heap → (H.size ≤ t.heap.size) → (∀ q : Nat, q < H.size → ¬ va_A wc H.size q → t.heap[q]? = H[q]?) → (∀ q ∈ L, va_A wc H.size q.base) → va_S A s.heap T'.heap (locs ++ L) := fun {L} {T'} {t} e1 hz hk hL =>
    ⟨Nat.le_trans hS.1 (by rw [e1]; exact hz), fun q h1 h2 => by rw [e1, hk q (Nat.lt_of_lt_of_le h1 hS.1) (fun z => h2 (hF q z))]; exact hS.2.1 q h1 h2, fun q hq => by
      rcases List.mem_append.mp hq with h | h
      · exact hS.2.2 q h
      · exact hF _ (hL q h)⟩
  intro T hT X
  rcases hr T hT X with ⟨v, st₀, t, T', L, h0, X', hL, e1, e2, ⟨⟨v', w1, hv, hp, hP1, hK1, hD1⟩, hz, hk⟩, st⟩ | ⟨q, st₀, t, T', L, Ex, ce, h0, X', hL, e1, e2, ⟨w1, hp, hP1, hK1, hD1, hz, hk⟩, hce, hcv, hcl, st⟩
  · cases hv
    rw [h0] at hz hk
    obtain ⟨hPj, hDj⟩ := va_join (H1 := T'.heap) hP hD isC isR hC hR hn hdis (fun q h1 h2 => by rw [e1]; exact hk q h1 h2) hF (by rw [e1]; exact hP1) hD1
    obtain ⟨t2, a1, b1⟩ := kk v w1 T'.heap (locs ++ L) hp hPj hDj (hSj e1 hz hk hL) (by rw [e1]; exact hz) T' rfl X'
    exact ⟨t2, st t2 a1, b1⟩
  · rw [h0] at hz hk
    obtain ⟨hPj, hDj⟩ := va_join (H1 := T'.heap) hP hD isC isR hC hR hn hdis (fun q h1 h2 => by rw [e1]; exact hk q h1 h2) hF (by rw [e1]; exact hP1) hD1
    obtain ⟨t2, a1, b1⟩ := kx Ex ce q w1 T'.heap (locs ++ L) hp hPj hDj (hSj e1 hz hk hL) (by rw [e1]; exact hce) hcv hcl T' rfl X'
    exact ⟨t2, st.trans a1, b1⟩
theorem px_callV {own C : String} {index n nL : Nat} {Ts : List Cond} {b q0 ci : Nat} {fs : List Value} {q : vw_C} (isC isR : List Nat) (As : List Value) (hM : pq_XM l y ws fr lo mc ms D tys E wc (.ref b :: As) post px)
    (S : CallFix p m c cc nL s args Ts own) (cw : CallW R s args own C index y bytes maxL ret ws (pq_R fr lo mc ms) mc ms n)
    (hEb : pq_Bl E) (hE : ∀ U : State, U.heap = H → s.WarmedH U.vm → E (va_A wc H.size) U) (hK : va_K D vwCl tys s) (hP : va_P D vwCl w H) (hD : va_D A w) (hS : va_S A s.heap H locs) (hA : ∀ q, s.heap.size ≤ q → A q)
    (hC : isC.map (fun i => w[i]?) = wc.map some) (hnC : va_nd isC = true) (hR : isR.map (fun i => w[i]?) = wr.map some) (hn : va_nd isR = true) (hdis : ∀ i ∈ isR, i ∉ isC)
    (hq0 : w[q0]? = some (b, .inr (ci, fs))) (hci : vwCl[ci]? = some q) (hqC : q.1 = C) (hlen : As.length = n) (hsize : ls.size = nL) (hst : st0 = As.reverse ++ .ref b :: rest) (hW : (rest.map fun v => v.category).sum ≤ 8) (hdg : decode cc pc = .ok (.invokevirtual index, 3)) (hf : cells + mc ≤ R.cells ∧ slots + ms ≤ R.slots)
    (kx : ∀ (Ex : String) (ce : Cell) (q9 : Addr) (w1 : va_W) (H1 : Heap) (locs1 : List Loc), px Ex w1 → va_P D vwCl (wr ++ w1) H1 → va_D A (wr ++ w1) → va_S A s.heap H1 locs1 → H1[q9]? = some ce → ce.vm = .none → s.vm.findClass Ex = some ce.cls → vx_W p l e R s m args below meth c H1 locs1 (cells + mc) (slots + ms) Q (F0 m pc ls rest) q9)
    (kk : ∀ (v : Option Value) (w1 : va_W) (H1 : Heap) (locs1 : List Loc), post v w1 → va_P D vwCl (wr ++ w1) H1 → va_D A (wr ++ w1) → va_S A s.heap H1 locs1 → H.size ≤ H1.size → W p l e R s m args below meth c H1 locs1 (cells + mc) (slots + ms) Q (F0 m (pc + 3) ls (v.toList ++ rest))) :
    W p l e R s m args below meth c H locs cells slots Q (F0 m pc ls st0) := by
  subst hqC
  have hpre := pq_pre (av := .ref b :: As) hEb hE hK hP hD hC hnC
  exact px_back (vx_runV (As := As) (rest := rest) S (hM H.size) cw ⟨hpre.1, va_recv hK hP hci hq0, hpre.2⟩ rfl hlen hsize hst (lv_room hW) hdg hf) rfl hP hD hS hA hC hR hn hdis kx kk
theorem px_callS {own : String} {index n nL : Nat} {Ts : List Cond} (isC isR : List Nat) (As : List Value) (hM : pq_XM l y ws fr lo mc ms D tys E wc As post px)
    (S : CallFix p m c cc nL s args Ts own) (cw : CallB R s args own index y bytes maxL ret ws (pq_R fr lo mc ms) mc ms n ∧ (Cond.static y).before args s = true)
    (hEb : pq_Bl E) (hE : ∀ U : State, U.heap = H → s.WarmedH U.vm → E (va_A wc H.size) U) (hK : va_K D vwCl tys s) (hP : va_P D vwCl w H) (hD : va_D A w) (hS : va_S A s.heap H locs) (hA : ∀ q, s.heap.size ≤ q → A q)
    (hC : isC.map (fun i => w[i]?) = wc.map some) (hnC : va_nd isC = true) (hR : isR.map (fun i => w[i]?) = wr.map some) (hn : va_nd isR = true) (hdis : ∀ i ∈ isR, i ∉ isC)
    (hlen : As.length = n) (hsize : ls.size = nL) (hst : st0 = As.reverse ++ rest) (hW : (rest.map fun v => v.category).sum ≤ 8) (hdg : decode cc pc = .ok (.invokestatic index, 3)) (hf : cells + mc ≤ R.cells ∧ slots + ms ≤ R.slots)
    (kx : ∀ (Ex : String) (ce : Cell) (q9 : Addr) (w1 : va_W) (H1 : Heap) (locs1 : List Loc), px Ex w1 → va_P D vwCl (wr ++ w1) H1 → va_D A (wr ++ w1) → va_S A s.heap H1 locs1 → H1[q9]? = some ce → ce.vm = .none → s.vm.findClass Ex = some ce.cls → vx_W p l e R s m args below meth c H1 locs1 (cells + mc) (slots + ms) Q (F0 m pc ls rest) q9)
    (kk : ∀ (v : Option Value) (w1 : va_W) (H1 : Heap) (locs1 : List Loc), post v w1 → va_P D vwCl (wr ++ w1) H1 → va_D A (wr ++ w1) → va_S A s.heap H1 locs1 → H.size ≤ H1.size → W p l e R s m args below meth c H1 locs1 (cells + mc) (slots + ms) Q (F0 m (pc + 3) ls (v.toList ++ rest))) :
    W p l e R s m args below meth c H locs cells slots Q (F0 m pc ls st0) :=
  px_back (vx_runS (As := As) (rest := rest) S (hM H.size) cw (pq_pre (av := As) hEb hE hK hP hD hC hnC) rfl hlen hsize hst (lv_room hW) hdg hf) rfl hP hD hS hA hC hR hn hdis kx kk
theorem pq_callIN {own host : String} {index n nL : Nat} {Ts : List Cond} {b : Nat} (isC isR : List Nat) (As : List Value) (hM : pq_M l y ws fr lo mc ms D tys E wc (.ref b :: As) post)
    (S : CallFix p m c cc nL s args Ts own) (cw : va_CN R s args own index y host bytes maxL none ws (pq_R fr lo mc ms) mc ms n ∧ y.name = "<init>" ∧ (Cond.instanceMethod y).before args s = true)
    (hEb : pq_Bl E) (hE : ∀ U : State, U.heap = H → s.WarmedH U.vm → E (va_A wc H.size) U) (hK : va_K D vwCl tys s) (hP : va_P D vwCl w H) (hD : va_D A w) (hS : va_S A s.heap H locs) (hA : ∀ q, s.heap.size ≤ q → A q)
    (hC : isC.map (fun i => w[i]?) = wc.map some) (hnC : va_nd isC = true) (hR : isR.map (fun i => w[i]?) = wr.map some) (hn : va_nd isR = true) (hdis : ∀ i ∈ isR, i ∉ isC)
    (hlen : As.length = n) (hsize : ls.size = nL) (hst : st0 = As.reverse ++ .ref b :: rest) (hW : (rest.map fun v => v.category).sum ≤ 8) (hdg : decode cc pc = .ok (.invokespecial index, 3)) (hf : cells + mc ≤ R.cells ∧ slots + ms ≤ R.slots)
    (kk : ∀ (v : Option Value) (w1 : va_W) (H1 : Heap) (locs1 : List Loc), post v w1 → va_P D vwCl (wr ++ w1) H1 → va_D A (wr ++ w1) → va_S A s.heap H1 locs1 → H.size ≤ H1.size → W p l e R s m args below meth c H1 locs1 (cells + mc) (slots + ms) Q (F0 m (pc + 3) ls (v.toList ++ rest))) :
    W p l e R s m args below meth c H locs cells slots Q (F0 m pc ls st0) :=
  pq_back (va_runIN (As := As) (rest := rest) S (hM H.size) cw (pq_pre (av := .ref b :: As) hEb hE hK hP hD hC hnC) rfl hlen hsize hst (lv_room hW) hdg hf) rfl hP hD hS hA hC hR hn hdis kk
theorem pq_same {cI cA : ClassId} (h : va_K D vwCl ([(cI, .int)] ++ [(cA, .int)]) s) : cA = cI := by
  have h1 := (h.2 0 _ rfl).2
  have h2 := (h.2 1 _ rfl).2
  exact Option.some.inj (h2.symm.trans h1)
end PX
