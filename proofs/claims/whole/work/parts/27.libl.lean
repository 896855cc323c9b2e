/-! the law's wrappers: a call that is caught -/
def pq_Nc (U : State) : Prop := va_Nc xIAE xIOO U ∧ va_Nc xISE xIOO U ∧ va_Nc xISE xIAE U ∧ va_Nc xNSE xIOO U ∧ va_Nc xNSE xIAE U
def pq_L (A : Nat → Prop) (U : State) : Prop := pq_Ev A U ∧ pq_Nc U
theorem pq_Nc.moved {u U : State} (hvm : u.vm.Alike U.vm) (h : pq_Nc u) : pq_Nc U := ⟨h.1.moved hvm, h.2.1.moved hvm, h.2.2.1.moved hvm, h.2.2.2.1.moved hvm, h.2.2.2.2.moved hvm⟩
theorem pq_blL : pq_Bl pq_L := fun A U g mk a h => ⟨pq_blE A U g mk a h.1, pq_Nc.moved (u := U) (U := U.calling g mk a) (Vm.Alike.refl U.vm) h.2⟩
theorem pq_L.call {A : Nat → Prop} {s : State} {H : Heap} {locs : List Loc} {w wc : va_W} (h : pq_L A s) (hD : va_D A w) (hS : va_S A s.heap H locs) (hA : ∀ q, s.heap.size ≤ q → A q) (isC : List Nat) (hC : isC.map (fun i => w[i]?) = wc.map some) : ∀ U : State, U.heap = H → s.WarmedH U.vm → pq_L (va_A wc H.size) U :=
  fun U hU hW => ⟨h.1.call hD hS hA isC hC U hU hW, h.2.moved hW.alike⟩
section PL
variable {p : Program} {l : Launch} {e : Env} {R : Room} {s : State} {m : MethodId} {args : Array Value} {below : List Frame} {meth : Method} {c : Code} {H : Heap} {locs : List Loc} {cells slots : Nat} {Q : State → Prop}
variable {y : MethodName} {ws ws' : List Cond} {fr lo mc ms maxL : Nat} {D : va_G} {tys tys0 : List (ClassId × FieldType)} {E : (Nat → Prop) → State → Prop} {wc wr w : va_W} {av : List Value} {post : Option Value → va_W → Prop} {cc bytes : ByteArray} {ret : Option FieldType} {A : Nat → Prop} {ls : Array Slot} {pc : Nat} {st0 rest : List Value} {hh : List (Nat × Nat × Nat × Nat)}
set_option maxHeartbeats 2000000 in
theorem pq_lenter (hy : plainName y.cls = true) (hw : ws = Cond.codeWith y cc maxL ret hh :: ws') (hn : (lg_sl av).length ≤ maxL)
    (body : ∀ (p : Program) (e : Env) (s : State) (m : MethodId) (args : Array Value) (below : List Frame) (meth : Method) (c : Code) (A : Nat → Prop) (ls : Array Slot) (Q : State → Prop) (H : Heap) (locs : List Loc), p.tables.exec = Jvm.exec → c.code = cc → meth.sig.returnType = ret → c.maxLocals = maxL → (∀ w ∈ ws, w.before args s = true) → s.vm.findClass y.cls = some m.cls → meth.locks = false → c.exceptionTable.toList = tableOf hh → va_K D vwCl tys s → va_P D vwCl wc H → va_D A wc → va_S A s.heap H locs → (∀ q, s.heap.size ≤ q → A q) → E A s → lv_has ls maxL (lv_args 0 av) → Q = MQ below (pq_Q D tys A post) args s mc ms A →
      W p l e (pq_R fr lo mc ms) s m args below meth c H locs 0 0 Q (F0 m 0 ls [])) : pq_M l y ws fr lo mc ms D tys E wc av post := by
  intro sz
  refine va_MetW (cc := cc) (maxL := maxL) (ret := ret) (hh := hh) hy hw ?_
  intro p e s m args below meth c s₁ B hml hv
  obtain ⟨rfl, hsz, hP, hK, hD0, hE⟩ := hv
  have hts := atoms_spec (ws := ws) B.pre
  have hown : s.vm.findClass y.cls = some m.cls := findClass_of_methodNamed B.named
  have htab : c.exceptionTable.toList = tableOf hh := vx_table (x := y) B (hts _ (by rw [hw]; exact List.mem_cons_self))
  subst hsz
  have hD := hD0.self (sz := s.heap.size)
  have hl := lv_entry av (n := maxL) hn
  rw [lg_entry_eq]
  exact body p e s m av.toArray below meth c (va_A wc s.heap.size) _ _ s.heap [] B.exec B.bytes B.returns hml hts hown B.notSynchronized htab hK hP hD va_S.rf (fun q h => Or.inr h) hE hl rfl
theorem pq_last {ws : va_W} {a : Nat} {H0 : Heap} (hx : p.tables.exec = Jvm.exec) (hb : c.code = cc) (hK : va_K D vwCl tys s) (hP : va_P D vwCl ws H) (hD : va_D A ws) (hS : va_S A H0 H locs) (q0 t0 : Nat) {cA : ClassId} {f : Nat → Int64} (ha : ws[q0]? = some (a, .inl (cA, 1, .inr (.inl f)))) (ht : tys[t0]? = some (cA, .long)) {x : Int64} (hdg : decode cc pc = .ok (.lastore, 1))
    (kk : ∀ (H1 : Heap) (locs1 : List Loc), va_P D vwCl (ws.set q0 (a, .inl (cA, 1, .inr (.inl (vp_updL f 0 x))))) H1 → va_D A (ws.set q0 (a, .inl (cA, 1, .inr (.inl (vp_updL f 0 x))))) → va_S A H0 H1 locs1 → W p l e R s m args below meth c H1 locs1 cells slots Q (F0 m (pc + 1) ls rest)) : W p l e R s m args below meth c H locs cells slots Q (F0 m pc ls (.long x :: .int 0 :: .ref a :: rest)) :=
  va_last hx hb hK hP hD hS q0 t0 ha ht (vp_in_nI (n := 0) (N := 1) (by decide) (by decide)) hdg kk
theorem pq_lald {ws : va_W} {a : Nat} (hx : p.tables.exec = Jvm.exec) (hb : c.code = cc) (hK : va_K D vwCl tys s) (hP : va_P D vwCl ws H) (q0 t0 : Nat) {cA : ClassId} {f : Nat → Int64} (ha : ws[q0]? = some (a, .inl (cA, 1, .inr (.inl f)))) (ht : tys[t0]? = some (cA, .long)) (hdg : decode cc pc = .ok (.laload, 1))
    (kk : W p l e R s m args below meth c H locs cells slots Q (F0 m (pc + 1) ls (.long (f 0) :: rest))) : W p l e R s m args below meth c H locs cells slots Q (F0 m pc ls (.int 0 :: .ref a :: rest)) :=
  va_lald hx hb hK hP q0 t0 ha ht (vp_in_nI (n := 0) (N := 1) (by decide) (by decide)) hdg kk
end PL
