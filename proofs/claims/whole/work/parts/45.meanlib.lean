/-! a quotient of doubles: methods that may draw -/
theorem nan_dec {x : UInt64} (h : isNaN64 x = true) : FP.Core.decode FP.Core.b64 x.toNat = .nan := by
  rw [isNaN64_iff] at h
  have h2 : x.toNat % 2 ^ 63 = x.toNat &&& 0x7fffffffffffffff := (Nat.and_two_pow_sub_one_eq_mod x.toNat 63).symm
  have e1 : FP.Core.b64.exps = 2048 := by decide
  have e2 : FP.Core.b64.tails = 4503599627370496 := by decide
  unfold FP.Core.decode FP.Core.fieldE FP.Core.fieldT
  rw [e1, e2]
  rw [← h2] at h
  rw [if_pos (by omega), if_neg (by omega)]
theorem nan_cmp {x : UInt64} (h : isNaN64 x = true) : FP.dcmp x x = none := by
  show FP.Core.order (FP.Core.decode FP.Core.b64 x.toNat) (FP.Core.decode FP.Core.b64 x.toNat) = none
  rw [nan_dec h]
  rfl
theorem mean_cmp {r1 r2 z : UInt64} (h1 : alike64 r1 z = true) (h2 : alike64 r2 z = true) : Op.cmpValue (FP.dcmp r1 r2) .l = 0 ∨ (¬ Op.cmpValue (FP.dcmp r1 r1) .l = 0 ∧ ¬ Op.cmpValue (FP.dcmp r2 r2) .l = 0) := by
  unfold alike64 at h1 h2
  rw [Bool.or_eq_true, decide_eq_true_eq, Bool.and_eq_true] at h1 h2
  have hn : ∀ x : UInt64, isNaN64 x = true → ¬ Op.cmpValue (FP.dcmp x x) .l = 0 := by
    intro x hx
    rw [nan_cmp hx]
    decide
  rcases h1 with h1 | h1
  · rcases h2 with h2 | h2
    · have e : r1 = r2 := h1.trans h2.symm
      subst e
      by_cases q : Op.cmpValue (FP.dcmp r1 r1) .l = 0
      · exact Or.inl q
      · exact Or.inr ⟨q, q⟩
    · exact Or.inr ⟨hn _ (by rw [h1]; exact h2.2), hn _ h2.1⟩
  · rcases h2 with h2 | h2
    · exact Or.inr ⟨hn _ h1.1, hn _ (by rw [h2]; exact h1.2)⟩
    · exact Or.inr ⟨hn _ h1.1, hn _ h2.1⟩
def dMean (tv ca : Int32) (r : UInt64) : Prop := (ca = 0 ∧ r = FP.dconst0) ∨ (ca ≠ 0 ∧ alike64 r (FP.ddiv (FP.i2d tv) (FP.i2d ca)) = true)
theorem dMean_cmp {tv ca : Int32} {r1 r2 : UInt64} (h1 : dMean tv ca r1) (h2 : dMean tv ca r2) : Op.cmpValue (FP.dcmp r1 r2) .l = 0 ∨ (¬ Op.cmpValue (FP.dcmp r1 r1) .l = 0 ∧ ¬ Op.cmpValue (FP.dcmp r2 r2) .l = 0) := by
  rcases h1 with ⟨a1, b1⟩ | ⟨a1, b1⟩
  · rcases h2 with ⟨a2, b2⟩ | ⟨a2, b2⟩
    · subst b1; subst b2; exact Or.inl (by decide +kernel)
    · exact absurd a1 a2
  · rcases h2 with ⟨a2, b2⟩ | ⟨a2, b2⟩
    · exact absurd a2 a1
    · exact mean_cmp b1 b2
def pq_DM (l : Launch) (y : MethodName) (ws : List Cond) (fr lo mc ms : Nat) (D : va_G) (tys : List (ClassId × FieldType)) (E : (Nat → Prop) → State → Prop) (wc : va_W) (av : List Value) (post : Option Value → va_W → Prop) : Prop :=
  ∀ sz : Nat, MetD lw_cs l y ws (pq_R fr lo mc ms) (pq_Pc D tys E wc sz av) (pq_Q D tys (va_A wc sz) post) mc ms (va_A wc sz)
section PD
variable {p : Program} {l : Launch} {e : Env} {R : Room} {s : State} {m : MethodId} {args : Array Value} {below : List Frame} {meth : Method} {c : Code} {H : Heap} {locs : List Loc} {cells slots : Nat} {Q : State → Prop}
variable {y : MethodName} {ws ws' : List Cond} {fr lo mc ms maxL : Nat} {D : va_G} {tys tys0 : List (ClassId × FieldType)} {E : (Nat → Prop) → State → Prop} {wc wr w : va_W} {av : List Value} {post : Option Value → va_W → Prop} {cc bytes : ByteArray} {ret : Option FieldType} {A : Nat → Prop} {ls : Array Slot} {pc : Nat} {st0 rest : List Value}
set_option maxHeartbeats 2000000 in
theorem pq_denter (hy : plainName y.cls = true) (hw : ws = Cond.code y cc maxL ret :: ws') (hn : (lg_sl av).length ≤ maxL)
    (body : ∀ (p : Program) (e : Env) (s : State) (m : MethodId) (args : Array Value) (below : List Frame) (meth : Method) (c : Code) (A : Nat → Prop) (ls : Array Slot) (Q : State → Prop) (H : Heap) (locs : List Loc), p.tables.exec = Jvm.exec → c.code = cc → meth.sig.returnType = ret → c.maxLocals = maxL → (∀ w ∈ ws, w.before args s = true) → s.vm.findClass y.cls = some m.cls → meth.locks = false → va_K D vwCl tys s → va_P D vwCl wc H → va_D A wc → va_S A s.heap H locs → (∀ q, s.heap.size ≤ q → A q) → E A s → lv_has ls maxL (lv_args 0 av) → Q = MQD lw_cs below (pq_Q D tys A post) args s mc ms A →
      W p l e (pq_R fr lo mc ms) s m args below meth c H locs 0 0 Q (F0 m 0 ls [])) : pq_DM l y ws fr lo mc ms D tys E wc av post := by
  intro sz
  refine MetD.ofW (cc := cc) (maxL := maxL) (ret := ret) hy hw ?_
  intro p e s m args below meth c s₁ B hml hv hd0
  obtain ⟨rfl, hsz, hP, hK, hD0, hE⟩ := hv
  have hts := atoms_spec (ws := ws) B.pre
  have hown : s.vm.findClass y.cls = some m.cls := findClass_of_methodNamed B.named
  subst hsz
  have hD := hD0.self (sz := s.heap.size)
  have hl := lv_entry av (n := maxL) hn
  rw [lg_entry_eq]
  exact W.base (body p e s m av.toArray below meth c (va_A wc s.heap.size) _ _ s.heap [] B.exec B.bytes B.returns hml hts hown B.notSynchronized hK hP hD va_S.rf (fun q h => Or.inr h) hE hl rfl)
theorem pq_dret {w1 : va_W} {v : UInt64} {d0 : Drawn} (hd0 : s.drawn.sameBut d0 lw_cs) (hQ : Q = MQD lw_cs below (pq_Q D tys A post) args s mc ms A) (hx : p.tables.exec = Jvm.exec) (hb : c.code = cc) (hr : meth.sig.returnType = some .double) (hlocks : meth.locks = false) (hK : va_K D vwCl tys s) (hS : va_S A s.heap H locs) (hP : va_P D vwCl w1 H) (hD : va_D A w1) (hdg : decode cc pc = .ok (.dreturn, 1)) (hc : cells ≤ mc) (hs : slots ≤ ms) (hpost : post (some (.double v)) w1) :
    W p l e R (s.setDrawn d0) m args below meth c H locs cells slots Q (F0 m pc ls [.double v]) := by
  subst hQ
  refine W.widen hc hs (W.endD hd0 ?_)
  have hK2 : va_K D vwCl tys (s.setDrawn d0) := va_K.moved (u := s) (U := s.setDrawn d0) (Vm.Alike.refl s.vm) hK
  exact W.dret hx hb hr (fun t ht hW => ⟨⟨_, w1, rfl, hpost, by rw [ht]; exact hP, va_K.moved hW.alike hK2, hD⟩, hS.F ht⟩) hS.2.2 hdg
theorem pq_backD {a : Array Value} {A1 : Nat → Prop} {isC isR : List Nat} (hr : va_RunD lw_cs p l e R s m args below meth c H locs cells slots mc ms (F0 m pc ls st0) rest (pq_Q D tys A1 post a) A1) (hA1 : A1 = va_A wc H.size) (hP : va_P D vwCl w H) (hD : va_D A w) (hS : va_S A s.heap H locs) (hA : ∀ q, s.heap.size ≤ q → A q)
    (hC : isC.map (fun i => w[i]?) = wc.map some) (hR : isR.map (fun i => w[i]?) = wr.map some) (hn : va_nd isR = true) (hdis : ∀ i ∈ isR, i ∉ isC)
    (kk : ∀ (v : Option Value) (w1 : va_W) (H1 : Heap) (locs1 : List Loc) (d1 : Drawn), s.drawn.sameBut d1 lw_cs → post v w1 → va_P D vwCl (wr ++ w1) H1 → va_D A (wr ++ w1) → va_S A s.heap H1 locs1 → H.size ≤ H1.size → W p l e R (s.setDrawn d1) m args below meth c H1 locs1 (cells + mc) (slots + ms) Q (F0 m (pc + 3) ls (v.toList ++ rest))) :
    W p l e R s m args below meth c H locs cells slots Q (F0 m pc ls st0) := by
  subst hA1
  have hF : ∀ q, va_A wc H.size q → A q := va_free (wc := wc) hD hS hA isC hC
  intro T hT X
  obtain ⟨v, st₀, t, T', L, d1, hd1, h0, X', hL, e1, e2, ⟨⟨v', w1, hv, hp, hP1, hK1, hD1⟩, hz, hk⟩, st⟩ := hr T hT X
  cases hv
  rw [h0] at hz hk
  obtain ⟨hPj, hDj⟩ := va_join (H1 := T'.heap) hP hD isC isR hC hR hn hdis (fun q h1 h2 => by rw [e1]; exact hk q h1 h2) hF (by rw [e1]; exact hP1) hD1
  obtain ⟨t2, a1, b1⟩ := kk v w1 T'.heap (locs ++ L) d1 hd1 hp hPj hDj
    ⟨Nat.le_trans hS.1 (by rw [e1]; exact hz), fun q h1 h2 => by rw [e1, hk q (Nat.lt_of_lt_of_le h1 hS.1) (fun z => h2 (hF q z))]; exact hS.2.1 q h1 h2, fun q hq => by
      rcases List.mem_append.mp hq with h | h
      · exact hS.2.2 q h
      · exact hF _ (hL q h)⟩ (by rw [e1]; exact hz) T' rfl X'
  exact ⟨t2, st t2 a1, b1⟩
theorem pq_callVD {own C : String} {index n nL : Nat} {Ts : List Cond} {b q0 ci : Nat} {fs : List Value} {q : vw_C} (isC isR : List Nat) (As : List Value) (hM : pq_DM l y ws fr lo mc ms D tys E wc (.ref b :: As) post)
    (S : CallFix p m c cc nL s args Ts own) (cw : CallW R s args own C index y bytes maxL ret ws (pq_R fr lo mc ms) mc ms n)
    (hEb : pq_Bl E) (hE : ∀ U : State, U.heap = H → s.WarmedH U.vm → E (va_A wc H.size) U) (hK : va_K D vwCl tys s) (hP : va_P D vwCl w H) (hD : va_D A w) (hS : va_S A s.heap H locs) (hA : ∀ q, s.heap.size ≤ q → A q)
    (hC : isC.map (fun i => w[i]?) = wc.map some) (hnC : va_nd isC = true) (hR : isR.map (fun i => w[i]?) = wr.map some) (hn : va_nd isR = true) (hdis : ∀ i ∈ isR, i ∉ isC)
    (hq0 : w[q0]? = some (b, .inr (ci, fs))) (hci : vwCl[ci]? = some q) (hqC : q.1 = C) (hlen : As.length = n) (hsize : ls.size = nL) (hst : st0 = As.reverse ++ .ref b :: rest) (hW : (rest.map fun v => v.category).sum ≤ 8) (hdg : decode cc pc = .ok (.invokevirtual index, 3)) (hf : cells + mc ≤ R.cells ∧ slots + ms ≤ R.slots)
    (kk : ∀ (v : Option Value) (w1 : va_W) (H1 : Heap) (locs1 : List Loc) (d1 : Drawn), s.drawn.sameBut d1 lw_cs → post v w1 → va_P D vwCl (wr ++ w1) H1 → va_D A (wr ++ w1) → va_S A s.heap H1 locs1 → H.size ≤ H1.size → W p l e R (s.setDrawn d1) m args below meth c H1 locs1 (cells + mc) (slots + ms) Q (F0 m (pc + 3) ls (v.toList ++ rest))) :
    W p l e R s m args below meth c H locs cells slots Q (F0 m pc ls st0) := by
  subst hqC
  have hpre := pq_pre (av := .ref b :: As) hEb hE hK hP hD hC hnC
  exact pq_backD (va_runV_D (As := As) (rest := rest) S (hM H.size) cw ⟨hpre.1, va_recv hK hP hci hq0, hpre.2⟩ rfl hlen hsize hst (lv_room hW) hdg hf) rfl hP hD hS hA hC hR hn hdis kk
end PD
