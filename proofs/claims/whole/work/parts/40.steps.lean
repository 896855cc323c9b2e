/-! each call, in the form that the law's walk wants it -/
theorem vi_eq {a b : Int32} (h : (some (Value.int a) : Option Value) = some (.int b)) : a = b := by
  cases h
  rfl
theorem nI_inj {a b : Nat} (ha : a < 1000) (hb : b < 1000) (h : nI a = nI b) : a = b := by
  have h2 := congrArg Int32.toInt h
  rw [nI_toInt (by omega), nI_toInt (by omega)] at h2
  omega
theorem c_ne1 : ¬ (1 : Int32) = 0 := by decide
theorem c_ne2 : ¬ (2 : Int32) = 0 := by decide
theorem c_ne3 : ¬ (3 : Int32) = 0 := by decide
theorem st_new {x y : Int32} (h : cLay x y = 0) (fi la : Nat → Int32) (B : BK) (g0 c0 : Nat → Int32) (t : Int32) (Z : MZ) (hs cs : Nat → Int32) :
    ∃ N, IV N (sIter (upd fi 1 0, upd la 1 (x - 1)) 63).1 (sIter (upd fi 1 0, upd la 1 (x - 1)) 63).2 (bNew (sIter (upd fi 1 0, upd la 1 (x - 1)) 63) y B) (gFillH x y g0 64, gFillC c0 64, x, t)
      (mIter x y Z 127).1 (mIter x y Z 127).2.1 (mNew (mIter x y Z 127)) (gFillH x y hs 64) (gFillC cs 64) ∧ x = nI N := by
  unfold cLay at h
  by_cases q : bRng x 1 64 ∨ bRng y 0 1000
  · rw [if_pos q] at h; exact absurd h c_ne1
  · obtain ⟨N, n1, n2, rfl⟩ := rngN (lo := 1) (hi := 64) (by decide) (by decide) (fun z => q (Or.inl z))
    obtain ⟨v, v1, v2, rfl⟩ := rngN (lo := 0) (hi := 1000) (by decide) (by decide) (fun z => q (Or.inr z))
    exact ⟨N, iv_new n1 n2 v2 fi la B g0 c0 t Z hs cs, rfl⟩
theorem cPile_0 {c w : Int32} {hs : Nat → Int32} {k : Nat} (hk : k < 1000) (h : cPile c hs (nI k) w = 0) : ¬ bRng w 1 1000 ∧ hs k + w ≤ 1000 := by
  unfold cPile at h
  rw [nI_clamp (by omega)] at h
  by_cases q : bCol c (nI k)
  · rw [if_pos q] at h; exact absurd h c_ne1
  · rw [if_neg q] at h
    by_cases q2 : bRng w 1 1000
    · rw [if_pos q2] at h; exact absurd h c_ne2
    · rw [if_neg q2] at h
      by_cases q3 : ¬ hs k + w ≤ 1000
      · rw [if_pos q3] at h; exact absurd h c_ne3
      · exact ⟨q2, Classical.not_not.mp q3⟩
theorem st_pile {N k : Nat} {fi la : Nat → Int32} {B : BK} {G : GK} {mf ml : Nat → Int32} {M : BK} {hs cs : Nat → Int32} {w0 : Int32} (I : IV N fi la B G mf ml M hs cs) (hk : k < N) (hc : cPile (nI N) hs (nI k) w0 = 0) (y : Int32) :
    IV N fi la (bRaiseFrom fi la (nI k) (G.1 k + w0) 7 (bBegin B) 1) (upd G.1 k (G.1 k + w0), upd G.2.1 k (-1), G.2.2.1, y) mf ml (mUps 7 (mAdd (mDown mf ml (nI k) 7 (bVisit (bBegin M)) 1).1 (mDown mf ml (nI k) 7 (bVisit (bBegin M)) 1).2 w0) (mDown mf ml (nI k) 7 (bVisit (bBegin M)) 1).2) (upd hs k (hs k + w0)) (upd cs k (-1)) ∧ G.1 k + w0 = hs k + w0 := by
  have i2 := I.2.1
  have e : G.1 k = hs k := (I.2.2.2.2.2.2.2.1 k (by omega)).1
  obtain ⟨h1, h2⟩ := cPile_0 (by omega) hc
  rw [e]
  exact ⟨iv_pile I hk h1 h2 y, rfl⟩
theorem cLow_0 {c x y z : Int32} (h : cLow c x y z 0 1000 = 0) : ∃ n, n ≤ 1000 ∧ z = nI n := by
  unfold cLow at h
  by_cases q : bCol c x ∨ bCol c y
  · rw [if_pos q] at h; exact absurd h c_ne1
  · rw [if_neg q] at h
    by_cases q2 : y < x ∨ bRng z 0 1000
    · rw [if_pos q2] at h; exact absurd h c_ne2
    · obtain ⟨n, -, n2, rfl⟩ := rngN (lo := 0) (hi := 1000) (by decide) (by decide) (fun w => q2 (Or.inr w))
      exact ⟨n, n2, rfl⟩
theorem st_lower {N kf kt : Nat} {x y c0 : Int32} {fi la : Nat → Int32} {B : BK} {G : GK} {mf ml : Nat → Int32} {M : BK} {hs cs : Nat → Int32} (I : IV N fi la B G mf ml M hs cs) (hft : kf ≤ kt) (hk : kt < N) (hc : cLow (nI N) x y c0 0 1000 = 0) (t : Int32) :
    IV N fi la (bPressFrom fi la (nI kf) (nI kt) c0 7 (bBegin B) 1) (gPressH c0 kf G.1 (kt + 1 - kf), gPressC c0 kf G.2.1 (kt + 1 - kf), G.2.2.1, t) mf ml (mPress mf ml (nI kf) (nI kt) c0 7 (bBegin M) 1) (mPressH c0 kf hs (kt + 1 - kf)) (mPressC c0 kf cs (kt + 1 - kf)) ∧
    B.2.2.2.1 1 - (bPressFrom fi la (nI kf) (nI kt) c0 7 (bBegin B) 1).2.2.2.1 1 = mAbove hs kf (kt + 1 - kf) c0 := by
  obtain ⟨c, hc1, rfl⟩ := cLow_0 hc
  exact iv_lower I hft hk hc1 t
theorem st_would {N kf kt : Nat} {x y c0 : Int32} {fi la : Nat → Int32} {B : BK} {G : GK} {mf ml : Nat → Int32} {M : BK} {hs cs : Nat → Int32} (I : IV N fi la B G mf ml M hs cs) (hft : kf ≤ kt) (hk : kt < N) (hc : cLow (nI N) x y c0 0 1000 = 0) : gAbove G.1 kf (kt + 1 - kf) c0 = mAbove hs kf (kt + 1 - kf) c0 := by
  obtain ⟨c, hc1, rfl⟩ := cLow_0 hc
  have i2 := I.2.1
  exact iv_above I hft (by omega) (by omega)
theorem st_ebc {N kf kt : Nat} {fi la : Nat → Int32} {B : BK} {G : GK} {mf ml : Nat → Int32} {M : BK} {hs cs : Nat → Int32} (I : IV N fi la B G mf ml M hs cs) (hft : kf ≤ kt) (hk : kt < N) : gAbove G.1 kf (kt + 1 - kf) 0 = mAbove hs kf (kt + 1 - kf) 0 := by
  have i2 := I.2.1
  exact iv_above I hft (by omega) (c := 0) (by decide)
theorem st_for {N kf kt : Nat} {w : Int32} {fi la : Nat → Int32} {B : BK} {G : GK} {mf ml : Nat → Int32} {M : BK} {hs cs : Nat → Int32} (I : IV N fi la B G mf ml M hs cs) (hft : kf ≤ kt) (hk : kt < N) (hc : mFor (nI N) hs (nI kf) (nI kt) w = 0) : gHi (gAbove G.1 kf (kt + 1 - kf)) w 10 0 = nI (mSeek (mAbove hs kf (kt + 1 - kf)) w 1000) := by
  have i2 := I.2.1
  unfold mFor at hc
  rw [nI_clamp (by omega), nI_clamp (by omega)] at hc
  by_cases q : bCol (nI N) (nI kf) ∨ bCol (nI N) (nI kt)
  · rw [if_pos q] at hc; exact absurd hc c_ne1
  · rw [if_neg q] at hc
    by_cases q2 : nI kt < nI kf ∨ bRng w 1 64000
    · rw [if_pos q2] at hc; exact absurd hc c_ne2
    · rw [if_neg q2] at hc
      obtain ⟨n, n1, n2, rfl⟩ := rngN (lo := 1) (hi := 64000) (by decide) (by decide) (fun w => q2 (Or.inr w))
      by_cases q3 : mAbove hs kf (kt + 1 - kf) 0 < nI n
      · rw [if_pos q3] at hc; exact absurd hc c_ne3
      · exact iv_seek I hft (by omega) n1 n2 (by rw [st_ebc I hft hk]; exact i_le q3)
theorem st_col {N k : Nat} {fi la : Nat → Int32} {B : BK} {G : GK} {mf ml : Nat → Int32} {M : BK} {hs cs : Nat → Int32} (I : IV N fi la B G mf ml M hs cs) (hk : k < N) : G.1 k = hs k ∧ G.2.1 k = cs k := by
  have i2 := I.2.1
  have := I.2.2.2.2.2.2.2.1 k (by omega)
  exact ⟨this.1, this.2.1⟩
theorem st_cnt {N : Nat} {fi la : Nat → Int32} {B : BK} {G : GK} {mf ml : Nat → Int32} {M : BK} {hs cs : Nat → Int32} (I : IV N fi la B G mf ml M hs cs) : M.2.2.2.2.1 = B.2.2.2.2.1 ∧ M.2.2.2.2.2.1 = B.2.2.2.2.2.1 ∧ M.2.2.2.2.2.2 = B.2.2.2.2.2.2 := by
  have h := I.2.2.2.2.1.2
  exact ⟨congrArg (fun r : Int32 × Int32 × Int32 => r.1) h, congrArg (fun r : Int32 × Int32 × Int32 => r.2.1) h, congrArg (fun r : Int32 × Int32 × Int32 => r.2.2) h⟩
theorem st_rest {N : Nat} {fi la : Nat → Int32} {B : BK} {G : GK} {mf ml : Nat → Int32} {M : BK} {hs cs : Nat → Int32} (I : IV N fi la B G mf ml M hs cs) : gAbove G.1 0 (N - 1 + 1 - 0) 0 = mAbove hs 0 (N - 1 + 1 - 0) 0 := by
  have i1 := I.1
  have i2 := I.2.1
  exact st_ebc I (Nat.zero_le (N - 1)) (by omega)
theorem ent_mk {mf : Nat → Int32} {k : Nat} (h1 : 1 ≤ k) (h2 : k < 128) (h3 : ¬ mf k < 0) : mEnt mf (nI k) := by
  refine ⟨?_, by rw [nI_clamp (by omega)]; exact h3⟩
  rintro (z | z)
  · exact absurd z (i_nlt (nI_le (a := 1) h1 (by omega)))
  · exact z (nI_le (b := 127) (by omega) (by decide))
theorem lg_cmp_s (x : Int64) : lg_cmp x x = 0 := by simp [lg_cmp]
theorem updL_0 (f : Nat → Int64) (x : Int64) : vp_updL f 0 x 0 = x := if_pos rfl
/-! the law's world, and what holds at the head of its loop -/
abbrev lwW (o : Nat) (fo : Nat → Int64) (q h a0 a1 a2 a3 a4 a5 g b0 b1 : Nat) (mo z1 z2 z3 z4 z5 z6 z7 z8 z9 : Nat) (cI cL : ClassId) (fi la : Nat → Int32) (B : BK) (G : GK) (pr : Int32) (col : Int32) (hs cs mf ml : Nat → Int32) (M : BK) (td : Nat → Int32) (lf laid piled prs thr : Int32) : va_W :=
  [(o, .inl (cL, 1, .inr (.inl fo))), (q, .inr (2, [.ref h, .ref g, .int pr])), (h, .inr (0, [.ref a0, .ref a1, .ref a2, .ref a3, .ref a4, .ref a5, .int B.2.2.2.2.1, .int B.2.2.2.2.2.1, .int B.2.2.2.2.2.2])), (a0, .inl (cI, 128, .inl fi)), (a1, .inl (cI, 128, .inl la)), (a2, .inl (cI, 128, .inl B.1)), (a3, .inl (cI, 128, .inl B.2.1)), (a4, .inl (cI, 128, .inl B.2.2.1)), (a5, .inl (cI, 128, .inl B.2.2.2.1)), (g, .inr (1, [.ref b0, .ref b1, .int G.2.2.1, .int G.2.2.2])), (b0, .inl (cI, 64, .inl G.1)), (b1, .inl (cI, 64, .inl G.2.1)),
   (mo, .inr (3, [.int col, .ref z1, .ref z2, .ref z3, .ref z4, .ref z5, .ref z6, .ref z7, .ref z8, .ref z9, .int lf, .int M.2.2.2.2.1, .int M.2.2.2.2.2.1, .int M.2.2.2.2.2.2, .int laid, .int piled, .int prs, .int thr])), (z1, .inl (cI, 64, .inl hs)), (z2, .inl (cI, 64, .inl cs)), (z3, .inl (cI, 128, .inl mf)), (z4, .inl (cI, 128, .inl ml)), (z5, .inl (cI, 128, .inl M.1)), (z6, .inl (cI, 128, .inl M.2.1)), (z7, .inl (cI, 128, .inl M.2.2.1)), (z8, .inl (cI, 128, .inl M.2.2.2.1)), (z9, .inl (cI, 64, .inl td))]
def LInv (o q h a0 a1 a2 a3 a4 a5 g b0 b1 mo z1 z2 z3 z4 z5 z6 z7 z8 z9 : Nat) (cI cL : ClassId) (w : va_W) : Prop :=
  ∃ (fo : Nat → Int64) (fi la : Nat → Int32) (B : BK) (G : GK) (pr : Int32) (N : Nat) (hs cs mf ml : Nat → Int32) (M : BK) (td : Nat → Int32) (lf laid piled prs thr col : Int32),
    w = lwW o fo q h a0 a1 a2 a3 a4 a5 g b0 b1 mo z1 z2 z3 z4 z5 z6 z7 z8 z9 cI cL fi la B G pr col hs cs mf ml M td lf laid piled prs thr ∧ col = nI N ∧ IV N fi la B G mf ml M hs cs ∧ G.2.2.2 = laid + piled ∧ pr = prs
/-- the machine at any time of the law -/
def LC (p : Program) (l : Launch) (s : State) (m : MethodId) (meth : Method) (cd : Code) (b L : Nat) (xs : Nat → Int32) (D : va_G) (cI cL : ClassId) : Prop :=
  p.tables.exec = Jvm.exec ∧ cd.code = cL_law ∧ cd.maxLocals = 9 ∧ s.vm.findClass RL = some m.cls ∧ (∀ w ∈ wsL_law, w.before #[Value.ref b] s = true) ∧ va_X b L xs s s.heap ∧ b < s.heap.size ∧ va_K D vwCl [(cI, .int), (cL, .long)] s ∧ pq_L (fun q => s.heap.size ≤ q) s ∧ l.stackTraces = false ∧ L ≤ 2048
theorem LC.drawn {p : Program} {l : Launch} {s : State} {m : MethodId} {meth : Method} {cd : Code} {b L : Nat} {xs : Nat → Int32} {D : va_G} {cI cL : ClassId} (C : LC p l s m meth cd b L xs D cI cL) (d : Drawn) : LC p l (s.setDrawn d) m meth cd b L xs D cI cL := by
  obtain ⟨c1, c2, c3, c4, c5, c6, c7, c8, c9, c10, c11⟩ := C
  refine ⟨c1, c2, c3, c4, dr_words c5 d, c6, c7, va_K.moved (u := s) (U := s.setDrawn d) (Vm.Alike.refl s.vm) c8, ⟨⟨pq_E.warm (U := s.setDrawn d) (State.WarmedH.refl s) c9.1.1, vx_Zq.moved (u := s) (U := s.setDrawn d) (Vm.Alike.refl s.vm) c9.1.2.1, vx_Zq.moved (u := s) (U := s.setDrawn d) (Vm.Alike.refl s.vm) c9.1.2.2⟩, pq_Nc.moved (u := s) (U := s.setDrawn d) (Vm.Alike.refl s.vm) c9.2⟩, c10, c11⟩
def LK (p : Program) (l : Launch) (ev : Env) (s : State) (m : MethodId) (b : Nat) (below : List Frame) (meth : Method) (cd : Code) (Q : State → Prop) (o q h a0 a1 a2 a3 a4 a5 g b0 b1 mo z1 z2 z3 z4 z5 z6 z7 z8 z9 : Nat) (D : va_G) (cI cL : ClassId) (i pc n sl : Nat) : Prop :=
  ∀ (w : va_W) (H : Heap) (locs : List Loc) (ls : Array Slot), LInv o q h a0 a1 a2 a3 a4 a5 g b0 b1 mo z1 z2 z3 z4 z5 z6 z7 z8 z9 cI cL w → va_P D vwCl w H → va_D (fun q => s.heap.size ≤ q) w → va_S (fun q => s.heap.size ≤ q) s.heap H locs → lv_has ls 9 [(4, .int (nI i)), (3, .ref o), (2, .ref mo), (1, .ref q), (0, .ref b)] → W p l ev room_1 s m #[Value.ref b] below meth cd H locs n sl Q (F0 m pc ls [])
section PW
variable {p : Program} {l : Launch} {e : Env} {R : Room} {s : State} {m : MethodId} {args : Array Value} {below : List Frame} {meth : Method} {c : Code} {H : Heap} {locs : List Loc} {cells slots : Nat} {Q : State → Prop}
variable {y : MethodName} {ws ws' : List Cond} {fr lo mc ms maxL : Nat} {D : va_G} {tys tys0 : List (ClassId × FieldType)} {E : (Nat → Prop) → State → Prop} {wc wr w : va_W} {av : List Value} {post : Option Value → va_W → Prop} {cc bytes : ByteArray} {ret : Option FieldType} {A : Nat → Prop} {ls : Array Slot} {pc : Nat} {st0 rest : List Value} {hh : List (Nat × Nat × Nat × Nat)}
theorem pq_callSW {own : String} {index n nL : Nat} {Ts : List Cond} (isC isR : List Nat) (As : List Value) (hM : pq_M l y ws fr lo mc ms D tys E wc As post)
    (S : CallFix p m c cc nL s args Ts own) (cw : vx_CSW R s args own index y bytes maxL ret hh ws (pq_R fr lo mc ms) mc ms n)
    (hEb : pq_Bl E) (hE : ∀ U : State, U.heap = H → s.WarmedH U.vm → E (va_A wc H.size) U) (hK : va_K D vwCl tys s) (hP : va_P D vwCl w H) (hD : va_D A w) (hS : va_S A s.heap H locs) (hA : ∀ q, s.heap.size ≤ q → A q)
    (hC : isC.map (fun i => w[i]?) = wc.map some) (hnC : va_nd isC = true) (hR : isR.map (fun i => w[i]?) = wr.map some) (hn : va_nd isR = true) (hdis : ∀ i ∈ isR, i ∉ isC)
    (hlen : As.length = n) (hsize : ls.size = nL) (hst : st0 = As.reverse ++ rest) (hW : (rest.map fun v => v.category).sum ≤ 8) (hdg : decode cc pc = .ok (.invokestatic index, 3)) (hf : cells + mc ≤ R.cells ∧ slots + ms ≤ R.slots)
    (kk : ∀ (v : Option Value) (w1 : va_W) (H1 : Heap) (locs1 : List Loc), post v w1 → va_P D vwCl (wr ++ w1) H1 → va_D A (wr ++ w1) → va_S A s.heap H1 locs1 → H.size ≤ H1.size → W p l e R s m args below meth c H1 locs1 (cells + mc) (slots + ms) Q (F0 m (pc + 3) ls (v.toList ++ rest))) :
    W p l e R s m args below meth c H locs cells slots Q (F0 m pc ls st0) :=
  pq_back (vx_runSW (As := As) (rest := rest) S (hM H.size) cw (pq_pre (av := As) hEb hE hK hP hD hC hnC) rfl hlen hsize hst (lv_room hW) hdg hf) rfl hP hD hS hA hC hR hn hdis kk
end PW
