/-! the class as the law meets it -/
theorem pq_mono {l : Launch} {y : MethodName} {ws : List Cond} {fr lo mc ms : Nat} {D : va_G} {tys : List (ClassId × FieldType)} {E : (Nat → Prop) → State → Prop} {wc : va_W} {av : List Value} {post post2 : Option Value → va_W → Prop} (h : pq_M l y ws fr lo mc ms D tys E wc av post) (hp : ∀ v w1, post v w1 → post2 v w1) : pq_M l y ws fr lo mc ms D tys E wc av post2 := by
  intro sz
  refine MetFree.mono (h sz) (fun _ _ q => q) (fun _ _ _ _ _ q => q) (fun a s o t _ q => ⟨⟨?_, q.1.2⟩, q.2⟩)
  obtain ⟨v, w1, e1, e2, e3⟩ := q.1.1
  exact ⟨v, w1, e1, hp v w1 e2, e3⟩
theorem pq_dret0 {p : Program} {l : Launch} {e : Env} {R : Room} {s : State} {m : MethodId} {args : Array Value} {below : List Frame} {meth : Method} {c : Code} {H : Heap} {locs : List Loc} {cells slots : Nat} {Q : State → Prop} {mc ms : Nat} {D : va_G} {tys : List (ClassId × FieldType)} {post : Option Value → va_W → Prop} {cc : ByteArray} {A : Nat → Prop} {ls : Array Slot} {pc : Nat} {w1 : va_W} {v : UInt64} (hQ : Q = MQ below (pq_Q D tys A post) args s mc ms A) (hx : p.tables.exec = Jvm.exec) (hb : c.code = cc) (hr : meth.sig.returnType = some .double) (hlocks : meth.locks = false) (hK : va_K D vwCl tys s) (hS : va_S A s.heap H locs) (hP : va_P D vwCl w1 H) (hD : va_D A w1) (hdg : decode cc pc = .ok (.dreturn, 1)) (hc : cells ≤ mc) (hs : slots ≤ ms) (hpost : post (some (.double v)) w1) :
    W p l e R s m args below meth c H locs cells slots Q (F0 m pc ls [.double v]) := by
  subst hQ
  refine W.widen hc hs ?_
  exact W.dret hx hb hr (fun t ht hW => ⟨⟨_, w1, rfl, hpost, by rw [ht]; exact hP, va_K.moved hW.alike hK, hD⟩, hS.F ht⟩) hS.2.2 hdg
theorem f_columns (l : Launch) (D : va_G) (cI : ClassId) (q h a0 a1 a2 a3 a4 a5 g b0 b1 : Nat) {N : Nat} {hs cs : Nat → Nat} {vis tot cal : Nat} {fi la : Nat → Int32} {B : BK} {G : GK} {pr : Int32} (I : J N hs cs vis tot cal fi la B G pr) : pq_M l yX2_columns wsX2_columns 0 0 0 0 D [(cI, .int)] pq_Ev (ppW q h a0 a1 a2 a3 a4 a5 g b0 b1 cI fi la B G pr) [.ref q] (fun v w1 => v = some (.int (nI N)) ∧ w1 = ppW q h a0 a1 a2 a3 a4 a5 g b0 b1 cI fi la B G pr) := by
  refine pq_mono (mX2_columns l D cI q h a0 a1 a2 a3 a4 a5 g b0 b1 fi la B G pr N I.2.2.2.2.2.2.2.2.1 I.2.1) (fun v w1 hq => ?_)
  obtain ⟨rfl, rfl⟩ := hq
  exact ⟨by rw [I.2.2.2.2.2.2.2.2.1], rfl⟩
theorem f_visits (l : Launch) (D : va_G) (cI : ClassId) (q h a0 a1 a2 a3 a4 a5 g b0 b1 : Nat) {N : Nat} {hs cs : Nat → Nat} {vis tot cal : Nat} {fi la : Nat → Int32} {B : BK} {G : GK} {pr : Int32} (I : J N hs cs vis tot cal fi la B G pr) : pq_M l yX2_visits wsX2_visits 0 0 0 0 D [(cI, .int)] pq_Ev (ppW q h a0 a1 a2 a3 a4 a5 g b0 b1 cI fi la B G pr) [.ref q] (fun v w1 => v = some (.int (nI vis)) ∧ w1 = ppW q h a0 a1 a2 a3 a4 a5 g b0 b1 cI fi la B G pr) := by
  refine pq_mono (mX2_visits l D cI q h a0 a1 a2 a3 a4 a5 g b0 b1 fi la B G pr N I.2.2.2.2.2.2.2.2.1 I.2.1) (fun v w1 hq => ?_)
  obtain ⟨rfl, rfl⟩ := hq
  exact ⟨by rw [I.2.2.2.2.2.2.2.2.2.2.1], rfl⟩
theorem f_allVisits (l : Launch) (D : va_G) (cI : ClassId) (q h a0 a1 a2 a3 a4 a5 g b0 b1 : Nat) {N : Nat} {hs cs : Nat → Nat} {vis tot cal : Nat} {fi la : Nat → Int32} {B : BK} {G : GK} {pr : Int32} (I : J N hs cs vis tot cal fi la B G pr) : pq_M l yX2_allVisits wsX2_allVisits 0 0 0 0 D [(cI, .int)] pq_Ev (ppW q h a0 a1 a2 a3 a4 a5 g b0 b1 cI fi la B G pr) [.ref q] (fun v w1 => v = some (.int (nI tot)) ∧ w1 = ppW q h a0 a1 a2 a3 a4 a5 g b0 b1 cI fi la B G pr) := by
  refine pq_mono (mX2_allVisits l D cI q h a0 a1 a2 a3 a4 a5 g b0 b1 fi la B G pr N I.2.2.2.2.2.2.2.2.1 I.2.1) (fun v w1 hq => ?_)
  obtain ⟨rfl, rfl⟩ := hq
  exact ⟨by rw [I.2.2.2.2.2.2.2.2.2.2.2.1], rfl⟩
theorem f_pressedAway (l : Launch) (D : va_G) (cI : ClassId) (q h a0 a1 a2 a3 a4 a5 g b0 b1 : Nat) {N : Nat} {hs cs : Nat → Nat} {vis tot cal : Nat} {fi la : Nat → Int32} {B : BK} {G : GK} {pr : Int32} (I : J N hs cs vis tot cal fi la B G pr) : pq_M l yX2_pressedAway wsX2_pressedAway 0 0 0 0 D [(cI, .int)] pq_Ev (ppW q h a0 a1 a2 a3 a4 a5 g b0 b1 cI fi la B G pr) [.ref q] (fun v w1 => v = some (.int (pr)) ∧ w1 = ppW q h a0 a1 a2 a3 a4 a5 g b0 b1 cI fi la B G pr) := by
  refine pq_mono (mX2_pressedAway l D cI q h a0 a1 a2 a3 a4 a5 g b0 b1 fi la B G pr N I.2.2.2.2.2.2.2.2.1 I.2.1) (fun v w1 hq => ?_)
  obtain ⟨rfl, rfl⟩ := hq
  exact ⟨rfl, rfl⟩
theorem f_pressedAwayByRest (l : Launch) (D : va_G) (cI : ClassId) (q h a0 a1 a2 a3 a4 a5 g b0 b1 : Nat) {N : Nat} {hs cs : Nat → Nat} {vis tot cal : Nat} {fi la : Nat → Int32} {B : BK} {G : GK} {pr : Int32} (I : J N hs cs vis tot cal fi la B G pr) : pq_M l yX2_pressedAwayByRest wsX2_pressedAwayByRest 2 55 0 0 D [(cI, .int)] pq_Ev (ppW q h a0 a1 a2 a3 a4 a5 g b0 b1 cI fi la B G pr) [.ref q] (fun v w1 => v = some (.int (pr)) ∧ w1 = ppW q h a0 a1 a2 a3 a4 a5 g b0 b1 cI fi la B G pr) := by
  refine pq_mono (mX2_pressedAwayByRest l D cI q h a0 a1 a2 a3 a4 a5 g b0 b1 fi la B G pr N I.2.2.2.2.2.2.2.2.1 I.2.1 I.1) (fun v w1 hq => ?_)
  obtain ⟨rfl, rfl⟩ := hq
  exact ⟨by rw [j_rest I], rfl⟩
theorem f_lagging (l : Launch) (D : va_G) (cI : ClassId) (q h a0 a1 a2 a3 a4 a5 g b0 b1 : Nat) {N : Nat} {hs cs : Nat → Nat} {vis tot cal : Nat} {fi la : Nat → Int32} {B : BK} {G : GK} {pr : Int32} (I : J N hs cs vis tot cal fi la B G pr) : pq_M l yX2_lagging wsX2_lagging 2 43 0 0 D [(cI, .int)] pq_Ev (ppW q h a0 a1 a2 a3 a4 a5 g b0 b1 cI fi la B G pr) [.ref q] (fun v w1 => ∃ lg, lg + 1 < 2 * N ∧ v = some (.int (nI lg)) ∧ w1 = ppW q h a0 a1 a2 a3 a4 a5 g b0 b1 cI fi la B G pr) := by
  refine pq_mono (mX2_lagging l D cI q h a0 a1 a2 a3 a4 a5 g b0 b1 fi la B G pr N I.2.2.2.2.2.2.2.2.1 I.2.1) (fun v w1 hq => ?_)
  obtain ⟨rfl, rfl⟩ := hq
  obtain ⟨n, n1, n2⟩ := j_lag I
  exact ⟨n, n1, by rw [n2], rfl⟩
theorem f_height (l : Launch) (D : va_G) (cI : ClassId) (q h a0 a1 a2 a3 a4 a5 g b0 b1 : Nat) {N : Nat} {hs cs : Nat → Nat} {vis tot cal : Nat} {fi la : Nat → Int32} {B : BK} {G : GK} {pr : Int32} (I : J N hs cs vis tot cal fi la B G pr) {kx : Nat} (hkx : kx < N) : pq_M l yX2_height wsX2_height 7 121 0 0 D [(cI, .int)] pq_Ev (ppW q h a0 a1 a2 a3 a4 a5 g b0 b1 cI fi la B G pr) [.ref q, .int (nI kx)] (fun v w1 => v = some (.int (nI (hs kx))) ∧ w1 = ppW q h a0 a1 a2 a3 a4 a5 g b0 b1 cI fi la B G pr) := by
  refine pq_mono (mX2_height l D cI q h a0 a1 a2 a3 a4 a5 g b0 b1 fi la B G pr N I.2.2.2.2.2.2.2.2.1 I.2.1 kx hkx) (fun v w1 hq => ?_)
  obtain ⟨rfl, rfl⟩ := hq
  exact ⟨by rw [least_main I.1 (by have := I.2.1; omega) I.2.2.1 hkx, I.2.2.2.2.2.1 kx hkx], rfl⟩
theorem f_heightOfColumn (l : Launch) (D : va_G) (cI : ClassId) (q h a0 a1 a2 a3 a4 a5 g b0 b1 : Nat) {N : Nat} {hs cs : Nat → Nat} {vis tot cal : Nat} {fi la : Nat → Int32} {B : BK} {G : GK} {pr : Int32} (I : J N hs cs vis tot cal fi la B G pr) {kx : Nat} (hkx : kx < N) : pq_M l yX2_heightOfColumn wsX2_heightOfColumn 7 121 0 0 D [(cI, .int)] pq_Ev (ppW q h a0 a1 a2 a3 a4 a5 g b0 b1 cI fi la B G pr) [.ref q, .int (nI kx)] (fun v w1 => v = some (.int (nI (hs kx))) ∧ w1 = ppW q h a0 a1 a2 a3 a4 a5 g b0 b1 cI fi la B G pr) := by
  refine pq_mono (mX2_heightOfColumn l D cI q h a0 a1 a2 a3 a4 a5 g b0 b1 fi la B G pr N I.2.2.2.2.2.2.2.2.1 I.2.1 kx hkx) (fun v w1 hq => ?_)
  obtain ⟨rfl, rfl⟩ := hq
  exact ⟨by rw [(I.2.2.2.2.2.2.1 kx (by have := I.2.1; omega)).2], rfl⟩
theorem f_earthByColumns (l : Launch) (D : va_G) (cI : ClassId) (q h a0 a1 a2 a3 a4 a5 g b0 b1 : Nat) {N : Nat} {hs cs : Nat → Nat} {vis tot cal : Nat} {fi la : Nat → Int32} {B : BK} {G : GK} {pr : Int32} (I : J N hs cs vis tot cal fi la B G pr) {kf kt : Nat} (hft : kf ≤ kt) (htN : kt < N) : pq_M l yX2_earthByColumns wsX2_earthByColumns 8 143 0 0 D [(cI, .int)] pq_Ev (ppW q h a0 a1 a2 a3 a4 a5 g b0 b1 cI fi la B G pr) [.ref q, .int (nI kf), .int (nI kt)] (fun v w1 => v = some (.int (nI (nSum hs kf 0 (kt + 1 - kf)))) ∧ w1 = ppW q h a0 a1 a2 a3 a4 a5 g b0 b1 cI fi la B G pr) := by
  refine pq_mono (mX2_earthByColumns l D cI q h a0 a1 a2 a3 a4 a5 g b0 b1 fi la B G pr N I.2.2.2.2.2.2.2.2.1 I.2.1 kf kt hft htN) (fun v w1 hq => ?_)
  obtain ⟨rfl, rfl⟩ := hq
  exact ⟨by rw [show (0 : Int32) = nI 0 from rfl, j_above I hft (by have := I.2.1; omega) (by decide)], rfl⟩
theorem f_wouldPress (l : Launch) (D : va_G) (cI : ClassId) (q h a0 a1 a2 a3 a4 a5 g b0 b1 : Nat) {N : Nat} {hs cs : Nat → Nat} {vis tot cal : Nat} {fi la : Nat → Int32} {B : BK} {G : GK} {pr : Int32} (I : J N hs cs vis tot cal fi la B G pr) {kf kt c0 : Nat} (hft : kf ≤ kt) (htN : kt < N) (hc2 : c0 ≤ 1000) : pq_M l yX2_wouldPress wsX2_wouldPress 8 143 0 0 D [(cI, .int)] pq_Ev (ppW q h a0 a1 a2 a3 a4 a5 g b0 b1 cI fi la B G pr) [.ref q, .int (nI kf), .int (nI kt), .int (nI c0)] (fun v w1 => v = some (.int (nI (nSum hs kf c0 (kt + 1 - kf)))) ∧ w1 = ppW q h a0 a1 a2 a3 a4 a5 g b0 b1 cI fi la B G pr) := by
  refine pq_mono (mX2_wouldPress l D cI q h a0 a1 a2 a3 a4 a5 g b0 b1 fi la B G pr N I.2.2.2.2.2.2.2.2.1 I.2.1 kf kt c0 hft htN hc2) (fun v w1 hq => ?_)
  obtain ⟨rfl, rfl⟩ := hq
  exact ⟨by rw [j_above I hft (by have := I.2.1; omega) (by omega)], rfl⟩
theorem f_ceilingFor (l : Launch) (D : va_G) (cI : ClassId) (q h a0 a1 a2 a3 a4 a5 g b0 b1 : Nat) {N : Nat} {hs cs : Nat → Nat} {vis tot cal : Nat} {fi la : Nat → Int32} {B : BK} {G : GK} {pr : Int32} (I : J N hs cs vis tot cal fi la B G pr) {kf kt w0 : Nat} (hft : kf ≤ kt) (htN : kt < N) (hw1 : 1 ≤ w0) (hw2 : w0 ≤ nSum hs kf 0 (kt + 1 - kf)) : pq_M l yX2_ceilingFor wsX2_ceilingFor 8 143 0 0 D [(cI, .int)] pq_Ev (ppW q h a0 a1 a2 a3 a4 a5 g b0 b1 cI fi la B G pr) [.ref q, .int (nI kf), .int (nI kt), .int (nI w0)] (fun v w1 => ∃ r, r ≤ 999 ∧ w0 ≤ nSum hs kf r (kt + 1 - kf) ∧ nSum hs kf (r + 1) (kt + 1 - kf) < w0 ∧ v = some (.int (nI r)) ∧ w1 = ppW q h a0 a1 a2 a3 a4 a5 g b0 b1 cI fi la B G pr) := by
  refine pq_mono (mX2_ceilingFor l D cI q h a0 a1 a2 a3 a4 a5 g b0 b1 fi la B G pr N I.2.2.2.2.2.2.2.2.1 I.2.1 kf kt w0 hft htN hw1 (Nat.le_trans hw2 (j_sum_b I hft (by have := I.2.1; omega))) (j_for I hft (by have := I.2.1; omega) hw1 hw2).1) (fun v w1 hq => ?_)
  obtain ⟨rfl, rfl⟩ := hq
  obtain ⟨-, r, r1, r2, r3, r4⟩ := j_for I hft (by have := I.2.1; omega) hw1 hw2
  exact ⟨r, r2, r3, r4, by rw [r1], rfl⟩
theorem f_ceilingOver (l : Launch) (D : va_G) (cI : ClassId) (q h a0 a1 a2 a3 a4 a5 g b0 b1 : Nat) {N : Nat} {hs cs : Nat → Nat} {vis tot cal : Nat} {fi la : Nat → Int32} {B : BK} {G : GK} {pr : Int32} (I : J N hs cs vis tot cal fi la B G pr) {kx : Nat} (hkx : kx < N) (hov : 1 ≤ cs kx) : pq_M l yX2_ceilingOver wsX2_ceilingOver 7 121 0 0 D [(cI, .int)] pq_Ev (ppW q h a0 a1 a2 a3 a4 a5 g b0 b1 cI fi la B G pr) [.ref q, .int (nI kx)] (fun v w1 => v = some (.int (nI (cs kx - 1))) ∧ w1 = ppW q h a0 a1 a2 a3 a4 a5 g b0 b1 cI fi la B G pr) := by
  refine pq_mono (mX2_ceilingOver l D cI q h a0 a1 a2 a3 a4 a5 g b0 b1 fi la B G pr N I.2.2.2.2.2.2.2.2.1 I.2.1 kx hkx (by
    obtain ⟨j1, j2, -⟩ := I.2.2.2.2.2.2.2.1 kx (by have := I.2.1; omega)
    rw [j1, n_m1 hov]
    exact fun z => by
      have h2 := congrArg Int32.toInt z
      rw [nI_toInt (by omega)] at h2
      have h3 : (-1 : Int32).toInt = -1 := rfl
      omega)) (fun v w1 hq => ?_)
  obtain ⟨rfl, rfl⟩ := hq
  obtain ⟨j1, j2, -⟩ := I.2.2.2.2.2.2.2.1 kx (by have := I.2.1; omega)
  exact ⟨by rw [j1, n_m1 hov], rfl⟩
theorem f_spanOf (l : Launch) (D : va_G) (cI : ClassId) (q h a0 a1 a2 a3 a4 a5 g b0 b1 : Nat) {N : Nat} {hs cs : Nat → Nat} {vis tot cal : Nat} {fi la : Nat → Int32} {B : BK} {G : GK} {pr : Int32} (I : J N hs cs vis tot cal fi la B G pr) {ke : Nat} (hE : Ex N ke) : pq_M l yX2_spanOf wsX2_spanOf 7 121 0 0 D [(cI, .int)] pq_Ev (ppW q h a0 a1 a2 a3 a4 a5 g b0 b1 cI fi la B G pr) [.ref q, .int (nI ke)] (fun v w1 => v = some (.int (nI (100 * slo N ke + (shi N ke - 1)))) ∧ w1 = ppW q h a0 a1 a2 a3 a4 a5 g b0 b1 cI fi la B G pr) := by
  refine pq_mono (mX2_spanOf l D cI q h a0 a1 a2 a3 a4 a5 g b0 b1 fi la B G pr N I.2.2.2.2.2.2.2.2.1 I.2.1 ke hE.1 hE.2.1 ((has_ex (by have := I.2.1; omega) I.2.2.1 hE.1 hE.2.1).mpr hE)) (fun v w1 hq => ?_)
  obtain ⟨rfl, rfl⟩ := hq
  obtain ⟨s1, s2⟩ := I.2.2.1 ke hE.1 hE.2.1
  exact ⟨by rw [s1, s2, n_m1 (by have := hE.2.2; omega), show (100 : Int32) = nI 100 from rfl, pk_mul, nI_add], rfl⟩
theorem f_greatest (l : Launch) (D : va_G) (cI : ClassId) (q h a0 a1 a2 a3 a4 a5 g b0 b1 : Nat) {N : Nat} {hs cs : Nat → Nat} {vis tot cal : Nat} {fi la : Nat → Int32} {B : BK} {G : GK} {pr : Int32} (I : J N hs cs vis tot cal fi la B G pr) {ke : Nat} (hE : Ex N ke) {x : Nat} (hx : B.1 ke = nI x) : pq_M l yX2_greatest wsX2_greatest 7 121 0 0 D [(cI, .int)] pq_Ev (ppW q h a0 a1 a2 a3 a4 a5 g b0 b1 cI fi la B G pr) [.ref q, .int (nI ke)] (fun v w1 => v = some (.int (nI x)) ∧ w1 = ppW q h a0 a1 a2 a3 a4 a5 g b0 b1 cI fi la B G pr) := by
  refine pq_mono (mX2_greatest l D cI q h a0 a1 a2 a3 a4 a5 g b0 b1 fi la B G pr N I.2.2.2.2.2.2.2.2.1 I.2.1 ke hE.1 hE.2.1 ((has_ex (by have := I.2.1; omega) I.2.2.1 hE.1 hE.2.1).mpr hE)) (fun v w1 hq => ?_)
  obtain ⟨rfl, rfl⟩ := hq
  exact ⟨by rw [hx], rfl⟩
theorem f_second (l : Launch) (D : va_G) (cI : ClassId) (q h a0 a1 a2 a3 a4 a5 g b0 b1 : Nat) {N : Nat} {hs cs : Nat → Nat} {vis tot cal : Nat} {fi la : Nat → Int32} {B : BK} {G : GK} {pr : Int32} (I : J N hs cs vis tot cal fi la B G pr) {ke : Nat} (hE : Ex N ke) {x : Nat} (hx : B.2.1 ke = nI x - 1) : pq_M l yX2_second wsX2_second 7 121 0 0 D [(cI, .int)] pq_Ev (ppW q h a0 a1 a2 a3 a4 a5 g b0 b1 cI fi la B G pr) [.ref q, .int (nI ke)] (fun v w1 => v = some (.int (nI x - 1)) ∧ w1 = ppW q h a0 a1 a2 a3 a4 a5 g b0 b1 cI fi la B G pr) := by
  refine pq_mono (mX2_second l D cI q h a0 a1 a2 a3 a4 a5 g b0 b1 fi la B G pr N I.2.2.2.2.2.2.2.2.1 I.2.1 ke hE.1 hE.2.1 ((has_ex (by have := I.2.1; omega) I.2.2.1 hE.1 hE.2.1).mpr hE)) (fun v w1 hq => ?_)
  obtain ⟨rfl, rfl⟩ := hq
  exact ⟨by rw [hx], rfl⟩
theorem f_many (l : Launch) (D : va_G) (cI : ClassId) (q h a0 a1 a2 a3 a4 a5 g b0 b1 : Nat) {N : Nat} {hs cs : Nat → Nat} {vis tot cal : Nat} {fi la : Nat → Int32} {B : BK} {G : GK} {pr : Int32} (I : J N hs cs vis tot cal fi la B G pr) {ke : Nat} (hE : Ex N ke) {x : Nat} (hx : B.2.2.1 ke = nI x) : pq_M l yX2_many wsX2_many 7 121 0 0 D [(cI, .int)] pq_Ev (ppW q h a0 a1 a2 a3 a4 a5 g b0 b1 cI fi la B G pr) [.ref q, .int (nI ke)] (fun v w1 => v = some (.int (nI x)) ∧ w1 = ppW q h a0 a1 a2 a3 a4 a5 g b0 b1 cI fi la B G pr) := by
  refine pq_mono (mX2_many l D cI q h a0 a1 a2 a3 a4 a5 g b0 b1 fi la B G pr N I.2.2.2.2.2.2.2.2.1 I.2.1 ke hE.1 hE.2.1 ((has_ex (by have := I.2.1; omega) I.2.2.1 hE.1 hE.2.1).mpr hE)) (fun v w1 hq => ?_)
  obtain ⟨rfl, rfl⟩ := hq
  exact ⟨by rw [hx], rfl⟩
theorem f_noted (l : Launch) (D : va_G) (cI : ClassId) (q h a0 a1 a2 a3 a4 a5 g b0 b1 : Nat) {N : Nat} {hs cs : Nat → Nat} {vis tot cal : Nat} {fi la : Nat → Int32} {B : BK} {G : GK} {pr : Int32} (I : J N hs cs vis tot cal fi la B G pr) {ke : Nat} (hE : Ex N ke) {x : Nat} (hx : B.2.2.2.1 ke = nI x) : pq_M l yX2_noted wsX2_noted 7 121 0 0 D [(cI, .int)] pq_Ev (ppW q h a0 a1 a2 a3 a4 a5 g b0 b1 cI fi la B G pr) [.ref q, .int (nI ke)] (fun v w1 => v = some (.int (nI x)) ∧ w1 = ppW q h a0 a1 a2 a3 a4 a5 g b0 b1 cI fi la B G pr) := by
  refine pq_mono (mX2_noted l D cI q h a0 a1 a2 a3 a4 a5 g b0 b1 fi la B G pr N I.2.2.2.2.2.2.2.2.1 I.2.1 ke hE.1 hE.2.1 ((has_ex (by have := I.2.1; omega) I.2.2.1 hE.1 hE.2.1).mpr hE)) (fun v w1 hq => ?_)
  obtain ⟨rfl, rfl⟩ := hq
  exact ⟨by rw [hx], rfl⟩
theorem f_pile (l : Launch) (D : va_G) (cI : ClassId) (q h a0 a1 a2 a3 a4 a5 g b0 b1 : Nat) {N : Nat} {hs cs : Nat → Nat} {vis tot cal : Nat} {fi la : Nat → Int32} {B : BK} {G : GK} {pr : Int32} (I : J N hs cs vis tot cal fi la B G pr) {kx w0 : Nat} (hkx : kx < N) (hw1 : 1 ≤ w0) (hsum : hs kx + w0 ≤ 1000) : pq_M l yX2_pile wsX2_pile 13 302 0 0 D [(cI, .int)] pq_Ev (ppW q h a0 a1 a2 a3 a4 a5 g b0 b1 cI fi la B G pr) [.ref q, .int (nI kx), .int (nI w0)] (fun v w1 => ∃ (n : Nat) (fi2 la2 : Nat → Int32) (B2 : BK) (G2 : GK) (pr2 : Int32), 1 ≤ n ∧ n ≤ 7 ∧ v = some (.int (nI (hs kx + w0))) ∧ w1 = ppW q h a0 a1 a2 a3 a4 a5 g b0 b1 cI fi2 la2 B2 G2 pr2 ∧ J N (fun x => if x = kx then hs kx + w0 else hs x) (fun x => if x = kx then 0 else cs x) n (tot + n) (cal + 1) fi2 la2 B2 G2 pr2) := by
  refine pq_mono (mX2_pile l D cI q h a0 a1 a2 a3 a4 a5 g b0 b1 fi la B G pr N I.2.2.2.2.2.2.2.2.1 I.2.1 kx w0 hkx hw1 (by omega) (by
    rw [(I.2.2.2.2.2.2.1 kx (by have := I.2.1; omega)).2, nI_add]
    exact nI_le (b := 1000) hsum (by decide))) (fun v w1 hq => ?_)
  obtain ⟨rfl, rfl⟩ := hq
  obtain ⟨n, n1, n2, I2⟩ := j_pile I hkx hw1 hsum
  exact ⟨n, _, _, _, _, _, n1, n2, by rw [(I.2.2.2.2.2.2.1 kx (by have := I.2.1; omega)).2, nI_add], rfl, I2⟩
theorem f_lower (l : Launch) (D : va_G) (cI : ClassId) (q h a0 a1 a2 a3 a4 a5 g b0 b1 : Nat) {N : Nat} {hs cs : Nat → Nat} {vis tot cal : Nat} {fi la : Nat → Int32} {B : BK} {G : GK} {pr : Int32} (I : J N hs cs vis tot cal fi la B G pr) {kf kt c0 : Nat} (hft : kf ≤ kt) (htN : kt < N) (hc2 : c0 ≤ 1000) : pq_M l yX2_lower wsX2_lower 13 313 0 0 D [(cI, .int)] pq_Ev (ppW q h a0 a1 a2 a3 a4 a5 g b0 b1 cI fi la B G pr) [.ref q, .int (nI kf), .int (nI kt), .int (nI c0)] (fun v w1 => ∃ (n : Nat) (fi2 la2 : Nat → Int32) (B2 : BK) (G2 : GK) (pr2 : Int32), 1 ≤ n ∧ n ≤ 2 * N ∧ v = some (.int (nI (nSum hs kf c0 (kt + 1 - kf)))) ∧ pr2 = pr + nI (nSum hs kf c0 (kt + 1 - kf)) ∧ w1 = ppW q h a0 a1 a2 a3 a4 a5 g b0 b1 cI fi2 la2 B2 G2 pr2 ∧ J N (fun k => if kf ≤ k ∧ k ≤ kt then min (hs k) c0 else hs k) (fun k => if kf ≤ k ∧ k ≤ kt then (if cs k = 0 ∨ c0 + 1 < cs k then c0 + 1 else cs k) else cs k) n (tot + n) (cal + 1) fi2 la2 B2 G2 pr2) := by
  refine pq_mono (mX2_lower l D cI q h a0 a1 a2 a3 a4 a5 g b0 b1 fi la B G pr N I.2.2.2.2.2.2.2.2.1 I.2.1 kf kt c0 hft htN hc2) (fun v w1 hq => ?_)
  obtain ⟨rfl, rfl⟩ := hq
  obtain ⟨e, n, n1, n2, I2⟩ := j_lower I hft htN hc2
  exact ⟨n, _, _, _, _, _, n1, n2, by rw [e], rfl, by rw [e], I2⟩
theorem f_earth (l : Launch) (D : va_G) (cI : ClassId) (q h a0 a1 a2 a3 a4 a5 g b0 b1 : Nat) {N : Nat} {hs cs : Nat → Nat} {vis tot cal : Nat} {fi la : Nat → Int32} {B : BK} {G : GK} {pr : Int32} (I : J N hs cs vis tot cal fi la B G pr) {kf kt : Nat} (hft : kf ≤ kt) (htN : kt < N) : pq_M l yX2_earth wsX2_earth 13 293 0 0 D [(cI, .int)] pq_Ev (ppW q h a0 a1 a2 a3 a4 a5 g b0 b1 cI fi la B G pr) [.ref q, .int (nI kf), .int (nI kt)] (fun v w1 => ∃ (n : Nat) (fi2 la2 : Nat → Int32) (B2 : BK) (G2 : GK), 1 ≤ n ∧ n ≤ 2 * N ∧ v = some (.int (nI (nSum hs kf 0 (kt + 1 - kf)))) ∧ w1 = ppW q h a0 a1 a2 a3 a4 a5 g b0 b1 cI fi2 la2 B2 G2 pr ∧ J N hs cs n (tot + n) (cal + 1) fi2 la2 B2 G2 pr) := by
  refine pq_mono (mX2_earth l D cI q h a0 a1 a2 a3 a4 a5 g b0 b1 fi la B G pr N I.2.2.2.2.2.2.2.2.1 I.2.1 kf kt hft htN) (fun v w1 hq => ?_)
  obtain ⟨rfl, rfl⟩ := hq
  obtain ⟨e, n, n1, n2, I2⟩ := j_sum I hft htN
  exact ⟨n, _, _, _, _, n1, n2, by rw [e], rfl, I2⟩
theorem f_top (l : Launch) (D : va_G) (cI : ClassId) (q h a0 a1 a2 a3 a4 a5 g b0 b1 : Nat) {N : Nat} {hs cs : Nat → Nat} {vis tot cal : Nat} {fi la : Nat → Int32} {B : BK} {G : GK} {pr : Int32} (I : J N hs cs vis tot cal fi la B G pr) {kf kt : Nat} (hft : kf ≤ kt) (htN : kt < N) : pq_M l yX2_top wsX2_top 13 293 0 0 D [(cI, .int)] pq_Ev (ppW q h a0 a1 a2 a3 a4 a5 g b0 b1 cI fi la B G pr) [.ref q, .int (nI kf), .int (nI kt)] (fun v w1 => ∃ (n : Nat) (fi2 la2 : Nat → Int32) (B2 : BK) (G2 : GK), 1 ≤ n ∧ n ≤ 2 * N ∧ v = some (.int (nI (nMax hs kf (kt + 1 - kf)))) ∧ w1 = ppW q h a0 a1 a2 a3 a4 a5 g b0 b1 cI fi2 la2 B2 G2 pr ∧ J N hs cs n (tot + n) (cal + 1) fi2 la2 B2 G2 pr) := by
  refine pq_mono (mX2_top l D cI q h a0 a1 a2 a3 a4 a5 g b0 b1 fi la B G pr N I.2.2.2.2.2.2.2.2.1 I.2.1 kf kt hft htN) (fun v w1 hq => ?_)
  obtain ⟨rfl, rfl⟩ := hq
  obtain ⟨e, n, n1, n2, I2⟩ := j_top I hft htN
  exact ⟨n, _, _, _, _, n1, n2, by rw [e], rfl, I2⟩
theorem f_layOut (l : Launch) (D : va_G) (cI : ClassId) (q h a0 a1 a2 a3 a4 a5 g b0 b1 : Nat) {N : Nat} {fi la : Nat → Int32} {B : BK} {G : GK} {pr : Int32} (hN : G.2.2.1 = nI N) (hN2 : N ≤ 64) {n0 v0 : Nat} (hn1 : 1 ≤ n0) (hn2 : n0 ≤ 64) (hv2 : v0 ≤ 1000) : pq_M l yX2_layOut wsX2_layOut 7 122 0 0 D [(cI, .int)] pq_Ev (ppW q h a0 a1 a2 a3 a4 a5 g b0 b1 cI fi la B G pr) [.ref q, .int (nI n0), .int (nI v0)] (fun v w1 => ∃ (fi2 la2 : Nat → Int32) (B2 : BK) (G2 : GK), v = some (.int (nI (n0 * v0))) ∧ w1 = ppW q h a0 a1 a2 a3 a4 a5 g b0 b1 cI fi2 la2 B2 G2 0 ∧ bLags la2 B2 126 = 0 ∧ J n0 (fun k => if k < n0 then v0 else 0) (fun _ => 0) 0 0 0 fi2 la2 B2 G2 0) := by
  refine pq_mono (mX2_layOut l D cI q h a0 a1 a2 a3 a4 a5 g b0 b1 fi la B G pr N hN hN2 n0 v0 hn1 hn2 hv2) (fun v w1 hq => ?_)
  obtain ⟨rfl, rfl⟩ := hq
  obtain ⟨I2, hz⟩ := j_new hn1 hn2 hv2 fi la B G.1 G.2.1
  exact ⟨_, _, _, _, rfl, rfl, hz, I2⟩
theorem f_lagging0 (l : Launch) (D : va_G) (cI : ClassId) (q h a0 a1 a2 a3 a4 a5 g b0 b1 : Nat) {N : Nat} {hs cs : Nat → Nat} {vis tot cal : Nat} {fi la : Nat → Int32} {B : BK} {G : GK} {pr : Int32} (I : J N hs cs vis tot cal fi la B G pr) (hz : bLags la B 126 = 0) : pq_M l yX2_lagging wsX2_lagging 2 43 0 0 D [(cI, .int)] pq_Ev (ppW q h a0 a1 a2 a3 a4 a5 g b0 b1 cI fi la B G pr) [.ref q] (fun v w1 => v = some (.int 0) ∧ w1 = ppW q h a0 a1 a2 a3 a4 a5 g b0 b1 cI fi la B G pr) := by
  refine pq_mono (mX2_lagging l D cI q h a0 a1 a2 a3 a4 a5 g b0 b1 fi la B G pr N I.2.2.2.2.2.2.2.2.1 I.2.1) (fun v w1 hq => ?_)
  obtain ⟨rfl, rfl⟩ := hq
  exact ⟨by rw [hz], rfl⟩
set_option maxHeartbeats 4000000 in
set_option maxRecDepth 100000 in
theorem f_meanVisits (l : Launch) (D : va_G) (cI : ClassId) (q h a0 a1 a2 a3 a4 a5 g b0 b1 : Nat) {N : Nat} {hs cs : Nat → Nat} {vis tot cal : Nat} {fi la : Nat → Int32} {B : BK} {G : GK} {pr : Int32} (I : J N hs cs vis tot cal fi la B G pr) (ht2 : tot < 2 ^ 31) : pq_M l yX2_meanVisits wsX2_meanVisits 0 0 0 0 D [(cI, .int)] pq_Ev (ppW q h a0 a1 a2 a3 a4 a5 g b0 b1 cI fi la B G pr) [.ref q] (fun v w1 => ∃ r, v = some (.double r) ∧ Mv tot cal r ∧ w1 = ppW q h a0 a1 a2 a3 a4 a5 g b0 b1 cI fi la B G pr) := by
  obtain ⟨i1, i2, i3, i4, i5, i6, i7, i8, i9, i10, i11, i12, i13, i14⟩ := I
  refine pq_enter (cc := cX2_meanVisits) (maxL := 1) (ret := (some .double)) (by decide) rfl (Nat.le_of_ble_eq_true rfl) ?_
  intro p ev s m args below meth cd A ls Q H locs hx hb hr hml hts hown hlocks hnm hK hP hD hS hA hE hl hQ
  have hl : lv_has ls 1 [(0, .ref q)] := hl
  have hP : va_P D vwCl [(q, .inr (2, [.ref h, .ref g, .int pr])), (h, .inr (0, [.ref a0, .ref a1, .ref a2, .ref a3, .ref a4, .ref a5, .int B.2.2.2.2.1, .int B.2.2.2.2.2.1, .int B.2.2.2.2.2.2])), (a0, .inl (cI, 128, .inl fi)), (a1, .inl (cI, 128, .inl la)), (a2, .inl (cI, 128, .inl B.1)), (a3, .inl (cI, 128, .inl B.2.1)), (a4, .inl (cI, 128, .inl B.2.2.1)), (a5, .inl (cI, 128, .inl B.2.2.2.1)), (g, .inr (1, [.ref b0, .ref b1, .int G.2.2.1, .int G.2.2.2])), (b0, .inl (cI, 64, .inl G.1)), (b1, .inl (cI, 64, .inl G.2.1))] H := hP
  have hD : va_D A [(q, .inr (2, [.ref h, .ref g, .int pr])), (h, .inr (0, [.ref a0, .ref a1, .ref a2, .ref a3, .ref a4, .ref a5, .int B.2.2.2.2.1, .int B.2.2.2.2.2.1, .int B.2.2.2.2.2.2])), (a0, .inl (cI, 128, .inl fi)), (a1, .inl (cI, 128, .inl la)), (a2, .inl (cI, 128, .inl B.1)), (a3, .inl (cI, 128, .inl B.2.1)), (a4, .inl (cI, 128, .inl B.2.2.1)), (a5, .inl (cI, 128, .inl B.2.2.2.1)), (g, .inr (1, [.ref b0, .ref b1, .int G.2.2.1, .int G.2.2.2])), (b0, .inl (cI, 64, .inl G.1)), (b1, .inl (cI, 64, .inl G.2.1))] := hD
  have hin_X2 : ∀ w ∈ wsX20, w ∈ wsX2_meanVisits := by decide +kernel
  have hf_12 := hts (.fieldLink RX2 12 "PressedPlains" "book" "LPressedPlains$Book;") (by decide +kernel)
  have hin_X0 : ∀ w ∈ wsX00, w ∈ wsX2_meanVisits := by decide +kernel
  have hn_123 : (Cond.fieldLinkNest RX2 123 "PressedPlains$Book" "totalVisits" "I" "PressedPlains").before args s = true := va_Nw.use rfl (hE _ (List.mem_of_getElem? (i := 8) rfl))
  have hn_129 : (Cond.fieldLinkNest RX2 129 "PressedPlains$Book" "calls" "I" "PressedPlains").before args s = true := va_Nw.use rfl (hE _ (List.mem_of_getElem? (i := 9) rfl))
  refine lv_aload_n hx hb dX2_meanVisits_0 rfl (lv_at hl 0 rfl) ?_
  refine va_get (D := D) (ci := 2) (v := .ref h) (C := RX2) (T := TX2) (N := 3) hx hb hts hin_X2 hown hK hP 0 rfl rfl 0 (by decide) hf_12 (fun _ h9 => h9) rfl dX2_meanVisits_1 ?_
  refine va_getN (D := D) (ci := 0) (v := .int B.2.2.2.2.2.2) (C := RX0) (T := TX0) (N := 9) hx hb hts hin_X0 hown hK hP 1 rfl rfl 8 (by decide) hn_129 (fun _ h9 => h9) rfl dX2_meanVisits_4 ?_
  refine lv_if_ne (tgt := 12) hx hb dX2_meanVisits_7 (by decide) (fun hc => ?_) (fun hc => ?_)
  · have hc1 : 1 ≤ cal ∧ cal ≤ tot := by
      rcases i14 with z | z
      · rw [i13, z.1] at hc
        exact absurd rfl hc
      · exact z
    obtain ⟨m1, m2⟩ := mean_pos hc1.1 (show cal < 2 ^ 31 by omega) (show 1 ≤ tot by omega) ht2
    refine lv_aload_n hx hb dX2_meanVisits_12 rfl (lv_at hl 0 rfl) ?_
    refine va_get (D := D) (ci := 2) (v := .ref h) (C := RX2) (T := TX2) (N := 3) hx hb hts hin_X2 hown hK hP 0 rfl rfl 0 (by decide) hf_12 (fun _ h9 => h9) rfl dX2_meanVisits_13 ?_
    refine va_getN (D := D) (ci := 0) (v := .int B.2.2.2.2.2.1) (C := RX0) (T := TX0) (N := 9) hx hb hts hin_X0 hown hK hP 1 rfl rfl 7 (by decide) hn_123 (fun _ h9 => h9) rfl dX2_meanVisits_16 ?_
    refine pq_top (nI tot) i12 ?_
    refine lv_i2d hx hb dX2_meanVisits_19 ?_
    refine lv_aload_n hx hb dX2_meanVisits_20 rfl (lv_at hl 0 rfl) ?_
    refine va_get (D := D) (ci := 2) (v := .ref h) (C := RX2) (T := TX2) (N := 3) hx hb hts hin_X2 hown hK hP 0 rfl rfl 0 (by decide) hf_12 (fun _ h9 => h9) rfl dX2_meanVisits_21 ?_
    refine va_getN (D := D) (ci := 0) (v := .int B.2.2.2.2.2.2) (C := RX0) (T := TX0) (N := 9) hx hb hts hin_X0 hown hK hP 1 rfl rfl 8 (by decide) hn_129 (fun _ h9 => h9) rfl dX2_meanVisits_24 ?_
    refine pq_top (nI cal) i13 ?_
    refine lv_i2d hx hb dX2_meanVisits_27 ?_
    refine lv_ddiv hx hb dX2_meanVisits_28 m1 ?_
    exact pq_dret0 hQ hx hb hr hlocks hK hS hP hD dX2_meanVisits_29 (by omega) (by omega) ⟨_, rfl, Or.inr ⟨hc1.1, m2⟩, rfl⟩
  · refine lv_dconst0 hx hb dX2_meanVisits_10 ?_
    have hc0 : cal = 0 := by
      rcases i14 with z | z
      · exact z.1
      · have h2 : nI cal = 0 := by rw [← i13]; exact hc
        exact absurd h2 (nI_ne0 (by omega) (by omega))
    exact pq_dret0 hQ hx hb hr hlocks hK hS hP hD dX2_meanVisits_11 (by omega) (by omega) ⟨_, rfl, Or.inl ⟨hc0, rfl⟩, rfl⟩
