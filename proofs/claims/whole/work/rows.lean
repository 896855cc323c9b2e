section
-- ===== PART A: goes FIRST, ahead of the names: the tables' words, and 'selects' of the private methods out of them =====
/-- a private method of a class that the tables say can be made, by its rows of tables_1 -/
def lw_okq (q : MethodName × Nat) : Prop := (q.1.cls ≠ "java/lang/invoke/MethodHandle" ∧ q.1.cls ≠ "java/lang/invoke/VarHandle") ∧ Cond.instantiable q.1.cls q.2 ∈ tables_1 ∧ Cond.privateMethod q.1 ∈ tables_1 ∧ Cond.instanceMethod q.1 ∈ tables_1
theorem lw_p0 : lw_okq (⟨"PressedPlains$Book", "setSpan", "(III)V"⟩, 9) := ⟨⟨by decide +kernel, by decide +kernel⟩, List.mem_of_getElem? (i := 22) (by decide +kernel), List.mem_of_getElem? (i := 93) (by decide +kernel), List.mem_of_getElem? (i := 94) (by decide +kernel)⟩
theorem lw_p1 : lw_okq (⟨"PressedPlains$Book", "splitSpan", "(I)V"⟩, 9) := ⟨⟨by decide +kernel, by decide +kernel⟩, List.mem_of_getElem? (i := 22) (by decide +kernel), List.mem_of_getElem? (i := 97) (by decide +kernel), List.mem_of_getElem? (i := 98) (by decide +kernel)⟩
theorem lw_p2 : lw_okq (⟨"PressedPlains$Book", "hasParts", "(I)Z"⟩, 9) := ⟨⟨by decide +kernel, by decide +kernel⟩, List.mem_of_getElem? (i := 22) (by decide +kernel), List.mem_of_getElem? (i := 101) (by decide +kernel), List.mem_of_getElem? (i := 102) (by decide +kernel)⟩
theorem lw_p3 : lw_okq (⟨"PressedPlains$Book", "lags", "(I)Z"⟩, 9) := ⟨⟨by decide +kernel, by decide +kernel⟩, List.mem_of_getElem? (i := 22) (by decide +kernel), List.mem_of_getElem? (i := 135) (by decide +kernel), List.mem_of_getElem? (i := 136) (by decide +kernel)⟩
theorem lw_p4 : lw_okq (⟨"java/lang/Throwable", "fillInStackTrace", "(I)Ljava/lang/Throwable;"⟩, 6) := ⟨⟨by decide +kernel, by decide +kernel⟩, List.mem_of_getElem? (i := 216) (by decide +kernel), List.mem_of_getElem? (i := 214) (by decide +kernel), List.mem_of_getElem? (i := 215) (by decide +kernel)⟩
theorem lw_p5 : lw_okq (⟨"PressedPlains", "requireColumn", "(I)V"⟩, 3) := ⟨⟨by decide +kernel, by decide +kernel⟩, List.mem_of_getElem? (i := 14) (by decide +kernel), List.mem_of_getElem? (i := 255) (by decide +kernel), List.mem_of_getElem? (i := 256) (by decide +kernel)⟩
theorem lw_p6 : lw_okq (⟨"PressedPlains$Book", "beginCall", "()V"⟩, 9) := ⟨⟨by decide +kernel, by decide +kernel⟩, List.mem_of_getElem? (i := 22) (by decide +kernel), List.mem_of_getElem? (i := 299) (by decide +kernel), List.mem_of_getElem? (i := 300) (by decide +kernel)⟩
theorem lw_p7 : lw_okq (⟨"PressedPlains$Book", "raiseFrom", "(III)V"⟩, 9) := ⟨⟨by decide +kernel, by decide +kernel⟩, List.mem_of_getElem? (i := 22) (by decide +kernel), List.mem_of_getElem? (i := 303) (by decide +kernel), List.mem_of_getElem? (i := 304) (by decide +kernel)⟩
theorem lw_p8 : lw_okq (⟨"PressedPlains$Book", "countVisit", "()V"⟩, 9) := ⟨⟨by decide +kernel, by decide +kernel⟩, List.mem_of_getElem? (i := 22) (by decide +kernel), List.mem_of_getElem? (i := 307) (by decide +kernel), List.mem_of_getElem? (i := 308) (by decide +kernel)⟩
theorem lw_p9 : lw_okq (⟨"PressedPlains$Book", "catchUpBelow", "(I)V"⟩, 9) := ⟨⟨by decide +kernel, by decide +kernel⟩, List.mem_of_getElem? (i := 22) (by decide +kernel), List.mem_of_getElem? (i := 311) (by decide +kernel), List.mem_of_getElem? (i := 312) (by decide +kernel)⟩
theorem lw_p10 : lw_okq (⟨"PressedPlains$Book", "catchUp", "(I)V"⟩, 9) := ⟨⟨by decide +kernel, by decide +kernel⟩, List.mem_of_getElem? (i := 22) (by decide +kernel), List.mem_of_getElem? (i := 315) (by decide +kernel), List.mem_of_getElem? (i := 316) (by decide +kernel)⟩
theorem lw_p11 : lw_okq (⟨"PressedPlains$Book", "pressDown", "(II)V"⟩, 9) := ⟨⟨by decide +kernel, by decide +kernel⟩, List.mem_of_getElem? (i := 22) (by decide +kernel), List.mem_of_getElem? (i := 319) (by decide +kernel), List.mem_of_getElem? (i := 320) (by decide +kernel)⟩
theorem lw_p12 : lw_okq (⟨"PressedPlains$Book", "tellAnew", "(I)V"⟩, 9) := ⟨⟨by decide +kernel, by decide +kernel⟩, List.mem_of_getElem? (i := 22) (by decide +kernel), List.mem_of_getElem? (i := 323) (by decide +kernel), List.mem_of_getElem? (i := 324) (by decide +kernel)⟩
theorem lw_p13 : lw_okq (⟨"PressedPlains$Book", "manyAt", "(II)I"⟩, 9) := ⟨⟨by decide +kernel, by decide +kernel⟩, List.mem_of_getElem? (i := 22) (by decide +kernel), List.mem_of_getElem? (i := 328) (by decide +kernel), List.mem_of_getElem? (i := 329) (by decide +kernel)⟩
theorem lw_p14 : lw_okq (⟨"PressedPlains$Book", "greatestLessThan", "(II)I"⟩, 9) := ⟨⟨by decide +kernel, by decide +kernel⟩, List.mem_of_getElem? (i := 22) (by decide +kernel), List.mem_of_getElem? (i := 332) (by decide +kernel), List.mem_of_getElem? (i := 333) (by decide +kernel)⟩
theorem lw_p15 : lw_okq (⟨"PressedPlains", "requireSpan", "(II)V"⟩, 3) := ⟨⟨by decide +kernel, by decide +kernel⟩, List.mem_of_getElem? (i := 14) (by decide +kernel), List.mem_of_getElem? (i := 343) (by decide +kernel), List.mem_of_getElem? (i := 344) (by decide +kernel)⟩
def lw_privs_1 : List (MethodName × Nat) := [(⟨"PressedPlains$Book", "setSpan", "(III)V"⟩, 9), (⟨"PressedPlains$Book", "splitSpan", "(I)V"⟩, 9), (⟨"PressedPlains$Book", "hasParts", "(I)Z"⟩, 9), (⟨"PressedPlains$Book", "lags", "(I)Z"⟩, 9), (⟨"java/lang/Throwable", "fillInStackTrace", "(I)Ljava/lang/Throwable;"⟩, 6), (⟨"PressedPlains", "requireColumn", "(I)V"⟩, 3), (⟨"PressedPlains$Book", "beginCall", "()V"⟩, 9), (⟨"PressedPlains$Book", "raiseFrom", "(III)V"⟩, 9), (⟨"PressedPlains$Book", "countVisit", "()V"⟩, 9), (⟨"PressedPlains$Book", "catchUpBelow", "(I)V"⟩, 9), (⟨"PressedPlains$Book", "catchUp", "(I)V"⟩, 9), (⟨"PressedPlains$Book", "pressDown", "(II)V"⟩, 9), (⟨"PressedPlains$Book", "tellAnew", "(I)V"⟩, 9), (⟨"PressedPlains$Book", "manyAt", "(II)I"⟩, 9), (⟨"PressedPlains$Book", "greatestLessThan", "(II)I"⟩, 9), (⟨"PressedPlains", "requireSpan", "(II)V"⟩, 3)]
theorem lw_r1 : ∀ q ∈ lw_privs_1, lw_okq q := List.forall_mem_cons.mpr ⟨lw_p0, List.forall_mem_cons.mpr ⟨lw_p1, List.forall_mem_cons.mpr ⟨lw_p2, List.forall_mem_cons.mpr ⟨lw_p3, List.forall_mem_cons.mpr ⟨lw_p4, List.forall_mem_cons.mpr ⟨lw_p5, List.forall_mem_cons.mpr ⟨lw_p6, List.forall_mem_cons.mpr ⟨lw_p7, List.forall_mem_cons.mpr ⟨lw_p8, List.forall_mem_cons.mpr ⟨lw_p9, List.forall_mem_cons.mpr ⟨lw_p10, List.forall_mem_cons.mpr ⟨lw_p11, List.forall_mem_cons.mpr ⟨lw_p12, List.forall_mem_cons.mpr ⟨lw_p13, List.forall_mem_cons.mpr ⟨lw_p14, List.forall_mem_cons.mpr ⟨lw_p15, fun _ h => absurd h List.not_mem_nil⟩⟩⟩⟩⟩⟩⟩⟩⟩⟩⟩⟩⟩⟩⟩⟩
theorem lw_p16 : lw_okq (⟨"PressedPlains$Book", "pressFrom", "(IIII)V"⟩, 9) := ⟨⟨by decide +kernel, by decide +kernel⟩, List.mem_of_getElem? (i := 22) (by decide +kernel), List.mem_of_getElem? (i := 352) (by decide +kernel), List.mem_of_getElem? (i := 353) (by decide +kernel)⟩
theorem lw_p17 : lw_okq (⟨"PressedPlains$Book", "isApart", "(III)Z"⟩, 9) := ⟨⟨by decide +kernel, by decide +kernel⟩, List.mem_of_getElem? (i := 22) (by decide +kernel), List.mem_of_getElem? (i := 356) (by decide +kernel), List.mem_of_getElem? (i := 357) (by decide +kernel)⟩
theorem lw_p18 : lw_okq (⟨"PressedPlains$Book", "isWithin", "(III)Z"⟩, 9) := ⟨⟨by decide +kernel, by decide +kernel⟩, List.mem_of_getElem? (i := 22) (by decide +kernel), List.mem_of_getElem? (i := 360) (by decide +kernel), List.mem_of_getElem? (i := 361) (by decide +kernel)⟩
theorem lw_p19 : lw_okq (⟨"PressedPlains$Book", "sumFrom", "(III)I"⟩, 9) := ⟨⟨by decide +kernel, by decide +kernel⟩, List.mem_of_getElem? (i := 22) (by decide +kernel), List.mem_of_getElem? (i := 382) (by decide +kernel), List.mem_of_getElem? (i := 383) (by decide +kernel)⟩
theorem lw_p20 : lw_okq (⟨"PressedPlains$Book", "greatestFrom", "(III)I"⟩, 9) := ⟨⟨by decide +kernel, by decide +kernel⟩, List.mem_of_getElem? (i := 22) (by decide +kernel), List.mem_of_getElem? (i := 404) (by decide +kernel), List.mem_of_getElem? (i := 405) (by decide +kernel)⟩
theorem lw_p21 : lw_okq (⟨"PressedPlains", "requireEntry", "(I)V"⟩, 3) := ⟨⟨by decide +kernel, by decide +kernel⟩, List.mem_of_getElem? (i := 14) (by decide +kernel), List.mem_of_getElem? (i := 479) (by decide +kernel), List.mem_of_getElem? (i := 480) (by decide +kernel)⟩
theorem lw_p22 : lw_okq (⟨"PressedPlainsModel", "lays", "(II)V"⟩, 18) := ⟨⟨by decide +kernel, by decide +kernel⟩, List.mem_of_getElem? (i := 513) (by decide +kernel), List.mem_of_getElem? (i := 519) (by decide +kernel), List.mem_of_getElem? (i := 520) (by decide +kernel)⟩
theorem lw_p23 : lw_okq (⟨"PressedPlainsModel", "isFine", "(I)Z"⟩, 18) := ⟨⟨by decide +kernel, by decide +kernel⟩, List.mem_of_getElem? (i := 513) (by decide +kernel), List.mem_of_getElem? (i := 589) (by decide +kernel), List.mem_of_getElem? (i := 590) (by decide +kernel)⟩
theorem lw_p24 : lw_okq (⟨"PressedPlainsModel", "isColumn", "(I)Z"⟩, 18) := ⟨⟨by decide +kernel, by decide +kernel⟩, List.mem_of_getElem? (i := 513) (by decide +kernel), List.mem_of_getElem? (i := 597) (by decide +kernel), List.mem_of_getElem? (i := 598) (by decide +kernel)⟩
theorem lw_p25 : lw_okq (⟨"PressedPlainsModel", "begins", "()V"⟩, 18) := ⟨⟨by decide +kernel, by decide +kernel⟩, List.mem_of_getElem? (i := 513) (by decide +kernel), List.mem_of_getElem? (i := 601) (by decide +kernel), List.mem_of_getElem? (i := 602) (by decide +kernel)⟩
theorem lw_p26 : lw_okq (⟨"PressedPlainsModel", "visited", "()V"⟩, 18) := ⟨⟨by decide +kernel, by decide +kernel⟩, List.mem_of_getElem? (i := 513) (by decide +kernel), List.mem_of_getElem? (i := 605) (by decide +kernel), List.mem_of_getElem? (i := 606) (by decide +kernel)⟩
theorem lw_p27 : lw_okq (⟨"PressedPlainsModel", "catchUp", "(I)V"⟩, 18) := ⟨⟨by decide +kernel, by decide +kernel⟩, List.mem_of_getElem? (i := 513) (by decide +kernel), List.mem_of_getElem? (i := 609) (by decide +kernel), List.mem_of_getElem? (i := 610) (by decide +kernel)⟩
theorem lw_p28 : lw_okq (⟨"PressedPlainsModel", "press", "(II)V"⟩, 18) := ⟨⟨by decide +kernel, by decide +kernel⟩, List.mem_of_getElem? (i := 513) (by decide +kernel), List.mem_of_getElem? (i := 613) (by decide +kernel), List.mem_of_getElem? (i := 614) (by decide +kernel)⟩
theorem lw_p29 : lw_okq (⟨"PressedPlainsModel", "tell", "(I)V"⟩, 18) := ⟨⟨by decide +kernel, by decide +kernel⟩, List.mem_of_getElem? (i := 513) (by decide +kernel), List.mem_of_getElem? (i := 617) (by decide +kernel), List.mem_of_getElem? (i := 618) (by decide +kernel)⟩
theorem lw_p30 : lw_okq (⟨"PressedPlainsModel", "isRange", "(II)Z"⟩, 18) := ⟨⟨by decide +kernel, by decide +kernel⟩, List.mem_of_getElem? (i := 513) (by decide +kernel), List.mem_of_getElem? (i := 625) (by decide +kernel), List.mem_of_getElem? (i := 626) (by decide +kernel)⟩
theorem lw_p31 : lw_okq (⟨"PressedPlainsModel", "goesBelow", "(IZ)V"⟩, 18) := ⟨⟨by decide +kernel, by decide +kernel⟩, List.mem_of_getElem? (i := 513) (by decide +kernel), List.mem_of_getElem? (i := 629) (by decide +kernel), List.mem_of_getElem? (i := 630) (by decide +kernel)⟩
def lw_privs_2 : List (MethodName × Nat) := [(⟨"PressedPlains$Book", "pressFrom", "(IIII)V"⟩, 9), (⟨"PressedPlains$Book", "isApart", "(III)Z"⟩, 9), (⟨"PressedPlains$Book", "isWithin", "(III)Z"⟩, 9), (⟨"PressedPlains$Book", "sumFrom", "(III)I"⟩, 9), (⟨"PressedPlains$Book", "greatestFrom", "(III)I"⟩, 9), (⟨"PressedPlains", "requireEntry", "(I)V"⟩, 3), (⟨"PressedPlainsModel", "lays", "(II)V"⟩, 18), (⟨"PressedPlainsModel", "isFine", "(I)Z"⟩, 18), (⟨"PressedPlainsModel", "isColumn", "(I)Z"⟩, 18), (⟨"PressedPlainsModel", "begins", "()V"⟩, 18), (⟨"PressedPlainsModel", "visited", "()V"⟩, 18), (⟨"PressedPlainsModel", "catchUp", "(I)V"⟩, 18), (⟨"PressedPlainsModel", "press", "(II)V"⟩, 18), (⟨"PressedPlainsModel", "tell", "(I)V"⟩, 18), (⟨"PressedPlainsModel", "isRange", "(II)Z"⟩, 18), (⟨"PressedPlainsModel", "goesBelow", "(IZ)V"⟩, 18)]
theorem lw_r2 : ∀ q ∈ lw_privs_2, lw_okq q := List.forall_mem_cons.mpr ⟨lw_p16, List.forall_mem_cons.mpr ⟨lw_p17, List.forall_mem_cons.mpr ⟨lw_p18, List.forall_mem_cons.mpr ⟨lw_p19, List.forall_mem_cons.mpr ⟨lw_p20, List.forall_mem_cons.mpr ⟨lw_p21, List.forall_mem_cons.mpr ⟨lw_p22, List.forall_mem_cons.mpr ⟨lw_p23, List.forall_mem_cons.mpr ⟨lw_p24, List.forall_mem_cons.mpr ⟨lw_p25, List.forall_mem_cons.mpr ⟨lw_p26, List.forall_mem_cons.mpr ⟨lw_p27, List.forall_mem_cons.mpr ⟨lw_p28, List.forall_mem_cons.mpr ⟨lw_p29, List.forall_mem_cons.mpr ⟨lw_p30, List.forall_mem_cons.mpr ⟨lw_p31, fun _ h => absurd h List.not_mem_nil⟩⟩⟩⟩⟩⟩⟩⟩⟩⟩⟩⟩⟩⟩⟩⟩
theorem lw_p32 : lw_okq (⟨"PressedPlainsModel", "presses", "(III)I"⟩, 18) := ⟨⟨by decide +kernel, by decide +kernel⟩, List.mem_of_getElem? (i := 513) (by decide +kernel), List.mem_of_getElem? (i := 633) (by decide +kernel), List.mem_of_getElem? (i := 634) (by decide +kernel)⟩
theorem lw_p33 : lw_okq (⟨"PressedPlainsModel", "asks", "(IIZ)I"⟩, 18) := ⟨⟨by decide +kernel, by decide +kernel⟩, List.mem_of_getElem? (i := 513) (by decide +kernel), List.mem_of_getElem? (i := 641) (by decide +kernel), List.mem_of_getElem? (i := 642) (by decide +kernel)⟩
theorem lw_p34 : lw_okq (⟨"PressedPlainsModel", "isEntry", "(I)Z"⟩, 18) := ⟨⟨by decide +kernel, by decide +kernel⟩, List.mem_of_getElem? (i := 513) (by decide +kernel), List.mem_of_getElem? (i := 682) (by decide +kernel), List.mem_of_getElem? (i := 683) (by decide +kernel)⟩
def lw_privs_3 : List (MethodName × Nat) := [(⟨"PressedPlainsModel", "presses", "(III)I"⟩, 18), (⟨"PressedPlainsModel", "asks", "(IIZ)I"⟩, 18), (⟨"PressedPlainsModel", "isEntry", "(I)Z"⟩, 18)]
theorem lw_r3 : ∀ q ∈ lw_privs_3, lw_okq q := List.forall_mem_cons.mpr ⟨lw_p32, List.forall_mem_cons.mpr ⟨lw_p33, List.forall_mem_cons.mpr ⟨lw_p34, fun _ h => absurd h List.not_mem_nil⟩⟩⟩
def lw_privs : List (MethodName × Nat) := lw_privs_1 ++ (lw_privs_2 ++ (lw_privs_3))
def lw_tbl : List Cond := k2_sels lw_privs ++ tables_1
theorem lw_privs_ok : ∀ q ∈ lw_privs, lw_okq q := by
  show ∀ q ∈ lw_privs_1 ++ (lw_privs_2 ++ (lw_privs_3)), lw_okq q
  exact List.forall_mem_append.mpr ⟨lw_r1, List.forall_mem_append.mpr ⟨lw_r2, lw_r3⟩⟩
/-- the streams that the claim lets the run draw from -/
abbrev lw_cs : List Choice := [Jvm.Choice.named "NaN.bits"]
theorem lw_bits : nanBits ∈ lw_cs := by first | decide | exact List.mem_cons_self | simp [lw_cs, nanBits]
-- ===== end of PART A; then your names; then what follows =====
end
section
/-! ===== BEGIN words of one list among another's, by their places ===== -/
theorem goodIn_r {big : List Cond} (ws : List Cond) (ps : List Nat) (hp : ws = ps.filterMap (fun i => big[i]?)) (h : ws.all goodWord = true) : GoodIn big ws := by
  intro w hw
  have h1 := List.all_eq_true.mp h w hw
  rw [hp] at hw
  obtain ⟨i, -, hi⟩ := List.mem_filterMap.mp hw
  have hm : w ∈ big := by first | exact List.mem_of_getElem? hi | exact List.getElem?_mem hi
  exact ⟨hm, good_of_word h1⟩
theorem goodIn_app {big a b : List Cond} (ha : GoodIn big a) (hb : GoodIn big b) : GoodIn big (a ++ b) := fun w h => (List.mem_append.mp h).elim (ha w) (hb w)
theorem goodIn_ca {big a b : List Cond} {c : Cond} (ha : GoodIn big (c :: a)) (hb : GoodIn big b) : GoodIn big (c :: (a ++ b)) := fun w h => (List.mem_cons.mp h).elim (fun e => ha w (List.mem_cons.mpr (Or.inl e))) (fun h => (List.mem_append.mp h).elim (fun h => ha w (List.mem_cons.mpr (Or.inr h))) (hb w))
theorem goodIn_sub {big ws : List Cond} (hm : ∀ w ∈ ws, w ∈ big) (h : ws.all goodWord = true) : GoodIn big ws := fun w hw => ⟨hm w hw, good_of_word (List.all_eq_true.mp h w hw)⟩
/-! ===== END ===== -/

/-! ===== BEGIN exceptions that leave a method, and their catching by the caller (launches without stack traces) ===== -/
section VXA
/-! The laws vx_back, vx_callV, vx_callS, vx_callSW, vx_throw0, vx_throwS follow proofs of the library, with one case more: JvmDerived/Free/Laws.lean (Back.of_free), Shelf42/LK1.lean (callV, callS), Shelf/KitTraced.lean (throwNew0V, throwNewS). -/
/-- where a method has thrown q: the class by its name, the cell, what was written, the world -/
def vx_T (XC : String → State → State → Prop) (st : State) (q : Addr) (t : State) (mc ms : Nat) (free : Addr → Prop) : Prop :=
  ∃ (E : String) (ce : Cell) (L : List Loc), XC E st t ∧ t.heap[q]? = some ce ∧ ce.vm = .none ∧ st.vm.findClass E = some ce.cls ∧ st.WarmedH t.vm ∧ st.sameButNew ({ t with vm := st.vm } : State) L mc ms ∧ ∀ z ∈ L, free z.base
def vx_Q (Qc : Array Value → State → Outcome → State → Prop) (XC : String → State → State → Prop) (mc ms : Nat) (free : Addr → Prop) : Array Value → State → Outcome → State → Prop := fun a st o t =>
  (Qc a st o t ∧ ∃ L, FrameEnd st o t L mc ms ∧ ∀ q ∈ L, free q.base) ∨ ∃ q, o = .threw q ∧ vx_T XC st q t mc ms free
/-- a callee that returns or throws -/
def vx_Met (l : Launch) (y : MethodName) (ws : List Cond) (rm : Room) (Pc : Array Value → State → Prop) (Qc : Array Value → State → Outcome → State → Prop) (XC : String → State → State → Prop) (mc ms : Nat) (free : Addr → Prop) : Prop :=
  MetFree l y (headSpec ws rm) Pc (fun _ _ _ _ _ => True) (vx_Q Qc XC mc ms free)
def vx_Post (XC : String → State → State → Prop) (mc ms : Nat) (free : Addr → Prop) : Pt → Array Value → Addr → Pt → Prop := fun A a q B =>
  ∃ (g : JFrame) (mk : MethodId) (t : State) (L : List Loc) (E : String) (ce : Cell), B.U.heap = t.heap ∧ B.U.vm = t.vm ∧ XC E (A.U.calling g mk a) t ∧ t.heap[q]? = some ce ∧ ce.vm = .none ∧ A.U.vm.findClass E = some ce.cls ∧ B.locs = A.locs ++ L ∧ (∀ z ∈ L, free z.base) ∧ B.cells = A.cells + mc ∧ B.slots = A.slots + ms
def vx_Back (l : Launch) (R : Room) (p : Program) (e : Env) (below : List Frame) (s : State) (sargs : Array Value) (y : MethodName) (len W9 : Nat)
    (Pre : Pt → Array Value → Prop) (Post : Pt → Array Value → Option Value → Pt → Prop) (PostX : Pt → Array Value → Addr → Pt → Prop) : Prop :=
  ∀ (m : MethodId) (meth : Method) (c : Code) (A : Pt) (g : JFrame) (ig : Instr) (mk : MethodId) (a : Array Value),
    Stand p l e R s m sargs below meth c A.U A.locs A.cells A.slots → g.method = m → g.locals.size = c.maxLocals → decode c.code g.pc = .ok (ig, len) →
    2 * g.monitorRoom + (g.stack.map fun v => v.category).sum ≤ W9 → A.U.methodNamed? y = some mk → Pre A a →
    (∃ (v : Option Value) (B : Pt), Stand p l e R s m sargs below meth c B.U B.locs B.cells B.slots ∧ Post A a v B ∧
      Steps p.tables e below (doInvoke e (A.U.setTop g) [] mk a).1 (B.U.setTop { g with pc := g.pc + len, stack := v.toList ++ g.stack })) ∨
    (∃ (q : Addr) (B : Pt), Stand p l e R s m sargs below meth c B.U B.locs B.cells B.slots ∧ PostX A a q B ∧
      Steps p.tables e below (doInvoke e (A.U.setTop g) [] mk a).1 ((B.U.setTop g).pushFrame (.throwing q)))
section Payer
variable {l : Launch} {R : Room} {p : Program} {e : Env} {below : List Frame} {s : State} {sargs : Array Value} {y : MethodName} {len W9 : Nat}
theorem vx_back {ws : List Cond} {rm : Room} {Pc : Array Value → State → Prop} {Qc : Array Value → State → Outcome → State → Prop} {XC : String → State → State → Prop} {mc ms : Nat} {free : Addr → Prop} {bytes : ByteArray} {maxL : Nat} {ret : Option FieldType}
    (hM : vx_Met l y ws rm Pc Qc XC mc ms free) (hblind : FrameBlind Pc) (hrc : rm.cells = mc) (hrs : rm.slots = ms)
    (hframes : rm.frames + 1 ≤ R.frames) (hlocals : W9 + (maxL + 11) + rm.locals ≤ R.locals)
    (hws : ∀ w ∈ ws, ∀ a' U, s.WarmedH U.vm → w.before a' U = true) (hcode : Cond.code y bytes maxL ret ∈ ws) (hinit : ∀ a' U, s.WarmedH U.vm → (Cond.initialized y.cls).before a' U = true) :
    vx_Back l R p e below s sargs y len W9 (PreOf R mc ms Pc) (PostOf Qc mc ms free) (vx_Post XC mc ms free) := by
  intro m meth c A g ig mk a X hg hsize hdg hW hn hp
  have h1 : (headSpec ws rm).pre.before a A.U = true := atoms_intro fun w hw => hws w hw _ _ X.warmed
  have h2 : (Cond.code y bytes maxL ret).before a A.U = true := hws _ hcode _ _ X.warmed
  have h3 : (Cond.initialized y.cls).before a A.U = true := hinit _ _ X.warmed
  have h4 : A.cells + (headSpec ws rm).room.cells ≤ R.cells := by rw [show (headSpec ws rm).room.cells = mc from hrc]; exact hp.1
  have h5 : A.slots + (headSpec ws rm).room.slots ≤ R.slots := by rw [show (headSpec ws rm).room.slots = ms from hrs]; exact hp.2.1
  have hPc : Pc a (A.U.calling g mk a) := hblind _ _ _ _ hp.2.2
  obtain ⟨U, Ls, c0, s0⟩ := A
  dsimp only [Pt.U, Pt.locs, Pt.cells, Pt.slots] at h1 h2 h3 h4 h5 X hn hPc ⊢
  obtain ⟨methY, cY, hmY, hcY, -, hlY, -, -, -, -⟩ := Cond.code_spec hn h2
  obtain ⟨kY, hkY, -⟩ := className_of_methodNamed hn
  have hinitY : kY.init = .initialized := Cond.initialized_spec (findClass_of_methodNamed hn) hkY h3
  have h : At U g.method c below := by rw [hg]; exact X.here
  have hlocals9 : W9 + (maxL + 11) + (headSpec ws rm).room.locals ≤ R.locals := hlocals
  have happ : (headSpec ws rm).appliesLoose y e.platform (U.calling g mk a) = true :=
    Spec.appliesLoose_calling (g := g) h hdg hn hkY hinitY
      (X.room_calling (g := g) (R' := (headSpec ws rm).room) hsize hmY hcY hframes (by rw [hlY]; omega) h4 h5) h1
  obtain ⟨mid, hmid⟩ := h.above
  have hfr : (U.setTop g).frames = (.java g :: mid) ++ below := by rw [State.frames_setTop' g h.top, hmid]; rfl
  obtain ⟨o, s₂, hsteps, -, hend, hq⟩ := Steps.callFree hM p X.admits X.cas X.clock (acts := []) hfr happ hPc trivial
  have hq' : vx_Q Qc XC mc ms free a (U.calling g mk a) o s₂ := hq
  rw [State.frames_setTop' g h.top] at hend
  obtain ⟨g₀, hg0⟩ := Option.isSome_iff_exists.mp h.top
  obtain ⟨r, hr⟩ := State.topJava?_eq_some.mp hg0
  have hr' : (({ U with heap := s₂.heap, slotsUsed := s₂.slotsUsed } : State).setVm s₂.vm).frames = .java g₀ :: r := hr
  rcases hq' with ⟨hqc, L, hfe, hL⟩ | ⟨q, rfl, E, ce, L, hx, hce, hcv, hcl, hW₂, hsm, hL⟩
  · obtain ⟨⟨v, rfl⟩, hW₂, e2, q2, q3, q4, q5, q6⟩ := id hfe
    have e3 : s₂ = ({ (U.calling g mk a).setFrames s₂.frames with heap := s₂.heap, slotsUsed := s₂.slotsUsed } : State).setVm s₂.vm := by
      have : s₂ = ({ s₂ with vm := (U.calling g mk a).vm } : State).setVm s₂.vm := rfl
      rw [e2] at this
      exact this
    obtain ⟨c₂, i₂, len₂, hc₂, hd₂, hf₂⟩ := hend
    have hW' : U.WarmedH s₂.vm := hW₂
    have hcc : c₂ = c := by
      have h1 : s₂.code? g.method = U.code? g.method := by
        rw [State.code?_eq, State.code?_eq, hW'.alike.method?]
      exact Option.some.inj (hc₂.symm.trans (h1.trans h.code))
    subst hcc
    have hlen : len₂ = len := by rw [hdg] at hd₂; cases hd₂; rfl
    subst hlen
    have hs₂ : s₂ = (({ U with heap := s₂.heap, slotsUsed := s₂.slotsUsed } : State).setVm s₂.vm).setTop { g with pc := g.pc + len₂, stack := v.toList ++ g.stack } := by
      refine e3.trans ?_
      rw [hf₂, State.calling_eq h.top, State.setFrames_setFrames, State.setTop_of_frames _ hr', hr]
      rfl
    have hsame : U.sameButNew ({ U with heap := s₂.heap, slotsUsed := s₂.slotsUsed } : State) L mc ms := by
      refine ⟨?_, q2, q3, q4, q5, q6⟩
      obtain ⟨t, ht, -⟩ := State.frames_cons hr
      show ({ U with heap := s₂.heap, slotsUsed := s₂.slotsUsed } : State) = { U.setFrames U.frames with heap := s₂.heap, slotsUsed := s₂.slotsUsed }
      rw [State.setFrames_self ht]
    subst hg
    refine Or.inl ⟨v, ⟨(({ U with heap := s₂.heap, slotsUsed := s₂.slotsUsed } : State).setVm s₂.vm), Ls ++ L, c0 + mc, s0 + ms⟩,
      ⟨X.admits, X.cas, X.clock, X.frames, X.room, X.hears, X.method, X.code, (X.here.setHeapUsed s₂.heap s₂.slotsUsed).setVm hW'.alike, X.tail, State.WarmedH.trans X.warmed hW', X.limits, X.bytes, X.same.trans (hsame.setVm s.vm)⟩,
      ⟨g, mk, s₂, L, rfl, rfl, hqc, rfl, hL, rfl, rfl⟩, ?_⟩
    show Steps p.tables e below _ ((({ U with heap := s₂.heap, slotsUsed := s₂.slotsUsed } : State).setVm s₂.vm).setTop { g with pc := g.pc + len₂, stack := v.toList ++ g.stack })
    rw [← hs₂]
    exact hsteps
  · obtain ⟨e2, q2, q3, q4, q5, q6⟩ := id hsm
    have e3 : s₂ = ({ (U.calling g mk a).setFrames s₂.frames with heap := s₂.heap, slotsUsed := s₂.slotsUsed } : State).setVm s₂.vm := by
      have : s₂ = ({ s₂ with vm := (U.calling g mk a).vm } : State).setVm s₂.vm := rfl
      rw [e2] at this
      exact this
    have hf₂ : s₂.frames = .throwing q :: .java g :: U.frames.tail := hend
    have hW' : U.WarmedH s₂.vm := hW₂
    have hs₂ : s₂ = ((({ U with heap := s₂.heap, slotsUsed := s₂.slotsUsed } : State).setVm s₂.vm).setTop g).pushFrame (.throwing q) := by
      refine e3.trans ?_
      rw [hf₂, State.calling_eq h.top, State.setFrames_setFrames, State.pushFrame, State.frames_setTop _ hr', State.setTop_of_frames _ hr', State.setFrames_setFrames, hr]
      rfl
    have hsame : U.sameButNew ({ U with heap := s₂.heap, slotsUsed := s₂.slotsUsed } : State) L mc ms := by
      refine ⟨?_, q2, q3, q4, q5, q6⟩
      obtain ⟨t, ht, -⟩ := State.frames_cons hr
      show ({ U with heap := s₂.heap, slotsUsed := s₂.slotsUsed } : State) = { U.setFrames U.frames with heap := s₂.heap, slotsUsed := s₂.slotsUsed }
      rw [State.setFrames_self ht]
    subst hg
    refine Or.inr ⟨q, ⟨(({ U with heap := s₂.heap, slotsUsed := s₂.slotsUsed } : State).setVm s₂.vm), Ls ++ L, c0 + mc, s0 + ms⟩,
      ⟨X.admits, X.cas, X.clock, X.frames, X.room, X.hears, X.method, X.code, (X.here.setHeapUsed s₂.heap s₂.slotsUsed).setVm hW'.alike, X.tail, State.WarmedH.trans X.warmed hW', X.limits, X.bytes, X.same.trans (hsame.setVm s.vm)⟩,
      ⟨g, mk, s₂, L, E, ce, rfl, rfl, hx, hce, hcv, hcl, rfl, hL, rfl, rfl⟩, ?_⟩
    show Steps p.tables e below _ (((({ U with heap := s₂.heap, slotsUsed := s₂.slotsUsed } : State).setVm s₂.vm).setTop g).pushFrame (.throwing q))
    rw [← hs₂]
    exact hsteps
end Payer
section Calls
variable {p : Program} {l : Launch} {e : Env} {R : Room} {s : State} {m : MethodId} {args : Array Value} {below : List Frame} {meth : Method} {c : Code} {T : State} {locs : List Loc} {cells slots : Nat}
theorem vx_callV (X : Stand p l e R s m args below meth c T locs cells slots) (hexec : p.tables.exec = Jvm.exec) {own C : String} {index : Nat} {y : MethodName} {bytes : ByteArray} {maxL : Nat} {ret : Option FieldType}
    (hown : s.vm.findClass own = some m.cls) (hlink : (Cond.methodLink own index y).before args s = true) (hinst : (Cond.instanceMethod y).before args s = true) (hsel : (Cond.selects C y y).before args s = true)
    (hcode : (Cond.code y bytes maxL ret).before args s = true) (hy : y.cls ≠ "java/lang/invoke/MethodHandle" ∧ y.cls ≠ "java/lang/invoke/VarHandle")
    {W9 : Nat} {Pre : Pt → Array Value → Prop} {Post : Pt → Array Value → Option Value → Pt → Prop} {PostX : Pt → Array Value → Addr → Pt → Prop} (hK : vx_Back l R p e below s args y 3 W9 Pre Post PostX)
    {b : Addr} {cellB : Cell} (hcell : T.heap[b]? = some cellB) (hobj : cellB.vm.isStatics = false) (hcls : s.vm.findClass C = some cellB.cls)
    {g : JFrame} (hg : g.method = m) (hsize : g.locals.size = c.maxLocals) {argsL rest : List Value} (hlen : ∀ sig, parseMethodDescriptor y.desc = some sig → argsL.length = sig.parameters.length)
    (hstack : g.stack = argsL.reverse ++ .ref b :: rest) (hW : 2 * g.monitorRoom + (rest.map fun v => v.category).sum ≤ W9) (hdg : decode c.code g.pc = .ok (.invokevirtual index, 3))
    (hpre : ∀ vm₁, s.WarmedH vm₁ → Pre ⟨T.setVm vm₁, locs, cells, slots⟩ (Value.ref b :: argsL).toArray) :
    (∃ (v : Option Value) (vm₁ : Vm) (B : Pt), s.WarmedH vm₁ ∧ Stand p l e R s m args below meth c B.U B.locs B.cells B.slots ∧ Post ⟨T.setVm vm₁, locs, cells, slots⟩ (Value.ref b :: argsL).toArray v B ∧
      ∀ target, Steps p.tables e below (B.U.setTop { g with pc := g.pc + 3, stack := v.toList ++ rest }) target → Steps p.tables e below (T.setTop g) target) ∨
    (∃ (q : Addr) (vm₁ : Vm) (B : Pt), s.WarmedH vm₁ ∧ Stand p l e R s m args below meth c B.U B.locs B.cells B.slots ∧ PostX ⟨T.setVm vm₁, locs, cells, slots⟩ (Value.ref b :: argsL).toArray q B ∧
      Steps p.tables e below (T.setTop g) ((B.U.setTop { g with stack := rest }).pushFrame (.throwing q))) := by
  obtain ⟨mk, methM, hnamed, hmethM, hstM, habM⟩ := Cond.instanceMethod_spec hinst
  obtain ⟨methM', cM, hmethM', -, -, -, -, -, -, hsigM⟩ := Cond.code_spec hnamed hcode
  cases hmethM.symm.trans hmethM'
  obtain ⟨c2, r2, m2, q1, q2, q3, q4, kP, hkP, hkPi⟩ := Cond.selects_spec hsel
  cases hcls.symm.trans q1
  cases (State.methodFound?_of_named hnamed hy).symm.trans q2
  cases hnamed.symm.trans q3
  have hselP : selectMethod e.platform s.vm cellB.cls mk = .method mk := by rw [Launch.admits_selectMethod X.admits]; exact q4
  obtain ⟨vm₁, X₁, hstep₁⟩ := X.invokevirtual hexec hown hlink hnamed hmethM hstM hkP hkPi hy (a := b) (cell := cellB) hcell
    (fun z h => by rw [h] at hobj; cases hobj) hselP hmethM habM hkP hkPi (g := g) hg (argsL := argsL) (rest := rest) (hlen _ hsigM) hstack hdg
  rcases hK m meth c ⟨T.setVm vm₁, locs, cells, slots⟩ { g with stack := rest } (.invokevirtual index) mk (Value.ref b :: argsL).toArray X₁ hg hsize hdg hW (X₁.named hnamed) (hpre vm₁ X₁.warmed) with ⟨v, B, X', hpost, hsteps⟩ | ⟨q, B, X', hpost, hsteps⟩
  · exact Or.inl ⟨v, vm₁, B, X₁.warmed, X', hpost, fun target h => hstep₁ _ fun acts => by rw [doInvoke_state]; exact hsteps.trans h⟩
  · exact Or.inr ⟨q, vm₁, B, X₁.warmed, X', hpost, hstep₁ _ fun acts => by rw [doInvoke_state]; exact hsteps⟩
theorem vx_callS (X : Stand p l e R s m args below meth c T locs cells slots) (hexec : p.tables.exec = Jvm.exec) {own : String} {index : Nat} {y : MethodName} {bytes : ByteArray} {maxL : Nat} {ret : Option FieldType}
    (hown : s.vm.findClass own = some m.cls) (hlink : (Cond.methodLink own index y).before args s = true) (hstat : (Cond.static y).before args s = true) (hinit : (Cond.initialized y.cls).before args s = true)
    (hcode : (Cond.code y bytes maxL ret).before args s = true) (hy : y.cls ≠ "java/lang/invoke/MethodHandle" ∧ y.cls ≠ "java/lang/invoke/VarHandle")
    {W9 : Nat} {Pre : Pt → Array Value → Prop} {Post : Pt → Array Value → Option Value → Pt → Prop} {PostX : Pt → Array Value → Addr → Pt → Prop} (hK : vx_Back l R p e below s args y 3 W9 Pre Post PostX)
    {g : JFrame} (hg : g.method = m) (hsize : g.locals.size = c.maxLocals) {argsL rest : List Value} (hlen : ∀ sig, parseMethodDescriptor y.desc = some sig → argsL.length = sig.parameters.length)
    (hstack : g.stack = argsL.reverse ++ rest) (hW : 2 * g.monitorRoom + (rest.map fun v => v.category).sum ≤ W9) (hdg : decode c.code g.pc = .ok (.invokestatic index, 3))
    (hpre : ∀ vm₁, s.WarmedH vm₁ → Pre ⟨T.setVm vm₁, locs, cells, slots⟩ argsL.toArray) :
    (∃ (v : Option Value) (vm₁ : Vm) (B : Pt), s.WarmedH vm₁ ∧ Stand p l e R s m args below meth c B.U B.locs B.cells B.slots ∧ Post ⟨T.setVm vm₁, locs, cells, slots⟩ argsL.toArray v B ∧
      ∀ target, Steps p.tables e below (B.U.setTop { g with pc := g.pc + 3, stack := v.toList ++ rest }) target → Steps p.tables e below (T.setTop g) target) ∨
    (∃ (q : Addr) (vm₁ : Vm) (B : Pt), s.WarmedH vm₁ ∧ Stand p l e R s m args below meth c B.U B.locs B.cells B.slots ∧ PostX ⟨T.setVm vm₁, locs, cells, slots⟩ argsL.toArray q B ∧
      Steps p.tables e below (T.setTop g) ((B.U.setTop { g with stack := rest }).pushFrame (.throwing q))) := by
  obtain ⟨mk, hnamed⟩ := Cond.code_named hcode
  obtain ⟨methM, cM, hmethM, -, -, -, -, -, -, hsigM⟩ := Cond.code_spec hnamed hcode
  have hstatic : methM.isStatic = true := Cond.static_spec hnamed hmethM hstat
  obtain ⟨kP, hkP, -⟩ := className_of_methodNamed hnamed
  have hinitP : kP.init = .initialized := Cond.initialized_spec (findClass_of_methodNamed hnamed) hkP hinit
  obtain ⟨vm₁, X₁, hstep₁⟩ := X.invokestatic hexec hown hlink hnamed hmethM hstatic hkP hinitP hy (g := g) hg (argsL := argsL) (rest := rest) (hlen _ hsigM) hstack hdg
  rcases hK m meth c ⟨T.setVm vm₁, locs, cells, slots⟩ { g with stack := rest } (.invokestatic index) mk argsL.toArray X₁ hg hsize hdg hW (X₁.named hnamed) (hpre vm₁ X₁.warmed) with ⟨v, B, X', hpost, hsteps⟩ | ⟨q, B, X', hpost, hsteps⟩
  · exact Or.inl ⟨v, vm₁, B, X₁.warmed, X', hpost, fun target h => hstep₁ _ fun acts => by rw [doInvoke_state]; exact hsteps.trans h⟩
  · exact Or.inr ⟨q, vm₁, B, X₁.warmed, X', hpost, hstep₁ _ fun acts => by rw [doInvoke_state]; exact hsteps⟩
end Calls
theorem vx_cls {s : State} {T : State} {vm₁ : Vm} {E : String} {k : ClassId} (hW : s.WarmedH vm₁) (h : (T.setVm vm₁).vm.findClass E = some k) : s.vm.findClass E = some k := by
  have h1 : vm₁.findClass E = some k := h
  rw [hW.alike.findClass] at h1
  exact h1
/-- the method's frame g, with q thrown over it -/
def vx_W (p : Program) (l : Launch) (e : Env) (R : Room) (s : State) (m : MethodId) (args : Array Value) (below : List Frame) (meth : Method) (c : Code) (H : Heap) (locs : List Loc) (cells slots : Nat) (Q : State → Prop) (g : JFrame) (q : Addr) : Prop :=
  ∀ T : State, T.heap = H → Stand p l e R s m args below meth c T locs cells slots → ∃ t, Steps p.tables e below ((T.setTop g).pushFrame (.throwing q)) t ∧ Q t
def vx_Run (p : Program) (l : Launch) (e : Env) (R : Room) (s : State) (m : MethodId) (args : Array Value) (below : List Frame) (meth : Method) (c : Code) (H : Heap) (locs : List Loc) (cells slots mc ms : Nat) (g : JFrame) (rest : List Value) (Qa : State → Outcome → State → Prop) (XC : String → State → State → Prop) (free : Addr → Prop) : Prop :=
  ∀ T : State, T.heap = H → Stand p l e R s m args below meth c T locs cells slots →
    (∃ (v : Option Value) (st₀ t T' : State) (L : List Loc), st₀.heap = H ∧ Stand p l e R s m args below meth c T' (locs ++ L) (cells + mc) (slots + ms) ∧ (∀ q ∈ L, free q.base) ∧ T'.heap = t.heap ∧ T'.vm = t.vm ∧ Qa st₀ (.returned v) t ∧
      Goes p e below T g T' { g with pc := g.pc + 3, stack := v.toList ++ rest }) ∨
    (∃ (q : Addr) (st₀ t T' : State) (L : List Loc) (E : String) (ce : Cell), st₀.heap = H ∧ Stand p l e R s m args below meth c T' (locs ++ L) (cells + mc) (slots + ms) ∧ (∀ z ∈ L, free z.base) ∧ T'.heap = t.heap ∧ T'.vm = t.vm ∧ XC E st₀ t ∧ t.heap[q]? = some ce ∧ ce.vm = .none ∧ s.vm.findClass E = some ce.cls ∧
      Steps p.tables e below (T.setTop g) ((T'.setTop { g with stack := rest }).pushFrame (.throwing q)))
def vx_X {S : Type} (px : S → Prop) (B : String → S → State → Prop) (A : Nat → Prop) : String → State → State → Prop := fun E st t => ∃ u : S, px u ∧ B E u t ∧ va_F A st t
section Runs
variable {p : Program} {l : Launch} {e : Env} {R : Room} {s : State} {m : MethodId} {args : Array Value} {below : List Frame} {meth : Method} {c : Code} {H : Heap} {locs : List Loc} {cells slots : Nat}
variable {y : MethodName} {bytes cc : ByteArray} {maxL nL mc ms n index : Nat} {ret : Option FieldType} {ws : List Cond} {rm : Room} {Pc : Array Value → State → Prop} {Qc : Array Value → State → Outcome → State → Prop} {XC : String → State → State → Prop} {free : Addr → Prop} {Ts : List Cond} {own C : String} {b : Addr} {As rest : List Value} {g : JFrame}
theorem vx_callBack (cb : CallB R s args own index y bytes maxL ret ws rm mc ms n) (hM : vx_Met l y ws rm Pc Qc XC mc ms free) (hbl : FrameBlind Pc) : vx_Back l R p e below s args y 3 8 (PreOf R mc ms Pc) (PostOf Qc mc ms free) (vx_Post XC mc ms free) := by
  obtain ⟨hrc, hrs, hfr, hlo, hws, hcw, -, hini, -⟩ := cb
  exact vx_back (bytes := bytes) (maxL := maxL) (ret := ret) hM hbl hrc hrs hfr hlo hws hcw (fun a' U hW => word_at hW (Or.inl (by first | rfl | simp [Cond.onTables, Cond.keeps, Cond.steady])) hini)
theorem vx_runV (S : CallFix p m c cc nL s args Ts own) (hM : vx_Met l y ws rm Pc Qc XC mc ms free) (cw : CallW R s args own C index y bytes maxL ret ws rm mc ms n) (hp : PreV s H C b Pc As)
    (hg : g.method = m) (hn : As.length = n) (hsize : g.locals.size = nL) (hstack : g.stack = As.reverse ++ .ref b :: rest) (hW : 2 * g.monitorRoom + (rest.map fun v => v.category).sum ≤ 8) (hdg : decode cc g.pc = .ok (.invokevirtual index, 3)) (hf : cells + mc ≤ R.cells ∧ slots + ms ≤ R.slots) :
    vx_Run p l e R s m args below meth c H locs cells slots mc ms g rest (Qc (Value.ref b :: As).toArray) XC free := by
  have hK : vx_Back l R p e below s args y 3 8 (PreOf R mc ms Pc) (PostOf Qc mc ms free) (vx_Post XC mc ms free) := vx_callBack cw.1 hM hp.1
  obtain ⟨⟨-, -, -, -, -, -, hcode, -, hy, hlen, hl⟩, hin, hse⟩ := cw
  obtain ⟨hx, hb, hml, ho, -⟩ := S
  obtain ⟨-, ⟨cellB, hcB, hoB, hclB⟩, hPc⟩ := hp
  intro T hT X
  rcases vx_callV X hx (C := C) (bytes := bytes) (maxL := maxL) (ret := ret) ho hl hin hse hcode hy hK (by rw [hT]; exact hcB) hoB hclB hg (hsize.trans hml.symm) (argsL := As) (rest := rest) (fun sig h => hn.trans (hlen sig h)) hstack hW (by rw [hb]; exact hdg)
    (fun vm₁ hW₁ => ⟨hf.1, hf.2, hPc (T.setVm vm₁) hT hW₁⟩) with ⟨v, vm₁, ⟨U', l2, c2, s2⟩, hW₁, X', ⟨g', mk, t, L, e1, e2, hq, h1, hL, h2, h3⟩, st⟩ | ⟨q, vm₁, ⟨U', l2, c2, s2⟩, hW₁, X', ⟨g', mk, t, L, E, ce, e1, e2, hq, hce, hcv, hcl, h1, hL, h2, h3⟩, st⟩
  · dsimp only [Pt.U, Pt.locs, Pt.cells, Pt.slots] at X' e1 e2 h1 h2 h3 st
    subst h1; subst h2; subst h3
    exact Or.inl ⟨v, (T.setVm vm₁).calling g' mk (Value.ref b :: As).toArray, t, U', L, hT, X', hL, e1, e2, hq, st⟩
  · dsimp only [Pt.U, Pt.locs, Pt.cells, Pt.slots] at X' e1 e2 h1 h2 h3 st hcl
    subst h1; subst h2; subst h3
    exact Or.inr ⟨q, (T.setVm vm₁).calling g' mk (Value.ref b :: As).toArray, t, U', L, E, ce, hT, X', hL, e1, e2, hq, hce, hcv, vx_cls hW₁ hcl, st⟩
theorem vx_runS (S : CallFix p m c cc nL s args Ts own) (hM : vx_Met l y ws rm Pc Qc XC mc ms free) (cw : CallB R s args own index y bytes maxL ret ws rm mc ms n ∧ (Cond.static y).before args s = true) (hp : PreS s H Pc As)
    (hg : g.method = m) (hn : As.length = n) (hsize : g.locals.size = nL) (hstack : g.stack = As.reverse ++ rest) (hW : 2 * g.monitorRoom + (rest.map fun v => v.category).sum ≤ 8) (hdg : decode cc g.pc = .ok (.invokestatic index, 3)) (hf : cells + mc ≤ R.cells ∧ slots + ms ≤ R.slots) :
    vx_Run p l e R s m args below meth c H locs cells slots mc ms g rest (Qc As.toArray) XC free := by
  have hK : vx_Back l R p e below s args y 3 8 (PreOf R mc ms Pc) (PostOf Qc mc ms free) (vx_Post XC mc ms free) := vx_callBack cw.1 hM hp.1
  obtain ⟨⟨-, -, -, -, -, -, hcode, hini, hy, hlen, hl⟩, hstt⟩ := cw
  obtain ⟨hx, hb, hml, ho, -⟩ := S
  intro T hT X
  rcases vx_callS X hx (bytes := bytes) (maxL := maxL) (ret := ret) ho hl hstt hini hcode hy hK hg (hsize.trans hml.symm) (argsL := As) (rest := rest) (fun sig h => hn.trans (hlen sig h)) hstack hW (by rw [hb]; exact hdg)
    (fun vm₁ hW₁ => ⟨hf.1, hf.2, hp.2 (T.setVm vm₁) hT hW₁⟩) with ⟨v, vm₁, ⟨U', l2, c2, s2⟩, hW₁, X', ⟨g', mk, t, L, e1, e2, hq, h1, hL, h2, h3⟩, st⟩ | ⟨q, vm₁, ⟨U', l2, c2, s2⟩, hW₁, X', ⟨g', mk, t, L, E, ce, e1, e2, hq, hce, hcv, hcl, h1, hL, h2, h3⟩, st⟩
  · dsimp only [Pt.U, Pt.locs, Pt.cells, Pt.slots] at X' e1 e2 h1 h2 h3 st
    subst h1; subst h2; subst h3
    exact Or.inl ⟨v, (T.setVm vm₁).calling g' mk As.toArray, t, U', L, hT, X', hL, e1, e2, hq, st⟩
  · dsimp only [Pt.U, Pt.locs, Pt.cells, Pt.slots] at X' e1 e2 h1 h2 h3 st hcl
    subst h1; subst h2; subst h3
    exact Or.inr ⟨q, (T.setVm vm₁).calling g' mk As.toArray, t, U', L, E, ce, hT, X', hL, e1, e2, hq, hce, hcv, vx_cls hW₁ hcl, st⟩
end Runs
section Rows
variable {p : Program} {l : Launch} {e : Env} {R : Room} {s : State} {m : MethodId} {args : Array Value} {below : List Frame} {meth : Method} {c : Code} {H : Heap} {locs : List Loc} {cells slots : Nat} {Q : State → Prop}
variable {mc ms : Nat} {free : Addr → Prop} {A0 A1 : Nat → Prop} {H0 : Heap} {a : Array Value} {pc : Nat} {ls : Array Slot} {st0 rest : List Value}
theorem vx_keep {st₀ t T' : State} {L : List Loc} (h0 : st₀.heap = H) (e1 : T'.heap = t.heap) (hS : va_S A0 H0 H locs) (hA : ∀ q, q < H.size → A1 q → A0 q) (hf : ∀ q, free q → A0 q) (hL : ∀ q ∈ L, free q.base) (hF : va_F A1 st₀ t) :
    H.size ≤ T'.heap.size ∧ (∀ q : Nat, q < H.size → ¬ A1 q → T'.heap[q]? = H[q]?) ∧ va_S A0 H0 T'.heap (locs ++ L) := by
  obtain ⟨hz, hk⟩ := hF
  rw [h0] at hz hk
  exact ⟨by rw [e1]; exact hz, fun q h1 h2 => by rw [e1]; exact hk q h1 h2,
    ⟨Nat.le_trans hS.1 (by rw [e1]; exact hz), fun q h1 h2 => by rw [e1, hk q (Nat.lt_of_lt_of_le h1 hS.1) (fun z => h2 (hA q (Nat.lt_of_lt_of_le h1 hS.1) z))]; exact hS.2.1 q h1 h2, fun q hq => by
      rcases List.mem_append.mp hq with h | h
      · exact hS.2.2 q h
      · exact hf _ (hL q h)⟩⟩
theorem vx_calli {S SX : Type} {post : Int32 → S → Prop} {px : SX → Prop} {B : S → State → Prop} {BX : String → SX → State → Prop} {AX : Nat → Prop} (hr : vx_Run p l e R s m args below meth c H locs cells slots mc ms (F0 m pc ls st0) rest (va_Qi post B A1 a) (vx_X px BX AX) free) (hS : va_S A0 H0 H locs) (hA : ∀ q, q < H.size → A1 q → A0 q) (hf : ∀ q, free q → A0 q) (hAX : ∀ q, q < H.size → AX q → A0 q)
    (kx : ∀ (E : String) (ce : Cell) (q9 : Addr) (u : SX) (t : State) (H1 : Heap) (locs1 : List Loc), t.heap = H1 → s.vm.Alike t.vm → px u → BX E u t → H.size ≤ H1.size → (∀ q : Nat, q < H.size → ¬ AX q → H1[q]? = H[q]?) → va_S A0 H0 H1 locs1 → H1[q9]? = some ce → ce.vm = .none → s.vm.findClass E = some ce.cls → vx_W p l e R s m args below meth c H1 locs1 (cells + mc) (slots + ms) Q (F0 m pc ls rest) q9)
    (kk : ∀ (r : Int32) (u : S) (t : State) (H1 : Heap) (locs1 : List Loc), t.heap = H1 → s.vm.Alike t.vm → post r u → B u t → H.size ≤ H1.size → (∀ q : Nat, q < H.size → ¬ A1 q → H1[q]? = H[q]?) → va_S A0 H0 H1 locs1 → W p l e R s m args below meth c H1 locs1 (cells + mc) (slots + ms) Q (F0 m (pc + 3) ls (.int r :: rest))) : W p l e R s m args below meth c H locs cells slots Q (F0 m pc ls st0) := by
  intro T hT X
  rcases hr T hT X with ⟨v, st₀, t, T', L, h0, X', hL, e1, e2, ⟨⟨r, u, hv, hp, hb⟩, hF⟩, st⟩ | ⟨q, st₀, t, T', L, E, ce, h0, X', hL, e1, e2, ⟨u, hp, hb, hF⟩, hce, hcv, hcl, st⟩
  · cases hv
    obtain ⟨k1, k2, k3⟩ := vx_keep h0 e1 hS hA hf hL hF
    obtain ⟨t2, a1, b1⟩ := kk r u t T'.heap (locs ++ L) e1.symm (by rw [← e2]; exact X'.warmed.alike) hp hb k1 k2 k3 T' rfl X'
    exact ⟨t2, st t2 a1, b1⟩
  · obtain ⟨k1, k2, k3⟩ := vx_keep h0 e1 hS hAX hf hL hF
    obtain ⟨t2, a1, b1⟩ := kx E ce q u t T'.heap (locs ++ L) e1.symm (by rw [← e2]; exact X'.warmed.alike) hp hb k1 k2 k3 (by rw [e1]; exact hce) hcv hcl T' rfl X'
    exact ⟨t2, st.trans a1, b1⟩
theorem vx_calll {S SX : Type} {post : Int64 → S → Prop} {px : SX → Prop} {B : S → State → Prop} {BX : String → SX → State → Prop} {AX : Nat → Prop} (hr : vx_Run p l e R s m args below meth c H locs cells slots mc ms (F0 m pc ls st0) rest (va_Ql post B A1 a) (vx_X px BX AX) free) (hS : va_S A0 H0 H locs) (hA : ∀ q, q < H.size → A1 q → A0 q) (hf : ∀ q, free q → A0 q) (hAX : ∀ q, q < H.size → AX q → A0 q)
    (kx : ∀ (E : String) (ce : Cell) (q9 : Addr) (u : SX) (t : State) (H1 : Heap) (locs1 : List Loc), t.heap = H1 → s.vm.Alike t.vm → px u → BX E u t → H.size ≤ H1.size → (∀ q : Nat, q < H.size → ¬ AX q → H1[q]? = H[q]?) → va_S A0 H0 H1 locs1 → H1[q9]? = some ce → ce.vm = .none → s.vm.findClass E = some ce.cls → vx_W p l e R s m args below meth c H1 locs1 (cells + mc) (slots + ms) Q (F0 m pc ls rest) q9)
    (kk : ∀ (r : Int64) (u : S) (t : State) (H1 : Heap) (locs1 : List Loc), t.heap = H1 → s.vm.Alike t.vm → post r u → B u t → H.size ≤ H1.size → (∀ q : Nat, q < H.size → ¬ A1 q → H1[q]? = H[q]?) → va_S A0 H0 H1 locs1 → W p l e R s m args below meth c H1 locs1 (cells + mc) (slots + ms) Q (F0 m (pc + 3) ls (.long r :: rest))) : W p l e R s m args below meth c H locs cells slots Q (F0 m pc ls st0) := by
  intro T hT X
  rcases hr T hT X with ⟨v, st₀, t, T', L, h0, X', hL, e1, e2, ⟨⟨r, u, hv, hp, hb⟩, hF⟩, st⟩ | ⟨q, st₀, t, T', L, E, ce, h0, X', hL, e1, e2, ⟨u, hp, hb, hF⟩, hce, hcv, hcl, st⟩
  · cases hv
    obtain ⟨k1, k2, k3⟩ := vx_keep h0 e1 hS hA hf hL hF
    obtain ⟨t2, a1, b1⟩ := kk r u t T'.heap (locs ++ L) e1.symm (by rw [← e2]; exact X'.warmed.alike) hp hb k1 k2 k3 T' rfl X'
    exact ⟨t2, st t2 a1, b1⟩
  · obtain ⟨k1, k2, k3⟩ := vx_keep h0 e1 hS hAX hf hL hF
    obtain ⟨t2, a1, b1⟩ := kx E ce q u t T'.heap (locs ++ L) e1.symm (by rw [← e2]; exact X'.warmed.alike) hp hb k1 k2 k3 (by rw [e1]; exact hce) hcv hcl T' rfl X'
    exact ⟨t2, st.trans a1, b1⟩
theorem vx_callf {S SX : Type} {post : UInt32 → S → Prop} {px : SX → Prop} {B : S → State → Prop} {BX : String → SX → State → Prop} {AX : Nat → Prop} (hr : vx_Run p l e R s m args below meth c H locs cells slots mc ms (F0 m pc ls st0) rest (va_Qf post B A1 a) (vx_X px BX AX) free) (hS : va_S A0 H0 H locs) (hA : ∀ q, q < H.size → A1 q → A0 q) (hf : ∀ q, free q → A0 q) (hAX : ∀ q, q < H.size → AX q → A0 q)
    (kx : ∀ (E : String) (ce : Cell) (q9 : Addr) (u : SX) (t : State) (H1 : Heap) (locs1 : List Loc), t.heap = H1 → s.vm.Alike t.vm → px u → BX E u t → H.size ≤ H1.size → (∀ q : Nat, q < H.size → ¬ AX q → H1[q]? = H[q]?) → va_S A0 H0 H1 locs1 → H1[q9]? = some ce → ce.vm = .none → s.vm.findClass E = some ce.cls → vx_W p l e R s m args below meth c H1 locs1 (cells + mc) (slots + ms) Q (F0 m pc ls rest) q9)
    (kk : ∀ (r : UInt32) (u : S) (t : State) (H1 : Heap) (locs1 : List Loc), t.heap = H1 → s.vm.Alike t.vm → post r u → B u t → H.size ≤ H1.size → (∀ q : Nat, q < H.size → ¬ A1 q → H1[q]? = H[q]?) → va_S A0 H0 H1 locs1 → W p l e R s m args below meth c H1 locs1 (cells + mc) (slots + ms) Q (F0 m (pc + 3) ls (.float r :: rest))) : W p l e R s m args below meth c H locs cells slots Q (F0 m pc ls st0) := by
  intro T hT X
  rcases hr T hT X with ⟨v, st₀, t, T', L, h0, X', hL, e1, e2, ⟨⟨r, u, hv, hp, hb⟩, hF⟩, st⟩ | ⟨q, st₀, t, T', L, E, ce, h0, X', hL, e1, e2, ⟨u, hp, hb, hF⟩, hce, hcv, hcl, st⟩
  · cases hv
    obtain ⟨k1, k2, k3⟩ := vx_keep h0 e1 hS hA hf hL hF
    obtain ⟨t2, a1, b1⟩ := kk r u t T'.heap (locs ++ L) e1.symm (by rw [← e2]; exact X'.warmed.alike) hp hb k1 k2 k3 T' rfl X'
    exact ⟨t2, st t2 a1, b1⟩
  · obtain ⟨k1, k2, k3⟩ := vx_keep h0 e1 hS hAX hf hL hF
    obtain ⟨t2, a1, b1⟩ := kx E ce q u t T'.heap (locs ++ L) e1.symm (by rw [← e2]; exact X'.warmed.alike) hp hb k1 k2 k3 (by rw [e1]; exact hce) hcv hcl T' rfl X'
    exact ⟨t2, st.trans a1, b1⟩
theorem vx_calld {S SX : Type} {post : UInt64 → S → Prop} {px : SX → Prop} {B : S → State → Prop} {BX : String → SX → State → Prop} {AX : Nat → Prop} (hr : vx_Run p l e R s m args below meth c H locs cells slots mc ms (F0 m pc ls st0) rest (va_Qd post B A1 a) (vx_X px BX AX) free) (hS : va_S A0 H0 H locs) (hA : ∀ q, q < H.size → A1 q → A0 q) (hf : ∀ q, free q → A0 q) (hAX : ∀ q, q < H.size → AX q → A0 q)
    (kx : ∀ (E : String) (ce : Cell) (q9 : Addr) (u : SX) (t : State) (H1 : Heap) (locs1 : List Loc), t.heap = H1 → s.vm.Alike t.vm → px u → BX E u t → H.size ≤ H1.size → (∀ q : Nat, q < H.size → ¬ AX q → H1[q]? = H[q]?) → va_S A0 H0 H1 locs1 → H1[q9]? = some ce → ce.vm = .none → s.vm.findClass E = some ce.cls → vx_W p l e R s m args below meth c H1 locs1 (cells + mc) (slots + ms) Q (F0 m pc ls rest) q9)
    (kk : ∀ (r : UInt64) (u : S) (t : State) (H1 : Heap) (locs1 : List Loc), t.heap = H1 → s.vm.Alike t.vm → post r u → B u t → H.size ≤ H1.size → (∀ q : Nat, q < H.size → ¬ A1 q → H1[q]? = H[q]?) → va_S A0 H0 H1 locs1 → W p l e R s m args below meth c H1 locs1 (cells + mc) (slots + ms) Q (F0 m (pc + 3) ls (.double r :: rest))) : W p l e R s m args below meth c H locs cells slots Q (F0 m pc ls st0) := by
  intro T hT X
  rcases hr T hT X with ⟨v, st₀, t, T', L, h0, X', hL, e1, e2, ⟨⟨r, u, hv, hp, hb⟩, hF⟩, st⟩ | ⟨q, st₀, t, T', L, E, ce, h0, X', hL, e1, e2, ⟨u, hp, hb, hF⟩, hce, hcv, hcl, st⟩
  · cases hv
    obtain ⟨k1, k2, k3⟩ := vx_keep h0 e1 hS hA hf hL hF
    obtain ⟨t2, a1, b1⟩ := kk r u t T'.heap (locs ++ L) e1.symm (by rw [← e2]; exact X'.warmed.alike) hp hb k1 k2 k3 T' rfl X'
    exact ⟨t2, st t2 a1, b1⟩
  · obtain ⟨k1, k2, k3⟩ := vx_keep h0 e1 hS hAX hf hL hF
    obtain ⟨t2, a1, b1⟩ := kx E ce q u t T'.heap (locs ++ L) e1.symm (by rw [← e2]; exact X'.warmed.alike) hp hb k1 k2 k3 (by rw [e1]; exact hce) hcv hcl T' rfl X'
    exact ⟨t2, st.trans a1, b1⟩
theorem vx_callv {S SX : Type} {post : S → Prop} {px : SX → Prop} {B : S → State → Prop} {BX : String → SX → State → Prop} {AX : Nat → Prop} (hr : vx_Run p l e R s m args below meth c H locs cells slots mc ms (F0 m pc ls st0) rest (va_Qv post B A1 a) (vx_X px BX AX) free) (hS : va_S A0 H0 H locs) (hA : ∀ q, q < H.size → A1 q → A0 q) (hf : ∀ q, free q → A0 q) (hAX : ∀ q, q < H.size → AX q → A0 q)
    (kx : ∀ (E : String) (ce : Cell) (q9 : Addr) (u : SX) (t : State) (H1 : Heap) (locs1 : List Loc), t.heap = H1 → s.vm.Alike t.vm → px u → BX E u t → H.size ≤ H1.size → (∀ q : Nat, q < H.size → ¬ AX q → H1[q]? = H[q]?) → va_S A0 H0 H1 locs1 → H1[q9]? = some ce → ce.vm = .none → s.vm.findClass E = some ce.cls → vx_W p l e R s m args below meth c H1 locs1 (cells + mc) (slots + ms) Q (F0 m pc ls rest) q9)
    (kk : ∀ (u : S) (t : State) (H1 : Heap) (locs1 : List Loc), t.heap = H1 → s.vm.Alike t.vm → post u → B u t → H.size ≤ H1.size → (∀ q : Nat, q < H.size → ¬ A1 q → H1[q]? = H[q]?) → va_S A0 H0 H1 locs1 → W p l e R s m args below meth c H1 locs1 (cells + mc) (slots + ms) Q (F0 m (pc + 3) ls (rest))) : W p l e R s m args below meth c H locs cells slots Q (F0 m pc ls st0) := by
  intro T hT X
  rcases hr T hT X with ⟨v, st₀, t, T', L, h0, X', hL, e1, e2, ⟨⟨u, hv, hp, hb⟩, hF⟩, st⟩ | ⟨q, st₀, t, T', L, E, ce, h0, X', hL, e1, e2, ⟨u, hp, hb, hF⟩, hce, hcv, hcl, st⟩
  · cases hv
    obtain ⟨k1, k2, k3⟩ := vx_keep h0 e1 hS hA hf hL hF
    obtain ⟨t2, a1, b1⟩ := kk u t T'.heap (locs ++ L) e1.symm (by rw [← e2]; exact X'.warmed.alike) hp hb k1 k2 k3 T' rfl X'
    exact ⟨t2, st t2 a1, b1⟩
  · obtain ⟨k1, k2, k3⟩ := vx_keep h0 e1 hS hAX hf hL hF
    obtain ⟨t2, a1, b1⟩ := kx E ce q u t T'.heap (locs ++ L) e1.symm (by rw [← e2]; exact X'.warmed.alike) hp hb k1 k2 k3 (by rw [e1]; exact hce) hcv hcl T' rfl X'
    exact ⟨t2, st.trans a1, b1⟩
/-- caught by the row x of this method's table; the rows ahead don't take it -/
theorem vx_catch {own name : String} {E : String} {ce : Cell} {q : Addr} (hown : s.vm.findClass own = some m.cls) (pre : List ExceptionTableEntry) (x : ExceptionTableEntry) (suf : List ExceptionTableEntry) (hsplit : c.exceptionTable.toList = pre ++ x :: suf)
    (hpass : ∀ z ∈ pre, covers z pc = false ∨ (z.catchType ≠ 0 ∧ ∃ nm : String, (Cond.classLink own z.catchType nm).before args s = true ∧ va_Nc E nm s)) (hx : covers x pc = true) (h0 : x.catchType ≠ 0)
    (hlink : (Cond.classLink own x.catchType name).before args s = true) (hcast : (Cond.castable E name).before args s = true) (hcell : H[q]? = some ce) (hv : ce.vm = .none) (hcl : s.vm.findClass E = some ce.cls)
    (kk : W p l e R s m args below meth c H locs cells slots Q (F0 m x.handlerPc ls [.ref q])) : vx_W p l e R s m args below meth c H locs cells slots Q (F0 m pc ls rest) q := by
  intro T hT X
  have hpl : e.platform.magicAccessors = ({} : Platform).magicAccessors := by rw [X.admits.platform]
  obtain ⟨c3, c4, hc3, hc4, hasg⟩ := Cond.castable_spec hcast
  cases Option.some.inj (hc3.symm.trans hcl)
  obtain ⟨c5, hc5, hcl5⟩ := Cond.classLink_spec hown hlink e.platform hpl
  cases Option.some.inj (hc4.symm.trans hc5)
  obtain ⟨vm', X', st⟩ := X.thenCaughtThrough q (g := F0 m pc ls rest) rfl (Steps.refl _) (by rw [hT]; exact hcell) (by rw [hv]; rfl) (by obtain ⟨k9, h9, -⟩ := Vm.findClass_spec hcl; exact ⟨k9, h9⟩) pre x suf hsplit
    (fun z hz => by
      rcases hpass z hz with h | ⟨hz0, nm, hl1, hn1⟩
      · exact Or.inl h
      · obtain ⟨c6, hc6, hcl6⟩ := Cond.classLink_spec hown hl1 e.platform hpl
        obtain ⟨a8, b8, h1, h2, h3⟩ := hn1
        cases Option.some.inj (h1.symm.trans hcl)
        cases Option.some.inj (h2.symm.trans hc6)
        exact Or.inr ⟨hz0, _, hcl6, h3⟩) hx (Or.inr ⟨h0, c4, hcl5, hasg⟩)
  obtain ⟨t, a1, b1⟩ := kk (T.setVm vm') hT X'
  exact ⟨t, st.trans a1, b1⟩
end Rows
section Ends
variable {p : Program} {l : Launch} {e : Env} {R : Room} {s : State} {m : MethodId} {args : Array Value} {below : List Frame} {meth : Method} {c : Code} {H : Heap} {locs : List Loc} {cells slots : Nat} {Q : State → Prop}
variable {mc ms : Nat} {free : Addr → Prop} {A0 A1 : Nat → Prop} {H0 : Heap} {a : Array Value} {ls : Array Slot} {st0 rest : List Value}
variable {Qc : Array Value → State → Outcome → State → Prop} {XC : String → State → State → Prop}
/-- what a body that may throw owes at its end -/
def vx_MQ (below : List Frame) (Qc : Array Value → State → Outcome → State → Prop) (XC : String → State → State → Prop) (a : Array Value) (s : State) (mc ms : Nat) (free : Addr → Prop) : State → Prop := fun t =>
  ∃ o, t.status = .running ∧ Ended t below o ∧ vx_Q Qc XC mc ms free a s o t
theorem vx_ret {g : JFrame} {mc ms : Nat} (k : W p l e R s m args below meth c H locs cells slots (MQ below Qc args s mc ms free) g) : W p l e R s m args below meth c H locs cells slots (vx_MQ below Qc XC args s mc ms free) g := by
  intro T hT X
  obtain ⟨t, a1, o, b1, b2, b3, b4⟩ := k T hT X
  exact ⟨t, a1, o, b1, b2, Or.inl ⟨b3, b4⟩⟩
/-- not caught here: it goes on to the caller -/
theorem vx_widen {g : JFrame} {q : Addr} {k n : Nat} (h1 : cells ≤ k) (h2 : slots ≤ n) (kk : vx_W p l e R s m args below meth c H locs k n Q g q) : vx_W p l e R s m args below meth c H locs cells slots Q g q := fun T hT X => kk T hT (stand_widen X h1 h2)
theorem vx_out {pc : Nat} {E : String} {ce : Cell} {q : Addr} {mc ms : Nat} (hout : ∀ x ∈ c.exceptionTable.toList, covers x pc = false) (hlocks : meth.locks = false) (hcell : H[q]? = some ce) (hv : ce.vm = .none) (hcl : s.vm.findClass E = some ce.cls)
    (hx : ∀ t : State, t.heap = H → s.vm.Alike t.vm → XC E s t) (hf : ∀ z ∈ locs, free z.base) (hc : cells ≤ mc) (hs : slots ≤ ms) :
    vx_W p l e R s m args below meth c H locs cells slots (vx_MQ below Qc XC args s mc ms free) (F0 m pc ls rest) q := by
  intro T hT X
  obtain ⟨st1, hrun, hend, hW, hsm⟩ := X.leaveThrown q (g := F0 m pc ls rest) rfl rfl rfl hout hlocks
  have hcell9 : (T.setFrames (.throwing q :: below)).heap[q]? = some ce := by
    show T.heap[q]? = some ce
    rw [hT]; exact hcell
  exact ⟨_, st1, .threw q, hrun, hend, Or.inr ⟨q, rfl, E, ce, locs, hx _ hT hW.alike, hcell9, hv, hcl, hW, hsm.mono hc hs, hf⟩⟩
theorem vx_frame {U : State} {k n : Nat} (h : s.sameButNew ({ U with vm := s.vm } : State) locs k n) : s.heap.size ≤ U.heap.size ∧ ∀ q : Nat, q < s.heap.size → (∀ z ∈ locs, z.base ≠ q) → U.heap[q]? = s.heap[q]? := by
  obtain ⟨-, h2, -, -, -, h6⟩ := h
  refine ⟨h2, fun q hq hz => ?_⟩
  obtain ⟨c9, e1, e2, e3, e4⟩ := h6 q _ (Array.getElem?_eq_getElem hq)
  have hs : c9.slots = (s.heap[q]).slots := Array.ext_getElem? fun i => e4 i fun hm => hz _ hm rfl
  have h9 : c9 = s.heap[q] := by
    rw [hs] at e2
    exact e2
  have e5 : U.heap[q]? = some c9 := e1
  rw [e5, h9, Array.getElem?_eq_getElem hq]
/-- the words of a throw but the four that speak of the heap -/
def vx_no (w : Cond) : Bool := decide (w ≠ .isRef (.static Bundle.tN "UNASSIGNED_STACK" Bundle.steD)) && decide (w ≠ .isRef (.static Bundle.tN "SUPPRESSED_SENTINEL" Bundle.listD)) && decide (w ≠ .laysStatic Bundle.tN "UNASSIGNED_STACK" Bundle.steD) && decide (w ≠ .laysStatic Bundle.tN "SUPPRESSED_SENTINEL" Bundle.listD)
def vx_at0 (own : String) (ic : Nat) (X : String) (names : List String) : List Cond := (Bundle.ownAtoms0 own ic X names).filter vx_no
def vx_atS (own : String) (ic : Nat) (X : String) (names : List String) : List Cond := (Bundle.ownAtoms own ic X names).filter vx_no
/-- a word that the tables alone decide, or a good one -/
def vx_ot (w : Cond) : Bool := w.onTables || goodWord w
theorem vx_ot_at {args a' : Array Value} {s U : State} {w : Cond} (hW : s.WarmedH U.vm) (hvm : s.vm = U.vm) (hg : vx_ot w = true) (h : w.before args s = true) : w.before a' U = true := by
  simp only [vx_ot, Bool.or_eq_true] at hg
  rcases hg with hg | hg
  · exact va_tabs hg hvm h
  · exact word_at hW (good_of_word hg) h
/-- a list's words: the good ones out of the method's own list, the others by premises of their own -/
theorem vx_hat {args : Array Value} {s : State} {L B : List Cond} (h1 : ∀ w ∈ L.filter goodWord, w.before args s = true) (h2 : ∀ w ∈ L.filter (fun w => !goodWord w), w ∈ B) (h3 : ∀ w ∈ B, w.before args s = true) : ∀ w ∈ L, w.before args s = true := by
  intro w hw
  by_cases g : goodWord w = true
  · exact h1 w (List.mem_filter.mpr ⟨hw, g⟩)
  · refine h3 w (h2 w (List.mem_filter.mpr ⟨hw, ?_⟩))
    show (!goodWord w) = true
    cases hgw : goodWord w
    · rfl
    · exact absurd hgw g
theorem vx_c {args : Array Value} {s : State} {w : Cond} {B : List Cond} (h : w.before args s = true) (t : ∀ w ∈ B, w.before args s = true) : ∀ w' ∈ w :: B, w'.before args s = true := fun w' h' => (List.mem_cons.mp h').elim (fun e => by rw [e]; exact h) (t w')
theorem vx_n {args : Array Value} {s : State} : ∀ w ∈ ([] : List Cond), w.before args s = true := fun _ h => nomatch h
theorem vx_own {args : Array Value} {s : State} {L : List Cond} (h1 : ∀ w ∈ L.filter vx_no, w.before args s = true)
    (hU : (Cond.isRef (.static Bundle.tN "UNASSIGNED_STACK" Bundle.steD)).before args s = true) (hN : (Cond.isRef (.static Bundle.tN "SUPPRESSED_SENTINEL" Bundle.listD)).before args s = true)
    (lU : (Cond.laysStatic Bundle.tN "UNASSIGNED_STACK" Bundle.steD).before args s = true) (lN : (Cond.laysStatic Bundle.tN "SUPPRESSED_SENTINEL" Bundle.listD).before args s = true) : ∀ w ∈ L, w.before args s = true := by
  intro w hw
  by_cases e1 : w = .isRef (.static Bundle.tN "UNASSIGNED_STACK" Bundle.steD)
  · rw [e1]; exact hU
  · by_cases e2 : w = .isRef (.static Bundle.tN "SUPPRESSED_SENTINEL" Bundle.listD)
    · rw [e2]; exact hN
    · by_cases e3 : w = .laysStatic Bundle.tN "UNASSIGNED_STACK" Bundle.steD
      · rw [e3]; exact lU
      · by_cases e4 : w = .laysStatic Bundle.tN "SUPPRESSED_SENTINEL" Bundle.listD
        · rw [e4]; exact lN
        · exact h1 w (List.mem_filter.mpr ⟨hw, by unfold vx_no; rw [decide_eq_true e1, decide_eq_true e2, decide_eq_true e3, decide_eq_true e4]; rfl⟩)
/-- where a static field lies, its class's statics cell in H -/
def vx_L (C n d : String) (A : Nat → Prop) (U : State) (H : Heap) : Prop := ∃ (c : ClassId) (k : Class) (i : Nat) (f : Field) (a : Nat) (cell : Cell), U.vm.findClass C = some c ∧ U.fieldFound? C n d = some (c, k, i, f) ∧ f.isStatic = true ∧ k.statics = some a ∧ H[a]? = some cell ∧ cell.vm.isStatics = true ∧ cell.cls = c ∧ f.slot < cell.slots.size ∧ k.staticTypes[f.slot]? = some f.type ∧ ¬ A a
theorem vx_L.moved {C n d : String} {A : Nat → Prop} {u U : State} {H : Heap} (hvm : u.vm.Alike U.vm) (h : vx_L C n d A u H) : vx_L C n d A U H := by
  obtain ⟨c, k, i, f, a, cell, h1, h2, h3, h4, h5, h6, h7, h8, h9, h10⟩ := h
  obtain ⟨k', hi', he⟩ := State.fieldFound?_setVm hvm h2
  exact ⟨c, k', i, f, a, cell, by rw [hvm.findClass]; exact h1, hi', h3, by rw [he]; exact h4, h5, h6, h7, h8, by rw [he]; exact h9, h10⟩
theorem vx_L.kept {C n d : String} {A : Nat → Prop} {U : State} {H H1 : Heap} (h : vx_L C n d A U H) (hq : ∀ a : Nat, a < H.size → ¬ A a → H1[a]? = H[a]?) : vx_L C n d A U H1 := by
  obtain ⟨c, k, i, f, a, cell, h1, h2, h3, h4, h5, h6, h7, h8, h9, h10⟩ := h
  exact ⟨c, k, i, f, a, cell, h1, h2, h3, h4, by rw [hq a (Array.getElem?_eq_some_iff.mp h5).1 h10]; exact h5, h6, h7, h8, h9, h10⟩
theorem vx_L.narrow {C n d : String} {A B : Nat → Prop} {U : State} {H : Heap} (h : vx_L C n d A U H) (hAB : ∀ q, B q → A q) : vx_L C n d B U H := by
  obtain ⟨c, k, i, f, a, cell, h1, h2, h3, h4, h5, h6, h7, h8, h9, h10⟩ := h
  exact ⟨c, k, i, f, a, cell, h1, h2, h3, h4, h5, h6, h7, h8, h9, fun z => h10 (hAB _ z)⟩
theorem vx_L.word {C n d : String} {A : Nat → Prop} {s : State} {args : Array Value} (h : vx_L C n d A s s.heap) : (Cond.laysStatic C n d).before args s = true := by
  obtain ⟨c, k, i, f, a, cell, h1, h2, h3, h4, h5, h6, h7, h8, h9, -⟩ := h
  show (Cond.laysStatic C n d).holds args s none s [] = true
  exact Cond.laysStatic_of h1 h2 h3 h4 h5 h6 h7 h8 h9
/-- .. and what it holds: null or some reference -/
def vx_Zq (C n d : String) (A : Nat → Prop) (U : State) (H : Heap) : Prop := va_Zq C n d A U H ∧ vx_L C n d A U H
theorem vx_Zq.moved {C n d : String} {A : Nat → Prop} {u U : State} {H : Heap} (hvm : u.vm.Alike U.vm) (h : vx_Zq C n d A u H) : vx_Zq C n d A U H := ⟨va_Zq.moved hvm h.1, vx_L.moved hvm h.2⟩
theorem vx_Zq.kept {C n d : String} {A : Nat → Prop} {U : State} {H H1 : Heap} (h : vx_Zq C n d A U H) (hq : ∀ a : Nat, a < H.size → ¬ A a → H1[a]? = H[a]?) : vx_Zq C n d A U H1 := ⟨va_Zq.kept h.1 hq, vx_L.kept h.2 hq⟩
theorem vx_Zq.narrow {C n d : String} {A B : Nat → Prop} {U : State} {H : Heap} (h : vx_Zq C n d A U H) (hAB : ∀ q, B q → A q) : vx_Zq C n d B U H := ⟨va_Zq.narrow h.1 hAB, vx_L.narrow h.2 hAB⟩
theorem vx_Zqof {args : Array Value} {s : State} {C n d : String} {A : Nat → Prop} (hl : (Cond.laysStatic C n d).before args s = true) (hini : (Cond.initialized C).before args s = true) (h : (Cond.isRef (.static C n d)).before args s = true) (hA : ∀ a : Nat, a < s.heap.size → ¬ A a) : vx_Zq C n d A s s.heap := by
  refine ⟨va_Zqof hl hini h hA, ?_⟩
  obtain ⟨c, k, i, f, a, cell, h1, h2, h3, h4, h5, h6, h7, h8, h9⟩ := Cond.laysStatic_spec hl
  exact ⟨c, k, i, f, a, cell, h1, h2, h3, h4, h5, h6, h7, h8, h9, hA a (Array.getElem?_eq_some_iff.mp h5).1⟩
theorem vx_isRef {C n d : String} {v : Value} {A : Nat → Prop} {s : State} {args : Array Value} (h : va_Z C n d v A s s.heap) (hv : v.isRef = true) : (Cond.isRef (.static C n d)).before args s = true := by
  obtain ⟨cf, kf, fi, f, a, cell, h1, h2, h3, h4, h5, h6, h7, -⟩ := h
  have he : (Term.static C n d).eval args s none [] s = some v := by
    simp [Term.eval, State.fieldNamed?, h1, h2, h4, h5, h6, h7]
  simp only [Cond.before, Cond.holds, Cond.value, he]
  cases v <;> simp_all [Value.isRef]
theorem vx_isRefq {C n d : String} {A : Nat → Prop} {s : State} {args : Array Value} (h : va_Zq C n d A s s.heap) : (Cond.isRef (.static C n d)).before args s = true := by
  rcases h with h | ⟨t, h⟩
  · exact vx_isRef h rfl
  · exact vx_isRef h rfl
/-- the same frame, seen from here: as if the method were called anew in this heap -/
theorem vx_rebase {T : State} (X : Stand p l e R s m args below meth c T locs cells slots) {R' : Room} (hf : R'.frames ≤ R.frames) (hl : R'.locals ≤ R.locals) (hc : cells + R'.cells ≤ R.cells) (hs : slots + R'.slots ≤ R.slots) :
    Stand p l e R' ((T.setVm s.vm).setFrames (.invoking m args :: below)) m args below meth c T [] 0 0 := by
  have htop : (T.setVm s.vm).topJava?.isSome := X.here.top
  have hF : ((T.setVm s.vm).setFrames (.invoking m args :: below)).frames = .invoking m args :: below := State.frames_setFrames _ (State.cur_lt_of_top htop)
  obtain ⟨g₀, hg0⟩ := Option.isSome_iff_exists.mp htop
  obtain ⟨r, hr⟩ := State.topJava?_eq_some.mp hg0
  have hl9 : e.platform.stackLimits (T.setVm s.vm).me = e.platform.stackLimits s.me := X.limits
  have hb9 : (T.setVm s.vm).me.stackBytes = s.me.stackBytes := X.bytes
  refine ⟨X.admits, X.cas, X.clock, hF, ?_, X.hears, X.method, X.code, X.here, X.tail, X.warmed, ?_, ?_, ?_⟩
  · have h := X.room
    have hU : ((T.setVm s.vm).setFrames (.invoking m args :: below)).localsInUse = s.localsInUse := by
      rw [State.localsInUse_invoking hF (meth := meth) (c := c) X.method X.code, State.localsInUse_invoking X.frames X.method X.code]
    simp only [State.hasRoom, Bool.and_eq_true, decide_eq_true_eq] at h ⊢
    obtain ⟨⟨⟨⟨h1, h2, h3, h4, h5, h6⟩, h7⟩, h8⟩, h9⟩ := h
    rw [X.frames, List.length_cons] at h2 h3
    have q1 := X.heapSize
    have q2 := X.used
    simp only [hF, hU, List.length_cons, State.stackLimits_setFrames, State.stackBytes_setFrames, hl9, hb9]
    refine ⟨⟨⟨⟨by omega, by omega, by omega, by omega, by omega, h6⟩, ?_⟩, ?_⟩, X.book⟩
    · show T.heap.size + R'.cells ≤ e.platform.maxCells
      omega
    · show T.slotsUsed + R'.slots ≤ e.platform.maxSlots
      omega
  · rw [State.stackLimits_setFrames]; rfl
  · rw [State.stackBytes_setFrames]; rfl
  · refine ⟨?_, Nat.le_refl _, Nat.le_refl _, ?_, ?_, fun a c9 h9 => ⟨c9, h9, rfl, rfl, fun _ _ => rfl⟩⟩
    · obtain ⟨t, ht, -⟩ := State.frames_cons hr
      show T.setVm s.vm = { ((T.setVm s.vm).setFrames (.invoking m args :: below)).setFrames (T.setVm s.vm).frames with heap := T.heap, slotsUsed := T.slotsUsed }
      rw [State.setFrames_setFrames, State.setFrames_self ht]
      rfl
    · show T.slotsUsed = T.slotsUsed + ((T.heap.toList.drop T.heap.size).map (·.slots.size)).sum
      rw [List.drop_eq_nil_of_le (Nat.le_of_eq Array.length_toList)]
      rfl
    · show ((T.heap.toList.drop T.heap.size).map (·.slots.size)).sum ≤ 0
      rw [List.drop_eq_nil_of_le (Nat.le_of_eq Array.length_toList)]
      exact Nat.le_refl _
/-- 'throw new E()': new; dup; invokespecial; athrow -/
theorem vx_throw0 {cc : ByteArray} {pc : Nat} (hexec : p.tables.exec = Jvm.exec) (hb : c.code = cc) (hl : l.stackTraces = false) {own cls : String} {names : List String} {ik ic mc ms : Nat} {A : Nat → Prop}
    (hown : s.vm.findClass own = some m.cls) (hcls : Bundle.fit cls = true) (hnames : ∀ n ∈ names, Bundle.fit n = true)
    (hk : (Cond.classLink own ik cls).before args s = true) (hini : (Cond.initialized cls).before args s = true) (hat : ∀ w ∈ vx_at0 own ic cls names, w.before args s = true)
    (hgood : ∀ w ∈ Cond.classLink own ik cls :: Cond.initialized cls :: vx_at0 own ic cls names, vx_ot w = true)
    (hU : vx_Zq Bundle.tN "UNASSIGNED_STACK" Bundle.steD A s s.heap) (hN : vx_Zq Bundle.tN "SUPPRESSED_SENTINEL" Bundle.listD A s s.heap) (hS : va_S A s.heap H locs) (hsize : ls.size = c.maxLocals)
    (d0 : decode cc pc = .ok (.new ik, 3)) (d3 : decode cc (pc + 3) = .ok (.dup, 1)) (d4 : decode cc (pc + 4) = .ok (.invokespecial ic, 3)) (d7 : decode cc (pc + 7) = .ok (.athrow, 1))
    (hout : ∀ x ∈ c.exceptionTable.toList, covers x (pc + 7) = false)
    (hRframes : names.length + 3 < R.frames) (hRlocals : (rest.map fun v => v.category).sum + (13 * (names.length + 1) + 42) ≤ R.locals) (hRcells : cells + 1 ≤ R.cells) (hRslots : slots + 6 ≤ R.slots) (hlocks : meth.locks = false)
    (hx : ∀ t : State, s.vm.Alike t.vm → H.size ≤ t.heap.size → (∀ q : Nat, q < H.size → t.heap[q]? = H[q]?) → XC cls s t)
    (hf : ∀ z ∈ locs, free z.base) (hc : cells + 1 ≤ mc) (hs : slots + 6 ≤ ms) :
    W p l e R s m args below meth c H locs cells slots (vx_MQ below Qc XC args s mc ms free) (F0 m pc ls rest) := by
  intro T hT X
  have htr : e.platform.stackTraces = false := (show e.platform.stackTraces = l.stackTraces by rw [X.admits.platform]).trans hl
  have Y := vx_rebase X (R' := { frames := R.frames, locals := R.locals, cells := 1, slots := 6 }) (Nat.le_refl _) (Nat.le_refl _) hRcells hRslots
  obtain ⟨s', hA⟩ : ∃ z, z = (T.setVm s.vm).setFrames (.invoking m args :: below) := ⟨_, rfl⟩
  rw [← hA] at Y
  have hvm : s'.vm = s.vm := by rw [hA]; rfl
  have hhp : s'.heap = H := by rw [hA]; exact hT
  have hW0 : s.WarmedH s'.vm := by rw [hvm]; exact State.WarmedH.refl s
  have hat' : ∀ w ∈ vx_at0 own ic cls names, w.before args s' = true := fun w hw => vx_ot_at hW0 hvm.symm (hgood w (List.mem_cons_of_mem _ (List.mem_cons_of_mem _ hw))) (hat w hw)
  have hk' : (Cond.classLink own ik cls).before args s' = true := vx_ot_at hW0 hvm.symm (hgood _ List.mem_cons_self) hk
  have hini' : (Cond.initialized cls).before args s' = true := vx_ot_at hW0 hvm.symm (hgood _ (List.mem_cons_of_mem _ List.mem_cons_self)) hini
  have hU' : vx_Zq Bundle.tN "UNASSIGNED_STACK" Bundle.steD A s' s'.heap := by rw [hhp]; exact vx_Zq.moved hW0.alike (hU.kept hS.2.1)
  have hN' : vx_Zq Bundle.tN "SUPPRESSED_SENTINEL" Bundle.listD A s' s'.heap := by rw [hhp]; exact vx_Zq.moved hW0.alike (hN.kept hS.2.1)
  have h : ∀ w ∈ Bundle.ownAtoms0 own ic cls names, w.before args s' = true := vx_own hat' (vx_isRefq hU'.1) (vx_isRefq hN'.1) hU'.2.word hN'.2.word
  have hown' : s'.vm.findClass own = some m.cls := by rw [hvm]; exact hown
  have hins : (Cond.instantiable cls 6).before args s' = true := h _ (by simp [Bundle.ownAtoms0])
  obtain ⟨vm₁, cX, kX, hfX, hkX, -, -, X₁, st1⟩ := Y.newCold hexec (own := own) (C := cls) (index := ik) (n := 6) hown' hk' hins hini'
    (g := F0 m pc ls rest) rfl (by rw [hb]; exact d0) (Nat.le_refl _) (Nat.le_refl _)
  generalize hT1 : (T.setVm vm₁).pushCell { cls := cX, slots := kX.instanceTypes.map defaultValue, vm := .none } = T1 at X₁ st1
  have hcat : (Value.ref T.heap.size).category = 1 := rfl
  have hcellA : T1.heap[T.heap.size]? = some (freshCell cX kX) := by rw [← hT1]; exact State.heap_pushCell_size _ _
  have d3' : decode c.code (pc + 3) = .ok (.dup, 1) := by rw [hb]; exact d3
  obtain ⟨U, hsteps, hrun, hend, hW, hsame, ce, hce, hO⟩ := X₁.ctorThrow0 hexec htr (own := own) (cls := cls) (names := names) (ic := ic) hown' hcls hnames h (fun x hx => nomatch hx) hfX hkX hcellA (by rw [hhp, hT]; exact Nat.le_refl _)
    (g := { method := m, pc := pc + 4, locals := ls, stack := .ref T.heap.size :: .ref T.heap.size :: rest, locked := none }) rfl hsize rfl rfl (rest := rest) rfl
    (by rw [hb]; exact d4) (by rw [hb]; exact d7) hout hRframes (by simp only [List.map_cons, List.sum_cons, hcat]; omega) hlocks
  obtain ⟨f1, f2⟩ := vx_frame hsame
  rw [hhp] at f1 f2
  have hWs : s.WarmedH U.vm := State.WarmedH.trans hW0 hW
  have hcl : s.vm.findClass cls = some ce.cls := by
    have h9 := hO.cls
    rw [hvm] at h9
    exact h9
  have hall : s.sameButNew ({ U with vm := s.vm } : State) locs mc ms := by
    subst hA
    obtain ⟨e1, e2⟩ := hsame
    rw [State.setFrames_setFrames] at e1
    have h2 : (T.setVm s.vm).sameButNew ({ U with vm := s.vm } : State) [] (0 + 1) (0 + 6) := ⟨e1, e2⟩
    have h3 := X.same.trans h2
    rw [List.append_nil] at h3
    exact h3.mono hc hs
  refine ⟨U, ?_, .threw T.heap.size, hrun, hend, Or.inr ⟨T.heap.size, rfl, cls, ce, locs, hx U hWs.alike f1 (fun q hq => f2 q hq (fun z hz => nomatch hz)), hce, hO.vm, hcl, hWs, hall, hf⟩⟩
  refine st1 _ ?_
  show Steps p.tables e below (T1.setTop { method := m, pc := pc + 3, locals := ls, stack := .ref T.heap.size :: rest, locked := none }) _
  jvm_step X₁.here [X₁.here.top, hexec, d3', Value.category]
  exact hsteps
/-- 'throw new E("text")': new; dup; ldc; invokespecial; athrow -/
theorem vx_throwS {cc : ByteArray} {pc : Nat} (hexec : p.tables.exec = Jvm.exec) (hb : c.code = cc) (hl : l.stackTraces = false) {own cls text : String} {names : List String} {ik is ic mc ms sa : Nat} {A : Nat → Prop}
    (hown : s.vm.findClass own = some m.cls) (hcls : Bundle.fit cls = true) (hnames : ∀ n ∈ names, Bundle.fit n = true)
    (hk : (Cond.classLink own ik cls).before args s = true) (hini : (Cond.initialized cls).before args s = true) (hstr : vk_R own is text sa s) (hat : ∀ w ∈ vx_atS own ic cls names, w.before args s = true)
    (hgood : ∀ w ∈ Cond.classLink own ik cls :: Cond.initialized cls :: vx_atS own ic cls names, vx_ot w = true)
    (hU : vx_Zq Bundle.tN "UNASSIGNED_STACK" Bundle.steD A s s.heap) (hN : vx_Zq Bundle.tN "SUPPRESSED_SENTINEL" Bundle.listD A s s.heap) (hS : va_S A s.heap H locs) (hsize : ls.size = c.maxLocals)
    (d0 : decode cc pc = .ok (.new ik, 3)) (d3 : decode cc (pc + 3) = .ok (.dup, 1)) (d4 : decode cc (pc + 4) = .ok (.ldc is, 2)) (d6 : decode cc (pc + 6) = .ok (.invokespecial ic, 3)) (d9 : decode cc (pc + 9) = .ok (.athrow, 1))
    (hout : ∀ x ∈ c.exceptionTable.toList, covers x (pc + 9) = false)
    (hRframes : names.length + 3 < R.frames) (hRlocals : (rest.map fun v => v.category).sum + (13 * (names.length + 1) + 43) ≤ R.locals) (hRcells : cells + 1 ≤ R.cells) (hRslots : slots + 6 ≤ R.slots) (hlocks : meth.locks = false)
    (hx : ∀ t : State, s.vm.Alike t.vm → H.size ≤ t.heap.size → (∀ q : Nat, q < H.size → t.heap[q]? = H[q]?) → XC cls s t)
    (hf : ∀ z ∈ locs, free z.base) (hc : cells + 1 ≤ mc) (hs : slots + 6 ≤ ms) :
    W p l e R s m args below meth c H locs cells slots (vx_MQ below Qc XC args s mc ms free) (F0 m pc ls rest) := by
  intro T hT X
  have htr : e.platform.stackTraces = false := (show e.platform.stackTraces = l.stackTraces by rw [X.admits.platform]).trans hl
  have Y := vx_rebase X (R' := { frames := R.frames, locals := R.locals, cells := 1, slots := 6 }) (Nat.le_refl _) (Nat.le_refl _) hRcells hRslots
  obtain ⟨s', hA⟩ : ∃ z, z = (T.setVm s.vm).setFrames (.invoking m args :: below) := ⟨_, rfl⟩
  rw [← hA] at Y
  have hvm : s'.vm = s.vm := by rw [hA]; rfl
  have hhp : s'.heap = H := by rw [hA]; exact hT
  have hW0 : s.WarmedH s'.vm := by rw [hvm]; exact State.WarmedH.refl s
  have hat' : ∀ w ∈ vx_atS own ic cls names, w.before args s' = true := fun w hw => vx_ot_at hW0 hvm.symm (hgood w (List.mem_cons_of_mem _ (List.mem_cons_of_mem _ hw))) (hat w hw)
  have hk' : (Cond.classLink own ik cls).before args s' = true := vx_ot_at hW0 hvm.symm (hgood _ List.mem_cons_self) hk
  have hini' : (Cond.initialized cls).before args s' = true := vx_ot_at hW0 hvm.symm (hgood _ (List.mem_cons_of_mem _ List.mem_cons_self)) hini
  have hU' : vx_Zq Bundle.tN "UNASSIGNED_STACK" Bundle.steD A s' s'.heap := by rw [hhp]; exact vx_Zq.moved hW0.alike (hU.kept hS.2.1)
  have hN' : vx_Zq Bundle.tN "SUPPRESSED_SENTINEL" Bundle.listD A s' s'.heap := by rw [hhp]; exact vx_Zq.moved hW0.alike (hN.kept hS.2.1)
  have h : ∀ w ∈ Bundle.ownAtoms own ic cls names, w.before args s' = true := vx_own hat' (vx_isRefq hU'.1) (vx_isRefq hN'.1) hU'.2.word hN'.2.word
  have hown' : s'.vm.findClass own = some m.cls := by rw [hvm]; exact hown
  have hins : (Cond.instantiable cls 6).before args s' = true := h _ (by simp [Bundle.ownAtoms])
  obtain ⟨vm₁, cX, kX, hfX, hkX, -, -, X₁, st1⟩ := Y.newCold hexec (own := own) (C := cls) (index := ik) (n := 6) hown' hk' hins hini'
    (g := F0 m pc ls rest) rfl (by rw [hb]; exact d0) (Nat.le_refl _) (Nat.le_refl _)
  generalize hT1 : (T.setVm vm₁).pushCell { cls := cX, slots := kX.instanceTypes.map defaultValue, vm := .none } = T1 at X₁ st1
  have hcat : (Value.ref T.heap.size).category = 1 := rfl
  have hcellA : T1.heap[T.heap.size]? = some (freshCell cX kX) := by rw [← hT1]; exact State.heap_pushCell_size _ _
  have d3' : decode c.code (pc + 3) = .ok (.dup, 1) := by rw [hb]; exact d3
  have d4' : decode c.code (pc + 4) = .ok (.ldc is, 2) := by rw [hb]; exact d4
  have hstr' : vk_R own is text sa s' := vk_R.warm hW0 hstr
  obtain ⟨U, hsteps, hrun, hend, hW, hsame, ce, hce, hO⟩ := X₁.ctorThrowS hexec htr (own := own) (cls := cls) (names := names) (ic := ic) hown' hcls hnames h (fun x hx => nomatch hx) hfX hkX hcellA (by rw [hhp, hT]; exact Nat.le_refl _) (msg := .ref sa) rfl
    (g := { method := m, pc := pc + 6, locals := ls, stack := .ref sa :: .ref T.heap.size :: .ref T.heap.size :: rest, locked := none }) rfl hsize rfl rfl (rest := rest) rfl
    (by rw [hb]; exact d6) (by rw [hb]; exact d9) hout hRframes (by simp only [List.map_cons, List.sum_cons, hcat]; omega) hlocks
  obtain ⟨f1, f2⟩ := vx_frame hsame
  rw [hhp] at f1 f2
  have hWs : s.WarmedH U.vm := State.WarmedH.trans hW0 hW
  have hcl : s.vm.findClass cls = some ce.cls := by
    have h9 := hO.cls
    rw [hvm] at h9
    exact h9
  have hall : s.sameButNew ({ U with vm := s.vm } : State) locs mc ms := by
    subst hA
    obtain ⟨e1, e2⟩ := hsame
    rw [State.setFrames_setFrames] at e1
    have h2 : (T.setVm s.vm).sameButNew ({ U with vm := s.vm } : State) [] (0 + 1) (0 + 6) := ⟨e1, e2⟩
    have h3 := X.same.trans h2
    rw [List.append_nil] at h3
    exact h3.mono hc hs
  refine ⟨U, ?_, .threw T.heap.size, hrun, hend, Or.inr ⟨T.heap.size, rfl, cls, ce, locs, hx U hWs.alike f1 (fun q hq => f2 q hq (fun z hz => nomatch hz)), hce, hO.vm, hcl, hWs, hall, hf⟩⟩
  refine st1 _ ?_
  show Steps p.tables e below (T1.setTop { method := m, pc := pc + 3, locals := ls, stack := .ref T.heap.size :: rest, locked := none }) _
  jvm_step X₁.here [X₁.here.top, hexec, d3', Value.category]
  exact X₁.ldcString hexec (own := own) (text := text) (index := is) (a := sa) hown' hstr'.1 hstr'.2
    (g := { method := m, pc := pc + 4, locals := ls, stack := .ref T.heap.size :: .ref T.heap.size :: rest, locked := none }) rfl d4' _ hsteps
/-- 'throw new E("text")', the text by a wide index -/
theorem vx_throwSW {cc : ByteArray} {pc : Nat} (hexec : p.tables.exec = Jvm.exec) (hb : c.code = cc) (hl : l.stackTraces = false) {own cls text : String} {names : List String} {ik is ic mc ms sa : Nat} {A : Nat → Prop}
    (hown : s.vm.findClass own = some m.cls) (hcls : Bundle.fit cls = true) (hnames : ∀ n ∈ names, Bundle.fit n = true)
    (hk : (Cond.classLink own ik cls).before args s = true) (hini : (Cond.initialized cls).before args s = true) (hstr : vk_R own is text sa s) (hat : ∀ w ∈ vx_atS own ic cls names, w.before args s = true)
    (hgood : ∀ w ∈ Cond.classLink own ik cls :: Cond.initialized cls :: vx_atS own ic cls names, vx_ot w = true)
    (hU : vx_Zq Bundle.tN "UNASSIGNED_STACK" Bundle.steD A s s.heap) (hN : vx_Zq Bundle.tN "SUPPRESSED_SENTINEL" Bundle.listD A s s.heap) (hS : va_S A s.heap H locs) (hsize : ls.size = c.maxLocals)
    (d0 : decode cc pc = .ok (.new ik, 3)) (d3 : decode cc (pc + 3) = .ok (.dup, 1)) (d4 : decode cc (pc + 4) = .ok (.ldc_w is, 3)) (d7 : decode cc (pc + 7) = .ok (.invokespecial ic, 3)) (d10 : decode cc (pc + 10) = .ok (.athrow, 1))
    (hout : ∀ x ∈ c.exceptionTable.toList, covers x (pc + 10) = false)
    (hRframes : names.length + 3 < R.frames) (hRlocals : (rest.map fun v => v.category).sum + (13 * (names.length + 1) + 43) ≤ R.locals) (hRcells : cells + 1 ≤ R.cells) (hRslots : slots + 6 ≤ R.slots) (hlocks : meth.locks = false)
    (hx : ∀ t : State, s.vm.Alike t.vm → H.size ≤ t.heap.size → (∀ q : Nat, q < H.size → t.heap[q]? = H[q]?) → XC cls s t)
    (hf : ∀ z ∈ locs, free z.base) (hc : cells + 1 ≤ mc) (hs : slots + 6 ≤ ms) :
    W p l e R s m args below meth c H locs cells slots (vx_MQ below Qc XC args s mc ms free) (F0 m pc ls rest) := by
  intro T hT X
  have htr : e.platform.stackTraces = false := (show e.platform.stackTraces = l.stackTraces by rw [X.admits.platform]).trans hl
  have Y := vx_rebase X (R' := { frames := R.frames, locals := R.locals, cells := 1, slots := 6 }) (Nat.le_refl _) (Nat.le_refl _) hRcells hRslots
  obtain ⟨s', hA⟩ : ∃ z, z = (T.setVm s.vm).setFrames (.invoking m args :: below) := ⟨_, rfl⟩
  rw [← hA] at Y
  have hvm : s'.vm = s.vm := by rw [hA]; rfl
  have hhp : s'.heap = H := by rw [hA]; exact hT
  have hW0 : s.WarmedH s'.vm := by rw [hvm]; exact State.WarmedH.refl s
  have hat' : ∀ w ∈ vx_atS own ic cls names, w.before args s' = true := fun w hw => vx_ot_at hW0 hvm.symm (hgood w (List.mem_cons_of_mem _ (List.mem_cons_of_mem _ hw))) (hat w hw)
  have hk' : (Cond.classLink own ik cls).before args s' = true := vx_ot_at hW0 hvm.symm (hgood _ List.mem_cons_self) hk
  have hini' : (Cond.initialized cls).before args s' = true := vx_ot_at hW0 hvm.symm (hgood _ (List.mem_cons_of_mem _ List.mem_cons_self)) hini
  have hU' : vx_Zq Bundle.tN "UNASSIGNED_STACK" Bundle.steD A s' s'.heap := by rw [hhp]; exact vx_Zq.moved hW0.alike (hU.kept hS.2.1)
  have hN' : vx_Zq Bundle.tN "SUPPRESSED_SENTINEL" Bundle.listD A s' s'.heap := by rw [hhp]; exact vx_Zq.moved hW0.alike (hN.kept hS.2.1)
  have h : ∀ w ∈ Bundle.ownAtoms own ic cls names, w.before args s' = true := vx_own hat' (vx_isRefq hU'.1) (vx_isRefq hN'.1) hU'.2.word hN'.2.word
  have hown' : s'.vm.findClass own = some m.cls := by rw [hvm]; exact hown
  have hins : (Cond.instantiable cls 6).before args s' = true := h _ (by simp [Bundle.ownAtoms])
  obtain ⟨vm₁, cX, kX, hfX, hkX, -, -, X₁, st1⟩ := Y.newCold hexec (own := own) (C := cls) (index := ik) (n := 6) hown' hk' hins hini'
    (g := F0 m pc ls rest) rfl (by rw [hb]; exact d0) (Nat.le_refl _) (Nat.le_refl _)
  generalize hT1 : (T.setVm vm₁).pushCell { cls := cX, slots := kX.instanceTypes.map defaultValue, vm := .none } = T1 at X₁ st1
  have hcat : (Value.ref T.heap.size).category = 1 := rfl
  have hcellA : T1.heap[T.heap.size]? = some (freshCell cX kX) := by rw [← hT1]; exact State.heap_pushCell_size _ _
  have d3' : decode c.code (pc + 3) = .ok (.dup, 1) := by rw [hb]; exact d3
  have d4' : decode c.code (pc + 4) = .ok (.ldc_w is, 3) := by rw [hb]; exact d4
  have hstr' : vk_R own is text sa s' := vk_R.warm hW0 hstr
  obtain ⟨U, hsteps, hrun, hend, hW, hsame, ce, hce, hO⟩ := X₁.ctorThrowS hexec htr (own := own) (cls := cls) (names := names) (ic := ic) hown' hcls hnames h (fun x hx => nomatch hx) hfX hkX hcellA (by rw [hhp, hT]; exact Nat.le_refl _) (msg := .ref sa) rfl
    (g := { method := m, pc := pc + 7, locals := ls, stack := .ref sa :: .ref T.heap.size :: .ref T.heap.size :: rest, locked := none }) rfl hsize rfl rfl (rest := rest) rfl
    (by rw [hb]; exact d7) (by rw [hb]; exact d10) hout hRframes (by simp only [List.map_cons, List.sum_cons, hcat]; omega) hlocks
  obtain ⟨f1, f2⟩ := vx_frame hsame
  rw [hhp] at f1 f2
  have hWs : s.WarmedH U.vm := State.WarmedH.trans hW0 hW
  have hcl : s.vm.findClass cls = some ce.cls := by
    have h9 := hO.cls
    rw [hvm] at h9
    exact h9
  have hall : s.sameButNew ({ U with vm := s.vm } : State) locs mc ms := by
    subst hA
    obtain ⟨e1, e2⟩ := hsame
    rw [State.setFrames_setFrames] at e1
    have h2 : (T.setVm s.vm).sameButNew ({ U with vm := s.vm } : State) [] (0 + 1) (0 + 6) := ⟨e1, e2⟩
    have h3 := X.same.trans h2
    rw [List.append_nil] at h3
    exact h3.mono hc hs
  refine ⟨U, ?_, .threw T.heap.size, hrun, hend, Or.inr ⟨T.heap.size, rfl, cls, ce, locs, hx U hWs.alike f1 (fun q hq => f2 q hq (fun z hz => nomatch hz)), hce, hO.vm, hcl, hWs, hall, hf⟩⟩
  refine st1 _ ?_
  show Steps p.tables e below (T1.setTop { method := m, pc := pc + 3, locals := ls, stack := .ref T.heap.size :: rest, locked := none }) _
  jvm_step X₁.here [X₁.here.top, hexec, d3', Value.category]
  exact X₁.ldcStringW hexec (own := own) (text := text) (index := is) (a := sa) hown' hstr'.1 hstr'.2
    (g := { method := m, pc := pc + 4, locals := ls, stack := .ref T.heap.size :: .ref T.heap.size :: rest, locked := none }) rfl d4' _ hsteps
end Ends
section Bodies
variable {l : Launch}
theorem vx_ofW {y : MethodName} {ws ws' : List Cond} {rm : Room} {Pc : Array Value → State → Prop} {Qc : Array Value → State → Outcome → State → Prop} {XC : String → State → State → Prop} {mc ms : Nat} {free : Addr → Prop} {cc : ByteArray} {maxL : Nat} {ret : Option FieldType}
    (hy : plainName y.cls = true) (hw : ws = Cond.code y cc maxL ret :: ws')
    (body : ∀ p e s m args below meth c s₁, BodyLoose p l y (headSpec ws rm) cc maxL ret e s m args below meth c s₁ → c.maxLocals = maxL → (∀ x ∈ c.exceptionTable.toList, False) → Pc args s →
      W p l e (headSpec ws rm).room s m args below meth c s.heap [] 0 0 (vx_MQ below Qc XC args s mc ms free) (entryFrame m args maxL)) : vx_Met l y ws rm Pc Qc XC mc ms free := by
  refine MetFree.of_bodyS (code := cc) (maxLocals := maxL) (ret := ret) hy ?_ ?_
  · intro args s m h hn
    obtain ⟨meth, c, h1, h2, h3, h4, h5, h6, -, -⟩ := Cond.code_spec hn (atoms_spec (ws := ws) h _ (by rw [hw]; exact List.mem_cons_self))
    exact ⟨meth, c, h1, h2, h3, h4, h5, h6⟩
  · intro p e s m args below meth c s₁ B hml hP _
    have hh0 : s₁.heap = s.heap := by rw [B.state]; rfl
    have ht : ∀ x ∈ c.exceptionTable.toList, False := by
      obtain ⟨meth9, c9, h1, h2, -, -, -, -, h7, -⟩ := Cond.code_spec B.named (atoms_spec (ws := ws) B.pre _ (by rw [hw]; exact List.mem_cons_self))
      cases Option.some.inj (h1.symm.trans B.method)
      cases Option.some.inj (h2.symm.trans (Stand.of_body B).code)
      intro x hx
      rw [Array.isEmpty_iff.mp h7] at hx
      cases hx
    obtain ⟨t, a1, o, b1, b2, b3⟩ := body p e s m args below meth c s₁ B hml ht hP s₁ hh0 (Stand.of_body B)
    exact ⟨t, o, a1, b1, b2, b3⟩
/-- the table of a body with handlers -/
theorem vx_table {p : Program} {x y : MethodName} {S : Spec} {cc bytes : ByteArray} {maxL maxL' : Nat} {ret ret' : Option FieldType} {e : Env} {s s₁ : State} {m : MethodId} {args : Array Value} {below : List Frame} {meth : Method} {c : Code} {hh : List (Nat × Nat × Nat × Nat)}
    (B : BodyLoose p l y S cc maxL ret e s m args below meth c s₁) (h : (Cond.codeWith y bytes maxL' ret' hh).before args s = true) : c.exceptionTable.toList = tableOf hh := by
  obtain ⟨m9, meth9, c9, hn9, h1, h2, -, -, h6, -⟩ := Cond.codeWith_spec h
  cases Option.some.inj (hn9.symm.trans B.named)
  cases Option.some.inj (h1.symm.trans B.method)
  cases Option.some.inj (h2.symm.trans (Stand.of_body B).code)
  rw [← h6, table_eq]
end Bodies
end VXA
/-! ===== END ===== -/
/-! ===== BEGIN a static call of a method with an exception table ===== -/
section VXS
variable {p : Program} {l : Launch} {e : Env} {R : Room} {s : State} {m : MethodId} {args : Array Value} {below : List Frame} {meth : Method} {c : Code} {T : State} {H : Heap} {locs : List Loc} {cells slots : Nat}
abbrev vx_CSW (R : Room) (s : State) (args : Array Value) (own : String) (index : Nat) (y : MethodName) (bytes : ByteArray) (maxL : Nat) (ret : Option FieldType) (hh : List (Nat × Nat × Nat × Nat)) (ws : List Cond) (rm : Room) (mc ms n : Nat) : Prop :=
  (rm.cells = mc ∧ rm.slots = ms ∧ rm.frames + 1 ≤ R.frames ∧ 8 + (maxL + 11) + rm.locals ≤ R.locals ∧ (∀ w ∈ ws, ∀ (a' : Array Value) (U : State), s.WarmedH U.vm → w.before a' U = true) ∧ Cond.codeWith y bytes maxL ret hh ∈ ws) ∧
  (Cond.codeWith y bytes maxL ret hh).before args s = true ∧ (Cond.initialized y.cls).before args s = true ∧ (y.cls ≠ "java/lang/invoke/MethodHandle" ∧ y.cls ≠ "java/lang/invoke/VarHandle") ∧
  (∀ sig, parseMethodDescriptor y.desc = some sig → n = sig.parameters.length) ∧ (Cond.methodLink own index y).before args s = true ∧ (Cond.static y).before args s = true
theorem vx_cwSW {own : String} {index maxL mc ms : Nat} {y : MethodName} {bytes : ByteArray} {ret : Option FieldType} {hh : List (Nat × Nat × Nat × Nat)} {Ts ws ws' : List Cond} {rm : Room} (n : Nat) (ht : ∀ w ∈ Ts, w.before args s = true) (hT : GoodIn Ts (va_wsS own index y ws)) (hw : ws = Cond.codeWith y bytes maxL ret hh :: ws') (hrc : rm.cells = mc) (hrs : rm.slots = ms)
    (hd : y.cls ≠ "java/lang/invoke/MethodHandle" ∧ y.cls ≠ "java/lang/invoke/VarHandle" ∧ (parseMethodDescriptor y.desc).map (fun d => d.parameters.length) = some n) (hR : rm.frames + 1 ≤ R.frames ∧ 8 + (maxL + 11) + rm.locals ≤ R.locals) :
    vx_CSW R s args own index y bytes maxL ret hh ws rm mc ms n := by
  have ok : ∀ w ∈ va_wsS own index y ws, w.before args s = true := fun w h => ht w (hT w h).1
  have hG : GoodIn Ts ws := fun w h => hT w (by unfold va_wsS; exact List.mem_append_right _ h)
  have hc : Cond.codeWith y bytes maxL ret hh ∈ ws := by rw [hw]; exact List.mem_cons_self
  refine ⟨⟨hrc, hrs, hR.1, hR.2, pay_in ht hG, hc⟩, ht _ (hG _ hc).1, ok _ (by simp [va_wsS]), ⟨hd.1, hd.2.1⟩, fun sig h => ?_, ok _ (by simp [va_wsS]), ok _ (by simp [va_wsS])⟩
  have h2 := hd.2.2
  rw [h] at h2
  exact (Option.some.inj h2).symm
theorem vx_callSW (X : Stand p l e R s m args below meth c T locs cells slots) (hexec : p.tables.exec = Jvm.exec) {own : String} {index : Nat} {y : MethodName} {bytes : ByteArray} {maxL : Nat} {ret : Option FieldType} {hh : List (Nat × Nat × Nat × Nat)}
    (hown : s.vm.findClass own = some m.cls) (hlink : (Cond.methodLink own index y).before args s = true) (hstat : (Cond.static y).before args s = true) (hinit : (Cond.initialized y.cls).before args s = true)
    (hcode : (Cond.codeWith y bytes maxL ret hh).before args s = true) (hy : y.cls ≠ "java/lang/invoke/MethodHandle" ∧ y.cls ≠ "java/lang/invoke/VarHandle")
    {W9 : Nat} {Pre : Pt → Array Value → Prop} {Post : Pt → Array Value → Option Value → Pt → Prop} (hK : Back l R p e below s args y 3 W9 Pre Post)
    {g : JFrame} (hg : g.method = m) (hsize : g.locals.size = c.maxLocals) {argsL rest : List Value} (hlen : ∀ sig, parseMethodDescriptor y.desc = some sig → argsL.length = sig.parameters.length)
    (hstack : g.stack = argsL.reverse ++ rest) (hW : 2 * g.monitorRoom + (rest.map fun v => v.category).sum ≤ W9) (hdg : decode c.code g.pc = .ok (.invokestatic index, 3))
    (hpre : ∀ vm₁, s.WarmedH vm₁ → Pre ⟨T.setVm vm₁, locs, cells, slots⟩ argsL.toArray) :
    ∃ (v : Option Value) (vm₁ : Vm) (B : Pt), s.WarmedH vm₁ ∧ Stand p l e R s m args below meth c B.U B.locs B.cells B.slots ∧ Post ⟨T.setVm vm₁, locs, cells, slots⟩ argsL.toArray v B ∧
      ∀ target, Steps p.tables e below (B.U.setTop { g with pc := g.pc + 3, stack := v.toList ++ rest }) target → Steps p.tables e below (T.setTop g) target := by
  obtain ⟨mk, methM, cM, hnamed, hmethM, -, -, -, -, -, -, hsigM⟩ := Cond.codeWith_spec hcode
  have hstatic : methM.isStatic = true := Cond.static_spec hnamed hmethM hstat
  obtain ⟨kP, hkP, -⟩ := className_of_methodNamed hnamed
  have hinitP : kP.init = .initialized := Cond.initialized_spec (findClass_of_methodNamed hnamed) hkP hinit
  obtain ⟨vm₁, X₁, hstep₁⟩ := X.invokestatic hexec hown hlink hnamed hmethM hstatic hkP hinitP hy (g := g) hg (argsL := argsL) (rest := rest) (hlen _ hsigM) hstack hdg
  obtain ⟨v, B, X', hpost, hsteps⟩ := hK m meth c ⟨T.setVm vm₁, locs, cells, slots⟩ { g with stack := rest } (.invokestatic index) mk argsL.toArray X₁ hg hsize hdg hW (X₁.named hnamed) (hpre vm₁ X₁.warmed)
  exact ⟨v, vm₁, B, X₁.warmed, X', hpost, fun target h => hstep₁ _ fun acts => by rw [doInvoke_state]; exact hsteps.trans h⟩
theorem vx_runSW {y : MethodName} {bytes cc : ByteArray} {maxL nL mc ms n index : Nat} {ret : Option FieldType} {hh : List (Nat × Nat × Nat × Nat)} {ws : List Cond} {rm : Room} {Pc : Array Value → State → Prop} {Qc : Array Value → State → Outcome → State → Prop} {free : Addr → Prop} {Ts : List Cond} {own : String} {As rest : List Value} {g : JFrame}
    (S : CallFix p m c cc nL s args Ts own) (hM : Met l y ws rm Pc Qc mc ms free) (cw : vx_CSW R s args own index y bytes maxL ret hh ws rm mc ms n) (hp : PreS s H Pc As)
    (hg : g.method = m) (hn : As.length = n) (hsize : g.locals.size = nL) (hstack : g.stack = As.reverse ++ rest) (hW : 2 * g.monitorRoom + (rest.map fun v => v.category).sum ≤ 8) (hdg : decode cc g.pc = .ok (.invokestatic index, 3)) (hf : cells + mc ≤ R.cells ∧ slots + ms ≤ R.slots) :
    va_Run p l e R s m args below meth c H locs cells slots mc ms g rest (Qc As.toArray) (free) := by
  obtain ⟨⟨hrc, hrs, hfr, hlo, hws, hcw⟩, hcode, hini, hy, hlen, hl, hstt⟩ := cw
  have hK : Back l R p e below s args y 3 8 (PreOf R mc ms Pc) (PostOf Qc mc ms free) := va_backW (hh := hh) (bytes := bytes) (maxL := maxL) (ret := ret) hM hp.1 hrc hrs hfr hlo hws hcw (fun a' U hW => word_at hW (Or.inl (by first | rfl | simp [Cond.onTables, Cond.keeps, Cond.steady])) hini)
  obtain ⟨hx, hb, hml, ho, -⟩ := S
  intro T hT X
  obtain ⟨v, vm₁, ⟨U', l2, c2, s2⟩, hW₁, X', ⟨g', mk, t, L, e1, e2, hq, h1, hL, h2, h3⟩, st⟩ := vx_callSW X hx (hh := hh) (bytes := bytes) (maxL := maxL) (ret := ret) ho hl hstt hini hcode hy hK hg (hsize.trans hml.symm) (argsL := As) (rest := rest) (fun sig h => hn.trans (hlen sig h)) hstack hW (by rw [hb]; exact hdg)
    (fun vm₁ hW₁ => ⟨hf.1, hf.2, hp.2 (T.setVm vm₁) hT hW₁⟩)
  dsimp only [Pt.U, Pt.locs, Pt.cells, Pt.slots] at X' e1 e2 h1 h2 h3 st
  subst h1; subst h2; subst h3
  exact ⟨v, (T.setVm vm₁).calling g' mk As.toArray, t, U', L, hT, X', hL, e1, e2, hq, st⟩
/-- not caught here, past rows that name other classes: it goes on to the caller -/
theorem vx_outP {p : Program} {l : Launch} {e : Env} {R : Room} {s : State} {m : MethodId} {args : Array Value} {below : List Frame} {meth : Method} {c : Code} {H : Heap} {locs : List Loc} {cells slots : Nat} {free : Addr → Prop} {ls : Array Slot} {rest : List Value} {Qc : Array Value → State → Outcome → State → Prop} {XC : String → State → State → Prop}
    {pc : Nat} {own E : String} {ce : Cell} {q : Addr} {mc ms : Nat} (hown : s.vm.findClass own = some m.cls) (hlocks : meth.locks = false)
    (hpass : ∀ z ∈ c.exceptionTable.toList, covers z pc = false ∨ (z.catchType ≠ 0 ∧ ∃ nm : String, (Cond.classLink own z.catchType nm).before args s = true ∧ va_Nc E nm s)) (hcell : H[q]? = some ce) (hv : ce.vm = .none) (hcl : s.vm.findClass E = some ce.cls)
    (hx : ∀ t : State, t.heap = H → s.vm.Alike t.vm → XC E s t) (hf : ∀ z ∈ locs, free z.base) (hc : cells ≤ mc) (hs : slots ≤ ms) :
    vx_W p l e R s m args below meth c H locs cells slots (vx_MQ below Qc XC args s mc ms free) (F0 m pc ls rest) q := by
  intro T hT X
  have hpl : e.platform.magicAccessors = ({} : Platform).magicAccessors := by rw [X.admits.platform]
  obtain ⟨vm', hW', X', st⟩ := X.outThrough hlocks q (g := F0 m pc ls rest) rfl rfl rfl (cell := ce) (by rw [hT]; exact hcell) (by rw [hv]; rfl)
    (by obtain ⟨k9, h9, -⟩ := Vm.findClass_spec hcl; exact ⟨k9, h9⟩) (fun z hz => by
      rcases hpass z hz with h | ⟨hz0, nm, hl1, hn1⟩
      · exact Or.inl h
      · obtain ⟨c6, hc6, hcl6⟩ := Cond.classLink_spec hown hl1 e.platform hpl
        obtain ⟨a8, b8, h1, h2, h3⟩ := hn1
        cases Option.some.inj (h1.symm.trans hcl)
        cases Option.some.inj (h2.symm.trans hc6)
        exact Or.inr ⟨hz0, _, hcl6, h3⟩)
  obtain ⟨g₀, hfr⟩ := X'.frames_eq
  have hcell9 : ((T.setVm vm').setFrames (.throwing q :: below)).heap[q]? = some ce := by
    show T.heap[q]? = some ce
    rw [hT]; exact hcell
  have hend : Ended ((T.setVm vm').setFrames (.throwing q :: below)) below (.threw q) := State.frames_setFrames _ (State.cur_lt_of_frames hfr)
  refine ⟨(T.setVm vm').setFrames (.throwing q :: below), ?_, .threw q, X'.here.running, hend, Or.inr ⟨q, rfl, E, ce, locs, hx _ hT (X'.ends _).1.alike, hcell9, hv, hcl, (X'.ends _).1, (X'.ends _).2.mono hc hs, hf⟩⟩
  rw [X.pushThrowing_eq]
  exact st
/-- a thing of a world lies in the heap -/
theorem vx_lt {D : va_G} {cl : List vw_C} {ws : va_W} {H1 : Heap} (h : va_P D cl ws H1) {k : Nat} {q : Nat × va_E} (hk : ws[k]? = some q) : q.1 < H1.size := (h k q hk).lt
end VXS
/-! ===== END ===== -/
/-! ===== BEGIN methods with a table of their own: called by a name, returning or throwing ===== -/
section VXH
/-! vx_backW, vx_callVX, vx_callSX, vx_callVW, vx_runVW, vx_runVX, vx_runSX, vx_ofWH follow the same proofs as their sisters above (Free/Laws.lean, Shelf42/LK1.lean); vx_outP calls Shelf42/NT130.lean (outThrough). -/
section
variable {l : Launch} {R : Room} {p : Program} {e : Env} {below : List Frame} {s : State} {sargs : Array Value} {y : MethodName} {len W9 : Nat}
theorem vx_backW {ws : List Cond} {rm : Room} {Pc : Array Value → State → Prop} {Qc : Array Value → State → Outcome → State → Prop} {XC : String → State → State → Prop} {mc ms : Nat} {free : Addr → Prop} {bytes : ByteArray} {maxL : Nat} {ret : Option FieldType} {hh : List (Nat × Nat × Nat × Nat)}
    (hM : vx_Met l y ws rm Pc Qc XC mc ms free) (hblind : FrameBlind Pc) (hrc : rm.cells = mc) (hrs : rm.slots = ms)
    (hframes : rm.frames + 1 ≤ R.frames) (hlocals : W9 + (maxL + 11) + rm.locals ≤ R.locals)
    (hws : ∀ w ∈ ws, ∀ a' U, s.WarmedH U.vm → w.before a' U = true) (hcode : Cond.codeWith y bytes maxL ret hh ∈ ws) (hinit : ∀ a' U, s.WarmedH U.vm → (Cond.initialized y.cls).before a' U = true) :
    vx_Back l R p e below s sargs y len W9 (PreOf R mc ms Pc) (PostOf Qc mc ms free) (vx_Post XC mc ms free) := by
  intro m meth c A g ig mk a X hg hsize hdg hW hn hp
  have h1 : (headSpec ws rm).pre.before a A.U = true := atoms_intro fun w hw => hws w hw _ _ X.warmed
  have h2 : (Cond.codeWith y bytes maxL ret hh).before a A.U = true := hws _ hcode _ _ X.warmed
  have h3 : (Cond.initialized y.cls).before a A.U = true := hinit _ _ X.warmed
  have h4 : A.cells + (headSpec ws rm).room.cells ≤ R.cells := by rw [show (headSpec ws rm).room.cells = mc from hrc]; exact hp.1
  have h5 : A.slots + (headSpec ws rm).room.slots ≤ R.slots := by rw [show (headSpec ws rm).room.slots = ms from hrs]; exact hp.2.1
  have hPc : Pc a (A.U.calling g mk a) := hblind _ _ _ _ hp.2.2
  obtain ⟨U, Ls, c0, s0⟩ := A
  dsimp only [Pt.U, Pt.locs, Pt.cells, Pt.slots] at h1 h2 h3 h4 h5 X hn hPc ⊢
  obtain ⟨m9, methY, cY, hn9, hmY, hcY, -, hlY, -⟩ := Cond.codeWith_spec h2
  cases Option.some.inj (hn9.symm.trans hn)
  obtain ⟨kY, hkY, -⟩ := className_of_methodNamed hn
  have hinitY : kY.init = .initialized := Cond.initialized_spec (findClass_of_methodNamed hn) hkY h3
  have h : At U g.method c below := by rw [hg]; exact X.here
  have hlocals9 : W9 + (maxL + 11) + (headSpec ws rm).room.locals ≤ R.locals := hlocals
  have happ : (headSpec ws rm).appliesLoose y e.platform (U.calling g mk a) = true :=
    Spec.appliesLoose_calling (g := g) h hdg hn hkY hinitY
      (X.room_calling (g := g) (R' := (headSpec ws rm).room) hsize hmY hcY hframes (by rw [hlY]; omega) h4 h5) h1
  obtain ⟨mid, hmid⟩ := h.above
  have hfr : (U.setTop g).frames = (.java g :: mid) ++ below := by rw [State.frames_setTop' g h.top, hmid]; rfl
  obtain ⟨o, s₂, hsteps, -, hend, hq⟩ := Steps.callFree hM p X.admits X.cas X.clock (acts := []) hfr happ hPc trivial
  have hq' : vx_Q Qc XC mc ms free a (U.calling g mk a) o s₂ := hq
  rw [State.frames_setTop' g h.top] at hend
  obtain ⟨g₀, hg0⟩ := Option.isSome_iff_exists.mp h.top
  obtain ⟨r, hr⟩ := State.topJava?_eq_some.mp hg0
  have hr' : (({ U with heap := s₂.heap, slotsUsed := s₂.slotsUsed } : State).setVm s₂.vm).frames = .java g₀ :: r := hr
  rcases hq' with ⟨hqc, L, hfe, hL⟩ | ⟨q, rfl, E, ce, L, hx, hce, hcv, hcl, hW₂, hsm, hL⟩
  · obtain ⟨⟨v, rfl⟩, hW₂, e2, q2, q3, q4, q5, q6⟩ := id hfe
    have e3 : s₂ = ({ (U.calling g mk a).setFrames s₂.frames with heap := s₂.heap, slotsUsed := s₂.slotsUsed } : State).setVm s₂.vm := by
      have : s₂ = ({ s₂ with vm := (U.calling g mk a).vm } : State).setVm s₂.vm := rfl
      rw [e2] at this
      exact this
    obtain ⟨c₂, i₂, len₂, hc₂, hd₂, hf₂⟩ := hend
    have hW' : U.WarmedH s₂.vm := hW₂
    have hcc : c₂ = c := by
      have h1 : s₂.code? g.method = U.code? g.method := by
        rw [State.code?_eq, State.code?_eq, hW'.alike.method?]
      exact Option.some.inj (hc₂.symm.trans (h1.trans h.code))
    subst hcc
    have hlen : len₂ = len := by rw [hdg] at hd₂; cases hd₂; rfl
    subst hlen
    have hs₂ : s₂ = (({ U with heap := s₂.heap, slotsUsed := s₂.slotsUsed } : State).setVm s₂.vm).setTop { g with pc := g.pc + len₂, stack := v.toList ++ g.stack } := by
      refine e3.trans ?_
      rw [hf₂, State.calling_eq h.top, State.setFrames_setFrames, State.setTop_of_frames _ hr', hr]
      rfl
    have hsame : U.sameButNew ({ U with heap := s₂.heap, slotsUsed := s₂.slotsUsed } : State) L mc ms := by
      refine ⟨?_, q2, q3, q4, q5, q6⟩
      obtain ⟨t, ht, -⟩ := State.frames_cons hr
      show ({ U with heap := s₂.heap, slotsUsed := s₂.slotsUsed } : State) = { U.setFrames U.frames with heap := s₂.heap, slotsUsed := s₂.slotsUsed }
      rw [State.setFrames_self ht]
    subst hg
    refine Or.inl ⟨v, ⟨(({ U with heap := s₂.heap, slotsUsed := s₂.slotsUsed } : State).setVm s₂.vm), Ls ++ L, c0 + mc, s0 + ms⟩,
      ⟨X.admits, X.cas, X.clock, X.frames, X.room, X.hears, X.method, X.code, (X.here.setHeapUsed s₂.heap s₂.slotsUsed).setVm hW'.alike, X.tail, State.WarmedH.trans X.warmed hW', X.limits, X.bytes, X.same.trans (hsame.setVm s.vm)⟩,
      ⟨g, mk, s₂, L, rfl, rfl, hqc, rfl, hL, rfl, rfl⟩, ?_⟩
    show Steps p.tables e below _ ((({ U with heap := s₂.heap, slotsUsed := s₂.slotsUsed } : State).setVm s₂.vm).setTop { g with pc := g.pc + len₂, stack := v.toList ++ g.stack })
    rw [← hs₂]
    exact hsteps
  · obtain ⟨e2, q2, q3, q4, q5, q6⟩ := id hsm
    have e3 : s₂ = ({ (U.calling g mk a).setFrames s₂.frames with heap := s₂.heap, slotsUsed := s₂.slotsUsed } : State).setVm s₂.vm := by
      have : s₂ = ({ s₂ with vm := (U.calling g mk a).vm } : State).setVm s₂.vm := rfl
      rw [e2] at this
      exact this
    have hf₂ : s₂.frames = .throwing q :: .java g :: U.frames.tail := hend
    have hW' : U.WarmedH s₂.vm := hW₂
    have hs₂ : s₂ = ((({ U with heap := s₂.heap, slotsUsed := s₂.slotsUsed } : State).setVm s₂.vm).setTop g).pushFrame (.throwing q) := by
      refine e3.trans ?_
      rw [hf₂, State.calling_eq h.top, State.setFrames_setFrames, State.pushFrame, State.frames_setTop _ hr', State.setTop_of_frames _ hr', State.setFrames_setFrames, hr]
      rfl
    have hsame : U.sameButNew ({ U with heap := s₂.heap, slotsUsed := s₂.slotsUsed } : State) L mc ms := by
      refine ⟨?_, q2, q3, q4, q5, q6⟩
      obtain ⟨t, ht, -⟩ := State.frames_cons hr
      show ({ U with heap := s₂.heap, slotsUsed := s₂.slotsUsed } : State) = { U.setFrames U.frames with heap := s₂.heap, slotsUsed := s₂.slotsUsed }
      rw [State.setFrames_self ht]
    subst hg
    refine Or.inr ⟨q, ⟨(({ U with heap := s₂.heap, slotsUsed := s₂.slotsUsed } : State).setVm s₂.vm), Ls ++ L, c0 + mc, s0 + ms⟩,
      ⟨X.admits, X.cas, X.clock, X.frames, X.room, X.hears, X.method, X.code, (X.here.setHeapUsed s₂.heap s₂.slotsUsed).setVm hW'.alike, X.tail, State.WarmedH.trans X.warmed hW', X.limits, X.bytes, X.same.trans (hsame.setVm s.vm)⟩,
      ⟨g, mk, s₂, L, E, ce, rfl, rfl, hx, hce, hcv, hcl, rfl, hL, rfl, rfl⟩, ?_⟩
    show Steps p.tables e below _ (((({ U with heap := s₂.heap, slotsUsed := s₂.slotsUsed } : State).setVm s₂.vm).setTop g).pushFrame (.throwing q))
    rw [← hs₂]
    exact hsteps
end
variable {p : Program} {l : Launch} {e : Env} {R : Room} {s : State} {m : MethodId} {args : Array Value} {below : List Frame} {meth : Method} {c : Code} {T : State} {H : Heap} {locs : List Loc} {cells slots : Nat}
theorem vx_callVX (X : Stand p l e R s m args below meth c T locs cells slots) (hexec : p.tables.exec = Jvm.exec) {own C : String} {index : Nat} {y : MethodName} {bytes : ByteArray} {maxL : Nat} {ret : Option FieldType} {hh : List (Nat × Nat × Nat × Nat)}
    (hown : s.vm.findClass own = some m.cls) (hlink : (Cond.methodLink own index y).before args s = true) (hinst : (Cond.instanceMethod y).before args s = true) (hsel : (Cond.selects C y y).before args s = true)
    (hcode : (Cond.codeWith y bytes maxL ret hh).before args s = true) (hy : y.cls ≠ "java/lang/invoke/MethodHandle" ∧ y.cls ≠ "java/lang/invoke/VarHandle")
    {W9 : Nat} {Pre : Pt → Array Value → Prop} {Post : Pt → Array Value → Option Value → Pt → Prop} {PostX : Pt → Array Value → Addr → Pt → Prop} (hK : vx_Back l R p e below s args y 3 W9 Pre Post PostX)
    {b : Addr} {cellB : Cell} (hcell : T.heap[b]? = some cellB) (hobj : cellB.vm.isStatics = false) (hcls : s.vm.findClass C = some cellB.cls)
    {g : JFrame} (hg : g.method = m) (hsize : g.locals.size = c.maxLocals) {argsL rest : List Value} (hlen : ∀ sig, parseMethodDescriptor y.desc = some sig → argsL.length = sig.parameters.length)
    (hstack : g.stack = argsL.reverse ++ .ref b :: rest) (hW : 2 * g.monitorRoom + (rest.map fun v => v.category).sum ≤ W9) (hdg : decode c.code g.pc = .ok (.invokevirtual index, 3))
    (hpre : ∀ vm₁, s.WarmedH vm₁ → Pre ⟨T.setVm vm₁, locs, cells, slots⟩ (Value.ref b :: argsL).toArray) :
    (∃ (v : Option Value) (vm₁ : Vm) (B : Pt), s.WarmedH vm₁ ∧ Stand p l e R s m args below meth c B.U B.locs B.cells B.slots ∧ Post ⟨T.setVm vm₁, locs, cells, slots⟩ (Value.ref b :: argsL).toArray v B ∧
      ∀ target, Steps p.tables e below (B.U.setTop { g with pc := g.pc + 3, stack := v.toList ++ rest }) target → Steps p.tables e below (T.setTop g) target) ∨
    (∃ (q : Addr) (vm₁ : Vm) (B : Pt), s.WarmedH vm₁ ∧ Stand p l e R s m args below meth c B.U B.locs B.cells B.slots ∧ PostX ⟨T.setVm vm₁, locs, cells, slots⟩ (Value.ref b :: argsL).toArray q B ∧
      Steps p.tables e below (T.setTop g) ((B.U.setTop { g with stack := rest }).pushFrame (.throwing q))) := by
  obtain ⟨mk, methM, hnamed, hmethM, hstM, habM⟩ := Cond.instanceMethod_spec hinst
  obtain ⟨m8, methM', cM, hn8, hmethM', -, -, -, -, -, -, hsigM⟩ := Cond.codeWith_spec hcode
  cases Option.some.inj (hn8.symm.trans hnamed)
  cases hmethM.symm.trans hmethM'
  obtain ⟨c2, r2, m2, q1, q2, q3, q4, kP, hkP, hkPi⟩ := Cond.selects_spec hsel
  cases hcls.symm.trans q1
  cases (State.methodFound?_of_named hnamed hy).symm.trans q2
  cases hnamed.symm.trans q3
  have hselP : selectMethod e.platform s.vm cellB.cls mk = .method mk := by rw [Launch.admits_selectMethod X.admits]; exact q4
  obtain ⟨vm₁, X₁, hstep₁⟩ := X.invokevirtual hexec hown hlink hnamed hmethM hstM hkP hkPi hy (a := b) (cell := cellB) hcell
    (fun z h => by rw [h] at hobj; cases hobj) hselP hmethM habM hkP hkPi (g := g) hg (argsL := argsL) (rest := rest) (hlen _ hsigM) hstack hdg
  rcases hK m meth c ⟨T.setVm vm₁, locs, cells, slots⟩ { g with stack := rest } (.invokevirtual index) mk (Value.ref b :: argsL).toArray X₁ hg hsize hdg hW (X₁.named hnamed) (hpre vm₁ X₁.warmed) with ⟨v, B, X', hpost, hsteps⟩ | ⟨q, B, X', hpost, hsteps⟩
  · exact Or.inl ⟨v, vm₁, B, X₁.warmed, X', hpost, fun target h => hstep₁ _ fun acts => by rw [doInvoke_state]; exact hsteps.trans h⟩
  · exact Or.inr ⟨q, vm₁, B, X₁.warmed, X', hpost, hstep₁ _ fun acts => by rw [doInvoke_state]; exact hsteps⟩
theorem vx_callSX (X : Stand p l e R s m args below meth c T locs cells slots) (hexec : p.tables.exec = Jvm.exec) {own : String} {index : Nat} {y : MethodName} {bytes : ByteArray} {maxL : Nat} {ret : Option FieldType} {hh : List (Nat × Nat × Nat × Nat)}
    (hown : s.vm.findClass own = some m.cls) (hlink : (Cond.methodLink own index y).before args s = true) (hstat : (Cond.static y).before args s = true) (hinit : (Cond.initialized y.cls).before args s = true)
    (hcode : (Cond.codeWith y bytes maxL ret hh).before args s = true) (hy : y.cls ≠ "java/lang/invoke/MethodHandle" ∧ y.cls ≠ "java/lang/invoke/VarHandle")
    {W9 : Nat} {Pre : Pt → Array Value → Prop} {Post : Pt → Array Value → Option Value → Pt → Prop} {PostX : Pt → Array Value → Addr → Pt → Prop} (hK : vx_Back l R p e below s args y 3 W9 Pre Post PostX)
    {g : JFrame} (hg : g.method = m) (hsize : g.locals.size = c.maxLocals) {argsL rest : List Value} (hlen : ∀ sig, parseMethodDescriptor y.desc = some sig → argsL.length = sig.parameters.length)
    (hstack : g.stack = argsL.reverse ++ rest) (hW : 2 * g.monitorRoom + (rest.map fun v => v.category).sum ≤ W9) (hdg : decode c.code g.pc = .ok (.invokestatic index, 3))
    (hpre : ∀ vm₁, s.WarmedH vm₁ → Pre ⟨T.setVm vm₁, locs, cells, slots⟩ argsL.toArray) :
    (∃ (v : Option Value) (vm₁ : Vm) (B : Pt), s.WarmedH vm₁ ∧ Stand p l e R s m args below meth c B.U B.locs B.cells B.slots ∧ Post ⟨T.setVm vm₁, locs, cells, slots⟩ argsL.toArray v B ∧
      ∀ target, Steps p.tables e below (B.U.setTop { g with pc := g.pc + 3, stack := v.toList ++ rest }) target → Steps p.tables e below (T.setTop g) target) ∨
    (∃ (q : Addr) (vm₁ : Vm) (B : Pt), s.WarmedH vm₁ ∧ Stand p l e R s m args below meth c B.U B.locs B.cells B.slots ∧ PostX ⟨T.setVm vm₁, locs, cells, slots⟩ argsL.toArray q B ∧
      Steps p.tables e below (T.setTop g) ((B.U.setTop { g with stack := rest }).pushFrame (.throwing q))) := by
  obtain ⟨mk, methM, cM, hnamed, hmethM, -, -, -, -, -, -, hsigM⟩ := Cond.codeWith_spec hcode
  have hstatic : methM.isStatic = true := Cond.static_spec hnamed hmethM hstat
  obtain ⟨kP, hkP, -⟩ := className_of_methodNamed hnamed
  have hinitP : kP.init = .initialized := Cond.initialized_spec (findClass_of_methodNamed hnamed) hkP hinit
  obtain ⟨vm₁, X₁, hstep₁⟩ := X.invokestatic hexec hown hlink hnamed hmethM hstatic hkP hinitP hy (g := g) hg (argsL := argsL) (rest := rest) (hlen _ hsigM) hstack hdg
  rcases hK m meth c ⟨T.setVm vm₁, locs, cells, slots⟩ { g with stack := rest } (.invokestatic index) mk argsL.toArray X₁ hg hsize hdg hW (X₁.named hnamed) (hpre vm₁ X₁.warmed) with ⟨v, B, X', hpost, hsteps⟩ | ⟨q, B, X', hpost, hsteps⟩
  · exact Or.inl ⟨v, vm₁, B, X₁.warmed, X', hpost, fun target h => hstep₁ _ fun acts => by rw [doInvoke_state]; exact hsteps.trans h⟩
  · exact Or.inr ⟨q, vm₁, B, X₁.warmed, X', hpost, hstep₁ _ fun acts => by rw [doInvoke_state]; exact hsteps⟩
theorem vx_callVW (X : Stand p l e R s m args below meth c T locs cells slots) (hexec : p.tables.exec = Jvm.exec) {own C : String} {index : Nat} {y : MethodName} {bytes : ByteArray} {maxL : Nat} {ret : Option FieldType} {hh : List (Nat × Nat × Nat × Nat)}
    (hown : s.vm.findClass own = some m.cls) (hlink : (Cond.methodLink own index y).before args s = true) (hinst : (Cond.instanceMethod y).before args s = true) (hsel : (Cond.selects C y y).before args s = true)
    (hcode : (Cond.codeWith y bytes maxL ret hh).before args s = true) (hy : y.cls ≠ "java/lang/invoke/MethodHandle" ∧ y.cls ≠ "java/lang/invoke/VarHandle")
    {W9 : Nat} {Pre : Pt → Array Value → Prop} {Post : Pt → Array Value → Option Value → Pt → Prop} (hK : Back l R p e below s args y 3 W9 Pre Post)
    {b : Addr} {cellB : Cell} (hcell : T.heap[b]? = some cellB) (hobj : cellB.vm.isStatics = false) (hcls : s.vm.findClass C = some cellB.cls)
    {g : JFrame} (hg : g.method = m) (hsize : g.locals.size = c.maxLocals) {argsL rest : List Value} (hlen : ∀ sig, parseMethodDescriptor y.desc = some sig → argsL.length = sig.parameters.length)
    (hstack : g.stack = argsL.reverse ++ .ref b :: rest) (hW : 2 * g.monitorRoom + (rest.map fun v => v.category).sum ≤ W9) (hdg : decode c.code g.pc = .ok (.invokevirtual index, 3))
    (hpre : ∀ vm₁, s.WarmedH vm₁ → Pre ⟨T.setVm vm₁, locs, cells, slots⟩ (Value.ref b :: argsL).toArray) :
    ∃ (v : Option Value) (vm₁ : Vm) (B : Pt), s.WarmedH vm₁ ∧ Stand p l e R s m args below meth c B.U B.locs B.cells B.slots ∧ Post ⟨T.setVm vm₁, locs, cells, slots⟩ (Value.ref b :: argsL).toArray v B ∧
      ∀ target, Steps p.tables e below (B.U.setTop { g with pc := g.pc + 3, stack := v.toList ++ rest }) target → Steps p.tables e below (T.setTop g) target := by
  obtain ⟨mk, methM, hnamed, hmethM, hstM, habM⟩ := Cond.instanceMethod_spec hinst
  obtain ⟨m8, methM', cM, hn8, hmethM', -, -, -, -, -, -, hsigM⟩ := Cond.codeWith_spec hcode
  cases Option.some.inj (hn8.symm.trans hnamed)
  cases hmethM.symm.trans hmethM'
  obtain ⟨c2, r2, m2, q1, q2, q3, q4, kP, hkP, hkPi⟩ := Cond.selects_spec hsel
  cases hcls.symm.trans q1
  cases (State.methodFound?_of_named hnamed hy).symm.trans q2
  cases hnamed.symm.trans q3
  have hselP : selectMethod e.platform s.vm cellB.cls mk = .method mk := by rw [Launch.admits_selectMethod X.admits]; exact q4
  obtain ⟨vm₁, X₁, hstep₁⟩ := X.invokevirtual hexec hown hlink hnamed hmethM hstM hkP hkPi hy (a := b) (cell := cellB) hcell
    (fun z h => by rw [h] at hobj; cases hobj) hselP hmethM habM hkP hkPi (g := g) hg (argsL := argsL) (rest := rest) (hlen _ hsigM) hstack hdg
  obtain ⟨v, B, X', hpost, hsteps⟩ := hK m meth c ⟨T.setVm vm₁, locs, cells, slots⟩ { g with stack := rest } (.invokevirtual index) mk (Value.ref b :: argsL).toArray X₁ hg hsize hdg hW (X₁.named hnamed) (hpre vm₁ X₁.warmed)
  exact ⟨v, vm₁, B, X₁.warmed, X', hpost, fun target h => hstep₁ _ fun acts => by rw [doInvoke_state]; exact hsteps.trans h⟩
abbrev vx_CVW (R : Room) (s : State) (args : Array Value) (own C : String) (index : Nat) (y : MethodName) (bytes : ByteArray) (maxL : Nat) (ret : Option FieldType) (hh : List (Nat × Nat × Nat × Nat)) (ws : List Cond) (rm : Room) (mc ms n : Nat) : Prop :=
  (rm.cells = mc ∧ rm.slots = ms ∧ rm.frames + 1 ≤ R.frames ∧ 8 + (maxL + 11) + rm.locals ≤ R.locals ∧ (∀ w ∈ ws, ∀ (a' : Array Value) (U : State), s.WarmedH U.vm → w.before a' U = true) ∧ Cond.codeWith y bytes maxL ret hh ∈ ws) ∧
  (Cond.codeWith y bytes maxL ret hh).before args s = true ∧ (Cond.initialized y.cls).before args s = true ∧ (y.cls ≠ "java/lang/invoke/MethodHandle" ∧ y.cls ≠ "java/lang/invoke/VarHandle") ∧
  (∀ sig, parseMethodDescriptor y.desc = some sig → n = sig.parameters.length) ∧ (Cond.methodLink own index y).before args s = true ∧ (Cond.instanceMethod y).before args s = true ∧ (Cond.selects C y y).before args s = true
theorem vx_cwVW {own C : String} {index maxL mc ms : Nat} {y : MethodName} {bytes : ByteArray} {ret : Option FieldType} {hh : List (Nat × Nat × Nat × Nat)} {Ts ws ws' : List Cond} {rm : Room} (n : Nat) (ht : ∀ w ∈ Ts, w.before args s = true) (hT : GoodIn Ts (wsV own index C y ws)) (hw : ws = Cond.codeWith y bytes maxL ret hh :: ws') (hrc : rm.cells = mc) (hrs : rm.slots = ms)
    (hd : y.cls = C ∧ y.cls ≠ "java/lang/invoke/MethodHandle" ∧ y.cls ≠ "java/lang/invoke/VarHandle" ∧ (parseMethodDescriptor y.desc).map (fun d => d.parameters.length) = some n) (hR : rm.frames + 1 ≤ R.frames ∧ 8 + (maxL + 11) + rm.locals ≤ R.locals) :
    vx_CVW R s args own C index y bytes maxL ret hh ws rm mc ms n := by
  obtain ⟨hC, hd⟩ := hd
  subst hC
  have ok : ∀ w ∈ wsV own index y.cls y ws, w.before args s = true := fun w h => ht w (hT w h).1
  have hG : GoodIn Ts ws := fun w h => hT w (by unfold wsV; exact List.mem_append_right _ h)
  have hc : Cond.codeWith y bytes maxL ret hh ∈ ws := by rw [hw]; exact List.mem_cons_self
  refine ⟨⟨hrc, hrs, hR.1, hR.2, pay_in ht hG, hc⟩, ht _ (hG _ hc).1, ok _ (by simp [wsV]), ⟨hd.1, hd.2.1⟩, fun sig h => ?_, ok _ (by simp [wsV]), ok _ (by simp [wsV]), ok _ (by simp [wsV])⟩
  have h2 := hd.2.2
  rw [h] at h2
  exact (Option.some.inj h2).symm
theorem vx_runVW {y : MethodName} {bytes cc : ByteArray} {maxL nL mc ms n index : Nat} {ret : Option FieldType} {hh : List (Nat × Nat × Nat × Nat)} {ws : List Cond} {rm : Room} {Pc : Array Value → State → Prop} {Qc : Array Value → State → Outcome → State → Prop} {free : Addr → Prop} {Ts : List Cond} {own C : String} {b : Addr} {As rest : List Value} {g : JFrame}
    (S : CallFix p m c cc nL s args Ts own) (hM : Met l y ws rm Pc Qc mc ms free) (cw : vx_CVW R s args own C index y bytes maxL ret hh ws rm mc ms n) (hp : PreV s H C b Pc As)
    (hg : g.method = m) (hn : As.length = n) (hsize : g.locals.size = nL) (hstack : g.stack = As.reverse ++ .ref b :: rest) (hW : 2 * g.monitorRoom + (rest.map fun v => v.category).sum ≤ 8) (hdg : decode cc g.pc = .ok (.invokevirtual index, 3)) (hf : cells + mc ≤ R.cells ∧ slots + ms ≤ R.slots) :
    va_Run p l e R s m args below meth c H locs cells slots mc ms g rest (Qc (Value.ref b :: As).toArray) free := by
  obtain ⟨⟨hrc, hrs, hfr, hlo, hws, hcw⟩, hcode, hini, hy, hlen, hl, hin, hse⟩ := cw
  have hK : Back l R p e below s args y 3 8 (PreOf R mc ms Pc) (PostOf Qc mc ms free) := va_backW (hh := hh) (bytes := bytes) (maxL := maxL) (ret := ret) hM hp.1 hrc hrs hfr hlo hws hcw (fun a' U hW => word_at hW (Or.inl (by first | rfl | simp [Cond.onTables, Cond.keeps, Cond.steady])) hini)
  obtain ⟨hx, hb, hml, ho, -⟩ := S
  obtain ⟨-, ⟨cellB, hcB, hoB, hclB⟩, hPc⟩ := hp
  intro T hT X
  obtain ⟨v, vm₁, ⟨U', l2, c2, s2⟩, hW₁, X', ⟨g', mk, t, L, e1, e2, hq, h1, hL, h2, h3⟩, st⟩ := vx_callVW X hx (C := C) (hh := hh) (bytes := bytes) (maxL := maxL) (ret := ret) ho hl hin hse hcode hy hK (by rw [hT]; exact hcB) hoB hclB hg (hsize.trans hml.symm) (argsL := As) (rest := rest) (fun sig h => hn.trans (hlen sig h)) hstack hW (by rw [hb]; exact hdg)
    (fun vm₁ hW₁ => ⟨hf.1, hf.2, hPc (T.setVm vm₁) hT hW₁⟩)
  dsimp only [Pt.U, Pt.locs, Pt.cells, Pt.slots] at X' e1 e2 h1 h2 h3 st
  subst h1; subst h2; subst h3
  exact ⟨v, (T.setVm vm₁).calling g' mk (Value.ref b :: As).toArray, t, U', L, hT, X', hL, e1, e2, hq, st⟩
section
variable {y : MethodName} {bytes cc : ByteArray} {maxL nL mc ms n index : Nat} {ret : Option FieldType} {ws : List Cond} {rm : Room} {Pc : Array Value → State → Prop} {Qc : Array Value → State → Outcome → State → Prop} {XC : String → State → State → Prop} {free : Addr → Prop} {Ts : List Cond} {own C : String} {b : Addr} {As rest : List Value} {g : JFrame}
theorem vx_runVX {hh : List (Nat × Nat × Nat × Nat)} (S : CallFix p m c cc nL s args Ts own) (hM : vx_Met l y ws rm Pc Qc XC mc ms free) (cw : vx_CVW R s args own C index y bytes maxL ret hh ws rm mc ms n) (hp : PreV s H C b Pc As)
    (hg : g.method = m) (hn : As.length = n) (hsize : g.locals.size = nL) (hstack : g.stack = As.reverse ++ .ref b :: rest) (hW : 2 * g.monitorRoom + (rest.map fun v => v.category).sum ≤ 8) (hdg : decode cc g.pc = .ok (.invokevirtual index, 3)) (hf : cells + mc ≤ R.cells ∧ slots + ms ≤ R.slots) :
    vx_Run p l e R s m args below meth c H locs cells slots mc ms g rest (Qc (Value.ref b :: As).toArray) XC free := by
  obtain ⟨⟨hrc, hrs, hfr, hlo, hws, hcw⟩, hcode, hini, hy, hlen, hl, hin, hse⟩ := cw
  have hK : vx_Back l R p e below s args y 3 8 (PreOf R mc ms Pc) (PostOf Qc mc ms free) (vx_Post XC mc ms free) := vx_backW (hh := hh) (bytes := bytes) (maxL := maxL) (ret := ret) hM hp.1 hrc hrs hfr hlo hws hcw (fun a' U hW => word_at hW (Or.inl (by first | rfl | simp [Cond.onTables, Cond.keeps, Cond.steady])) hini)
  obtain ⟨hx, hb, hml, ho, -⟩ := S
  obtain ⟨-, ⟨cellB, hcB, hoB, hclB⟩, hPc⟩ := hp
  intro T hT X
  rcases vx_callVX X hx (C := C) (hh := hh) (bytes := bytes) (maxL := maxL) (ret := ret) ho hl hin hse hcode hy hK (by rw [hT]; exact hcB) hoB hclB hg (hsize.trans hml.symm) (argsL := As) (rest := rest) (fun sig h => hn.trans (hlen sig h)) hstack hW (by rw [hb]; exact hdg)
    (fun vm₁ hW₁ => ⟨hf.1, hf.2, hPc (T.setVm vm₁) hT hW₁⟩) with ⟨v, vm₁, ⟨U', l2, c2, s2⟩, hW₁, X', ⟨g', mk, t, L, e1, e2, hq, h1, hL, h2, h3⟩, st⟩ | ⟨q, vm₁, ⟨U', l2, c2, s2⟩, hW₁, X', ⟨g', mk, t, L, E, ce, e1, e2, hq, hce, hcv, hcl, h1, hL, h2, h3⟩, st⟩
  · dsimp only [Pt.U, Pt.locs, Pt.cells, Pt.slots] at X' e1 e2 h1 h2 h3 st
    subst h1; subst h2; subst h3
    exact Or.inl ⟨v, (T.setVm vm₁).calling g' mk (Value.ref b :: As).toArray, t, U', L, hT, X', hL, e1, e2, hq, st⟩
  · dsimp only [Pt.U, Pt.locs, Pt.cells, Pt.slots] at X' e1 e2 h1 h2 h3 st hcl
    subst h1; subst h2; subst h3
    exact Or.inr ⟨q, (T.setVm vm₁).calling g' mk (Value.ref b :: As).toArray, t, U', L, E, ce, hT, X', hL, e1, e2, hq, hce, hcv, vx_cls hW₁ hcl, st⟩
theorem vx_runSX {hh : List (Nat × Nat × Nat × Nat)} (S : CallFix p m c cc nL s args Ts own) (hM : vx_Met l y ws rm Pc Qc XC mc ms free) (cw : vx_CSW R s args own index y bytes maxL ret hh ws rm mc ms n) (hp : PreS s H Pc As)
    (hg : g.method = m) (hn : As.length = n) (hsize : g.locals.size = nL) (hstack : g.stack = As.reverse ++ rest) (hW : 2 * g.monitorRoom + (rest.map fun v => v.category).sum ≤ 8) (hdg : decode cc g.pc = .ok (.invokestatic index, 3)) (hf : cells + mc ≤ R.cells ∧ slots + ms ≤ R.slots) :
    vx_Run p l e R s m args below meth c H locs cells slots mc ms g rest (Qc As.toArray) XC free := by
  obtain ⟨⟨hrc, hrs, hfr, hlo, hws, hcw⟩, hcode, hini, hy, hlen, hl, hstt⟩ := cw
  have hK : vx_Back l R p e below s args y 3 8 (PreOf R mc ms Pc) (PostOf Qc mc ms free) (vx_Post XC mc ms free) := vx_backW (hh := hh) (bytes := bytes) (maxL := maxL) (ret := ret) hM hp.1 hrc hrs hfr hlo hws hcw (fun a' U hW => word_at hW (Or.inl (by first | rfl | simp [Cond.onTables, Cond.keeps, Cond.steady])) hini)
  obtain ⟨hx, hb, hml, ho, -⟩ := S
  intro T hT X
  rcases vx_callSX X hx (hh := hh) (bytes := bytes) (maxL := maxL) (ret := ret) ho hl hstt hini hcode hy hK hg (hsize.trans hml.symm) (argsL := As) (rest := rest) (fun sig h => hn.trans (hlen sig h)) hstack hW (by rw [hb]; exact hdg)
    (fun vm₁ hW₁ => ⟨hf.1, hf.2, hp.2 (T.setVm vm₁) hT hW₁⟩) with ⟨v, vm₁, ⟨U', l2, c2, s2⟩, hW₁, X', ⟨g', mk, t, L, e1, e2, hq, h1, hL, h2, h3⟩, st⟩ | ⟨q, vm₁, ⟨U', l2, c2, s2⟩, hW₁, X', ⟨g', mk, t, L, E, ce, e1, e2, hq, hce, hcv, hcl, h1, hL, h2, h3⟩, st⟩
  · dsimp only [Pt.U, Pt.locs, Pt.cells, Pt.slots] at X' e1 e2 h1 h2 h3 st
    subst h1; subst h2; subst h3
    exact Or.inl ⟨v, (T.setVm vm₁).calling g' mk As.toArray, t, U', L, hT, X', hL, e1, e2, hq, st⟩
  · dsimp only [Pt.U, Pt.locs, Pt.cells, Pt.slots] at X' e1 e2 h1 h2 h3 st hcl
    subst h1; subst h2; subst h3
    exact Or.inr ⟨q, (T.setVm vm₁).calling g' mk As.toArray, t, U', L, E, ce, hT, X', hL, e1, e2, hq, hce, hcv, vx_cls hW₁ hcl, st⟩
end
end VXH
theorem vx_ofWH {l : Launch} {y : MethodName} {ws ws' : List Cond} {rm : Room} {Pc : Array Value → State → Prop} {Qc : Array Value → State → Outcome → State → Prop} {XC : String → State → State → Prop} {mc ms : Nat} {free : Addr → Prop} {cc : ByteArray} {maxL : Nat} {ret : Option FieldType} {hh : List (Nat × Nat × Nat × Nat)}
    (hy : plainName y.cls = true) (hw : ws = Cond.codeWith y cc maxL ret hh :: ws')
    (body : ∀ p e s m args below meth c s₁, BodyLoose p l y (headSpec ws rm) cc maxL ret e s m args below meth c s₁ → c.maxLocals = maxL → Pc args s →
      W p l e (headSpec ws rm).room s m args below meth c s.heap [] 0 0 (vx_MQ below Qc XC args s mc ms free) (entryFrame m args maxL)) : vx_Met l y ws rm Pc Qc XC mc ms free := by
  refine MetFree.of_bodyS (code := cc) (maxLocals := maxL) (ret := ret) hy ?_ ?_
  · intro args s m h hn
    obtain ⟨m9, meth, c, hn9, h1, h2, h3, h4, -, h5, h6, -⟩ := Cond.codeWith_spec (atoms_spec (ws := ws) h _ (by rw [hw]; exact List.mem_cons_self))
    cases hn.symm.trans hn9
    exact ⟨meth, c, h1, h2, h3, h4, h5, h6⟩
  · intro p e s m args below meth c s₁ B hml hP _
    have hh0 : s₁.heap = s.heap := by rw [B.state]; rfl
    obtain ⟨t, a1, o, b1, b2, b3⟩ := body p e s m args below meth c s₁ B hml hP s₁ hh0 (Stand.of_body B)
    exact ⟨t, o, a1, b1, b2, b3⟩
/-! ===== END ===== -/
end
section
/-! NoSuchElementException: its constructor of a text hands on by entry 13 of its own file, not by entry 7 as the others do; so its words are a list of its own. -/
def nsX : String := "java/util/NoSuchElementException"
def nsOwn : List Cond := Bundle.throwableAtoms ++ Bundle.throwableSAtoms ++ (Bundle.passSAtoms nsX "java/lang/RuntimeException" 13 prog_15_method_4_code ++ Bundle.chainSAtoms "java/lang/RuntimeException" ["java/lang/Exception"]) ++
  [.methodLink "PressedPlains" 86 (Bundle.initS nsX), .instantiable nsX 6, .castable nsX nsX, .selects nsX Bundle.tFill0 Bundle.tFill0, .selects nsX Bundle.tFill Bundle.tFill,
   .lays nsX Bundle.tN "cause" "Ljava/lang/Throwable;", .lays nsX Bundle.tN "stackTrace" Bundle.steD, .lays nsX Bundle.tN "suppressedExceptions" Bundle.listD, .lays nsX Bundle.tN "detailMessage" "Ljava/lang/String;",
   .isRef (.static Bundle.tN "UNASSIGNED_STACK" Bundle.steD), .isRef (.static Bundle.tN "SUPPRESSED_SENTINEL" Bundle.listD),
   .fieldLink Bundle.tN 198 Bundle.tN "backtrace" "Ljava/lang/Object;", .lays Bundle.tN Bundle.tN "backtrace" "Ljava/lang/Object;", .lays nsX Bundle.tN "backtrace" "Ljava/lang/Object;"]
def nsAt : List Cond := nsOwn.filter vx_no
end
section
/-! ===== BEGIN printed: names, fields, word lists, decode rows ===== -/
def RX0 : String := "PressedPlains$Book"
def TX0 : u_T := fun k => match k with
  | 0 => ("PressedPlains$Book", "first", "[I", true)
  | 1 => ("PressedPlains$Book", "last", "[I", true)
  | 2 => ("PressedPlains$Book", "greatest", "[I", true)
  | 3 => ("PressedPlains$Book", "second", "[I", true)
  | 4 => ("PressedPlains$Book", "many", "[I", true)
  | 5 => ("PressedPlains$Book", "sum", "[I", true)
  | 6 => ("PressedPlains$Book", "latestVisits", "I", false)
  | 7 => ("PressedPlains$Book", "totalVisits", "I", false)
  | _ => ("PressedPlains$Book", "calls", "I", false)
def tyX0 : Nat → FieldType := fun k => match k with
  | 0 => .array .int
  | 1 => .array .int
  | 2 => .array .int
  | 3 => .array .int
  | 4 => .array .int
  | 5 => .array .int
  | 6 => .int
  | 7 => .int
  | _ => .int
abbrev wsX00 : List Cond := u_ws RX0 TX0 9
theorem nmX0 : ∀ a, a < 9 → ∀ b, b < 9 → a ≠ b → (TX0 a).2.1 ≠ (TX0 b).2.1 := by decide +kernel
theorem tyX0_ok : ∀ k, k < 9 → parseFieldDescriptor (TX0 k).2.2.1 = some (tyX0 k) := by decide +kernel
abbrev cX0_init : ByteArray := prog_2_method_1_code
def yX0_init : MethodName := ⟨RX0, "<init>", "()V"⟩
abbrev cX0_renew : ByteArray := prog_2_method_2_code
def yX0_renew : MethodName := ⟨RX0, "renew", "(II)V"⟩
abbrev cX0_has : ByteArray := prog_2_method_3_code
def yX0_has : MethodName := ⟨RX0, "has", "(I)Z"⟩
abbrev cX0_press : ByteArray := prog_2_method_4_code
def yX0_press : MethodName := ⟨RX0, "press", "(III)I"⟩
abbrev cX0_raise : ByteArray := prog_2_method_5_code
def yX0_raise : MethodName := ⟨RX0, "raise", "(II)V"⟩
abbrev cX0_askSum : ByteArray := prog_2_method_6_code
def yX0_askSum : MethodName := ⟨RX0, "askSum", "(II)I"⟩
abbrev cX0_askGreatest : ByteArray := prog_2_method_7_code
def yX0_askGreatest : MethodName := ⟨RX0, "askGreatest", "(II)I"⟩
abbrev cX0_leastGreatestOver : ByteArray := prog_2_method_8_code
def yX0_leastGreatestOver : MethodName := ⟨RX0, "leastGreatestOver", "(I)I"⟩
abbrev cX0_countLagging : ByteArray := prog_2_method_9_code
def yX0_countLagging : MethodName := ⟨RX0, "countLagging", "()I"⟩
abbrev cX0_setSpan : ByteArray := prog_2_method_10_code
def yX0_setSpan : MethodName := ⟨RX0, "setSpan", "(III)V"⟩
abbrev cX0_splitSpan : ByteArray := prog_2_method_11_code
def yX0_splitSpan : MethodName := ⟨RX0, "splitSpan", "(I)V"⟩
abbrev cX0_hasParts : ByteArray := prog_2_method_12_code
def yX0_hasParts : MethodName := ⟨RX0, "hasParts", "(I)Z"⟩
abbrev cX0_isApart : ByteArray := prog_2_method_13_code
def yX0_isApart : MethodName := ⟨RX0, "isApart", "(III)Z"⟩
abbrev cX0_isWithin : ByteArray := prog_2_method_14_code
def yX0_isWithin : MethodName := ⟨RX0, "isWithin", "(III)Z"⟩
abbrev cX0_lags : ByteArray := prog_2_method_15_code
def yX0_lags : MethodName := ⟨RX0, "lags", "(I)Z"⟩
abbrev cX0_beginCall : ByteArray := prog_2_method_16_code
def yX0_beginCall : MethodName := ⟨RX0, "beginCall", "()V"⟩
abbrev cX0_countVisit : ByteArray := prog_2_method_17_code
def yX0_countVisit : MethodName := ⟨RX0, "countVisit", "()V"⟩
abbrev cX0_pressFrom : ByteArray := prog_2_method_18_code
def yX0_pressFrom : MethodName := ⟨RX0, "pressFrom", "(IIII)V"⟩
abbrev cX0_raiseFrom : ByteArray := prog_2_method_19_code
def yX0_raiseFrom : MethodName := ⟨RX0, "raiseFrom", "(III)V"⟩
abbrev cX0_sumFrom : ByteArray := prog_2_method_20_code
def yX0_sumFrom : MethodName := ⟨RX0, "sumFrom", "(III)I"⟩
abbrev cX0_greatestFrom : ByteArray := prog_2_method_21_code
def yX0_greatestFrom : MethodName := ⟨RX0, "greatestFrom", "(III)I"⟩
abbrev cX0_pressDown : ByteArray := prog_2_method_22_code
def yX0_pressDown : MethodName := ⟨RX0, "pressDown", "(II)V"⟩
abbrev cX0_catchUpBelow : ByteArray := prog_2_method_23_code
def yX0_catchUpBelow : MethodName := ⟨RX0, "catchUpBelow", "(I)V"⟩
abbrev cX0_catchUp : ByteArray := prog_2_method_24_code
def yX0_catchUp : MethodName := ⟨RX0, "catchUp", "(I)V"⟩
abbrev cX0_tellAnew : ByteArray := prog_2_method_25_code
def yX0_tellAnew : MethodName := ⟨RX0, "tellAnew", "(I)V"⟩
abbrev cX0_manyAt : ByteArray := prog_2_method_26_code
def yX0_manyAt : MethodName := ⟨RX0, "manyAt", "(II)I"⟩
abbrev cX0_greatestLessThan : ByteArray := prog_2_method_27_code
def yX0_greatestLessThan : MethodName := ⟨RX0, "greatestLessThan", "(II)I"⟩
def RX1 : String := "PressedPlains$Ground"
def TX1 : u_T := fun k => match k with
  | 0 => ("PressedPlains$Ground", "heights", "[I", true)
  | 1 => ("PressedPlains$Ground", "ceilings", "[I", true)
  | 2 => ("PressedPlains$Ground", "count", "I", false)
  | _ => ("PressedPlains$Ground", "given", "I", false)
def tyX1 : Nat → FieldType := fun k => match k with
  | 0 => .array .int
  | 1 => .array .int
  | 2 => .int
  | _ => .int
abbrev wsX10 : List Cond := u_ws RX1 TX1 4
theorem nmX1 : ∀ a, a < 4 → ∀ b, b < 4 → a ≠ b → (TX1 a).2.1 ≠ (TX1 b).2.1 := by decide +kernel
theorem tyX1_ok : ∀ k, k < 4 → parseFieldDescriptor (TX1 k).2.2.1 = some (tyX1 k) := by decide +kernel
abbrev cX1_init : ByteArray := prog_3_method_1_code
def yX1_init : MethodName := ⟨RX1, "<init>", "()V"⟩
abbrev cX1_renew : ByteArray := prog_3_method_2_code
def yX1_renew : MethodName := ⟨RX1, "renew", "(II)V"⟩
abbrev cX1_raise : ByteArray := prog_3_method_3_code
def yX1_raise : MethodName := ⟨RX1, "raise", "(II)V"⟩
abbrev cX1_press : ByteArray := prog_3_method_4_code
def yX1_press : MethodName := ⟨RX1, "press", "(III)V"⟩
abbrev cX1_earthAbove : ByteArray := prog_3_method_5_code
def yX1_earthAbove : MethodName := ⟨RX1, "earthAbove", "(III)I"⟩
abbrev cX1_highestCeilingFor : ByteArray := prog_3_method_6_code
def yX1_highestCeilingFor : MethodName := ⟨RX1, "highestCeilingFor", "(III)I"⟩
def RX2 : String := "PressedPlains"
def TX2 : u_T := fun k => match k with
  | 0 => ("PressedPlains", "book", "LPressedPlains$Book;", true)
  | 1 => ("PressedPlains", "ground", "LPressedPlains$Ground;", true)
  | _ => ("PressedPlains", "pressedSoFar", "I", false)
def tyX2 : Nat → FieldType := fun k => match k with
  | 0 => .object "PressedPlains$Book"
  | 1 => .object "PressedPlains$Ground"
  | _ => .int
abbrev wsX20 : List Cond := u_ws RX2 TX2 3
theorem nmX2 : ∀ a, a < 3 → ∀ b, b < 3 → a ≠ b → (TX2 a).2.1 ≠ (TX2 b).2.1 := by decide +kernel
theorem tyX2_ok : ∀ k, k < 3 → parseFieldDescriptor (TX2 k).2.2.1 = some (tyX2 k) := by decide +kernel
abbrev cX2_init : ByteArray := prog_1_method_1_code
def yX2_init : MethodName := ⟨RX2, "<init>", "()V"⟩
abbrev cX2_layOut : ByteArray := prog_1_method_2_code
def yX2_layOut : MethodName := ⟨RX2, "layOut", "(II)I"⟩
abbrev cX2_pile : ByteArray := prog_1_method_3_code
def yX2_pile : MethodName := ⟨RX2, "pile", "(II)I"⟩
abbrev cX2_lower : ByteArray := prog_1_method_4_code
def yX2_lower : MethodName := ⟨RX2, "lower", "(III)I"⟩
abbrev cX2_earth : ByteArray := prog_1_method_5_code
def yX2_earth : MethodName := ⟨RX2, "earth", "(II)I"⟩
abbrev cX2_earthByColumns : ByteArray := prog_1_method_6_code
def yX2_earthByColumns : MethodName := ⟨RX2, "earthByColumns", "(II)I"⟩
abbrev cX2_top : ByteArray := prog_1_method_7_code
def yX2_top : MethodName := ⟨RX2, "top", "(II)I"⟩
abbrev cX2_height : ByteArray := prog_1_method_8_code
def yX2_height : MethodName := ⟨RX2, "height", "(I)I"⟩
abbrev cX2_heightOfColumn : ByteArray := prog_1_method_9_code
def yX2_heightOfColumn : MethodName := ⟨RX2, "heightOfColumn", "(I)I"⟩
abbrev cX2_wouldPress : ByteArray := prog_1_method_10_code
def yX2_wouldPress : MethodName := ⟨RX2, "wouldPress", "(III)I"⟩
abbrev cX2_ceilingFor : ByteArray := prog_1_method_11_code
def yX2_ceilingFor : MethodName := ⟨RX2, "ceilingFor", "(III)I"⟩
abbrev cX2_ceilingOver : ByteArray := prog_1_method_12_code
def yX2_ceilingOver : MethodName := ⟨RX2, "ceilingOver", "(I)I"⟩
abbrev cX2_columns : ByteArray := prog_1_method_13_code
def yX2_columns : MethodName := ⟨RX2, "columns", "()I"⟩
abbrev cX2_spanOf : ByteArray := prog_1_method_14_code
def yX2_spanOf : MethodName := ⟨RX2, "spanOf", "(I)I"⟩
abbrev cX2_greatest : ByteArray := prog_1_method_15_code
def yX2_greatest : MethodName := ⟨RX2, "greatest", "(I)I"⟩
abbrev cX2_second : ByteArray := prog_1_method_16_code
def yX2_second : MethodName := ⟨RX2, "second", "(I)I"⟩
abbrev cX2_many : ByteArray := prog_1_method_17_code
def yX2_many : MethodName := ⟨RX2, "many", "(I)I"⟩
abbrev cX2_noted : ByteArray := prog_1_method_18_code
def yX2_noted : MethodName := ⟨RX2, "noted", "(I)I"⟩
abbrev cX2_lagging : ByteArray := prog_1_method_19_code
def yX2_lagging : MethodName := ⟨RX2, "lagging", "()I"⟩
abbrev cX2_visits : ByteArray := prog_1_method_20_code
def yX2_visits : MethodName := ⟨RX2, "visits", "()I"⟩
abbrev cX2_allVisits : ByteArray := prog_1_method_21_code
def yX2_allVisits : MethodName := ⟨RX2, "allVisits", "()I"⟩
abbrev cX2_pressedAway : ByteArray := prog_1_method_22_code
def yX2_pressedAway : MethodName := ⟨RX2, "pressedAway", "()I"⟩
abbrev cX2_pressedAwayByRest : ByteArray := prog_1_method_23_code
def yX2_pressedAwayByRest : MethodName := ⟨RX2, "pressedAwayByRest", "()I"⟩
abbrev cX2_meanVisits : ByteArray := prog_1_method_24_code
def yX2_meanVisits : MethodName := ⟨RX2, "meanVisits", "()D"⟩
abbrev cX2_requireColumn : ByteArray := prog_1_method_25_code
def yX2_requireColumn : MethodName := ⟨RX2, "requireColumn", "(I)V"⟩
abbrev cX2_requireSpan : ByteArray := prog_1_method_26_code
def yX2_requireSpan : MethodName := ⟨RX2, "requireSpan", "(II)V"⟩
abbrev cX2_requireEntry : ByteArray := prog_1_method_27_code
def yX2_requireEntry : MethodName := ⟨RX2, "requireEntry", "(I)V"⟩
abbrev cX2_requireInRange : ByteArray := prog_1_method_28_code
def yX2_requireInRange : MethodName := ⟨RX2, "requireInRange", "(III)V"⟩
def RX3 : String := "PressedPlainsModel"
def TX3 : u_T := fun k => match k with
  | 0 => ("PressedPlainsModel", "columns", "I", false)
  | 1 => ("PressedPlainsModel", "height", "[I", true)
  | 2 => ("PressedPlainsModel", "ceiling", "[I", true)
  | 3 => ("PressedPlainsModel", "first", "[I", true)
  | 4 => ("PressedPlainsModel", "last", "[I", true)
  | 5 => ("PressedPlainsModel", "greatest", "[I", true)
  | 6 => ("PressedPlainsModel", "second", "[I", true)
  | 7 => ("PressedPlainsModel", "many", "[I", true)
  | 8 => ("PressedPlainsModel", "sum", "[I", true)
  | 9 => ("PressedPlainsModel", "todo", "[I", true)
  | 10 => ("PressedPlainsModel", "left", "I", false)
  | 11 => ("PressedPlainsModel", "visits", "I", false)
  | 12 => ("PressedPlainsModel", "allVisits", "I", false)
  | 13 => ("PressedPlainsModel", "calls", "I", false)
  | 14 => ("PressedPlainsModel", "laid", "I", false)
  | 15 => ("PressedPlainsModel", "piled", "I", false)
  | 16 => ("PressedPlainsModel", "pressed", "I", false)
  | _ => ("PressedPlainsModel", "thrown", "I", false)
def tyX3 : Nat → FieldType := fun k => match k with
  | 0 => .int
  | 1 => .array .int
  | 2 => .array .int
  | 3 => .array .int
  | 4 => .array .int
  | 5 => .array .int
  | 6 => .array .int
  | 7 => .array .int
  | 8 => .array .int
  | 9 => .array .int
  | 10 => .int
  | 11 => .int
  | 12 => .int
  | 13 => .int
  | 14 => .int
  | 15 => .int
  | 16 => .int
  | _ => .int
abbrev wsX30 : List Cond := u_ws RX3 TX3 18
theorem nmX3 : ∀ a, a < 18 → ∀ b, b < 18 → a ≠ b → (TX3 a).2.1 ≠ (TX3 b).2.1 := by decide +kernel
theorem tyX3_ok : ∀ k, k < 18 → parseFieldDescriptor (TX3 k).2.2.1 = some (tyX3 k) := by decide +kernel
abbrev cX3_init : ByteArray := prog_5_method_1_code
def yX3_init : MethodName := ⟨RX3, "<init>", "()V"⟩
abbrev cX3_thrown : ByteArray := prog_5_method_2_code
def yX3_thrown : MethodName := ⟨RX3, "thrown", "()I"⟩
abbrev cX3_in : ByteArray := prog_5_method_3_code
def yX3_in : MethodName := ⟨RX3, "in", "(III)Z"⟩
abbrev cX3_isFine : ByteArray := prog_5_method_4_code
def yX3_isFine : MethodName := ⟨RX3, "isFine", "(I)Z"⟩
abbrev cX3_isColumn : ByteArray := prog_5_method_5_code
def yX3_isColumn : MethodName := ⟨RX3, "isColumn", "(I)Z"⟩
abbrev cX3_lays : ByteArray := prog_5_method_6_code
def yX3_lays : MethodName := ⟨RX3, "lays", "(II)V"⟩
abbrev cX3_layOut : ByteArray := prog_5_method_7_code
def yX3_layOut : MethodName := ⟨RX3, "layOut", "(II)I"⟩
abbrev cX3_press : ByteArray := prog_5_method_8_code
def yX3_press : MethodName := ⟨RX3, "press", "(II)V"⟩
abbrev cX3_catchUp : ByteArray := prog_5_method_9_code
def yX3_catchUp : MethodName := ⟨RX3, "catchUp", "(I)V"⟩
abbrev cX3_tell : ByteArray := prog_5_method_10_code
def yX3_tell : MethodName := ⟨RX3, "tell", "(I)V"⟩
abbrev cX3_begins : ByteArray := prog_5_method_11_code
def yX3_begins : MethodName := ⟨RX3, "begins", "()V"⟩
abbrev cX3_visited : ByteArray := prog_5_method_12_code
def yX3_visited : MethodName := ⟨RX3, "visited", "()V"⟩
abbrev cX3_goesBelow : ByteArray := prog_5_method_13_code
def yX3_goesBelow : MethodName := ⟨RX3, "goesBelow", "(IZ)V"⟩
abbrev cX3_isRange : ByteArray := prog_5_method_14_code
def yX3_isRange : MethodName := ⟨RX3, "isRange", "(II)Z"⟩
abbrev cX3_pile : ByteArray := prog_5_method_15_code
def yX3_pile : MethodName := ⟨RX3, "pile", "(II)I"⟩
abbrev cX3_presses : ByteArray := prog_5_method_16_code
def yX3_presses : MethodName := ⟨RX3, "presses", "(III)I"⟩
abbrev cX3_lower : ByteArray := prog_5_method_17_code
def yX3_lower : MethodName := ⟨RX3, "lower", "(III)I"⟩
abbrev cX3_asks : ByteArray := prog_5_method_18_code
def yX3_asks : MethodName := ⟨RX3, "asks", "(IIZ)I"⟩
abbrev cX3_earth : ByteArray := prog_5_method_19_code
def yX3_earth : MethodName := ⟨RX3, "earth", "(II)I"⟩
abbrev cX3_earthByColumns : ByteArray := prog_5_method_20_code
def yX3_earthByColumns : MethodName := ⟨RX3, "earthByColumns", "(II)I"⟩
abbrev cX3_top : ByteArray := prog_5_method_21_code
def yX3_top : MethodName := ⟨RX3, "top", "(II)I"⟩
abbrev cX3_height : ByteArray := prog_5_method_22_code
def yX3_height : MethodName := ⟨RX3, "height", "(I)I"⟩
abbrev cX3_heightOfColumn : ByteArray := prog_5_method_23_code
def yX3_heightOfColumn : MethodName := ⟨RX3, "heightOfColumn", "(I)I"⟩
abbrev cX3_wouldPress : ByteArray := prog_5_method_24_code
def yX3_wouldPress : MethodName := ⟨RX3, "wouldPress", "(III)I"⟩
abbrev cX3_ceilingFor : ByteArray := prog_5_method_25_code
def yX3_ceilingFor : MethodName := ⟨RX3, "ceilingFor", "(III)I"⟩
abbrev cX3_ceilingOver : ByteArray := prog_5_method_26_code
def yX3_ceilingOver : MethodName := ⟨RX3, "ceilingOver", "(I)I"⟩
abbrev cX3_columns : ByteArray := prog_5_method_27_code
def yX3_columns : MethodName := ⟨RX3, "columns", "()I"⟩
abbrev cX3_isEntry : ByteArray := prog_5_method_28_code
def yX3_isEntry : MethodName := ⟨RX3, "isEntry", "(I)Z"⟩
abbrev cX3_spanOf : ByteArray := prog_5_method_29_code
def yX3_spanOf : MethodName := ⟨RX3, "spanOf", "(I)I"⟩
abbrev cX3_greatest : ByteArray := prog_5_method_30_code
def yX3_greatest : MethodName := ⟨RX3, "greatest", "(I)I"⟩
abbrev cX3_second : ByteArray := prog_5_method_31_code
def yX3_second : MethodName := ⟨RX3, "second", "(I)I"⟩
abbrev cX3_many : ByteArray := prog_5_method_32_code
def yX3_many : MethodName := ⟨RX3, "many", "(I)I"⟩
abbrev cX3_noted : ByteArray := prog_5_method_33_code
def yX3_noted : MethodName := ⟨RX3, "noted", "(I)I"⟩
abbrev cX3_lagging : ByteArray := prog_5_method_34_code
def yX3_lagging : MethodName := ⟨RX3, "lagging", "()I"⟩
abbrev cX3_visits : ByteArray := prog_5_method_35_code
def yX3_visits : MethodName := ⟨RX3, "visits", "()I"⟩
abbrev cX3_allVisits : ByteArray := prog_5_method_36_code
def yX3_allVisits : MethodName := ⟨RX3, "allVisits", "()I"⟩
abbrev cX3_pressedAway : ByteArray := prog_5_method_37_code
def yX3_pressedAway : MethodName := ⟨RX3, "pressedAway", "()I"⟩
abbrev cX3_pressedAwayByRest : ByteArray := prog_5_method_38_code
def yX3_pressedAwayByRest : MethodName := ⟨RX3, "pressedAwayByRest", "()I"⟩
abbrev cX3_meanVisits : ByteArray := prog_5_method_39_code
def yX3_meanVisits : MethodName := ⟨RX3, "meanVisits", "()D"⟩
def RJx145de : String := "java/io/Serializable"
def TJx145de : u_T := fun k => match k with
  | _ => ("", "", "", false)
def tyJx145de : Nat → FieldType := fun k => match k with
  | _ => .int
abbrev wsJx145de0 : List Cond := u_ws RJx145de TJx145de 0
theorem nmJx145de : ∀ a, a < 0 → ∀ b, b < 0 → a ≠ b → (TJx145de a).2.1 ≠ (TJx145de b).2.1 := by decide +kernel
theorem tyJx145de_ok : ∀ k, k < 0 → parseFieldDescriptor (TJx145de k).2.2.1 = some (tyJx145de k) := by decide +kernel
def RJ9 : String := "java/lang/Math"
def TJ9 : u_T := fun k => match k with
  | _ => ("", "", "", false)
def tyJ9 : Nat → FieldType := fun k => match k with
  | _ => .int
abbrev wsJ90 : List Cond := u_ws RJ9 TJ9 0
theorem nmJ9 : ∀ a, a < 0 → ∀ b, b < 0 → a ≠ b → (TJ9 a).2.1 ≠ (TJ9 b).2.1 := by decide +kernel
theorem tyJ9_ok : ∀ k, k < 0 → parseFieldDescriptor (TJ9 k).2.2.1 = some (tyJ9 k) := by decide +kernel
abbrev cJ9_max_7cf53 : ByteArray := prog_11_method_65_code
def yJ9_max_7cf53 : MethodName := ⟨RJ9, "max", "(II)I"⟩
abbrev cJ9_min_7cf53 : ByteArray := prog_11_method_69_code
def yJ9_min_7cf53 : MethodName := ⟨RJ9, "min", "(II)I"⟩
def RJ0 : String := "java/lang/String"
def TJ0 : u_T := fun k => match k with
  | _ => ("", "", "", false)
def tyJ0 : Nat → FieldType := fun k => match k with
  | _ => .int
abbrev wsJ00 : List Cond := u_ws RJ0 TJ0 0
theorem nmJ0 : ∀ a, a < 0 → ∀ b, b < 0 → a ≠ b → (TJ0 a).2.1 ≠ (TJ0 b).2.1 := by decide +kernel
theorem tyJ0_ok : ∀ k, k < 0 → parseFieldDescriptor (TJ0 k).2.2.1 = some (tyJ0 k) := by decide +kernel
def RL : String := "PressedPlainsLaw"
abbrev cL_layOut : ByteArray := method_3_code
def yL_layOut : MethodName := ⟨RL, "layOut", "(LPressedPlains;II[J)I"⟩
abbrev cL_pile : ByteArray := method_4_code
def yL_pile : MethodName := ⟨RL, "pile", "(LPressedPlains;II[J)I"⟩
abbrev cL_lower : ByteArray := method_5_code
def yL_lower : MethodName := ⟨RL, "lower", "(LPressedPlains;III[J)I"⟩
abbrev cL_earth : ByteArray := method_6_code
def yL_earth : MethodName := ⟨RL, "earth", "(LPressedPlains;II[J)I"⟩
abbrev cL_earthByColumns : ByteArray := method_7_code
def yL_earthByColumns : MethodName := ⟨RL, "earthByColumns", "(LPressedPlains;II[J)I"⟩
abbrev cL_top : ByteArray := method_8_code
def yL_top : MethodName := ⟨RL, "top", "(LPressedPlains;II[J)I"⟩
abbrev cL_height : ByteArray := method_9_code
def yL_height : MethodName := ⟨RL, "height", "(LPressedPlains;I[J)I"⟩
abbrev cL_heightOfColumn : ByteArray := method_10_code
def yL_heightOfColumn : MethodName := ⟨RL, "heightOfColumn", "(LPressedPlains;I[J)I"⟩
abbrev cL_wouldPress : ByteArray := method_11_code
def yL_wouldPress : MethodName := ⟨RL, "wouldPress", "(LPressedPlains;III[J)I"⟩
abbrev cL_ceilingFor : ByteArray := method_12_code
def yL_ceilingFor : MethodName := ⟨RL, "ceilingFor", "(LPressedPlains;III[J)I"⟩
abbrev cL_ceilingOver : ByteArray := method_13_code
def yL_ceilingOver : MethodName := ⟨RL, "ceilingOver", "(LPressedPlains;I[J)I"⟩
abbrev cL_spanOf : ByteArray := method_14_code
def yL_spanOf : MethodName := ⟨RL, "spanOf", "(LPressedPlains;I[J)I"⟩
abbrev cL_greatest : ByteArray := method_15_code
def yL_greatest : MethodName := ⟨RL, "greatest", "(LPressedPlains;I[J)I"⟩
abbrev cL_second : ByteArray := method_16_code
def yL_second : MethodName := ⟨RL, "second", "(LPressedPlains;I[J)I"⟩
abbrev cL_many : ByteArray := method_17_code
def yL_many : MethodName := ⟨RL, "many", "(LPressedPlains;I[J)I"⟩
abbrev cL_noted : ByteArray := method_18_code
def yL_noted : MethodName := ⟨RL, "noted", "(LPressedPlains;I[J)I"⟩
abbrev cL_law : ByteArray := code
def yL_law : MethodName := ⟨RL, "law", "([I)Z"⟩
def wsX0_init : List Cond := .code yX0_init cX0_init 1 none :: ([.methodLink RX0 3 objectInit, .instanceMethod objectInit, .code objectInit ⟨#[0xb1]⟩ 1 none, .arrayClass .int, .fieldLink RX0 11 "PressedPlains$Book" "first" "[I", .fieldLink RX0 15 "PressedPlains$Book" "last" "[I", .fieldLink RX0 18 "PressedPlains$Book" "greatest" "[I", .fieldLink RX0 21 "PressedPlains$Book" "second" "[I", .fieldLink RX0 24 "PressedPlains$Book" "many" "[I", .fieldLink RX0 27 "PressedPlains$Book" "sum" "[I"] ++ wsX00)
def wsX0_setSpan : List Cond := .code yX0_setSpan cX0_setSpan 4 none :: ([.fieldLink RX0 11 "PressedPlains$Book" "first" "[I", .fieldLink RX0 15 "PressedPlains$Book" "last" "[I"] ++ wsX00)
def wsX0_hasParts : List Cond := .code yX0_hasParts cX0_hasParts 2 (some .boolean) :: ([.fieldLink RX0 11 "PressedPlains$Book" "first" "[I", .fieldLink RX0 15 "PressedPlains$Book" "last" "[I"] ++ wsX00)
def wsX0_splitSpan : List Cond := .code yX0_splitSpan cX0_splitSpan 3 none :: ([.fieldLink RX0 11 "PressedPlains$Book" "first" "[I", .fieldLink RX0 15 "PressedPlains$Book" "last" "[I", .methodLink RX0 82 yX0_hasParts, .instanceMethod yX0_hasParts, .selects RX0 yX0_hasParts yX0_hasParts, .initialized RX0, .code yX0_hasParts cX0_hasParts 2 (some .boolean), .methodLink RX0 30 yX0_setSpan, .instanceMethod yX0_setSpan, .selects RX0 yX0_setSpan yX0_setSpan, .code yX0_setSpan cX0_setSpan 4 none] ++ wsX00)
def wsX0_renew : List Cond := .code yX0_renew cX0_renew 5 none :: ([.fieldLink RX0 15 "PressedPlains$Book" "last" "[I", .fieldLink RX0 11 "PressedPlains$Book" "first" "[I", .fieldLink RX0 18 "PressedPlains$Book" "greatest" "[I", .fieldLink RX0 21 "PressedPlains$Book" "second" "[I", .fieldLink RX0 24 "PressedPlains$Book" "many" "[I", .fieldLink RX0 27 "PressedPlains$Book" "sum" "[I", .fieldLink RX0 38 "PressedPlains$Book" "latestVisits" "I", .fieldLink RX0 42 "PressedPlains$Book" "totalVisits" "I", .fieldLink RX0 45 "PressedPlains$Book" "calls" "I", .methodLink RX0 30 yX0_setSpan, .instanceMethod yX0_setSpan, .selects RX0 yX0_setSpan yX0_setSpan, .initialized RX0, .code yX0_setSpan cX0_setSpan 4 none, .methodLink RX0 34 yX0_splitSpan, .instanceMethod yX0_splitSpan, .selects RX0 yX0_splitSpan yX0_splitSpan, .code yX0_splitSpan cX0_splitSpan 3 none, .methodLink RX0 82 yX0_hasParts, .instanceMethod yX0_hasParts, .selects RX0 yX0_hasParts yX0_hasParts, .code yX0_hasParts cX0_hasParts 2 (some .boolean)] ++ wsX00)
def wsX0_has : List Cond := .code yX0_has cX0_has 2 (some .boolean) :: ([.fieldLink RX0 15 "PressedPlains$Book" "last" "[I"] ++ wsX00)
def wsX0_beginCall : List Cond := .code yX0_beginCall cX0_beginCall 1 none :: ([.fieldLink RX0 45 "PressedPlains$Book" "calls" "I", .fieldLink RX0 38 "PressedPlains$Book" "latestVisits" "I"] ++ wsX00)
def wsX0_countVisit : List Cond := .code yX0_countVisit cX0_countVisit 1 none :: ([.fieldLink RX0 38 "PressedPlains$Book" "latestVisits" "I", .fieldLink RX0 42 "PressedPlains$Book" "totalVisits" "I"] ++ wsX00)
def wsX0_isApart : List Cond := .code yX0_isApart cX0_isApart 4 (some .boolean) :: ([.fieldLink RX0 15 "PressedPlains$Book" "last" "[I", .fieldLink RX0 11 "PressedPlains$Book" "first" "[I"] ++ wsX00)
def wsX0_isWithin : List Cond := .code yX0_isWithin cX0_isWithin 4 (some .boolean) :: ([.fieldLink RX0 11 "PressedPlains$Book" "first" "[I", .fieldLink RX0 15 "PressedPlains$Book" "last" "[I"] ++ wsX00)
def wsX0_pressDown : List Cond := .code yX0_pressDown cX0_pressDown 3 none :: ([.fieldLink RX0 27 "PressedPlains$Book" "sum" "[I", .fieldLink RX0 18 "PressedPlains$Book" "greatest" "[I", .fieldLink RX0 24 "PressedPlains$Book" "many" "[I"] ++ wsX00)
def wsX0_lags : List Cond := .code yX0_lags cX0_lags 2 (some .boolean) :: ([.fieldLink RX0 18 "PressedPlains$Book" "greatest" "[I"] ++ wsX00)
def wsX0_catchUp : List Cond := .code yX0_catchUp cX0_catchUp 2 none :: ([.fieldLink RX0 18 "PressedPlains$Book" "greatest" "[I", .methodLink RX0 79 yX0_lags, .instanceMethod yX0_lags, .selects RX0 yX0_lags yX0_lags, .initialized RX0, .code yX0_lags cX0_lags 2 (some .boolean), .methodLink RX0 91 yX0_pressDown, .instanceMethod yX0_pressDown, .selects RX0 yX0_pressDown yX0_pressDown, .code yX0_pressDown cX0_pressDown 3 none, .fieldLink RX0 27 "PressedPlains$Book" "sum" "[I", .fieldLink RX0 24 "PressedPlains$Book" "many" "[I"] ++ wsX00)
def wsX0_catchUpBelow : List Cond := .code yX0_catchUpBelow cX0_catchUpBelow 2 none :: ([.methodLink RX0 104 yX0_catchUp, .instanceMethod yX0_catchUp, .selects RX0 yX0_catchUp yX0_catchUp, .initialized RX0, .code yX0_catchUp cX0_catchUp 2 none, .fieldLink RX0 18 "PressedPlains$Book" "greatest" "[I", .methodLink RX0 79 yX0_lags, .instanceMethod yX0_lags, .selects RX0 yX0_lags yX0_lags, .code yX0_lags cX0_lags 2 (some .boolean), .methodLink RX0 91 yX0_pressDown, .instanceMethod yX0_pressDown, .selects RX0 yX0_pressDown yX0_pressDown, .code yX0_pressDown cX0_pressDown 3 none, .fieldLink RX0 27 "PressedPlains$Book" "sum" "[I", .fieldLink RX0 24 "PressedPlains$Book" "many" "[I"] ++ wsX00)
def wsX0_manyAt : List Cond := .code yX0_manyAt cX0_manyAt 3 (some .int) :: ([.fieldLink RX0 18 "PressedPlains$Book" "greatest" "[I", .fieldLink RX0 24 "PressedPlains$Book" "many" "[I"] ++ wsX00)
def wsX0_greatestLessThan : List Cond := .code yX0_greatestLessThan cX0_greatestLessThan 3 (some .int) :: ([.fieldLink RX0 18 "PressedPlains$Book" "greatest" "[I", .fieldLink RX0 21 "PressedPlains$Book" "second" "[I"] ++ wsX00)
def wsX0_tellAnew : List Cond := .code yX0_tellAnew cX0_tellAnew 5 none :: ([.fieldLink RX0 18 "PressedPlains$Book" "greatest" "[I", .methodLink RX0 101 Lib.Math.max.name, .static Lib.Math.max.name, .initialized "java/lang/Math", .code Lib.Math.max.name Lib.Math.max.code 2 (some .int), .fieldLink RX0 24 "PressedPlains$Book" "many" "[I", .fieldLink RX0 21 "PressedPlains$Book" "second" "[I", .fieldLink RX0 27 "PressedPlains$Book" "sum" "[I", .methodLink RX0 107 yX0_manyAt, .instanceMethod yX0_manyAt, .selects RX0 yX0_manyAt yX0_manyAt, .initialized RX0, .code yX0_manyAt cX0_manyAt 3 (some .int), .methodLink RX0 110 yX0_greatestLessThan, .instanceMethod yX0_greatestLessThan, .selects RX0 yX0_greatestLessThan yX0_greatestLessThan, .code yX0_greatestLessThan cX0_greatestLessThan 3 (some .int)] ++ wsX00)
def wsX0_pressFrom_r1 : List Cond := [Cond.fieldLink RX0 18 "PressedPlains$Book" "greatest" "[I", Cond.fieldLink RX0 21 "PressedPlains$Book" "second" "[I", Cond.methodLink RX0 85 yX0_countVisit, Cond.instanceMethod yX0_countVisit, Cond.selects RX0 yX0_countVisit yX0_countVisit, Cond.initialized RX0, Cond.code yX0_countVisit cX0_countVisit 1 none, Cond.fieldLink RX0 38 "PressedPlains$Book" "latestVisits" "I", Cond.fieldLink RX0 42 "PressedPlains$Book" "totalVisits" "I", Cond.methodLink RX0 69 yX0_isApart, Cond.instanceMethod yX0_isApart, Cond.selects RX0 yX0_isApart yX0_isApart, Cond.code yX0_isApart cX0_isApart 4 (some .boolean), Cond.fieldLink RX0 15 "PressedPlains$Book" "last" "[I", Cond.fieldLink RX0 11 "PressedPlains$Book" "first" "[I", Cond.methodLink RX0 88 yX0_isWithin, Cond.instanceMethod yX0_isWithin, Cond.selects RX0 yX0_isWithin yX0_isWithin, Cond.code yX0_isWithin cX0_isWithin 4 (some .boolean), Cond.methodLink RX0 82 yX0_hasParts, Cond.instanceMethod yX0_hasParts, Cond.selects RX0 yX0_hasParts yX0_hasParts, Cond.code yX0_hasParts cX0_hasParts 2 (some .boolean), Cond.methodLink RX0 91 yX0_pressDown]
def wsX0_pressFrom_r2 : List Cond := [Cond.instanceMethod yX0_pressDown, Cond.selects RX0 yX0_pressDown yX0_pressDown, Cond.code yX0_pressDown cX0_pressDown 3 none, Cond.fieldLink RX0 27 "PressedPlains$Book" "sum" "[I", Cond.fieldLink RX0 24 "PressedPlains$Book" "many" "[I", Cond.methodLink RX0 95 yX0_catchUpBelow, Cond.instanceMethod yX0_catchUpBelow, Cond.selects RX0 yX0_catchUpBelow yX0_catchUpBelow, Cond.code yX0_catchUpBelow cX0_catchUpBelow 2 none, Cond.methodLink RX0 104 yX0_catchUp, Cond.instanceMethod yX0_catchUp, Cond.selects RX0 yX0_catchUp yX0_catchUp, Cond.code yX0_catchUp cX0_catchUp 2 none, Cond.methodLink RX0 79 yX0_lags, Cond.instanceMethod yX0_lags, Cond.selects RX0 yX0_lags yX0_lags, Cond.code yX0_lags cX0_lags 2 (some .boolean), Cond.methodLink RX0 51 yX0_pressFrom, Cond.instanceMethod yX0_pressFrom, Cond.selects RX0 yX0_pressFrom yX0_pressFrom, Cond.methodLink RX0 98 yX0_tellAnew, Cond.instanceMethod yX0_tellAnew, Cond.selects RX0 yX0_tellAnew yX0_tellAnew, Cond.code yX0_tellAnew cX0_tellAnew 5 none]
def wsX0_pressFrom_r3 : List Cond := [Cond.methodLink RX0 101 Lib.Math.max.name, Cond.static Lib.Math.max.name, Cond.initialized "java/lang/Math", Cond.code Lib.Math.max.name Lib.Math.max.code 2 (some .int), Cond.methodLink RX0 107 yX0_manyAt, Cond.instanceMethod yX0_manyAt, Cond.selects RX0 yX0_manyAt yX0_manyAt, Cond.code yX0_manyAt cX0_manyAt 3 (some .int), Cond.methodLink RX0 110 yX0_greatestLessThan, Cond.instanceMethod yX0_greatestLessThan, Cond.selects RX0 yX0_greatestLessThan yX0_greatestLessThan, Cond.code yX0_greatestLessThan cX0_greatestLessThan 3 (some .int)]
def wsX0_pressFrom : List Cond := .code yX0_pressFrom cX0_pressFrom 6 none :: ((wsX0_pressFrom_r1 ++ (wsX0_pressFrom_r2 ++ wsX0_pressFrom_r3)) ++ wsX00)
def wsX0_press_r1 : List Cond := [Cond.fieldLink RX0 27 "PressedPlains$Book" "sum" "[I", Cond.methodLink RX0 48 yX0_beginCall, Cond.instanceMethod yX0_beginCall, Cond.selects RX0 yX0_beginCall yX0_beginCall, Cond.initialized RX0, Cond.code yX0_beginCall cX0_beginCall 1 none, Cond.fieldLink RX0 45 "PressedPlains$Book" "calls" "I", Cond.fieldLink RX0 38 "PressedPlains$Book" "latestVisits" "I", Cond.methodLink RX0 51 yX0_pressFrom, Cond.instanceMethod yX0_pressFrom, Cond.selects RX0 yX0_pressFrom yX0_pressFrom, Cond.code yX0_pressFrom cX0_pressFrom 6 none, Cond.fieldLink RX0 18 "PressedPlains$Book" "greatest" "[I", Cond.fieldLink RX0 21 "PressedPlains$Book" "second" "[I", Cond.methodLink RX0 85 yX0_countVisit, Cond.instanceMethod yX0_countVisit, Cond.selects RX0 yX0_countVisit yX0_countVisit, Cond.code yX0_countVisit cX0_countVisit 1 none, Cond.fieldLink RX0 42 "PressedPlains$Book" "totalVisits" "I", Cond.methodLink RX0 69 yX0_isApart, Cond.instanceMethod yX0_isApart, Cond.selects RX0 yX0_isApart yX0_isApart, Cond.code yX0_isApart cX0_isApart 4 (some .boolean), Cond.fieldLink RX0 15 "PressedPlains$Book" "last" "[I"]
def wsX0_press_r2 : List Cond := [Cond.fieldLink RX0 11 "PressedPlains$Book" "first" "[I", Cond.methodLink RX0 88 yX0_isWithin, Cond.instanceMethod yX0_isWithin, Cond.selects RX0 yX0_isWithin yX0_isWithin, Cond.code yX0_isWithin cX0_isWithin 4 (some .boolean), Cond.methodLink RX0 82 yX0_hasParts, Cond.instanceMethod yX0_hasParts, Cond.selects RX0 yX0_hasParts yX0_hasParts, Cond.code yX0_hasParts cX0_hasParts 2 (some .boolean), Cond.methodLink RX0 91 yX0_pressDown, Cond.instanceMethod yX0_pressDown, Cond.selects RX0 yX0_pressDown yX0_pressDown, Cond.code yX0_pressDown cX0_pressDown 3 none, Cond.fieldLink RX0 24 "PressedPlains$Book" "many" "[I", Cond.methodLink RX0 95 yX0_catchUpBelow, Cond.instanceMethod yX0_catchUpBelow, Cond.selects RX0 yX0_catchUpBelow yX0_catchUpBelow, Cond.code yX0_catchUpBelow cX0_catchUpBelow 2 none, Cond.methodLink RX0 104 yX0_catchUp, Cond.instanceMethod yX0_catchUp, Cond.selects RX0 yX0_catchUp yX0_catchUp, Cond.code yX0_catchUp cX0_catchUp 2 none, Cond.methodLink RX0 79 yX0_lags, Cond.instanceMethod yX0_lags]
def wsX0_press_r3 : List Cond := [Cond.selects RX0 yX0_lags yX0_lags, Cond.code yX0_lags cX0_lags 2 (some .boolean), Cond.methodLink RX0 98 yX0_tellAnew, Cond.instanceMethod yX0_tellAnew, Cond.selects RX0 yX0_tellAnew yX0_tellAnew, Cond.code yX0_tellAnew cX0_tellAnew 5 none, Cond.methodLink RX0 101 Lib.Math.max.name, Cond.static Lib.Math.max.name, Cond.initialized "java/lang/Math", Cond.code Lib.Math.max.name Lib.Math.max.code 2 (some .int), Cond.methodLink RX0 107 yX0_manyAt, Cond.instanceMethod yX0_manyAt, Cond.selects RX0 yX0_manyAt yX0_manyAt, Cond.code yX0_manyAt cX0_manyAt 3 (some .int), Cond.methodLink RX0 110 yX0_greatestLessThan, Cond.instanceMethod yX0_greatestLessThan, Cond.selects RX0 yX0_greatestLessThan yX0_greatestLessThan, Cond.code yX0_greatestLessThan cX0_greatestLessThan 3 (some .int)]
def wsX0_press : List Cond := .code yX0_press cX0_press 5 (some .int) :: ((wsX0_press_r1 ++ (wsX0_press_r2 ++ wsX0_press_r3)) ++ wsX00)
def wsX0_raiseFrom_r1 : List Cond := [Cond.fieldLink RX0 18 "PressedPlains$Book" "greatest" "[I", Cond.fieldLink RX0 27 "PressedPlains$Book" "sum" "[I", Cond.fieldLink RX0 15 "PressedPlains$Book" "last" "[I", Cond.methodLink RX0 85 yX0_countVisit, Cond.instanceMethod yX0_countVisit, Cond.selects RX0 yX0_countVisit yX0_countVisit, Cond.initialized RX0, Cond.code yX0_countVisit cX0_countVisit 1 none, Cond.fieldLink RX0 38 "PressedPlains$Book" "latestVisits" "I", Cond.fieldLink RX0 42 "PressedPlains$Book" "totalVisits" "I", Cond.methodLink RX0 82 yX0_hasParts, Cond.instanceMethod yX0_hasParts, Cond.selects RX0 yX0_hasParts yX0_hasParts, Cond.code yX0_hasParts cX0_hasParts 2 (some .boolean), Cond.fieldLink RX0 11 "PressedPlains$Book" "first" "[I", Cond.methodLink RX0 95 yX0_catchUpBelow, Cond.instanceMethod yX0_catchUpBelow, Cond.selects RX0 yX0_catchUpBelow yX0_catchUpBelow, Cond.code yX0_catchUpBelow cX0_catchUpBelow 2 none, Cond.methodLink RX0 104 yX0_catchUp, Cond.instanceMethod yX0_catchUp, Cond.selects RX0 yX0_catchUp yX0_catchUp, Cond.code yX0_catchUp cX0_catchUp 2 none, Cond.methodLink RX0 79 yX0_lags]
def wsX0_raiseFrom_r2 : List Cond := [Cond.instanceMethod yX0_lags, Cond.selects RX0 yX0_lags yX0_lags, Cond.code yX0_lags cX0_lags 2 (some .boolean), Cond.methodLink RX0 91 yX0_pressDown, Cond.instanceMethod yX0_pressDown, Cond.selects RX0 yX0_pressDown yX0_pressDown, Cond.code yX0_pressDown cX0_pressDown 3 none, Cond.fieldLink RX0 24 "PressedPlains$Book" "many" "[I", Cond.methodLink RX0 55 yX0_raiseFrom, Cond.instanceMethod yX0_raiseFrom, Cond.selects RX0 yX0_raiseFrom yX0_raiseFrom, Cond.methodLink RX0 98 yX0_tellAnew, Cond.instanceMethod yX0_tellAnew, Cond.selects RX0 yX0_tellAnew yX0_tellAnew, Cond.code yX0_tellAnew cX0_tellAnew 5 none, Cond.methodLink RX0 101 Lib.Math.max.name, Cond.static Lib.Math.max.name, Cond.initialized "java/lang/Math", Cond.code Lib.Math.max.name Lib.Math.max.code 2 (some .int), Cond.fieldLink RX0 21 "PressedPlains$Book" "second" "[I", Cond.methodLink RX0 107 yX0_manyAt, Cond.instanceMethod yX0_manyAt, Cond.selects RX0 yX0_manyAt yX0_manyAt, Cond.code yX0_manyAt cX0_manyAt 3 (some .int)]
def wsX0_raiseFrom_r3 : List Cond := [Cond.methodLink RX0 110 yX0_greatestLessThan, Cond.instanceMethod yX0_greatestLessThan, Cond.selects RX0 yX0_greatestLessThan yX0_greatestLessThan, Cond.code yX0_greatestLessThan cX0_greatestLessThan 3 (some .int)]
def wsX0_raiseFrom : List Cond := .code yX0_raiseFrom cX0_raiseFrom 5 none :: ((wsX0_raiseFrom_r1 ++ (wsX0_raiseFrom_r2 ++ wsX0_raiseFrom_r3)) ++ wsX00)
def wsX0_raise_r1 : List Cond := [Cond.methodLink RX0 48 yX0_beginCall, Cond.instanceMethod yX0_beginCall, Cond.selects RX0 yX0_beginCall yX0_beginCall, Cond.initialized RX0, Cond.code yX0_beginCall cX0_beginCall 1 none, Cond.fieldLink RX0 45 "PressedPlains$Book" "calls" "I", Cond.fieldLink RX0 38 "PressedPlains$Book" "latestVisits" "I", Cond.methodLink RX0 55 yX0_raiseFrom, Cond.instanceMethod yX0_raiseFrom, Cond.selects RX0 yX0_raiseFrom yX0_raiseFrom, Cond.code yX0_raiseFrom cX0_raiseFrom 5 none, Cond.fieldLink RX0 18 "PressedPlains$Book" "greatest" "[I", Cond.fieldLink RX0 27 "PressedPlains$Book" "sum" "[I", Cond.fieldLink RX0 15 "PressedPlains$Book" "last" "[I", Cond.methodLink RX0 85 yX0_countVisit, Cond.instanceMethod yX0_countVisit, Cond.selects RX0 yX0_countVisit yX0_countVisit, Cond.code yX0_countVisit cX0_countVisit 1 none, Cond.fieldLink RX0 42 "PressedPlains$Book" "totalVisits" "I", Cond.methodLink RX0 82 yX0_hasParts, Cond.instanceMethod yX0_hasParts, Cond.selects RX0 yX0_hasParts yX0_hasParts, Cond.code yX0_hasParts cX0_hasParts 2 (some .boolean), Cond.fieldLink RX0 11 "PressedPlains$Book" "first" "[I"]
def wsX0_raise_r2 : List Cond := [Cond.methodLink RX0 95 yX0_catchUpBelow, Cond.instanceMethod yX0_catchUpBelow, Cond.selects RX0 yX0_catchUpBelow yX0_catchUpBelow, Cond.code yX0_catchUpBelow cX0_catchUpBelow 2 none, Cond.methodLink RX0 104 yX0_catchUp, Cond.instanceMethod yX0_catchUp, Cond.selects RX0 yX0_catchUp yX0_catchUp, Cond.code yX0_catchUp cX0_catchUp 2 none, Cond.methodLink RX0 79 yX0_lags, Cond.instanceMethod yX0_lags, Cond.selects RX0 yX0_lags yX0_lags, Cond.code yX0_lags cX0_lags 2 (some .boolean), Cond.methodLink RX0 91 yX0_pressDown, Cond.instanceMethod yX0_pressDown, Cond.selects RX0 yX0_pressDown yX0_pressDown, Cond.code yX0_pressDown cX0_pressDown 3 none, Cond.fieldLink RX0 24 "PressedPlains$Book" "many" "[I", Cond.methodLink RX0 98 yX0_tellAnew, Cond.instanceMethod yX0_tellAnew, Cond.selects RX0 yX0_tellAnew yX0_tellAnew, Cond.code yX0_tellAnew cX0_tellAnew 5 none, Cond.methodLink RX0 101 Lib.Math.max.name, Cond.static Lib.Math.max.name, Cond.initialized "java/lang/Math"]
def wsX0_raise_r3 : List Cond := [Cond.code Lib.Math.max.name Lib.Math.max.code 2 (some .int), Cond.fieldLink RX0 21 "PressedPlains$Book" "second" "[I", Cond.methodLink RX0 107 yX0_manyAt, Cond.instanceMethod yX0_manyAt, Cond.selects RX0 yX0_manyAt yX0_manyAt, Cond.code yX0_manyAt cX0_manyAt 3 (some .int), Cond.methodLink RX0 110 yX0_greatestLessThan, Cond.instanceMethod yX0_greatestLessThan, Cond.selects RX0 yX0_greatestLessThan yX0_greatestLessThan, Cond.code yX0_greatestLessThan cX0_greatestLessThan 3 (some .int)]
def wsX0_raise : List Cond := .code yX0_raise cX0_raise 3 none :: ((wsX0_raise_r1 ++ (wsX0_raise_r2 ++ wsX0_raise_r3)) ++ wsX00)
def wsX0_sumFrom_r1 : List Cond := [Cond.fieldLink RX0 27 "PressedPlains$Book" "sum" "[I", Cond.methodLink RX0 85 yX0_countVisit, Cond.instanceMethod yX0_countVisit, Cond.selects RX0 yX0_countVisit yX0_countVisit, Cond.initialized RX0, Cond.code yX0_countVisit cX0_countVisit 1 none, Cond.fieldLink RX0 38 "PressedPlains$Book" "latestVisits" "I", Cond.fieldLink RX0 42 "PressedPlains$Book" "totalVisits" "I", Cond.methodLink RX0 69 yX0_isApart, Cond.instanceMethod yX0_isApart, Cond.selects RX0 yX0_isApart yX0_isApart, Cond.code yX0_isApart cX0_isApart 4 (some .boolean), Cond.fieldLink RX0 15 "PressedPlains$Book" "last" "[I", Cond.fieldLink RX0 11 "PressedPlains$Book" "first" "[I", Cond.methodLink RX0 88 yX0_isWithin, Cond.instanceMethod yX0_isWithin, Cond.selects RX0 yX0_isWithin yX0_isWithin, Cond.code yX0_isWithin cX0_isWithin 4 (some .boolean), Cond.methodLink RX0 82 yX0_hasParts, Cond.instanceMethod yX0_hasParts, Cond.selects RX0 yX0_hasParts yX0_hasParts, Cond.code yX0_hasParts cX0_hasParts 2 (some .boolean), Cond.methodLink RX0 95 yX0_catchUpBelow, Cond.instanceMethod yX0_catchUpBelow]
def wsX0_sumFrom_r2 : List Cond := [Cond.selects RX0 yX0_catchUpBelow yX0_catchUpBelow, Cond.code yX0_catchUpBelow cX0_catchUpBelow 2 none, Cond.methodLink RX0 104 yX0_catchUp, Cond.instanceMethod yX0_catchUp, Cond.selects RX0 yX0_catchUp yX0_catchUp, Cond.code yX0_catchUp cX0_catchUp 2 none, Cond.fieldLink RX0 18 "PressedPlains$Book" "greatest" "[I", Cond.methodLink RX0 79 yX0_lags, Cond.instanceMethod yX0_lags, Cond.selects RX0 yX0_lags yX0_lags, Cond.code yX0_lags cX0_lags 2 (some .boolean), Cond.methodLink RX0 91 yX0_pressDown, Cond.instanceMethod yX0_pressDown, Cond.selects RX0 yX0_pressDown yX0_pressDown, Cond.code yX0_pressDown cX0_pressDown 3 none, Cond.fieldLink RX0 24 "PressedPlains$Book" "many" "[I", Cond.methodLink RX0 58 yX0_sumFrom, Cond.instanceMethod yX0_sumFrom, Cond.selects RX0 yX0_sumFrom yX0_sumFrom]
def wsX0_sumFrom : List Cond := .code yX0_sumFrom cX0_sumFrom 4 (some .int) :: ((wsX0_sumFrom_r1 ++ wsX0_sumFrom_r2) ++ wsX00)
def wsX0_askSum_r1 : List Cond := [Cond.methodLink RX0 48 yX0_beginCall, Cond.instanceMethod yX0_beginCall, Cond.selects RX0 yX0_beginCall yX0_beginCall, Cond.initialized RX0, Cond.code yX0_beginCall cX0_beginCall 1 none, Cond.fieldLink RX0 45 "PressedPlains$Book" "calls" "I", Cond.fieldLink RX0 38 "PressedPlains$Book" "latestVisits" "I", Cond.methodLink RX0 58 yX0_sumFrom, Cond.instanceMethod yX0_sumFrom, Cond.selects RX0 yX0_sumFrom yX0_sumFrom, Cond.code yX0_sumFrom cX0_sumFrom 4 (some .int), Cond.fieldLink RX0 27 "PressedPlains$Book" "sum" "[I", Cond.methodLink RX0 85 yX0_countVisit, Cond.instanceMethod yX0_countVisit, Cond.selects RX0 yX0_countVisit yX0_countVisit, Cond.code yX0_countVisit cX0_countVisit 1 none, Cond.fieldLink RX0 42 "PressedPlains$Book" "totalVisits" "I", Cond.methodLink RX0 69 yX0_isApart, Cond.instanceMethod yX0_isApart, Cond.selects RX0 yX0_isApart yX0_isApart, Cond.code yX0_isApart cX0_isApart 4 (some .boolean), Cond.fieldLink RX0 15 "PressedPlains$Book" "last" "[I", Cond.fieldLink RX0 11 "PressedPlains$Book" "first" "[I", Cond.methodLink RX0 88 yX0_isWithin]
def wsX0_askSum_r2 : List Cond := [Cond.instanceMethod yX0_isWithin, Cond.selects RX0 yX0_isWithin yX0_isWithin, Cond.code yX0_isWithin cX0_isWithin 4 (some .boolean), Cond.methodLink RX0 82 yX0_hasParts, Cond.instanceMethod yX0_hasParts, Cond.selects RX0 yX0_hasParts yX0_hasParts, Cond.code yX0_hasParts cX0_hasParts 2 (some .boolean), Cond.methodLink RX0 95 yX0_catchUpBelow, Cond.instanceMethod yX0_catchUpBelow, Cond.selects RX0 yX0_catchUpBelow yX0_catchUpBelow, Cond.code yX0_catchUpBelow cX0_catchUpBelow 2 none, Cond.methodLink RX0 104 yX0_catchUp, Cond.instanceMethod yX0_catchUp, Cond.selects RX0 yX0_catchUp yX0_catchUp, Cond.code yX0_catchUp cX0_catchUp 2 none, Cond.fieldLink RX0 18 "PressedPlains$Book" "greatest" "[I", Cond.methodLink RX0 79 yX0_lags, Cond.instanceMethod yX0_lags, Cond.selects RX0 yX0_lags yX0_lags, Cond.code yX0_lags cX0_lags 2 (some .boolean), Cond.methodLink RX0 91 yX0_pressDown, Cond.instanceMethod yX0_pressDown, Cond.selects RX0 yX0_pressDown yX0_pressDown, Cond.code yX0_pressDown cX0_pressDown 3 none]
def wsX0_askSum_r3 : List Cond := [Cond.fieldLink RX0 24 "PressedPlains$Book" "many" "[I"]
def wsX0_askSum : List Cond := .code yX0_askSum cX0_askSum 3 (some .int) :: ((wsX0_askSum_r1 ++ (wsX0_askSum_r2 ++ wsX0_askSum_r3)) ++ wsX00)
def wsX0_greatestFrom_r1 : List Cond := [Cond.fieldLink RX0 18 "PressedPlains$Book" "greatest" "[I", Cond.methodLink RX0 101 Lib.Math.max.name, Cond.static Lib.Math.max.name, Cond.initialized "java/lang/Math", Cond.code Lib.Math.max.name Lib.Math.max.code 2 (some .int), Cond.methodLink RX0 85 yX0_countVisit, Cond.instanceMethod yX0_countVisit, Cond.selects RX0 yX0_countVisit yX0_countVisit, Cond.initialized RX0, Cond.code yX0_countVisit cX0_countVisit 1 none, Cond.fieldLink RX0 38 "PressedPlains$Book" "latestVisits" "I", Cond.fieldLink RX0 42 "PressedPlains$Book" "totalVisits" "I", Cond.methodLink RX0 69 yX0_isApart, Cond.instanceMethod yX0_isApart, Cond.selects RX0 yX0_isApart yX0_isApart, Cond.code yX0_isApart cX0_isApart 4 (some .boolean), Cond.fieldLink RX0 15 "PressedPlains$Book" "last" "[I", Cond.fieldLink RX0 11 "PressedPlains$Book" "first" "[I", Cond.methodLink RX0 88 yX0_isWithin, Cond.instanceMethod yX0_isWithin, Cond.selects RX0 yX0_isWithin yX0_isWithin, Cond.code yX0_isWithin cX0_isWithin 4 (some .boolean), Cond.methodLink RX0 82 yX0_hasParts, Cond.instanceMethod yX0_hasParts]
def wsX0_greatestFrom_r2 : List Cond := [Cond.selects RX0 yX0_hasParts yX0_hasParts, Cond.code yX0_hasParts cX0_hasParts 2 (some .boolean), Cond.methodLink RX0 95 yX0_catchUpBelow, Cond.instanceMethod yX0_catchUpBelow, Cond.selects RX0 yX0_catchUpBelow yX0_catchUpBelow, Cond.code yX0_catchUpBelow cX0_catchUpBelow 2 none, Cond.methodLink RX0 104 yX0_catchUp, Cond.instanceMethod yX0_catchUp, Cond.selects RX0 yX0_catchUp yX0_catchUp, Cond.code yX0_catchUp cX0_catchUp 2 none, Cond.methodLink RX0 79 yX0_lags, Cond.instanceMethod yX0_lags, Cond.selects RX0 yX0_lags yX0_lags, Cond.code yX0_lags cX0_lags 2 (some .boolean), Cond.methodLink RX0 91 yX0_pressDown, Cond.instanceMethod yX0_pressDown, Cond.selects RX0 yX0_pressDown yX0_pressDown, Cond.code yX0_pressDown cX0_pressDown 3 none, Cond.fieldLink RX0 27 "PressedPlains$Book" "sum" "[I", Cond.fieldLink RX0 24 "PressedPlains$Book" "many" "[I", Cond.methodLink RX0 62 yX0_greatestFrom, Cond.instanceMethod yX0_greatestFrom, Cond.selects RX0 yX0_greatestFrom yX0_greatestFrom]
def wsX0_greatestFrom : List Cond := .code yX0_greatestFrom cX0_greatestFrom 4 (some .int) :: ((wsX0_greatestFrom_r1 ++ wsX0_greatestFrom_r2) ++ wsX00)
def wsX0_askGreatest_r1 : List Cond := [Cond.methodLink RX0 48 yX0_beginCall, Cond.instanceMethod yX0_beginCall, Cond.selects RX0 yX0_beginCall yX0_beginCall, Cond.initialized RX0, Cond.code yX0_beginCall cX0_beginCall 1 none, Cond.fieldLink RX0 45 "PressedPlains$Book" "calls" "I", Cond.fieldLink RX0 38 "PressedPlains$Book" "latestVisits" "I", Cond.methodLink RX0 62 yX0_greatestFrom, Cond.instanceMethod yX0_greatestFrom, Cond.selects RX0 yX0_greatestFrom yX0_greatestFrom, Cond.code yX0_greatestFrom cX0_greatestFrom 4 (some .int), Cond.fieldLink RX0 18 "PressedPlains$Book" "greatest" "[I", Cond.methodLink RX0 101 Lib.Math.max.name, Cond.static Lib.Math.max.name, Cond.initialized "java/lang/Math", Cond.code Lib.Math.max.name Lib.Math.max.code 2 (some .int), Cond.methodLink RX0 85 yX0_countVisit, Cond.instanceMethod yX0_countVisit, Cond.selects RX0 yX0_countVisit yX0_countVisit, Cond.code yX0_countVisit cX0_countVisit 1 none, Cond.fieldLink RX0 42 "PressedPlains$Book" "totalVisits" "I", Cond.methodLink RX0 69 yX0_isApart, Cond.instanceMethod yX0_isApart, Cond.selects RX0 yX0_isApart yX0_isApart]
def wsX0_askGreatest_r2 : List Cond := [Cond.code yX0_isApart cX0_isApart 4 (some .boolean), Cond.fieldLink RX0 15 "PressedPlains$Book" "last" "[I", Cond.fieldLink RX0 11 "PressedPlains$Book" "first" "[I", Cond.methodLink RX0 88 yX0_isWithin, Cond.instanceMethod yX0_isWithin, Cond.selects RX0 yX0_isWithin yX0_isWithin, Cond.code yX0_isWithin cX0_isWithin 4 (some .boolean), Cond.methodLink RX0 82 yX0_hasParts, Cond.instanceMethod yX0_hasParts, Cond.selects RX0 yX0_hasParts yX0_hasParts, Cond.code yX0_hasParts cX0_hasParts 2 (some .boolean), Cond.methodLink RX0 95 yX0_catchUpBelow, Cond.instanceMethod yX0_catchUpBelow, Cond.selects RX0 yX0_catchUpBelow yX0_catchUpBelow, Cond.code yX0_catchUpBelow cX0_catchUpBelow 2 none, Cond.methodLink RX0 104 yX0_catchUp, Cond.instanceMethod yX0_catchUp, Cond.selects RX0 yX0_catchUp yX0_catchUp, Cond.code yX0_catchUp cX0_catchUp 2 none, Cond.methodLink RX0 79 yX0_lags, Cond.instanceMethod yX0_lags, Cond.selects RX0 yX0_lags yX0_lags, Cond.code yX0_lags cX0_lags 2 (some .boolean), Cond.methodLink RX0 91 yX0_pressDown]
def wsX0_askGreatest_r3 : List Cond := [Cond.instanceMethod yX0_pressDown, Cond.selects RX0 yX0_pressDown yX0_pressDown, Cond.code yX0_pressDown cX0_pressDown 3 none, Cond.fieldLink RX0 27 "PressedPlains$Book" "sum" "[I", Cond.fieldLink RX0 24 "PressedPlains$Book" "many" "[I"]
def wsX0_askGreatest : List Cond := .code yX0_askGreatest cX0_askGreatest 3 (some .int) :: ((wsX0_askGreatest_r1 ++ (wsX0_askGreatest_r2 ++ wsX0_askGreatest_r3)) ++ wsX00)
def wsX0_leastGreatestOver : List Cond := .code yX0_leastGreatestOver cX0_leastGreatestOver 4 (some .int) :: ([.fieldLink RX0 18 "PressedPlains$Book" "greatest" "[I", .methodLink RX0 73 Lib.Math.min.name, .static Lib.Math.min.name, .initialized "java/lang/Math", .code Lib.Math.min.name Lib.Math.min.code 2 (some .int), .methodLink RX0 65 yX0_has, .instanceMethod yX0_has, .selects RX0 yX0_has yX0_has, .initialized RX0, .code yX0_has cX0_has 2 (some .boolean), .fieldLink RX0 15 "PressedPlains$Book" "last" "[I", .methodLink RX0 69 yX0_isApart, .instanceMethod yX0_isApart, .selects RX0 yX0_isApart yX0_isApart, .code yX0_isApart cX0_isApart 4 (some .boolean), .fieldLink RX0 11 "PressedPlains$Book" "first" "[I"] ++ wsX00)
def wsX0_countLagging : List Cond := .code yX0_countLagging cX0_countLagging 3 (some .int) :: ([.methodLink RX0 65 yX0_has, .instanceMethod yX0_has, .selects RX0 yX0_has yX0_has, .initialized RX0, .code yX0_has cX0_has 2 (some .boolean), .fieldLink RX0 15 "PressedPlains$Book" "last" "[I", .methodLink RX0 79 yX0_lags, .instanceMethod yX0_lags, .selects RX0 yX0_lags yX0_lags, .code yX0_lags cX0_lags 2 (some .boolean), .fieldLink RX0 18 "PressedPlains$Book" "greatest" "[I"] ++ wsX00)
def wsX1_init : List Cond := .code yX1_init cX1_init 1 none :: ([.methodLink RX1 3 objectInit, .instanceMethod objectInit, .code objectInit ⟨#[0xb1]⟩ 1 none, .arrayClass .int, .fieldLink RX1 9 "PressedPlains$Ground" "heights" "[I", .fieldLink RX1 15 "PressedPlains$Ground" "ceilings" "[I"] ++ wsX10)
def wsX1_renew : List Cond := .code yX1_renew cX1_renew 4 none :: ([.fieldLink RX1 18 "PressedPlains$Ground" "count" "I", .fieldLink RX1 22 "PressedPlains$Ground" "given" "I", .fieldLink RX1 9 "PressedPlains$Ground" "heights" "[I", .fieldLink RX1 15 "PressedPlains$Ground" "ceilings" "[I"] ++ wsX10)
def wsX1_raise : List Cond := .code yX1_raise cX1_raise 3 none :: ([.fieldLink RX1 9 "PressedPlains$Ground" "heights" "[I", .fieldLink RX1 15 "PressedPlains$Ground" "ceilings" "[I", .fieldLink RX1 22 "PressedPlains$Ground" "given" "I"] ++ wsX10)
def wsX1_press : List Cond := .code yX1_press cX1_press 5 none :: ([.fieldLink RX1 9 "PressedPlains$Ground" "heights" "[I", .methodLink RX1 25 Lib.Math.min.name, .static Lib.Math.min.name, .initialized "java/lang/Math", .code Lib.Math.min.name Lib.Math.min.code 2 (some .int), .fieldLink RX1 15 "PressedPlains$Ground" "ceilings" "[I"] ++ wsX10)
def wsX1_earthAbove : List Cond := .code yX1_earthAbove cX1_earthAbove 6 (some .int) :: ([.fieldLink RX1 9 "PressedPlains$Ground" "heights" "[I", .methodLink RX1 31 Lib.Math.max.name, .static Lib.Math.max.name, .initialized "java/lang/Math", .code Lib.Math.max.name Lib.Math.max.code 2 (some .int)] ++ wsX10)
def wsX1_highestCeilingFor : List Cond := .code yX1_highestCeilingFor cX1_highestCeilingFor 6 (some .int) :: ([.methodLink RX1 34 yX1_earthAbove, .instanceMethod yX1_earthAbove, .selects RX1 yX1_earthAbove yX1_earthAbove, .initialized RX1, .code yX1_earthAbove cX1_earthAbove 6 (some .int), .fieldLink RX1 9 "PressedPlains$Ground" "heights" "[I", .methodLink RX1 31 Lib.Math.max.name, .static Lib.Math.max.name, .initialized "java/lang/Math", .code Lib.Math.max.name Lib.Math.max.code 2 (some .int)] ++ wsX10)
def wsX2_init_r1 : List Cond := [Cond.methodLink RX2 3 objectInit, Cond.instanceMethod objectInit, Cond.code objectInit ⟨#[0xb1]⟩ 1 none, Cond.classLink RX2 9 RX0, Cond.instantiable RX0 9, Cond.initialized RX0, Cond.fieldLink RX2 12 "PressedPlains" "book" "LPressedPlains$Book;", Cond.classLink RX2 16 RX1, Cond.instantiable RX1 4, Cond.initialized RX1, Cond.fieldLink RX2 19 "PressedPlains" "ground" "LPressedPlains$Ground;", Cond.fieldLink RX2 28 "PressedPlains" "pressedSoFar" "I", Cond.instanceMethod yX0_init, Cond.code yX0_init cX0_init 1 none, Cond.methodLink RX0 3 objectInit, Cond.arrayClass .int, Cond.fieldLink RX0 11 "PressedPlains$Book" "first" "[I", Cond.fieldLink RX0 15 "PressedPlains$Book" "last" "[I", Cond.fieldLink RX0 18 "PressedPlains$Book" "greatest" "[I", Cond.fieldLink RX0 21 "PressedPlains$Book" "second" "[I", Cond.fieldLink RX0 24 "PressedPlains$Book" "many" "[I", Cond.fieldLink RX0 27 "PressedPlains$Book" "sum" "[I", Cond.instanceMethod yX1_init, Cond.code yX1_init cX1_init 1 none]
def wsX2_init_r2 : List Cond := [Cond.methodLink RX1 3 objectInit, Cond.fieldLink RX1 9 "PressedPlains$Ground" "heights" "[I", Cond.fieldLink RX1 15 "PressedPlains$Ground" "ceilings" "[I", Cond.methodLink RX2 23 yX0_renew, Cond.instanceMethod yX0_renew, Cond.selects RX0 yX0_renew yX0_renew, Cond.code yX0_renew cX0_renew 5 none, Cond.fieldLink RX0 38 "PressedPlains$Book" "latestVisits" "I", Cond.fieldLink RX0 42 "PressedPlains$Book" "totalVisits" "I", Cond.fieldLink RX0 45 "PressedPlains$Book" "calls" "I", Cond.methodLink RX0 30 yX0_setSpan, Cond.instanceMethod yX0_setSpan, Cond.selects RX0 yX0_setSpan yX0_setSpan, Cond.code yX0_setSpan cX0_setSpan 4 none, Cond.methodLink RX0 34 yX0_splitSpan, Cond.instanceMethod yX0_splitSpan, Cond.selects RX0 yX0_splitSpan yX0_splitSpan, Cond.code yX0_splitSpan cX0_splitSpan 3 none, Cond.methodLink RX0 82 yX0_hasParts, Cond.instanceMethod yX0_hasParts, Cond.selects RX0 yX0_hasParts yX0_hasParts, Cond.code yX0_hasParts cX0_hasParts 2 (some .boolean), Cond.methodLink RX2 27 yX1_renew, Cond.instanceMethod yX1_renew]
def wsX2_init_r3 : List Cond := [Cond.selects RX1 yX1_renew yX1_renew, Cond.code yX1_renew cX1_renew 4 none, Cond.fieldLink RX1 18 "PressedPlains$Ground" "count" "I", Cond.fieldLink RX1 22 "PressedPlains$Ground" "given" "I"]
def wsX2_init : List Cond := .code yX2_init cX2_init 1 none :: ((wsX2_init_r1 ++ (wsX2_init_r2 ++ wsX2_init_r3)) ++ wsX00 ++ wsX20 ++ wsX10)
def wsX2_requireInRange : List Cond := .code yX2_requireInRange cX2_requireInRange 3 none :: ([.classLink RX2 137 "java/lang/IllegalArgumentException", .initialized "java/lang/IllegalArgumentException"] ++ (vx_atS RX2 141 "java/lang/IllegalArgumentException" ["java/lang/RuntimeException", "java/lang/Exception"]).filter goodWord)
def wsX2_layOut_r1 : List Cond := [Cond.fieldLink RX2 12 "PressedPlains" "book" "LPressedPlains$Book;", Cond.fieldLink RX2 19 "PressedPlains" "ground" "LPressedPlains$Ground;", Cond.fieldLink RX2 28 "PressedPlains" "pressedSoFar" "I", Cond.methodLink RX2 32 yX2_requireInRange, Cond.static yX2_requireInRange, Cond.initialized RX2, Cond.code yX2_requireInRange cX2_requireInRange 3 none, Cond.classLink RX2 137 "java/lang/IllegalArgumentException", Cond.initialized "java/lang/IllegalArgumentException", Cond.methodLink RX2 23 yX0_renew, Cond.instanceMethod yX0_renew, Cond.selects RX0 yX0_renew yX0_renew, Cond.initialized RX0, Cond.code yX0_renew cX0_renew 5 none, Cond.fieldLink RX0 15 "PressedPlains$Book" "last" "[I", Cond.fieldLink RX0 11 "PressedPlains$Book" "first" "[I", Cond.fieldLink RX0 18 "PressedPlains$Book" "greatest" "[I", Cond.fieldLink RX0 21 "PressedPlains$Book" "second" "[I", Cond.fieldLink RX0 24 "PressedPlains$Book" "many" "[I", Cond.fieldLink RX0 27 "PressedPlains$Book" "sum" "[I", Cond.fieldLink RX0 38 "PressedPlains$Book" "latestVisits" "I", Cond.fieldLink RX0 42 "PressedPlains$Book" "totalVisits" "I", Cond.fieldLink RX0 45 "PressedPlains$Book" "calls" "I", Cond.methodLink RX0 30 yX0_setSpan]
def wsX2_layOut_r2 : List Cond := [Cond.instanceMethod yX0_setSpan, Cond.selects RX0 yX0_setSpan yX0_setSpan, Cond.code yX0_setSpan cX0_setSpan 4 none, Cond.methodLink RX0 34 yX0_splitSpan, Cond.instanceMethod yX0_splitSpan, Cond.selects RX0 yX0_splitSpan yX0_splitSpan, Cond.code yX0_splitSpan cX0_splitSpan 3 none, Cond.methodLink RX0 82 yX0_hasParts, Cond.instanceMethod yX0_hasParts, Cond.selects RX0 yX0_hasParts yX0_hasParts, Cond.code yX0_hasParts cX0_hasParts 2 (some .boolean), Cond.methodLink RX2 27 yX1_renew, Cond.instanceMethod yX1_renew, Cond.selects RX1 yX1_renew yX1_renew, Cond.initialized RX1, Cond.code yX1_renew cX1_renew 4 none, Cond.fieldLink RX1 18 "PressedPlains$Ground" "count" "I", Cond.fieldLink RX1 22 "PressedPlains$Ground" "given" "I", Cond.fieldLink RX1 9 "PressedPlains$Ground" "heights" "[I", Cond.fieldLink RX1 15 "PressedPlains$Ground" "ceilings" "[I"]
def wsX2_layOut : List Cond := .code yX2_layOut cX2_layOut 3 (some .int) :: ((wsX2_layOut_r1 ++ wsX2_layOut_r2) ++ wsX20 ++ wsX00 ++ wsX10 ++ (vx_atS RX2 141 "java/lang/IllegalArgumentException" ["java/lang/RuntimeException", "java/lang/Exception"]).filter goodWord)
def wsX2_requireColumn : List Cond := .code yX2_requireColumn cX2_requireColumn 2 none :: ([.classLink RX2 132 "java/lang/IndexOutOfBoundsException", .initialized "java/lang/IndexOutOfBoundsException", .fieldLink RX2 19 "PressedPlains" "ground" "LPressedPlains$Ground;"] ++ wsX20 ++ wsX10 ++ (vx_atS RX2 136 "java/lang/IndexOutOfBoundsException" ["java/lang/RuntimeException", "java/lang/Exception"]).filter goodWord)
def wsX2_pile_r1 : List Cond := [Cond.classLink RX2 44 "java/lang/IllegalStateException", Cond.initialized "java/lang/IllegalStateException", Cond.fieldLink RX2 19 "PressedPlains" "ground" "LPressedPlains$Ground;", Cond.fieldLink RX2 12 "PressedPlains" "book" "LPressedPlains$Book;", Cond.methodLink RX2 36 yX2_requireColumn, Cond.instanceMethod yX2_requireColumn, Cond.selects RX2 yX2_requireColumn yX2_requireColumn, Cond.initialized RX2, Cond.code yX2_requireColumn cX2_requireColumn 2 none, Cond.classLink RX2 132 "java/lang/IndexOutOfBoundsException", Cond.initialized "java/lang/IndexOutOfBoundsException", Cond.methodLink RX2 32 yX2_requireInRange, Cond.static yX2_requireInRange, Cond.code yX2_requireInRange cX2_requireInRange 3 none, Cond.classLink RX2 137 "java/lang/IllegalArgumentException", Cond.initialized "java/lang/IllegalArgumentException", Cond.methodLink RX2 51 yX1_raise, Cond.instanceMethod yX1_raise, Cond.selects RX1 yX1_raise yX1_raise, Cond.initialized RX1, Cond.code yX1_raise cX1_raise 3 none, Cond.fieldLink RX1 9 "PressedPlains$Ground" "heights" "[I", Cond.fieldLink RX1 15 "PressedPlains$Ground" "ceilings" "[I", Cond.fieldLink RX1 22 "PressedPlains$Ground" "given" "I"]
def wsX2_pile_r2 : List Cond := [Cond.methodLink RX2 54 yX0_raise, Cond.instanceMethod yX0_raise, Cond.selects RX0 yX0_raise yX0_raise, Cond.initialized RX0, Cond.code yX0_raise cX0_raise 3 none, Cond.methodLink RX0 48 yX0_beginCall, Cond.instanceMethod yX0_beginCall, Cond.selects RX0 yX0_beginCall yX0_beginCall, Cond.code yX0_beginCall cX0_beginCall 1 none, Cond.fieldLink RX0 45 "PressedPlains$Book" "calls" "I", Cond.fieldLink RX0 38 "PressedPlains$Book" "latestVisits" "I", Cond.methodLink RX0 55 yX0_raiseFrom, Cond.instanceMethod yX0_raiseFrom, Cond.selects RX0 yX0_raiseFrom yX0_raiseFrom, Cond.code yX0_raiseFrom cX0_raiseFrom 5 none, Cond.fieldLink RX0 18 "PressedPlains$Book" "greatest" "[I", Cond.fieldLink RX0 27 "PressedPlains$Book" "sum" "[I", Cond.fieldLink RX0 15 "PressedPlains$Book" "last" "[I", Cond.methodLink RX0 85 yX0_countVisit, Cond.instanceMethod yX0_countVisit, Cond.selects RX0 yX0_countVisit yX0_countVisit, Cond.code yX0_countVisit cX0_countVisit 1 none, Cond.fieldLink RX0 42 "PressedPlains$Book" "totalVisits" "I", Cond.methodLink RX0 82 yX0_hasParts]
def wsX2_pile_r3 : List Cond := [Cond.instanceMethod yX0_hasParts, Cond.selects RX0 yX0_hasParts yX0_hasParts, Cond.code yX0_hasParts cX0_hasParts 2 (some .boolean), Cond.fieldLink RX0 11 "PressedPlains$Book" "first" "[I", Cond.methodLink RX0 95 yX0_catchUpBelow, Cond.instanceMethod yX0_catchUpBelow, Cond.selects RX0 yX0_catchUpBelow yX0_catchUpBelow, Cond.code yX0_catchUpBelow cX0_catchUpBelow 2 none, Cond.methodLink RX0 104 yX0_catchUp, Cond.instanceMethod yX0_catchUp, Cond.selects RX0 yX0_catchUp yX0_catchUp, Cond.code yX0_catchUp cX0_catchUp 2 none, Cond.methodLink RX0 79 yX0_lags, Cond.instanceMethod yX0_lags, Cond.selects RX0 yX0_lags yX0_lags, Cond.code yX0_lags cX0_lags 2 (some .boolean), Cond.methodLink RX0 91 yX0_pressDown, Cond.instanceMethod yX0_pressDown, Cond.selects RX0 yX0_pressDown yX0_pressDown, Cond.code yX0_pressDown cX0_pressDown 3 none, Cond.fieldLink RX0 24 "PressedPlains$Book" "many" "[I", Cond.methodLink RX0 98 yX0_tellAnew, Cond.instanceMethod yX0_tellAnew, Cond.selects RX0 yX0_tellAnew yX0_tellAnew]
def wsX2_pile_r4 : List Cond := [Cond.code yX0_tellAnew cX0_tellAnew 5 none, Cond.methodLink RX0 101 Lib.Math.max.name, Cond.static Lib.Math.max.name, Cond.initialized "java/lang/Math", Cond.code Lib.Math.max.name Lib.Math.max.code 2 (some .int), Cond.fieldLink RX0 21 "PressedPlains$Book" "second" "[I", Cond.methodLink RX0 107 yX0_manyAt, Cond.instanceMethod yX0_manyAt, Cond.selects RX0 yX0_manyAt yX0_manyAt, Cond.code yX0_manyAt cX0_manyAt 3 (some .int), Cond.methodLink RX0 110 yX0_greatestLessThan, Cond.instanceMethod yX0_greatestLessThan, Cond.selects RX0 yX0_greatestLessThan yX0_greatestLessThan, Cond.code yX0_greatestLessThan cX0_greatestLessThan 3 (some .int)]
def wsX2_pile : List Cond := .code yX2_pile cX2_pile 4 (some .int) :: ((wsX2_pile_r1 ++ (wsX2_pile_r2 ++ (wsX2_pile_r3 ++ wsX2_pile_r4))) ++ wsX20 ++ wsX10 ++ wsX00 ++ (vx_atS RX2 48 "java/lang/IllegalStateException" ["java/lang/RuntimeException", "java/lang/Exception"]).filter goodWord ++ (vx_atS RX2 136 "java/lang/IndexOutOfBoundsException" ["java/lang/RuntimeException", "java/lang/Exception"]).filter goodWord ++ (vx_atS RX2 141 "java/lang/IllegalArgumentException" ["java/lang/RuntimeException", "java/lang/Exception"]).filter goodWord)
def wsX2_requireSpan : List Cond := .code yX2_requireSpan cX2_requireSpan 3 none :: ([.classLink RX2 137 "java/lang/IllegalArgumentException", .initialized "java/lang/IllegalArgumentException", .methodLink RX2 36 yX2_requireColumn, .instanceMethod yX2_requireColumn, .selects RX2 yX2_requireColumn yX2_requireColumn, .initialized RX2, .code yX2_requireColumn cX2_requireColumn 2 none, .classLink RX2 132 "java/lang/IndexOutOfBoundsException", .initialized "java/lang/IndexOutOfBoundsException", .fieldLink RX2 19 "PressedPlains" "ground" "LPressedPlains$Ground;"] ++ wsX20 ++ wsX10 ++ (vx_atS RX2 141 "java/lang/IllegalArgumentException" ["java/lang/RuntimeException", "java/lang/Exception"]).filter goodWord ++ (vx_atS RX2 136 "java/lang/IndexOutOfBoundsException" ["java/lang/RuntimeException", "java/lang/Exception"]).filter goodWord)
def wsX2_lower_r1 : List Cond := [Cond.fieldLink RX2 12 "PressedPlains" "book" "LPressedPlains$Book;", Cond.fieldLink RX2 19 "PressedPlains" "ground" "LPressedPlains$Ground;", Cond.fieldLink RX2 28 "PressedPlains" "pressedSoFar" "I", Cond.methodLink RX2 55 yX2_requireSpan, Cond.instanceMethod yX2_requireSpan, Cond.selects RX2 yX2_requireSpan yX2_requireSpan, Cond.initialized RX2, Cond.code yX2_requireSpan cX2_requireSpan 3 none, Cond.classLink RX2 137 "java/lang/IllegalArgumentException", Cond.initialized "java/lang/IllegalArgumentException", Cond.methodLink RX2 36 yX2_requireColumn, Cond.instanceMethod yX2_requireColumn, Cond.selects RX2 yX2_requireColumn yX2_requireColumn, Cond.code yX2_requireColumn cX2_requireColumn 2 none, Cond.classLink RX2 132 "java/lang/IndexOutOfBoundsException", Cond.initialized "java/lang/IndexOutOfBoundsException", Cond.methodLink RX2 32 yX2_requireInRange, Cond.static yX2_requireInRange, Cond.code yX2_requireInRange cX2_requireInRange 3 none, Cond.methodLink RX2 58 yX0_press, Cond.instanceMethod yX0_press, Cond.selects RX0 yX0_press yX0_press, Cond.initialized RX0, Cond.code yX0_press cX0_press 5 (some .int)]
def wsX2_lower_r2 : List Cond := [Cond.fieldLink RX0 27 "PressedPlains$Book" "sum" "[I", Cond.methodLink RX0 48 yX0_beginCall, Cond.instanceMethod yX0_beginCall, Cond.selects RX0 yX0_beginCall yX0_beginCall, Cond.code yX0_beginCall cX0_beginCall 1 none, Cond.fieldLink RX0 45 "PressedPlains$Book" "calls" "I", Cond.fieldLink RX0 38 "PressedPlains$Book" "latestVisits" "I", Cond.methodLink RX0 51 yX0_pressFrom, Cond.instanceMethod yX0_pressFrom, Cond.selects RX0 yX0_pressFrom yX0_pressFrom, Cond.code yX0_pressFrom cX0_pressFrom 6 none, Cond.fieldLink RX0 18 "PressedPlains$Book" "greatest" "[I", Cond.fieldLink RX0 21 "PressedPlains$Book" "second" "[I", Cond.methodLink RX0 85 yX0_countVisit, Cond.instanceMethod yX0_countVisit, Cond.selects RX0 yX0_countVisit yX0_countVisit, Cond.code yX0_countVisit cX0_countVisit 1 none, Cond.fieldLink RX0 42 "PressedPlains$Book" "totalVisits" "I", Cond.methodLink RX0 69 yX0_isApart, Cond.instanceMethod yX0_isApart, Cond.selects RX0 yX0_isApart yX0_isApart, Cond.code yX0_isApart cX0_isApart 4 (some .boolean), Cond.fieldLink RX0 15 "PressedPlains$Book" "last" "[I", Cond.fieldLink RX0 11 "PressedPlains$Book" "first" "[I"]
def wsX2_lower_r3 : List Cond := [Cond.methodLink RX0 88 yX0_isWithin, Cond.instanceMethod yX0_isWithin, Cond.selects RX0 yX0_isWithin yX0_isWithin, Cond.code yX0_isWithin cX0_isWithin 4 (some .boolean), Cond.methodLink RX0 82 yX0_hasParts, Cond.instanceMethod yX0_hasParts, Cond.selects RX0 yX0_hasParts yX0_hasParts, Cond.code yX0_hasParts cX0_hasParts 2 (some .boolean), Cond.methodLink RX0 91 yX0_pressDown, Cond.instanceMethod yX0_pressDown, Cond.selects RX0 yX0_pressDown yX0_pressDown, Cond.code yX0_pressDown cX0_pressDown 3 none, Cond.fieldLink RX0 24 "PressedPlains$Book" "many" "[I", Cond.methodLink RX0 95 yX0_catchUpBelow, Cond.instanceMethod yX0_catchUpBelow, Cond.selects RX0 yX0_catchUpBelow yX0_catchUpBelow, Cond.code yX0_catchUpBelow cX0_catchUpBelow 2 none, Cond.methodLink RX0 104 yX0_catchUp, Cond.instanceMethod yX0_catchUp, Cond.selects RX0 yX0_catchUp yX0_catchUp, Cond.code yX0_catchUp cX0_catchUp 2 none, Cond.methodLink RX0 79 yX0_lags, Cond.instanceMethod yX0_lags, Cond.selects RX0 yX0_lags yX0_lags]
def wsX2_lower_r4 : List Cond := [Cond.code yX0_lags cX0_lags 2 (some .boolean), Cond.methodLink RX0 98 yX0_tellAnew, Cond.instanceMethod yX0_tellAnew, Cond.selects RX0 yX0_tellAnew yX0_tellAnew, Cond.code yX0_tellAnew cX0_tellAnew 5 none, Cond.methodLink RX0 101 Lib.Math.max.name, Cond.static Lib.Math.max.name, Cond.initialized "java/lang/Math", Cond.code Lib.Math.max.name Lib.Math.max.code 2 (some .int), Cond.methodLink RX0 107 yX0_manyAt, Cond.instanceMethod yX0_manyAt, Cond.selects RX0 yX0_manyAt yX0_manyAt, Cond.code yX0_manyAt cX0_manyAt 3 (some .int), Cond.methodLink RX0 110 yX0_greatestLessThan, Cond.instanceMethod yX0_greatestLessThan, Cond.selects RX0 yX0_greatestLessThan yX0_greatestLessThan, Cond.code yX0_greatestLessThan cX0_greatestLessThan 3 (some .int), Cond.methodLink RX2 62 yX1_press, Cond.instanceMethod yX1_press, Cond.selects RX1 yX1_press yX1_press, Cond.initialized RX1, Cond.code yX1_press cX1_press 5 none, Cond.fieldLink RX1 9 "PressedPlains$Ground" "heights" "[I", Cond.methodLink RX1 25 Lib.Math.min.name]
def wsX2_lower_r5 : List Cond := [Cond.static Lib.Math.min.name, Cond.code Lib.Math.min.name Lib.Math.min.code 2 (some .int), Cond.fieldLink RX1 15 "PressedPlains$Ground" "ceilings" "[I"]
def wsX2_lower : List Cond := .code yX2_lower cX2_lower 5 (some .int) :: ((wsX2_lower_r1 ++ (wsX2_lower_r2 ++ (wsX2_lower_r3 ++ (wsX2_lower_r4 ++ wsX2_lower_r5)))) ++ wsX20 ++ wsX10 ++ wsX00 ++ (vx_atS RX2 141 "java/lang/IllegalArgumentException" ["java/lang/RuntimeException", "java/lang/Exception"]).filter goodWord ++ (vx_atS RX2 136 "java/lang/IndexOutOfBoundsException" ["java/lang/RuntimeException", "java/lang/Exception"]).filter goodWord)
def wsX2_earth_r1 : List Cond := [Cond.fieldLink RX2 12 "PressedPlains" "book" "LPressedPlains$Book;", Cond.methodLink RX2 55 yX2_requireSpan, Cond.instanceMethod yX2_requireSpan, Cond.selects RX2 yX2_requireSpan yX2_requireSpan, Cond.initialized RX2, Cond.code yX2_requireSpan cX2_requireSpan 3 none, Cond.classLink RX2 137 "java/lang/IllegalArgumentException", Cond.initialized "java/lang/IllegalArgumentException", Cond.methodLink RX2 36 yX2_requireColumn, Cond.instanceMethod yX2_requireColumn, Cond.selects RX2 yX2_requireColumn yX2_requireColumn, Cond.code yX2_requireColumn cX2_requireColumn 2 none, Cond.classLink RX2 132 "java/lang/IndexOutOfBoundsException", Cond.initialized "java/lang/IndexOutOfBoundsException", Cond.fieldLink RX2 19 "PressedPlains" "ground" "LPressedPlains$Ground;", Cond.methodLink RX2 64 yX0_askSum, Cond.instanceMethod yX0_askSum, Cond.selects RX0 yX0_askSum yX0_askSum, Cond.initialized RX0, Cond.code yX0_askSum cX0_askSum 3 (some .int), Cond.methodLink RX0 48 yX0_beginCall, Cond.instanceMethod yX0_beginCall, Cond.selects RX0 yX0_beginCall yX0_beginCall, Cond.code yX0_beginCall cX0_beginCall 1 none]
def wsX2_earth_r2 : List Cond := [Cond.fieldLink RX0 45 "PressedPlains$Book" "calls" "I", Cond.fieldLink RX0 38 "PressedPlains$Book" "latestVisits" "I", Cond.methodLink RX0 58 yX0_sumFrom, Cond.instanceMethod yX0_sumFrom, Cond.selects RX0 yX0_sumFrom yX0_sumFrom, Cond.code yX0_sumFrom cX0_sumFrom 4 (some .int), Cond.fieldLink RX0 27 "PressedPlains$Book" "sum" "[I", Cond.methodLink RX0 85 yX0_countVisit, Cond.instanceMethod yX0_countVisit, Cond.selects RX0 yX0_countVisit yX0_countVisit, Cond.code yX0_countVisit cX0_countVisit 1 none, Cond.fieldLink RX0 42 "PressedPlains$Book" "totalVisits" "I", Cond.methodLink RX0 69 yX0_isApart, Cond.instanceMethod yX0_isApart, Cond.selects RX0 yX0_isApart yX0_isApart, Cond.code yX0_isApart cX0_isApart 4 (some .boolean), Cond.fieldLink RX0 15 "PressedPlains$Book" "last" "[I", Cond.fieldLink RX0 11 "PressedPlains$Book" "first" "[I", Cond.methodLink RX0 88 yX0_isWithin, Cond.instanceMethod yX0_isWithin, Cond.selects RX0 yX0_isWithin yX0_isWithin, Cond.code yX0_isWithin cX0_isWithin 4 (some .boolean), Cond.methodLink RX0 82 yX0_hasParts, Cond.instanceMethod yX0_hasParts]
def wsX2_earth_r3 : List Cond := [Cond.selects RX0 yX0_hasParts yX0_hasParts, Cond.code yX0_hasParts cX0_hasParts 2 (some .boolean), Cond.methodLink RX0 95 yX0_catchUpBelow, Cond.instanceMethod yX0_catchUpBelow, Cond.selects RX0 yX0_catchUpBelow yX0_catchUpBelow, Cond.code yX0_catchUpBelow cX0_catchUpBelow 2 none, Cond.methodLink RX0 104 yX0_catchUp, Cond.instanceMethod yX0_catchUp, Cond.selects RX0 yX0_catchUp yX0_catchUp, Cond.code yX0_catchUp cX0_catchUp 2 none, Cond.fieldLink RX0 18 "PressedPlains$Book" "greatest" "[I", Cond.methodLink RX0 79 yX0_lags, Cond.instanceMethod yX0_lags, Cond.selects RX0 yX0_lags yX0_lags, Cond.code yX0_lags cX0_lags 2 (some .boolean), Cond.methodLink RX0 91 yX0_pressDown, Cond.instanceMethod yX0_pressDown, Cond.selects RX0 yX0_pressDown yX0_pressDown, Cond.code yX0_pressDown cX0_pressDown 3 none, Cond.fieldLink RX0 24 "PressedPlains$Book" "many" "[I"]
def wsX2_earth : List Cond := .code yX2_earth cX2_earth 3 (some .int) :: ((wsX2_earth_r1 ++ (wsX2_earth_r2 ++ wsX2_earth_r3)) ++ wsX20 ++ wsX10 ++ wsX00 ++ (vx_atS RX2 141 "java/lang/IllegalArgumentException" ["java/lang/RuntimeException", "java/lang/Exception"]).filter goodWord ++ (vx_atS RX2 136 "java/lang/IndexOutOfBoundsException" ["java/lang/RuntimeException", "java/lang/Exception"]).filter goodWord)
def wsX2_earthByColumns : List Cond := .code yX2_earthByColumns cX2_earthByColumns 3 (some .int) :: ([.fieldLink RX2 19 "PressedPlains" "ground" "LPressedPlains$Ground;", .methodLink RX2 55 yX2_requireSpan, .instanceMethod yX2_requireSpan, .selects RX2 yX2_requireSpan yX2_requireSpan, .initialized RX2, .code yX2_requireSpan cX2_requireSpan 3 none, .classLink RX2 137 "java/lang/IllegalArgumentException", .initialized "java/lang/IllegalArgumentException", .methodLink RX2 36 yX2_requireColumn, .instanceMethod yX2_requireColumn, .selects RX2 yX2_requireColumn yX2_requireColumn, .code yX2_requireColumn cX2_requireColumn 2 none, .classLink RX2 132 "java/lang/IndexOutOfBoundsException", .initialized "java/lang/IndexOutOfBoundsException", .methodLink RX2 68 yX1_earthAbove, .instanceMethod yX1_earthAbove, .selects RX1 yX1_earthAbove yX1_earthAbove, .initialized RX1, .code yX1_earthAbove cX1_earthAbove 6 (some .int), .fieldLink RX1 9 "PressedPlains$Ground" "heights" "[I", .methodLink RX1 31 Lib.Math.max.name, .static Lib.Math.max.name, .initialized "java/lang/Math", .code Lib.Math.max.name Lib.Math.max.code 2 (some .int)] ++ wsX20 ++ wsX10 ++ (vx_atS RX2 141 "java/lang/IllegalArgumentException" ["java/lang/RuntimeException", "java/lang/Exception"]).filter goodWord ++ (vx_atS RX2 136 "java/lang/IndexOutOfBoundsException" ["java/lang/RuntimeException", "java/lang/Exception"]).filter goodWord)
def wsX2_top_r1 : List Cond := [Cond.fieldLink RX2 12 "PressedPlains" "book" "LPressedPlains$Book;", Cond.methodLink RX2 55 yX2_requireSpan, Cond.instanceMethod yX2_requireSpan, Cond.selects RX2 yX2_requireSpan yX2_requireSpan, Cond.initialized RX2, Cond.code yX2_requireSpan cX2_requireSpan 3 none, Cond.classLink RX2 137 "java/lang/IllegalArgumentException", Cond.initialized "java/lang/IllegalArgumentException", Cond.methodLink RX2 36 yX2_requireColumn, Cond.instanceMethod yX2_requireColumn, Cond.selects RX2 yX2_requireColumn yX2_requireColumn, Cond.code yX2_requireColumn cX2_requireColumn 2 none, Cond.classLink RX2 132 "java/lang/IndexOutOfBoundsException", Cond.initialized "java/lang/IndexOutOfBoundsException", Cond.fieldLink RX2 19 "PressedPlains" "ground" "LPressedPlains$Ground;", Cond.methodLink RX2 71 yX0_askGreatest, Cond.instanceMethod yX0_askGreatest, Cond.selects RX0 yX0_askGreatest yX0_askGreatest, Cond.initialized RX0, Cond.code yX0_askGreatest cX0_askGreatest 3 (some .int), Cond.methodLink RX0 48 yX0_beginCall, Cond.instanceMethod yX0_beginCall, Cond.selects RX0 yX0_beginCall yX0_beginCall, Cond.code yX0_beginCall cX0_beginCall 1 none]
def wsX2_top_r2 : List Cond := [Cond.fieldLink RX0 45 "PressedPlains$Book" "calls" "I", Cond.fieldLink RX0 38 "PressedPlains$Book" "latestVisits" "I", Cond.methodLink RX0 62 yX0_greatestFrom, Cond.instanceMethod yX0_greatestFrom, Cond.selects RX0 yX0_greatestFrom yX0_greatestFrom, Cond.code yX0_greatestFrom cX0_greatestFrom 4 (some .int), Cond.fieldLink RX0 18 "PressedPlains$Book" "greatest" "[I", Cond.methodLink RX0 101 Lib.Math.max.name, Cond.static Lib.Math.max.name, Cond.initialized "java/lang/Math", Cond.code Lib.Math.max.name Lib.Math.max.code 2 (some .int), Cond.methodLink RX0 85 yX0_countVisit, Cond.instanceMethod yX0_countVisit, Cond.selects RX0 yX0_countVisit yX0_countVisit, Cond.code yX0_countVisit cX0_countVisit 1 none, Cond.fieldLink RX0 42 "PressedPlains$Book" "totalVisits" "I", Cond.methodLink RX0 69 yX0_isApart, Cond.instanceMethod yX0_isApart, Cond.selects RX0 yX0_isApart yX0_isApart, Cond.code yX0_isApart cX0_isApart 4 (some .boolean), Cond.fieldLink RX0 15 "PressedPlains$Book" "last" "[I", Cond.fieldLink RX0 11 "PressedPlains$Book" "first" "[I", Cond.methodLink RX0 88 yX0_isWithin, Cond.instanceMethod yX0_isWithin]
def wsX2_top_r3 : List Cond := [Cond.selects RX0 yX0_isWithin yX0_isWithin, Cond.code yX0_isWithin cX0_isWithin 4 (some .boolean), Cond.methodLink RX0 82 yX0_hasParts, Cond.instanceMethod yX0_hasParts, Cond.selects RX0 yX0_hasParts yX0_hasParts, Cond.code yX0_hasParts cX0_hasParts 2 (some .boolean), Cond.methodLink RX0 95 yX0_catchUpBelow, Cond.instanceMethod yX0_catchUpBelow, Cond.selects RX0 yX0_catchUpBelow yX0_catchUpBelow, Cond.code yX0_catchUpBelow cX0_catchUpBelow 2 none, Cond.methodLink RX0 104 yX0_catchUp, Cond.instanceMethod yX0_catchUp, Cond.selects RX0 yX0_catchUp yX0_catchUp, Cond.code yX0_catchUp cX0_catchUp 2 none, Cond.methodLink RX0 79 yX0_lags, Cond.instanceMethod yX0_lags, Cond.selects RX0 yX0_lags yX0_lags, Cond.code yX0_lags cX0_lags 2 (some .boolean), Cond.methodLink RX0 91 yX0_pressDown, Cond.instanceMethod yX0_pressDown, Cond.selects RX0 yX0_pressDown yX0_pressDown, Cond.code yX0_pressDown cX0_pressDown 3 none, Cond.fieldLink RX0 27 "PressedPlains$Book" "sum" "[I", Cond.fieldLink RX0 24 "PressedPlains$Book" "many" "[I"]
def wsX2_top : List Cond := .code yX2_top cX2_top 3 (some .int) :: ((wsX2_top_r1 ++ (wsX2_top_r2 ++ wsX2_top_r3)) ++ wsX20 ++ wsX10 ++ wsX00 ++ (vx_atS RX2 141 "java/lang/IllegalArgumentException" ["java/lang/RuntimeException", "java/lang/Exception"]).filter goodWord ++ (vx_atS RX2 136 "java/lang/IndexOutOfBoundsException" ["java/lang/RuntimeException", "java/lang/Exception"]).filter goodWord)
def wsX2_height_r1 : List Cond := [Cond.fieldLink RX2 12 "PressedPlains" "book" "LPressedPlains$Book;", Cond.methodLink RX2 36 yX2_requireColumn, Cond.instanceMethod yX2_requireColumn, Cond.selects RX2 yX2_requireColumn yX2_requireColumn, Cond.initialized RX2, Cond.code yX2_requireColumn cX2_requireColumn 2 none, Cond.classLink RX2 132 "java/lang/IndexOutOfBoundsException", Cond.initialized "java/lang/IndexOutOfBoundsException", Cond.fieldLink RX2 19 "PressedPlains" "ground" "LPressedPlains$Ground;", Cond.methodLink RX2 74 yX0_leastGreatestOver, Cond.instanceMethod yX0_leastGreatestOver, Cond.selects RX0 yX0_leastGreatestOver yX0_leastGreatestOver, Cond.initialized RX0, Cond.code yX0_leastGreatestOver cX0_leastGreatestOver 4 (some .int), Cond.fieldLink RX0 18 "PressedPlains$Book" "greatest" "[I", Cond.methodLink RX0 73 Lib.Math.min.name, Cond.static Lib.Math.min.name, Cond.initialized "java/lang/Math", Cond.code Lib.Math.min.name Lib.Math.min.code 2 (some .int), Cond.methodLink RX0 65 yX0_has, Cond.instanceMethod yX0_has, Cond.selects RX0 yX0_has yX0_has, Cond.code yX0_has cX0_has 2 (some .boolean), Cond.fieldLink RX0 15 "PressedPlains$Book" "last" "[I"]
def wsX2_height_r2 : List Cond := [Cond.methodLink RX0 69 yX0_isApart, Cond.instanceMethod yX0_isApart, Cond.selects RX0 yX0_isApart yX0_isApart, Cond.code yX0_isApart cX0_isApart 4 (some .boolean), Cond.fieldLink RX0 11 "PressedPlains$Book" "first" "[I"]
def wsX2_height : List Cond := .code yX2_height cX2_height 2 (some .int) :: ((wsX2_height_r1 ++ wsX2_height_r2) ++ wsX20 ++ wsX10 ++ wsX00 ++ (vx_atS RX2 136 "java/lang/IndexOutOfBoundsException" ["java/lang/RuntimeException", "java/lang/Exception"]).filter goodWord)
def wsX2_heightOfColumn : List Cond := .code yX2_heightOfColumn cX2_heightOfColumn 2 (some .int) :: ([.fieldLink RX2 19 "PressedPlains" "ground" "LPressedPlains$Ground;", .methodLink RX2 36 yX2_requireColumn, .instanceMethod yX2_requireColumn, .selects RX2 yX2_requireColumn yX2_requireColumn, .initialized RX2, .code yX2_requireColumn cX2_requireColumn 2 none, .classLink RX2 132 "java/lang/IndexOutOfBoundsException", .initialized "java/lang/IndexOutOfBoundsException"] ++ wsX20 ++ wsX10 ++ (vx_atS RX2 136 "java/lang/IndexOutOfBoundsException" ["java/lang/RuntimeException", "java/lang/Exception"]).filter goodWord)
def wsX2_wouldPress_r1 : List Cond := [Cond.fieldLink RX2 19 "PressedPlains" "ground" "LPressedPlains$Ground;", Cond.methodLink RX2 55 yX2_requireSpan, Cond.instanceMethod yX2_requireSpan, Cond.selects RX2 yX2_requireSpan yX2_requireSpan, Cond.initialized RX2, Cond.code yX2_requireSpan cX2_requireSpan 3 none, Cond.classLink RX2 137 "java/lang/IllegalArgumentException", Cond.initialized "java/lang/IllegalArgumentException", Cond.methodLink RX2 36 yX2_requireColumn, Cond.instanceMethod yX2_requireColumn, Cond.selects RX2 yX2_requireColumn yX2_requireColumn, Cond.code yX2_requireColumn cX2_requireColumn 2 none, Cond.classLink RX2 132 "java/lang/IndexOutOfBoundsException", Cond.initialized "java/lang/IndexOutOfBoundsException", Cond.methodLink RX2 32 yX2_requireInRange, Cond.static yX2_requireInRange, Cond.code yX2_requireInRange cX2_requireInRange 3 none, Cond.methodLink RX2 68 yX1_earthAbove, Cond.instanceMethod yX1_earthAbove, Cond.selects RX1 yX1_earthAbove yX1_earthAbove, Cond.initialized RX1, Cond.code yX1_earthAbove cX1_earthAbove 6 (some .int), Cond.fieldLink RX1 9 "PressedPlains$Ground" "heights" "[I", Cond.methodLink RX1 31 Lib.Math.max.name]
def wsX2_wouldPress_r2 : List Cond := [Cond.static Lib.Math.max.name, Cond.initialized "java/lang/Math", Cond.code Lib.Math.max.name Lib.Math.max.code 2 (some .int)]
def wsX2_wouldPress : List Cond := .code yX2_wouldPress cX2_wouldPress 4 (some .int) :: ((wsX2_wouldPress_r1 ++ wsX2_wouldPress_r2) ++ wsX20 ++ wsX10 ++ (vx_atS RX2 141 "java/lang/IllegalArgumentException" ["java/lang/RuntimeException", "java/lang/Exception"]).filter goodWord ++ (vx_atS RX2 136 "java/lang/IndexOutOfBoundsException" ["java/lang/RuntimeException", "java/lang/Exception"]).filter goodWord)
def wsX2_ceilingFor_r1 : List Cond := [Cond.classLink RX2 82 "java/util/NoSuchElementException", Cond.initialized "java/util/NoSuchElementException", Cond.constant RX2 78 (64000), Cond.fieldLink RX2 19 "PressedPlains" "ground" "LPressedPlains$Ground;", Cond.methodLink RX2 55 yX2_requireSpan, Cond.instanceMethod yX2_requireSpan, Cond.selects RX2 yX2_requireSpan yX2_requireSpan, Cond.initialized RX2, Cond.code yX2_requireSpan cX2_requireSpan 3 none, Cond.classLink RX2 137 "java/lang/IllegalArgumentException", Cond.initialized "java/lang/IllegalArgumentException", Cond.methodLink RX2 36 yX2_requireColumn, Cond.instanceMethod yX2_requireColumn, Cond.selects RX2 yX2_requireColumn yX2_requireColumn, Cond.code yX2_requireColumn cX2_requireColumn 2 none, Cond.classLink RX2 132 "java/lang/IndexOutOfBoundsException", Cond.initialized "java/lang/IndexOutOfBoundsException", Cond.methodLink RX2 32 yX2_requireInRange, Cond.static yX2_requireInRange, Cond.code yX2_requireInRange cX2_requireInRange 3 none, Cond.methodLink RX2 79 yX1_highestCeilingFor, Cond.instanceMethod yX1_highestCeilingFor, Cond.selects RX1 yX1_highestCeilingFor yX1_highestCeilingFor, Cond.initialized RX1]
def wsX2_ceilingFor_r2 : List Cond := [Cond.code yX1_highestCeilingFor cX1_highestCeilingFor 6 (some .int), Cond.methodLink RX1 34 yX1_earthAbove, Cond.instanceMethod yX1_earthAbove, Cond.selects RX1 yX1_earthAbove yX1_earthAbove, Cond.code yX1_earthAbove cX1_earthAbove 6 (some .int), Cond.fieldLink RX1 9 "PressedPlains$Ground" "heights" "[I", Cond.methodLink RX1 31 Lib.Math.max.name, Cond.static Lib.Math.max.name, Cond.initialized "java/lang/Math", Cond.code Lib.Math.max.name Lib.Math.max.code 2 (some .int)]
def wsX2_ceilingFor : List Cond := .code yX2_ceilingFor cX2_ceilingFor 5 (some .int) :: ((wsX2_ceilingFor_r1 ++ wsX2_ceilingFor_r2) ++ wsX20 ++ wsX10 ++ nsAt.filter goodWord ++ (vx_atS RX2 141 "java/lang/IllegalArgumentException" ["java/lang/RuntimeException", "java/lang/Exception"]).filter goodWord ++ (vx_atS RX2 136 "java/lang/IndexOutOfBoundsException" ["java/lang/RuntimeException", "java/lang/Exception"]).filter goodWord)
def wsX2_ceilingOver : List Cond := .code yX2_ceilingOver cX2_ceilingOver 3 (some .int) :: ([.classLink RX2 82 "java/util/NoSuchElementException", .initialized "java/util/NoSuchElementException", .fieldLink RX2 19 "PressedPlains" "ground" "LPressedPlains$Ground;", .methodLink RX2 36 yX2_requireColumn, .instanceMethod yX2_requireColumn, .selects RX2 yX2_requireColumn yX2_requireColumn, .initialized RX2, .code yX2_requireColumn cX2_requireColumn 2 none, .classLink RX2 132 "java/lang/IndexOutOfBoundsException", .initialized "java/lang/IndexOutOfBoundsException"] ++ wsX20 ++ wsX10 ++ nsAt.filter goodWord ++ (vx_atS RX2 136 "java/lang/IndexOutOfBoundsException" ["java/lang/RuntimeException", "java/lang/Exception"]).filter goodWord)
def wsX2_columns : List Cond := .code yX2_columns cX2_columns 1 (some .int) :: ([.fieldLink RX2 19 "PressedPlains" "ground" "LPressedPlains$Ground;"] ++ wsX20 ++ wsX10)
def wsX2_requireEntry : List Cond := .code yX2_requireEntry cX2_requireEntry 2 none :: ([.classLink RX2 132 "java/lang/IndexOutOfBoundsException", .initialized "java/lang/IndexOutOfBoundsException", .fieldLink RX2 12 "PressedPlains" "book" "LPressedPlains$Book;", .methodLink RX2 142 yX0_has, .instanceMethod yX0_has, .selects RX0 yX0_has yX0_has, .initialized RX0, .code yX0_has cX0_has 2 (some .boolean), .fieldLink RX0 15 "PressedPlains$Book" "last" "[I"] ++ wsX20 ++ wsX00 ++ (vx_atS RX2 136 "java/lang/IndexOutOfBoundsException" ["java/lang/RuntimeException", "java/lang/Exception"]).filter goodWord)
def wsX2_spanOf : List Cond := .code yX2_spanOf cX2_spanOf 2 (some .int) :: ([.fieldLink RX2 12 "PressedPlains" "book" "LPressedPlains$Book;", .methodLink RX2 95 yX2_requireEntry, .instanceMethod yX2_requireEntry, .selects RX2 yX2_requireEntry yX2_requireEntry, .initialized RX2, .code yX2_requireEntry cX2_requireEntry 2 none, .classLink RX2 132 "java/lang/IndexOutOfBoundsException", .initialized "java/lang/IndexOutOfBoundsException", .methodLink RX2 142 yX0_has, .instanceMethod yX0_has, .selects RX0 yX0_has yX0_has, .initialized RX0, .code yX0_has cX0_has 2 (some .boolean), .fieldLink RX0 15 "PressedPlains$Book" "last" "[I"] ++ wsX20 ++ wsX00 ++ (vx_atS RX2 136 "java/lang/IndexOutOfBoundsException" ["java/lang/RuntimeException", "java/lang/Exception"]).filter goodWord)
def wsX2_greatest : List Cond := .code yX2_greatest cX2_greatest 2 (some .int) :: ([.fieldLink RX2 12 "PressedPlains" "book" "LPressedPlains$Book;", .methodLink RX2 95 yX2_requireEntry, .instanceMethod yX2_requireEntry, .selects RX2 yX2_requireEntry yX2_requireEntry, .initialized RX2, .code yX2_requireEntry cX2_requireEntry 2 none, .classLink RX2 132 "java/lang/IndexOutOfBoundsException", .initialized "java/lang/IndexOutOfBoundsException", .methodLink RX2 142 yX0_has, .instanceMethod yX0_has, .selects RX0 yX0_has yX0_has, .initialized RX0, .code yX0_has cX0_has 2 (some .boolean), .fieldLink RX0 15 "PressedPlains$Book" "last" "[I"] ++ wsX20 ++ wsX00 ++ (vx_atS RX2 136 "java/lang/IndexOutOfBoundsException" ["java/lang/RuntimeException", "java/lang/Exception"]).filter goodWord)
def wsX2_second : List Cond := .code yX2_second cX2_second 2 (some .int) :: ([.fieldLink RX2 12 "PressedPlains" "book" "LPressedPlains$Book;", .methodLink RX2 95 yX2_requireEntry, .instanceMethod yX2_requireEntry, .selects RX2 yX2_requireEntry yX2_requireEntry, .initialized RX2, .code yX2_requireEntry cX2_requireEntry 2 none, .classLink RX2 132 "java/lang/IndexOutOfBoundsException", .initialized "java/lang/IndexOutOfBoundsException", .methodLink RX2 142 yX0_has, .instanceMethod yX0_has, .selects RX0 yX0_has yX0_has, .initialized RX0, .code yX0_has cX0_has 2 (some .boolean), .fieldLink RX0 15 "PressedPlains$Book" "last" "[I"] ++ wsX20 ++ wsX00 ++ (vx_atS RX2 136 "java/lang/IndexOutOfBoundsException" ["java/lang/RuntimeException", "java/lang/Exception"]).filter goodWord)
def wsX2_many : List Cond := .code yX2_many cX2_many 2 (some .int) :: ([.fieldLink RX2 12 "PressedPlains" "book" "LPressedPlains$Book;", .methodLink RX2 95 yX2_requireEntry, .instanceMethod yX2_requireEntry, .selects RX2 yX2_requireEntry yX2_requireEntry, .initialized RX2, .code yX2_requireEntry cX2_requireEntry 2 none, .classLink RX2 132 "java/lang/IndexOutOfBoundsException", .initialized "java/lang/IndexOutOfBoundsException", .methodLink RX2 142 yX0_has, .instanceMethod yX0_has, .selects RX0 yX0_has yX0_has, .initialized RX0, .code yX0_has cX0_has 2 (some .boolean), .fieldLink RX0 15 "PressedPlains$Book" "last" "[I"] ++ wsX20 ++ wsX00 ++ (vx_atS RX2 136 "java/lang/IndexOutOfBoundsException" ["java/lang/RuntimeException", "java/lang/Exception"]).filter goodWord)
def wsX2_noted : List Cond := .code yX2_noted cX2_noted 2 (some .int) :: ([.fieldLink RX2 12 "PressedPlains" "book" "LPressedPlains$Book;", .methodLink RX2 95 yX2_requireEntry, .instanceMethod yX2_requireEntry, .selects RX2 yX2_requireEntry yX2_requireEntry, .initialized RX2, .code yX2_requireEntry cX2_requireEntry 2 none, .classLink RX2 132 "java/lang/IndexOutOfBoundsException", .initialized "java/lang/IndexOutOfBoundsException", .methodLink RX2 142 yX0_has, .instanceMethod yX0_has, .selects RX0 yX0_has yX0_has, .initialized RX0, .code yX0_has cX0_has 2 (some .boolean), .fieldLink RX0 15 "PressedPlains$Book" "last" "[I"] ++ wsX20 ++ wsX00 ++ (vx_atS RX2 136 "java/lang/IndexOutOfBoundsException" ["java/lang/RuntimeException", "java/lang/Exception"]).filter goodWord)
def wsX2_lagging : List Cond := .code yX2_lagging cX2_lagging 1 (some .int) :: ([.fieldLink RX2 12 "PressedPlains" "book" "LPressedPlains$Book;", .methodLink RX2 116 yX0_countLagging, .instanceMethod yX0_countLagging, .selects RX0 yX0_countLagging yX0_countLagging, .initialized RX0, .code yX0_countLagging cX0_countLagging 3 (some .int), .methodLink RX0 65 yX0_has, .instanceMethod yX0_has, .selects RX0 yX0_has yX0_has, .code yX0_has cX0_has 2 (some .boolean), .fieldLink RX0 15 "PressedPlains$Book" "last" "[I", .methodLink RX0 79 yX0_lags, .instanceMethod yX0_lags, .selects RX0 yX0_lags yX0_lags, .code yX0_lags cX0_lags 2 (some .boolean), .fieldLink RX0 18 "PressedPlains$Book" "greatest" "[I"] ++ wsX20 ++ wsX00)
def wsX2_visits : List Cond := .code yX2_visits cX2_visits 1 (some .int) :: ([.fieldLink RX2 12 "PressedPlains" "book" "LPressedPlains$Book;"] ++ wsX20 ++ wsX00)
def wsX2_allVisits : List Cond := .code yX2_allVisits cX2_allVisits 1 (some .int) :: ([.fieldLink RX2 12 "PressedPlains" "book" "LPressedPlains$Book;"] ++ wsX20 ++ wsX00)
def wsX2_pressedAway : List Cond := .code yX2_pressedAway cX2_pressedAway 1 (some .int) :: ([.fieldLink RX2 28 "PressedPlains" "pressedSoFar" "I"] ++ wsX20)
def wsX2_pressedAwayByRest : List Cond := .code yX2_pressedAwayByRest cX2_pressedAwayByRest 1 (some .int) :: ([.fieldLink RX2 19 "PressedPlains" "ground" "LPressedPlains$Ground;", .methodLink RX2 68 yX1_earthAbove, .instanceMethod yX1_earthAbove, .selects RX1 yX1_earthAbove yX1_earthAbove, .initialized RX1, .code yX1_earthAbove cX1_earthAbove 6 (some .int), .fieldLink RX1 9 "PressedPlains$Ground" "heights" "[I", .methodLink RX1 31 Lib.Math.max.name, .static Lib.Math.max.name, .initialized "java/lang/Math", .code Lib.Math.max.name Lib.Math.max.code 2 (some .int)] ++ wsX20 ++ wsX10)
def wsX2_meanVisits : List Cond := .code yX2_meanVisits cX2_meanVisits 1 (some .double) :: ([.fieldLink RX2 12 "PressedPlains" "book" "LPressedPlains$Book;"] ++ wsX20 ++ wsX00)
def wsX3_lays : List Cond := .code yX3_lays cX3_lays 6 none :: ([.fieldLink RX3 45 "PressedPlainsModel" "columns" "I", .fieldLink RX3 7 "PressedPlainsModel" "height" "[I", .fieldLink RX3 13 "PressedPlainsModel" "ceiling" "[I", .fieldLink RX3 16 "PressedPlainsModel" "first" "[I", .fieldLink RX3 19 "PressedPlainsModel" "last" "[I", .fieldLink RX3 22 "PressedPlainsModel" "greatest" "[I", .fieldLink RX3 25 "PressedPlainsModel" "second" "[I", .fieldLink RX3 28 "PressedPlainsModel" "many" "[I", .fieldLink RX3 31 "PressedPlainsModel" "sum" "[I", .fieldLink RX3 52 "PressedPlainsModel" "visits" "I", .fieldLink RX3 55 "PressedPlainsModel" "allVisits" "I", .fieldLink RX3 58 "PressedPlainsModel" "calls" "I", .fieldLink RX3 61 "PressedPlainsModel" "laid" "I", .fieldLink RX3 64 "PressedPlainsModel" "piled" "I", .fieldLink RX3 67 "PressedPlainsModel" "pressed" "I"] ++ wsX30)
def wsX3_init_r1 : List Cond := [Cond.methodLink RX3 1 objectInit, Cond.instanceMethod objectInit, Cond.code objectInit ⟨#[0xb1]⟩ 1 none, Cond.arrayClass .int, Cond.fieldLink RX3 7 "PressedPlainsModel" "height" "[I", Cond.fieldLink RX3 13 "PressedPlainsModel" "ceiling" "[I", Cond.fieldLink RX3 16 "PressedPlainsModel" "first" "[I", Cond.fieldLink RX3 19 "PressedPlainsModel" "last" "[I", Cond.fieldLink RX3 22 "PressedPlainsModel" "greatest" "[I", Cond.fieldLink RX3 25 "PressedPlainsModel" "second" "[I", Cond.fieldLink RX3 28 "PressedPlainsModel" "many" "[I", Cond.fieldLink RX3 31 "PressedPlainsModel" "sum" "[I", Cond.fieldLink RX3 34 "PressedPlainsModel" "todo" "[I", Cond.methodLink RX3 37 yX3_lays, Cond.instanceMethod yX3_lays, Cond.selects RX3 yX3_lays yX3_lays, Cond.initialized RX3, Cond.code yX3_lays cX3_lays 6 none, Cond.fieldLink RX3 45 "PressedPlainsModel" "columns" "I", Cond.fieldLink RX3 52 "PressedPlainsModel" "visits" "I", Cond.fieldLink RX3 55 "PressedPlainsModel" "allVisits" "I", Cond.fieldLink RX3 58 "PressedPlainsModel" "calls" "I", Cond.fieldLink RX3 61 "PressedPlainsModel" "laid" "I", Cond.fieldLink RX3 64 "PressedPlainsModel" "piled" "I"]
def wsX3_init_r2 : List Cond := [Cond.fieldLink RX3 67 "PressedPlainsModel" "pressed" "I"]
def wsX3_init : List Cond := .code yX3_init cX3_init 1 none :: ((wsX3_init_r1 ++ wsX3_init_r2) ++ wsX30)
def wsX3_thrown : List Cond := .code yX3_thrown cX3_thrown 1 (some .int) :: ([.fieldLink RX3 41 "PressedPlainsModel" "thrown" "I"] ++ wsX30)
def wsX3_in : List Cond := .code yX3_in cX3_in 3 (some .boolean) :: ([])
def wsX3_isFine : List Cond := .code yX3_isFine cX3_isFine 2 (some .boolean) :: ([.fieldLink RX3 41 "PressedPlainsModel" "thrown" "I"] ++ wsX30)
def wsX3_isColumn : List Cond := .code yX3_isColumn cX3_isColumn 2 (some .boolean) :: ([.fieldLink RX3 45 "PressedPlainsModel" "columns" "I", .methodLink RX3 48 yX3_in, .static yX3_in, .initialized RX3, .code yX3_in cX3_in 3 (some .boolean)] ++ wsX30)
def wsX3_layOut_r1 : List Cond := [Cond.fieldLink RX3 61 "PressedPlainsModel" "laid" "I", Cond.methodLink RX3 48 yX3_in, Cond.static yX3_in, Cond.initialized RX3, Cond.code yX3_in cX3_in 3 (some .boolean), Cond.methodLink RX3 70 yX3_isFine, Cond.instanceMethod yX3_isFine, Cond.selects RX3 yX3_isFine yX3_isFine, Cond.code yX3_isFine cX3_isFine 2 (some .boolean), Cond.fieldLink RX3 41 "PressedPlainsModel" "thrown" "I", Cond.methodLink RX3 37 yX3_lays, Cond.instanceMethod yX3_lays, Cond.selects RX3 yX3_lays yX3_lays, Cond.code yX3_lays cX3_lays 6 none, Cond.fieldLink RX3 45 "PressedPlainsModel" "columns" "I", Cond.fieldLink RX3 7 "PressedPlainsModel" "height" "[I", Cond.fieldLink RX3 13 "PressedPlainsModel" "ceiling" "[I", Cond.fieldLink RX3 16 "PressedPlainsModel" "first" "[I", Cond.fieldLink RX3 19 "PressedPlainsModel" "last" "[I", Cond.fieldLink RX3 22 "PressedPlainsModel" "greatest" "[I", Cond.fieldLink RX3 25 "PressedPlainsModel" "second" "[I", Cond.fieldLink RX3 28 "PressedPlainsModel" "many" "[I", Cond.fieldLink RX3 31 "PressedPlainsModel" "sum" "[I", Cond.fieldLink RX3 52 "PressedPlainsModel" "visits" "I"]
def wsX3_layOut_r2 : List Cond := [Cond.fieldLink RX3 55 "PressedPlainsModel" "allVisits" "I", Cond.fieldLink RX3 58 "PressedPlainsModel" "calls" "I", Cond.fieldLink RX3 64 "PressedPlainsModel" "piled" "I", Cond.fieldLink RX3 67 "PressedPlainsModel" "pressed" "I"]
def wsX3_layOut : List Cond := .code yX3_layOut cX3_layOut 3 (some .int) :: ((wsX3_layOut_r1 ++ wsX3_layOut_r2) ++ wsX30)
def wsX3_press : List Cond := .code yX3_press cX3_press 3 none :: ([.fieldLink RX3 31 "PressedPlainsModel" "sum" "[I", .fieldLink RX3 22 "PressedPlainsModel" "greatest" "[I", .fieldLink RX3 28 "PressedPlainsModel" "many" "[I"] ++ wsX30)
def wsX3_catchUp : List Cond := .code yX3_catchUp cX3_catchUp 3 none :: ([.fieldLink RX3 22 "PressedPlainsModel" "greatest" "[I", .methodLink RX3 74 yX3_press, .instanceMethod yX3_press, .selects RX3 yX3_press yX3_press, .initialized RX3, .code yX3_press cX3_press 3 none, .fieldLink RX3 31 "PressedPlainsModel" "sum" "[I", .fieldLink RX3 28 "PressedPlainsModel" "many" "[I"] ++ wsX30)
def wsX3_tell : List Cond := .code yX3_tell cX3_tell 6 none :: ([.fieldLink RX3 22 "PressedPlainsModel" "greatest" "[I", .fieldLink RX3 28 "PressedPlainsModel" "many" "[I", .fieldLink RX3 25 "PressedPlainsModel" "second" "[I", .fieldLink RX3 31 "PressedPlainsModel" "sum" "[I"] ++ wsX30)
def wsX3_begins : List Cond := .code yX3_begins cX3_begins 1 none :: ([.fieldLink RX3 52 "PressedPlainsModel" "visits" "I", .fieldLink RX3 58 "PressedPlainsModel" "calls" "I", .fieldLink RX3 77 "PressedPlainsModel" "left" "I", .fieldLink RX3 34 "PressedPlainsModel" "todo" "[I"] ++ wsX30)
def wsX3_visited : List Cond := .code yX3_visited cX3_visited 1 none :: ([.fieldLink RX3 52 "PressedPlainsModel" "visits" "I", .fieldLink RX3 55 "PressedPlainsModel" "allVisits" "I"] ++ wsX30)
def wsX3_goesBelow : List Cond := .code yX3_goesBelow cX3_goesBelow 3 none :: ([.fieldLink RX3 34 "PressedPlainsModel" "todo" "[I", .fieldLink RX3 77 "PressedPlainsModel" "left" "I", .methodLink RX3 80 yX3_catchUp, .instanceMethod yX3_catchUp, .selects RX3 yX3_catchUp yX3_catchUp, .initialized RX3, .code yX3_catchUp cX3_catchUp 3 none, .fieldLink RX3 22 "PressedPlainsModel" "greatest" "[I", .methodLink RX3 74 yX3_press, .instanceMethod yX3_press, .selects RX3 yX3_press yX3_press, .code yX3_press cX3_press 3 none, .fieldLink RX3 31 "PressedPlainsModel" "sum" "[I", .fieldLink RX3 28 "PressedPlainsModel" "many" "[I"] ++ wsX30)
def wsX3_isRange : List Cond := .code yX3_isRange cX3_isRange 3 (some .boolean) :: ([.methodLink RX3 84 yX3_isColumn, .instanceMethod yX3_isColumn, .selects RX3 yX3_isColumn yX3_isColumn, .initialized RX3, .code yX3_isColumn cX3_isColumn 2 (some .boolean), .fieldLink RX3 45 "PressedPlainsModel" "columns" "I", .methodLink RX3 48 yX3_in, .static yX3_in, .code yX3_in cX3_in 3 (some .boolean)] ++ wsX30)
def wsX3_pile_r1 : List Cond := [Cond.fieldLink RX3 7 "PressedPlainsModel" "height" "[I", Cond.fieldLink RX3 16 "PressedPlainsModel" "first" "[I", Cond.fieldLink RX3 19 "PressedPlainsModel" "last" "[I", Cond.fieldLink RX3 22 "PressedPlainsModel" "greatest" "[I", Cond.fieldLink RX3 31 "PressedPlainsModel" "sum" "[I", Cond.fieldLink RX3 64 "PressedPlainsModel" "piled" "I", Cond.fieldLink RX3 13 "PressedPlainsModel" "ceiling" "[I", Cond.methodLink RX3 84 yX3_isColumn, Cond.instanceMethod yX3_isColumn, Cond.selects RX3 yX3_isColumn yX3_isColumn, Cond.initialized RX3, Cond.code yX3_isColumn cX3_isColumn 2 (some .boolean), Cond.fieldLink RX3 45 "PressedPlainsModel" "columns" "I", Cond.methodLink RX3 48 yX3_in, Cond.static yX3_in, Cond.code yX3_in cX3_in 3 (some .boolean), Cond.methodLink RX3 70 yX3_isFine, Cond.instanceMethod yX3_isFine, Cond.selects RX3 yX3_isFine yX3_isFine, Cond.code yX3_isFine cX3_isFine 2 (some .boolean), Cond.fieldLink RX3 41 "PressedPlainsModel" "thrown" "I", Cond.methodLink RX3 87 yX3_begins, Cond.instanceMethod yX3_begins, Cond.selects RX3 yX3_begins yX3_begins]
def wsX3_pile_r2 : List Cond := [Cond.code yX3_begins cX3_begins 1 none, Cond.fieldLink RX3 52 "PressedPlainsModel" "visits" "I", Cond.fieldLink RX3 58 "PressedPlainsModel" "calls" "I", Cond.fieldLink RX3 77 "PressedPlainsModel" "left" "I", Cond.fieldLink RX3 34 "PressedPlainsModel" "todo" "[I", Cond.methodLink RX3 90 yX3_visited, Cond.instanceMethod yX3_visited, Cond.selects RX3 yX3_visited yX3_visited, Cond.code yX3_visited cX3_visited 1 none, Cond.fieldLink RX3 55 "PressedPlainsModel" "allVisits" "I", Cond.methodLink RX3 80 yX3_catchUp, Cond.instanceMethod yX3_catchUp, Cond.selects RX3 yX3_catchUp yX3_catchUp, Cond.code yX3_catchUp cX3_catchUp 3 none, Cond.methodLink RX3 74 yX3_press, Cond.instanceMethod yX3_press, Cond.selects RX3 yX3_press yX3_press, Cond.code yX3_press cX3_press 3 none, Cond.fieldLink RX3 28 "PressedPlainsModel" "many" "[I", Cond.methodLink RX3 93 yX3_tell, Cond.instanceMethod yX3_tell, Cond.selects RX3 yX3_tell yX3_tell, Cond.code yX3_tell cX3_tell 6 none, Cond.fieldLink RX3 25 "PressedPlainsModel" "second" "[I"]
def wsX3_pile : List Cond := .code yX3_pile cX3_pile 4 (some .int) :: ((wsX3_pile_r1 ++ wsX3_pile_r2) ++ wsX30)
def wsX3_presses : List Cond := .code yX3_presses cX3_presses 6 (some .int) :: ([.fieldLink RX3 7 "PressedPlainsModel" "height" "[I"] ++ wsX30)
def wsX3_lower_r1 : List Cond := [Cond.fieldLink RX3 77 "PressedPlainsModel" "left" "I", Cond.fieldLink RX3 34 "PressedPlainsModel" "todo" "[I", Cond.fieldLink RX3 16 "PressedPlainsModel" "first" "[I", Cond.fieldLink RX3 19 "PressedPlainsModel" "last" "[I", Cond.fieldLink RX3 22 "PressedPlainsModel" "greatest" "[I", Cond.fieldLink RX3 25 "PressedPlainsModel" "second" "[I", Cond.fieldLink RX3 7 "PressedPlainsModel" "height" "[I", Cond.fieldLink RX3 13 "PressedPlainsModel" "ceiling" "[I", Cond.fieldLink RX3 67 "PressedPlainsModel" "pressed" "I", Cond.methodLink RX3 96 yX3_isRange, Cond.instanceMethod yX3_isRange, Cond.selects RX3 yX3_isRange yX3_isRange, Cond.initialized RX3, Cond.code yX3_isRange cX3_isRange 3 (some .boolean), Cond.methodLink RX3 84 yX3_isColumn, Cond.instanceMethod yX3_isColumn, Cond.selects RX3 yX3_isColumn yX3_isColumn, Cond.code yX3_isColumn cX3_isColumn 2 (some .boolean), Cond.fieldLink RX3 45 "PressedPlainsModel" "columns" "I", Cond.methodLink RX3 48 yX3_in, Cond.static yX3_in, Cond.code yX3_in cX3_in 3 (some .boolean), Cond.methodLink RX3 70 yX3_isFine, Cond.instanceMethod yX3_isFine]
def wsX3_lower_r2 : List Cond := [Cond.selects RX3 yX3_isFine yX3_isFine, Cond.code yX3_isFine cX3_isFine 2 (some .boolean), Cond.fieldLink RX3 41 "PressedPlainsModel" "thrown" "I", Cond.methodLink RX3 87 yX3_begins, Cond.instanceMethod yX3_begins, Cond.selects RX3 yX3_begins yX3_begins, Cond.code yX3_begins cX3_begins 1 none, Cond.fieldLink RX3 52 "PressedPlainsModel" "visits" "I", Cond.fieldLink RX3 58 "PressedPlainsModel" "calls" "I", Cond.methodLink RX3 93 yX3_tell, Cond.instanceMethod yX3_tell, Cond.selects RX3 yX3_tell yX3_tell, Cond.code yX3_tell cX3_tell 6 none, Cond.fieldLink RX3 28 "PressedPlainsModel" "many" "[I", Cond.fieldLink RX3 31 "PressedPlainsModel" "sum" "[I", Cond.methodLink RX3 90 yX3_visited, Cond.instanceMethod yX3_visited, Cond.selects RX3 yX3_visited yX3_visited, Cond.code yX3_visited cX3_visited 1 none, Cond.fieldLink RX3 55 "PressedPlainsModel" "allVisits" "I", Cond.methodLink RX3 74 yX3_press, Cond.instanceMethod yX3_press, Cond.selects RX3 yX3_press yX3_press, Cond.code yX3_press cX3_press 3 none]
def wsX3_lower_r3 : List Cond := [Cond.methodLink RX3 100 yX3_goesBelow, Cond.instanceMethod yX3_goesBelow, Cond.selects RX3 yX3_goesBelow yX3_goesBelow, Cond.code yX3_goesBelow cX3_goesBelow 3 none, Cond.methodLink RX3 80 yX3_catchUp, Cond.instanceMethod yX3_catchUp, Cond.selects RX3 yX3_catchUp yX3_catchUp, Cond.code yX3_catchUp cX3_catchUp 3 none, Cond.methodLink RX3 104 yX3_presses, Cond.instanceMethod yX3_presses, Cond.selects RX3 yX3_presses yX3_presses, Cond.code yX3_presses cX3_presses 6 (some .int)]
def wsX3_lower : List Cond := .code yX3_lower cX3_lower 7 (some .int) :: ((wsX3_lower_r1 ++ (wsX3_lower_r2 ++ wsX3_lower_r3)) ++ wsX30)
def wsX3_asks_r1 : List Cond := [Cond.fieldLink RX3 77 "PressedPlainsModel" "left" "I", Cond.fieldLink RX3 34 "PressedPlainsModel" "todo" "[I", Cond.fieldLink RX3 16 "PressedPlainsModel" "first" "[I", Cond.fieldLink RX3 19 "PressedPlainsModel" "last" "[I", Cond.fieldLink RX3 31 "PressedPlainsModel" "sum" "[I", Cond.fieldLink RX3 22 "PressedPlainsModel" "greatest" "[I", Cond.methodLink RX3 87 yX3_begins, Cond.instanceMethod yX3_begins, Cond.selects RX3 yX3_begins yX3_begins, Cond.initialized RX3, Cond.code yX3_begins cX3_begins 1 none, Cond.fieldLink RX3 52 "PressedPlainsModel" "visits" "I", Cond.fieldLink RX3 58 "PressedPlainsModel" "calls" "I", Cond.methodLink RX3 90 yX3_visited, Cond.instanceMethod yX3_visited, Cond.selects RX3 yX3_visited yX3_visited, Cond.code yX3_visited cX3_visited 1 none, Cond.fieldLink RX3 55 "PressedPlainsModel" "allVisits" "I", Cond.methodLink RX3 100 yX3_goesBelow, Cond.instanceMethod yX3_goesBelow, Cond.selects RX3 yX3_goesBelow yX3_goesBelow, Cond.code yX3_goesBelow cX3_goesBelow 3 none, Cond.methodLink RX3 80 yX3_catchUp, Cond.instanceMethod yX3_catchUp]
def wsX3_asks_r2 : List Cond := [Cond.selects RX3 yX3_catchUp yX3_catchUp, Cond.code yX3_catchUp cX3_catchUp 3 none, Cond.methodLink RX3 74 yX3_press, Cond.instanceMethod yX3_press, Cond.selects RX3 yX3_press yX3_press, Cond.code yX3_press cX3_press 3 none, Cond.fieldLink RX3 28 "PressedPlainsModel" "many" "[I"]
def wsX3_asks : List Cond := .code yX3_asks cX3_asks 7 (some .int) :: ((wsX3_asks_r1 ++ wsX3_asks_r2) ++ wsX30)
def wsX3_earth_r1 : List Cond := [Cond.methodLink RX3 96 yX3_isRange, Cond.instanceMethod yX3_isRange, Cond.selects RX3 yX3_isRange yX3_isRange, Cond.initialized RX3, Cond.code yX3_isRange cX3_isRange 3 (some .boolean), Cond.methodLink RX3 84 yX3_isColumn, Cond.instanceMethod yX3_isColumn, Cond.selects RX3 yX3_isColumn yX3_isColumn, Cond.code yX3_isColumn cX3_isColumn 2 (some .boolean), Cond.fieldLink RX3 45 "PressedPlainsModel" "columns" "I", Cond.methodLink RX3 48 yX3_in, Cond.static yX3_in, Cond.code yX3_in cX3_in 3 (some .boolean), Cond.methodLink RX3 70 yX3_isFine, Cond.instanceMethod yX3_isFine, Cond.selects RX3 yX3_isFine yX3_isFine, Cond.code yX3_isFine cX3_isFine 2 (some .boolean), Cond.fieldLink RX3 41 "PressedPlainsModel" "thrown" "I", Cond.methodLink RX3 108 yX3_asks, Cond.instanceMethod yX3_asks, Cond.selects RX3 yX3_asks yX3_asks, Cond.code yX3_asks cX3_asks 7 (some .int), Cond.fieldLink RX3 77 "PressedPlainsModel" "left" "I", Cond.fieldLink RX3 34 "PressedPlainsModel" "todo" "[I"]
def wsX3_earth_r2 : List Cond := [Cond.fieldLink RX3 16 "PressedPlainsModel" "first" "[I", Cond.fieldLink RX3 19 "PressedPlainsModel" "last" "[I", Cond.fieldLink RX3 31 "PressedPlainsModel" "sum" "[I", Cond.fieldLink RX3 22 "PressedPlainsModel" "greatest" "[I", Cond.methodLink RX3 87 yX3_begins, Cond.instanceMethod yX3_begins, Cond.selects RX3 yX3_begins yX3_begins, Cond.code yX3_begins cX3_begins 1 none, Cond.fieldLink RX3 52 "PressedPlainsModel" "visits" "I", Cond.fieldLink RX3 58 "PressedPlainsModel" "calls" "I", Cond.methodLink RX3 90 yX3_visited, Cond.instanceMethod yX3_visited, Cond.selects RX3 yX3_visited yX3_visited, Cond.code yX3_visited cX3_visited 1 none, Cond.fieldLink RX3 55 "PressedPlainsModel" "allVisits" "I", Cond.methodLink RX3 100 yX3_goesBelow, Cond.instanceMethod yX3_goesBelow, Cond.selects RX3 yX3_goesBelow yX3_goesBelow, Cond.code yX3_goesBelow cX3_goesBelow 3 none, Cond.methodLink RX3 80 yX3_catchUp, Cond.instanceMethod yX3_catchUp, Cond.selects RX3 yX3_catchUp yX3_catchUp, Cond.code yX3_catchUp cX3_catchUp 3 none, Cond.methodLink RX3 74 yX3_press]
def wsX3_earth_r3 : List Cond := [Cond.instanceMethod yX3_press, Cond.selects RX3 yX3_press yX3_press, Cond.code yX3_press cX3_press 3 none, Cond.fieldLink RX3 28 "PressedPlainsModel" "many" "[I"]
def wsX3_earth : List Cond := .code yX3_earth cX3_earth 3 (some .int) :: ((wsX3_earth_r1 ++ (wsX3_earth_r2 ++ wsX3_earth_r3)) ++ wsX30)
def wsX3_earthByColumns : List Cond := .code yX3_earthByColumns cX3_earthByColumns 3 (some .int) :: ([.methodLink RX3 96 yX3_isRange, .instanceMethod yX3_isRange, .selects RX3 yX3_isRange yX3_isRange, .initialized RX3, .code yX3_isRange cX3_isRange 3 (some .boolean), .methodLink RX3 84 yX3_isColumn, .instanceMethod yX3_isColumn, .selects RX3 yX3_isColumn yX3_isColumn, .code yX3_isColumn cX3_isColumn 2 (some .boolean), .fieldLink RX3 45 "PressedPlainsModel" "columns" "I", .methodLink RX3 48 yX3_in, .static yX3_in, .code yX3_in cX3_in 3 (some .boolean), .methodLink RX3 70 yX3_isFine, .instanceMethod yX3_isFine, .selects RX3 yX3_isFine yX3_isFine, .code yX3_isFine cX3_isFine 2 (some .boolean), .fieldLink RX3 41 "PressedPlainsModel" "thrown" "I", .methodLink RX3 104 yX3_presses, .instanceMethod yX3_presses, .selects RX3 yX3_presses yX3_presses, .code yX3_presses cX3_presses 6 (some .int), .fieldLink RX3 7 "PressedPlainsModel" "height" "[I"] ++ wsX30)
def wsX3_top_r1 : List Cond := [Cond.methodLink RX3 96 yX3_isRange, Cond.instanceMethod yX3_isRange, Cond.selects RX3 yX3_isRange yX3_isRange, Cond.initialized RX3, Cond.code yX3_isRange cX3_isRange 3 (some .boolean), Cond.methodLink RX3 84 yX3_isColumn, Cond.instanceMethod yX3_isColumn, Cond.selects RX3 yX3_isColumn yX3_isColumn, Cond.code yX3_isColumn cX3_isColumn 2 (some .boolean), Cond.fieldLink RX3 45 "PressedPlainsModel" "columns" "I", Cond.methodLink RX3 48 yX3_in, Cond.static yX3_in, Cond.code yX3_in cX3_in 3 (some .boolean), Cond.methodLink RX3 70 yX3_isFine, Cond.instanceMethod yX3_isFine, Cond.selects RX3 yX3_isFine yX3_isFine, Cond.code yX3_isFine cX3_isFine 2 (some .boolean), Cond.fieldLink RX3 41 "PressedPlainsModel" "thrown" "I", Cond.methodLink RX3 108 yX3_asks, Cond.instanceMethod yX3_asks, Cond.selects RX3 yX3_asks yX3_asks, Cond.code yX3_asks cX3_asks 7 (some .int), Cond.fieldLink RX3 77 "PressedPlainsModel" "left" "I", Cond.fieldLink RX3 34 "PressedPlainsModel" "todo" "[I"]
def wsX3_top_r2 : List Cond := [Cond.fieldLink RX3 16 "PressedPlainsModel" "first" "[I", Cond.fieldLink RX3 19 "PressedPlainsModel" "last" "[I", Cond.fieldLink RX3 31 "PressedPlainsModel" "sum" "[I", Cond.fieldLink RX3 22 "PressedPlainsModel" "greatest" "[I", Cond.methodLink RX3 87 yX3_begins, Cond.instanceMethod yX3_begins, Cond.selects RX3 yX3_begins yX3_begins, Cond.code yX3_begins cX3_begins 1 none, Cond.fieldLink RX3 52 "PressedPlainsModel" "visits" "I", Cond.fieldLink RX3 58 "PressedPlainsModel" "calls" "I", Cond.methodLink RX3 90 yX3_visited, Cond.instanceMethod yX3_visited, Cond.selects RX3 yX3_visited yX3_visited, Cond.code yX3_visited cX3_visited 1 none, Cond.fieldLink RX3 55 "PressedPlainsModel" "allVisits" "I", Cond.methodLink RX3 100 yX3_goesBelow, Cond.instanceMethod yX3_goesBelow, Cond.selects RX3 yX3_goesBelow yX3_goesBelow, Cond.code yX3_goesBelow cX3_goesBelow 3 none, Cond.methodLink RX3 80 yX3_catchUp, Cond.instanceMethod yX3_catchUp, Cond.selects RX3 yX3_catchUp yX3_catchUp, Cond.code yX3_catchUp cX3_catchUp 3 none, Cond.methodLink RX3 74 yX3_press]
def wsX3_top_r3 : List Cond := [Cond.instanceMethod yX3_press, Cond.selects RX3 yX3_press yX3_press, Cond.code yX3_press cX3_press 3 none, Cond.fieldLink RX3 28 "PressedPlainsModel" "many" "[I"]
def wsX3_top : List Cond := .code yX3_top cX3_top 3 (some .int) :: ((wsX3_top_r1 ++ (wsX3_top_r2 ++ wsX3_top_r3)) ++ wsX30)
def wsX3_height : List Cond := .code yX3_height cX3_height 2 (some .int) :: ([.fieldLink RX3 7 "PressedPlainsModel" "height" "[I", .methodLink RX3 84 yX3_isColumn, .instanceMethod yX3_isColumn, .selects RX3 yX3_isColumn yX3_isColumn, .initialized RX3, .code yX3_isColumn cX3_isColumn 2 (some .boolean), .fieldLink RX3 45 "PressedPlainsModel" "columns" "I", .methodLink RX3 48 yX3_in, .static yX3_in, .code yX3_in cX3_in 3 (some .boolean), .methodLink RX3 70 yX3_isFine, .instanceMethod yX3_isFine, .selects RX3 yX3_isFine yX3_isFine, .code yX3_isFine cX3_isFine 2 (some .boolean), .fieldLink RX3 41 "PressedPlainsModel" "thrown" "I"] ++ wsX30)
def wsX3_heightOfColumn : List Cond := .code yX3_heightOfColumn cX3_heightOfColumn 2 (some .int) :: ([.fieldLink RX3 7 "PressedPlainsModel" "height" "[I", .methodLink RX3 84 yX3_isColumn, .instanceMethod yX3_isColumn, .selects RX3 yX3_isColumn yX3_isColumn, .initialized RX3, .code yX3_isColumn cX3_isColumn 2 (some .boolean), .fieldLink RX3 45 "PressedPlainsModel" "columns" "I", .methodLink RX3 48 yX3_in, .static yX3_in, .code yX3_in cX3_in 3 (some .boolean), .methodLink RX3 70 yX3_isFine, .instanceMethod yX3_isFine, .selects RX3 yX3_isFine yX3_isFine, .code yX3_isFine cX3_isFine 2 (some .boolean), .fieldLink RX3 41 "PressedPlainsModel" "thrown" "I"] ++ wsX30)
def wsX3_wouldPress : List Cond := .code yX3_wouldPress cX3_wouldPress 4 (some .int) :: ([.methodLink RX3 96 yX3_isRange, .instanceMethod yX3_isRange, .selects RX3 yX3_isRange yX3_isRange, .initialized RX3, .code yX3_isRange cX3_isRange 3 (some .boolean), .methodLink RX3 84 yX3_isColumn, .instanceMethod yX3_isColumn, .selects RX3 yX3_isColumn yX3_isColumn, .code yX3_isColumn cX3_isColumn 2 (some .boolean), .fieldLink RX3 45 "PressedPlainsModel" "columns" "I", .methodLink RX3 48 yX3_in, .static yX3_in, .code yX3_in cX3_in 3 (some .boolean), .methodLink RX3 70 yX3_isFine, .instanceMethod yX3_isFine, .selects RX3 yX3_isFine yX3_isFine, .code yX3_isFine cX3_isFine 2 (some .boolean), .fieldLink RX3 41 "PressedPlainsModel" "thrown" "I", .methodLink RX3 104 yX3_presses, .instanceMethod yX3_presses, .selects RX3 yX3_presses yX3_presses, .code yX3_presses cX3_presses 6 (some .int), .fieldLink RX3 7 "PressedPlainsModel" "height" "[I"] ++ wsX30)
def wsX3_ceilingFor : List Cond := .code yX3_ceilingFor cX3_ceilingFor 5 (some .int) :: ([.constant RX3 112 (64000), .methodLink RX3 96 yX3_isRange, .instanceMethod yX3_isRange, .selects RX3 yX3_isRange yX3_isRange, .initialized RX3, .code yX3_isRange cX3_isRange 3 (some .boolean), .methodLink RX3 84 yX3_isColumn, .instanceMethod yX3_isColumn, .selects RX3 yX3_isColumn yX3_isColumn, .code yX3_isColumn cX3_isColumn 2 (some .boolean), .fieldLink RX3 45 "PressedPlainsModel" "columns" "I", .methodLink RX3 48 yX3_in, .static yX3_in, .code yX3_in cX3_in 3 (some .boolean), .methodLink RX3 70 yX3_isFine, .instanceMethod yX3_isFine, .selects RX3 yX3_isFine yX3_isFine, .code yX3_isFine cX3_isFine 2 (some .boolean), .fieldLink RX3 41 "PressedPlainsModel" "thrown" "I", .methodLink RX3 104 yX3_presses, .instanceMethod yX3_presses, .selects RX3 yX3_presses yX3_presses, .code yX3_presses cX3_presses 6 (some .int), .fieldLink RX3 7 "PressedPlainsModel" "height" "[I"] ++ wsX30)
def wsX3_ceilingOver : List Cond := .code yX3_ceilingOver cX3_ceilingOver 2 (some .int) :: ([.fieldLink RX3 13 "PressedPlainsModel" "ceiling" "[I", .methodLink RX3 84 yX3_isColumn, .instanceMethod yX3_isColumn, .selects RX3 yX3_isColumn yX3_isColumn, .initialized RX3, .code yX3_isColumn cX3_isColumn 2 (some .boolean), .fieldLink RX3 45 "PressedPlainsModel" "columns" "I", .methodLink RX3 48 yX3_in, .static yX3_in, .code yX3_in cX3_in 3 (some .boolean), .methodLink RX3 70 yX3_isFine, .instanceMethod yX3_isFine, .selects RX3 yX3_isFine yX3_isFine, .code yX3_isFine cX3_isFine 2 (some .boolean), .fieldLink RX3 41 "PressedPlainsModel" "thrown" "I"] ++ wsX30)
def wsX3_columns : List Cond := .code yX3_columns cX3_columns 1 (some .int) :: ([.fieldLink RX3 41 "PressedPlainsModel" "thrown" "I", .fieldLink RX3 45 "PressedPlainsModel" "columns" "I"] ++ wsX30)
def wsX3_isEntry : List Cond := .code yX3_isEntry cX3_isEntry 2 (some .boolean) :: ([.fieldLink RX3 16 "PressedPlainsModel" "first" "[I", .methodLink RX3 48 yX3_in, .static yX3_in, .initialized RX3, .code yX3_in cX3_in 3 (some .boolean), .methodLink RX3 70 yX3_isFine, .instanceMethod yX3_isFine, .selects RX3 yX3_isFine yX3_isFine, .code yX3_isFine cX3_isFine 2 (some .boolean), .fieldLink RX3 41 "PressedPlainsModel" "thrown" "I"] ++ wsX30)
def wsX3_spanOf : List Cond := .code yX3_spanOf cX3_spanOf 2 (some .int) :: ([.fieldLink RX3 16 "PressedPlainsModel" "first" "[I", .fieldLink RX3 19 "PressedPlainsModel" "last" "[I", .methodLink RX3 113 yX3_isEntry, .instanceMethod yX3_isEntry, .selects RX3 yX3_isEntry yX3_isEntry, .initialized RX3, .code yX3_isEntry cX3_isEntry 2 (some .boolean), .methodLink RX3 48 yX3_in, .static yX3_in, .code yX3_in cX3_in 3 (some .boolean), .methodLink RX3 70 yX3_isFine, .instanceMethod yX3_isFine, .selects RX3 yX3_isFine yX3_isFine, .code yX3_isFine cX3_isFine 2 (some .boolean), .fieldLink RX3 41 "PressedPlainsModel" "thrown" "I"] ++ wsX30)
def wsX3_greatest : List Cond := .code yX3_greatest cX3_greatest 2 (some .int) :: ([.fieldLink RX3 22 "PressedPlainsModel" "greatest" "[I", .methodLink RX3 113 yX3_isEntry, .instanceMethod yX3_isEntry, .selects RX3 yX3_isEntry yX3_isEntry, .initialized RX3, .code yX3_isEntry cX3_isEntry 2 (some .boolean), .fieldLink RX3 16 "PressedPlainsModel" "first" "[I", .methodLink RX3 48 yX3_in, .static yX3_in, .code yX3_in cX3_in 3 (some .boolean), .methodLink RX3 70 yX3_isFine, .instanceMethod yX3_isFine, .selects RX3 yX3_isFine yX3_isFine, .code yX3_isFine cX3_isFine 2 (some .boolean), .fieldLink RX3 41 "PressedPlainsModel" "thrown" "I"] ++ wsX30)
def wsX3_second : List Cond := .code yX3_second cX3_second 2 (some .int) :: ([.fieldLink RX3 25 "PressedPlainsModel" "second" "[I", .methodLink RX3 113 yX3_isEntry, .instanceMethod yX3_isEntry, .selects RX3 yX3_isEntry yX3_isEntry, .initialized RX3, .code yX3_isEntry cX3_isEntry 2 (some .boolean), .fieldLink RX3 16 "PressedPlainsModel" "first" "[I", .methodLink RX3 48 yX3_in, .static yX3_in, .code yX3_in cX3_in 3 (some .boolean), .methodLink RX3 70 yX3_isFine, .instanceMethod yX3_isFine, .selects RX3 yX3_isFine yX3_isFine, .code yX3_isFine cX3_isFine 2 (some .boolean), .fieldLink RX3 41 "PressedPlainsModel" "thrown" "I"] ++ wsX30)
def wsX3_many : List Cond := .code yX3_many cX3_many 2 (some .int) :: ([.fieldLink RX3 28 "PressedPlainsModel" "many" "[I", .methodLink RX3 113 yX3_isEntry, .instanceMethod yX3_isEntry, .selects RX3 yX3_isEntry yX3_isEntry, .initialized RX3, .code yX3_isEntry cX3_isEntry 2 (some .boolean), .fieldLink RX3 16 "PressedPlainsModel" "first" "[I", .methodLink RX3 48 yX3_in, .static yX3_in, .code yX3_in cX3_in 3 (some .boolean), .methodLink RX3 70 yX3_isFine, .instanceMethod yX3_isFine, .selects RX3 yX3_isFine yX3_isFine, .code yX3_isFine cX3_isFine 2 (some .boolean), .fieldLink RX3 41 "PressedPlainsModel" "thrown" "I"] ++ wsX30)
def wsX3_noted : List Cond := .code yX3_noted cX3_noted 2 (some .int) :: ([.fieldLink RX3 31 "PressedPlainsModel" "sum" "[I", .methodLink RX3 113 yX3_isEntry, .instanceMethod yX3_isEntry, .selects RX3 yX3_isEntry yX3_isEntry, .initialized RX3, .code yX3_isEntry cX3_isEntry 2 (some .boolean), .fieldLink RX3 16 "PressedPlainsModel" "first" "[I", .methodLink RX3 48 yX3_in, .static yX3_in, .code yX3_in cX3_in 3 (some .boolean), .methodLink RX3 70 yX3_isFine, .instanceMethod yX3_isFine, .selects RX3 yX3_isFine yX3_isFine, .code yX3_isFine cX3_isFine 2 (some .boolean), .fieldLink RX3 41 "PressedPlainsModel" "thrown" "I"] ++ wsX30)
def wsX3_lagging : List Cond := .code yX3_lagging cX3_lagging 3 (some .int) :: ([.fieldLink RX3 41 "PressedPlainsModel" "thrown" "I", .fieldLink RX3 16 "PressedPlainsModel" "first" "[I", .fieldLink RX3 22 "PressedPlainsModel" "greatest" "[I"] ++ wsX30)
def wsX3_visits : List Cond := .code yX3_visits cX3_visits 1 (some .int) :: ([.fieldLink RX3 41 "PressedPlainsModel" "thrown" "I", .fieldLink RX3 52 "PressedPlainsModel" "visits" "I"] ++ wsX30)
def wsX3_allVisits : List Cond := .code yX3_allVisits cX3_allVisits 1 (some .int) :: ([.fieldLink RX3 41 "PressedPlainsModel" "thrown" "I", .fieldLink RX3 55 "PressedPlainsModel" "allVisits" "I"] ++ wsX30)
def wsX3_pressedAway : List Cond := .code yX3_pressedAway cX3_pressedAway 1 (some .int) :: ([.fieldLink RX3 41 "PressedPlainsModel" "thrown" "I", .fieldLink RX3 67 "PressedPlainsModel" "pressed" "I"] ++ wsX30)
def wsX3_pressedAwayByRest : List Cond := .code yX3_pressedAwayByRest cX3_pressedAwayByRest 1 (some .int) :: ([.fieldLink RX3 41 "PressedPlainsModel" "thrown" "I", .fieldLink RX3 61 "PressedPlainsModel" "laid" "I", .fieldLink RX3 64 "PressedPlainsModel" "piled" "I", .fieldLink RX3 45 "PressedPlainsModel" "columns" "I", .methodLink RX3 104 yX3_presses, .instanceMethod yX3_presses, .selects RX3 yX3_presses yX3_presses, .initialized RX3, .code yX3_presses cX3_presses 6 (some .int), .fieldLink RX3 7 "PressedPlainsModel" "height" "[I"] ++ wsX30)
def wsX3_meanVisits : List Cond := .code yX3_meanVisits cX3_meanVisits 1 (some .double) :: ([.fieldLink RX3 41 "PressedPlainsModel" "thrown" "I", .fieldLink RX3 58 "PressedPlainsModel" "calls" "I", .fieldLink RX3 55 "PressedPlainsModel" "allVisits" "I"] ++ wsX30)
def wsJ9_max_7cf53 : List Cond := .code yJ9_max_7cf53 cJ9_max_7cf53 2 (some .int) :: ([])
def wsJ9_min_7cf53 : List Cond := .code yJ9_min_7cf53 cJ9_min_7cf53 2 (some .int) :: ([])
def wsL_layOut_r1 : List Cond := [Cond.classLink RL 13 "java/lang/IllegalArgumentException", Cond.methodLink RL 7 yX2_layOut, Cond.instanceMethod yX2_layOut, Cond.selects RX2 yX2_layOut yX2_layOut, Cond.initialized RX2, Cond.code yX2_layOut cX2_layOut 3 (some .int), Cond.fieldLink RX2 12 "PressedPlains" "book" "LPressedPlains$Book;", Cond.fieldLink RX2 19 "PressedPlains" "ground" "LPressedPlains$Ground;", Cond.fieldLink RX2 28 "PressedPlains" "pressedSoFar" "I", Cond.methodLink RX2 32 yX2_requireInRange, Cond.static yX2_requireInRange, Cond.code yX2_requireInRange cX2_requireInRange 3 none, Cond.classLink RX2 137 "java/lang/IllegalArgumentException", Cond.initialized "java/lang/IllegalArgumentException", Cond.methodLink RX2 23 yX0_renew, Cond.instanceMethod yX0_renew, Cond.selects RX0 yX0_renew yX0_renew, Cond.initialized RX0, Cond.code yX0_renew cX0_renew 5 none, Cond.fieldLink RX0 15 "PressedPlains$Book" "last" "[I", Cond.fieldLink RX0 11 "PressedPlains$Book" "first" "[I", Cond.fieldLink RX0 18 "PressedPlains$Book" "greatest" "[I", Cond.fieldLink RX0 21 "PressedPlains$Book" "second" "[I", Cond.fieldLink RX0 24 "PressedPlains$Book" "many" "[I"]
def wsL_layOut_r2 : List Cond := [Cond.fieldLink RX0 27 "PressedPlains$Book" "sum" "[I", Cond.fieldLink RX0 38 "PressedPlains$Book" "latestVisits" "I", Cond.fieldLink RX0 42 "PressedPlains$Book" "totalVisits" "I", Cond.fieldLink RX0 45 "PressedPlains$Book" "calls" "I", Cond.methodLink RX0 30 yX0_setSpan, Cond.instanceMethod yX0_setSpan, Cond.selects RX0 yX0_setSpan yX0_setSpan, Cond.code yX0_setSpan cX0_setSpan 4 none, Cond.methodLink RX0 34 yX0_splitSpan, Cond.instanceMethod yX0_splitSpan, Cond.selects RX0 yX0_splitSpan yX0_splitSpan, Cond.code yX0_splitSpan cX0_splitSpan 3 none, Cond.methodLink RX0 82 yX0_hasParts, Cond.instanceMethod yX0_hasParts, Cond.selects RX0 yX0_hasParts yX0_hasParts, Cond.code yX0_hasParts cX0_hasParts 2 (some .boolean), Cond.methodLink RX2 27 yX1_renew, Cond.instanceMethod yX1_renew, Cond.selects RX1 yX1_renew yX1_renew, Cond.initialized RX1, Cond.code yX1_renew cX1_renew 4 none, Cond.fieldLink RX1 18 "PressedPlains$Ground" "count" "I", Cond.fieldLink RX1 22 "PressedPlains$Ground" "given" "I", Cond.fieldLink RX1 9 "PressedPlains$Ground" "heights" "[I"]
def wsL_layOut_r3 : List Cond := [Cond.fieldLink RX1 15 "PressedPlains$Ground" "ceilings" "[I"]
def wsL_layOut : List Cond := .codeWith yL_layOut cL_layOut 5 (some .int) [(0, 10, 13, 13)] :: ((wsL_layOut_r1 ++ (wsL_layOut_r2 ++ wsL_layOut_r3)) ++ wsX20 ++ wsX00 ++ wsX10 ++ (vx_atS RX2 141 "java/lang/IllegalArgumentException" ["java/lang/RuntimeException", "java/lang/Exception"]).filter goodWord)
def wsL_pile_r1 : List Cond := [Cond.classLink RL 18 "java/lang/IndexOutOfBoundsException", Cond.classLink RL 13 "java/lang/IllegalArgumentException", Cond.classLink RL 20 "java/lang/IllegalStateException", Cond.methodLink RL 15 yX2_pile, Cond.instanceMethod yX2_pile, Cond.selects RX2 yX2_pile yX2_pile, Cond.initialized RX2, Cond.code yX2_pile cX2_pile 4 (some .int), Cond.classLink RX2 44 "java/lang/IllegalStateException", Cond.initialized "java/lang/IllegalStateException", Cond.fieldLink RX2 19 "PressedPlains" "ground" "LPressedPlains$Ground;", Cond.fieldLink RX2 12 "PressedPlains" "book" "LPressedPlains$Book;", Cond.methodLink RX2 36 yX2_requireColumn, Cond.instanceMethod yX2_requireColumn, Cond.selects RX2 yX2_requireColumn yX2_requireColumn, Cond.code yX2_requireColumn cX2_requireColumn 2 none, Cond.classLink RX2 132 "java/lang/IndexOutOfBoundsException", Cond.initialized "java/lang/IndexOutOfBoundsException", Cond.methodLink RX2 32 yX2_requireInRange, Cond.static yX2_requireInRange, Cond.code yX2_requireInRange cX2_requireInRange 3 none, Cond.classLink RX2 137 "java/lang/IllegalArgumentException", Cond.initialized "java/lang/IllegalArgumentException", Cond.methodLink RX2 51 yX1_raise]
def wsL_pile_r2 : List Cond := [Cond.instanceMethod yX1_raise, Cond.selects RX1 yX1_raise yX1_raise, Cond.initialized RX1, Cond.code yX1_raise cX1_raise 3 none, Cond.fieldLink RX1 9 "PressedPlains$Ground" "heights" "[I", Cond.fieldLink RX1 15 "PressedPlains$Ground" "ceilings" "[I", Cond.fieldLink RX1 22 "PressedPlains$Ground" "given" "I", Cond.methodLink RX2 54 yX0_raise, Cond.instanceMethod yX0_raise, Cond.selects RX0 yX0_raise yX0_raise, Cond.initialized RX0, Cond.code yX0_raise cX0_raise 3 none, Cond.methodLink RX0 48 yX0_beginCall, Cond.instanceMethod yX0_beginCall, Cond.selects RX0 yX0_beginCall yX0_beginCall, Cond.code yX0_beginCall cX0_beginCall 1 none, Cond.fieldLink RX0 45 "PressedPlains$Book" "calls" "I", Cond.fieldLink RX0 38 "PressedPlains$Book" "latestVisits" "I", Cond.methodLink RX0 55 yX0_raiseFrom, Cond.instanceMethod yX0_raiseFrom, Cond.selects RX0 yX0_raiseFrom yX0_raiseFrom, Cond.code yX0_raiseFrom cX0_raiseFrom 5 none, Cond.fieldLink RX0 18 "PressedPlains$Book" "greatest" "[I", Cond.fieldLink RX0 27 "PressedPlains$Book" "sum" "[I"]
def wsL_pile_r3 : List Cond := [Cond.fieldLink RX0 15 "PressedPlains$Book" "last" "[I", Cond.methodLink RX0 85 yX0_countVisit, Cond.instanceMethod yX0_countVisit, Cond.selects RX0 yX0_countVisit yX0_countVisit, Cond.code yX0_countVisit cX0_countVisit 1 none, Cond.fieldLink RX0 42 "PressedPlains$Book" "totalVisits" "I", Cond.methodLink RX0 82 yX0_hasParts, Cond.instanceMethod yX0_hasParts, Cond.selects RX0 yX0_hasParts yX0_hasParts, Cond.code yX0_hasParts cX0_hasParts 2 (some .boolean), Cond.fieldLink RX0 11 "PressedPlains$Book" "first" "[I", Cond.methodLink RX0 95 yX0_catchUpBelow, Cond.instanceMethod yX0_catchUpBelow, Cond.selects RX0 yX0_catchUpBelow yX0_catchUpBelow, Cond.code yX0_catchUpBelow cX0_catchUpBelow 2 none, Cond.methodLink RX0 104 yX0_catchUp, Cond.instanceMethod yX0_catchUp, Cond.selects RX0 yX0_catchUp yX0_catchUp, Cond.code yX0_catchUp cX0_catchUp 2 none, Cond.methodLink RX0 79 yX0_lags, Cond.instanceMethod yX0_lags, Cond.selects RX0 yX0_lags yX0_lags, Cond.code yX0_lags cX0_lags 2 (some .boolean), Cond.methodLink RX0 91 yX0_pressDown]
def wsL_pile_r4 : List Cond := [Cond.instanceMethod yX0_pressDown, Cond.selects RX0 yX0_pressDown yX0_pressDown, Cond.code yX0_pressDown cX0_pressDown 3 none, Cond.fieldLink RX0 24 "PressedPlains$Book" "many" "[I", Cond.methodLink RX0 98 yX0_tellAnew, Cond.instanceMethod yX0_tellAnew, Cond.selects RX0 yX0_tellAnew yX0_tellAnew, Cond.code yX0_tellAnew cX0_tellAnew 5 none, Cond.methodLink RX0 101 Lib.Math.max.name, Cond.static Lib.Math.max.name, Cond.initialized "java/lang/Math", Cond.code Lib.Math.max.name Lib.Math.max.code 2 (some .int), Cond.fieldLink RX0 21 "PressedPlains$Book" "second" "[I", Cond.methodLink RX0 107 yX0_manyAt, Cond.instanceMethod yX0_manyAt, Cond.selects RX0 yX0_manyAt yX0_manyAt, Cond.code yX0_manyAt cX0_manyAt 3 (some .int), Cond.methodLink RX0 110 yX0_greatestLessThan, Cond.instanceMethod yX0_greatestLessThan, Cond.selects RX0 yX0_greatestLessThan yX0_greatestLessThan, Cond.code yX0_greatestLessThan cX0_greatestLessThan 3 (some .int)]
def wsL_pile : List Cond := .codeWith yL_pile cL_pile 5 (some .int) [(0, 10, 13, 18), (0, 10, 17, 13), (0, 10, 21, 20)] :: ((wsL_pile_r1 ++ (wsL_pile_r2 ++ (wsL_pile_r3 ++ wsL_pile_r4))) ++ wsX20 ++ wsX10 ++ wsX00 ++ (vx_atS RX2 48 "java/lang/IllegalStateException" ["java/lang/RuntimeException", "java/lang/Exception"]).filter goodWord ++ (vx_atS RX2 136 "java/lang/IndexOutOfBoundsException" ["java/lang/RuntimeException", "java/lang/Exception"]).filter goodWord ++ (vx_atS RX2 141 "java/lang/IllegalArgumentException" ["java/lang/RuntimeException", "java/lang/Exception"]).filter goodWord)
def wsL_lower_r1 : List Cond := [Cond.classLink RL 18 "java/lang/IndexOutOfBoundsException", Cond.classLink RL 13 "java/lang/IllegalArgumentException", Cond.methodLink RL 22 yX2_lower, Cond.instanceMethod yX2_lower, Cond.selects RX2 yX2_lower yX2_lower, Cond.initialized RX2, Cond.code yX2_lower cX2_lower 5 (some .int), Cond.fieldLink RX2 12 "PressedPlains" "book" "LPressedPlains$Book;", Cond.fieldLink RX2 19 "PressedPlains" "ground" "LPressedPlains$Ground;", Cond.fieldLink RX2 28 "PressedPlains" "pressedSoFar" "I", Cond.methodLink RX2 55 yX2_requireSpan, Cond.instanceMethod yX2_requireSpan, Cond.selects RX2 yX2_requireSpan yX2_requireSpan, Cond.code yX2_requireSpan cX2_requireSpan 3 none, Cond.classLink RX2 137 "java/lang/IllegalArgumentException", Cond.initialized "java/lang/IllegalArgumentException", Cond.methodLink RX2 36 yX2_requireColumn, Cond.instanceMethod yX2_requireColumn, Cond.selects RX2 yX2_requireColumn yX2_requireColumn, Cond.code yX2_requireColumn cX2_requireColumn 2 none, Cond.classLink RX2 132 "java/lang/IndexOutOfBoundsException", Cond.initialized "java/lang/IndexOutOfBoundsException", Cond.methodLink RX2 32 yX2_requireInRange, Cond.static yX2_requireInRange]
def wsL_lower_r2 : List Cond := [Cond.code yX2_requireInRange cX2_requireInRange 3 none, Cond.methodLink RX2 58 yX0_press, Cond.instanceMethod yX0_press, Cond.selects RX0 yX0_press yX0_press, Cond.initialized RX0, Cond.code yX0_press cX0_press 5 (some .int), Cond.fieldLink RX0 27 "PressedPlains$Book" "sum" "[I", Cond.methodLink RX0 48 yX0_beginCall, Cond.instanceMethod yX0_beginCall, Cond.selects RX0 yX0_beginCall yX0_beginCall, Cond.code yX0_beginCall cX0_beginCall 1 none, Cond.fieldLink RX0 45 "PressedPlains$Book" "calls" "I", Cond.fieldLink RX0 38 "PressedPlains$Book" "latestVisits" "I", Cond.methodLink RX0 51 yX0_pressFrom, Cond.instanceMethod yX0_pressFrom, Cond.selects RX0 yX0_pressFrom yX0_pressFrom, Cond.code yX0_pressFrom cX0_pressFrom 6 none, Cond.fieldLink RX0 18 "PressedPlains$Book" "greatest" "[I", Cond.fieldLink RX0 21 "PressedPlains$Book" "second" "[I", Cond.methodLink RX0 85 yX0_countVisit, Cond.instanceMethod yX0_countVisit, Cond.selects RX0 yX0_countVisit yX0_countVisit, Cond.code yX0_countVisit cX0_countVisit 1 none, Cond.fieldLink RX0 42 "PressedPlains$Book" "totalVisits" "I"]
def wsL_lower_r3 : List Cond := [Cond.methodLink RX0 69 yX0_isApart, Cond.instanceMethod yX0_isApart, Cond.selects RX0 yX0_isApart yX0_isApart, Cond.code yX0_isApart cX0_isApart 4 (some .boolean), Cond.fieldLink RX0 15 "PressedPlains$Book" "last" "[I", Cond.fieldLink RX0 11 "PressedPlains$Book" "first" "[I", Cond.methodLink RX0 88 yX0_isWithin, Cond.instanceMethod yX0_isWithin, Cond.selects RX0 yX0_isWithin yX0_isWithin, Cond.code yX0_isWithin cX0_isWithin 4 (some .boolean), Cond.methodLink RX0 82 yX0_hasParts, Cond.instanceMethod yX0_hasParts, Cond.selects RX0 yX0_hasParts yX0_hasParts, Cond.code yX0_hasParts cX0_hasParts 2 (some .boolean), Cond.methodLink RX0 91 yX0_pressDown, Cond.instanceMethod yX0_pressDown, Cond.selects RX0 yX0_pressDown yX0_pressDown, Cond.code yX0_pressDown cX0_pressDown 3 none, Cond.fieldLink RX0 24 "PressedPlains$Book" "many" "[I", Cond.methodLink RX0 95 yX0_catchUpBelow, Cond.instanceMethod yX0_catchUpBelow, Cond.selects RX0 yX0_catchUpBelow yX0_catchUpBelow, Cond.code yX0_catchUpBelow cX0_catchUpBelow 2 none, Cond.methodLink RX0 104 yX0_catchUp]
def wsL_lower_r4 : List Cond := [Cond.instanceMethod yX0_catchUp, Cond.selects RX0 yX0_catchUp yX0_catchUp, Cond.code yX0_catchUp cX0_catchUp 2 none, Cond.methodLink RX0 79 yX0_lags, Cond.instanceMethod yX0_lags, Cond.selects RX0 yX0_lags yX0_lags, Cond.code yX0_lags cX0_lags 2 (some .boolean), Cond.methodLink RX0 98 yX0_tellAnew, Cond.instanceMethod yX0_tellAnew, Cond.selects RX0 yX0_tellAnew yX0_tellAnew, Cond.code yX0_tellAnew cX0_tellAnew 5 none, Cond.methodLink RX0 101 Lib.Math.max.name, Cond.static Lib.Math.max.name, Cond.initialized "java/lang/Math", Cond.code Lib.Math.max.name Lib.Math.max.code 2 (some .int), Cond.methodLink RX0 107 yX0_manyAt, Cond.instanceMethod yX0_manyAt, Cond.selects RX0 yX0_manyAt yX0_manyAt, Cond.code yX0_manyAt cX0_manyAt 3 (some .int), Cond.methodLink RX0 110 yX0_greatestLessThan, Cond.instanceMethod yX0_greatestLessThan, Cond.selects RX0 yX0_greatestLessThan yX0_greatestLessThan, Cond.code yX0_greatestLessThan cX0_greatestLessThan 3 (some .int), Cond.methodLink RX2 62 yX1_press]
def wsL_lower_r5 : List Cond := [Cond.instanceMethod yX1_press, Cond.selects RX1 yX1_press yX1_press, Cond.initialized RX1, Cond.code yX1_press cX1_press 5 none, Cond.fieldLink RX1 9 "PressedPlains$Ground" "heights" "[I", Cond.methodLink RX1 25 Lib.Math.min.name, Cond.static Lib.Math.min.name, Cond.code Lib.Math.min.name Lib.Math.min.code 2 (some .int), Cond.fieldLink RX1 15 "PressedPlains$Ground" "ceilings" "[I"]
def wsL_lower : List Cond := .codeWith yL_lower cL_lower 6 (some .int) [(0, 12, 15, 18), (0, 12, 19, 13)] :: ((wsL_lower_r1 ++ (wsL_lower_r2 ++ (wsL_lower_r3 ++ (wsL_lower_r4 ++ wsL_lower_r5)))) ++ wsX20 ++ wsX10 ++ wsX00 ++ (vx_atS RX2 141 "java/lang/IllegalArgumentException" ["java/lang/RuntimeException", "java/lang/Exception"]).filter goodWord ++ (vx_atS RX2 136 "java/lang/IndexOutOfBoundsException" ["java/lang/RuntimeException", "java/lang/Exception"]).filter goodWord)
def wsL_earth_r1 : List Cond := [Cond.classLink RL 18 "java/lang/IndexOutOfBoundsException", Cond.classLink RL 13 "java/lang/IllegalArgumentException", Cond.methodLink RL 26 yX2_earth, Cond.instanceMethod yX2_earth, Cond.selects RX2 yX2_earth yX2_earth, Cond.initialized RX2, Cond.code yX2_earth cX2_earth 3 (some .int), Cond.fieldLink RX2 12 "PressedPlains" "book" "LPressedPlains$Book;", Cond.methodLink RX2 55 yX2_requireSpan, Cond.instanceMethod yX2_requireSpan, Cond.selects RX2 yX2_requireSpan yX2_requireSpan, Cond.code yX2_requireSpan cX2_requireSpan 3 none, Cond.classLink RX2 137 "java/lang/IllegalArgumentException", Cond.initialized "java/lang/IllegalArgumentException", Cond.methodLink RX2 36 yX2_requireColumn, Cond.instanceMethod yX2_requireColumn, Cond.selects RX2 yX2_requireColumn yX2_requireColumn, Cond.code yX2_requireColumn cX2_requireColumn 2 none, Cond.classLink RX2 132 "java/lang/IndexOutOfBoundsException", Cond.initialized "java/lang/IndexOutOfBoundsException", Cond.fieldLink RX2 19 "PressedPlains" "ground" "LPressedPlains$Ground;", Cond.methodLink RX2 64 yX0_askSum, Cond.instanceMethod yX0_askSum, Cond.selects RX0 yX0_askSum yX0_askSum]
def wsL_earth_r2 : List Cond := [Cond.initialized RX0, Cond.code yX0_askSum cX0_askSum 3 (some .int), Cond.methodLink RX0 48 yX0_beginCall, Cond.instanceMethod yX0_beginCall, Cond.selects RX0 yX0_beginCall yX0_beginCall, Cond.code yX0_beginCall cX0_beginCall 1 none, Cond.fieldLink RX0 45 "PressedPlains$Book" "calls" "I", Cond.fieldLink RX0 38 "PressedPlains$Book" "latestVisits" "I", Cond.methodLink RX0 58 yX0_sumFrom, Cond.instanceMethod yX0_sumFrom, Cond.selects RX0 yX0_sumFrom yX0_sumFrom, Cond.code yX0_sumFrom cX0_sumFrom 4 (some .int), Cond.fieldLink RX0 27 "PressedPlains$Book" "sum" "[I", Cond.methodLink RX0 85 yX0_countVisit, Cond.instanceMethod yX0_countVisit, Cond.selects RX0 yX0_countVisit yX0_countVisit, Cond.code yX0_countVisit cX0_countVisit 1 none, Cond.fieldLink RX0 42 "PressedPlains$Book" "totalVisits" "I", Cond.methodLink RX0 69 yX0_isApart, Cond.instanceMethod yX0_isApart, Cond.selects RX0 yX0_isApart yX0_isApart, Cond.code yX0_isApart cX0_isApart 4 (some .boolean), Cond.fieldLink RX0 15 "PressedPlains$Book" "last" "[I", Cond.fieldLink RX0 11 "PressedPlains$Book" "first" "[I"]
def wsL_earth_r3 : List Cond := [Cond.methodLink RX0 88 yX0_isWithin, Cond.instanceMethod yX0_isWithin, Cond.selects RX0 yX0_isWithin yX0_isWithin, Cond.code yX0_isWithin cX0_isWithin 4 (some .boolean), Cond.methodLink RX0 82 yX0_hasParts, Cond.instanceMethod yX0_hasParts, Cond.selects RX0 yX0_hasParts yX0_hasParts, Cond.code yX0_hasParts cX0_hasParts 2 (some .boolean), Cond.methodLink RX0 95 yX0_catchUpBelow, Cond.instanceMethod yX0_catchUpBelow, Cond.selects RX0 yX0_catchUpBelow yX0_catchUpBelow, Cond.code yX0_catchUpBelow cX0_catchUpBelow 2 none, Cond.methodLink RX0 104 yX0_catchUp, Cond.instanceMethod yX0_catchUp, Cond.selects RX0 yX0_catchUp yX0_catchUp, Cond.code yX0_catchUp cX0_catchUp 2 none, Cond.fieldLink RX0 18 "PressedPlains$Book" "greatest" "[I", Cond.methodLink RX0 79 yX0_lags, Cond.instanceMethod yX0_lags, Cond.selects RX0 yX0_lags yX0_lags, Cond.code yX0_lags cX0_lags 2 (some .boolean), Cond.methodLink RX0 91 yX0_pressDown, Cond.instanceMethod yX0_pressDown, Cond.selects RX0 yX0_pressDown yX0_pressDown]
def wsL_earth_r4 : List Cond := [Cond.code yX0_pressDown cX0_pressDown 3 none, Cond.fieldLink RX0 24 "PressedPlains$Book" "many" "[I"]
def wsL_earth : List Cond := .codeWith yL_earth cL_earth 5 (some .int) [(0, 10, 13, 18), (0, 10, 17, 13)] :: ((wsL_earth_r1 ++ (wsL_earth_r2 ++ (wsL_earth_r3 ++ wsL_earth_r4))) ++ wsX20 ++ wsX10 ++ wsX00 ++ (vx_atS RX2 141 "java/lang/IllegalArgumentException" ["java/lang/RuntimeException", "java/lang/Exception"]).filter goodWord ++ (vx_atS RX2 136 "java/lang/IndexOutOfBoundsException" ["java/lang/RuntimeException", "java/lang/Exception"]).filter goodWord)
def wsL_earthByColumns_r1 : List Cond := [Cond.classLink RL 18 "java/lang/IndexOutOfBoundsException", Cond.classLink RL 13 "java/lang/IllegalArgumentException", Cond.methodLink RL 29 yX2_earthByColumns, Cond.instanceMethod yX2_earthByColumns, Cond.selects RX2 yX2_earthByColumns yX2_earthByColumns, Cond.initialized RX2, Cond.code yX2_earthByColumns cX2_earthByColumns 3 (some .int), Cond.fieldLink RX2 19 "PressedPlains" "ground" "LPressedPlains$Ground;", Cond.methodLink RX2 55 yX2_requireSpan, Cond.instanceMethod yX2_requireSpan, Cond.selects RX2 yX2_requireSpan yX2_requireSpan, Cond.code yX2_requireSpan cX2_requireSpan 3 none, Cond.classLink RX2 137 "java/lang/IllegalArgumentException", Cond.initialized "java/lang/IllegalArgumentException", Cond.methodLink RX2 36 yX2_requireColumn, Cond.instanceMethod yX2_requireColumn, Cond.selects RX2 yX2_requireColumn yX2_requireColumn, Cond.code yX2_requireColumn cX2_requireColumn 2 none, Cond.classLink RX2 132 "java/lang/IndexOutOfBoundsException", Cond.initialized "java/lang/IndexOutOfBoundsException", Cond.methodLink RX2 68 yX1_earthAbove, Cond.instanceMethod yX1_earthAbove, Cond.selects RX1 yX1_earthAbove yX1_earthAbove, Cond.initialized RX1]
def wsL_earthByColumns_r2 : List Cond := [Cond.code yX1_earthAbove cX1_earthAbove 6 (some .int), Cond.fieldLink RX1 9 "PressedPlains$Ground" "heights" "[I", Cond.methodLink RX1 31 Lib.Math.max.name, Cond.static Lib.Math.max.name, Cond.initialized "java/lang/Math", Cond.code Lib.Math.max.name Lib.Math.max.code 2 (some .int)]
def wsL_earthByColumns : List Cond := .codeWith yL_earthByColumns cL_earthByColumns 5 (some .int) [(0, 10, 13, 18), (0, 10, 17, 13)] :: ((wsL_earthByColumns_r1 ++ wsL_earthByColumns_r2) ++ wsX20 ++ wsX10 ++ (vx_atS RX2 141 "java/lang/IllegalArgumentException" ["java/lang/RuntimeException", "java/lang/Exception"]).filter goodWord ++ (vx_atS RX2 136 "java/lang/IndexOutOfBoundsException" ["java/lang/RuntimeException", "java/lang/Exception"]).filter goodWord)
def wsL_top_r1 : List Cond := [Cond.classLink RL 18 "java/lang/IndexOutOfBoundsException", Cond.classLink RL 13 "java/lang/IllegalArgumentException", Cond.methodLink RL 32 yX2_top, Cond.instanceMethod yX2_top, Cond.selects RX2 yX2_top yX2_top, Cond.initialized RX2, Cond.code yX2_top cX2_top 3 (some .int), Cond.fieldLink RX2 12 "PressedPlains" "book" "LPressedPlains$Book;", Cond.methodLink RX2 55 yX2_requireSpan, Cond.instanceMethod yX2_requireSpan, Cond.selects RX2 yX2_requireSpan yX2_requireSpan, Cond.code yX2_requireSpan cX2_requireSpan 3 none, Cond.classLink RX2 137 "java/lang/IllegalArgumentException", Cond.initialized "java/lang/IllegalArgumentException", Cond.methodLink RX2 36 yX2_requireColumn, Cond.instanceMethod yX2_requireColumn, Cond.selects RX2 yX2_requireColumn yX2_requireColumn, Cond.code yX2_requireColumn cX2_requireColumn 2 none, Cond.classLink RX2 132 "java/lang/IndexOutOfBoundsException", Cond.initialized "java/lang/IndexOutOfBoundsException", Cond.fieldLink RX2 19 "PressedPlains" "ground" "LPressedPlains$Ground;", Cond.methodLink RX2 71 yX0_askGreatest, Cond.instanceMethod yX0_askGreatest, Cond.selects RX0 yX0_askGreatest yX0_askGreatest]
def wsL_top_r2 : List Cond := [Cond.initialized RX0, Cond.code yX0_askGreatest cX0_askGreatest 3 (some .int), Cond.methodLink RX0 48 yX0_beginCall, Cond.instanceMethod yX0_beginCall, Cond.selects RX0 yX0_beginCall yX0_beginCall, Cond.code yX0_beginCall cX0_beginCall 1 none, Cond.fieldLink RX0 45 "PressedPlains$Book" "calls" "I", Cond.fieldLink RX0 38 "PressedPlains$Book" "latestVisits" "I", Cond.methodLink RX0 62 yX0_greatestFrom, Cond.instanceMethod yX0_greatestFrom, Cond.selects RX0 yX0_greatestFrom yX0_greatestFrom, Cond.code yX0_greatestFrom cX0_greatestFrom 4 (some .int), Cond.fieldLink RX0 18 "PressedPlains$Book" "greatest" "[I", Cond.methodLink RX0 101 Lib.Math.max.name, Cond.static Lib.Math.max.name, Cond.initialized "java/lang/Math", Cond.code Lib.Math.max.name Lib.Math.max.code 2 (some .int), Cond.methodLink RX0 85 yX0_countVisit, Cond.instanceMethod yX0_countVisit, Cond.selects RX0 yX0_countVisit yX0_countVisit, Cond.code yX0_countVisit cX0_countVisit 1 none, Cond.fieldLink RX0 42 "PressedPlains$Book" "totalVisits" "I", Cond.methodLink RX0 69 yX0_isApart, Cond.instanceMethod yX0_isApart]
def wsL_top_r3 : List Cond := [Cond.selects RX0 yX0_isApart yX0_isApart, Cond.code yX0_isApart cX0_isApart 4 (some .boolean), Cond.fieldLink RX0 15 "PressedPlains$Book" "last" "[I", Cond.fieldLink RX0 11 "PressedPlains$Book" "first" "[I", Cond.methodLink RX0 88 yX0_isWithin, Cond.instanceMethod yX0_isWithin, Cond.selects RX0 yX0_isWithin yX0_isWithin, Cond.code yX0_isWithin cX0_isWithin 4 (some .boolean), Cond.methodLink RX0 82 yX0_hasParts, Cond.instanceMethod yX0_hasParts, Cond.selects RX0 yX0_hasParts yX0_hasParts, Cond.code yX0_hasParts cX0_hasParts 2 (some .boolean), Cond.methodLink RX0 95 yX0_catchUpBelow, Cond.instanceMethod yX0_catchUpBelow, Cond.selects RX0 yX0_catchUpBelow yX0_catchUpBelow, Cond.code yX0_catchUpBelow cX0_catchUpBelow 2 none, Cond.methodLink RX0 104 yX0_catchUp, Cond.instanceMethod yX0_catchUp, Cond.selects RX0 yX0_catchUp yX0_catchUp, Cond.code yX0_catchUp cX0_catchUp 2 none, Cond.methodLink RX0 79 yX0_lags, Cond.instanceMethod yX0_lags, Cond.selects RX0 yX0_lags yX0_lags, Cond.code yX0_lags cX0_lags 2 (some .boolean)]
def wsL_top_r4 : List Cond := [Cond.methodLink RX0 91 yX0_pressDown, Cond.instanceMethod yX0_pressDown, Cond.selects RX0 yX0_pressDown yX0_pressDown, Cond.code yX0_pressDown cX0_pressDown 3 none, Cond.fieldLink RX0 27 "PressedPlains$Book" "sum" "[I", Cond.fieldLink RX0 24 "PressedPlains$Book" "many" "[I"]
def wsL_top : List Cond := .codeWith yL_top cL_top 5 (some .int) [(0, 10, 13, 18), (0, 10, 17, 13)] :: ((wsL_top_r1 ++ (wsL_top_r2 ++ (wsL_top_r3 ++ wsL_top_r4))) ++ wsX20 ++ wsX10 ++ wsX00 ++ (vx_atS RX2 141 "java/lang/IllegalArgumentException" ["java/lang/RuntimeException", "java/lang/Exception"]).filter goodWord ++ (vx_atS RX2 136 "java/lang/IndexOutOfBoundsException" ["java/lang/RuntimeException", "java/lang/Exception"]).filter goodWord)
def wsL_height_r1 : List Cond := [Cond.classLink RL 18 "java/lang/IndexOutOfBoundsException", Cond.methodLink RL 35 yX2_height, Cond.instanceMethod yX2_height, Cond.selects RX2 yX2_height yX2_height, Cond.initialized RX2, Cond.code yX2_height cX2_height 2 (some .int), Cond.fieldLink RX2 12 "PressedPlains" "book" "LPressedPlains$Book;", Cond.methodLink RX2 36 yX2_requireColumn, Cond.instanceMethod yX2_requireColumn, Cond.selects RX2 yX2_requireColumn yX2_requireColumn, Cond.code yX2_requireColumn cX2_requireColumn 2 none, Cond.classLink RX2 132 "java/lang/IndexOutOfBoundsException", Cond.initialized "java/lang/IndexOutOfBoundsException", Cond.fieldLink RX2 19 "PressedPlains" "ground" "LPressedPlains$Ground;", Cond.methodLink RX2 74 yX0_leastGreatestOver, Cond.instanceMethod yX0_leastGreatestOver, Cond.selects RX0 yX0_leastGreatestOver yX0_leastGreatestOver, Cond.initialized RX0, Cond.code yX0_leastGreatestOver cX0_leastGreatestOver 4 (some .int), Cond.fieldLink RX0 18 "PressedPlains$Book" "greatest" "[I", Cond.methodLink RX0 73 Lib.Math.min.name, Cond.static Lib.Math.min.name, Cond.initialized "java/lang/Math", Cond.code Lib.Math.min.name Lib.Math.min.code 2 (some .int)]
def wsL_height_r2 : List Cond := [Cond.methodLink RX0 65 yX0_has, Cond.instanceMethod yX0_has, Cond.selects RX0 yX0_has yX0_has, Cond.code yX0_has cX0_has 2 (some .boolean), Cond.fieldLink RX0 15 "PressedPlains$Book" "last" "[I", Cond.methodLink RX0 69 yX0_isApart, Cond.instanceMethod yX0_isApart, Cond.selects RX0 yX0_isApart yX0_isApart, Cond.code yX0_isApart cX0_isApart 4 (some .boolean), Cond.fieldLink RX0 11 "PressedPlains$Book" "first" "[I"]
def wsL_height : List Cond := .codeWith yL_height cL_height 4 (some .int) [(0, 9, 12, 18)] :: ((wsL_height_r1 ++ wsL_height_r2) ++ wsX20 ++ wsX10 ++ wsX00 ++ (vx_atS RX2 136 "java/lang/IndexOutOfBoundsException" ["java/lang/RuntimeException", "java/lang/Exception"]).filter goodWord)
def wsL_heightOfColumn : List Cond := .codeWith yL_heightOfColumn cL_heightOfColumn 4 (some .int) [(0, 9, 12, 18)] :: ([.classLink RL 18 "java/lang/IndexOutOfBoundsException", .methodLink RL 39 yX2_heightOfColumn, .instanceMethod yX2_heightOfColumn, .selects RX2 yX2_heightOfColumn yX2_heightOfColumn, .initialized RX2, .code yX2_heightOfColumn cX2_heightOfColumn 2 (some .int), .fieldLink RX2 19 "PressedPlains" "ground" "LPressedPlains$Ground;", .methodLink RX2 36 yX2_requireColumn, .instanceMethod yX2_requireColumn, .selects RX2 yX2_requireColumn yX2_requireColumn, .code yX2_requireColumn cX2_requireColumn 2 none, .classLink RX2 132 "java/lang/IndexOutOfBoundsException", .initialized "java/lang/IndexOutOfBoundsException"] ++ wsX20 ++ wsX10 ++ (vx_atS RX2 136 "java/lang/IndexOutOfBoundsException" ["java/lang/RuntimeException", "java/lang/Exception"]).filter goodWord)
def wsL_wouldPress_r1 : List Cond := [Cond.classLink RL 18 "java/lang/IndexOutOfBoundsException", Cond.classLink RL 13 "java/lang/IllegalArgumentException", Cond.methodLink RL 42 yX2_wouldPress, Cond.instanceMethod yX2_wouldPress, Cond.selects RX2 yX2_wouldPress yX2_wouldPress, Cond.initialized RX2, Cond.code yX2_wouldPress cX2_wouldPress 4 (some .int), Cond.fieldLink RX2 19 "PressedPlains" "ground" "LPressedPlains$Ground;", Cond.methodLink RX2 55 yX2_requireSpan, Cond.instanceMethod yX2_requireSpan, Cond.selects RX2 yX2_requireSpan yX2_requireSpan, Cond.code yX2_requireSpan cX2_requireSpan 3 none, Cond.classLink RX2 137 "java/lang/IllegalArgumentException", Cond.initialized "java/lang/IllegalArgumentException", Cond.methodLink RX2 36 yX2_requireColumn, Cond.instanceMethod yX2_requireColumn, Cond.selects RX2 yX2_requireColumn yX2_requireColumn, Cond.code yX2_requireColumn cX2_requireColumn 2 none, Cond.classLink RX2 132 "java/lang/IndexOutOfBoundsException", Cond.initialized "java/lang/IndexOutOfBoundsException", Cond.methodLink RX2 32 yX2_requireInRange, Cond.static yX2_requireInRange, Cond.code yX2_requireInRange cX2_requireInRange 3 none, Cond.methodLink RX2 68 yX1_earthAbove]
def wsL_wouldPress_r2 : List Cond := [Cond.instanceMethod yX1_earthAbove, Cond.selects RX1 yX1_earthAbove yX1_earthAbove, Cond.initialized RX1, Cond.code yX1_earthAbove cX1_earthAbove 6 (some .int), Cond.fieldLink RX1 9 "PressedPlains$Ground" "heights" "[I", Cond.methodLink RX1 31 Lib.Math.max.name, Cond.static Lib.Math.max.name, Cond.initialized "java/lang/Math", Cond.code Lib.Math.max.name Lib.Math.max.code 2 (some .int)]
def wsL_wouldPress : List Cond := .codeWith yL_wouldPress cL_wouldPress 6 (some .int) [(0, 12, 15, 18), (0, 12, 19, 13)] :: ((wsL_wouldPress_r1 ++ wsL_wouldPress_r2) ++ wsX20 ++ wsX10 ++ (vx_atS RX2 141 "java/lang/IllegalArgumentException" ["java/lang/RuntimeException", "java/lang/Exception"]).filter goodWord ++ (vx_atS RX2 136 "java/lang/IndexOutOfBoundsException" ["java/lang/RuntimeException", "java/lang/Exception"]).filter goodWord)
def wsL_ceilingFor_r1 : List Cond := [Cond.classLink RL 18 "java/lang/IndexOutOfBoundsException", Cond.classLink RL 13 "java/lang/IllegalArgumentException", Cond.classLink RL 48 "java/util/NoSuchElementException", Cond.methodLink RL 45 yX2_ceilingFor, Cond.instanceMethod yX2_ceilingFor, Cond.selects RX2 yX2_ceilingFor yX2_ceilingFor, Cond.initialized RX2, Cond.code yX2_ceilingFor cX2_ceilingFor 5 (some .int), Cond.classLink RX2 82 "java/util/NoSuchElementException", Cond.initialized "java/util/NoSuchElementException", Cond.constant RX2 78 (64000), Cond.fieldLink RX2 19 "PressedPlains" "ground" "LPressedPlains$Ground;", Cond.methodLink RX2 55 yX2_requireSpan, Cond.instanceMethod yX2_requireSpan, Cond.selects RX2 yX2_requireSpan yX2_requireSpan, Cond.code yX2_requireSpan cX2_requireSpan 3 none, Cond.classLink RX2 137 "java/lang/IllegalArgumentException", Cond.initialized "java/lang/IllegalArgumentException", Cond.methodLink RX2 36 yX2_requireColumn, Cond.instanceMethod yX2_requireColumn, Cond.selects RX2 yX2_requireColumn yX2_requireColumn, Cond.code yX2_requireColumn cX2_requireColumn 2 none, Cond.classLink RX2 132 "java/lang/IndexOutOfBoundsException", Cond.initialized "java/lang/IndexOutOfBoundsException"]
def wsL_ceilingFor_r2 : List Cond := [Cond.methodLink RX2 32 yX2_requireInRange, Cond.static yX2_requireInRange, Cond.code yX2_requireInRange cX2_requireInRange 3 none, Cond.methodLink RX2 79 yX1_highestCeilingFor, Cond.instanceMethod yX1_highestCeilingFor, Cond.selects RX1 yX1_highestCeilingFor yX1_highestCeilingFor, Cond.initialized RX1, Cond.code yX1_highestCeilingFor cX1_highestCeilingFor 6 (some .int), Cond.methodLink RX1 34 yX1_earthAbove, Cond.instanceMethod yX1_earthAbove, Cond.selects RX1 yX1_earthAbove yX1_earthAbove, Cond.code yX1_earthAbove cX1_earthAbove 6 (some .int), Cond.fieldLink RX1 9 "PressedPlains$Ground" "heights" "[I", Cond.methodLink RX1 31 Lib.Math.max.name, Cond.static Lib.Math.max.name, Cond.initialized "java/lang/Math", Cond.code Lib.Math.max.name Lib.Math.max.code 2 (some .int)]
def wsL_ceilingFor : List Cond := .codeWith yL_ceilingFor cL_ceilingFor 6 (some .int) [(0, 12, 15, 18), (0, 12, 19, 13), (0, 12, 23, 48)] :: ((wsL_ceilingFor_r1 ++ wsL_ceilingFor_r2) ++ wsX20 ++ wsX10 ++ nsAt.filter goodWord ++ (vx_atS RX2 141 "java/lang/IllegalArgumentException" ["java/lang/RuntimeException", "java/lang/Exception"]).filter goodWord ++ (vx_atS RX2 136 "java/lang/IndexOutOfBoundsException" ["java/lang/RuntimeException", "java/lang/Exception"]).filter goodWord)
def wsL_ceilingOver : List Cond := .codeWith yL_ceilingOver cL_ceilingOver 4 (some .int) [(0, 9, 12, 18), (0, 9, 15, 48)] :: ([.classLink RL 18 "java/lang/IndexOutOfBoundsException", .classLink RL 48 "java/util/NoSuchElementException", .methodLink RL 50 yX2_ceilingOver, .instanceMethod yX2_ceilingOver, .selects RX2 yX2_ceilingOver yX2_ceilingOver, .initialized RX2, .code yX2_ceilingOver cX2_ceilingOver 3 (some .int), .classLink RX2 82 "java/util/NoSuchElementException", .initialized "java/util/NoSuchElementException", .fieldLink RX2 19 "PressedPlains" "ground" "LPressedPlains$Ground;", .methodLink RX2 36 yX2_requireColumn, .instanceMethod yX2_requireColumn, .selects RX2 yX2_requireColumn yX2_requireColumn, .code yX2_requireColumn cX2_requireColumn 2 none, .classLink RX2 132 "java/lang/IndexOutOfBoundsException", .initialized "java/lang/IndexOutOfBoundsException"] ++ wsX20 ++ wsX10 ++ nsAt.filter goodWord ++ (vx_atS RX2 136 "java/lang/IndexOutOfBoundsException" ["java/lang/RuntimeException", "java/lang/Exception"]).filter goodWord)
def wsL_spanOf : List Cond := .codeWith yL_spanOf cL_spanOf 4 (some .int) [(0, 9, 12, 18)] :: ([.classLink RL 18 "java/lang/IndexOutOfBoundsException", .methodLink RL 53 yX2_spanOf, .instanceMethod yX2_spanOf, .selects RX2 yX2_spanOf yX2_spanOf, .initialized RX2, .code yX2_spanOf cX2_spanOf 2 (some .int), .fieldLink RX2 12 "PressedPlains" "book" "LPressedPlains$Book;", .methodLink RX2 95 yX2_requireEntry, .instanceMethod yX2_requireEntry, .selects RX2 yX2_requireEntry yX2_requireEntry, .code yX2_requireEntry cX2_requireEntry 2 none, .classLink RX2 132 "java/lang/IndexOutOfBoundsException", .initialized "java/lang/IndexOutOfBoundsException", .methodLink RX2 142 yX0_has, .instanceMethod yX0_has, .selects RX0 yX0_has yX0_has, .initialized RX0, .code yX0_has cX0_has 2 (some .boolean), .fieldLink RX0 15 "PressedPlains$Book" "last" "[I"] ++ wsX20 ++ wsX00 ++ (vx_atS RX2 136 "java/lang/IndexOutOfBoundsException" ["java/lang/RuntimeException", "java/lang/Exception"]).filter goodWord)
def wsL_greatest : List Cond := .codeWith yL_greatest cL_greatest 4 (some .int) [(0, 9, 12, 18)] :: ([.classLink RL 18 "java/lang/IndexOutOfBoundsException", .methodLink RL 56 yX2_greatest, .instanceMethod yX2_greatest, .selects RX2 yX2_greatest yX2_greatest, .initialized RX2, .code yX2_greatest cX2_greatest 2 (some .int), .fieldLink RX2 12 "PressedPlains" "book" "LPressedPlains$Book;", .methodLink RX2 95 yX2_requireEntry, .instanceMethod yX2_requireEntry, .selects RX2 yX2_requireEntry yX2_requireEntry, .code yX2_requireEntry cX2_requireEntry 2 none, .classLink RX2 132 "java/lang/IndexOutOfBoundsException", .initialized "java/lang/IndexOutOfBoundsException", .methodLink RX2 142 yX0_has, .instanceMethod yX0_has, .selects RX0 yX0_has yX0_has, .initialized RX0, .code yX0_has cX0_has 2 (some .boolean), .fieldLink RX0 15 "PressedPlains$Book" "last" "[I"] ++ wsX20 ++ wsX00 ++ (vx_atS RX2 136 "java/lang/IndexOutOfBoundsException" ["java/lang/RuntimeException", "java/lang/Exception"]).filter goodWord)
def wsL_second : List Cond := .codeWith yL_second cL_second 4 (some .int) [(0, 9, 12, 18)] :: ([.classLink RL 18 "java/lang/IndexOutOfBoundsException", .methodLink RL 59 yX2_second, .instanceMethod yX2_second, .selects RX2 yX2_second yX2_second, .initialized RX2, .code yX2_second cX2_second 2 (some .int), .fieldLink RX2 12 "PressedPlains" "book" "LPressedPlains$Book;", .methodLink RX2 95 yX2_requireEntry, .instanceMethod yX2_requireEntry, .selects RX2 yX2_requireEntry yX2_requireEntry, .code yX2_requireEntry cX2_requireEntry 2 none, .classLink RX2 132 "java/lang/IndexOutOfBoundsException", .initialized "java/lang/IndexOutOfBoundsException", .methodLink RX2 142 yX0_has, .instanceMethod yX0_has, .selects RX0 yX0_has yX0_has, .initialized RX0, .code yX0_has cX0_has 2 (some .boolean), .fieldLink RX0 15 "PressedPlains$Book" "last" "[I"] ++ wsX20 ++ wsX00 ++ (vx_atS RX2 136 "java/lang/IndexOutOfBoundsException" ["java/lang/RuntimeException", "java/lang/Exception"]).filter goodWord)
def wsL_many : List Cond := .codeWith yL_many cL_many 4 (some .int) [(0, 9, 12, 18)] :: ([.classLink RL 18 "java/lang/IndexOutOfBoundsException", .methodLink RL 62 yX2_many, .instanceMethod yX2_many, .selects RX2 yX2_many yX2_many, .initialized RX2, .code yX2_many cX2_many 2 (some .int), .fieldLink RX2 12 "PressedPlains" "book" "LPressedPlains$Book;", .methodLink RX2 95 yX2_requireEntry, .instanceMethod yX2_requireEntry, .selects RX2 yX2_requireEntry yX2_requireEntry, .code yX2_requireEntry cX2_requireEntry 2 none, .classLink RX2 132 "java/lang/IndexOutOfBoundsException", .initialized "java/lang/IndexOutOfBoundsException", .methodLink RX2 142 yX0_has, .instanceMethod yX0_has, .selects RX0 yX0_has yX0_has, .initialized RX0, .code yX0_has cX0_has 2 (some .boolean), .fieldLink RX0 15 "PressedPlains$Book" "last" "[I"] ++ wsX20 ++ wsX00 ++ (vx_atS RX2 136 "java/lang/IndexOutOfBoundsException" ["java/lang/RuntimeException", "java/lang/Exception"]).filter goodWord)
def wsL_noted : List Cond := .codeWith yL_noted cL_noted 4 (some .int) [(0, 9, 12, 18)] :: ([.classLink RL 18 "java/lang/IndexOutOfBoundsException", .methodLink RL 65 yX2_noted, .instanceMethod yX2_noted, .selects RX2 yX2_noted yX2_noted, .initialized RX2, .code yX2_noted cX2_noted 2 (some .int), .fieldLink RX2 12 "PressedPlains" "book" "LPressedPlains$Book;", .methodLink RX2 95 yX2_requireEntry, .instanceMethod yX2_requireEntry, .selects RX2 yX2_requireEntry yX2_requireEntry, .code yX2_requireEntry cX2_requireEntry 2 none, .classLink RX2 132 "java/lang/IndexOutOfBoundsException", .initialized "java/lang/IndexOutOfBoundsException", .methodLink RX2 142 yX0_has, .instanceMethod yX0_has, .selects RX0 yX0_has yX0_has, .initialized RX0, .code yX0_has cX0_has 2 (some .boolean), .fieldLink RX0 15 "PressedPlains$Book" "last" "[I"] ++ wsX20 ++ wsX00 ++ (vx_atS RX2 136 "java/lang/IndexOutOfBoundsException" ["java/lang/RuntimeException", "java/lang/Exception"]).filter goodWord)
def wsL_law0_r1 : List Cond := [Cond.classLink RL 8 RX2, Cond.instantiable RX2 3, Cond.initialized RX2, Cond.classLink RL 69 RX3, Cond.instantiable RX3 18, Cond.initialized RX3, Cond.arrayClass .long, Cond.methodLink RL 68 yX2_init, Cond.instanceMethod yX2_init, Cond.code yX2_init cX2_init 1 none, Cond.methodLink RX2 3 objectInit, Cond.instanceMethod objectInit, Cond.code objectInit ⟨#[0xb1]⟩ 1 none, Cond.classLink RX2 9 RX0, Cond.instantiable RX0 9, Cond.initialized RX0, Cond.fieldLink RX2 12 "PressedPlains" "book" "LPressedPlains$Book;", Cond.classLink RX2 16 RX1, Cond.instantiable RX1 4, Cond.initialized RX1, Cond.fieldLink RX2 19 "PressedPlains" "ground" "LPressedPlains$Ground;", Cond.fieldLink RX2 28 "PressedPlains" "pressedSoFar" "I", Cond.instanceMethod yX0_init, Cond.code yX0_init cX0_init 1 none]
def wsL_law0_r2 : List Cond := [Cond.methodLink RX0 3 objectInit, Cond.arrayClass .int, Cond.fieldLink RX0 11 "PressedPlains$Book" "first" "[I", Cond.fieldLink RX0 15 "PressedPlains$Book" "last" "[I", Cond.fieldLink RX0 18 "PressedPlains$Book" "greatest" "[I", Cond.fieldLink RX0 21 "PressedPlains$Book" "second" "[I", Cond.fieldLink RX0 24 "PressedPlains$Book" "many" "[I", Cond.fieldLink RX0 27 "PressedPlains$Book" "sum" "[I", Cond.instanceMethod yX1_init, Cond.code yX1_init cX1_init 1 none, Cond.methodLink RX1 3 objectInit, Cond.fieldLink RX1 9 "PressedPlains$Ground" "heights" "[I", Cond.fieldLink RX1 15 "PressedPlains$Ground" "ceilings" "[I", Cond.methodLink RX2 23 yX0_renew, Cond.instanceMethod yX0_renew, Cond.selects RX0 yX0_renew yX0_renew, Cond.code yX0_renew cX0_renew 5 none, Cond.fieldLink RX0 38 "PressedPlains$Book" "latestVisits" "I", Cond.fieldLink RX0 42 "PressedPlains$Book" "totalVisits" "I", Cond.fieldLink RX0 45 "PressedPlains$Book" "calls" "I", Cond.methodLink RX0 30 yX0_setSpan, Cond.instanceMethod yX0_setSpan, Cond.selects RX0 yX0_setSpan yX0_setSpan, Cond.code yX0_setSpan cX0_setSpan 4 none]
def wsL_law0_r3 : List Cond := [Cond.methodLink RX0 34 yX0_splitSpan, Cond.instanceMethod yX0_splitSpan, Cond.selects RX0 yX0_splitSpan yX0_splitSpan, Cond.code yX0_splitSpan cX0_splitSpan 3 none, Cond.methodLink RX0 82 yX0_hasParts, Cond.instanceMethod yX0_hasParts, Cond.selects RX0 yX0_hasParts yX0_hasParts, Cond.code yX0_hasParts cX0_hasParts 2 (some .boolean), Cond.methodLink RX2 27 yX1_renew, Cond.instanceMethod yX1_renew, Cond.selects RX1 yX1_renew yX1_renew, Cond.code yX1_renew cX1_renew 4 none, Cond.fieldLink RX1 18 "PressedPlains$Ground" "count" "I", Cond.fieldLink RX1 22 "PressedPlains$Ground" "given" "I", Cond.methodLink RL 71 yX3_init, Cond.instanceMethod yX3_init, Cond.code yX3_init cX3_init 1 none, Cond.methodLink RX3 1 objectInit, Cond.fieldLink RX3 7 "PressedPlainsModel" "height" "[I", Cond.fieldLink RX3 13 "PressedPlainsModel" "ceiling" "[I", Cond.fieldLink RX3 16 "PressedPlainsModel" "first" "[I", Cond.fieldLink RX3 19 "PressedPlainsModel" "last" "[I", Cond.fieldLink RX3 22 "PressedPlainsModel" "greatest" "[I", Cond.fieldLink RX3 25 "PressedPlainsModel" "second" "[I"]
def wsL_law0_r4 : List Cond := [Cond.fieldLink RX3 28 "PressedPlainsModel" "many" "[I", Cond.fieldLink RX3 31 "PressedPlainsModel" "sum" "[I", Cond.fieldLink RX3 34 "PressedPlainsModel" "todo" "[I", Cond.methodLink RX3 37 yX3_lays, Cond.instanceMethod yX3_lays, Cond.selects RX3 yX3_lays yX3_lays, Cond.code yX3_lays cX3_lays 6 none, Cond.fieldLink RX3 45 "PressedPlainsModel" "columns" "I", Cond.fieldLink RX3 52 "PressedPlainsModel" "visits" "I", Cond.fieldLink RX3 55 "PressedPlainsModel" "allVisits" "I", Cond.fieldLink RX3 58 "PressedPlainsModel" "calls" "I", Cond.fieldLink RX3 61 "PressedPlainsModel" "laid" "I", Cond.fieldLink RX3 64 "PressedPlainsModel" "piled" "I", Cond.fieldLink RX3 67 "PressedPlainsModel" "pressed" "I", Cond.methodLink RL 72 yL_layOut, Cond.static yL_layOut, Cond.initialized RL, Cond.codeWith yL_layOut cL_layOut 5 (some .int) [(0, 10, 13, 13)], Cond.classLink RL 13 "java/lang/IllegalArgumentException", Cond.methodLink RL 7 yX2_layOut, Cond.instanceMethod yX2_layOut, Cond.selects RX2 yX2_layOut yX2_layOut, Cond.code yX2_layOut cX2_layOut 3 (some .int), Cond.methodLink RX2 32 yX2_requireInRange]
def wsL_law0_r5 : List Cond := [Cond.static yX2_requireInRange, Cond.code yX2_requireInRange cX2_requireInRange 3 none, Cond.classLink RX2 137 "java/lang/IllegalArgumentException", Cond.initialized "java/lang/IllegalArgumentException", Cond.methodLink RL 77 yX3_layOut, Cond.instanceMethod yX3_layOut, Cond.selects RX3 yX3_layOut yX3_layOut, Cond.code yX3_layOut cX3_layOut 3 (some .int), Cond.methodLink RX3 48 yX3_in, Cond.static yX3_in, Cond.code yX3_in cX3_in 3 (some .boolean), Cond.methodLink RX3 70 yX3_isFine, Cond.instanceMethod yX3_isFine, Cond.selects RX3 yX3_isFine yX3_isFine, Cond.code yX3_isFine cX3_isFine 2 (some .boolean), Cond.fieldLink RX3 41 "PressedPlainsModel" "thrown" "I", Cond.methodLink RL 78 yX3_thrown, Cond.instanceMethod yX3_thrown, Cond.selects RX3 yX3_thrown yX3_thrown, Cond.code yX3_thrown cX3_thrown 1 (some .int), Cond.methodLink RL 82 yL_pile, Cond.static yL_pile, Cond.codeWith yL_pile cL_pile 5 (some .int) [(0, 10, 13, 18), (0, 10, 17, 13), (0, 10, 21, 20)], Cond.classLink RL 18 "java/lang/IndexOutOfBoundsException"]
def wsL_law0_r6 : List Cond := [Cond.classLink RL 20 "java/lang/IllegalStateException", Cond.methodLink RL 15 yX2_pile, Cond.instanceMethod yX2_pile, Cond.selects RX2 yX2_pile yX2_pile, Cond.code yX2_pile cX2_pile 4 (some .int), Cond.classLink RX2 44 "java/lang/IllegalStateException", Cond.initialized "java/lang/IllegalStateException", Cond.methodLink RX2 36 yX2_requireColumn, Cond.instanceMethod yX2_requireColumn, Cond.selects RX2 yX2_requireColumn yX2_requireColumn, Cond.code yX2_requireColumn cX2_requireColumn 2 none, Cond.classLink RX2 132 "java/lang/IndexOutOfBoundsException", Cond.initialized "java/lang/IndexOutOfBoundsException", Cond.methodLink RX2 51 yX1_raise, Cond.instanceMethod yX1_raise, Cond.selects RX1 yX1_raise yX1_raise, Cond.code yX1_raise cX1_raise 3 none, Cond.methodLink RX2 54 yX0_raise, Cond.instanceMethod yX0_raise, Cond.selects RX0 yX0_raise yX0_raise, Cond.code yX0_raise cX0_raise 3 none, Cond.methodLink RX0 48 yX0_beginCall, Cond.instanceMethod yX0_beginCall, Cond.selects RX0 yX0_beginCall yX0_beginCall]
def wsL_law0_r7 : List Cond := [Cond.code yX0_beginCall cX0_beginCall 1 none, Cond.methodLink RX0 55 yX0_raiseFrom, Cond.instanceMethod yX0_raiseFrom, Cond.selects RX0 yX0_raiseFrom yX0_raiseFrom, Cond.code yX0_raiseFrom cX0_raiseFrom 5 none, Cond.methodLink RX0 85 yX0_countVisit, Cond.instanceMethod yX0_countVisit, Cond.selects RX0 yX0_countVisit yX0_countVisit, Cond.code yX0_countVisit cX0_countVisit 1 none, Cond.methodLink RX0 95 yX0_catchUpBelow, Cond.instanceMethod yX0_catchUpBelow, Cond.selects RX0 yX0_catchUpBelow yX0_catchUpBelow, Cond.code yX0_catchUpBelow cX0_catchUpBelow 2 none, Cond.methodLink RX0 104 yX0_catchUp, Cond.instanceMethod yX0_catchUp, Cond.selects RX0 yX0_catchUp yX0_catchUp, Cond.code yX0_catchUp cX0_catchUp 2 none, Cond.methodLink RX0 79 yX0_lags, Cond.instanceMethod yX0_lags, Cond.selects RX0 yX0_lags yX0_lags, Cond.code yX0_lags cX0_lags 2 (some .boolean), Cond.methodLink RX0 91 yX0_pressDown, Cond.instanceMethod yX0_pressDown, Cond.selects RX0 yX0_pressDown yX0_pressDown]
def wsL_law0_r8 : List Cond := [Cond.code yX0_pressDown cX0_pressDown 3 none, Cond.methodLink RX0 98 yX0_tellAnew, Cond.instanceMethod yX0_tellAnew, Cond.selects RX0 yX0_tellAnew yX0_tellAnew, Cond.code yX0_tellAnew cX0_tellAnew 5 none, Cond.methodLink RX0 101 Lib.Math.max.name, Cond.static Lib.Math.max.name, Cond.initialized "java/lang/Math", Cond.code Lib.Math.max.name Lib.Math.max.code 2 (some .int), Cond.methodLink RX0 107 yX0_manyAt, Cond.instanceMethod yX0_manyAt, Cond.selects RX0 yX0_manyAt yX0_manyAt, Cond.code yX0_manyAt cX0_manyAt 3 (some .int), Cond.methodLink RX0 110 yX0_greatestLessThan, Cond.instanceMethod yX0_greatestLessThan, Cond.selects RX0 yX0_greatestLessThan yX0_greatestLessThan, Cond.code yX0_greatestLessThan cX0_greatestLessThan 3 (some .int), Cond.methodLink RL 84 yX3_pile, Cond.instanceMethod yX3_pile, Cond.selects RX3 yX3_pile yX3_pile, Cond.code yX3_pile cX3_pile 4 (some .int), Cond.methodLink RX3 84 yX3_isColumn, Cond.instanceMethod yX3_isColumn, Cond.selects RX3 yX3_isColumn yX3_isColumn]
def wsL_law0_r9 : List Cond := [Cond.code yX3_isColumn cX3_isColumn 2 (some .boolean), Cond.methodLink RX3 87 yX3_begins, Cond.instanceMethod yX3_begins, Cond.selects RX3 yX3_begins yX3_begins, Cond.code yX3_begins cX3_begins 1 none, Cond.fieldLink RX3 77 "PressedPlainsModel" "left" "I", Cond.methodLink RX3 90 yX3_visited, Cond.instanceMethod yX3_visited, Cond.selects RX3 yX3_visited yX3_visited, Cond.code yX3_visited cX3_visited 1 none, Cond.methodLink RX3 80 yX3_catchUp, Cond.instanceMethod yX3_catchUp, Cond.selects RX3 yX3_catchUp yX3_catchUp, Cond.code yX3_catchUp cX3_catchUp 3 none, Cond.methodLink RX3 74 yX3_press, Cond.instanceMethod yX3_press, Cond.selects RX3 yX3_press yX3_press, Cond.code yX3_press cX3_press 3 none, Cond.methodLink RX3 93 yX3_tell, Cond.instanceMethod yX3_tell, Cond.selects RX3 yX3_tell yX3_tell, Cond.code yX3_tell cX3_tell 6 none, Cond.methodLink RL 85 yL_lower, Cond.static yL_lower]
def wsL_law0_r10 : List Cond := [Cond.codeWith yL_lower cL_lower 6 (some .int) [(0, 12, 15, 18), (0, 12, 19, 13)], Cond.methodLink RL 22 yX2_lower, Cond.instanceMethod yX2_lower, Cond.selects RX2 yX2_lower yX2_lower, Cond.code yX2_lower cX2_lower 5 (some .int), Cond.methodLink RX2 55 yX2_requireSpan, Cond.instanceMethod yX2_requireSpan, Cond.selects RX2 yX2_requireSpan yX2_requireSpan, Cond.code yX2_requireSpan cX2_requireSpan 3 none, Cond.methodLink RX2 58 yX0_press, Cond.instanceMethod yX0_press, Cond.selects RX0 yX0_press yX0_press, Cond.code yX0_press cX0_press 5 (some .int), Cond.methodLink RX0 51 yX0_pressFrom, Cond.instanceMethod yX0_pressFrom, Cond.selects RX0 yX0_pressFrom yX0_pressFrom, Cond.code yX0_pressFrom cX0_pressFrom 6 none, Cond.methodLink RX0 69 yX0_isApart, Cond.instanceMethod yX0_isApart, Cond.selects RX0 yX0_isApart yX0_isApart, Cond.code yX0_isApart cX0_isApart 4 (some .boolean), Cond.methodLink RX0 88 yX0_isWithin, Cond.instanceMethod yX0_isWithin, Cond.selects RX0 yX0_isWithin yX0_isWithin]
def wsL_law0_r11 : List Cond := [Cond.code yX0_isWithin cX0_isWithin 4 (some .boolean), Cond.methodLink RX2 62 yX1_press, Cond.instanceMethod yX1_press, Cond.selects RX1 yX1_press yX1_press, Cond.code yX1_press cX1_press 5 none, Cond.methodLink RX1 25 Lib.Math.min.name, Cond.static Lib.Math.min.name, Cond.code Lib.Math.min.name Lib.Math.min.code 2 (some .int), Cond.methodLink RL 88 yX3_lower, Cond.instanceMethod yX3_lower, Cond.selects RX3 yX3_lower yX3_lower, Cond.code yX3_lower cX3_lower 7 (some .int), Cond.methodLink RX3 96 yX3_isRange, Cond.instanceMethod yX3_isRange, Cond.selects RX3 yX3_isRange yX3_isRange, Cond.code yX3_isRange cX3_isRange 3 (some .boolean), Cond.methodLink RX3 100 yX3_goesBelow, Cond.instanceMethod yX3_goesBelow, Cond.selects RX3 yX3_goesBelow yX3_goesBelow, Cond.code yX3_goesBelow cX3_goesBelow 3 none, Cond.methodLink RX3 104 yX3_presses, Cond.instanceMethod yX3_presses, Cond.selects RX3 yX3_presses yX3_presses, Cond.code yX3_presses cX3_presses 6 (some .int)]
def wsL_law0_r12 : List Cond := [Cond.methodLink RL 89 yL_earth, Cond.static yL_earth, Cond.codeWith yL_earth cL_earth 5 (some .int) [(0, 10, 13, 18), (0, 10, 17, 13)], Cond.methodLink RL 26 yX2_earth, Cond.instanceMethod yX2_earth, Cond.selects RX2 yX2_earth yX2_earth, Cond.code yX2_earth cX2_earth 3 (some .int), Cond.methodLink RX2 64 yX0_askSum, Cond.instanceMethod yX0_askSum, Cond.selects RX0 yX0_askSum yX0_askSum, Cond.code yX0_askSum cX0_askSum 3 (some .int), Cond.methodLink RX0 58 yX0_sumFrom, Cond.instanceMethod yX0_sumFrom, Cond.selects RX0 yX0_sumFrom yX0_sumFrom, Cond.code yX0_sumFrom cX0_sumFrom 4 (some .int), Cond.methodLink RL 91 yX3_earth, Cond.instanceMethod yX3_earth, Cond.selects RX3 yX3_earth yX3_earth, Cond.code yX3_earth cX3_earth 3 (some .int), Cond.methodLink RX3 108 yX3_asks, Cond.instanceMethod yX3_asks, Cond.selects RX3 yX3_asks yX3_asks, Cond.code yX3_asks cX3_asks 7 (some .int), Cond.methodLink RL 92 yL_earthByColumns]
def wsL_law0_r13 : List Cond := [Cond.static yL_earthByColumns, Cond.codeWith yL_earthByColumns cL_earthByColumns 5 (some .int) [(0, 10, 13, 18), (0, 10, 17, 13)], Cond.methodLink RL 29 yX2_earthByColumns, Cond.instanceMethod yX2_earthByColumns, Cond.selects RX2 yX2_earthByColumns yX2_earthByColumns, Cond.code yX2_earthByColumns cX2_earthByColumns 3 (some .int), Cond.methodLink RX2 68 yX1_earthAbove, Cond.instanceMethod yX1_earthAbove, Cond.selects RX1 yX1_earthAbove yX1_earthAbove, Cond.code yX1_earthAbove cX1_earthAbove 6 (some .int), Cond.methodLink RX1 31 Lib.Math.max.name, Cond.methodLink RL 94 yX3_earthByColumns, Cond.instanceMethod yX3_earthByColumns, Cond.selects RX3 yX3_earthByColumns yX3_earthByColumns, Cond.code yX3_earthByColumns cX3_earthByColumns 3 (some .int), Cond.methodLink RL 95 yL_top, Cond.static yL_top, Cond.codeWith yL_top cL_top 5 (some .int) [(0, 10, 13, 18), (0, 10, 17, 13)], Cond.methodLink RL 32 yX2_top, Cond.instanceMethod yX2_top, Cond.selects RX2 yX2_top yX2_top, Cond.code yX2_top cX2_top 3 (some .int), Cond.methodLink RX2 71 yX0_askGreatest, Cond.instanceMethod yX0_askGreatest]
def wsL_law0_r14 : List Cond := [Cond.selects RX0 yX0_askGreatest yX0_askGreatest, Cond.code yX0_askGreatest cX0_askGreatest 3 (some .int), Cond.methodLink RX0 62 yX0_greatestFrom, Cond.instanceMethod yX0_greatestFrom, Cond.selects RX0 yX0_greatestFrom yX0_greatestFrom, Cond.code yX0_greatestFrom cX0_greatestFrom 4 (some .int), Cond.methodLink RL 97 yX3_top, Cond.instanceMethod yX3_top, Cond.selects RX3 yX3_top yX3_top, Cond.code yX3_top cX3_top 3 (some .int), Cond.methodLink RL 98 yL_height, Cond.static yL_height, Cond.codeWith yL_height cL_height 4 (some .int) [(0, 9, 12, 18)], Cond.methodLink RL 35 yX2_height, Cond.instanceMethod yX2_height, Cond.selects RX2 yX2_height yX2_height, Cond.code yX2_height cX2_height 2 (some .int), Cond.methodLink RX2 74 yX0_leastGreatestOver, Cond.instanceMethod yX0_leastGreatestOver, Cond.selects RX0 yX0_leastGreatestOver yX0_leastGreatestOver, Cond.code yX0_leastGreatestOver cX0_leastGreatestOver 4 (some .int), Cond.methodLink RX0 73 Lib.Math.min.name, Cond.methodLink RX0 65 yX0_has, Cond.instanceMethod yX0_has]
def wsL_law0_r15 : List Cond := [Cond.selects RX0 yX0_has yX0_has, Cond.code yX0_has cX0_has 2 (some .boolean), Cond.methodLink RL 101 yX3_height, Cond.instanceMethod yX3_height, Cond.selects RX3 yX3_height yX3_height, Cond.code yX3_height cX3_height 2 (some .int), Cond.methodLink RL 102 yL_heightOfColumn, Cond.static yL_heightOfColumn, Cond.codeWith yL_heightOfColumn cL_heightOfColumn 4 (some .int) [(0, 9, 12, 18)], Cond.methodLink RL 39 yX2_heightOfColumn, Cond.instanceMethod yX2_heightOfColumn, Cond.selects RX2 yX2_heightOfColumn yX2_heightOfColumn, Cond.code yX2_heightOfColumn cX2_heightOfColumn 2 (some .int), Cond.methodLink RL 104 yX3_heightOfColumn, Cond.instanceMethod yX3_heightOfColumn, Cond.selects RX3 yX3_heightOfColumn yX3_heightOfColumn, Cond.code yX3_heightOfColumn cX3_heightOfColumn 2 (some .int), Cond.methodLink RL 105 yL_wouldPress, Cond.static yL_wouldPress, Cond.codeWith yL_wouldPress cL_wouldPress 6 (some .int) [(0, 12, 15, 18), (0, 12, 19, 13)], Cond.methodLink RL 42 yX2_wouldPress, Cond.instanceMethod yX2_wouldPress, Cond.selects RX2 yX2_wouldPress yX2_wouldPress, Cond.code yX2_wouldPress cX2_wouldPress 4 (some .int)]
def wsL_law0_r16 : List Cond := [Cond.methodLink RL 107 yX3_wouldPress, Cond.instanceMethod yX3_wouldPress, Cond.selects RX3 yX3_wouldPress yX3_wouldPress, Cond.code yX3_wouldPress cX3_wouldPress 4 (some .int), Cond.methodLink RL 108 yL_ceilingFor, Cond.static yL_ceilingFor, Cond.codeWith yL_ceilingFor cL_ceilingFor 6 (some .int) [(0, 12, 15, 18), (0, 12, 19, 13), (0, 12, 23, 48)], Cond.classLink RL 48 "java/util/NoSuchElementException", Cond.methodLink RL 45 yX2_ceilingFor, Cond.instanceMethod yX2_ceilingFor, Cond.selects RX2 yX2_ceilingFor yX2_ceilingFor, Cond.code yX2_ceilingFor cX2_ceilingFor 5 (some .int), Cond.classLink RX2 82 "java/util/NoSuchElementException", Cond.initialized "java/util/NoSuchElementException", Cond.constant RX2 78 (64000), Cond.methodLink RX2 79 yX1_highestCeilingFor, Cond.instanceMethod yX1_highestCeilingFor, Cond.selects RX1 yX1_highestCeilingFor yX1_highestCeilingFor, Cond.code yX1_highestCeilingFor cX1_highestCeilingFor 6 (some .int), Cond.methodLink RX1 34 yX1_earthAbove, Cond.methodLink RL 110 yX3_ceilingFor, Cond.instanceMethod yX3_ceilingFor, Cond.selects RX3 yX3_ceilingFor yX3_ceilingFor, Cond.code yX3_ceilingFor cX3_ceilingFor 5 (some .int)]
def wsL_law0_r17 : List Cond := [Cond.constant RX3 112 (64000), Cond.methodLink RL 111 yL_ceilingOver, Cond.static yL_ceilingOver, Cond.codeWith yL_ceilingOver cL_ceilingOver 4 (some .int) [(0, 9, 12, 18), (0, 9, 15, 48)], Cond.methodLink RL 50 yX2_ceilingOver, Cond.instanceMethod yX2_ceilingOver, Cond.selects RX2 yX2_ceilingOver yX2_ceilingOver, Cond.code yX2_ceilingOver cX2_ceilingOver 3 (some .int), Cond.methodLink RL 113 yX3_ceilingOver, Cond.instanceMethod yX3_ceilingOver, Cond.selects RX3 yX3_ceilingOver yX3_ceilingOver, Cond.code yX3_ceilingOver cX3_ceilingOver 2 (some .int), Cond.methodLink RL 114 yX2_columns, Cond.instanceMethod yX2_columns, Cond.selects RX2 yX2_columns yX2_columns, Cond.code yX2_columns cX2_columns 1 (some .int), Cond.methodLink RL 117 yX3_columns, Cond.instanceMethod yX3_columns, Cond.selects RX3 yX3_columns yX3_columns, Cond.code yX3_columns cX3_columns 1 (some .int), Cond.methodLink RL 118 yL_spanOf, Cond.static yL_spanOf, Cond.codeWith yL_spanOf cL_spanOf 4 (some .int) [(0, 9, 12, 18)], Cond.methodLink RL 53 yX2_spanOf]
def wsL_law0_r18 : List Cond := [Cond.instanceMethod yX2_spanOf, Cond.selects RX2 yX2_spanOf yX2_spanOf, Cond.code yX2_spanOf cX2_spanOf 2 (some .int), Cond.methodLink RX2 95 yX2_requireEntry, Cond.instanceMethod yX2_requireEntry, Cond.selects RX2 yX2_requireEntry yX2_requireEntry, Cond.code yX2_requireEntry cX2_requireEntry 2 none, Cond.methodLink RX2 142 yX0_has, Cond.methodLink RL 120 yX3_spanOf, Cond.instanceMethod yX3_spanOf, Cond.selects RX3 yX3_spanOf yX3_spanOf, Cond.code yX3_spanOf cX3_spanOf 2 (some .int), Cond.methodLink RX3 113 yX3_isEntry, Cond.instanceMethod yX3_isEntry, Cond.selects RX3 yX3_isEntry yX3_isEntry, Cond.code yX3_isEntry cX3_isEntry 2 (some .boolean), Cond.methodLink RL 121 yL_greatest, Cond.static yL_greatest, Cond.codeWith yL_greatest cL_greatest 4 (some .int) [(0, 9, 12, 18)], Cond.methodLink RL 56 yX2_greatest, Cond.instanceMethod yX2_greatest, Cond.selects RX2 yX2_greatest yX2_greatest, Cond.code yX2_greatest cX2_greatest 2 (some .int), Cond.methodLink RL 123 yX3_greatest]
def wsL_law0_r19 : List Cond := [Cond.instanceMethod yX3_greatest, Cond.selects RX3 yX3_greatest yX3_greatest, Cond.code yX3_greatest cX3_greatest 2 (some .int), Cond.methodLink RL 124 yL_second, Cond.static yL_second, Cond.codeWith yL_second cL_second 4 (some .int) [(0, 9, 12, 18)], Cond.methodLink RL 59 yX2_second, Cond.instanceMethod yX2_second, Cond.selects RX2 yX2_second yX2_second, Cond.code yX2_second cX2_second 2 (some .int), Cond.methodLink RL 126 yX3_second, Cond.instanceMethod yX3_second, Cond.selects RX3 yX3_second yX3_second, Cond.code yX3_second cX3_second 2 (some .int), Cond.methodLink RL 127 yL_many, Cond.static yL_many, Cond.codeWith yL_many cL_many 4 (some .int) [(0, 9, 12, 18)], Cond.methodLink RL 62 yX2_many, Cond.instanceMethod yX2_many, Cond.selects RX2 yX2_many yX2_many, Cond.code yX2_many cX2_many 2 (some .int), Cond.methodLink RL 129 yX3_many, Cond.instanceMethod yX3_many, Cond.selects RX3 yX3_many yX3_many]
def wsL_law0_r20 : List Cond := [Cond.code yX3_many cX3_many 2 (some .int), Cond.methodLink RL 130 yL_noted, Cond.static yL_noted, Cond.codeWith yL_noted cL_noted 4 (some .int) [(0, 9, 12, 18)], Cond.methodLink RL 65 yX2_noted, Cond.instanceMethod yX2_noted, Cond.selects RX2 yX2_noted yX2_noted, Cond.code yX2_noted cX2_noted 2 (some .int), Cond.methodLink RL 132 yX3_noted, Cond.instanceMethod yX3_noted, Cond.selects RX3 yX3_noted yX3_noted, Cond.code yX3_noted cX3_noted 2 (some .int), Cond.methodLink RL 133 yX2_lagging, Cond.instanceMethod yX2_lagging, Cond.selects RX2 yX2_lagging yX2_lagging, Cond.code yX2_lagging cX2_lagging 1 (some .int), Cond.methodLink RX2 116 yX0_countLagging, Cond.instanceMethod yX0_countLagging, Cond.selects RX0 yX0_countLagging yX0_countLagging, Cond.code yX0_countLagging cX0_countLagging 3 (some .int), Cond.methodLink RL 136 yX3_lagging, Cond.instanceMethod yX3_lagging, Cond.selects RX3 yX3_lagging yX3_lagging, Cond.code yX3_lagging cX3_lagging 3 (some .int)]
def wsL_law0_r21 : List Cond := [Cond.methodLink RL 137 yX2_visits, Cond.instanceMethod yX2_visits, Cond.selects RX2 yX2_visits yX2_visits, Cond.code yX2_visits cX2_visits 1 (some .int), Cond.methodLink RL 140 yX3_visits, Cond.instanceMethod yX3_visits, Cond.selects RX3 yX3_visits yX3_visits, Cond.code yX3_visits cX3_visits 1 (some .int), Cond.methodLink RL 141 yX2_allVisits, Cond.instanceMethod yX2_allVisits, Cond.selects RX2 yX2_allVisits yX2_allVisits, Cond.code yX2_allVisits cX2_allVisits 1 (some .int), Cond.methodLink RL 144 yX3_allVisits, Cond.instanceMethod yX3_allVisits, Cond.selects RX3 yX3_allVisits yX3_allVisits, Cond.code yX3_allVisits cX3_allVisits 1 (some .int), Cond.methodLink RL 145 yX2_pressedAway, Cond.instanceMethod yX2_pressedAway, Cond.selects RX2 yX2_pressedAway yX2_pressedAway, Cond.code yX2_pressedAway cX2_pressedAway 1 (some .int), Cond.methodLink RL 148 yX3_pressedAway, Cond.instanceMethod yX3_pressedAway, Cond.selects RX3 yX3_pressedAway yX3_pressedAway, Cond.code yX3_pressedAway cX3_pressedAway 1 (some .int)]
def wsL_law0_r22 : List Cond := [Cond.methodLink RL 149 yX2_pressedAwayByRest, Cond.instanceMethod yX2_pressedAwayByRest, Cond.selects RX2 yX2_pressedAwayByRest yX2_pressedAwayByRest, Cond.code yX2_pressedAwayByRest cX2_pressedAwayByRest 1 (some .int), Cond.methodLink RL 152 yX3_pressedAwayByRest, Cond.instanceMethod yX3_pressedAwayByRest, Cond.selects RX3 yX3_pressedAwayByRest yX3_pressedAwayByRest, Cond.code yX3_pressedAwayByRest cX3_pressedAwayByRest 1 (some .int), Cond.methodLink RL 153 yX2_meanVisits, Cond.instanceMethod yX2_meanVisits, Cond.selects RX2 yX2_meanVisits yX2_meanVisits, Cond.code yX2_meanVisits cX2_meanVisits 1 (some .double), Cond.methodLink RL 157 yX3_meanVisits, Cond.instanceMethod yX3_meanVisits, Cond.selects RX3 yX3_meanVisits yX3_meanVisits, Cond.code yX3_meanVisits cX3_meanVisits 1 (some .double)]
def wsL_law0 : List Cond := (wsL_law0_r1 ++ (wsL_law0_r2 ++ (wsL_law0_r3 ++ (wsL_law0_r4 ++ (wsL_law0_r5 ++ (wsL_law0_r6 ++ (wsL_law0_r7 ++ (wsL_law0_r8 ++ (wsL_law0_r9 ++ (wsL_law0_r10 ++ (wsL_law0_r11 ++ (wsL_law0_r12 ++ (wsL_law0_r13 ++ (wsL_law0_r14 ++ (wsL_law0_r15 ++ (wsL_law0_r16 ++ (wsL_law0_r17 ++ (wsL_law0_r18 ++ (wsL_law0_r19 ++ (wsL_law0_r20 ++ (wsL_law0_r21 ++ wsL_law0_r22))))))))))))))))))))) ++ wsX20 ++ wsX30 ++ wsX00 ++ wsX10 ++ ([] : List Cond)
def wsL_law : List Cond := wsL_law0 ++ (vx_atS RX2 141 "java/lang/IllegalArgumentException" ["java/lang/RuntimeException", "java/lang/Exception"]).filter goodWord ++ (vx_atS RX2 48 "java/lang/IllegalStateException" ["java/lang/RuntimeException", "java/lang/Exception"]).filter goodWord ++ (vx_atS RX2 136 "java/lang/IndexOutOfBoundsException" ["java/lang/RuntimeException", "java/lang/Exception"]).filter goodWord ++ nsAt.filter goodWord
end
section
set_option maxRecDepth 20000 in
theorem lwin_wsL_law0_r1 : GoodIn lw_tbl wsL_law0_r1 := goodIn_r _ [48, 49, 36, 547, 548, 39, 760, 50, 51, 52, 53, 54, 55, 56, 57, 37, 143, 100, 101, 38, 144, 145, 59, 60] (by decide +kernel) (by decide +kernel)
set_option maxRecDepth 20000 in
theorem lwin_wsL_law0_r2 : GoodIn lw_tbl wsL_law0_r2 := goodIn_r _ [61, 99, 62, 64, 66, 68, 70, 72, 103, 104, 105, 106, 108, 123, 124, 125, 126, 74, 76, 78, 127, 129, 0, 130] (by decide +kernel) (by decide +kernel)
set_option maxRecDepth 20000 in
theorem lwin_wsL_law0_r3 : GoodIn lw_tbl wsL_law0_r3 := goodIn_r _ [131, 133, 1, 134, 135, 137, 2, 138, 139, 140, 141, 142, 110, 112, 549, 550, 551, 552, 558, 559, 560, 561, 562, 563] (by decide +kernel) (by decide +kernel)
set_option maxRecDepth 20000 in
theorem lwin_wsL_law0_r4 : GoodIn lw_tbl wsL_law0_r4 := goodIn_r _ [564, 565, 566, 553, 555, 22, 556, 557, 568, 569, 570, 571, 572, 573, 200, 201, 35, 202, 203, 204, 205, 206, 207, 208] (by decide +kernel) (by decide +kernel)
set_option maxRecDepth 20000 in
theorem lwin_wsL_law0_r5 : GoodIn lw_tbl wsL_law0_r5 := goodIn_r _ [209, 210, 211, 43, 616, 617, 618, 619, 620, 621, 622, 623, 625, 23, 626, 574, 612, 613, 614, 615, 280, 281, 282, 283] (by decide +kernel) (by decide +kernel)
set_option maxRecDepth 20000 in
theorem lwin_wsL_law0_r6 : GoodIn lw_tbl wsL_law0_r6 := goodIn_r _ [284, 285, 286, 287, 288, 309, 45, 289, 291, 5, 292, 293, 44, 325, 326, 327, 328, 329, 330, 331, 332, 333, 335, 6] (by decide +kernel) (by decide +kernel)
set_option maxRecDepth 20000 in
theorem lwin_wsL_law0_r7 : GoodIn lw_tbl wsL_law0_r7 := goodIn_r _ [336, 337, 339, 7, 340, 341, 343, 8, 344, 345, 347, 9, 348, 349, 351, 10, 352, 169, 171, 3, 172, 353, 355, 11] (by decide +kernel) (by decide +kernel)
set_option maxRecDepth 20000 in
theorem lwin_wsL_law0_r8 : GoodIn lw_tbl wsL_law0_r8 := goodIn_r _ [356, 357, 359, 12, 360, 361, 194, 46, 195, 362, 364, 13, 365, 366, 368, 14, 369, 627, 628, 629, 630, 631, 633, 24] (by decide +kernel) (by decide +kernel)
set_option maxRecDepth 20000 in
theorem lwin_wsL_law0_r9 : GoodIn lw_tbl wsL_law0_r9 := goodIn_r _ [634, 635, 637, 25, 638, 567, 639, 641, 26, 642, 643, 645, 27, 646, 647, 649, 28, 650, 651, 653, 29, 654, 370, 371] (by decide +kernel) (by decide +kernel)
set_option maxRecDepth 20000 in
theorem lwin_wsL_law0_r10 : GoodIn lw_tbl wsL_law0_r10 := goodIn_r _ [372, 373, 374, 375, 376, 377, 379, 15, 380, 382, 383, 384, 385, 386, 388, 16, 389, 390, 392, 17, 393, 394, 396, 18] (by decide +kernel) (by decide +kernel)
set_option maxRecDepth 20000 in
theorem lwin_wsL_law0_r11 : GoodIn lw_tbl wsL_law0_r11 := goodIn_r _ [397, 398, 399, 400, 401, 402, 403, 404, 655, 656, 657, 658, 659, 661, 30, 662, 663, 665, 31, 666, 667, 669, 32, 670] (by decide +kernel) (by decide +kernel)
set_option maxRecDepth 20000 in
theorem lwin_wsL_law0_r12 : GoodIn lw_tbl wsL_law0_r12 := goodIn_r _ [405, 406, 407, 408, 409, 410, 411, 412, 413, 414, 415, 416, 418, 19, 419, 671, 672, 673, 674, 675, 677, 33, 678, 420] (by decide +kernel) (by decide +kernel)
set_option maxRecDepth 20000 in
theorem lwin_wsL_law0_r13 : GoodIn lw_tbl wsL_law0_r13 := goodIn_r _ [421, 422, 423, 424, 425, 426, 189, 190, 191, 192, 193, 679, 680, 681, 682, 427, 428, 429, 430, 431, 432, 433, 434, 435] (by decide +kernel) (by decide +kernel)
set_option maxRecDepth 20000 in
theorem lwin_wsL_law0_r14 : GoodIn lw_tbl wsL_law0_r14 := goodIn_r _ [436, 437, 438, 440, 20, 441, 683, 684, 685, 686, 442, 443, 444, 445, 446, 447, 448, 449, 450, 451, 452, 453, 165, 166] (by decide +kernel) (by decide +kernel)
set_option maxRecDepth 20000 in
theorem lwin_wsL_law0_r15 : GoodIn lw_tbl wsL_law0_r15 := goodIn_r _ [167, 168, 687, 688, 689, 690, 454, 455, 456, 457, 458, 459, 460, 691, 692, 693, 694, 461, 462, 463, 464, 465, 466, 467] (by decide +kernel) (by decide +kernel)
set_option maxRecDepth 20000 in
theorem lwin_wsL_law0_r16 : GoodIn lw_tbl wsL_law0_r16 := goodIn_r _ [695, 696, 697, 698, 468, 469, 470, 471, 472, 473, 474, 475, 482, 47, 476, 477, 478, 479, 480, 481, 699, 700, 701, 702] (by decide +kernel) (by decide +kernel)
set_option maxRecDepth 20000 in
theorem lwin_wsL_law0_r17 : GoodIn lw_tbl wsL_law0_r17 := goodIn_r _ [703, 498, 499, 500, 501, 502, 503, 504, 704, 705, 706, 707, 153, 154, 155, 156, 708, 709, 710, 711, 506, 507, 508, 509] (by decide +kernel) (by decide +kernel)
set_option maxRecDepth 20000 in
theorem lwin_wsL_law0_r18 : GoodIn lw_tbl wsL_law0_r18 := goodIn_r _ [510, 511, 512, 513, 515, 21, 516, 517, 712, 713, 714, 715, 716, 718, 34, 719, 519, 520, 521, 522, 523, 524, 525, 720] (by decide +kernel) (by decide +kernel)
set_option maxRecDepth 20000 in
theorem lwin_wsL_law0_r19 : GoodIn lw_tbl wsL_law0_r19 := goodIn_r _ [721, 722, 723, 526, 527, 528, 529, 530, 531, 532, 724, 725, 726, 727, 533, 534, 535, 536, 537, 538, 539, 728, 729, 730] (by decide +kernel) (by decide +kernel)
set_option maxRecDepth 20000 in
theorem lwin_wsL_law0_r20 : GoodIn lw_tbl wsL_law0_r20 := goodIn_r _ [731, 540, 541, 542, 543, 544, 545, 546, 732, 733, 734, 735, 157, 158, 159, 160, 161, 162, 163, 164, 736, 737, 738, 739] (by decide +kernel) (by decide +kernel)
set_option maxRecDepth 20000 in
theorem lwin_wsL_law0_r21 : GoodIn lw_tbl wsL_law0_r21 := goodIn_r _ [173, 174, 175, 176, 740, 741, 742, 743, 177, 178, 179, 180, 744, 745, 746, 747, 181, 182, 183, 184, 748, 749, 750, 751] (by decide +kernel) (by decide +kernel)
set_option maxRecDepth 20000 in
theorem lwin_wsL_law0_r22 : GoodIn lw_tbl wsL_law0_r22 := goodIn_r _ [185, 186, 187, 188, 752, 753, 754, 755, 196, 197, 198, 199, 756, 757, 758, 759] (by decide +kernel) (by decide +kernel)
theorem lwin_wsX00 : GoodIn lw_tbl wsX00 := goodIn_sub (by decide +kernel) (by decide +kernel)
theorem lwin_wsX10 : GoodIn lw_tbl wsX10 := goodIn_sub (by decide +kernel) (by decide +kernel)
theorem lwin_wsX20 : GoodIn lw_tbl wsX20 := goodIn_sub (by decide +kernel) (by decide +kernel)
theorem lwin_wsX30 : GoodIn lw_tbl wsX30 := goodIn_sub (by decide +kernel) (by decide +kernel)
theorem wsL_law_good0 : GoodIn lw_tbl wsL_law0 := goodIn_app (goodIn_app (goodIn_app (goodIn_app (goodIn_app (goodIn_app lwin_wsL_law0_r1 (goodIn_app lwin_wsL_law0_r2 (goodIn_app lwin_wsL_law0_r3 (goodIn_app lwin_wsL_law0_r4 (goodIn_app lwin_wsL_law0_r5 (goodIn_app lwin_wsL_law0_r6 (goodIn_app lwin_wsL_law0_r7 (goodIn_app lwin_wsL_law0_r8 (goodIn_app lwin_wsL_law0_r9 (goodIn_app lwin_wsL_law0_r10 (goodIn_app lwin_wsL_law0_r11 (goodIn_app lwin_wsL_law0_r12 (goodIn_app lwin_wsL_law0_r13 (goodIn_app lwin_wsL_law0_r14 (goodIn_app lwin_wsL_law0_r15 (goodIn_app lwin_wsL_law0_r16 (goodIn_app lwin_wsL_law0_r17 (goodIn_app lwin_wsL_law0_r18 (goodIn_app lwin_wsL_law0_r19 (goodIn_app lwin_wsL_law0_r20 (goodIn_app lwin_wsL_law0_r21 (lwin_wsL_law0_r22)))))))))))))))))))))) lwin_wsX20) lwin_wsX30) lwin_wsX00) lwin_wsX10) (fun _ h => nomatch h)
theorem wsL_law_in0 : ∀ w ∈ wsL_law0, w ∈ lw_tbl := fun w h => (wsL_law_good0 w h).1
end
section
theorem wsL_law_x0 : ∀ w ∈ (vx_atS RX2 141 "java/lang/IllegalArgumentException" ["java/lang/RuntimeException", "java/lang/Exception"]).filter goodWord, w ∈ lw_tbl := by decide +kernel
theorem wsL_law_x1 : ∀ w ∈ (vx_atS RX2 48 "java/lang/IllegalStateException" ["java/lang/RuntimeException", "java/lang/Exception"]).filter goodWord, w ∈ lw_tbl := by decide +kernel
theorem wsL_law_x2 : ∀ w ∈ (vx_atS RX2 136 "java/lang/IndexOutOfBoundsException" ["java/lang/RuntimeException", "java/lang/Exception"]).filter goodWord, w ∈ lw_tbl := by decide +kernel
theorem wsL_law_x3 : ∀ w ∈ nsAt.filter goodWord, w ∈ lw_tbl := by decide +kernel
theorem wsL_law_in : ∀ w ∈ wsL_law, w ∈ lw_tbl := fun w h => (List.mem_append.mp h).elim (fun h => (List.mem_append.mp h).elim (fun h => (List.mem_append.mp h).elim (fun h => (List.mem_append.mp h).elim (fun h => wsL_law_in0 w h) (fun h => wsL_law_x0 w h)) (fun h => wsL_law_x1 w h)) (fun h => wsL_law_x2 w h)) (fun h => wsL_law_x3 w h)
theorem inlX0 : ∀ w ∈ wsX00, w ∈ wsL_law := fun _ h => List.mem_append_left _ (List.mem_append_left _ (List.mem_append_left _ (List.mem_append_left _ (List.mem_append_left _ (List.mem_append_left _ (List.mem_append_right _ h))))))
theorem inX0 : ∀ w ∈ wsX00, w ∈ lw_tbl := fun w h => wsL_law_in w (inlX0 w h)
theorem inlX1 : ∀ w ∈ wsX10, w ∈ wsL_law := fun _ h => List.mem_append_left _ (List.mem_append_left _ (List.mem_append_left _ (List.mem_append_left _ (List.mem_append_left _ (List.mem_append_right _ h)))))
theorem inX1 : ∀ w ∈ wsX10, w ∈ lw_tbl := fun w h => wsL_law_in w (inlX1 w h)
theorem inlX2 : ∀ w ∈ wsX20, w ∈ wsL_law := fun _ h => List.mem_append_left _ (List.mem_append_left _ (List.mem_append_left _ (List.mem_append_left _ (List.mem_append_left _ (List.mem_append_left _ (List.mem_append_left _ (List.mem_append_left _ (List.mem_append_right _ h))))))))
theorem inX2 : ∀ w ∈ wsX20, w ∈ lw_tbl := fun w h => wsL_law_in w (inlX2 w h)
theorem inlX3 : ∀ w ∈ wsX30, w ∈ wsL_law := fun _ h => List.mem_append_left _ (List.mem_append_left _ (List.mem_append_left _ (List.mem_append_left _ (List.mem_append_left _ (List.mem_append_left _ (List.mem_append_left _ (List.mem_append_right _ h)))))))
theorem inX3 : ∀ w ∈ wsX30, w ∈ lw_tbl := fun w h => wsL_law_in w (inlX3 w h)
theorem inJx145de : ∀ w ∈ wsJx145de0, w ∈ lw_tbl := by decide +kernel
theorem inJ9 : ∀ w ∈ wsJ90, w ∈ lw_tbl := by decide +kernel
theorem inJ0 : ∀ w ∈ wsJ00, w ∈ lw_tbl := by decide +kernel
end
section
theorem dX0_init_0 : decode cX0_init 0 = .ok (.aload_n 0, 1) := by decide +kernel
theorem dX0_init_1 : decode cX0_init 1 = .ok (.invokespecial 3, 3) := by decide +kernel
theorem dX0_init_4 : decode cX0_init 4 = .ok (.aload_n 0, 1) := by decide +kernel
theorem dX0_init_5 : decode cX0_init 5 = .ok (.sipush 128, 3) := by decide +kernel
theorem dX0_init_8 : decode cX0_init 8 = .ok (.newarray .int, 2) := by decide +kernel
theorem dX0_init_10 : decode cX0_init 10 = .ok (.putfield 11, 3) := by decide +kernel
theorem dX0_init_13 : decode cX0_init 13 = .ok (.aload_n 0, 1) := by decide +kernel
theorem dX0_init_14 : decode cX0_init 14 = .ok (.sipush 128, 3) := by decide +kernel
theorem dX0_init_17 : decode cX0_init 17 = .ok (.newarray .int, 2) := by decide +kernel
theorem dX0_init_19 : decode cX0_init 19 = .ok (.putfield 15, 3) := by decide +kernel
theorem dX0_init_22 : decode cX0_init 22 = .ok (.aload_n 0, 1) := by decide +kernel
theorem dX0_init_23 : decode cX0_init 23 = .ok (.sipush 128, 3) := by decide +kernel
theorem dX0_init_26 : decode cX0_init 26 = .ok (.newarray .int, 2) := by decide +kernel
theorem dX0_init_28 : decode cX0_init 28 = .ok (.putfield 18, 3) := by decide +kernel
theorem dX0_init_31 : decode cX0_init 31 = .ok (.aload_n 0, 1) := by decide +kernel
theorem dX0_init_32 : decode cX0_init 32 = .ok (.sipush 128, 3) := by decide +kernel
theorem dX0_init_35 : decode cX0_init 35 = .ok (.newarray .int, 2) := by decide +kernel
theorem dX0_init_37 : decode cX0_init 37 = .ok (.putfield 21, 3) := by decide +kernel
theorem dX0_init_40 : decode cX0_init 40 = .ok (.aload_n 0, 1) := by decide +kernel
theorem dX0_init_41 : decode cX0_init 41 = .ok (.sipush 128, 3) := by decide +kernel
theorem dX0_init_44 : decode cX0_init 44 = .ok (.newarray .int, 2) := by decide +kernel
theorem dX0_init_46 : decode cX0_init 46 = .ok (.putfield 24, 3) := by decide +kernel
theorem dX0_init_49 : decode cX0_init 49 = .ok (.aload_n 0, 1) := by decide +kernel
theorem dX0_init_50 : decode cX0_init 50 = .ok (.sipush 128, 3) := by decide +kernel
theorem dX0_init_53 : decode cX0_init 53 = .ok (.newarray .int, 2) := by decide +kernel
theorem dX0_init_55 : decode cX0_init 55 = .ok (.putfield 27, 3) := by decide +kernel
theorem dX0_init_58 : decode cX0_init 58 = .ok (.return_, 1) := by decide +kernel
set_option maxRecDepth 20000 in
theorem ggX0_renew_X0_setSpan : GoodIn wsX0_renew wsX0_setSpan := goodIn_r _ [14, 2, 1, 23, 24, 25, 26, 27, 28, 29, 30, 31] (by decide +kernel) (by decide +kernel)
set_option maxRecDepth 20000 in
theorem gX0_renew_X0_setSpan : GoodIn wsX0_renew (wsV RX0 30 RX0 yX0_setSpan wsX0_setSpan) := goodIn_app (goodIn_of _ (by decide +kernel)) ggX0_renew_X0_setSpan
set_option maxRecDepth 20000 in
theorem ggX0_renew_X0_splitSpan : GoodIn wsX0_renew wsX0_splitSpan := goodIn_r _ [18, 2, 1, 19, 20, 21, 13, 22, 10, 11, 12, 14, 23, 24, 25, 26, 27, 28, 29, 30, 31] (by decide +kernel) (by decide +kernel)
set_option maxRecDepth 20000 in
theorem gX0_renew_X0_splitSpan : GoodIn wsX0_renew (wsV RX0 34 RX0 yX0_splitSpan wsX0_splitSpan) := goodIn_app (goodIn_of _ (by decide +kernel)) ggX0_renew_X0_splitSpan
theorem dX0_renew_0 : decode cX0_renew 0 = .ok (.aload_n 0, 1) := by decide +kernel
theorem dX0_renew_1 : decode cX0_renew 1 = .ok (.iconst 1, 1) := by decide +kernel
theorem dX0_renew_2 : decode cX0_renew 2 = .ok (.iconst 0, 1) := by decide +kernel
theorem dX0_renew_3 : decode cX0_renew 3 = .ok (.iload_n 1, 1) := by decide +kernel
theorem dX0_renew_4 : decode cX0_renew 4 = .ok (.iconst 1, 1) := by decide +kernel
theorem dX0_renew_5 : decode cX0_renew 5 = .ok (.isub, 1) := by decide +kernel
theorem dX0_renew_6 : decode cX0_renew 6 = .ok (.invokevirtual 30, 3) := by decide +kernel
theorem dX0_renew_9 : decode cX0_renew 9 = .ok (.iconst 1, 1) := by decide +kernel
theorem dX0_renew_10 : decode cX0_renew 10 = .ok (.istore_n 3, 1) := by decide +kernel
theorem dX0_renew_11 : decode cX0_renew 11 = .ok (.iload_n 3, 1) := by decide +kernel
theorem dX0_renew_12 : decode cX0_renew 12 = .ok (.bipush 64, 2) := by decide +kernel
theorem dX0_renew_14 : decode cX0_renew 14 = .ok (.if_icmp .ge 14, 3) := by decide +kernel
theorem dX0_renew_17 : decode cX0_renew 17 = .ok (.aload_n 0, 1) := by decide +kernel
theorem dX0_renew_18 : decode cX0_renew 18 = .ok (.iload_n 3, 1) := by decide +kernel
theorem dX0_renew_19 : decode cX0_renew 19 = .ok (.invokevirtual 34, 3) := by decide +kernel
theorem dX0_renew_22 : decode cX0_renew 22 = .ok (.iinc 3 1, 3) := by decide +kernel
theorem dX0_renew_25 : decode cX0_renew 25 = .ok (.goto (-14), 3) := by decide +kernel
theorem dX0_renew_28 : decode cX0_renew 28 = .ok (.iconst 1, 1) := by decide +kernel
theorem dX0_renew_29 : decode cX0_renew 29 = .ok (.istore_n 3, 1) := by decide +kernel
theorem dX0_renew_30 : decode cX0_renew 30 = .ok (.iload_n 3, 1) := by decide +kernel
theorem dX0_renew_31 : decode cX0_renew 31 = .ok (.sipush 128, 3) := by decide +kernel
theorem dX0_renew_34 : decode cX0_renew 34 = .ok (.if_icmp .ge 58, 3) := by decide +kernel
theorem dX0_renew_37 : decode cX0_renew 37 = .ok (.aload_n 0, 1) := by decide +kernel
theorem dX0_renew_38 : decode cX0_renew 38 = .ok (.getfield 15, 3) := by decide +kernel
theorem dX0_renew_41 : decode cX0_renew 41 = .ok (.iload_n 3, 1) := by decide +kernel
theorem dX0_renew_42 : decode cX0_renew 42 = .ok (.iaload, 1) := by decide +kernel
theorem dX0_renew_43 : decode cX0_renew 43 = .ok (.aload_n 0, 1) := by decide +kernel
theorem dX0_renew_44 : decode cX0_renew 44 = .ok (.getfield 11, 3) := by decide +kernel
theorem dX0_renew_47 : decode cX0_renew 47 = .ok (.iload_n 3, 1) := by decide +kernel
theorem dX0_renew_48 : decode cX0_renew 48 = .ok (.iaload, 1) := by decide +kernel
theorem dX0_renew_49 : decode cX0_renew 49 = .ok (.isub, 1) := by decide +kernel
theorem dX0_renew_50 : decode cX0_renew 50 = .ok (.iconst 1, 1) := by decide +kernel
theorem dX0_renew_51 : decode cX0_renew 51 = .ok (.iadd, 1) := by decide +kernel
theorem dX0_renew_52 : decode cX0_renew 52 = .ok (.istore 4, 2) := by decide +kernel
theorem dX0_renew_54 : decode cX0_renew 54 = .ok (.aload_n 0, 1) := by decide +kernel
theorem dX0_renew_55 : decode cX0_renew 55 = .ok (.getfield 18, 3) := by decide +kernel
theorem dX0_renew_58 : decode cX0_renew 58 = .ok (.iload_n 3, 1) := by decide +kernel
theorem dX0_renew_59 : decode cX0_renew 59 = .ok (.iload_n 2, 1) := by decide +kernel
theorem dX0_renew_60 : decode cX0_renew 60 = .ok (.iastore, 1) := by decide +kernel
theorem dX0_renew_61 : decode cX0_renew 61 = .ok (.aload_n 0, 1) := by decide +kernel
theorem dX0_renew_62 : decode cX0_renew 62 = .ok (.getfield 21, 3) := by decide +kernel
theorem dX0_renew_65 : decode cX0_renew 65 = .ok (.iload_n 3, 1) := by decide +kernel
theorem dX0_renew_66 : decode cX0_renew 66 = .ok (.iconst (-1), 1) := by decide +kernel
theorem dX0_renew_67 : decode cX0_renew 67 = .ok (.iastore, 1) := by decide +kernel
theorem dX0_renew_68 : decode cX0_renew 68 = .ok (.aload_n 0, 1) := by decide +kernel
theorem dX0_renew_69 : decode cX0_renew 69 = .ok (.getfield 24, 3) := by decide +kernel
theorem dX0_renew_72 : decode cX0_renew 72 = .ok (.iload_n 3, 1) := by decide +kernel
theorem dX0_renew_73 : decode cX0_renew 73 = .ok (.iload 4, 2) := by decide +kernel
theorem dX0_renew_75 : decode cX0_renew 75 = .ok (.iastore, 1) := by decide +kernel
theorem dX0_renew_76 : decode cX0_renew 76 = .ok (.aload_n 0, 1) := by decide +kernel
theorem dX0_renew_77 : decode cX0_renew 77 = .ok (.getfield 27, 3) := by decide +kernel
theorem dX0_renew_80 : decode cX0_renew 80 = .ok (.iload_n 3, 1) := by decide +kernel
theorem dX0_renew_81 : decode cX0_renew 81 = .ok (.iload 4, 2) := by decide +kernel
theorem dX0_renew_83 : decode cX0_renew 83 = .ok (.iload_n 2, 1) := by decide +kernel
theorem dX0_renew_84 : decode cX0_renew 84 = .ok (.imul, 1) := by decide +kernel
theorem dX0_renew_85 : decode cX0_renew 85 = .ok (.iastore, 1) := by decide +kernel
theorem dX0_renew_86 : decode cX0_renew 86 = .ok (.iinc 3 1, 3) := by decide +kernel
theorem dX0_renew_89 : decode cX0_renew 89 = .ok (.goto (-59), 3) := by decide +kernel
theorem dX0_renew_92 : decode cX0_renew 92 = .ok (.aload_n 0, 1) := by decide +kernel
theorem dX0_renew_93 : decode cX0_renew 93 = .ok (.iconst 0, 1) := by decide +kernel
theorem dX0_renew_94 : decode cX0_renew 94 = .ok (.putfield 38, 3) := by decide +kernel
theorem dX0_renew_97 : decode cX0_renew 97 = .ok (.aload_n 0, 1) := by decide +kernel
theorem dX0_renew_98 : decode cX0_renew 98 = .ok (.iconst 0, 1) := by decide +kernel
theorem dX0_renew_99 : decode cX0_renew 99 = .ok (.putfield 42, 3) := by decide +kernel
theorem dX0_renew_102 : decode cX0_renew 102 = .ok (.aload_n 0, 1) := by decide +kernel
theorem dX0_renew_103 : decode cX0_renew 103 = .ok (.iconst 0, 1) := by decide +kernel
theorem dX0_renew_104 : decode cX0_renew 104 = .ok (.putfield 45, 3) := by decide +kernel
theorem dX0_renew_107 : decode cX0_renew 107 = .ok (.return_, 1) := by decide +kernel
theorem dX0_has_0 : decode cX0_has 0 = .ok (.iload_n 1, 1) := by decide +kernel
theorem dX0_has_1 : decode cX0_has 1 = .ok (.iconst 1, 1) := by decide +kernel
theorem dX0_has_2 : decode cX0_has 2 = .ok (.if_icmp .lt 24, 3) := by decide +kernel
theorem dX0_has_5 : decode cX0_has 5 = .ok (.iload_n 1, 1) := by decide +kernel
theorem dX0_has_6 : decode cX0_has 6 = .ok (.sipush 128, 3) := by decide +kernel
theorem dX0_has_9 : decode cX0_has 9 = .ok (.if_icmp .ge 17, 3) := by decide +kernel
theorem dX0_has_12 : decode cX0_has 12 = .ok (.aload_n 0, 1) := by decide +kernel
theorem dX0_has_13 : decode cX0_has 13 = .ok (.getfield 15, 3) := by decide +kernel
theorem dX0_has_16 : decode cX0_has 16 = .ok (.iload_n 1, 1) := by decide +kernel
theorem dX0_has_17 : decode cX0_has 17 = .ok (.iaload, 1) := by decide +kernel
theorem dX0_has_18 : decode cX0_has 18 = .ok (.iconst (-1), 1) := by decide +kernel
theorem dX0_has_19 : decode cX0_has 19 = .ok (.if_icmp .eq 7, 3) := by decide +kernel
theorem dX0_has_22 : decode cX0_has 22 = .ok (.iconst 1, 1) := by decide +kernel
theorem dX0_has_23 : decode cX0_has 23 = .ok (.goto 4, 3) := by decide +kernel
theorem dX0_has_26 : decode cX0_has 26 = .ok (.iconst 0, 1) := by decide +kernel
theorem dX0_has_27 : decode cX0_has 27 = .ok (.ireturn, 1) := by decide +kernel
set_option maxRecDepth 20000 in
theorem ggX0_press_X0_beginCall : GoodIn wsX0_press wsX0_beginCall := goodIn_r _ [6, 7, 8, 67, 68, 69, 70, 71, 72, 73, 74, 75] (by decide +kernel) (by decide +kernel)
set_option maxRecDepth 20000 in
theorem gX0_press_X0_beginCall : GoodIn wsX0_press (wsV RX0 48 RX0 yX0_beginCall wsX0_beginCall) := goodIn_app (goodIn_of _ (by decide +kernel)) ggX0_press_X0_beginCall
set_option maxRecDepth 20000 in
theorem ggX0_press_X0_pressFrom : GoodIn wsX0_press wsX0_pressFrom := goodIn_r _ [12, 13, 14, 15, 16, 17, 5, 18, 8, 19, 20, 21, 22, 23, 24, 25, 26, 27, 28, 29, 30, 31, 32, 33, 34, 35, 36, 37, 1, 38, 39, 40, 41, 42, 43, 44, 45, 46, 47, 48, 49, 50, 9, 10, 11, 51, 52, 53, 54, 55, 56, 57, 58, 59, 60, 61, 62, 63, 64, 65, 66, 67, 68, 69, 70, 71, 72, 73, 74, 75] (by decide +kernel) (by decide +kernel)
set_option maxRecDepth 20000 in
theorem gX0_press_X0_pressFrom : GoodIn wsX0_press (wsV RX0 51 RX0 yX0_pressFrom wsX0_pressFrom) := goodIn_app (goodIn_of _ (by decide +kernel)) ggX0_press_X0_pressFrom
theorem dX0_press_0 : decode cX0_press 0 = .ok (.aload_n 0, 1) := by decide +kernel
theorem dX0_press_1 : decode cX0_press 1 = .ok (.invokevirtual 48, 3) := by decide +kernel
theorem dX0_press_4 : decode cX0_press 4 = .ok (.aload_n 0, 1) := by decide +kernel
theorem dX0_press_5 : decode cX0_press 5 = .ok (.getfield 27, 3) := by decide +kernel
theorem dX0_press_8 : decode cX0_press 8 = .ok (.iconst 1, 1) := by decide +kernel
theorem dX0_press_9 : decode cX0_press 9 = .ok (.iaload, 1) := by decide +kernel
theorem dX0_press_10 : decode cX0_press 10 = .ok (.istore 4, 2) := by decide +kernel
theorem dX0_press_12 : decode cX0_press 12 = .ok (.aload_n 0, 1) := by decide +kernel
theorem dX0_press_13 : decode cX0_press 13 = .ok (.iconst 1, 1) := by decide +kernel
theorem dX0_press_14 : decode cX0_press 14 = .ok (.iload_n 1, 1) := by decide +kernel
theorem dX0_press_15 : decode cX0_press 15 = .ok (.iload_n 2, 1) := by decide +kernel
theorem dX0_press_16 : decode cX0_press 16 = .ok (.iload_n 3, 1) := by decide +kernel
theorem dX0_press_17 : decode cX0_press 17 = .ok (.invokevirtual 51, 3) := by decide +kernel
theorem dX0_press_20 : decode cX0_press 20 = .ok (.iload 4, 2) := by decide +kernel
theorem dX0_press_22 : decode cX0_press 22 = .ok (.aload_n 0, 1) := by decide +kernel
theorem dX0_press_23 : decode cX0_press 23 = .ok (.getfield 27, 3) := by decide +kernel
theorem dX0_press_26 : decode cX0_press 26 = .ok (.iconst 1, 1) := by decide +kernel
theorem dX0_press_27 : decode cX0_press 27 = .ok (.iaload, 1) := by decide +kernel
theorem dX0_press_28 : decode cX0_press 28 = .ok (.isub, 1) := by decide +kernel
theorem dX0_press_29 : decode cX0_press 29 = .ok (.ireturn, 1) := by decide +kernel
set_option maxRecDepth 20000 in
theorem ggX0_raise_X0_beginCall : GoodIn wsX0_raise wsX0_beginCall := goodIn_r _ [5, 6, 7, 59, 60, 61, 62, 63, 64, 65, 66, 67] (by decide +kernel) (by decide +kernel)
set_option maxRecDepth 20000 in
theorem gX0_raise_X0_beginCall : GoodIn wsX0_raise (wsV RX0 48 RX0 yX0_beginCall wsX0_beginCall) := goodIn_app (goodIn_of _ (by decide +kernel)) ggX0_raise_X0_beginCall
set_option maxRecDepth 20000 in
theorem ggX0_raise_X0_raiseFrom : GoodIn wsX0_raise wsX0_raiseFrom := goodIn_r _ [11, 12, 13, 14, 15, 16, 17, 4, 18, 7, 19, 20, 21, 22, 23, 24, 25, 26, 27, 28, 29, 30, 31, 32, 33, 34, 35, 36, 37, 38, 39, 40, 41, 8, 9, 10, 42, 43, 44, 45, 46, 47, 48, 49, 50, 51, 52, 53, 54, 55, 56, 57, 58, 59, 60, 61, 62, 63, 64, 65, 66, 67] (by decide +kernel) (by decide +kernel)
set_option maxRecDepth 20000 in
theorem gX0_raise_X0_raiseFrom : GoodIn wsX0_raise (wsV RX0 55 RX0 yX0_raiseFrom wsX0_raiseFrom) := goodIn_app (goodIn_of _ (by decide +kernel)) ggX0_raise_X0_raiseFrom
theorem dX0_raise_0 : decode cX0_raise 0 = .ok (.aload_n 0, 1) := by decide +kernel
theorem dX0_raise_1 : decode cX0_raise 1 = .ok (.invokevirtual 48, 3) := by decide +kernel
theorem dX0_raise_4 : decode cX0_raise 4 = .ok (.aload_n 0, 1) := by decide +kernel
theorem dX0_raise_5 : decode cX0_raise 5 = .ok (.iconst 1, 1) := by decide +kernel
theorem dX0_raise_6 : decode cX0_raise 6 = .ok (.iload_n 1, 1) := by decide +kernel
theorem dX0_raise_7 : decode cX0_raise 7 = .ok (.iload_n 2, 1) := by decide +kernel
theorem dX0_raise_8 : decode cX0_raise 8 = .ok (.invokevirtual 55, 3) := by decide +kernel
theorem dX0_raise_11 : decode cX0_raise 11 = .ok (.return_, 1) := by decide +kernel
set_option maxRecDepth 20000 in
theorem ggX0_askSum_X0_beginCall : GoodIn wsX0_askSum wsX0_beginCall := goodIn_r _ [5, 6, 7, 50, 51, 52, 53, 54, 55, 56, 57, 58] (by decide +kernel) (by decide +kernel)
set_option maxRecDepth 20000 in
theorem gX0_askSum_X0_beginCall : GoodIn wsX0_askSum (wsV RX0 48 RX0 yX0_beginCall wsX0_beginCall) := goodIn_app (goodIn_of _ (by decide +kernel)) ggX0_askSum_X0_beginCall
set_option maxRecDepth 20000 in
theorem ggX0_askSum_X0_sumFrom : GoodIn wsX0_askSum wsX0_sumFrom := goodIn_r _ [11, 12, 13, 14, 15, 4, 16, 7, 17, 18, 19, 20, 21, 22, 23, 24, 25, 26, 27, 28, 29, 30, 31, 32, 33, 34, 35, 36, 37, 38, 39, 40, 41, 42, 43, 44, 45, 46, 47, 48, 49, 8, 9, 10, 50, 51, 52, 53, 54, 55, 56, 57, 58] (by decide +kernel) (by decide +kernel)
set_option maxRecDepth 20000 in
theorem gX0_askSum_X0_sumFrom : GoodIn wsX0_askSum (wsV RX0 58 RX0 yX0_sumFrom wsX0_sumFrom) := goodIn_app (goodIn_of _ (by decide +kernel)) ggX0_askSum_X0_sumFrom
theorem dX0_askSum_0 : decode cX0_askSum 0 = .ok (.aload_n 0, 1) := by decide +kernel
theorem dX0_askSum_1 : decode cX0_askSum 1 = .ok (.invokevirtual 48, 3) := by decide +kernel
theorem dX0_askSum_4 : decode cX0_askSum 4 = .ok (.aload_n 0, 1) := by decide +kernel
theorem dX0_askSum_5 : decode cX0_askSum 5 = .ok (.iconst 1, 1) := by decide +kernel
theorem dX0_askSum_6 : decode cX0_askSum 6 = .ok (.iload_n 1, 1) := by decide +kernel
theorem dX0_askSum_7 : decode cX0_askSum 7 = .ok (.iload_n 2, 1) := by decide +kernel
theorem dX0_askSum_8 : decode cX0_askSum 8 = .ok (.invokevirtual 58, 3) := by decide +kernel
theorem dX0_askSum_11 : decode cX0_askSum 11 = .ok (.ireturn, 1) := by decide +kernel
set_option maxRecDepth 20000 in
theorem ggX0_askGreatest_X0_beginCall : GoodIn wsX0_askGreatest wsX0_beginCall := goodIn_r _ [5, 6, 7, 54, 55, 56, 57, 58, 59, 60, 61, 62] (by decide +kernel) (by decide +kernel)
set_option maxRecDepth 20000 in
theorem gX0_askGreatest_X0_beginCall : GoodIn wsX0_askGreatest (wsV RX0 48 RX0 yX0_beginCall wsX0_beginCall) := goodIn_app (goodIn_of _ (by decide +kernel)) ggX0_askGreatest_X0_beginCall
set_option maxRecDepth 20000 in
theorem ggX0_askGreatest_X0_greatestFrom : GoodIn wsX0_askGreatest wsX0_greatestFrom := goodIn_r _ [11, 12, 13, 14, 15, 16, 17, 18, 19, 4, 20, 7, 21, 22, 23, 24, 25, 26, 27, 28, 29, 30, 31, 32, 33, 34, 35, 36, 37, 38, 39, 40, 41, 42, 43, 44, 45, 46, 47, 48, 49, 50, 51, 52, 53, 8, 9, 10, 54, 55, 56, 57, 58, 59, 60, 61, 62] (by decide +kernel) (by decide +kernel)
set_option maxRecDepth 20000 in
theorem gX0_askGreatest_X0_greatestFrom : GoodIn wsX0_askGreatest (wsV RX0 62 RX0 yX0_greatestFrom wsX0_greatestFrom) := goodIn_app (goodIn_of _ (by decide +kernel)) ggX0_askGreatest_X0_greatestFrom
theorem dX0_askGreatest_0 : decode cX0_askGreatest 0 = .ok (.aload_n 0, 1) := by decide +kernel
theorem dX0_askGreatest_1 : decode cX0_askGreatest 1 = .ok (.invokevirtual 48, 3) := by decide +kernel
theorem dX0_askGreatest_4 : decode cX0_askGreatest 4 = .ok (.aload_n 0, 1) := by decide +kernel
theorem dX0_askGreatest_5 : decode cX0_askGreatest 5 = .ok (.iconst 1, 1) := by decide +kernel
theorem dX0_askGreatest_6 : decode cX0_askGreatest 6 = .ok (.iload_n 1, 1) := by decide +kernel
theorem dX0_askGreatest_7 : decode cX0_askGreatest 7 = .ok (.iload_n 2, 1) := by decide +kernel
theorem dX0_askGreatest_8 : decode cX0_askGreatest 8 = .ok (.invokevirtual 62, 3) := by decide +kernel
theorem dX0_askGreatest_11 : decode cX0_askGreatest 11 = .ok (.ireturn, 1) := by decide +kernel
set_option maxRecDepth 20000 in
theorem ggX0_leastGreatestOver_X0_has : GoodIn wsX0_leastGreatestOver wsX0_has := goodIn_r _ [10, 11, 17, 18, 19, 20, 21, 22, 23, 24, 25] (by decide +kernel) (by decide +kernel)
set_option maxRecDepth 20000 in
theorem gX0_leastGreatestOver_X0_has : GoodIn wsX0_leastGreatestOver (wsV RX0 65 RX0 yX0_has wsX0_has) := goodIn_app (goodIn_of _ (by decide +kernel)) ggX0_leastGreatestOver_X0_has
set_option maxRecDepth 20000 in
theorem ggX0_leastGreatestOver_X0_isApart : GoodIn wsX0_leastGreatestOver wsX0_isApart := goodIn_r _ [15, 11, 16, 17, 18, 19, 20, 21, 22, 23, 24, 25] (by decide +kernel) (by decide +kernel)
set_option maxRecDepth 20000 in
theorem gX0_leastGreatestOver_X0_isApart : GoodIn wsX0_leastGreatestOver (wsV RX0 69 RX0 yX0_isApart wsX0_isApart) := goodIn_app (goodIn_of _ (by decide +kernel)) ggX0_leastGreatestOver_X0_isApart
theorem dX0_leastGreatestOver_0 : decode cX0_leastGreatestOver 0 = .ok (.aload_n 0, 1) := by decide +kernel
theorem dX0_leastGreatestOver_1 : decode cX0_leastGreatestOver 1 = .ok (.getfield 18, 3) := by decide +kernel
theorem dX0_leastGreatestOver_4 : decode cX0_leastGreatestOver 4 = .ok (.iconst 1, 1) := by decide +kernel
theorem dX0_leastGreatestOver_5 : decode cX0_leastGreatestOver 5 = .ok (.iaload, 1) := by decide +kernel
theorem dX0_leastGreatestOver_6 : decode cX0_leastGreatestOver 6 = .ok (.istore_n 2, 1) := by decide +kernel
theorem dX0_leastGreatestOver_7 : decode cX0_leastGreatestOver 7 = .ok (.iconst 2, 1) := by decide +kernel
theorem dX0_leastGreatestOver_8 : decode cX0_leastGreatestOver 8 = .ok (.istore_n 3, 1) := by decide +kernel
theorem dX0_leastGreatestOver_9 : decode cX0_leastGreatestOver 9 = .ok (.iload_n 3, 1) := by decide +kernel
theorem dX0_leastGreatestOver_10 : decode cX0_leastGreatestOver 10 = .ok (.sipush 128, 3) := by decide +kernel
theorem dX0_leastGreatestOver_13 : decode cX0_leastGreatestOver 13 = .ok (.if_icmp .ge 38, 3) := by decide +kernel
theorem dX0_leastGreatestOver_16 : decode cX0_leastGreatestOver 16 = .ok (.aload_n 0, 1) := by decide +kernel
theorem dX0_leastGreatestOver_17 : decode cX0_leastGreatestOver 17 = .ok (.iload_n 3, 1) := by decide +kernel
theorem dX0_leastGreatestOver_18 : decode cX0_leastGreatestOver 18 = .ok (.invokevirtual 65, 3) := by decide +kernel
theorem dX0_leastGreatestOver_21 : decode cX0_leastGreatestOver 21 = .ok (.ifCond .eq 24, 3) := by decide +kernel
theorem dX0_leastGreatestOver_24 : decode cX0_leastGreatestOver 24 = .ok (.aload_n 0, 1) := by decide +kernel
theorem dX0_leastGreatestOver_25 : decode cX0_leastGreatestOver 25 = .ok (.iload_n 3, 1) := by decide +kernel
theorem dX0_leastGreatestOver_26 : decode cX0_leastGreatestOver 26 = .ok (.iload_n 1, 1) := by decide +kernel
theorem dX0_leastGreatestOver_27 : decode cX0_leastGreatestOver 27 = .ok (.iload_n 1, 1) := by decide +kernel
theorem dX0_leastGreatestOver_28 : decode cX0_leastGreatestOver 28 = .ok (.invokevirtual 69, 3) := by decide +kernel
theorem dX0_leastGreatestOver_31 : decode cX0_leastGreatestOver 31 = .ok (.ifCond .ne 14, 3) := by decide +kernel
theorem dX0_leastGreatestOver_34 : decode cX0_leastGreatestOver 34 = .ok (.iload_n 2, 1) := by decide +kernel
theorem dX0_leastGreatestOver_35 : decode cX0_leastGreatestOver 35 = .ok (.aload_n 0, 1) := by decide +kernel
theorem dX0_leastGreatestOver_36 : decode cX0_leastGreatestOver 36 = .ok (.getfield 18, 3) := by decide +kernel
theorem dX0_leastGreatestOver_39 : decode cX0_leastGreatestOver 39 = .ok (.iload_n 3, 1) := by decide +kernel
theorem dX0_leastGreatestOver_40 : decode cX0_leastGreatestOver 40 = .ok (.iaload, 1) := by decide +kernel
theorem dX0_leastGreatestOver_41 : decode cX0_leastGreatestOver 41 = .ok (.invokestatic 73, 3) := by decide +kernel
theorem dX0_leastGreatestOver_44 : decode cX0_leastGreatestOver 44 = .ok (.istore_n 2, 1) := by decide +kernel
theorem dX0_leastGreatestOver_45 : decode cX0_leastGreatestOver 45 = .ok (.iinc 3 1, 3) := by decide +kernel
theorem dX0_leastGreatestOver_48 : decode cX0_leastGreatestOver 48 = .ok (.goto (-39), 3) := by decide +kernel
theorem dX0_leastGreatestOver_51 : decode cX0_leastGreatestOver 51 = .ok (.iload_n 2, 1) := by decide +kernel
theorem dX0_leastGreatestOver_52 : decode cX0_leastGreatestOver 52 = .ok (.ireturn, 1) := by decide +kernel
set_option maxRecDepth 20000 in
theorem ggX0_countLagging_X0_has : GoodIn wsX0_countLagging wsX0_has := goodIn_r _ [5, 6, 12, 13, 14, 15, 16, 17, 18, 19, 20] (by decide +kernel) (by decide +kernel)
set_option maxRecDepth 20000 in
theorem gX0_countLagging_X0_has : GoodIn wsX0_countLagging (wsV RX0 65 RX0 yX0_has wsX0_has) := goodIn_app (goodIn_of _ (by decide +kernel)) ggX0_countLagging_X0_has
set_option maxRecDepth 20000 in
theorem ggX0_countLagging_X0_lags : GoodIn wsX0_countLagging wsX0_lags := goodIn_r _ [10, 11, 12, 13, 14, 15, 16, 17, 18, 19, 20] (by decide +kernel) (by decide +kernel)
set_option maxRecDepth 20000 in
theorem gX0_countLagging_X0_lags : GoodIn wsX0_countLagging (wsV RX0 79 RX0 yX0_lags wsX0_lags) := goodIn_app (goodIn_of _ (by decide +kernel)) ggX0_countLagging_X0_lags
theorem dX0_countLagging_0 : decode cX0_countLagging 0 = .ok (.iconst 0, 1) := by decide +kernel
theorem dX0_countLagging_1 : decode cX0_countLagging 1 = .ok (.istore_n 1, 1) := by decide +kernel
theorem dX0_countLagging_2 : decode cX0_countLagging 2 = .ok (.iconst 2, 1) := by decide +kernel
theorem dX0_countLagging_3 : decode cX0_countLagging 3 = .ok (.istore_n 2, 1) := by decide +kernel
theorem dX0_countLagging_4 : decode cX0_countLagging 4 = .ok (.iload_n 2, 1) := by decide +kernel
theorem dX0_countLagging_5 : decode cX0_countLagging 5 = .ok (.sipush 128, 3) := by decide +kernel
theorem dX0_countLagging_8 : decode cX0_countLagging 8 = .ok (.if_icmp .ge 28, 3) := by decide +kernel
theorem dX0_countLagging_11 : decode cX0_countLagging 11 = .ok (.aload_n 0, 1) := by decide +kernel
theorem dX0_countLagging_12 : decode cX0_countLagging 12 = .ok (.iload_n 2, 1) := by decide +kernel
theorem dX0_countLagging_13 : decode cX0_countLagging 13 = .ok (.invokevirtual 65, 3) := by decide +kernel
theorem dX0_countLagging_16 : decode cX0_countLagging 16 = .ok (.ifCond .eq 14, 3) := by decide +kernel
theorem dX0_countLagging_19 : decode cX0_countLagging 19 = .ok (.aload_n 0, 1) := by decide +kernel
theorem dX0_countLagging_20 : decode cX0_countLagging 20 = .ok (.iload_n 2, 1) := by decide +kernel
theorem dX0_countLagging_21 : decode cX0_countLagging 21 = .ok (.invokevirtual 79, 3) := by decide +kernel
theorem dX0_countLagging_24 : decode cX0_countLagging 24 = .ok (.ifCond .eq 6, 3) := by decide +kernel
theorem dX0_countLagging_27 : decode cX0_countLagging 27 = .ok (.iinc 1 1, 3) := by decide +kernel
theorem dX0_countLagging_30 : decode cX0_countLagging 30 = .ok (.iinc 2 1, 3) := by decide +kernel
theorem dX0_countLagging_33 : decode cX0_countLagging 33 = .ok (.goto (-29), 3) := by decide +kernel
theorem dX0_countLagging_36 : decode cX0_countLagging 36 = .ok (.iload_n 1, 1) := by decide +kernel
theorem dX0_countLagging_37 : decode cX0_countLagging 37 = .ok (.ireturn, 1) := by decide +kernel
theorem dX0_setSpan_0 : decode cX0_setSpan 0 = .ok (.aload_n 0, 1) := by decide +kernel
theorem dX0_setSpan_1 : decode cX0_setSpan 1 = .ok (.getfield 11, 3) := by decide +kernel
theorem dX0_setSpan_4 : decode cX0_setSpan 4 = .ok (.iload_n 1, 1) := by decide +kernel
theorem dX0_setSpan_5 : decode cX0_setSpan 5 = .ok (.iload_n 2, 1) := by decide +kernel
theorem dX0_setSpan_6 : decode cX0_setSpan 6 = .ok (.iastore, 1) := by decide +kernel
theorem dX0_setSpan_7 : decode cX0_setSpan 7 = .ok (.aload_n 0, 1) := by decide +kernel
theorem dX0_setSpan_8 : decode cX0_setSpan 8 = .ok (.getfield 15, 3) := by decide +kernel
theorem dX0_setSpan_11 : decode cX0_setSpan 11 = .ok (.iload_n 1, 1) := by decide +kernel
theorem dX0_setSpan_12 : decode cX0_setSpan 12 = .ok (.iload_n 3, 1) := by decide +kernel
theorem dX0_setSpan_13 : decode cX0_setSpan 13 = .ok (.iastore, 1) := by decide +kernel
theorem dX0_setSpan_14 : decode cX0_setSpan 14 = .ok (.return_, 1) := by decide +kernel
set_option maxRecDepth 20000 in
theorem ggX0_splitSpan_X0_hasParts : GoodIn wsX0_splitSpan wsX0_hasParts := goodIn_r _ [7, 1, 2, 12, 13, 14, 15, 16, 17, 18, 19, 20] (by decide +kernel) (by decide +kernel)
set_option maxRecDepth 20000 in
theorem gX0_splitSpan_X0_hasParts : GoodIn wsX0_splitSpan (wsV RX0 82 RX0 yX0_hasParts wsX0_hasParts) := goodIn_app (goodIn_of _ (by decide +kernel)) ggX0_splitSpan_X0_hasParts
set_option maxRecDepth 20000 in
theorem ggX0_splitSpan_X0_setSpan : GoodIn wsX0_splitSpan wsX0_setSpan := goodIn_r _ [11, 1, 2, 12, 13, 14, 15, 16, 17, 18, 19, 20] (by decide +kernel) (by decide +kernel)
set_option maxRecDepth 20000 in
theorem gX0_splitSpan_X0_setSpan : GoodIn wsX0_splitSpan (wsV RX0 30 RX0 yX0_setSpan wsX0_setSpan) := goodIn_app (goodIn_of _ (by decide +kernel)) ggX0_splitSpan_X0_setSpan
theorem dX0_splitSpan_0 : decode cX0_splitSpan 0 = .ok (.aload_n 0, 1) := by decide +kernel
theorem dX0_splitSpan_1 : decode cX0_splitSpan 1 = .ok (.iload_n 1, 1) := by decide +kernel
theorem dX0_splitSpan_2 : decode cX0_splitSpan 2 = .ok (.invokevirtual 82, 3) := by decide +kernel
theorem dX0_splitSpan_5 : decode cX0_splitSpan 5 = .ok (.ifCond .eq 54, 3) := by decide +kernel
theorem dX0_splitSpan_8 : decode cX0_splitSpan 8 = .ok (.aload_n 0, 1) := by decide +kernel
theorem dX0_splitSpan_9 : decode cX0_splitSpan 9 = .ok (.getfield 11, 3) := by decide +kernel
theorem dX0_splitSpan_12 : decode cX0_splitSpan 12 = .ok (.iload_n 1, 1) := by decide +kernel
theorem dX0_splitSpan_13 : decode cX0_splitSpan 13 = .ok (.iaload, 1) := by decide +kernel
theorem dX0_splitSpan_14 : decode cX0_splitSpan 14 = .ok (.aload_n 0, 1) := by decide +kernel
theorem dX0_splitSpan_15 : decode cX0_splitSpan 15 = .ok (.getfield 15, 3) := by decide +kernel
theorem dX0_splitSpan_18 : decode cX0_splitSpan 18 = .ok (.iload_n 1, 1) := by decide +kernel
theorem dX0_splitSpan_19 : decode cX0_splitSpan 19 = .ok (.iaload, 1) := by decide +kernel
theorem dX0_splitSpan_20 : decode cX0_splitSpan 20 = .ok (.iadd, 1) := by decide +kernel
theorem dX0_splitSpan_21 : decode cX0_splitSpan 21 = .ok (.iconst 2, 1) := by decide +kernel
theorem dX0_splitSpan_22 : decode cX0_splitSpan 22 = .ok (.idiv, 1) := by decide +kernel
theorem dX0_splitSpan_23 : decode cX0_splitSpan 23 = .ok (.istore_n 2, 1) := by decide +kernel
theorem dX0_splitSpan_24 : decode cX0_splitSpan 24 = .ok (.aload_n 0, 1) := by decide +kernel
theorem dX0_splitSpan_25 : decode cX0_splitSpan 25 = .ok (.iconst 2, 1) := by decide +kernel
theorem dX0_splitSpan_26 : decode cX0_splitSpan 26 = .ok (.iload_n 1, 1) := by decide +kernel
theorem dX0_splitSpan_27 : decode cX0_splitSpan 27 = .ok (.imul, 1) := by decide +kernel
theorem dX0_splitSpan_28 : decode cX0_splitSpan 28 = .ok (.aload_n 0, 1) := by decide +kernel
theorem dX0_splitSpan_29 : decode cX0_splitSpan 29 = .ok (.getfield 11, 3) := by decide +kernel
theorem dX0_splitSpan_32 : decode cX0_splitSpan 32 = .ok (.iload_n 1, 1) := by decide +kernel
theorem dX0_splitSpan_33 : decode cX0_splitSpan 33 = .ok (.iaload, 1) := by decide +kernel
theorem dX0_splitSpan_34 : decode cX0_splitSpan 34 = .ok (.iload_n 2, 1) := by decide +kernel
theorem dX0_splitSpan_35 : decode cX0_splitSpan 35 = .ok (.invokevirtual 30, 3) := by decide +kernel
theorem dX0_splitSpan_38 : decode cX0_splitSpan 38 = .ok (.aload_n 0, 1) := by decide +kernel
theorem dX0_splitSpan_39 : decode cX0_splitSpan 39 = .ok (.iconst 2, 1) := by decide +kernel
theorem dX0_splitSpan_40 : decode cX0_splitSpan 40 = .ok (.iload_n 1, 1) := by decide +kernel
theorem dX0_splitSpan_41 : decode cX0_splitSpan 41 = .ok (.imul, 1) := by decide +kernel
theorem dX0_splitSpan_42 : decode cX0_splitSpan 42 = .ok (.iconst 1, 1) := by decide +kernel
theorem dX0_splitSpan_43 : decode cX0_splitSpan 43 = .ok (.iadd, 1) := by decide +kernel
theorem dX0_splitSpan_44 : decode cX0_splitSpan 44 = .ok (.iload_n 2, 1) := by decide +kernel
theorem dX0_splitSpan_45 : decode cX0_splitSpan 45 = .ok (.iconst 1, 1) := by decide +kernel
theorem dX0_splitSpan_46 : decode cX0_splitSpan 46 = .ok (.iadd, 1) := by decide +kernel
theorem dX0_splitSpan_47 : decode cX0_splitSpan 47 = .ok (.aload_n 0, 1) := by decide +kernel
theorem dX0_splitSpan_48 : decode cX0_splitSpan 48 = .ok (.getfield 15, 3) := by decide +kernel
theorem dX0_splitSpan_51 : decode cX0_splitSpan 51 = .ok (.iload_n 1, 1) := by decide +kernel
theorem dX0_splitSpan_52 : decode cX0_splitSpan 52 = .ok (.iaload, 1) := by decide +kernel
theorem dX0_splitSpan_53 : decode cX0_splitSpan 53 = .ok (.invokevirtual 30, 3) := by decide +kernel
theorem dX0_splitSpan_56 : decode cX0_splitSpan 56 = .ok (.goto 23, 3) := by decide +kernel
theorem dX0_splitSpan_59 : decode cX0_splitSpan 59 = .ok (.aload_n 0, 1) := by decide +kernel
theorem dX0_splitSpan_60 : decode cX0_splitSpan 60 = .ok (.iconst 2, 1) := by decide +kernel
theorem dX0_splitSpan_61 : decode cX0_splitSpan 61 = .ok (.iload_n 1, 1) := by decide +kernel
theorem dX0_splitSpan_62 : decode cX0_splitSpan 62 = .ok (.imul, 1) := by decide +kernel
theorem dX0_splitSpan_63 : decode cX0_splitSpan 63 = .ok (.iconst 0, 1) := by decide +kernel
theorem dX0_splitSpan_64 : decode cX0_splitSpan 64 = .ok (.iconst (-1), 1) := by decide +kernel
theorem dX0_splitSpan_65 : decode cX0_splitSpan 65 = .ok (.invokevirtual 30, 3) := by decide +kernel
theorem dX0_splitSpan_68 : decode cX0_splitSpan 68 = .ok (.aload_n 0, 1) := by decide +kernel
theorem dX0_splitSpan_69 : decode cX0_splitSpan 69 = .ok (.iconst 2, 1) := by decide +kernel
theorem dX0_splitSpan_70 : decode cX0_splitSpan 70 = .ok (.iload_n 1, 1) := by decide +kernel
theorem dX0_splitSpan_71 : decode cX0_splitSpan 71 = .ok (.imul, 1) := by decide +kernel
theorem dX0_splitSpan_72 : decode cX0_splitSpan 72 = .ok (.iconst 1, 1) := by decide +kernel
theorem dX0_splitSpan_73 : decode cX0_splitSpan 73 = .ok (.iadd, 1) := by decide +kernel
theorem dX0_splitSpan_74 : decode cX0_splitSpan 74 = .ok (.iconst 0, 1) := by decide +kernel
theorem dX0_splitSpan_75 : decode cX0_splitSpan 75 = .ok (.iconst (-1), 1) := by decide +kernel
theorem dX0_splitSpan_76 : decode cX0_splitSpan 76 = .ok (.invokevirtual 30, 3) := by decide +kernel
theorem dX0_splitSpan_79 : decode cX0_splitSpan 79 = .ok (.return_, 1) := by decide +kernel
theorem dX0_hasParts_0 : decode cX0_hasParts 0 = .ok (.iload_n 1, 1) := by decide +kernel
theorem dX0_hasParts_1 : decode cX0_hasParts 1 = .ok (.bipush 64, 2) := by decide +kernel
theorem dX0_hasParts_3 : decode cX0_hasParts 3 = .ok (.if_icmp .ge 22, 3) := by decide +kernel
theorem dX0_hasParts_6 : decode cX0_hasParts 6 = .ok (.aload_n 0, 1) := by decide +kernel
theorem dX0_hasParts_7 : decode cX0_hasParts 7 = .ok (.getfield 11, 3) := by decide +kernel
theorem dX0_hasParts_10 : decode cX0_hasParts 10 = .ok (.iload_n 1, 1) := by decide +kernel
theorem dX0_hasParts_11 : decode cX0_hasParts 11 = .ok (.iaload, 1) := by decide +kernel
theorem dX0_hasParts_12 : decode cX0_hasParts 12 = .ok (.aload_n 0, 1) := by decide +kernel
theorem dX0_hasParts_13 : decode cX0_hasParts 13 = .ok (.getfield 15, 3) := by decide +kernel
theorem dX0_hasParts_16 : decode cX0_hasParts 16 = .ok (.iload_n 1, 1) := by decide +kernel
theorem dX0_hasParts_17 : decode cX0_hasParts 17 = .ok (.iaload, 1) := by decide +kernel
theorem dX0_hasParts_18 : decode cX0_hasParts 18 = .ok (.if_icmp .ge 7, 3) := by decide +kernel
theorem dX0_hasParts_21 : decode cX0_hasParts 21 = .ok (.iconst 1, 1) := by decide +kernel
theorem dX0_hasParts_22 : decode cX0_hasParts 22 = .ok (.goto 4, 3) := by decide +kernel
theorem dX0_hasParts_25 : decode cX0_hasParts 25 = .ok (.iconst 0, 1) := by decide +kernel
theorem dX0_hasParts_26 : decode cX0_hasParts 26 = .ok (.ireturn, 1) := by decide +kernel
theorem dX0_isApart_0 : decode cX0_isApart 0 = .ok (.aload_n 0, 1) := by decide +kernel
theorem dX0_isApart_1 : decode cX0_isApart 1 = .ok (.getfield 15, 3) := by decide +kernel
theorem dX0_isApart_4 : decode cX0_isApart 4 = .ok (.iload_n 1, 1) := by decide +kernel
theorem dX0_isApart_5 : decode cX0_isApart 5 = .ok (.iaload, 1) := by decide +kernel
theorem dX0_isApart_6 : decode cX0_isApart 6 = .ok (.iload_n 2, 1) := by decide +kernel
theorem dX0_isApart_7 : decode cX0_isApart 7 = .ok (.if_icmp .lt 13, 3) := by decide +kernel
theorem dX0_isApart_10 : decode cX0_isApart 10 = .ok (.aload_n 0, 1) := by decide +kernel
theorem dX0_isApart_11 : decode cX0_isApart 11 = .ok (.getfield 11, 3) := by decide +kernel
theorem dX0_isApart_14 : decode cX0_isApart 14 = .ok (.iload_n 1, 1) := by decide +kernel
theorem dX0_isApart_15 : decode cX0_isApart 15 = .ok (.iaload, 1) := by decide +kernel
theorem dX0_isApart_16 : decode cX0_isApart 16 = .ok (.iload_n 3, 1) := by decide +kernel
theorem dX0_isApart_17 : decode cX0_isApart 17 = .ok (.if_icmp .le 7, 3) := by decide +kernel
theorem dX0_isApart_20 : decode cX0_isApart 20 = .ok (.iconst 1, 1) := by decide +kernel
theorem dX0_isApart_21 : decode cX0_isApart 21 = .ok (.goto 4, 3) := by decide +kernel
theorem dX0_isApart_24 : decode cX0_isApart 24 = .ok (.iconst 0, 1) := by decide +kernel
theorem dX0_isApart_25 : decode cX0_isApart 25 = .ok (.ireturn, 1) := by decide +kernel
theorem dX0_isWithin_0 : decode cX0_isWithin 0 = .ok (.iload_n 2, 1) := by decide +kernel
theorem dX0_isWithin_1 : decode cX0_isWithin 1 = .ok (.aload_n 0, 1) := by decide +kernel
theorem dX0_isWithin_2 : decode cX0_isWithin 2 = .ok (.getfield 11, 3) := by decide +kernel
theorem dX0_isWithin_5 : decode cX0_isWithin 5 = .ok (.iload_n 1, 1) := by decide +kernel
theorem dX0_isWithin_6 : decode cX0_isWithin 6 = .ok (.iaload, 1) := by decide +kernel
theorem dX0_isWithin_7 : decode cX0_isWithin 7 = .ok (.if_icmp .gt 17, 3) := by decide +kernel
theorem dX0_isWithin_10 : decode cX0_isWithin 10 = .ok (.aload_n 0, 1) := by decide +kernel
theorem dX0_isWithin_11 : decode cX0_isWithin 11 = .ok (.getfield 15, 3) := by decide +kernel
theorem dX0_isWithin_14 : decode cX0_isWithin 14 = .ok (.iload_n 1, 1) := by decide +kernel
theorem dX0_isWithin_15 : decode cX0_isWithin 15 = .ok (.iaload, 1) := by decide +kernel
theorem dX0_isWithin_16 : decode cX0_isWithin 16 = .ok (.iload_n 3, 1) := by decide +kernel
theorem dX0_isWithin_17 : decode cX0_isWithin 17 = .ok (.if_icmp .gt 7, 3) := by decide +kernel
theorem dX0_isWithin_20 : decode cX0_isWithin 20 = .ok (.iconst 1, 1) := by decide +kernel
theorem dX0_isWithin_21 : decode cX0_isWithin 21 = .ok (.goto 4, 3) := by decide +kernel
theorem dX0_isWithin_24 : decode cX0_isWithin 24 = .ok (.iconst 0, 1) := by decide +kernel
theorem dX0_isWithin_25 : decode cX0_isWithin 25 = .ok (.ireturn, 1) := by decide +kernel
theorem dX0_lags_0 : decode cX0_lags 0 = .ok (.aload_n 0, 1) := by decide +kernel
theorem dX0_lags_1 : decode cX0_lags 1 = .ok (.getfield 18, 3) := by decide +kernel
theorem dX0_lags_4 : decode cX0_lags 4 = .ok (.iload_n 1, 1) := by decide +kernel
theorem dX0_lags_5 : decode cX0_lags 5 = .ok (.iaload, 1) := by decide +kernel
theorem dX0_lags_6 : decode cX0_lags 6 = .ok (.aload_n 0, 1) := by decide +kernel
theorem dX0_lags_7 : decode cX0_lags 7 = .ok (.getfield 18, 3) := by decide +kernel
theorem dX0_lags_10 : decode cX0_lags 10 = .ok (.iload_n 1, 1) := by decide +kernel
theorem dX0_lags_11 : decode cX0_lags 11 = .ok (.iconst 2, 1) := by decide +kernel
theorem dX0_lags_12 : decode cX0_lags 12 = .ok (.idiv, 1) := by decide +kernel
theorem dX0_lags_13 : decode cX0_lags 13 = .ok (.iaload, 1) := by decide +kernel
theorem dX0_lags_14 : decode cX0_lags 14 = .ok (.if_icmp .le 7, 3) := by decide +kernel
theorem dX0_lags_17 : decode cX0_lags 17 = .ok (.iconst 1, 1) := by decide +kernel
theorem dX0_lags_18 : decode cX0_lags 18 = .ok (.goto 4, 3) := by decide +kernel
theorem dX0_lags_21 : decode cX0_lags 21 = .ok (.iconst 0, 1) := by decide +kernel
theorem dX0_lags_22 : decode cX0_lags 22 = .ok (.ireturn, 1) := by decide +kernel
theorem dX0_beginCall_0 : decode cX0_beginCall 0 = .ok (.aload_n 0, 1) := by decide +kernel
theorem dX0_beginCall_1 : decode cX0_beginCall 1 = .ok (.dup, 1) := by decide +kernel
theorem dX0_beginCall_2 : decode cX0_beginCall 2 = .ok (.getfield 45, 3) := by decide +kernel
theorem dX0_beginCall_5 : decode cX0_beginCall 5 = .ok (.iconst 1, 1) := by decide +kernel
theorem dX0_beginCall_6 : decode cX0_beginCall 6 = .ok (.iadd, 1) := by decide +kernel
theorem dX0_beginCall_7 : decode cX0_beginCall 7 = .ok (.putfield 45, 3) := by decide +kernel
theorem dX0_beginCall_10 : decode cX0_beginCall 10 = .ok (.aload_n 0, 1) := by decide +kernel
theorem dX0_beginCall_11 : decode cX0_beginCall 11 = .ok (.iconst 0, 1) := by decide +kernel
theorem dX0_beginCall_12 : decode cX0_beginCall 12 = .ok (.putfield 38, 3) := by decide +kernel
theorem dX0_beginCall_15 : decode cX0_beginCall 15 = .ok (.return_, 1) := by decide +kernel
theorem dX0_countVisit_0 : decode cX0_countVisit 0 = .ok (.aload_n 0, 1) := by decide +kernel
theorem dX0_countVisit_1 : decode cX0_countVisit 1 = .ok (.dup, 1) := by decide +kernel
theorem dX0_countVisit_2 : decode cX0_countVisit 2 = .ok (.getfield 38, 3) := by decide +kernel
theorem dX0_countVisit_5 : decode cX0_countVisit 5 = .ok (.iconst 1, 1) := by decide +kernel
theorem dX0_countVisit_6 : decode cX0_countVisit 6 = .ok (.iadd, 1) := by decide +kernel
theorem dX0_countVisit_7 : decode cX0_countVisit 7 = .ok (.putfield 38, 3) := by decide +kernel
theorem dX0_countVisit_10 : decode cX0_countVisit 10 = .ok (.aload_n 0, 1) := by decide +kernel
theorem dX0_countVisit_11 : decode cX0_countVisit 11 = .ok (.dup, 1) := by decide +kernel
theorem dX0_countVisit_12 : decode cX0_countVisit 12 = .ok (.getfield 42, 3) := by decide +kernel
theorem dX0_countVisit_15 : decode cX0_countVisit 15 = .ok (.iconst 1, 1) := by decide +kernel
theorem dX0_countVisit_16 : decode cX0_countVisit 16 = .ok (.iadd, 1) := by decide +kernel
theorem dX0_countVisit_17 : decode cX0_countVisit 17 = .ok (.putfield 42, 3) := by decide +kernel
theorem dX0_countVisit_20 : decode cX0_countVisit 20 = .ok (.return_, 1) := by decide +kernel
set_option maxRecDepth 20000 in
theorem ggX0_pressFrom_X0_countVisit : GoodIn wsX0_pressFrom wsX0_countVisit := goodIn_r _ [7, 8, 9, 61, 62, 63, 64, 65, 66, 67, 68, 69] (by decide +kernel) (by decide +kernel)
set_option maxRecDepth 20000 in
theorem gX0_pressFrom_X0_countVisit : GoodIn wsX0_pressFrom (wsV RX0 85 RX0 yX0_countVisit wsX0_countVisit) := goodIn_app (goodIn_of _ (by decide +kernel)) ggX0_pressFrom_X0_countVisit
set_option maxRecDepth 20000 in
theorem ggX0_pressFrom_X0_isApart : GoodIn wsX0_pressFrom wsX0_isApart := goodIn_r _ [13, 14, 15, 61, 62, 63, 64, 65, 66, 67, 68, 69] (by decide +kernel) (by decide +kernel)
set_option maxRecDepth 20000 in
theorem gX0_pressFrom_X0_isApart : GoodIn wsX0_pressFrom (wsV RX0 69 RX0 yX0_isApart wsX0_isApart) := goodIn_app (goodIn_of _ (by decide +kernel)) ggX0_pressFrom_X0_isApart
set_option maxRecDepth 20000 in
theorem ggX0_pressFrom_X0_isWithin : GoodIn wsX0_pressFrom wsX0_isWithin := goodIn_r _ [19, 15, 14, 61, 62, 63, 64, 65, 66, 67, 68, 69] (by decide +kernel) (by decide +kernel)
set_option maxRecDepth 20000 in
theorem gX0_pressFrom_X0_isWithin : GoodIn wsX0_pressFrom (wsV RX0 88 RX0 yX0_isWithin wsX0_isWithin) := goodIn_app (goodIn_of _ (by decide +kernel)) ggX0_pressFrom_X0_isWithin
set_option maxRecDepth 20000 in
theorem ggX0_pressFrom_X0_hasParts : GoodIn wsX0_pressFrom wsX0_hasParts := goodIn_r _ [23, 15, 14, 61, 62, 63, 64, 65, 66, 67, 68, 69] (by decide +kernel) (by decide +kernel)
set_option maxRecDepth 20000 in
theorem gX0_pressFrom_X0_hasParts : GoodIn wsX0_pressFrom (wsV RX0 82 RX0 yX0_hasParts wsX0_hasParts) := goodIn_app (goodIn_of _ (by decide +kernel)) ggX0_pressFrom_X0_hasParts
set_option maxRecDepth 20000 in
theorem ggX0_pressFrom_X0_pressDown : GoodIn wsX0_pressFrom wsX0_pressDown := goodIn_r _ [27, 28, 1, 29, 61, 62, 63, 64, 65, 66, 67, 68, 69] (by decide +kernel) (by decide +kernel)
set_option maxRecDepth 20000 in
theorem gX0_pressFrom_X0_pressDown : GoodIn wsX0_pressFrom (wsV RX0 91 RX0 yX0_pressDown wsX0_pressDown) := goodIn_app (goodIn_of _ (by decide +kernel)) ggX0_pressFrom_X0_pressDown
set_option maxRecDepth 20000 in
theorem ggX0_pressFrom_X0_catchUpBelow : GoodIn wsX0_pressFrom wsX0_catchUpBelow := goodIn_r _ [33, 34, 35, 36, 6, 37, 1, 38, 39, 40, 41, 24, 25, 26, 27, 28, 29, 61, 62, 63, 64, 65, 66, 67, 68, 69] (by decide +kernel) (by decide +kernel)
set_option maxRecDepth 20000 in
theorem gX0_pressFrom_X0_catchUpBelow : GoodIn wsX0_pressFrom (wsV RX0 95 RX0 yX0_catchUpBelow wsX0_catchUpBelow) := goodIn_app (goodIn_of _ (by decide +kernel)) ggX0_pressFrom_X0_catchUpBelow
set_option maxRecDepth 20000 in
theorem ggX0_pressFrom_X0_pressFrom : GoodIn wsX0_pressFrom wsX0_pressFrom := goodIn_r _ [0, 1, 2, 3, 4, 5, 6, 7, 8, 9, 10, 11, 12, 13, 14, 15, 16, 17, 18, 19, 20, 21, 22, 23, 24, 25, 26, 27, 28, 29, 30, 31, 32, 33, 34, 35, 36, 37, 38, 39, 40, 41, 42, 43, 44, 45, 46, 47, 48, 49, 50, 51, 52, 53, 54, 55, 56, 57, 58, 59, 60, 61, 62, 63, 64, 65, 66, 67, 68, 69] (by decide +kernel) (by decide +kernel)
set_option maxRecDepth 20000 in
theorem gX0_pressFrom_X0_pressFrom : GoodIn wsX0_pressFrom (wsV RX0 51 RX0 yX0_pressFrom wsX0_pressFrom) := goodIn_app (goodIn_of _ (by decide +kernel)) ggX0_pressFrom_X0_pressFrom
set_option maxRecDepth 20000 in
theorem ggX0_pressFrom_X0_tellAnew : GoodIn wsX0_pressFrom wsX0_tellAnew := goodIn_r _ [48, 1, 49, 50, 51, 52, 29, 2, 28, 53, 54, 55, 6, 56, 57, 58, 59, 60, 61, 62, 63, 64, 65, 66, 67, 68, 69] (by decide +kernel) (by decide +kernel)
set_option maxRecDepth 20000 in
theorem gX0_pressFrom_X0_tellAnew : GoodIn wsX0_pressFrom (wsV RX0 98 RX0 yX0_tellAnew wsX0_tellAnew) := goodIn_app (goodIn_of _ (by decide +kernel)) ggX0_pressFrom_X0_tellAnew
theorem dX0_pressFrom_0 : decode cX0_pressFrom 0 = .ok (.aload_n 0, 1) := by decide +kernel
theorem dX0_pressFrom_1 : decode cX0_pressFrom 1 = .ok (.invokevirtual 85, 3) := by decide +kernel
theorem dX0_pressFrom_4 : decode cX0_pressFrom 4 = .ok (.aload_n 0, 1) := by decide +kernel
theorem dX0_pressFrom_5 : decode cX0_pressFrom 5 = .ok (.iload_n 1, 1) := by decide +kernel
theorem dX0_pressFrom_6 : decode cX0_pressFrom 6 = .ok (.iload_n 2, 1) := by decide +kernel
theorem dX0_pressFrom_7 : decode cX0_pressFrom 7 = .ok (.iload_n 3, 1) := by decide +kernel
theorem dX0_pressFrom_8 : decode cX0_pressFrom 8 = .ok (.invokevirtual 69, 3) := by decide +kernel
theorem dX0_pressFrom_11 : decode cX0_pressFrom 11 = .ok (.ifCond .ne 14, 3) := by decide +kernel
theorem dX0_pressFrom_14 : decode cX0_pressFrom 14 = .ok (.aload_n 0, 1) := by decide +kernel
theorem dX0_pressFrom_15 : decode cX0_pressFrom 15 = .ok (.getfield 18, 3) := by decide +kernel
theorem dX0_pressFrom_18 : decode cX0_pressFrom 18 = .ok (.iload_n 1, 1) := by decide +kernel
theorem dX0_pressFrom_19 : decode cX0_pressFrom 19 = .ok (.iaload, 1) := by decide +kernel
theorem dX0_pressFrom_20 : decode cX0_pressFrom 20 = .ok (.iload 4, 2) := by decide +kernel
theorem dX0_pressFrom_22 : decode cX0_pressFrom 22 = .ok (.if_icmp .gt 4, 3) := by decide +kernel
theorem dX0_pressFrom_25 : decode cX0_pressFrom 25 = .ok (.return_, 1) := by decide +kernel
theorem dX0_pressFrom_26 : decode cX0_pressFrom 26 = .ok (.aload_n 0, 1) := by decide +kernel
theorem dX0_pressFrom_27 : decode cX0_pressFrom 27 = .ok (.iload_n 1, 1) := by decide +kernel
theorem dX0_pressFrom_28 : decode cX0_pressFrom 28 = .ok (.iload_n 2, 1) := by decide +kernel
theorem dX0_pressFrom_29 : decode cX0_pressFrom 29 = .ok (.iload_n 3, 1) := by decide +kernel
theorem dX0_pressFrom_30 : decode cX0_pressFrom 30 = .ok (.invokevirtual 88, 3) := by decide +kernel
theorem dX0_pressFrom_33 : decode cX0_pressFrom 33 = .ok (.ifCond .eq 18, 3) := by decide +kernel
theorem dX0_pressFrom_36 : decode cX0_pressFrom 36 = .ok (.aload_n 0, 1) := by decide +kernel
theorem dX0_pressFrom_37 : decode cX0_pressFrom 37 = .ok (.getfield 21, 3) := by decide +kernel
theorem dX0_pressFrom_40 : decode cX0_pressFrom 40 = .ok (.iload_n 1, 1) := by decide +kernel
theorem dX0_pressFrom_41 : decode cX0_pressFrom 41 = .ok (.iaload, 1) := by decide +kernel
theorem dX0_pressFrom_42 : decode cX0_pressFrom 42 = .ok (.iload 4, 2) := by decide +kernel
theorem dX0_pressFrom_44 : decode cX0_pressFrom 44 = .ok (.if_icmp .ge 7, 3) := by decide +kernel
theorem dX0_pressFrom_47 : decode cX0_pressFrom 47 = .ok (.iconst 1, 1) := by decide +kernel
theorem dX0_pressFrom_48 : decode cX0_pressFrom 48 = .ok (.goto 4, 3) := by decide +kernel
theorem dX0_pressFrom_51 : decode cX0_pressFrom 51 = .ok (.iconst 0, 1) := by decide +kernel
theorem dX0_pressFrom_52 : decode cX0_pressFrom 52 = .ok (.istore 5, 2) := by decide +kernel
theorem dX0_pressFrom_54 : decode cX0_pressFrom 54 = .ok (.iload 5, 2) := by decide +kernel
theorem dX0_pressFrom_56 : decode cX0_pressFrom 56 = .ok (.ifCond .ne 11, 3) := by decide +kernel
theorem dX0_pressFrom_59 : decode cX0_pressFrom 59 = .ok (.aload_n 0, 1) := by decide +kernel
theorem dX0_pressFrom_60 : decode cX0_pressFrom 60 = .ok (.iload_n 1, 1) := by decide +kernel
theorem dX0_pressFrom_61 : decode cX0_pressFrom 61 = .ok (.invokevirtual 82, 3) := by decide +kernel
theorem dX0_pressFrom_64 : decode cX0_pressFrom 64 = .ok (.ifCond .ne 11, 3) := by decide +kernel
theorem dX0_pressFrom_67 : decode cX0_pressFrom 67 = .ok (.aload_n 0, 1) := by decide +kernel
theorem dX0_pressFrom_68 : decode cX0_pressFrom 68 = .ok (.iload_n 1, 1) := by decide +kernel
theorem dX0_pressFrom_69 : decode cX0_pressFrom 69 = .ok (.iload 4, 2) := by decide +kernel
theorem dX0_pressFrom_71 : decode cX0_pressFrom 71 = .ok (.invokevirtual 91, 3) := by decide +kernel
theorem dX0_pressFrom_74 : decode cX0_pressFrom 74 = .ok (.return_, 1) := by decide +kernel
theorem dX0_pressFrom_75 : decode cX0_pressFrom 75 = .ok (.aload_n 0, 1) := by decide +kernel
theorem dX0_pressFrom_76 : decode cX0_pressFrom 76 = .ok (.iload_n 1, 1) := by decide +kernel
theorem dX0_pressFrom_77 : decode cX0_pressFrom 77 = .ok (.invokevirtual 95, 3) := by decide +kernel
theorem dX0_pressFrom_80 : decode cX0_pressFrom 80 = .ok (.aload_n 0, 1) := by decide +kernel
theorem dX0_pressFrom_81 : decode cX0_pressFrom 81 = .ok (.iconst 2, 1) := by decide +kernel
theorem dX0_pressFrom_82 : decode cX0_pressFrom 82 = .ok (.iload_n 1, 1) := by decide +kernel
theorem dX0_pressFrom_83 : decode cX0_pressFrom 83 = .ok (.imul, 1) := by decide +kernel
theorem dX0_pressFrom_84 : decode cX0_pressFrom 84 = .ok (.iload_n 2, 1) := by decide +kernel
theorem dX0_pressFrom_85 : decode cX0_pressFrom 85 = .ok (.iload_n 3, 1) := by decide +kernel
theorem dX0_pressFrom_86 : decode cX0_pressFrom 86 = .ok (.iload 4, 2) := by decide +kernel
theorem dX0_pressFrom_88 : decode cX0_pressFrom 88 = .ok (.invokevirtual 51, 3) := by decide +kernel
theorem dX0_pressFrom_91 : decode cX0_pressFrom 91 = .ok (.aload_n 0, 1) := by decide +kernel
theorem dX0_pressFrom_92 : decode cX0_pressFrom 92 = .ok (.iconst 2, 1) := by decide +kernel
theorem dX0_pressFrom_93 : decode cX0_pressFrom 93 = .ok (.iload_n 1, 1) := by decide +kernel
theorem dX0_pressFrom_94 : decode cX0_pressFrom 94 = .ok (.imul, 1) := by decide +kernel
theorem dX0_pressFrom_95 : decode cX0_pressFrom 95 = .ok (.iconst 1, 1) := by decide +kernel
theorem dX0_pressFrom_96 : decode cX0_pressFrom 96 = .ok (.iadd, 1) := by decide +kernel
theorem dX0_pressFrom_97 : decode cX0_pressFrom 97 = .ok (.iload_n 2, 1) := by decide +kernel
theorem dX0_pressFrom_98 : decode cX0_pressFrom 98 = .ok (.iload_n 3, 1) := by decide +kernel
theorem dX0_pressFrom_99 : decode cX0_pressFrom 99 = .ok (.iload 4, 2) := by decide +kernel
theorem dX0_pressFrom_101 : decode cX0_pressFrom 101 = .ok (.invokevirtual 51, 3) := by decide +kernel
theorem dX0_pressFrom_104 : decode cX0_pressFrom 104 = .ok (.aload_n 0, 1) := by decide +kernel
theorem dX0_pressFrom_105 : decode cX0_pressFrom 105 = .ok (.iload_n 1, 1) := by decide +kernel
theorem dX0_pressFrom_106 : decode cX0_pressFrom 106 = .ok (.invokevirtual 98, 3) := by decide +kernel
theorem dX0_pressFrom_109 : decode cX0_pressFrom 109 = .ok (.return_, 1) := by decide +kernel
set_option maxRecDepth 20000 in
theorem ggX0_raiseFrom_X0_countVisit : GoodIn wsX0_raiseFrom wsX0_countVisit := goodIn_r _ [8, 9, 10, 53, 54, 55, 56, 57, 58, 59, 60, 61] (by decide +kernel) (by decide +kernel)
set_option maxRecDepth 20000 in
theorem gX0_raiseFrom_X0_countVisit : GoodIn wsX0_raiseFrom (wsV RX0 85 RX0 yX0_countVisit wsX0_countVisit) := goodIn_app (goodIn_of _ (by decide +kernel)) ggX0_raiseFrom_X0_countVisit
set_option maxRecDepth 20000 in
theorem ggX0_raiseFrom_X0_hasParts : GoodIn wsX0_raiseFrom wsX0_hasParts := goodIn_r _ [14, 15, 3, 53, 54, 55, 56, 57, 58, 59, 60, 61] (by decide +kernel) (by decide +kernel)
set_option maxRecDepth 20000 in
theorem gX0_raiseFrom_X0_hasParts : GoodIn wsX0_raiseFrom (wsV RX0 82 RX0 yX0_hasParts wsX0_hasParts) := goodIn_app (goodIn_of _ (by decide +kernel)) ggX0_raiseFrom_X0_hasParts
set_option maxRecDepth 20000 in
theorem ggX0_raiseFrom_X0_catchUpBelow : GoodIn wsX0_raiseFrom wsX0_catchUpBelow := goodIn_r _ [19, 20, 21, 22, 7, 23, 1, 24, 25, 26, 27, 28, 29, 30, 31, 2, 32, 53, 54, 55, 56, 57, 58, 59, 60, 61] (by decide +kernel) (by decide +kernel)
set_option maxRecDepth 20000 in
theorem gX0_raiseFrom_X0_catchUpBelow : GoodIn wsX0_raiseFrom (wsV RX0 95 RX0 yX0_catchUpBelow wsX0_catchUpBelow) := goodIn_app (goodIn_of _ (by decide +kernel)) ggX0_raiseFrom_X0_catchUpBelow
set_option maxRecDepth 20000 in
theorem ggX0_raiseFrom_X0_raiseFrom : GoodIn wsX0_raiseFrom wsX0_raiseFrom := goodIn_r _ [0, 1, 2, 3, 4, 5, 6, 7, 8, 9, 10, 11, 12, 13, 14, 15, 16, 17, 18, 19, 20, 21, 22, 23, 24, 25, 26, 27, 28, 29, 30, 31, 32, 33, 34, 35, 36, 37, 38, 39, 40, 41, 42, 43, 44, 45, 46, 47, 48, 49, 50, 51, 52, 53, 54, 55, 56, 57, 58, 59, 60, 61] (by decide +kernel) (by decide +kernel)
set_option maxRecDepth 20000 in
theorem gX0_raiseFrom_X0_raiseFrom : GoodIn wsX0_raiseFrom (wsV RX0 55 RX0 yX0_raiseFrom wsX0_raiseFrom) := goodIn_app (goodIn_of _ (by decide +kernel)) ggX0_raiseFrom_X0_raiseFrom
set_option maxRecDepth 20000 in
theorem ggX0_raiseFrom_X0_tellAnew : GoodIn wsX0_raiseFrom wsX0_tellAnew := goodIn_r _ [39, 1, 40, 41, 42, 43, 32, 44, 2, 45, 46, 47, 7, 48, 49, 50, 51, 52, 53, 54, 55, 56, 57, 58, 59, 60, 61] (by decide +kernel) (by decide +kernel)
set_option maxRecDepth 20000 in
theorem gX0_raiseFrom_X0_tellAnew : GoodIn wsX0_raiseFrom (wsV RX0 98 RX0 yX0_tellAnew wsX0_tellAnew) := goodIn_app (goodIn_of _ (by decide +kernel)) ggX0_raiseFrom_X0_tellAnew
theorem dX0_raiseFrom_0 : decode cX0_raiseFrom 0 = .ok (.aload_n 0, 1) := by decide +kernel
theorem dX0_raiseFrom_1 : decode cX0_raiseFrom 1 = .ok (.invokevirtual 85, 3) := by decide +kernel
theorem dX0_raiseFrom_4 : decode cX0_raiseFrom 4 = .ok (.aload_n 0, 1) := by decide +kernel
theorem dX0_raiseFrom_5 : decode cX0_raiseFrom 5 = .ok (.iload_n 1, 1) := by decide +kernel
theorem dX0_raiseFrom_6 : decode cX0_raiseFrom 6 = .ok (.invokevirtual 82, 3) := by decide +kernel
theorem dX0_raiseFrom_9 : decode cX0_raiseFrom 9 = .ok (.ifCond .ne 18, 3) := by decide +kernel
theorem dX0_raiseFrom_12 : decode cX0_raiseFrom 12 = .ok (.aload_n 0, 1) := by decide +kernel
theorem dX0_raiseFrom_13 : decode cX0_raiseFrom 13 = .ok (.getfield 18, 3) := by decide +kernel
theorem dX0_raiseFrom_16 : decode cX0_raiseFrom 16 = .ok (.iload_n 1, 1) := by decide +kernel
theorem dX0_raiseFrom_17 : decode cX0_raiseFrom 17 = .ok (.iload_n 3, 1) := by decide +kernel
theorem dX0_raiseFrom_18 : decode cX0_raiseFrom 18 = .ok (.iastore, 1) := by decide +kernel
theorem dX0_raiseFrom_19 : decode cX0_raiseFrom 19 = .ok (.aload_n 0, 1) := by decide +kernel
theorem dX0_raiseFrom_20 : decode cX0_raiseFrom 20 = .ok (.getfield 27, 3) := by decide +kernel
theorem dX0_raiseFrom_23 : decode cX0_raiseFrom 23 = .ok (.iload_n 1, 1) := by decide +kernel
theorem dX0_raiseFrom_24 : decode cX0_raiseFrom 24 = .ok (.iload_n 3, 1) := by decide +kernel
theorem dX0_raiseFrom_25 : decode cX0_raiseFrom 25 = .ok (.iastore, 1) := by decide +kernel
theorem dX0_raiseFrom_26 : decode cX0_raiseFrom 26 = .ok (.return_, 1) := by decide +kernel
theorem dX0_raiseFrom_27 : decode cX0_raiseFrom 27 = .ok (.aload_n 0, 1) := by decide +kernel
theorem dX0_raiseFrom_28 : decode cX0_raiseFrom 28 = .ok (.iload_n 1, 1) := by decide +kernel
theorem dX0_raiseFrom_29 : decode cX0_raiseFrom 29 = .ok (.invokevirtual 95, 3) := by decide +kernel
theorem dX0_raiseFrom_32 : decode cX0_raiseFrom 32 = .ok (.iload_n 2, 1) := by decide +kernel
theorem dX0_raiseFrom_33 : decode cX0_raiseFrom 33 = .ok (.aload_n 0, 1) := by decide +kernel
theorem dX0_raiseFrom_34 : decode cX0_raiseFrom 34 = .ok (.getfield 15, 3) := by decide +kernel
theorem dX0_raiseFrom_37 : decode cX0_raiseFrom 37 = .ok (.iconst 2, 1) := by decide +kernel
theorem dX0_raiseFrom_38 : decode cX0_raiseFrom 38 = .ok (.iload_n 1, 1) := by decide +kernel
theorem dX0_raiseFrom_39 : decode cX0_raiseFrom 39 = .ok (.imul, 1) := by decide +kernel
theorem dX0_raiseFrom_40 : decode cX0_raiseFrom 40 = .ok (.iaload, 1) := by decide +kernel
theorem dX0_raiseFrom_41 : decode cX0_raiseFrom 41 = .ok (.if_icmp .gt 7, 3) := by decide +kernel
theorem dX0_raiseFrom_44 : decode cX0_raiseFrom 44 = .ok (.iconst 1, 1) := by decide +kernel
theorem dX0_raiseFrom_45 : decode cX0_raiseFrom 45 = .ok (.goto 4, 3) := by decide +kernel
theorem dX0_raiseFrom_48 : decode cX0_raiseFrom 48 = .ok (.iconst 0, 1) := by decide +kernel
theorem dX0_raiseFrom_49 : decode cX0_raiseFrom 49 = .ok (.istore 4, 2) := by decide +kernel
theorem dX0_raiseFrom_51 : decode cX0_raiseFrom 51 = .ok (.aload_n 0, 1) := by decide +kernel
theorem dX0_raiseFrom_52 : decode cX0_raiseFrom 52 = .ok (.iload 4, 2) := by decide +kernel
theorem dX0_raiseFrom_54 : decode cX0_raiseFrom 54 = .ok (.ifCond .eq 9, 3) := by decide +kernel
theorem dX0_raiseFrom_57 : decode cX0_raiseFrom 57 = .ok (.iconst 2, 1) := by decide +kernel
theorem dX0_raiseFrom_58 : decode cX0_raiseFrom 58 = .ok (.iload_n 1, 1) := by decide +kernel
theorem dX0_raiseFrom_59 : decode cX0_raiseFrom 59 = .ok (.imul, 1) := by decide +kernel
theorem dX0_raiseFrom_60 : decode cX0_raiseFrom 60 = .ok (.goto 8, 3) := by decide +kernel
theorem dX0_raiseFrom_63 : decode cX0_raiseFrom 63 = .ok (.iconst 2, 1) := by decide +kernel
theorem dX0_raiseFrom_64 : decode cX0_raiseFrom 64 = .ok (.iload_n 1, 1) := by decide +kernel
theorem dX0_raiseFrom_65 : decode cX0_raiseFrom 65 = .ok (.imul, 1) := by decide +kernel
theorem dX0_raiseFrom_66 : decode cX0_raiseFrom 66 = .ok (.iconst 1, 1) := by decide +kernel
theorem dX0_raiseFrom_67 : decode cX0_raiseFrom 67 = .ok (.iadd, 1) := by decide +kernel
theorem dX0_raiseFrom_68 : decode cX0_raiseFrom 68 = .ok (.iload_n 2, 1) := by decide +kernel
theorem dX0_raiseFrom_69 : decode cX0_raiseFrom 69 = .ok (.iload_n 3, 1) := by decide +kernel
theorem dX0_raiseFrom_70 : decode cX0_raiseFrom 70 = .ok (.invokevirtual 55, 3) := by decide +kernel
theorem dX0_raiseFrom_73 : decode cX0_raiseFrom 73 = .ok (.aload_n 0, 1) := by decide +kernel
theorem dX0_raiseFrom_74 : decode cX0_raiseFrom 74 = .ok (.iload_n 1, 1) := by decide +kernel
theorem dX0_raiseFrom_75 : decode cX0_raiseFrom 75 = .ok (.invokevirtual 98, 3) := by decide +kernel
theorem dX0_raiseFrom_78 : decode cX0_raiseFrom 78 = .ok (.return_, 1) := by decide +kernel
set_option maxRecDepth 20000 in
theorem ggX0_sumFrom_X0_countVisit : GoodIn wsX0_sumFrom wsX0_countVisit := goodIn_r _ [6, 7, 8, 44, 45, 46, 47, 48, 49, 50, 51, 52] (by decide +kernel) (by decide +kernel)
set_option maxRecDepth 20000 in
theorem gX0_sumFrom_X0_countVisit : GoodIn wsX0_sumFrom (wsV RX0 85 RX0 yX0_countVisit wsX0_countVisit) := goodIn_app (goodIn_of _ (by decide +kernel)) ggX0_sumFrom_X0_countVisit
set_option maxRecDepth 20000 in
theorem ggX0_sumFrom_X0_isApart : GoodIn wsX0_sumFrom wsX0_isApart := goodIn_r _ [12, 13, 14, 44, 45, 46, 47, 48, 49, 50, 51, 52] (by decide +kernel) (by decide +kernel)
set_option maxRecDepth 20000 in
theorem gX0_sumFrom_X0_isApart : GoodIn wsX0_sumFrom (wsV RX0 69 RX0 yX0_isApart wsX0_isApart) := goodIn_app (goodIn_of _ (by decide +kernel)) ggX0_sumFrom_X0_isApart
set_option maxRecDepth 20000 in
theorem ggX0_sumFrom_X0_isWithin : GoodIn wsX0_sumFrom wsX0_isWithin := goodIn_r _ [18, 14, 13, 44, 45, 46, 47, 48, 49, 50, 51, 52] (by decide +kernel) (by decide +kernel)
set_option maxRecDepth 20000 in
theorem gX0_sumFrom_X0_isWithin : GoodIn wsX0_sumFrom (wsV RX0 88 RX0 yX0_isWithin wsX0_isWithin) := goodIn_app (goodIn_of _ (by decide +kernel)) ggX0_sumFrom_X0_isWithin
set_option maxRecDepth 20000 in
theorem ggX0_sumFrom_X0_hasParts : GoodIn wsX0_sumFrom wsX0_hasParts := goodIn_r _ [22, 14, 13, 44, 45, 46, 47, 48, 49, 50, 51, 52] (by decide +kernel) (by decide +kernel)
set_option maxRecDepth 20000 in
theorem gX0_sumFrom_X0_hasParts : GoodIn wsX0_sumFrom (wsV RX0 82 RX0 yX0_hasParts wsX0_hasParts) := goodIn_app (goodIn_of _ (by decide +kernel)) ggX0_sumFrom_X0_hasParts
set_option maxRecDepth 20000 in
theorem ggX0_sumFrom_X0_catchUpBelow : GoodIn wsX0_sumFrom wsX0_catchUpBelow := goodIn_r _ [26, 27, 28, 29, 5, 30, 31, 32, 33, 34, 35, 36, 37, 38, 39, 1, 40, 44, 45, 46, 47, 48, 49, 50, 51, 52] (by decide +kernel) (by decide +kernel)
set_option maxRecDepth 20000 in
theorem gX0_sumFrom_X0_catchUpBelow : GoodIn wsX0_sumFrom (wsV RX0 95 RX0 yX0_catchUpBelow wsX0_catchUpBelow) := goodIn_app (goodIn_of _ (by decide +kernel)) ggX0_sumFrom_X0_catchUpBelow
set_option maxRecDepth 20000 in
theorem ggX0_sumFrom_X0_sumFrom : GoodIn wsX0_sumFrom wsX0_sumFrom := goodIn_r _ [0, 1, 2, 3, 4, 5, 6, 7, 8, 9, 10, 11, 12, 13, 14, 15, 16, 17, 18, 19, 20, 21, 22, 23, 24, 25, 26, 27, 28, 29, 30, 31, 32, 33, 34, 35, 36, 37, 38, 39, 40, 41, 42, 43, 44, 45, 46, 47, 48, 49, 50, 51, 52] (by decide +kernel) (by decide +kernel)
set_option maxRecDepth 20000 in
theorem gX0_sumFrom_X0_sumFrom : GoodIn wsX0_sumFrom (wsV RX0 58 RX0 yX0_sumFrom wsX0_sumFrom) := goodIn_app (goodIn_of _ (by decide +kernel)) ggX0_sumFrom_X0_sumFrom
theorem dX0_sumFrom_0 : decode cX0_sumFrom 0 = .ok (.aload_n 0, 1) := by decide +kernel
theorem dX0_sumFrom_1 : decode cX0_sumFrom 1 = .ok (.invokevirtual 85, 3) := by decide +kernel
theorem dX0_sumFrom_4 : decode cX0_sumFrom 4 = .ok (.aload_n 0, 1) := by decide +kernel
theorem dX0_sumFrom_5 : decode cX0_sumFrom 5 = .ok (.iload_n 1, 1) := by decide +kernel
theorem dX0_sumFrom_6 : decode cX0_sumFrom 6 = .ok (.iload_n 2, 1) := by decide +kernel
theorem dX0_sumFrom_7 : decode cX0_sumFrom 7 = .ok (.iload_n 3, 1) := by decide +kernel
theorem dX0_sumFrom_8 : decode cX0_sumFrom 8 = .ok (.invokevirtual 69, 3) := by decide +kernel
theorem dX0_sumFrom_11 : decode cX0_sumFrom 11 = .ok (.ifCond .eq 5, 3) := by decide +kernel
theorem dX0_sumFrom_14 : decode cX0_sumFrom 14 = .ok (.iconst 0, 1) := by decide +kernel
theorem dX0_sumFrom_15 : decode cX0_sumFrom 15 = .ok (.ireturn, 1) := by decide +kernel
theorem dX0_sumFrom_16 : decode cX0_sumFrom 16 = .ok (.aload_n 0, 1) := by decide +kernel
theorem dX0_sumFrom_17 : decode cX0_sumFrom 17 = .ok (.iload_n 1, 1) := by decide +kernel
theorem dX0_sumFrom_18 : decode cX0_sumFrom 18 = .ok (.iload_n 2, 1) := by decide +kernel
theorem dX0_sumFrom_19 : decode cX0_sumFrom 19 = .ok (.iload_n 3, 1) := by decide +kernel
theorem dX0_sumFrom_20 : decode cX0_sumFrom 20 = .ok (.invokevirtual 88, 3) := by decide +kernel
theorem dX0_sumFrom_23 : decode cX0_sumFrom 23 = .ok (.ifCond .ne 11, 3) := by decide +kernel
theorem dX0_sumFrom_26 : decode cX0_sumFrom 26 = .ok (.aload_n 0, 1) := by decide +kernel
theorem dX0_sumFrom_27 : decode cX0_sumFrom 27 = .ok (.iload_n 1, 1) := by decide +kernel
theorem dX0_sumFrom_28 : decode cX0_sumFrom 28 = .ok (.invokevirtual 82, 3) := by decide +kernel
theorem dX0_sumFrom_31 : decode cX0_sumFrom 31 = .ok (.ifCond .ne 10, 3) := by decide +kernel
theorem dX0_sumFrom_34 : decode cX0_sumFrom 34 = .ok (.aload_n 0, 1) := by decide +kernel
theorem dX0_sumFrom_35 : decode cX0_sumFrom 35 = .ok (.getfield 27, 3) := by decide +kernel
theorem dX0_sumFrom_38 : decode cX0_sumFrom 38 = .ok (.iload_n 1, 1) := by decide +kernel
theorem dX0_sumFrom_39 : decode cX0_sumFrom 39 = .ok (.iaload, 1) := by decide +kernel
theorem dX0_sumFrom_40 : decode cX0_sumFrom 40 = .ok (.ireturn, 1) := by decide +kernel
theorem dX0_sumFrom_41 : decode cX0_sumFrom 41 = .ok (.aload_n 0, 1) := by decide +kernel
theorem dX0_sumFrom_42 : decode cX0_sumFrom 42 = .ok (.iload_n 1, 1) := by decide +kernel
theorem dX0_sumFrom_43 : decode cX0_sumFrom 43 = .ok (.invokevirtual 95, 3) := by decide +kernel
theorem dX0_sumFrom_46 : decode cX0_sumFrom 46 = .ok (.aload_n 0, 1) := by decide +kernel
theorem dX0_sumFrom_47 : decode cX0_sumFrom 47 = .ok (.iconst 2, 1) := by decide +kernel
theorem dX0_sumFrom_48 : decode cX0_sumFrom 48 = .ok (.iload_n 1, 1) := by decide +kernel
theorem dX0_sumFrom_49 : decode cX0_sumFrom 49 = .ok (.imul, 1) := by decide +kernel
theorem dX0_sumFrom_50 : decode cX0_sumFrom 50 = .ok (.iload_n 2, 1) := by decide +kernel
theorem dX0_sumFrom_51 : decode cX0_sumFrom 51 = .ok (.iload_n 3, 1) := by decide +kernel
theorem dX0_sumFrom_52 : decode cX0_sumFrom 52 = .ok (.invokevirtual 58, 3) := by decide +kernel
theorem dX0_sumFrom_55 : decode cX0_sumFrom 55 = .ok (.aload_n 0, 1) := by decide +kernel
theorem dX0_sumFrom_56 : decode cX0_sumFrom 56 = .ok (.iconst 2, 1) := by decide +kernel
theorem dX0_sumFrom_57 : decode cX0_sumFrom 57 = .ok (.iload_n 1, 1) := by decide +kernel
theorem dX0_sumFrom_58 : decode cX0_sumFrom 58 = .ok (.imul, 1) := by decide +kernel
theorem dX0_sumFrom_59 : decode cX0_sumFrom 59 = .ok (.iconst 1, 1) := by decide +kernel
theorem dX0_sumFrom_60 : decode cX0_sumFrom 60 = .ok (.iadd, 1) := by decide +kernel
theorem dX0_sumFrom_61 : decode cX0_sumFrom 61 = .ok (.iload_n 2, 1) := by decide +kernel
theorem dX0_sumFrom_62 : decode cX0_sumFrom 62 = .ok (.iload_n 3, 1) := by decide +kernel
theorem dX0_sumFrom_63 : decode cX0_sumFrom 63 = .ok (.invokevirtual 58, 3) := by decide +kernel
theorem dX0_sumFrom_66 : decode cX0_sumFrom 66 = .ok (.iadd, 1) := by decide +kernel
theorem dX0_sumFrom_67 : decode cX0_sumFrom 67 = .ok (.ireturn, 1) := by decide +kernel
set_option maxRecDepth 20000 in
theorem ggX0_greatestFrom_X0_countVisit : GoodIn wsX0_greatestFrom wsX0_countVisit := goodIn_r _ [10, 11, 12, 48, 49, 50, 51, 52, 53, 54, 55, 56] (by decide +kernel) (by decide +kernel)
set_option maxRecDepth 20000 in
theorem gX0_greatestFrom_X0_countVisit : GoodIn wsX0_greatestFrom (wsV RX0 85 RX0 yX0_countVisit wsX0_countVisit) := goodIn_app (goodIn_of _ (by decide +kernel)) ggX0_greatestFrom_X0_countVisit
set_option maxRecDepth 20000 in
theorem ggX0_greatestFrom_X0_isApart : GoodIn wsX0_greatestFrom wsX0_isApart := goodIn_r _ [16, 17, 18, 48, 49, 50, 51, 52, 53, 54, 55, 56] (by decide +kernel) (by decide +kernel)
set_option maxRecDepth 20000 in
theorem gX0_greatestFrom_X0_isApart : GoodIn wsX0_greatestFrom (wsV RX0 69 RX0 yX0_isApart wsX0_isApart) := goodIn_app (goodIn_of _ (by decide +kernel)) ggX0_greatestFrom_X0_isApart
set_option maxRecDepth 20000 in
theorem ggX0_greatestFrom_X0_isWithin : GoodIn wsX0_greatestFrom wsX0_isWithin := goodIn_r _ [22, 18, 17, 48, 49, 50, 51, 52, 53, 54, 55, 56] (by decide +kernel) (by decide +kernel)
set_option maxRecDepth 20000 in
theorem gX0_greatestFrom_X0_isWithin : GoodIn wsX0_greatestFrom (wsV RX0 88 RX0 yX0_isWithin wsX0_isWithin) := goodIn_app (goodIn_of _ (by decide +kernel)) ggX0_greatestFrom_X0_isWithin
set_option maxRecDepth 20000 in
theorem ggX0_greatestFrom_X0_hasParts : GoodIn wsX0_greatestFrom wsX0_hasParts := goodIn_r _ [26, 18, 17, 48, 49, 50, 51, 52, 53, 54, 55, 56] (by decide +kernel) (by decide +kernel)
set_option maxRecDepth 20000 in
theorem gX0_greatestFrom_X0_hasParts : GoodIn wsX0_greatestFrom (wsV RX0 82 RX0 yX0_hasParts wsX0_hasParts) := goodIn_app (goodIn_of _ (by decide +kernel)) ggX0_greatestFrom_X0_hasParts
set_option maxRecDepth 20000 in
theorem ggX0_greatestFrom_X0_catchUpBelow : GoodIn wsX0_greatestFrom wsX0_catchUpBelow := goodIn_r _ [30, 31, 32, 33, 9, 34, 1, 35, 36, 37, 38, 39, 40, 41, 42, 43, 44, 48, 49, 50, 51, 52, 53, 54, 55, 56] (by decide +kernel) (by decide +kernel)
set_option maxRecDepth 20000 in
theorem gX0_greatestFrom_X0_catchUpBelow : GoodIn wsX0_greatestFrom (wsV RX0 95 RX0 yX0_catchUpBelow wsX0_catchUpBelow) := goodIn_app (goodIn_of _ (by decide +kernel)) ggX0_greatestFrom_X0_catchUpBelow
set_option maxRecDepth 20000 in
theorem ggX0_greatestFrom_X0_greatestFrom : GoodIn wsX0_greatestFrom wsX0_greatestFrom := goodIn_r _ [0, 1, 2, 3, 4, 5, 6, 7, 8, 9, 10, 11, 12, 13, 14, 15, 16, 17, 18, 19, 20, 21, 22, 23, 24, 25, 26, 27, 28, 29, 30, 31, 32, 33, 34, 35, 36, 37, 38, 39, 40, 41, 42, 43, 44, 45, 46, 47, 48, 49, 50, 51, 52, 53, 54, 55, 56] (by decide +kernel) (by decide +kernel)
set_option maxRecDepth 20000 in
theorem gX0_greatestFrom_X0_greatestFrom : GoodIn wsX0_greatestFrom (wsV RX0 62 RX0 yX0_greatestFrom wsX0_greatestFrom) := goodIn_app (goodIn_of _ (by decide +kernel)) ggX0_greatestFrom_X0_greatestFrom
theorem dX0_greatestFrom_0 : decode cX0_greatestFrom 0 = .ok (.aload_n 0, 1) := by decide +kernel
theorem dX0_greatestFrom_1 : decode cX0_greatestFrom 1 = .ok (.invokevirtual 85, 3) := by decide +kernel
theorem dX0_greatestFrom_4 : decode cX0_greatestFrom 4 = .ok (.aload_n 0, 1) := by decide +kernel
theorem dX0_greatestFrom_5 : decode cX0_greatestFrom 5 = .ok (.iload_n 1, 1) := by decide +kernel
theorem dX0_greatestFrom_6 : decode cX0_greatestFrom 6 = .ok (.iload_n 2, 1) := by decide +kernel
theorem dX0_greatestFrom_7 : decode cX0_greatestFrom 7 = .ok (.iload_n 3, 1) := by decide +kernel
theorem dX0_greatestFrom_8 : decode cX0_greatestFrom 8 = .ok (.invokevirtual 69, 3) := by decide +kernel
theorem dX0_greatestFrom_11 : decode cX0_greatestFrom 11 = .ok (.ifCond .eq 5, 3) := by decide +kernel
theorem dX0_greatestFrom_14 : decode cX0_greatestFrom 14 = .ok (.iconst (-1), 1) := by decide +kernel
theorem dX0_greatestFrom_15 : decode cX0_greatestFrom 15 = .ok (.ireturn, 1) := by decide +kernel
theorem dX0_greatestFrom_16 : decode cX0_greatestFrom 16 = .ok (.aload_n 0, 1) := by decide +kernel
theorem dX0_greatestFrom_17 : decode cX0_greatestFrom 17 = .ok (.iload_n 1, 1) := by decide +kernel
theorem dX0_greatestFrom_18 : decode cX0_greatestFrom 18 = .ok (.iload_n 2, 1) := by decide +kernel
theorem dX0_greatestFrom_19 : decode cX0_greatestFrom 19 = .ok (.iload_n 3, 1) := by decide +kernel
theorem dX0_greatestFrom_20 : decode cX0_greatestFrom 20 = .ok (.invokevirtual 88, 3) := by decide +kernel
theorem dX0_greatestFrom_23 : decode cX0_greatestFrom 23 = .ok (.ifCond .ne 11, 3) := by decide +kernel
theorem dX0_greatestFrom_26 : decode cX0_greatestFrom 26 = .ok (.aload_n 0, 1) := by decide +kernel
theorem dX0_greatestFrom_27 : decode cX0_greatestFrom 27 = .ok (.iload_n 1, 1) := by decide +kernel
theorem dX0_greatestFrom_28 : decode cX0_greatestFrom 28 = .ok (.invokevirtual 82, 3) := by decide +kernel
theorem dX0_greatestFrom_31 : decode cX0_greatestFrom 31 = .ok (.ifCond .ne 10, 3) := by decide +kernel
theorem dX0_greatestFrom_34 : decode cX0_greatestFrom 34 = .ok (.aload_n 0, 1) := by decide +kernel
theorem dX0_greatestFrom_35 : decode cX0_greatestFrom 35 = .ok (.getfield 18, 3) := by decide +kernel
theorem dX0_greatestFrom_38 : decode cX0_greatestFrom 38 = .ok (.iload_n 1, 1) := by decide +kernel
theorem dX0_greatestFrom_39 : decode cX0_greatestFrom 39 = .ok (.iaload, 1) := by decide +kernel
theorem dX0_greatestFrom_40 : decode cX0_greatestFrom 40 = .ok (.ireturn, 1) := by decide +kernel
theorem dX0_greatestFrom_41 : decode cX0_greatestFrom 41 = .ok (.aload_n 0, 1) := by decide +kernel
theorem dX0_greatestFrom_42 : decode cX0_greatestFrom 42 = .ok (.iload_n 1, 1) := by decide +kernel
theorem dX0_greatestFrom_43 : decode cX0_greatestFrom 43 = .ok (.invokevirtual 95, 3) := by decide +kernel
theorem dX0_greatestFrom_46 : decode cX0_greatestFrom 46 = .ok (.aload_n 0, 1) := by decide +kernel
theorem dX0_greatestFrom_47 : decode cX0_greatestFrom 47 = .ok (.iconst 2, 1) := by decide +kernel
theorem dX0_greatestFrom_48 : decode cX0_greatestFrom 48 = .ok (.iload_n 1, 1) := by decide +kernel
theorem dX0_greatestFrom_49 : decode cX0_greatestFrom 49 = .ok (.imul, 1) := by decide +kernel
theorem dX0_greatestFrom_50 : decode cX0_greatestFrom 50 = .ok (.iload_n 2, 1) := by decide +kernel
theorem dX0_greatestFrom_51 : decode cX0_greatestFrom 51 = .ok (.iload_n 3, 1) := by decide +kernel
theorem dX0_greatestFrom_52 : decode cX0_greatestFrom 52 = .ok (.invokevirtual 62, 3) := by decide +kernel
theorem dX0_greatestFrom_55 : decode cX0_greatestFrom 55 = .ok (.aload_n 0, 1) := by decide +kernel
theorem dX0_greatestFrom_56 : decode cX0_greatestFrom 56 = .ok (.iconst 2, 1) := by decide +kernel
theorem dX0_greatestFrom_57 : decode cX0_greatestFrom 57 = .ok (.iload_n 1, 1) := by decide +kernel
theorem dX0_greatestFrom_58 : decode cX0_greatestFrom 58 = .ok (.imul, 1) := by decide +kernel
theorem dX0_greatestFrom_59 : decode cX0_greatestFrom 59 = .ok (.iconst 1, 1) := by decide +kernel
theorem dX0_greatestFrom_60 : decode cX0_greatestFrom 60 = .ok (.iadd, 1) := by decide +kernel
theorem dX0_greatestFrom_61 : decode cX0_greatestFrom 61 = .ok (.iload_n 2, 1) := by decide +kernel
theorem dX0_greatestFrom_62 : decode cX0_greatestFrom 62 = .ok (.iload_n 3, 1) := by decide +kernel
theorem dX0_greatestFrom_63 : decode cX0_greatestFrom 63 = .ok (.invokevirtual 62, 3) := by decide +kernel
theorem dX0_greatestFrom_66 : decode cX0_greatestFrom 66 = .ok (.invokestatic 101, 3) := by decide +kernel
theorem dX0_greatestFrom_69 : decode cX0_greatestFrom 69 = .ok (.ireturn, 1) := by decide +kernel
theorem dX0_pressDown_0 : decode cX0_pressDown 0 = .ok (.aload_n 0, 1) := by decide +kernel
theorem dX0_pressDown_1 : decode cX0_pressDown 1 = .ok (.getfield 27, 3) := by decide +kernel
theorem dX0_pressDown_4 : decode cX0_pressDown 4 = .ok (.iload_n 1, 1) := by decide +kernel
theorem dX0_pressDown_5 : decode cX0_pressDown 5 = .ok (.dup2, 1) := by decide +kernel
theorem dX0_pressDown_6 : decode cX0_pressDown 6 = .ok (.iaload, 1) := by decide +kernel
theorem dX0_pressDown_7 : decode cX0_pressDown 7 = .ok (.aload_n 0, 1) := by decide +kernel
theorem dX0_pressDown_8 : decode cX0_pressDown 8 = .ok (.getfield 18, 3) := by decide +kernel
theorem dX0_pressDown_11 : decode cX0_pressDown 11 = .ok (.iload_n 1, 1) := by decide +kernel
theorem dX0_pressDown_12 : decode cX0_pressDown 12 = .ok (.iaload, 1) := by decide +kernel
theorem dX0_pressDown_13 : decode cX0_pressDown 13 = .ok (.iload_n 2, 1) := by decide +kernel
theorem dX0_pressDown_14 : decode cX0_pressDown 14 = .ok (.isub, 1) := by decide +kernel
theorem dX0_pressDown_15 : decode cX0_pressDown 15 = .ok (.aload_n 0, 1) := by decide +kernel
theorem dX0_pressDown_16 : decode cX0_pressDown 16 = .ok (.getfield 24, 3) := by decide +kernel
theorem dX0_pressDown_19 : decode cX0_pressDown 19 = .ok (.iload_n 1, 1) := by decide +kernel
theorem dX0_pressDown_20 : decode cX0_pressDown 20 = .ok (.iaload, 1) := by decide +kernel
theorem dX0_pressDown_21 : decode cX0_pressDown 21 = .ok (.imul, 1) := by decide +kernel
theorem dX0_pressDown_22 : decode cX0_pressDown 22 = .ok (.isub, 1) := by decide +kernel
theorem dX0_pressDown_23 : decode cX0_pressDown 23 = .ok (.iastore, 1) := by decide +kernel
theorem dX0_pressDown_24 : decode cX0_pressDown 24 = .ok (.aload_n 0, 1) := by decide +kernel
theorem dX0_pressDown_25 : decode cX0_pressDown 25 = .ok (.getfield 18, 3) := by decide +kernel
theorem dX0_pressDown_28 : decode cX0_pressDown 28 = .ok (.iload_n 1, 1) := by decide +kernel
theorem dX0_pressDown_29 : decode cX0_pressDown 29 = .ok (.iload_n 2, 1) := by decide +kernel
theorem dX0_pressDown_30 : decode cX0_pressDown 30 = .ok (.iastore, 1) := by decide +kernel
theorem dX0_pressDown_31 : decode cX0_pressDown 31 = .ok (.return_, 1) := by decide +kernel
set_option maxRecDepth 20000 in
theorem ggX0_catchUpBelow_X0_catchUp : GoodIn wsX0_catchUpBelow wsX0_catchUp := goodIn_r _ [5, 6, 7, 8, 9, 4, 10, 11, 12, 13, 14, 15, 16, 17, 18, 19, 20, 21, 22, 23, 24, 25] (by decide +kernel) (by decide +kernel)
set_option maxRecDepth 20000 in
theorem gX0_catchUpBelow_X0_catchUp : GoodIn wsX0_catchUpBelow (wsV RX0 104 RX0 yX0_catchUp wsX0_catchUp) := goodIn_app (goodIn_of _ (by decide +kernel)) ggX0_catchUpBelow_X0_catchUp
theorem dX0_catchUpBelow_0 : decode cX0_catchUpBelow 0 = .ok (.aload_n 0, 1) := by decide +kernel
theorem dX0_catchUpBelow_1 : decode cX0_catchUpBelow 1 = .ok (.iconst 2, 1) := by decide +kernel
theorem dX0_catchUpBelow_2 : decode cX0_catchUpBelow 2 = .ok (.iload_n 1, 1) := by decide +kernel
theorem dX0_catchUpBelow_3 : decode cX0_catchUpBelow 3 = .ok (.imul, 1) := by decide +kernel
theorem dX0_catchUpBelow_4 : decode cX0_catchUpBelow 4 = .ok (.invokevirtual 104, 3) := by decide +kernel
theorem dX0_catchUpBelow_7 : decode cX0_catchUpBelow 7 = .ok (.aload_n 0, 1) := by decide +kernel
theorem dX0_catchUpBelow_8 : decode cX0_catchUpBelow 8 = .ok (.iconst 2, 1) := by decide +kernel
theorem dX0_catchUpBelow_9 : decode cX0_catchUpBelow 9 = .ok (.iload_n 1, 1) := by decide +kernel
theorem dX0_catchUpBelow_10 : decode cX0_catchUpBelow 10 = .ok (.imul, 1) := by decide +kernel
theorem dX0_catchUpBelow_11 : decode cX0_catchUpBelow 11 = .ok (.iconst 1, 1) := by decide +kernel
theorem dX0_catchUpBelow_12 : decode cX0_catchUpBelow 12 = .ok (.iadd, 1) := by decide +kernel
theorem dX0_catchUpBelow_13 : decode cX0_catchUpBelow 13 = .ok (.invokevirtual 104, 3) := by decide +kernel
theorem dX0_catchUpBelow_16 : decode cX0_catchUpBelow 16 = .ok (.return_, 1) := by decide +kernel
set_option maxRecDepth 20000 in
theorem ggX0_catchUp_X0_lags : GoodIn wsX0_catchUp wsX0_lags := goodIn_r _ [6, 1, 13, 14, 15, 16, 17, 18, 19, 20, 21] (by decide +kernel) (by decide +kernel)
set_option maxRecDepth 20000 in
theorem gX0_catchUp_X0_lags : GoodIn wsX0_catchUp (wsV RX0 79 RX0 yX0_lags wsX0_lags) := goodIn_app (goodIn_of _ (by decide +kernel)) ggX0_catchUp_X0_lags
set_option maxRecDepth 20000 in
theorem ggX0_catchUp_X0_pressDown : GoodIn wsX0_catchUp wsX0_pressDown := goodIn_r _ [10, 11, 1, 12, 13, 14, 15, 16, 17, 18, 19, 20, 21] (by decide +kernel) (by decide +kernel)
set_option maxRecDepth 20000 in
theorem gX0_catchUp_X0_pressDown : GoodIn wsX0_catchUp (wsV RX0 91 RX0 yX0_pressDown wsX0_pressDown) := goodIn_app (goodIn_of _ (by decide +kernel)) ggX0_catchUp_X0_pressDown
theorem dX0_catchUp_0 : decode cX0_catchUp 0 = .ok (.aload_n 0, 1) := by decide +kernel
theorem dX0_catchUp_1 : decode cX0_catchUp 1 = .ok (.iload_n 1, 1) := by decide +kernel
theorem dX0_catchUp_2 : decode cX0_catchUp 2 = .ok (.invokevirtual 79, 3) := by decide +kernel
theorem dX0_catchUp_5 : decode cX0_catchUp 5 = .ok (.ifCond .eq 16, 3) := by decide +kernel
theorem dX0_catchUp_8 : decode cX0_catchUp 8 = .ok (.aload_n 0, 1) := by decide +kernel
theorem dX0_catchUp_9 : decode cX0_catchUp 9 = .ok (.iload_n 1, 1) := by decide +kernel
theorem dX0_catchUp_10 : decode cX0_catchUp 10 = .ok (.aload_n 0, 1) := by decide +kernel
theorem dX0_catchUp_11 : decode cX0_catchUp 11 = .ok (.getfield 18, 3) := by decide +kernel
theorem dX0_catchUp_14 : decode cX0_catchUp 14 = .ok (.iload_n 1, 1) := by decide +kernel
theorem dX0_catchUp_15 : decode cX0_catchUp 15 = .ok (.iconst 2, 1) := by decide +kernel
theorem dX0_catchUp_16 : decode cX0_catchUp 16 = .ok (.idiv, 1) := by decide +kernel
theorem dX0_catchUp_17 : decode cX0_catchUp 17 = .ok (.iaload, 1) := by decide +kernel
theorem dX0_catchUp_18 : decode cX0_catchUp 18 = .ok (.invokevirtual 91, 3) := by decide +kernel
theorem dX0_catchUp_21 : decode cX0_catchUp 21 = .ok (.return_, 1) := by decide +kernel
set_option maxRecDepth 20000 in
theorem ggX0_tellAnew_X0_manyAt : GoodIn wsX0_tellAnew wsX0_manyAt := goodIn_r _ [13, 1, 6, 18, 19, 20, 21, 22, 23, 24, 25, 26] (by decide +kernel) (by decide +kernel)
set_option maxRecDepth 20000 in
theorem gX0_tellAnew_X0_manyAt : GoodIn wsX0_tellAnew (wsV RX0 107 RX0 yX0_manyAt wsX0_manyAt) := goodIn_app (goodIn_of _ (by decide +kernel)) ggX0_tellAnew_X0_manyAt
set_option maxRecDepth 20000 in
theorem ggX0_tellAnew_X0_greatestLessThan : GoodIn wsX0_tellAnew wsX0_greatestLessThan := goodIn_r _ [17, 1, 7, 18, 19, 20, 21, 22, 23, 24, 25, 26] (by decide +kernel) (by decide +kernel)
set_option maxRecDepth 20000 in
theorem gX0_tellAnew_X0_greatestLessThan : GoodIn wsX0_tellAnew (wsV RX0 110 RX0 yX0_greatestLessThan wsX0_greatestLessThan) := goodIn_app (goodIn_of _ (by decide +kernel)) ggX0_tellAnew_X0_greatestLessThan
theorem dX0_tellAnew_0 : decode cX0_tellAnew 0 = .ok (.iconst 2, 1) := by decide +kernel
theorem dX0_tellAnew_1 : decode cX0_tellAnew 1 = .ok (.iload_n 1, 1) := by decide +kernel
theorem dX0_tellAnew_2 : decode cX0_tellAnew 2 = .ok (.imul, 1) := by decide +kernel
theorem dX0_tellAnew_3 : decode cX0_tellAnew 3 = .ok (.istore_n 2, 1) := by decide +kernel
theorem dX0_tellAnew_4 : decode cX0_tellAnew 4 = .ok (.iload_n 2, 1) := by decide +kernel
theorem dX0_tellAnew_5 : decode cX0_tellAnew 5 = .ok (.iconst 1, 1) := by decide +kernel
theorem dX0_tellAnew_6 : decode cX0_tellAnew 6 = .ok (.iadd, 1) := by decide +kernel
theorem dX0_tellAnew_7 : decode cX0_tellAnew 7 = .ok (.istore_n 3, 1) := by decide +kernel
theorem dX0_tellAnew_8 : decode cX0_tellAnew 8 = .ok (.aload_n 0, 1) := by decide +kernel
theorem dX0_tellAnew_9 : decode cX0_tellAnew 9 = .ok (.getfield 18, 3) := by decide +kernel
theorem dX0_tellAnew_12 : decode cX0_tellAnew 12 = .ok (.iload_n 2, 1) := by decide +kernel
theorem dX0_tellAnew_13 : decode cX0_tellAnew 13 = .ok (.iaload, 1) := by decide +kernel
theorem dX0_tellAnew_14 : decode cX0_tellAnew 14 = .ok (.aload_n 0, 1) := by decide +kernel
theorem dX0_tellAnew_15 : decode cX0_tellAnew 15 = .ok (.getfield 18, 3) := by decide +kernel
theorem dX0_tellAnew_18 : decode cX0_tellAnew 18 = .ok (.iload_n 3, 1) := by decide +kernel
theorem dX0_tellAnew_19 : decode cX0_tellAnew 19 = .ok (.iaload, 1) := by decide +kernel
theorem dX0_tellAnew_20 : decode cX0_tellAnew 20 = .ok (.invokestatic 101, 3) := by decide +kernel
theorem dX0_tellAnew_23 : decode cX0_tellAnew 23 = .ok (.istore 4, 2) := by decide +kernel
theorem dX0_tellAnew_25 : decode cX0_tellAnew 25 = .ok (.aload_n 0, 1) := by decide +kernel
theorem dX0_tellAnew_26 : decode cX0_tellAnew 26 = .ok (.getfield 18, 3) := by decide +kernel
theorem dX0_tellAnew_29 : decode cX0_tellAnew 29 = .ok (.iload_n 1, 1) := by decide +kernel
theorem dX0_tellAnew_30 : decode cX0_tellAnew 30 = .ok (.iload 4, 2) := by decide +kernel
theorem dX0_tellAnew_32 : decode cX0_tellAnew 32 = .ok (.iastore, 1) := by decide +kernel
theorem dX0_tellAnew_33 : decode cX0_tellAnew 33 = .ok (.aload_n 0, 1) := by decide +kernel
theorem dX0_tellAnew_34 : decode cX0_tellAnew 34 = .ok (.getfield 24, 3) := by decide +kernel
theorem dX0_tellAnew_37 : decode cX0_tellAnew 37 = .ok (.iload_n 1, 1) := by decide +kernel
theorem dX0_tellAnew_38 : decode cX0_tellAnew 38 = .ok (.aload_n 0, 1) := by decide +kernel
theorem dX0_tellAnew_39 : decode cX0_tellAnew 39 = .ok (.iload_n 2, 1) := by decide +kernel
theorem dX0_tellAnew_40 : decode cX0_tellAnew 40 = .ok (.iload 4, 2) := by decide +kernel
theorem dX0_tellAnew_42 : decode cX0_tellAnew 42 = .ok (.invokevirtual 107, 3) := by decide +kernel
theorem dX0_tellAnew_45 : decode cX0_tellAnew 45 = .ok (.aload_n 0, 1) := by decide +kernel
theorem dX0_tellAnew_46 : decode cX0_tellAnew 46 = .ok (.iload_n 3, 1) := by decide +kernel
theorem dX0_tellAnew_47 : decode cX0_tellAnew 47 = .ok (.iload 4, 2) := by decide +kernel
theorem dX0_tellAnew_49 : decode cX0_tellAnew 49 = .ok (.invokevirtual 107, 3) := by decide +kernel
theorem dX0_tellAnew_52 : decode cX0_tellAnew 52 = .ok (.iadd, 1) := by decide +kernel
theorem dX0_tellAnew_53 : decode cX0_tellAnew 53 = .ok (.iastore, 1) := by decide +kernel
theorem dX0_tellAnew_54 : decode cX0_tellAnew 54 = .ok (.aload_n 0, 1) := by decide +kernel
theorem dX0_tellAnew_55 : decode cX0_tellAnew 55 = .ok (.getfield 21, 3) := by decide +kernel
theorem dX0_tellAnew_58 : decode cX0_tellAnew 58 = .ok (.iload_n 1, 1) := by decide +kernel
theorem dX0_tellAnew_59 : decode cX0_tellAnew 59 = .ok (.aload_n 0, 1) := by decide +kernel
theorem dX0_tellAnew_60 : decode cX0_tellAnew 60 = .ok (.iload 4, 2) := by decide +kernel
theorem dX0_tellAnew_62 : decode cX0_tellAnew 62 = .ok (.iload_n 2, 1) := by decide +kernel
theorem dX0_tellAnew_63 : decode cX0_tellAnew 63 = .ok (.invokevirtual 110, 3) := by decide +kernel
theorem dX0_tellAnew_66 : decode cX0_tellAnew 66 = .ok (.aload_n 0, 1) := by decide +kernel
theorem dX0_tellAnew_67 : decode cX0_tellAnew 67 = .ok (.iload 4, 2) := by decide +kernel
theorem dX0_tellAnew_69 : decode cX0_tellAnew 69 = .ok (.iload_n 3, 1) := by decide +kernel
theorem dX0_tellAnew_70 : decode cX0_tellAnew 70 = .ok (.invokevirtual 110, 3) := by decide +kernel
theorem dX0_tellAnew_73 : decode cX0_tellAnew 73 = .ok (.invokestatic 101, 3) := by decide +kernel
theorem dX0_tellAnew_76 : decode cX0_tellAnew 76 = .ok (.iastore, 1) := by decide +kernel
theorem dX0_tellAnew_77 : decode cX0_tellAnew 77 = .ok (.aload_n 0, 1) := by decide +kernel
theorem dX0_tellAnew_78 : decode cX0_tellAnew 78 = .ok (.getfield 27, 3) := by decide +kernel
theorem dX0_tellAnew_81 : decode cX0_tellAnew 81 = .ok (.iload_n 1, 1) := by decide +kernel
theorem dX0_tellAnew_82 : decode cX0_tellAnew 82 = .ok (.aload_n 0, 1) := by decide +kernel
theorem dX0_tellAnew_83 : decode cX0_tellAnew 83 = .ok (.getfield 27, 3) := by decide +kernel
theorem dX0_tellAnew_86 : decode cX0_tellAnew 86 = .ok (.iload_n 2, 1) := by decide +kernel
theorem dX0_tellAnew_87 : decode cX0_tellAnew 87 = .ok (.iaload, 1) := by decide +kernel
theorem dX0_tellAnew_88 : decode cX0_tellAnew 88 = .ok (.aload_n 0, 1) := by decide +kernel
theorem dX0_tellAnew_89 : decode cX0_tellAnew 89 = .ok (.getfield 27, 3) := by decide +kernel
theorem dX0_tellAnew_92 : decode cX0_tellAnew 92 = .ok (.iload_n 3, 1) := by decide +kernel
theorem dX0_tellAnew_93 : decode cX0_tellAnew 93 = .ok (.iaload, 1) := by decide +kernel
theorem dX0_tellAnew_94 : decode cX0_tellAnew 94 = .ok (.iadd, 1) := by decide +kernel
theorem dX0_tellAnew_95 : decode cX0_tellAnew 95 = .ok (.iastore, 1) := by decide +kernel
theorem dX0_tellAnew_96 : decode cX0_tellAnew 96 = .ok (.return_, 1) := by decide +kernel
theorem dX0_manyAt_0 : decode cX0_manyAt 0 = .ok (.aload_n 0, 1) := by decide +kernel
theorem dX0_manyAt_1 : decode cX0_manyAt 1 = .ok (.getfield 18, 3) := by decide +kernel
theorem dX0_manyAt_4 : decode cX0_manyAt 4 = .ok (.iload_n 1, 1) := by decide +kernel
theorem dX0_manyAt_5 : decode cX0_manyAt 5 = .ok (.iaload, 1) := by decide +kernel
theorem dX0_manyAt_6 : decode cX0_manyAt 6 = .ok (.iload_n 2, 1) := by decide +kernel
theorem dX0_manyAt_7 : decode cX0_manyAt 7 = .ok (.if_icmp .ne 12, 3) := by decide +kernel
theorem dX0_manyAt_10 : decode cX0_manyAt 10 = .ok (.aload_n 0, 1) := by decide +kernel
theorem dX0_manyAt_11 : decode cX0_manyAt 11 = .ok (.getfield 24, 3) := by decide +kernel
theorem dX0_manyAt_14 : decode cX0_manyAt 14 = .ok (.iload_n 1, 1) := by decide +kernel
theorem dX0_manyAt_15 : decode cX0_manyAt 15 = .ok (.iaload, 1) := by decide +kernel
theorem dX0_manyAt_16 : decode cX0_manyAt 16 = .ok (.goto 4, 3) := by decide +kernel
theorem dX0_manyAt_19 : decode cX0_manyAt 19 = .ok (.iconst 0, 1) := by decide +kernel
theorem dX0_manyAt_20 : decode cX0_manyAt 20 = .ok (.ireturn, 1) := by decide +kernel
theorem dX0_greatestLessThan_0 : decode cX0_greatestLessThan 0 = .ok (.aload_n 0, 1) := by decide +kernel
theorem dX0_greatestLessThan_1 : decode cX0_greatestLessThan 1 = .ok (.getfield 18, 3) := by decide +kernel
theorem dX0_greatestLessThan_4 : decode cX0_greatestLessThan 4 = .ok (.iload_n 2, 1) := by decide +kernel
theorem dX0_greatestLessThan_5 : decode cX0_greatestLessThan 5 = .ok (.iaload, 1) := by decide +kernel
theorem dX0_greatestLessThan_6 : decode cX0_greatestLessThan 6 = .ok (.iload_n 1, 1) := by decide +kernel
theorem dX0_greatestLessThan_7 : decode cX0_greatestLessThan 7 = .ok (.if_icmp .ge 12, 3) := by decide +kernel
theorem dX0_greatestLessThan_10 : decode cX0_greatestLessThan 10 = .ok (.aload_n 0, 1) := by decide +kernel
theorem dX0_greatestLessThan_11 : decode cX0_greatestLessThan 11 = .ok (.getfield 18, 3) := by decide +kernel
theorem dX0_greatestLessThan_14 : decode cX0_greatestLessThan 14 = .ok (.iload_n 2, 1) := by decide +kernel
theorem dX0_greatestLessThan_15 : decode cX0_greatestLessThan 15 = .ok (.iaload, 1) := by decide +kernel
theorem dX0_greatestLessThan_16 : decode cX0_greatestLessThan 16 = .ok (.goto 9, 3) := by decide +kernel
theorem dX0_greatestLessThan_19 : decode cX0_greatestLessThan 19 = .ok (.aload_n 0, 1) := by decide +kernel
theorem dX0_greatestLessThan_20 : decode cX0_greatestLessThan 20 = .ok (.getfield 21, 3) := by decide +kernel
theorem dX0_greatestLessThan_23 : decode cX0_greatestLessThan 23 = .ok (.iload_n 2, 1) := by decide +kernel
theorem dX0_greatestLessThan_24 : decode cX0_greatestLessThan 24 = .ok (.iaload, 1) := by decide +kernel
theorem dX0_greatestLessThan_25 : decode cX0_greatestLessThan 25 = .ok (.ireturn, 1) := by decide +kernel
theorem dX1_init_0 : decode cX1_init 0 = .ok (.aload_n 0, 1) := by decide +kernel
theorem dX1_init_1 : decode cX1_init 1 = .ok (.invokespecial 3, 3) := by decide +kernel
theorem dX1_init_4 : decode cX1_init 4 = .ok (.aload_n 0, 1) := by decide +kernel
theorem dX1_init_5 : decode cX1_init 5 = .ok (.bipush 64, 2) := by decide +kernel
theorem dX1_init_7 : decode cX1_init 7 = .ok (.newarray .int, 2) := by decide +kernel
theorem dX1_init_9 : decode cX1_init 9 = .ok (.putfield 9, 3) := by decide +kernel
theorem dX1_init_12 : decode cX1_init 12 = .ok (.aload_n 0, 1) := by decide +kernel
theorem dX1_init_13 : decode cX1_init 13 = .ok (.bipush 64, 2) := by decide +kernel
theorem dX1_init_15 : decode cX1_init 15 = .ok (.newarray .int, 2) := by decide +kernel
theorem dX1_init_17 : decode cX1_init 17 = .ok (.putfield 15, 3) := by decide +kernel
theorem dX1_init_20 : decode cX1_init 20 = .ok (.return_, 1) := by decide +kernel
theorem dX1_renew_0 : decode cX1_renew 0 = .ok (.aload_n 0, 1) := by decide +kernel
theorem dX1_renew_1 : decode cX1_renew 1 = .ok (.iload_n 1, 1) := by decide +kernel
theorem dX1_renew_2 : decode cX1_renew 2 = .ok (.putfield 18, 3) := by decide +kernel
theorem dX1_renew_5 : decode cX1_renew 5 = .ok (.aload_n 0, 1) := by decide +kernel
theorem dX1_renew_6 : decode cX1_renew 6 = .ok (.iload_n 1, 1) := by decide +kernel
theorem dX1_renew_7 : decode cX1_renew 7 = .ok (.iload_n 2, 1) := by decide +kernel
theorem dX1_renew_8 : decode cX1_renew 8 = .ok (.imul, 1) := by decide +kernel
theorem dX1_renew_9 : decode cX1_renew 9 = .ok (.putfield 22, 3) := by decide +kernel
theorem dX1_renew_12 : decode cX1_renew 12 = .ok (.iconst 0, 1) := by decide +kernel
theorem dX1_renew_13 : decode cX1_renew 13 = .ok (.istore_n 3, 1) := by decide +kernel
theorem dX1_renew_14 : decode cX1_renew 14 = .ok (.iload_n 3, 1) := by decide +kernel
theorem dX1_renew_15 : decode cX1_renew 15 = .ok (.bipush 64, 2) := by decide +kernel
theorem dX1_renew_17 : decode cX1_renew 17 = .ok (.if_icmp .ge 32, 3) := by decide +kernel
theorem dX1_renew_20 : decode cX1_renew 20 = .ok (.aload_n 0, 1) := by decide +kernel
theorem dX1_renew_21 : decode cX1_renew 21 = .ok (.getfield 9, 3) := by decide +kernel
theorem dX1_renew_24 : decode cX1_renew 24 = .ok (.iload_n 3, 1) := by decide +kernel
theorem dX1_renew_25 : decode cX1_renew 25 = .ok (.iload_n 3, 1) := by decide +kernel
theorem dX1_renew_26 : decode cX1_renew 26 = .ok (.iload_n 1, 1) := by decide +kernel
theorem dX1_renew_27 : decode cX1_renew 27 = .ok (.if_icmp .ge 7, 3) := by decide +kernel
theorem dX1_renew_30 : decode cX1_renew 30 = .ok (.iload_n 2, 1) := by decide +kernel
theorem dX1_renew_31 : decode cX1_renew 31 = .ok (.goto 4, 3) := by decide +kernel
theorem dX1_renew_34 : decode cX1_renew 34 = .ok (.iconst 0, 1) := by decide +kernel
theorem dX1_renew_35 : decode cX1_renew 35 = .ok (.iastore, 1) := by decide +kernel
theorem dX1_renew_36 : decode cX1_renew 36 = .ok (.aload_n 0, 1) := by decide +kernel
theorem dX1_renew_37 : decode cX1_renew 37 = .ok (.getfield 15, 3) := by decide +kernel
theorem dX1_renew_40 : decode cX1_renew 40 = .ok (.iload_n 3, 1) := by decide +kernel
theorem dX1_renew_41 : decode cX1_renew 41 = .ok (.iconst (-1), 1) := by decide +kernel
theorem dX1_renew_42 : decode cX1_renew 42 = .ok (.iastore, 1) := by decide +kernel
theorem dX1_renew_43 : decode cX1_renew 43 = .ok (.iinc 3 1, 3) := by decide +kernel
theorem dX1_renew_46 : decode cX1_renew 46 = .ok (.goto (-32), 3) := by decide +kernel
theorem dX1_renew_49 : decode cX1_renew 49 = .ok (.return_, 1) := by decide +kernel
theorem dX1_raise_0 : decode cX1_raise 0 = .ok (.aload_n 0, 1) := by decide +kernel
theorem dX1_raise_1 : decode cX1_raise 1 = .ok (.getfield 9, 3) := by decide +kernel
theorem dX1_raise_4 : decode cX1_raise 4 = .ok (.iload_n 1, 1) := by decide +kernel
theorem dX1_raise_5 : decode cX1_raise 5 = .ok (.dup2, 1) := by decide +kernel
theorem dX1_raise_6 : decode cX1_raise 6 = .ok (.iaload, 1) := by decide +kernel
theorem dX1_raise_7 : decode cX1_raise 7 = .ok (.iload_n 2, 1) := by decide +kernel
theorem dX1_raise_8 : decode cX1_raise 8 = .ok (.iadd, 1) := by decide +kernel
theorem dX1_raise_9 : decode cX1_raise 9 = .ok (.iastore, 1) := by decide +kernel
theorem dX1_raise_10 : decode cX1_raise 10 = .ok (.aload_n 0, 1) := by decide +kernel
theorem dX1_raise_11 : decode cX1_raise 11 = .ok (.getfield 15, 3) := by decide +kernel
theorem dX1_raise_14 : decode cX1_raise 14 = .ok (.iload_n 1, 1) := by decide +kernel
theorem dX1_raise_15 : decode cX1_raise 15 = .ok (.iconst (-1), 1) := by decide +kernel
theorem dX1_raise_16 : decode cX1_raise 16 = .ok (.iastore, 1) := by decide +kernel
theorem dX1_raise_17 : decode cX1_raise 17 = .ok (.aload_n 0, 1) := by decide +kernel
theorem dX1_raise_18 : decode cX1_raise 18 = .ok (.dup, 1) := by decide +kernel
theorem dX1_raise_19 : decode cX1_raise 19 = .ok (.getfield 22, 3) := by decide +kernel
theorem dX1_raise_22 : decode cX1_raise 22 = .ok (.iload_n 2, 1) := by decide +kernel
theorem dX1_raise_23 : decode cX1_raise 23 = .ok (.iadd, 1) := by decide +kernel
theorem dX1_raise_24 : decode cX1_raise 24 = .ok (.putfield 22, 3) := by decide +kernel
theorem dX1_raise_27 : decode cX1_raise 27 = .ok (.return_, 1) := by decide +kernel
theorem dX1_press_0 : decode cX1_press 0 = .ok (.iload_n 1, 1) := by decide +kernel
theorem dX1_press_1 : decode cX1_press 1 = .ok (.istore 4, 2) := by decide +kernel
theorem dX1_press_3 : decode cX1_press 3 = .ok (.iload 4, 2) := by decide +kernel
theorem dX1_press_5 : decode cX1_press 5 = .ok (.iload_n 2, 1) := by decide +kernel
theorem dX1_press_6 : decode cX1_press 6 = .ok (.if_icmp .gt 57, 3) := by decide +kernel
theorem dX1_press_9 : decode cX1_press 9 = .ok (.aload_n 0, 1) := by decide +kernel
theorem dX1_press_10 : decode cX1_press 10 = .ok (.getfield 9, 3) := by decide +kernel
theorem dX1_press_13 : decode cX1_press 13 = .ok (.iload 4, 2) := by decide +kernel
theorem dX1_press_15 : decode cX1_press 15 = .ok (.aload_n 0, 1) := by decide +kernel
theorem dX1_press_16 : decode cX1_press 16 = .ok (.getfield 9, 3) := by decide +kernel
theorem dX1_press_19 : decode cX1_press 19 = .ok (.iload 4, 2) := by decide +kernel
theorem dX1_press_21 : decode cX1_press 21 = .ok (.iaload, 1) := by decide +kernel
theorem dX1_press_22 : decode cX1_press 22 = .ok (.iload_n 3, 1) := by decide +kernel
theorem dX1_press_23 : decode cX1_press 23 = .ok (.invokestatic 25, 3) := by decide +kernel
theorem dX1_press_26 : decode cX1_press 26 = .ok (.iastore, 1) := by decide +kernel
theorem dX1_press_27 : decode cX1_press 27 = .ok (.aload_n 0, 1) := by decide +kernel
theorem dX1_press_28 : decode cX1_press 28 = .ok (.getfield 15, 3) := by decide +kernel
theorem dX1_press_31 : decode cX1_press 31 = .ok (.iload 4, 2) := by decide +kernel
theorem dX1_press_33 : decode cX1_press 33 = .ok (.iaload, 1) := by decide +kernel
theorem dX1_press_34 : decode cX1_press 34 = .ok (.iconst (-1), 1) := by decide +kernel
theorem dX1_press_35 : decode cX1_press 35 = .ok (.if_icmp .eq 14, 3) := by decide +kernel
theorem dX1_press_38 : decode cX1_press 38 = .ok (.iload_n 3, 1) := by decide +kernel
theorem dX1_press_39 : decode cX1_press 39 = .ok (.aload_n 0, 1) := by decide +kernel
theorem dX1_press_40 : decode cX1_press 40 = .ok (.getfield 15, 3) := by decide +kernel
theorem dX1_press_43 : decode cX1_press 43 = .ok (.iload 4, 2) := by decide +kernel
theorem dX1_press_45 : decode cX1_press 45 = .ok (.iaload, 1) := by decide +kernel
theorem dX1_press_46 : decode cX1_press 46 = .ok (.if_icmp .ge 11, 3) := by decide +kernel
theorem dX1_press_49 : decode cX1_press 49 = .ok (.aload_n 0, 1) := by decide +kernel
theorem dX1_press_50 : decode cX1_press 50 = .ok (.getfield 15, 3) := by decide +kernel
theorem dX1_press_53 : decode cX1_press 53 = .ok (.iload 4, 2) := by decide +kernel
theorem dX1_press_55 : decode cX1_press 55 = .ok (.iload_n 3, 1) := by decide +kernel
theorem dX1_press_56 : decode cX1_press 56 = .ok (.iastore, 1) := by decide +kernel
theorem dX1_press_57 : decode cX1_press 57 = .ok (.iinc 4 1, 3) := by decide +kernel
theorem dX1_press_60 : decode cX1_press 60 = .ok (.goto (-57), 3) := by decide +kernel
theorem dX1_press_63 : decode cX1_press 63 = .ok (.return_, 1) := by decide +kernel
theorem dX1_earthAbove_0 : decode cX1_earthAbove 0 = .ok (.iconst 0, 1) := by decide +kernel
theorem dX1_earthAbove_1 : decode cX1_earthAbove 1 = .ok (.istore 4, 2) := by decide +kernel
theorem dX1_earthAbove_3 : decode cX1_earthAbove 3 = .ok (.iload_n 1, 1) := by decide +kernel
theorem dX1_earthAbove_4 : decode cX1_earthAbove 4 = .ok (.istore 5, 2) := by decide +kernel
theorem dX1_earthAbove_6 : decode cX1_earthAbove 6 = .ok (.iload 5, 2) := by decide +kernel
theorem dX1_earthAbove_8 : decode cX1_earthAbove 8 = .ok (.iload_n 2, 1) := by decide +kernel
theorem dX1_earthAbove_9 : decode cX1_earthAbove 9 = .ok (.if_icmp .gt 27, 3) := by decide +kernel
theorem dX1_earthAbove_12 : decode cX1_earthAbove 12 = .ok (.iload 4, 2) := by decide +kernel
theorem dX1_earthAbove_14 : decode cX1_earthAbove 14 = .ok (.aload_n 0, 1) := by decide +kernel
theorem dX1_earthAbove_15 : decode cX1_earthAbove 15 = .ok (.getfield 9, 3) := by decide +kernel
theorem dX1_earthAbove_18 : decode cX1_earthAbove 18 = .ok (.iload 5, 2) := by decide +kernel
theorem dX1_earthAbove_20 : decode cX1_earthAbove 20 = .ok (.iaload, 1) := by decide +kernel
theorem dX1_earthAbove_21 : decode cX1_earthAbove 21 = .ok (.iload_n 3, 1) := by decide +kernel
theorem dX1_earthAbove_22 : decode cX1_earthAbove 22 = .ok (.isub, 1) := by decide +kernel
theorem dX1_earthAbove_23 : decode cX1_earthAbove 23 = .ok (.iconst 0, 1) := by decide +kernel
theorem dX1_earthAbove_24 : decode cX1_earthAbove 24 = .ok (.invokestatic 31, 3) := by decide +kernel
theorem dX1_earthAbove_27 : decode cX1_earthAbove 27 = .ok (.iadd, 1) := by decide +kernel
theorem dX1_earthAbove_28 : decode cX1_earthAbove 28 = .ok (.istore 4, 2) := by decide +kernel
theorem dX1_earthAbove_30 : decode cX1_earthAbove 30 = .ok (.iinc 5 1, 3) := by decide +kernel
theorem dX1_earthAbove_33 : decode cX1_earthAbove 33 = .ok (.goto (-27), 3) := by decide +kernel
theorem dX1_earthAbove_36 : decode cX1_earthAbove 36 = .ok (.iload 4, 2) := by decide +kernel
theorem dX1_earthAbove_38 : decode cX1_earthAbove 38 = .ok (.ireturn, 1) := by decide +kernel
set_option maxRecDepth 20000 in
theorem ggX1_highestCeilingFor_X1_earthAbove : GoodIn wsX1_highestCeilingFor wsX1_earthAbove := goodIn_r _ [5, 6, 7, 8, 9, 10, 11, 12, 13, 14] (by decide +kernel) (by decide +kernel)
set_option maxRecDepth 20000 in
theorem gX1_highestCeilingFor_X1_earthAbove : GoodIn wsX1_highestCeilingFor (wsV RX1 34 RX1 yX1_earthAbove wsX1_earthAbove) := goodIn_app (goodIn_of _ (by decide +kernel)) ggX1_highestCeilingFor_X1_earthAbove
theorem dX1_highestCeilingFor_0 : decode cX1_highestCeilingFor 0 = .ok (.aload_n 0, 1) := by decide +kernel
theorem dX1_highestCeilingFor_1 : decode cX1_highestCeilingFor 1 = .ok (.iload_n 1, 1) := by decide +kernel
theorem dX1_highestCeilingFor_2 : decode cX1_highestCeilingFor 2 = .ok (.iload_n 2, 1) := by decide +kernel
theorem dX1_highestCeilingFor_3 : decode cX1_highestCeilingFor 3 = .ok (.iconst 0, 1) := by decide +kernel
theorem dX1_highestCeilingFor_4 : decode cX1_highestCeilingFor 4 = .ok (.invokevirtual 34, 3) := by decide +kernel
theorem dX1_highestCeilingFor_7 : decode cX1_highestCeilingFor 7 = .ok (.iload_n 3, 1) := by decide +kernel
theorem dX1_highestCeilingFor_8 : decode cX1_highestCeilingFor 8 = .ok (.if_icmp .ge 5, 3) := by decide +kernel
theorem dX1_highestCeilingFor_11 : decode cX1_highestCeilingFor 11 = .ok (.iconst (-1), 1) := by decide +kernel
theorem dX1_highestCeilingFor_12 : decode cX1_highestCeilingFor 12 = .ok (.ireturn, 1) := by decide +kernel
theorem dX1_highestCeilingFor_13 : decode cX1_highestCeilingFor 13 = .ok (.iconst 0, 1) := by decide +kernel
theorem dX1_highestCeilingFor_14 : decode cX1_highestCeilingFor 14 = .ok (.istore 4, 2) := by decide +kernel
theorem dX1_highestCeilingFor_16 : decode cX1_highestCeilingFor 16 = .ok (.sipush 512, 3) := by decide +kernel
theorem dX1_highestCeilingFor_19 : decode cX1_highestCeilingFor 19 = .ok (.istore 5, 2) := by decide +kernel
theorem dX1_highestCeilingFor_21 : decode cX1_highestCeilingFor 21 = .ok (.iload 5, 2) := by decide +kernel
theorem dX1_highestCeilingFor_23 : decode cX1_highestCeilingFor 23 = .ok (.ifCond .le 34, 3) := by decide +kernel
theorem dX1_highestCeilingFor_26 : decode cX1_highestCeilingFor 26 = .ok (.aload_n 0, 1) := by decide +kernel
theorem dX1_highestCeilingFor_27 : decode cX1_highestCeilingFor 27 = .ok (.iload_n 1, 1) := by decide +kernel
theorem dX1_highestCeilingFor_28 : decode cX1_highestCeilingFor 28 = .ok (.iload_n 2, 1) := by decide +kernel
theorem dX1_highestCeilingFor_29 : decode cX1_highestCeilingFor 29 = .ok (.iload 4, 2) := by decide +kernel
theorem dX1_highestCeilingFor_31 : decode cX1_highestCeilingFor 31 = .ok (.iload 5, 2) := by decide +kernel
theorem dX1_highestCeilingFor_33 : decode cX1_highestCeilingFor 33 = .ok (.iadd, 1) := by decide +kernel
theorem dX1_highestCeilingFor_34 : decode cX1_highestCeilingFor 34 = .ok (.invokevirtual 34, 3) := by decide +kernel
theorem dX1_highestCeilingFor_37 : decode cX1_highestCeilingFor 37 = .ok (.iload_n 3, 1) := by decide +kernel
theorem dX1_highestCeilingFor_38 : decode cX1_highestCeilingFor 38 = .ok (.if_icmp .lt 10, 3) := by decide +kernel
theorem dX1_highestCeilingFor_41 : decode cX1_highestCeilingFor 41 = .ok (.iload 4, 2) := by decide +kernel
theorem dX1_highestCeilingFor_43 : decode cX1_highestCeilingFor 43 = .ok (.iload 5, 2) := by decide +kernel
theorem dX1_highestCeilingFor_45 : decode cX1_highestCeilingFor 45 = .ok (.iadd, 1) := by decide +kernel
theorem dX1_highestCeilingFor_46 : decode cX1_highestCeilingFor 46 = .ok (.istore 4, 2) := by decide +kernel
theorem dX1_highestCeilingFor_48 : decode cX1_highestCeilingFor 48 = .ok (.iload 5, 2) := by decide +kernel
theorem dX1_highestCeilingFor_50 : decode cX1_highestCeilingFor 50 = .ok (.iconst 2, 1) := by decide +kernel
theorem dX1_highestCeilingFor_51 : decode cX1_highestCeilingFor 51 = .ok (.idiv, 1) := by decide +kernel
theorem dX1_highestCeilingFor_52 : decode cX1_highestCeilingFor 52 = .ok (.istore 5, 2) := by decide +kernel
theorem dX1_highestCeilingFor_54 : decode cX1_highestCeilingFor 54 = .ok (.goto (-33), 3) := by decide +kernel
theorem dX1_highestCeilingFor_57 : decode cX1_highestCeilingFor 57 = .ok (.iload 4, 2) := by decide +kernel
theorem dX1_highestCeilingFor_59 : decode cX1_highestCeilingFor 59 = .ok (.ireturn, 1) := by decide +kernel
set_option maxRecDepth 20000 in
theorem ggX2_init_X0_init : GoodIn wsX2_init wsX0_init := goodIn_r _ [14, 15, 2, 3, 16, 17, 18, 19, 20, 21, 22, 53, 54, 55, 56, 57, 58, 59, 60, 61] (by decide +kernel) (by decide +kernel)
set_option maxRecDepth 20000 in
theorem gX2_init_X0_init_n11 : GoodIn wsX2_init (wsX0_init) := ggX2_init_X0_init
set_option maxRecDepth 20000 in
theorem ggX2_init_X1_init : GoodIn wsX2_init wsX1_init := goodIn_r _ [24, 25, 2, 3, 16, 26, 27, 65, 66, 67, 68] (by decide +kernel) (by decide +kernel)
set_option maxRecDepth 20000 in
theorem gX2_init_X1_init_n18 : GoodIn wsX2_init (wsX1_init) := ggX2_init_X1_init
set_option maxRecDepth 20000 in
theorem ggX2_init_X0_renew : GoodIn wsX2_init wsX0_renew := goodIn_r _ [31, 18, 17, 19, 20, 21, 22, 32, 33, 34, 35, 36, 37, 6, 38, 39, 40, 41, 42, 43, 44, 45, 46, 53, 54, 55, 56, 57, 58, 59, 60, 61] (by decide +kernel) (by decide +kernel)
set_option maxRecDepth 20000 in
theorem gX2_init_X0_renew : GoodIn wsX2_init (wsV RX2 23 RX0 yX0_renew wsX0_renew) := goodIn_app (goodIn_of _ (by decide +kernel)) ggX2_init_X0_renew
set_option maxRecDepth 20000 in
theorem ggX2_init_X1_renew : GoodIn wsX2_init wsX1_renew := goodIn_r _ [50, 51, 52, 26, 27, 65, 66, 67, 68] (by decide +kernel) (by decide +kernel)
set_option maxRecDepth 20000 in
theorem gX2_init_X1_renew : GoodIn wsX2_init (wsV RX2 27 RX1 yX1_renew wsX1_renew) := goodIn_app (goodIn_of _ (by decide +kernel)) ggX2_init_X1_renew
theorem dX2_init_0 : decode cX2_init 0 = .ok (.aload_n 0, 1) := by decide +kernel
theorem dX2_init_1 : decode cX2_init 1 = .ok (.invokespecial 3, 3) := by decide +kernel
theorem dX2_init_4 : decode cX2_init 4 = .ok (.aload_n 0, 1) := by decide +kernel
theorem dX2_init_5 : decode cX2_init 5 = .ok (.new 9, 3) := by decide +kernel
theorem dX2_init_8 : decode cX2_init 8 = .ok (.dup, 1) := by decide +kernel
theorem dX2_init_9 : decode cX2_init 9 = .ok (.invokespecial 11, 3) := by decide +kernel
theorem dX2_init_12 : decode cX2_init 12 = .ok (.putfield 12, 3) := by decide +kernel
theorem dX2_init_15 : decode cX2_init 15 = .ok (.aload_n 0, 1) := by decide +kernel
theorem dX2_init_16 : decode cX2_init 16 = .ok (.new 16, 3) := by decide +kernel
theorem dX2_init_19 : decode cX2_init 19 = .ok (.dup, 1) := by decide +kernel
theorem dX2_init_20 : decode cX2_init 20 = .ok (.invokespecial 18, 3) := by decide +kernel
theorem dX2_init_23 : decode cX2_init 23 = .ok (.putfield 19, 3) := by decide +kernel
theorem dX2_init_26 : decode cX2_init 26 = .ok (.aload_n 0, 1) := by decide +kernel
theorem dX2_init_27 : decode cX2_init 27 = .ok (.getfield 12, 3) := by decide +kernel
theorem dX2_init_30 : decode cX2_init 30 = .ok (.iconst 1, 1) := by decide +kernel
theorem dX2_init_31 : decode cX2_init 31 = .ok (.iconst 0, 1) := by decide +kernel
theorem dX2_init_32 : decode cX2_init 32 = .ok (.invokevirtual 23, 3) := by decide +kernel
theorem dX2_init_35 : decode cX2_init 35 = .ok (.aload_n 0, 1) := by decide +kernel
theorem dX2_init_36 : decode cX2_init 36 = .ok (.getfield 19, 3) := by decide +kernel
theorem dX2_init_39 : decode cX2_init 39 = .ok (.iconst 1, 1) := by decide +kernel
theorem dX2_init_40 : decode cX2_init 40 = .ok (.iconst 0, 1) := by decide +kernel
theorem dX2_init_41 : decode cX2_init 41 = .ok (.invokevirtual 27, 3) := by decide +kernel
theorem dX2_init_44 : decode cX2_init 44 = .ok (.aload_n 0, 1) := by decide +kernel
theorem dX2_init_45 : decode cX2_init 45 = .ok (.iconst 0, 1) := by decide +kernel
theorem dX2_init_46 : decode cX2_init 46 = .ok (.putfield 28, 3) := by decide +kernel
theorem dX2_init_49 : decode cX2_init 49 = .ok (.return_, 1) := by decide +kernel
set_option maxRecDepth 20000 in
theorem ggX2_layOut_X2_requireInRange : GoodIn wsX2_layOut wsX2_requireInRange := goodIn_ca (goodIn_r _ [7, 8, 9] (by decide +kernel) (by decide +kernel)) (goodIn_sub (fun _ h => List.mem_cons_of_mem _ (List.mem_append_right _ h)) (by decide +kernel))
set_option maxRecDepth 20000 in
theorem gX2_layOut_X2_requireInRange : GoodIn wsX2_layOut (va_wsS RX2 32 yX2_requireInRange wsX2_requireInRange) := goodIn_app (goodIn_of _ (by decide +kernel)) ggX2_layOut_X2_requireInRange
set_option maxRecDepth 20000 in
theorem ggX2_layOut_X0_renew : GoodIn wsX2_layOut wsX0_renew := goodIn_r _ [14, 15, 16, 17, 18, 19, 20, 21, 22, 23, 24, 25, 26, 13, 27, 28, 29, 30, 31, 32, 33, 34, 35, 48, 49, 50, 51, 52, 53, 54, 55, 56] (by decide +kernel) (by decide +kernel)
set_option maxRecDepth 20000 in
theorem gX2_layOut_X0_renew : GoodIn wsX2_layOut (wsV RX2 23 RX0 yX0_renew wsX0_renew) := goodIn_app (goodIn_of _ (by decide +kernel)) ggX2_layOut_X0_renew
set_option maxRecDepth 20000 in
theorem ggX2_layOut_X1_renew : GoodIn wsX2_layOut wsX1_renew := goodIn_r _ [40, 41, 42, 43, 44, 57, 58, 59, 60] (by decide +kernel) (by decide +kernel)
set_option maxRecDepth 20000 in
theorem gX2_layOut_X1_renew : GoodIn wsX2_layOut (wsV RX2 27 RX1 yX1_renew wsX1_renew) := goodIn_app (goodIn_of _ (by decide +kernel)) ggX2_layOut_X1_renew
theorem dX2_layOut_0 : decode cX2_layOut 0 = .ok (.iload_n 1, 1) := by decide +kernel
theorem dX2_layOut_1 : decode cX2_layOut 1 = .ok (.iconst 1, 1) := by decide +kernel
theorem dX2_layOut_2 : decode cX2_layOut 2 = .ok (.bipush 64, 2) := by decide +kernel
theorem dX2_layOut_4 : decode cX2_layOut 4 = .ok (.invokestatic 32, 3) := by decide +kernel
theorem dX2_layOut_7 : decode cX2_layOut 7 = .ok (.iload_n 2, 1) := by decide +kernel
theorem dX2_layOut_8 : decode cX2_layOut 8 = .ok (.iconst 0, 1) := by decide +kernel
theorem dX2_layOut_9 : decode cX2_layOut 9 = .ok (.sipush 1000, 3) := by decide +kernel
theorem dX2_layOut_12 : decode cX2_layOut 12 = .ok (.invokestatic 32, 3) := by decide +kernel
theorem dX2_layOut_15 : decode cX2_layOut 15 = .ok (.aload_n 0, 1) := by decide +kernel
theorem dX2_layOut_16 : decode cX2_layOut 16 = .ok (.getfield 12, 3) := by decide +kernel
theorem dX2_layOut_19 : decode cX2_layOut 19 = .ok (.iload_n 1, 1) := by decide +kernel
theorem dX2_layOut_20 : decode cX2_layOut 20 = .ok (.iload_n 2, 1) := by decide +kernel
theorem dX2_layOut_21 : decode cX2_layOut 21 = .ok (.invokevirtual 23, 3) := by decide +kernel
theorem dX2_layOut_24 : decode cX2_layOut 24 = .ok (.aload_n 0, 1) := by decide +kernel
theorem dX2_layOut_25 : decode cX2_layOut 25 = .ok (.getfield 19, 3) := by decide +kernel
theorem dX2_layOut_28 : decode cX2_layOut 28 = .ok (.iload_n 1, 1) := by decide +kernel
theorem dX2_layOut_29 : decode cX2_layOut 29 = .ok (.iload_n 2, 1) := by decide +kernel
theorem dX2_layOut_30 : decode cX2_layOut 30 = .ok (.invokevirtual 27, 3) := by decide +kernel
theorem dX2_layOut_33 : decode cX2_layOut 33 = .ok (.aload_n 0, 1) := by decide +kernel
theorem dX2_layOut_34 : decode cX2_layOut 34 = .ok (.iconst 0, 1) := by decide +kernel
theorem dX2_layOut_35 : decode cX2_layOut 35 = .ok (.putfield 28, 3) := by decide +kernel
theorem dX2_layOut_38 : decode cX2_layOut 38 = .ok (.iload_n 1, 1) := by decide +kernel
theorem dX2_layOut_39 : decode cX2_layOut 39 = .ok (.iload_n 2, 1) := by decide +kernel
theorem dX2_layOut_40 : decode cX2_layOut 40 = .ok (.imul, 1) := by decide +kernel
theorem dX2_layOut_41 : decode cX2_layOut 41 = .ok (.ireturn, 1) := by decide +kernel
set_option maxRecDepth 20000 in
theorem ggX2_pile_X2_requireColumn : GoodIn wsX2_pile wsX2_requireColumn := goodIn_ca (goodIn_r _ [9, 10, 11, 3, 87, 88, 89, 90, 91, 92, 93] (by decide +kernel) (by decide +kernel)) (goodIn_sub (fun _ h => List.mem_cons_of_mem _ (List.mem_append_left _ (List.mem_append_right _ h))) (by decide +kernel))
set_option maxRecDepth 20000 in
theorem gX2_pile_X2_requireColumn : GoodIn wsX2_pile (wsV RX2 36 RX2 yX2_requireColumn wsX2_requireColumn) := goodIn_app (goodIn_of _ (by decide +kernel)) ggX2_pile_X2_requireColumn
set_option maxRecDepth 20000 in
theorem ggX2_pile_X2_requireInRange : GoodIn wsX2_pile wsX2_requireInRange := goodIn_ca (goodIn_r _ [14, 15, 16] (by decide +kernel) (by decide +kernel)) (goodIn_sub (fun _ h => List.mem_cons_of_mem _ (List.mem_append_right _ h)) (by decide +kernel))
set_option maxRecDepth 20000 in
theorem gX2_pile_X2_requireInRange : GoodIn wsX2_pile (va_wsS RX2 32 yX2_requireInRange wsX2_requireInRange) := goodIn_app (goodIn_of _ (by decide +kernel)) ggX2_pile_X2_requireInRange
set_option maxRecDepth 20000 in
theorem ggX2_pile_X1_raise : GoodIn wsX2_pile wsX1_raise := goodIn_r _ [21, 22, 23, 24, 90, 91, 92, 93] (by decide +kernel) (by decide +kernel)
set_option maxRecDepth 20000 in
theorem gX2_pile_X1_raise : GoodIn wsX2_pile (wsV RX2 51 RX1 yX1_raise wsX1_raise) := goodIn_app (goodIn_of _ (by decide +kernel)) ggX2_pile_X1_raise
set_option maxRecDepth 20000 in
theorem ggX2_pile_X0_raise : GoodIn wsX2_pile wsX0_raise := goodIn_r _ [29, 30, 31, 32, 28, 33, 34, 35, 36, 37, 38, 39, 40, 41, 42, 43, 44, 45, 46, 47, 48, 49, 50, 51, 52, 53, 54, 55, 56, 57, 58, 59, 60, 61, 62, 63, 64, 65, 66, 67, 68, 69, 70, 71, 72, 73, 74, 75, 76, 77, 78, 79, 80, 81, 82, 83, 84, 85, 86, 94, 95, 96, 97, 98, 99, 100, 101, 102] (by decide +kernel) (by decide +kernel)
set_option maxRecDepth 20000 in
theorem gX2_pile_X0_raise : GoodIn wsX2_pile (wsV RX2 54 RX0 yX0_raise wsX0_raise) := goodIn_app (goodIn_of _ (by decide +kernel)) ggX2_pile_X0_raise
theorem dX2_pile_0 : decode cX2_pile 0 = .ok (.aload_n 0, 1) := by decide +kernel
theorem dX2_pile_1 : decode cX2_pile 1 = .ok (.iload_n 1, 1) := by decide +kernel
theorem dX2_pile_2 : decode cX2_pile 2 = .ok (.invokevirtual 36, 3) := by decide +kernel
theorem dX2_pile_5 : decode cX2_pile 5 = .ok (.iload_n 2, 1) := by decide +kernel
theorem dX2_pile_6 : decode cX2_pile 6 = .ok (.iconst 1, 1) := by decide +kernel
theorem dX2_pile_7 : decode cX2_pile 7 = .ok (.sipush 1000, 3) := by decide +kernel
theorem dX2_pile_10 : decode cX2_pile 10 = .ok (.invokestatic 32, 3) := by decide +kernel
theorem dX2_pile_13 : decode cX2_pile 13 = .ok (.aload_n 0, 1) := by decide +kernel
theorem dX2_pile_14 : decode cX2_pile 14 = .ok (.getfield 19, 3) := by decide +kernel
theorem dX2_pile_17 : decode cX2_pile 17 = .ok (.getfield 40, 3) := by decide +kernel
theorem dX2_pile_20 : decode cX2_pile 20 = .ok (.iload_n 1, 1) := by decide +kernel
theorem dX2_pile_21 : decode cX2_pile 21 = .ok (.iaload, 1) := by decide +kernel
theorem dX2_pile_22 : decode cX2_pile 22 = .ok (.iload_n 2, 1) := by decide +kernel
theorem dX2_pile_23 : decode cX2_pile 23 = .ok (.iadd, 1) := by decide +kernel
theorem dX2_pile_24 : decode cX2_pile 24 = .ok (.istore_n 3, 1) := by decide +kernel
theorem dX2_pile_25 : decode cX2_pile 25 = .ok (.iload_n 3, 1) := by decide +kernel
theorem dX2_pile_26 : decode cX2_pile 26 = .ok (.sipush 1000, 3) := by decide +kernel
theorem dX2_pile_29 : decode cX2_pile 29 = .ok (.if_icmp .le 13, 3) := by decide +kernel
theorem dX2_pile_32 : decode cX2_pile 32 = .ok (.new 44, 3) := by decide +kernel
theorem dX2_pile_35 : decode cX2_pile 35 = .ok (.dup, 1) := by decide +kernel
theorem dX2_pile_36 : decode cX2_pile 36 = .ok (.ldc 46, 2) := by decide +kernel
theorem dX2_pile_38 : decode cX2_pile 38 = .ok (.invokespecial 48, 3) := by decide +kernel
theorem dX2_pile_41 : decode cX2_pile 41 = .ok (.athrow, 1) := by decide +kernel
theorem dX2_pile_42 : decode cX2_pile 42 = .ok (.aload_n 0, 1) := by decide +kernel
theorem dX2_pile_43 : decode cX2_pile 43 = .ok (.getfield 19, 3) := by decide +kernel
theorem dX2_pile_46 : decode cX2_pile 46 = .ok (.iload_n 1, 1) := by decide +kernel
theorem dX2_pile_47 : decode cX2_pile 47 = .ok (.iload_n 2, 1) := by decide +kernel
theorem dX2_pile_48 : decode cX2_pile 48 = .ok (.invokevirtual 51, 3) := by decide +kernel
theorem dX2_pile_51 : decode cX2_pile 51 = .ok (.aload_n 0, 1) := by decide +kernel
theorem dX2_pile_52 : decode cX2_pile 52 = .ok (.getfield 12, 3) := by decide +kernel
theorem dX2_pile_55 : decode cX2_pile 55 = .ok (.iload_n 1, 1) := by decide +kernel
theorem dX2_pile_56 : decode cX2_pile 56 = .ok (.iload_n 3, 1) := by decide +kernel
theorem dX2_pile_57 : decode cX2_pile 57 = .ok (.invokevirtual 54, 3) := by decide +kernel
theorem dX2_pile_60 : decode cX2_pile 60 = .ok (.iload_n 3, 1) := by decide +kernel
theorem dX2_pile_61 : decode cX2_pile 61 = .ok (.ireturn, 1) := by decide +kernel
set_option maxRecDepth 20000 in
theorem ggX2_lower_X2_requireSpan : GoodIn wsX2_lower wsX2_requireSpan := goodIn_ca (goodIn_ca (goodIn_r _ [8, 9, 10, 11, 12, 13, 7, 14, 15, 16, 2, 100, 101, 102, 103, 104, 105, 106] (by decide +kernel) (by decide +kernel)) (goodIn_sub (fun _ h => List.mem_cons_of_mem _ (List.mem_append_left _ (List.mem_append_right _ h))) (by decide +kernel))) (goodIn_sub (fun _ h => List.mem_cons_of_mem _ (List.mem_append_right _ h)) (by decide +kernel))
set_option maxRecDepth 20000 in
theorem gX2_lower_X2_requireSpan : GoodIn wsX2_lower (wsV RX2 55 RX2 yX2_requireSpan wsX2_requireSpan) := goodIn_app (goodIn_of _ (by decide +kernel)) ggX2_lower_X2_requireSpan
set_option maxRecDepth 20000 in
theorem ggX2_lower_X2_requireInRange : GoodIn wsX2_lower wsX2_requireInRange := goodIn_ca (goodIn_r _ [19, 9, 10] (by decide +kernel) (by decide +kernel)) (goodIn_sub (fun _ h => List.mem_cons_of_mem _ (List.mem_append_left _ (List.mem_append_right _ h))) (by decide +kernel))
set_option maxRecDepth 20000 in
theorem gX2_lower_X2_requireInRange : GoodIn wsX2_lower (va_wsS RX2 32 yX2_requireInRange wsX2_requireInRange) := goodIn_app (goodIn_of _ (by decide +kernel)) ggX2_lower_X2_requireInRange
set_option maxRecDepth 20000 in
theorem ggX2_lower_X0_press : GoodIn wsX2_lower wsX0_press := goodIn_r _ [24, 25, 26, 27, 28, 23, 29, 30, 31, 32, 33, 34, 35, 36, 37, 38, 39, 40, 41, 42, 43, 44, 45, 46, 47, 48, 49, 50, 51, 52, 53, 54, 55, 56, 57, 58, 59, 60, 61, 62, 63, 64, 65, 66, 67, 68, 69, 70, 71, 72, 73, 74, 75, 76, 77, 78, 79, 80, 81, 82, 83, 84, 85, 86, 87, 88, 89, 107, 108, 109, 110, 111, 112, 113, 114, 115] (by decide +kernel) (by decide +kernel)
set_option maxRecDepth 20000 in
theorem gX2_lower_X0_press : GoodIn wsX2_lower (wsV RX2 58 RX0 yX0_press wsX0_press) := goodIn_app (goodIn_of _ (by decide +kernel)) ggX2_lower_X0_press
set_option maxRecDepth 20000 in
theorem ggX2_lower_X1_press : GoodIn wsX2_lower wsX1_press := goodIn_r _ [94, 95, 96, 97, 80, 98, 99, 103, 104, 105, 106] (by decide +kernel) (by decide +kernel)
set_option maxRecDepth 20000 in
theorem gX2_lower_X1_press : GoodIn wsX2_lower (wsV RX2 62 RX1 yX1_press wsX1_press) := goodIn_app (goodIn_of _ (by decide +kernel)) ggX2_lower_X1_press
theorem dX2_lower_0 : decode cX2_lower 0 = .ok (.aload_n 0, 1) := by decide +kernel
theorem dX2_lower_1 : decode cX2_lower 1 = .ok (.iload_n 1, 1) := by decide +kernel
theorem dX2_lower_2 : decode cX2_lower 2 = .ok (.iload_n 2, 1) := by decide +kernel
theorem dX2_lower_3 : decode cX2_lower 3 = .ok (.invokevirtual 55, 3) := by decide +kernel
theorem dX2_lower_6 : decode cX2_lower 6 = .ok (.iload_n 3, 1) := by decide +kernel
theorem dX2_lower_7 : decode cX2_lower 7 = .ok (.iconst 0, 1) := by decide +kernel
theorem dX2_lower_8 : decode cX2_lower 8 = .ok (.sipush 1000, 3) := by decide +kernel
theorem dX2_lower_11 : decode cX2_lower 11 = .ok (.invokestatic 32, 3) := by decide +kernel
theorem dX2_lower_14 : decode cX2_lower 14 = .ok (.aload_n 0, 1) := by decide +kernel
theorem dX2_lower_15 : decode cX2_lower 15 = .ok (.getfield 12, 3) := by decide +kernel
theorem dX2_lower_18 : decode cX2_lower 18 = .ok (.iload_n 1, 1) := by decide +kernel
theorem dX2_lower_19 : decode cX2_lower 19 = .ok (.iload_n 2, 1) := by decide +kernel
theorem dX2_lower_20 : decode cX2_lower 20 = .ok (.iload_n 3, 1) := by decide +kernel
theorem dX2_lower_21 : decode cX2_lower 21 = .ok (.invokevirtual 58, 3) := by decide +kernel
theorem dX2_lower_24 : decode cX2_lower 24 = .ok (.istore 4, 2) := by decide +kernel
theorem dX2_lower_26 : decode cX2_lower 26 = .ok (.aload_n 0, 1) := by decide +kernel
theorem dX2_lower_27 : decode cX2_lower 27 = .ok (.getfield 19, 3) := by decide +kernel
theorem dX2_lower_30 : decode cX2_lower 30 = .ok (.iload_n 1, 1) := by decide +kernel
theorem dX2_lower_31 : decode cX2_lower 31 = .ok (.iload_n 2, 1) := by decide +kernel
theorem dX2_lower_32 : decode cX2_lower 32 = .ok (.iload_n 3, 1) := by decide +kernel
theorem dX2_lower_33 : decode cX2_lower 33 = .ok (.invokevirtual 62, 3) := by decide +kernel
theorem dX2_lower_36 : decode cX2_lower 36 = .ok (.aload_n 0, 1) := by decide +kernel
theorem dX2_lower_37 : decode cX2_lower 37 = .ok (.dup, 1) := by decide +kernel
theorem dX2_lower_38 : decode cX2_lower 38 = .ok (.getfield 28, 3) := by decide +kernel
theorem dX2_lower_41 : decode cX2_lower 41 = .ok (.iload 4, 2) := by decide +kernel
theorem dX2_lower_43 : decode cX2_lower 43 = .ok (.iadd, 1) := by decide +kernel
theorem dX2_lower_44 : decode cX2_lower 44 = .ok (.putfield 28, 3) := by decide +kernel
theorem dX2_lower_47 : decode cX2_lower 47 = .ok (.iload 4, 2) := by decide +kernel
theorem dX2_lower_49 : decode cX2_lower 49 = .ok (.ireturn, 1) := by decide +kernel
set_option maxRecDepth 20000 in
theorem ggX2_earth_X2_requireSpan : GoodIn wsX2_earth wsX2_requireSpan := goodIn_ca (goodIn_ca (goodIn_r _ [6, 7, 8, 9, 10, 11, 5, 12, 13, 14, 15, 69, 70, 71, 72, 73, 74, 75] (by decide +kernel) (by decide +kernel)) (goodIn_sub (fun _ h => List.mem_cons_of_mem _ (List.mem_append_left _ (List.mem_append_right _ h))) (by decide +kernel))) (goodIn_sub (fun _ h => List.mem_cons_of_mem _ (List.mem_append_right _ h)) (by decide +kernel))
set_option maxRecDepth 20000 in
theorem gX2_earth_X2_requireSpan : GoodIn wsX2_earth (wsV RX2 55 RX2 yX2_requireSpan wsX2_requireSpan) := goodIn_app (goodIn_of _ (by decide +kernel)) ggX2_earth_X2_requireSpan
set_option maxRecDepth 20000 in
theorem ggX2_earth_X0_askSum : GoodIn wsX2_earth wsX0_askSum := goodIn_r _ [20, 21, 22, 23, 19, 24, 25, 26, 27, 28, 29, 30, 31, 32, 33, 34, 35, 36, 37, 38, 39, 40, 41, 42, 43, 44, 45, 46, 47, 48, 49, 50, 51, 52, 53, 54, 55, 56, 57, 58, 59, 60, 61, 62, 63, 64, 65, 66, 67, 68, 76, 77, 78, 79, 80, 81, 82, 83, 84] (by decide +kernel) (by decide +kernel)
set_option maxRecDepth 20000 in
theorem gX2_earth_X0_askSum : GoodIn wsX2_earth (wsV RX2 64 RX0 yX0_askSum wsX0_askSum) := goodIn_app (goodIn_of _ (by decide +kernel)) ggX2_earth_X0_askSum
theorem dX2_earth_0 : decode cX2_earth 0 = .ok (.aload_n 0, 1) := by decide +kernel
theorem dX2_earth_1 : decode cX2_earth 1 = .ok (.iload_n 1, 1) := by decide +kernel
theorem dX2_earth_2 : decode cX2_earth 2 = .ok (.iload_n 2, 1) := by decide +kernel
theorem dX2_earth_3 : decode cX2_earth 3 = .ok (.invokevirtual 55, 3) := by decide +kernel
theorem dX2_earth_6 : decode cX2_earth 6 = .ok (.aload_n 0, 1) := by decide +kernel
theorem dX2_earth_7 : decode cX2_earth 7 = .ok (.getfield 12, 3) := by decide +kernel
theorem dX2_earth_10 : decode cX2_earth 10 = .ok (.iload_n 1, 1) := by decide +kernel
theorem dX2_earth_11 : decode cX2_earth 11 = .ok (.iload_n 2, 1) := by decide +kernel
theorem dX2_earth_12 : decode cX2_earth 12 = .ok (.invokevirtual 64, 3) := by decide +kernel
theorem dX2_earth_15 : decode cX2_earth 15 = .ok (.ireturn, 1) := by decide +kernel
set_option maxRecDepth 20000 in
theorem ggX2_earthByColumns_X2_requireSpan : GoodIn wsX2_earthByColumns wsX2_requireSpan := goodIn_ca (goodIn_ca (goodIn_r _ [6, 7, 8, 9, 10, 11, 5, 12, 13, 14, 1, 25, 26, 27, 28, 29, 30, 31] (by decide +kernel) (by decide +kernel)) (goodIn_sub (fun _ h => List.mem_cons_of_mem _ (List.mem_append_left _ (List.mem_append_right _ h))) (by decide +kernel))) (goodIn_sub (fun _ h => List.mem_cons_of_mem _ (List.mem_append_right _ h)) (by decide +kernel))
set_option maxRecDepth 20000 in
theorem gX2_earthByColumns_X2_requireSpan : GoodIn wsX2_earthByColumns (wsV RX2 55 RX2 yX2_requireSpan wsX2_requireSpan) := goodIn_app (goodIn_of _ (by decide +kernel)) ggX2_earthByColumns_X2_requireSpan
set_option maxRecDepth 20000 in
theorem ggX2_earthByColumns_X1_earthAbove : GoodIn wsX2_earthByColumns wsX1_earthAbove := goodIn_r _ [19, 20, 21, 22, 23, 24, 28, 29, 30, 31] (by decide +kernel) (by decide +kernel)
set_option maxRecDepth 20000 in
theorem gX2_earthByColumns_X1_earthAbove : GoodIn wsX2_earthByColumns (wsV RX2 68 RX1 yX1_earthAbove wsX1_earthAbove) := goodIn_app (goodIn_of _ (by decide +kernel)) ggX2_earthByColumns_X1_earthAbove
theorem dX2_earthByColumns_0 : decode cX2_earthByColumns 0 = .ok (.aload_n 0, 1) := by decide +kernel
theorem dX2_earthByColumns_1 : decode cX2_earthByColumns 1 = .ok (.iload_n 1, 1) := by decide +kernel
theorem dX2_earthByColumns_2 : decode cX2_earthByColumns 2 = .ok (.iload_n 2, 1) := by decide +kernel
theorem dX2_earthByColumns_3 : decode cX2_earthByColumns 3 = .ok (.invokevirtual 55, 3) := by decide +kernel
theorem dX2_earthByColumns_6 : decode cX2_earthByColumns 6 = .ok (.aload_n 0, 1) := by decide +kernel
theorem dX2_earthByColumns_7 : decode cX2_earthByColumns 7 = .ok (.getfield 19, 3) := by decide +kernel
theorem dX2_earthByColumns_10 : decode cX2_earthByColumns 10 = .ok (.iload_n 1, 1) := by decide +kernel
theorem dX2_earthByColumns_11 : decode cX2_earthByColumns 11 = .ok (.iload_n 2, 1) := by decide +kernel
theorem dX2_earthByColumns_12 : decode cX2_earthByColumns 12 = .ok (.iconst 0, 1) := by decide +kernel
theorem dX2_earthByColumns_13 : decode cX2_earthByColumns 13 = .ok (.invokevirtual 68, 3) := by decide +kernel
theorem dX2_earthByColumns_16 : decode cX2_earthByColumns 16 = .ok (.ireturn, 1) := by decide +kernel
set_option maxRecDepth 20000 in
theorem ggX2_top_X2_requireSpan : GoodIn wsX2_top wsX2_requireSpan := goodIn_ca (goodIn_ca (goodIn_r _ [6, 7, 8, 9, 10, 11, 5, 12, 13, 14, 15, 73, 74, 75, 76, 77, 78, 79] (by decide +kernel) (by decide +kernel)) (goodIn_sub (fun _ h => List.mem_cons_of_mem _ (List.mem_append_left _ (List.mem_append_right _ h))) (by decide +kernel))) (goodIn_sub (fun _ h => List.mem_cons_of_mem _ (List.mem_append_right _ h)) (by decide +kernel))
set_option maxRecDepth 20000 in
theorem gX2_top_X2_requireSpan : GoodIn wsX2_top (wsV RX2 55 RX2 yX2_requireSpan wsX2_requireSpan) := goodIn_app (goodIn_of _ (by decide +kernel)) ggX2_top_X2_requireSpan
set_option maxRecDepth 20000 in
theorem ggX2_top_X0_askGreatest : GoodIn wsX2_top wsX0_askGreatest := goodIn_r _ [20, 21, 22, 23, 19, 24, 25, 26, 27, 28, 29, 30, 31, 32, 33, 34, 35, 36, 37, 38, 39, 40, 41, 42, 43, 44, 45, 46, 47, 48, 49, 50, 51, 52, 53, 54, 55, 56, 57, 58, 59, 60, 61, 62, 63, 64, 65, 66, 67, 68, 69, 70, 71, 72, 80, 81, 82, 83, 84, 85, 86, 87, 88] (by decide +kernel) (by decide +kernel)
set_option maxRecDepth 20000 in
theorem gX2_top_X0_askGreatest : GoodIn wsX2_top (wsV RX2 71 RX0 yX0_askGreatest wsX0_askGreatest) := goodIn_app (goodIn_of _ (by decide +kernel)) ggX2_top_X0_askGreatest
theorem dX2_top_0 : decode cX2_top 0 = .ok (.aload_n 0, 1) := by decide +kernel
theorem dX2_top_1 : decode cX2_top 1 = .ok (.iload_n 1, 1) := by decide +kernel
theorem dX2_top_2 : decode cX2_top 2 = .ok (.iload_n 2, 1) := by decide +kernel
theorem dX2_top_3 : decode cX2_top 3 = .ok (.invokevirtual 55, 3) := by decide +kernel
theorem dX2_top_6 : decode cX2_top 6 = .ok (.aload_n 0, 1) := by decide +kernel
theorem dX2_top_7 : decode cX2_top 7 = .ok (.getfield 12, 3) := by decide +kernel
theorem dX2_top_10 : decode cX2_top 10 = .ok (.iload_n 1, 1) := by decide +kernel
theorem dX2_top_11 : decode cX2_top 11 = .ok (.iload_n 2, 1) := by decide +kernel
theorem dX2_top_12 : decode cX2_top 12 = .ok (.invokevirtual 71, 3) := by decide +kernel
theorem dX2_top_15 : decode cX2_top 15 = .ok (.ireturn, 1) := by decide +kernel
set_option maxRecDepth 20000 in
theorem ggX2_height_X2_requireColumn : GoodIn wsX2_height wsX2_requireColumn := goodIn_ca (goodIn_r _ [6, 7, 8, 9, 30, 31, 32, 33, 34, 35, 36] (by decide +kernel) (by decide +kernel)) (goodIn_sub (fun _ h => List.mem_cons_of_mem _ (List.mem_append_right _ h)) (by decide +kernel))
set_option maxRecDepth 20000 in
theorem gX2_height_X2_requireColumn : GoodIn wsX2_height (wsV RX2 36 RX2 yX2_requireColumn wsX2_requireColumn) := goodIn_app (goodIn_of _ (by decide +kernel)) ggX2_height_X2_requireColumn
set_option maxRecDepth 20000 in
theorem ggX2_height_X0_leastGreatestOver : GoodIn wsX2_height wsX0_leastGreatestOver := goodIn_r _ [14, 15, 16, 17, 18, 19, 20, 21, 22, 13, 23, 24, 25, 26, 27, 28, 29, 37, 38, 39, 40, 41, 42, 43, 44, 45] (by decide +kernel) (by decide +kernel)
set_option maxRecDepth 20000 in
theorem gX2_height_X0_leastGreatestOver : GoodIn wsX2_height (wsV RX2 74 RX0 yX0_leastGreatestOver wsX0_leastGreatestOver) := goodIn_app (goodIn_of _ (by decide +kernel)) ggX2_height_X0_leastGreatestOver
theorem dX2_height_0 : decode cX2_height 0 = .ok (.aload_n 0, 1) := by decide +kernel
theorem dX2_height_1 : decode cX2_height 1 = .ok (.iload_n 1, 1) := by decide +kernel
theorem dX2_height_2 : decode cX2_height 2 = .ok (.invokevirtual 36, 3) := by decide +kernel
theorem dX2_height_5 : decode cX2_height 5 = .ok (.aload_n 0, 1) := by decide +kernel
theorem dX2_height_6 : decode cX2_height 6 = .ok (.getfield 12, 3) := by decide +kernel
theorem dX2_height_9 : decode cX2_height 9 = .ok (.iload_n 1, 1) := by decide +kernel
theorem dX2_height_10 : decode cX2_height 10 = .ok (.invokevirtual 74, 3) := by decide +kernel
theorem dX2_height_13 : decode cX2_height 13 = .ok (.ireturn, 1) := by decide +kernel
set_option maxRecDepth 20000 in
theorem ggX2_heightOfColumn_X2_requireColumn : GoodIn wsX2_heightOfColumn wsX2_requireColumn := goodIn_ca (goodIn_r _ [6, 7, 8, 1, 9, 10, 11, 12, 13, 14, 15] (by decide +kernel) (by decide +kernel)) (goodIn_sub (fun _ h => List.mem_cons_of_mem _ (List.mem_append_right _ h)) (by decide +kernel))
set_option maxRecDepth 20000 in
theorem gX2_heightOfColumn_X2_requireColumn : GoodIn wsX2_heightOfColumn (wsV RX2 36 RX2 yX2_requireColumn wsX2_requireColumn) := goodIn_app (goodIn_of _ (by decide +kernel)) ggX2_heightOfColumn_X2_requireColumn
theorem dX2_heightOfColumn_0 : decode cX2_heightOfColumn 0 = .ok (.aload_n 0, 1) := by decide +kernel
theorem dX2_heightOfColumn_1 : decode cX2_heightOfColumn 1 = .ok (.iload_n 1, 1) := by decide +kernel
theorem dX2_heightOfColumn_2 : decode cX2_heightOfColumn 2 = .ok (.invokevirtual 36, 3) := by decide +kernel
theorem dX2_heightOfColumn_5 : decode cX2_heightOfColumn 5 = .ok (.aload_n 0, 1) := by decide +kernel
theorem dX2_heightOfColumn_6 : decode cX2_heightOfColumn 6 = .ok (.getfield 19, 3) := by decide +kernel
theorem dX2_heightOfColumn_9 : decode cX2_heightOfColumn 9 = .ok (.getfield 40, 3) := by decide +kernel
theorem dX2_heightOfColumn_12 : decode cX2_heightOfColumn 12 = .ok (.iload_n 1, 1) := by decide +kernel
theorem dX2_heightOfColumn_13 : decode cX2_heightOfColumn 13 = .ok (.iaload, 1) := by decide +kernel
theorem dX2_heightOfColumn_14 : decode cX2_heightOfColumn 14 = .ok (.ireturn, 1) := by decide +kernel
set_option maxRecDepth 20000 in
theorem ggX2_wouldPress_X2_requireSpan : GoodIn wsX2_wouldPress wsX2_requireSpan := goodIn_ca (goodIn_ca (goodIn_r _ [6, 7, 8, 9, 10, 11, 5, 12, 13, 14, 1, 28, 29, 30, 31, 32, 33, 34] (by decide +kernel) (by decide +kernel)) (goodIn_sub (fun _ h => List.mem_cons_of_mem _ (List.mem_append_left _ (List.mem_append_right _ h))) (by decide +kernel))) (goodIn_sub (fun _ h => List.mem_cons_of_mem _ (List.mem_append_right _ h)) (by decide +kernel))
set_option maxRecDepth 20000 in
theorem gX2_wouldPress_X2_requireSpan : GoodIn wsX2_wouldPress (wsV RX2 55 RX2 yX2_requireSpan wsX2_requireSpan) := goodIn_app (goodIn_of _ (by decide +kernel)) ggX2_wouldPress_X2_requireSpan
set_option maxRecDepth 20000 in
theorem ggX2_wouldPress_X2_requireInRange : GoodIn wsX2_wouldPress wsX2_requireInRange := goodIn_ca (goodIn_r _ [17, 7, 8] (by decide +kernel) (by decide +kernel)) (goodIn_sub (fun _ h => List.mem_cons_of_mem _ (List.mem_append_left _ (List.mem_append_right _ h))) (by decide +kernel))
set_option maxRecDepth 20000 in
theorem gX2_wouldPress_X2_requireInRange : GoodIn wsX2_wouldPress (va_wsS RX2 32 yX2_requireInRange wsX2_requireInRange) := goodIn_app (goodIn_of _ (by decide +kernel)) ggX2_wouldPress_X2_requireInRange
set_option maxRecDepth 20000 in
theorem ggX2_wouldPress_X1_earthAbove : GoodIn wsX2_wouldPress wsX1_earthAbove := goodIn_r _ [22, 23, 24, 25, 26, 27, 31, 32, 33, 34] (by decide +kernel) (by decide +kernel)
set_option maxRecDepth 20000 in
theorem gX2_wouldPress_X1_earthAbove : GoodIn wsX2_wouldPress (wsV RX2 68 RX1 yX1_earthAbove wsX1_earthAbove) := goodIn_app (goodIn_of _ (by decide +kernel)) ggX2_wouldPress_X1_earthAbove
theorem dX2_wouldPress_0 : decode cX2_wouldPress 0 = .ok (.aload_n 0, 1) := by decide +kernel
theorem dX2_wouldPress_1 : decode cX2_wouldPress 1 = .ok (.iload_n 1, 1) := by decide +kernel
theorem dX2_wouldPress_2 : decode cX2_wouldPress 2 = .ok (.iload_n 2, 1) := by decide +kernel
theorem dX2_wouldPress_3 : decode cX2_wouldPress 3 = .ok (.invokevirtual 55, 3) := by decide +kernel
theorem dX2_wouldPress_6 : decode cX2_wouldPress 6 = .ok (.iload_n 3, 1) := by decide +kernel
theorem dX2_wouldPress_7 : decode cX2_wouldPress 7 = .ok (.iconst 0, 1) := by decide +kernel
theorem dX2_wouldPress_8 : decode cX2_wouldPress 8 = .ok (.sipush 1000, 3) := by decide +kernel
theorem dX2_wouldPress_11 : decode cX2_wouldPress 11 = .ok (.invokestatic 32, 3) := by decide +kernel
theorem dX2_wouldPress_14 : decode cX2_wouldPress 14 = .ok (.aload_n 0, 1) := by decide +kernel
theorem dX2_wouldPress_15 : decode cX2_wouldPress 15 = .ok (.getfield 19, 3) := by decide +kernel
theorem dX2_wouldPress_18 : decode cX2_wouldPress 18 = .ok (.iload_n 1, 1) := by decide +kernel
theorem dX2_wouldPress_19 : decode cX2_wouldPress 19 = .ok (.iload_n 2, 1) := by decide +kernel
theorem dX2_wouldPress_20 : decode cX2_wouldPress 20 = .ok (.iload_n 3, 1) := by decide +kernel
theorem dX2_wouldPress_21 : decode cX2_wouldPress 21 = .ok (.invokevirtual 68, 3) := by decide +kernel
theorem dX2_wouldPress_24 : decode cX2_wouldPress 24 = .ok (.ireturn, 1) := by decide +kernel
set_option maxRecDepth 20000 in
theorem ggX2_ceilingFor_X2_requireSpan : GoodIn wsX2_ceilingFor wsX2_requireSpan := goodIn_ca (goodIn_ca (goodIn_r _ [9, 10, 11, 12, 13, 14, 8, 15, 16, 17, 4, 35, 36, 37, 38, 39, 40, 41] (by decide +kernel) (by decide +kernel)) (goodIn_sub (fun _ h => List.mem_cons_of_mem _ (List.mem_append_left _ (List.mem_append_right _ h))) (by decide +kernel))) (goodIn_sub (fun _ h => List.mem_cons_of_mem _ (List.mem_append_right _ h)) (by decide +kernel))
set_option maxRecDepth 20000 in
theorem gX2_ceilingFor_X2_requireSpan : GoodIn wsX2_ceilingFor (wsV RX2 55 RX2 yX2_requireSpan wsX2_requireSpan) := goodIn_app (goodIn_of _ (by decide +kernel)) ggX2_ceilingFor_X2_requireSpan
set_option maxRecDepth 20000 in
theorem ggX2_ceilingFor_X2_requireInRange : GoodIn wsX2_ceilingFor wsX2_requireInRange := goodIn_ca (goodIn_r _ [20, 10, 11] (by decide +kernel) (by decide +kernel)) (goodIn_sub (fun _ h => List.mem_cons_of_mem _ (List.mem_append_left _ (List.mem_append_right _ h))) (by decide +kernel))
set_option maxRecDepth 20000 in
theorem gX2_ceilingFor_X2_requireInRange : GoodIn wsX2_ceilingFor (va_wsS RX2 32 yX2_requireInRange wsX2_requireInRange) := goodIn_app (goodIn_of _ (by decide +kernel)) ggX2_ceilingFor_X2_requireInRange
set_option maxRecDepth 20000 in
theorem ggX2_ceilingFor_X1_highestCeilingFor : GoodIn wsX2_ceilingFor wsX1_highestCeilingFor := goodIn_r _ [25, 26, 27, 28, 24, 29, 30, 31, 32, 33, 34, 38, 39, 40, 41] (by decide +kernel) (by decide +kernel)
set_option maxRecDepth 20000 in
theorem gX2_ceilingFor_X1_highestCeilingFor : GoodIn wsX2_ceilingFor (wsV RX2 79 RX1 yX1_highestCeilingFor wsX1_highestCeilingFor) := goodIn_app (goodIn_of _ (by decide +kernel)) ggX2_ceilingFor_X1_highestCeilingFor
theorem dX2_ceilingFor_0 : decode cX2_ceilingFor 0 = .ok (.aload_n 0, 1) := by decide +kernel
theorem dX2_ceilingFor_1 : decode cX2_ceilingFor 1 = .ok (.iload_n 1, 1) := by decide +kernel
theorem dX2_ceilingFor_2 : decode cX2_ceilingFor 2 = .ok (.iload_n 2, 1) := by decide +kernel
theorem dX2_ceilingFor_3 : decode cX2_ceilingFor 3 = .ok (.invokevirtual 55, 3) := by decide +kernel
theorem dX2_ceilingFor_6 : decode cX2_ceilingFor 6 = .ok (.iload_n 3, 1) := by decide +kernel
theorem dX2_ceilingFor_7 : decode cX2_ceilingFor 7 = .ok (.iconst 1, 1) := by decide +kernel
theorem dX2_ceilingFor_8 : decode cX2_ceilingFor 8 = .ok (.ldc 78, 2) := by decide +kernel
theorem dX2_ceilingFor_10 : decode cX2_ceilingFor 10 = .ok (.invokestatic 32, 3) := by decide +kernel
theorem dX2_ceilingFor_13 : decode cX2_ceilingFor 13 = .ok (.aload_n 0, 1) := by decide +kernel
theorem dX2_ceilingFor_14 : decode cX2_ceilingFor 14 = .ok (.getfield 19, 3) := by decide +kernel
theorem dX2_ceilingFor_17 : decode cX2_ceilingFor 17 = .ok (.iload_n 1, 1) := by decide +kernel
theorem dX2_ceilingFor_18 : decode cX2_ceilingFor 18 = .ok (.iload_n 2, 1) := by decide +kernel
theorem dX2_ceilingFor_19 : decode cX2_ceilingFor 19 = .ok (.iload_n 3, 1) := by decide +kernel
theorem dX2_ceilingFor_20 : decode cX2_ceilingFor 20 = .ok (.invokevirtual 79, 3) := by decide +kernel
theorem dX2_ceilingFor_23 : decode cX2_ceilingFor 23 = .ok (.istore 4, 2) := by decide +kernel
theorem dX2_ceilingFor_25 : decode cX2_ceilingFor 25 = .ok (.iload 4, 2) := by decide +kernel
theorem dX2_ceilingFor_27 : decode cX2_ceilingFor 27 = .ok (.iconst (-1), 1) := by decide +kernel
theorem dX2_ceilingFor_28 : decode cX2_ceilingFor 28 = .ok (.if_icmp .ne 13, 3) := by decide +kernel
theorem dX2_ceilingFor_31 : decode cX2_ceilingFor 31 = .ok (.new 82, 3) := by decide +kernel
theorem dX2_ceilingFor_34 : decode cX2_ceilingFor 34 = .ok (.dup, 1) := by decide +kernel
theorem dX2_ceilingFor_35 : decode cX2_ceilingFor 35 = .ok (.ldc 84, 2) := by decide +kernel
theorem dX2_ceilingFor_37 : decode cX2_ceilingFor 37 = .ok (.invokespecial 86, 3) := by decide +kernel
theorem dX2_ceilingFor_40 : decode cX2_ceilingFor 40 = .ok (.athrow, 1) := by decide +kernel
theorem dX2_ceilingFor_41 : decode cX2_ceilingFor 41 = .ok (.iload 4, 2) := by decide +kernel
theorem dX2_ceilingFor_43 : decode cX2_ceilingFor 43 = .ok (.ireturn, 1) := by decide +kernel
set_option maxRecDepth 20000 in
theorem ggX2_ceilingOver_X2_requireColumn : GoodIn wsX2_ceilingOver wsX2_requireColumn := goodIn_ca (goodIn_r _ [8, 9, 10, 3, 11, 12, 13, 14, 15, 16, 17] (by decide +kernel) (by decide +kernel)) (goodIn_sub (fun _ h => List.mem_cons_of_mem _ (List.mem_append_right _ h)) (by decide +kernel))
set_option maxRecDepth 20000 in
theorem gX2_ceilingOver_X2_requireColumn : GoodIn wsX2_ceilingOver (wsV RX2 36 RX2 yX2_requireColumn wsX2_requireColumn) := goodIn_app (goodIn_of _ (by decide +kernel)) ggX2_ceilingOver_X2_requireColumn
theorem dX2_ceilingOver_0 : decode cX2_ceilingOver 0 = .ok (.aload_n 0, 1) := by decide +kernel
theorem dX2_ceilingOver_1 : decode cX2_ceilingOver 1 = .ok (.iload_n 1, 1) := by decide +kernel
theorem dX2_ceilingOver_2 : decode cX2_ceilingOver 2 = .ok (.invokevirtual 36, 3) := by decide +kernel
theorem dX2_ceilingOver_5 : decode cX2_ceilingOver 5 = .ok (.aload_n 0, 1) := by decide +kernel
theorem dX2_ceilingOver_6 : decode cX2_ceilingOver 6 = .ok (.getfield 19, 3) := by decide +kernel
theorem dX2_ceilingOver_9 : decode cX2_ceilingOver 9 = .ok (.getfield 87, 3) := by decide +kernel
theorem dX2_ceilingOver_12 : decode cX2_ceilingOver 12 = .ok (.iload_n 1, 1) := by decide +kernel
theorem dX2_ceilingOver_13 : decode cX2_ceilingOver 13 = .ok (.iaload, 1) := by decide +kernel
theorem dX2_ceilingOver_14 : decode cX2_ceilingOver 14 = .ok (.istore_n 2, 1) := by decide +kernel
theorem dX2_ceilingOver_15 : decode cX2_ceilingOver 15 = .ok (.iload_n 2, 1) := by decide +kernel
theorem dX2_ceilingOver_16 : decode cX2_ceilingOver 16 = .ok (.iconst (-1), 1) := by decide +kernel
theorem dX2_ceilingOver_17 : decode cX2_ceilingOver 17 = .ok (.if_icmp .ne 13, 3) := by decide +kernel
theorem dX2_ceilingOver_20 : decode cX2_ceilingOver 20 = .ok (.new 82, 3) := by decide +kernel
theorem dX2_ceilingOver_23 : decode cX2_ceilingOver 23 = .ok (.dup, 1) := by decide +kernel
theorem dX2_ceilingOver_24 : decode cX2_ceilingOver 24 = .ok (.ldc 90, 2) := by decide +kernel
theorem dX2_ceilingOver_26 : decode cX2_ceilingOver 26 = .ok (.invokespecial 86, 3) := by decide +kernel
theorem dX2_ceilingOver_29 : decode cX2_ceilingOver 29 = .ok (.athrow, 1) := by decide +kernel
theorem dX2_ceilingOver_30 : decode cX2_ceilingOver 30 = .ok (.iload_n 2, 1) := by decide +kernel
theorem dX2_ceilingOver_31 : decode cX2_ceilingOver 31 = .ok (.ireturn, 1) := by decide +kernel
theorem dX2_columns_0 : decode cX2_columns 0 = .ok (.aload_n 0, 1) := by decide +kernel
theorem dX2_columns_1 : decode cX2_columns 1 = .ok (.getfield 19, 3) := by decide +kernel
theorem dX2_columns_4 : decode cX2_columns 4 = .ok (.getfield 92, 3) := by decide +kernel
theorem dX2_columns_7 : decode cX2_columns 7 = .ok (.ireturn, 1) := by decide +kernel
set_option maxRecDepth 20000 in
theorem ggX2_spanOf_X2_requireEntry : GoodIn wsX2_spanOf wsX2_requireEntry := goodIn_ca (goodIn_r _ [6, 7, 8, 1, 9, 10, 11, 12, 13, 14, 15, 16, 17, 18, 19, 20, 21, 22, 23, 24, 25, 26] (by decide +kernel) (by decide +kernel)) (goodIn_sub (fun _ h => List.mem_cons_of_mem _ (List.mem_append_right _ h)) (by decide +kernel))
set_option maxRecDepth 20000 in
theorem gX2_spanOf_X2_requireEntry : GoodIn wsX2_spanOf (wsV RX2 95 RX2 yX2_requireEntry wsX2_requireEntry) := goodIn_app (goodIn_of _ (by decide +kernel)) ggX2_spanOf_X2_requireEntry
theorem dX2_spanOf_0 : decode cX2_spanOf 0 = .ok (.aload_n 0, 1) := by decide +kernel
theorem dX2_spanOf_1 : decode cX2_spanOf 1 = .ok (.iload_n 1, 1) := by decide +kernel
theorem dX2_spanOf_2 : decode cX2_spanOf 2 = .ok (.invokevirtual 95, 3) := by decide +kernel
theorem dX2_spanOf_5 : decode cX2_spanOf 5 = .ok (.bipush 100, 2) := by decide +kernel
theorem dX2_spanOf_7 : decode cX2_spanOf 7 = .ok (.aload_n 0, 1) := by decide +kernel
theorem dX2_spanOf_8 : decode cX2_spanOf 8 = .ok (.getfield 12, 3) := by decide +kernel
theorem dX2_spanOf_11 : decode cX2_spanOf 11 = .ok (.getfield 98, 3) := by decide +kernel
theorem dX2_spanOf_14 : decode cX2_spanOf 14 = .ok (.iload_n 1, 1) := by decide +kernel
theorem dX2_spanOf_15 : decode cX2_spanOf 15 = .ok (.iaload, 1) := by decide +kernel
theorem dX2_spanOf_16 : decode cX2_spanOf 16 = .ok (.imul, 1) := by decide +kernel
theorem dX2_spanOf_17 : decode cX2_spanOf 17 = .ok (.aload_n 0, 1) := by decide +kernel
theorem dX2_spanOf_18 : decode cX2_spanOf 18 = .ok (.getfield 12, 3) := by decide +kernel
theorem dX2_spanOf_21 : decode cX2_spanOf 21 = .ok (.getfield 101, 3) := by decide +kernel
theorem dX2_spanOf_24 : decode cX2_spanOf 24 = .ok (.iload_n 1, 1) := by decide +kernel
theorem dX2_spanOf_25 : decode cX2_spanOf 25 = .ok (.iaload, 1) := by decide +kernel
theorem dX2_spanOf_26 : decode cX2_spanOf 26 = .ok (.iadd, 1) := by decide +kernel
theorem dX2_spanOf_27 : decode cX2_spanOf 27 = .ok (.ireturn, 1) := by decide +kernel
set_option maxRecDepth 20000 in
theorem ggX2_greatest_X2_requireEntry : GoodIn wsX2_greatest wsX2_requireEntry := goodIn_ca (goodIn_r _ [6, 7, 8, 1, 9, 10, 11, 12, 13, 14, 15, 16, 17, 18, 19, 20, 21, 22, 23, 24, 25, 26] (by decide +kernel) (by decide +kernel)) (goodIn_sub (fun _ h => List.mem_cons_of_mem _ (List.mem_append_right _ h)) (by decide +kernel))
set_option maxRecDepth 20000 in
theorem gX2_greatest_X2_requireEntry : GoodIn wsX2_greatest (wsV RX2 95 RX2 yX2_requireEntry wsX2_requireEntry) := goodIn_app (goodIn_of _ (by decide +kernel)) ggX2_greatest_X2_requireEntry
theorem dX2_greatest_0 : decode cX2_greatest 0 = .ok (.aload_n 0, 1) := by decide +kernel
theorem dX2_greatest_1 : decode cX2_greatest 1 = .ok (.iload_n 1, 1) := by decide +kernel
theorem dX2_greatest_2 : decode cX2_greatest 2 = .ok (.invokevirtual 95, 3) := by decide +kernel
theorem dX2_greatest_5 : decode cX2_greatest 5 = .ok (.aload_n 0, 1) := by decide +kernel
theorem dX2_greatest_6 : decode cX2_greatest 6 = .ok (.getfield 12, 3) := by decide +kernel
theorem dX2_greatest_9 : decode cX2_greatest 9 = .ok (.getfield 104, 3) := by decide +kernel
theorem dX2_greatest_12 : decode cX2_greatest 12 = .ok (.iload_n 1, 1) := by decide +kernel
theorem dX2_greatest_13 : decode cX2_greatest 13 = .ok (.iaload, 1) := by decide +kernel
theorem dX2_greatest_14 : decode cX2_greatest 14 = .ok (.ireturn, 1) := by decide +kernel
set_option maxRecDepth 20000 in
theorem ggX2_second_X2_requireEntry : GoodIn wsX2_second wsX2_requireEntry := goodIn_ca (goodIn_r _ [6, 7, 8, 1, 9, 10, 11, 12, 13, 14, 15, 16, 17, 18, 19, 20, 21, 22, 23, 24, 25, 26] (by decide +kernel) (by decide +kernel)) (goodIn_sub (fun _ h => List.mem_cons_of_mem _ (List.mem_append_right _ h)) (by decide +kernel))
set_option maxRecDepth 20000 in
theorem gX2_second_X2_requireEntry : GoodIn wsX2_second (wsV RX2 95 RX2 yX2_requireEntry wsX2_requireEntry) := goodIn_app (goodIn_of _ (by decide +kernel)) ggX2_second_X2_requireEntry
theorem dX2_second_0 : decode cX2_second 0 = .ok (.aload_n 0, 1) := by decide +kernel
theorem dX2_second_1 : decode cX2_second 1 = .ok (.iload_n 1, 1) := by decide +kernel
theorem dX2_second_2 : decode cX2_second 2 = .ok (.invokevirtual 95, 3) := by decide +kernel
theorem dX2_second_5 : decode cX2_second 5 = .ok (.aload_n 0, 1) := by decide +kernel
theorem dX2_second_6 : decode cX2_second 6 = .ok (.getfield 12, 3) := by decide +kernel
theorem dX2_second_9 : decode cX2_second 9 = .ok (.getfield 107, 3) := by decide +kernel
theorem dX2_second_12 : decode cX2_second 12 = .ok (.iload_n 1, 1) := by decide +kernel
theorem dX2_second_13 : decode cX2_second 13 = .ok (.iaload, 1) := by decide +kernel
theorem dX2_second_14 : decode cX2_second 14 = .ok (.ireturn, 1) := by decide +kernel
set_option maxRecDepth 20000 in
theorem ggX2_many_X2_requireEntry : GoodIn wsX2_many wsX2_requireEntry := goodIn_ca (goodIn_r _ [6, 7, 8, 1, 9, 10, 11, 12, 13, 14, 15, 16, 17, 18, 19, 20, 21, 22, 23, 24, 25, 26] (by decide +kernel) (by decide +kernel)) (goodIn_sub (fun _ h => List.mem_cons_of_mem _ (List.mem_append_right _ h)) (by decide +kernel))
set_option maxRecDepth 20000 in
theorem gX2_many_X2_requireEntry : GoodIn wsX2_many (wsV RX2 95 RX2 yX2_requireEntry wsX2_requireEntry) := goodIn_app (goodIn_of _ (by decide +kernel)) ggX2_many_X2_requireEntry
theorem dX2_many_0 : decode cX2_many 0 = .ok (.aload_n 0, 1) := by decide +kernel
theorem dX2_many_1 : decode cX2_many 1 = .ok (.iload_n 1, 1) := by decide +kernel
theorem dX2_many_2 : decode cX2_many 2 = .ok (.invokevirtual 95, 3) := by decide +kernel
theorem dX2_many_5 : decode cX2_many 5 = .ok (.aload_n 0, 1) := by decide +kernel
theorem dX2_many_6 : decode cX2_many 6 = .ok (.getfield 12, 3) := by decide +kernel
theorem dX2_many_9 : decode cX2_many 9 = .ok (.getfield 110, 3) := by decide +kernel
theorem dX2_many_12 : decode cX2_many 12 = .ok (.iload_n 1, 1) := by decide +kernel
theorem dX2_many_13 : decode cX2_many 13 = .ok (.iaload, 1) := by decide +kernel
theorem dX2_many_14 : decode cX2_many 14 = .ok (.ireturn, 1) := by decide +kernel
set_option maxRecDepth 20000 in
theorem ggX2_noted_X2_requireEntry : GoodIn wsX2_noted wsX2_requireEntry := goodIn_ca (goodIn_r _ [6, 7, 8, 1, 9, 10, 11, 12, 13, 14, 15, 16, 17, 18, 19, 20, 21, 22, 23, 24, 25, 26] (by decide +kernel) (by decide +kernel)) (goodIn_sub (fun _ h => List.mem_cons_of_mem _ (List.mem_append_right _ h)) (by decide +kernel))
set_option maxRecDepth 20000 in
theorem gX2_noted_X2_requireEntry : GoodIn wsX2_noted (wsV RX2 95 RX2 yX2_requireEntry wsX2_requireEntry) := goodIn_app (goodIn_of _ (by decide +kernel)) ggX2_noted_X2_requireEntry
theorem dX2_noted_0 : decode cX2_noted 0 = .ok (.aload_n 0, 1) := by decide +kernel
theorem dX2_noted_1 : decode cX2_noted 1 = .ok (.iload_n 1, 1) := by decide +kernel
theorem dX2_noted_2 : decode cX2_noted 2 = .ok (.invokevirtual 95, 3) := by decide +kernel
theorem dX2_noted_5 : decode cX2_noted 5 = .ok (.aload_n 0, 1) := by decide +kernel
theorem dX2_noted_6 : decode cX2_noted 6 = .ok (.getfield 12, 3) := by decide +kernel
theorem dX2_noted_9 : decode cX2_noted 9 = .ok (.getfield 113, 3) := by decide +kernel
theorem dX2_noted_12 : decode cX2_noted 12 = .ok (.iload_n 1, 1) := by decide +kernel
theorem dX2_noted_13 : decode cX2_noted 13 = .ok (.iaload, 1) := by decide +kernel
theorem dX2_noted_14 : decode cX2_noted 14 = .ok (.ireturn, 1) := by decide +kernel
set_option maxRecDepth 20000 in
theorem ggX2_lagging_X0_countLagging : GoodIn wsX2_lagging wsX0_countLagging := goodIn_r _ [6, 7, 8, 9, 5, 10, 11, 12, 13, 14, 15, 16, 20, 21, 22, 23, 24, 25, 26, 27, 28] (by decide +kernel) (by decide +kernel)
set_option maxRecDepth 20000 in
theorem gX2_lagging_X0_countLagging : GoodIn wsX2_lagging (wsV RX2 116 RX0 yX0_countLagging wsX0_countLagging) := goodIn_app (goodIn_of _ (by decide +kernel)) ggX2_lagging_X0_countLagging
theorem dX2_lagging_0 : decode cX2_lagging 0 = .ok (.aload_n 0, 1) := by decide +kernel
theorem dX2_lagging_1 : decode cX2_lagging 1 = .ok (.getfield 12, 3) := by decide +kernel
theorem dX2_lagging_4 : decode cX2_lagging 4 = .ok (.invokevirtual 116, 3) := by decide +kernel
theorem dX2_lagging_7 : decode cX2_lagging 7 = .ok (.ireturn, 1) := by decide +kernel
theorem dX2_visits_0 : decode cX2_visits 0 = .ok (.aload_n 0, 1) := by decide +kernel
theorem dX2_visits_1 : decode cX2_visits 1 = .ok (.getfield 12, 3) := by decide +kernel
theorem dX2_visits_4 : decode cX2_visits 4 = .ok (.getfield 120, 3) := by decide +kernel
theorem dX2_visits_7 : decode cX2_visits 7 = .ok (.ireturn, 1) := by decide +kernel
theorem dX2_allVisits_0 : decode cX2_allVisits 0 = .ok (.aload_n 0, 1) := by decide +kernel
theorem dX2_allVisits_1 : decode cX2_allVisits 1 = .ok (.getfield 12, 3) := by decide +kernel
theorem dX2_allVisits_4 : decode cX2_allVisits 4 = .ok (.getfield 123, 3) := by decide +kernel
theorem dX2_allVisits_7 : decode cX2_allVisits 7 = .ok (.ireturn, 1) := by decide +kernel
theorem dX2_pressedAway_0 : decode cX2_pressedAway 0 = .ok (.aload_n 0, 1) := by decide +kernel
theorem dX2_pressedAway_1 : decode cX2_pressedAway 1 = .ok (.getfield 28, 3) := by decide +kernel
theorem dX2_pressedAway_4 : decode cX2_pressedAway 4 = .ok (.ireturn, 1) := by decide +kernel
set_option maxRecDepth 20000 in
theorem ggX2_pressedAwayByRest_X1_earthAbove : GoodIn wsX2_pressedAwayByRest wsX1_earthAbove := goodIn_r _ [6, 7, 8, 9, 10, 11, 15, 16, 17, 18] (by decide +kernel) (by decide +kernel)
set_option maxRecDepth 20000 in
theorem gX2_pressedAwayByRest_X1_earthAbove : GoodIn wsX2_pressedAwayByRest (wsV RX2 68 RX1 yX1_earthAbove wsX1_earthAbove) := goodIn_app (goodIn_of _ (by decide +kernel)) ggX2_pressedAwayByRest_X1_earthAbove
theorem dX2_pressedAwayByRest_0 : decode cX2_pressedAwayByRest 0 = .ok (.aload_n 0, 1) := by decide +kernel
theorem dX2_pressedAwayByRest_1 : decode cX2_pressedAwayByRest 1 = .ok (.getfield 19, 3) := by decide +kernel
theorem dX2_pressedAwayByRest_4 : decode cX2_pressedAwayByRest 4 = .ok (.getfield 126, 3) := by decide +kernel
theorem dX2_pressedAwayByRest_7 : decode cX2_pressedAwayByRest 7 = .ok (.aload_n 0, 1) := by decide +kernel
theorem dX2_pressedAwayByRest_8 : decode cX2_pressedAwayByRest 8 = .ok (.getfield 19, 3) := by decide +kernel
theorem dX2_pressedAwayByRest_11 : decode cX2_pressedAwayByRest 11 = .ok (.iconst 0, 1) := by decide +kernel
theorem dX2_pressedAwayByRest_12 : decode cX2_pressedAwayByRest 12 = .ok (.aload_n 0, 1) := by decide +kernel
theorem dX2_pressedAwayByRest_13 : decode cX2_pressedAwayByRest 13 = .ok (.getfield 19, 3) := by decide +kernel
theorem dX2_pressedAwayByRest_16 : decode cX2_pressedAwayByRest 16 = .ok (.getfield 92, 3) := by decide +kernel
theorem dX2_pressedAwayByRest_19 : decode cX2_pressedAwayByRest 19 = .ok (.iconst 1, 1) := by decide +kernel
theorem dX2_pressedAwayByRest_20 : decode cX2_pressedAwayByRest 20 = .ok (.isub, 1) := by decide +kernel
theorem dX2_pressedAwayByRest_21 : decode cX2_pressedAwayByRest 21 = .ok (.iconst 0, 1) := by decide +kernel
theorem dX2_pressedAwayByRest_22 : decode cX2_pressedAwayByRest 22 = .ok (.invokevirtual 68, 3) := by decide +kernel
theorem dX2_pressedAwayByRest_25 : decode cX2_pressedAwayByRest 25 = .ok (.isub, 1) := by decide +kernel
theorem dX2_pressedAwayByRest_26 : decode cX2_pressedAwayByRest 26 = .ok (.ireturn, 1) := by decide +kernel
theorem dX2_meanVisits_0 : decode cX2_meanVisits 0 = .ok (.aload_n 0, 1) := by decide +kernel
theorem dX2_meanVisits_1 : decode cX2_meanVisits 1 = .ok (.getfield 12, 3) := by decide +kernel
theorem dX2_meanVisits_4 : decode cX2_meanVisits 4 = .ok (.getfield 129, 3) := by decide +kernel
theorem dX2_meanVisits_7 : decode cX2_meanVisits 7 = .ok (.ifCond .ne 5, 3) := by decide +kernel
theorem dX2_meanVisits_10 : decode cX2_meanVisits 10 = .ok (.dconst 0, 1) := by decide +kernel
theorem dX2_meanVisits_11 : decode cX2_meanVisits 11 = .ok (.dreturn, 1) := by decide +kernel
theorem dX2_meanVisits_12 : decode cX2_meanVisits 12 = .ok (.aload_n 0, 1) := by decide +kernel
theorem dX2_meanVisits_13 : decode cX2_meanVisits 13 = .ok (.getfield 12, 3) := by decide +kernel
theorem dX2_meanVisits_16 : decode cX2_meanVisits 16 = .ok (.getfield 123, 3) := by decide +kernel
theorem dX2_meanVisits_19 : decode cX2_meanVisits 19 = .ok (.i2d, 1) := by decide +kernel
theorem dX2_meanVisits_20 : decode cX2_meanVisits 20 = .ok (.aload_n 0, 1) := by decide +kernel
theorem dX2_meanVisits_21 : decode cX2_meanVisits 21 = .ok (.getfield 12, 3) := by decide +kernel
theorem dX2_meanVisits_24 : decode cX2_meanVisits 24 = .ok (.getfield 129, 3) := by decide +kernel
theorem dX2_meanVisits_27 : decode cX2_meanVisits 27 = .ok (.i2d, 1) := by decide +kernel
theorem dX2_meanVisits_28 : decode cX2_meanVisits 28 = .ok (.ddiv, 1) := by decide +kernel
theorem dX2_meanVisits_29 : decode cX2_meanVisits 29 = .ok (.dreturn, 1) := by decide +kernel
theorem dX2_requireColumn_0 : decode cX2_requireColumn 0 = .ok (.iload_n 1, 1) := by decide +kernel
theorem dX2_requireColumn_1 : decode cX2_requireColumn 1 = .ok (.ifCond .lt 14, 3) := by decide +kernel
theorem dX2_requireColumn_4 : decode cX2_requireColumn 4 = .ok (.iload_n 1, 1) := by decide +kernel
theorem dX2_requireColumn_5 : decode cX2_requireColumn 5 = .ok (.aload_n 0, 1) := by decide +kernel
theorem dX2_requireColumn_6 : decode cX2_requireColumn 6 = .ok (.getfield 19, 3) := by decide +kernel
theorem dX2_requireColumn_9 : decode cX2_requireColumn 9 = .ok (.getfield 92, 3) := by decide +kernel
theorem dX2_requireColumn_12 : decode cX2_requireColumn 12 = .ok (.if_icmp .lt 13, 3) := by decide +kernel
theorem dX2_requireColumn_15 : decode cX2_requireColumn 15 = .ok (.new 132, 3) := by decide +kernel
theorem dX2_requireColumn_18 : decode cX2_requireColumn 18 = .ok (.dup, 1) := by decide +kernel
theorem dX2_requireColumn_19 : decode cX2_requireColumn 19 = .ok (.ldc 134, 2) := by decide +kernel
theorem dX2_requireColumn_21 : decode cX2_requireColumn 21 = .ok (.invokespecial 136, 3) := by decide +kernel
theorem dX2_requireColumn_24 : decode cX2_requireColumn 24 = .ok (.athrow, 1) := by decide +kernel
theorem dX2_requireColumn_25 : decode cX2_requireColumn 25 = .ok (.return_, 1) := by decide +kernel
set_option maxRecDepth 20000 in
theorem ggX2_requireSpan_X2_requireColumn : GoodIn wsX2_requireSpan wsX2_requireColumn := goodIn_ca (goodIn_r _ [7, 8, 9, 10, 11, 12, 13, 14, 15, 16, 17] (by decide +kernel) (by decide +kernel)) (goodIn_sub (fun _ h => List.mem_cons_of_mem _ (List.mem_append_right _ h)) (by decide +kernel))
set_option maxRecDepth 20000 in
theorem gX2_requireSpan_X2_requireColumn : GoodIn wsX2_requireSpan (wsV RX2 36 RX2 yX2_requireColumn wsX2_requireColumn) := goodIn_app (goodIn_of _ (by decide +kernel)) ggX2_requireSpan_X2_requireColumn
theorem dX2_requireSpan_0 : decode cX2_requireSpan 0 = .ok (.aload_n 0, 1) := by decide +kernel
theorem dX2_requireSpan_1 : decode cX2_requireSpan 1 = .ok (.iload_n 1, 1) := by decide +kernel
theorem dX2_requireSpan_2 : decode cX2_requireSpan 2 = .ok (.invokevirtual 36, 3) := by decide +kernel
theorem dX2_requireSpan_5 : decode cX2_requireSpan 5 = .ok (.aload_n 0, 1) := by decide +kernel
theorem dX2_requireSpan_6 : decode cX2_requireSpan 6 = .ok (.iload_n 2, 1) := by decide +kernel
theorem dX2_requireSpan_7 : decode cX2_requireSpan 7 = .ok (.invokevirtual 36, 3) := by decide +kernel
theorem dX2_requireSpan_10 : decode cX2_requireSpan 10 = .ok (.iload_n 2, 1) := by decide +kernel
theorem dX2_requireSpan_11 : decode cX2_requireSpan 11 = .ok (.iload_n 1, 1) := by decide +kernel
theorem dX2_requireSpan_12 : decode cX2_requireSpan 12 = .ok (.if_icmp .ge 13, 3) := by decide +kernel
theorem dX2_requireSpan_15 : decode cX2_requireSpan 15 = .ok (.new 137, 3) := by decide +kernel
theorem dX2_requireSpan_18 : decode cX2_requireSpan 18 = .ok (.dup, 1) := by decide +kernel
theorem dX2_requireSpan_19 : decode cX2_requireSpan 19 = .ok (.ldc 139, 2) := by decide +kernel
theorem dX2_requireSpan_21 : decode cX2_requireSpan 21 = .ok (.invokespecial 141, 3) := by decide +kernel
theorem dX2_requireSpan_24 : decode cX2_requireSpan 24 = .ok (.athrow, 1) := by decide +kernel
theorem dX2_requireSpan_25 : decode cX2_requireSpan 25 = .ok (.return_, 1) := by decide +kernel
set_option maxRecDepth 20000 in
theorem ggX2_requireEntry_X0_has : GoodIn wsX2_requireEntry wsX0_has := goodIn_r _ [8, 9, 13, 14, 15, 16, 17, 18, 19, 20, 21] (by decide +kernel) (by decide +kernel)
set_option maxRecDepth 20000 in
theorem gX2_requireEntry_X0_has : GoodIn wsX2_requireEntry (wsV RX2 142 RX0 yX0_has wsX0_has) := goodIn_app (goodIn_of _ (by decide +kernel)) ggX2_requireEntry_X0_has
theorem dX2_requireEntry_0 : decode cX2_requireEntry 0 = .ok (.aload_n 0, 1) := by decide +kernel
theorem dX2_requireEntry_1 : decode cX2_requireEntry 1 = .ok (.getfield 12, 3) := by decide +kernel
theorem dX2_requireEntry_4 : decode cX2_requireEntry 4 = .ok (.iload_n 1, 1) := by decide +kernel
theorem dX2_requireEntry_5 : decode cX2_requireEntry 5 = .ok (.invokevirtual 142, 3) := by decide +kernel
theorem dX2_requireEntry_8 : decode cX2_requireEntry 8 = .ok (.ifCond .ne 13, 3) := by decide +kernel
theorem dX2_requireEntry_11 : decode cX2_requireEntry 11 = .ok (.new 132, 3) := by decide +kernel
theorem dX2_requireEntry_14 : decode cX2_requireEntry 14 = .ok (.dup, 1) := by decide +kernel
theorem dX2_requireEntry_15 : decode cX2_requireEntry 15 = .ok (.ldc 146, 2) := by decide +kernel
theorem dX2_requireEntry_17 : decode cX2_requireEntry 17 = .ok (.invokespecial 136, 3) := by decide +kernel
theorem dX2_requireEntry_20 : decode cX2_requireEntry 20 = .ok (.athrow, 1) := by decide +kernel
theorem dX2_requireEntry_21 : decode cX2_requireEntry 21 = .ok (.return_, 1) := by decide +kernel
theorem dX2_requireInRange_0 : decode cX2_requireInRange 0 = .ok (.iload_n 0, 1) := by decide +kernel
theorem dX2_requireInRange_1 : decode cX2_requireInRange 1 = .ok (.iload_n 1, 1) := by decide +kernel
theorem dX2_requireInRange_2 : decode cX2_requireInRange 2 = .ok (.if_icmp .lt 8, 3) := by decide +kernel
theorem dX2_requireInRange_5 : decode cX2_requireInRange 5 = .ok (.iload_n 0, 1) := by decide +kernel
theorem dX2_requireInRange_6 : decode cX2_requireInRange 6 = .ok (.iload_n 2, 1) := by decide +kernel
theorem dX2_requireInRange_7 : decode cX2_requireInRange 7 = .ok (.if_icmp .le 13, 3) := by decide +kernel
theorem dX2_requireInRange_10 : decode cX2_requireInRange 10 = .ok (.new 137, 3) := by decide +kernel
theorem dX2_requireInRange_13 : decode cX2_requireInRange 13 = .ok (.dup, 1) := by decide +kernel
theorem dX2_requireInRange_14 : decode cX2_requireInRange 14 = .ok (.ldc 148, 2) := by decide +kernel
theorem dX2_requireInRange_16 : decode cX2_requireInRange 16 = .ok (.invokespecial 141, 3) := by decide +kernel
theorem dX2_requireInRange_19 : decode cX2_requireInRange 19 = .ok (.athrow, 1) := by decide +kernel
theorem dX2_requireInRange_20 : decode cX2_requireInRange 20 = .ok (.return_, 1) := by decide +kernel
set_option maxRecDepth 20000 in
theorem ggX3_init_X3_lays : GoodIn wsX3_init wsX3_lays := goodIn_r _ [18, 19, 5, 6, 7, 8, 9, 10, 11, 12, 20, 21, 22, 23, 24, 25, 26, 27, 28, 29, 30, 31, 32, 33, 34, 35, 36, 37, 38, 39, 40, 41, 42, 43] (by decide +kernel) (by decide +kernel)
set_option maxRecDepth 20000 in
theorem gX3_init_X3_lays : GoodIn wsX3_init (wsV RX3 37 RX3 yX3_lays wsX3_lays) := goodIn_app (goodIn_of _ (by decide +kernel)) ggX3_init_X3_lays
end
section
theorem dX3_init_0 : decode cX3_init 0 = .ok (.aload_n 0, 1) := by decide +kernel
theorem dX3_init_1 : decode cX3_init 1 = .ok (.invokespecial 1, 3) := by decide +kernel
theorem dX3_init_4 : decode cX3_init 4 = .ok (.aload_n 0, 1) := by decide +kernel
theorem dX3_init_5 : decode cX3_init 5 = .ok (.bipush 64, 2) := by decide +kernel
theorem dX3_init_7 : decode cX3_init 7 = .ok (.newarray .int, 2) := by decide +kernel
theorem dX3_init_9 : decode cX3_init 9 = .ok (.putfield 7, 3) := by decide +kernel
theorem dX3_init_12 : decode cX3_init 12 = .ok (.aload_n 0, 1) := by decide +kernel
theorem dX3_init_13 : decode cX3_init 13 = .ok (.bipush 64, 2) := by decide +kernel
theorem dX3_init_15 : decode cX3_init 15 = .ok (.newarray .int, 2) := by decide +kernel
theorem dX3_init_17 : decode cX3_init 17 = .ok (.putfield 13, 3) := by decide +kernel
theorem dX3_init_20 : decode cX3_init 20 = .ok (.aload_n 0, 1) := by decide +kernel
theorem dX3_init_21 : decode cX3_init 21 = .ok (.sipush 128, 3) := by decide +kernel
theorem dX3_init_24 : decode cX3_init 24 = .ok (.newarray .int, 2) := by decide +kernel
theorem dX3_init_26 : decode cX3_init 26 = .ok (.putfield 16, 3) := by decide +kernel
theorem dX3_init_29 : decode cX3_init 29 = .ok (.aload_n 0, 1) := by decide +kernel
theorem dX3_init_30 : decode cX3_init 30 = .ok (.sipush 128, 3) := by decide +kernel
theorem dX3_init_33 : decode cX3_init 33 = .ok (.newarray .int, 2) := by decide +kernel
theorem dX3_init_35 : decode cX3_init 35 = .ok (.putfield 19, 3) := by decide +kernel
theorem dX3_init_38 : decode cX3_init 38 = .ok (.aload_n 0, 1) := by decide +kernel
theorem dX3_init_39 : decode cX3_init 39 = .ok (.sipush 128, 3) := by decide +kernel
theorem dX3_init_42 : decode cX3_init 42 = .ok (.newarray .int, 2) := by decide +kernel
theorem dX3_init_44 : decode cX3_init 44 = .ok (.putfield 22, 3) := by decide +kernel
theorem dX3_init_47 : decode cX3_init 47 = .ok (.aload_n 0, 1) := by decide +kernel
theorem dX3_init_48 : decode cX3_init 48 = .ok (.sipush 128, 3) := by decide +kernel
theorem dX3_init_51 : decode cX3_init 51 = .ok (.newarray .int, 2) := by decide +kernel
theorem dX3_init_53 : decode cX3_init 53 = .ok (.putfield 25, 3) := by decide +kernel
theorem dX3_init_56 : decode cX3_init 56 = .ok (.aload_n 0, 1) := by decide +kernel
theorem dX3_init_57 : decode cX3_init 57 = .ok (.sipush 128, 3) := by decide +kernel
theorem dX3_init_60 : decode cX3_init 60 = .ok (.newarray .int, 2) := by decide +kernel
theorem dX3_init_62 : decode cX3_init 62 = .ok (.putfield 28, 3) := by decide +kernel
theorem dX3_init_65 : decode cX3_init 65 = .ok (.aload_n 0, 1) := by decide +kernel
theorem dX3_init_66 : decode cX3_init 66 = .ok (.sipush 128, 3) := by decide +kernel
theorem dX3_init_69 : decode cX3_init 69 = .ok (.newarray .int, 2) := by decide +kernel
theorem dX3_init_71 : decode cX3_init 71 = .ok (.putfield 31, 3) := by decide +kernel
theorem dX3_init_74 : decode cX3_init 74 = .ok (.aload_n 0, 1) := by decide +kernel
theorem dX3_init_75 : decode cX3_init 75 = .ok (.bipush 64, 2) := by decide +kernel
theorem dX3_init_77 : decode cX3_init 77 = .ok (.newarray .int, 2) := by decide +kernel
theorem dX3_init_79 : decode cX3_init 79 = .ok (.putfield 34, 3) := by decide +kernel
theorem dX3_init_82 : decode cX3_init 82 = .ok (.aload_n 0, 1) := by decide +kernel
theorem dX3_init_83 : decode cX3_init 83 = .ok (.iconst 1, 1) := by decide +kernel
theorem dX3_init_84 : decode cX3_init 84 = .ok (.iconst 0, 1) := by decide +kernel
theorem dX3_init_85 : decode cX3_init 85 = .ok (.invokevirtual 37, 3) := by decide +kernel
theorem dX3_init_88 : decode cX3_init 88 = .ok (.return_, 1) := by decide +kernel
theorem dX3_thrown_0 : decode cX3_thrown 0 = .ok (.aload_n 0, 1) := by decide +kernel
theorem dX3_thrown_1 : decode cX3_thrown 1 = .ok (.getfield 41, 3) := by decide +kernel
theorem dX3_thrown_4 : decode cX3_thrown 4 = .ok (.ireturn, 1) := by decide +kernel
theorem dX3_in_0 : decode cX3_in 0 = .ok (.iload_n 0, 1) := by decide +kernel
theorem dX3_in_1 : decode cX3_in 1 = .ok (.iload_n 1, 1) := by decide +kernel
theorem dX3_in_2 : decode cX3_in 2 = .ok (.if_icmp .lt 12, 3) := by decide +kernel
theorem dX3_in_5 : decode cX3_in 5 = .ok (.iload_n 0, 1) := by decide +kernel
theorem dX3_in_6 : decode cX3_in 6 = .ok (.iload_n 2, 1) := by decide +kernel
theorem dX3_in_7 : decode cX3_in 7 = .ok (.if_icmp .gt 7, 3) := by decide +kernel
theorem dX3_in_10 : decode cX3_in 10 = .ok (.iconst 1, 1) := by decide +kernel
theorem dX3_in_11 : decode cX3_in 11 = .ok (.goto 4, 3) := by decide +kernel
theorem dX3_in_14 : decode cX3_in 14 = .ok (.iconst 0, 1) := by decide +kernel
theorem dX3_in_15 : decode cX3_in 15 = .ok (.ireturn, 1) := by decide +kernel
theorem dX3_isFine_0 : decode cX3_isFine 0 = .ok (.aload_n 0, 1) := by decide +kernel
theorem dX3_isFine_1 : decode cX3_isFine 1 = .ok (.iload_n 1, 1) := by decide +kernel
theorem dX3_isFine_2 : decode cX3_isFine 2 = .ok (.putfield 41, 3) := by decide +kernel
theorem dX3_isFine_5 : decode cX3_isFine 5 = .ok (.iload_n 1, 1) := by decide +kernel
theorem dX3_isFine_6 : decode cX3_isFine 6 = .ok (.ifCond .ne 7, 3) := by decide +kernel
theorem dX3_isFine_9 : decode cX3_isFine 9 = .ok (.iconst 1, 1) := by decide +kernel
theorem dX3_isFine_10 : decode cX3_isFine 10 = .ok (.goto 4, 3) := by decide +kernel
theorem dX3_isFine_13 : decode cX3_isFine 13 = .ok (.iconst 0, 1) := by decide +kernel
theorem dX3_isFine_14 : decode cX3_isFine 14 = .ok (.ireturn, 1) := by decide +kernel
set_option maxRecDepth 20000 in
theorem ggX3_isColumn_X3_in : GoodIn wsX3_isColumn wsX3_in := goodIn_r _ [5] (by decide +kernel) (by decide +kernel)
set_option maxRecDepth 20000 in
theorem gX3_isColumn_X3_in : GoodIn wsX3_isColumn (va_wsS RX3 48 yX3_in wsX3_in) := goodIn_app (goodIn_of _ (by decide +kernel)) ggX3_isColumn_X3_in
theorem dX3_isColumn_0 : decode cX3_isColumn 0 = .ok (.iload_n 1, 1) := by decide +kernel
theorem dX3_isColumn_1 : decode cX3_isColumn 1 = .ok (.iconst 0, 1) := by decide +kernel
theorem dX3_isColumn_2 : decode cX3_isColumn 2 = .ok (.aload_n 0, 1) := by decide +kernel
theorem dX3_isColumn_3 : decode cX3_isColumn 3 = .ok (.getfield 45, 3) := by decide +kernel
theorem dX3_isColumn_6 : decode cX3_isColumn 6 = .ok (.iconst 1, 1) := by decide +kernel
theorem dX3_isColumn_7 : decode cX3_isColumn 7 = .ok (.isub, 1) := by decide +kernel
theorem dX3_isColumn_8 : decode cX3_isColumn 8 = .ok (.invokestatic 48, 3) := by decide +kernel
theorem dX3_isColumn_11 : decode cX3_isColumn 11 = .ok (.ireturn, 1) := by decide +kernel
theorem dX3_lays_0 : decode cX3_lays 0 = .ok (.aload_n 0, 1) := by decide +kernel
theorem dX3_lays_1 : decode cX3_lays 1 = .ok (.iload_n 1, 1) := by decide +kernel
theorem dX3_lays_2 : decode cX3_lays 2 = .ok (.putfield 45, 3) := by decide +kernel
theorem dX3_lays_5 : decode cX3_lays 5 = .ok (.iconst 0, 1) := by decide +kernel
theorem dX3_lays_6 : decode cX3_lays 6 = .ok (.istore_n 3, 1) := by decide +kernel
theorem dX3_lays_7 : decode cX3_lays 7 = .ok (.iload_n 3, 1) := by decide +kernel
theorem dX3_lays_8 : decode cX3_lays 8 = .ok (.bipush 64, 2) := by decide +kernel
theorem dX3_lays_10 : decode cX3_lays 10 = .ok (.if_icmp .ge 32, 3) := by decide +kernel
theorem dX3_lays_13 : decode cX3_lays 13 = .ok (.aload_n 0, 1) := by decide +kernel
theorem dX3_lays_14 : decode cX3_lays 14 = .ok (.getfield 7, 3) := by decide +kernel
theorem dX3_lays_17 : decode cX3_lays 17 = .ok (.iload_n 3, 1) := by decide +kernel
theorem dX3_lays_18 : decode cX3_lays 18 = .ok (.iload_n 3, 1) := by decide +kernel
theorem dX3_lays_19 : decode cX3_lays 19 = .ok (.iload_n 1, 1) := by decide +kernel
theorem dX3_lays_20 : decode cX3_lays 20 = .ok (.if_icmp .ge 7, 3) := by decide +kernel
theorem dX3_lays_23 : decode cX3_lays 23 = .ok (.iload_n 2, 1) := by decide +kernel
theorem dX3_lays_24 : decode cX3_lays 24 = .ok (.goto 4, 3) := by decide +kernel
theorem dX3_lays_27 : decode cX3_lays 27 = .ok (.iconst 0, 1) := by decide +kernel
theorem dX3_lays_28 : decode cX3_lays 28 = .ok (.iastore, 1) := by decide +kernel
theorem dX3_lays_29 : decode cX3_lays 29 = .ok (.aload_n 0, 1) := by decide +kernel
theorem dX3_lays_30 : decode cX3_lays 30 = .ok (.getfield 13, 3) := by decide +kernel
theorem dX3_lays_33 : decode cX3_lays 33 = .ok (.iload_n 3, 1) := by decide +kernel
theorem dX3_lays_34 : decode cX3_lays 34 = .ok (.iconst (-1), 1) := by decide +kernel
theorem dX3_lays_35 : decode cX3_lays 35 = .ok (.iastore, 1) := by decide +kernel
theorem dX3_lays_36 : decode cX3_lays 36 = .ok (.iinc 3 1, 3) := by decide +kernel
theorem dX3_lays_39 : decode cX3_lays 39 = .ok (.goto (-32), 3) := by decide +kernel
theorem dX3_lays_42 : decode cX3_lays 42 = .ok (.iconst 1, 1) := by decide +kernel
theorem dX3_lays_43 : decode cX3_lays 43 = .ok (.istore_n 3, 1) := by decide +kernel
theorem dX3_lays_44 : decode cX3_lays 44 = .ok (.iload_n 3, 1) := by decide +kernel
theorem dX3_lays_45 : decode cX3_lays 45 = .ok (.sipush 128, 3) := by decide +kernel
theorem dX3_lays_48 : decode cX3_lays 48 = .ok (.if_icmp .ge 211, 3) := by decide +kernel
theorem dX3_lays_51 : decode cX3_lays 51 = .ok (.iload_n 3, 1) := by decide +kernel
theorem dX3_lays_52 : decode cX3_lays 52 = .ok (.iconst 1, 1) := by decide +kernel
theorem dX3_lays_53 : decode cX3_lays 53 = .ok (.if_icmp .eq 33, 3) := by decide +kernel
theorem dX3_lays_56 : decode cX3_lays 56 = .ok (.aload_n 0, 1) := by decide +kernel
theorem dX3_lays_57 : decode cX3_lays 57 = .ok (.getfield 16, 3) := by decide +kernel
theorem dX3_lays_60 : decode cX3_lays 60 = .ok (.iload_n 3, 1) := by decide +kernel
theorem dX3_lays_61 : decode cX3_lays 61 = .ok (.iconst 2, 1) := by decide +kernel
theorem dX3_lays_62 : decode cX3_lays 62 = .ok (.idiv, 1) := by decide +kernel
theorem dX3_lays_63 : decode cX3_lays 63 = .ok (.iaload, 1) := by decide +kernel
theorem dX3_lays_64 : decode cX3_lays 64 = .ok (.ifCond .lt 26, 3) := by decide +kernel
theorem dX3_lays_67 : decode cX3_lays 67 = .ok (.aload_n 0, 1) := by decide +kernel
theorem dX3_lays_68 : decode cX3_lays 68 = .ok (.getfield 16, 3) := by decide +kernel
theorem dX3_lays_71 : decode cX3_lays 71 = .ok (.iload_n 3, 1) := by decide +kernel
theorem dX3_lays_72 : decode cX3_lays 72 = .ok (.iconst 2, 1) := by decide +kernel
theorem dX3_lays_73 : decode cX3_lays 73 = .ok (.idiv, 1) := by decide +kernel
theorem dX3_lays_74 : decode cX3_lays 74 = .ok (.iaload, 1) := by decide +kernel
theorem dX3_lays_75 : decode cX3_lays 75 = .ok (.aload_n 0, 1) := by decide +kernel
theorem dX3_lays_76 : decode cX3_lays 76 = .ok (.getfield 19, 3) := by decide +kernel
theorem dX3_lays_79 : decode cX3_lays 79 = .ok (.iload_n 3, 1) := by decide +kernel
theorem dX3_lays_80 : decode cX3_lays 80 = .ok (.iconst 2, 1) := by decide +kernel
theorem dX3_lays_81 : decode cX3_lays 81 = .ok (.idiv, 1) := by decide +kernel
theorem dX3_lays_82 : decode cX3_lays 82 = .ok (.iaload, 1) := by decide +kernel
theorem dX3_lays_83 : decode cX3_lays 83 = .ok (.if_icmp .ge 7, 3) := by decide +kernel
theorem dX3_lays_86 : decode cX3_lays 86 = .ok (.iconst 1, 1) := by decide +kernel
theorem dX3_lays_87 : decode cX3_lays 87 = .ok (.goto 4, 3) := by decide +kernel
theorem dX3_lays_90 : decode cX3_lays 90 = .ok (.iconst 0, 1) := by decide +kernel
theorem dX3_lays_91 : decode cX3_lays 91 = .ok (.istore 4, 2) := by decide +kernel
theorem dX3_lays_93 : decode cX3_lays 93 = .ok (.aload_n 0, 1) := by decide +kernel
theorem dX3_lays_94 : decode cX3_lays 94 = .ok (.getfield 16, 3) := by decide +kernel
theorem dX3_lays_97 : decode cX3_lays 97 = .ok (.iload_n 3, 1) := by decide +kernel
theorem dX3_lays_98 : decode cX3_lays 98 = .ok (.iconst 2, 1) := by decide +kernel
theorem dX3_lays_99 : decode cX3_lays 99 = .ok (.idiv, 1) := by decide +kernel
theorem dX3_lays_100 : decode cX3_lays 100 = .ok (.iaload, 1) := by decide +kernel
theorem dX3_lays_101 : decode cX3_lays 101 = .ok (.aload_n 0, 1) := by decide +kernel
theorem dX3_lays_102 : decode cX3_lays 102 = .ok (.getfield 19, 3) := by decide +kernel
theorem dX3_lays_105 : decode cX3_lays 105 = .ok (.iload_n 3, 1) := by decide +kernel
theorem dX3_lays_106 : decode cX3_lays 106 = .ok (.iconst 2, 1) := by decide +kernel
theorem dX3_lays_107 : decode cX3_lays 107 = .ok (.idiv, 1) := by decide +kernel
theorem dX3_lays_108 : decode cX3_lays 108 = .ok (.iaload, 1) := by decide +kernel
theorem dX3_lays_109 : decode cX3_lays 109 = .ok (.iadd, 1) := by decide +kernel
theorem dX3_lays_110 : decode cX3_lays 110 = .ok (.iconst 2, 1) := by decide +kernel
theorem dX3_lays_111 : decode cX3_lays 111 = .ok (.idiv, 1) := by decide +kernel
theorem dX3_lays_112 : decode cX3_lays 112 = .ok (.istore 5, 2) := by decide +kernel
theorem dX3_lays_114 : decode cX3_lays 114 = .ok (.aload_n 0, 1) := by decide +kernel
theorem dX3_lays_115 : decode cX3_lays 115 = .ok (.getfield 16, 3) := by decide +kernel
theorem dX3_lays_118 : decode cX3_lays 118 = .ok (.iload_n 3, 1) := by decide +kernel
theorem dX3_lays_119 : decode cX3_lays 119 = .ok (.iload 4, 2) := by decide +kernel
theorem dX3_lays_121 : decode cX3_lays 121 = .ok (.ifCond .ne 7, 3) := by decide +kernel
theorem dX3_lays_124 : decode cX3_lays 124 = .ok (.iconst (-1), 1) := by decide +kernel
theorem dX3_lays_125 : decode cX3_lays 125 = .ok (.goto 33, 3) := by decide +kernel
theorem dX3_lays_128 : decode cX3_lays 128 = .ok (.iload_n 3, 1) := by decide +kernel
theorem dX3_lays_129 : decode cX3_lays 129 = .ok (.iconst 1, 1) := by decide +kernel
theorem dX3_lays_130 : decode cX3_lays 130 = .ok (.if_icmp .ne 7, 3) := by decide +kernel
theorem dX3_lays_133 : decode cX3_lays 133 = .ok (.iconst 0, 1) := by decide +kernel
theorem dX3_lays_134 : decode cX3_lays 134 = .ok (.goto 24, 3) := by decide +kernel
theorem dX3_lays_137 : decode cX3_lays 137 = .ok (.iload_n 3, 1) := by decide +kernel
theorem dX3_lays_138 : decode cX3_lays 138 = .ok (.iconst 2, 1) := by decide +kernel
theorem dX3_lays_139 : decode cX3_lays 139 = .ok (.irem, 1) := by decide +kernel
theorem dX3_lays_140 : decode cX3_lays 140 = .ok (.ifCond .ne 14, 3) := by decide +kernel
theorem dX3_lays_143 : decode cX3_lays 143 = .ok (.aload_n 0, 1) := by decide +kernel
theorem dX3_lays_144 : decode cX3_lays 144 = .ok (.getfield 16, 3) := by decide +kernel
theorem dX3_lays_147 : decode cX3_lays 147 = .ok (.iload_n 3, 1) := by decide +kernel
theorem dX3_lays_148 : decode cX3_lays 148 = .ok (.iconst 2, 1) := by decide +kernel
theorem dX3_lays_149 : decode cX3_lays 149 = .ok (.idiv, 1) := by decide +kernel
theorem dX3_lays_150 : decode cX3_lays 150 = .ok (.iaload, 1) := by decide +kernel
theorem dX3_lays_151 : decode cX3_lays 151 = .ok (.goto 7, 3) := by decide +kernel
theorem dX3_lays_154 : decode cX3_lays 154 = .ok (.iload 5, 2) := by decide +kernel
theorem dX3_lays_156 : decode cX3_lays 156 = .ok (.iconst 1, 1) := by decide +kernel
theorem dX3_lays_157 : decode cX3_lays 157 = .ok (.iadd, 1) := by decide +kernel
theorem dX3_lays_158 : decode cX3_lays 158 = .ok (.iastore, 1) := by decide +kernel
theorem dX3_lays_159 : decode cX3_lays 159 = .ok (.aload_n 0, 1) := by decide +kernel
theorem dX3_lays_160 : decode cX3_lays 160 = .ok (.getfield 19, 3) := by decide +kernel
theorem dX3_lays_163 : decode cX3_lays 163 = .ok (.iload_n 3, 1) := by decide +kernel
theorem dX3_lays_164 : decode cX3_lays 164 = .ok (.iload 4, 2) := by decide +kernel
theorem dX3_lays_166 : decode cX3_lays 166 = .ok (.ifCond .ne 7, 3) := by decide +kernel
theorem dX3_lays_169 : decode cX3_lays 169 = .ok (.iconst (-1), 1) := by decide +kernel
theorem dX3_lays_170 : decode cX3_lays 170 = .ok (.goto 33, 3) := by decide +kernel
theorem dX3_lays_173 : decode cX3_lays 173 = .ok (.iload_n 3, 1) := by decide +kernel
theorem dX3_lays_174 : decode cX3_lays 174 = .ok (.iconst 1, 1) := by decide +kernel
theorem dX3_lays_175 : decode cX3_lays 175 = .ok (.if_icmp .ne 9, 3) := by decide +kernel
theorem dX3_lays_178 : decode cX3_lays 178 = .ok (.iload_n 1, 1) := by decide +kernel
theorem dX3_lays_179 : decode cX3_lays 179 = .ok (.iconst 1, 1) := by decide +kernel
theorem dX3_lays_180 : decode cX3_lays 180 = .ok (.isub, 1) := by decide +kernel
theorem dX3_lays_181 : decode cX3_lays 181 = .ok (.goto 22, 3) := by decide +kernel
theorem dX3_lays_184 : decode cX3_lays 184 = .ok (.iload_n 3, 1) := by decide +kernel
theorem dX3_lays_185 : decode cX3_lays 185 = .ok (.iconst 2, 1) := by decide +kernel
theorem dX3_lays_186 : decode cX3_lays 186 = .ok (.irem, 1) := by decide +kernel
theorem dX3_lays_187 : decode cX3_lays 187 = .ok (.ifCond .ne 8, 3) := by decide +kernel
theorem dX3_lays_190 : decode cX3_lays 190 = .ok (.iload 5, 2) := by decide +kernel
theorem dX3_lays_192 : decode cX3_lays 192 = .ok (.goto 11, 3) := by decide +kernel
theorem dX3_lays_195 : decode cX3_lays 195 = .ok (.aload_n 0, 1) := by decide +kernel
theorem dX3_lays_196 : decode cX3_lays 196 = .ok (.getfield 19, 3) := by decide +kernel
theorem dX3_lays_199 : decode cX3_lays 199 = .ok (.iload_n 3, 1) := by decide +kernel
theorem dX3_lays_200 : decode cX3_lays 200 = .ok (.iconst 2, 1) := by decide +kernel
theorem dX3_lays_201 : decode cX3_lays 201 = .ok (.idiv, 1) := by decide +kernel
theorem dX3_lays_202 : decode cX3_lays 202 = .ok (.iaload, 1) := by decide +kernel
theorem dX3_lays_203 : decode cX3_lays 203 = .ok (.iastore, 1) := by decide +kernel
theorem dX3_lays_204 : decode cX3_lays 204 = .ok (.aload_n 0, 1) := by decide +kernel
theorem dX3_lays_205 : decode cX3_lays 205 = .ok (.getfield 22, 3) := by decide +kernel
theorem dX3_lays_208 : decode cX3_lays 208 = .ok (.iload_n 3, 1) := by decide +kernel
theorem dX3_lays_209 : decode cX3_lays 209 = .ok (.iload_n 2, 1) := by decide +kernel
theorem dX3_lays_210 : decode cX3_lays 210 = .ok (.iastore, 1) := by decide +kernel
theorem dX3_lays_211 : decode cX3_lays 211 = .ok (.aload_n 0, 1) := by decide +kernel
theorem dX3_lays_212 : decode cX3_lays 212 = .ok (.getfield 25, 3) := by decide +kernel
theorem dX3_lays_215 : decode cX3_lays 215 = .ok (.iload_n 3, 1) := by decide +kernel
theorem dX3_lays_216 : decode cX3_lays 216 = .ok (.iconst (-1), 1) := by decide +kernel
theorem dX3_lays_217 : decode cX3_lays 217 = .ok (.iastore, 1) := by decide +kernel
theorem dX3_lays_218 : decode cX3_lays 218 = .ok (.aload_n 0, 1) := by decide +kernel
theorem dX3_lays_219 : decode cX3_lays 219 = .ok (.getfield 28, 3) := by decide +kernel
theorem dX3_lays_222 : decode cX3_lays 222 = .ok (.iload_n 3, 1) := by decide +kernel
theorem dX3_lays_223 : decode cX3_lays 223 = .ok (.aload_n 0, 1) := by decide +kernel
theorem dX3_lays_224 : decode cX3_lays 224 = .ok (.getfield 19, 3) := by decide +kernel
theorem dX3_lays_227 : decode cX3_lays 227 = .ok (.iload_n 3, 1) := by decide +kernel
theorem dX3_lays_228 : decode cX3_lays 228 = .ok (.iaload, 1) := by decide +kernel
theorem dX3_lays_229 : decode cX3_lays 229 = .ok (.aload_n 0, 1) := by decide +kernel
theorem dX3_lays_230 : decode cX3_lays 230 = .ok (.getfield 16, 3) := by decide +kernel
theorem dX3_lays_233 : decode cX3_lays 233 = .ok (.iload_n 3, 1) := by decide +kernel
theorem dX3_lays_234 : decode cX3_lays 234 = .ok (.iaload, 1) := by decide +kernel
theorem dX3_lays_235 : decode cX3_lays 235 = .ok (.isub, 1) := by decide +kernel
theorem dX3_lays_236 : decode cX3_lays 236 = .ok (.iconst 1, 1) := by decide +kernel
theorem dX3_lays_237 : decode cX3_lays 237 = .ok (.iadd, 1) := by decide +kernel
theorem dX3_lays_238 : decode cX3_lays 238 = .ok (.iastore, 1) := by decide +kernel
theorem dX3_lays_239 : decode cX3_lays 239 = .ok (.aload_n 0, 1) := by decide +kernel
theorem dX3_lays_240 : decode cX3_lays 240 = .ok (.getfield 31, 3) := by decide +kernel
theorem dX3_lays_243 : decode cX3_lays 243 = .ok (.iload_n 3, 1) := by decide +kernel
theorem dX3_lays_244 : decode cX3_lays 244 = .ok (.aload_n 0, 1) := by decide +kernel
theorem dX3_lays_245 : decode cX3_lays 245 = .ok (.getfield 28, 3) := by decide +kernel
theorem dX3_lays_248 : decode cX3_lays 248 = .ok (.iload_n 3, 1) := by decide +kernel
theorem dX3_lays_249 : decode cX3_lays 249 = .ok (.iaload, 1) := by decide +kernel
theorem dX3_lays_250 : decode cX3_lays 250 = .ok (.iload_n 2, 1) := by decide +kernel
theorem dX3_lays_251 : decode cX3_lays 251 = .ok (.imul, 1) := by decide +kernel
theorem dX3_lays_252 : decode cX3_lays 252 = .ok (.iastore, 1) := by decide +kernel
theorem dX3_lays_253 : decode cX3_lays 253 = .ok (.iinc 3 1, 3) := by decide +kernel
theorem dX3_lays_256 : decode cX3_lays 256 = .ok (.goto (-212), 3) := by decide +kernel
theorem dX3_lays_259 : decode cX3_lays 259 = .ok (.aload_n 0, 1) := by decide +kernel
theorem dX3_lays_260 : decode cX3_lays 260 = .ok (.iconst 0, 1) := by decide +kernel
theorem dX3_lays_261 : decode cX3_lays 261 = .ok (.putfield 52, 3) := by decide +kernel
theorem dX3_lays_264 : decode cX3_lays 264 = .ok (.aload_n 0, 1) := by decide +kernel
theorem dX3_lays_265 : decode cX3_lays 265 = .ok (.iconst 0, 1) := by decide +kernel
theorem dX3_lays_266 : decode cX3_lays 266 = .ok (.putfield 55, 3) := by decide +kernel
theorem dX3_lays_269 : decode cX3_lays 269 = .ok (.aload_n 0, 1) := by decide +kernel
theorem dX3_lays_270 : decode cX3_lays 270 = .ok (.iconst 0, 1) := by decide +kernel
theorem dX3_lays_271 : decode cX3_lays 271 = .ok (.putfield 58, 3) := by decide +kernel
theorem dX3_lays_274 : decode cX3_lays 274 = .ok (.aload_n 0, 1) := by decide +kernel
theorem dX3_lays_275 : decode cX3_lays 275 = .ok (.iload_n 1, 1) := by decide +kernel
theorem dX3_lays_276 : decode cX3_lays 276 = .ok (.iload_n 2, 1) := by decide +kernel
theorem dX3_lays_277 : decode cX3_lays 277 = .ok (.imul, 1) := by decide +kernel
theorem dX3_lays_278 : decode cX3_lays 278 = .ok (.putfield 61, 3) := by decide +kernel
theorem dX3_lays_281 : decode cX3_lays 281 = .ok (.aload_n 0, 1) := by decide +kernel
theorem dX3_lays_282 : decode cX3_lays 282 = .ok (.iconst 0, 1) := by decide +kernel
theorem dX3_lays_283 : decode cX3_lays 283 = .ok (.putfield 64, 3) := by decide +kernel
theorem dX3_lays_286 : decode cX3_lays 286 = .ok (.aload_n 0, 1) := by decide +kernel
theorem dX3_lays_287 : decode cX3_lays 287 = .ok (.iconst 0, 1) := by decide +kernel
theorem dX3_lays_288 : decode cX3_lays 288 = .ok (.putfield 67, 3) := by decide +kernel
theorem dX3_lays_291 : decode cX3_lays 291 = .ok (.return_, 1) := by decide +kernel
set_option maxRecDepth 20000 in
theorem ggX3_layOut_X3_in : GoodIn wsX3_layOut wsX3_in := goodIn_r _ [5] (by decide +kernel) (by decide +kernel)
set_option maxRecDepth 20000 in
theorem gX3_layOut_X3_in : GoodIn wsX3_layOut (va_wsS RX3 48 yX3_in wsX3_in) := goodIn_app (goodIn_of _ (by decide +kernel)) ggX3_layOut_X3_in
set_option maxRecDepth 20000 in
theorem ggX3_layOut_X3_isFine : GoodIn wsX3_layOut wsX3_isFine := goodIn_r _ [9, 10, 29, 30, 31, 32, 33, 34, 35, 36, 37, 38, 39, 40, 41, 42, 43, 44, 45, 46] (by decide +kernel) (by decide +kernel)
set_option maxRecDepth 20000 in
theorem gX3_layOut_X3_isFine : GoodIn wsX3_layOut (wsV RX3 70 RX3 yX3_isFine wsX3_isFine) := goodIn_app (goodIn_of _ (by decide +kernel)) ggX3_layOut_X3_isFine
set_option maxRecDepth 20000 in
theorem ggX3_layOut_X3_lays : GoodIn wsX3_layOut wsX3_lays := goodIn_r _ [14, 15, 16, 17, 18, 19, 20, 21, 22, 23, 24, 25, 26, 1, 27, 28, 29, 30, 31, 32, 33, 34, 35, 36, 37, 38, 39, 40, 41, 42, 43, 44, 45, 46] (by decide +kernel) (by decide +kernel)
set_option maxRecDepth 20000 in
theorem gX3_layOut_X3_lays : GoodIn wsX3_layOut (wsV RX3 37 RX3 yX3_lays wsX3_lays) := goodIn_app (goodIn_of _ (by decide +kernel)) ggX3_layOut_X3_lays
theorem dX3_layOut_0 : decode cX3_layOut 0 = .ok (.aload_n 0, 1) := by decide +kernel
theorem dX3_layOut_1 : decode cX3_layOut 1 = .ok (.iload_n 1, 1) := by decide +kernel
theorem dX3_layOut_2 : decode cX3_layOut 2 = .ok (.iconst 1, 1) := by decide +kernel
theorem dX3_layOut_3 : decode cX3_layOut 3 = .ok (.bipush 64, 2) := by decide +kernel
theorem dX3_layOut_5 : decode cX3_layOut 5 = .ok (.invokestatic 48, 3) := by decide +kernel
theorem dX3_layOut_8 : decode cX3_layOut 8 = .ok (.ifCond .eq 18, 3) := by decide +kernel
theorem dX3_layOut_11 : decode cX3_layOut 11 = .ok (.iload_n 2, 1) := by decide +kernel
theorem dX3_layOut_12 : decode cX3_layOut 12 = .ok (.iconst 0, 1) := by decide +kernel
theorem dX3_layOut_13 : decode cX3_layOut 13 = .ok (.sipush 1000, 3) := by decide +kernel
theorem dX3_layOut_16 : decode cX3_layOut 16 = .ok (.invokestatic 48, 3) := by decide +kernel
theorem dX3_layOut_19 : decode cX3_layOut 19 = .ok (.ifCond .eq 7, 3) := by decide +kernel
theorem dX3_layOut_22 : decode cX3_layOut 22 = .ok (.iconst 0, 1) := by decide +kernel
theorem dX3_layOut_23 : decode cX3_layOut 23 = .ok (.goto 4, 3) := by decide +kernel
theorem dX3_layOut_26 : decode cX3_layOut 26 = .ok (.iconst 1, 1) := by decide +kernel
theorem dX3_layOut_27 : decode cX3_layOut 27 = .ok (.invokevirtual 70, 3) := by decide +kernel
theorem dX3_layOut_30 : decode cX3_layOut 30 = .ok (.ifCond .ne 5, 3) := by decide +kernel
theorem dX3_layOut_33 : decode cX3_layOut 33 = .ok (.iconst 0, 1) := by decide +kernel
theorem dX3_layOut_34 : decode cX3_layOut 34 = .ok (.ireturn, 1) := by decide +kernel
theorem dX3_layOut_35 : decode cX3_layOut 35 = .ok (.aload_n 0, 1) := by decide +kernel
theorem dX3_layOut_36 : decode cX3_layOut 36 = .ok (.iload_n 1, 1) := by decide +kernel
theorem dX3_layOut_37 : decode cX3_layOut 37 = .ok (.iload_n 2, 1) := by decide +kernel
theorem dX3_layOut_38 : decode cX3_layOut 38 = .ok (.invokevirtual 37, 3) := by decide +kernel
theorem dX3_layOut_41 : decode cX3_layOut 41 = .ok (.aload_n 0, 1) := by decide +kernel
theorem dX3_layOut_42 : decode cX3_layOut 42 = .ok (.getfield 61, 3) := by decide +kernel
theorem dX3_layOut_45 : decode cX3_layOut 45 = .ok (.ireturn, 1) := by decide +kernel
theorem dX3_press_0 : decode cX3_press 0 = .ok (.aload_n 0, 1) := by decide +kernel
theorem dX3_press_1 : decode cX3_press 1 = .ok (.getfield 31, 3) := by decide +kernel
theorem dX3_press_4 : decode cX3_press 4 = .ok (.iload_n 1, 1) := by decide +kernel
theorem dX3_press_5 : decode cX3_press 5 = .ok (.dup2, 1) := by decide +kernel
theorem dX3_press_6 : decode cX3_press 6 = .ok (.iaload, 1) := by decide +kernel
theorem dX3_press_7 : decode cX3_press 7 = .ok (.aload_n 0, 1) := by decide +kernel
theorem dX3_press_8 : decode cX3_press 8 = .ok (.getfield 22, 3) := by decide +kernel
theorem dX3_press_11 : decode cX3_press 11 = .ok (.iload_n 1, 1) := by decide +kernel
theorem dX3_press_12 : decode cX3_press 12 = .ok (.iaload, 1) := by decide +kernel
theorem dX3_press_13 : decode cX3_press 13 = .ok (.iload_n 2, 1) := by decide +kernel
theorem dX3_press_14 : decode cX3_press 14 = .ok (.isub, 1) := by decide +kernel
theorem dX3_press_15 : decode cX3_press 15 = .ok (.aload_n 0, 1) := by decide +kernel
theorem dX3_press_16 : decode cX3_press 16 = .ok (.getfield 28, 3) := by decide +kernel
theorem dX3_press_19 : decode cX3_press 19 = .ok (.iload_n 1, 1) := by decide +kernel
theorem dX3_press_20 : decode cX3_press 20 = .ok (.iaload, 1) := by decide +kernel
theorem dX3_press_21 : decode cX3_press 21 = .ok (.imul, 1) := by decide +kernel
theorem dX3_press_22 : decode cX3_press 22 = .ok (.isub, 1) := by decide +kernel
theorem dX3_press_23 : decode cX3_press 23 = .ok (.iastore, 1) := by decide +kernel
theorem dX3_press_24 : decode cX3_press 24 = .ok (.aload_n 0, 1) := by decide +kernel
theorem dX3_press_25 : decode cX3_press 25 = .ok (.getfield 22, 3) := by decide +kernel
theorem dX3_press_28 : decode cX3_press 28 = .ok (.iload_n 1, 1) := by decide +kernel
theorem dX3_press_29 : decode cX3_press 29 = .ok (.iload_n 2, 1) := by decide +kernel
theorem dX3_press_30 : decode cX3_press 30 = .ok (.iastore, 1) := by decide +kernel
theorem dX3_press_31 : decode cX3_press 31 = .ok (.return_, 1) := by decide +kernel
set_option maxRecDepth 20000 in
theorem ggX3_catchUp_X3_press : GoodIn wsX3_catchUp wsX3_press := goodIn_r _ [6, 7, 1, 8, 9, 10, 11, 12, 13, 14, 15, 16, 17, 18, 19, 20, 21, 22, 23, 24, 25, 26] (by decide +kernel) (by decide +kernel)
set_option maxRecDepth 20000 in
theorem gX3_catchUp_X3_press : GoodIn wsX3_catchUp (wsV RX3 74 RX3 yX3_press wsX3_press) := goodIn_app (goodIn_of _ (by decide +kernel)) ggX3_catchUp_X3_press
theorem dX3_catchUp_0 : decode cX3_catchUp 0 = .ok (.iconst 2, 1) := by decide +kernel
theorem dX3_catchUp_1 : decode cX3_catchUp 1 = .ok (.iload_n 1, 1) := by decide +kernel
theorem dX3_catchUp_2 : decode cX3_catchUp 2 = .ok (.imul, 1) := by decide +kernel
theorem dX3_catchUp_3 : decode cX3_catchUp 3 = .ok (.istore_n 2, 1) := by decide +kernel
theorem dX3_catchUp_4 : decode cX3_catchUp 4 = .ok (.iload_n 2, 1) := by decide +kernel
theorem dX3_catchUp_5 : decode cX3_catchUp 5 = .ok (.iconst 2, 1) := by decide +kernel
theorem dX3_catchUp_6 : decode cX3_catchUp 6 = .ok (.iload_n 1, 1) := by decide +kernel
theorem dX3_catchUp_7 : decode cX3_catchUp 7 = .ok (.imul, 1) := by decide +kernel
theorem dX3_catchUp_8 : decode cX3_catchUp 8 = .ok (.iconst 1, 1) := by decide +kernel
theorem dX3_catchUp_9 : decode cX3_catchUp 9 = .ok (.iadd, 1) := by decide +kernel
theorem dX3_catchUp_10 : decode cX3_catchUp 10 = .ok (.if_icmp .gt 35, 3) := by decide +kernel
theorem dX3_catchUp_13 : decode cX3_catchUp 13 = .ok (.aload_n 0, 1) := by decide +kernel
theorem dX3_catchUp_14 : decode cX3_catchUp 14 = .ok (.getfield 22, 3) := by decide +kernel
theorem dX3_catchUp_17 : decode cX3_catchUp 17 = .ok (.iload_n 2, 1) := by decide +kernel
theorem dX3_catchUp_18 : decode cX3_catchUp 18 = .ok (.iaload, 1) := by decide +kernel
theorem dX3_catchUp_19 : decode cX3_catchUp 19 = .ok (.aload_n 0, 1) := by decide +kernel
theorem dX3_catchUp_20 : decode cX3_catchUp 20 = .ok (.getfield 22, 3) := by decide +kernel
theorem dX3_catchUp_23 : decode cX3_catchUp 23 = .ok (.iload_n 1, 1) := by decide +kernel
theorem dX3_catchUp_24 : decode cX3_catchUp 24 = .ok (.iaload, 1) := by decide +kernel
theorem dX3_catchUp_25 : decode cX3_catchUp 25 = .ok (.if_icmp .le 14, 3) := by decide +kernel
theorem dX3_catchUp_28 : decode cX3_catchUp 28 = .ok (.aload_n 0, 1) := by decide +kernel
theorem dX3_catchUp_29 : decode cX3_catchUp 29 = .ok (.iload_n 2, 1) := by decide +kernel
theorem dX3_catchUp_30 : decode cX3_catchUp 30 = .ok (.aload_n 0, 1) := by decide +kernel
theorem dX3_catchUp_31 : decode cX3_catchUp 31 = .ok (.getfield 22, 3) := by decide +kernel
theorem dX3_catchUp_34 : decode cX3_catchUp 34 = .ok (.iload_n 1, 1) := by decide +kernel
theorem dX3_catchUp_35 : decode cX3_catchUp 35 = .ok (.iaload, 1) := by decide +kernel
theorem dX3_catchUp_36 : decode cX3_catchUp 36 = .ok (.invokevirtual 74, 3) := by decide +kernel
theorem dX3_catchUp_39 : decode cX3_catchUp 39 = .ok (.iinc 2 1, 3) := by decide +kernel
theorem dX3_catchUp_42 : decode cX3_catchUp 42 = .ok (.goto (-38), 3) := by decide +kernel
theorem dX3_catchUp_45 : decode cX3_catchUp 45 = .ok (.return_, 1) := by decide +kernel
theorem dX3_tell_0 : decode cX3_tell 0 = .ok (.iconst 2, 1) := by decide +kernel
theorem dX3_tell_1 : decode cX3_tell 1 = .ok (.iload_n 1, 1) := by decide +kernel
theorem dX3_tell_2 : decode cX3_tell 2 = .ok (.imul, 1) := by decide +kernel
theorem dX3_tell_3 : decode cX3_tell 3 = .ok (.istore_n 2, 1) := by decide +kernel
theorem dX3_tell_4 : decode cX3_tell 4 = .ok (.iload_n 2, 1) := by decide +kernel
theorem dX3_tell_5 : decode cX3_tell 5 = .ok (.iconst 1, 1) := by decide +kernel
theorem dX3_tell_6 : decode cX3_tell 6 = .ok (.iadd, 1) := by decide +kernel
theorem dX3_tell_7 : decode cX3_tell 7 = .ok (.istore_n 3, 1) := by decide +kernel
theorem dX3_tell_8 : decode cX3_tell 8 = .ok (.aload_n 0, 1) := by decide +kernel
theorem dX3_tell_9 : decode cX3_tell 9 = .ok (.getfield 22, 3) := by decide +kernel
theorem dX3_tell_12 : decode cX3_tell 12 = .ok (.iload_n 2, 1) := by decide +kernel
theorem dX3_tell_13 : decode cX3_tell 13 = .ok (.iaload, 1) := by decide +kernel
theorem dX3_tell_14 : decode cX3_tell 14 = .ok (.aload_n 0, 1) := by decide +kernel
theorem dX3_tell_15 : decode cX3_tell 15 = .ok (.getfield 22, 3) := by decide +kernel
theorem dX3_tell_18 : decode cX3_tell 18 = .ok (.iload_n 3, 1) := by decide +kernel
theorem dX3_tell_19 : decode cX3_tell 19 = .ok (.iaload, 1) := by decide +kernel
theorem dX3_tell_20 : decode cX3_tell 20 = .ok (.if_icmp .le 12, 3) := by decide +kernel
theorem dX3_tell_23 : decode cX3_tell 23 = .ok (.aload_n 0, 1) := by decide +kernel
theorem dX3_tell_24 : decode cX3_tell 24 = .ok (.getfield 22, 3) := by decide +kernel
theorem dX3_tell_27 : decode cX3_tell 27 = .ok (.iload_n 2, 1) := by decide +kernel
theorem dX3_tell_28 : decode cX3_tell 28 = .ok (.iaload, 1) := by decide +kernel
theorem dX3_tell_29 : decode cX3_tell 29 = .ok (.goto 9, 3) := by decide +kernel
theorem dX3_tell_32 : decode cX3_tell 32 = .ok (.aload_n 0, 1) := by decide +kernel
theorem dX3_tell_33 : decode cX3_tell 33 = .ok (.getfield 22, 3) := by decide +kernel
theorem dX3_tell_36 : decode cX3_tell 36 = .ok (.iload_n 3, 1) := by decide +kernel
theorem dX3_tell_37 : decode cX3_tell 37 = .ok (.iaload, 1) := by decide +kernel
theorem dX3_tell_38 : decode cX3_tell 38 = .ok (.istore 4, 2) := by decide +kernel
theorem dX3_tell_40 : decode cX3_tell 40 = .ok (.aload_n 0, 1) := by decide +kernel
theorem dX3_tell_41 : decode cX3_tell 41 = .ok (.getfield 22, 3) := by decide +kernel
theorem dX3_tell_44 : decode cX3_tell 44 = .ok (.iload_n 1, 1) := by decide +kernel
theorem dX3_tell_45 : decode cX3_tell 45 = .ok (.iload 4, 2) := by decide +kernel
theorem dX3_tell_47 : decode cX3_tell 47 = .ok (.iastore, 1) := by decide +kernel
theorem dX3_tell_48 : decode cX3_tell 48 = .ok (.aload_n 0, 1) := by decide +kernel
theorem dX3_tell_49 : decode cX3_tell 49 = .ok (.getfield 28, 3) := by decide +kernel
theorem dX3_tell_52 : decode cX3_tell 52 = .ok (.iload_n 1, 1) := by decide +kernel
theorem dX3_tell_53 : decode cX3_tell 53 = .ok (.aload_n 0, 1) := by decide +kernel
theorem dX3_tell_54 : decode cX3_tell 54 = .ok (.getfield 22, 3) := by decide +kernel
theorem dX3_tell_57 : decode cX3_tell 57 = .ok (.iload_n 2, 1) := by decide +kernel
theorem dX3_tell_58 : decode cX3_tell 58 = .ok (.iaload, 1) := by decide +kernel
theorem dX3_tell_59 : decode cX3_tell 59 = .ok (.iload 4, 2) := by decide +kernel
theorem dX3_tell_61 : decode cX3_tell 61 = .ok (.if_icmp .ne 12, 3) := by decide +kernel
theorem dX3_tell_64 : decode cX3_tell 64 = .ok (.aload_n 0, 1) := by decide +kernel
theorem dX3_tell_65 : decode cX3_tell 65 = .ok (.getfield 28, 3) := by decide +kernel
theorem dX3_tell_68 : decode cX3_tell 68 = .ok (.iload_n 2, 1) := by decide +kernel
theorem dX3_tell_69 : decode cX3_tell 69 = .ok (.iaload, 1) := by decide +kernel
theorem dX3_tell_70 : decode cX3_tell 70 = .ok (.goto 4, 3) := by decide +kernel
theorem dX3_tell_73 : decode cX3_tell 73 = .ok (.iconst 0, 1) := by decide +kernel
theorem dX3_tell_74 : decode cX3_tell 74 = .ok (.aload_n 0, 1) := by decide +kernel
theorem dX3_tell_75 : decode cX3_tell 75 = .ok (.getfield 22, 3) := by decide +kernel
theorem dX3_tell_78 : decode cX3_tell 78 = .ok (.iload_n 3, 1) := by decide +kernel
theorem dX3_tell_79 : decode cX3_tell 79 = .ok (.iaload, 1) := by decide +kernel
theorem dX3_tell_80 : decode cX3_tell 80 = .ok (.iload 4, 2) := by decide +kernel
theorem dX3_tell_82 : decode cX3_tell 82 = .ok (.if_icmp .ne 12, 3) := by decide +kernel
theorem dX3_tell_85 : decode cX3_tell 85 = .ok (.aload_n 0, 1) := by decide +kernel
theorem dX3_tell_86 : decode cX3_tell 86 = .ok (.getfield 28, 3) := by decide +kernel
theorem dX3_tell_89 : decode cX3_tell 89 = .ok (.iload_n 3, 1) := by decide +kernel
theorem dX3_tell_90 : decode cX3_tell 90 = .ok (.iaload, 1) := by decide +kernel
theorem dX3_tell_91 : decode cX3_tell 91 = .ok (.goto 4, 3) := by decide +kernel
theorem dX3_tell_94 : decode cX3_tell 94 = .ok (.iconst 0, 1) := by decide +kernel
theorem dX3_tell_95 : decode cX3_tell 95 = .ok (.iadd, 1) := by decide +kernel
theorem dX3_tell_96 : decode cX3_tell 96 = .ok (.iastore, 1) := by decide +kernel
theorem dX3_tell_97 : decode cX3_tell 97 = .ok (.aload_n 0, 1) := by decide +kernel
theorem dX3_tell_98 : decode cX3_tell 98 = .ok (.getfield 25, 3) := by decide +kernel
theorem dX3_tell_101 : decode cX3_tell 101 = .ok (.iload_n 2, 1) := by decide +kernel
theorem dX3_tell_102 : decode cX3_tell 102 = .ok (.iaload, 1) := by decide +kernel
theorem dX3_tell_103 : decode cX3_tell 103 = .ok (.aload_n 0, 1) := by decide +kernel
theorem dX3_tell_104 : decode cX3_tell 104 = .ok (.getfield 25, 3) := by decide +kernel
theorem dX3_tell_107 : decode cX3_tell 107 = .ok (.iload_n 3, 1) := by decide +kernel
theorem dX3_tell_108 : decode cX3_tell 108 = .ok (.iaload, 1) := by decide +kernel
theorem dX3_tell_109 : decode cX3_tell 109 = .ok (.if_icmp .le 12, 3) := by decide +kernel
theorem dX3_tell_112 : decode cX3_tell 112 = .ok (.aload_n 0, 1) := by decide +kernel
theorem dX3_tell_113 : decode cX3_tell 113 = .ok (.getfield 25, 3) := by decide +kernel
theorem dX3_tell_116 : decode cX3_tell 116 = .ok (.iload_n 2, 1) := by decide +kernel
theorem dX3_tell_117 : decode cX3_tell 117 = .ok (.iaload, 1) := by decide +kernel
theorem dX3_tell_118 : decode cX3_tell 118 = .ok (.goto 9, 3) := by decide +kernel
theorem dX3_tell_121 : decode cX3_tell 121 = .ok (.aload_n 0, 1) := by decide +kernel
theorem dX3_tell_122 : decode cX3_tell 122 = .ok (.getfield 25, 3) := by decide +kernel
theorem dX3_tell_125 : decode cX3_tell 125 = .ok (.iload_n 3, 1) := by decide +kernel
theorem dX3_tell_126 : decode cX3_tell 126 = .ok (.iaload, 1) := by decide +kernel
theorem dX3_tell_127 : decode cX3_tell 127 = .ok (.istore 5, 2) := by decide +kernel
theorem dX3_tell_129 : decode cX3_tell 129 = .ok (.aload_n 0, 1) := by decide +kernel
theorem dX3_tell_130 : decode cX3_tell 130 = .ok (.getfield 22, 3) := by decide +kernel
theorem dX3_tell_133 : decode cX3_tell 133 = .ok (.iload_n 2, 1) := by decide +kernel
theorem dX3_tell_134 : decode cX3_tell 134 = .ok (.iaload, 1) := by decide +kernel
theorem dX3_tell_135 : decode cX3_tell 135 = .ok (.iload 4, 2) := by decide +kernel
theorem dX3_tell_137 : decode cX3_tell 137 = .ok (.if_icmp .ge 23, 3) := by decide +kernel
theorem dX3_tell_140 : decode cX3_tell 140 = .ok (.aload_n 0, 1) := by decide +kernel
theorem dX3_tell_141 : decode cX3_tell 141 = .ok (.getfield 22, 3) := by decide +kernel
theorem dX3_tell_144 : decode cX3_tell 144 = .ok (.iload_n 2, 1) := by decide +kernel
theorem dX3_tell_145 : decode cX3_tell 145 = .ok (.iaload, 1) := by decide +kernel
theorem dX3_tell_146 : decode cX3_tell 146 = .ok (.iload 5, 2) := by decide +kernel
theorem dX3_tell_148 : decode cX3_tell 148 = .ok (.if_icmp .le 12, 3) := by decide +kernel
theorem dX3_tell_151 : decode cX3_tell 151 = .ok (.aload_n 0, 1) := by decide +kernel
theorem dX3_tell_152 : decode cX3_tell 152 = .ok (.getfield 22, 3) := by decide +kernel
theorem dX3_tell_155 : decode cX3_tell 155 = .ok (.iload_n 2, 1) := by decide +kernel
theorem dX3_tell_156 : decode cX3_tell 156 = .ok (.iaload, 1) := by decide +kernel
theorem dX3_tell_157 : decode cX3_tell 157 = .ok (.goto 5, 3) := by decide +kernel
theorem dX3_tell_160 : decode cX3_tell 160 = .ok (.iload 5, 2) := by decide +kernel
theorem dX3_tell_162 : decode cX3_tell 162 = .ok (.istore 5, 2) := by decide +kernel
theorem dX3_tell_164 : decode cX3_tell 164 = .ok (.aload_n 0, 1) := by decide +kernel
theorem dX3_tell_165 : decode cX3_tell 165 = .ok (.getfield 25, 3) := by decide +kernel
theorem dX3_tell_168 : decode cX3_tell 168 = .ok (.iload_n 1, 1) := by decide +kernel
theorem dX3_tell_169 : decode cX3_tell 169 = .ok (.aload_n 0, 1) := by decide +kernel
theorem dX3_tell_170 : decode cX3_tell 170 = .ok (.getfield 22, 3) := by decide +kernel
theorem dX3_tell_173 : decode cX3_tell 173 = .ok (.iload_n 3, 1) := by decide +kernel
theorem dX3_tell_174 : decode cX3_tell 174 = .ok (.iaload, 1) := by decide +kernel
theorem dX3_tell_175 : decode cX3_tell 175 = .ok (.iload 4, 2) := by decide +kernel
theorem dX3_tell_177 : decode cX3_tell 177 = .ok (.if_icmp .ge 23, 3) := by decide +kernel
theorem dX3_tell_180 : decode cX3_tell 180 = .ok (.aload_n 0, 1) := by decide +kernel
theorem dX3_tell_181 : decode cX3_tell 181 = .ok (.getfield 22, 3) := by decide +kernel
theorem dX3_tell_184 : decode cX3_tell 184 = .ok (.iload_n 3, 1) := by decide +kernel
theorem dX3_tell_185 : decode cX3_tell 185 = .ok (.iaload, 1) := by decide +kernel
theorem dX3_tell_186 : decode cX3_tell 186 = .ok (.iload 5, 2) := by decide +kernel
theorem dX3_tell_188 : decode cX3_tell 188 = .ok (.if_icmp .le 12, 3) := by decide +kernel
theorem dX3_tell_191 : decode cX3_tell 191 = .ok (.aload_n 0, 1) := by decide +kernel
theorem dX3_tell_192 : decode cX3_tell 192 = .ok (.getfield 22, 3) := by decide +kernel
theorem dX3_tell_195 : decode cX3_tell 195 = .ok (.iload_n 3, 1) := by decide +kernel
theorem dX3_tell_196 : decode cX3_tell 196 = .ok (.iaload, 1) := by decide +kernel
theorem dX3_tell_197 : decode cX3_tell 197 = .ok (.goto 5, 3) := by decide +kernel
theorem dX3_tell_200 : decode cX3_tell 200 = .ok (.iload 5, 2) := by decide +kernel
theorem dX3_tell_202 : decode cX3_tell 202 = .ok (.iastore, 1) := by decide +kernel
theorem dX3_tell_203 : decode cX3_tell 203 = .ok (.aload_n 0, 1) := by decide +kernel
theorem dX3_tell_204 : decode cX3_tell 204 = .ok (.getfield 31, 3) := by decide +kernel
theorem dX3_tell_207 : decode cX3_tell 207 = .ok (.iload_n 1, 1) := by decide +kernel
theorem dX3_tell_208 : decode cX3_tell 208 = .ok (.aload_n 0, 1) := by decide +kernel
theorem dX3_tell_209 : decode cX3_tell 209 = .ok (.getfield 31, 3) := by decide +kernel
theorem dX3_tell_212 : decode cX3_tell 212 = .ok (.iload_n 2, 1) := by decide +kernel
theorem dX3_tell_213 : decode cX3_tell 213 = .ok (.iaload, 1) := by decide +kernel
theorem dX3_tell_214 : decode cX3_tell 214 = .ok (.aload_n 0, 1) := by decide +kernel
theorem dX3_tell_215 : decode cX3_tell 215 = .ok (.getfield 31, 3) := by decide +kernel
theorem dX3_tell_218 : decode cX3_tell 218 = .ok (.iload_n 3, 1) := by decide +kernel
theorem dX3_tell_219 : decode cX3_tell 219 = .ok (.iaload, 1) := by decide +kernel
theorem dX3_tell_220 : decode cX3_tell 220 = .ok (.iadd, 1) := by decide +kernel
theorem dX3_tell_221 : decode cX3_tell 221 = .ok (.iastore, 1) := by decide +kernel
theorem dX3_tell_222 : decode cX3_tell 222 = .ok (.return_, 1) := by decide +kernel
theorem dX3_begins_0 : decode cX3_begins 0 = .ok (.aload_n 0, 1) := by decide +kernel
theorem dX3_begins_1 : decode cX3_begins 1 = .ok (.iconst 0, 1) := by decide +kernel
theorem dX3_begins_2 : decode cX3_begins 2 = .ok (.putfield 52, 3) := by decide +kernel
theorem dX3_begins_5 : decode cX3_begins 5 = .ok (.aload_n 0, 1) := by decide +kernel
theorem dX3_begins_6 : decode cX3_begins 6 = .ok (.dup, 1) := by decide +kernel
theorem dX3_begins_7 : decode cX3_begins 7 = .ok (.getfield 58, 3) := by decide +kernel
theorem dX3_begins_10 : decode cX3_begins 10 = .ok (.iconst 1, 1) := by decide +kernel
theorem dX3_begins_11 : decode cX3_begins 11 = .ok (.iadd, 1) := by decide +kernel
theorem dX3_begins_12 : decode cX3_begins 12 = .ok (.putfield 58, 3) := by decide +kernel
theorem dX3_begins_15 : decode cX3_begins 15 = .ok (.aload_n 0, 1) := by decide +kernel
theorem dX3_begins_16 : decode cX3_begins 16 = .ok (.iconst 1, 1) := by decide +kernel
theorem dX3_begins_17 : decode cX3_begins 17 = .ok (.putfield 77, 3) := by decide +kernel
theorem dX3_begins_20 : decode cX3_begins 20 = .ok (.aload_n 0, 1) := by decide +kernel
theorem dX3_begins_21 : decode cX3_begins 21 = .ok (.getfield 34, 3) := by decide +kernel
theorem dX3_begins_24 : decode cX3_begins 24 = .ok (.iconst 0, 1) := by decide +kernel
theorem dX3_begins_25 : decode cX3_begins 25 = .ok (.iconst 2, 1) := by decide +kernel
theorem dX3_begins_26 : decode cX3_begins 26 = .ok (.iastore, 1) := by decide +kernel
theorem dX3_begins_27 : decode cX3_begins 27 = .ok (.return_, 1) := by decide +kernel
theorem dX3_visited_0 : decode cX3_visited 0 = .ok (.aload_n 0, 1) := by decide +kernel
theorem dX3_visited_1 : decode cX3_visited 1 = .ok (.dup, 1) := by decide +kernel
theorem dX3_visited_2 : decode cX3_visited 2 = .ok (.getfield 52, 3) := by decide +kernel
theorem dX3_visited_5 : decode cX3_visited 5 = .ok (.iconst 1, 1) := by decide +kernel
theorem dX3_visited_6 : decode cX3_visited 6 = .ok (.iadd, 1) := by decide +kernel
theorem dX3_visited_7 : decode cX3_visited 7 = .ok (.putfield 52, 3) := by decide +kernel
theorem dX3_visited_10 : decode cX3_visited 10 = .ok (.aload_n 0, 1) := by decide +kernel
theorem dX3_visited_11 : decode cX3_visited 11 = .ok (.dup, 1) := by decide +kernel
theorem dX3_visited_12 : decode cX3_visited 12 = .ok (.getfield 55, 3) := by decide +kernel
theorem dX3_visited_15 : decode cX3_visited 15 = .ok (.iconst 1, 1) := by decide +kernel
theorem dX3_visited_16 : decode cX3_visited 16 = .ok (.iadd, 1) := by decide +kernel
theorem dX3_visited_17 : decode cX3_visited 17 = .ok (.putfield 55, 3) := by decide +kernel
theorem dX3_visited_20 : decode cX3_visited 20 = .ok (.return_, 1) := by decide +kernel
set_option maxRecDepth 20000 in
theorem ggX3_goesBelow_X3_catchUp : GoodIn wsX3_goesBelow wsX3_catchUp := goodIn_r _ [7, 8, 9, 10, 11, 6, 12, 13, 14, 15, 16, 17, 18, 19, 20, 21, 22, 23, 24, 25, 26, 27, 28, 29, 30, 31, 32] (by decide +kernel) (by decide +kernel)
set_option maxRecDepth 20000 in
theorem gX3_goesBelow_X3_catchUp : GoodIn wsX3_goesBelow (wsV RX3 80 RX3 yX3_catchUp wsX3_catchUp) := goodIn_app (goodIn_of _ (by decide +kernel)) ggX3_goesBelow_X3_catchUp
theorem dX3_goesBelow_0 : decode cX3_goesBelow 0 = .ok (.aload_n 0, 1) := by decide +kernel
theorem dX3_goesBelow_1 : decode cX3_goesBelow 1 = .ok (.iload_n 1, 1) := by decide +kernel
theorem dX3_goesBelow_2 : decode cX3_goesBelow 2 = .ok (.invokevirtual 80, 3) := by decide +kernel
theorem dX3_goesBelow_5 : decode cX3_goesBelow 5 = .ok (.iload_n 2, 1) := by decide +kernel
theorem dX3_goesBelow_6 : decode cX3_goesBelow 6 = .ok (.ifCond .eq 27, 3) := by decide +kernel
theorem dX3_goesBelow_9 : decode cX3_goesBelow 9 = .ok (.aload_n 0, 1) := by decide +kernel
theorem dX3_goesBelow_10 : decode cX3_goesBelow 10 = .ok (.getfield 34, 3) := by decide +kernel
theorem dX3_goesBelow_13 : decode cX3_goesBelow 13 = .ok (.aload_n 0, 1) := by decide +kernel
theorem dX3_goesBelow_14 : decode cX3_goesBelow 14 = .ok (.getfield 77, 3) := by decide +kernel
theorem dX3_goesBelow_17 : decode cX3_goesBelow 17 = .ok (.iconst 2, 1) := by decide +kernel
theorem dX3_goesBelow_18 : decode cX3_goesBelow 18 = .ok (.iload_n 1, 1) := by decide +kernel
theorem dX3_goesBelow_19 : decode cX3_goesBelow 19 = .ok (.imul, 1) := by decide +kernel
theorem dX3_goesBelow_20 : decode cX3_goesBelow 20 = .ok (.iconst 1, 1) := by decide +kernel
theorem dX3_goesBelow_21 : decode cX3_goesBelow 21 = .ok (.iadd, 1) := by decide +kernel
theorem dX3_goesBelow_22 : decode cX3_goesBelow 22 = .ok (.iastore, 1) := by decide +kernel
theorem dX3_goesBelow_23 : decode cX3_goesBelow 23 = .ok (.aload_n 0, 1) := by decide +kernel
theorem dX3_goesBelow_24 : decode cX3_goesBelow 24 = .ok (.dup, 1) := by decide +kernel
theorem dX3_goesBelow_25 : decode cX3_goesBelow 25 = .ok (.getfield 77, 3) := by decide +kernel
theorem dX3_goesBelow_28 : decode cX3_goesBelow 28 = .ok (.iconst 1, 1) := by decide +kernel
theorem dX3_goesBelow_29 : decode cX3_goesBelow 29 = .ok (.iadd, 1) := by decide +kernel
theorem dX3_goesBelow_30 : decode cX3_goesBelow 30 = .ok (.putfield 77, 3) := by decide +kernel
theorem dX3_goesBelow_33 : decode cX3_goesBelow 33 = .ok (.aload_n 0, 1) := by decide +kernel
theorem dX3_goesBelow_34 : decode cX3_goesBelow 34 = .ok (.getfield 34, 3) := by decide +kernel
theorem dX3_goesBelow_37 : decode cX3_goesBelow 37 = .ok (.aload_n 0, 1) := by decide +kernel
theorem dX3_goesBelow_38 : decode cX3_goesBelow 38 = .ok (.getfield 77, 3) := by decide +kernel
theorem dX3_goesBelow_41 : decode cX3_goesBelow 41 = .ok (.iconst 2, 1) := by decide +kernel
theorem dX3_goesBelow_42 : decode cX3_goesBelow 42 = .ok (.iconst 2, 1) := by decide +kernel
theorem dX3_goesBelow_43 : decode cX3_goesBelow 43 = .ok (.iload_n 1, 1) := by decide +kernel
theorem dX3_goesBelow_44 : decode cX3_goesBelow 44 = .ok (.imul, 1) := by decide +kernel
theorem dX3_goesBelow_45 : decode cX3_goesBelow 45 = .ok (.iconst 1, 1) := by decide +kernel
theorem dX3_goesBelow_46 : decode cX3_goesBelow 46 = .ok (.iadd, 1) := by decide +kernel
theorem dX3_goesBelow_47 : decode cX3_goesBelow 47 = .ok (.imul, 1) := by decide +kernel
theorem dX3_goesBelow_48 : decode cX3_goesBelow 48 = .ok (.iastore, 1) := by decide +kernel
theorem dX3_goesBelow_49 : decode cX3_goesBelow 49 = .ok (.aload_n 0, 1) := by decide +kernel
theorem dX3_goesBelow_50 : decode cX3_goesBelow 50 = .ok (.getfield 34, 3) := by decide +kernel
theorem dX3_goesBelow_53 : decode cX3_goesBelow 53 = .ok (.aload_n 0, 1) := by decide +kernel
theorem dX3_goesBelow_54 : decode cX3_goesBelow 54 = .ok (.getfield 77, 3) := by decide +kernel
theorem dX3_goesBelow_57 : decode cX3_goesBelow 57 = .ok (.iconst 1, 1) := by decide +kernel
theorem dX3_goesBelow_58 : decode cX3_goesBelow 58 = .ok (.iadd, 1) := by decide +kernel
theorem dX3_goesBelow_59 : decode cX3_goesBelow 59 = .ok (.iconst 2, 1) := by decide +kernel
theorem dX3_goesBelow_60 : decode cX3_goesBelow 60 = .ok (.iconst 2, 1) := by decide +kernel
theorem dX3_goesBelow_61 : decode cX3_goesBelow 61 = .ok (.iload_n 1, 1) := by decide +kernel
theorem dX3_goesBelow_62 : decode cX3_goesBelow 62 = .ok (.imul, 1) := by decide +kernel
theorem dX3_goesBelow_63 : decode cX3_goesBelow 63 = .ok (.imul, 1) := by decide +kernel
theorem dX3_goesBelow_64 : decode cX3_goesBelow 64 = .ok (.iastore, 1) := by decide +kernel
theorem dX3_goesBelow_65 : decode cX3_goesBelow 65 = .ok (.aload_n 0, 1) := by decide +kernel
theorem dX3_goesBelow_66 : decode cX3_goesBelow 66 = .ok (.dup, 1) := by decide +kernel
theorem dX3_goesBelow_67 : decode cX3_goesBelow 67 = .ok (.getfield 77, 3) := by decide +kernel
theorem dX3_goesBelow_70 : decode cX3_goesBelow 70 = .ok (.iconst 2, 1) := by decide +kernel
theorem dX3_goesBelow_71 : decode cX3_goesBelow 71 = .ok (.iadd, 1) := by decide +kernel
theorem dX3_goesBelow_72 : decode cX3_goesBelow 72 = .ok (.putfield 77, 3) := by decide +kernel
theorem dX3_goesBelow_75 : decode cX3_goesBelow 75 = .ok (.return_, 1) := by decide +kernel
set_option maxRecDepth 20000 in
theorem ggX3_isRange_X3_isColumn : GoodIn wsX3_isRange wsX3_isColumn := goodIn_r _ [5, 6, 7, 8, 4, 9, 10, 11, 12, 13, 14, 15, 16, 17, 18, 19, 20, 21, 22, 23, 24, 25, 26, 27] (by decide +kernel) (by decide +kernel)
set_option maxRecDepth 20000 in
theorem gX3_isRange_X3_isColumn : GoodIn wsX3_isRange (wsV RX3 84 RX3 yX3_isColumn wsX3_isColumn) := goodIn_app (goodIn_of _ (by decide +kernel)) ggX3_isRange_X3_isColumn
theorem dX3_isRange_0 : decode cX3_isRange 0 = .ok (.aload_n 0, 1) := by decide +kernel
theorem dX3_isRange_1 : decode cX3_isRange 1 = .ok (.iload_n 1, 1) := by decide +kernel
theorem dX3_isRange_2 : decode cX3_isRange 2 = .ok (.invokevirtual 84, 3) := by decide +kernel
theorem dX3_isRange_5 : decode cX3_isRange 5 = .ok (.ifCond .eq 15, 3) := by decide +kernel
theorem dX3_isRange_8 : decode cX3_isRange 8 = .ok (.aload_n 0, 1) := by decide +kernel
theorem dX3_isRange_9 : decode cX3_isRange 9 = .ok (.iload_n 2, 1) := by decide +kernel
theorem dX3_isRange_10 : decode cX3_isRange 10 = .ok (.invokevirtual 84, 3) := by decide +kernel
theorem dX3_isRange_13 : decode cX3_isRange 13 = .ok (.ifCond .eq 7, 3) := by decide +kernel
theorem dX3_isRange_16 : decode cX3_isRange 16 = .ok (.iconst 1, 1) := by decide +kernel
theorem dX3_isRange_17 : decode cX3_isRange 17 = .ok (.goto 4, 3) := by decide +kernel
theorem dX3_isRange_20 : decode cX3_isRange 20 = .ok (.iconst 0, 1) := by decide +kernel
theorem dX3_isRange_21 : decode cX3_isRange 21 = .ok (.ireturn, 1) := by decide +kernel
set_option maxRecDepth 20000 in
theorem ggX3_pile_X3_isColumn : GoodIn wsX3_pile wsX3_isColumn := goodIn_r _ [12, 13, 14, 15, 11, 16, 49, 50, 51, 52, 53, 54, 55, 56, 57, 58, 59, 60, 61, 62, 63, 64, 65, 66] (by decide +kernel) (by decide +kernel)
set_option maxRecDepth 20000 in
theorem gX3_pile_X3_isColumn : GoodIn wsX3_pile (wsV RX3 84 RX3 yX3_isColumn wsX3_isColumn) := goodIn_app (goodIn_of _ (by decide +kernel)) ggX3_pile_X3_isColumn
set_option maxRecDepth 20000 in
theorem ggX3_pile_X3_in : GoodIn wsX3_pile wsX3_in := goodIn_r _ [16] (by decide +kernel) (by decide +kernel)
set_option maxRecDepth 20000 in
theorem gX3_pile_X3_in : GoodIn wsX3_pile (va_wsS RX3 48 yX3_in wsX3_in) := goodIn_app (goodIn_of _ (by decide +kernel)) ggX3_pile_X3_in
set_option maxRecDepth 20000 in
theorem ggX3_pile_X3_isFine : GoodIn wsX3_pile wsX3_isFine := goodIn_r _ [20, 21, 49, 50, 51, 52, 53, 54, 55, 56, 57, 58, 59, 60, 61, 62, 63, 64, 65, 66] (by decide +kernel) (by decide +kernel)
set_option maxRecDepth 20000 in
theorem gX3_pile_X3_isFine : GoodIn wsX3_pile (wsV RX3 70 RX3 yX3_isFine wsX3_isFine) := goodIn_app (goodIn_of _ (by decide +kernel)) ggX3_pile_X3_isFine
set_option maxRecDepth 20000 in
theorem ggX3_pile_X3_begins : GoodIn wsX3_pile wsX3_begins := goodIn_r _ [25, 26, 27, 28, 29, 49, 50, 51, 52, 53, 54, 55, 56, 57, 58, 59, 60, 61, 62, 63, 64, 65, 66] (by decide +kernel) (by decide +kernel)
set_option maxRecDepth 20000 in
theorem gX3_pile_X3_begins : GoodIn wsX3_pile (wsV RX3 87 RX3 yX3_begins wsX3_begins) := goodIn_app (goodIn_of _ (by decide +kernel)) ggX3_pile_X3_begins
set_option maxRecDepth 20000 in
theorem ggX3_pile_X3_visited : GoodIn wsX3_pile wsX3_visited := goodIn_r _ [33, 26, 34, 49, 50, 51, 52, 53, 54, 55, 56, 57, 58, 59, 60, 61, 62, 63, 64, 65, 66] (by decide +kernel) (by decide +kernel)
set_option maxRecDepth 20000 in
theorem gX3_pile_X3_visited : GoodIn wsX3_pile (wsV RX3 90 RX3 yX3_visited wsX3_visited) := goodIn_app (goodIn_of _ (by decide +kernel)) ggX3_pile_X3_visited
set_option maxRecDepth 20000 in
theorem ggX3_pile_X3_catchUp : GoodIn wsX3_pile wsX3_catchUp := goodIn_r _ [38, 4, 39, 40, 41, 11, 42, 5, 43, 49, 50, 51, 52, 53, 54, 55, 56, 57, 58, 59, 60, 61, 62, 63, 64, 65, 66] (by decide +kernel) (by decide +kernel)
set_option maxRecDepth 20000 in
theorem gX3_pile_X3_catchUp : GoodIn wsX3_pile (wsV RX3 80 RX3 yX3_catchUp wsX3_catchUp) := goodIn_app (goodIn_of _ (by decide +kernel)) ggX3_pile_X3_catchUp
set_option maxRecDepth 20000 in
theorem ggX3_pile_X3_tell : GoodIn wsX3_pile wsX3_tell := goodIn_r _ [47, 4, 43, 48, 5, 49, 50, 51, 52, 53, 54, 55, 56, 57, 58, 59, 60, 61, 62, 63, 64, 65, 66] (by decide +kernel) (by decide +kernel)
set_option maxRecDepth 20000 in
theorem gX3_pile_X3_tell : GoodIn wsX3_pile (wsV RX3 93 RX3 yX3_tell wsX3_tell) := goodIn_app (goodIn_of _ (by decide +kernel)) ggX3_pile_X3_tell
theorem dX3_pile_0 : decode cX3_pile 0 = .ok (.aload_n 0, 1) := by decide +kernel
theorem dX3_pile_1 : decode cX3_pile 1 = .ok (.aload_n 0, 1) := by decide +kernel
theorem dX3_pile_2 : decode cX3_pile 2 = .ok (.iload_n 1, 1) := by decide +kernel
theorem dX3_pile_3 : decode cX3_pile 3 = .ok (.invokevirtual 84, 3) := by decide +kernel
theorem dX3_pile_6 : decode cX3_pile 6 = .ok (.ifCond .ne 7, 3) := by decide +kernel
theorem dX3_pile_9 : decode cX3_pile 9 = .ok (.iconst 1, 1) := by decide +kernel
theorem dX3_pile_10 : decode cX3_pile 10 = .ok (.goto 37, 3) := by decide +kernel
theorem dX3_pile_13 : decode cX3_pile 13 = .ok (.iload_n 2, 1) := by decide +kernel
theorem dX3_pile_14 : decode cX3_pile 14 = .ok (.iconst 1, 1) := by decide +kernel
theorem dX3_pile_15 : decode cX3_pile 15 = .ok (.sipush 1000, 3) := by decide +kernel
theorem dX3_pile_18 : decode cX3_pile 18 = .ok (.invokestatic 48, 3) := by decide +kernel
theorem dX3_pile_21 : decode cX3_pile 21 = .ok (.ifCond .ne 7, 3) := by decide +kernel
theorem dX3_pile_24 : decode cX3_pile 24 = .ok (.iconst 2, 1) := by decide +kernel
theorem dX3_pile_25 : decode cX3_pile 25 = .ok (.goto 22, 3) := by decide +kernel
theorem dX3_pile_28 : decode cX3_pile 28 = .ok (.aload_n 0, 1) := by decide +kernel
theorem dX3_pile_29 : decode cX3_pile 29 = .ok (.getfield 7, 3) := by decide +kernel
theorem dX3_pile_32 : decode cX3_pile 32 = .ok (.iload_n 1, 1) := by decide +kernel
theorem dX3_pile_33 : decode cX3_pile 33 = .ok (.iaload, 1) := by decide +kernel
theorem dX3_pile_34 : decode cX3_pile 34 = .ok (.iload_n 2, 1) := by decide +kernel
theorem dX3_pile_35 : decode cX3_pile 35 = .ok (.iadd, 1) := by decide +kernel
theorem dX3_pile_36 : decode cX3_pile 36 = .ok (.sipush 1000, 3) := by decide +kernel
theorem dX3_pile_39 : decode cX3_pile 39 = .ok (.if_icmp .le 7, 3) := by decide +kernel
theorem dX3_pile_42 : decode cX3_pile 42 = .ok (.iconst 3, 1) := by decide +kernel
theorem dX3_pile_43 : decode cX3_pile 43 = .ok (.goto 4, 3) := by decide +kernel
theorem dX3_pile_46 : decode cX3_pile 46 = .ok (.iconst 0, 1) := by decide +kernel
theorem dX3_pile_47 : decode cX3_pile 47 = .ok (.invokevirtual 70, 3) := by decide +kernel
theorem dX3_pile_50 : decode cX3_pile 50 = .ok (.ifCond .ne 5, 3) := by decide +kernel
theorem dX3_pile_53 : decode cX3_pile 53 = .ok (.iconst 0, 1) := by decide +kernel
theorem dX3_pile_54 : decode cX3_pile 54 = .ok (.ireturn, 1) := by decide +kernel
theorem dX3_pile_55 : decode cX3_pile 55 = .ok (.aload_n 0, 1) := by decide +kernel
theorem dX3_pile_56 : decode cX3_pile 56 = .ok (.invokevirtual 87, 3) := by decide +kernel
theorem dX3_pile_59 : decode cX3_pile 59 = .ok (.iconst 1, 1) := by decide +kernel
theorem dX3_pile_60 : decode cX3_pile 60 = .ok (.istore_n 3, 1) := by decide +kernel
theorem dX3_pile_61 : decode cX3_pile 61 = .ok (.aload_n 0, 1) := by decide +kernel
theorem dX3_pile_62 : decode cX3_pile 62 = .ok (.invokevirtual 90, 3) := by decide +kernel
theorem dX3_pile_65 : decode cX3_pile 65 = .ok (.aload_n 0, 1) := by decide +kernel
theorem dX3_pile_66 : decode cX3_pile 66 = .ok (.getfield 16, 3) := by decide +kernel
theorem dX3_pile_69 : decode cX3_pile 69 = .ok (.iload_n 3, 1) := by decide +kernel
theorem dX3_pile_70 : decode cX3_pile 70 = .ok (.iaload, 1) := by decide +kernel
theorem dX3_pile_71 : decode cX3_pile 71 = .ok (.aload_n 0, 1) := by decide +kernel
theorem dX3_pile_72 : decode cX3_pile 72 = .ok (.getfield 19, 3) := by decide +kernel
theorem dX3_pile_75 : decode cX3_pile 75 = .ok (.iload_n 3, 1) := by decide +kernel
theorem dX3_pile_76 : decode cX3_pile 76 = .ok (.iaload, 1) := by decide +kernel
theorem dX3_pile_77 : decode cX3_pile 77 = .ok (.if_icmp .ge 39, 3) := by decide +kernel
theorem dX3_pile_80 : decode cX3_pile 80 = .ok (.aload_n 0, 1) := by decide +kernel
theorem dX3_pile_81 : decode cX3_pile 81 = .ok (.iload_n 3, 1) := by decide +kernel
theorem dX3_pile_82 : decode cX3_pile 82 = .ok (.invokevirtual 80, 3) := by decide +kernel
theorem dX3_pile_85 : decode cX3_pile 85 = .ok (.iload_n 1, 1) := by decide +kernel
theorem dX3_pile_86 : decode cX3_pile 86 = .ok (.aload_n 0, 1) := by decide +kernel
theorem dX3_pile_87 : decode cX3_pile 87 = .ok (.getfield 19, 3) := by decide +kernel
theorem dX3_pile_90 : decode cX3_pile 90 = .ok (.iconst 2, 1) := by decide +kernel
theorem dX3_pile_91 : decode cX3_pile 91 = .ok (.iload_n 3, 1) := by decide +kernel
theorem dX3_pile_92 : decode cX3_pile 92 = .ok (.imul, 1) := by decide +kernel
theorem dX3_pile_93 : decode cX3_pile 93 = .ok (.iaload, 1) := by decide +kernel
theorem dX3_pile_94 : decode cX3_pile 94 = .ok (.if_icmp .gt 9, 3) := by decide +kernel
theorem dX3_pile_97 : decode cX3_pile 97 = .ok (.iconst 2, 1) := by decide +kernel
theorem dX3_pile_98 : decode cX3_pile 98 = .ok (.iload_n 3, 1) := by decide +kernel
theorem dX3_pile_99 : decode cX3_pile 99 = .ok (.imul, 1) := by decide +kernel
theorem dX3_pile_100 : decode cX3_pile 100 = .ok (.goto 8, 3) := by decide +kernel
theorem dX3_pile_103 : decode cX3_pile 103 = .ok (.iconst 2, 1) := by decide +kernel
theorem dX3_pile_104 : decode cX3_pile 104 = .ok (.iload_n 3, 1) := by decide +kernel
theorem dX3_pile_105 : decode cX3_pile 105 = .ok (.imul, 1) := by decide +kernel
theorem dX3_pile_106 : decode cX3_pile 106 = .ok (.iconst 1, 1) := by decide +kernel
theorem dX3_pile_107 : decode cX3_pile 107 = .ok (.iadd, 1) := by decide +kernel
theorem dX3_pile_108 : decode cX3_pile 108 = .ok (.istore_n 3, 1) := by decide +kernel
theorem dX3_pile_109 : decode cX3_pile 109 = .ok (.aload_n 0, 1) := by decide +kernel
theorem dX3_pile_110 : decode cX3_pile 110 = .ok (.invokevirtual 90, 3) := by decide +kernel
theorem dX3_pile_113 : decode cX3_pile 113 = .ok (.goto (-48), 3) := by decide +kernel
theorem dX3_pile_116 : decode cX3_pile 116 = .ok (.aload_n 0, 1) := by decide +kernel
theorem dX3_pile_117 : decode cX3_pile 117 = .ok (.getfield 22, 3) := by decide +kernel
theorem dX3_pile_120 : decode cX3_pile 120 = .ok (.iload_n 3, 1) := by decide +kernel
theorem dX3_pile_121 : decode cX3_pile 121 = .ok (.dup2, 1) := by decide +kernel
theorem dX3_pile_122 : decode cX3_pile 122 = .ok (.iaload, 1) := by decide +kernel
theorem dX3_pile_123 : decode cX3_pile 123 = .ok (.iload_n 2, 1) := by decide +kernel
theorem dX3_pile_124 : decode cX3_pile 124 = .ok (.iadd, 1) := by decide +kernel
theorem dX3_pile_125 : decode cX3_pile 125 = .ok (.iastore, 1) := by decide +kernel
theorem dX3_pile_126 : decode cX3_pile 126 = .ok (.aload_n 0, 1) := by decide +kernel
theorem dX3_pile_127 : decode cX3_pile 127 = .ok (.getfield 31, 3) := by decide +kernel
theorem dX3_pile_130 : decode cX3_pile 130 = .ok (.iload_n 3, 1) := by decide +kernel
theorem dX3_pile_131 : decode cX3_pile 131 = .ok (.dup2, 1) := by decide +kernel
theorem dX3_pile_132 : decode cX3_pile 132 = .ok (.iaload, 1) := by decide +kernel
theorem dX3_pile_133 : decode cX3_pile 133 = .ok (.iload_n 2, 1) := by decide +kernel
theorem dX3_pile_134 : decode cX3_pile 134 = .ok (.iadd, 1) := by decide +kernel
theorem dX3_pile_135 : decode cX3_pile 135 = .ok (.iastore, 1) := by decide +kernel
theorem dX3_pile_136 : decode cX3_pile 136 = .ok (.iload_n 3, 1) := by decide +kernel
theorem dX3_pile_137 : decode cX3_pile 137 = .ok (.iconst 1, 1) := by decide +kernel
theorem dX3_pile_138 : decode cX3_pile 138 = .ok (.if_icmp .le 15, 3) := by decide +kernel
theorem dX3_pile_141 : decode cX3_pile 141 = .ok (.iload_n 3, 1) := by decide +kernel
theorem dX3_pile_142 : decode cX3_pile 142 = .ok (.iconst 2, 1) := by decide +kernel
theorem dX3_pile_143 : decode cX3_pile 143 = .ok (.idiv, 1) := by decide +kernel
theorem dX3_pile_144 : decode cX3_pile 144 = .ok (.istore_n 3, 1) := by decide +kernel
theorem dX3_pile_145 : decode cX3_pile 145 = .ok (.aload_n 0, 1) := by decide +kernel
theorem dX3_pile_146 : decode cX3_pile 146 = .ok (.iload_n 3, 1) := by decide +kernel
theorem dX3_pile_147 : decode cX3_pile 147 = .ok (.invokevirtual 93, 3) := by decide +kernel
theorem dX3_pile_150 : decode cX3_pile 150 = .ok (.goto (-14), 3) := by decide +kernel
theorem dX3_pile_153 : decode cX3_pile 153 = .ok (.aload_n 0, 1) := by decide +kernel
theorem dX3_pile_154 : decode cX3_pile 154 = .ok (.getfield 7, 3) := by decide +kernel
theorem dX3_pile_157 : decode cX3_pile 157 = .ok (.iload_n 1, 1) := by decide +kernel
theorem dX3_pile_158 : decode cX3_pile 158 = .ok (.dup2, 1) := by decide +kernel
theorem dX3_pile_159 : decode cX3_pile 159 = .ok (.iaload, 1) := by decide +kernel
theorem dX3_pile_160 : decode cX3_pile 160 = .ok (.iload_n 2, 1) := by decide +kernel
theorem dX3_pile_161 : decode cX3_pile 161 = .ok (.iadd, 1) := by decide +kernel
theorem dX3_pile_162 : decode cX3_pile 162 = .ok (.iastore, 1) := by decide +kernel
theorem dX3_pile_163 : decode cX3_pile 163 = .ok (.aload_n 0, 1) := by decide +kernel
theorem dX3_pile_164 : decode cX3_pile 164 = .ok (.dup, 1) := by decide +kernel
theorem dX3_pile_165 : decode cX3_pile 165 = .ok (.getfield 64, 3) := by decide +kernel
theorem dX3_pile_168 : decode cX3_pile 168 = .ok (.iload_n 2, 1) := by decide +kernel
theorem dX3_pile_169 : decode cX3_pile 169 = .ok (.iadd, 1) := by decide +kernel
theorem dX3_pile_170 : decode cX3_pile 170 = .ok (.putfield 64, 3) := by decide +kernel
theorem dX3_pile_173 : decode cX3_pile 173 = .ok (.aload_n 0, 1) := by decide +kernel
theorem dX3_pile_174 : decode cX3_pile 174 = .ok (.getfield 13, 3) := by decide +kernel
theorem dX3_pile_177 : decode cX3_pile 177 = .ok (.iload_n 1, 1) := by decide +kernel
theorem dX3_pile_178 : decode cX3_pile 178 = .ok (.iconst (-1), 1) := by decide +kernel
theorem dX3_pile_179 : decode cX3_pile 179 = .ok (.iastore, 1) := by decide +kernel
theorem dX3_pile_180 : decode cX3_pile 180 = .ok (.aload_n 0, 1) := by decide +kernel
theorem dX3_pile_181 : decode cX3_pile 181 = .ok (.getfield 7, 3) := by decide +kernel
theorem dX3_pile_184 : decode cX3_pile 184 = .ok (.iload_n 1, 1) := by decide +kernel
theorem dX3_pile_185 : decode cX3_pile 185 = .ok (.iaload, 1) := by decide +kernel
theorem dX3_pile_186 : decode cX3_pile 186 = .ok (.ireturn, 1) := by decide +kernel
theorem dX3_presses_0 : decode cX3_presses 0 = .ok (.iconst 0, 1) := by decide +kernel
theorem dX3_presses_1 : decode cX3_presses 1 = .ok (.istore 4, 2) := by decide +kernel
theorem dX3_presses_3 : decode cX3_presses 3 = .ok (.iload_n 1, 1) := by decide +kernel
theorem dX3_presses_4 : decode cX3_presses 4 = .ok (.istore 5, 2) := by decide +kernel
theorem dX3_presses_6 : decode cX3_presses 6 = .ok (.iload 5, 2) := by decide +kernel
theorem dX3_presses_8 : decode cX3_presses 8 = .ok (.iload_n 2, 1) := by decide +kernel
theorem dX3_presses_9 : decode cX3_presses 9 = .ok (.if_icmp .gt 38, 3) := by decide +kernel
theorem dX3_presses_12 : decode cX3_presses 12 = .ok (.iload 4, 2) := by decide +kernel
theorem dX3_presses_14 : decode cX3_presses 14 = .ok (.aload_n 0, 1) := by decide +kernel
theorem dX3_presses_15 : decode cX3_presses 15 = .ok (.getfield 7, 3) := by decide +kernel
theorem dX3_presses_18 : decode cX3_presses 18 = .ok (.iload 5, 2) := by decide +kernel
theorem dX3_presses_20 : decode cX3_presses 20 = .ok (.iaload, 1) := by decide +kernel
theorem dX3_presses_21 : decode cX3_presses 21 = .ok (.iload_n 3, 1) := by decide +kernel
theorem dX3_presses_22 : decode cX3_presses 22 = .ok (.if_icmp .le 15, 3) := by decide +kernel
theorem dX3_presses_25 : decode cX3_presses 25 = .ok (.aload_n 0, 1) := by decide +kernel
theorem dX3_presses_26 : decode cX3_presses 26 = .ok (.getfield 7, 3) := by decide +kernel
theorem dX3_presses_29 : decode cX3_presses 29 = .ok (.iload 5, 2) := by decide +kernel
theorem dX3_presses_31 : decode cX3_presses 31 = .ok (.iaload, 1) := by decide +kernel
theorem dX3_presses_32 : decode cX3_presses 32 = .ok (.iload_n 3, 1) := by decide +kernel
theorem dX3_presses_33 : decode cX3_presses 33 = .ok (.isub, 1) := by decide +kernel
theorem dX3_presses_34 : decode cX3_presses 34 = .ok (.goto 4, 3) := by decide +kernel
theorem dX3_presses_37 : decode cX3_presses 37 = .ok (.iconst 0, 1) := by decide +kernel
theorem dX3_presses_38 : decode cX3_presses 38 = .ok (.iadd, 1) := by decide +kernel
theorem dX3_presses_39 : decode cX3_presses 39 = .ok (.istore 4, 2) := by decide +kernel
theorem dX3_presses_41 : decode cX3_presses 41 = .ok (.iinc 5 1, 3) := by decide +kernel
theorem dX3_presses_44 : decode cX3_presses 44 = .ok (.goto (-38), 3) := by decide +kernel
theorem dX3_presses_47 : decode cX3_presses 47 = .ok (.iload 4, 2) := by decide +kernel
theorem dX3_presses_49 : decode cX3_presses 49 = .ok (.ireturn, 1) := by decide +kernel
set_option maxRecDepth 20000 in
theorem ggX3_lower_X3_isRange : GoodIn wsX3_lower wsX3_isRange := goodIn_r _ [14, 15, 16, 17, 13, 18, 19, 20, 21, 22, 61, 62, 63, 64, 65, 66, 67, 68, 69, 70, 71, 72, 73, 74, 75, 76, 77, 78] (by decide +kernel) (by decide +kernel)
set_option maxRecDepth 20000 in
theorem gX3_lower_X3_isRange : GoodIn wsX3_lower (wsV RX3 96 RX3 yX3_isRange wsX3_isRange) := goodIn_app (goodIn_of _ (by decide +kernel)) ggX3_lower_X3_isRange
set_option maxRecDepth 20000 in
theorem ggX3_lower_X3_in : GoodIn wsX3_lower wsX3_in := goodIn_r _ [22] (by decide +kernel) (by decide +kernel)
set_option maxRecDepth 20000 in
theorem gX3_lower_X3_in : GoodIn wsX3_lower (va_wsS RX3 48 yX3_in wsX3_in) := goodIn_app (goodIn_of _ (by decide +kernel)) ggX3_lower_X3_in
set_option maxRecDepth 20000 in
theorem ggX3_lower_X3_isFine : GoodIn wsX3_lower wsX3_isFine := goodIn_r _ [26, 27, 61, 62, 63, 64, 65, 66, 67, 68, 69, 70, 71, 72, 73, 74, 75, 76, 77, 78] (by decide +kernel) (by decide +kernel)
set_option maxRecDepth 20000 in
theorem gX3_lower_X3_isFine : GoodIn wsX3_lower (wsV RX3 70 RX3 yX3_isFine wsX3_isFine) := goodIn_app (goodIn_of _ (by decide +kernel)) ggX3_lower_X3_isFine
set_option maxRecDepth 20000 in
theorem ggX3_lower_X3_begins : GoodIn wsX3_lower wsX3_begins := goodIn_r _ [31, 32, 33, 1, 2, 61, 62, 63, 64, 65, 66, 67, 68, 69, 70, 71, 72, 73, 74, 75, 76, 77, 78] (by decide +kernel) (by decide +kernel)
set_option maxRecDepth 20000 in
theorem gX3_lower_X3_begins : GoodIn wsX3_lower (wsV RX3 87 RX3 yX3_begins wsX3_begins) := goodIn_app (goodIn_of _ (by decide +kernel)) ggX3_lower_X3_begins
set_option maxRecDepth 20000 in
theorem ggX3_lower_X3_tell : GoodIn wsX3_lower wsX3_tell := goodIn_r _ [37, 5, 38, 6, 39, 61, 62, 63, 64, 65, 66, 67, 68, 69, 70, 71, 72, 73, 74, 75, 76, 77, 78] (by decide +kernel) (by decide +kernel)
set_option maxRecDepth 20000 in
theorem gX3_lower_X3_tell : GoodIn wsX3_lower (wsV RX3 93 RX3 yX3_tell wsX3_tell) := goodIn_app (goodIn_of _ (by decide +kernel)) ggX3_lower_X3_tell
set_option maxRecDepth 20000 in
theorem ggX3_lower_X3_visited : GoodIn wsX3_lower wsX3_visited := goodIn_r _ [43, 32, 44, 61, 62, 63, 64, 65, 66, 67, 68, 69, 70, 71, 72, 73, 74, 75, 76, 77, 78] (by decide +kernel) (by decide +kernel)
set_option maxRecDepth 20000 in
theorem gX3_lower_X3_visited : GoodIn wsX3_lower (wsV RX3 90 RX3 yX3_visited wsX3_visited) := goodIn_app (goodIn_of _ (by decide +kernel)) ggX3_lower_X3_visited
set_option maxRecDepth 20000 in
theorem ggX3_lower_X3_press : GoodIn wsX3_lower wsX3_press := goodIn_r _ [48, 39, 5, 38, 61, 62, 63, 64, 65, 66, 67, 68, 69, 70, 71, 72, 73, 74, 75, 76, 77, 78] (by decide +kernel) (by decide +kernel)
set_option maxRecDepth 20000 in
theorem gX3_lower_X3_press : GoodIn wsX3_lower (wsV RX3 74 RX3 yX3_press wsX3_press) := goodIn_app (goodIn_of _ (by decide +kernel)) ggX3_lower_X3_press
set_option maxRecDepth 20000 in
theorem ggX3_lower_X3_goesBelow : GoodIn wsX3_lower wsX3_goesBelow := goodIn_r _ [52, 2, 1, 53, 54, 55, 13, 56, 5, 45, 46, 47, 48, 39, 38, 61, 62, 63, 64, 65, 66, 67, 68, 69, 70, 71, 72, 73, 74, 75, 76, 77, 78] (by decide +kernel) (by decide +kernel)
set_option maxRecDepth 20000 in
theorem gX3_lower_X3_goesBelow : GoodIn wsX3_lower (wsV RX3 100 RX3 yX3_goesBelow wsX3_goesBelow) := goodIn_app (goodIn_of _ (by decide +kernel)) ggX3_lower_X3_goesBelow
set_option maxRecDepth 20000 in
theorem ggX3_lower_X3_presses : GoodIn wsX3_lower wsX3_presses := goodIn_r _ [60, 7, 61, 62, 63, 64, 65, 66, 67, 68, 69, 70, 71, 72, 73, 74, 75, 76, 77, 78] (by decide +kernel) (by decide +kernel)
set_option maxRecDepth 20000 in
theorem gX3_lower_X3_presses : GoodIn wsX3_lower (wsV RX3 104 RX3 yX3_presses wsX3_presses) := goodIn_app (goodIn_of _ (by decide +kernel)) ggX3_lower_X3_presses
theorem dX3_lower_0 : decode cX3_lower 0 = .ok (.aload_n 0, 1) := by decide +kernel
theorem dX3_lower_1 : decode cX3_lower 1 = .ok (.aload_n 0, 1) := by decide +kernel
theorem dX3_lower_2 : decode cX3_lower 2 = .ok (.iload_n 1, 1) := by decide +kernel
theorem dX3_lower_3 : decode cX3_lower 3 = .ok (.iload_n 2, 1) := by decide +kernel
theorem dX3_lower_4 : decode cX3_lower 4 = .ok (.invokevirtual 96, 3) := by decide +kernel
theorem dX3_lower_7 : decode cX3_lower 7 = .ok (.ifCond .ne 7, 3) := by decide +kernel
theorem dX3_lower_10 : decode cX3_lower 10 = .ok (.iconst 1, 1) := by decide +kernel
theorem dX3_lower_11 : decode cX3_lower 11 = .ok (.goto 24, 3) := by decide +kernel
theorem dX3_lower_14 : decode cX3_lower 14 = .ok (.iload_n 2, 1) := by decide +kernel
theorem dX3_lower_15 : decode cX3_lower 15 = .ok (.iload_n 1, 1) := by decide +kernel
theorem dX3_lower_16 : decode cX3_lower 16 = .ok (.if_icmp .lt 14, 3) := by decide +kernel
theorem dX3_lower_19 : decode cX3_lower 19 = .ok (.iload_n 3, 1) := by decide +kernel
theorem dX3_lower_20 : decode cX3_lower 20 = .ok (.iconst 0, 1) := by decide +kernel
theorem dX3_lower_21 : decode cX3_lower 21 = .ok (.sipush 1000, 3) := by decide +kernel
theorem dX3_lower_24 : decode cX3_lower 24 = .ok (.invokestatic 48, 3) := by decide +kernel
theorem dX3_lower_27 : decode cX3_lower 27 = .ok (.ifCond .ne 7, 3) := by decide +kernel
theorem dX3_lower_30 : decode cX3_lower 30 = .ok (.iconst 2, 1) := by decide +kernel
theorem dX3_lower_31 : decode cX3_lower 31 = .ok (.goto 4, 3) := by decide +kernel
theorem dX3_lower_34 : decode cX3_lower 34 = .ok (.iconst 0, 1) := by decide +kernel
theorem dX3_lower_35 : decode cX3_lower 35 = .ok (.invokevirtual 70, 3) := by decide +kernel
theorem dX3_lower_38 : decode cX3_lower 38 = .ok (.ifCond .ne 5, 3) := by decide +kernel
theorem dX3_lower_41 : decode cX3_lower 41 = .ok (.iconst 0, 1) := by decide +kernel
theorem dX3_lower_42 : decode cX3_lower 42 = .ok (.ireturn, 1) := by decide +kernel
theorem dX3_lower_43 : decode cX3_lower 43 = .ok (.aload_n 0, 1) := by decide +kernel
theorem dX3_lower_44 : decode cX3_lower 44 = .ok (.invokevirtual 87, 3) := by decide +kernel
theorem dX3_lower_47 : decode cX3_lower 47 = .ok (.aload_n 0, 1) := by decide +kernel
theorem dX3_lower_48 : decode cX3_lower 48 = .ok (.getfield 77, 3) := by decide +kernel
theorem dX3_lower_51 : decode cX3_lower 51 = .ok (.ifCond .le 198, 3) := by decide +kernel
theorem dX3_lower_54 : decode cX3_lower 54 = .ok (.aload_n 0, 1) := by decide +kernel
theorem dX3_lower_55 : decode cX3_lower 55 = .ok (.dup, 1) := by decide +kernel
theorem dX3_lower_56 : decode cX3_lower 56 = .ok (.getfield 77, 3) := by decide +kernel
theorem dX3_lower_59 : decode cX3_lower 59 = .ok (.iconst 1, 1) := by decide +kernel
theorem dX3_lower_60 : decode cX3_lower 60 = .ok (.isub, 1) := by decide +kernel
theorem dX3_lower_61 : decode cX3_lower 61 = .ok (.putfield 77, 3) := by decide +kernel
theorem dX3_lower_64 : decode cX3_lower 64 = .ok (.aload_n 0, 1) := by decide +kernel
theorem dX3_lower_65 : decode cX3_lower 65 = .ok (.getfield 34, 3) := by decide +kernel
theorem dX3_lower_68 : decode cX3_lower 68 = .ok (.aload_n 0, 1) := by decide +kernel
theorem dX3_lower_69 : decode cX3_lower 69 = .ok (.getfield 77, 3) := by decide +kernel
theorem dX3_lower_72 : decode cX3_lower 72 = .ok (.iaload, 1) := by decide +kernel
theorem dX3_lower_73 : decode cX3_lower 73 = .ok (.iconst 2, 1) := by decide +kernel
theorem dX3_lower_74 : decode cX3_lower 74 = .ok (.idiv, 1) := by decide +kernel
theorem dX3_lower_75 : decode cX3_lower 75 = .ok (.istore 4, 2) := by decide +kernel
theorem dX3_lower_77 : decode cX3_lower 77 = .ok (.aload_n 0, 1) := by decide +kernel
theorem dX3_lower_78 : decode cX3_lower 78 = .ok (.getfield 34, 3) := by decide +kernel
theorem dX3_lower_81 : decode cX3_lower 81 = .ok (.aload_n 0, 1) := by decide +kernel
theorem dX3_lower_82 : decode cX3_lower 82 = .ok (.getfield 77, 3) := by decide +kernel
theorem dX3_lower_85 : decode cX3_lower 85 = .ok (.iaload, 1) := by decide +kernel
theorem dX3_lower_86 : decode cX3_lower 86 = .ok (.iconst 2, 1) := by decide +kernel
theorem dX3_lower_87 : decode cX3_lower 87 = .ok (.irem, 1) := by decide +kernel
theorem dX3_lower_88 : decode cX3_lower 88 = .ok (.iconst 1, 1) := by decide +kernel
theorem dX3_lower_89 : decode cX3_lower 89 = .ok (.if_icmp .ne 12, 3) := by decide +kernel
theorem dX3_lower_92 : decode cX3_lower 92 = .ok (.aload_n 0, 1) := by decide +kernel
theorem dX3_lower_93 : decode cX3_lower 93 = .ok (.iload 4, 2) := by decide +kernel
theorem dX3_lower_95 : decode cX3_lower 95 = .ok (.invokevirtual 93, 3) := by decide +kernel
theorem dX3_lower_98 : decode cX3_lower 98 = .ok (.goto 148, 3) := by decide +kernel
theorem dX3_lower_101 : decode cX3_lower 101 = .ok (.aload_n 0, 1) := by decide +kernel
theorem dX3_lower_102 : decode cX3_lower 102 = .ok (.invokevirtual 90, 3) := by decide +kernel
theorem dX3_lower_105 : decode cX3_lower 105 = .ok (.aload_n 0, 1) := by decide +kernel
theorem dX3_lower_106 : decode cX3_lower 106 = .ok (.getfield 16, 3) := by decide +kernel
theorem dX3_lower_109 : decode cX3_lower 109 = .ok (.iload 4, 2) := by decide +kernel
theorem dX3_lower_111 : decode cX3_lower 111 = .ok (.iaload, 1) := by decide +kernel
theorem dX3_lower_112 : decode cX3_lower 112 = .ok (.iload_n 2, 1) := by decide +kernel
theorem dX3_lower_113 : decode cX3_lower 113 = .ok (.if_icmp .gt 25, 3) := by decide +kernel
theorem dX3_lower_116 : decode cX3_lower 116 = .ok (.aload_n 0, 1) := by decide +kernel
theorem dX3_lower_117 : decode cX3_lower 117 = .ok (.getfield 19, 3) := by decide +kernel
theorem dX3_lower_120 : decode cX3_lower 120 = .ok (.iload 4, 2) := by decide +kernel
theorem dX3_lower_122 : decode cX3_lower 122 = .ok (.iaload, 1) := by decide +kernel
theorem dX3_lower_123 : decode cX3_lower 123 = .ok (.iload_n 1, 1) := by decide +kernel
theorem dX3_lower_124 : decode cX3_lower 124 = .ok (.if_icmp .lt 14, 3) := by decide +kernel
theorem dX3_lower_127 : decode cX3_lower 127 = .ok (.aload_n 0, 1) := by decide +kernel
theorem dX3_lower_128 : decode cX3_lower 128 = .ok (.getfield 22, 3) := by decide +kernel
theorem dX3_lower_131 : decode cX3_lower 131 = .ok (.iload 4, 2) := by decide +kernel
theorem dX3_lower_133 : decode cX3_lower 133 = .ok (.iaload, 1) := by decide +kernel
theorem dX3_lower_134 : decode cX3_lower 134 = .ok (.iload_n 3, 1) := by decide +kernel
theorem dX3_lower_135 : decode cX3_lower 135 = .ok (.if_icmp .gt 7, 3) := by decide +kernel
theorem dX3_lower_138 : decode cX3_lower 138 = .ok (.iconst 1, 1) := by decide +kernel
theorem dX3_lower_139 : decode cX3_lower 139 = .ok (.goto 4, 3) := by decide +kernel
theorem dX3_lower_142 : decode cX3_lower 142 = .ok (.iconst 0, 1) := by decide +kernel
theorem dX3_lower_143 : decode cX3_lower 143 = .ok (.istore 5, 2) := by decide +kernel
theorem dX3_lower_145 : decode cX3_lower 145 = .ok (.aload_n 0, 1) := by decide +kernel
theorem dX3_lower_146 : decode cX3_lower 146 = .ok (.getfield 16, 3) := by decide +kernel
theorem dX3_lower_149 : decode cX3_lower 149 = .ok (.iload 4, 2) := by decide +kernel
theorem dX3_lower_151 : decode cX3_lower 151 = .ok (.iaload, 1) := by decide +kernel
theorem dX3_lower_152 : decode cX3_lower 152 = .ok (.iload_n 1, 1) := by decide +kernel
theorem dX3_lower_153 : decode cX3_lower 153 = .ok (.if_icmp .lt 29, 3) := by decide +kernel
theorem dX3_lower_156 : decode cX3_lower 156 = .ok (.aload_n 0, 1) := by decide +kernel
theorem dX3_lower_157 : decode cX3_lower 157 = .ok (.getfield 19, 3) := by decide +kernel
theorem dX3_lower_160 : decode cX3_lower 160 = .ok (.iload 4, 2) := by decide +kernel
theorem dX3_lower_162 : decode cX3_lower 162 = .ok (.iaload, 1) := by decide +kernel
theorem dX3_lower_163 : decode cX3_lower 163 = .ok (.iload_n 2, 1) := by decide +kernel
theorem dX3_lower_164 : decode cX3_lower 164 = .ok (.if_icmp .gt 18, 3) := by decide +kernel
theorem dX3_lower_167 : decode cX3_lower 167 = .ok (.aload_n 0, 1) := by decide +kernel
theorem dX3_lower_168 : decode cX3_lower 168 = .ok (.getfield 25, 3) := by decide +kernel
theorem dX3_lower_171 : decode cX3_lower 171 = .ok (.iload 4, 2) := by decide +kernel
theorem dX3_lower_173 : decode cX3_lower 173 = .ok (.iaload, 1) := by decide +kernel
theorem dX3_lower_174 : decode cX3_lower 174 = .ok (.iload_n 3, 1) := by decide +kernel
theorem dX3_lower_175 : decode cX3_lower 175 = .ok (.if_icmp .ge 7, 3) := by decide +kernel
theorem dX3_lower_178 : decode cX3_lower 178 = .ok (.iconst 1, 1) := by decide +kernel
theorem dX3_lower_179 : decode cX3_lower 179 = .ok (.goto 4, 3) := by decide +kernel
theorem dX3_lower_182 : decode cX3_lower 182 = .ok (.iconst 0, 1) := by decide +kernel
theorem dX3_lower_183 : decode cX3_lower 183 = .ok (.istore 6, 2) := by decide +kernel
theorem dX3_lower_185 : decode cX3_lower 185 = .ok (.iload 6, 2) := by decide +kernel
theorem dX3_lower_187 : decode cX3_lower 187 = .ok (.ifCond .ne 20, 3) := by decide +kernel
theorem dX3_lower_190 : decode cX3_lower 190 = .ok (.aload_n 0, 1) := by decide +kernel
theorem dX3_lower_191 : decode cX3_lower 191 = .ok (.getfield 16, 3) := by decide +kernel
theorem dX3_lower_194 : decode cX3_lower 194 = .ok (.iload 4, 2) := by decide +kernel
theorem dX3_lower_196 : decode cX3_lower 196 = .ok (.iaload, 1) := by decide +kernel
theorem dX3_lower_197 : decode cX3_lower 197 = .ok (.aload_n 0, 1) := by decide +kernel
theorem dX3_lower_198 : decode cX3_lower 198 = .ok (.getfield 19, 3) := by decide +kernel
theorem dX3_lower_201 : decode cX3_lower 201 = .ok (.iload 4, 2) := by decide +kernel
theorem dX3_lower_203 : decode cX3_lower 203 = .ok (.iaload, 1) := by decide +kernel
theorem dX3_lower_204 : decode cX3_lower 204 = .ok (.if_icmp .ne 7, 3) := by decide +kernel
theorem dX3_lower_207 : decode cX3_lower 207 = .ok (.iconst 1, 1) := by decide +kernel
theorem dX3_lower_208 : decode cX3_lower 208 = .ok (.goto 4, 3) := by decide +kernel
theorem dX3_lower_211 : decode cX3_lower 211 = .ok (.iconst 0, 1) := by decide +kernel
theorem dX3_lower_212 : decode cX3_lower 212 = .ok (.istore 6, 2) := by decide +kernel
theorem dX3_lower_214 : decode cX3_lower 214 = .ok (.iload 5, 2) := by decide +kernel
theorem dX3_lower_216 : decode cX3_lower 216 = .ok (.ifCond .ne 18, 3) := by decide +kernel
theorem dX3_lower_219 : decode cX3_lower 219 = .ok (.iload 6, 2) := by decide +kernel
theorem dX3_lower_221 : decode cX3_lower 221 = .ok (.ifCond .eq 13, 3) := by decide +kernel
theorem dX3_lower_224 : decode cX3_lower 224 = .ok (.aload_n 0, 1) := by decide +kernel
theorem dX3_lower_225 : decode cX3_lower 225 = .ok (.iload 4, 2) := by decide +kernel
theorem dX3_lower_227 : decode cX3_lower 227 = .ok (.iload_n 3, 1) := by decide +kernel
theorem dX3_lower_228 : decode cX3_lower 228 = .ok (.invokevirtual 74, 3) := by decide +kernel
theorem dX3_lower_231 : decode cX3_lower 231 = .ok (.goto 15, 3) := by decide +kernel
theorem dX3_lower_234 : decode cX3_lower 234 = .ok (.iload 5, 2) := by decide +kernel
theorem dX3_lower_236 : decode cX3_lower 236 = .ok (.ifCond .ne 10, 3) := by decide +kernel
theorem dX3_lower_239 : decode cX3_lower 239 = .ok (.aload_n 0, 1) := by decide +kernel
theorem dX3_lower_240 : decode cX3_lower 240 = .ok (.iload 4, 2) := by decide +kernel
theorem dX3_lower_242 : decode cX3_lower 242 = .ok (.iconst 1, 1) := by decide +kernel
theorem dX3_lower_243 : decode cX3_lower 243 = .ok (.invokevirtual 100, 3) := by decide +kernel
theorem dX3_lower_246 : decode cX3_lower 246 = .ok (.goto (-199), 3) := by decide +kernel
theorem dX3_lower_249 : decode cX3_lower 249 = .ok (.aload_n 0, 1) := by decide +kernel
theorem dX3_lower_250 : decode cX3_lower 250 = .ok (.iload_n 1, 1) := by decide +kernel
theorem dX3_lower_251 : decode cX3_lower 251 = .ok (.iload_n 2, 1) := by decide +kernel
theorem dX3_lower_252 : decode cX3_lower 252 = .ok (.iload_n 3, 1) := by decide +kernel
theorem dX3_lower_253 : decode cX3_lower 253 = .ok (.invokevirtual 104, 3) := by decide +kernel
theorem dX3_lower_256 : decode cX3_lower 256 = .ok (.istore 4, 2) := by decide +kernel
theorem dX3_lower_258 : decode cX3_lower 258 = .ok (.iload_n 1, 1) := by decide +kernel
theorem dX3_lower_259 : decode cX3_lower 259 = .ok (.istore 5, 2) := by decide +kernel
theorem dX3_lower_261 : decode cX3_lower 261 = .ok (.iload 5, 2) := by decide +kernel
theorem dX3_lower_263 : decode cX3_lower 263 = .ok (.iload_n 2, 1) := by decide +kernel
theorem dX3_lower_264 : decode cX3_lower 264 = .ok (.if_icmp .gt 78, 3) := by decide +kernel
theorem dX3_lower_267 : decode cX3_lower 267 = .ok (.aload_n 0, 1) := by decide +kernel
theorem dX3_lower_268 : decode cX3_lower 268 = .ok (.getfield 7, 3) := by decide +kernel
theorem dX3_lower_271 : decode cX3_lower 271 = .ok (.iload 5, 2) := by decide +kernel
theorem dX3_lower_273 : decode cX3_lower 273 = .ok (.aload_n 0, 1) := by decide +kernel
theorem dX3_lower_274 : decode cX3_lower 274 = .ok (.getfield 7, 3) := by decide +kernel
theorem dX3_lower_277 : decode cX3_lower 277 = .ok (.iload 5, 2) := by decide +kernel
theorem dX3_lower_279 : decode cX3_lower 279 = .ok (.iaload, 1) := by decide +kernel
theorem dX3_lower_280 : decode cX3_lower 280 = .ok (.iload_n 3, 1) := by decide +kernel
theorem dX3_lower_281 : decode cX3_lower 281 = .ok (.if_icmp .le 7, 3) := by decide +kernel
theorem dX3_lower_284 : decode cX3_lower 284 = .ok (.iload_n 3, 1) := by decide +kernel
theorem dX3_lower_285 : decode cX3_lower 285 = .ok (.goto 10, 3) := by decide +kernel
theorem dX3_lower_288 : decode cX3_lower 288 = .ok (.aload_n 0, 1) := by decide +kernel
theorem dX3_lower_289 : decode cX3_lower 289 = .ok (.getfield 7, 3) := by decide +kernel
theorem dX3_lower_292 : decode cX3_lower 292 = .ok (.iload 5, 2) := by decide +kernel
theorem dX3_lower_294 : decode cX3_lower 294 = .ok (.iaload, 1) := by decide +kernel
theorem dX3_lower_295 : decode cX3_lower 295 = .ok (.iastore, 1) := by decide +kernel
theorem dX3_lower_296 : decode cX3_lower 296 = .ok (.aload_n 0, 1) := by decide +kernel
theorem dX3_lower_297 : decode cX3_lower 297 = .ok (.getfield 13, 3) := by decide +kernel
theorem dX3_lower_300 : decode cX3_lower 300 = .ok (.iload 5, 2) := by decide +kernel
theorem dX3_lower_302 : decode cX3_lower 302 = .ok (.aload_n 0, 1) := by decide +kernel
theorem dX3_lower_303 : decode cX3_lower 303 = .ok (.getfield 13, 3) := by decide +kernel
theorem dX3_lower_306 : decode cX3_lower 306 = .ok (.iload 5, 2) := by decide +kernel
theorem dX3_lower_308 : decode cX3_lower 308 = .ok (.iaload, 1) := by decide +kernel
theorem dX3_lower_309 : decode cX3_lower 309 = .ok (.iconst (-1), 1) := by decide +kernel
theorem dX3_lower_310 : decode cX3_lower 310 = .ok (.if_icmp .eq 14, 3) := by decide +kernel
theorem dX3_lower_313 : decode cX3_lower 313 = .ok (.iload_n 3, 1) := by decide +kernel
theorem dX3_lower_314 : decode cX3_lower 314 = .ok (.aload_n 0, 1) := by decide +kernel
theorem dX3_lower_315 : decode cX3_lower 315 = .ok (.getfield 13, 3) := by decide +kernel
theorem dX3_lower_318 : decode cX3_lower 318 = .ok (.iload 5, 2) := by decide +kernel
theorem dX3_lower_320 : decode cX3_lower 320 = .ok (.iaload, 1) := by decide +kernel
theorem dX3_lower_321 : decode cX3_lower 321 = .ok (.if_icmp .ge 7, 3) := by decide +kernel
theorem dX3_lower_324 : decode cX3_lower 324 = .ok (.iload_n 3, 1) := by decide +kernel
theorem dX3_lower_325 : decode cX3_lower 325 = .ok (.goto 10, 3) := by decide +kernel
theorem dX3_lower_328 : decode cX3_lower 328 = .ok (.aload_n 0, 1) := by decide +kernel
theorem dX3_lower_329 : decode cX3_lower 329 = .ok (.getfield 13, 3) := by decide +kernel
theorem dX3_lower_332 : decode cX3_lower 332 = .ok (.iload 5, 2) := by decide +kernel
theorem dX3_lower_334 : decode cX3_lower 334 = .ok (.iaload, 1) := by decide +kernel
theorem dX3_lower_335 : decode cX3_lower 335 = .ok (.iastore, 1) := by decide +kernel
theorem dX3_lower_336 : decode cX3_lower 336 = .ok (.iinc 5 1, 3) := by decide +kernel
theorem dX3_lower_339 : decode cX3_lower 339 = .ok (.goto (-78), 3) := by decide +kernel
theorem dX3_lower_342 : decode cX3_lower 342 = .ok (.aload_n 0, 1) := by decide +kernel
theorem dX3_lower_343 : decode cX3_lower 343 = .ok (.dup, 1) := by decide +kernel
theorem dX3_lower_344 : decode cX3_lower 344 = .ok (.getfield 67, 3) := by decide +kernel
theorem dX3_lower_347 : decode cX3_lower 347 = .ok (.iload 4, 2) := by decide +kernel
theorem dX3_lower_349 : decode cX3_lower 349 = .ok (.iadd, 1) := by decide +kernel
theorem dX3_lower_350 : decode cX3_lower 350 = .ok (.putfield 67, 3) := by decide +kernel
theorem dX3_lower_353 : decode cX3_lower 353 = .ok (.iload 4, 2) := by decide +kernel
theorem dX3_lower_355 : decode cX3_lower 355 = .ok (.ireturn, 1) := by decide +kernel
set_option maxRecDepth 20000 in
theorem ggX3_asks_X3_begins : GoodIn wsX3_asks wsX3_begins := goodIn_r _ [11, 12, 13, 1, 2, 32, 33, 34, 35, 36, 37, 38, 39, 40, 41, 42, 43, 44, 45, 46, 47, 48, 49] (by decide +kernel) (by decide +kernel)
set_option maxRecDepth 20000 in
theorem gX3_asks_X3_begins : GoodIn wsX3_asks (wsV RX3 87 RX3 yX3_begins wsX3_begins) := goodIn_app (goodIn_of _ (by decide +kernel)) ggX3_asks_X3_begins
set_option maxRecDepth 20000 in
theorem ggX3_asks_X3_visited : GoodIn wsX3_asks wsX3_visited := goodIn_r _ [17, 12, 18, 32, 33, 34, 35, 36, 37, 38, 39, 40, 41, 42, 43, 44, 45, 46, 47, 48, 49] (by decide +kernel) (by decide +kernel)
set_option maxRecDepth 20000 in
theorem gX3_asks_X3_visited : GoodIn wsX3_asks (wsV RX3 90 RX3 yX3_visited wsX3_visited) := goodIn_app (goodIn_of _ (by decide +kernel)) ggX3_asks_X3_visited
set_option maxRecDepth 20000 in
theorem ggX3_asks_X3_goesBelow : GoodIn wsX3_asks wsX3_goesBelow := goodIn_r _ [22, 2, 1, 23, 24, 25, 10, 26, 6, 27, 28, 29, 30, 5, 31, 32, 33, 34, 35, 36, 37, 38, 39, 40, 41, 42, 43, 44, 45, 46, 47, 48, 49] (by decide +kernel) (by decide +kernel)
set_option maxRecDepth 20000 in
theorem gX3_asks_X3_goesBelow : GoodIn wsX3_asks (wsV RX3 100 RX3 yX3_goesBelow wsX3_goesBelow) := goodIn_app (goodIn_of _ (by decide +kernel)) ggX3_asks_X3_goesBelow
theorem dX3_asks_0 : decode cX3_asks 0 = .ok (.aload_n 0, 1) := by decide +kernel
theorem dX3_asks_1 : decode cX3_asks 1 = .ok (.invokevirtual 87, 3) := by decide +kernel
theorem dX3_asks_4 : decode cX3_asks 4 = .ok (.iconst 0, 1) := by decide +kernel
theorem dX3_asks_5 : decode cX3_asks 5 = .ok (.istore 4, 2) := by decide +kernel
theorem dX3_asks_7 : decode cX3_asks 7 = .ok (.aload_n 0, 1) := by decide +kernel
theorem dX3_asks_8 : decode cX3_asks 8 = .ok (.getfield 77, 3) := by decide +kernel
theorem dX3_asks_11 : decode cX3_asks 11 = .ok (.ifCond .le 147, 3) := by decide +kernel
theorem dX3_asks_14 : decode cX3_asks 14 = .ok (.aload_n 0, 1) := by decide +kernel
theorem dX3_asks_15 : decode cX3_asks 15 = .ok (.dup, 1) := by decide +kernel
theorem dX3_asks_16 : decode cX3_asks 16 = .ok (.getfield 77, 3) := by decide +kernel
theorem dX3_asks_19 : decode cX3_asks 19 = .ok (.iconst 1, 1) := by decide +kernel
theorem dX3_asks_20 : decode cX3_asks 20 = .ok (.isub, 1) := by decide +kernel
theorem dX3_asks_21 : decode cX3_asks 21 = .ok (.putfield 77, 3) := by decide +kernel
theorem dX3_asks_24 : decode cX3_asks 24 = .ok (.aload_n 0, 1) := by decide +kernel
theorem dX3_asks_25 : decode cX3_asks 25 = .ok (.getfield 34, 3) := by decide +kernel
theorem dX3_asks_28 : decode cX3_asks 28 = .ok (.aload_n 0, 1) := by decide +kernel
theorem dX3_asks_29 : decode cX3_asks 29 = .ok (.getfield 77, 3) := by decide +kernel
theorem dX3_asks_32 : decode cX3_asks 32 = .ok (.iaload, 1) := by decide +kernel
theorem dX3_asks_33 : decode cX3_asks 33 = .ok (.iconst 2, 1) := by decide +kernel
theorem dX3_asks_34 : decode cX3_asks 34 = .ok (.idiv, 1) := by decide +kernel
theorem dX3_asks_35 : decode cX3_asks 35 = .ok (.istore 5, 2) := by decide +kernel
theorem dX3_asks_37 : decode cX3_asks 37 = .ok (.aload_n 0, 1) := by decide +kernel
theorem dX3_asks_38 : decode cX3_asks 38 = .ok (.invokevirtual 90, 3) := by decide +kernel
theorem dX3_asks_41 : decode cX3_asks 41 = .ok (.aload_n 0, 1) := by decide +kernel
theorem dX3_asks_42 : decode cX3_asks 42 = .ok (.getfield 16, 3) := by decide +kernel
theorem dX3_asks_45 : decode cX3_asks 45 = .ok (.iload 5, 2) := by decide +kernel
theorem dX3_asks_47 : decode cX3_asks 47 = .ok (.iaload, 1) := by decide +kernel
theorem dX3_asks_48 : decode cX3_asks 48 = .ok (.iload_n 2, 1) := by decide +kernel
theorem dX3_asks_49 : decode cX3_asks 49 = .ok (.if_icmp .gt 14, 3) := by decide +kernel
theorem dX3_asks_52 : decode cX3_asks 52 = .ok (.aload_n 0, 1) := by decide +kernel
theorem dX3_asks_53 : decode cX3_asks 53 = .ok (.getfield 19, 3) := by decide +kernel
theorem dX3_asks_56 : decode cX3_asks 56 = .ok (.iload 5, 2) := by decide +kernel
theorem dX3_asks_58 : decode cX3_asks 58 = .ok (.iaload, 1) := by decide +kernel
theorem dX3_asks_59 : decode cX3_asks 59 = .ok (.iload_n 1, 1) := by decide +kernel
theorem dX3_asks_60 : decode cX3_asks 60 = .ok (.if_icmp .ge 7, 3) := by decide +kernel
theorem dX3_asks_63 : decode cX3_asks 63 = .ok (.iconst 1, 1) := by decide +kernel
theorem dX3_asks_64 : decode cX3_asks 64 = .ok (.goto 4, 3) := by decide +kernel
theorem dX3_asks_67 : decode cX3_asks 67 = .ok (.iconst 0, 1) := by decide +kernel
theorem dX3_asks_68 : decode cX3_asks 68 = .ok (.istore 6, 2) := by decide +kernel
theorem dX3_asks_70 : decode cX3_asks 70 = .ok (.iload 6, 2) := by decide +kernel
theorem dX3_asks_72 : decode cX3_asks 72 = .ok (.ifCond .ne 71, 3) := by decide +kernel
theorem dX3_asks_75 : decode cX3_asks 75 = .ok (.aload_n 0, 1) := by decide +kernel
theorem dX3_asks_76 : decode cX3_asks 76 = .ok (.getfield 16, 3) := by decide +kernel
theorem dX3_asks_79 : decode cX3_asks 79 = .ok (.iload 5, 2) := by decide +kernel
theorem dX3_asks_81 : decode cX3_asks 81 = .ok (.iaload, 1) := by decide +kernel
theorem dX3_asks_82 : decode cX3_asks 82 = .ok (.iload_n 1, 1) := by decide +kernel
theorem dX3_asks_83 : decode cX3_asks 83 = .ok (.if_icmp .lt 60, 3) := by decide +kernel
theorem dX3_asks_86 : decode cX3_asks 86 = .ok (.aload_n 0, 1) := by decide +kernel
theorem dX3_asks_87 : decode cX3_asks 87 = .ok (.getfield 19, 3) := by decide +kernel
theorem dX3_asks_90 : decode cX3_asks 90 = .ok (.iload 5, 2) := by decide +kernel
theorem dX3_asks_92 : decode cX3_asks 92 = .ok (.iaload, 1) := by decide +kernel
theorem dX3_asks_93 : decode cX3_asks 93 = .ok (.iload_n 2, 1) := by decide +kernel
theorem dX3_asks_94 : decode cX3_asks 94 = .ok (.if_icmp .gt 49, 3) := by decide +kernel
theorem dX3_asks_97 : decode cX3_asks 97 = .ok (.iload_n 3, 1) := by decide +kernel
theorem dX3_asks_98 : decode cX3_asks 98 = .ok (.ifCond .eq 16, 3) := by decide +kernel
theorem dX3_asks_101 : decode cX3_asks 101 = .ok (.iload 4, 2) := by decide +kernel
theorem dX3_asks_103 : decode cX3_asks 103 = .ok (.aload_n 0, 1) := by decide +kernel
theorem dX3_asks_104 : decode cX3_asks 104 = .ok (.getfield 31, 3) := by decide +kernel
theorem dX3_asks_107 : decode cX3_asks 107 = .ok (.iload 5, 2) := by decide +kernel
theorem dX3_asks_109 : decode cX3_asks 109 = .ok (.iaload, 1) := by decide +kernel
theorem dX3_asks_110 : decode cX3_asks 110 = .ok (.iadd, 1) := by decide +kernel
theorem dX3_asks_111 : decode cX3_asks 111 = .ok (.goto 27, 3) := by decide +kernel
theorem dX3_asks_114 : decode cX3_asks 114 = .ok (.aload_n 0, 1) := by decide +kernel
theorem dX3_asks_115 : decode cX3_asks 115 = .ok (.getfield 22, 3) := by decide +kernel
theorem dX3_asks_118 : decode cX3_asks 118 = .ok (.iload 5, 2) := by decide +kernel
theorem dX3_asks_120 : decode cX3_asks 120 = .ok (.iaload, 1) := by decide +kernel
theorem dX3_asks_121 : decode cX3_asks 121 = .ok (.iload 4, 2) := by decide +kernel
theorem dX3_asks_123 : decode cX3_asks 123 = .ok (.if_icmp .le 13, 3) := by decide +kernel
theorem dX3_asks_126 : decode cX3_asks 126 = .ok (.aload_n 0, 1) := by decide +kernel
theorem dX3_asks_127 : decode cX3_asks 127 = .ok (.getfield 22, 3) := by decide +kernel
theorem dX3_asks_130 : decode cX3_asks 130 = .ok (.iload 5, 2) := by decide +kernel
theorem dX3_asks_132 : decode cX3_asks 132 = .ok (.iaload, 1) := by decide +kernel
theorem dX3_asks_133 : decode cX3_asks 133 = .ok (.goto 5, 3) := by decide +kernel
theorem dX3_asks_136 : decode cX3_asks 136 = .ok (.iload 4, 2) := by decide +kernel
theorem dX3_asks_138 : decode cX3_asks 138 = .ok (.istore 4, 2) := by decide +kernel
theorem dX3_asks_140 : decode cX3_asks 140 = .ok (.goto 15, 3) := by decide +kernel
theorem dX3_asks_143 : decode cX3_asks 143 = .ok (.iload 6, 2) := by decide +kernel
theorem dX3_asks_145 : decode cX3_asks 145 = .ok (.ifCond .ne 10, 3) := by decide +kernel
theorem dX3_asks_148 : decode cX3_asks 148 = .ok (.aload_n 0, 1) := by decide +kernel
theorem dX3_asks_149 : decode cX3_asks 149 = .ok (.iload 5, 2) := by decide +kernel
theorem dX3_asks_151 : decode cX3_asks 151 = .ok (.iconst 0, 1) := by decide +kernel
theorem dX3_asks_152 : decode cX3_asks 152 = .ok (.invokevirtual 100, 3) := by decide +kernel
theorem dX3_asks_155 : decode cX3_asks 155 = .ok (.goto (-148), 3) := by decide +kernel
theorem dX3_asks_158 : decode cX3_asks 158 = .ok (.iload 4, 2) := by decide +kernel
theorem dX3_asks_160 : decode cX3_asks 160 = .ok (.ireturn, 1) := by decide +kernel
set_option maxRecDepth 20000 in
theorem ggX3_earth_X3_isRange : GoodIn wsX3_earth wsX3_isRange := goodIn_r _ [5, 6, 7, 8, 4, 9, 10, 11, 12, 13, 53, 54, 55, 56, 57, 58, 59, 60, 61, 62, 63, 64, 65, 66, 67, 68, 69, 70] (by decide +kernel) (by decide +kernel)
set_option maxRecDepth 20000 in
theorem gX3_earth_X3_isRange : GoodIn wsX3_earth (wsV RX3 96 RX3 yX3_isRange wsX3_isRange) := goodIn_app (goodIn_of _ (by decide +kernel)) ggX3_earth_X3_isRange
set_option maxRecDepth 20000 in
theorem ggX3_earth_X3_isFine : GoodIn wsX3_earth wsX3_isFine := goodIn_r _ [17, 18, 53, 54, 55, 56, 57, 58, 59, 60, 61, 62, 63, 64, 65, 66, 67, 68, 69, 70] (by decide +kernel) (by decide +kernel)
set_option maxRecDepth 20000 in
theorem gX3_earth_X3_isFine : GoodIn wsX3_earth (wsV RX3 70 RX3 yX3_isFine wsX3_isFine) := goodIn_app (goodIn_of _ (by decide +kernel)) ggX3_earth_X3_isFine
set_option maxRecDepth 20000 in
theorem ggX3_earth_X3_asks : GoodIn wsX3_earth wsX3_asks := goodIn_r _ [22, 23, 24, 25, 26, 27, 28, 29, 30, 31, 4, 32, 33, 34, 35, 36, 37, 38, 39, 40, 41, 42, 43, 44, 45, 46, 47, 48, 49, 50, 51, 52, 53, 54, 55, 56, 57, 58, 59, 60, 61, 62, 63, 64, 65, 66, 67, 68, 69, 70] (by decide +kernel) (by decide +kernel)
set_option maxRecDepth 20000 in
theorem gX3_earth_X3_asks : GoodIn wsX3_earth (wsV RX3 108 RX3 yX3_asks wsX3_asks) := goodIn_app (goodIn_of _ (by decide +kernel)) ggX3_earth_X3_asks
theorem dX3_earth_0 : decode cX3_earth 0 = .ok (.aload_n 0, 1) := by decide +kernel
theorem dX3_earth_1 : decode cX3_earth 1 = .ok (.aload_n 0, 1) := by decide +kernel
theorem dX3_earth_2 : decode cX3_earth 2 = .ok (.iload_n 1, 1) := by decide +kernel
theorem dX3_earth_3 : decode cX3_earth 3 = .ok (.iload_n 2, 1) := by decide +kernel
theorem dX3_earth_4 : decode cX3_earth 4 = .ok (.invokevirtual 96, 3) := by decide +kernel
theorem dX3_earth_7 : decode cX3_earth 7 = .ok (.ifCond .ne 7, 3) := by decide +kernel
theorem dX3_earth_10 : decode cX3_earth 10 = .ok (.iconst 1, 1) := by decide +kernel
theorem dX3_earth_11 : decode cX3_earth 11 = .ok (.goto 13, 3) := by decide +kernel
theorem dX3_earth_14 : decode cX3_earth 14 = .ok (.iload_n 2, 1) := by decide +kernel
theorem dX3_earth_15 : decode cX3_earth 15 = .ok (.iload_n 1, 1) := by decide +kernel
theorem dX3_earth_16 : decode cX3_earth 16 = .ok (.if_icmp .ge 7, 3) := by decide +kernel
theorem dX3_earth_19 : decode cX3_earth 19 = .ok (.iconst 2, 1) := by decide +kernel
theorem dX3_earth_20 : decode cX3_earth 20 = .ok (.goto 4, 3) := by decide +kernel
theorem dX3_earth_23 : decode cX3_earth 23 = .ok (.iconst 0, 1) := by decide +kernel
theorem dX3_earth_24 : decode cX3_earth 24 = .ok (.invokevirtual 70, 3) := by decide +kernel
theorem dX3_earth_27 : decode cX3_earth 27 = .ok (.ifCond .eq 13, 3) := by decide +kernel
theorem dX3_earth_30 : decode cX3_earth 30 = .ok (.aload_n 0, 1) := by decide +kernel
theorem dX3_earth_31 : decode cX3_earth 31 = .ok (.iload_n 1, 1) := by decide +kernel
theorem dX3_earth_32 : decode cX3_earth 32 = .ok (.iload_n 2, 1) := by decide +kernel
theorem dX3_earth_33 : decode cX3_earth 33 = .ok (.iconst 1, 1) := by decide +kernel
theorem dX3_earth_34 : decode cX3_earth 34 = .ok (.invokevirtual 108, 3) := by decide +kernel
theorem dX3_earth_37 : decode cX3_earth 37 = .ok (.goto 4, 3) := by decide +kernel
theorem dX3_earth_40 : decode cX3_earth 40 = .ok (.iconst 0, 1) := by decide +kernel
theorem dX3_earth_41 : decode cX3_earth 41 = .ok (.ireturn, 1) := by decide +kernel
set_option maxRecDepth 20000 in
theorem ggX3_earthByColumns_X3_isRange : GoodIn wsX3_earthByColumns wsX3_isRange := goodIn_r _ [5, 6, 7, 8, 4, 9, 10, 11, 12, 13, 24, 25, 26, 27, 28, 29, 30, 31, 32, 33, 34, 35, 36, 37, 38, 39, 40, 41] (by decide +kernel) (by decide +kernel)
set_option maxRecDepth 20000 in
theorem gX3_earthByColumns_X3_isRange : GoodIn wsX3_earthByColumns (wsV RX3 96 RX3 yX3_isRange wsX3_isRange) := goodIn_app (goodIn_of _ (by decide +kernel)) ggX3_earthByColumns_X3_isRange
set_option maxRecDepth 20000 in
theorem ggX3_earthByColumns_X3_isFine : GoodIn wsX3_earthByColumns wsX3_isFine := goodIn_r _ [17, 18, 24, 25, 26, 27, 28, 29, 30, 31, 32, 33, 34, 35, 36, 37, 38, 39, 40, 41] (by decide +kernel) (by decide +kernel)
set_option maxRecDepth 20000 in
theorem gX3_earthByColumns_X3_isFine : GoodIn wsX3_earthByColumns (wsV RX3 70 RX3 yX3_isFine wsX3_isFine) := goodIn_app (goodIn_of _ (by decide +kernel)) ggX3_earthByColumns_X3_isFine
set_option maxRecDepth 20000 in
theorem ggX3_earthByColumns_X3_presses : GoodIn wsX3_earthByColumns wsX3_presses := goodIn_r _ [22, 23, 24, 25, 26, 27, 28, 29, 30, 31, 32, 33, 34, 35, 36, 37, 38, 39, 40, 41] (by decide +kernel) (by decide +kernel)
set_option maxRecDepth 20000 in
theorem gX3_earthByColumns_X3_presses : GoodIn wsX3_earthByColumns (wsV RX3 104 RX3 yX3_presses wsX3_presses) := goodIn_app (goodIn_of _ (by decide +kernel)) ggX3_earthByColumns_X3_presses
theorem dX3_earthByColumns_0 : decode cX3_earthByColumns 0 = .ok (.aload_n 0, 1) := by decide +kernel
theorem dX3_earthByColumns_1 : decode cX3_earthByColumns 1 = .ok (.aload_n 0, 1) := by decide +kernel
theorem dX3_earthByColumns_2 : decode cX3_earthByColumns 2 = .ok (.iload_n 1, 1) := by decide +kernel
theorem dX3_earthByColumns_3 : decode cX3_earthByColumns 3 = .ok (.iload_n 2, 1) := by decide +kernel
theorem dX3_earthByColumns_4 : decode cX3_earthByColumns 4 = .ok (.invokevirtual 96, 3) := by decide +kernel
theorem dX3_earthByColumns_7 : decode cX3_earthByColumns 7 = .ok (.ifCond .ne 7, 3) := by decide +kernel
theorem dX3_earthByColumns_10 : decode cX3_earthByColumns 10 = .ok (.iconst 1, 1) := by decide +kernel
theorem dX3_earthByColumns_11 : decode cX3_earthByColumns 11 = .ok (.goto 13, 3) := by decide +kernel
theorem dX3_earthByColumns_14 : decode cX3_earthByColumns 14 = .ok (.iload_n 2, 1) := by decide +kernel
theorem dX3_earthByColumns_15 : decode cX3_earthByColumns 15 = .ok (.iload_n 1, 1) := by decide +kernel
theorem dX3_earthByColumns_16 : decode cX3_earthByColumns 16 = .ok (.if_icmp .ge 7, 3) := by decide +kernel
theorem dX3_earthByColumns_19 : decode cX3_earthByColumns 19 = .ok (.iconst 2, 1) := by decide +kernel
theorem dX3_earthByColumns_20 : decode cX3_earthByColumns 20 = .ok (.goto 4, 3) := by decide +kernel
theorem dX3_earthByColumns_23 : decode cX3_earthByColumns 23 = .ok (.iconst 0, 1) := by decide +kernel
theorem dX3_earthByColumns_24 : decode cX3_earthByColumns 24 = .ok (.invokevirtual 70, 3) := by decide +kernel
theorem dX3_earthByColumns_27 : decode cX3_earthByColumns 27 = .ok (.ifCond .eq 13, 3) := by decide +kernel
theorem dX3_earthByColumns_30 : decode cX3_earthByColumns 30 = .ok (.aload_n 0, 1) := by decide +kernel
theorem dX3_earthByColumns_31 : decode cX3_earthByColumns 31 = .ok (.iload_n 1, 1) := by decide +kernel
theorem dX3_earthByColumns_32 : decode cX3_earthByColumns 32 = .ok (.iload_n 2, 1) := by decide +kernel
theorem dX3_earthByColumns_33 : decode cX3_earthByColumns 33 = .ok (.iconst 0, 1) := by decide +kernel
theorem dX3_earthByColumns_34 : decode cX3_earthByColumns 34 = .ok (.invokevirtual 104, 3) := by decide +kernel
theorem dX3_earthByColumns_37 : decode cX3_earthByColumns 37 = .ok (.goto 4, 3) := by decide +kernel
theorem dX3_earthByColumns_40 : decode cX3_earthByColumns 40 = .ok (.iconst 0, 1) := by decide +kernel
theorem dX3_earthByColumns_41 : decode cX3_earthByColumns 41 = .ok (.ireturn, 1) := by decide +kernel
set_option maxRecDepth 20000 in
theorem ggX3_top_X3_isRange : GoodIn wsX3_top wsX3_isRange := goodIn_r _ [5, 6, 7, 8, 4, 9, 10, 11, 12, 13, 53, 54, 55, 56, 57, 58, 59, 60, 61, 62, 63, 64, 65, 66, 67, 68, 69, 70] (by decide +kernel) (by decide +kernel)
set_option maxRecDepth 20000 in
theorem gX3_top_X3_isRange : GoodIn wsX3_top (wsV RX3 96 RX3 yX3_isRange wsX3_isRange) := goodIn_app (goodIn_of _ (by decide +kernel)) ggX3_top_X3_isRange
set_option maxRecDepth 20000 in
theorem ggX3_top_X3_isFine : GoodIn wsX3_top wsX3_isFine := goodIn_r _ [17, 18, 53, 54, 55, 56, 57, 58, 59, 60, 61, 62, 63, 64, 65, 66, 67, 68, 69, 70] (by decide +kernel) (by decide +kernel)
set_option maxRecDepth 20000 in
theorem gX3_top_X3_isFine : GoodIn wsX3_top (wsV RX3 70 RX3 yX3_isFine wsX3_isFine) := goodIn_app (goodIn_of _ (by decide +kernel)) ggX3_top_X3_isFine
set_option maxRecDepth 20000 in
theorem ggX3_top_X3_asks : GoodIn wsX3_top wsX3_asks := goodIn_r _ [22, 23, 24, 25, 26, 27, 28, 29, 30, 31, 4, 32, 33, 34, 35, 36, 37, 38, 39, 40, 41, 42, 43, 44, 45, 46, 47, 48, 49, 50, 51, 52, 53, 54, 55, 56, 57, 58, 59, 60, 61, 62, 63, 64, 65, 66, 67, 68, 69, 70] (by decide +kernel) (by decide +kernel)
set_option maxRecDepth 20000 in
theorem gX3_top_X3_asks : GoodIn wsX3_top (wsV RX3 108 RX3 yX3_asks wsX3_asks) := goodIn_app (goodIn_of _ (by decide +kernel)) ggX3_top_X3_asks
theorem dX3_top_0 : decode cX3_top 0 = .ok (.aload_n 0, 1) := by decide +kernel
theorem dX3_top_1 : decode cX3_top 1 = .ok (.aload_n 0, 1) := by decide +kernel
theorem dX3_top_2 : decode cX3_top 2 = .ok (.iload_n 1, 1) := by decide +kernel
theorem dX3_top_3 : decode cX3_top 3 = .ok (.iload_n 2, 1) := by decide +kernel
theorem dX3_top_4 : decode cX3_top 4 = .ok (.invokevirtual 96, 3) := by decide +kernel
theorem dX3_top_7 : decode cX3_top 7 = .ok (.ifCond .ne 7, 3) := by decide +kernel
theorem dX3_top_10 : decode cX3_top 10 = .ok (.iconst 1, 1) := by decide +kernel
theorem dX3_top_11 : decode cX3_top 11 = .ok (.goto 13, 3) := by decide +kernel
theorem dX3_top_14 : decode cX3_top 14 = .ok (.iload_n 2, 1) := by decide +kernel
theorem dX3_top_15 : decode cX3_top 15 = .ok (.iload_n 1, 1) := by decide +kernel
theorem dX3_top_16 : decode cX3_top 16 = .ok (.if_icmp .ge 7, 3) := by decide +kernel
theorem dX3_top_19 : decode cX3_top 19 = .ok (.iconst 2, 1) := by decide +kernel
theorem dX3_top_20 : decode cX3_top 20 = .ok (.goto 4, 3) := by decide +kernel
theorem dX3_top_23 : decode cX3_top 23 = .ok (.iconst 0, 1) := by decide +kernel
theorem dX3_top_24 : decode cX3_top 24 = .ok (.invokevirtual 70, 3) := by decide +kernel
theorem dX3_top_27 : decode cX3_top 27 = .ok (.ifCond .eq 13, 3) := by decide +kernel
theorem dX3_top_30 : decode cX3_top 30 = .ok (.aload_n 0, 1) := by decide +kernel
theorem dX3_top_31 : decode cX3_top 31 = .ok (.iload_n 1, 1) := by decide +kernel
theorem dX3_top_32 : decode cX3_top 32 = .ok (.iload_n 2, 1) := by decide +kernel
theorem dX3_top_33 : decode cX3_top 33 = .ok (.iconst 0, 1) := by decide +kernel
theorem dX3_top_34 : decode cX3_top 34 = .ok (.invokevirtual 108, 3) := by decide +kernel
theorem dX3_top_37 : decode cX3_top 37 = .ok (.goto 4, 3) := by decide +kernel
theorem dX3_top_40 : decode cX3_top 40 = .ok (.iconst 0, 1) := by decide +kernel
theorem dX3_top_41 : decode cX3_top 41 = .ok (.ireturn, 1) := by decide +kernel
set_option maxRecDepth 20000 in
theorem ggX3_height_X3_isColumn : GoodIn wsX3_height wsX3_isColumn := goodIn_r _ [6, 7, 8, 9, 5, 10, 16, 17, 18, 19, 20, 21, 22, 23, 24, 25, 26, 27, 28, 29, 30, 31, 32, 33] (by decide +kernel) (by decide +kernel)
set_option maxRecDepth 20000 in
theorem gX3_height_X3_isColumn : GoodIn wsX3_height (wsV RX3 84 RX3 yX3_isColumn wsX3_isColumn) := goodIn_app (goodIn_of _ (by decide +kernel)) ggX3_height_X3_isColumn
set_option maxRecDepth 20000 in
theorem ggX3_height_X3_isFine : GoodIn wsX3_height wsX3_isFine := goodIn_r _ [14, 15, 16, 17, 18, 19, 20, 21, 22, 23, 24, 25, 26, 27, 28, 29, 30, 31, 32, 33] (by decide +kernel) (by decide +kernel)
set_option maxRecDepth 20000 in
theorem gX3_height_X3_isFine : GoodIn wsX3_height (wsV RX3 70 RX3 yX3_isFine wsX3_isFine) := goodIn_app (goodIn_of _ (by decide +kernel)) ggX3_height_X3_isFine
theorem dX3_height_0 : decode cX3_height 0 = .ok (.aload_n 0, 1) := by decide +kernel
theorem dX3_height_1 : decode cX3_height 1 = .ok (.aload_n 0, 1) := by decide +kernel
theorem dX3_height_2 : decode cX3_height 2 = .ok (.iload_n 1, 1) := by decide +kernel
theorem dX3_height_3 : decode cX3_height 3 = .ok (.invokevirtual 84, 3) := by decide +kernel
theorem dX3_height_6 : decode cX3_height 6 = .ok (.ifCond .eq 7, 3) := by decide +kernel
theorem dX3_height_9 : decode cX3_height 9 = .ok (.iconst 0, 1) := by decide +kernel
theorem dX3_height_10 : decode cX3_height 10 = .ok (.goto 4, 3) := by decide +kernel
theorem dX3_height_13 : decode cX3_height 13 = .ok (.iconst 1, 1) := by decide +kernel
theorem dX3_height_14 : decode cX3_height 14 = .ok (.invokevirtual 70, 3) := by decide +kernel
theorem dX3_height_17 : decode cX3_height 17 = .ok (.ifCond .eq 12, 3) := by decide +kernel
theorem dX3_height_20 : decode cX3_height 20 = .ok (.aload_n 0, 1) := by decide +kernel
theorem dX3_height_21 : decode cX3_height 21 = .ok (.getfield 7, 3) := by decide +kernel
theorem dX3_height_24 : decode cX3_height 24 = .ok (.iload_n 1, 1) := by decide +kernel
theorem dX3_height_25 : decode cX3_height 25 = .ok (.iaload, 1) := by decide +kernel
theorem dX3_height_26 : decode cX3_height 26 = .ok (.goto 4, 3) := by decide +kernel
theorem dX3_height_29 : decode cX3_height 29 = .ok (.iconst 0, 1) := by decide +kernel
theorem dX3_height_30 : decode cX3_height 30 = .ok (.ireturn, 1) := by decide +kernel
set_option maxRecDepth 20000 in
theorem ggX3_heightOfColumn_X3_isColumn : GoodIn wsX3_heightOfColumn wsX3_isColumn := goodIn_r _ [6, 7, 8, 9, 5, 10, 16, 17, 18, 19, 20, 21, 22, 23, 24, 25, 26, 27, 28, 29, 30, 31, 32, 33] (by decide +kernel) (by decide +kernel)
set_option maxRecDepth 20000 in
theorem gX3_heightOfColumn_X3_isColumn : GoodIn wsX3_heightOfColumn (wsV RX3 84 RX3 yX3_isColumn wsX3_isColumn) := goodIn_app (goodIn_of _ (by decide +kernel)) ggX3_heightOfColumn_X3_isColumn
set_option maxRecDepth 20000 in
theorem ggX3_heightOfColumn_X3_isFine : GoodIn wsX3_heightOfColumn wsX3_isFine := goodIn_r _ [14, 15, 16, 17, 18, 19, 20, 21, 22, 23, 24, 25, 26, 27, 28, 29, 30, 31, 32, 33] (by decide +kernel) (by decide +kernel)
set_option maxRecDepth 20000 in
theorem gX3_heightOfColumn_X3_isFine : GoodIn wsX3_heightOfColumn (wsV RX3 70 RX3 yX3_isFine wsX3_isFine) := goodIn_app (goodIn_of _ (by decide +kernel)) ggX3_heightOfColumn_X3_isFine
theorem dX3_heightOfColumn_0 : decode cX3_heightOfColumn 0 = .ok (.aload_n 0, 1) := by decide +kernel
theorem dX3_heightOfColumn_1 : decode cX3_heightOfColumn 1 = .ok (.aload_n 0, 1) := by decide +kernel
theorem dX3_heightOfColumn_2 : decode cX3_heightOfColumn 2 = .ok (.iload_n 1, 1) := by decide +kernel
theorem dX3_heightOfColumn_3 : decode cX3_heightOfColumn 3 = .ok (.invokevirtual 84, 3) := by decide +kernel
theorem dX3_heightOfColumn_6 : decode cX3_heightOfColumn 6 = .ok (.ifCond .eq 7, 3) := by decide +kernel
theorem dX3_heightOfColumn_9 : decode cX3_heightOfColumn 9 = .ok (.iconst 0, 1) := by decide +kernel
theorem dX3_heightOfColumn_10 : decode cX3_heightOfColumn 10 = .ok (.goto 4, 3) := by decide +kernel
theorem dX3_heightOfColumn_13 : decode cX3_heightOfColumn 13 = .ok (.iconst 1, 1) := by decide +kernel
theorem dX3_heightOfColumn_14 : decode cX3_heightOfColumn 14 = .ok (.invokevirtual 70, 3) := by decide +kernel
theorem dX3_heightOfColumn_17 : decode cX3_heightOfColumn 17 = .ok (.ifCond .eq 12, 3) := by decide +kernel
theorem dX3_heightOfColumn_20 : decode cX3_heightOfColumn 20 = .ok (.aload_n 0, 1) := by decide +kernel
theorem dX3_heightOfColumn_21 : decode cX3_heightOfColumn 21 = .ok (.getfield 7, 3) := by decide +kernel
theorem dX3_heightOfColumn_24 : decode cX3_heightOfColumn 24 = .ok (.iload_n 1, 1) := by decide +kernel
theorem dX3_heightOfColumn_25 : decode cX3_heightOfColumn 25 = .ok (.iaload, 1) := by decide +kernel
theorem dX3_heightOfColumn_26 : decode cX3_heightOfColumn 26 = .ok (.goto 4, 3) := by decide +kernel
theorem dX3_heightOfColumn_29 : decode cX3_heightOfColumn 29 = .ok (.iconst 0, 1) := by decide +kernel
theorem dX3_heightOfColumn_30 : decode cX3_heightOfColumn 30 = .ok (.ireturn, 1) := by decide +kernel
set_option maxRecDepth 20000 in
theorem ggX3_wouldPress_X3_isRange : GoodIn wsX3_wouldPress wsX3_isRange := goodIn_r _ [5, 6, 7, 8, 4, 9, 10, 11, 12, 13, 24, 25, 26, 27, 28, 29, 30, 31, 32, 33, 34, 35, 36, 37, 38, 39, 40, 41] (by decide +kernel) (by decide +kernel)
set_option maxRecDepth 20000 in
theorem gX3_wouldPress_X3_isRange : GoodIn wsX3_wouldPress (wsV RX3 96 RX3 yX3_isRange wsX3_isRange) := goodIn_app (goodIn_of _ (by decide +kernel)) ggX3_wouldPress_X3_isRange
set_option maxRecDepth 20000 in
theorem ggX3_wouldPress_X3_in : GoodIn wsX3_wouldPress wsX3_in := goodIn_r _ [13] (by decide +kernel) (by decide +kernel)
set_option maxRecDepth 20000 in
theorem gX3_wouldPress_X3_in : GoodIn wsX3_wouldPress (va_wsS RX3 48 yX3_in wsX3_in) := goodIn_app (goodIn_of _ (by decide +kernel)) ggX3_wouldPress_X3_in
set_option maxRecDepth 20000 in
theorem ggX3_wouldPress_X3_isFine : GoodIn wsX3_wouldPress wsX3_isFine := goodIn_r _ [17, 18, 24, 25, 26, 27, 28, 29, 30, 31, 32, 33, 34, 35, 36, 37, 38, 39, 40, 41] (by decide +kernel) (by decide +kernel)
set_option maxRecDepth 20000 in
theorem gX3_wouldPress_X3_isFine : GoodIn wsX3_wouldPress (wsV RX3 70 RX3 yX3_isFine wsX3_isFine) := goodIn_app (goodIn_of _ (by decide +kernel)) ggX3_wouldPress_X3_isFine
set_option maxRecDepth 20000 in
theorem ggX3_wouldPress_X3_presses : GoodIn wsX3_wouldPress wsX3_presses := goodIn_r _ [22, 23, 24, 25, 26, 27, 28, 29, 30, 31, 32, 33, 34, 35, 36, 37, 38, 39, 40, 41] (by decide +kernel) (by decide +kernel)
set_option maxRecDepth 20000 in
theorem gX3_wouldPress_X3_presses : GoodIn wsX3_wouldPress (wsV RX3 104 RX3 yX3_presses wsX3_presses) := goodIn_app (goodIn_of _ (by decide +kernel)) ggX3_wouldPress_X3_presses
theorem dX3_wouldPress_0 : decode cX3_wouldPress 0 = .ok (.aload_n 0, 1) := by decide +kernel
theorem dX3_wouldPress_1 : decode cX3_wouldPress 1 = .ok (.aload_n 0, 1) := by decide +kernel
theorem dX3_wouldPress_2 : decode cX3_wouldPress 2 = .ok (.iload_n 1, 1) := by decide +kernel
theorem dX3_wouldPress_3 : decode cX3_wouldPress 3 = .ok (.iload_n 2, 1) := by decide +kernel
theorem dX3_wouldPress_4 : decode cX3_wouldPress 4 = .ok (.invokevirtual 96, 3) := by decide +kernel
theorem dX3_wouldPress_7 : decode cX3_wouldPress 7 = .ok (.ifCond .ne 7, 3) := by decide +kernel
theorem dX3_wouldPress_10 : decode cX3_wouldPress 10 = .ok (.iconst 1, 1) := by decide +kernel
theorem dX3_wouldPress_11 : decode cX3_wouldPress 11 = .ok (.goto 24, 3) := by decide +kernel
theorem dX3_wouldPress_14 : decode cX3_wouldPress 14 = .ok (.iload_n 2, 1) := by decide +kernel
theorem dX3_wouldPress_15 : decode cX3_wouldPress 15 = .ok (.iload_n 1, 1) := by decide +kernel
theorem dX3_wouldPress_16 : decode cX3_wouldPress 16 = .ok (.if_icmp .lt 14, 3) := by decide +kernel
theorem dX3_wouldPress_19 : decode cX3_wouldPress 19 = .ok (.iload_n 3, 1) := by decide +kernel
theorem dX3_wouldPress_20 : decode cX3_wouldPress 20 = .ok (.iconst 0, 1) := by decide +kernel
theorem dX3_wouldPress_21 : decode cX3_wouldPress 21 = .ok (.sipush 1000, 3) := by decide +kernel
theorem dX3_wouldPress_24 : decode cX3_wouldPress 24 = .ok (.invokestatic 48, 3) := by decide +kernel
theorem dX3_wouldPress_27 : decode cX3_wouldPress 27 = .ok (.ifCond .ne 7, 3) := by decide +kernel
theorem dX3_wouldPress_30 : decode cX3_wouldPress 30 = .ok (.iconst 2, 1) := by decide +kernel
theorem dX3_wouldPress_31 : decode cX3_wouldPress 31 = .ok (.goto 4, 3) := by decide +kernel
theorem dX3_wouldPress_34 : decode cX3_wouldPress 34 = .ok (.iconst 0, 1) := by decide +kernel
theorem dX3_wouldPress_35 : decode cX3_wouldPress 35 = .ok (.invokevirtual 70, 3) := by decide +kernel
theorem dX3_wouldPress_38 : decode cX3_wouldPress 38 = .ok (.ifCond .eq 13, 3) := by decide +kernel
theorem dX3_wouldPress_41 : decode cX3_wouldPress 41 = .ok (.aload_n 0, 1) := by decide +kernel
theorem dX3_wouldPress_42 : decode cX3_wouldPress 42 = .ok (.iload_n 1, 1) := by decide +kernel
theorem dX3_wouldPress_43 : decode cX3_wouldPress 43 = .ok (.iload_n 2, 1) := by decide +kernel
theorem dX3_wouldPress_44 : decode cX3_wouldPress 44 = .ok (.iload_n 3, 1) := by decide +kernel
theorem dX3_wouldPress_45 : decode cX3_wouldPress 45 = .ok (.invokevirtual 104, 3) := by decide +kernel
theorem dX3_wouldPress_48 : decode cX3_wouldPress 48 = .ok (.goto 4, 3) := by decide +kernel
theorem dX3_wouldPress_51 : decode cX3_wouldPress 51 = .ok (.iconst 0, 1) := by decide +kernel
theorem dX3_wouldPress_52 : decode cX3_wouldPress 52 = .ok (.ireturn, 1) := by decide +kernel
set_option maxRecDepth 20000 in
theorem ggX3_ceilingFor_X3_isRange : GoodIn wsX3_ceilingFor wsX3_isRange := goodIn_r _ [6, 7, 8, 9, 5, 10, 11, 12, 13, 14, 25, 26, 27, 28, 29, 30, 31, 32, 33, 34, 35, 36, 37, 38, 39, 40, 41, 42] (by decide +kernel) (by decide +kernel)
set_option maxRecDepth 20000 in
theorem gX3_ceilingFor_X3_isRange : GoodIn wsX3_ceilingFor (wsV RX3 96 RX3 yX3_isRange wsX3_isRange) := goodIn_app (goodIn_of _ (by decide +kernel)) ggX3_ceilingFor_X3_isRange
set_option maxRecDepth 20000 in
theorem ggX3_ceilingFor_X3_in : GoodIn wsX3_ceilingFor wsX3_in := goodIn_r _ [14] (by decide +kernel) (by decide +kernel)
set_option maxRecDepth 20000 in
theorem gX3_ceilingFor_X3_in : GoodIn wsX3_ceilingFor (va_wsS RX3 48 yX3_in wsX3_in) := goodIn_app (goodIn_of _ (by decide +kernel)) ggX3_ceilingFor_X3_in
set_option maxRecDepth 20000 in
theorem ggX3_ceilingFor_X3_isFine : GoodIn wsX3_ceilingFor wsX3_isFine := goodIn_r _ [18, 19, 25, 26, 27, 28, 29, 30, 31, 32, 33, 34, 35, 36, 37, 38, 39, 40, 41, 42] (by decide +kernel) (by decide +kernel)
set_option maxRecDepth 20000 in
theorem gX3_ceilingFor_X3_isFine : GoodIn wsX3_ceilingFor (wsV RX3 70 RX3 yX3_isFine wsX3_isFine) := goodIn_app (goodIn_of _ (by decide +kernel)) ggX3_ceilingFor_X3_isFine
set_option maxRecDepth 20000 in
theorem ggX3_ceilingFor_X3_presses : GoodIn wsX3_ceilingFor wsX3_presses := goodIn_r _ [23, 24, 25, 26, 27, 28, 29, 30, 31, 32, 33, 34, 35, 36, 37, 38, 39, 40, 41, 42] (by decide +kernel) (by decide +kernel)
set_option maxRecDepth 20000 in
theorem gX3_ceilingFor_X3_presses : GoodIn wsX3_ceilingFor (wsV RX3 104 RX3 yX3_presses wsX3_presses) := goodIn_app (goodIn_of _ (by decide +kernel)) ggX3_ceilingFor_X3_presses
theorem dX3_ceilingFor_0 : decode cX3_ceilingFor 0 = .ok (.aload_n 0, 1) := by decide +kernel
theorem dX3_ceilingFor_1 : decode cX3_ceilingFor 1 = .ok (.aload_n 0, 1) := by decide +kernel
theorem dX3_ceilingFor_2 : decode cX3_ceilingFor 2 = .ok (.iload_n 1, 1) := by decide +kernel
theorem dX3_ceilingFor_3 : decode cX3_ceilingFor 3 = .ok (.iload_n 2, 1) := by decide +kernel
theorem dX3_ceilingFor_4 : decode cX3_ceilingFor 4 = .ok (.invokevirtual 96, 3) := by decide +kernel
theorem dX3_ceilingFor_7 : decode cX3_ceilingFor 7 = .ok (.ifCond .ne 7, 3) := by decide +kernel
theorem dX3_ceilingFor_10 : decode cX3_ceilingFor 10 = .ok (.iconst 1, 1) := by decide +kernel
theorem dX3_ceilingFor_11 : decode cX3_ceilingFor 11 = .ok (.goto 23, 3) := by decide +kernel
theorem dX3_ceilingFor_14 : decode cX3_ceilingFor 14 = .ok (.iload_n 2, 1) := by decide +kernel
theorem dX3_ceilingFor_15 : decode cX3_ceilingFor 15 = .ok (.iload_n 1, 1) := by decide +kernel
theorem dX3_ceilingFor_16 : decode cX3_ceilingFor 16 = .ok (.if_icmp .lt 13, 3) := by decide +kernel
theorem dX3_ceilingFor_19 : decode cX3_ceilingFor 19 = .ok (.iload_n 3, 1) := by decide +kernel
theorem dX3_ceilingFor_20 : decode cX3_ceilingFor 20 = .ok (.iconst 1, 1) := by decide +kernel
theorem dX3_ceilingFor_21 : decode cX3_ceilingFor 21 = .ok (.ldc 112, 2) := by decide +kernel
theorem dX3_ceilingFor_23 : decode cX3_ceilingFor 23 = .ok (.invokestatic 48, 3) := by decide +kernel
theorem dX3_ceilingFor_26 : decode cX3_ceilingFor 26 = .ok (.ifCond .ne 7, 3) := by decide +kernel
theorem dX3_ceilingFor_29 : decode cX3_ceilingFor 29 = .ok (.iconst 2, 1) := by decide +kernel
theorem dX3_ceilingFor_30 : decode cX3_ceilingFor 30 = .ok (.goto 4, 3) := by decide +kernel
theorem dX3_ceilingFor_33 : decode cX3_ceilingFor 33 = .ok (.iconst 0, 1) := by decide +kernel
theorem dX3_ceilingFor_34 : decode cX3_ceilingFor 34 = .ok (.invokevirtual 70, 3) := by decide +kernel
theorem dX3_ceilingFor_37 : decode cX3_ceilingFor 37 = .ok (.ifCond .ne 5, 3) := by decide +kernel
theorem dX3_ceilingFor_40 : decode cX3_ceilingFor 40 = .ok (.iconst 0, 1) := by decide +kernel
theorem dX3_ceilingFor_41 : decode cX3_ceilingFor 41 = .ok (.ireturn, 1) := by decide +kernel
theorem dX3_ceilingFor_42 : decode cX3_ceilingFor 42 = .ok (.aload_n 0, 1) := by decide +kernel
theorem dX3_ceilingFor_43 : decode cX3_ceilingFor 43 = .ok (.aload_n 0, 1) := by decide +kernel
theorem dX3_ceilingFor_44 : decode cX3_ceilingFor 44 = .ok (.iload_n 1, 1) := by decide +kernel
theorem dX3_ceilingFor_45 : decode cX3_ceilingFor 45 = .ok (.iload_n 2, 1) := by decide +kernel
theorem dX3_ceilingFor_46 : decode cX3_ceilingFor 46 = .ok (.iconst 0, 1) := by decide +kernel
theorem dX3_ceilingFor_47 : decode cX3_ceilingFor 47 = .ok (.invokevirtual 104, 3) := by decide +kernel
theorem dX3_ceilingFor_50 : decode cX3_ceilingFor 50 = .ok (.iload_n 3, 1) := by decide +kernel
theorem dX3_ceilingFor_51 : decode cX3_ceilingFor 51 = .ok (.if_icmp .ge 7, 3) := by decide +kernel
theorem dX3_ceilingFor_54 : decode cX3_ceilingFor 54 = .ok (.iconst 3, 1) := by decide +kernel
theorem dX3_ceilingFor_55 : decode cX3_ceilingFor 55 = .ok (.goto 4, 3) := by decide +kernel
theorem dX3_ceilingFor_58 : decode cX3_ceilingFor 58 = .ok (.iconst 0, 1) := by decide +kernel
theorem dX3_ceilingFor_59 : decode cX3_ceilingFor 59 = .ok (.invokevirtual 70, 3) := by decide +kernel
theorem dX3_ceilingFor_62 : decode cX3_ceilingFor 62 = .ok (.ifCond .ne 5, 3) := by decide +kernel
theorem dX3_ceilingFor_65 : decode cX3_ceilingFor 65 = .ok (.iconst 0, 1) := by decide +kernel
theorem dX3_ceilingFor_66 : decode cX3_ceilingFor 66 = .ok (.ireturn, 1) := by decide +kernel
theorem dX3_ceilingFor_67 : decode cX3_ceilingFor 67 = .ok (.sipush 1000, 3) := by decide +kernel
theorem dX3_ceilingFor_70 : decode cX3_ceilingFor 70 = .ok (.istore 4, 2) := by decide +kernel
theorem dX3_ceilingFor_72 : decode cX3_ceilingFor 72 = .ok (.aload_n 0, 1) := by decide +kernel
theorem dX3_ceilingFor_73 : decode cX3_ceilingFor 73 = .ok (.iload_n 1, 1) := by decide +kernel
theorem dX3_ceilingFor_74 : decode cX3_ceilingFor 74 = .ok (.iload_n 2, 1) := by decide +kernel
theorem dX3_ceilingFor_75 : decode cX3_ceilingFor 75 = .ok (.iload 4, 2) := by decide +kernel
theorem dX3_ceilingFor_77 : decode cX3_ceilingFor 77 = .ok (.invokevirtual 104, 3) := by decide +kernel
theorem dX3_ceilingFor_80 : decode cX3_ceilingFor 80 = .ok (.iload_n 3, 1) := by decide +kernel
theorem dX3_ceilingFor_81 : decode cX3_ceilingFor 81 = .ok (.if_icmp .ge 9, 3) := by decide +kernel
theorem dX3_ceilingFor_84 : decode cX3_ceilingFor 84 = .ok (.iinc 4 (-1), 3) := by decide +kernel
theorem dX3_ceilingFor_87 : decode cX3_ceilingFor 87 = .ok (.goto (-15), 3) := by decide +kernel
theorem dX3_ceilingFor_90 : decode cX3_ceilingFor 90 = .ok (.iload 4, 2) := by decide +kernel
theorem dX3_ceilingFor_92 : decode cX3_ceilingFor 92 = .ok (.ireturn, 1) := by decide +kernel
set_option maxRecDepth 20000 in
theorem ggX3_ceilingOver_X3_isColumn : GoodIn wsX3_ceilingOver wsX3_isColumn := goodIn_r _ [6, 7, 8, 9, 5, 10, 16, 17, 18, 19, 20, 21, 22, 23, 24, 25, 26, 27, 28, 29, 30, 31, 32, 33] (by decide +kernel) (by decide +kernel)
set_option maxRecDepth 20000 in
theorem gX3_ceilingOver_X3_isColumn : GoodIn wsX3_ceilingOver (wsV RX3 84 RX3 yX3_isColumn wsX3_isColumn) := goodIn_app (goodIn_of _ (by decide +kernel)) ggX3_ceilingOver_X3_isColumn
set_option maxRecDepth 20000 in
theorem ggX3_ceilingOver_X3_isFine : GoodIn wsX3_ceilingOver wsX3_isFine := goodIn_r _ [14, 15, 16, 17, 18, 19, 20, 21, 22, 23, 24, 25, 26, 27, 28, 29, 30, 31, 32, 33] (by decide +kernel) (by decide +kernel)
set_option maxRecDepth 20000 in
theorem gX3_ceilingOver_X3_isFine : GoodIn wsX3_ceilingOver (wsV RX3 70 RX3 yX3_isFine wsX3_isFine) := goodIn_app (goodIn_of _ (by decide +kernel)) ggX3_ceilingOver_X3_isFine
theorem dX3_ceilingOver_0 : decode cX3_ceilingOver 0 = .ok (.aload_n 0, 1) := by decide +kernel
theorem dX3_ceilingOver_1 : decode cX3_ceilingOver 1 = .ok (.aload_n 0, 1) := by decide +kernel
theorem dX3_ceilingOver_2 : decode cX3_ceilingOver 2 = .ok (.iload_n 1, 1) := by decide +kernel
theorem dX3_ceilingOver_3 : decode cX3_ceilingOver 3 = .ok (.invokevirtual 84, 3) := by decide +kernel
theorem dX3_ceilingOver_6 : decode cX3_ceilingOver 6 = .ok (.ifCond .ne 7, 3) := by decide +kernel
theorem dX3_ceilingOver_9 : decode cX3_ceilingOver 9 = .ok (.iconst 1, 1) := by decide +kernel
theorem dX3_ceilingOver_10 : decode cX3_ceilingOver 10 = .ok (.goto 18, 3) := by decide +kernel
theorem dX3_ceilingOver_13 : decode cX3_ceilingOver 13 = .ok (.aload_n 0, 1) := by decide +kernel
theorem dX3_ceilingOver_14 : decode cX3_ceilingOver 14 = .ok (.getfield 13, 3) := by decide +kernel
theorem dX3_ceilingOver_17 : decode cX3_ceilingOver 17 = .ok (.iload_n 1, 1) := by decide +kernel
theorem dX3_ceilingOver_18 : decode cX3_ceilingOver 18 = .ok (.iaload, 1) := by decide +kernel
theorem dX3_ceilingOver_19 : decode cX3_ceilingOver 19 = .ok (.iconst (-1), 1) := by decide +kernel
theorem dX3_ceilingOver_20 : decode cX3_ceilingOver 20 = .ok (.if_icmp .ne 7, 3) := by decide +kernel
theorem dX3_ceilingOver_23 : decode cX3_ceilingOver 23 = .ok (.iconst 2, 1) := by decide +kernel
theorem dX3_ceilingOver_24 : decode cX3_ceilingOver 24 = .ok (.goto 4, 3) := by decide +kernel
theorem dX3_ceilingOver_27 : decode cX3_ceilingOver 27 = .ok (.iconst 0, 1) := by decide +kernel
theorem dX3_ceilingOver_28 : decode cX3_ceilingOver 28 = .ok (.invokevirtual 70, 3) := by decide +kernel
theorem dX3_ceilingOver_31 : decode cX3_ceilingOver 31 = .ok (.ifCond .eq 12, 3) := by decide +kernel
theorem dX3_ceilingOver_34 : decode cX3_ceilingOver 34 = .ok (.aload_n 0, 1) := by decide +kernel
theorem dX3_ceilingOver_35 : decode cX3_ceilingOver 35 = .ok (.getfield 13, 3) := by decide +kernel
theorem dX3_ceilingOver_38 : decode cX3_ceilingOver 38 = .ok (.iload_n 1, 1) := by decide +kernel
theorem dX3_ceilingOver_39 : decode cX3_ceilingOver 39 = .ok (.iaload, 1) := by decide +kernel
theorem dX3_ceilingOver_40 : decode cX3_ceilingOver 40 = .ok (.goto 4, 3) := by decide +kernel
theorem dX3_ceilingOver_43 : decode cX3_ceilingOver 43 = .ok (.iconst 0, 1) := by decide +kernel
theorem dX3_ceilingOver_44 : decode cX3_ceilingOver 44 = .ok (.ireturn, 1) := by decide +kernel
theorem dX3_columns_0 : decode cX3_columns 0 = .ok (.aload_n 0, 1) := by decide +kernel
theorem dX3_columns_1 : decode cX3_columns 1 = .ok (.iconst 0, 1) := by decide +kernel
theorem dX3_columns_2 : decode cX3_columns 2 = .ok (.putfield 41, 3) := by decide +kernel
theorem dX3_columns_5 : decode cX3_columns 5 = .ok (.aload_n 0, 1) := by decide +kernel
theorem dX3_columns_6 : decode cX3_columns 6 = .ok (.getfield 45, 3) := by decide +kernel
theorem dX3_columns_9 : decode cX3_columns 9 = .ok (.ireturn, 1) := by decide +kernel
set_option maxRecDepth 20000 in
theorem ggX3_isEntry_X3_in : GoodIn wsX3_isEntry wsX3_in := goodIn_r _ [5] (by decide +kernel) (by decide +kernel)
set_option maxRecDepth 20000 in
theorem gX3_isEntry_X3_in : GoodIn wsX3_isEntry (va_wsS RX3 48 yX3_in wsX3_in) := goodIn_app (goodIn_of _ (by decide +kernel)) ggX3_isEntry_X3_in
set_option maxRecDepth 20000 in
theorem ggX3_isEntry_X3_isFine : GoodIn wsX3_isEntry wsX3_isFine := goodIn_r _ [9, 10, 11, 12, 13, 14, 15, 16, 17, 18, 19, 20, 21, 22, 23, 24, 25, 26, 27, 28] (by decide +kernel) (by decide +kernel)
set_option maxRecDepth 20000 in
theorem gX3_isEntry_X3_isFine : GoodIn wsX3_isEntry (wsV RX3 70 RX3 yX3_isFine wsX3_isFine) := goodIn_app (goodIn_of _ (by decide +kernel)) ggX3_isEntry_X3_isFine
theorem dX3_isEntry_0 : decode cX3_isEntry 0 = .ok (.aload_n 0, 1) := by decide +kernel
theorem dX3_isEntry_1 : decode cX3_isEntry 1 = .ok (.iload_n 1, 1) := by decide +kernel
theorem dX3_isEntry_2 : decode cX3_isEntry 2 = .ok (.iconst 1, 1) := by decide +kernel
theorem dX3_isEntry_3 : decode cX3_isEntry 3 = .ok (.bipush 127, 2) := by decide +kernel
theorem dX3_isEntry_5 : decode cX3_isEntry 5 = .ok (.invokestatic 48, 3) := by decide +kernel
theorem dX3_isEntry_8 : decode cX3_isEntry 8 = .ok (.ifCond .eq 30, 3) := by decide +kernel
theorem dX3_isEntry_11 : decode cX3_isEntry 11 = .ok (.aload_n 0, 1) := by decide +kernel
theorem dX3_isEntry_12 : decode cX3_isEntry 12 = .ok (.getfield 16, 3) := by decide +kernel
theorem dX3_isEntry_15 : decode cX3_isEntry 15 = .ok (.iload_n 1, 1) := by decide +kernel
theorem dX3_isEntry_16 : decode cX3_isEntry 16 = .ok (.iconst 1, 1) := by decide +kernel
theorem dX3_isEntry_17 : decode cX3_isEntry 17 = .ok (.bipush 127, 2) := by decide +kernel
theorem dX3_isEntry_19 : decode cX3_isEntry 19 = .ok (.invokestatic 48, 3) := by decide +kernel
theorem dX3_isEntry_22 : decode cX3_isEntry 22 = .ok (.ifCond .eq 7, 3) := by decide +kernel
theorem dX3_isEntry_25 : decode cX3_isEntry 25 = .ok (.iload_n 1, 1) := by decide +kernel
theorem dX3_isEntry_26 : decode cX3_isEntry 26 = .ok (.goto 4, 3) := by decide +kernel
theorem dX3_isEntry_29 : decode cX3_isEntry 29 = .ok (.iconst 1, 1) := by decide +kernel
theorem dX3_isEntry_30 : decode cX3_isEntry 30 = .ok (.iaload, 1) := by decide +kernel
theorem dX3_isEntry_31 : decode cX3_isEntry 31 = .ok (.ifCond .lt 7, 3) := by decide +kernel
theorem dX3_isEntry_34 : decode cX3_isEntry 34 = .ok (.iconst 0, 1) := by decide +kernel
theorem dX3_isEntry_35 : decode cX3_isEntry 35 = .ok (.goto 4, 3) := by decide +kernel
theorem dX3_isEntry_38 : decode cX3_isEntry 38 = .ok (.iconst 1, 1) := by decide +kernel
theorem dX3_isEntry_39 : decode cX3_isEntry 39 = .ok (.invokevirtual 70, 3) := by decide +kernel
theorem dX3_isEntry_42 : decode cX3_isEntry 42 = .ok (.ireturn, 1) := by decide +kernel
set_option maxRecDepth 20000 in
theorem ggX3_spanOf_X3_isEntry : GoodIn wsX3_spanOf wsX3_isEntry := goodIn_r _ [7, 1, 8, 9, 6, 10, 11, 12, 13, 14, 15, 16, 17, 18, 19, 20, 21, 22, 23, 24, 25, 26, 27, 28, 29, 30, 31, 32, 33] (by decide +kernel) (by decide +kernel)
set_option maxRecDepth 20000 in
theorem gX3_spanOf_X3_isEntry : GoodIn wsX3_spanOf (wsV RX3 113 RX3 yX3_isEntry wsX3_isEntry) := goodIn_app (goodIn_of _ (by decide +kernel)) ggX3_spanOf_X3_isEntry
theorem dX3_spanOf_0 : decode cX3_spanOf 0 = .ok (.aload_n 0, 1) := by decide +kernel
theorem dX3_spanOf_1 : decode cX3_spanOf 1 = .ok (.iload_n 1, 1) := by decide +kernel
theorem dX3_spanOf_2 : decode cX3_spanOf 2 = .ok (.invokevirtual 113, 3) := by decide +kernel
theorem dX3_spanOf_5 : decode cX3_spanOf 5 = .ok (.ifCond .eq 22, 3) := by decide +kernel
theorem dX3_spanOf_8 : decode cX3_spanOf 8 = .ok (.bipush 100, 2) := by decide +kernel
theorem dX3_spanOf_10 : decode cX3_spanOf 10 = .ok (.aload_n 0, 1) := by decide +kernel
theorem dX3_spanOf_11 : decode cX3_spanOf 11 = .ok (.getfield 16, 3) := by decide +kernel
theorem dX3_spanOf_14 : decode cX3_spanOf 14 = .ok (.iload_n 1, 1) := by decide +kernel
theorem dX3_spanOf_15 : decode cX3_spanOf 15 = .ok (.iaload, 1) := by decide +kernel
theorem dX3_spanOf_16 : decode cX3_spanOf 16 = .ok (.imul, 1) := by decide +kernel
theorem dX3_spanOf_17 : decode cX3_spanOf 17 = .ok (.aload_n 0, 1) := by decide +kernel
theorem dX3_spanOf_18 : decode cX3_spanOf 18 = .ok (.getfield 19, 3) := by decide +kernel
theorem dX3_spanOf_21 : decode cX3_spanOf 21 = .ok (.iload_n 1, 1) := by decide +kernel
theorem dX3_spanOf_22 : decode cX3_spanOf 22 = .ok (.iaload, 1) := by decide +kernel
theorem dX3_spanOf_23 : decode cX3_spanOf 23 = .ok (.iadd, 1) := by decide +kernel
theorem dX3_spanOf_24 : decode cX3_spanOf 24 = .ok (.goto 4, 3) := by decide +kernel
theorem dX3_spanOf_27 : decode cX3_spanOf 27 = .ok (.iconst 0, 1) := by decide +kernel
theorem dX3_spanOf_28 : decode cX3_spanOf 28 = .ok (.ireturn, 1) := by decide +kernel
set_option maxRecDepth 20000 in
theorem ggX3_greatest_X3_isEntry : GoodIn wsX3_greatest wsX3_isEntry := goodIn_r _ [6, 7, 8, 9, 5, 10, 11, 12, 13, 14, 15, 16, 17, 18, 19, 20, 21, 22, 23, 24, 25, 26, 27, 28, 29, 30, 31, 32, 33] (by decide +kernel) (by decide +kernel)
set_option maxRecDepth 20000 in
theorem gX3_greatest_X3_isEntry : GoodIn wsX3_greatest (wsV RX3 113 RX3 yX3_isEntry wsX3_isEntry) := goodIn_app (goodIn_of _ (by decide +kernel)) ggX3_greatest_X3_isEntry
theorem dX3_greatest_0 : decode cX3_greatest 0 = .ok (.aload_n 0, 1) := by decide +kernel
theorem dX3_greatest_1 : decode cX3_greatest 1 = .ok (.iload_n 1, 1) := by decide +kernel
theorem dX3_greatest_2 : decode cX3_greatest 2 = .ok (.invokevirtual 113, 3) := by decide +kernel
theorem dX3_greatest_5 : decode cX3_greatest 5 = .ok (.ifCond .eq 12, 3) := by decide +kernel
theorem dX3_greatest_8 : decode cX3_greatest 8 = .ok (.aload_n 0, 1) := by decide +kernel
theorem dX3_greatest_9 : decode cX3_greatest 9 = .ok (.getfield 22, 3) := by decide +kernel
theorem dX3_greatest_12 : decode cX3_greatest 12 = .ok (.iload_n 1, 1) := by decide +kernel
theorem dX3_greatest_13 : decode cX3_greatest 13 = .ok (.iaload, 1) := by decide +kernel
theorem dX3_greatest_14 : decode cX3_greatest 14 = .ok (.goto 4, 3) := by decide +kernel
theorem dX3_greatest_17 : decode cX3_greatest 17 = .ok (.iconst 0, 1) := by decide +kernel
theorem dX3_greatest_18 : decode cX3_greatest 18 = .ok (.ireturn, 1) := by decide +kernel
set_option maxRecDepth 20000 in
theorem ggX3_second_X3_isEntry : GoodIn wsX3_second wsX3_isEntry := goodIn_r _ [6, 7, 8, 9, 5, 10, 11, 12, 13, 14, 15, 16, 17, 18, 19, 20, 21, 22, 23, 24, 25, 26, 27, 28, 29, 30, 31, 32, 33] (by decide +kernel) (by decide +kernel)
set_option maxRecDepth 20000 in
theorem gX3_second_X3_isEntry : GoodIn wsX3_second (wsV RX3 113 RX3 yX3_isEntry wsX3_isEntry) := goodIn_app (goodIn_of _ (by decide +kernel)) ggX3_second_X3_isEntry
theorem dX3_second_0 : decode cX3_second 0 = .ok (.aload_n 0, 1) := by decide +kernel
theorem dX3_second_1 : decode cX3_second 1 = .ok (.iload_n 1, 1) := by decide +kernel
theorem dX3_second_2 : decode cX3_second 2 = .ok (.invokevirtual 113, 3) := by decide +kernel
theorem dX3_second_5 : decode cX3_second 5 = .ok (.ifCond .eq 12, 3) := by decide +kernel
theorem dX3_second_8 : decode cX3_second 8 = .ok (.aload_n 0, 1) := by decide +kernel
theorem dX3_second_9 : decode cX3_second 9 = .ok (.getfield 25, 3) := by decide +kernel
theorem dX3_second_12 : decode cX3_second 12 = .ok (.iload_n 1, 1) := by decide +kernel
theorem dX3_second_13 : decode cX3_second 13 = .ok (.iaload, 1) := by decide +kernel
theorem dX3_second_14 : decode cX3_second 14 = .ok (.goto 4, 3) := by decide +kernel
theorem dX3_second_17 : decode cX3_second 17 = .ok (.iconst 0, 1) := by decide +kernel
theorem dX3_second_18 : decode cX3_second 18 = .ok (.ireturn, 1) := by decide +kernel
set_option maxRecDepth 20000 in
theorem ggX3_many_X3_isEntry : GoodIn wsX3_many wsX3_isEntry := goodIn_r _ [6, 7, 8, 9, 5, 10, 11, 12, 13, 14, 15, 16, 17, 18, 19, 20, 21, 22, 23, 24, 25, 26, 27, 28, 29, 30, 31, 32, 33] (by decide +kernel) (by decide +kernel)
set_option maxRecDepth 20000 in
theorem gX3_many_X3_isEntry : GoodIn wsX3_many (wsV RX3 113 RX3 yX3_isEntry wsX3_isEntry) := goodIn_app (goodIn_of _ (by decide +kernel)) ggX3_many_X3_isEntry
theorem dX3_many_0 : decode cX3_many 0 = .ok (.aload_n 0, 1) := by decide +kernel
theorem dX3_many_1 : decode cX3_many 1 = .ok (.iload_n 1, 1) := by decide +kernel
theorem dX3_many_2 : decode cX3_many 2 = .ok (.invokevirtual 113, 3) := by decide +kernel
theorem dX3_many_5 : decode cX3_many 5 = .ok (.ifCond .eq 12, 3) := by decide +kernel
theorem dX3_many_8 : decode cX3_many 8 = .ok (.aload_n 0, 1) := by decide +kernel
theorem dX3_many_9 : decode cX3_many 9 = .ok (.getfield 28, 3) := by decide +kernel
theorem dX3_many_12 : decode cX3_many 12 = .ok (.iload_n 1, 1) := by decide +kernel
theorem dX3_many_13 : decode cX3_many 13 = .ok (.iaload, 1) := by decide +kernel
theorem dX3_many_14 : decode cX3_many 14 = .ok (.goto 4, 3) := by decide +kernel
theorem dX3_many_17 : decode cX3_many 17 = .ok (.iconst 0, 1) := by decide +kernel
theorem dX3_many_18 : decode cX3_many 18 = .ok (.ireturn, 1) := by decide +kernel
set_option maxRecDepth 20000 in
theorem ggX3_noted_X3_isEntry : GoodIn wsX3_noted wsX3_isEntry := goodIn_r _ [6, 7, 8, 9, 5, 10, 11, 12, 13, 14, 15, 16, 17, 18, 19, 20, 21, 22, 23, 24, 25, 26, 27, 28, 29, 30, 31, 32, 33] (by decide +kernel) (by decide +kernel)
set_option maxRecDepth 20000 in
theorem gX3_noted_X3_isEntry : GoodIn wsX3_noted (wsV RX3 113 RX3 yX3_isEntry wsX3_isEntry) := goodIn_app (goodIn_of _ (by decide +kernel)) ggX3_noted_X3_isEntry
theorem dX3_noted_0 : decode cX3_noted 0 = .ok (.aload_n 0, 1) := by decide +kernel
theorem dX3_noted_1 : decode cX3_noted 1 = .ok (.iload_n 1, 1) := by decide +kernel
theorem dX3_noted_2 : decode cX3_noted 2 = .ok (.invokevirtual 113, 3) := by decide +kernel
theorem dX3_noted_5 : decode cX3_noted 5 = .ok (.ifCond .eq 12, 3) := by decide +kernel
theorem dX3_noted_8 : decode cX3_noted 8 = .ok (.aload_n 0, 1) := by decide +kernel
theorem dX3_noted_9 : decode cX3_noted 9 = .ok (.getfield 31, 3) := by decide +kernel
theorem dX3_noted_12 : decode cX3_noted 12 = .ok (.iload_n 1, 1) := by decide +kernel
theorem dX3_noted_13 : decode cX3_noted 13 = .ok (.iaload, 1) := by decide +kernel
theorem dX3_noted_14 : decode cX3_noted 14 = .ok (.goto 4, 3) := by decide +kernel
theorem dX3_noted_17 : decode cX3_noted 17 = .ok (.iconst 0, 1) := by decide +kernel
theorem dX3_noted_18 : decode cX3_noted 18 = .ok (.ireturn, 1) := by decide +kernel
theorem dX3_lagging_0 : decode cX3_lagging 0 = .ok (.aload_n 0, 1) := by decide +kernel
theorem dX3_lagging_1 : decode cX3_lagging 1 = .ok (.iconst 0, 1) := by decide +kernel
theorem dX3_lagging_2 : decode cX3_lagging 2 = .ok (.putfield 41, 3) := by decide +kernel
theorem dX3_lagging_5 : decode cX3_lagging 5 = .ok (.iconst 0, 1) := by decide +kernel
theorem dX3_lagging_6 : decode cX3_lagging 6 = .ok (.istore_n 1, 1) := by decide +kernel
theorem dX3_lagging_7 : decode cX3_lagging 7 = .ok (.iconst 2, 1) := by decide +kernel
theorem dX3_lagging_8 : decode cX3_lagging 8 = .ok (.istore_n 2, 1) := by decide +kernel
theorem dX3_lagging_9 : decode cX3_lagging 9 = .ok (.iload_n 2, 1) := by decide +kernel
theorem dX3_lagging_10 : decode cX3_lagging 10 = .ok (.sipush 128, 3) := by decide +kernel
theorem dX3_lagging_13 : decode cX3_lagging 13 = .ok (.if_icmp .ge 43, 3) := by decide +kernel
theorem dX3_lagging_16 : decode cX3_lagging 16 = .ok (.iload_n 1, 1) := by decide +kernel
theorem dX3_lagging_17 : decode cX3_lagging 17 = .ok (.aload_n 0, 1) := by decide +kernel
theorem dX3_lagging_18 : decode cX3_lagging 18 = .ok (.getfield 16, 3) := by decide +kernel
theorem dX3_lagging_21 : decode cX3_lagging 21 = .ok (.iload_n 2, 1) := by decide +kernel
theorem dX3_lagging_22 : decode cX3_lagging 22 = .ok (.iaload, 1) := by decide +kernel
theorem dX3_lagging_23 : decode cX3_lagging 23 = .ok (.ifCond .lt 24, 3) := by decide +kernel
theorem dX3_lagging_26 : decode cX3_lagging 26 = .ok (.aload_n 0, 1) := by decide +kernel
theorem dX3_lagging_27 : decode cX3_lagging 27 = .ok (.getfield 22, 3) := by decide +kernel
theorem dX3_lagging_30 : decode cX3_lagging 30 = .ok (.iload_n 2, 1) := by decide +kernel
theorem dX3_lagging_31 : decode cX3_lagging 31 = .ok (.iaload, 1) := by decide +kernel
theorem dX3_lagging_32 : decode cX3_lagging 32 = .ok (.aload_n 0, 1) := by decide +kernel
theorem dX3_lagging_33 : decode cX3_lagging 33 = .ok (.getfield 22, 3) := by decide +kernel
theorem dX3_lagging_36 : decode cX3_lagging 36 = .ok (.iload_n 2, 1) := by decide +kernel
theorem dX3_lagging_37 : decode cX3_lagging 37 = .ok (.iconst 2, 1) := by decide +kernel
theorem dX3_lagging_38 : decode cX3_lagging 38 = .ok (.idiv, 1) := by decide +kernel
theorem dX3_lagging_39 : decode cX3_lagging 39 = .ok (.iaload, 1) := by decide +kernel
theorem dX3_lagging_40 : decode cX3_lagging 40 = .ok (.if_icmp .le 7, 3) := by decide +kernel
theorem dX3_lagging_43 : decode cX3_lagging 43 = .ok (.iconst 1, 1) := by decide +kernel
theorem dX3_lagging_44 : decode cX3_lagging 44 = .ok (.goto 4, 3) := by decide +kernel
theorem dX3_lagging_47 : decode cX3_lagging 47 = .ok (.iconst 0, 1) := by decide +kernel
theorem dX3_lagging_48 : decode cX3_lagging 48 = .ok (.iadd, 1) := by decide +kernel
theorem dX3_lagging_49 : decode cX3_lagging 49 = .ok (.istore_n 1, 1) := by decide +kernel
theorem dX3_lagging_50 : decode cX3_lagging 50 = .ok (.iinc 2 1, 3) := by decide +kernel
theorem dX3_lagging_53 : decode cX3_lagging 53 = .ok (.goto (-44), 3) := by decide +kernel
theorem dX3_lagging_56 : decode cX3_lagging 56 = .ok (.iload_n 1, 1) := by decide +kernel
theorem dX3_lagging_57 : decode cX3_lagging 57 = .ok (.ireturn, 1) := by decide +kernel
theorem dX3_visits_0 : decode cX3_visits 0 = .ok (.aload_n 0, 1) := by decide +kernel
theorem dX3_visits_1 : decode cX3_visits 1 = .ok (.iconst 0, 1) := by decide +kernel
theorem dX3_visits_2 : decode cX3_visits 2 = .ok (.putfield 41, 3) := by decide +kernel
theorem dX3_visits_5 : decode cX3_visits 5 = .ok (.aload_n 0, 1) := by decide +kernel
theorem dX3_visits_6 : decode cX3_visits 6 = .ok (.getfield 52, 3) := by decide +kernel
theorem dX3_visits_9 : decode cX3_visits 9 = .ok (.ireturn, 1) := by decide +kernel
theorem dX3_allVisits_0 : decode cX3_allVisits 0 = .ok (.aload_n 0, 1) := by decide +kernel
theorem dX3_allVisits_1 : decode cX3_allVisits 1 = .ok (.iconst 0, 1) := by decide +kernel
theorem dX3_allVisits_2 : decode cX3_allVisits 2 = .ok (.putfield 41, 3) := by decide +kernel
theorem dX3_allVisits_5 : decode cX3_allVisits 5 = .ok (.aload_n 0, 1) := by decide +kernel
theorem dX3_allVisits_6 : decode cX3_allVisits 6 = .ok (.getfield 55, 3) := by decide +kernel
theorem dX3_allVisits_9 : decode cX3_allVisits 9 = .ok (.ireturn, 1) := by decide +kernel
theorem dX3_pressedAway_0 : decode cX3_pressedAway 0 = .ok (.aload_n 0, 1) := by decide +kernel
theorem dX3_pressedAway_1 : decode cX3_pressedAway 1 = .ok (.iconst 0, 1) := by decide +kernel
theorem dX3_pressedAway_2 : decode cX3_pressedAway 2 = .ok (.putfield 41, 3) := by decide +kernel
theorem dX3_pressedAway_5 : decode cX3_pressedAway 5 = .ok (.aload_n 0, 1) := by decide +kernel
theorem dX3_pressedAway_6 : decode cX3_pressedAway 6 = .ok (.getfield 67, 3) := by decide +kernel
theorem dX3_pressedAway_9 : decode cX3_pressedAway 9 = .ok (.ireturn, 1) := by decide +kernel
set_option maxRecDepth 20000 in
theorem ggX3_pressedAwayByRest_X3_presses : GoodIn wsX3_pressedAwayByRest wsX3_presses := goodIn_r _ [9, 10, 11, 12, 13, 14, 15, 16, 17, 18, 19, 20, 21, 22, 23, 24, 25, 26, 27, 28] (by decide +kernel) (by decide +kernel)
set_option maxRecDepth 20000 in
theorem gX3_pressedAwayByRest_X3_presses : GoodIn wsX3_pressedAwayByRest (wsV RX3 104 RX3 yX3_presses wsX3_presses) := goodIn_app (goodIn_of _ (by decide +kernel)) ggX3_pressedAwayByRest_X3_presses
theorem dX3_pressedAwayByRest_0 : decode cX3_pressedAwayByRest 0 = .ok (.aload_n 0, 1) := by decide +kernel
theorem dX3_pressedAwayByRest_1 : decode cX3_pressedAwayByRest 1 = .ok (.iconst 0, 1) := by decide +kernel
theorem dX3_pressedAwayByRest_2 : decode cX3_pressedAwayByRest 2 = .ok (.putfield 41, 3) := by decide +kernel
theorem dX3_pressedAwayByRest_5 : decode cX3_pressedAwayByRest 5 = .ok (.aload_n 0, 1) := by decide +kernel
theorem dX3_pressedAwayByRest_6 : decode cX3_pressedAwayByRest 6 = .ok (.getfield 61, 3) := by decide +kernel
theorem dX3_pressedAwayByRest_9 : decode cX3_pressedAwayByRest 9 = .ok (.aload_n 0, 1) := by decide +kernel
theorem dX3_pressedAwayByRest_10 : decode cX3_pressedAwayByRest 10 = .ok (.getfield 64, 3) := by decide +kernel
theorem dX3_pressedAwayByRest_13 : decode cX3_pressedAwayByRest 13 = .ok (.iadd, 1) := by decide +kernel
theorem dX3_pressedAwayByRest_14 : decode cX3_pressedAwayByRest 14 = .ok (.aload_n 0, 1) := by decide +kernel
theorem dX3_pressedAwayByRest_15 : decode cX3_pressedAwayByRest 15 = .ok (.iconst 0, 1) := by decide +kernel
theorem dX3_pressedAwayByRest_16 : decode cX3_pressedAwayByRest 16 = .ok (.aload_n 0, 1) := by decide +kernel
theorem dX3_pressedAwayByRest_17 : decode cX3_pressedAwayByRest 17 = .ok (.getfield 45, 3) := by decide +kernel
theorem dX3_pressedAwayByRest_20 : decode cX3_pressedAwayByRest 20 = .ok (.iconst 1, 1) := by decide +kernel
theorem dX3_pressedAwayByRest_21 : decode cX3_pressedAwayByRest 21 = .ok (.isub, 1) := by decide +kernel
theorem dX3_pressedAwayByRest_22 : decode cX3_pressedAwayByRest 22 = .ok (.iconst 0, 1) := by decide +kernel
theorem dX3_pressedAwayByRest_23 : decode cX3_pressedAwayByRest 23 = .ok (.invokevirtual 104, 3) := by decide +kernel
theorem dX3_pressedAwayByRest_26 : decode cX3_pressedAwayByRest 26 = .ok (.isub, 1) := by decide +kernel
theorem dX3_pressedAwayByRest_27 : decode cX3_pressedAwayByRest 27 = .ok (.ireturn, 1) := by decide +kernel
theorem dX3_meanVisits_0 : decode cX3_meanVisits 0 = .ok (.aload_n 0, 1) := by decide +kernel
theorem dX3_meanVisits_1 : decode cX3_meanVisits 1 = .ok (.iconst 0, 1) := by decide +kernel
theorem dX3_meanVisits_2 : decode cX3_meanVisits 2 = .ok (.putfield 41, 3) := by decide +kernel
theorem dX3_meanVisits_5 : decode cX3_meanVisits 5 = .ok (.aload_n 0, 1) := by decide +kernel
theorem dX3_meanVisits_6 : decode cX3_meanVisits 6 = .ok (.getfield 58, 3) := by decide +kernel
theorem dX3_meanVisits_9 : decode cX3_meanVisits 9 = .ok (.ifCond .ne 7, 3) := by decide +kernel
theorem dX3_meanVisits_12 : decode cX3_meanVisits 12 = .ok (.dconst 0, 1) := by decide +kernel
theorem dX3_meanVisits_13 : decode cX3_meanVisits 13 = .ok (.goto 14, 3) := by decide +kernel
theorem dX3_meanVisits_16 : decode cX3_meanVisits 16 = .ok (.aload_n 0, 1) := by decide +kernel
theorem dX3_meanVisits_17 : decode cX3_meanVisits 17 = .ok (.getfield 55, 3) := by decide +kernel
theorem dX3_meanVisits_20 : decode cX3_meanVisits 20 = .ok (.i2d, 1) := by decide +kernel
theorem dX3_meanVisits_21 : decode cX3_meanVisits 21 = .ok (.aload_n 0, 1) := by decide +kernel
theorem dX3_meanVisits_22 : decode cX3_meanVisits 22 = .ok (.getfield 58, 3) := by decide +kernel
theorem dX3_meanVisits_25 : decode cX3_meanVisits 25 = .ok (.i2d, 1) := by decide +kernel
theorem dX3_meanVisits_26 : decode cX3_meanVisits 26 = .ok (.ddiv, 1) := by decide +kernel
theorem dX3_meanVisits_27 : decode cX3_meanVisits 27 = .ok (.dreturn, 1) := by decide +kernel
theorem dJ9_max_7cf53_0 : decode cJ9_max_7cf53 0 = .ok (.iload_n 0, 1) := by decide +kernel
theorem dJ9_max_7cf53_1 : decode cJ9_max_7cf53 1 = .ok (.iload_n 1, 1) := by decide +kernel
theorem dJ9_max_7cf53_2 : decode cJ9_max_7cf53 2 = .ok (.if_icmp .lt 7, 3) := by decide +kernel
theorem dJ9_max_7cf53_5 : decode cJ9_max_7cf53 5 = .ok (.iload_n 0, 1) := by decide +kernel
theorem dJ9_max_7cf53_6 : decode cJ9_max_7cf53 6 = .ok (.goto 4, 3) := by decide +kernel
theorem dJ9_max_7cf53_9 : decode cJ9_max_7cf53 9 = .ok (.iload_n 1, 1) := by decide +kernel
theorem dJ9_max_7cf53_10 : decode cJ9_max_7cf53 10 = .ok (.ireturn, 1) := by decide +kernel
theorem dJ9_min_7cf53_0 : decode cJ9_min_7cf53 0 = .ok (.iload_n 0, 1) := by decide +kernel
theorem dJ9_min_7cf53_1 : decode cJ9_min_7cf53 1 = .ok (.iload_n 1, 1) := by decide +kernel
theorem dJ9_min_7cf53_2 : decode cJ9_min_7cf53 2 = .ok (.if_icmp .gt 7, 3) := by decide +kernel
theorem dJ9_min_7cf53_5 : decode cJ9_min_7cf53 5 = .ok (.iload_n 0, 1) := by decide +kernel
theorem dJ9_min_7cf53_6 : decode cJ9_min_7cf53 6 = .ok (.goto 4, 3) := by decide +kernel
theorem dJ9_min_7cf53_9 : decode cJ9_min_7cf53 9 = .ok (.iload_n 1, 1) := by decide +kernel
theorem dJ9_min_7cf53_10 : decode cJ9_min_7cf53 10 = .ok (.ireturn, 1) := by decide +kernel
end
section
set_option maxRecDepth 20000 in
theorem ggL_layOut_X2_layOut : GoodIn wsL_layOut wsX2_layOut := goodIn_ca (goodIn_r _ [6, 7, 8, 9, 10, 11, 5, 12, 13, 14, 15, 16, 17, 18, 19, 20, 21, 22, 23, 24, 25, 26, 27, 28, 29, 30, 31, 32, 33, 34, 35, 36, 37, 38, 39, 40, 41, 42, 43, 44, 45, 46, 47, 48, 49, 50, 51, 52, 53, 54, 55, 56, 57, 58, 59, 60, 61, 62, 63, 64, 65] (by decide +kernel) (by decide +kernel)) (goodIn_sub (fun _ h => List.mem_cons_of_mem _ (List.mem_append_right _ h)) (by decide +kernel))
set_option maxRecDepth 20000 in
theorem gL_layOut_X2_layOut : GoodIn wsL_layOut (wsV RL 7 RX2 yX2_layOut wsX2_layOut) := goodIn_app (goodIn_of _ (by decide +kernel)) ggL_layOut_X2_layOut
theorem dL_layOut_0 : decode cL_layOut 0 = .ok (.aload_n 3, 1) := by decide +kernel
theorem dL_layOut_1 : decode cL_layOut 1 = .ok (.iconst 0, 1) := by decide +kernel
theorem dL_layOut_2 : decode cL_layOut 2 = .ok (.aload_n 0, 1) := by decide +kernel
theorem dL_layOut_3 : decode cL_layOut 3 = .ok (.iload_n 1, 1) := by decide +kernel
theorem dL_layOut_4 : decode cL_layOut 4 = .ok (.iload_n 2, 1) := by decide +kernel
theorem dL_layOut_5 : decode cL_layOut 5 = .ok (.invokevirtual 7, 3) := by decide +kernel
theorem dL_layOut_8 : decode cL_layOut 8 = .ok (.i2l, 1) := by decide +kernel
theorem dL_layOut_9 : decode cL_layOut 9 = .ok (.lastore, 1) := by decide +kernel
theorem dL_layOut_10 : decode cL_layOut 10 = .ok (.goto 7, 3) := by decide +kernel
theorem dL_layOut_13 : decode cL_layOut 13 = .ok (.astore 4, 2) := by decide +kernel
theorem dL_layOut_15 : decode cL_layOut 15 = .ok (.iconst 1, 1) := by decide +kernel
theorem dL_layOut_16 : decode cL_layOut 16 = .ok (.ireturn, 1) := by decide +kernel
theorem dL_layOut_17 : decode cL_layOut 17 = .ok (.iconst 0, 1) := by decide +kernel
theorem dL_layOut_18 : decode cL_layOut 18 = .ok (.ireturn, 1) := by decide +kernel
set_option maxRecDepth 20000 in
theorem ggL_pile_X2_pile : GoodIn wsL_pile wsX2_pile := goodIn_ca (goodIn_ca (goodIn_ca (goodIn_r _ [8, 9, 10, 11, 12, 13, 14, 15, 7, 16, 17, 18, 19, 20, 21, 22, 23, 24, 25, 26, 27, 28, 29, 30, 31, 32, 33, 34, 35, 36, 37, 38, 39, 40, 41, 42, 43, 44, 45, 46, 47, 48, 49, 50, 51, 52, 53, 54, 55, 56, 57, 58, 59, 60, 61, 62, 63, 64, 65, 66, 67, 68, 69, 70, 71, 72, 73, 74, 75, 76, 77, 78, 79, 80, 81, 82, 83, 84, 85, 86, 87, 88, 89, 90, 91, 92, 93, 94, 95, 96, 97, 98, 99, 100, 101, 102, 103, 104, 105, 106, 107, 108, 109] (by decide +kernel) (by decide +kernel)) (goodIn_sub (fun _ h => List.mem_cons_of_mem _ (List.mem_append_left _ (List.mem_append_left _ (List.mem_append_right _ h)))) (by decide +kernel))) (goodIn_sub (fun _ h => List.mem_cons_of_mem _ (List.mem_append_left _ (List.mem_append_right _ h))) (by decide +kernel))) (goodIn_sub (fun _ h => List.mem_cons_of_mem _ (List.mem_append_right _ h)) (by decide +kernel))
set_option maxRecDepth 20000 in
theorem gL_pile_X2_pile : GoodIn wsL_pile (wsV RL 15 RX2 yX2_pile wsX2_pile) := goodIn_app (goodIn_of _ (by decide +kernel)) ggL_pile_X2_pile
theorem dL_pile_0 : decode cL_pile 0 = .ok (.aload_n 3, 1) := by decide +kernel
theorem dL_pile_1 : decode cL_pile 1 = .ok (.iconst 0, 1) := by decide +kernel
theorem dL_pile_2 : decode cL_pile 2 = .ok (.aload_n 0, 1) := by decide +kernel
theorem dL_pile_3 : decode cL_pile 3 = .ok (.iload_n 1, 1) := by decide +kernel
theorem dL_pile_4 : decode cL_pile 4 = .ok (.iload_n 2, 1) := by decide +kernel
theorem dL_pile_5 : decode cL_pile 5 = .ok (.invokevirtual 15, 3) := by decide +kernel
theorem dL_pile_8 : decode cL_pile 8 = .ok (.i2l, 1) := by decide +kernel
theorem dL_pile_9 : decode cL_pile 9 = .ok (.lastore, 1) := by decide +kernel
theorem dL_pile_10 : decode cL_pile 10 = .ok (.goto 15, 3) := by decide +kernel
theorem dL_pile_13 : decode cL_pile 13 = .ok (.astore 4, 2) := by decide +kernel
theorem dL_pile_15 : decode cL_pile 15 = .ok (.iconst 1, 1) := by decide +kernel
theorem dL_pile_16 : decode cL_pile 16 = .ok (.ireturn, 1) := by decide +kernel
theorem dL_pile_17 : decode cL_pile 17 = .ok (.astore 4, 2) := by decide +kernel
theorem dL_pile_19 : decode cL_pile 19 = .ok (.iconst 2, 1) := by decide +kernel
theorem dL_pile_20 : decode cL_pile 20 = .ok (.ireturn, 1) := by decide +kernel
theorem dL_pile_21 : decode cL_pile 21 = .ok (.astore 4, 2) := by decide +kernel
theorem dL_pile_23 : decode cL_pile 23 = .ok (.iconst 3, 1) := by decide +kernel
theorem dL_pile_24 : decode cL_pile 24 = .ok (.ireturn, 1) := by decide +kernel
theorem dL_pile_25 : decode cL_pile 25 = .ok (.iconst 0, 1) := by decide +kernel
theorem dL_pile_26 : decode cL_pile 26 = .ok (.ireturn, 1) := by decide +kernel
set_option maxRecDepth 20000 in
theorem ggL_lower_X2_lower : GoodIn wsL_lower wsX2_lower := goodIn_ca (goodIn_ca (goodIn_r _ [7, 8, 9, 10, 11, 12, 13, 6, 14, 15, 16, 17, 18, 19, 20, 21, 22, 23, 24, 25, 26, 27, 28, 29, 30, 31, 32, 33, 34, 35, 36, 37, 38, 39, 40, 41, 42, 43, 44, 45, 46, 47, 48, 49, 50, 51, 52, 53, 54, 55, 56, 57, 58, 59, 60, 61, 62, 63, 64, 65, 66, 67, 68, 69, 70, 71, 72, 73, 74, 75, 76, 77, 78, 79, 80, 81, 82, 83, 84, 85, 86, 87, 88, 89, 90, 91, 92, 93, 94, 95, 96, 97, 98, 99, 100, 101, 102, 103, 104, 105, 106, 107, 108, 109, 110, 111, 112, 113, 114, 115, 116, 117, 118, 119, 120, 121] (by decide +kernel) (by decide +kernel)) (goodIn_sub (fun _ h => List.mem_cons_of_mem _ (List.mem_append_left _ (List.mem_append_right _ h))) (by decide +kernel))) (goodIn_sub (fun _ h => List.mem_cons_of_mem _ (List.mem_append_right _ h)) (by decide +kernel))
set_option maxRecDepth 20000 in
theorem gL_lower_X2_lower : GoodIn wsL_lower (wsV RL 22 RX2 yX2_lower wsX2_lower) := goodIn_app (goodIn_of _ (by decide +kernel)) ggL_lower_X2_lower
theorem dL_lower_0 : decode cL_lower 0 = .ok (.aload 4, 2) := by decide +kernel
theorem dL_lower_2 : decode cL_lower 2 = .ok (.iconst 0, 1) := by decide +kernel
theorem dL_lower_3 : decode cL_lower 3 = .ok (.aload_n 0, 1) := by decide +kernel
theorem dL_lower_4 : decode cL_lower 4 = .ok (.iload_n 1, 1) := by decide +kernel
theorem dL_lower_5 : decode cL_lower 5 = .ok (.iload_n 2, 1) := by decide +kernel
theorem dL_lower_6 : decode cL_lower 6 = .ok (.iload_n 3, 1) := by decide +kernel
theorem dL_lower_7 : decode cL_lower 7 = .ok (.invokevirtual 22, 3) := by decide +kernel
theorem dL_lower_10 : decode cL_lower 10 = .ok (.i2l, 1) := by decide +kernel
theorem dL_lower_11 : decode cL_lower 11 = .ok (.lastore, 1) := by decide +kernel
theorem dL_lower_12 : decode cL_lower 12 = .ok (.goto 11, 3) := by decide +kernel
theorem dL_lower_15 : decode cL_lower 15 = .ok (.astore 5, 2) := by decide +kernel
theorem dL_lower_17 : decode cL_lower 17 = .ok (.iconst 1, 1) := by decide +kernel
theorem dL_lower_18 : decode cL_lower 18 = .ok (.ireturn, 1) := by decide +kernel
theorem dL_lower_19 : decode cL_lower 19 = .ok (.astore 5, 2) := by decide +kernel
theorem dL_lower_21 : decode cL_lower 21 = .ok (.iconst 2, 1) := by decide +kernel
theorem dL_lower_22 : decode cL_lower 22 = .ok (.ireturn, 1) := by decide +kernel
theorem dL_lower_23 : decode cL_lower 23 = .ok (.iconst 0, 1) := by decide +kernel
theorem dL_lower_24 : decode cL_lower 24 = .ok (.ireturn, 1) := by decide +kernel
set_option maxRecDepth 20000 in
theorem ggL_earth_X2_earth : GoodIn wsL_earth wsX2_earth := goodIn_ca (goodIn_ca (goodIn_r _ [7, 8, 9, 10, 11, 6, 12, 13, 14, 15, 16, 17, 18, 19, 20, 21, 22, 23, 24, 25, 26, 27, 28, 29, 30, 31, 32, 33, 34, 35, 36, 37, 38, 39, 40, 41, 42, 43, 44, 45, 46, 47, 48, 49, 50, 51, 52, 53, 54, 55, 56, 57, 58, 59, 60, 61, 62, 63, 64, 65, 66, 67, 68, 69, 70, 71, 72, 73, 74, 75, 76, 77, 78, 79, 80, 81, 82, 83, 84, 85, 86, 87, 88, 89, 90] (by decide +kernel) (by decide +kernel)) (goodIn_sub (fun _ h => List.mem_cons_of_mem _ (List.mem_append_left _ (List.mem_append_right _ h))) (by decide +kernel))) (goodIn_sub (fun _ h => List.mem_cons_of_mem _ (List.mem_append_right _ h)) (by decide +kernel))
set_option maxRecDepth 20000 in
theorem gL_earth_X2_earth : GoodIn wsL_earth (wsV RL 26 RX2 yX2_earth wsX2_earth) := goodIn_app (goodIn_of _ (by decide +kernel)) ggL_earth_X2_earth
theorem dL_earth_0 : decode cL_earth 0 = .ok (.aload_n 3, 1) := by decide +kernel
theorem dL_earth_1 : decode cL_earth 1 = .ok (.iconst 0, 1) := by decide +kernel
theorem dL_earth_2 : decode cL_earth 2 = .ok (.aload_n 0, 1) := by decide +kernel
theorem dL_earth_3 : decode cL_earth 3 = .ok (.iload_n 1, 1) := by decide +kernel
theorem dL_earth_4 : decode cL_earth 4 = .ok (.iload_n 2, 1) := by decide +kernel
theorem dL_earth_5 : decode cL_earth 5 = .ok (.invokevirtual 26, 3) := by decide +kernel
theorem dL_earth_8 : decode cL_earth 8 = .ok (.i2l, 1) := by decide +kernel
theorem dL_earth_9 : decode cL_earth 9 = .ok (.lastore, 1) := by decide +kernel
theorem dL_earth_10 : decode cL_earth 10 = .ok (.goto 11, 3) := by decide +kernel
theorem dL_earth_13 : decode cL_earth 13 = .ok (.astore 4, 2) := by decide +kernel
theorem dL_earth_15 : decode cL_earth 15 = .ok (.iconst 1, 1) := by decide +kernel
theorem dL_earth_16 : decode cL_earth 16 = .ok (.ireturn, 1) := by decide +kernel
theorem dL_earth_17 : decode cL_earth 17 = .ok (.astore 4, 2) := by decide +kernel
theorem dL_earth_19 : decode cL_earth 19 = .ok (.iconst 2, 1) := by decide +kernel
theorem dL_earth_20 : decode cL_earth 20 = .ok (.ireturn, 1) := by decide +kernel
theorem dL_earth_21 : decode cL_earth 21 = .ok (.iconst 0, 1) := by decide +kernel
theorem dL_earth_22 : decode cL_earth 22 = .ok (.ireturn, 1) := by decide +kernel
set_option maxRecDepth 20000 in
theorem ggL_earthByColumns_X2_earthByColumns : GoodIn wsL_earthByColumns wsX2_earthByColumns := goodIn_ca (goodIn_ca (goodIn_r _ [7, 8, 9, 10, 11, 6, 12, 13, 14, 15, 16, 17, 18, 19, 20, 21, 22, 23, 24, 25, 26, 27, 28, 29, 30, 31, 32, 33, 34, 35, 36, 37] (by decide +kernel) (by decide +kernel)) (goodIn_sub (fun _ h => List.mem_cons_of_mem _ (List.mem_append_left _ (List.mem_append_right _ h))) (by decide +kernel))) (goodIn_sub (fun _ h => List.mem_cons_of_mem _ (List.mem_append_right _ h)) (by decide +kernel))
set_option maxRecDepth 20000 in
theorem gL_earthByColumns_X2_earthByColumns : GoodIn wsL_earthByColumns (wsV RL 29 RX2 yX2_earthByColumns wsX2_earthByColumns) := goodIn_app (goodIn_of _ (by decide +kernel)) ggL_earthByColumns_X2_earthByColumns
theorem dL_earthByColumns_0 : decode cL_earthByColumns 0 = .ok (.aload_n 3, 1) := by decide +kernel
theorem dL_earthByColumns_1 : decode cL_earthByColumns 1 = .ok (.iconst 0, 1) := by decide +kernel
theorem dL_earthByColumns_2 : decode cL_earthByColumns 2 = .ok (.aload_n 0, 1) := by decide +kernel
theorem dL_earthByColumns_3 : decode cL_earthByColumns 3 = .ok (.iload_n 1, 1) := by decide +kernel
theorem dL_earthByColumns_4 : decode cL_earthByColumns 4 = .ok (.iload_n 2, 1) := by decide +kernel
theorem dL_earthByColumns_5 : decode cL_earthByColumns 5 = .ok (.invokevirtual 29, 3) := by decide +kernel
theorem dL_earthByColumns_8 : decode cL_earthByColumns 8 = .ok (.i2l, 1) := by decide +kernel
theorem dL_earthByColumns_9 : decode cL_earthByColumns 9 = .ok (.lastore, 1) := by decide +kernel
theorem dL_earthByColumns_10 : decode cL_earthByColumns 10 = .ok (.goto 11, 3) := by decide +kernel
theorem dL_earthByColumns_13 : decode cL_earthByColumns 13 = .ok (.astore 4, 2) := by decide +kernel
theorem dL_earthByColumns_15 : decode cL_earthByColumns 15 = .ok (.iconst 1, 1) := by decide +kernel
theorem dL_earthByColumns_16 : decode cL_earthByColumns 16 = .ok (.ireturn, 1) := by decide +kernel
theorem dL_earthByColumns_17 : decode cL_earthByColumns 17 = .ok (.astore 4, 2) := by decide +kernel
theorem dL_earthByColumns_19 : decode cL_earthByColumns 19 = .ok (.iconst 2, 1) := by decide +kernel
theorem dL_earthByColumns_20 : decode cL_earthByColumns 20 = .ok (.ireturn, 1) := by decide +kernel
theorem dL_earthByColumns_21 : decode cL_earthByColumns 21 = .ok (.iconst 0, 1) := by decide +kernel
theorem dL_earthByColumns_22 : decode cL_earthByColumns 22 = .ok (.ireturn, 1) := by decide +kernel
set_option maxRecDepth 20000 in
theorem ggL_top_X2_top : GoodIn wsL_top wsX2_top := goodIn_ca (goodIn_ca (goodIn_r _ [7, 8, 9, 10, 11, 6, 12, 13, 14, 15, 16, 17, 18, 19, 20, 21, 22, 23, 24, 25, 26, 27, 28, 29, 30, 31, 32, 33, 34, 35, 36, 37, 38, 39, 40, 41, 42, 43, 44, 45, 46, 47, 48, 49, 50, 51, 52, 53, 54, 55, 56, 57, 58, 59, 60, 61, 62, 63, 64, 65, 66, 67, 68, 69, 70, 71, 72, 73, 74, 75, 76, 77, 78, 79, 80, 81, 82, 83, 84, 85, 86, 87, 88, 89, 90, 91, 92, 93, 94] (by decide +kernel) (by decide +kernel)) (goodIn_sub (fun _ h => List.mem_cons_of_mem _ (List.mem_append_left _ (List.mem_append_right _ h))) (by decide +kernel))) (goodIn_sub (fun _ h => List.mem_cons_of_mem _ (List.mem_append_right _ h)) (by decide +kernel))
set_option maxRecDepth 20000 in
theorem gL_top_X2_top : GoodIn wsL_top (wsV RL 32 RX2 yX2_top wsX2_top) := goodIn_app (goodIn_of _ (by decide +kernel)) ggL_top_X2_top
theorem dL_top_0 : decode cL_top 0 = .ok (.aload_n 3, 1) := by decide +kernel
theorem dL_top_1 : decode cL_top 1 = .ok (.iconst 0, 1) := by decide +kernel
theorem dL_top_2 : decode cL_top 2 = .ok (.aload_n 0, 1) := by decide +kernel
theorem dL_top_3 : decode cL_top 3 = .ok (.iload_n 1, 1) := by decide +kernel
theorem dL_top_4 : decode cL_top 4 = .ok (.iload_n 2, 1) := by decide +kernel
theorem dL_top_5 : decode cL_top 5 = .ok (.invokevirtual 32, 3) := by decide +kernel
theorem dL_top_8 : decode cL_top 8 = .ok (.i2l, 1) := by decide +kernel
theorem dL_top_9 : decode cL_top 9 = .ok (.lastore, 1) := by decide +kernel
theorem dL_top_10 : decode cL_top 10 = .ok (.goto 11, 3) := by decide +kernel
theorem dL_top_13 : decode cL_top 13 = .ok (.astore 4, 2) := by decide +kernel
theorem dL_top_15 : decode cL_top 15 = .ok (.iconst 1, 1) := by decide +kernel
theorem dL_top_16 : decode cL_top 16 = .ok (.ireturn, 1) := by decide +kernel
theorem dL_top_17 : decode cL_top 17 = .ok (.astore 4, 2) := by decide +kernel
theorem dL_top_19 : decode cL_top 19 = .ok (.iconst 2, 1) := by decide +kernel
theorem dL_top_20 : decode cL_top 20 = .ok (.ireturn, 1) := by decide +kernel
theorem dL_top_21 : decode cL_top 21 = .ok (.iconst 0, 1) := by decide +kernel
theorem dL_top_22 : decode cL_top 22 = .ok (.ireturn, 1) := by decide +kernel
set_option maxRecDepth 20000 in
theorem ggL_height_X2_height : GoodIn wsL_height wsX2_height := goodIn_ca (goodIn_r _ [6, 7, 8, 9, 10, 5, 11, 12, 13, 14, 15, 16, 17, 18, 19, 20, 21, 22, 23, 24, 25, 26, 27, 28, 29, 30, 31, 32, 33, 34, 35, 36, 37, 38, 39, 40, 41, 42, 43, 44, 45, 46, 47, 48, 49, 50] (by decide +kernel) (by decide +kernel)) (goodIn_sub (fun _ h => List.mem_cons_of_mem _ (List.mem_append_right _ h)) (by decide +kernel))
set_option maxRecDepth 20000 in
theorem gL_height_X2_height : GoodIn wsL_height (wsV RL 35 RX2 yX2_height wsX2_height) := goodIn_app (goodIn_of _ (by decide +kernel)) ggL_height_X2_height
theorem dL_height_0 : decode cL_height 0 = .ok (.aload_n 2, 1) := by decide +kernel
theorem dL_height_1 : decode cL_height 1 = .ok (.iconst 0, 1) := by decide +kernel
theorem dL_height_2 : decode cL_height 2 = .ok (.aload_n 0, 1) := by decide +kernel
theorem dL_height_3 : decode cL_height 3 = .ok (.iload_n 1, 1) := by decide +kernel
theorem dL_height_4 : decode cL_height 4 = .ok (.invokevirtual 35, 3) := by decide +kernel
theorem dL_height_7 : decode cL_height 7 = .ok (.i2l, 1) := by decide +kernel
theorem dL_height_8 : decode cL_height 8 = .ok (.lastore, 1) := by decide +kernel
theorem dL_height_9 : decode cL_height 9 = .ok (.goto 6, 3) := by decide +kernel
theorem dL_height_12 : decode cL_height 12 = .ok (.astore_n 3, 1) := by decide +kernel
theorem dL_height_13 : decode cL_height 13 = .ok (.iconst 1, 1) := by decide +kernel
theorem dL_height_14 : decode cL_height 14 = .ok (.ireturn, 1) := by decide +kernel
theorem dL_height_15 : decode cL_height 15 = .ok (.iconst 0, 1) := by decide +kernel
theorem dL_height_16 : decode cL_height 16 = .ok (.ireturn, 1) := by decide +kernel
set_option maxRecDepth 20000 in
theorem ggL_heightOfColumn_X2_heightOfColumn : GoodIn wsL_heightOfColumn wsX2_heightOfColumn := goodIn_ca (goodIn_r _ [6, 7, 8, 9, 10, 5, 11, 12, 13, 14, 15, 16, 17, 18, 19, 20] (by decide +kernel) (by decide +kernel)) (goodIn_sub (fun _ h => List.mem_cons_of_mem _ (List.mem_append_right _ h)) (by decide +kernel))
set_option maxRecDepth 20000 in
theorem gL_heightOfColumn_X2_heightOfColumn : GoodIn wsL_heightOfColumn (wsV RL 39 RX2 yX2_heightOfColumn wsX2_heightOfColumn) := goodIn_app (goodIn_of _ (by decide +kernel)) ggL_heightOfColumn_X2_heightOfColumn
theorem dL_heightOfColumn_0 : decode cL_heightOfColumn 0 = .ok (.aload_n 2, 1) := by decide +kernel
theorem dL_heightOfColumn_1 : decode cL_heightOfColumn 1 = .ok (.iconst 0, 1) := by decide +kernel
theorem dL_heightOfColumn_2 : decode cL_heightOfColumn 2 = .ok (.aload_n 0, 1) := by decide +kernel
theorem dL_heightOfColumn_3 : decode cL_heightOfColumn 3 = .ok (.iload_n 1, 1) := by decide +kernel
theorem dL_heightOfColumn_4 : decode cL_heightOfColumn 4 = .ok (.invokevirtual 39, 3) := by decide +kernel
theorem dL_heightOfColumn_7 : decode cL_heightOfColumn 7 = .ok (.i2l, 1) := by decide +kernel
theorem dL_heightOfColumn_8 : decode cL_heightOfColumn 8 = .ok (.lastore, 1) := by decide +kernel
theorem dL_heightOfColumn_9 : decode cL_heightOfColumn 9 = .ok (.goto 6, 3) := by decide +kernel
theorem dL_heightOfColumn_12 : decode cL_heightOfColumn 12 = .ok (.astore_n 3, 1) := by decide +kernel
theorem dL_heightOfColumn_13 : decode cL_heightOfColumn 13 = .ok (.iconst 1, 1) := by decide +kernel
theorem dL_heightOfColumn_14 : decode cL_heightOfColumn 14 = .ok (.ireturn, 1) := by decide +kernel
theorem dL_heightOfColumn_15 : decode cL_heightOfColumn 15 = .ok (.iconst 0, 1) := by decide +kernel
theorem dL_heightOfColumn_16 : decode cL_heightOfColumn 16 = .ok (.ireturn, 1) := by decide +kernel
set_option maxRecDepth 20000 in
theorem ggL_wouldPress_X2_wouldPress : GoodIn wsL_wouldPress wsX2_wouldPress := goodIn_ca (goodIn_ca (goodIn_r _ [7, 8, 9, 10, 11, 6, 12, 13, 14, 15, 16, 17, 18, 19, 20, 21, 22, 23, 24, 25, 26, 27, 28, 29, 30, 31, 32, 33, 34, 35, 36, 37, 38, 39, 40] (by decide +kernel) (by decide +kernel)) (goodIn_sub (fun _ h => List.mem_cons_of_mem _ (List.mem_append_left _ (List.mem_append_right _ h))) (by decide +kernel))) (goodIn_sub (fun _ h => List.mem_cons_of_mem _ (List.mem_append_right _ h)) (by decide +kernel))
set_option maxRecDepth 20000 in
theorem gL_wouldPress_X2_wouldPress : GoodIn wsL_wouldPress (wsV RL 42 RX2 yX2_wouldPress wsX2_wouldPress) := goodIn_app (goodIn_of _ (by decide +kernel)) ggL_wouldPress_X2_wouldPress
theorem dL_wouldPress_0 : decode cL_wouldPress 0 = .ok (.aload 4, 2) := by decide +kernel
theorem dL_wouldPress_2 : decode cL_wouldPress 2 = .ok (.iconst 0, 1) := by decide +kernel
theorem dL_wouldPress_3 : decode cL_wouldPress 3 = .ok (.aload_n 0, 1) := by decide +kernel
theorem dL_wouldPress_4 : decode cL_wouldPress 4 = .ok (.iload_n 1, 1) := by decide +kernel
theorem dL_wouldPress_5 : decode cL_wouldPress 5 = .ok (.iload_n 2, 1) := by decide +kernel
theorem dL_wouldPress_6 : decode cL_wouldPress 6 = .ok (.iload_n 3, 1) := by decide +kernel
theorem dL_wouldPress_7 : decode cL_wouldPress 7 = .ok (.invokevirtual 42, 3) := by decide +kernel
theorem dL_wouldPress_10 : decode cL_wouldPress 10 = .ok (.i2l, 1) := by decide +kernel
theorem dL_wouldPress_11 : decode cL_wouldPress 11 = .ok (.lastore, 1) := by decide +kernel
theorem dL_wouldPress_12 : decode cL_wouldPress 12 = .ok (.goto 11, 3) := by decide +kernel
theorem dL_wouldPress_15 : decode cL_wouldPress 15 = .ok (.astore 5, 2) := by decide +kernel
theorem dL_wouldPress_17 : decode cL_wouldPress 17 = .ok (.iconst 1, 1) := by decide +kernel
theorem dL_wouldPress_18 : decode cL_wouldPress 18 = .ok (.ireturn, 1) := by decide +kernel
theorem dL_wouldPress_19 : decode cL_wouldPress 19 = .ok (.astore 5, 2) := by decide +kernel
theorem dL_wouldPress_21 : decode cL_wouldPress 21 = .ok (.iconst 2, 1) := by decide +kernel
theorem dL_wouldPress_22 : decode cL_wouldPress 22 = .ok (.ireturn, 1) := by decide +kernel
theorem dL_wouldPress_23 : decode cL_wouldPress 23 = .ok (.iconst 0, 1) := by decide +kernel
theorem dL_wouldPress_24 : decode cL_wouldPress 24 = .ok (.ireturn, 1) := by decide +kernel
set_option maxRecDepth 20000 in
theorem ggL_ceilingFor_X2_ceilingFor : GoodIn wsL_ceilingFor wsX2_ceilingFor := goodIn_ca (goodIn_ca (goodIn_ca (goodIn_r _ [8, 9, 10, 11, 12, 13, 14, 15, 7, 16, 17, 18, 19, 20, 21, 22, 23, 24, 25, 26, 27, 28, 29, 30, 31, 32, 33, 34, 35, 36, 37, 38, 39, 40, 41, 42, 43, 44, 45, 46, 47, 48] (by decide +kernel) (by decide +kernel)) (goodIn_sub (fun _ h => List.mem_cons_of_mem _ (List.mem_append_left _ (List.mem_append_left _ (List.mem_append_right _ h)))) (by decide +kernel))) (goodIn_sub (fun _ h => List.mem_cons_of_mem _ (List.mem_append_left _ (List.mem_append_right _ h))) (by decide +kernel))) (goodIn_sub (fun _ h => List.mem_cons_of_mem _ (List.mem_append_right _ h)) (by decide +kernel))
set_option maxRecDepth 20000 in
theorem gL_ceilingFor_X2_ceilingFor : GoodIn wsL_ceilingFor (wsV RL 45 RX2 yX2_ceilingFor wsX2_ceilingFor) := goodIn_app (goodIn_of _ (by decide +kernel)) ggL_ceilingFor_X2_ceilingFor
theorem dL_ceilingFor_0 : decode cL_ceilingFor 0 = .ok (.aload 4, 2) := by decide +kernel
theorem dL_ceilingFor_2 : decode cL_ceilingFor 2 = .ok (.iconst 0, 1) := by decide +kernel
theorem dL_ceilingFor_3 : decode cL_ceilingFor 3 = .ok (.aload_n 0, 1) := by decide +kernel
theorem dL_ceilingFor_4 : decode cL_ceilingFor 4 = .ok (.iload_n 1, 1) := by decide +kernel
theorem dL_ceilingFor_5 : decode cL_ceilingFor 5 = .ok (.iload_n 2, 1) := by decide +kernel
theorem dL_ceilingFor_6 : decode cL_ceilingFor 6 = .ok (.iload_n 3, 1) := by decide +kernel
theorem dL_ceilingFor_7 : decode cL_ceilingFor 7 = .ok (.invokevirtual 45, 3) := by decide +kernel
theorem dL_ceilingFor_10 : decode cL_ceilingFor 10 = .ok (.i2l, 1) := by decide +kernel
theorem dL_ceilingFor_11 : decode cL_ceilingFor 11 = .ok (.lastore, 1) := by decide +kernel
theorem dL_ceilingFor_12 : decode cL_ceilingFor 12 = .ok (.goto 15, 3) := by decide +kernel
theorem dL_ceilingFor_15 : decode cL_ceilingFor 15 = .ok (.astore 5, 2) := by decide +kernel
theorem dL_ceilingFor_17 : decode cL_ceilingFor 17 = .ok (.iconst 1, 1) := by decide +kernel
theorem dL_ceilingFor_18 : decode cL_ceilingFor 18 = .ok (.ireturn, 1) := by decide +kernel
theorem dL_ceilingFor_19 : decode cL_ceilingFor 19 = .ok (.astore 5, 2) := by decide +kernel
theorem dL_ceilingFor_21 : decode cL_ceilingFor 21 = .ok (.iconst 2, 1) := by decide +kernel
theorem dL_ceilingFor_22 : decode cL_ceilingFor 22 = .ok (.ireturn, 1) := by decide +kernel
theorem dL_ceilingFor_23 : decode cL_ceilingFor 23 = .ok (.astore 5, 2) := by decide +kernel
theorem dL_ceilingFor_25 : decode cL_ceilingFor 25 = .ok (.iconst 3, 1) := by decide +kernel
theorem dL_ceilingFor_26 : decode cL_ceilingFor 26 = .ok (.ireturn, 1) := by decide +kernel
theorem dL_ceilingFor_27 : decode cL_ceilingFor 27 = .ok (.iconst 0, 1) := by decide +kernel
theorem dL_ceilingFor_28 : decode cL_ceilingFor 28 = .ok (.ireturn, 1) := by decide +kernel
set_option maxRecDepth 20000 in
theorem ggL_ceilingOver_X2_ceilingOver : GoodIn wsL_ceilingOver wsX2_ceilingOver := goodIn_ca (goodIn_ca (goodIn_r _ [7, 8, 9, 10, 11, 12, 13, 6, 14, 15, 16, 17, 18, 19, 20, 21, 22, 23] (by decide +kernel) (by decide +kernel)) (goodIn_sub (fun _ h => List.mem_cons_of_mem _ (List.mem_append_left _ (List.mem_append_right _ h))) (by decide +kernel))) (goodIn_sub (fun _ h => List.mem_cons_of_mem _ (List.mem_append_right _ h)) (by decide +kernel))
set_option maxRecDepth 20000 in
theorem gL_ceilingOver_X2_ceilingOver : GoodIn wsL_ceilingOver (wsV RL 50 RX2 yX2_ceilingOver wsX2_ceilingOver) := goodIn_app (goodIn_of _ (by decide +kernel)) ggL_ceilingOver_X2_ceilingOver
theorem dL_ceilingOver_0 : decode cL_ceilingOver 0 = .ok (.aload_n 2, 1) := by decide +kernel
theorem dL_ceilingOver_1 : decode cL_ceilingOver 1 = .ok (.iconst 0, 1) := by decide +kernel
theorem dL_ceilingOver_2 : decode cL_ceilingOver 2 = .ok (.aload_n 0, 1) := by decide +kernel
theorem dL_ceilingOver_3 : decode cL_ceilingOver 3 = .ok (.iload_n 1, 1) := by decide +kernel
theorem dL_ceilingOver_4 : decode cL_ceilingOver 4 = .ok (.invokevirtual 50, 3) := by decide +kernel
theorem dL_ceilingOver_7 : decode cL_ceilingOver 7 = .ok (.i2l, 1) := by decide +kernel
theorem dL_ceilingOver_8 : decode cL_ceilingOver 8 = .ok (.lastore, 1) := by decide +kernel
theorem dL_ceilingOver_9 : decode cL_ceilingOver 9 = .ok (.goto 9, 3) := by decide +kernel
theorem dL_ceilingOver_12 : decode cL_ceilingOver 12 = .ok (.astore_n 3, 1) := by decide +kernel
theorem dL_ceilingOver_13 : decode cL_ceilingOver 13 = .ok (.iconst 1, 1) := by decide +kernel
theorem dL_ceilingOver_14 : decode cL_ceilingOver 14 = .ok (.ireturn, 1) := by decide +kernel
theorem dL_ceilingOver_15 : decode cL_ceilingOver 15 = .ok (.astore_n 3, 1) := by decide +kernel
theorem dL_ceilingOver_16 : decode cL_ceilingOver 16 = .ok (.iconst 2, 1) := by decide +kernel
theorem dL_ceilingOver_17 : decode cL_ceilingOver 17 = .ok (.ireturn, 1) := by decide +kernel
theorem dL_ceilingOver_18 : decode cL_ceilingOver 18 = .ok (.iconst 0, 1) := by decide +kernel
theorem dL_ceilingOver_19 : decode cL_ceilingOver 19 = .ok (.ireturn, 1) := by decide +kernel
set_option maxRecDepth 20000 in
theorem ggL_spanOf_X2_spanOf : GoodIn wsL_spanOf wsX2_spanOf := goodIn_ca (goodIn_r _ [6, 7, 8, 9, 10, 5, 11, 12, 13, 14, 15, 16, 17, 18, 19, 20, 21, 22, 23, 24, 25, 26, 27, 28, 29, 30, 31] (by decide +kernel) (by decide +kernel)) (goodIn_sub (fun _ h => List.mem_cons_of_mem _ (List.mem_append_right _ h)) (by decide +kernel))
set_option maxRecDepth 20000 in
theorem gL_spanOf_X2_spanOf : GoodIn wsL_spanOf (wsV RL 53 RX2 yX2_spanOf wsX2_spanOf) := goodIn_app (goodIn_of _ (by decide +kernel)) ggL_spanOf_X2_spanOf
theorem dL_spanOf_0 : decode cL_spanOf 0 = .ok (.aload_n 2, 1) := by decide +kernel
theorem dL_spanOf_1 : decode cL_spanOf 1 = .ok (.iconst 0, 1) := by decide +kernel
theorem dL_spanOf_2 : decode cL_spanOf 2 = .ok (.aload_n 0, 1) := by decide +kernel
theorem dL_spanOf_3 : decode cL_spanOf 3 = .ok (.iload_n 1, 1) := by decide +kernel
theorem dL_spanOf_4 : decode cL_spanOf 4 = .ok (.invokevirtual 53, 3) := by decide +kernel
theorem dL_spanOf_7 : decode cL_spanOf 7 = .ok (.i2l, 1) := by decide +kernel
theorem dL_spanOf_8 : decode cL_spanOf 8 = .ok (.lastore, 1) := by decide +kernel
theorem dL_spanOf_9 : decode cL_spanOf 9 = .ok (.goto 6, 3) := by decide +kernel
theorem dL_spanOf_12 : decode cL_spanOf 12 = .ok (.astore_n 3, 1) := by decide +kernel
theorem dL_spanOf_13 : decode cL_spanOf 13 = .ok (.iconst 1, 1) := by decide +kernel
theorem dL_spanOf_14 : decode cL_spanOf 14 = .ok (.ireturn, 1) := by decide +kernel
theorem dL_spanOf_15 : decode cL_spanOf 15 = .ok (.iconst 0, 1) := by decide +kernel
theorem dL_spanOf_16 : decode cL_spanOf 16 = .ok (.ireturn, 1) := by decide +kernel
set_option maxRecDepth 20000 in
theorem ggL_greatest_X2_greatest : GoodIn wsL_greatest wsX2_greatest := goodIn_ca (goodIn_r _ [6, 7, 8, 9, 10, 5, 11, 12, 13, 14, 15, 16, 17, 18, 19, 20, 21, 22, 23, 24, 25, 26, 27, 28, 29, 30, 31] (by decide +kernel) (by decide +kernel)) (goodIn_sub (fun _ h => List.mem_cons_of_mem _ (List.mem_append_right _ h)) (by decide +kernel))
set_option maxRecDepth 20000 in
theorem gL_greatest_X2_greatest : GoodIn wsL_greatest (wsV RL 56 RX2 yX2_greatest wsX2_greatest) := goodIn_app (goodIn_of _ (by decide +kernel)) ggL_greatest_X2_greatest
theorem dL_greatest_0 : decode cL_greatest 0 = .ok (.aload_n 2, 1) := by decide +kernel
theorem dL_greatest_1 : decode cL_greatest 1 = .ok (.iconst 0, 1) := by decide +kernel
theorem dL_greatest_2 : decode cL_greatest 2 = .ok (.aload_n 0, 1) := by decide +kernel
theorem dL_greatest_3 : decode cL_greatest 3 = .ok (.iload_n 1, 1) := by decide +kernel
theorem dL_greatest_4 : decode cL_greatest 4 = .ok (.invokevirtual 56, 3) := by decide +kernel
theorem dL_greatest_7 : decode cL_greatest 7 = .ok (.i2l, 1) := by decide +kernel
theorem dL_greatest_8 : decode cL_greatest 8 = .ok (.lastore, 1) := by decide +kernel
theorem dL_greatest_9 : decode cL_greatest 9 = .ok (.goto 6, 3) := by decide +kernel
theorem dL_greatest_12 : decode cL_greatest 12 = .ok (.astore_n 3, 1) := by decide +kernel
theorem dL_greatest_13 : decode cL_greatest 13 = .ok (.iconst 1, 1) := by decide +kernel
theorem dL_greatest_14 : decode cL_greatest 14 = .ok (.ireturn, 1) := by decide +kernel
theorem dL_greatest_15 : decode cL_greatest 15 = .ok (.iconst 0, 1) := by decide +kernel
theorem dL_greatest_16 : decode cL_greatest 16 = .ok (.ireturn, 1) := by decide +kernel
set_option maxRecDepth 20000 in
theorem ggL_second_X2_second : GoodIn wsL_second wsX2_second := goodIn_ca (goodIn_r _ [6, 7, 8, 9, 10, 5, 11, 12, 13, 14, 15, 16, 17, 18, 19, 20, 21, 22, 23, 24, 25, 26, 27, 28, 29, 30, 31] (by decide +kernel) (by decide +kernel)) (goodIn_sub (fun _ h => List.mem_cons_of_mem _ (List.mem_append_right _ h)) (by decide +kernel))
set_option maxRecDepth 20000 in
theorem gL_second_X2_second : GoodIn wsL_second (wsV RL 59 RX2 yX2_second wsX2_second) := goodIn_app (goodIn_of _ (by decide +kernel)) ggL_second_X2_second
theorem dL_second_0 : decode cL_second 0 = .ok (.aload_n 2, 1) := by decide +kernel
theorem dL_second_1 : decode cL_second 1 = .ok (.iconst 0, 1) := by decide +kernel
theorem dL_second_2 : decode cL_second 2 = .ok (.aload_n 0, 1) := by decide +kernel
theorem dL_second_3 : decode cL_second 3 = .ok (.iload_n 1, 1) := by decide +kernel
theorem dL_second_4 : decode cL_second 4 = .ok (.invokevirtual 59, 3) := by decide +kernel
theorem dL_second_7 : decode cL_second 7 = .ok (.i2l, 1) := by decide +kernel
theorem dL_second_8 : decode cL_second 8 = .ok (.lastore, 1) := by decide +kernel
theorem dL_second_9 : decode cL_second 9 = .ok (.goto 6, 3) := by decide +kernel
theorem dL_second_12 : decode cL_second 12 = .ok (.astore_n 3, 1) := by decide +kernel
theorem dL_second_13 : decode cL_second 13 = .ok (.iconst 1, 1) := by decide +kernel
theorem dL_second_14 : decode cL_second 14 = .ok (.ireturn, 1) := by decide +kernel
theorem dL_second_15 : decode cL_second 15 = .ok (.iconst 0, 1) := by decide +kernel
theorem dL_second_16 : decode cL_second 16 = .ok (.ireturn, 1) := by decide +kernel
set_option maxRecDepth 20000 in
theorem ggL_many_X2_many : GoodIn wsL_many wsX2_many := goodIn_ca (goodIn_r _ [6, 7, 8, 9, 10, 5, 11, 12, 13, 14, 15, 16, 17, 18, 19, 20, 21, 22, 23, 24, 25, 26, 27, 28, 29, 30, 31] (by decide +kernel) (by decide +kernel)) (goodIn_sub (fun _ h => List.mem_cons_of_mem _ (List.mem_append_right _ h)) (by decide +kernel))
set_option maxRecDepth 20000 in
theorem gL_many_X2_many : GoodIn wsL_many (wsV RL 62 RX2 yX2_many wsX2_many) := goodIn_app (goodIn_of _ (by decide +kernel)) ggL_many_X2_many
theorem dL_many_0 : decode cL_many 0 = .ok (.aload_n 2, 1) := by decide +kernel
theorem dL_many_1 : decode cL_many 1 = .ok (.iconst 0, 1) := by decide +kernel
theorem dL_many_2 : decode cL_many 2 = .ok (.aload_n 0, 1) := by decide +kernel
theorem dL_many_3 : decode cL_many 3 = .ok (.iload_n 1, 1) := by decide +kernel
theorem dL_many_4 : decode cL_many 4 = .ok (.invokevirtual 62, 3) := by decide +kernel
theorem dL_many_7 : decode cL_many 7 = .ok (.i2l, 1) := by decide +kernel
theorem dL_many_8 : decode cL_many 8 = .ok (.lastore, 1) := by decide +kernel
theorem dL_many_9 : decode cL_many 9 = .ok (.goto 6, 3) := by decide +kernel
theorem dL_many_12 : decode cL_many 12 = .ok (.astore_n 3, 1) := by decide +kernel
theorem dL_many_13 : decode cL_many 13 = .ok (.iconst 1, 1) := by decide +kernel
theorem dL_many_14 : decode cL_many 14 = .ok (.ireturn, 1) := by decide +kernel
theorem dL_many_15 : decode cL_many 15 = .ok (.iconst 0, 1) := by decide +kernel
theorem dL_many_16 : decode cL_many 16 = .ok (.ireturn, 1) := by decide +kernel
set_option maxRecDepth 20000 in
theorem ggL_noted_X2_noted : GoodIn wsL_noted wsX2_noted := goodIn_ca (goodIn_r _ [6, 7, 8, 9, 10, 5, 11, 12, 13, 14, 15, 16, 17, 18, 19, 20, 21, 22, 23, 24, 25, 26, 27, 28, 29, 30, 31] (by decide +kernel) (by decide +kernel)) (goodIn_sub (fun _ h => List.mem_cons_of_mem _ (List.mem_append_right _ h)) (by decide +kernel))
set_option maxRecDepth 20000 in
theorem gL_noted_X2_noted : GoodIn wsL_noted (wsV RL 65 RX2 yX2_noted wsX2_noted) := goodIn_app (goodIn_of _ (by decide +kernel)) ggL_noted_X2_noted
theorem dL_noted_0 : decode cL_noted 0 = .ok (.aload_n 2, 1) := by decide +kernel
theorem dL_noted_1 : decode cL_noted 1 = .ok (.iconst 0, 1) := by decide +kernel
theorem dL_noted_2 : decode cL_noted 2 = .ok (.aload_n 0, 1) := by decide +kernel
theorem dL_noted_3 : decode cL_noted 3 = .ok (.iload_n 1, 1) := by decide +kernel
theorem dL_noted_4 : decode cL_noted 4 = .ok (.invokevirtual 65, 3) := by decide +kernel
theorem dL_noted_7 : decode cL_noted 7 = .ok (.i2l, 1) := by decide +kernel
theorem dL_noted_8 : decode cL_noted 8 = .ok (.lastore, 1) := by decide +kernel
theorem dL_noted_9 : decode cL_noted 9 = .ok (.goto 6, 3) := by decide +kernel
theorem dL_noted_12 : decode cL_noted 12 = .ok (.astore_n 3, 1) := by decide +kernel
theorem dL_noted_13 : decode cL_noted 13 = .ok (.iconst 1, 1) := by decide +kernel
theorem dL_noted_14 : decode cL_noted 14 = .ok (.ireturn, 1) := by decide +kernel
theorem dL_noted_15 : decode cL_noted 15 = .ok (.iconst 0, 1) := by decide +kernel
theorem dL_noted_16 : decode cL_noted 16 = .ok (.ireturn, 1) := by decide +kernel
set_option maxRecDepth 20000 in
theorem ggL_law_X2_init : GoodIn wsL_law wsX2_init := goodIn_r _ [9, 10, 11, 12, 13, 14, 15, 16, 17, 18, 19, 20, 21, 22, 23, 24, 25, 26, 27, 28, 29, 30, 31, 32, 33, 34, 35, 36, 37, 38, 39, 40, 41, 42, 43, 44, 45, 46, 47, 48, 49, 50, 51, 52, 53, 54, 55, 56, 57, 58, 59, 60, 61, 541, 542, 543, 544, 545, 546, 547, 548, 549, 520, 521, 522, 550, 551, 552, 553] (by decide +kernel) (by decide +kernel)
set_option maxRecDepth 20000 in
theorem gL_law_X2_init : GoodIn wsL_law (wsX2_init) := ggL_law_X2_init
set_option maxRecDepth 20000 in
theorem ggL_law_X3_init : GoodIn wsL_law wsX3_init := goodIn_r _ [64, 65, 11, 12, 25, 66, 67, 68, 69, 70, 71, 72, 73, 74, 75, 76, 77, 5, 78, 79, 80, 81, 82, 83, 84, 85, 523, 524, 525, 526, 527, 528, 529, 530, 531, 532, 533, 534, 535, 536, 537, 538, 539, 540] (by decide +kernel) (by decide +kernel)
set_option maxRecDepth 20000 in
theorem gL_law_X3_init : GoodIn wsL_law (wsX3_init) := ggL_law_X3_init
set_option maxRecDepth 20000 in
theorem ggL_law_L_layOut : GoodIn wsL_law wsL_layOut := goodIn_ca (goodIn_r _ [89, 90, 91, 92, 93, 2, 94, 16, 20, 21, 95, 96, 97, 98, 99, 37, 38, 39, 15, 40, 27, 26, 28, 29, 30, 31, 41, 42, 43, 44, 45, 46, 47, 48, 49, 50, 51, 52, 53, 54, 55, 56, 57, 58, 19, 59, 60, 61, 35, 36, 520, 521, 522, 541, 542, 543, 544, 545, 546, 547, 548, 549, 550, 551, 552, 553] (by decide +kernel) (by decide +kernel)) (goodIn_sub (fun _ h => List.mem_append_left _ (List.mem_append_left _ (List.mem_append_left _ (List.mem_append_right _ h)))) (by decide +kernel))
set_option maxRecDepth 20000 in
theorem gL_law_L_layOut : GoodIn wsL_law (va_wsS RL 72 yL_layOut wsL_layOut) := goodIn_app (goodIn_of _ (by decide +kernel)) ggL_law_L_layOut
set_option maxRecDepth 20000 in
theorem ggL_law_X3_layOut : GoodIn wsL_law wsX3_layOut := goodIn_r _ [103, 83, 104, 105, 5, 106, 107, 108, 109, 110, 111, 75, 76, 77, 78, 79, 66, 67, 68, 69, 70, 71, 72, 73, 80, 81, 82, 84, 85, 523, 524, 525, 526, 527, 528, 529, 530, 531, 532, 533, 534, 535, 536, 537, 538, 539, 540] (by decide +kernel) (by decide +kernel)
set_option maxRecDepth 20000 in
theorem gL_law_X3_layOut : GoodIn wsL_law (wsV RL 77 RX3 yX3_layOut wsX3_layOut) := goodIn_app (goodIn_of _ (by decide +kernel)) ggL_law_X3_layOut
set_option maxRecDepth 20000 in
theorem ggL_law_X3_thrown : GoodIn wsL_law wsX3_thrown := goodIn_r _ [115, 111, 523, 524, 525, 526, 527, 528, 529, 530, 531, 532, 533, 534, 535, 536, 537, 538, 539, 540] (by decide +kernel) (by decide +kernel)
set_option maxRecDepth 20000 in
theorem gL_law_X3_thrown : GoodIn wsL_law (wsV RL 78 RX3 yX3_thrown wsX3_thrown) := goodIn_app (goodIn_of _ (by decide +kernel)) ggL_law_X3_thrown
set_option maxRecDepth 20000 in
theorem ggL_law_L_pile : GoodIn wsL_law wsL_pile := goodIn_ca (goodIn_ca (goodIn_ca (goodIn_r _ [118, 119, 90, 120, 121, 122, 123, 2, 124, 125, 126, 20, 16, 127, 128, 129, 130, 131, 132, 95, 96, 97, 98, 99, 133, 134, 135, 19, 136, 35, 36, 61, 137, 138, 139, 15, 140, 141, 142, 143, 144, 43, 41, 145, 146, 147, 148, 28, 31, 27, 149, 150, 151, 152, 42, 52, 53, 54, 55, 26, 153, 154, 155, 156, 157, 158, 159, 160, 161, 162, 163, 164, 165, 166, 167, 168, 30, 169, 170, 171, 172, 173, 174, 175, 176, 29, 177, 178, 179, 180, 181, 182, 183, 184, 520, 521, 522, 550, 551, 552, 553, 541, 542, 543, 544, 545, 546, 547, 548, 549] (by decide +kernel) (by decide +kernel)) (goodIn_sub (fun _ h => List.mem_append_left _ (List.mem_append_left _ (List.mem_append_right _ h))) (by decide +kernel))) (goodIn_sub (fun _ h => List.mem_append_left _ (List.mem_append_right _ h)) (by decide +kernel))) (goodIn_sub (fun _ h => List.mem_append_left _ (List.mem_append_left _ (List.mem_append_left _ (List.mem_append_right _ h)))) (by decide +kernel))
set_option maxRecDepth 20000 in
theorem gL_law_L_pile : GoodIn wsL_law (va_wsS RL 82 yL_pile wsL_pile) := goodIn_app (goodIn_of _ (by decide +kernel)) ggL_law_L_pile
set_option maxRecDepth 20000 in
theorem ggL_law_X3_pile : GoodIn wsL_law wsX3_pile := goodIn_r _ [188, 66, 68, 69, 70, 73, 84, 67, 189, 190, 191, 5, 192, 79, 104, 105, 106, 107, 108, 109, 110, 111, 193, 194, 195, 196, 80, 82, 197, 74, 198, 199, 200, 201, 81, 202, 203, 204, 205, 206, 207, 208, 209, 72, 210, 211, 212, 213, 71, 523, 524, 525, 526, 527, 528, 529, 530, 531, 532, 533, 534, 535, 536, 537, 538, 539, 540] (by decide +kernel) (by decide +kernel)
set_option maxRecDepth 20000 in
theorem gL_law_X3_pile : GoodIn wsL_law (wsV RL 84 RX3 yX3_pile wsX3_pile) := goodIn_app (goodIn_of _ (by decide +kernel)) ggL_law_X3_pile
set_option maxRecDepth 20000 in
theorem ggL_law_L_lower : GoodIn wsL_law wsL_lower := goodIn_ca (goodIn_ca (goodIn_r _ [216, 119, 90, 217, 218, 219, 2, 220, 16, 20, 21, 221, 222, 223, 224, 98, 99, 127, 128, 129, 130, 131, 132, 95, 96, 97, 225, 226, 227, 15, 228, 31, 141, 142, 143, 144, 43, 41, 229, 230, 231, 232, 28, 29, 149, 150, 151, 152, 42, 233, 234, 235, 236, 27, 26, 237, 238, 239, 240, 52, 53, 54, 55, 165, 166, 167, 168, 30, 153, 154, 155, 156, 157, 158, 159, 160, 161, 162, 163, 164, 169, 170, 171, 172, 173, 174, 175, 176, 177, 178, 179, 180, 181, 182, 183, 184, 241, 242, 243, 19, 244, 35, 245, 246, 247, 36, 520, 521, 522, 550, 551, 552, 553, 541, 542, 543, 544, 545, 546, 547, 548, 549] (by decide +kernel) (by decide +kernel)) (goodIn_sub (fun _ h => List.mem_append_left _ (List.mem_append_left _ (List.mem_append_left _ (List.mem_append_right _ h)))) (by decide +kernel))) (goodIn_sub (fun _ h => List.mem_append_left _ (List.mem_append_right _ h)) (by decide +kernel))
set_option maxRecDepth 20000 in
theorem gL_law_L_lower : GoodIn wsL_law (va_wsS RL 85 yL_lower wsL_lower) := goodIn_app (goodIn_of _ (by decide +kernel)) ggL_law_L_lower
set_option maxRecDepth 20000 in
theorem ggL_law_X3_lower : GoodIn wsL_law wsX3_lower := goodIn_r _ [251, 197, 74, 68, 69, 70, 71, 66, 67, 85, 252, 253, 254, 5, 255, 189, 190, 191, 192, 79, 104, 105, 106, 107, 108, 109, 110, 111, 193, 194, 195, 196, 80, 82, 210, 211, 212, 213, 72, 73, 198, 199, 200, 201, 81, 206, 207, 208, 209, 256, 257, 258, 259, 202, 203, 204, 205, 260, 261, 262, 263, 523, 524, 525, 526, 527, 528, 529, 530, 531, 532, 533, 534, 535, 536, 537, 538, 539, 540] (by decide +kernel) (by decide +kernel)
set_option maxRecDepth 20000 in
theorem gL_law_X3_lower : GoodIn wsL_law (wsV RL 88 RX3 yX3_lower wsX3_lower) := goodIn_app (goodIn_of _ (by decide +kernel)) ggL_law_X3_lower
set_option maxRecDepth 20000 in
theorem ggL_law_L_earth : GoodIn wsL_law wsL_earth := goodIn_ca (goodIn_ca (goodIn_r _ [266, 119, 90, 267, 268, 269, 2, 270, 16, 221, 222, 223, 224, 98, 99, 127, 128, 129, 130, 131, 132, 20, 271, 272, 273, 15, 274, 141, 142, 143, 144, 43, 41, 275, 276, 277, 278, 31, 149, 150, 151, 152, 42, 233, 234, 235, 236, 27, 26, 237, 238, 239, 240, 52, 53, 54, 55, 153, 154, 155, 156, 157, 158, 159, 160, 28, 161, 162, 163, 164, 165, 166, 167, 168, 30, 520, 521, 522, 550, 551, 552, 553, 541, 542, 543, 544, 545, 546, 547, 548, 549] (by decide +kernel) (by decide +kernel)) (goodIn_sub (fun _ h => List.mem_append_left _ (List.mem_append_left _ (List.mem_append_left _ (List.mem_append_right _ h)))) (by decide +kernel))) (goodIn_sub (fun _ h => List.mem_append_left _ (List.mem_append_right _ h)) (by decide +kernel))
set_option maxRecDepth 20000 in
theorem gL_law_L_earth : GoodIn wsL_law (va_wsS RL 89 yL_earth wsL_earth) := goodIn_app (goodIn_of _ (by decide +kernel)) ggL_law_L_earth
set_option maxRecDepth 20000 in
theorem ggL_law_X3_earth : GoodIn wsL_law wsX3_earth := goodIn_r _ [282, 252, 253, 254, 5, 255, 189, 190, 191, 192, 79, 104, 105, 106, 107, 108, 109, 110, 111, 283, 284, 285, 286, 197, 74, 68, 69, 73, 70, 193, 194, 195, 196, 80, 82, 198, 199, 200, 201, 81, 256, 257, 258, 259, 202, 203, 204, 205, 206, 207, 208, 209, 72, 523, 524, 525, 526, 527, 528, 529, 530, 531, 532, 533, 534, 535, 536, 537, 538, 539, 540] (by decide +kernel) (by decide +kernel)
set_option maxRecDepth 20000 in
theorem gL_law_X3_earth : GoodIn wsL_law (wsV RL 91 RX3 yX3_earth wsX3_earth) := goodIn_app (goodIn_of _ (by decide +kernel)) ggL_law_X3_earth
set_option maxRecDepth 20000 in
theorem ggL_law_L_earthByColumns : GoodIn wsL_law wsL_earthByColumns := goodIn_ca (goodIn_ca (goodIn_r _ [289, 119, 90, 290, 291, 292, 2, 293, 20, 221, 222, 223, 224, 98, 99, 127, 128, 129, 130, 131, 132, 294, 295, 296, 19, 297, 35, 298, 174, 175, 176, 520, 521, 522, 550, 551, 552, 553] (by decide +kernel) (by decide +kernel)) (goodIn_sub (fun _ h => List.mem_append_left _ (List.mem_append_left _ (List.mem_append_left _ (List.mem_append_right _ h)))) (by decide +kernel))) (goodIn_sub (fun _ h => List.mem_append_left _ (List.mem_append_right _ h)) (by decide +kernel))
set_option maxRecDepth 20000 in
theorem gL_law_L_earthByColumns : GoodIn wsL_law (va_wsS RL 92 yL_earthByColumns wsL_earthByColumns) := goodIn_app (goodIn_of _ (by decide +kernel)) ggL_law_L_earthByColumns
set_option maxRecDepth 20000 in
theorem ggL_law_X3_earthByColumns : GoodIn wsL_law wsX3_earthByColumns := goodIn_r _ [302, 252, 253, 254, 5, 255, 189, 190, 191, 192, 79, 104, 105, 106, 107, 108, 109, 110, 111, 260, 261, 262, 263, 66, 523, 524, 525, 526, 527, 528, 529, 530, 531, 532, 533, 534, 535, 536, 537, 538, 539, 540] (by decide +kernel) (by decide +kernel)
set_option maxRecDepth 20000 in
theorem gL_law_X3_earthByColumns : GoodIn wsL_law (wsV RL 94 RX3 yX3_earthByColumns wsX3_earthByColumns) := goodIn_app (goodIn_of _ (by decide +kernel)) ggL_law_X3_earthByColumns
set_option maxRecDepth 20000 in
theorem ggL_law_L_top : GoodIn wsL_law wsL_top := goodIn_ca (goodIn_ca (goodIn_r _ [305, 119, 90, 306, 307, 308, 2, 309, 16, 221, 222, 223, 224, 98, 99, 127, 128, 129, 130, 131, 132, 20, 310, 311, 312, 15, 313, 141, 142, 143, 144, 43, 41, 314, 315, 316, 317, 28, 173, 174, 175, 176, 149, 150, 151, 152, 42, 233, 234, 235, 236, 27, 26, 237, 238, 239, 240, 52, 53, 54, 55, 153, 154, 155, 156, 157, 158, 159, 160, 161, 162, 163, 164, 165, 166, 167, 168, 31, 30, 520, 521, 522, 550, 551, 552, 553, 541, 542, 543, 544, 545, 546, 547, 548, 549] (by decide +kernel) (by decide +kernel)) (goodIn_sub (fun _ h => List.mem_append_left _ (List.mem_append_left _ (List.mem_append_left _ (List.mem_append_right _ h)))) (by decide +kernel))) (goodIn_sub (fun _ h => List.mem_append_left _ (List.mem_append_right _ h)) (by decide +kernel))
set_option maxRecDepth 20000 in
theorem gL_law_L_top : GoodIn wsL_law (va_wsS RL 95 yL_top wsL_top) := goodIn_app (goodIn_of _ (by decide +kernel)) ggL_law_L_top
set_option maxRecDepth 20000 in
theorem ggL_law_X3_top : GoodIn wsL_law wsX3_top := goodIn_r _ [321, 252, 253, 254, 5, 255, 189, 190, 191, 192, 79, 104, 105, 106, 107, 108, 109, 110, 111, 283, 284, 285, 286, 197, 74, 68, 69, 73, 70, 193, 194, 195, 196, 80, 82, 198, 199, 200, 201, 81, 256, 257, 258, 259, 202, 203, 204, 205, 206, 207, 208, 209, 72, 523, 524, 525, 526, 527, 528, 529, 530, 531, 532, 533, 534, 535, 536, 537, 538, 539, 540] (by decide +kernel) (by decide +kernel)
set_option maxRecDepth 20000 in
theorem gL_law_X3_top : GoodIn wsL_law (wsV RL 97 RX3 yX3_top wsX3_top) := goodIn_app (goodIn_of _ (by decide +kernel)) ggL_law_X3_top
set_option maxRecDepth 20000 in
theorem ggL_law_L_height : GoodIn wsL_law wsL_height := goodIn_ca (goodIn_r _ [324, 119, 325, 326, 327, 2, 328, 16, 127, 128, 129, 130, 131, 132, 20, 329, 330, 331, 15, 332, 28, 333, 246, 175, 247, 334, 335, 336, 337, 27, 233, 234, 235, 236, 26, 520, 521, 522, 550, 551, 552, 553, 541, 542, 543, 544, 545, 546, 547, 548, 549] (by decide +kernel) (by decide +kernel)) (goodIn_sub (fun _ h => List.mem_append_left _ (List.mem_append_right _ h)) (by decide +kernel))
set_option maxRecDepth 20000 in
theorem gL_law_L_height : GoodIn wsL_law (va_wsS RL 98 yL_height wsL_height) := goodIn_app (goodIn_of _ (by decide +kernel)) ggL_law_L_height
set_option maxRecDepth 20000 in
theorem ggL_law_X3_height : GoodIn wsL_law wsX3_height := goodIn_r _ [341, 66, 189, 190, 191, 5, 192, 79, 104, 105, 106, 107, 108, 109, 110, 111, 523, 524, 525, 526, 527, 528, 529, 530, 531, 532, 533, 534, 535, 536, 537, 538, 539, 540] (by decide +kernel) (by decide +kernel)
set_option maxRecDepth 20000 in
theorem gL_law_X3_height : GoodIn wsL_law (wsV RL 101 RX3 yX3_height wsX3_height) := goodIn_app (goodIn_of _ (by decide +kernel)) ggL_law_X3_height
set_option maxRecDepth 20000 in
theorem ggL_law_L_heightOfColumn : GoodIn wsL_law wsL_heightOfColumn := goodIn_ca (goodIn_r _ [344, 119, 345, 346, 347, 2, 348, 20, 127, 128, 129, 130, 131, 132, 520, 521, 522, 550, 551, 552, 553] (by decide +kernel) (by decide +kernel)) (goodIn_sub (fun _ h => List.mem_append_left _ (List.mem_append_right _ h)) (by decide +kernel))
set_option maxRecDepth 20000 in
theorem gL_law_L_heightOfColumn : GoodIn wsL_law (va_wsS RL 102 yL_heightOfColumn wsL_heightOfColumn) := goodIn_app (goodIn_of _ (by decide +kernel)) ggL_law_L_heightOfColumn
set_option maxRecDepth 20000 in
theorem ggL_law_X3_heightOfColumn : GoodIn wsL_law wsX3_heightOfColumn := goodIn_r _ [352, 66, 189, 190, 191, 5, 192, 79, 104, 105, 106, 107, 108, 109, 110, 111, 523, 524, 525, 526, 527, 528, 529, 530, 531, 532, 533, 534, 535, 536, 537, 538, 539, 540] (by decide +kernel) (by decide +kernel)
set_option maxRecDepth 20000 in
theorem gL_law_X3_heightOfColumn : GoodIn wsL_law (wsV RL 104 RX3 yX3_heightOfColumn wsX3_heightOfColumn) := goodIn_app (goodIn_of _ (by decide +kernel)) ggL_law_X3_heightOfColumn
set_option maxRecDepth 20000 in
theorem ggL_law_L_wouldPress : GoodIn wsL_law wsL_wouldPress := goodIn_ca (goodIn_ca (goodIn_r _ [355, 119, 90, 356, 357, 358, 2, 359, 20, 221, 222, 223, 224, 98, 99, 127, 128, 129, 130, 131, 132, 95, 96, 97, 294, 295, 296, 19, 297, 35, 298, 174, 175, 176, 520, 521, 522, 550, 551, 552, 553] (by decide +kernel) (by decide +kernel)) (goodIn_sub (fun _ h => List.mem_append_left _ (List.mem_append_left _ (List.mem_append_left _ (List.mem_append_right _ h)))) (by decide +kernel))) (goodIn_sub (fun _ h => List.mem_append_left _ (List.mem_append_right _ h)) (by decide +kernel))
set_option maxRecDepth 20000 in
theorem gL_law_L_wouldPress : GoodIn wsL_law (va_wsS RL 105 yL_wouldPress wsL_wouldPress) := goodIn_app (goodIn_of _ (by decide +kernel)) ggL_law_L_wouldPress
set_option maxRecDepth 20000 in
theorem ggL_law_X3_wouldPress : GoodIn wsL_law wsX3_wouldPress := goodIn_r _ [363, 252, 253, 254, 5, 255, 189, 190, 191, 192, 79, 104, 105, 106, 107, 108, 109, 110, 111, 260, 261, 262, 263, 66, 523, 524, 525, 526, 527, 528, 529, 530, 531, 532, 533, 534, 535, 536, 537, 538, 539, 540] (by decide +kernel) (by decide +kernel)
set_option maxRecDepth 20000 in
theorem gL_law_X3_wouldPress : GoodIn wsL_law (wsV RL 107 RX3 yX3_wouldPress wsX3_wouldPress) := goodIn_app (goodIn_of _ (by decide +kernel)) ggL_law_X3_wouldPress
set_option maxRecDepth 20000 in
theorem ggL_law_L_ceilingFor : GoodIn wsL_law wsL_ceilingFor := goodIn_ca (goodIn_ca (goodIn_ca (goodIn_r _ [366, 119, 90, 367, 368, 369, 370, 2, 371, 372, 373, 374, 20, 221, 222, 223, 224, 98, 99, 127, 128, 129, 130, 131, 132, 95, 96, 97, 375, 376, 377, 19, 378, 379, 295, 296, 297, 35, 298, 174, 175, 176, 520, 521, 522, 550, 551, 552, 553] (by decide +kernel) (by decide +kernel)) (goodIn_sub (fun _ h => List.mem_append_right _ h) (by decide +kernel))) (goodIn_sub (fun _ h => List.mem_append_left _ (List.mem_append_left _ (List.mem_append_left _ (List.mem_append_right _ h)))) (by decide +kernel))) (goodIn_sub (fun _ h => List.mem_append_left _ (List.mem_append_right _ h)) (by decide +kernel))
set_option maxRecDepth 20000 in
theorem gL_law_L_ceilingFor : GoodIn wsL_law (va_wsS RL 108 yL_ceilingFor wsL_ceilingFor) := goodIn_app (goodIn_of _ (by decide +kernel)) ggL_law_L_ceilingFor
set_option maxRecDepth 20000 in
theorem ggL_law_X3_ceilingFor : GoodIn wsL_law wsX3_ceilingFor := goodIn_r _ [383, 384, 252, 253, 254, 5, 255, 189, 190, 191, 192, 79, 104, 105, 106, 107, 108, 109, 110, 111, 260, 261, 262, 263, 66, 523, 524, 525, 526, 527, 528, 529, 530, 531, 532, 533, 534, 535, 536, 537, 538, 539, 540] (by decide +kernel) (by decide +kernel)
set_option maxRecDepth 20000 in
theorem gL_law_X3_ceilingFor : GoodIn wsL_law (wsV RL 110 RX3 yX3_ceilingFor wsX3_ceilingFor) := goodIn_app (goodIn_of _ (by decide +kernel)) ggL_law_X3_ceilingFor
set_option maxRecDepth 20000 in
theorem ggL_law_L_ceilingOver : GoodIn wsL_law wsL_ceilingOver := goodIn_ca (goodIn_ca (goodIn_r _ [387, 119, 367, 388, 389, 390, 2, 391, 372, 373, 20, 127, 128, 129, 130, 131, 132, 520, 521, 522, 550, 551, 552, 553] (by decide +kernel) (by decide +kernel)) (goodIn_sub (fun _ h => List.mem_append_right _ h) (by decide +kernel))) (goodIn_sub (fun _ h => List.mem_append_left _ (List.mem_append_right _ h)) (by decide +kernel))
set_option maxRecDepth 20000 in
theorem gL_law_L_ceilingOver : GoodIn wsL_law (va_wsS RL 111 yL_ceilingOver wsL_ceilingOver) := goodIn_app (goodIn_of _ (by decide +kernel)) ggL_law_L_ceilingOver
set_option maxRecDepth 20000 in
theorem ggL_law_X3_ceilingOver : GoodIn wsL_law wsX3_ceilingOver := goodIn_r _ [395, 67, 189, 190, 191, 5, 192, 79, 104, 105, 106, 107, 108, 109, 110, 111, 523, 524, 525, 526, 527, 528, 529, 530, 531, 532, 533, 534, 535, 536, 537, 538, 539, 540] (by decide +kernel) (by decide +kernel)
set_option maxRecDepth 20000 in
theorem gL_law_X3_ceilingOver : GoodIn wsL_law (wsV RL 113 RX3 yX3_ceilingOver wsX3_ceilingOver) := goodIn_app (goodIn_of _ (by decide +kernel)) ggL_law_X3_ceilingOver
set_option maxRecDepth 20000 in
theorem ggL_law_X2_columns : GoodIn wsL_law wsX2_columns := goodIn_r _ [399, 20, 520, 521, 522, 550, 551, 552, 553] (by decide +kernel) (by decide +kernel)
set_option maxRecDepth 20000 in
theorem gL_law_X2_columns : GoodIn wsL_law (wsV RL 114 RX2 yX2_columns wsX2_columns) := goodIn_app (goodIn_of _ (by decide +kernel)) ggL_law_X2_columns
set_option maxRecDepth 20000 in
theorem ggL_law_X3_columns : GoodIn wsL_law wsX3_columns := goodIn_r _ [403, 111, 79, 523, 524, 525, 526, 527, 528, 529, 530, 531, 532, 533, 534, 535, 536, 537, 538, 539, 540] (by decide +kernel) (by decide +kernel)
set_option maxRecDepth 20000 in
theorem gL_law_X3_columns : GoodIn wsL_law (wsV RL 117 RX3 yX3_columns wsX3_columns) := goodIn_app (goodIn_of _ (by decide +kernel)) ggL_law_X3_columns
set_option maxRecDepth 20000 in
theorem ggL_law_L_spanOf : GoodIn wsL_law wsL_spanOf := goodIn_ca (goodIn_r _ [406, 119, 407, 408, 409, 2, 410, 16, 411, 412, 413, 414, 131, 132, 415, 335, 336, 15, 337, 27, 520, 521, 522, 541, 542, 543, 544, 545, 546, 547, 548, 549] (by decide +kernel) (by decide +kernel)) (goodIn_sub (fun _ h => List.mem_append_left _ (List.mem_append_right _ h)) (by decide +kernel))
set_option maxRecDepth 20000 in
theorem gL_law_L_spanOf : GoodIn wsL_law (va_wsS RL 118 yL_spanOf wsL_spanOf) := goodIn_app (goodIn_of _ (by decide +kernel)) ggL_law_L_spanOf
set_option maxRecDepth 20000 in
theorem ggL_law_X3_spanOf : GoodIn wsL_law wsX3_spanOf := goodIn_r _ [419, 68, 69, 420, 421, 422, 5, 423, 104, 105, 106, 107, 108, 109, 110, 111, 523, 524, 525, 526, 527, 528, 529, 530, 531, 532, 533, 534, 535, 536, 537, 538, 539, 540] (by decide +kernel) (by decide +kernel)
set_option maxRecDepth 20000 in
theorem gL_law_X3_spanOf : GoodIn wsL_law (wsV RL 120 RX3 yX3_spanOf wsX3_spanOf) := goodIn_app (goodIn_of _ (by decide +kernel)) ggL_law_X3_spanOf
set_option maxRecDepth 20000 in
theorem ggL_law_L_greatest : GoodIn wsL_law wsL_greatest := goodIn_ca (goodIn_r _ [426, 119, 427, 428, 429, 2, 430, 16, 411, 412, 413, 414, 131, 132, 415, 335, 336, 15, 337, 27, 520, 521, 522, 541, 542, 543, 544, 545, 546, 547, 548, 549] (by decide +kernel) (by decide +kernel)) (goodIn_sub (fun _ h => List.mem_append_left _ (List.mem_append_right _ h)) (by decide +kernel))
set_option maxRecDepth 20000 in
theorem gL_law_L_greatest : GoodIn wsL_law (va_wsS RL 121 yL_greatest wsL_greatest) := goodIn_app (goodIn_of _ (by decide +kernel)) ggL_law_L_greatest
set_option maxRecDepth 20000 in
theorem ggL_law_X3_greatest : GoodIn wsL_law wsX3_greatest := goodIn_r _ [434, 70, 420, 421, 422, 5, 423, 68, 104, 105, 106, 107, 108, 109, 110, 111, 523, 524, 525, 526, 527, 528, 529, 530, 531, 532, 533, 534, 535, 536, 537, 538, 539, 540] (by decide +kernel) (by decide +kernel)
set_option maxRecDepth 20000 in
theorem gL_law_X3_greatest : GoodIn wsL_law (wsV RL 123 RX3 yX3_greatest wsX3_greatest) := goodIn_app (goodIn_of _ (by decide +kernel)) ggL_law_X3_greatest
set_option maxRecDepth 20000 in
theorem ggL_law_L_second : GoodIn wsL_law wsL_second := goodIn_ca (goodIn_r _ [437, 119, 438, 439, 440, 2, 441, 16, 411, 412, 413, 414, 131, 132, 415, 335, 336, 15, 337, 27, 520, 521, 522, 541, 542, 543, 544, 545, 546, 547, 548, 549] (by decide +kernel) (by decide +kernel)) (goodIn_sub (fun _ h => List.mem_append_left _ (List.mem_append_right _ h)) (by decide +kernel))
set_option maxRecDepth 20000 in
theorem gL_law_L_second : GoodIn wsL_law (va_wsS RL 124 yL_second wsL_second) := goodIn_app (goodIn_of _ (by decide +kernel)) ggL_law_L_second
set_option maxRecDepth 20000 in
theorem ggL_law_X3_second : GoodIn wsL_law wsX3_second := goodIn_r _ [445, 71, 420, 421, 422, 5, 423, 68, 104, 105, 106, 107, 108, 109, 110, 111, 523, 524, 525, 526, 527, 528, 529, 530, 531, 532, 533, 534, 535, 536, 537, 538, 539, 540] (by decide +kernel) (by decide +kernel)
set_option maxRecDepth 20000 in
theorem gL_law_X3_second : GoodIn wsL_law (wsV RL 126 RX3 yX3_second wsX3_second) := goodIn_app (goodIn_of _ (by decide +kernel)) ggL_law_X3_second
set_option maxRecDepth 20000 in
theorem ggL_law_L_many : GoodIn wsL_law wsL_many := goodIn_ca (goodIn_r _ [448, 119, 449, 450, 451, 2, 452, 16, 411, 412, 413, 414, 131, 132, 415, 335, 336, 15, 337, 27, 520, 521, 522, 541, 542, 543, 544, 545, 546, 547, 548, 549] (by decide +kernel) (by decide +kernel)) (goodIn_sub (fun _ h => List.mem_append_left _ (List.mem_append_right _ h)) (by decide +kernel))
set_option maxRecDepth 20000 in
theorem gL_law_L_many : GoodIn wsL_law (va_wsS RL 127 yL_many wsL_many) := goodIn_app (goodIn_of _ (by decide +kernel)) ggL_law_L_many
set_option maxRecDepth 20000 in
theorem ggL_law_X3_many : GoodIn wsL_law wsX3_many := goodIn_r _ [456, 72, 420, 421, 422, 5, 423, 68, 104, 105, 106, 107, 108, 109, 110, 111, 523, 524, 525, 526, 527, 528, 529, 530, 531, 532, 533, 534, 535, 536, 537, 538, 539, 540] (by decide +kernel) (by decide +kernel)
set_option maxRecDepth 20000 in
theorem gL_law_X3_many : GoodIn wsL_law (wsV RL 129 RX3 yX3_many wsX3_many) := goodIn_app (goodIn_of _ (by decide +kernel)) ggL_law_X3_many
set_option maxRecDepth 20000 in
theorem ggL_law_L_noted : GoodIn wsL_law wsL_noted := goodIn_ca (goodIn_r _ [459, 119, 460, 461, 462, 2, 463, 16, 411, 412, 413, 414, 131, 132, 415, 335, 336, 15, 337, 27, 520, 521, 522, 541, 542, 543, 544, 545, 546, 547, 548, 549] (by decide +kernel) (by decide +kernel)) (goodIn_sub (fun _ h => List.mem_append_left _ (List.mem_append_right _ h)) (by decide +kernel))
set_option maxRecDepth 20000 in
theorem gL_law_L_noted : GoodIn wsL_law (va_wsS RL 130 yL_noted wsL_noted) := goodIn_app (goodIn_of _ (by decide +kernel)) ggL_law_L_noted
set_option maxRecDepth 20000 in
theorem ggL_law_X3_noted : GoodIn wsL_law wsX3_noted := goodIn_r _ [467, 73, 420, 421, 422, 5, 423, 68, 104, 105, 106, 107, 108, 109, 110, 111, 523, 524, 525, 526, 527, 528, 529, 530, 531, 532, 533, 534, 535, 536, 537, 538, 539, 540] (by decide +kernel) (by decide +kernel)
set_option maxRecDepth 20000 in
theorem gL_law_X3_noted : GoodIn wsL_law (wsV RL 132 RX3 yX3_noted wsX3_noted) := goodIn_app (goodIn_of _ (by decide +kernel)) ggL_law_X3_noted
set_option maxRecDepth 20000 in
theorem ggL_law_X2_lagging : GoodIn wsL_law wsX2_lagging := goodIn_r _ [471, 16, 472, 473, 474, 15, 475, 334, 335, 336, 337, 27, 161, 162, 163, 164, 28, 520, 521, 522, 541, 542, 543, 544, 545, 546, 547, 548, 549] (by decide +kernel) (by decide +kernel)
set_option maxRecDepth 20000 in
theorem gL_law_X2_lagging : GoodIn wsL_law (wsV RL 133 RX2 yX2_lagging wsX2_lagging) := goodIn_app (goodIn_of _ (by decide +kernel)) ggL_law_X2_lagging
set_option maxRecDepth 20000 in
theorem ggL_law_X3_lagging : GoodIn wsL_law wsX3_lagging := goodIn_r _ [479, 111, 68, 70, 523, 524, 525, 526, 527, 528, 529, 530, 531, 532, 533, 534, 535, 536, 537, 538, 539, 540] (by decide +kernel) (by decide +kernel)
set_option maxRecDepth 20000 in
theorem gL_law_X3_lagging : GoodIn wsL_law (wsV RL 136 RX3 yX3_lagging wsX3_lagging) := goodIn_app (goodIn_of _ (by decide +kernel)) ggL_law_X3_lagging
set_option maxRecDepth 20000 in
theorem ggL_law_X2_visits : GoodIn wsL_law wsX2_visits := goodIn_r _ [483, 16, 520, 521, 522, 541, 542, 543, 544, 545, 546, 547, 548, 549] (by decide +kernel) (by decide +kernel)
set_option maxRecDepth 20000 in
theorem gL_law_X2_visits : GoodIn wsL_law (wsV RL 137 RX2 yX2_visits wsX2_visits) := goodIn_app (goodIn_of _ (by decide +kernel)) ggL_law_X2_visits
set_option maxRecDepth 20000 in
theorem ggL_law_X3_visits : GoodIn wsL_law wsX3_visits := goodIn_r _ [487, 111, 80, 523, 524, 525, 526, 527, 528, 529, 530, 531, 532, 533, 534, 535, 536, 537, 538, 539, 540] (by decide +kernel) (by decide +kernel)
set_option maxRecDepth 20000 in
theorem gL_law_X3_visits : GoodIn wsL_law (wsV RL 140 RX3 yX3_visits wsX3_visits) := goodIn_app (goodIn_of _ (by decide +kernel)) ggL_law_X3_visits
set_option maxRecDepth 20000 in
theorem ggL_law_X2_allVisits : GoodIn wsL_law wsX2_allVisits := goodIn_r _ [491, 16, 520, 521, 522, 541, 542, 543, 544, 545, 546, 547, 548, 549] (by decide +kernel) (by decide +kernel)
set_option maxRecDepth 20000 in
theorem gL_law_X2_allVisits : GoodIn wsL_law (wsV RL 141 RX2 yX2_allVisits wsX2_allVisits) := goodIn_app (goodIn_of _ (by decide +kernel)) ggL_law_X2_allVisits
set_option maxRecDepth 20000 in
theorem ggL_law_X3_allVisits : GoodIn wsL_law wsX3_allVisits := goodIn_r _ [495, 111, 81, 523, 524, 525, 526, 527, 528, 529, 530, 531, 532, 533, 534, 535, 536, 537, 538, 539, 540] (by decide +kernel) (by decide +kernel)
set_option maxRecDepth 20000 in
theorem gL_law_X3_allVisits : GoodIn wsL_law (wsV RL 144 RX3 yX3_allVisits wsX3_allVisits) := goodIn_app (goodIn_of _ (by decide +kernel)) ggL_law_X3_allVisits
set_option maxRecDepth 20000 in
theorem ggL_law_X2_pressedAway : GoodIn wsL_law wsX2_pressedAway := goodIn_r _ [499, 21, 520, 521, 522] (by decide +kernel) (by decide +kernel)
set_option maxRecDepth 20000 in
theorem gL_law_X2_pressedAway : GoodIn wsL_law (wsV RL 145 RX2 yX2_pressedAway wsX2_pressedAway) := goodIn_app (goodIn_of _ (by decide +kernel)) ggL_law_X2_pressedAway
set_option maxRecDepth 20000 in
theorem ggL_law_X3_pressedAway : GoodIn wsL_law wsX3_pressedAway := goodIn_r _ [503, 111, 85, 523, 524, 525, 526, 527, 528, 529, 530, 531, 532, 533, 534, 535, 536, 537, 538, 539, 540] (by decide +kernel) (by decide +kernel)
set_option maxRecDepth 20000 in
theorem gL_law_X3_pressedAway : GoodIn wsL_law (wsV RL 148 RX3 yX3_pressedAway wsX3_pressedAway) := goodIn_app (goodIn_of _ (by decide +kernel)) ggL_law_X3_pressedAway
set_option maxRecDepth 20000 in
theorem ggL_law_X2_pressedAwayByRest : GoodIn wsL_law wsX2_pressedAwayByRest := goodIn_r _ [507, 20, 294, 295, 296, 19, 297, 35, 298, 174, 175, 176, 520, 521, 522, 550, 551, 552, 553] (by decide +kernel) (by decide +kernel)
set_option maxRecDepth 20000 in
theorem gL_law_X2_pressedAwayByRest : GoodIn wsL_law (wsV RL 149 RX2 yX2_pressedAwayByRest wsX2_pressedAwayByRest) := goodIn_app (goodIn_of _ (by decide +kernel)) ggL_law_X2_pressedAwayByRest
set_option maxRecDepth 20000 in
theorem ggL_law_X3_pressedAwayByRest : GoodIn wsL_law wsX3_pressedAwayByRest := goodIn_r _ [511, 111, 83, 84, 79, 260, 261, 262, 5, 263, 66, 523, 524, 525, 526, 527, 528, 529, 530, 531, 532, 533, 534, 535, 536, 537, 538, 539, 540] (by decide +kernel) (by decide +kernel)
set_option maxRecDepth 20000 in
theorem gL_law_X3_pressedAwayByRest : GoodIn wsL_law (wsV RL 152 RX3 yX3_pressedAwayByRest wsX3_pressedAwayByRest) := goodIn_app (goodIn_of _ (by decide +kernel)) ggL_law_X3_pressedAwayByRest
set_option maxRecDepth 20000 in
theorem ggL_law_X2_meanVisits : GoodIn wsL_law wsX2_meanVisits := goodIn_r _ [515, 16, 520, 521, 522, 541, 542, 543, 544, 545, 546, 547, 548, 549] (by decide +kernel) (by decide +kernel)
set_option maxRecDepth 20000 in
theorem gL_law_X2_meanVisits : GoodIn wsL_law (wsV RL 153 RX2 yX2_meanVisits wsX2_meanVisits) := goodIn_app (goodIn_of _ (by decide +kernel)) ggL_law_X2_meanVisits
set_option maxRecDepth 20000 in
theorem ggL_law_X3_meanVisits : GoodIn wsL_law wsX3_meanVisits := goodIn_r _ [519, 111, 82, 81, 523, 524, 525, 526, 527, 528, 529, 530, 531, 532, 533, 534, 535, 536, 537, 538, 539, 540] (by decide +kernel) (by decide +kernel)
set_option maxRecDepth 20000 in
theorem gL_law_X3_meanVisits : GoodIn wsL_law (wsV RL 157 RX3 yX3_meanVisits wsX3_meanVisits) := goodIn_app (goodIn_of _ (by decide +kernel)) ggL_law_X3_meanVisits
theorem dL_law_0 : decode cL_law 0 = .ok (.new 8, 3) := by decide +kernel
theorem dL_law_3 : decode cL_law 3 = .ok (.dup, 1) := by decide +kernel
theorem dL_law_4 : decode cL_law 4 = .ok (.invokespecial 68, 3) := by decide +kernel
theorem dL_law_7 : decode cL_law 7 = .ok (.astore_n 1, 1) := by decide +kernel
theorem dL_law_8 : decode cL_law 8 = .ok (.new 69, 3) := by decide +kernel
theorem dL_law_11 : decode cL_law 11 = .ok (.dup, 1) := by decide +kernel
theorem dL_law_12 : decode cL_law 12 = .ok (.invokespecial 71, 3) := by decide +kernel
theorem dL_law_15 : decode cL_law 15 = .ok (.astore_n 2, 1) := by decide +kernel
theorem dL_law_16 : decode cL_law 16 = .ok (.iconst 1, 1) := by decide +kernel
theorem dL_law_17 : decode cL_law 17 = .ok (.newarray .long, 2) := by decide +kernel
theorem dL_law_19 : decode cL_law 19 = .ok (.astore_n 3, 1) := by decide +kernel
theorem dL_law_20 : decode cL_law 20 = .ok (.iconst 0, 1) := by decide +kernel
theorem dL_law_21 : decode cL_law 21 = .ok (.istore 4, 2) := by decide +kernel
theorem dL_law_23 : decode cL_law 23 = .ok (.iload 4, 2) := by decide +kernel
theorem dL_law_25 : decode cL_law 25 = .ok (.aload_n 0, 1) := by decide +kernel
theorem dL_law_26 : decode cL_law 26 = .ok (.arraylength, 1) := by decide +kernel
theorem dL_law_27 : decode cL_law 27 = .ok (.iconst 4, 1) := by decide +kernel
theorem dL_law_28 : decode cL_law 28 = .ok (.isub, 1) := by decide +kernel
theorem dL_law_29 : decode cL_law 29 = .ok (.if_icmp .gt 1268, 3) := by decide +kernel
theorem dL_law_32 : decode cL_law 32 = .ok (.aload_n 0, 1) := by decide +kernel
theorem dL_law_33 : decode cL_law 33 = .ok (.iload 4, 2) := by decide +kernel
theorem dL_law_35 : decode cL_law 35 = .ok (.iaload, 1) := by decide +kernel
theorem dL_law_36 : decode cL_law 36 = .ok (.bipush 31, 2) := by decide +kernel
theorem dL_law_38 : decode cL_law 38 = .ok (.iand, 1) := by decide +kernel
theorem dL_law_39 : decode cL_law 39 = .ok (.tableswitch 1252 0 22 #[105, 173, 241, 321, 389, 457, 525, 581, 637, 717, 797, 853, 866, 922, 978, 1034, 1090, 1146, 1159, 1172, 1185, 1198, 1211], 105) := by decide +kernel
theorem dL_law_144 : decode cL_law 144 = .ok (.aload_n 1, 1) := by decide +kernel
theorem dL_law_145 : decode cL_law 145 = .ok (.aload_n 0, 1) := by decide +kernel
theorem dL_law_146 : decode cL_law 146 = .ok (.iload 4, 2) := by decide +kernel
theorem dL_law_148 : decode cL_law 148 = .ok (.iconst 1, 1) := by decide +kernel
theorem dL_law_149 : decode cL_law 149 = .ok (.iadd, 1) := by decide +kernel
theorem dL_law_150 : decode cL_law 150 = .ok (.iaload, 1) := by decide +kernel
theorem dL_law_151 : decode cL_law 151 = .ok (.aload_n 0, 1) := by decide +kernel
theorem dL_law_152 : decode cL_law 152 = .ok (.iload 4, 2) := by decide +kernel
theorem dL_law_154 : decode cL_law 154 = .ok (.iconst 2, 1) := by decide +kernel
theorem dL_law_155 : decode cL_law 155 = .ok (.iadd, 1) := by decide +kernel
theorem dL_law_156 : decode cL_law 156 = .ok (.iaload, 1) := by decide +kernel
theorem dL_law_157 : decode cL_law 157 = .ok (.aload_n 3, 1) := by decide +kernel
theorem dL_law_158 : decode cL_law 158 = .ok (.invokestatic 72, 3) := by decide +kernel
theorem dL_law_161 : decode cL_law 161 = .ok (.istore 5, 2) := by decide +kernel
theorem dL_law_163 : decode cL_law 163 = .ok (.aload_n 2, 1) := by decide +kernel
theorem dL_law_164 : decode cL_law 164 = .ok (.aload_n 0, 1) := by decide +kernel
theorem dL_law_165 : decode cL_law 165 = .ok (.iload 4, 2) := by decide +kernel
theorem dL_law_167 : decode cL_law 167 = .ok (.iconst 1, 1) := by decide +kernel
theorem dL_law_168 : decode cL_law 168 = .ok (.iadd, 1) := by decide +kernel
theorem dL_law_169 : decode cL_law 169 = .ok (.iaload, 1) := by decide +kernel
theorem dL_law_170 : decode cL_law 170 = .ok (.aload_n 0, 1) := by decide +kernel
theorem dL_law_171 : decode cL_law 171 = .ok (.iload 4, 2) := by decide +kernel
theorem dL_law_173 : decode cL_law 173 = .ok (.iconst 2, 1) := by decide +kernel
theorem dL_law_174 : decode cL_law 174 = .ok (.iadd, 1) := by decide +kernel
theorem dL_law_175 : decode cL_law 175 = .ok (.iaload, 1) := by decide +kernel
theorem dL_law_176 : decode cL_law 176 = .ok (.invokevirtual 77, 3) := by decide +kernel
theorem dL_law_179 : decode cL_law 179 = .ok (.istore 6, 2) := by decide +kernel
theorem dL_law_181 : decode cL_law 181 = .ok (.aload_n 2, 1) := by decide +kernel
theorem dL_law_182 : decode cL_law 182 = .ok (.invokevirtual 78, 3) := by decide +kernel
theorem dL_law_185 : decode cL_law 185 = .ok (.iload 5, 2) := by decide +kernel
theorem dL_law_187 : decode cL_law 187 = .ok (.if_icmp .eq 5, 3) := by decide +kernel
theorem dL_law_190 : decode cL_law 190 = .ok (.iconst 0, 1) := by decide +kernel
theorem dL_law_191 : decode cL_law 191 = .ok (.ireturn, 1) := by decide +kernel
theorem dL_law_192 : decode cL_law 192 = .ok (.iload 5, 2) := by decide +kernel
theorem dL_law_194 : decode cL_law 194 = .ok (.ifCond .ne 15, 3) := by decide +kernel
theorem dL_law_197 : decode cL_law 197 = .ok (.aload_n 3, 1) := by decide +kernel
theorem dL_law_198 : decode cL_law 198 = .ok (.iconst 0, 1) := by decide +kernel
theorem dL_law_199 : decode cL_law 199 = .ok (.laload, 1) := by decide +kernel
theorem dL_law_200 : decode cL_law 200 = .ok (.iload 6, 2) := by decide +kernel
theorem dL_law_202 : decode cL_law 202 = .ok (.i2l, 1) := by decide +kernel
theorem dL_law_203 : decode cL_law 203 = .ok (.lcmp, 1) := by decide +kernel
theorem dL_law_204 : decode cL_law 204 = .ok (.ifCond .eq 5, 3) := by decide +kernel
theorem dL_law_207 : decode cL_law 207 = .ok (.iconst 0, 1) := by decide +kernel
theorem dL_law_208 : decode cL_law 208 = .ok (.ireturn, 1) := by decide +kernel
theorem dL_law_209 : decode cL_law 209 = .ok (.goto 1082, 3) := by decide +kernel
theorem dL_law_212 : decode cL_law 212 = .ok (.aload_n 1, 1) := by decide +kernel
theorem dL_law_213 : decode cL_law 213 = .ok (.aload_n 0, 1) := by decide +kernel
theorem dL_law_214 : decode cL_law 214 = .ok (.iload 4, 2) := by decide +kernel
theorem dL_law_216 : decode cL_law 216 = .ok (.iconst 1, 1) := by decide +kernel
theorem dL_law_217 : decode cL_law 217 = .ok (.iadd, 1) := by decide +kernel
theorem dL_law_218 : decode cL_law 218 = .ok (.iaload, 1) := by decide +kernel
theorem dL_law_219 : decode cL_law 219 = .ok (.aload_n 0, 1) := by decide +kernel
theorem dL_law_220 : decode cL_law 220 = .ok (.iload 4, 2) := by decide +kernel
theorem dL_law_222 : decode cL_law 222 = .ok (.iconst 2, 1) := by decide +kernel
theorem dL_law_223 : decode cL_law 223 = .ok (.iadd, 1) := by decide +kernel
theorem dL_law_224 : decode cL_law 224 = .ok (.iaload, 1) := by decide +kernel
theorem dL_law_225 : decode cL_law 225 = .ok (.aload_n 3, 1) := by decide +kernel
theorem dL_law_226 : decode cL_law 226 = .ok (.invokestatic 82, 3) := by decide +kernel
theorem dL_law_229 : decode cL_law 229 = .ok (.istore 5, 2) := by decide +kernel
theorem dL_law_231 : decode cL_law 231 = .ok (.aload_n 2, 1) := by decide +kernel
theorem dL_law_232 : decode cL_law 232 = .ok (.aload_n 0, 1) := by decide +kernel
theorem dL_law_233 : decode cL_law 233 = .ok (.iload 4, 2) := by decide +kernel
theorem dL_law_235 : decode cL_law 235 = .ok (.iconst 1, 1) := by decide +kernel
theorem dL_law_236 : decode cL_law 236 = .ok (.iadd, 1) := by decide +kernel
theorem dL_law_237 : decode cL_law 237 = .ok (.iaload, 1) := by decide +kernel
theorem dL_law_238 : decode cL_law 238 = .ok (.aload_n 0, 1) := by decide +kernel
theorem dL_law_239 : decode cL_law 239 = .ok (.iload 4, 2) := by decide +kernel
theorem dL_law_241 : decode cL_law 241 = .ok (.iconst 2, 1) := by decide +kernel
theorem dL_law_242 : decode cL_law 242 = .ok (.iadd, 1) := by decide +kernel
theorem dL_law_243 : decode cL_law 243 = .ok (.iaload, 1) := by decide +kernel
theorem dL_law_244 : decode cL_law 244 = .ok (.invokevirtual 84, 3) := by decide +kernel
theorem dL_law_247 : decode cL_law 247 = .ok (.istore 6, 2) := by decide +kernel
theorem dL_law_249 : decode cL_law 249 = .ok (.aload_n 2, 1) := by decide +kernel
theorem dL_law_250 : decode cL_law 250 = .ok (.invokevirtual 78, 3) := by decide +kernel
theorem dL_law_253 : decode cL_law 253 = .ok (.iload 5, 2) := by decide +kernel
theorem dL_law_255 : decode cL_law 255 = .ok (.if_icmp .eq 5, 3) := by decide +kernel
theorem dL_law_258 : decode cL_law 258 = .ok (.iconst 0, 1) := by decide +kernel
theorem dL_law_259 : decode cL_law 259 = .ok (.ireturn, 1) := by decide +kernel
theorem dL_law_260 : decode cL_law 260 = .ok (.iload 5, 2) := by decide +kernel
theorem dL_law_262 : decode cL_law 262 = .ok (.ifCond .ne 15, 3) := by decide +kernel
theorem dL_law_265 : decode cL_law 265 = .ok (.aload_n 3, 1) := by decide +kernel
theorem dL_law_266 : decode cL_law 266 = .ok (.iconst 0, 1) := by decide +kernel
theorem dL_law_267 : decode cL_law 267 = .ok (.laload, 1) := by decide +kernel
theorem dL_law_268 : decode cL_law 268 = .ok (.iload 6, 2) := by decide +kernel
theorem dL_law_270 : decode cL_law 270 = .ok (.i2l, 1) := by decide +kernel
theorem dL_law_271 : decode cL_law 271 = .ok (.lcmp, 1) := by decide +kernel
theorem dL_law_272 : decode cL_law 272 = .ok (.ifCond .eq 5, 3) := by decide +kernel
theorem dL_law_275 : decode cL_law 275 = .ok (.iconst 0, 1) := by decide +kernel
theorem dL_law_276 : decode cL_law 276 = .ok (.ireturn, 1) := by decide +kernel
theorem dL_law_277 : decode cL_law 277 = .ok (.goto 1014, 3) := by decide +kernel
theorem dL_law_280 : decode cL_law 280 = .ok (.aload_n 1, 1) := by decide +kernel
theorem dL_law_281 : decode cL_law 281 = .ok (.aload_n 0, 1) := by decide +kernel
theorem dL_law_282 : decode cL_law 282 = .ok (.iload 4, 2) := by decide +kernel
theorem dL_law_284 : decode cL_law 284 = .ok (.iconst 1, 1) := by decide +kernel
theorem dL_law_285 : decode cL_law 285 = .ok (.iadd, 1) := by decide +kernel
theorem dL_law_286 : decode cL_law 286 = .ok (.iaload, 1) := by decide +kernel
theorem dL_law_287 : decode cL_law 287 = .ok (.aload_n 0, 1) := by decide +kernel
theorem dL_law_288 : decode cL_law 288 = .ok (.iload 4, 2) := by decide +kernel
theorem dL_law_290 : decode cL_law 290 = .ok (.iconst 2, 1) := by decide +kernel
theorem dL_law_291 : decode cL_law 291 = .ok (.iadd, 1) := by decide +kernel
theorem dL_law_292 : decode cL_law 292 = .ok (.iaload, 1) := by decide +kernel
theorem dL_law_293 : decode cL_law 293 = .ok (.aload_n 0, 1) := by decide +kernel
theorem dL_law_294 : decode cL_law 294 = .ok (.iload 4, 2) := by decide +kernel
theorem dL_law_296 : decode cL_law 296 = .ok (.iconst 3, 1) := by decide +kernel
theorem dL_law_297 : decode cL_law 297 = .ok (.iadd, 1) := by decide +kernel
theorem dL_law_298 : decode cL_law 298 = .ok (.iaload, 1) := by decide +kernel
theorem dL_law_299 : decode cL_law 299 = .ok (.aload_n 3, 1) := by decide +kernel
theorem dL_law_300 : decode cL_law 300 = .ok (.invokestatic 85, 3) := by decide +kernel
theorem dL_law_303 : decode cL_law 303 = .ok (.istore 5, 2) := by decide +kernel
theorem dL_law_305 : decode cL_law 305 = .ok (.aload_n 2, 1) := by decide +kernel
theorem dL_law_306 : decode cL_law 306 = .ok (.aload_n 0, 1) := by decide +kernel
theorem dL_law_307 : decode cL_law 307 = .ok (.iload 4, 2) := by decide +kernel
theorem dL_law_309 : decode cL_law 309 = .ok (.iconst 1, 1) := by decide +kernel
theorem dL_law_310 : decode cL_law 310 = .ok (.iadd, 1) := by decide +kernel
theorem dL_law_311 : decode cL_law 311 = .ok (.iaload, 1) := by decide +kernel
theorem dL_law_312 : decode cL_law 312 = .ok (.aload_n 0, 1) := by decide +kernel
theorem dL_law_313 : decode cL_law 313 = .ok (.iload 4, 2) := by decide +kernel
theorem dL_law_315 : decode cL_law 315 = .ok (.iconst 2, 1) := by decide +kernel
theorem dL_law_316 : decode cL_law 316 = .ok (.iadd, 1) := by decide +kernel
theorem dL_law_317 : decode cL_law 317 = .ok (.iaload, 1) := by decide +kernel
theorem dL_law_318 : decode cL_law 318 = .ok (.aload_n 0, 1) := by decide +kernel
theorem dL_law_319 : decode cL_law 319 = .ok (.iload 4, 2) := by decide +kernel
theorem dL_law_321 : decode cL_law 321 = .ok (.iconst 3, 1) := by decide +kernel
theorem dL_law_322 : decode cL_law 322 = .ok (.iadd, 1) := by decide +kernel
theorem dL_law_323 : decode cL_law 323 = .ok (.iaload, 1) := by decide +kernel
theorem dL_law_324 : decode cL_law 324 = .ok (.invokevirtual 88, 3) := by decide +kernel
theorem dL_law_327 : decode cL_law 327 = .ok (.istore 6, 2) := by decide +kernel
theorem dL_law_329 : decode cL_law 329 = .ok (.aload_n 2, 1) := by decide +kernel
theorem dL_law_330 : decode cL_law 330 = .ok (.invokevirtual 78, 3) := by decide +kernel
theorem dL_law_333 : decode cL_law 333 = .ok (.iload 5, 2) := by decide +kernel
theorem dL_law_335 : decode cL_law 335 = .ok (.if_icmp .eq 5, 3) := by decide +kernel
theorem dL_law_338 : decode cL_law 338 = .ok (.iconst 0, 1) := by decide +kernel
theorem dL_law_339 : decode cL_law 339 = .ok (.ireturn, 1) := by decide +kernel
theorem dL_law_340 : decode cL_law 340 = .ok (.iload 5, 2) := by decide +kernel
theorem dL_law_342 : decode cL_law 342 = .ok (.ifCond .ne 15, 3) := by decide +kernel
theorem dL_law_345 : decode cL_law 345 = .ok (.aload_n 3, 1) := by decide +kernel
theorem dL_law_346 : decode cL_law 346 = .ok (.iconst 0, 1) := by decide +kernel
theorem dL_law_347 : decode cL_law 347 = .ok (.laload, 1) := by decide +kernel
theorem dL_law_348 : decode cL_law 348 = .ok (.iload 6, 2) := by decide +kernel
theorem dL_law_350 : decode cL_law 350 = .ok (.i2l, 1) := by decide +kernel
theorem dL_law_351 : decode cL_law 351 = .ok (.lcmp, 1) := by decide +kernel
theorem dL_law_352 : decode cL_law 352 = .ok (.ifCond .eq 5, 3) := by decide +kernel
theorem dL_law_355 : decode cL_law 355 = .ok (.iconst 0, 1) := by decide +kernel
theorem dL_law_356 : decode cL_law 356 = .ok (.ireturn, 1) := by decide +kernel
theorem dL_law_357 : decode cL_law 357 = .ok (.goto 934, 3) := by decide +kernel
theorem dL_law_360 : decode cL_law 360 = .ok (.aload_n 1, 1) := by decide +kernel
theorem dL_law_361 : decode cL_law 361 = .ok (.aload_n 0, 1) := by decide +kernel
theorem dL_law_362 : decode cL_law 362 = .ok (.iload 4, 2) := by decide +kernel
theorem dL_law_364 : decode cL_law 364 = .ok (.iconst 1, 1) := by decide +kernel
theorem dL_law_365 : decode cL_law 365 = .ok (.iadd, 1) := by decide +kernel
theorem dL_law_366 : decode cL_law 366 = .ok (.iaload, 1) := by decide +kernel
theorem dL_law_367 : decode cL_law 367 = .ok (.aload_n 0, 1) := by decide +kernel
theorem dL_law_368 : decode cL_law 368 = .ok (.iload 4, 2) := by decide +kernel
theorem dL_law_370 : decode cL_law 370 = .ok (.iconst 2, 1) := by decide +kernel
theorem dL_law_371 : decode cL_law 371 = .ok (.iadd, 1) := by decide +kernel
theorem dL_law_372 : decode cL_law 372 = .ok (.iaload, 1) := by decide +kernel
theorem dL_law_373 : decode cL_law 373 = .ok (.aload_n 3, 1) := by decide +kernel
theorem dL_law_374 : decode cL_law 374 = .ok (.invokestatic 89, 3) := by decide +kernel
theorem dL_law_377 : decode cL_law 377 = .ok (.istore 5, 2) := by decide +kernel
theorem dL_law_379 : decode cL_law 379 = .ok (.aload_n 2, 1) := by decide +kernel
theorem dL_law_380 : decode cL_law 380 = .ok (.aload_n 0, 1) := by decide +kernel
theorem dL_law_381 : decode cL_law 381 = .ok (.iload 4, 2) := by decide +kernel
theorem dL_law_383 : decode cL_law 383 = .ok (.iconst 1, 1) := by decide +kernel
theorem dL_law_384 : decode cL_law 384 = .ok (.iadd, 1) := by decide +kernel
theorem dL_law_385 : decode cL_law 385 = .ok (.iaload, 1) := by decide +kernel
theorem dL_law_386 : decode cL_law 386 = .ok (.aload_n 0, 1) := by decide +kernel
theorem dL_law_387 : decode cL_law 387 = .ok (.iload 4, 2) := by decide +kernel
theorem dL_law_389 : decode cL_law 389 = .ok (.iconst 2, 1) := by decide +kernel
theorem dL_law_390 : decode cL_law 390 = .ok (.iadd, 1) := by decide +kernel
theorem dL_law_391 : decode cL_law 391 = .ok (.iaload, 1) := by decide +kernel
theorem dL_law_392 : decode cL_law 392 = .ok (.invokevirtual 91, 3) := by decide +kernel
theorem dL_law_395 : decode cL_law 395 = .ok (.istore 6, 2) := by decide +kernel
theorem dL_law_397 : decode cL_law 397 = .ok (.aload_n 2, 1) := by decide +kernel
theorem dL_law_398 : decode cL_law 398 = .ok (.invokevirtual 78, 3) := by decide +kernel
theorem dL_law_401 : decode cL_law 401 = .ok (.iload 5, 2) := by decide +kernel
theorem dL_law_403 : decode cL_law 403 = .ok (.if_icmp .eq 5, 3) := by decide +kernel
theorem dL_law_406 : decode cL_law 406 = .ok (.iconst 0, 1) := by decide +kernel
theorem dL_law_407 : decode cL_law 407 = .ok (.ireturn, 1) := by decide +kernel
theorem dL_law_408 : decode cL_law 408 = .ok (.iload 5, 2) := by decide +kernel
theorem dL_law_410 : decode cL_law 410 = .ok (.ifCond .ne 15, 3) := by decide +kernel
theorem dL_law_413 : decode cL_law 413 = .ok (.aload_n 3, 1) := by decide +kernel
theorem dL_law_414 : decode cL_law 414 = .ok (.iconst 0, 1) := by decide +kernel
theorem dL_law_415 : decode cL_law 415 = .ok (.laload, 1) := by decide +kernel
theorem dL_law_416 : decode cL_law 416 = .ok (.iload 6, 2) := by decide +kernel
theorem dL_law_418 : decode cL_law 418 = .ok (.i2l, 1) := by decide +kernel
theorem dL_law_419 : decode cL_law 419 = .ok (.lcmp, 1) := by decide +kernel
theorem dL_law_420 : decode cL_law 420 = .ok (.ifCond .eq 5, 3) := by decide +kernel
theorem dL_law_423 : decode cL_law 423 = .ok (.iconst 0, 1) := by decide +kernel
theorem dL_law_424 : decode cL_law 424 = .ok (.ireturn, 1) := by decide +kernel
theorem dL_law_425 : decode cL_law 425 = .ok (.goto 866, 3) := by decide +kernel
theorem dL_law_428 : decode cL_law 428 = .ok (.aload_n 1, 1) := by decide +kernel
theorem dL_law_429 : decode cL_law 429 = .ok (.aload_n 0, 1) := by decide +kernel
theorem dL_law_430 : decode cL_law 430 = .ok (.iload 4, 2) := by decide +kernel
theorem dL_law_432 : decode cL_law 432 = .ok (.iconst 1, 1) := by decide +kernel
theorem dL_law_433 : decode cL_law 433 = .ok (.iadd, 1) := by decide +kernel
theorem dL_law_434 : decode cL_law 434 = .ok (.iaload, 1) := by decide +kernel
theorem dL_law_435 : decode cL_law 435 = .ok (.aload_n 0, 1) := by decide +kernel
theorem dL_law_436 : decode cL_law 436 = .ok (.iload 4, 2) := by decide +kernel
theorem dL_law_438 : decode cL_law 438 = .ok (.iconst 2, 1) := by decide +kernel
theorem dL_law_439 : decode cL_law 439 = .ok (.iadd, 1) := by decide +kernel
theorem dL_law_440 : decode cL_law 440 = .ok (.iaload, 1) := by decide +kernel
theorem dL_law_441 : decode cL_law 441 = .ok (.aload_n 3, 1) := by decide +kernel
theorem dL_law_442 : decode cL_law 442 = .ok (.invokestatic 92, 3) := by decide +kernel
theorem dL_law_445 : decode cL_law 445 = .ok (.istore 5, 2) := by decide +kernel
theorem dL_law_447 : decode cL_law 447 = .ok (.aload_n 2, 1) := by decide +kernel
theorem dL_law_448 : decode cL_law 448 = .ok (.aload_n 0, 1) := by decide +kernel
theorem dL_law_449 : decode cL_law 449 = .ok (.iload 4, 2) := by decide +kernel
theorem dL_law_451 : decode cL_law 451 = .ok (.iconst 1, 1) := by decide +kernel
theorem dL_law_452 : decode cL_law 452 = .ok (.iadd, 1) := by decide +kernel
theorem dL_law_453 : decode cL_law 453 = .ok (.iaload, 1) := by decide +kernel
theorem dL_law_454 : decode cL_law 454 = .ok (.aload_n 0, 1) := by decide +kernel
theorem dL_law_455 : decode cL_law 455 = .ok (.iload 4, 2) := by decide +kernel
theorem dL_law_457 : decode cL_law 457 = .ok (.iconst 2, 1) := by decide +kernel
theorem dL_law_458 : decode cL_law 458 = .ok (.iadd, 1) := by decide +kernel
theorem dL_law_459 : decode cL_law 459 = .ok (.iaload, 1) := by decide +kernel
theorem dL_law_460 : decode cL_law 460 = .ok (.invokevirtual 94, 3) := by decide +kernel
theorem dL_law_463 : decode cL_law 463 = .ok (.istore 6, 2) := by decide +kernel
theorem dL_law_465 : decode cL_law 465 = .ok (.aload_n 2, 1) := by decide +kernel
theorem dL_law_466 : decode cL_law 466 = .ok (.invokevirtual 78, 3) := by decide +kernel
theorem dL_law_469 : decode cL_law 469 = .ok (.iload 5, 2) := by decide +kernel
theorem dL_law_471 : decode cL_law 471 = .ok (.if_icmp .eq 5, 3) := by decide +kernel
theorem dL_law_474 : decode cL_law 474 = .ok (.iconst 0, 1) := by decide +kernel
theorem dL_law_475 : decode cL_law 475 = .ok (.ireturn, 1) := by decide +kernel
theorem dL_law_476 : decode cL_law 476 = .ok (.iload 5, 2) := by decide +kernel
theorem dL_law_478 : decode cL_law 478 = .ok (.ifCond .ne 15, 3) := by decide +kernel
theorem dL_law_481 : decode cL_law 481 = .ok (.aload_n 3, 1) := by decide +kernel
theorem dL_law_482 : decode cL_law 482 = .ok (.iconst 0, 1) := by decide +kernel
theorem dL_law_483 : decode cL_law 483 = .ok (.laload, 1) := by decide +kernel
theorem dL_law_484 : decode cL_law 484 = .ok (.iload 6, 2) := by decide +kernel
theorem dL_law_486 : decode cL_law 486 = .ok (.i2l, 1) := by decide +kernel
theorem dL_law_487 : decode cL_law 487 = .ok (.lcmp, 1) := by decide +kernel
theorem dL_law_488 : decode cL_law 488 = .ok (.ifCond .eq 5, 3) := by decide +kernel
theorem dL_law_491 : decode cL_law 491 = .ok (.iconst 0, 1) := by decide +kernel
theorem dL_law_492 : decode cL_law 492 = .ok (.ireturn, 1) := by decide +kernel
theorem dL_law_493 : decode cL_law 493 = .ok (.goto 798, 3) := by decide +kernel
theorem dL_law_496 : decode cL_law 496 = .ok (.aload_n 1, 1) := by decide +kernel
theorem dL_law_497 : decode cL_law 497 = .ok (.aload_n 0, 1) := by decide +kernel
theorem dL_law_498 : decode cL_law 498 = .ok (.iload 4, 2) := by decide +kernel
theorem dL_law_500 : decode cL_law 500 = .ok (.iconst 1, 1) := by decide +kernel
theorem dL_law_501 : decode cL_law 501 = .ok (.iadd, 1) := by decide +kernel
theorem dL_law_502 : decode cL_law 502 = .ok (.iaload, 1) := by decide +kernel
theorem dL_law_503 : decode cL_law 503 = .ok (.aload_n 0, 1) := by decide +kernel
theorem dL_law_504 : decode cL_law 504 = .ok (.iload 4, 2) := by decide +kernel
theorem dL_law_506 : decode cL_law 506 = .ok (.iconst 2, 1) := by decide +kernel
theorem dL_law_507 : decode cL_law 507 = .ok (.iadd, 1) := by decide +kernel
theorem dL_law_508 : decode cL_law 508 = .ok (.iaload, 1) := by decide +kernel
theorem dL_law_509 : decode cL_law 509 = .ok (.aload_n 3, 1) := by decide +kernel
theorem dL_law_510 : decode cL_law 510 = .ok (.invokestatic 95, 3) := by decide +kernel
theorem dL_law_513 : decode cL_law 513 = .ok (.istore 5, 2) := by decide +kernel
theorem dL_law_515 : decode cL_law 515 = .ok (.aload_n 2, 1) := by decide +kernel
theorem dL_law_516 : decode cL_law 516 = .ok (.aload_n 0, 1) := by decide +kernel
theorem dL_law_517 : decode cL_law 517 = .ok (.iload 4, 2) := by decide +kernel
theorem dL_law_519 : decode cL_law 519 = .ok (.iconst 1, 1) := by decide +kernel
theorem dL_law_520 : decode cL_law 520 = .ok (.iadd, 1) := by decide +kernel
theorem dL_law_521 : decode cL_law 521 = .ok (.iaload, 1) := by decide +kernel
theorem dL_law_522 : decode cL_law 522 = .ok (.aload_n 0, 1) := by decide +kernel
theorem dL_law_523 : decode cL_law 523 = .ok (.iload 4, 2) := by decide +kernel
theorem dL_law_525 : decode cL_law 525 = .ok (.iconst 2, 1) := by decide +kernel
theorem dL_law_526 : decode cL_law 526 = .ok (.iadd, 1) := by decide +kernel
theorem dL_law_527 : decode cL_law 527 = .ok (.iaload, 1) := by decide +kernel
theorem dL_law_528 : decode cL_law 528 = .ok (.invokevirtual 97, 3) := by decide +kernel
theorem dL_law_531 : decode cL_law 531 = .ok (.istore 6, 2) := by decide +kernel
theorem dL_law_533 : decode cL_law 533 = .ok (.aload_n 2, 1) := by decide +kernel
theorem dL_law_534 : decode cL_law 534 = .ok (.invokevirtual 78, 3) := by decide +kernel
theorem dL_law_537 : decode cL_law 537 = .ok (.iload 5, 2) := by decide +kernel
theorem dL_law_539 : decode cL_law 539 = .ok (.if_icmp .eq 5, 3) := by decide +kernel
theorem dL_law_542 : decode cL_law 542 = .ok (.iconst 0, 1) := by decide +kernel
theorem dL_law_543 : decode cL_law 543 = .ok (.ireturn, 1) := by decide +kernel
theorem dL_law_544 : decode cL_law 544 = .ok (.iload 5, 2) := by decide +kernel
theorem dL_law_546 : decode cL_law 546 = .ok (.ifCond .ne 15, 3) := by decide +kernel
theorem dL_law_549 : decode cL_law 549 = .ok (.aload_n 3, 1) := by decide +kernel
theorem dL_law_550 : decode cL_law 550 = .ok (.iconst 0, 1) := by decide +kernel
theorem dL_law_551 : decode cL_law 551 = .ok (.laload, 1) := by decide +kernel
theorem dL_law_552 : decode cL_law 552 = .ok (.iload 6, 2) := by decide +kernel
theorem dL_law_554 : decode cL_law 554 = .ok (.i2l, 1) := by decide +kernel
theorem dL_law_555 : decode cL_law 555 = .ok (.lcmp, 1) := by decide +kernel
theorem dL_law_556 : decode cL_law 556 = .ok (.ifCond .eq 5, 3) := by decide +kernel
theorem dL_law_559 : decode cL_law 559 = .ok (.iconst 0, 1) := by decide +kernel
theorem dL_law_560 : decode cL_law 560 = .ok (.ireturn, 1) := by decide +kernel
theorem dL_law_561 : decode cL_law 561 = .ok (.goto 730, 3) := by decide +kernel
theorem dL_law_564 : decode cL_law 564 = .ok (.aload_n 1, 1) := by decide +kernel
theorem dL_law_565 : decode cL_law 565 = .ok (.aload_n 0, 1) := by decide +kernel
theorem dL_law_566 : decode cL_law 566 = .ok (.iload 4, 2) := by decide +kernel
theorem dL_law_568 : decode cL_law 568 = .ok (.iconst 1, 1) := by decide +kernel
theorem dL_law_569 : decode cL_law 569 = .ok (.iadd, 1) := by decide +kernel
theorem dL_law_570 : decode cL_law 570 = .ok (.iaload, 1) := by decide +kernel
theorem dL_law_571 : decode cL_law 571 = .ok (.aload_n 3, 1) := by decide +kernel
theorem dL_law_572 : decode cL_law 572 = .ok (.invokestatic 98, 3) := by decide +kernel
theorem dL_law_575 : decode cL_law 575 = .ok (.istore 5, 2) := by decide +kernel
theorem dL_law_577 : decode cL_law 577 = .ok (.aload_n 2, 1) := by decide +kernel
theorem dL_law_578 : decode cL_law 578 = .ok (.aload_n 0, 1) := by decide +kernel
theorem dL_law_579 : decode cL_law 579 = .ok (.iload 4, 2) := by decide +kernel
theorem dL_law_581 : decode cL_law 581 = .ok (.iconst 1, 1) := by decide +kernel
theorem dL_law_582 : decode cL_law 582 = .ok (.iadd, 1) := by decide +kernel
theorem dL_law_583 : decode cL_law 583 = .ok (.iaload, 1) := by decide +kernel
theorem dL_law_584 : decode cL_law 584 = .ok (.invokevirtual 101, 3) := by decide +kernel
theorem dL_law_587 : decode cL_law 587 = .ok (.istore 6, 2) := by decide +kernel
theorem dL_law_589 : decode cL_law 589 = .ok (.aload_n 2, 1) := by decide +kernel
theorem dL_law_590 : decode cL_law 590 = .ok (.invokevirtual 78, 3) := by decide +kernel
theorem dL_law_593 : decode cL_law 593 = .ok (.iload 5, 2) := by decide +kernel
theorem dL_law_595 : decode cL_law 595 = .ok (.if_icmp .eq 5, 3) := by decide +kernel
theorem dL_law_598 : decode cL_law 598 = .ok (.iconst 0, 1) := by decide +kernel
theorem dL_law_599 : decode cL_law 599 = .ok (.ireturn, 1) := by decide +kernel
theorem dL_law_600 : decode cL_law 600 = .ok (.iload 5, 2) := by decide +kernel
theorem dL_law_602 : decode cL_law 602 = .ok (.ifCond .ne 15, 3) := by decide +kernel
theorem dL_law_605 : decode cL_law 605 = .ok (.aload_n 3, 1) := by decide +kernel
theorem dL_law_606 : decode cL_law 606 = .ok (.iconst 0, 1) := by decide +kernel
theorem dL_law_607 : decode cL_law 607 = .ok (.laload, 1) := by decide +kernel
theorem dL_law_608 : decode cL_law 608 = .ok (.iload 6, 2) := by decide +kernel
theorem dL_law_610 : decode cL_law 610 = .ok (.i2l, 1) := by decide +kernel
theorem dL_law_611 : decode cL_law 611 = .ok (.lcmp, 1) := by decide +kernel
theorem dL_law_612 : decode cL_law 612 = .ok (.ifCond .eq 5, 3) := by decide +kernel
theorem dL_law_615 : decode cL_law 615 = .ok (.iconst 0, 1) := by decide +kernel
theorem dL_law_616 : decode cL_law 616 = .ok (.ireturn, 1) := by decide +kernel
theorem dL_law_617 : decode cL_law 617 = .ok (.goto 674, 3) := by decide +kernel
theorem dL_law_620 : decode cL_law 620 = .ok (.aload_n 1, 1) := by decide +kernel
theorem dL_law_621 : decode cL_law 621 = .ok (.aload_n 0, 1) := by decide +kernel
theorem dL_law_622 : decode cL_law 622 = .ok (.iload 4, 2) := by decide +kernel
theorem dL_law_624 : decode cL_law 624 = .ok (.iconst 1, 1) := by decide +kernel
theorem dL_law_625 : decode cL_law 625 = .ok (.iadd, 1) := by decide +kernel
theorem dL_law_626 : decode cL_law 626 = .ok (.iaload, 1) := by decide +kernel
theorem dL_law_627 : decode cL_law 627 = .ok (.aload_n 3, 1) := by decide +kernel
theorem dL_law_628 : decode cL_law 628 = .ok (.invokestatic 102, 3) := by decide +kernel
theorem dL_law_631 : decode cL_law 631 = .ok (.istore 5, 2) := by decide +kernel
theorem dL_law_633 : decode cL_law 633 = .ok (.aload_n 2, 1) := by decide +kernel
theorem dL_law_634 : decode cL_law 634 = .ok (.aload_n 0, 1) := by decide +kernel
theorem dL_law_635 : decode cL_law 635 = .ok (.iload 4, 2) := by decide +kernel
theorem dL_law_637 : decode cL_law 637 = .ok (.iconst 1, 1) := by decide +kernel
theorem dL_law_638 : decode cL_law 638 = .ok (.iadd, 1) := by decide +kernel
theorem dL_law_639 : decode cL_law 639 = .ok (.iaload, 1) := by decide +kernel
theorem dL_law_640 : decode cL_law 640 = .ok (.invokevirtual 104, 3) := by decide +kernel
theorem dL_law_643 : decode cL_law 643 = .ok (.istore 6, 2) := by decide +kernel
theorem dL_law_645 : decode cL_law 645 = .ok (.aload_n 2, 1) := by decide +kernel
theorem dL_law_646 : decode cL_law 646 = .ok (.invokevirtual 78, 3) := by decide +kernel
theorem dL_law_649 : decode cL_law 649 = .ok (.iload 5, 2) := by decide +kernel
theorem dL_law_651 : decode cL_law 651 = .ok (.if_icmp .eq 5, 3) := by decide +kernel
theorem dL_law_654 : decode cL_law 654 = .ok (.iconst 0, 1) := by decide +kernel
theorem dL_law_655 : decode cL_law 655 = .ok (.ireturn, 1) := by decide +kernel
theorem dL_law_656 : decode cL_law 656 = .ok (.iload 5, 2) := by decide +kernel
theorem dL_law_658 : decode cL_law 658 = .ok (.ifCond .ne 15, 3) := by decide +kernel
theorem dL_law_661 : decode cL_law 661 = .ok (.aload_n 3, 1) := by decide +kernel
theorem dL_law_662 : decode cL_law 662 = .ok (.iconst 0, 1) := by decide +kernel
theorem dL_law_663 : decode cL_law 663 = .ok (.laload, 1) := by decide +kernel
theorem dL_law_664 : decode cL_law 664 = .ok (.iload 6, 2) := by decide +kernel
theorem dL_law_666 : decode cL_law 666 = .ok (.i2l, 1) := by decide +kernel
theorem dL_law_667 : decode cL_law 667 = .ok (.lcmp, 1) := by decide +kernel
theorem dL_law_668 : decode cL_law 668 = .ok (.ifCond .eq 5, 3) := by decide +kernel
theorem dL_law_671 : decode cL_law 671 = .ok (.iconst 0, 1) := by decide +kernel
theorem dL_law_672 : decode cL_law 672 = .ok (.ireturn, 1) := by decide +kernel
theorem dL_law_673 : decode cL_law 673 = .ok (.goto 618, 3) := by decide +kernel
theorem dL_law_676 : decode cL_law 676 = .ok (.aload_n 1, 1) := by decide +kernel
theorem dL_law_677 : decode cL_law 677 = .ok (.aload_n 0, 1) := by decide +kernel
theorem dL_law_678 : decode cL_law 678 = .ok (.iload 4, 2) := by decide +kernel
theorem dL_law_680 : decode cL_law 680 = .ok (.iconst 1, 1) := by decide +kernel
theorem dL_law_681 : decode cL_law 681 = .ok (.iadd, 1) := by decide +kernel
theorem dL_law_682 : decode cL_law 682 = .ok (.iaload, 1) := by decide +kernel
theorem dL_law_683 : decode cL_law 683 = .ok (.aload_n 0, 1) := by decide +kernel
theorem dL_law_684 : decode cL_law 684 = .ok (.iload 4, 2) := by decide +kernel
theorem dL_law_686 : decode cL_law 686 = .ok (.iconst 2, 1) := by decide +kernel
theorem dL_law_687 : decode cL_law 687 = .ok (.iadd, 1) := by decide +kernel
theorem dL_law_688 : decode cL_law 688 = .ok (.iaload, 1) := by decide +kernel
theorem dL_law_689 : decode cL_law 689 = .ok (.aload_n 0, 1) := by decide +kernel
theorem dL_law_690 : decode cL_law 690 = .ok (.iload 4, 2) := by decide +kernel
theorem dL_law_692 : decode cL_law 692 = .ok (.iconst 3, 1) := by decide +kernel
theorem dL_law_693 : decode cL_law 693 = .ok (.iadd, 1) := by decide +kernel
theorem dL_law_694 : decode cL_law 694 = .ok (.iaload, 1) := by decide +kernel
theorem dL_law_695 : decode cL_law 695 = .ok (.aload_n 3, 1) := by decide +kernel
theorem dL_law_696 : decode cL_law 696 = .ok (.invokestatic 105, 3) := by decide +kernel
theorem dL_law_699 : decode cL_law 699 = .ok (.istore 5, 2) := by decide +kernel
theorem dL_law_701 : decode cL_law 701 = .ok (.aload_n 2, 1) := by decide +kernel
theorem dL_law_702 : decode cL_law 702 = .ok (.aload_n 0, 1) := by decide +kernel
theorem dL_law_703 : decode cL_law 703 = .ok (.iload 4, 2) := by decide +kernel
theorem dL_law_705 : decode cL_law 705 = .ok (.iconst 1, 1) := by decide +kernel
theorem dL_law_706 : decode cL_law 706 = .ok (.iadd, 1) := by decide +kernel
theorem dL_law_707 : decode cL_law 707 = .ok (.iaload, 1) := by decide +kernel
theorem dL_law_708 : decode cL_law 708 = .ok (.aload_n 0, 1) := by decide +kernel
theorem dL_law_709 : decode cL_law 709 = .ok (.iload 4, 2) := by decide +kernel
theorem dL_law_711 : decode cL_law 711 = .ok (.iconst 2, 1) := by decide +kernel
theorem dL_law_712 : decode cL_law 712 = .ok (.iadd, 1) := by decide +kernel
theorem dL_law_713 : decode cL_law 713 = .ok (.iaload, 1) := by decide +kernel
theorem dL_law_714 : decode cL_law 714 = .ok (.aload_n 0, 1) := by decide +kernel
theorem dL_law_715 : decode cL_law 715 = .ok (.iload 4, 2) := by decide +kernel
theorem dL_law_717 : decode cL_law 717 = .ok (.iconst 3, 1) := by decide +kernel
theorem dL_law_718 : decode cL_law 718 = .ok (.iadd, 1) := by decide +kernel
theorem dL_law_719 : decode cL_law 719 = .ok (.iaload, 1) := by decide +kernel
theorem dL_law_720 : decode cL_law 720 = .ok (.invokevirtual 107, 3) := by decide +kernel
theorem dL_law_723 : decode cL_law 723 = .ok (.istore 6, 2) := by decide +kernel
theorem dL_law_725 : decode cL_law 725 = .ok (.aload_n 2, 1) := by decide +kernel
theorem dL_law_726 : decode cL_law 726 = .ok (.invokevirtual 78, 3) := by decide +kernel
theorem dL_law_729 : decode cL_law 729 = .ok (.iload 5, 2) := by decide +kernel
theorem dL_law_731 : decode cL_law 731 = .ok (.if_icmp .eq 5, 3) := by decide +kernel
theorem dL_law_734 : decode cL_law 734 = .ok (.iconst 0, 1) := by decide +kernel
theorem dL_law_735 : decode cL_law 735 = .ok (.ireturn, 1) := by decide +kernel
theorem dL_law_736 : decode cL_law 736 = .ok (.iload 5, 2) := by decide +kernel
theorem dL_law_738 : decode cL_law 738 = .ok (.ifCond .ne 15, 3) := by decide +kernel
theorem dL_law_741 : decode cL_law 741 = .ok (.aload_n 3, 1) := by decide +kernel
theorem dL_law_742 : decode cL_law 742 = .ok (.iconst 0, 1) := by decide +kernel
theorem dL_law_743 : decode cL_law 743 = .ok (.laload, 1) := by decide +kernel
theorem dL_law_744 : decode cL_law 744 = .ok (.iload 6, 2) := by decide +kernel
theorem dL_law_746 : decode cL_law 746 = .ok (.i2l, 1) := by decide +kernel
theorem dL_law_747 : decode cL_law 747 = .ok (.lcmp, 1) := by decide +kernel
theorem dL_law_748 : decode cL_law 748 = .ok (.ifCond .eq 5, 3) := by decide +kernel
theorem dL_law_751 : decode cL_law 751 = .ok (.iconst 0, 1) := by decide +kernel
theorem dL_law_752 : decode cL_law 752 = .ok (.ireturn, 1) := by decide +kernel
theorem dL_law_753 : decode cL_law 753 = .ok (.goto 538, 3) := by decide +kernel
theorem dL_law_756 : decode cL_law 756 = .ok (.aload_n 1, 1) := by decide +kernel
theorem dL_law_757 : decode cL_law 757 = .ok (.aload_n 0, 1) := by decide +kernel
theorem dL_law_758 : decode cL_law 758 = .ok (.iload 4, 2) := by decide +kernel
theorem dL_law_760 : decode cL_law 760 = .ok (.iconst 1, 1) := by decide +kernel
theorem dL_law_761 : decode cL_law 761 = .ok (.iadd, 1) := by decide +kernel
theorem dL_law_762 : decode cL_law 762 = .ok (.iaload, 1) := by decide +kernel
theorem dL_law_763 : decode cL_law 763 = .ok (.aload_n 0, 1) := by decide +kernel
theorem dL_law_764 : decode cL_law 764 = .ok (.iload 4, 2) := by decide +kernel
theorem dL_law_766 : decode cL_law 766 = .ok (.iconst 2, 1) := by decide +kernel
theorem dL_law_767 : decode cL_law 767 = .ok (.iadd, 1) := by decide +kernel
theorem dL_law_768 : decode cL_law 768 = .ok (.iaload, 1) := by decide +kernel
theorem dL_law_769 : decode cL_law 769 = .ok (.aload_n 0, 1) := by decide +kernel
theorem dL_law_770 : decode cL_law 770 = .ok (.iload 4, 2) := by decide +kernel
theorem dL_law_772 : decode cL_law 772 = .ok (.iconst 3, 1) := by decide +kernel
theorem dL_law_773 : decode cL_law 773 = .ok (.iadd, 1) := by decide +kernel
theorem dL_law_774 : decode cL_law 774 = .ok (.iaload, 1) := by decide +kernel
theorem dL_law_775 : decode cL_law 775 = .ok (.aload_n 3, 1) := by decide +kernel
theorem dL_law_776 : decode cL_law 776 = .ok (.invokestatic 108, 3) := by decide +kernel
theorem dL_law_779 : decode cL_law 779 = .ok (.istore 5, 2) := by decide +kernel
theorem dL_law_781 : decode cL_law 781 = .ok (.aload_n 2, 1) := by decide +kernel
theorem dL_law_782 : decode cL_law 782 = .ok (.aload_n 0, 1) := by decide +kernel
theorem dL_law_783 : decode cL_law 783 = .ok (.iload 4, 2) := by decide +kernel
theorem dL_law_785 : decode cL_law 785 = .ok (.iconst 1, 1) := by decide +kernel
theorem dL_law_786 : decode cL_law 786 = .ok (.iadd, 1) := by decide +kernel
theorem dL_law_787 : decode cL_law 787 = .ok (.iaload, 1) := by decide +kernel
theorem dL_law_788 : decode cL_law 788 = .ok (.aload_n 0, 1) := by decide +kernel
theorem dL_law_789 : decode cL_law 789 = .ok (.iload 4, 2) := by decide +kernel
theorem dL_law_791 : decode cL_law 791 = .ok (.iconst 2, 1) := by decide +kernel
theorem dL_law_792 : decode cL_law 792 = .ok (.iadd, 1) := by decide +kernel
theorem dL_law_793 : decode cL_law 793 = .ok (.iaload, 1) := by decide +kernel
theorem dL_law_794 : decode cL_law 794 = .ok (.aload_n 0, 1) := by decide +kernel
theorem dL_law_795 : decode cL_law 795 = .ok (.iload 4, 2) := by decide +kernel
theorem dL_law_797 : decode cL_law 797 = .ok (.iconst 3, 1) := by decide +kernel
theorem dL_law_798 : decode cL_law 798 = .ok (.iadd, 1) := by decide +kernel
theorem dL_law_799 : decode cL_law 799 = .ok (.iaload, 1) := by decide +kernel
theorem dL_law_800 : decode cL_law 800 = .ok (.invokevirtual 110, 3) := by decide +kernel
theorem dL_law_803 : decode cL_law 803 = .ok (.istore 6, 2) := by decide +kernel
theorem dL_law_805 : decode cL_law 805 = .ok (.aload_n 2, 1) := by decide +kernel
theorem dL_law_806 : decode cL_law 806 = .ok (.invokevirtual 78, 3) := by decide +kernel
theorem dL_law_809 : decode cL_law 809 = .ok (.iload 5, 2) := by decide +kernel
theorem dL_law_811 : decode cL_law 811 = .ok (.if_icmp .eq 5, 3) := by decide +kernel
theorem dL_law_814 : decode cL_law 814 = .ok (.iconst 0, 1) := by decide +kernel
theorem dL_law_815 : decode cL_law 815 = .ok (.ireturn, 1) := by decide +kernel
theorem dL_law_816 : decode cL_law 816 = .ok (.iload 5, 2) := by decide +kernel
theorem dL_law_818 : decode cL_law 818 = .ok (.ifCond .ne 15, 3) := by decide +kernel
theorem dL_law_821 : decode cL_law 821 = .ok (.aload_n 3, 1) := by decide +kernel
theorem dL_law_822 : decode cL_law 822 = .ok (.iconst 0, 1) := by decide +kernel
theorem dL_law_823 : decode cL_law 823 = .ok (.laload, 1) := by decide +kernel
theorem dL_law_824 : decode cL_law 824 = .ok (.iload 6, 2) := by decide +kernel
theorem dL_law_826 : decode cL_law 826 = .ok (.i2l, 1) := by decide +kernel
theorem dL_law_827 : decode cL_law 827 = .ok (.lcmp, 1) := by decide +kernel
theorem dL_law_828 : decode cL_law 828 = .ok (.ifCond .eq 5, 3) := by decide +kernel
theorem dL_law_831 : decode cL_law 831 = .ok (.iconst 0, 1) := by decide +kernel
theorem dL_law_832 : decode cL_law 832 = .ok (.ireturn, 1) := by decide +kernel
theorem dL_law_833 : decode cL_law 833 = .ok (.goto 458, 3) := by decide +kernel
theorem dL_law_836 : decode cL_law 836 = .ok (.aload_n 1, 1) := by decide +kernel
theorem dL_law_837 : decode cL_law 837 = .ok (.aload_n 0, 1) := by decide +kernel
theorem dL_law_838 : decode cL_law 838 = .ok (.iload 4, 2) := by decide +kernel
theorem dL_law_840 : decode cL_law 840 = .ok (.iconst 1, 1) := by decide +kernel
theorem dL_law_841 : decode cL_law 841 = .ok (.iadd, 1) := by decide +kernel
theorem dL_law_842 : decode cL_law 842 = .ok (.iaload, 1) := by decide +kernel
theorem dL_law_843 : decode cL_law 843 = .ok (.aload_n 3, 1) := by decide +kernel
theorem dL_law_844 : decode cL_law 844 = .ok (.invokestatic 111, 3) := by decide +kernel
theorem dL_law_847 : decode cL_law 847 = .ok (.istore 5, 2) := by decide +kernel
theorem dL_law_849 : decode cL_law 849 = .ok (.aload_n 2, 1) := by decide +kernel
theorem dL_law_850 : decode cL_law 850 = .ok (.aload_n 0, 1) := by decide +kernel
theorem dL_law_851 : decode cL_law 851 = .ok (.iload 4, 2) := by decide +kernel
theorem dL_law_853 : decode cL_law 853 = .ok (.iconst 1, 1) := by decide +kernel
theorem dL_law_854 : decode cL_law 854 = .ok (.iadd, 1) := by decide +kernel
theorem dL_law_855 : decode cL_law 855 = .ok (.iaload, 1) := by decide +kernel
theorem dL_law_856 : decode cL_law 856 = .ok (.invokevirtual 113, 3) := by decide +kernel
theorem dL_law_859 : decode cL_law 859 = .ok (.istore 6, 2) := by decide +kernel
theorem dL_law_861 : decode cL_law 861 = .ok (.aload_n 2, 1) := by decide +kernel
theorem dL_law_862 : decode cL_law 862 = .ok (.invokevirtual 78, 3) := by decide +kernel
theorem dL_law_865 : decode cL_law 865 = .ok (.iload 5, 2) := by decide +kernel
theorem dL_law_867 : decode cL_law 867 = .ok (.if_icmp .eq 5, 3) := by decide +kernel
theorem dL_law_870 : decode cL_law 870 = .ok (.iconst 0, 1) := by decide +kernel
theorem dL_law_871 : decode cL_law 871 = .ok (.ireturn, 1) := by decide +kernel
theorem dL_law_872 : decode cL_law 872 = .ok (.iload 5, 2) := by decide +kernel
theorem dL_law_874 : decode cL_law 874 = .ok (.ifCond .ne 15, 3) := by decide +kernel
theorem dL_law_877 : decode cL_law 877 = .ok (.aload_n 3, 1) := by decide +kernel
theorem dL_law_878 : decode cL_law 878 = .ok (.iconst 0, 1) := by decide +kernel
theorem dL_law_879 : decode cL_law 879 = .ok (.laload, 1) := by decide +kernel
theorem dL_law_880 : decode cL_law 880 = .ok (.iload 6, 2) := by decide +kernel
theorem dL_law_882 : decode cL_law 882 = .ok (.i2l, 1) := by decide +kernel
theorem dL_law_883 : decode cL_law 883 = .ok (.lcmp, 1) := by decide +kernel
theorem dL_law_884 : decode cL_law 884 = .ok (.ifCond .eq 5, 3) := by decide +kernel
theorem dL_law_887 : decode cL_law 887 = .ok (.iconst 0, 1) := by decide +kernel
theorem dL_law_888 : decode cL_law 888 = .ok (.ireturn, 1) := by decide +kernel
theorem dL_law_889 : decode cL_law 889 = .ok (.goto 402, 3) := by decide +kernel
theorem dL_law_892 : decode cL_law 892 = .ok (.aload_n 1, 1) := by decide +kernel
theorem dL_law_893 : decode cL_law 893 = .ok (.invokevirtual 114, 3) := by decide +kernel
theorem dL_law_896 : decode cL_law 896 = .ok (.aload_n 2, 1) := by decide +kernel
theorem dL_law_897 : decode cL_law 897 = .ok (.invokevirtual 117, 3) := by decide +kernel
theorem dL_law_900 : decode cL_law 900 = .ok (.if_icmp .eq 391, 3) := by decide +kernel
theorem dL_law_903 : decode cL_law 903 = .ok (.iconst 0, 1) := by decide +kernel
theorem dL_law_904 : decode cL_law 904 = .ok (.ireturn, 1) := by decide +kernel
theorem dL_law_905 : decode cL_law 905 = .ok (.aload_n 1, 1) := by decide +kernel
theorem dL_law_906 : decode cL_law 906 = .ok (.aload_n 0, 1) := by decide +kernel
theorem dL_law_907 : decode cL_law 907 = .ok (.iload 4, 2) := by decide +kernel
theorem dL_law_909 : decode cL_law 909 = .ok (.iconst 1, 1) := by decide +kernel
theorem dL_law_910 : decode cL_law 910 = .ok (.iadd, 1) := by decide +kernel
theorem dL_law_911 : decode cL_law 911 = .ok (.iaload, 1) := by decide +kernel
theorem dL_law_912 : decode cL_law 912 = .ok (.aload_n 3, 1) := by decide +kernel
theorem dL_law_913 : decode cL_law 913 = .ok (.invokestatic 118, 3) := by decide +kernel
theorem dL_law_916 : decode cL_law 916 = .ok (.istore 5, 2) := by decide +kernel
theorem dL_law_918 : decode cL_law 918 = .ok (.aload_n 2, 1) := by decide +kernel
theorem dL_law_919 : decode cL_law 919 = .ok (.aload_n 0, 1) := by decide +kernel
theorem dL_law_920 : decode cL_law 920 = .ok (.iload 4, 2) := by decide +kernel
theorem dL_law_922 : decode cL_law 922 = .ok (.iconst 1, 1) := by decide +kernel
theorem dL_law_923 : decode cL_law 923 = .ok (.iadd, 1) := by decide +kernel
theorem dL_law_924 : decode cL_law 924 = .ok (.iaload, 1) := by decide +kernel
theorem dL_law_925 : decode cL_law 925 = .ok (.invokevirtual 120, 3) := by decide +kernel
theorem dL_law_928 : decode cL_law 928 = .ok (.istore 6, 2) := by decide +kernel
theorem dL_law_930 : decode cL_law 930 = .ok (.aload_n 2, 1) := by decide +kernel
theorem dL_law_931 : decode cL_law 931 = .ok (.invokevirtual 78, 3) := by decide +kernel
theorem dL_law_934 : decode cL_law 934 = .ok (.iload 5, 2) := by decide +kernel
theorem dL_law_936 : decode cL_law 936 = .ok (.if_icmp .eq 5, 3) := by decide +kernel
theorem dL_law_939 : decode cL_law 939 = .ok (.iconst 0, 1) := by decide +kernel
theorem dL_law_940 : decode cL_law 940 = .ok (.ireturn, 1) := by decide +kernel
theorem dL_law_941 : decode cL_law 941 = .ok (.iload 5, 2) := by decide +kernel
theorem dL_law_943 : decode cL_law 943 = .ok (.ifCond .ne 15, 3) := by decide +kernel
theorem dL_law_946 : decode cL_law 946 = .ok (.aload_n 3, 1) := by decide +kernel
theorem dL_law_947 : decode cL_law 947 = .ok (.iconst 0, 1) := by decide +kernel
theorem dL_law_948 : decode cL_law 948 = .ok (.laload, 1) := by decide +kernel
theorem dL_law_949 : decode cL_law 949 = .ok (.iload 6, 2) := by decide +kernel
theorem dL_law_951 : decode cL_law 951 = .ok (.i2l, 1) := by decide +kernel
theorem dL_law_952 : decode cL_law 952 = .ok (.lcmp, 1) := by decide +kernel
theorem dL_law_953 : decode cL_law 953 = .ok (.ifCond .eq 5, 3) := by decide +kernel
theorem dL_law_956 : decode cL_law 956 = .ok (.iconst 0, 1) := by decide +kernel
theorem dL_law_957 : decode cL_law 957 = .ok (.ireturn, 1) := by decide +kernel
theorem dL_law_958 : decode cL_law 958 = .ok (.goto 333, 3) := by decide +kernel
theorem dL_law_961 : decode cL_law 961 = .ok (.aload_n 1, 1) := by decide +kernel
theorem dL_law_962 : decode cL_law 962 = .ok (.aload_n 0, 1) := by decide +kernel
theorem dL_law_963 : decode cL_law 963 = .ok (.iload 4, 2) := by decide +kernel
theorem dL_law_965 : decode cL_law 965 = .ok (.iconst 1, 1) := by decide +kernel
theorem dL_law_966 : decode cL_law 966 = .ok (.iadd, 1) := by decide +kernel
theorem dL_law_967 : decode cL_law 967 = .ok (.iaload, 1) := by decide +kernel
theorem dL_law_968 : decode cL_law 968 = .ok (.aload_n 3, 1) := by decide +kernel
theorem dL_law_969 : decode cL_law 969 = .ok (.invokestatic 121, 3) := by decide +kernel
theorem dL_law_972 : decode cL_law 972 = .ok (.istore 5, 2) := by decide +kernel
theorem dL_law_974 : decode cL_law 974 = .ok (.aload_n 2, 1) := by decide +kernel
theorem dL_law_975 : decode cL_law 975 = .ok (.aload_n 0, 1) := by decide +kernel
theorem dL_law_976 : decode cL_law 976 = .ok (.iload 4, 2) := by decide +kernel
theorem dL_law_978 : decode cL_law 978 = .ok (.iconst 1, 1) := by decide +kernel
theorem dL_law_979 : decode cL_law 979 = .ok (.iadd, 1) := by decide +kernel
theorem dL_law_980 : decode cL_law 980 = .ok (.iaload, 1) := by decide +kernel
theorem dL_law_981 : decode cL_law 981 = .ok (.invokevirtual 123, 3) := by decide +kernel
theorem dL_law_984 : decode cL_law 984 = .ok (.istore 6, 2) := by decide +kernel
theorem dL_law_986 : decode cL_law 986 = .ok (.aload_n 2, 1) := by decide +kernel
theorem dL_law_987 : decode cL_law 987 = .ok (.invokevirtual 78, 3) := by decide +kernel
theorem dL_law_990 : decode cL_law 990 = .ok (.iload 5, 2) := by decide +kernel
theorem dL_law_992 : decode cL_law 992 = .ok (.if_icmp .eq 5, 3) := by decide +kernel
theorem dL_law_995 : decode cL_law 995 = .ok (.iconst 0, 1) := by decide +kernel
theorem dL_law_996 : decode cL_law 996 = .ok (.ireturn, 1) := by decide +kernel
theorem dL_law_997 : decode cL_law 997 = .ok (.iload 5, 2) := by decide +kernel
theorem dL_law_999 : decode cL_law 999 = .ok (.ifCond .ne 15, 3) := by decide +kernel
theorem dL_law_1002 : decode cL_law 1002 = .ok (.aload_n 3, 1) := by decide +kernel
theorem dL_law_1003 : decode cL_law 1003 = .ok (.iconst 0, 1) := by decide +kernel
theorem dL_law_1004 : decode cL_law 1004 = .ok (.laload, 1) := by decide +kernel
theorem dL_law_1005 : decode cL_law 1005 = .ok (.iload 6, 2) := by decide +kernel
theorem dL_law_1007 : decode cL_law 1007 = .ok (.i2l, 1) := by decide +kernel
theorem dL_law_1008 : decode cL_law 1008 = .ok (.lcmp, 1) := by decide +kernel
theorem dL_law_1009 : decode cL_law 1009 = .ok (.ifCond .eq 5, 3) := by decide +kernel
theorem dL_law_1012 : decode cL_law 1012 = .ok (.iconst 0, 1) := by decide +kernel
theorem dL_law_1013 : decode cL_law 1013 = .ok (.ireturn, 1) := by decide +kernel
theorem dL_law_1014 : decode cL_law 1014 = .ok (.goto 277, 3) := by decide +kernel
theorem dL_law_1017 : decode cL_law 1017 = .ok (.aload_n 1, 1) := by decide +kernel
theorem dL_law_1018 : decode cL_law 1018 = .ok (.aload_n 0, 1) := by decide +kernel
theorem dL_law_1019 : decode cL_law 1019 = .ok (.iload 4, 2) := by decide +kernel
theorem dL_law_1021 : decode cL_law 1021 = .ok (.iconst 1, 1) := by decide +kernel
theorem dL_law_1022 : decode cL_law 1022 = .ok (.iadd, 1) := by decide +kernel
theorem dL_law_1023 : decode cL_law 1023 = .ok (.iaload, 1) := by decide +kernel
theorem dL_law_1024 : decode cL_law 1024 = .ok (.aload_n 3, 1) := by decide +kernel
theorem dL_law_1025 : decode cL_law 1025 = .ok (.invokestatic 124, 3) := by decide +kernel
theorem dL_law_1028 : decode cL_law 1028 = .ok (.istore 5, 2) := by decide +kernel
theorem dL_law_1030 : decode cL_law 1030 = .ok (.aload_n 2, 1) := by decide +kernel
theorem dL_law_1031 : decode cL_law 1031 = .ok (.aload_n 0, 1) := by decide +kernel
theorem dL_law_1032 : decode cL_law 1032 = .ok (.iload 4, 2) := by decide +kernel
theorem dL_law_1034 : decode cL_law 1034 = .ok (.iconst 1, 1) := by decide +kernel
theorem dL_law_1035 : decode cL_law 1035 = .ok (.iadd, 1) := by decide +kernel
theorem dL_law_1036 : decode cL_law 1036 = .ok (.iaload, 1) := by decide +kernel
theorem dL_law_1037 : decode cL_law 1037 = .ok (.invokevirtual 126, 3) := by decide +kernel
theorem dL_law_1040 : decode cL_law 1040 = .ok (.istore 6, 2) := by decide +kernel
theorem dL_law_1042 : decode cL_law 1042 = .ok (.aload_n 2, 1) := by decide +kernel
theorem dL_law_1043 : decode cL_law 1043 = .ok (.invokevirtual 78, 3) := by decide +kernel
theorem dL_law_1046 : decode cL_law 1046 = .ok (.iload 5, 2) := by decide +kernel
theorem dL_law_1048 : decode cL_law 1048 = .ok (.if_icmp .eq 5, 3) := by decide +kernel
theorem dL_law_1051 : decode cL_law 1051 = .ok (.iconst 0, 1) := by decide +kernel
theorem dL_law_1052 : decode cL_law 1052 = .ok (.ireturn, 1) := by decide +kernel
theorem dL_law_1053 : decode cL_law 1053 = .ok (.iload 5, 2) := by decide +kernel
theorem dL_law_1055 : decode cL_law 1055 = .ok (.ifCond .ne 15, 3) := by decide +kernel
theorem dL_law_1058 : decode cL_law 1058 = .ok (.aload_n 3, 1) := by decide +kernel
theorem dL_law_1059 : decode cL_law 1059 = .ok (.iconst 0, 1) := by decide +kernel
theorem dL_law_1060 : decode cL_law 1060 = .ok (.laload, 1) := by decide +kernel
theorem dL_law_1061 : decode cL_law 1061 = .ok (.iload 6, 2) := by decide +kernel
theorem dL_law_1063 : decode cL_law 1063 = .ok (.i2l, 1) := by decide +kernel
theorem dL_law_1064 : decode cL_law 1064 = .ok (.lcmp, 1) := by decide +kernel
theorem dL_law_1065 : decode cL_law 1065 = .ok (.ifCond .eq 5, 3) := by decide +kernel
theorem dL_law_1068 : decode cL_law 1068 = .ok (.iconst 0, 1) := by decide +kernel
theorem dL_law_1069 : decode cL_law 1069 = .ok (.ireturn, 1) := by decide +kernel
theorem dL_law_1070 : decode cL_law 1070 = .ok (.goto 221, 3) := by decide +kernel
theorem dL_law_1073 : decode cL_law 1073 = .ok (.aload_n 1, 1) := by decide +kernel
theorem dL_law_1074 : decode cL_law 1074 = .ok (.aload_n 0, 1) := by decide +kernel
theorem dL_law_1075 : decode cL_law 1075 = .ok (.iload 4, 2) := by decide +kernel
theorem dL_law_1077 : decode cL_law 1077 = .ok (.iconst 1, 1) := by decide +kernel
theorem dL_law_1078 : decode cL_law 1078 = .ok (.iadd, 1) := by decide +kernel
theorem dL_law_1079 : decode cL_law 1079 = .ok (.iaload, 1) := by decide +kernel
theorem dL_law_1080 : decode cL_law 1080 = .ok (.aload_n 3, 1) := by decide +kernel
theorem dL_law_1081 : decode cL_law 1081 = .ok (.invokestatic 127, 3) := by decide +kernel
theorem dL_law_1084 : decode cL_law 1084 = .ok (.istore 5, 2) := by decide +kernel
theorem dL_law_1086 : decode cL_law 1086 = .ok (.aload_n 2, 1) := by decide +kernel
theorem dL_law_1087 : decode cL_law 1087 = .ok (.aload_n 0, 1) := by decide +kernel
theorem dL_law_1088 : decode cL_law 1088 = .ok (.iload 4, 2) := by decide +kernel
theorem dL_law_1090 : decode cL_law 1090 = .ok (.iconst 1, 1) := by decide +kernel
theorem dL_law_1091 : decode cL_law 1091 = .ok (.iadd, 1) := by decide +kernel
theorem dL_law_1092 : decode cL_law 1092 = .ok (.iaload, 1) := by decide +kernel
theorem dL_law_1093 : decode cL_law 1093 = .ok (.invokevirtual 129, 3) := by decide +kernel
theorem dL_law_1096 : decode cL_law 1096 = .ok (.istore 6, 2) := by decide +kernel
theorem dL_law_1098 : decode cL_law 1098 = .ok (.aload_n 2, 1) := by decide +kernel
theorem dL_law_1099 : decode cL_law 1099 = .ok (.invokevirtual 78, 3) := by decide +kernel
theorem dL_law_1102 : decode cL_law 1102 = .ok (.iload 5, 2) := by decide +kernel
theorem dL_law_1104 : decode cL_law 1104 = .ok (.if_icmp .eq 5, 3) := by decide +kernel
theorem dL_law_1107 : decode cL_law 1107 = .ok (.iconst 0, 1) := by decide +kernel
theorem dL_law_1108 : decode cL_law 1108 = .ok (.ireturn, 1) := by decide +kernel
theorem dL_law_1109 : decode cL_law 1109 = .ok (.iload 5, 2) := by decide +kernel
theorem dL_law_1111 : decode cL_law 1111 = .ok (.ifCond .ne 15, 3) := by decide +kernel
theorem dL_law_1114 : decode cL_law 1114 = .ok (.aload_n 3, 1) := by decide +kernel
theorem dL_law_1115 : decode cL_law 1115 = .ok (.iconst 0, 1) := by decide +kernel
theorem dL_law_1116 : decode cL_law 1116 = .ok (.laload, 1) := by decide +kernel
theorem dL_law_1117 : decode cL_law 1117 = .ok (.iload 6, 2) := by decide +kernel
theorem dL_law_1119 : decode cL_law 1119 = .ok (.i2l, 1) := by decide +kernel
theorem dL_law_1120 : decode cL_law 1120 = .ok (.lcmp, 1) := by decide +kernel
theorem dL_law_1121 : decode cL_law 1121 = .ok (.ifCond .eq 5, 3) := by decide +kernel
theorem dL_law_1124 : decode cL_law 1124 = .ok (.iconst 0, 1) := by decide +kernel
theorem dL_law_1125 : decode cL_law 1125 = .ok (.ireturn, 1) := by decide +kernel
theorem dL_law_1126 : decode cL_law 1126 = .ok (.goto 165, 3) := by decide +kernel
theorem dL_law_1129 : decode cL_law 1129 = .ok (.aload_n 1, 1) := by decide +kernel
theorem dL_law_1130 : decode cL_law 1130 = .ok (.aload_n 0, 1) := by decide +kernel
theorem dL_law_1131 : decode cL_law 1131 = .ok (.iload 4, 2) := by decide +kernel
theorem dL_law_1133 : decode cL_law 1133 = .ok (.iconst 1, 1) := by decide +kernel
theorem dL_law_1134 : decode cL_law 1134 = .ok (.iadd, 1) := by decide +kernel
theorem dL_law_1135 : decode cL_law 1135 = .ok (.iaload, 1) := by decide +kernel
theorem dL_law_1136 : decode cL_law 1136 = .ok (.aload_n 3, 1) := by decide +kernel
theorem dL_law_1137 : decode cL_law 1137 = .ok (.invokestatic 130, 3) := by decide +kernel
theorem dL_law_1140 : decode cL_law 1140 = .ok (.istore 5, 2) := by decide +kernel
theorem dL_law_1142 : decode cL_law 1142 = .ok (.aload_n 2, 1) := by decide +kernel
theorem dL_law_1143 : decode cL_law 1143 = .ok (.aload_n 0, 1) := by decide +kernel
theorem dL_law_1144 : decode cL_law 1144 = .ok (.iload 4, 2) := by decide +kernel
theorem dL_law_1146 : decode cL_law 1146 = .ok (.iconst 1, 1) := by decide +kernel
theorem dL_law_1147 : decode cL_law 1147 = .ok (.iadd, 1) := by decide +kernel
theorem dL_law_1148 : decode cL_law 1148 = .ok (.iaload, 1) := by decide +kernel
theorem dL_law_1149 : decode cL_law 1149 = .ok (.invokevirtual 132, 3) := by decide +kernel
theorem dL_law_1152 : decode cL_law 1152 = .ok (.istore 6, 2) := by decide +kernel
theorem dL_law_1154 : decode cL_law 1154 = .ok (.aload_n 2, 1) := by decide +kernel
theorem dL_law_1155 : decode cL_law 1155 = .ok (.invokevirtual 78, 3) := by decide +kernel
theorem dL_law_1158 : decode cL_law 1158 = .ok (.iload 5, 2) := by decide +kernel
theorem dL_law_1160 : decode cL_law 1160 = .ok (.if_icmp .eq 5, 3) := by decide +kernel
theorem dL_law_1163 : decode cL_law 1163 = .ok (.iconst 0, 1) := by decide +kernel
theorem dL_law_1164 : decode cL_law 1164 = .ok (.ireturn, 1) := by decide +kernel
theorem dL_law_1165 : decode cL_law 1165 = .ok (.iload 5, 2) := by decide +kernel
theorem dL_law_1167 : decode cL_law 1167 = .ok (.ifCond .ne 15, 3) := by decide +kernel
theorem dL_law_1170 : decode cL_law 1170 = .ok (.aload_n 3, 1) := by decide +kernel
theorem dL_law_1171 : decode cL_law 1171 = .ok (.iconst 0, 1) := by decide +kernel
theorem dL_law_1172 : decode cL_law 1172 = .ok (.laload, 1) := by decide +kernel
theorem dL_law_1173 : decode cL_law 1173 = .ok (.iload 6, 2) := by decide +kernel
theorem dL_law_1175 : decode cL_law 1175 = .ok (.i2l, 1) := by decide +kernel
theorem dL_law_1176 : decode cL_law 1176 = .ok (.lcmp, 1) := by decide +kernel
theorem dL_law_1177 : decode cL_law 1177 = .ok (.ifCond .eq 5, 3) := by decide +kernel
theorem dL_law_1180 : decode cL_law 1180 = .ok (.iconst 0, 1) := by decide +kernel
theorem dL_law_1181 : decode cL_law 1181 = .ok (.ireturn, 1) := by decide +kernel
theorem dL_law_1182 : decode cL_law 1182 = .ok (.goto 109, 3) := by decide +kernel
theorem dL_law_1185 : decode cL_law 1185 = .ok (.aload_n 1, 1) := by decide +kernel
theorem dL_law_1186 : decode cL_law 1186 = .ok (.invokevirtual 133, 3) := by decide +kernel
theorem dL_law_1189 : decode cL_law 1189 = .ok (.aload_n 2, 1) := by decide +kernel
theorem dL_law_1190 : decode cL_law 1190 = .ok (.invokevirtual 136, 3) := by decide +kernel
theorem dL_law_1193 : decode cL_law 1193 = .ok (.if_icmp .eq 98, 3) := by decide +kernel
theorem dL_law_1196 : decode cL_law 1196 = .ok (.iconst 0, 1) := by decide +kernel
theorem dL_law_1197 : decode cL_law 1197 = .ok (.ireturn, 1) := by decide +kernel
theorem dL_law_1198 : decode cL_law 1198 = .ok (.aload_n 1, 1) := by decide +kernel
theorem dL_law_1199 : decode cL_law 1199 = .ok (.invokevirtual 137, 3) := by decide +kernel
theorem dL_law_1202 : decode cL_law 1202 = .ok (.aload_n 2, 1) := by decide +kernel
theorem dL_law_1203 : decode cL_law 1203 = .ok (.invokevirtual 140, 3) := by decide +kernel
theorem dL_law_1206 : decode cL_law 1206 = .ok (.if_icmp .eq 85, 3) := by decide +kernel
theorem dL_law_1209 : decode cL_law 1209 = .ok (.iconst 0, 1) := by decide +kernel
theorem dL_law_1210 : decode cL_law 1210 = .ok (.ireturn, 1) := by decide +kernel
theorem dL_law_1211 : decode cL_law 1211 = .ok (.aload_n 1, 1) := by decide +kernel
theorem dL_law_1212 : decode cL_law 1212 = .ok (.invokevirtual 141, 3) := by decide +kernel
theorem dL_law_1215 : decode cL_law 1215 = .ok (.aload_n 2, 1) := by decide +kernel
theorem dL_law_1216 : decode cL_law 1216 = .ok (.invokevirtual 144, 3) := by decide +kernel
theorem dL_law_1219 : decode cL_law 1219 = .ok (.if_icmp .eq 72, 3) := by decide +kernel
theorem dL_law_1222 : decode cL_law 1222 = .ok (.iconst 0, 1) := by decide +kernel
theorem dL_law_1223 : decode cL_law 1223 = .ok (.ireturn, 1) := by decide +kernel
theorem dL_law_1224 : decode cL_law 1224 = .ok (.aload_n 1, 1) := by decide +kernel
theorem dL_law_1225 : decode cL_law 1225 = .ok (.invokevirtual 145, 3) := by decide +kernel
theorem dL_law_1228 : decode cL_law 1228 = .ok (.aload_n 2, 1) := by decide +kernel
theorem dL_law_1229 : decode cL_law 1229 = .ok (.invokevirtual 148, 3) := by decide +kernel
theorem dL_law_1232 : decode cL_law 1232 = .ok (.if_icmp .eq 59, 3) := by decide +kernel
theorem dL_law_1235 : decode cL_law 1235 = .ok (.iconst 0, 1) := by decide +kernel
theorem dL_law_1236 : decode cL_law 1236 = .ok (.ireturn, 1) := by decide +kernel
theorem dL_law_1237 : decode cL_law 1237 = .ok (.aload_n 1, 1) := by decide +kernel
theorem dL_law_1238 : decode cL_law 1238 = .ok (.invokevirtual 149, 3) := by decide +kernel
theorem dL_law_1241 : decode cL_law 1241 = .ok (.aload_n 2, 1) := by decide +kernel
theorem dL_law_1242 : decode cL_law 1242 = .ok (.invokevirtual 152, 3) := by decide +kernel
theorem dL_law_1245 : decode cL_law 1245 = .ok (.if_icmp .eq 46, 3) := by decide +kernel
theorem dL_law_1248 : decode cL_law 1248 = .ok (.iconst 0, 1) := by decide +kernel
theorem dL_law_1249 : decode cL_law 1249 = .ok (.ireturn, 1) := by decide +kernel
theorem dL_law_1250 : decode cL_law 1250 = .ok (.aload_n 1, 1) := by decide +kernel
theorem dL_law_1251 : decode cL_law 1251 = .ok (.invokevirtual 153, 3) := by decide +kernel
theorem dL_law_1254 : decode cL_law 1254 = .ok (.dstore 5, 2) := by decide +kernel
theorem dL_law_1256 : decode cL_law 1256 = .ok (.aload_n 2, 1) := by decide +kernel
theorem dL_law_1257 : decode cL_law 1257 = .ok (.invokevirtual 157, 3) := by decide +kernel
theorem dL_law_1260 : decode cL_law 1260 = .ok (.dstore 7, 2) := by decide +kernel
theorem dL_law_1262 : decode cL_law 1262 = .ok (.dload 5, 2) := by decide +kernel
theorem dL_law_1264 : decode cL_law 1264 = .ok (.dload 7, 2) := by decide +kernel
theorem dL_law_1266 : decode cL_law 1266 = .ok (.dcmp .l, 1) := by decide +kernel
theorem dL_law_1267 : decode cL_law 1267 = .ok (.ifCond .eq 21, 3) := by decide +kernel
theorem dL_law_1270 : decode cL_law 1270 = .ok (.dload 5, 2) := by decide +kernel
theorem dL_law_1272 : decode cL_law 1272 = .ok (.dload 5, 2) := by decide +kernel
theorem dL_law_1274 : decode cL_law 1274 = .ok (.dcmp .l, 1) := by decide +kernel
theorem dL_law_1275 : decode cL_law 1275 = .ok (.ifCond .eq 11, 3) := by decide +kernel
theorem dL_law_1278 : decode cL_law 1278 = .ok (.dload 7, 2) := by decide +kernel
theorem dL_law_1280 : decode cL_law 1280 = .ok (.dload 7, 2) := by decide +kernel
theorem dL_law_1282 : decode cL_law 1282 = .ok (.dcmp .l, 1) := by decide +kernel
theorem dL_law_1283 : decode cL_law 1283 = .ok (.ifCond .ne 5, 3) := by decide +kernel
theorem dL_law_1286 : decode cL_law 1286 = .ok (.iconst 0, 1) := by decide +kernel
theorem dL_law_1287 : decode cL_law 1287 = .ok (.ireturn, 1) := by decide +kernel
theorem dL_law_1288 : decode cL_law 1288 = .ok (.goto 3, 3) := by decide +kernel
theorem dL_law_1291 : decode cL_law 1291 = .ok (.iinc 4 4, 3) := by decide +kernel
theorem dL_law_1294 : decode cL_law 1294 = .ok (.goto (-1271), 3) := by decide +kernel
theorem dL_law_1297 : decode cL_law 1297 = .ok (.iconst 1, 1) := by decide +kernel
theorem dL_law_1298 : decode cL_law 1298 = .ok (.ireturn, 1) := by decide +kernel
abbrev vwCl : List vw_C := [(RX0, TX0, 9), (RX1, TX1, 4), (RX2, TX2, 3), (RX3, TX3, 18)]
end
section
/-! A method's start and end, for worlds that keep their cells; calls that put the callee's cells back beside the rest. -/
def pq_Pc (D : va_G) (tys : List (ClassId × FieldType)) (E : (Nat → Prop) → State → Prop) (wc : va_W) (sz : Nat) (av : List Value) : Array Value → State → Prop :=
  va_Pc av (fun U => U.heap.size = sz ∧ va_P D vwCl wc U.heap ∧ va_K D vwCl tys U ∧ va_D (fun _ => True) wc ∧ E (va_A wc sz) U)
def pq_Q (D : va_G) (tys : List (ClassId × FieldType)) (A : Nat → Prop) (post : Option Value → va_W → Prop) : Array Value → State → Outcome → State → Prop :=
  fun _ st oc t => (∃ (v : Option Value) (w1 : va_W), oc = .returned v ∧ post v w1 ∧ va_P D vwCl w1 t.heap ∧ va_K D vwCl tys t ∧ va_D A w1) ∧ va_F A st t
abbrev pq_R (fr lo mc ms : Nat) : Room := { frames := fr, cells := mc, slots := ms, locals := lo }
def pq_M (l : Launch) (y : MethodName) (ws : List Cond) (fr lo mc ms : Nat) (D : va_G) (tys : List (ClassId × FieldType)) (E : (Nat → Prop) → State → Prop) (wc : va_W) (av : List Value) (post : Option Value → va_W → Prop) : Prop :=
  ∀ sz : Nat, Met l y ws (pq_R fr lo mc ms) (pq_Pc D tys E wc sz av) (pq_Q D tys (va_A wc sz) post) mc ms (va_A wc sz)
def pq_0 : (Nat → Prop) → State → Prop := fun _ _ => True
def pq_Bl (E : (Nat → Prop) → State → Prop) : Prop := ∀ (A : Nat → Prop) (U : State) (g : JFrame) (mk : MethodId) (a : Array Value), E A U → E A (U.calling g mk a)
theorem pq_bl0 : pq_Bl pq_0 := fun _ _ _ _ _ _ => trivial
theorem pq_blind {D : va_G} {tys : List (ClassId × FieldType)} {E : (Nat → Prop) → State → Prop} (hE : pq_Bl E) {wc : va_W} {sz : Nat} {av : List Value} : FrameBlind (pq_Pc D tys E wc sz av) := by
  intro a U g mk q
  obtain ⟨q0, q1, qP, qK, qD, qE⟩ := q
  exact ⟨q0, q1, qP, va_K.moved (u := U) (U := U.calling g mk a) (Vm.Alike.refl U.vm) qK, qD, hE _ U g mk a qE⟩
theorem i_lt {a b : Int32} (h : ¬ a ≤ b) : b < a := Int32.not_le.mp h
theorem i_le {a b : Int32} (h : ¬ a < b) : b ≤ a := Int32.not_lt.mp h
theorem i_nlt {a b : Int32} (h : a ≤ b) : ¬ b < a := Int32.not_lt.mpr h
theorem i_nle {a b : Int32} (h : a < b) : ¬ b ≤ a := Int32.not_le.mpr h
theorem pq_fm {α β : Type} (f : α → Option β) : ∀ (is : List α) (w : List β), is.map f = w.map some → is.filterMap f = w := by
  intro is
  induction is with
  | nil =>
    intro w h
    cases w with
    | nil => rfl
    | cons x w => simp at h
  | cons i is ih =>
    intro w h
    cases w with
    | nil => simp at h
    | cons x w =>
      rw [List.map_cons, List.map_cons, List.cons.injEq] at h
      rw [List.filterMap_cons, h.1]
      exact congrArg (x :: ·) (ih w h.2)
section PQ
variable {p : Program} {l : Launch} {e : Env} {R : Room} {s : State} {m : MethodId} {args : Array Value} {below : List Frame} {meth : Method} {c : Code} {H : Heap} {locs : List Loc} {cells slots : Nat} {Q : State → Prop}
variable {y : MethodName} {ws ws' : List Cond} {fr lo mc ms maxL : Nat} {D : va_G} {tys tys0 : List (ClassId × FieldType)} {E : (Nat → Prop) → State → Prop} {wc wr w : va_W} {av : List Value} {post : Option Value → va_W → Prop} {cc bytes : ByteArray} {ret : Option FieldType} {A : Nat → Prop} {ls : Array Slot} {pc : Nat} {st0 rest : List Value}
set_option maxHeartbeats 2000000 in
theorem pq_enter (hy : plainName y.cls = true) (hw : ws = Cond.code y cc maxL ret :: ws') (hn : (lg_sl av).length ≤ maxL)
    (body : ∀ (p : Program) (e : Env) (s : State) (m : MethodId) (args : Array Value) (below : List Frame) (meth : Method) (c : Code) (A : Nat → Prop) (ls : Array Slot) (Q : State → Prop) (H : Heap) (locs : List Loc), p.tables.exec = Jvm.exec → c.code = cc → meth.sig.returnType = ret → c.maxLocals = maxL → (∀ w ∈ ws, w.before args s = true) → s.vm.findClass y.cls = some m.cls → meth.locks = false → meth.name = y.name → va_K D vwCl tys s → va_P D vwCl wc H → va_D A wc → va_S A s.heap H locs → (∀ q, s.heap.size ≤ q → A q) → E A s → lv_has ls maxL (lv_args 0 av) → Q = MQ below (pq_Q D tys A post) args s mc ms A →
      W p l e (pq_R fr lo mc ms) s m args below meth c H locs 0 0 Q (F0 m 0 ls [])) : pq_M l y ws fr lo mc ms D tys E wc av post := by
  intro sz
  refine Met.ofW (cc := cc) (maxL := maxL) (ret := ret) hy hw ?_
  intro p e s m args below meth c s₁ B hml hv
  obtain ⟨rfl, hsz, hP, hK, hD0, hE⟩ := hv
  have hts := atoms_spec (ws := ws) B.pre
  have hown : s.vm.findClass y.cls = some m.cls := findClass_of_methodNamed B.named
  subst hsz
  have hD := hD0.self (sz := s.heap.size)
  have hl := lv_entry av (n := maxL) hn
  rw [lg_entry_eq]
  exact body p e s m av.toArray below meth c (va_A wc s.heap.size) _ _ s.heap [] B.exec B.bytes B.returns hml hts hown B.notSynchronized (name_of_methodNamed B.named B.method).1 hK hP hD va_S.rf (fun q h => Or.inr h) hE hl rfl
theorem pq_iret {w1 : va_W} {v : Int32} (hQ : Q = MQ below (pq_Q D tys A post) args s mc ms A) (hx : p.tables.exec = Jvm.exec) (hb : c.code = cc) (hr : meth.sig.returnType = some .int) (hlocks : meth.locks = false) (hK : va_K D vwCl tys s) (hS : va_S A s.heap H locs) (hP : va_P D vwCl w1 H) (hD : va_D A w1) (hdg : decode cc pc = .ok (.ireturn, 1)) (hc : cells ≤ mc) (hs : slots ≤ ms) (hpost : post (some (.int v)) w1) :
    W p l e R s m args below meth c H locs cells slots Q (F0 m pc ls [.int v]) := by
  subst hQ
  refine W.widen hc hs ?_
  exact W.iret hx hb hr (fun t ht hW => ⟨⟨_, w1, rfl, hpost, by rw [ht]; exact hP, va_K.moved hW.alike hK, hD⟩, hS.F ht⟩) hS.2.2 hdg
theorem pq_nar {v : Int32} (h : v = 0 ∨ v = 1) : narrow .boolean (.int v) = .int v := by
  rcases h with rfl | rfl <;> rfl
theorem pq_b01 (P : Prop) [Decidable P] : (if P then (1 : Int32) else 0) = 0 ∨ (if P then (1 : Int32) else 0) = 1 := by
  by_cases h : P
  · exact Or.inr (if_pos h)
  · exact Or.inl (if_neg h)
theorem pq_zret {w1 : va_W} {v : Int32} (hQ : Q = MQ below (pq_Q D tys A post) args s mc ms A) (hx : p.tables.exec = Jvm.exec) (hb : c.code = cc) (hr : meth.sig.returnType = some .boolean) (hlocks : meth.locks = false) (hK : va_K D vwCl tys s) (hS : va_S A s.heap H locs) (hP : va_P D vwCl w1 H) (hD : va_D A w1) (hdg : decode cc pc = .ok (.ireturn, 1)) (hc : cells ≤ mc) (hs : slots ≤ ms) (h01 : v = 0 ∨ v = 1) (hpost : post (some (.int v)) w1) :
    W p l e R s m args below meth c H locs cells slots Q (F0 m pc ls [.int v]) := by
  subst hQ
  refine W.widen hc hs ?_
  exact W.zret hx hb hr (pq_nar h01) (fun t ht hW => ⟨⟨_, w1, rfl, hpost, by rw [ht]; exact hP, va_K.moved hW.alike hK, hD⟩, hS.F ht⟩) hS.2.2 hdg
theorem pq_vret {w1 : va_W} (hQ : Q = MQ below (pq_Q D tys A post) args s mc ms A) (hx : p.tables.exec = Jvm.exec) (hb : c.code = cc) (hr : meth.sig.returnType = none) (hlocks : meth.locks = false) (hK : va_K D vwCl tys s) (hS : va_S A s.heap H locs) (hP : va_P D vwCl w1 H) (hD : va_D A w1) (hdg : decode cc pc = .ok (.return_, 1)) (hc : cells ≤ mc) (hs : slots ≤ ms) (hpost : post none w1) :
    W p l e R s m args below meth c H locs cells slots Q (F0 m pc ls []) := by
  subst hQ
  refine W.widen hc hs ?_
  exact W.vret hx hb hr (fun t ht hW => ⟨⟨_, w1, rfl, hpost, by rw [ht]; exact hP, va_K.moved hW.alike hK, hD⟩, hS.F ht⟩) hS.2.2 hdg
/-- behind a call -/
theorem pq_back {a : Array Value} {A1 : Nat → Prop} {isC isR : List Nat} (hr : va_Run p l e R s m args below meth c H locs cells slots mc ms (F0 m pc ls st0) rest (pq_Q D tys A1 post a) A1) (hA1 : A1 = va_A wc H.size) (hP : va_P D vwCl w H) (hD : va_D A w) (hS : va_S A s.heap H locs) (hA : ∀ q, s.heap.size ≤ q → A q)
    (hC : isC.map (fun i => w[i]?) = wc.map some) (hR : isR.map (fun i => w[i]?) = wr.map some) (hn : va_nd isR = true) (hdis : ∀ i ∈ isR, i ∉ isC)
    (kk : ∀ (v : Option Value) (w1 : va_W) (H1 : Heap) (locs1 : List Loc), post v w1 → va_P D vwCl (wr ++ w1) H1 → va_D A (wr ++ w1) → va_S A s.heap H1 locs1 → H.size ≤ H1.size → W p l e R s m args below meth c H1 locs1 (cells + mc) (slots + ms) Q (F0 m (pc + 3) ls (v.toList ++ rest))) :
    W p l e R s m args below meth c H locs cells slots Q (F0 m pc ls st0) := by
  subst hA1
  have hF : ∀ q, va_A wc H.size q → A q := va_free (wc := wc) hD hS hA isC hC
  intro T hT X
  obtain ⟨v, st₀, t, T', L, h0, X', hL, e1, e2, ⟨⟨v', w1, hv, hp, hP1, hK1, hD1⟩, hz, hk⟩, st⟩ := hr T hT X
  cases hv
  rw [h0] at hz hk
  obtain ⟨hPj, hDj⟩ := va_join (H1 := T'.heap) hP hD isC isR hC hR hn hdis (fun q h1 h2 => by rw [e1]; exact hk q h1 h2) hF (by rw [e1]; exact hP1) hD1
  obtain ⟨t2, a1, b1⟩ := kk v w1 T'.heap (locs ++ L) hp hPj hDj
    ⟨Nat.le_trans hS.1 (by rw [e1]; exact hz), fun q h1 h2 => by rw [e1, hk q (Nat.lt_of_lt_of_le h1 hS.1) (fun z => h2 (hF q z))]; exact hS.2.1 q h1 h2, fun q hq => by
      rcases List.mem_append.mp hq with h | h
      · exact hS.2.2 q h
      · exact hF _ (hL q h)⟩ (by rw [e1]; exact hz) T' rfl X'
  exact ⟨t2, st t2 a1, b1⟩
theorem pq_pre {isC : List Nat} (hEb : pq_Bl E) (hE : ∀ U : State, U.heap = H → s.WarmedH U.vm → E (va_A wc H.size) U) (hK : va_K D vwCl tys s) (hP : va_P D vwCl w H) (hD : va_D A w) (hC : isC.map (fun i => w[i]?) = wc.map some) (hnC : va_nd isC = true) : PreS s H (pq_Pc D tys E wc H.size av) av := by
  have hPc := hP.sub isC (pq_fm _ _ _ hC)
  have hDc := hD.sub isC hnC hC
  exact ⟨pq_blind hEb, fun U hU hW => ⟨rfl, by rw [hU], by rw [hU]; exact hPc, va_K.moved hW.alike hK, hDc.weaken (fun _ _ _ _ => trivial), hE U hU hW⟩⟩
theorem pq_callV {own C : String} {index n nL : Nat} {Ts : List Cond} {b q0 ci : Nat} {fs : List Value} {q : vw_C} (isC isR : List Nat) (As : List Value) (hM : pq_M l y ws fr lo mc ms D tys E wc (.ref b :: As) post)
    (S : CallFix p m c cc nL s args Ts own) (cw : CallW R s args own C index y bytes maxL ret ws (pq_R fr lo mc ms) mc ms n)
    (hEb : pq_Bl E) (hE : ∀ U : State, U.heap = H → s.WarmedH U.vm → E (va_A wc H.size) U) (hK : va_K D vwCl tys s) (hP : va_P D vwCl w H) (hD : va_D A w) (hS : va_S A s.heap H locs) (hA : ∀ q, s.heap.size ≤ q → A q)
    (hC : isC.map (fun i => w[i]?) = wc.map some) (hnC : va_nd isC = true) (hR : isR.map (fun i => w[i]?) = wr.map some) (hn : va_nd isR = true) (hdis : ∀ i ∈ isR, i ∉ isC)
    (hq0 : w[q0]? = some (b, .inr (ci, fs))) (hci : vwCl[ci]? = some q) (hqC : q.1 = C) (hlen : As.length = n) (hsize : ls.size = nL) (hst : st0 = As.reverse ++ .ref b :: rest) (hW : (rest.map fun v => v.category).sum ≤ 8) (hdg : decode cc pc = .ok (.invokevirtual index, 3)) (hf : cells + mc ≤ R.cells ∧ slots + ms ≤ R.slots)
    (kk : ∀ (v : Option Value) (w1 : va_W) (H1 : Heap) (locs1 : List Loc), post v w1 → va_P D vwCl (wr ++ w1) H1 → va_D A (wr ++ w1) → va_S A s.heap H1 locs1 → H.size ≤ H1.size → W p l e R s m args below meth c H1 locs1 (cells + mc) (slots + ms) Q (F0 m (pc + 3) ls (v.toList ++ rest))) :
    W p l e R s m args below meth c H locs cells slots Q (F0 m pc ls st0) := by
  subst hqC
  have hpre := pq_pre (av := .ref b :: As) hEb hE hK hP hD hC hnC
  exact pq_back (va_runV (As := As) (rest := rest) S (hM H.size) cw ⟨hpre.1, va_recv hK hP hci hq0, hpre.2⟩ rfl hlen hsize hst (lv_room hW) hdg hf) rfl hP hD hS hA hC hR hn hdis kk
theorem pq_callI {own : String} {index n nL : Nat} {Ts : List Cond} {b : Nat} (isC isR : List Nat) (As : List Value) (hM : pq_M l y ws fr lo mc ms D tys E wc (.ref b :: As) post)
    (S : CallFix p m c cc nL s args Ts own) (cw : CallB R s args own index y bytes maxL none ws (pq_R fr lo mc ms) mc ms n ∧ y.name = "<init>" ∧ (Cond.instanceMethod y).before args s = true)
    (hEb : pq_Bl E) (hE : ∀ U : State, U.heap = H → s.WarmedH U.vm → E (va_A wc H.size) U) (hK : va_K D vwCl tys s) (hP : va_P D vwCl w H) (hD : va_D A w) (hS : va_S A s.heap H locs) (hA : ∀ q, s.heap.size ≤ q → A q)
    (hC : isC.map (fun i => w[i]?) = wc.map some) (hnC : va_nd isC = true) (hR : isR.map (fun i => w[i]?) = wr.map some) (hn : va_nd isR = true) (hdis : ∀ i ∈ isR, i ∉ isC)
    (hlen : As.length = n) (hsize : ls.size = nL) (hst : st0 = As.reverse ++ .ref b :: rest) (hW : (rest.map fun v => v.category).sum ≤ 8) (hdg : decode cc pc = .ok (.invokespecial index, 3)) (hf : cells + mc ≤ R.cells ∧ slots + ms ≤ R.slots)
    (kk : ∀ (v : Option Value) (w1 : va_W) (H1 : Heap) (locs1 : List Loc), post v w1 → va_P D vwCl (wr ++ w1) H1 → va_D A (wr ++ w1) → va_S A s.heap H1 locs1 → H.size ≤ H1.size → W p l e R s m args below meth c H1 locs1 (cells + mc) (slots + ms) Q (F0 m (pc + 3) ls (v.toList ++ rest))) :
    W p l e R s m args below meth c H locs cells slots Q (F0 m pc ls st0) :=
  pq_back (va_runI (As := As) (rest := rest) S (hM H.size) cw (pq_pre (av := .ref b :: As) hEb hE hK hP hD hC hnC) rfl hlen hsize hst (lv_room hW) hdg hf) rfl hP hD hS hA hC hR hn hdis kk
theorem pq_callS {own : String} {index n nL : Nat} {Ts : List Cond} (isC isR : List Nat) (As : List Value) (hM : pq_M l y ws fr lo mc ms D tys E wc As post)
    (S : CallFix p m c cc nL s args Ts own) (cw : CallB R s args own index y bytes maxL ret ws (pq_R fr lo mc ms) mc ms n ∧ (Cond.static y).before args s = true)
    (hEb : pq_Bl E) (hE : ∀ U : State, U.heap = H → s.WarmedH U.vm → E (va_A wc H.size) U) (hK : va_K D vwCl tys s) (hP : va_P D vwCl w H) (hD : va_D A w) (hS : va_S A s.heap H locs) (hA : ∀ q, s.heap.size ≤ q → A q)
    (hC : isC.map (fun i => w[i]?) = wc.map some) (hnC : va_nd isC = true) (hR : isR.map (fun i => w[i]?) = wr.map some) (hn : va_nd isR = true) (hdis : ∀ i ∈ isR, i ∉ isC)
    (hlen : As.length = n) (hsize : ls.size = nL) (hst : st0 = As.reverse ++ rest) (hW : (rest.map fun v => v.category).sum ≤ 8) (hdg : decode cc pc = .ok (.invokestatic index, 3)) (hf : cells + mc ≤ R.cells ∧ slots + ms ≤ R.slots)
    (kk : ∀ (v : Option Value) (w1 : va_W) (H1 : Heap) (locs1 : List Loc), post v w1 → va_P D vwCl (wr ++ w1) H1 → va_D A (wr ++ w1) → va_S A s.heap H1 locs1 → H.size ≤ H1.size → W p l e R s m args below meth c H1 locs1 (cells + mc) (slots + ms) Q (F0 m (pc + 3) ls (v.toList ++ rest))) :
    W p l e R s m args below meth c H locs cells slots Q (F0 m pc ls st0) :=
  pq_back (va_runS (As := As) (rest := rest) S (hM H.size) cw (pq_pre (av := As) hEb hE hK hP hD hC hnC) rfl hlen hsize hst (lv_room hW) hdg hf) rfl hP hD hS hA hC hR hn hdis kk
/-- the top of the stack under another name -/
theorem pq_top {x : Int32} (z : Int32) (h : x = z) (k : W p l e R s m args below meth c H locs cells slots Q (F0 m pc ls (.int z :: rest))) : W p l e R s m args below meth c H locs cells slots Q (F0 m pc ls (.int x :: rest)) := by
  rw [h]; exact k
theorem pq_iald {ws : va_W} {a : Nat} (hx : p.tables.exec = Jvm.exec) (hb : c.code = cc) (hK : va_K D vwCl tys s) (hP : va_P D vwCl ws H) (q0 t0 : Nat) {cA : ClassId} {n : Nat} {f : Nat → Int32} (ha : ws[q0]? = some (a, .inl (cA, n, .inl f))) (ht : tys[t0]? = some (cA, .int)) (j : Nat) (hj : j < n) (hn : n ≤ 128) (hdg : decode cc pc = .ok (.iaload, 1))
    (kk : W p l e R s m args below meth c H locs cells slots Q (F0 m (pc + 1) ls (.int (f j) :: rest))) : W p l e R s m args below meth c H locs cells slots Q (F0 m pc ls (.int (nI j) :: .ref a :: rest)) := by
  refine va_iald hx hb hK hP q0 t0 ha ht (vp_in_nI hj (by omega)) hdg ?_
  rw [nI_clamp (by omega)]
  exact kk
theorem pq_iast {ws : va_W} {a : Nat} {H0 : Heap} (hx : p.tables.exec = Jvm.exec) (hb : c.code = cc) (hK : va_K D vwCl tys s) (hP : va_P D vwCl ws H) (hD : va_D A ws) (hS : va_S A H0 H locs) (q0 t0 : Nat) {cA : ClassId} {n : Nat} {f : Nat → Int32} (ha : ws[q0]? = some (a, .inl (cA, n, .inl f))) (ht : tys[t0]? = some (cA, .int)) (j : Nat) {x : Int32} (hj : j < n) (hn : n ≤ 128) (hdg : decode cc pc = .ok (.iastore, 1))
    (kk : ∀ (H1 : Heap) (locs1 : List Loc), va_P D vwCl (ws.set q0 (a, .inl (cA, n, .inl (upd f j x)))) H1 → va_D A (ws.set q0 (a, .inl (cA, n, .inl (upd f j x)))) → va_S A H0 H1 locs1 → W p l e R s m args below meth c H1 locs1 cells slots Q (F0 m (pc + 1) ls rest)) : W p l e R s m args below meth c H locs cells slots Q (F0 m pc ls (.int x :: .int (nI j) :: .ref a :: rest)) := by
  refine va_iast hx hb hK hP hD hS q0 t0 ha ht (vp_in_nI hj (by omega)) hdg ?_
  rw [nI_clamp (by omega)]
  exact kk
theorem pq_dec {k : Nat} (h : 1 ≤ k) : nI k + Int32.ofInt (-1) = nI (k - 1) := by
  obtain ⟨j, rfl⟩ : ∃ j, k = j + 1 := ⟨k - 1, by omega⟩
  exact pk_m1 j
end PQ
end
section
/-! What the rows of the book hold, and what its methods make of it: words of Int32, as the program has them. -/
/-- greatest, second, many, sum; latestVisits, totalVisits, calls -/
abbrev BK : Type := (Nat → Int32) × (Nat → Int32) × (Nat → Int32) × (Nat → Int32) × Int32 × Int32 × Int32
def bkW (h a0 a1 a2 a3 a4 a5 : Nat) (cI : ClassId) (fi la : Nat → Int32) (B : BK) : va_W :=
  [(h, .inr (0, [.ref a0, .ref a1, .ref a2, .ref a3, .ref a4, .ref a5, .int B.2.2.2.2.1, .int B.2.2.2.2.2.1, .int B.2.2.2.2.2.2])), (a0, .inl (cI, 128, .inl fi)), (a1, .inl (cI, 128, .inl la)), (a2, .inl (cI, 128, .inl B.1)), (a3, .inl (cI, 128, .inl B.2.1)), (a4, .inl (cI, 128, .inl B.2.2.1)), (a5, .inl (cI, 128, .inl B.2.2.2.1))]
abbrev bHp (fi la : Nat → Int32) (e : Nat) : Prop := ¬ 64 ≤ nI e ∧ ¬ la e ≤ fi e
abbrev bAp (fi la : Nat → Int32) (e : Nat) (a b : Int32) : Prop := la e < a ∨ ¬ fi e ≤ b
abbrev bWi (fi la : Nat → Int32) (e : Nat) (a b : Int32) : Prop := ¬ fi e < a ∧ ¬ b < la e
abbrev bLag (B : BK) (e : Nat) : Prop := ¬ B.1 e ≤ B.1 (e / 2)
theorem bHp_lt {fi la : Nat → Int32} {e : Nat} (he : e < 128) (h : bHp fi la e) : e < 64 := by
  rcases Nat.lt_or_ge e 64 with q | q
  · exact q
  · exact absurd (nI_le q (by omega)) h.1
theorem pw_1 {e d : Nat} (h : 128 ≤ e * 2 ^ (d + 1)) : 128 ≤ 2 * e * 2 ^ d := by
  rw [Nat.pow_succ] at h
  calc 128 ≤ e * (2 ^ d * 2) := h
    _ = 2 * e * 2 ^ d := by rw [Nat.mul_comm (2 ^ d) 2, ← Nat.mul_assoc, Nat.mul_comm e 2]
theorem pw_2 {e d : Nat} (h : 128 ≤ e * 2 ^ (d + 1)) : 128 ≤ (2 * e + 1) * 2 ^ d := Nat.le_trans (pw_1 h) (Nat.mul_le_mul_right _ (Nat.le_succ _))
def bPress (B : BK) (e : Nat) (c : Int32) : BK := (upd B.1 e c, B.2.1, B.2.2.1, upd B.2.2.2.1 e (B.2.2.2.1 e - (B.1 e - c) * B.2.2.1 e), B.2.2.2.2)
def bCatch (B : BK) (e : Nat) : BK := if bLag B e then bPress B e (B.1 (e / 2)) else B
def bCatch2 (B : BK) (e : Nat) : BK := bCatch (bCatch B (2 * e)) (2 * e + 1)
def bMax (x y : Int32) : Int32 := if x < y then y else x
def bMin (x y : Int32) : Int32 := if y < x then y else x
def bMany (g m : Nat → Int32) (e : Nat) (top : Int32) : Int32 := if g e = top then m e else 0
def bLess (g s : Nat → Int32) (top : Int32) (e : Nat) : Int32 := if top ≤ g e then s e else g e
def bTop (B : BK) (e : Nat) : Int32 := bMax (B.1 (2 * e)) (B.1 (2 * e + 1))
def bTell (B : BK) (e : Nat) : BK :=
  (upd B.1 e (bTop B e),
   upd B.2.1 e (bMax (bLess (upd B.1 e (bTop B e)) B.2.1 (bTop B e) (2 * e)) (bLess (upd B.1 e (bTop B e)) B.2.1 (bTop B e) (2 * e + 1))),
   upd B.2.2.1 e (bMany (upd B.1 e (bTop B e)) B.2.2.1 (2 * e) (bTop B e) + bMany (upd B.1 e (bTop B e)) B.2.2.1 (2 * e + 1) (bTop B e)),
   upd B.2.2.2.1 e (B.2.2.2.1 (2 * e) + B.2.2.2.1 (2 * e + 1)), B.2.2.2.2)
def bVisit (B : BK) : BK := (B.1, B.2.1, B.2.2.1, B.2.2.2.1, B.2.2.2.2.1 + 1, B.2.2.2.2.2.1 + 1, B.2.2.2.2.2.2)
def bBegin (B : BK) : BK := (B.1, B.2.1, B.2.2.1, B.2.2.2.1, 0, B.2.2.2.2.2.1, B.2.2.2.2.2.2 + 1)
def bPressFrom (fi la : Nat → Int32) (a b c : Int32) : Nat → BK → Nat → BK
  | 0, B, _ => B
  | d + 1, B, e =>
    if bAp fi la e a b ∨ ¬ c < (bVisit B).1 e then bVisit B
    else if (bWi fi la e a b ∧ ¬ c ≤ (bVisit B).2.1 e) ∨ ¬ bHp fi la e then bPress (bVisit B) e c
    else bTell (bPressFrom fi la a b c d (bPressFrom fi la a b c d (bCatch2 (bVisit B) e) (2 * e)) (2 * e + 1)) e
def bKid (la : Nat → Int32) (x : Int32) (e : Nat) : Nat := if x ≤ la (2 * e) then 2 * e else 2 * e + 1
def bSet (B : BK) (e : Nat) (v : Int32) : BK := (upd B.1 e v, B.2.1, B.2.2.1, upd B.2.2.2.1 e v, B.2.2.2.2)
def bRaiseFrom (fi la : Nat → Int32) (x v : Int32) : Nat → BK → Nat → BK
  | 0, B, _ => B
  | d + 1, B, e =>
    if bHp fi la e then bTell (bRaiseFrom fi la x v d (bCatch2 (bVisit B) e) (bKid la x e)) e else bSet (bVisit B) e v
def bSumFrom (fi la : Nat → Int32) (a b : Int32) : Nat → BK → Nat → Int32 × BK
  | 0, B, _ => (0, B)
  | d + 1, B, e =>
    if bAp fi la e a b then (0, bVisit B)
    else if bWi fi la e a b ∨ ¬ bHp fi la e then ((bVisit B).2.2.2.1 e, bVisit B)
    else ((bSumFrom fi la a b d (bCatch2 (bVisit B) e) (2 * e)).1 + (bSumFrom fi la a b d (bSumFrom fi la a b d (bCatch2 (bVisit B) e) (2 * e)).2 (2 * e + 1)).1, (bSumFrom fi la a b d (bSumFrom fi la a b d (bCatch2 (bVisit B) e) (2 * e)).2 (2 * e + 1)).2)
def bTopFrom (fi la : Nat → Int32) (a b : Int32) : Nat → BK → Nat → Int32 × BK
  | 0, B, _ => (0, B)
  | d + 1, B, e =>
    if bAp fi la e a b then (-1, bVisit B)
    else if bWi fi la e a b ∨ ¬ bHp fi la e then ((bVisit B).1 e, bVisit B)
    else (bMax (bTopFrom fi la a b d (bCatch2 (bVisit B) e) (2 * e)).1 (bTopFrom fi la a b d (bTopFrom fi la a b d (bCatch2 (bVisit B) e) (2 * e)).2 (2 * e + 1)).1, (bTopFrom fi la a b d (bTopFrom fi la a b d (bCatch2 (bVisit B) e) (2 * e)).2 (2 * e + 1)).2)
end
section
/-- there is such an entry: as the class tests it, of any number -/
abbrev bHas (la : Nat → Int32) (x : Int32) : Prop := ¬ x < 1 ∧ ¬ 128 ≤ x ∧ ¬ la x.toNatClampNeg = -1
theorem bHas_in {x : Int32} (c1 : ¬ x < 1) (c2 : ¬ 128 ≤ x) : vp_in x 128 := by
  rw [vp_in_iff]
  have h1 : ¬ x.toInt < (1 : Int32).toInt := fun h => c1 (Int32.lt_iff_toInt_lt.mpr h)
  have h2 : ¬ (128 : Int32).toInt ≤ x.toInt := fun h => c2 (Int32.le_iff_toInt_le.mpr h)
  have e1 : (1 : Int32).toInt = 1 := rfl
  have e2 : (128 : Int32).toInt = 128 := rfl
  omega
def bLeast (fi la g : Nat → Int32) (x : Int32) : Nat → Int32
  | 0 => g 1
  | n + 1 => if bHas la (nI (n + 2)) ∧ ¬ bAp fi la (n + 2) x x then bMin (bLeast fi la g x n) (g (n + 2)) else bLeast fi la g x n
theorem bLeast_s (fi la g : Nat → Int32) (x : Int32) {kk : Nat} (h : 2 ≤ kk) : bLeast fi la g x (kk + 1 - 2) = if bHas la (nI kk) ∧ ¬ bAp fi la kk x x then bMin (bLeast fi la g x (kk - 2)) (g kk) else bLeast fi la g x (kk - 2) := by
  obtain ⟨j, rfl⟩ : ∃ j, kk = j + 2 := ⟨kk - 2, by omega⟩
  rw [show j + 2 + 1 - 2 = j + 1 by omega, show j + 2 - 2 = j by omega]
  rfl
def bLags (la : Nat → Int32) (B : BK) : Nat → Int32
  | 0 => 0
  | n + 1 => if bHas la (nI (n + 2)) ∧ bLag B (n + 2) then bLags la B n + 1 else bLags la B n
theorem bLags_s (la : Nat → Int32) (B : BK) {kk : Nat} (h : 2 ≤ kk) : bLags la B (kk + 1 - 2) = if bHas la (nI kk) ∧ bLag B kk then bLags la B (kk - 2) + 1 else bLags la B (kk - 2) := by
  obtain ⟨j, rfl⟩ : ∃ j, kk = j + 2 := ⟨kk - 2, by omega⟩
  rw [show j + 2 + 1 - 2 = j + 1 by omega, show j + 2 - 2 = j by omega]
  rfl
def sSplit (fi la : Nat → Int32) (e : Nat) : (Nat → Int32) × (Nat → Int32) :=
  if bHp fi la e then (upd (upd fi (2 * e) (fi e)) (2 * e + 1) ((fi e + la e) / 2 + 1), upd (upd la (2 * e) ((fi e + la e) / 2)) (2 * e + 1) ((upd la (2 * e) ((fi e + la e) / 2)) e))
  else (upd (upd fi (2 * e) 0) (2 * e + 1) 0, upd (upd la (2 * e) (-1)) (2 * e + 1) (-1))
def sIter (S : (Nat → Int32) × (Nat → Int32)) : Nat → (Nat → Int32) × (Nat → Int32)
  | 0 => S
  | k + 1 => sSplit (sIter S k).1 (sIter S k).2 (k + 1)
theorem sIter_s {S : (Nat → Int32) × (Nat → Int32)} {kk : Nat} (h : 1 ≤ kk) : sSplit (sIter S (kk - 1)).1 (sIter S (kk - 1)).2 kk = sIter S (kk + 1 - 1) := by
  obtain ⟨j, rfl⟩ : ∃ j, kk = j + 1 := ⟨kk - 1, by omega⟩
  rw [show j + 1 + 1 - 1 = j + 1 by omega, show j + 1 - 1 = j by omega]
  rfl
def bFill (fi la : Nat → Int32) (v0 : Int32) (B : BK) : Nat → BK
  | 0 => B
  | k + 1 => (upd (bFill fi la v0 B k).1 (k + 1) v0, upd (bFill fi la v0 B k).2.1 (k + 1) (-1), upd (bFill fi la v0 B k).2.2.1 (k + 1) (la (k + 1) - fi (k + 1) + 1), upd (bFill fi la v0 B k).2.2.2.1 (k + 1) ((la (k + 1) - fi (k + 1) + 1) * v0), (bFill fi la v0 B k).2.2.2.2)
theorem bFill_s (fi la : Nat → Int32) (v0 : Int32) (B : BK) {kk : Nat} (h : 1 ≤ kk) : bFill fi la v0 B (kk + 1 - 1) = (upd (bFill fi la v0 B (kk - 1)).1 kk v0, upd (bFill fi la v0 B (kk - 1)).2.1 kk (-1), upd (bFill fi la v0 B (kk - 1)).2.2.1 kk (la kk - fi kk + 1), upd (bFill fi la v0 B (kk - 1)).2.2.2.1 kk ((la kk - fi kk + 1) * v0), (bFill fi la v0 B (kk - 1)).2.2.2.2) := by
  obtain ⟨j, rfl⟩ : ∃ j, kk = j + 1 := ⟨kk - 1, by omega⟩
  rw [show j + 1 + 1 - 1 = j + 1 by omega, show j + 1 - 1 = j by omega]
  rfl
def bNew (X : (Nat → Int32) × (Nat → Int32)) (v0 : Int32) (B : BK) : BK := ((bFill X.1 X.2 v0 B 127).1, (bFill X.1 X.2 v0 B 127).2.1, (bFill X.1 X.2 v0 B 127).2.2.1, (bFill X.1 X.2 v0 B 127).2.2.2.1, 0, 0, 0)
end
section
set_option maxHeartbeats 4000000 in
set_option maxRecDepth 100000 in
/-- has an entry two below it -/
theorem mX0_hasParts (l : Launch) (D : va_G) (cI : ClassId) (h a0 a1 a2 a3 a4 a5 : Nat) (fi la : Nat → Int32) (B : BK) (e : Nat) (he : e < 128) : pq_M l yX0_hasParts wsX0_hasParts 0 0 0 0 D [(cI, .int)] pq_0 (bkW h a0 a1 a2 a3 a4 a5 cI fi la B) [.ref h, .int (nI e)] (fun v w1 => v = some (.int (if bHp fi la e then 1 else 0)) ∧ w1 = bkW h a0 a1 a2 a3 a4 a5 cI fi la B) := by
  refine pq_enter (cc := cX0_hasParts) (maxL := 2) (ret := (some .boolean)) (by decide) rfl (Nat.le_of_ble_eq_true rfl) ?_
  intro p ev s m args below meth cd A ls Q H locs hx hb hr hml hts hown hlocks hnm hK hP hD hS hA hE hl hQ
  have hl : lv_has ls 2 [(0, .ref h), (1, .int (nI e))] := hl
  have hP : va_P D vwCl [(h, .inr (0, [.ref a0, .ref a1, .ref a2, .ref a3, .ref a4, .ref a5, .int B.2.2.2.2.1, .int B.2.2.2.2.2.1, .int B.2.2.2.2.2.2])), (a0, .inl (cI, 128, .inl fi)), (a1, .inl (cI, 128, .inl la)), (a2, .inl (cI, 128, .inl B.1)), (a3, .inl (cI, 128, .inl B.2.1)), (a4, .inl (cI, 128, .inl B.2.2.1)), (a5, .inl (cI, 128, .inl B.2.2.2.1))] H := hP
  have hD : va_D A [(h, .inr (0, [.ref a0, .ref a1, .ref a2, .ref a3, .ref a4, .ref a5, .int B.2.2.2.2.1, .int B.2.2.2.2.2.1, .int B.2.2.2.2.2.2])), (a0, .inl (cI, 128, .inl fi)), (a1, .inl (cI, 128, .inl la)), (a2, .inl (cI, 128, .inl B.1)), (a3, .inl (cI, 128, .inl B.2.1)), (a4, .inl (cI, 128, .inl B.2.2.1)), (a5, .inl (cI, 128, .inl B.2.2.2.1))] := hD
  have hin_X0 : ∀ w ∈ wsX00, w ∈ wsX0_hasParts := by decide +kernel
  have hf_PressedPlains_Book_11 := hts (.fieldLink RX0 11 "PressedPlains$Book" "first" "[I") (by decide +kernel)
  have hf_PressedPlains_Book_15 := hts (.fieldLink RX0 15 "PressedPlains$Book" "last" "[I") (by decide +kernel)
  refine lv_iload_n hx hb dX0_hasParts_0 rfl (lv_at hl 1 rfl) ?_
  refine lv_bipush (v := 64) hx hb dX0_hasParts_1 (by decide) ?_
  refine lv_icmp_ge (tgt := 25) hx hb dX0_hasParts_3 (by decide) (fun c_1 => ?_) (fun c_1 => ?_)
  · refine lv_iconst (v := 0) hx hb dX0_hasParts_25 (by decide) ?_
    exact pq_zret hQ hx hb hr hlocks hK hS hP hD dX0_hasParts_26 (by omega) (by omega) (by decide) (⟨by rw [if_neg (show ¬ (bHp fi la e) from fun h => h.1 c_1)], rfl⟩)
  · refine lv_aload_n hx hb dX0_hasParts_6 rfl (lv_at hl 0 rfl) ?_
    refine va_get (D := D) (ci := 0) (v := .ref a0) (C := RX0) (T := TX0) (N := 9) hx hb hts hin_X0 hown hK hP 0 rfl rfl 0 (by decide) hf_PressedPlains_Book_11 (fun _ h9 => h9) rfl dX0_hasParts_7 ?_
    refine lv_iload_n hx hb dX0_hasParts_10 rfl (lv_at hl 1 rfl) ?_
    refine pq_iald hx hb hK hP 1 0 rfl rfl e (by omega) (by decide) dX0_hasParts_11 ?_
    refine lv_aload_n hx hb dX0_hasParts_12 rfl (lv_at hl 0 rfl) ?_
    refine va_get (D := D) (ci := 0) (v := .ref a1) (C := RX0) (T := TX0) (N := 9) hx hb hts hin_X0 hown hK hP 0 rfl rfl 1 (by decide) hf_PressedPlains_Book_15 (fun _ h9 => h9) rfl dX0_hasParts_13 ?_
    refine lv_iload_n hx hb dX0_hasParts_16 rfl (lv_at hl 1 rfl) ?_
    refine pq_iald hx hb hK hP 2 0 rfl rfl e (by omega) (by decide) dX0_hasParts_17 ?_
    refine lv_icmp_ge (tgt := 25) hx hb dX0_hasParts_18 (by decide) (fun c_2 => ?_) (fun c_2 => ?_)
    · refine lv_iconst (v := 0) hx hb dX0_hasParts_25 (by decide) ?_
      exact pq_zret hQ hx hb hr hlocks hK hS hP hD dX0_hasParts_26 (by omega) (by omega) (by decide) (⟨by rw [if_neg (show ¬ (bHp fi la e) from fun h => h.2 c_2)], rfl⟩)
    · refine lv_iconst (v := 1) hx hb dX0_hasParts_21 (by decide) ?_
      refine lv_goto (tgt := 26) hx hb dX0_hasParts_22 (by decide) ?_
      exact pq_zret hQ hx hb hr hlocks hK hS hP hD dX0_hasParts_26 (by omega) (by omega) (by decide) (⟨by rw [if_pos (show bHp fi la e from ⟨c_1, c_2⟩)], rfl⟩)

set_option maxHeartbeats 4000000 in
set_option maxRecDepth 100000 in
theorem mX0_isApart (l : Launch) (D : va_G) (cI : ClassId) (h a0 a1 a2 a3 a4 a5 : Nat) (fi la : Nat → Int32) (B : BK) (e : Nat) (a b : Int32) (he : e < 128) : pq_M l yX0_isApart wsX0_isApart 0 0 0 0 D [(cI, .int)] pq_0 (bkW h a0 a1 a2 a3 a4 a5 cI fi la B) [.ref h, .int (nI e), .int a, .int b] (fun v w1 => v = some (.int (if bAp fi la e a b then 1 else 0)) ∧ w1 = bkW h a0 a1 a2 a3 a4 a5 cI fi la B) := by
  refine pq_enter (cc := cX0_isApart) (maxL := 4) (ret := (some .boolean)) (by decide) rfl (Nat.le_of_ble_eq_true rfl) ?_
  intro p ev s m args below meth cd A ls Q H locs hx hb hr hml hts hown hlocks hnm hK hP hD hS hA hE hl hQ
  have hl : lv_has ls 4 [(0, .ref h), (1, .int (nI e)), (2, .int a), (3, .int b)] := hl
  have hP : va_P D vwCl [(h, .inr (0, [.ref a0, .ref a1, .ref a2, .ref a3, .ref a4, .ref a5, .int B.2.2.2.2.1, .int B.2.2.2.2.2.1, .int B.2.2.2.2.2.2])), (a0, .inl (cI, 128, .inl fi)), (a1, .inl (cI, 128, .inl la)), (a2, .inl (cI, 128, .inl B.1)), (a3, .inl (cI, 128, .inl B.2.1)), (a4, .inl (cI, 128, .inl B.2.2.1)), (a5, .inl (cI, 128, .inl B.2.2.2.1))] H := hP
  have hD : va_D A [(h, .inr (0, [.ref a0, .ref a1, .ref a2, .ref a3, .ref a4, .ref a5, .int B.2.2.2.2.1, .int B.2.2.2.2.2.1, .int B.2.2.2.2.2.2])), (a0, .inl (cI, 128, .inl fi)), (a1, .inl (cI, 128, .inl la)), (a2, .inl (cI, 128, .inl B.1)), (a3, .inl (cI, 128, .inl B.2.1)), (a4, .inl (cI, 128, .inl B.2.2.1)), (a5, .inl (cI, 128, .inl B.2.2.2.1))] := hD
  have hin_X0 : ∀ w ∈ wsX00, w ∈ wsX0_isApart := by decide +kernel
  have hf_PressedPlains_Book_15 := hts (.fieldLink RX0 15 "PressedPlains$Book" "last" "[I") (by decide +kernel)
  have hf_PressedPlains_Book_11 := hts (.fieldLink RX0 11 "PressedPlains$Book" "first" "[I") (by decide +kernel)
  refine lv_aload_n hx hb dX0_isApart_0 rfl (lv_at hl 0 rfl) ?_
  refine va_get (D := D) (ci := 0) (v := .ref a1) (C := RX0) (T := TX0) (N := 9) hx hb hts hin_X0 hown hK hP 0 rfl rfl 1 (by decide) hf_PressedPlains_Book_15 (fun _ h9 => h9) rfl dX0_isApart_1 ?_
  refine lv_iload_n hx hb dX0_isApart_4 rfl (lv_at hl 1 rfl) ?_
  refine pq_iald hx hb hK hP 2 0 rfl rfl e (by omega) (by decide) dX0_isApart_5 ?_
  refine lv_iload_n hx hb dX0_isApart_6 rfl (lv_at hl 2 rfl) ?_
  refine lv_icmp_lt (tgt := 20) hx hb dX0_isApart_7 (by decide) (fun c_1 => ?_) (fun c_1 => ?_)
  · refine lv_iconst (v := 1) hx hb dX0_isApart_20 (by decide) ?_
    refine lv_goto (tgt := 25) hx hb dX0_isApart_21 (by decide) ?_
    exact pq_zret hQ hx hb hr hlocks hK hS hP hD dX0_isApart_25 (by omega) (by omega) (by decide) (⟨by rw [if_pos (show bAp fi la e a b from Or.inl c_1)], rfl⟩)
  · refine lv_aload_n hx hb dX0_isApart_10 rfl (lv_at hl 0 rfl) ?_
    refine va_get (D := D) (ci := 0) (v := .ref a0) (C := RX0) (T := TX0) (N := 9) hx hb hts hin_X0 hown hK hP 0 rfl rfl 0 (by decide) hf_PressedPlains_Book_11 (fun _ h9 => h9) rfl dX0_isApart_11 ?_
    refine lv_iload_n hx hb dX0_isApart_14 rfl (lv_at hl 1 rfl) ?_
    refine pq_iald hx hb hK hP 1 0 rfl rfl e (by omega) (by decide) dX0_isApart_15 ?_
    refine lv_iload_n hx hb dX0_isApart_16 rfl (lv_at hl 3 rfl) ?_
    refine lv_icmp_le (tgt := 24) hx hb dX0_isApart_17 (by decide) (fun c_2 => ?_) (fun c_2 => ?_)
    · refine lv_iconst (v := 0) hx hb dX0_isApart_24 (by decide) ?_
      exact pq_zret hQ hx hb hr hlocks hK hS hP hD dX0_isApart_25 (by omega) (by omega) (by decide) (⟨by rw [if_neg (show ¬ (bAp fi la e a b) from fun h => h.elim c_1 (fun h => h c_2))], rfl⟩)
    · refine lv_iconst (v := 1) hx hb dX0_isApart_20 (by decide) ?_
      refine lv_goto (tgt := 25) hx hb dX0_isApart_21 (by decide) ?_
      exact pq_zret hQ hx hb hr hlocks hK hS hP hD dX0_isApart_25 (by omega) (by omega) (by decide) (⟨by rw [if_pos (show bAp fi la e a b from Or.inr c_2)], rfl⟩)

set_option maxHeartbeats 4000000 in
set_option maxRecDepth 100000 in
theorem mX0_isWithin (l : Launch) (D : va_G) (cI : ClassId) (h a0 a1 a2 a3 a4 a5 : Nat) (fi la : Nat → Int32) (B : BK) (e : Nat) (a b : Int32) (he : e < 128) : pq_M l yX0_isWithin wsX0_isWithin 0 0 0 0 D [(cI, .int)] pq_0 (bkW h a0 a1 a2 a3 a4 a5 cI fi la B) [.ref h, .int (nI e), .int a, .int b] (fun v w1 => v = some (.int (if bWi fi la e a b then 1 else 0)) ∧ w1 = bkW h a0 a1 a2 a3 a4 a5 cI fi la B) := by
  refine pq_enter (cc := cX0_isWithin) (maxL := 4) (ret := (some .boolean)) (by decide) rfl (Nat.le_of_ble_eq_true rfl) ?_
  intro p ev s m args below meth cd A ls Q H locs hx hb hr hml hts hown hlocks hnm hK hP hD hS hA hE hl hQ
  have hl : lv_has ls 4 [(0, .ref h), (1, .int (nI e)), (2, .int a), (3, .int b)] := hl
  have hP : va_P D vwCl [(h, .inr (0, [.ref a0, .ref a1, .ref a2, .ref a3, .ref a4, .ref a5, .int B.2.2.2.2.1, .int B.2.2.2.2.2.1, .int B.2.2.2.2.2.2])), (a0, .inl (cI, 128, .inl fi)), (a1, .inl (cI, 128, .inl la)), (a2, .inl (cI, 128, .inl B.1)), (a3, .inl (cI, 128, .inl B.2.1)), (a4, .inl (cI, 128, .inl B.2.2.1)), (a5, .inl (cI, 128, .inl B.2.2.2.1))] H := hP
  have hD : va_D A [(h, .inr (0, [.ref a0, .ref a1, .ref a2, .ref a3, .ref a4, .ref a5, .int B.2.2.2.2.1, .int B.2.2.2.2.2.1, .int B.2.2.2.2.2.2])), (a0, .inl (cI, 128, .inl fi)), (a1, .inl (cI, 128, .inl la)), (a2, .inl (cI, 128, .inl B.1)), (a3, .inl (cI, 128, .inl B.2.1)), (a4, .inl (cI, 128, .inl B.2.2.1)), (a5, .inl (cI, 128, .inl B.2.2.2.1))] := hD
  have hin_X0 : ∀ w ∈ wsX00, w ∈ wsX0_isWithin := by decide +kernel
  have hf_PressedPlains_Book_11 := hts (.fieldLink RX0 11 "PressedPlains$Book" "first" "[I") (by decide +kernel)
  have hf_PressedPlains_Book_15 := hts (.fieldLink RX0 15 "PressedPlains$Book" "last" "[I") (by decide +kernel)
  refine lv_iload_n hx hb dX0_isWithin_0 rfl (lv_at hl 2 rfl) ?_
  refine lv_aload_n hx hb dX0_isWithin_1 rfl (lv_at hl 0 rfl) ?_
  refine va_get (D := D) (ci := 0) (v := .ref a0) (C := RX0) (T := TX0) (N := 9) hx hb hts hin_X0 hown hK hP 0 rfl rfl 0 (by decide) hf_PressedPlains_Book_11 (fun _ h9 => h9) rfl dX0_isWithin_2 ?_
  refine lv_iload_n hx hb dX0_isWithin_5 rfl (lv_at hl 1 rfl) ?_
  refine pq_iald hx hb hK hP 1 0 rfl rfl e (by omega) (by decide) dX0_isWithin_6 ?_
  refine lv_icmp_gt (tgt := 24) hx hb dX0_isWithin_7 (by decide) (fun c_1 => ?_) (fun c_1 => ?_)
  · refine lv_iconst (v := 0) hx hb dX0_isWithin_24 (by decide) ?_
    exact pq_zret hQ hx hb hr hlocks hK hS hP hD dX0_isWithin_25 (by omega) (by omega) (by decide) (⟨by rw [if_neg (show ¬ (bWi fi la e a b) from fun h => h.1 c_1)], rfl⟩)
  · refine lv_aload_n hx hb dX0_isWithin_10 rfl (lv_at hl 0 rfl) ?_
    refine va_get (D := D) (ci := 0) (v := .ref a1) (C := RX0) (T := TX0) (N := 9) hx hb hts hin_X0 hown hK hP 0 rfl rfl 1 (by decide) hf_PressedPlains_Book_15 (fun _ h9 => h9) rfl dX0_isWithin_11 ?_
    refine lv_iload_n hx hb dX0_isWithin_14 rfl (lv_at hl 1 rfl) ?_
    refine pq_iald hx hb hK hP 2 0 rfl rfl e (by omega) (by decide) dX0_isWithin_15 ?_
    refine lv_iload_n hx hb dX0_isWithin_16 rfl (lv_at hl 3 rfl) ?_
    refine lv_icmp_gt (tgt := 24) hx hb dX0_isWithin_17 (by decide) (fun c_2 => ?_) (fun c_2 => ?_)
    · refine lv_iconst (v := 0) hx hb dX0_isWithin_24 (by decide) ?_
      exact pq_zret hQ hx hb hr hlocks hK hS hP hD dX0_isWithin_25 (by omega) (by omega) (by decide) (⟨by rw [if_neg (show ¬ (bWi fi la e a b) from fun h => h.2 c_2)], rfl⟩)
    · refine lv_iconst (v := 1) hx hb dX0_isWithin_20 (by decide) ?_
      refine lv_goto (tgt := 25) hx hb dX0_isWithin_21 (by decide) ?_
      exact pq_zret hQ hx hb hr hlocks hK hS hP hD dX0_isWithin_25 (by omega) (by omega) (by decide) (⟨by rw [if_pos (show bWi fi la e a b from ⟨c_1, c_2⟩)], rfl⟩)

set_option maxHeartbeats 4000000 in
set_option maxRecDepth 100000 in
theorem mX0_lags (l : Launch) (D : va_G) (cI : ClassId) (h a0 a1 a2 a3 a4 a5 : Nat) (fi la : Nat → Int32) (B : BK) (e : Nat) (he : e < 128) : pq_M l yX0_lags wsX0_lags 0 0 0 0 D [(cI, .int)] pq_0 (bkW h a0 a1 a2 a3 a4 a5 cI fi la B) [.ref h, .int (nI e)] (fun v w1 => v = some (.int (if bLag B e then 1 else 0)) ∧ w1 = bkW h a0 a1 a2 a3 a4 a5 cI fi la B) := by
  refine pq_enter (cc := cX0_lags) (maxL := 2) (ret := (some .boolean)) (by decide) rfl (Nat.le_of_ble_eq_true rfl) ?_
  intro p ev s m args below meth cd A ls Q H locs hx hb hr hml hts hown hlocks hnm hK hP hD hS hA hE hl hQ
  have hl : lv_has ls 2 [(0, .ref h), (1, .int (nI e))] := hl
  have hP : va_P D vwCl [(h, .inr (0, [.ref a0, .ref a1, .ref a2, .ref a3, .ref a4, .ref a5, .int B.2.2.2.2.1, .int B.2.2.2.2.2.1, .int B.2.2.2.2.2.2])), (a0, .inl (cI, 128, .inl fi)), (a1, .inl (cI, 128, .inl la)), (a2, .inl (cI, 128, .inl B.1)), (a3, .inl (cI, 128, .inl B.2.1)), (a4, .inl (cI, 128, .inl B.2.2.1)), (a5, .inl (cI, 128, .inl B.2.2.2.1))] H := hP
  have hD : va_D A [(h, .inr (0, [.ref a0, .ref a1, .ref a2, .ref a3, .ref a4, .ref a5, .int B.2.2.2.2.1, .int B.2.2.2.2.2.1, .int B.2.2.2.2.2.2])), (a0, .inl (cI, 128, .inl fi)), (a1, .inl (cI, 128, .inl la)), (a2, .inl (cI, 128, .inl B.1)), (a3, .inl (cI, 128, .inl B.2.1)), (a4, .inl (cI, 128, .inl B.2.2.1)), (a5, .inl (cI, 128, .inl B.2.2.2.1))] := hD
  have hin_X0 : ∀ w ∈ wsX00, w ∈ wsX0_lags := by decide +kernel
  have hf_PressedPlains_Book_18 := hts (.fieldLink RX0 18 "PressedPlains$Book" "greatest" "[I") (by decide +kernel)
  refine lv_aload_n hx hb dX0_lags_0 rfl (lv_at hl 0 rfl) ?_
  refine va_get (D := D) (ci := 0) (v := .ref a2) (C := RX0) (T := TX0) (N := 9) hx hb hts hin_X0 hown hK hP 0 rfl rfl 2 (by decide) hf_PressedPlains_Book_18 (fun _ h9 => h9) rfl dX0_lags_1 ?_
  refine lv_iload_n hx hb dX0_lags_4 rfl (lv_at hl 1 rfl) ?_
  refine pq_iald hx hb hK hP 3 0 rfl rfl e (by omega) (by decide) dX0_lags_5 ?_
  refine lv_aload_n hx hb dX0_lags_6 rfl (lv_at hl 0 rfl) ?_
  refine va_get (D := D) (ci := 0) (v := .ref a2) (C := RX0) (T := TX0) (N := 9) hx hb hts hin_X0 hown hK hP 0 rfl rfl 2 (by decide) hf_PressedPlains_Book_18 (fun _ h9 => h9) rfl dX0_lags_7 ?_
  refine lv_iload_n hx hb dX0_lags_10 rfl (lv_at hl 1 rfl) ?_
  refine lv_iconst (v := 2) hx hb dX0_lags_11 (by decide) ?_
  refine lv_idiv hx hb dX0_lags_12 (by decide) ?_
  refine pq_top (nI (e / 2)) (pk_div (d := 2) (by omega) (by decide) (by decide)) ?_
  refine pq_iald hx hb hK hP 3 0 rfl rfl (e / 2) (by omega) (by decide) dX0_lags_13 ?_
  refine lv_icmp_le (tgt := 21) hx hb dX0_lags_14 (by decide) (fun c_1 => ?_) (fun c_1 => ?_)
  · refine lv_iconst (v := 0) hx hb dX0_lags_21 (by decide) ?_
    exact pq_zret hQ hx hb hr hlocks hK hS hP hD dX0_lags_22 (by omega) (by omega) (by decide) (⟨by rw [if_neg (show ¬ (bLag B e) from fun h => h c_1)], rfl⟩)
  · refine lv_iconst (v := 1) hx hb dX0_lags_17 (by decide) ?_
    refine lv_goto (tgt := 22) hx hb dX0_lags_18 (by decide) ?_
    exact pq_zret hQ hx hb hr hlocks hK hS hP hD dX0_lags_22 (by omega) (by omega) (by decide) (⟨by rw [if_pos (show bLag B e from c_1)], rfl⟩)

set_option maxHeartbeats 4000000 in
set_option maxRecDepth 100000 in
theorem mX0_manyAt (l : Launch) (D : va_G) (cI : ClassId) (h a0 a1 a2 a3 a4 a5 : Nat) (fi la : Nat → Int32) (B : BK) (e : Nat) (t : Int32) (he : e < 128) : pq_M l yX0_manyAt wsX0_manyAt 0 0 0 0 D [(cI, .int)] pq_0 (bkW h a0 a1 a2 a3 a4 a5 cI fi la B) [.ref h, .int (nI e), .int t] (fun v w1 => v = some (.int (bMany B.1 B.2.2.1 e t)) ∧ w1 = bkW h a0 a1 a2 a3 a4 a5 cI fi la B) := by
  refine pq_enter (cc := cX0_manyAt) (maxL := 3) (ret := (some .int)) (by decide) rfl (Nat.le_of_ble_eq_true rfl) ?_
  intro p ev s m args below meth cd A ls Q H locs hx hb hr hml hts hown hlocks hnm hK hP hD hS hA hE hl hQ
  have hl : lv_has ls 3 [(0, .ref h), (1, .int (nI e)), (2, .int t)] := hl
  have hP : va_P D vwCl [(h, .inr (0, [.ref a0, .ref a1, .ref a2, .ref a3, .ref a4, .ref a5, .int B.2.2.2.2.1, .int B.2.2.2.2.2.1, .int B.2.2.2.2.2.2])), (a0, .inl (cI, 128, .inl fi)), (a1, .inl (cI, 128, .inl la)), (a2, .inl (cI, 128, .inl B.1)), (a3, .inl (cI, 128, .inl B.2.1)), (a4, .inl (cI, 128, .inl B.2.2.1)), (a5, .inl (cI, 128, .inl B.2.2.2.1))] H := hP
  have hD : va_D A [(h, .inr (0, [.ref a0, .ref a1, .ref a2, .ref a3, .ref a4, .ref a5, .int B.2.2.2.2.1, .int B.2.2.2.2.2.1, .int B.2.2.2.2.2.2])), (a0, .inl (cI, 128, .inl fi)), (a1, .inl (cI, 128, .inl la)), (a2, .inl (cI, 128, .inl B.1)), (a3, .inl (cI, 128, .inl B.2.1)), (a4, .inl (cI, 128, .inl B.2.2.1)), (a5, .inl (cI, 128, .inl B.2.2.2.1))] := hD
  have hin_X0 : ∀ w ∈ wsX00, w ∈ wsX0_manyAt := by decide +kernel
  have hf_PressedPlains_Book_18 := hts (.fieldLink RX0 18 "PressedPlains$Book" "greatest" "[I") (by decide +kernel)
  have hf_PressedPlains_Book_24 := hts (.fieldLink RX0 24 "PressedPlains$Book" "many" "[I") (by decide +kernel)
  refine lv_aload_n hx hb dX0_manyAt_0 rfl (lv_at hl 0 rfl) ?_
  refine va_get (D := D) (ci := 0) (v := .ref a2) (C := RX0) (T := TX0) (N := 9) hx hb hts hin_X0 hown hK hP 0 rfl rfl 2 (by decide) hf_PressedPlains_Book_18 (fun _ h9 => h9) rfl dX0_manyAt_1 ?_
  refine lv_iload_n hx hb dX0_manyAt_4 rfl (lv_at hl 1 rfl) ?_
  refine pq_iald hx hb hK hP 3 0 rfl rfl e (by omega) (by decide) dX0_manyAt_5 ?_
  refine lv_iload_n hx hb dX0_manyAt_6 rfl (lv_at hl 2 rfl) ?_
  refine lv_icmp_ne (tgt := 19) hx hb dX0_manyAt_7 (by decide) (fun c_1 => ?_) (fun c_1 => ?_)
  · refine lv_iconst (v := 0) hx hb dX0_manyAt_19 (by decide) ?_
    exact pq_iret hQ hx hb hr hlocks hK hS hP hD dX0_manyAt_20 (by omega) (by omega) (⟨by unfold bMany; rw [if_neg c_1], rfl⟩)
  · refine lv_aload_n hx hb dX0_manyAt_10 rfl (lv_at hl 0 rfl) ?_
    refine va_get (D := D) (ci := 0) (v := .ref a4) (C := RX0) (T := TX0) (N := 9) hx hb hts hin_X0 hown hK hP 0 rfl rfl 4 (by decide) hf_PressedPlains_Book_24 (fun _ h9 => h9) rfl dX0_manyAt_11 ?_
    refine lv_iload_n hx hb dX0_manyAt_14 rfl (lv_at hl 1 rfl) ?_
    refine pq_iald hx hb hK hP 5 0 rfl rfl e (by omega) (by decide) dX0_manyAt_15 ?_
    refine lv_goto (tgt := 20) hx hb dX0_manyAt_16 (by decide) ?_
    exact pq_iret hQ hx hb hr hlocks hK hS hP hD dX0_manyAt_20 (by omega) (by omega) (⟨by unfold bMany; rw [if_pos c_1], rfl⟩)

set_option maxHeartbeats 4000000 in
set_option maxRecDepth 100000 in
theorem mX0_greatestLessThan (l : Launch) (D : va_G) (cI : ClassId) (h a0 a1 a2 a3 a4 a5 : Nat) (fi la : Nat → Int32) (B : BK) (t : Int32) (e : Nat) (he : e < 128) : pq_M l yX0_greatestLessThan wsX0_greatestLessThan 0 0 0 0 D [(cI, .int)] pq_0 (bkW h a0 a1 a2 a3 a4 a5 cI fi la B) [.ref h, .int t, .int (nI e)] (fun v w1 => v = some (.int (bLess B.1 B.2.1 t e)) ∧ w1 = bkW h a0 a1 a2 a3 a4 a5 cI fi la B) := by
  refine pq_enter (cc := cX0_greatestLessThan) (maxL := 3) (ret := (some .int)) (by decide) rfl (Nat.le_of_ble_eq_true rfl) ?_
  intro p ev s m args below meth cd A ls Q H locs hx hb hr hml hts hown hlocks hnm hK hP hD hS hA hE hl hQ
  have hl : lv_has ls 3 [(0, .ref h), (1, .int t), (2, .int (nI e))] := hl
  have hP : va_P D vwCl [(h, .inr (0, [.ref a0, .ref a1, .ref a2, .ref a3, .ref a4, .ref a5, .int B.2.2.2.2.1, .int B.2.2.2.2.2.1, .int B.2.2.2.2.2.2])), (a0, .inl (cI, 128, .inl fi)), (a1, .inl (cI, 128, .inl la)), (a2, .inl (cI, 128, .inl B.1)), (a3, .inl (cI, 128, .inl B.2.1)), (a4, .inl (cI, 128, .inl B.2.2.1)), (a5, .inl (cI, 128, .inl B.2.2.2.1))] H := hP
  have hD : va_D A [(h, .inr (0, [.ref a0, .ref a1, .ref a2, .ref a3, .ref a4, .ref a5, .int B.2.2.2.2.1, .int B.2.2.2.2.2.1, .int B.2.2.2.2.2.2])), (a0, .inl (cI, 128, .inl fi)), (a1, .inl (cI, 128, .inl la)), (a2, .inl (cI, 128, .inl B.1)), (a3, .inl (cI, 128, .inl B.2.1)), (a4, .inl (cI, 128, .inl B.2.2.1)), (a5, .inl (cI, 128, .inl B.2.2.2.1))] := hD
  have hin_X0 : ∀ w ∈ wsX00, w ∈ wsX0_greatestLessThan := by decide +kernel
  have hf_PressedPlains_Book_18 := hts (.fieldLink RX0 18 "PressedPlains$Book" "greatest" "[I") (by decide +kernel)
  have hf_PressedPlains_Book_21 := hts (.fieldLink RX0 21 "PressedPlains$Book" "second" "[I") (by decide +kernel)
  refine lv_aload_n hx hb dX0_greatestLessThan_0 rfl (lv_at hl 0 rfl) ?_
  refine va_get (D := D) (ci := 0) (v := .ref a2) (C := RX0) (T := TX0) (N := 9) hx hb hts hin_X0 hown hK hP 0 rfl rfl 2 (by decide) hf_PressedPlains_Book_18 (fun _ h9 => h9) rfl dX0_greatestLessThan_1 ?_
  refine lv_iload_n hx hb dX0_greatestLessThan_4 rfl (lv_at hl 2 rfl) ?_
  refine pq_iald hx hb hK hP 3 0 rfl rfl e (by omega) (by decide) dX0_greatestLessThan_5 ?_
  refine lv_iload_n hx hb dX0_greatestLessThan_6 rfl (lv_at hl 1 rfl) ?_
  refine lv_icmp_ge (tgt := 19) hx hb dX0_greatestLessThan_7 (by decide) (fun c_1 => ?_) (fun c_1 => ?_)
  · refine lv_aload_n hx hb dX0_greatestLessThan_19 rfl (lv_at hl 0 rfl) ?_
    refine va_get (D := D) (ci := 0) (v := .ref a3) (C := RX0) (T := TX0) (N := 9) hx hb hts hin_X0 hown hK hP 0 rfl rfl 3 (by decide) hf_PressedPlains_Book_21 (fun _ h9 => h9) rfl dX0_greatestLessThan_20 ?_
    refine lv_iload_n hx hb dX0_greatestLessThan_23 rfl (lv_at hl 2 rfl) ?_
    refine pq_iald hx hb hK hP 4 0 rfl rfl e (by omega) (by decide) dX0_greatestLessThan_24 ?_
    exact pq_iret hQ hx hb hr hlocks hK hS hP hD dX0_greatestLessThan_25 (by omega) (by omega) (⟨by unfold bLess; rw [if_pos c_1], rfl⟩)
  · refine lv_aload_n hx hb dX0_greatestLessThan_10 rfl (lv_at hl 0 rfl) ?_
    refine va_get (D := D) (ci := 0) (v := .ref a2) (C := RX0) (T := TX0) (N := 9) hx hb hts hin_X0 hown hK hP 0 rfl rfl 2 (by decide) hf_PressedPlains_Book_18 (fun _ h9 => h9) rfl dX0_greatestLessThan_11 ?_
    refine lv_iload_n hx hb dX0_greatestLessThan_14 rfl (lv_at hl 2 rfl) ?_
    refine pq_iald hx hb hK hP 3 0 rfl rfl e (by omega) (by decide) dX0_greatestLessThan_15 ?_
    refine lv_goto (tgt := 25) hx hb dX0_greatestLessThan_16 (by decide) ?_
    exact pq_iret hQ hx hb hr hlocks hK hS hP hD dX0_greatestLessThan_25 (by omega) (by omega) (⟨by unfold bLess; rw [if_neg c_1], rfl⟩)

set_option maxHeartbeats 4000000 in
set_option maxRecDepth 100000 in
theorem mX0_pressDown (l : Launch) (D : va_G) (cI : ClassId) (h a0 a1 a2 a3 a4 a5 : Nat) (fi la : Nat → Int32) (B : BK) (e : Nat) (c0 : Int32) (he : e < 128) : pq_M l yX0_pressDown wsX0_pressDown 0 0 0 0 D [(cI, .int)] pq_0 (bkW h a0 a1 a2 a3 a4 a5 cI fi la B) [.ref h, .int (nI e), .int c0] (fun v w1 => v = none ∧ w1 = bkW h a0 a1 a2 a3 a4 a5 cI fi la (bPress B e c0)) := by
  refine pq_enter (cc := cX0_pressDown) (maxL := 3) (ret := none) (by decide) rfl (Nat.le_of_ble_eq_true rfl) ?_
  intro p ev s m args below meth cd A ls Q H locs hx hb hr hml hts hown hlocks hnm hK hP hD hS hA hE hl hQ
  have hl : lv_has ls 3 [(0, .ref h), (1, .int (nI e)), (2, .int c0)] := hl
  have hP : va_P D vwCl [(h, .inr (0, [.ref a0, .ref a1, .ref a2, .ref a3, .ref a4, .ref a5, .int B.2.2.2.2.1, .int B.2.2.2.2.2.1, .int B.2.2.2.2.2.2])), (a0, .inl (cI, 128, .inl fi)), (a1, .inl (cI, 128, .inl la)), (a2, .inl (cI, 128, .inl B.1)), (a3, .inl (cI, 128, .inl B.2.1)), (a4, .inl (cI, 128, .inl B.2.2.1)), (a5, .inl (cI, 128, .inl B.2.2.2.1))] H := hP
  have hD : va_D A [(h, .inr (0, [.ref a0, .ref a1, .ref a2, .ref a3, .ref a4, .ref a5, .int B.2.2.2.2.1, .int B.2.2.2.2.2.1, .int B.2.2.2.2.2.2])), (a0, .inl (cI, 128, .inl fi)), (a1, .inl (cI, 128, .inl la)), (a2, .inl (cI, 128, .inl B.1)), (a3, .inl (cI, 128, .inl B.2.1)), (a4, .inl (cI, 128, .inl B.2.2.1)), (a5, .inl (cI, 128, .inl B.2.2.2.1))] := hD
  have hin_X0 : ∀ w ∈ wsX00, w ∈ wsX0_pressDown := by decide +kernel
  have hf_PressedPlains_Book_27 := hts (.fieldLink RX0 27 "PressedPlains$Book" "sum" "[I") (by decide +kernel)
  have hf_PressedPlains_Book_18 := hts (.fieldLink RX0 18 "PressedPlains$Book" "greatest" "[I") (by decide +kernel)
  have hf_PressedPlains_Book_24 := hts (.fieldLink RX0 24 "PressedPlains$Book" "many" "[I") (by decide +kernel)
  refine lv_aload_n hx hb dX0_pressDown_0 rfl (lv_at hl 0 rfl) ?_
  refine va_get (D := D) (ci := 0) (v := .ref a5) (C := RX0) (T := TX0) (N := 9) hx hb hts hin_X0 hown hK hP 0 rfl rfl 5 (by decide) hf_PressedPlains_Book_27 (fun _ h9 => h9) rfl dX0_pressDown_1 ?_
  refine lv_iload_n hx hb dX0_pressDown_4 rfl (lv_at hl 1 rfl) ?_
  refine lv_dup2_11 hx hb dX0_pressDown_5 rfl rfl ?_
  refine pq_iald hx hb hK hP 6 0 rfl rfl e (by omega) (by decide) dX0_pressDown_6 ?_
  refine lv_aload_n hx hb dX0_pressDown_7 rfl (lv_at hl 0 rfl) ?_
  refine va_get (D := D) (ci := 0) (v := .ref a2) (C := RX0) (T := TX0) (N := 9) hx hb hts hin_X0 hown hK hP 0 rfl rfl 2 (by decide) hf_PressedPlains_Book_18 (fun _ h9 => h9) rfl dX0_pressDown_8 ?_
  refine lv_iload_n hx hb dX0_pressDown_11 rfl (lv_at hl 1 rfl) ?_
  refine pq_iald hx hb hK hP 3 0 rfl rfl e (by omega) (by decide) dX0_pressDown_12 ?_
  refine lv_iload_n hx hb dX0_pressDown_13 rfl (lv_at hl 2 rfl) ?_
  refine lv_isub hx hb dX0_pressDown_14 ?_
  refine lv_aload_n hx hb dX0_pressDown_15 rfl (lv_at hl 0 rfl) ?_
  refine va_get (D := D) (ci := 0) (v := .ref a4) (C := RX0) (T := TX0) (N := 9) hx hb hts hin_X0 hown hK hP 0 rfl rfl 4 (by decide) hf_PressedPlains_Book_24 (fun _ h9 => h9) rfl dX0_pressDown_16 ?_
  refine lv_iload_n hx hb dX0_pressDown_19 rfl (lv_at hl 1 rfl) ?_
  refine pq_iald hx hb hK hP 5 0 rfl rfl e (by omega) (by decide) dX0_pressDown_20 ?_
  refine lv_imul hx hb dX0_pressDown_21 ?_
  refine lv_isub hx hb dX0_pressDown_22 ?_
  refine pq_iast hx hb hK hP hD hS 6 0 rfl rfl e (by omega) (by decide) dX0_pressDown_23 (fun H locs hP hD hS => ?_)
  have hP : va_P D vwCl [(h, .inr (0, [.ref a0, .ref a1, .ref a2, .ref a3, .ref a4, .ref a5, .int B.2.2.2.2.1, .int B.2.2.2.2.2.1, .int B.2.2.2.2.2.2])), (a0, .inl (cI, 128, .inl fi)), (a1, .inl (cI, 128, .inl la)), (a2, .inl (cI, 128, .inl B.1)), (a3, .inl (cI, 128, .inl B.2.1)), (a4, .inl (cI, 128, .inl B.2.2.1)), (a5, .inl (cI, 128, .inl (upd B.2.2.2.1 e ((B.2.2.2.1 e) - (((B.1 e) - c0) * (B.2.2.1 e))))))] H := hP
  have hD : va_D A [(h, .inr (0, [.ref a0, .ref a1, .ref a2, .ref a3, .ref a4, .ref a5, .int B.2.2.2.2.1, .int B.2.2.2.2.2.1, .int B.2.2.2.2.2.2])), (a0, .inl (cI, 128, .inl fi)), (a1, .inl (cI, 128, .inl la)), (a2, .inl (cI, 128, .inl B.1)), (a3, .inl (cI, 128, .inl B.2.1)), (a4, .inl (cI, 128, .inl B.2.2.1)), (a5, .inl (cI, 128, .inl (upd B.2.2.2.1 e ((B.2.2.2.1 e) - (((B.1 e) - c0) * (B.2.2.1 e))))))] := hD
  refine lv_aload_n hx hb dX0_pressDown_24 rfl (lv_at hl 0 rfl) ?_
  refine va_get (D := D) (ci := 0) (v := .ref a2) (C := RX0) (T := TX0) (N := 9) hx hb hts hin_X0 hown hK hP 0 rfl rfl 2 (by decide) hf_PressedPlains_Book_18 (fun _ h9 => h9) rfl dX0_pressDown_25 ?_
  refine lv_iload_n hx hb dX0_pressDown_28 rfl (lv_at hl 1 rfl) ?_
  refine lv_iload_n hx hb dX0_pressDown_29 rfl (lv_at hl 2 rfl) ?_
  refine pq_iast hx hb hK hP hD hS 3 0 rfl rfl e (by omega) (by decide) dX0_pressDown_30 (fun H locs hP hD hS => ?_)
  have hP : va_P D vwCl [(h, .inr (0, [.ref a0, .ref a1, .ref a2, .ref a3, .ref a4, .ref a5, .int B.2.2.2.2.1, .int B.2.2.2.2.2.1, .int B.2.2.2.2.2.2])), (a0, .inl (cI, 128, .inl fi)), (a1, .inl (cI, 128, .inl la)), (a2, .inl (cI, 128, .inl (upd B.1 e c0))), (a3, .inl (cI, 128, .inl B.2.1)), (a4, .inl (cI, 128, .inl B.2.2.1)), (a5, .inl (cI, 128, .inl (upd B.2.2.2.1 e ((B.2.2.2.1 e) - (((B.1 e) - c0) * (B.2.2.1 e))))))] H := hP
  have hD : va_D A [(h, .inr (0, [.ref a0, .ref a1, .ref a2, .ref a3, .ref a4, .ref a5, .int B.2.2.2.2.1, .int B.2.2.2.2.2.1, .int B.2.2.2.2.2.2])), (a0, .inl (cI, 128, .inl fi)), (a1, .inl (cI, 128, .inl la)), (a2, .inl (cI, 128, .inl (upd B.1 e c0))), (a3, .inl (cI, 128, .inl B.2.1)), (a4, .inl (cI, 128, .inl B.2.2.1)), (a5, .inl (cI, 128, .inl (upd B.2.2.2.1 e ((B.2.2.2.1 e) - (((B.1 e) - c0) * (B.2.2.1 e))))))] := hD
  exact pq_vret hQ hx hb hr hlocks hK hS hP hD dX0_pressDown_31 (by omega) (by omega) (⟨rfl, rfl⟩)

set_option maxHeartbeats 4000000 in
set_option maxRecDepth 100000 in
theorem mX0_countVisit (l : Launch) (D : va_G) (cI : ClassId) (h a0 a1 a2 a3 a4 a5 : Nat) (fi la : Nat → Int32) (B : BK) : pq_M l yX0_countVisit wsX0_countVisit 0 0 0 0 D [(cI, .int)] pq_0 (bkW h a0 a1 a2 a3 a4 a5 cI fi la B) [.ref h] (fun v w1 => v = none ∧ w1 = bkW h a0 a1 a2 a3 a4 a5 cI fi la (bVisit B)) := by
  refine pq_enter (cc := cX0_countVisit) (maxL := 1) (ret := none) (by decide) rfl (Nat.le_of_ble_eq_true rfl) ?_
  intro p ev s m args below meth cd A ls Q H locs hx hb hr hml hts hown hlocks hnm hK hP hD hS hA hE hl hQ
  have hl : lv_has ls 1 [(0, .ref h)] := hl
  have hP : va_P D vwCl [(h, .inr (0, [.ref a0, .ref a1, .ref a2, .ref a3, .ref a4, .ref a5, .int B.2.2.2.2.1, .int B.2.2.2.2.2.1, .int B.2.2.2.2.2.2])), (a0, .inl (cI, 128, .inl fi)), (a1, .inl (cI, 128, .inl la)), (a2, .inl (cI, 128, .inl B.1)), (a3, .inl (cI, 128, .inl B.2.1)), (a4, .inl (cI, 128, .inl B.2.2.1)), (a5, .inl (cI, 128, .inl B.2.2.2.1))] H := hP
  have hD : va_D A [(h, .inr (0, [.ref a0, .ref a1, .ref a2, .ref a3, .ref a4, .ref a5, .int B.2.2.2.2.1, .int B.2.2.2.2.2.1, .int B.2.2.2.2.2.2])), (a0, .inl (cI, 128, .inl fi)), (a1, .inl (cI, 128, .inl la)), (a2, .inl (cI, 128, .inl B.1)), (a3, .inl (cI, 128, .inl B.2.1)), (a4, .inl (cI, 128, .inl B.2.2.1)), (a5, .inl (cI, 128, .inl B.2.2.2.1))] := hD
  have hin_X0 : ∀ w ∈ wsX00, w ∈ wsX0_countVisit := by decide +kernel
  have hf_PressedPlains_Book_38 := hts (.fieldLink RX0 38 "PressedPlains$Book" "latestVisits" "I") (by decide +kernel)
  have hf_PressedPlains_Book_42 := hts (.fieldLink RX0 42 "PressedPlains$Book" "totalVisits" "I") (by decide +kernel)
  refine lv_aload_n hx hb dX0_countVisit_0 rfl (lv_at hl 0 rfl) ?_
  refine lv_dup hx hb dX0_countVisit_1 rfl ?_
  refine va_get (D := D) (ci := 0) (v := .int B.2.2.2.2.1) (C := RX0) (T := TX0) (N := 9) hx hb hts hin_X0 hown hK hP 0 rfl rfl 6 (by decide) hf_PressedPlains_Book_38 (fun _ h9 => h9) rfl dX0_countVisit_2 ?_
  refine lv_iconst (v := 1) hx hb dX0_countVisit_5 (by decide) ?_
  refine lv_iadd hx hb dX0_countVisit_6 ?_
  refine va_put (D := D) (ci := 0) (v := .int (B.2.2.2.2.1 + 1)) (ty := .int) (C := RX0) (T := TX0) (N := 9) hx hb hts hin_X0 tyX0 tyX0_ok nmX0 hown hK hP hD hS 0 rfl rfl 6 (by decide) hf_PressedPlains_Book_38 (fun _ h9 => h9) rfl (by decide +kernel) rfl rfl (Nat.le_of_ble_eq_true rfl) dX0_countVisit_7 (fun H locs hP hD hS => ?_)
  have hP : va_P D vwCl [(h, .inr (0, [.ref a0, .ref a1, .ref a2, .ref a3, .ref a4, .ref a5, .int (B.2.2.2.2.1 + 1), .int B.2.2.2.2.2.1, .int B.2.2.2.2.2.2])), (a0, .inl (cI, 128, .inl fi)), (a1, .inl (cI, 128, .inl la)), (a2, .inl (cI, 128, .inl B.1)), (a3, .inl (cI, 128, .inl B.2.1)), (a4, .inl (cI, 128, .inl B.2.2.1)), (a5, .inl (cI, 128, .inl B.2.2.2.1))] H := hP
  have hD : va_D A [(h, .inr (0, [.ref a0, .ref a1, .ref a2, .ref a3, .ref a4, .ref a5, .int (B.2.2.2.2.1 + 1), .int B.2.2.2.2.2.1, .int B.2.2.2.2.2.2])), (a0, .inl (cI, 128, .inl fi)), (a1, .inl (cI, 128, .inl la)), (a2, .inl (cI, 128, .inl B.1)), (a3, .inl (cI, 128, .inl B.2.1)), (a4, .inl (cI, 128, .inl B.2.2.1)), (a5, .inl (cI, 128, .inl B.2.2.2.1))] := hD
  refine lv_aload_n hx hb dX0_countVisit_10 rfl (lv_at hl 0 rfl) ?_
  refine lv_dup hx hb dX0_countVisit_11 rfl ?_
  refine va_get (D := D) (ci := 0) (v := .int B.2.2.2.2.2.1) (C := RX0) (T := TX0) (N := 9) hx hb hts hin_X0 hown hK hP 0 rfl rfl 7 (by decide) hf_PressedPlains_Book_42 (fun _ h9 => h9) rfl dX0_countVisit_12 ?_
  refine lv_iconst (v := 1) hx hb dX0_countVisit_15 (by decide) ?_
  refine lv_iadd hx hb dX0_countVisit_16 ?_
  refine va_put (D := D) (ci := 0) (v := .int (B.2.2.2.2.2.1 + 1)) (ty := .int) (C := RX0) (T := TX0) (N := 9) hx hb hts hin_X0 tyX0 tyX0_ok nmX0 hown hK hP hD hS 0 rfl rfl 7 (by decide) hf_PressedPlains_Book_42 (fun _ h9 => h9) rfl (by decide +kernel) rfl rfl (Nat.le_of_ble_eq_true rfl) dX0_countVisit_17 (fun H locs hP hD hS => ?_)
  have hP : va_P D vwCl [(h, .inr (0, [.ref a0, .ref a1, .ref a2, .ref a3, .ref a4, .ref a5, .int (B.2.2.2.2.1 + 1), .int (B.2.2.2.2.2.1 + 1), .int B.2.2.2.2.2.2])), (a0, .inl (cI, 128, .inl fi)), (a1, .inl (cI, 128, .inl la)), (a2, .inl (cI, 128, .inl B.1)), (a3, .inl (cI, 128, .inl B.2.1)), (a4, .inl (cI, 128, .inl B.2.2.1)), (a5, .inl (cI, 128, .inl B.2.2.2.1))] H := hP
  have hD : va_D A [(h, .inr (0, [.ref a0, .ref a1, .ref a2, .ref a3, .ref a4, .ref a5, .int (B.2.2.2.2.1 + 1), .int (B.2.2.2.2.2.1 + 1), .int B.2.2.2.2.2.2])), (a0, .inl (cI, 128, .inl fi)), (a1, .inl (cI, 128, .inl la)), (a2, .inl (cI, 128, .inl B.1)), (a3, .inl (cI, 128, .inl B.2.1)), (a4, .inl (cI, 128, .inl B.2.2.1)), (a5, .inl (cI, 128, .inl B.2.2.2.1))] := hD
  exact pq_vret hQ hx hb hr hlocks hK hS hP hD dX0_countVisit_20 (by omega) (by omega) (⟨rfl, rfl⟩)

set_option maxHeartbeats 4000000 in
set_option maxRecDepth 100000 in
theorem mX0_beginCall (l : Launch) (D : va_G) (cI : ClassId) (h a0 a1 a2 a3 a4 a5 : Nat) (fi la : Nat → Int32) (B : BK) : pq_M l yX0_beginCall wsX0_beginCall 0 0 0 0 D [(cI, .int)] pq_0 (bkW h a0 a1 a2 a3 a4 a5 cI fi la B) [.ref h] (fun v w1 => v = none ∧ w1 = bkW h a0 a1 a2 a3 a4 a5 cI fi la (bBegin B)) := by
  refine pq_enter (cc := cX0_beginCall) (maxL := 1) (ret := none) (by decide) rfl (Nat.le_of_ble_eq_true rfl) ?_
  intro p ev s m args below meth cd A ls Q H locs hx hb hr hml hts hown hlocks hnm hK hP hD hS hA hE hl hQ
  have hl : lv_has ls 1 [(0, .ref h)] := hl
  have hP : va_P D vwCl [(h, .inr (0, [.ref a0, .ref a1, .ref a2, .ref a3, .ref a4, .ref a5, .int B.2.2.2.2.1, .int B.2.2.2.2.2.1, .int B.2.2.2.2.2.2])), (a0, .inl (cI, 128, .inl fi)), (a1, .inl (cI, 128, .inl la)), (a2, .inl (cI, 128, .inl B.1)), (a3, .inl (cI, 128, .inl B.2.1)), (a4, .inl (cI, 128, .inl B.2.2.1)), (a5, .inl (cI, 128, .inl B.2.2.2.1))] H := hP
  have hD : va_D A [(h, .inr (0, [.ref a0, .ref a1, .ref a2, .ref a3, .ref a4, .ref a5, .int B.2.2.2.2.1, .int B.2.2.2.2.2.1, .int B.2.2.2.2.2.2])), (a0, .inl (cI, 128, .inl fi)), (a1, .inl (cI, 128, .inl la)), (a2, .inl (cI, 128, .inl B.1)), (a3, .inl (cI, 128, .inl B.2.1)), (a4, .inl (cI, 128, .inl B.2.2.1)), (a5, .inl (cI, 128, .inl B.2.2.2.1))] := hD
  have hin_X0 : ∀ w ∈ wsX00, w ∈ wsX0_beginCall := by decide +kernel
  have hf_PressedPlains_Book_45 := hts (.fieldLink RX0 45 "PressedPlains$Book" "calls" "I") (by decide +kernel)
  have hf_PressedPlains_Book_38 := hts (.fieldLink RX0 38 "PressedPlains$Book" "latestVisits" "I") (by decide +kernel)
  refine lv_aload_n hx hb dX0_beginCall_0 rfl (lv_at hl 0 rfl) ?_
  refine lv_dup hx hb dX0_beginCall_1 rfl ?_
  refine va_get (D := D) (ci := 0) (v := .int B.2.2.2.2.2.2) (C := RX0) (T := TX0) (N := 9) hx hb hts hin_X0 hown hK hP 0 rfl rfl 8 (by decide) hf_PressedPlains_Book_45 (fun _ h9 => h9) rfl dX0_beginCall_2 ?_
  refine lv_iconst (v := 1) hx hb dX0_beginCall_5 (by decide) ?_
  refine lv_iadd hx hb dX0_beginCall_6 ?_
  refine va_put (D := D) (ci := 0) (v := .int (B.2.2.2.2.2.2 + 1)) (ty := .int) (C := RX0) (T := TX0) (N := 9) hx hb hts hin_X0 tyX0 tyX0_ok nmX0 hown hK hP hD hS 0 rfl rfl 8 (by decide) hf_PressedPlains_Book_45 (fun _ h9 => h9) rfl (by decide +kernel) rfl rfl (Nat.le_of_ble_eq_true rfl) dX0_beginCall_7 (fun H locs hP hD hS => ?_)
  have hP : va_P D vwCl [(h, .inr (0, [.ref a0, .ref a1, .ref a2, .ref a3, .ref a4, .ref a5, .int B.2.2.2.2.1, .int B.2.2.2.2.2.1, .int (B.2.2.2.2.2.2 + 1)])), (a0, .inl (cI, 128, .inl fi)), (a1, .inl (cI, 128, .inl la)), (a2, .inl (cI, 128, .inl B.1)), (a3, .inl (cI, 128, .inl B.2.1)), (a4, .inl (cI, 128, .inl B.2.2.1)), (a5, .inl (cI, 128, .inl B.2.2.2.1))] H := hP
  have hD : va_D A [(h, .inr (0, [.ref a0, .ref a1, .ref a2, .ref a3, .ref a4, .ref a5, .int B.2.2.2.2.1, .int B.2.2.2.2.2.1, .int (B.2.2.2.2.2.2 + 1)])), (a0, .inl (cI, 128, .inl fi)), (a1, .inl (cI, 128, .inl la)), (a2, .inl (cI, 128, .inl B.1)), (a3, .inl (cI, 128, .inl B.2.1)), (a4, .inl (cI, 128, .inl B.2.2.1)), (a5, .inl (cI, 128, .inl B.2.2.2.1))] := hD
  refine lv_aload_n hx hb dX0_beginCall_10 rfl (lv_at hl 0 rfl) ?_
  refine lv_iconst (v := 0) hx hb dX0_beginCall_11 (by decide) ?_
  refine va_put (D := D) (ci := 0) (v := .int 0) (ty := .int) (C := RX0) (T := TX0) (N := 9) hx hb hts hin_X0 tyX0 tyX0_ok nmX0 hown hK hP hD hS 0 rfl rfl 6 (by decide) hf_PressedPlains_Book_38 (fun _ h9 => h9) rfl (by decide +kernel) rfl rfl (Nat.le_of_ble_eq_true rfl) dX0_beginCall_12 (fun H locs hP hD hS => ?_)
  have hP : va_P D vwCl [(h, .inr (0, [.ref a0, .ref a1, .ref a2, .ref a3, .ref a4, .ref a5, .int 0, .int B.2.2.2.2.2.1, .int (B.2.2.2.2.2.2 + 1)])), (a0, .inl (cI, 128, .inl fi)), (a1, .inl (cI, 128, .inl la)), (a2, .inl (cI, 128, .inl B.1)), (a3, .inl (cI, 128, .inl B.2.1)), (a4, .inl (cI, 128, .inl B.2.2.1)), (a5, .inl (cI, 128, .inl B.2.2.2.1))] H := hP
  have hD : va_D A [(h, .inr (0, [.ref a0, .ref a1, .ref a2, .ref a3, .ref a4, .ref a5, .int 0, .int B.2.2.2.2.2.1, .int (B.2.2.2.2.2.2 + 1)])), (a0, .inl (cI, 128, .inl fi)), (a1, .inl (cI, 128, .inl la)), (a2, .inl (cI, 128, .inl B.1)), (a3, .inl (cI, 128, .inl B.2.1)), (a4, .inl (cI, 128, .inl B.2.2.1)), (a5, .inl (cI, 128, .inl B.2.2.2.1))] := hD
  exact pq_vret hQ hx hb hr hlocks hK hS hP hD dX0_beginCall_15 (by omega) (by omega) (⟨rfl, rfl⟩)

set_option maxHeartbeats 4000000 in
set_option maxRecDepth 100000 in
theorem mX0_catchUp (l : Launch) (D : va_G) (cI : ClassId) (h a0 a1 a2 a3 a4 a5 : Nat) (fi la : Nat → Int32) (B : BK) (e : Nat) (he : e < 128) : pq_M l yX0_catchUp wsX0_catchUp 1 22 0 0 D [(cI, .int)] pq_0 (bkW h a0 a1 a2 a3 a4 a5 cI fi la B) [.ref h, .int (nI e)] (fun v w1 => v = none ∧ w1 = bkW h a0 a1 a2 a3 a4 a5 cI fi la (bCatch B e)) := by
  refine pq_enter (cc := cX0_catchUp) (maxL := 2) (ret := none) (by decide) rfl (Nat.le_of_ble_eq_true rfl) ?_
  intro p ev s m args below meth cd A ls Q H locs hx hb hr hml hts hown hlocks hnm hK hP hD hS hA hE hl hQ
  have hl : lv_has ls 2 [(0, .ref h), (1, .int (nI e))] := hl
  have hP : va_P D vwCl [(h, .inr (0, [.ref a0, .ref a1, .ref a2, .ref a3, .ref a4, .ref a5, .int B.2.2.2.2.1, .int B.2.2.2.2.2.1, .int B.2.2.2.2.2.2])), (a0, .inl (cI, 128, .inl fi)), (a1, .inl (cI, 128, .inl la)), (a2, .inl (cI, 128, .inl B.1)), (a3, .inl (cI, 128, .inl B.2.1)), (a4, .inl (cI, 128, .inl B.2.2.1)), (a5, .inl (cI, 128, .inl B.2.2.2.1))] H := hP
  have hD : va_D A [(h, .inr (0, [.ref a0, .ref a1, .ref a2, .ref a3, .ref a4, .ref a5, .int B.2.2.2.2.1, .int B.2.2.2.2.2.1, .int B.2.2.2.2.2.2])), (a0, .inl (cI, 128, .inl fi)), (a1, .inl (cI, 128, .inl la)), (a2, .inl (cI, 128, .inl B.1)), (a3, .inl (cI, 128, .inl B.2.1)), (a4, .inl (cI, 128, .inl B.2.2.1)), (a5, .inl (cI, 128, .inl B.2.2.2.1))] := hD
  have hin_X0 : ∀ w ∈ wsX00, w ∈ wsX0_catchUp := by decide +kernel
  have hf_PressedPlains_Book_18 := hts (.fieldLink RX0 18 "PressedPlains$Book" "greatest" "[I") (by decide +kernel)
  refine lv_aload_n hx hb dX0_catchUp_0 rfl (lv_at hl 0 rfl) ?_
  refine lv_iload_n hx hb dX0_catchUp_1 rfl (lv_at hl 1 rfl) ?_
  refine pq_callV (wr := []) (own := RX0) (nL := 2) (q0 := 0) (ci := 0) [0, 1, 2, 3, 4, 5, 6] [] [.int (nI e)] (mX0_lags l D cI h a0 a1 a2 a3 a4 a5 fi la B e (by omega)) ⟨hx, hb, hml, hown, hts⟩ (cwV 1 hts gX0_catchUp_X0_lags rfl rfl rfl (by decide +kernel) ⟨by dsimp only [pq_R]; omega, by dsimp only [pq_R]; omega⟩) pq_bl0 (fun _ _ _ => trivial) hK hP hD hS hA rfl (by decide) rfl (by decide) (by decide) rfl rfl rfl rfl hl.1 rfl (Nat.le_of_ble_eq_true rfl) dX0_catchUp_2 ⟨by dsimp only [pq_R]; omega, by dsimp only [pq_R]; omega⟩ (fun v w1 H locs hq hP hD hS hz => ?_)
  obtain ⟨rfl, rfl⟩ := hq
  have hP : va_P D vwCl [(h, .inr (0, [.ref a0, .ref a1, .ref a2, .ref a3, .ref a4, .ref a5, .int B.2.2.2.2.1, .int B.2.2.2.2.2.1, .int B.2.2.2.2.2.2])), (a0, .inl (cI, 128, .inl fi)), (a1, .inl (cI, 128, .inl la)), (a2, .inl (cI, 128, .inl B.1)), (a3, .inl (cI, 128, .inl B.2.1)), (a4, .inl (cI, 128, .inl B.2.2.1)), (a5, .inl (cI, 128, .inl B.2.2.2.1))] H := hP
  have hD : va_D A [(h, .inr (0, [.ref a0, .ref a1, .ref a2, .ref a3, .ref a4, .ref a5, .int B.2.2.2.2.1, .int B.2.2.2.2.2.1, .int B.2.2.2.2.2.2])), (a0, .inl (cI, 128, .inl fi)), (a1, .inl (cI, 128, .inl la)), (a2, .inl (cI, 128, .inl B.1)), (a3, .inl (cI, 128, .inl B.2.1)), (a4, .inl (cI, 128, .inl B.2.2.1)), (a5, .inl (cI, 128, .inl B.2.2.2.1))] := hD
  by_cases b_1 : bLag B e
  · rw [if_pos b_1]
    refine W.eq (g2 := F0 m 5 ls [.int 1]) rfl ?_
    refine lv_if_eq (tgt := 21) hx hb dX0_catchUp_5 (by decide) (fun c9 => absurd c9 (by decide)) (fun _ => ?_)
    refine lv_aload_n hx hb dX0_catchUp_8 rfl (lv_at hl 0 rfl) ?_
    refine lv_iload_n hx hb dX0_catchUp_9 rfl (lv_at hl 1 rfl) ?_
    refine lv_aload_n hx hb dX0_catchUp_10 rfl (lv_at hl 0 rfl) ?_
    refine va_get (D := D) (ci := 0) (v := .ref a2) (C := RX0) (T := TX0) (N := 9) hx hb hts hin_X0 hown hK hP 0 rfl rfl 2 (by decide) hf_PressedPlains_Book_18 (fun _ h9 => h9) rfl dX0_catchUp_11 ?_
    refine lv_iload_n hx hb dX0_catchUp_14 rfl (lv_at hl 1 rfl) ?_
    refine lv_iconst (v := 2) hx hb dX0_catchUp_15 (by decide) ?_
    refine lv_idiv hx hb dX0_catchUp_16 (by decide) ?_
    refine pq_top (nI (e / 2)) (pk_div (d := 2) (by omega) (by decide) (by decide)) ?_
    refine pq_iald hx hb hK hP 3 0 rfl rfl (e / 2) (by omega) (by decide) dX0_catchUp_17 ?_
    refine pq_callV (wr := []) (own := RX0) (nL := 2) (q0 := 0) (ci := 0) [0, 1, 2, 3, 4, 5, 6] [] [.int (nI e), .int (B.1 (e / 2))] (mX0_pressDown l D cI h a0 a1 a2 a3 a4 a5 fi la B e (B.1 (e / 2)) (by omega)) ⟨hx, hb, hml, hown, hts⟩ (cwV 2 hts gX0_catchUp_X0_pressDown rfl rfl rfl (by decide +kernel) ⟨by dsimp only [pq_R]; omega, by dsimp only [pq_R]; omega⟩) pq_bl0 (fun _ _ _ => trivial) hK hP hD hS hA rfl (by decide) rfl (by decide) (by decide) rfl rfl rfl rfl hl.1 rfl (Nat.le_of_ble_eq_true rfl) dX0_catchUp_18 ⟨by dsimp only [pq_R]; omega, by dsimp only [pq_R]; omega⟩ (fun v w1 H locs hq hP hD hS hz => ?_)
    obtain ⟨rfl, rfl⟩ := hq
    obtain ⟨B_2, hB_2⟩ : ∃ x, x = bPress B e (B.1 (e / 2)) := ⟨_, rfl⟩
    rw [← hB_2] at hP hD
    have hP : va_P D vwCl [(h, .inr (0, [.ref a0, .ref a1, .ref a2, .ref a3, .ref a4, .ref a5, .int B_2.2.2.2.2.1, .int B_2.2.2.2.2.2.1, .int B_2.2.2.2.2.2.2])), (a0, .inl (cI, 128, .inl fi)), (a1, .inl (cI, 128, .inl la)), (a2, .inl (cI, 128, .inl B_2.1)), (a3, .inl (cI, 128, .inl B_2.2.1)), (a4, .inl (cI, 128, .inl B_2.2.2.1)), (a5, .inl (cI, 128, .inl B_2.2.2.2.1))] H := hP
    have hD : va_D A [(h, .inr (0, [.ref a0, .ref a1, .ref a2, .ref a3, .ref a4, .ref a5, .int B_2.2.2.2.2.1, .int B_2.2.2.2.2.2.1, .int B_2.2.2.2.2.2.2])), (a0, .inl (cI, 128, .inl fi)), (a1, .inl (cI, 128, .inl la)), (a2, .inl (cI, 128, .inl B_2.1)), (a3, .inl (cI, 128, .inl B_2.2.1)), (a4, .inl (cI, 128, .inl B_2.2.2.1)), (a5, .inl (cI, 128, .inl B_2.2.2.2.1))] := hD
    refine W.eq (g2 := F0 m 21 ls []) rfl ?_
    exact pq_vret hQ hx hb hr hlocks hK hS hP hD dX0_catchUp_21 (by omega) (by omega) (⟨rfl, by subst hB_2; unfold bCatch; rw [if_pos b_1] <;> rfl⟩)
  · rw [if_neg b_1]
    refine W.eq (g2 := F0 m 5 ls [.int 0]) rfl ?_
    refine lv_if_eq (tgt := 21) hx hb dX0_catchUp_5 (by decide) (fun _ => ?_) (fun c9 => absurd c9 (by decide))
    exact pq_vret hQ hx hb hr hlocks hK hS hP hD dX0_catchUp_21 (by omega) (by omega) (⟨rfl, by unfold bCatch; rw [if_neg b_1] <;> rfl⟩)

set_option maxHeartbeats 4000000 in
set_option maxRecDepth 100000 in
theorem mX0_catchUpBelow (l : Launch) (D : va_G) (cI : ClassId) (h a0 a1 a2 a3 a4 a5 : Nat) (fi la : Nat → Int32) (B : BK) (e : Nat) (he : e < 64) : pq_M l yX0_catchUpBelow wsX0_catchUpBelow 2 43 0 0 D [(cI, .int)] pq_0 (bkW h a0 a1 a2 a3 a4 a5 cI fi la B) [.ref h, .int (nI e)] (fun v w1 => v = none ∧ w1 = bkW h a0 a1 a2 a3 a4 a5 cI fi la (bCatch2 B e)) := by
  refine pq_enter (cc := cX0_catchUpBelow) (maxL := 2) (ret := none) (by decide) rfl (Nat.le_of_ble_eq_true rfl) ?_
  intro p ev s m args below meth cd A ls Q H locs hx hb hr hml hts hown hlocks hnm hK hP hD hS hA hE hl hQ
  have hl : lv_has ls 2 [(0, .ref h), (1, .int (nI e))] := hl
  have hP : va_P D vwCl [(h, .inr (0, [.ref a0, .ref a1, .ref a2, .ref a3, .ref a4, .ref a5, .int B.2.2.2.2.1, .int B.2.2.2.2.2.1, .int B.2.2.2.2.2.2])), (a0, .inl (cI, 128, .inl fi)), (a1, .inl (cI, 128, .inl la)), (a2, .inl (cI, 128, .inl B.1)), (a3, .inl (cI, 128, .inl B.2.1)), (a4, .inl (cI, 128, .inl B.2.2.1)), (a5, .inl (cI, 128, .inl B.2.2.2.1))] H := hP
  have hD : va_D A [(h, .inr (0, [.ref a0, .ref a1, .ref a2, .ref a3, .ref a4, .ref a5, .int B.2.2.2.2.1, .int B.2.2.2.2.2.1, .int B.2.2.2.2.2.2])), (a0, .inl (cI, 128, .inl fi)), (a1, .inl (cI, 128, .inl la)), (a2, .inl (cI, 128, .inl B.1)), (a3, .inl (cI, 128, .inl B.2.1)), (a4, .inl (cI, 128, .inl B.2.2.1)), (a5, .inl (cI, 128, .inl B.2.2.2.1))] := hD
  refine lv_aload_n hx hb dX0_catchUpBelow_0 rfl (lv_at hl 0 rfl) ?_
  refine lv_iconst (v := 2) hx hb dX0_catchUpBelow_1 (by decide) ?_
  refine lv_iload_n hx hb dX0_catchUpBelow_2 rfl (lv_at hl 1 rfl) ?_
  refine lv_imul hx hb dX0_catchUpBelow_3 ?_
  refine pq_top (nI (2 * e)) (pk_mul 2 _) ?_
  refine pq_callV (wr := []) (own := RX0) (nL := 2) (q0 := 0) (ci := 0) [0, 1, 2, 3, 4, 5, 6] [] [.int (nI (2 * e))] (mX0_catchUp l D cI h a0 a1 a2 a3 a4 a5 fi la B (2 * e) (by omega)) ⟨hx, hb, hml, hown, hts⟩ (cwV 1 hts gX0_catchUpBelow_X0_catchUp rfl rfl rfl (by decide +kernel) ⟨by dsimp only [pq_R]; omega, by dsimp only [pq_R]; omega⟩) pq_bl0 (fun _ _ _ => trivial) hK hP hD hS hA rfl (by decide) rfl (by decide) (by decide) rfl rfl rfl rfl hl.1 rfl (Nat.le_of_ble_eq_true rfl) dX0_catchUpBelow_4 ⟨by dsimp only [pq_R]; omega, by dsimp only [pq_R]; omega⟩ (fun v w1 H locs hq hP hD hS hz => ?_)
  obtain ⟨rfl, rfl⟩ := hq
  obtain ⟨B_1, hB_1⟩ : ∃ x, x = bCatch B (2 * e) := ⟨_, rfl⟩
  rw [← hB_1] at hP hD
  have hP : va_P D vwCl [(h, .inr (0, [.ref a0, .ref a1, .ref a2, .ref a3, .ref a4, .ref a5, .int B_1.2.2.2.2.1, .int B_1.2.2.2.2.2.1, .int B_1.2.2.2.2.2.2])), (a0, .inl (cI, 128, .inl fi)), (a1, .inl (cI, 128, .inl la)), (a2, .inl (cI, 128, .inl B_1.1)), (a3, .inl (cI, 128, .inl B_1.2.1)), (a4, .inl (cI, 128, .inl B_1.2.2.1)), (a5, .inl (cI, 128, .inl B_1.2.2.2.1))] H := hP
  have hD : va_D A [(h, .inr (0, [.ref a0, .ref a1, .ref a2, .ref a3, .ref a4, .ref a5, .int B_1.2.2.2.2.1, .int B_1.2.2.2.2.2.1, .int B_1.2.2.2.2.2.2])), (a0, .inl (cI, 128, .inl fi)), (a1, .inl (cI, 128, .inl la)), (a2, .inl (cI, 128, .inl B_1.1)), (a3, .inl (cI, 128, .inl B_1.2.1)), (a4, .inl (cI, 128, .inl B_1.2.2.1)), (a5, .inl (cI, 128, .inl B_1.2.2.2.1))] := hD
  refine W.eq (g2 := F0 m 7 ls []) rfl ?_
  refine lv_aload_n hx hb dX0_catchUpBelow_7 rfl (lv_at hl 0 rfl) ?_
  refine lv_iconst (v := 2) hx hb dX0_catchUpBelow_8 (by decide) ?_
  refine lv_iload_n hx hb dX0_catchUpBelow_9 rfl (lv_at hl 1 rfl) ?_
  refine lv_imul hx hb dX0_catchUpBelow_10 ?_
  refine pq_top (nI (2 * e)) (pk_mul 2 _) ?_
  refine lv_iconst (v := 1) hx hb dX0_catchUpBelow_11 (by decide) ?_
  refine lv_iadd hx hb dX0_catchUpBelow_12 ?_
  refine pq_top (nI ((2 * e) + 1)) (nI_1 _) ?_
  refine pq_callV (wr := []) (own := RX0) (nL := 2) (q0 := 0) (ci := 0) [0, 1, 2, 3, 4, 5, 6] [] [.int (nI ((2 * e) + 1))] (mX0_catchUp l D cI h a0 a1 a2 a3 a4 a5 fi la B_1 ((2 * e) + 1) (by omega)) ⟨hx, hb, hml, hown, hts⟩ (cwV 1 hts gX0_catchUpBelow_X0_catchUp rfl rfl rfl (by decide +kernel) ⟨by dsimp only [pq_R]; omega, by dsimp only [pq_R]; omega⟩) pq_bl0 (fun _ _ _ => trivial) hK hP hD hS hA rfl (by decide) rfl (by decide) (by decide) rfl rfl rfl rfl hl.1 rfl (Nat.le_of_ble_eq_true rfl) dX0_catchUpBelow_13 ⟨by dsimp only [pq_R]; omega, by dsimp only [pq_R]; omega⟩ (fun v w1 H locs hq hP hD hS hz => ?_)
  obtain ⟨rfl, rfl⟩ := hq
  obtain ⟨B_2, hB_2⟩ : ∃ x, x = bCatch B_1 ((2 * e) + 1) := ⟨_, rfl⟩
  rw [← hB_2] at hP hD
  have hP : va_P D vwCl [(h, .inr (0, [.ref a0, .ref a1, .ref a2, .ref a3, .ref a4, .ref a5, .int B_2.2.2.2.2.1, .int B_2.2.2.2.2.2.1, .int B_2.2.2.2.2.2.2])), (a0, .inl (cI, 128, .inl fi)), (a1, .inl (cI, 128, .inl la)), (a2, .inl (cI, 128, .inl B_2.1)), (a3, .inl (cI, 128, .inl B_2.2.1)), (a4, .inl (cI, 128, .inl B_2.2.2.1)), (a5, .inl (cI, 128, .inl B_2.2.2.2.1))] H := hP
  have hD : va_D A [(h, .inr (0, [.ref a0, .ref a1, .ref a2, .ref a3, .ref a4, .ref a5, .int B_2.2.2.2.2.1, .int B_2.2.2.2.2.2.1, .int B_2.2.2.2.2.2.2])), (a0, .inl (cI, 128, .inl fi)), (a1, .inl (cI, 128, .inl la)), (a2, .inl (cI, 128, .inl B_2.1)), (a3, .inl (cI, 128, .inl B_2.2.1)), (a4, .inl (cI, 128, .inl B_2.2.2.1)), (a5, .inl (cI, 128, .inl B_2.2.2.2.1))] := hD
  refine W.eq (g2 := F0 m 16 ls []) rfl ?_
  exact pq_vret hQ hx hb hr hlocks hK hS hP hD dX0_catchUpBelow_16 (by omega) (by omega) (⟨rfl, by subst hB_2; subst hB_1; rfl⟩)

set_option maxHeartbeats 4000000 in
set_option maxRecDepth 100000 in
theorem mX0_tellAnew (l : Launch) (D : va_G) (cI : ClassId) (h a0 a1 a2 a3 a4 a5 : Nat) (fi la : Nat → Int32) (B : BK) (e : Nat) (he : e < 64) : pq_M l yX0_tellAnew wsX0_tellAnew 1 30 0 0 D [(cI, .int)] pq_0 (bkW h a0 a1 a2 a3 a4 a5 cI fi la B) [.ref h, .int (nI e)] (fun v w1 => v = none ∧ w1 = bkW h a0 a1 a2 a3 a4 a5 cI fi la (bTell B e)) := by
  refine pq_enter (cc := cX0_tellAnew) (maxL := 5) (ret := none) (by decide) rfl (Nat.le_of_ble_eq_true rfl) ?_
  intro p ev s m args below meth cd A ls Q H locs hx hb hr hml hts hown hlocks hnm hK hP hD hS hA hE hl hQ
  have hl : lv_has ls 5 [(0, .ref h), (1, .int (nI e))] := hl
  have hP : va_P D vwCl [(h, .inr (0, [.ref a0, .ref a1, .ref a2, .ref a3, .ref a4, .ref a5, .int B.2.2.2.2.1, .int B.2.2.2.2.2.1, .int B.2.2.2.2.2.2])), (a0, .inl (cI, 128, .inl fi)), (a1, .inl (cI, 128, .inl la)), (a2, .inl (cI, 128, .inl B.1)), (a3, .inl (cI, 128, .inl B.2.1)), (a4, .inl (cI, 128, .inl B.2.2.1)), (a5, .inl (cI, 128, .inl B.2.2.2.1))] H := hP
  have hD : va_D A [(h, .inr (0, [.ref a0, .ref a1, .ref a2, .ref a3, .ref a4, .ref a5, .int B.2.2.2.2.1, .int B.2.2.2.2.2.1, .int B.2.2.2.2.2.2])), (a0, .inl (cI, 128, .inl fi)), (a1, .inl (cI, 128, .inl la)), (a2, .inl (cI, 128, .inl B.1)), (a3, .inl (cI, 128, .inl B.2.1)), (a4, .inl (cI, 128, .inl B.2.2.1)), (a5, .inl (cI, 128, .inl B.2.2.2.1))] := hD
  have hin_X0 : ∀ w ∈ wsX00, w ∈ wsX0_tellAnew := by decide +kernel
  have hf_PressedPlains_Book_18 := hts (.fieldLink RX0 18 "PressedPlains$Book" "greatest" "[I") (by decide +kernel)
  have hm1_max101 := hts (.methodLink RX0 101 Lib.Math.max.name) (by decide +kernel)
  have hm2_max := hts (.static Lib.Math.max.name) (by decide +kernel)
  have hm3 := hts (.initialized "java/lang/Math") (by decide +kernel)
  have hm4_max := hts (.code Lib.Math.max.name Lib.Math.max.code 2 (some .int)) (by decide +kernel)
  have hf_PressedPlains_Book_24 := hts (.fieldLink RX0 24 "PressedPlains$Book" "many" "[I") (by decide +kernel)
  have hf_PressedPlains_Book_21 := hts (.fieldLink RX0 21 "PressedPlains$Book" "second" "[I") (by decide +kernel)
  have hf_PressedPlains_Book_27 := hts (.fieldLink RX0 27 "PressedPlains$Book" "sum" "[I") (by decide +kernel)
  refine lv_iconst (v := 2) hx hb dX0_tellAnew_0 (by decide) ?_
  refine lv_iload_n hx hb dX0_tellAnew_1 rfl (lv_at hl 1 rfl) ?_
  refine lv_imul hx hb dX0_tellAnew_2 ?_
  refine pq_top (nI (2 * e)) (pk_mul 2 _) ?_
  refine lv_istore_n (lv' := [(2, .int (nI (2 * e))), (0, .ref h), (1, .int (nI e))]) hx hb dX0_tellAnew_3 rfl hl (by decide) rfl (fun ls hl => ?_)
  refine lv_iload_n hx hb dX0_tellAnew_4 rfl (lv_at hl 0 rfl) ?_
  refine lv_iconst (v := 1) hx hb dX0_tellAnew_5 (by decide) ?_
  refine lv_iadd hx hb dX0_tellAnew_6 ?_
  refine pq_top (nI ((2 * e) + 1)) (nI_1 _) ?_
  refine lv_istore_n (lv' := [(3, .int (nI ((2 * e) + 1))), (2, .int (nI (2 * e))), (0, .ref h), (1, .int (nI e))]) hx hb dX0_tellAnew_7 rfl hl (by decide) rfl (fun ls hl => ?_)
  refine lv_aload_n hx hb dX0_tellAnew_8 rfl (lv_at hl 2 rfl) ?_
  refine va_get (D := D) (ci := 0) (v := .ref a2) (C := RX0) (T := TX0) (N := 9) hx hb hts hin_X0 hown hK hP 0 rfl rfl 2 (by decide) hf_PressedPlains_Book_18 (fun _ h9 => h9) rfl dX0_tellAnew_9 ?_
  refine lv_iload_n hx hb dX0_tellAnew_12 rfl (lv_at hl 1 rfl) ?_
  refine pq_iald hx hb hK hP 3 0 rfl rfl (2 * e) (by omega) (by decide) dX0_tellAnew_13 ?_
  refine lv_aload_n hx hb dX0_tellAnew_14 rfl (lv_at hl 2 rfl) ?_
  refine va_get (D := D) (ci := 0) (v := .ref a2) (C := RX0) (T := TX0) (N := 9) hx hb hts hin_X0 hown hK hP 0 rfl rfl 2 (by decide) hf_PressedPlains_Book_18 (fun _ h9 => h9) rfl dX0_tellAnew_15 ?_
  refine lv_iload_n hx hb dX0_tellAnew_18 rfl (lv_at hl 0 rfl) ?_
  refine pq_iald hx hb hK hP 3 0 rfl rfl ((2 * e) + 1) (by omega) (by decide) dX0_tellAnew_19 ?_
  refine va_mmax hx hb (hml.trans hl.1.symm) hown hm1_max101 hm2_max hm3 hm4_max (Nat.le_of_ble_eq_true rfl) (Nat.le_of_ble_eq_true rfl) (Nat.le_of_ble_eq_true rfl) (Nat.le_of_ble_eq_true rfl) dX0_tellAnew_20 ?_
  refine pq_top (bMax (B.1 (2 * e)) (B.1 ((2 * e) + 1))) rfl ?_
  refine lv_istore (lv' := [(4, .int (bMax (B.1 (2 * e)) (B.1 ((2 * e) + 1)))), (3, .int (nI ((2 * e) + 1))), (2, .int (nI (2 * e))), (0, .ref h), (1, .int (nI e))]) hx hb dX0_tellAnew_23 hl (by decide) rfl (fun ls hl => ?_)
  refine lv_aload_n hx hb dX0_tellAnew_25 rfl (lv_at hl 3 rfl) ?_
  refine va_get (D := D) (ci := 0) (v := .ref a2) (C := RX0) (T := TX0) (N := 9) hx hb hts hin_X0 hown hK hP 0 rfl rfl 2 (by decide) hf_PressedPlains_Book_18 (fun _ h9 => h9) rfl dX0_tellAnew_26 ?_
  refine lv_iload_n hx hb dX0_tellAnew_29 rfl (lv_at hl 4 rfl) ?_
  refine lv_iload hx hb dX0_tellAnew_30 (lv_at hl 0 rfl) ?_
  refine pq_iast hx hb hK hP hD hS 3 0 rfl rfl e (by omega) (by decide) dX0_tellAnew_32 (fun H locs hP hD hS => ?_)
  have hP : va_P D vwCl [(h, .inr (0, [.ref a0, .ref a1, .ref a2, .ref a3, .ref a4, .ref a5, .int B.2.2.2.2.1, .int B.2.2.2.2.2.1, .int B.2.2.2.2.2.2])), (a0, .inl (cI, 128, .inl fi)), (a1, .inl (cI, 128, .inl la)), (a2, .inl (cI, 128, .inl (upd B.1 e (bMax (B.1 (2 * e)) (B.1 ((2 * e) + 1)))))), (a3, .inl (cI, 128, .inl B.2.1)), (a4, .inl (cI, 128, .inl B.2.2.1)), (a5, .inl (cI, 128, .inl B.2.2.2.1))] H := hP
  have hD : va_D A [(h, .inr (0, [.ref a0, .ref a1, .ref a2, .ref a3, .ref a4, .ref a5, .int B.2.2.2.2.1, .int B.2.2.2.2.2.1, .int B.2.2.2.2.2.2])), (a0, .inl (cI, 128, .inl fi)), (a1, .inl (cI, 128, .inl la)), (a2, .inl (cI, 128, .inl (upd B.1 e (bMax (B.1 (2 * e)) (B.1 ((2 * e) + 1)))))), (a3, .inl (cI, 128, .inl B.2.1)), (a4, .inl (cI, 128, .inl B.2.2.1)), (a5, .inl (cI, 128, .inl B.2.2.2.1))] := hD
  refine lv_aload_n hx hb dX0_tellAnew_33 rfl (lv_at hl 3 rfl) ?_
  refine va_get (D := D) (ci := 0) (v := .ref a4) (C := RX0) (T := TX0) (N := 9) hx hb hts hin_X0 hown hK hP 0 rfl rfl 4 (by decide) hf_PressedPlains_Book_24 (fun _ h9 => h9) rfl dX0_tellAnew_34 ?_
  refine lv_iload_n hx hb dX0_tellAnew_37 rfl (lv_at hl 4 rfl) ?_
  refine lv_aload_n hx hb dX0_tellAnew_38 rfl (lv_at hl 3 rfl) ?_
  refine lv_iload_n hx hb dX0_tellAnew_39 rfl (lv_at hl 2 rfl) ?_
  refine lv_iload hx hb dX0_tellAnew_40 (lv_at hl 0 rfl) ?_
  refine pq_callV (wr := []) (own := RX0) (nL := 5) (q0 := 0) (ci := 0) [0, 1, 2, 3, 4, 5, 6] [] [.int (nI (2 * e)), .int (bMax (B.1 (2 * e)) (B.1 ((2 * e) + 1)))] (mX0_manyAt l D cI h a0 a1 a2 a3 a4 a5 fi la (upd B.1 e (bMax (B.1 (2 * e)) (B.1 ((2 * e) + 1))), B.2.1, B.2.2.1, B.2.2.2.1, B.2.2.2.2) (2 * e) (bMax (B.1 (2 * e)) (B.1 ((2 * e) + 1))) (by omega)) ⟨hx, hb, hml, hown, hts⟩ (cwV 2 hts gX0_tellAnew_X0_manyAt rfl rfl rfl (by decide +kernel) ⟨by dsimp only [pq_R]; omega, by dsimp only [pq_R]; omega⟩) pq_bl0 (fun _ _ _ => trivial) hK hP hD hS hA rfl (by decide) rfl (by decide) (by decide) rfl rfl rfl rfl hl.1 rfl (Nat.le_of_ble_eq_true rfl) dX0_tellAnew_42 ⟨by dsimp only [pq_R]; omega, by dsimp only [pq_R]; omega⟩ (fun v w1 H locs hq hP hD hS hz => ?_)
  obtain ⟨rfl, rfl⟩ := hq
  have hP : va_P D vwCl [(h, .inr (0, [.ref a0, .ref a1, .ref a2, .ref a3, .ref a4, .ref a5, .int B.2.2.2.2.1, .int B.2.2.2.2.2.1, .int B.2.2.2.2.2.2])), (a0, .inl (cI, 128, .inl fi)), (a1, .inl (cI, 128, .inl la)), (a2, .inl (cI, 128, .inl (upd B.1 e (bMax (B.1 (2 * e)) (B.1 ((2 * e) + 1)))))), (a3, .inl (cI, 128, .inl B.2.1)), (a4, .inl (cI, 128, .inl B.2.2.1)), (a5, .inl (cI, 128, .inl B.2.2.2.1))] H := hP
  have hD : va_D A [(h, .inr (0, [.ref a0, .ref a1, .ref a2, .ref a3, .ref a4, .ref a5, .int B.2.2.2.2.1, .int B.2.2.2.2.2.1, .int B.2.2.2.2.2.2])), (a0, .inl (cI, 128, .inl fi)), (a1, .inl (cI, 128, .inl la)), (a2, .inl (cI, 128, .inl (upd B.1 e (bMax (B.1 (2 * e)) (B.1 ((2 * e) + 1)))))), (a3, .inl (cI, 128, .inl B.2.1)), (a4, .inl (cI, 128, .inl B.2.2.1)), (a5, .inl (cI, 128, .inl B.2.2.2.1))] := hD
  refine W.eq (g2 := F0 m 45 ls [.int (bMany (upd B.1 e (bMax (B.1 (2 * e)) (B.1 ((2 * e) + 1)))) B.2.2.1 (2 * e) (bMax (B.1 (2 * e)) (B.1 ((2 * e) + 1)))), .int (nI e), .ref a4]) rfl ?_
  refine lv_aload_n hx hb dX0_tellAnew_45 rfl (lv_at hl 3 rfl) ?_
  refine lv_iload_n hx hb dX0_tellAnew_46 rfl (lv_at hl 1 rfl) ?_
  refine lv_iload hx hb dX0_tellAnew_47 (lv_at hl 0 rfl) ?_
  refine pq_callV (wr := []) (own := RX0) (nL := 5) (q0 := 0) (ci := 0) [0, 1, 2, 3, 4, 5, 6] [] [.int (nI ((2 * e) + 1)), .int (bMax (B.1 (2 * e)) (B.1 ((2 * e) + 1)))] (mX0_manyAt l D cI h a0 a1 a2 a3 a4 a5 fi la (upd B.1 e (bMax (B.1 (2 * e)) (B.1 ((2 * e) + 1))), B.2.1, B.2.2.1, B.2.2.2.1, B.2.2.2.2) ((2 * e) + 1) (bMax (B.1 (2 * e)) (B.1 ((2 * e) + 1))) (by omega)) ⟨hx, hb, hml, hown, hts⟩ (cwV 2 hts gX0_tellAnew_X0_manyAt rfl rfl rfl (by decide +kernel) ⟨by dsimp only [pq_R]; omega, by dsimp only [pq_R]; omega⟩) pq_bl0 (fun _ _ _ => trivial) hK hP hD hS hA rfl (by decide) rfl (by decide) (by decide) rfl rfl rfl rfl hl.1 rfl (Nat.le_of_ble_eq_true rfl) dX0_tellAnew_49 ⟨by dsimp only [pq_R]; omega, by dsimp only [pq_R]; omega⟩ (fun v w1 H locs hq hP hD hS hz => ?_)
  obtain ⟨rfl, rfl⟩ := hq
  have hP : va_P D vwCl [(h, .inr (0, [.ref a0, .ref a1, .ref a2, .ref a3, .ref a4, .ref a5, .int B.2.2.2.2.1, .int B.2.2.2.2.2.1, .int B.2.2.2.2.2.2])), (a0, .inl (cI, 128, .inl fi)), (a1, .inl (cI, 128, .inl la)), (a2, .inl (cI, 128, .inl (upd B.1 e (bMax (B.1 (2 * e)) (B.1 ((2 * e) + 1)))))), (a3, .inl (cI, 128, .inl B.2.1)), (a4, .inl (cI, 128, .inl B.2.2.1)), (a5, .inl (cI, 128, .inl B.2.2.2.1))] H := hP
  have hD : va_D A [(h, .inr (0, [.ref a0, .ref a1, .ref a2, .ref a3, .ref a4, .ref a5, .int B.2.2.2.2.1, .int B.2.2.2.2.2.1, .int B.2.2.2.2.2.2])), (a0, .inl (cI, 128, .inl fi)), (a1, .inl (cI, 128, .inl la)), (a2, .inl (cI, 128, .inl (upd B.1 e (bMax (B.1 (2 * e)) (B.1 ((2 * e) + 1)))))), (a3, .inl (cI, 128, .inl B.2.1)), (a4, .inl (cI, 128, .inl B.2.2.1)), (a5, .inl (cI, 128, .inl B.2.2.2.1))] := hD
  refine W.eq (g2 := F0 m 52 ls [.int (bMany (upd B.1 e (bMax (B.1 (2 * e)) (B.1 ((2 * e) + 1)))) B.2.2.1 ((2 * e) + 1) (bMax (B.1 (2 * e)) (B.1 ((2 * e) + 1)))), .int (bMany (upd B.1 e (bMax (B.1 (2 * e)) (B.1 ((2 * e) + 1)))) B.2.2.1 (2 * e) (bMax (B.1 (2 * e)) (B.1 ((2 * e) + 1)))), .int (nI e), .ref a4]) rfl ?_
  refine lv_iadd hx hb dX0_tellAnew_52 ?_
  refine pq_iast hx hb hK hP hD hS 5 0 rfl rfl e (by omega) (by decide) dX0_tellAnew_53 (fun H locs hP hD hS => ?_)
  have hP : va_P D vwCl [(h, .inr (0, [.ref a0, .ref a1, .ref a2, .ref a3, .ref a4, .ref a5, .int B.2.2.2.2.1, .int B.2.2.2.2.2.1, .int B.2.2.2.2.2.2])), (a0, .inl (cI, 128, .inl fi)), (a1, .inl (cI, 128, .inl la)), (a2, .inl (cI, 128, .inl (upd B.1 e (bMax (B.1 (2 * e)) (B.1 ((2 * e) + 1)))))), (a3, .inl (cI, 128, .inl B.2.1)), (a4, .inl (cI, 128, .inl (upd B.2.2.1 e ((bMany (upd B.1 e (bMax (B.1 (2 * e)) (B.1 ((2 * e) + 1)))) B.2.2.1 (2 * e) (bMax (B.1 (2 * e)) (B.1 ((2 * e) + 1)))) + (bMany (upd B.1 e (bMax (B.1 (2 * e)) (B.1 ((2 * e) + 1)))) B.2.2.1 ((2 * e) + 1) (bMax (B.1 (2 * e)) (B.1 ((2 * e) + 1)))))))), (a5, .inl (cI, 128, .inl B.2.2.2.1))] H := hP
  have hD : va_D A [(h, .inr (0, [.ref a0, .ref a1, .ref a2, .ref a3, .ref a4, .ref a5, .int B.2.2.2.2.1, .int B.2.2.2.2.2.1, .int B.2.2.2.2.2.2])), (a0, .inl (cI, 128, .inl fi)), (a1, .inl (cI, 128, .inl la)), (a2, .inl (cI, 128, .inl (upd B.1 e (bMax (B.1 (2 * e)) (B.1 ((2 * e) + 1)))))), (a3, .inl (cI, 128, .inl B.2.1)), (a4, .inl (cI, 128, .inl (upd B.2.2.1 e ((bMany (upd B.1 e (bMax (B.1 (2 * e)) (B.1 ((2 * e) + 1)))) B.2.2.1 (2 * e) (bMax (B.1 (2 * e)) (B.1 ((2 * e) + 1)))) + (bMany (upd B.1 e (bMax (B.1 (2 * e)) (B.1 ((2 * e) + 1)))) B.2.2.1 ((2 * e) + 1) (bMax (B.1 (2 * e)) (B.1 ((2 * e) + 1)))))))), (a5, .inl (cI, 128, .inl B.2.2.2.1))] := hD
  refine lv_aload_n hx hb dX0_tellAnew_54 rfl (lv_at hl 3 rfl) ?_
  refine va_get (D := D) (ci := 0) (v := .ref a3) (C := RX0) (T := TX0) (N := 9) hx hb hts hin_X0 hown hK hP 0 rfl rfl 3 (by decide) hf_PressedPlains_Book_21 (fun _ h9 => h9) rfl dX0_tellAnew_55 ?_
  refine lv_iload_n hx hb dX0_tellAnew_58 rfl (lv_at hl 4 rfl) ?_
  refine lv_aload_n hx hb dX0_tellAnew_59 rfl (lv_at hl 3 rfl) ?_
  refine lv_iload hx hb dX0_tellAnew_60 (lv_at hl 0 rfl) ?_
  refine lv_iload_n hx hb dX0_tellAnew_62 rfl (lv_at hl 2 rfl) ?_
  refine pq_callV (wr := []) (own := RX0) (nL := 5) (q0 := 0) (ci := 0) [0, 1, 2, 3, 4, 5, 6] [] [.int (bMax (B.1 (2 * e)) (B.1 ((2 * e) + 1))), .int (nI (2 * e))] (mX0_greatestLessThan l D cI h a0 a1 a2 a3 a4 a5 fi la (upd B.1 e (bMax (B.1 (2 * e)) (B.1 ((2 * e) + 1))), B.2.1, upd B.2.2.1 e ((bMany (upd B.1 e (bMax (B.1 (2 * e)) (B.1 ((2 * e) + 1)))) B.2.2.1 (2 * e) (bMax (B.1 (2 * e)) (B.1 ((2 * e) + 1)))) + (bMany (upd B.1 e (bMax (B.1 (2 * e)) (B.1 ((2 * e) + 1)))) B.2.2.1 ((2 * e) + 1) (bMax (B.1 (2 * e)) (B.1 ((2 * e) + 1))))), B.2.2.2.1, B.2.2.2.2) (bMax (B.1 (2 * e)) (B.1 ((2 * e) + 1))) (2 * e) (by omega)) ⟨hx, hb, hml, hown, hts⟩ (cwV 2 hts gX0_tellAnew_X0_greatestLessThan rfl rfl rfl (by decide +kernel) ⟨by dsimp only [pq_R]; omega, by dsimp only [pq_R]; omega⟩) pq_bl0 (fun _ _ _ => trivial) hK hP hD hS hA rfl (by decide) rfl (by decide) (by decide) rfl rfl rfl rfl hl.1 rfl (Nat.le_of_ble_eq_true rfl) dX0_tellAnew_63 ⟨by dsimp only [pq_R]; omega, by dsimp only [pq_R]; omega⟩ (fun v w1 H locs hq hP hD hS hz => ?_)
  obtain ⟨rfl, rfl⟩ := hq
  have hP : va_P D vwCl [(h, .inr (0, [.ref a0, .ref a1, .ref a2, .ref a3, .ref a4, .ref a5, .int B.2.2.2.2.1, .int B.2.2.2.2.2.1, .int B.2.2.2.2.2.2])), (a0, .inl (cI, 128, .inl fi)), (a1, .inl (cI, 128, .inl la)), (a2, .inl (cI, 128, .inl (upd B.1 e (bMax (B.1 (2 * e)) (B.1 ((2 * e) + 1)))))), (a3, .inl (cI, 128, .inl B.2.1)), (a4, .inl (cI, 128, .inl (upd B.2.2.1 e ((bMany (upd B.1 e (bMax (B.1 (2 * e)) (B.1 ((2 * e) + 1)))) B.2.2.1 (2 * e) (bMax (B.1 (2 * e)) (B.1 ((2 * e) + 1)))) + (bMany (upd B.1 e (bMax (B.1 (2 * e)) (B.1 ((2 * e) + 1)))) B.2.2.1 ((2 * e) + 1) (bMax (B.1 (2 * e)) (B.1 ((2 * e) + 1)))))))), (a5, .inl (cI, 128, .inl B.2.2.2.1))] H := hP
  have hD : va_D A [(h, .inr (0, [.ref a0, .ref a1, .ref a2, .ref a3, .ref a4, .ref a5, .int B.2.2.2.2.1, .int B.2.2.2.2.2.1, .int B.2.2.2.2.2.2])), (a0, .inl (cI, 128, .inl fi)), (a1, .inl (cI, 128, .inl la)), (a2, .inl (cI, 128, .inl (upd B.1 e (bMax (B.1 (2 * e)) (B.1 ((2 * e) + 1)))))), (a3, .inl (cI, 128, .inl B.2.1)), (a4, .inl (cI, 128, .inl (upd B.2.2.1 e ((bMany (upd B.1 e (bMax (B.1 (2 * e)) (B.1 ((2 * e) + 1)))) B.2.2.1 (2 * e) (bMax (B.1 (2 * e)) (B.1 ((2 * e) + 1)))) + (bMany (upd B.1 e (bMax (B.1 (2 * e)) (B.1 ((2 * e) + 1)))) B.2.2.1 ((2 * e) + 1) (bMax (B.1 (2 * e)) (B.1 ((2 * e) + 1)))))))), (a5, .inl (cI, 128, .inl B.2.2.2.1))] := hD
  refine W.eq (g2 := F0 m 66 ls [.int (bLess (upd B.1 e (bMax (B.1 (2 * e)) (B.1 ((2 * e) + 1)))) B.2.1 (bMax (B.1 (2 * e)) (B.1 ((2 * e) + 1))) (2 * e)), .int (nI e), .ref a3]) rfl ?_
  refine lv_aload_n hx hb dX0_tellAnew_66 rfl (lv_at hl 3 rfl) ?_
  refine lv_iload hx hb dX0_tellAnew_67 (lv_at hl 0 rfl) ?_
  refine lv_iload_n hx hb dX0_tellAnew_69 rfl (lv_at hl 1 rfl) ?_
  refine pq_callV (wr := []) (own := RX0) (nL := 5) (q0 := 0) (ci := 0) [0, 1, 2, 3, 4, 5, 6] [] [.int (bMax (B.1 (2 * e)) (B.1 ((2 * e) + 1))), .int (nI ((2 * e) + 1))] (mX0_greatestLessThan l D cI h a0 a1 a2 a3 a4 a5 fi la (upd B.1 e (bMax (B.1 (2 * e)) (B.1 ((2 * e) + 1))), B.2.1, upd B.2.2.1 e ((bMany (upd B.1 e (bMax (B.1 (2 * e)) (B.1 ((2 * e) + 1)))) B.2.2.1 (2 * e) (bMax (B.1 (2 * e)) (B.1 ((2 * e) + 1)))) + (bMany (upd B.1 e (bMax (B.1 (2 * e)) (B.1 ((2 * e) + 1)))) B.2.2.1 ((2 * e) + 1) (bMax (B.1 (2 * e)) (B.1 ((2 * e) + 1))))), B.2.2.2.1, B.2.2.2.2) (bMax (B.1 (2 * e)) (B.1 ((2 * e) + 1))) ((2 * e) + 1) (by omega)) ⟨hx, hb, hml, hown, hts⟩ (cwV 2 hts gX0_tellAnew_X0_greatestLessThan rfl rfl rfl (by decide +kernel) ⟨by dsimp only [pq_R]; omega, by dsimp only [pq_R]; omega⟩) pq_bl0 (fun _ _ _ => trivial) hK hP hD hS hA rfl (by decide) rfl (by decide) (by decide) rfl rfl rfl rfl hl.1 rfl (Nat.le_of_ble_eq_true rfl) dX0_tellAnew_70 ⟨by dsimp only [pq_R]; omega, by dsimp only [pq_R]; omega⟩ (fun v w1 H locs hq hP hD hS hz => ?_)
  obtain ⟨rfl, rfl⟩ := hq
  have hP : va_P D vwCl [(h, .inr (0, [.ref a0, .ref a1, .ref a2, .ref a3, .ref a4, .ref a5, .int B.2.2.2.2.1, .int B.2.2.2.2.2.1, .int B.2.2.2.2.2.2])), (a0, .inl (cI, 128, .inl fi)), (a1, .inl (cI, 128, .inl la)), (a2, .inl (cI, 128, .inl (upd B.1 e (bMax (B.1 (2 * e)) (B.1 ((2 * e) + 1)))))), (a3, .inl (cI, 128, .inl B.2.1)), (a4, .inl (cI, 128, .inl (upd B.2.2.1 e ((bMany (upd B.1 e (bMax (B.1 (2 * e)) (B.1 ((2 * e) + 1)))) B.2.2.1 (2 * e) (bMax (B.1 (2 * e)) (B.1 ((2 * e) + 1)))) + (bMany (upd B.1 e (bMax (B.1 (2 * e)) (B.1 ((2 * e) + 1)))) B.2.2.1 ((2 * e) + 1) (bMax (B.1 (2 * e)) (B.1 ((2 * e) + 1)))))))), (a5, .inl (cI, 128, .inl B.2.2.2.1))] H := hP
  have hD : va_D A [(h, .inr (0, [.ref a0, .ref a1, .ref a2, .ref a3, .ref a4, .ref a5, .int B.2.2.2.2.1, .int B.2.2.2.2.2.1, .int B.2.2.2.2.2.2])), (a0, .inl (cI, 128, .inl fi)), (a1, .inl (cI, 128, .inl la)), (a2, .inl (cI, 128, .inl (upd B.1 e (bMax (B.1 (2 * e)) (B.1 ((2 * e) + 1)))))), (a3, .inl (cI, 128, .inl B.2.1)), (a4, .inl (cI, 128, .inl (upd B.2.2.1 e ((bMany (upd B.1 e (bMax (B.1 (2 * e)) (B.1 ((2 * e) + 1)))) B.2.2.1 (2 * e) (bMax (B.1 (2 * e)) (B.1 ((2 * e) + 1)))) + (bMany (upd B.1 e (bMax (B.1 (2 * e)) (B.1 ((2 * e) + 1)))) B.2.2.1 ((2 * e) + 1) (bMax (B.1 (2 * e)) (B.1 ((2 * e) + 1)))))))), (a5, .inl (cI, 128, .inl B.2.2.2.1))] := hD
  refine W.eq (g2 := F0 m 73 ls [.int (bLess (upd B.1 e (bMax (B.1 (2 * e)) (B.1 ((2 * e) + 1)))) B.2.1 (bMax (B.1 (2 * e)) (B.1 ((2 * e) + 1))) ((2 * e) + 1)), .int (bLess (upd B.1 e (bMax (B.1 (2 * e)) (B.1 ((2 * e) + 1)))) B.2.1 (bMax (B.1 (2 * e)) (B.1 ((2 * e) + 1))) (2 * e)), .int (nI e), .ref a3]) rfl ?_
  refine va_mmax hx hb (hml.trans hl.1.symm) hown hm1_max101 hm2_max hm3 hm4_max (Nat.le_of_ble_eq_true rfl) (Nat.le_of_ble_eq_true rfl) (Nat.le_of_ble_eq_true rfl) (Nat.le_of_ble_eq_true rfl) dX0_tellAnew_73 ?_
  refine pq_top (bMax (bLess (upd B.1 e (bMax (B.1 (2 * e)) (B.1 ((2 * e) + 1)))) B.2.1 (bMax (B.1 (2 * e)) (B.1 ((2 * e) + 1))) (2 * e)) (bLess (upd B.1 e (bMax (B.1 (2 * e)) (B.1 ((2 * e) + 1)))) B.2.1 (bMax (B.1 (2 * e)) (B.1 ((2 * e) + 1))) ((2 * e) + 1))) rfl ?_
  refine pq_iast hx hb hK hP hD hS 4 0 rfl rfl e (by omega) (by decide) dX0_tellAnew_76 (fun H locs hP hD hS => ?_)
  have hP : va_P D vwCl [(h, .inr (0, [.ref a0, .ref a1, .ref a2, .ref a3, .ref a4, .ref a5, .int B.2.2.2.2.1, .int B.2.2.2.2.2.1, .int B.2.2.2.2.2.2])), (a0, .inl (cI, 128, .inl fi)), (a1, .inl (cI, 128, .inl la)), (a2, .inl (cI, 128, .inl (upd B.1 e (bMax (B.1 (2 * e)) (B.1 ((2 * e) + 1)))))), (a3, .inl (cI, 128, .inl (upd B.2.1 e (bMax (bLess (upd B.1 e (bMax (B.1 (2 * e)) (B.1 ((2 * e) + 1)))) B.2.1 (bMax (B.1 (2 * e)) (B.1 ((2 * e) + 1))) (2 * e)) (bLess (upd B.1 e (bMax (B.1 (2 * e)) (B.1 ((2 * e) + 1)))) B.2.1 (bMax (B.1 (2 * e)) (B.1 ((2 * e) + 1))) ((2 * e) + 1)))))), (a4, .inl (cI, 128, .inl (upd B.2.2.1 e ((bMany (upd B.1 e (bMax (B.1 (2 * e)) (B.1 ((2 * e) + 1)))) B.2.2.1 (2 * e) (bMax (B.1 (2 * e)) (B.1 ((2 * e) + 1)))) + (bMany (upd B.1 e (bMax (B.1 (2 * e)) (B.1 ((2 * e) + 1)))) B.2.2.1 ((2 * e) + 1) (bMax (B.1 (2 * e)) (B.1 ((2 * e) + 1)))))))), (a5, .inl (cI, 128, .inl B.2.2.2.1))] H := hP
  have hD : va_D A [(h, .inr (0, [.ref a0, .ref a1, .ref a2, .ref a3, .ref a4, .ref a5, .int B.2.2.2.2.1, .int B.2.2.2.2.2.1, .int B.2.2.2.2.2.2])), (a0, .inl (cI, 128, .inl fi)), (a1, .inl (cI, 128, .inl la)), (a2, .inl (cI, 128, .inl (upd B.1 e (bMax (B.1 (2 * e)) (B.1 ((2 * e) + 1)))))), (a3, .inl (cI, 128, .inl (upd B.2.1 e (bMax (bLess (upd B.1 e (bMax (B.1 (2 * e)) (B.1 ((2 * e) + 1)))) B.2.1 (bMax (B.1 (2 * e)) (B.1 ((2 * e) + 1))) (2 * e)) (bLess (upd B.1 e (bMax (B.1 (2 * e)) (B.1 ((2 * e) + 1)))) B.2.1 (bMax (B.1 (2 * e)) (B.1 ((2 * e) + 1))) ((2 * e) + 1)))))), (a4, .inl (cI, 128, .inl (upd B.2.2.1 e ((bMany (upd B.1 e (bMax (B.1 (2 * e)) (B.1 ((2 * e) + 1)))) B.2.2.1 (2 * e) (bMax (B.1 (2 * e)) (B.1 ((2 * e) + 1)))) + (bMany (upd B.1 e (bMax (B.1 (2 * e)) (B.1 ((2 * e) + 1)))) B.2.2.1 ((2 * e) + 1) (bMax (B.1 (2 * e)) (B.1 ((2 * e) + 1)))))))), (a5, .inl (cI, 128, .inl B.2.2.2.1))] := hD
  refine lv_aload_n hx hb dX0_tellAnew_77 rfl (lv_at hl 3 rfl) ?_
  refine va_get (D := D) (ci := 0) (v := .ref a5) (C := RX0) (T := TX0) (N := 9) hx hb hts hin_X0 hown hK hP 0 rfl rfl 5 (by decide) hf_PressedPlains_Book_27 (fun _ h9 => h9) rfl dX0_tellAnew_78 ?_
  refine lv_iload_n hx hb dX0_tellAnew_81 rfl (lv_at hl 4 rfl) ?_
  refine lv_aload_n hx hb dX0_tellAnew_82 rfl (lv_at hl 3 rfl) ?_
  refine va_get (D := D) (ci := 0) (v := .ref a5) (C := RX0) (T := TX0) (N := 9) hx hb hts hin_X0 hown hK hP 0 rfl rfl 5 (by decide) hf_PressedPlains_Book_27 (fun _ h9 => h9) rfl dX0_tellAnew_83 ?_
  refine lv_iload_n hx hb dX0_tellAnew_86 rfl (lv_at hl 2 rfl) ?_
  refine pq_iald hx hb hK hP 6 0 rfl rfl (2 * e) (by omega) (by decide) dX0_tellAnew_87 ?_
  refine lv_aload_n hx hb dX0_tellAnew_88 rfl (lv_at hl 3 rfl) ?_
  refine va_get (D := D) (ci := 0) (v := .ref a5) (C := RX0) (T := TX0) (N := 9) hx hb hts hin_X0 hown hK hP 0 rfl rfl 5 (by decide) hf_PressedPlains_Book_27 (fun _ h9 => h9) rfl dX0_tellAnew_89 ?_
  refine lv_iload_n hx hb dX0_tellAnew_92 rfl (lv_at hl 1 rfl) ?_
  refine pq_iald hx hb hK hP 6 0 rfl rfl ((2 * e) + 1) (by omega) (by decide) dX0_tellAnew_93 ?_
  refine lv_iadd hx hb dX0_tellAnew_94 ?_
  refine pq_iast hx hb hK hP hD hS 6 0 rfl rfl e (by omega) (by decide) dX0_tellAnew_95 (fun H locs hP hD hS => ?_)
  have hP : va_P D vwCl [(h, .inr (0, [.ref a0, .ref a1, .ref a2, .ref a3, .ref a4, .ref a5, .int B.2.2.2.2.1, .int B.2.2.2.2.2.1, .int B.2.2.2.2.2.2])), (a0, .inl (cI, 128, .inl fi)), (a1, .inl (cI, 128, .inl la)), (a2, .inl (cI, 128, .inl (upd B.1 e (bMax (B.1 (2 * e)) (B.1 ((2 * e) + 1)))))), (a3, .inl (cI, 128, .inl (upd B.2.1 e (bMax (bLess (upd B.1 e (bMax (B.1 (2 * e)) (B.1 ((2 * e) + 1)))) B.2.1 (bMax (B.1 (2 * e)) (B.1 ((2 * e) + 1))) (2 * e)) (bLess (upd B.1 e (bMax (B.1 (2 * e)) (B.1 ((2 * e) + 1)))) B.2.1 (bMax (B.1 (2 * e)) (B.1 ((2 * e) + 1))) ((2 * e) + 1)))))), (a4, .inl (cI, 128, .inl (upd B.2.2.1 e ((bMany (upd B.1 e (bMax (B.1 (2 * e)) (B.1 ((2 * e) + 1)))) B.2.2.1 (2 * e) (bMax (B.1 (2 * e)) (B.1 ((2 * e) + 1)))) + (bMany (upd B.1 e (bMax (B.1 (2 * e)) (B.1 ((2 * e) + 1)))) B.2.2.1 ((2 * e) + 1) (bMax (B.1 (2 * e)) (B.1 ((2 * e) + 1)))))))), (a5, .inl (cI, 128, .inl (upd B.2.2.2.1 e ((B.2.2.2.1 (2 * e)) + (B.2.2.2.1 ((2 * e) + 1))))))] H := hP
  have hD : va_D A [(h, .inr (0, [.ref a0, .ref a1, .ref a2, .ref a3, .ref a4, .ref a5, .int B.2.2.2.2.1, .int B.2.2.2.2.2.1, .int B.2.2.2.2.2.2])), (a0, .inl (cI, 128, .inl fi)), (a1, .inl (cI, 128, .inl la)), (a2, .inl (cI, 128, .inl (upd B.1 e (bMax (B.1 (2 * e)) (B.1 ((2 * e) + 1)))))), (a3, .inl (cI, 128, .inl (upd B.2.1 e (bMax (bLess (upd B.1 e (bMax (B.1 (2 * e)) (B.1 ((2 * e) + 1)))) B.2.1 (bMax (B.1 (2 * e)) (B.1 ((2 * e) + 1))) (2 * e)) (bLess (upd B.1 e (bMax (B.1 (2 * e)) (B.1 ((2 * e) + 1)))) B.2.1 (bMax (B.1 (2 * e)) (B.1 ((2 * e) + 1))) ((2 * e) + 1)))))), (a4, .inl (cI, 128, .inl (upd B.2.2.1 e ((bMany (upd B.1 e (bMax (B.1 (2 * e)) (B.1 ((2 * e) + 1)))) B.2.2.1 (2 * e) (bMax (B.1 (2 * e)) (B.1 ((2 * e) + 1)))) + (bMany (upd B.1 e (bMax (B.1 (2 * e)) (B.1 ((2 * e) + 1)))) B.2.2.1 ((2 * e) + 1) (bMax (B.1 (2 * e)) (B.1 ((2 * e) + 1)))))))), (a5, .inl (cI, 128, .inl (upd B.2.2.2.1 e ((B.2.2.2.1 (2 * e)) + (B.2.2.2.1 ((2 * e) + 1))))))] := hD
  exact pq_vret hQ hx hb hr hlocks hK hS hP hD dX0_tellAnew_96 (by omega) (by omega) (⟨rfl, rfl⟩)
end
section
section NS
variable {p : Program} {l : Launch} {e : Env} {R : Room} {s : State} {m₀ : MethodId} {args : Array Value} {below : List Frame} {meth : Method} {c : Code} {W : State} {locs : List Loc} {cells slots : Nat}
/-- the chain of constructors, its first step by entry 13 -/
theorem ns_chainS {pl : Platform} (hpl : pl.magicAccessors = ({} : Platform).magicAccessors) {top : MethodId} (htop : s.methodNamed? (Bundle.initS Bundle.tN) = some top)
    (h : ∀ w ∈ (Bundle.passSAtoms nsX "java/lang/RuntimeException" 13 prog_15_method_4_code ++ Bundle.chainSAtoms "java/lang/RuntimeException" ["java/lang/Exception"]), w.before args s = true) :
    ∃ (P1 : PassC) (Ps : List PassC), Ps.length = 2 ∧ P1.LinksS pl s ∧ (∀ P, P ∈ Ps → P.LinksS pl s) ∧ s.methodNamed? (Bundle.initS nsX) = some P1.m ∧ P1.sup = firstOf top (Ps.map (·.toPassT)) ∧ PassesOn top (Ps.map (·.toPassT)) := by
  obtain ⟨P, L, hm, hs⟩ := PassC.ofS_atoms (args := args) (s := s) hpl (X := nsX) (Y := "java/lang/RuntimeException") (by decide) (by decide) (index := 13) (bytes := prog_15_method_4_code) (by decide +kernel) (by decide +kernel) (by decide +kernel) (by decide +kernel) (fun w hw => h w (List.mem_append_left _ hw))
  obtain ⟨P', Ps, hlen, L', hL, hm', hsup, hpass⟩ := Bundle.chainS (args := args) hpl htop ["java/lang/Exception"] "java/lang/RuntimeException" (by decide) (by decide) (fun w hw => h w (List.mem_append_right _ hw))
  refine ⟨P, P' :: Ps, by rw [List.length_cons, hlen]; rfl, L, fun q hq => ?_, hm, Option.some.inj (hs.symm.trans hm'), hsup, hpass⟩
  rcases List.mem_cons.mp hq with rfl | hq
  · exact L'
  · exact hL q hq
set_option maxHeartbeats 4000000 in
set_option maxRecDepth 20000 in
/-- the constructor, walked, and the throw behind it (follows the library's Stand.ctorThrowS) -/
theorem ns_ctor (X : Stand p l e R s m₀ args below meth c W locs cells slots) (hexec : p.tables.exec = Jvm.exec) (htr : e.platform.stackTraces = false) 
    (hown : s.vm.findClass "PressedPlains" = some m₀.cls)
    (h : ∀ a ∈ nsOwn, a.before args s = true)
    (hlocs : ∀ x ∈ locs, ∀ cell, s.heap[x.base]? = some cell → cell.vm.isStatics = false)
    {a : Addr} {cX : ClassId} {kX : Class} (hfoundX : s.vm.findClass nsX = some cX) (hkX : s.vm.classes[cX]? = some kX) (hcell : W.heap[a]? = some (freshCell cX kX)) (hnew : s.heap.size ≤ a)
    {msg : Value} (hmsg : msg.isRef = true)
    {g : JFrame} (hg : g.method = m₀) (hsize : g.locals.size = c.maxLocals) (hlocked : g.locked = none) (hentered : g.entered = []) {rest : List Value} (hstack : g.stack = msg :: .ref a :: .ref a :: rest)
    (hd6 : decode c.code g.pc = .ok (.invokespecial 86, 3)) (hd9 : decode c.code (g.pc + 3) = .ok (.athrow, 1)) (hout : ∀ x ∈ c.exceptionTable.toList, covers x (g.pc + 3) = false)
    (hRframes : 5 < R.frames) (hRlocals : 2 * g.monitorRoom + ((Value.ref a :: rest).map fun v => v.category).sum + 81 ≤ R.locals) (hlocks : meth.locks = false := by first | assumption | exact BodyLoose.notSynchronized (by assumption) | exact Body.notSynchronized (by assumption)) :
    ∃ U : State, Steps p.tables e below (W.setTop g) U ∧ U.status = .running ∧ Ended U below (.threw a) ∧ s.WarmedH U.vm ∧ s.sameButNew ({ U with vm := s.vm } : State) locs cells slots ∧
      ∃ ce, U.heap[a]? = some ce ∧ s.vm.findClass nsX = some ce.cls ∧ ce.vm = .none := by
  have howns : e.platform.frameOwnsMonitors = true := by rw [X.admits.platform]
  have hfin : e.platform.finalization = false := by rw [X.admits.platform]
  have hpl : e.platform.magicAccessors = ({} : Platform).magicAccessors := by rw [X.admits.platform]
  have a' : ∀ x, x ∈ nsOwn → x.holds args s none s [] = true := fun x hx => h x hx
  obtain ⟨T, Z0, L, -, Y⟩ := ThrowableC.of_atoms (args := args) howns hfin hpl (fun x hx => h x (by simp [nsOwn, hx]))
  obtain ⟨Z, M, LZ, LM, hnZ⟩ := Init0T.ofS_atoms (args := args) hpl L Y (fun x hx => h x (by simp [nsOwn, hx]))
  obtain ⟨P1, Ps, hlen, L1, hL, hP1m, hlink1, hlink⟩ := ns_chainS (args := args) hpl hnZ (fun x hx => h x (by unfold nsOwn; exact List.mem_append_left _ (List.mem_append_right _ hx)))
  have hfound : s.vm.findClass nsX = some P1.m.cls := findClass_of_methodNamed hP1m
  cases Option.some.inj (hfoundX.symm.trans hfound)
  obtain ⟨c1, kX', hc1, hk, hord, -, -, hn6⟩ := Cond.instantiable_spec (a' (.instantiable nsX 6) (by simp [nsOwn]))
  cases Option.some.inj (hc1.symm.trans hfound)
  cases Option.some.inj (hkX.symm.trans hk)
  have hsel0 : selectMethod e.platform s.vm P1.m.cls T.fill0 = .method T.fill0 := by
    obtain ⟨c2, r2, m2, q1, q2, q3, q4, -⟩ := Cond.selects_spec (a' (.selects nsX Bundle.tFill0 Bundle.tFill0) (by simp [nsOwn]))
    cases Option.some.inj (q1.symm.trans hfound)
    cases Option.some.inj (q2.symm.trans (State.methodFound?_of_named Y.fill0 (by decide)))
    cases Option.some.inj (q3.symm.trans Y.fill0)
    rw [Launch.admits_selectMethod X.admits]; exact q4
  have hselF : selectMethod e.platform s.vm P1.m.cls T.fill = .method T.fill := by
    obtain ⟨c2, r2, m2, q1, q2, q3, q4, -⟩ := Cond.selects_spec (a' (.selects nsX Bundle.tFill Bundle.tFill) (by simp [nsOwn]))
    cases Option.some.inj (q1.symm.trans hfound)
    cases Option.some.inj (q2.symm.trans (State.methodFound?_of_named Y.fill (by decide)))
    cases Option.some.inj (q3.symm.trans Y.fill)
    rw [Launch.admits_selectMethod X.admits]; exact q4
  obtain ⟨cellS0, hcS0, hiss⟩ := Y.statics
  obtain ⟨u0, hu0⟩ := Cond.staticRefV Y.unassigned L.unassignedStatic L.statics hcS0 hiss (a' (.isRef (.static Bundle.tN "UNASSIGNED_STACK" Bundle.steD)) (by simp [nsOwn]))
  obtain ⟨sen, hsen⟩ := Cond.staticRefV Y.sentinel L.sentinelStatic L.statics hcS0 hiss (a' (.isRef (.static Bundle.tN "SUPPRESSED_SENTINEL" Bundle.listD)) (by simp [nsOwn]))
  obtain ⟨ci198, i198, fB, hk198, hg198, ha198, hsB, -, hnB, htB, hffB⟩ := Cond.ownField (t := .object "java/lang/Object") Y.found L.cls (by decide +kernel) (a' (.fieldLink Bundle.tN 198 Bundle.tN "backtrace" "Ljava/lang/Object;") (by simp [nsOwn])) (a' (.lays Bundle.tN Bundle.tN "backtrace" "Ljava/lang/Object;") (by simp [nsOwn])) e.platform hpl
  obtain ⟨cellS, hcS', heS, -, hkeep⟩ := X.same.2.2.2.2.2 T.aS cellS0 hcS0
  have hcellS : W.heap[T.aS]? = some cellS := hcS'
  have hout' : ∀ i, (⟨T.aS, i⟩ : Loc) ∉ locs := fun i hmem => by
    have := hlocs _ hmem cellS0 hcS0
    rw [hiss] at this; cases this
  have hknownS : cellS.vm ≠ .unknown := by
    rw [heS]; intro hu
    rw [show cellS0.vm = .unknown from hu] at hiss
    cases hiss
  have hneS : T.aS ≠ a := Nat.ne_of_lt (Nat.lt_of_lt_of_le (Array.getElem?_eq_some_iff.mp hcS0).1 hnew)
  obtain ⟨iM, hffM⟩ := Y.msg
  obtain ⟨tyC, dC, hdC, hdnC⟩ := Cond.laysAt hfound hk Y.cause (a' (.lays nsX Bundle.tN "cause" "Ljava/lang/Throwable;") (by simp [nsOwn]))
  obtain ⟨tyS, dS, hdS, hdnS⟩ := Cond.laysAt hfound hk Y.stack (a' (.lays nsX Bundle.tN "stackTrace" Bundle.steD) (by simp [nsOwn]))
  obtain ⟨tyP, dP, hdP, hdnP⟩ := Cond.laysAt hfound hk Y.supp (a' (.lays nsX Bundle.tN "suppressedExceptions" Bundle.listD) (by simp [nsOwn]))
  obtain ⟨tyM, dM, hdM, hdnM⟩ := Cond.laysAt hfound hk hffM (a' (.lays nsX Bundle.tN "detailMessage" "Ljava/lang/String;") (by simp [nsOwn]))
  obtain ⟨tyB, dB, hdB, hdnB⟩ := Cond.laysAt hfound hk hffB (a' (.lays nsX Bundle.tN "backtrace" "Ljava/lang/Object;") (by simp [nsOwn]))
  have bC := Cond.laysApart hdB hdC hdnB hdnC (by rw [hnB, Y.causeName]; decide)
  have bS := Cond.laysApart hdB hdS hdnB hdnS (by rw [hnB, Y.stackName]; decide)
  have bP := Cond.laysApart hdB hdP hdnB hdnP (by rw [hnB, Y.suppName]; decide)
  have hskip : SkipFacts T e.platform s (fun u => u) u0 ((preparedCellV T.toThrowableT (freshCell P1.m.cls kX) a u0 sen).withEntry W.cur) :=
    ⟨{ ci198 := ci198, i198 := i198, fBack := fB }, ⟨hk198, hg198, ha198, hsB⟩, by
      have := fresh_default (c := P1.m.cls) tyB
      rw [htB] at this
      simpa [preparedCellV, Cell.setSlot, Cell.withEntry, Array.getElem?_setIfInBounds, bC, bS, bP, bC.symm, bS.symm, bP.symm, defaultValue] using this, fun _ _ => rfl⟩
  obtain ⟨tm, methC, cdC, kC, vm₁, hnC, -, -, -, -, -, -, -, hW₁, st1⟩ := Steps.initColdS (tb := p.tables) (e := e) (below := below) (s := s) (U := W) X.here hexec X.warmed hpl hown (t := Bundle.initS nsX) rfl rfl (by decide)
    (a' (.methodLink "PressedPlains" 86 (Bundle.initS nsX)) (by simp [nsOwn])) (h (.instanceMethod (Bundle.initS nsX)) (by simp [nsOwn, Bundle.passSAtoms])) (bytes := prog_15_method_4_code) (maxL := 2) (h (.code (Bundle.initS nsX) prog_15_method_4_code 2 none) (by simp [nsOwn, Bundle.passSAtoms]))
    (f := g) hg (a := a) (msg := msg) (rest := .ref a :: rest) hstack hd6
  cases Option.some.inj (hnC.symm.trans hP1m)
  have X₁ := X.noted hW₁
  obtain ⟨vm₂, X₂, st2⟩ := X₁.ctorMessageOffV hexec (g := { g with stack := .ref a :: rest }) hg hsize T L Z LZ M LM (P1 :: Ps)
    (fun P hP => by rcases List.mem_cons.mp hP with rfl | hP; exact L1; exact hL P hP) ⟨hlink1, hlink⟩ (u0 := u0) (sen := sen) (self := a) hmsg (cell := freshCell P1.m.cls kX) (cellS := cellS)
    hcell (fun _ => by simp) (by simp) rfl rfl hsel0 hselF hcellS hneS hknownS (by rw [hkeep _ (hout' _)]; exact hu0) (by rw [hkeep _ (hout' _)]; exact hsen)
    (Takes.of_laid hk hord tyC (by rw [Y.causeType]; rfl)) (Takes.of_laid hk hord tyS (by rw [Y.stackType]; exact fits_refV_array _ u0)) (Takes.of_laid hk hord tyP (by rw [Y.suppType]; exact fits_refV_object _ sen))
    (Takes.of_laid hk hord tyM (by rw [Y.msgType]; exact fits_refV_object _ ⟨msg, hmsg⟩)) Y.objLocals hskip htr [] hd6
    (by simp only [List.length_cons, hlen]; omega) (by simp only [List.length_cons, hlen]; exact hRlocals)
  obtain ⟨hwalk, hrun, hended, hWU, hsame⟩ := X₂.athrowLeaves hexec (g := { g with stack := .ref a :: rest, pc := g.pc + 3 }) hg hlocked hentered hout (a := a) (rest := rest) rfl hd9
  obtain ⟨c3, c4, hc3, hc4, hasg⟩ := Cond.castable_spec (a' (.castable nsX nsX) (by simp [nsOwn]))
  cases Option.some.inj (hc3.symm.trans hfound)
  cases Option.some.inj (hc4.symm.trans hfound)
  have hlt : a < ((W.setVm vm₁).setVm vm₂).heap.size := (Array.getElem?_eq_some_iff.mp hcell).1
  have hU := heapAt_setCell_self (s := (W.setVm vm₁).setVm vm₂) (plainBareV T.toThrowableT (freshCell P1.m.cls kX) a u0 sen msg) hlt
  refine ⟨_, st1 _ (fun acts => ?_), hrun, hended, hWU, hsame.weaken (fun y hy hlt' => ?_) (Nat.le_refl _) (Nat.le_refl _), _, hU, ?_⟩
  · rw [doInvoke_state]
    exact st2 _ hwalk
  · rcases List.mem_append.mp hy with h1 | h1
    · exact h1
    · exfalso
      have hb : y.base = a := by
        simp only [List.mem_cons, List.not_mem_nil, or_false] at h1
        rcases h1 with rfl | rfl | rfl | rfl | rfl <;> rfl
      rw [hb] at hlt'
      exact Nat.not_lt.mpr hnew hlt'
  · exact ⟨hfound, rfl⟩
end NS
section NSthrow
variable {p : Program} {l : Launch} {e : Env} {R : Room} {s : State} {m : MethodId} {args : Array Value} {below : List Frame} {meth : Method} {c : Code} {H : Heap} {locs : List Loc} {cells slots : Nat} {Q : State → Prop}
variable {free : Addr → Prop} {ls : Array Slot} {rest : List Value} {Qc : Array Value → State → Outcome → State → Prop} {XC : String → State → State → Prop}
set_option maxHeartbeats 4000000 in
/-- 'throw new NoSuchElementException("text")' (follows vx_throwS of the kit's laws) -/
theorem ns_throwS {cc : ByteArray} {pc : Nat} (hexec : p.tables.exec = Jvm.exec) (hb : c.code = cc) (hl : l.stackTraces = false) {text : String} {ik is mc ms sa : Nat} {A : Nat → Prop}
    (hown : s.vm.findClass "PressedPlains" = some m.cls)
    (hk : (Cond.classLink "PressedPlains" ik nsX).before args s = true) (hini : (Cond.initialized nsX).before args s = true) (hstr : vk_R "PressedPlains" is text sa s) (hat : ∀ w ∈ nsAt, w.before args s = true)
    (hgood : ∀ w ∈ Cond.classLink "PressedPlains" ik nsX :: Cond.initialized nsX :: nsAt, vx_ot w = true)
    (hU : vx_Zq Bundle.tN "UNASSIGNED_STACK" Bundle.steD A s s.heap) (hN : vx_Zq Bundle.tN "SUPPRESSED_SENTINEL" Bundle.listD A s s.heap) (hS : va_S A s.heap H locs) (hsize : ls.size = c.maxLocals)
    (d0 : decode cc pc = .ok (.new ik, 3)) (d3 : decode cc (pc + 3) = .ok (.dup, 1)) (d4 : decode cc (pc + 4) = .ok (.ldc is, 2)) (d6 : decode cc (pc + 6) = .ok (.invokespecial 86, 3)) (d9 : decode cc (pc + 9) = .ok (.athrow, 1))
    (hout : ∀ x ∈ c.exceptionTable.toList, covers x (pc + 9) = false)
    (hRframes : 5 < R.frames) (hRlocals : (rest.map fun v => v.category).sum + (82) ≤ R.locals) (hRcells : cells + 1 ≤ R.cells) (hRslots : slots + 6 ≤ R.slots) (hlocks : meth.locks = false)
    (hx : ∀ t : State, s.vm.Alike t.vm → H.size ≤ t.heap.size → (∀ q : Nat, q < H.size → t.heap[q]? = H[q]?) → XC nsX s t)
    (hf : ∀ z ∈ locs, free z.base) (hc : cells + 1 ≤ mc) (hs : slots + 6 ≤ ms) :
    W p l e R s m args below meth c H locs cells slots (vx_MQ below Qc XC args s mc ms free) (F0 m pc ls rest) := by
  intro T hT X
  have htr : e.platform.stackTraces = false := (show e.platform.stackTraces = l.stackTraces by rw [X.admits.platform]).trans hl
  have Y := vx_rebase X (R' := { frames := R.frames, locals := R.locals, cells := 1, slots := 6 }) (Nat.le_refl _) (Nat.le_refl _) hRcells hRslots
  obtain ⟨s', hA⟩ : ∃ z, z = (T.setVm s.vm).setFrames (.invoking m args :: below) := ⟨_, rfl⟩
  rw [← hA] at Y
  have hvm : s'.vm = s.vm := by rw [hA]; rfl
  have hhp : s'.heap = H := by rw [hA]; exact hT
  have hW0 : s.WarmedH s'.vm := by rw [hvm]; exact State.WarmedH.refl s
  have hat' : ∀ w ∈ nsAt, w.before args s' = true := fun w hw => vx_ot_at hW0 hvm.symm (hgood w (List.mem_cons_of_mem _ (List.mem_cons_of_mem _ hw))) (hat w hw)
  have hk' : (Cond.classLink "PressedPlains" ik nsX).before args s' = true := vx_ot_at hW0 hvm.symm (hgood _ List.mem_cons_self) hk
  have hini' : (Cond.initialized nsX).before args s' = true := vx_ot_at hW0 hvm.symm (hgood _ (List.mem_cons_of_mem _ List.mem_cons_self)) hini
  have hU' : vx_Zq Bundle.tN "UNASSIGNED_STACK" Bundle.steD A s' s'.heap := by rw [hhp]; exact vx_Zq.moved hW0.alike (hU.kept hS.2.1)
  have hN' : vx_Zq Bundle.tN "SUPPRESSED_SENTINEL" Bundle.listD A s' s'.heap := by rw [hhp]; exact vx_Zq.moved hW0.alike (hN.kept hS.2.1)
  have h : ∀ w ∈ nsOwn, w.before args s' = true := vx_own hat' (vx_isRefq hU'.1) (vx_isRefq hN'.1) hU'.2.word hN'.2.word
  have hown' : s'.vm.findClass "PressedPlains" = some m.cls := by rw [hvm]; exact hown
  have hins : (Cond.instantiable nsX 6).before args s' = true := h _ (by simp [nsOwn])
  obtain ⟨vm₁, cX, kX, hfX, hkX, -, -, X₁, st1⟩ := Y.newCold hexec (own := "PressedPlains") (C := nsX) (index := ik) (n := 6) hown' hk' hins hini'
    (g := F0 m pc ls rest) rfl (by rw [hb]; exact d0) (Nat.le_refl _) (Nat.le_refl _)
  generalize hT1 : (T.setVm vm₁).pushCell { cls := cX, slots := kX.instanceTypes.map defaultValue, vm := .none } = T1 at X₁ st1
  have hcat : (Value.ref T.heap.size).category = 1 := rfl
  have hcellA : T1.heap[T.heap.size]? = some (freshCell cX kX) := by rw [← hT1]; exact State.heap_pushCell_size _ _
  have d3' : decode c.code (pc + 3) = .ok (.dup, 1) := by rw [hb]; exact d3
  have d4' : decode c.code (pc + 4) = .ok (.ldc is, 2) := by rw [hb]; exact d4
  have hstr' : vk_R "PressedPlains" is text sa s' := vk_R.warm hW0 hstr
  obtain ⟨U, hsteps, hrun, hend, hW, hsame, ce, hce, hO⟩ := ns_ctor X₁ hexec htr hown' h (fun x hx => nomatch hx) hfX hkX hcellA (by rw [hhp, hT]; exact Nat.le_refl _) (msg := .ref sa) rfl
    (g := { method := m, pc := pc + 6, locals := ls, stack := .ref sa :: .ref T.heap.size :: .ref T.heap.size :: rest, locked := none }) rfl hsize rfl rfl (rest := rest) rfl
    (by rw [hb]; exact d6) (by rw [hb]; exact d9) hout hRframes (by simp only [List.map_cons, List.sum_cons, hcat]; omega) hlocks
  obtain ⟨f1, f2⟩ := vx_frame hsame
  rw [hhp] at f1 f2
  have hWs : s.WarmedH U.vm := State.WarmedH.trans hW0 hW
  have hcl : s.vm.findClass nsX = some ce.cls := by
    have h9 := hO.1
    rw [hvm] at h9
    exact h9
  have hall : s.sameButNew ({ U with vm := s.vm } : State) locs mc ms := by
    subst hA
    obtain ⟨e1, e2⟩ := hsame
    rw [State.setFrames_setFrames] at e1
    have h2 : (T.setVm s.vm).sameButNew ({ U with vm := s.vm } : State) [] (0 + 1) (0 + 6) := ⟨e1, e2⟩
    have h3 := X.same.trans h2
    rw [List.append_nil] at h3
    exact h3.mono hc hs
  refine ⟨U, ?_, .threw T.heap.size, hrun, hend, Or.inr ⟨T.heap.size, rfl, nsX, ce, locs, hx U hWs.alike f1 (fun q hq => f2 q hq (fun z hz => nomatch hz)), hce, hO.2, hcl, hWs, hall, hf⟩⟩
  refine st1 _ ?_
  show Steps p.tables e below (T1.setTop { method := m, pc := pc + 3, locals := ls, stack := .ref T.heap.size :: rest, locked := none }) _
  jvm_step X₁.here [X₁.here.top, hexec, d3', Value.category]
  exact X₁.ldcString hexec (own := "PressedPlains") (text := text) (index := is) (a := sa) hown' hstr'.1 hstr'.2
    (g := { method := m, pc := pc + 4, locals := ls, stack := .ref T.heap.size :: .ref T.heap.size :: rest, locked := none }) rfl d4' _ hsteps
end NSthrow
end
section
theorem zz_last : True := trivial
end
